/-! the model reads statements -/
theorem pd_fk {T : List Int} {g : Bool} : ∀ (f w o s : Nat) (e : Int × Int), pd T g f w o s = some (.inl e) → 0 < e.1 ∧ e.1 < 9
  | 0, w, o, s, e, h => by simp [pd] at h
  | f + 1, w, o, s, e, h => by
    have ih := pd_fk (T := T) (g := g) f
    have er1 : ∀ {k p : Int}, 0 < k ∧ k < 9 → er k p = some (.inl e) → 0 < e.1 ∧ e.1 < 9 := fun hk he => by
      have := (er_x he)
      simp only [Sum.inl.injEq] at this
      rw [this]
      exact hk
    have tk : ∀ {c : Int} {s : Nat} {k : Nat → PR}, tks T c s k = some (.inl e) → (k (nx T s) = some (.inl e) → 0 < e.1 ∧ e.1 < 9) → 0 < e.1 ∧ e.1 < 9 := fun {c s k} he hk => by
      unfold tks at he
      split at he
      · exact hk he
      · exact er1 (by decide) he
    have op : ∀ {o s : Nat} {k : Nat → PR}, opn T o s k = some (.inl e) → (k (nx T s) = some (.inl e) → 0 < e.1 ∧ e.1 < 9) → 0 < e.1 ∧ e.1 < 9 := fun {o s k} he hk => by
      unfold opn at he
      split at he
      · exact er1 (by decide) he
      · exact hk he
    have bb : ∀ {w o s : Nat} {k : Nat → PR}, bn (pd T g f w o s) k = some (.inl e) → (∀ s1, k s1 = some (.inl e) → 0 < e.1 ∧ e.1 < 9) → 0 < e.1 ∧ e.1 < 9 := fun {w o s k} he hk => by
      rcases bn_f he with a | ⟨c1, s1, a, b⟩
      · exact ih _ _ _ _ a
      · exact hk s1 b
    have emn : ∀ {c : Int} {s : Nat}, em c s = some (.inl e) → 0 < e.1 ∧ e.1 < 9 := fun he => by simp at he
    have okn : ∀ {s : Nat}, ok1 s = some (.inl e) → 0 < e.1 ∧ e.1 < 9 := fun he => by simp at he
    rcases pd_w h with rfl | rfl | rfl | rfl | rfl | rfl | rfl | rfl | rfl | rfl <;> simp only [pd] at h
    · exact bb h fun s1 a => ih _ _ _ _ a
    · exact bb h fun s1 a => ih _ _ _ _ a
    · split at h
      · exact op h fun a => bb a fun s1 c => emn c
      · split at h
        · exact op h fun a => bb a fun s1 c => tk c okn
        · split at h
          · exact emn h
          · refine bb h fun s1 a => ?_
            split at a
            · exact er1 (by decide) a
            · exact bb a fun s2 c => emn c
    · exact bb h fun s1 a => ih _ _ _ _ a
    · exact bb h fun s1 a => ih _ _ _ _ a
    · split at h
      · exact emn h
      · split at h
        · exact op h fun a => bb a fun s1 c => tk c okn
        · split at h
          · exact emn h
          · split at h
            · split at h
              · exact op h fun a => bb a fun s1 c => tk c fun d => bb d fun s2 c2 => tk c2 emn
              · exact er1 (by decide) h
            · split at h
              · split at h
                · exact op h fun a => bb a fun s1 c => tk c fun d => bb d fun s2 c2 => tk c2 fun d2 => bb d2 fun s3 c3 => tk c3 emn
                · exact er1 (by decide) h
              · exact er1 (by decide) h
    · split at h
      · exact bb h fun s1 a => ih _ _ _ _ (pre_f a)
      · exact okn h
    · split at h
      · exact bb h fun s1 a => ih _ _ _ _ (pre_f a)
      · exact okn h
    · split at h
      · exact bb h fun s1 a => ih _ _ _ _ (pre_f a)
      · exact okn h
    · split at h
      · exact bb h fun s1 a => ih _ _ _ _ (pre_f a)
      · exact okn h
def YE (M : Mem) (b : Int) (e : Int × Int) : Prop := FY M e ∧ (0 < e.1 ∧ e.1 < 9) ∧ inI (M 199 12) ∧ M 199 34 = b
def okT (Q : Mem → Prop) (M : Mem) (T : List Int) (b : Int) : SR → Prop
  | .inl e => ∀ M', YE M' b e → oW b M M' → Q M'
  | .inr (D, s) => (∀ M', YD M' T b s D → oW b M M' → Q M') ∧ (bd T s ≠ -1 → ∀ M', YE M' b (1, wr T s) → oW b M M' → Q M')
theorem YX.e {M : Mem} {T : List Int} {b : Int} {D : TD} {x : Int × Int} (h : YX M T b D x) (hT : TB T) : YE M b x := by
  obtain ⟨h1, h2, ⟨s, h3⟩, h4⟩ := h
  exact ⟨h1, h2, h3.i12 hT, h4.2.1⟩
section
variable {M : Mem} {T : List Int} {b : Int} {s : Nat} {D : TD} {Q : Mem → Prop}
theorem okT_f {r : SR} (hT : TB T) (h : okT Q M T b r) {M' : Mem} (o : oW b M M') : ∀ e, r = .inl e → ∀ M2, YX M2 T b D e → oW b M' M2 → Q M2 := fun e he M2 y2 o2 => by
  subst he
  exact h M2 (y2.e hT) (o.tr o2)
theorem y_placing {r : SR} (hT : TB T) (hx : YD M T b s D) (hD : DOK D s) (hw : tw T s = 0) (hr : stP T D s = r) (h : okT Q M T b r) : m_X12_placing M Q := by
  have sl := hx.1.2.1
  have n0 := nx_rng sl
  have k1 := hD.1
  have hb := hx.2.2.1
  unfold stP at hr
  rw [if_pos hw] at hr
  unfold m_X12_placing m_X12_placing_J20 m_X12_placing_J73
  rw [hx.2.2.2.1, hx.2.2.2.2.2.1]
  have go : ∀ c : Int, (c = 1 ∧ (dNa D).length = 7) ∨ (c = 0 ∧ (dNa D).length ≠ 7) → m_X12_counts c M (fun r2 M1 => (inI r2) ∧ ((r2 = 0 → Q M1) ∧ (¬ r2 = 0 → ((0 : Int) ≤ M1 199 34 ∧ M1 199 34 < 2) ∧ m_X12_fresh M1 (fun r6 M5 => ((0 : Int) ≤ (7 * (M1 199 34)) + (M1 201 (M1 199 34)) ∧ (7 * (M1 199 34)) + (M1 201 (M1 199 34)) < 14) ∧ ∀ M8 : Mem, M8 = up M5 218 ((7 * (M1 199 34)) + (M1 201 (M1 199 34))) r6 → (inI (M8 199 8)) ∧ ((M8 199 8 = 0 → ((0 : Int) ≤ M8 199 34 ∧ M8 199 34 < 2) ∧ ((0 : Int) ≤ M8 199 34 ∧ M8 199 34 < 2) ∧ ∀ M12 : Mem, M12 = up M8 201 (M8 199 34) ((M8 201 (M8 199 34)) + 1) → Q M12) ∧ (¬ M8 199 8 = 0 → Q M8)))))) := fun c hc => by
    refine y_counts hT (by omega) hx (by omega) (fun q M1 y1 o1 => ?_) (fun q M1 y1 i1 o1 => ?_)
    · unfold mst at hr
      rw [if_pos (by omega)] at hr
      subst hr
      exact h M1 (y1.e hT) o1
    · unfold mst at hr
      rw [if_neg (by omega)] at hr
      rw [y1.2.2.2.1, y1.2.2.2.2.2.1]
      have n7 : (dNa D).length < 7 := by omega
      refine ⟨by omega, y_fresh hT y1 (hD.mono n0.1) hr (fun e he v M5 y5 o5 => ⟨by omega, fun M8 e8 => ?_⟩) (fun hk ok M5 y5 c5 o5 => ⟨by omega, fun M8 e8 => ?_⟩)⟩
      · have y8 := y5.past e8 (by omega)
        exact ⟨y8.n8.1, fun z => absurd z y8.n8.2.2, fun _ => okT_f hT h o1 e he M8 y8 (o5.tr (oW.row e8 (by decide) (by simp [szY]; omega)))⟩
      · subst hk
        have y8 := y5.row e8 (by omega)
        have o8 : oW b M M8 := (o1.tr o5).tr (oW.row e8 (by decide) (by simp [szY]; omega))
        rw [y8.2.1, y8.2.2.2.1, y8.2.2.2.2.2.1]
        refine ⟨by decide, fun _ => ⟨by omega, by omega, fun M12 e12 => ?_⟩, fun z => absurd rfl z⟩
        obtain ⟨a1, a2, a3, a4, a5, a6, a7, a8, a9, a10, a11, a12, a13, a14, a15⟩ := y8.2.2
        have z : ∀ c, c ≠ 201 → M12 c = M8 c := fun c hc => by rw [e12, up_ne _ hc]
        have la : (dNa D ++ [nm T (nx T s)]).length = (dNa D).length + 1 := by rw [List.length_append, List.length_singleton]
        refine h.1 M12 ⟨y8.1.row e12 (by decide), by rw [z 199 (by decide), y8.2.1], a1, by rw [z 199 (by decide), a2], by rw [z 199 (by decide)]; exact a3, ?_, by rw [z 205 (by decide)]; exact a5, by rw [z 202 (by decide)]; exact a6, by rw [z 208 (by decide)]; exact a7, by rw [z 213 (by decide)]; exact a8, by rw [z 209 (by decide)]; exact a9, fun i hi => ?_, ?_, fun i j hi hj => ?_, ?_, ?_, ?_⟩ (o8.tr (oW.row e12 (by decide) (by simp [szY]; omega)))
        · rw [e12, up_get, if_pos ⟨rfl, rfl⟩]
          show _ = (((dNa D ++ [nm T (nx T s)]).length : Nat) : Int)
          rw [la]
          rfl
        · have hi : i < (dNa D ++ [nm T (nx T s)]).length := hi
          show M12 218 (7 * b + i) = pkY ((dNa D ++ [nm T (nx T s)]).getD i [])
          rw [la] at hi
          rw [z 218 (by decide), getD_app]
          by_cases c : i = (dNa D).length
          · rw [if_neg (by omega), if_pos c, e8, up_get, if_pos ⟨rfl, by omega⟩]
          · rw [if_pos (by omega), a10 i (by omega)]
        · rw [z 219 (by decide), z 206 (by decide), z 207 (by decide)]
          exact a11
        · have := a12 i j hi hj
          show (M12 203 _ = 0 ∨ M12 203 _ = 1) ∧ (i < (dNa D ++ [nm T (nx T s)]).length → ((if (i : Int) = ((dNa D).length : Nat) then decide ((j : Int) = i) else dRe D i j) = true ↔ j = i ∨ M12 203 _ = 1)) ∧ ((dNa D ++ [nm T (nx T s)]).length ≤ i → M12 203 _ = 0)
          rw [z 203 (by decide), la]
          refine ⟨this.1, fun hi2 => ?_, fun hi2 => this.2.2 (by omega)⟩
          by_cases c : (i : Int) = ((dNa D).length : Nat)
          · rw [if_pos c, this.2.2 (by omega)]
            simp
            omega
          · rw [if_neg c]
            exact this.2.1 (by omega)
        · rw [z 210 (by decide), z 211 (by decide), z 212 (by decide)]
          exact a13
        · unfold fmY at *
          rw [z 214 (by decide), z 215 (by decide), z 216 (by decide), z 217 (by decide), z 199 (by decide)]
          exact a14
        · unfold fmY at *
          rw [z 214 (by decide), z 215 (by decide), z 216 (by decide), z 217 (by decide), z 199 (by decide)]
          exact a15
  exact ⟨by omega, by omega, fun q => go 1 (by omega), fun q => go 0 (by omega)⟩
/-- the words of the bank themselves -/
theorem DY.word {M' : Mem} {D' : TD} {a v : Int} (hx : DY M b D) (e : M' = up M a b v) (ha : a = 208 ∨ a = 213) (h8 : (dWa D' : Int) = if a = 208 then v else dWa D) (h13 : dRa D' = if a = 213 then v else dRa D) (e1 : dNa D' = dNa D) (e2 : dNb D' = dNb D) (e3 : dRe D' = dRe D) (e4 : dRo D' = dRo D) (e5 : dHo D' = dHo D) (e6 : dKi D' = dKi D) (e7 : dFr D' = dFr D) (e8 : dSt D' = dSt D) (e9 : dGo D' = dGo D) : DY M' b D' := by
  obtain ⟨a1, a2, a3, a4, a5, a6, a7, a8, a9, a10, a11, a12, a13, a14, a15⟩ := hx
  have z : ∀ c, c ≠ a → M' c = M c := fun c p => by rw [e, up_ne _ p]
  unfold DY
  rw [e1, e2, e3, e4, e5, e6, e7, e8, e9]
  refine ⟨a1, by rw [z 199 (by omega), a2], by rw [z 199 (by omega), a3], by rw [z 201 (by omega), a4], by rw [z 205 (by omega), a5], by rw [z 202 (by omega), a6], ?_, ?_, by rw [z 209 (by omega), a9], by rw [z 218 (by omega)]; exact a10, by rw [z 219 (by omega), z 206 (by omega), z 207 (by omega)]; exact a11, by rw [z 203 (by omega)]; exact a12, by rw [z 210 (by omega), z 211 (by omega), z 212 (by omega)]; exact a13, ?_, ?_⟩
  · rw [h8, e, up_get]
    rcases ha with rfl | rfl
    · rw [if_pos ⟨rfl, rfl⟩, if_pos rfl]
    · rw [if_neg (by omega), if_neg (by omega), a7]
  · rw [h13, e, up_get]
    rcases ha with rfl | rfl
    · rw [if_neg (by omega), if_neg (by omega), a8]
    · rw [if_pos ⟨rfl, rfl⟩, if_pos rfl]
  · unfold fmY at *
    rw [z 214 (by omega), z 215 (by omega), z 216 (by omega), z 217 (by omega), z 199 (by omega)]
    exact a14
  · unfold fmY at *
    rw [z 214 (by omega), z 215 (by omega), z 216 (by omega), z 217 (by omega), z 199 (by omega)]
    exact a15
theorem y_watching {r : SR} (hT : TB T) (hx : YD M T b s D) (hD : DOK D s) (hw : tw T s = 6) (hr : stP T D s = r) (h : okT Q M T b r) : m_X12_watching M Q := by
  have sl := hx.1.2.1
  have n0 := nx_rng sl
  have hb := hx.2.2.1
  have w64 := hD.wa
  have d2 := hD.2.1
  unfold stP at hr
  rw [if_neg (by omega), if_neg (by omega), if_neg (by omega), if_pos hw] at hr
  unfold m_X12_watching m_X12_watching_J46
  refine y_counts hT (by decide) hx (by omega) (fun q => absurd q (by decide)) (fun q M1 y1 i1 o1 => ?_)
  have n1 := nx_rng n0.2.1
  rw [y1.2.2.2.1, y1.2.2.2.2.2.2.2.2.1]
  refine ⟨by omega, y_known (l := dNb D) hT y1 (hD.mono n0.1) (Or.inr ⟨rfl, rfl⟩) (by omega) (fun q M5 y5 o5 => ?_) (fun q q2 M5 y5 o5 => ?_) (fun q q2 q3 M5 y5 c5 o5 => ?_)⟩
  · rw [if_pos q] at hr
    exact ⟨y5.n8.1, fun z => absurd z y5.n8.2.2, fun _ => okT_f hT h o1 _ hr.symm M5 y5 o5⟩
  · rw [if_neg (by omega), if_pos q2] at hr
    exact ⟨y5.n8.1, fun z => absurd z y5.n8.2.2, fun _ => okT_f hT h o1 _ hr.symm M5 y5 o5⟩
  · rw [if_neg (by omega), if_neg (by intro z; rcases z with z | z <;> contradiction)] at hr
    subst hr
    have r1 := nix_rng (l := dNb D) (n := nm T (nx T s)) (k := 0)
    rw [y5.2.1, y5.2.2.2.1, y5.2.2.2.2.2.2.2.2.1]
    refine ⟨by decide, fun _ => ⟨by omega, by omega, fun M10 e10 => ?_⟩, fun z => absurd rfl z⟩
    have p6 : 2 ^ (nix (dNb D) (nm T (nx T s)) 0).toNat ≤ 2 ^ 6 := Nat.pow_le_pow_right (by decide) (by omega)
    rw [z_shl1 (by omega), z_or (by omega) (by omega)] at e10
    have dy := y5.2.2.word (D' := (dNa D, dNb D, dRe D, dRo D, dHo D, dKi D, dWa D ||| 2 ^ (nix (dNb D) (nm T (nx T s)) 0).toNat, D.2.2.2.2.2.2.2)) e10 (Or.inl rfl) (by rw [if_pos rfl]) (by rw [if_neg (by decide)]) rfl rfl rfl rfl rfl rfl rfl rfl rfl
    exact h.1 M10 ⟨y5.1.row e10 (by decide), by rw [e10, up_ne _ (by decide), y5.2.1], dy⟩ ((o1.tr o5).tr (oW.row e10 (by decide) (by simp [szY]; omega)))
theorem y_raining {r : SR} (hT : TB T) (hx : YD M T b s D) (hw : tw T s = 10) (hr : stP T D s = r) (h : okT Q M T b r) : m_X12_raining M Q := by
  have hb := hx.2.2.1
  unfold stP at hr
  rw [if_neg (by omega), if_neg (by omega), if_neg (by omega), if_neg (by omega), if_neg (by omega), if_neg (by omega), if_neg (by omega), if_pos hw] at hr
  unfold m_X12_raining m_X12_raining_J34
  refine y_counts hT (by decide) hx (by omega) (fun q => absurd q (by decide)) (fun q M1 y1 i1 o1 => ?_)
  refine y_number hT y1 (by decide) hr (fun e he v M4 y4 _ o4 => ?_) (fun hk q1 q2 M4 y4 c4 o4 => ?_)
  · exact ⟨y4.n8.1, fun z => absurd z y4.n8.2.2, fun _ => okT_f hT h o1 _ he M4 y4 o4⟩
  · subst hk
    rw [y4.2.1, y4.2.2.2.1]
    refine ⟨by decide, fun _ => ⟨by omega, fun M8 e8 => ?_⟩, fun z => absurd rfl z⟩
    have dy := y4.2.2.word (D' := (dNa D, dNb D, dRe D, dRo D, dHo D, dKi D, dWa D, dFr D, tn T (nx T s), dSt D, dGo D)) e8 (Or.inr rfl) (by rw [if_neg (by decide)]) (by rw [if_pos rfl]) rfl rfl rfl rfl rfl rfl rfl rfl rfl
    exact h.1 M8 ⟨y4.1.row e8 (by decide), by rw [e8, up_ne _ (by decide), y4.2.1], dy⟩ ((o1.tr o4).tr (oW.row e8 (by decide) (by simp [szY]; omega)))
theorem y_personing {r : SR} (hT : TB T) (hx : YD M T b s D) (hD : DOK D s) (hw : tw T s = 3) (hr : stP T D s = r) (h : okT Q M T b r) : m_X12_personing M Q := by
  have sl := hx.1.2.1
  have n0 := nx_rng sl
  have k2 := hD.2.1
  have hb := hx.2.2.1
  unfold stP at hr
  rw [if_neg (by omega), if_neg (by omega), if_pos hw] at hr
  unfold m_X12_personing m_X12_personing_J20 m_X12_personing_J114
  rw [hx.2.2.2.1, hx.2.2.2.2.2.2.1]
  have go : ∀ c : Int, (c = 1 ∧ (dNb D).length = 6) ∨ (c = 0 ∧ (dNb D).length ≠ 6) → m_X12_counts c M (fun r2 M1 =>
    (inI r2) ∧ ((r2 = 0 →
      Q M1) ∧ (¬ r2 = 0 →
      ((0 : Int) ≤ M1 199 34 ∧ M1 199 34 < 2) ∧ ∀ x5 : Int, x5 = (6 * (M1 199 34)) + (M1 205 (M1 199 34)) → m_X12_fresh  M1 (fun r7 M6 =>
        ((0 : Int) ≤ x5 ∧ x5 < 12) ∧ ∀ M9 : Mem, M9 = up M6 219 x5 r7 → m_X12_must_ 24948 M9 (fun M10 =>
          m_X12_knownBut 0 0 M10 (fun r12 M11 =>
            ((0 : Int) ≤ x5 ∧ x5 < 12) ∧ ∀ M14 : Mem, M14 = up M11 206 x5 r12 → m_X12_must_ 1802071652 M14 (fun M15 =>
              m_X12_number 0 9 M15 (fun r17 M16 =>
                ((0 : Int) ≤ x5 ∧ x5 < 12) ∧ ∀ M19 : Mem, M19 = up M16 207 x5 r17 → (inI (M19 199 8)) ∧ ((M19 199 8 = 0 →
                  ((0 : Int) ≤ M19 199 34 ∧ M19 199 34 < 2) ∧ ((0 : Int) ≤ M19 199 34 ∧ M19 199 34 < 2) ∧ ∀ M23 : Mem, M23 = up M19 205 (M19 199 34) ((M19 205 (M19 199 34)) + 1) → Q  M23) ∧ (¬ M19 199 8 = 0 →
                  Q  M19)))))))))) := fun c hc => by
    refine y_counts hT (by omega) hx (by omega) (fun q M1 y1 o1 => ?_) (fun q M1 y1 i1 o1 => ?_)
    · unfold mst at hr
      rw [if_pos (by omega)] at hr
      subst hr
      exact h M1 (y1.e hT) o1
    · unfold mst at hr
      rw [if_neg (by omega)] at hr
      have n6 : (dNb D).length < 6 := by omega
      rw [y1.2.2.2.1, y1.2.2.2.2.2.2.1]
      refine ⟨by omega, fun x5 ex => ?_⟩
      have rx : (0 : Int) ≤ x5 ∧ x5 < 12 := by omega
      have sz : ∀ a, a = 206 ∨ a = 207 ∨ a = 219 → szY a * b ≤ x5 ∧ x5 < szY a * b + szY a := fun a ha => by rcases ha with rfl | rfl | rfl <;> simp [szY] <;> omega
      -- at fault already
      have g19 : ∀ M16 r17 e, r = .inl e → YX M16 T b D e → oW b M M16 → ((0 : Int) ≤ x5 ∧ x5 < 12) ∧ ∀ M19 : Mem, M19 = up M16 207 x5 r17 → (inI (M19 199 8)) ∧ ((M19 199 8 = 0 → ((0 : Int) ≤ M19 199 34 ∧ M19 199 34 < 2) ∧ ((0 : Int) ≤ M19 199 34 ∧ M19 199 34 < 2) ∧ ∀ M23 : Mem, M23 = up M19 205 (M19 199 34) ((M19 205 (M19 199 34)) + 1) → Q  M23) ∧ (¬ M19 199 8 = 0 → Q  M19)) := fun M16 r17 e he y16 o16 => by
        refine ⟨rx, fun M19 e19 => ?_⟩
        have y19 := y16.past e19 (by omega)
        exact ⟨y19.n8.1, fun z => absurd z y19.n8.2.2, fun _ => okT_f hT h o16 e he M19 y19 (oW.row e19 (by decide) (sz 207 (by decide)))⟩
      have g15 : ∀ M15 e, r = .inl e → YX M15 T b D e → oW b M M15 → m_X12_number 0 9 M15 (fun r17 M16 => ((0 : Int) ≤ x5 ∧ x5 < 12) ∧ ∀ M19 : Mem, M19 = up M16 207 x5 r17 → (inI (M19 199 8)) ∧ ((M19 199 8 = 0 → ((0 : Int) ≤ M19 199 34 ∧ M19 199 34 < 2) ∧ ((0 : Int) ≤ M19 199 34 ∧ M19 199 34 < 2) ∧ ∀ M23 : Mem, M23 = up M19 205 (M19 199 34) ((M19 205 (M19 199 34)) + 1) → Q  M23) ∧ (¬ M19 199 8 = 0 → Q  M19))) := fun M15 e he y15 o15 => f_number hT y15 (g19 M15 0 e he y15 o15)
      have g11 : ∀ M11 e, r = .inl e → YX M11 T b D e → oW b M M11 → ((0 : Int) ≤ x5 ∧ x5 < 12) ∧ ∀ M14 : Mem, M14 = up M11 206 x5 0 → m_X12_must_ 1802071652 M14 (fun M15 => m_X12_number 0 9 M15 (fun r17 M16 => ((0 : Int) ≤ x5 ∧ x5 < 12) ∧ ∀ M19 : Mem, M19 = up M16 207 x5 r17 → (inI (M19 199 8)) ∧ ((M19 199 8 = 0 → ((0 : Int) ≤ M19 199 34 ∧ M19 199 34 < 2) ∧ ((0 : Int) ≤ M19 199 34 ∧ M19 199 34 < 2) ∧ ∀ M23 : Mem, M23 = up M19 205 (M19 199 34) ((M19 205 (M19 199 34)) + 1) → Q  M23) ∧ (¬ M19 199 8 = 0 → Q  M19)))) := fun M11 e he y11 o11 => by
        refine ⟨rx, fun M14 e14 => ?_⟩
        have y14 := y11.past e14 (by omega)
        exact f_must hT y14 (g15 M14 e he y14 (o11.tr (oW.row e14 (by decide) (sz 206 (by decide)))))
      refine y_fresh hT y1 (hD.mono n0.1) hr (fun e he v M6 y6 o6 => ⟨rx, fun M9 e9 => ?_⟩) (fun hk ok M6 y6 c6 o6 => ⟨rx, fun M9 e9 => ?_⟩)
      · have y9 := y6.past e9 (by omega)
        have o9 : oW b M M9 := (o1.tr o6).tr (oW.row e9 (by decide) (sz 219 (by decide)))
        exact f_must hT y9 (f_knownBut hT y9 (g11 M9 e he y9 o9))
      · have y9 := y6.row e9 (by omega)
        have o9 : oW b M M9 := (o1.tr o6).tr (oW.row e9 (by decide) (sz 219 (by decide)))
        have n1 := nx_rng n0.2.1
        have v9 : M9 219 x5 = pkY (nm T (nx T s)) := by rw [e9, up_get, if_pos ⟨rfl, rfl⟩]
        refine y_tkO 4 (by decide) rfl hT y9 hk (fun e he M10 y10 o10 => f_knownBut hT y10 (g11 M10 e he y10 (o9.tr o10))) (fun hk M10 y10 c10 o10 => ?_)
        have n2 := nx_rng n1.2.1
        have r1 := nix_rng (l := dNa D) (n := nm T (nx T (nx T (nx T s)))) (k := 0)
        have d1 := hD.1
        unfold pN at hk
        refine y_known (l := dNa D) (but := 0) hT y10 (hD.mono (by omega)) (Or.inl ⟨rfl, rfl⟩) (by decide) (fun q M11 y11 o11 => ?_) (fun q q2 M11 y11 o11 => ?_) (fun q q2 q3 M11 y11 c11 o11 => ⟨rx, fun M14 e14 => ?_⟩)
        · rw [if_pos q] at hk
          exact g11 M11 _ hk.symm y11 ((o9.tr o10).tr o11)
        · rw [if_neg (by omega), if_pos (by rcases q2 with z | z; exact z; simp at z)] at hk
          exact g11 M11 _ hk.symm y11 ((o9.tr o10).tr o11)
        · rw [if_neg (by omega), if_neg q2] at hk
          have y14 := y11.row e14 (by omega)
          have o14 : oW b M M14 := ((o9.tr o10).tr o11).tr (oW.row e14 (by decide) (sz 206 (by decide)))
          have n3 := nx_rng n2.2.1
          refine y_tkO 5 (by decide) rfl hT y14 hk (fun e he M15 y15 o15 => g15 M15 e he y15 (o14.tr o15)) (fun hk M15 y15 c15 o15 => ?_)
          have n4 := nx_rng n3.2.1
          refine y_number hT y15 (by decide) hk (fun e he v M16 y16 _ o16 => g19 M16 v e he y16 ((o14.tr o15).tr o16)) (fun hk q4 q5 M16 y16 c16 o16 => ⟨rx, fun M19 e19 => ?_⟩)
          subst hk
          have y19 := y16.row e19 (by omega)
          have o19 : oW b M M19 := ((o14.tr o15).tr o16).tr (oW.row e19 (by decide) (sz 207 (by decide)))
          rw [y19.2.1, y19.2.2.2.1, y19.2.2.2.2.2.2.1]
          refine ⟨by decide, fun _ => ⟨by omega, by omega, fun M23 e23 => ?_⟩, fun z => absurd rfl z⟩
          obtain ⟨a1, a2, a3, a4, a5, a6, a7, a8, a9, a10, a11, a12, a13, a14, a15⟩ := y19.2.2
          have z : ∀ c, c ≠ 205 → M23 c = M19 c := fun c hc => by rw [e23, up_ne _ hc]
          have la : (dNb D ++ [nm T (nx T s)]).length = (dNb D).length + 1 := by rw [List.length_append, List.length_singleton]
          have p9 : M19 219 x5 = pkY (nm T (nx T s)) := by
            rw [e19, up_ne _ (by decide), c16 219 (by decide), c15 219 (by decide), e14, up_ne _ (by decide), c11 219 (by decide), c10 219 (by decide), v9]
          have p6 : M19 206 x5 = nix (dNa D) (nm T (nx T (nx T (nx T s)))) 0 := by
            rw [e19, up_ne _ (by decide), c16 206 (by decide), c15 206 (by decide), e14, up_get, if_pos ⟨rfl, rfl⟩]
          have p7 : M19 207 x5 = tn T (nx T (nx T (nx T (nx T (nx T s))))) := by rw [e19, up_get, if_pos ⟨rfl, rfl⟩]
          refine h.1 M23 ⟨y19.1.row e23 (by decide), by rw [z 199 (by decide), y19.2.1], a1, by rw [z 199 (by decide), a2], by rw [z 199 (by decide)]; exact a3, by rw [z 201 (by decide)]; exact a4, ?_, by rw [z 202 (by decide)]; exact a6, by rw [z 208 (by decide)]; exact a7, by rw [z 213 (by decide)]; exact a8, by rw [z 209 (by decide)]; exact a9, by rw [z 218 (by decide)]; exact a10, fun i hi => ?_, by rw [z 203 (by decide)]; exact a12, by rw [z 210 (by decide), z 211 (by decide), z 212 (by decide)]; exact a13, ?_, ?_⟩ (o19.tr (oW.row e23 (by decide) (by simp [szY]; omega)))
          · rw [e23, up_get, if_pos ⟨rfl, rfl⟩]
            show _ = (((dNb D ++ [nm T (nx T s)]).length : Nat) : Int)
            rw [la]
            rfl
          · have hi : i < (dNb D ++ [nm T (nx T s)]).length := hi
            rw [la] at hi
            show M23 219 (6 * b + i) = pkY ((dNb D ++ [nm T (nx T s)]).getD i []) ∧ M23 206 (6 * b + i) = (if (i : Int) = ((dNb D).length : Nat) then (((nix (dNa D) (nm T (nx T (nx T (nx T s)))) 0).toNat : Nat) : Int) else dHo D i) ∧ M23 207 (6 * b + i) = (if (i : Int) = ((dNb D).length : Nat) then tn T (nx T (nx T (nx T (nx T (nx T s))))) else dKi D i)
            rw [z 219 (by decide), z 206 (by decide), z 207 (by decide), getD_app]
            by_cases c : i = (dNb D).length
            · have c2 : (i : Int) = ((dNb D).length : Nat) := by omega
              have c3 : ¬ i < (dNb D).length := by omega
              simp only [c2, c3, c, if_true, if_false]
              rw [← ex]
              exact ⟨by simpa using p9, by rw [p6]; omega, p7⟩
            · have c2 : ¬ (i : Int) = ((dNb D).length : Nat) := by omega
              have c3 : i < (dNb D).length := by omega
              simp only [c, c2, c3, if_false, if_true]
              exact a11 i (by omega)
          · unfold fmY at *
            rw [z 214 (by decide), z 215 (by decide), z 216 (by decide), z 217 (by decide), z 199 (by decide)]
            exact a14
          · unfold fmY at *
            rw [z 214 (by decide), z 215 (by decide), z 216 (by decide), z 217 (by decide), z 199 (by decide)]
            exact a15
  exact ⟨by omega, by omega, fun q => go 1 (by omega), fun q => go 0 (by omega)⟩
end
