/-! the model reads formulas, statements, a town -/
section
variable {M : Mem} {T : List Int} {b : Int} {s : Nat} {D : TD}
theorem y_reads {Q : Mem → Prop} {g : Bool} {c0 w : Nat} {a0 : Int} {r : (Int × Int) ⊕ (List Int × Nat)} (hT : TB T) (hb : b = 0 ∨ b = 1) (hl : LY M T s) (h8 : M 199 8 = 0) (h34 : M 199 34 = b) (h35 : M 199 35 = (if g = true then 1 else 0)) (h33 : M 199 33 = (c0 : Nat)) (hc : c0 ≤ s) (hw : (w = 0 ∧ a0 = 1) ∨ (w = 3 ∧ a0 = 0)) (hp : pd T g (fuel T) w 0 s = some r)
    (hF : ∀ e, r = .inl e → ∀ M', oZ b c0 M M' → FY M' e → Q M') (hE : ∀ c t, r = .inr (c, t) → bd T t = -1 → ∀ M', LY M' T t → M' 199 8 = 0 → M' 199 34 = b → cdz M' b c0 c → oZ b c0 M M' → Q M') (hX : ∀ c t, r = .inr (c, t) → bd T t ≠ -1 → ∀ M', oZ b c0 M M' → FY M' (1, wr T t) → Q M') : m_X12_reads a0 M Q := by
  have tl := hT.1
  have sl := hl.2.1
  unfold m_X12_reads m_X12_reads_J38
  rw [h8]
  refine ⟨by decide, fun _ M13 e13 M14 e14 M15 e15 M16 e16 => ?_, fun z => absurd (by decide) z⟩
  have z : ∀ a, a ≠ 199 → M16 a = M a := fun a ha => by rw [e16, up_ne _ ha, e15, up_ne _ ha, e14, up_ne _ ha, e13, up_ne _ ha]
  have zk : ∀ k, k ≠ 41 → k ≠ 42 → k ≠ 44 → k ≠ 45 → M16 199 k = M 199 k := fun k a1 a2 a3 a4 => by rw [e16, up_get, if_neg (by omega), e15, up_get, if_neg (by omega), e14, up_get, if_neg (by omega), e13, up_get, if_neg (by omega)]
  have oz : oZ b c0 M M16 := (((oZ.up e13 (by omega)).tr (oZ.up e14 (by omega))).tr (oZ.up e15 (by omega))).tr (oZ.up e16 (by omega))
  have y16 : YM T g b c0 M16 s [] [] 0 0 := by
    refine ⟨?_, by rw [zk 8 (by decide) (by decide) (by decide) (by decide), h8], by rw [zk 34 (by decide) (by decide) (by decide) (by decide), h34], by rw [zk 35 (by decide) (by decide) (by decide) (by decide), h35], ⟨by rw [zk 33 (by decide) (by decide) (by decide) (by decide), h33]; rfl, fun j hj => absurd hj (Nat.not_lt_zero j)⟩, ?_, ?_, ?_, by rw [e16, up_get, if_pos ⟨rfl, rfl⟩], trivial⟩
    · unfold LY LYR rw1 at *
      rw [z 200 (by decide), zk 2 (by decide) (by decide) (by decide) (by decide), zk 4 (by decide) (by decide) (by decide) (by decide), zk 3 (by decide) (by decide) (by decide) (by decide), zk 12 (by decide) (by decide) (by decide) (by decide), zk 5 (by decide) (by decide) (by decide) (by decide), zk 7 (by decide) (by decide) (by decide) (by decide), zk 6 (by decide) (by decide) (by decide) (by decide)]
      exact hl
    · rw [e16, up_get, if_neg (by decide), e15, up_get, if_neg (by decide), e14, up_get, if_neg (by decide), e13, up_get, if_pos ⟨rfl, rfl⟩]
      rfl
    · rw [e16, up_get, if_neg (by decide), e15, up_get, if_neg (by decide), e14, up_get, if_pos ⟨rfl, rfl⟩]
      rfl
    · rw [e16, up_get, if_neg (by decide), e15, up_get, if_pos ⟨rfl, rfl⟩]
      rfl
  have all := y_parse (T := T) (g := g) (b := b) (c0 := c0) hT hb (fuel T)
  have fin : ∀ {k pr ph : Int} {M' : Mem} {cs' P c : List Int} {t : Nat}, r = .inr (c, t) → (k = 0 ∨ k = 1) → YM T g b c0 M' t cs' ((k, ph, 0, pr, P ++ []) :: []) (0 + nts P) 1 → cs' ++ P = [] ++ c → rks 1 P → P.length ≤ 5 + nts P → 0 + nts P ≤ 7 → atE T k ph t → oZ b c0 M M' → yG Q T t M' := fun {k pr ph M' cs' P c t} hr hk y' e' r' b' p' aE z' => by
    rw [List.append_nil] at y'
    rw [List.nil_append] at e'
    have tl' := y'.1.2.1
    have pl : t ≤ T.length ∧ c.length + s ≤ t ∧ _ := pd_len (T := T) (g := g) (fuel T) w 0 s c t sl (by rw [hp, hr])
    have el : cs'.length + P.length = c.length := by rw [← List.length_append, e']
    refine y_Lg y'.2.2.2.2.2.2.2.2.1 fun fu hfu => y_gE hT hb y' aE hk (by decide) r' (by omega) (by show tot [] + P.length < 500; simp only [tot]; omega) (fun hbd M2 y2 z2 => Qg_0 (hE c t hr hbd M2 y2.1 y2.2.1 y2.2.2.1 ?_ (z'.tr z2)) (by omega)) (fun hbd M2 z2 f2 => Qg_0 (hX c t hr hbd M2 (z'.tr z2) f2) (by omega))
    have := y2.2.2.2.2.1
    rwa [e'] at this
  rcases hw with ⟨rfl, rfl⟩ | ⟨rfl, rfl⟩
  · refine ⟨by decide, fun q => absurd q (by decide), fun _ => y_pushes y16 (by decide) fun M11 y11 z11 => ⟨T.length + 3, ?_⟩⟩
    refine all.1 0 s M11 Q [] 1 _ [] [] r hp y11 (by simp; omega) (by decide) (by decide) (by decide) trivial (Or.inl rfl) ?_ (T.length + 3) (by omega)
    cases r with
    | inl e => exact fun M' o' f' => hF e rfl M' ((oz.tr z11).tr o') f'
    | inr q =>
      obtain ⟨c, t⟩ := q
      exact fun M' cs' P ph' y' e' r' b' p' x' o' => fin rfl (Or.inr rfl) y' e' r' b' p' (Or.inl ⟨Or.inl rfl, by have := x'.1; omega, by have := x'.1; omega, x'.2.2, x'.2.1⟩) ((oz.tr z11).tr o')
  · refine ⟨by decide, fun _ => y_pushes y16 (by decide) fun M11 y11 z11 => ⟨T.length + 3, ?_⟩, fun q => absurd rfl q⟩
    refine all.2.2.2.1 0 s M11 Q [] 0 0 1 _ [] [] r hp y11 (by simp; omega) (by decide) (by decide) (by decide) trivial (by decide) (Or.inl rfl) (Or.inr rfl) (fun q => absurd q (by decide)) ?_ (T.length + 3) (by omega)
    cases r with
    | inl e => exact fun M' o' f' => hF e rfl M' ((oz.tr z11).tr o') f'
    | inr q =>
      obtain ⟨c, t⟩ := q
      exact fun M' cs' P ph' y' e' r' b' p' x' o' => fin rfl (Or.inl rfl) y' e' (rks_le r' (by decide)) (by omega) p' (Or.inr ⟨Or.inl rfl, x'.1, x'.2.2, x'.2.1⟩) ((oz.tr z11).tr o')
/-- one of the two formulas is new, the other stays -/
theorem fmY.keep {M' : Mem} {w : Int} {c0 : Nat} {cs : List Int} (hb : b = 0 ∨ b = 1) (hf : fmY M b w cs) (hw : w = 0 ∨ w = 1) (h33 : M 199 33 = (c0 : Nat)) (h33' : (c0 : Int) ≤ M' 199 33) (e4 : M' 214 (2 * b + w) = M 214 (2 * b + w)) (e5 : M' 215 (2 * b + w) = M 215 (2 * b + w)) (e6 : ∀ i, i < 1600 * b + c0 → M' 216 i = M 216 i ∧ M' 217 i = M 217 i) : fmY M' b w cs := by
  unfold fmY at *
  by_cases c : cs = []
  · rw [if_pos c] at hf ⊢
    rw [e4, hf]
  · rw [if_neg c] at hf ⊢
    obtain ⟨f1, f2, f3, f4⟩ := hf
    rw [e4, e5]
    refine ⟨f1, f2, by omega, fun j hj => ?_⟩
    obtain ⟨g1, g2⟩ := e6 (1600 * b + M 214 (2 * b + w) + j) (by omega)
    rw [g1, g2]
    exact f4 j hj
theorem y_reading {Q : Mem → Prop} {r : SR} {w : Nat} (hT : TB T) (hx : YD M T b s D) (hD : DOK D s) (hw : (w = 0 ∧ tw T s = 8) ∨ (w = 1 ∧ tw T s = 9)) (hr : stP T D s = r) (h : okT Q M T b r) : m_X12_reading (w : Nat) M Q := by
  have sl := hx.1.2.1
  have tl := hT.1
  have n0 := nx_rng sl
  have hb := hx.2.2.1
  obtain ⟨a1, a2, a3, a4, a5, a6, a7, a8, a9, a10, a11, a12, a13, a14, a15⟩ := id hx.2.2
  have sz := hD.2.2.2.2.2.2.2.2.2.2.2.2.2.2.2
  -- the formula that is asked for
  have cur : ∃ cs : List Int, fmY M b (w : Nat) cs ∧ ((w = 0 ∧ cs = dSt D) ∨ (w = 1 ∧ cs = dGo D)) := by
    rcases hw with ⟨rfl, -⟩ | ⟨rfl, -⟩
    · exact ⟨_, a14, Or.inl ⟨rfl, rfl⟩⟩
    · exact ⟨_, a15, Or.inr ⟨rfl, rfl⟩⟩
  obtain ⟨cs, fc, hcs⟩ := cur
  have emp : (M 214 (2 * b + (w : Nat)) = -1 ↔ cs = []) ∧ inI (M 214 (2 * b + (w : Nat))) := by
    unfold fmY at fc
    by_cases c : cs = []
    · rw [if_pos c] at fc
      rw [fc]
      exact ⟨⟨fun _ => c, fun _ => rfl⟩, by decide⟩
    · rw [if_neg c] at fc
      refine ⟨⟨fun z => by omega, fun z => absurd z c⟩, ?_⟩
      omega
  have hw1 : w ≤ 1 := by omega
  have hr2 : mst cs.length 1 s (fml (pd T (decide (w = 1)) (fuel T) (if w = 0 then 0 else 3) 0 (nx T s)) fun c t => .inr ((if w = 0 then (dNa D, dNb D, dRe D, dRo D, dHo D, dKi D, dWa D, dFr D, dRa D, c, dGo D) else (dNa D, dNb D, dRe D, dRo D, dHo D, dKi D, dWa D, dFr D, dRa D, dSt D, c)), t)) = r := by
    unfold stP at hr
    rcases hcs with ⟨rfl, rfl⟩ | ⟨rfl, rfl⟩
    · rw [if_neg (by omega), if_neg (by omega), if_neg (by omega), if_neg (by omega), if_neg (by omega), if_pos (by omega)] at hr
      exact hr
    · rw [if_neg (by omega), if_neg (by omega), if_neg (by omega), if_neg (by omega), if_neg (by omega), if_neg (by omega), if_pos (by omega)] at hr
      exact hr
  unfold m_X12_reading m_X12_reading_J25 m_X12_reading_J43 m_X12_reading_J66
  rw [a2]
  have go : ∀ (M1 : Mem) (s1 : Int), cs = [] → (s1 = if w = 1 then 1 else 0) → YD M1 T b (nx T s) D → oW b M M1 → (s1 = 0 ∨ s1 = 1) ∧ ∀ M5 : Mem, M5 = up M1 199 35 s1 → ((0 : Int) ≤ 2 * b + (w : Nat) ∧ 2 * b + ((w : Nat) : Int) < 4) ∧ ∀ M7 : Mem, M7 = up M5 214 (2 * b + (w : Nat)) (M5 199 33) → (inI (w : Nat)) ∧ ((((w : Nat) : Int) = 0 → m_X12_reads 1 M7 (fun M1 => ((0 : Int) ≤ 2 * b + (w : Nat) ∧ 2 * b + ((w : Nat) : Int) < 4) ∧ ∀ M3 : Mem, M3 = up M1 215 (2 * b + (w : Nat)) (M1 199 33) → Q M3)) ∧ (¬ ((w : Nat) : Int) = 0 → m_X12_reads 0 M7 (fun M1 => ((0 : Int) ≤ 2 * b + (w : Nat) ∧ 2 * b + ((w : Nat) : Int) < 4) ∧ ∀ M3 : Mem, M3 = up M1 215 (2 * b + (w : Nat)) (M1 199 33) → Q M3))) := fun M1 s1 hcs0 hs1 y1 o1 => by
    refine ⟨by split at hs1 <;> omega, fun M5 e5 => ⟨by omega, fun M7 e7 => ?_⟩⟩
    obtain ⟨b1, b2, b3, b4, b5, b6, b7, b8, b9, b10, b11, b12, b13, b14, b15⟩ := id y1.2.2
    have z7 : ∀ a, a ≠ 199 → a ≠ 214 → M7 a = M1 a := fun a p q => by rw [e7, up_ne _ q, e5, up_ne _ p]
    have zk : ∀ k, k ≠ 35 → M7 199 k = M1 199 k := fun k hk => by rw [e7, up_ne _ (by decide), e5, up_get, if_neg (by omega)]
    have k35 : M7 199 35 = s1 := by rw [e7, up_ne _ (by decide), e5, up_get, if_pos ⟨rfl, rfl⟩]
    have o7 : oW b M M7 := (o1.tr (oW.slot e5 (by omega))).tr (oW.row e7 (by decide) (by simp [szY]; omega))
    have l7 : LY M7 T (nx T s) := by
      have := y1.1
      unfold LY LYR rw1 at *
      rw [z7 200 (by decide) (by decide), zk 2 (by decide), zk 4 (by decide), zk 3 (by decide), zk 12 (by decide), zk 5 (by decide), zk 7 (by decide), zk 6 (by decide)]
      exact this
    unfold mst at hr2
    rw [if_neg (by rw [hcs0]; decide)] at hr2
    cases e : pd T (decide (w = 1)) (fuel T) (if w = 0 then 0 else 3) 0 (nx T s) with
    | none => exact absurd e (fuel_ok n0.2.1 (by split <;> decide))
    | some x =>
      rw [e] at hr2
      have rd : ∀ a0 : Int, ((if w = 0 then 0 else 3) = 0 ∧ a0 = 1) ∨ ((if w = 0 then 0 else 3) = 3 ∧ a0 = 0) → m_X12_reads a0 M7 (fun M1 => ((0 : Int) ≤ 2 * b + (w : Nat) ∧ 2 * b + ((w : Nat) : Int) < 4) ∧ ∀ M3 : Mem, M3 = up M1 215 (2 * b + (w : Nat)) (M1 199 33) → Q M3) := fun a0 ha0 => by
        have ye : ∀ (M8 : Mem) (x : Int × Int) (k v : Int) (M9 : Mem), (0 < x.1 ∧ x.1 < 9) → oZ b ((dSt D).length + (dGo D).length) M7 M8 → FY M8 x → M9 = up M8 215 k v → (k = 2 * b + (w : Nat)) → YE M9 b x ∧ oW b M M9 := fun M8 x k v M9 hx8 z8 f8 e9 hk => by
          have zz : M9 199 = M8 199 := by rw [e9, up_ne _ (by decide)]
          refine ⟨⟨?_, hx8, ?_, ?_⟩, (o7.tr z8.w).tr (oW.row e9 (by decide) (by simp [szY]; omega))⟩
          · unfold FY at *
            rw [zz]
            exact f8
          · rw [zz]
            exact z8.2.2.2.1 (l7.i12 hT)
          · rw [zz, z8.2.1 34 (by omega), zk 34 (by decide), b2]
        refine y_reads (g := decide (w = 1)) (c0 := (dSt D).length + (dGo D).length) hT hb l7 (by rw [zk 8 (by decide)]; exact y1.2.1) (by rw [zk 34 (by decide), b2]) ?_ (by rw [zk 33 (by decide), b3]) (by omega) ha0 e (fun x1 hx1 M8 z8 f8 => ⟨by omega, fun M9 e9 => ?_⟩) (fun c t hx1 hbd M8 l8 g8 g34 c8 z8 => ⟨by omega, fun M9 e9 => ?_⟩) (fun c t hx1 hbd M8 z8 f8 => ⟨by omega, fun M9 e9 => ?_⟩)
        · rw [k35, hs1]
          by_cases q : w = 1 <;> simp [q]
        · subst hx1
          have hr3 : (Sum.inl x1 : SR) = r := hr2
          obtain ⟨y9, o9⟩ := ye M8 x1 _ _ M9 (pd_fk _ _ _ _ _ e) z8 f8 e9 rfl
          subst hr3
          exact h M9 y9 o9
        · subst hx1
          have hr3 : (Sum.inr ((if w = 0 then (dNa D, dNb D, dRe D, dRo D, dHo D, dKi D, dWa D, dFr D, dRa D, c, dGo D) else (dNa D, dNb D, dRe D, dRo D, dHo D, dKi D, dWa D, dFr D, dRa D, dSt D, c)), t) : SR) = r := hr2
          subst hr3
          have pl := pd_len _ _ _ _ _ _ n0.2.1 e
          have o9 : oW b M M9 := (o7.tr z8.w).tr (oW.row e9 (by decide) (by simp [szY]; omega))
          have zz : ∀ a, a ≠ 215 → M9 a = M8 a := fun a ha => by rw [e9, up_ne _ ha]
          have q4 : ∀ a, 201 ≤ a → a ≤ 213 ∨ (218 ≤ a ∧ a ≤ 219) → M9 a = M1 a := fun a p q => by rw [zz a (by omega), z8.1 a (by omega) (by omega) (by omega) (by omega), z7 a (by omega) (by omega)]
          have m33 : M9 199 33 = ((dSt D).length + (dGo D).length + c.length : Nat) := by rw [zz 199 (by decide), c8.1]
          have cne : c ≠ [] := fun z => by
            rw [z] at pl
            have := (pl.2.2 (by split <;> decide)).2
            simp at this
          have v14 : ∀ i, M9 214 i = if i = 2 * b + (w : Nat) then (((dSt D).length + (dGo D).length : Nat) : Int) else M1 214 i := fun i => by
            rw [zz 214 (by decide), z8.1 214 (by decide) (by decide) (by decide) (by decide), e7, up_get]
            by_cases q : i = 2 * b + (w : Nat)
            · rw [if_pos ⟨rfl, q⟩, if_pos q, e5, up_get, if_neg (by decide), b3]
            · rw [if_neg (fun z => q z.2), if_neg q, e5, up_ne _ (by decide)]
          have v15 : ∀ i, M9 215 i = if i = 2 * b + (w : Nat) then (((dSt D).length + (dGo D).length + c.length : Nat) : Int) else M1 215 i := fun i => by
            rw [e9, up_get]
            by_cases q : i = 2 * b + (w : Nat)
            · rw [if_pos ⟨rfl, q⟩, if_pos q, c8.1]
            · rw [if_neg (fun z => q z.2), if_neg q, z8.1 215 (by decide) (by decide) (by decide) (by decide), z7 215 (by decide) (by decide)]
          have new : fmY M9 b (w : Nat) c := by
            unfold fmY
            rw [if_neg cne, v14, v15, if_pos rfl, if_pos rfl, m33]
            refine ⟨by omega, by omega, by omega, fun j hj => ?_⟩
            rw [zz 216 (by decide), zz 217 (by decide)]
            have := c8.2 j hj
            exact this
          have low : ∀ i, i < 1600 * b + ((dSt D).length + (dGo D).length : Nat) → M9 216 i = M1 216 i ∧ M9 217 i = M1 217 i := fun i hi => by
            rw [zz 216 (by decide), zz 217 (by decide), (z8.2.2.1 i (Or.inl hi)).1, (z8.2.2.1 i (Or.inl hi)).2, z7 216 (by decide) (by decide), z7 217 (by decide) (by decide)]
            exact ⟨rfl, rfl⟩
          have l9 : LY M9 T t := l8.row e9 (by decide)
          refine h.1 M9 ⟨l9, by rw [zz 199 (by decide), g8], ?_⟩ o9
          rcases hcs with ⟨rfl, rfl⟩ | ⟨rfl, rfl⟩
          · have l0 : (dSt D).length = 0 := by rw [hcs0]; rfl
            rw [if_pos rfl]
            refine ⟨b1, by rw [zz 199 (by decide), g34], ?_, by rw [q4 201 (by decide) (by decide)]; exact b4, by rw [q4 205 (by decide) (by decide)]; exact b5, by rw [q4 202 (by decide) (by decide)]; exact b6, by rw [q4 208 (by decide) (by decide)]; exact b7, by rw [q4 213 (by decide) (by decide)]; exact b8, by rw [q4 209 (by decide) (by decide)]; exact b9, by rw [q4 218 (by decide) (by decide)]; exact b10, by rw [q4 219 (by decide) (by decide), q4 206 (by decide) (by decide), q4 207 (by decide) (by decide)]; exact b11, by rw [q4 203 (by decide) (by decide)]; exact b12, by rw [q4 210 (by decide) (by decide), q4 211 (by decide) (by decide), q4 212 (by decide) (by decide)]; exact b13, new, ?_⟩
            · rw [m33]
              show _ = ((c.length + (dGo D).length : Nat) : Int)
              omega
            · exact fmY.keep hb b15 (Or.inr rfl) b3 (by rw [m33]; omega) (by rw [v14, if_neg (by omega)]) (by rw [v15, if_neg (by omega)]) low
          · have l0 : (dGo D).length = 0 := by rw [hcs0]; rfl
            rw [if_neg (by decide)]
            refine ⟨b1, by rw [zz 199 (by decide), g34], ?_, by rw [q4 201 (by decide) (by decide)]; exact b4, by rw [q4 205 (by decide) (by decide)]; exact b5, by rw [q4 202 (by decide) (by decide)]; exact b6, by rw [q4 208 (by decide) (by decide)]; exact b7, by rw [q4 213 (by decide) (by decide)]; exact b8, by rw [q4 209 (by decide) (by decide)]; exact b9, by rw [q4 218 (by decide) (by decide)]; exact b10, by rw [q4 219 (by decide) (by decide), q4 206 (by decide) (by decide), q4 207 (by decide) (by decide)]; exact b11, by rw [q4 203 (by decide) (by decide)]; exact b12, by rw [q4 210 (by decide) (by decide), q4 211 (by decide) (by decide), q4 212 (by decide) (by decide)]; exact b13, ?_, new⟩
            · rw [m33]
              show _ = (((dSt D).length + c.length : Nat) : Int)
              omega
            · exact fmY.keep hb b14 (Or.inl rfl) b3 (by rw [m33]; omega) (by rw [v14, if_neg (by omega)]) (by rw [v15, if_neg (by omega)]) low
        · subst hx1
          have hr3 : (Sum.inr ((if w = 0 then (dNa D, dNb D, dRe D, dRo D, dHo D, dKi D, dWa D, dFr D, dRa D, c, dGo D) else (dNa D, dNb D, dRe D, dRo D, dHo D, dKi D, dWa D, dFr D, dRa D, dSt D, c)), t) : SR) = r := hr2
          obtain ⟨y9, o9⟩ := ye M8 (1, wr T t) _ _ M9 (f1ok _) z8 f8 e9 rfl
          subst hr3
          exact h.2 hbd M9 y9 o9
      refine ⟨by omega, fun q => rd 1 (Or.inl ⟨by rw [if_pos (by omega)], rfl⟩), fun q => rd 0 (Or.inr ⟨by rw [if_neg (by omega)], rfl⟩)⟩
  have tw0 : 0 ≤ tw T s := by omega
  refine ⟨by omega, emp.2, fun q => ?_, fun q => ?_⟩
  · have cs0 := emp.1.mp q
    refine y_counts hT (Or.inl rfl) hx tw0 (fun z => absurd z (by decide)) (fun _ M1 y1 i1 o1 => ?_)
    refine ⟨by omega, fun z => ?_, fun z => ?_⟩
    · exact go M1 1 cs0 (by rw [if_pos (by omega)]) y1 o1
    · exact go M1 0 cs0 (by rw [if_neg (by omega)]) y1 o1
  · have cs0 : cs ≠ [] := mt emp.1.mpr q
    refine y_counts hT (Or.inr rfl) hx tw0 (fun _ M1 y1 o1 => ?_) (fun z => absurd z (by decide))
    unfold mst at hr2
    rw [if_pos (by have := List.length_pos_iff.mpr cs0; omega)] at hr2
    subst hr2
    exact h M1 (y1.e hT) o1
end
