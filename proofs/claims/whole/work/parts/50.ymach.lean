/-! the model's machine for tests and sums: its state, its small steps -/
/-- kind, phase, begins, pair, operators held back (the newest first), by the class's codes -/
abbrev FR : Type := Int × Int × Int × Int × List Int
def tot : List FR → Nat
  | [] => 0
  | f :: fs => f.2.2.2.2.length + tot fs
theorem tot_c (f : FR) (fs : List FR) : tot (f :: fs) = f.2.2.2.2.length + tot fs := rfl
def opY (M : Mem) (b : Nat) : List Int → Prop
  | [] => True
  | c :: r => M 225 (b + r.length : Nat) = 23 - c ∧ opY M b r
def frY (M : Mem) : List FR → Prop
  | [] => True
  | f :: fs => M 220 (fs.length : Nat) = f.1 ∧ M 221 (fs.length : Nat) = f.2.1 ∧ M 222 (fs.length : Nat) = f.2.2.1 ∧ M 223 (fs.length : Nat) = 23 - f.2.2.2.1 ∧ M 224 (fs.length : Nat) = (tot fs : Nat) ∧ opY M (tot fs) f.2.2.2.2 ∧ frY M fs
def cdz (M : Mem) (b : Int) (c0 : Nat) (cs : List Int) : Prop := M 199 33 = (c0 + cs.length : Nat) ∧ ∀ j : Nat, j < cs.length → crP (cs.getD j 0) (M 216 (1600 * b + c0 + j)) (M 217 (1600 * b + c0 + j))
def YM (T : List Int) (g : Bool) (b : Int) (c0 : Nat) (M : Mem) (s : Nat) (cs : List Int) (fs : List FR) (o : Nat) (op : Int) : Prop :=
  LY M T s ∧ M 199 8 = 0 ∧ M 199 34 = b ∧ M 199 35 = (if g = true then 1 else 0) ∧ cdz M b c0 cs ∧ M 199 41 = (fs.length : Nat) ∧ M 199 42 = (o : Nat) ∧ M 199 44 = (tot fs : Nat) ∧ M 199 45 = op ∧ frY M fs
/-- what the machine may write -/
abbrev keepK (k : Int) : Prop := k ≤ 2 ∨ k = 10 ∨ k = 11 ∨ (13 ≤ k ∧ k ≤ 32) ∨ (34 ≤ k ∧ k ≤ 40) ∨ k = 43 ∨ 46 ≤ k
def oZ (b : Int) (c0 : Nat) (M M' : Mem) : Prop := (∀ a, a ≠ 199 → a ≠ 216 → a ≠ 217 → (a < 220 ∨ 225 < a) → M' a = M a) ∧ (∀ k, keepK k → M' 199 k = M 199 k) ∧ (∀ i, (i < 1600 * b + c0 ∨ 1600 * b + 1600 ≤ i) → M' 216 i = M 216 i ∧ M' 217 i = M 217 i) ∧ (inI (M 199 12) → inI (M' 199 12)) ∧ (M' 199 8 = 0 → M 199 8 = 0 ∧ M' 199 9 = M 199 9)
theorem oZ.rf {b : Int} {c0 : Nat} {M : Mem} : oZ b c0 M M := ⟨fun _ _ _ _ _ => rfl, fun _ _ => rfl, fun _ _ => ⟨rfl, rfl⟩, fun h => h, fun h => ⟨h, rfl⟩⟩
theorem oZ.tr {b : Int} {c0 : Nat} {M M1 M2 : Mem} (h : oZ b c0 M M1) (k : oZ b c0 M1 M2) : oZ b c0 M M2 := by
  refine ⟨fun a p q r t => by rw [k.1 a p q r t, h.1 a p q r t], fun j hj => by rw [k.2.1 j hj, h.2.1 j hj], fun i hi => ?_, fun q => k.2.2.2.1 (h.2.2.2.1 q), fun q => ?_⟩
  rotate_left
  · obtain ⟨a1, a2⟩ := k.2.2.2.2 q
    obtain ⟨b1, b2⟩ := h.2.2.2.2 a1
    exact ⟨b1, by rw [a2, b2]⟩
  obtain ⟨a1, a2⟩ := h.2.2.1 i hi
  obtain ⟨b1, b2⟩ := k.2.2.1 i hi
  exact ⟨by rw [b1, a1], by rw [b2, a2]⟩
theorem LY.i12 {M : Mem} {T : List Int} {s : Nat} (h : LY M T s) (hT : TB T) : inI (M 199 12) := by
  have := bd_rng h.2.1
  have := hT.1
  rw [h.2.2.2.2.1]
  omega
theorem oY.z {b : Int} {c0 : Nat} {M M1 : Mem} (h : oY M M1) (hi : inI (M1 199 12)) : oZ b c0 M M1 := ⟨fun a p _ _ _ => h.1 a p, fun k hk => h.2 k (by omega) (by omega) (by omega) (by omega) (by omega) (by omega), fun i _ => by rw [h.1 216 (by decide), h.1 217 (by decide)]; exact ⟨rfl, rfl⟩, fun _ => hi, fun q => by rw [h.2 8 (by decide) (by decide) (by decide) (by decide) (by decide) (by decide)] at q; exact ⟨q, h.2 9 (by decide) (by decide) (by decide) (by decide) (by decide) (by decide)⟩⟩
theorem oB.z {b : Int} {c0 : Nat} {M M1 : Mem} (h : oB M M1) (hn : M1 199 8 ≠ 0) : oZ b c0 M M1 := ⟨fun a p _ _ _ => h.1 a p, fun k hk => h.2 k (by omega) (by omega), fun i _ => by rw [h.1 216 (by decide), h.1 217 (by decide)]; exact ⟨rfl, rfl⟩, fun q => by rw [h.2 12 (by decide) (by decide)]; exact q, fun q => absurd q hn⟩
theorem oZ.up {b : Int} {c0 : Nat} {M M1 : Mem} {a k v : Int} (e : M1 = up M a k v) (h : (220 ≤ a ∧ a ≤ 225) ∨ (a = 199 ∧ ¬ keepK k ∧ k ≠ 12 ∧ k ≠ 8 ∧ k ≠ 9)) : oZ b c0 M M1 := by
  subst e
  refine ⟨fun c p q r t => up_ne _ (by omega), fun j hj => ?_, fun i _ => ?_, fun q => by rw [up_get, if_neg (by omega)]; exact q, fun q => by rw [up_get, if_neg (by omega)] at q; exact ⟨q, by rw [up_get, if_neg (by omega)]⟩⟩
  · rw [up_get, if_neg]
    intro z
    rcases h with h | h
    · omega
    · exact h.2.1 (z.2 ▸ hj)
  · rw [up_ne _ (by omega), up_ne _ (by omega)]
    exact ⟨rfl, rfl⟩
theorem opY.off {M M' : Mem} {b : Nat} : ∀ {l : List Int}, opY M b l → (∀ i : Nat, i < b + l.length → M' 225 i = M 225 i) → opY M' b l
  | [], _, _ => trivial
  | c :: r, h, e => ⟨by rw [e _ (by simp only [List.length_cons]; omega)]; exact h.1, opY.off h.2 (fun i hi => e i (by simp only [List.length_cons]; omega))⟩
theorem frY.off {M M' : Mem} : ∀ {fs : List FR}, frY M fs → (∀ a, 220 ≤ a → a ≤ 224 → ∀ i : Nat, i < fs.length → M' a i = M a i) → (∀ i : Nat, i < tot fs → M' 225 i = M 225 i) → frY M' fs
  | [], _, _, _ => trivial
  | f :: fs, h, e, e5 => by
    obtain ⟨h1, h2, h3, h4, h5, h6, h7⟩ := h
    have l : fs.length < (f :: fs).length := by simp
    refine ⟨by rw [e 220 (by decide) (by decide) _ l, h1], by rw [e 221 (by decide) (by decide) _ l, h2], by rw [e 222 (by decide) (by decide) _ l, h3], by rw [e 223 (by decide) (by decide) _ l, h4], by rw [e 224 (by decide) (by decide) _ l, h5], h6.off (fun i hi => e5 i (by unfold tot; omega)), h7.off (fun a a1 a2 i hi => e a a1 a2 i (by simp only [List.length_cons]; omega)) (fun i hi => e5 i (by unfold tot; omega))⟩
theorem cdz.off {M M' : Mem} {b : Int} {c0 : Nat} {cs : List Int} (h : cdz M b c0 cs) (e1 : M' 199 33 = M 199 33) (e2 : M' 216 = M 216) (e3 : M' 217 = M 217) : cdz M' b c0 cs := by
  unfold cdz at *
  rw [e1, e2, e3]
  exact h
section
variable {T : List Int} {g : Bool} {b : Int} {c0 : Nat} {M : Mem} {s : Nat} {cs : List Int} {fs : List FR} {o : Nat} {op : Int}
/-- a slot of the model alone changes -/
theorem YM.slot {M1 : Mem} {k v : Int} (h : YM T g b c0 M s cs fs o op) (e : M1 = up M 199 k v) (hk : k = 42 ∨ k = 44 ∨ k = 45) : LY M1 T s ∧ M1 199 8 = 0 ∧ M1 199 34 = b ∧ M1 199 35 = (if g = true then 1 else 0) ∧ cdz M1 b c0 cs ∧ M1 199 41 = (fs.length : Nat) ∧ frY M1 fs := by
  obtain ⟨h1, h2, h3, h4, h5, h6, h7, h8, h9, h10⟩ := h
  have z : ∀ j, j ≠ k → M1 199 j = M 199 j := fun j hj => by rw [e, up_get, if_neg (by omega)]
  have y : ∀ a, a ≠ 199 → M1 a = M a := fun a ha => by rw [e, up_ne _ ha]
  refine ⟨?_, by rw [z 8 (by omega), h2], by rw [z 34 (by omega), h3], by rw [z 35 (by omega), h4], h5.off (z 33 (by omega)) (y 216 (by decide)) (y 217 (by decide)), by rw [z 41 (by omega), h6], h10.off (fun a a1 a2 i _ => by rw [y a (by omega)]) (fun i _ => by rw [y 225 (by decide)])⟩
  unfold LY LYR rw1 at *
  rw [y 200 (by decide), z 2 (by omega), z 4 (by omega), z 3 (by omega), z 12 (by omega), z 5 (by omega), z 7 (by omega), z 6 (by omega)]
  exact h1
theorem YM.opd {M1 : Mem} {o' : Nat} (h : YM T g b c0 M s cs fs o op) (e : M1 = up M 199 42 (o' : Nat)) : YM T g b c0 M1 s cs fs o' op := by
  obtain ⟨a1, a2, a3, a4, a5, a6, a7⟩ := h.slot e (by omega)
  obtain ⟨h1, h2, h3, h4, h5, h6, h7, h8, h9, h10⟩ := h
  exact ⟨a1, a2, a3, a4, a5, a6, by rw [e, up_get, if_pos ⟨rfl, rfl⟩], by rw [e, up_get, if_neg (by decide), h8], by rw [e, up_get, if_neg (by decide), h9], a7⟩
theorem YM.oper {M1 : Mem} {op' : Int} (h : YM T g b c0 M s cs fs o op) (e : M1 = up M 199 45 op') : YM T g b c0 M1 s cs fs o op' := by
  obtain ⟨a1, a2, a3, a4, a5, a6, a7⟩ := h.slot e (by omega)
  obtain ⟨h1, h2, h3, h4, h5, h6, h7, h8, h9, h10⟩ := h
  exact ⟨a1, a2, a3, a4, a5, a6, by rw [e, up_get, if_neg (by decide), h7], by rw [e, up_get, if_neg (by decide), h8], by rw [e, up_get, if_pos ⟨rfl, rfl⟩], a7⟩
theorem YM.ahead {M1 : Mem} {t : Nat} (h : YM T g b c0 M s cs fs o op) (y : oY M M1) (l : LY M1 T t) : YM T g b c0 M1 t cs fs o op := by
  obtain ⟨h1, h2, h3, h4, h5, h6, h7, h8, h9, h10⟩ := h
  have z : ∀ j, j ≠ 3 → j ≠ 4 → j ≠ 5 → j ≠ 6 → j ≠ 7 → j ≠ 12 → M1 199 j = M 199 j := y.2
  refine ⟨l, ?_, ?_, ?_, h5.off (z 33 (by decide) (by decide) (by decide) (by decide) (by decide) (by decide)) (y.1 216 (by decide)) (y.1 217 (by decide)), ?_, ?_, ?_, ?_, h10.off (fun a a1 a2 i _ => by rw [y.1 a (by omega)]) (fun i _ => by rw [y.1 225 (by decide)])⟩
  · rw [z 8 (by decide) (by decide) (by decide) (by decide) (by decide) (by decide), h2]
  · rw [z 34 (by decide) (by decide) (by decide) (by decide) (by decide) (by decide), h3]
  · rw [z 35 (by decide) (by decide) (by decide) (by decide) (by decide) (by decide), h4]
  · rw [z 41 (by decide) (by decide) (by decide) (by decide) (by decide) (by decide), h6]
  · rw [z 42 (by decide) (by decide) (by decide) (by decide) (by decide) (by decide), h7]
  · rw [z 44 (by decide) (by decide) (by decide) (by decide) (by decide) (by decide), h8]
  · rw [z 45 (by decide) (by decide) (by decide) (by decide) (by decide) (by decide), h9]
/-- the top frame's words change -/
theorem YM.top {M1 : Mem} {f f' : FR} {a v : Int} (h : YM T g b c0 M s cs (f :: fs) o op) (e : M1 = up M a (fs.length : Nat) v) (ha : 220 ≤ a ∧ a ≤ 223) (h0 : f'.1 = if a = 220 then v else f.1) (h1 : f'.2.1 = if a = 221 then v else f.2.1) (h2 : f'.2.2.1 = if a = 222 then v else f.2.2.1) (h3 : 23 - f'.2.2.2.1 = if a = 223 then v else 23 - f.2.2.2.1) (h4 : f'.2.2.2.2 = f.2.2.2.2) : YM T g b c0 M1 s cs (f' :: fs) o op := by
  obtain ⟨a1, a2, a3, a4, a5, a6, a7, a8, a9, k1, k2, k3, k4, k5, k6, k7⟩ := h
  have y : ∀ c, c ≠ a → M1 c = M c := fun c hc => by rw [e, up_ne _ hc]
  have t : tot (f' :: fs) = tot (f :: fs) := by unfold tot; rw [h4]
  refine ⟨?_, by rw [y 199 (by omega), a2], by rw [y 199 (by omega), a3], by rw [y 199 (by omega), a4], a5.off (by rw [y 199 (by omega)]) (y 216 (by omega)) (y 217 (by omega)), by rw [y 199 (by omega), a6]; rfl, by rw [y 199 (by omega), a7], by rw [y 199 (by omega), a8, t], by rw [y 199 (by omega), a9], ?_, ?_, ?_, ?_, ?_, ?_, ?_⟩
  · unfold LY LYR rw1 at *
    rw [y 200 (by omega), y 199 (by omega)]
    exact a1
  · rw [e, up_get, h0, k1]
    split <;> split <;> first | rfl | omega
  · rw [e, up_get, h1, k2]
    split <;> split <;> first | rfl | omega
  · rw [e, up_get, h2, k3]
    split <;> split <;> first | rfl | omega
  · rw [e, up_get, h3, k4]
    split <;> split <;> first | rfl | omega
  · rw [y 224 (by omega), k5]
  · rw [h4]
    exact k6.off (fun i _ => by rw [y 225 (by omega)])
  · refine k7.off (fun c c1 c2 i hi => ?_) (fun i _ => by rw [y 225 (by omega)])
    rw [e, up_get, if_neg (by omega)]
theorem y_add {Q : Mem → Prop} {c p v : Int} (hb : b = 0 ∨ b = 1) (h : YM T g b c0 M s cs fs o op) (hl : c0 + cs.length < 1600) (hc : crP c p v) (hQ : ∀ M', YM T g b c0 M' s (cs ++ [c]) fs o op → oZ b c0 M M' → (∀ a, 220 ≤ a → M' a = M a) → M' 199 42 = M 199 42 → M' 199 44 = M 199 44 → Q M') : m_X12_add p v M Q := by
  obtain ⟨h1, h2, h3, h4, h5, h6, h7, h8, h9, h10⟩ := h
  unfold m_X12_add
  rw [h3, h5.1]
  refine ⟨by omega, fun M2 e2 => ?_⟩
  have g1 : M2 199 = M 199 := by rw [e2, up_ne _ (by decide)]
  rw [g1, h3, h5.1]
  refine ⟨by omega, fun M4 e4 M5 e5 => ?_⟩
  have g4 : M4 199 = M 199 := by rw [e4, up_ne _ (by decide), g1]
  rw [g4, h5.1] at e5
  have z : ∀ j, j ≠ 33 → M5 199 j = M 199 j := fun j hj => by rw [e5, up_get, if_neg (by omega), g4]
  have y : ∀ a, a ≠ 199 → a ≠ 216 → a ≠ 217 → M5 a = M a := fun a a1 a2 a3 => by rw [e5, up_ne _ a1, e4, up_ne _ a3, e2, up_ne _ a2]
  have c6 : ∀ i, M5 216 i = if i = 1600 * b + (c0 + cs.length : Nat) then p else M 216 i := fun i => by
    rw [e5, up_ne _ (by decide), e4, up_ne _ (by decide), e2, up_get]
    by_cases q : i = 1600 * b + (c0 + cs.length : Nat)
    · rw [if_pos ⟨rfl, q⟩, if_pos q]
    · rw [if_neg (fun w => q w.2), if_neg q]
  have c7 : ∀ i, M5 217 i = if i = 1600 * b + (c0 + cs.length : Nat) then v else M 217 i := fun i => by
    rw [e5, up_ne _ (by decide), e4, up_get]
    by_cases q : i = 1600 * b + (c0 + cs.length : Nat)
    · rw [if_pos ⟨rfl, q⟩, if_pos q]
    · rw [if_neg (fun w => q w.2), if_neg q, e2, up_ne _ (by decide)]
  refine hQ M5 ⟨?_, by rw [z 8 (by decide), h2], by rw [z 34 (by decide), h3], by rw [z 35 (by decide), h4], ⟨?_, fun j hj => ?_⟩, by rw [z 41 (by decide), h6], by rw [z 42 (by decide), h7], by rw [z 44 (by decide), h8], by rw [z 45 (by decide), h9], h10.off (fun a a1 a2 i _ => by rw [y a (by omega) (by omega) (by omega)]) (fun i _ => by rw [y 225 (by decide) (by decide) (by decide)])⟩ ⟨fun a p q r _ => y a p q r, fun k hk => z k (by omega), fun i hi => ?_, fun q => by rw [z 12 (by decide)]; exact q, fun q => by rw [z 8 (by decide)] at q; exact ⟨q, z 9 (by decide)⟩⟩ (fun a ha => y a (by omega) (by omega) (by omega)) (z 42 (by decide)) (z 44 (by decide))
  · unfold LY LYR rw1 at *
    rw [y 200 (by decide) (by decide) (by decide), z 2 (by decide), z 4 (by decide), z 3 (by decide), z 12 (by decide), z 5 (by decide), z 7 (by decide), z 6 (by decide)]
    exact h1
  · rw [e5, up_get, if_pos ⟨rfl, rfl⟩, List.length_append, List.length_singleton]
    omega
  · rw [List.length_append, List.length_singleton] at hj
    rw [getD_app]
    by_cases q : j = cs.length
    · rw [if_neg (by omega), if_pos q, c6, c7, if_pos (by omega), if_pos (by omega)]
      exact hc
    · rw [if_pos (by omega), c6, c7, if_neg (by omega), if_neg (by omega)]
      exact h5.2 j (by omega)
  · rw [c6, c7, if_neg (by omega), if_neg (by omega)]
    exact ⟨rfl, rfl⟩
theorem y_hold {Q : Mem → Prop} {k ph bg pr c v : Int} {O : List Int} (h : YM T g b c0 M s cs ((k, ph, bg, pr, O) :: fs) o op) (ht : tot fs + O.length < 500) (hv : v = 23 - c) (hQ : ∀ M', YM T g b c0 M' s cs ((k, ph, bg, pr, c :: O) :: fs) o op → oZ b c0 M M' → Q M') : m_X12_holdsBack v M Q := by
  obtain ⟨h1, h2, h3, h4, h5, h6, h7, h8, h9, k1, k2, k3, k4, k5, k6, k7⟩ := h
  have t0 : tot ((k, ph, bg, pr, O) :: fs) = O.length + tot fs := rfl
  unfold m_X12_holdsBack
  rw [h8]
  refine ⟨by omega, fun M2 e2 M3 e3 => ?_⟩
  have g1 : M2 199 = M 199 := by rw [e2, up_ne _ (by decide)]
  have y : ∀ a, a ≠ 199 → a ≠ 225 → M3 a = M a := fun a a1 a2 => by rw [e3, up_ne _ a1, e2, up_ne _ a2]
  have z : ∀ j, j ≠ 44 → M3 199 j = M 199 j := fun j hj => by rw [e3, up_get, if_neg (by omega), g1]
  have c5 : ∀ i : Nat, i < O.length + tot fs → M3 225 i = M 225 i := fun i hi => by
    rw [e3, up_ne _ (by decide), e2, up_get, if_neg (by omega)]
  refine hQ M3 ⟨?_, by rw [z 8 (by decide), h2], by rw [z 34 (by decide), h3], by rw [z 35 (by decide), h4], h5.off (z 33 (by decide)) (y 216 (by decide) (by decide)) (y 217 (by decide) (by decide)), by rw [z 41 (by decide), h6]; rfl, by rw [z 42 (by decide), h7], ?_, by rw [z 45 (by decide), h9], ?_, ?_, ?_, ?_, ?_, ⟨?_, k6.off (fun i hi => c5 i (by have hi2 : i < tot fs + O.length := hi; omega))⟩, k7.off (fun a a1 a2 i _ => by rw [y a (by omega) (by omega)]) (fun i hi => c5 i (by omega))⟩ ((oZ.up e2 (by omega)).tr (oZ.up e3 (by omega)))
  · unfold LY LYR rw1 at *
    rw [y 200 (by decide) (by decide), z 2 (by decide), z 4 (by decide), z 3 (by decide), z 12 (by decide), z 5 (by decide), z 7 (by decide), z 6 (by decide)]
    exact h1
  · rw [e3, up_get, if_pos ⟨rfl, rfl⟩, g1, h8]
    unfold tot
    simp only [List.length_cons]
    omega
  · rw [y 220 (by decide) (by decide)]; exact k1
  · rw [y 221 (by decide) (by decide)]; exact k2
  · rw [y 222 (by decide) (by decide)]; exact k3
  · rw [y 223 (by decide) (by decide)]; exact k4
  · rw [y 224 (by decide) (by decide)]; exact k5
  · show M3 225 (tot fs + O.length : Nat) = 23 - c
    rw [e3, up_ne _ (by decide), e2, up_get, if_pos ⟨rfl, by rw [t0]; omega⟩, hv]
def rkO (c : Int) : Int := if c = -19 then 1 else if c = -18 then 2 else if c = -20 then 3 else if -17 ≤ c ∧ c ≤ -15 then 4 else if c = -9 ∨ c = -8 then 5 else 6
def nts : List Int → Nat
  | [] => 0
  | c :: r => (if c = -20 then 1 else 0) + nts r
theorem y_rank {Q : Int → Mem → Prop} {c : Int} (hc : -21 ≤ c ∧ c ≤ -8) (h : Q (rkO c) M) : m_X12_rank (23 - c) M Q := by
  unfold m_X12_rank m_X12_rank_J70 m_X12_rank_J64 m_X12_rank_J48
  unfold rkO at h
  have i : inI (23 - c) := by omega
  refine ⟨i, fun q1 => ?_, fun q1 => ⟨i, fun q2 => ?_, fun q2 => ⟨i, fun q3 => ?_, fun q3 => ⟨i, fun q4 => ?_, fun q4 => ⟨i, fun q5 => ?_, fun q5 => ⟨i, fun q6 => ?_, fun q6 => ⟨i, fun q7 => ?_, fun q7 => ⟨i, fun q8 => ?_, fun q8 => ?_⟩⟩⟩⟩⟩⟩⟩⟩
  · rwa [if_pos (by omega)] at h
  · rwa [if_neg (by omega), if_pos (by omega)] at h
  · rwa [if_neg (by omega), if_neg (by omega), if_pos (by omega)] at h
  · rwa [if_neg (by omega), if_neg (by omega), if_neg (by omega), if_pos (by omega)] at h
  · rwa [if_neg (by omega), if_neg (by omega), if_neg (by omega), if_pos (by omega)] at h
  · rwa [if_neg (by omega), if_neg (by omega), if_neg (by omega), if_pos (by omega)] at h
  · rwa [if_neg (by omega), if_neg (by omega), if_neg (by omega), if_neg (by omega), if_pos (by omega)] at h
  · rwa [if_neg (by omega), if_neg (by omega), if_neg (by omega), if_neg (by omega), if_pos (by omega)] at h
  · rwa [if_neg (by omega), if_neg (by omega), if_neg (by omega), if_neg (by omega), if_neg (by omega)] at h
/-- the operators of rank l and more leave -/
def hdL (l : Int) : List Int → Prop
  | [] => True
  | c :: _ => -21 ≤ c ∧ c ≤ -8 ∧ rkO c < l
def rks (l : Int) (P : List Int) : Prop := ∀ x ∈ P, -20 ≤ x ∧ x ≤ -8 ∧ l ≤ rkO x
theorem rkO_rng (c : Int) : 1 ≤ rkO c ∧ rkO c ≤ 6 := by
  unfold rkO
  repeat' split
  all_goals omega
theorem y_joins_l {Q : Mem → Prop} {k ph bg pr l : Int} {O : List Int} (hb : b = 0 ∨ b = 1) (hl : 1 ≤ l ∧ l ≤ 6) (hO : hdL l O) (hf : fs.length < 20) : ∀ (P : List Int) (M : Mem) (cs : List Int), YM T g b c0 M s cs ((k, ph, bg, pr, P ++ O) :: fs) (o + nts P) op → rks l P → c0 + cs.length + P.length ≤ 1600 → tot fs + P.length + O.length ≤ 500 → (∀ M', YM T g b c0 M' s (cs ++ P) ((k, ph, bg, pr, O) :: fs) o op → oZ b c0 M M' → Q M') → m_X12_joins_L0 Q l (P.length + 1) M
  | [], M, cs, h, hr, hc, ht, hQ => by
    have t0 : tot ((k, ph, bg, pr, [] ++ O) :: fs) = O.length + tot fs := rfl
    obtain ⟨h1, h2, h3, h4, h5, h6, h7, h8, h9, k1, k2, k3, k4, k5, k6, k7⟩ := id h
    have d : M 199 41 - 1 = (fs.length : Nat) := by
      rw [h6]
      simp only [List.length_cons]
      omega
    unfold m_X12_joins_L0 m_X12_joins_J87
    rw [d, h8, k5]
    have fin : Q M := hQ M (by rw [List.append_nil]; exact h) oZ.rf
    refine ⟨by omega, by omega, by omega, fun _ => fin, fun q => ⟨by omega, ?_⟩⟩
    cases O with
    | nil => rw [t0] at q; simp only [List.length_nil] at q; omega
    | cons c r =>
      have e : M 225 ((tot ((k, ph, bg, pr, [] ++ (c :: r)) :: fs) : Nat) - 1) = 23 - c := by
        rw [t0, show ((((c :: r).length + tot fs : Nat) : Int) - 1) = ((tot fs + r.length : Nat) : Int) by simp only [List.length_cons]; omega]
        exact k6.1
      rw [e]
      have rr := rkO_rng c
      exact y_rank ⟨hO.1, hO.2.1⟩ ⟨by omega, by omega, fun _ => fin, fun z => absurd hO.2.2 z⟩
  | c :: P, M, cs, h, hr, hc, ht, hQ => by
    have t0 : tot ((k, ph, bg, pr, (c :: P) ++ O) :: fs) = (P ++ O).length + 1 + tot fs := rfl
    obtain ⟨h1, h2, h3, h4, h5, h6, h7, h8, h9, k1, k2, k3, k4, k5, k6, k7⟩ := id h
    have d : M 199 41 - 1 = (fs.length : Nat) := by
      rw [h6]
      simp only [List.length_cons]
      omega
    have rc := hr c List.mem_cons_self
    have rr := rkO_rng c
    have la := List.length_append (as := P) (bs := O)
    simp only [List.length_cons] at hc ht
    unfold m_X12_joins_L0 m_X12_joins_J87
    rw [d, h8, k5]
    have e : M 225 ((tot ((k, ph, bg, pr, (c :: P) ++ O) :: fs) : Nat) - 1) = 23 - c := by
      rw [t0, show ((((P ++ O).length + 1 + tot fs : Nat) : Int) - 1) = ((tot fs + (P ++ O).length : Nat) : Int) by omega]
      exact k6.1
    refine ⟨by omega, by omega, by omega, fun q => by omega, fun _ => ⟨by omega, ?_⟩⟩
    rw [e]
    refine y_rank ⟨by omega, by omega⟩ ⟨by omega, by omega, fun z => by omega, fun _ M9 e9 => ?_⟩
    have g9 : M9 199 44 = (tot fs + (P ++ O).length : Nat) := by
      rw [e9, up_get, if_pos ⟨rfl, rfl⟩, h8, t0]
      omega
    have y9 : YM T g b c0 M9 s cs ((k, ph, bg, pr, P ++ O) :: fs) (o + nts (c :: P)) op := by
      obtain ⟨a1, a2, a3, a4, a5, a6, a7⟩ := h.slot e9 (by omega)
      obtain ⟨b1, b2, b3, b4, b5, b6, b7⟩ := a7
      refine ⟨a1, a2, a3, a4, a5, a6, by rw [e9, up_get, if_neg (by decide), h7], ?_, by rw [e9, up_get, if_neg (by decide), h9], b1, b2, b3, b4, b5, b6.2, b7⟩
      rw [g9, tot_c]
      dsimp only
      omega
    have e25 : M9 225 (M9 199 44) = 23 - c := by
      rw [g9, e9, up_ne _ (by decide)]
      exact k6.1
    rw [e25]
    refine ⟨by omega, y_add (c := c) hb y9 (by omega) (Or.inr (Or.inr ⟨by omega, rfl⟩)) fun M11 y11 z11 a11 o11 p11 => ?_⟩
    rw [p11, a11 225 (by decide), e25]
    have o9 : oZ b c0 M M9 := oZ.up e9 (by omega)
    have nt : nts (c :: P) = (if c = -20 then 1 else 0) + nts P := rfl
    refine ⟨by omega, by omega, fun q M14 e14 => ?_, fun q => ?_⟩
    · have q' : c = -20 := by omega
      rw [if_pos q'] at nt
      rw [y11.2.2.2.2.2.2.1, nt, show (((o + (1 + nts P) : Nat) : Int) - 1) = ((o + nts P : Nat) : Int) by omega] at e14
      refine y_joins_l hb hl hO hf P M14 (cs ++ [c]) (y11.opd e14) (fun x hx => hr x (List.mem_cons_of_mem _ hx)) (by rw [List.length_append, List.length_singleton]; omega) (by omega) fun M' y' z' => hQ M' ?_ (((o9.tr z11).tr (oZ.up e14 (by omega))).tr z')
      rw [List.append_assoc] at y'
      exact y'
    · have q' : ¬ c = -20 := by omega
      rw [if_neg q', Nat.zero_add] at nt
      rw [nt] at y11
      refine y_joins_l hb hl hO hf P M11 (cs ++ [c]) y11 (fun x hx => hr x (List.mem_cons_of_mem _ hx)) (by rw [List.length_append, List.length_singleton]; omega) (by omega) fun M' y' z' => hQ M' ?_ ((o9.tr z11).tr z')
      rw [List.append_assoc] at y'
      exact y'
theorem y_joins {Q : Mem → Prop} {k ph bg pr l : Int} {O P : List Int} (hb : b = 0 ∨ b = 1) (hl : 1 ≤ l ∧ l ≤ 6) (hO : hdL l O) (hf : fs.length < 20) (h : YM T g b c0 M s cs ((k, ph, bg, pr, P ++ O) :: fs) (o + nts P) op) (hr : rks l P) (hc : c0 + cs.length + P.length ≤ 1600) (ht : tot fs + P.length + O.length ≤ 500) (hQ : ∀ M', YM T g b c0 M' s (cs ++ P) ((k, ph, bg, pr, O) :: fs) o op → oZ b c0 M M' → Q M') : m_X12_joins l M Q := ⟨_, y_joins_l hb hl hO hf P M cs h hr hc ht hQ⟩
theorem y_pushes {Q : Mem → Prop} {k : Int} (h : YM T g b c0 M s cs fs o op) (hf : fs.length < 20) (hQ : ∀ M', YM T g b c0 M' s cs ((k, 0, 1, 23 - M 223 (fs.length : Nat), []) :: fs) o op → oZ b c0 M M' → Q M') : m_X12_pushes k M Q := by
  obtain ⟨h1, h2, h3, h4, h5, h6, h7, h8, h9, h10⟩ := h
  unfold m_X12_pushes
  rw [h6]
  refine ⟨by omega, fun M2 e2 => ?_⟩
  have g2 : M2 199 = M 199 := by rw [e2, up_ne _ (by decide)]
  rw [g2, h6]
  refine ⟨by omega, fun M4 e4 => ?_⟩
  have g4 : M4 199 = M 199 := by rw [e4, up_ne _ (by decide), g2]
  rw [g4, h6]
  refine ⟨by omega, fun M6 e6 => ?_⟩
  have g6 : M6 199 = M 199 := by rw [e6, up_ne _ (by decide), g4]
  rw [g6, h6]
  refine ⟨by omega, fun M8 e8 M9 e9 => ?_⟩
  have g8 : M8 199 = M 199 := by rw [e8, up_ne _ (by decide), g6]
  have z : ∀ j, j ≠ 41 → M9 199 j = M 199 j := fun j hj => by rw [e9, up_get, if_neg (by omega), g8]
  have y : ∀ a, a ≠ 199 → (a < 220 ∨ a = 223 ∨ 224 < a) → M9 a = M a := fun a a1 a2 => by
    rw [e9, up_ne _ a1, e8, up_ne _ (by omega), e6, up_ne _ (by omega), e4, up_ne _ (by omega), e2, up_ne _ (by omega)]
  refine hQ M9 ⟨?_, by rw [z 8 (by decide), h2], by rw [z 34 (by decide), h3], by rw [z 35 (by decide), h4], h5.off (z 33 (by decide)) (y 216 (by decide) (by decide)) (y 217 (by decide) (by decide)), ?_, by rw [z 42 (by decide), h7], ?_, by rw [z 45 (by decide), h9], ?_, ?_, ?_, ?_, ?_, trivial, h10.off (fun a a1 a2 i hi => ?_) (fun i _ => by rw [y 225 (by decide) (by decide)])⟩ (((((oZ.up e2 (by omega)).tr (oZ.up e4 (by omega))).tr (oZ.up e6 (by omega))).tr (oZ.up e8 (by omega))).tr (oZ.up e9 (by omega)))
  · unfold LY LYR rw1 at *
    rw [y 200 (by decide) (by decide), z 2 (by decide), z 4 (by decide), z 3 (by decide), z 12 (by decide), z 5 (by decide), z 7 (by decide), z 6 (by decide)]
    exact h1
  · rw [e9, up_get, if_pos ⟨rfl, rfl⟩, g8, h6]
    rfl
  · rw [z 44 (by decide), h8, tot_c]
    simp
  · rw [e9, up_ne _ (by decide), e8, up_ne _ (by decide), e6, up_ne _ (by decide), e4, up_ne _ (by decide), e2, up_get, if_pos ⟨rfl, rfl⟩]
  · rw [e9, up_ne _ (by decide), e8, up_ne _ (by decide), e6, up_ne _ (by decide), e4, up_get, if_pos ⟨rfl, rfl⟩]
  · rw [e9, up_ne _ (by decide), e8, up_ne _ (by decide), e6, up_get, if_pos ⟨rfl, rfl⟩]
  · rw [y 223 (by decide) (by decide)]
    show _ = 23 - (23 - _)
    omega
  · rw [e9, up_ne _ (by decide), e8, up_get, if_pos ⟨rfl, rfl⟩, h8]
  · rw [e9, up_ne _ (by omega), e8, up_get, if_neg (by omega), e6, up_get, if_neg (by omega), e4, up_get, if_neg (by omega), e2, up_get, if_neg (by omega)]
theorem y_isTest {Q : Int → Mem → Prop} {k : Int} (hk : inI k) (h : Q (if k = 1 ∨ k = 5 ∨ k = 6 then 1 else 0) M) : m_X12_isTest k M Q := by
  unfold m_X12_isTest m_X12_isTest_J16 m_X12_isTest_J21
  refine ⟨hk, fun q => ⟨by decide, ?_⟩, fun q => ⟨hk, fun q2 => ⟨by decide, ?_⟩, fun q2 => ⟨hk, fun q3 => ⟨by decide, ?_⟩, fun q3 => ⟨by decide, ?_⟩⟩⟩⟩
  · rwa [if_pos (by omega)] at h
  · rwa [if_pos (by omega)] at h
  · rwa [if_pos (by omega)] at h
  · rwa [if_neg (by omega)] at h
end
