/-! the class goes to the next token; its tests of a token -/
def ov (T : List Int) (s : Nat) : Int := if so T s = 1 ∧ (nm T s).length = 6 ∧ isLt T (s + 6) then (s : Int) + 6 else if so T s = 2 ∧ (dg T s).length = 4 ∧ isDt T (s + 4) then (s : Int) + 4 else -1
theorem bd_ov {T : List Int} {s : Nat} : bd T s = if (so T s = 1 ∨ so T s = 2) ∧ adj T s then (s : Int) else ov T s := by
  unfold bd ov
  by_cases c1 : so T s = 1
  · have c2 : ¬ so T s = 2 := by omega
    simp only [c1, true_or, true_and, if_true, show ¬ (1 : Int) = 2 by decide, false_and, if_false]
  · by_cases c2 : so T s = 2
    · simp only [c2, or_true, true_and, if_true, show ¬ (2 : Int) = 1 by decide, false_and, if_false]
    · simp only [c1, c2, or_self, false_and, if_false]
theorem ov_so {T : List Int} {s : Nat} (h : ov T s ≠ -1) : so T s = 1 ∨ so T s = 2 := by
  unfold ov at h
  by_cases c1 : so T s = 1
  · exact Or.inl c1
  · by_cases c2 : so T s = 2
    · exact Or.inr c2
    · rw [if_neg (fun q => c1 q.1), if_neg (fun q => c2 q.1)] at h
      exact absurd rfl h
theorem ov_w {T : List Int} {s : Nat} (h : so T s = 1) : ov T s = if (nm T s).length = 6 ∧ isLt T (s + 6) then (s : Int) + 6 else -1 := by
  unfold ov
  rw [if_neg (show ¬ (so T s = 2 ∧ (dg T s).length = 4 ∧ isDt T (s + 4)) by omega)]
  simp only [h, true_and]
theorem ov_d {T : List Int} {s : Nat} (h : so T s = 2) : ov T s = if (dg T s).length = 4 ∧ isDt T (s + 4) then (s : Int) + 4 else -1 := by
  unfold ov
  rw [if_neg (show ¬ (so T s = 1 ∧ (nm T s).length = 6 ∧ isLt T (s + 6)) by omega)]
  simp only [h, true_and]
theorem ov_ne {T : List Int} {s : Nat} : ov T s = -1 ∨ (s : Int) < ov T s := by
  unfold ov
  repeat' split
  all_goals omega
/-- before it is seen whether the token stands right behind another word -/
def PX (M : Mem) (T : List Int) (s : Nat) : Prop := LR M T ∧ s ≤ T.length ∧ M 1 3 = (s : Nat) ∧ M 1 9 = (en T s : Nat) ∧ M 1 2 = (if ov T s = -1 then so T s else 4) ∧ M 1 10 = (if ov T s = -1 then (s : Int) else ov T s) ∧ (so T s = 1 → M 1 4 = pkX (nm T s) ∧ M 1 5 = ow T s) ∧ (so T s = 2 → M 1 4 = nv (dg T s)) ∧ (so T s = 3 → M 1 4 = tc T s)
section
variable {M : Mem} {T : List Int} {Q : Mem → Prop}
theorem PX.lx {s : Nat} (h : PX M T s) (hb : bd T s = ov T s) : LX M T s := by
  obtain ⟨⟨r1, r2, r3⟩, h1, h2, h3, h4, h5, h6⟩ := h
  exact ⟨r1, r2, r3, h1, h2, by unfold wr; rw [hb]; exact h5, by rw [hb]; exact h4, fun _ => ⟨h3, h6⟩⟩
theorem x_J183 {s e : Nat} {v1 : Int} (hT : TB T) (hv : v1 = 0 ∨ v1 = 1) (ha : (v1 = 1 ∧ s = e) ↔ adj T s) (hl : e ≤ T.length) (hp : PX M T s) (h : ∀ M', LX M' T s → oT M M' → Q M') : m_X7_advance_J183 Q v1 (e : Nat) M := by
  obtain ⟨r, h1, h2, h3, h4, h5, h6⟩ := id hp
  have tl := hT.1
  have sr := so_rng T s
  unfold m_X7_advance_J183 m_X7_advance_J223
  rw [h2, h4]
  refine ⟨by omega, fun q => h M (hp.lx ?_) oT.rf, fun q => ⟨by omega, by omega, fun q2 => ⟨by split <;> omega, fun q3 => h M (hp.lx ?_) oT.rf, fun q3 => ⟨by split <;> omega, fun q4 => h M (hp.lx ?_) oT.rf, fun q4 M6 e6 M7 e7 => ?_⟩⟩, fun q2 => h M (hp.lx ?_) oT.rf⟩⟩
  · rw [bd_ov, if_neg (fun z => by have := ha.mpr z.2; omega)]
  · rw [bd_ov, if_neg (fun z => by split at q3 <;> omega)]
  · rw [bd_ov, if_neg (fun z => by split at q4 <;> omega)]
  · have o6 : oT M M6 := oT.up e6 (by decide) (by decide) (by decide)
    have o7 : oT M6 M7 := oT.up e7 (by decide) (by decide) (by decide)
    have aj : adj T s := ha.mp (by omega)
    have s12 : so T s = 1 ∨ so T s = 2 := by
      by_cases c : ov T s = -1
      · rw [if_pos c] at q3 q4
        omega
      · exact ov_so c
    have b : bd T s = (s : Int) := by rw [bd_ov, if_pos ⟨s12, aj⟩]
    have r7 := (r.oT o6).oT o7
    refine h M7 ⟨r7.1, r7.2.1, r7.2.2, h1, ?_, ?_, ?_, fun z => by rw [b] at z; omega⟩ (o6.tr o7)
    · rw [e7, up_get, if_neg (by decide), e6, up_get, if_neg (by decide), h2]
    · rw [e7, up_get, if_pos ⟨rfl, rfl⟩, e6, up_get, if_neg (by decide), h2]
      unfold wr
      rw [b]
      split <;> omega
    · rw [e7, up_get, if_neg (by decide), e6, up_get, if_pos ⟨rfl, rfl⟩, b, if_neg (by omega)]
  · rw [bd_ov, if_neg (fun z => by have := ha.mpr z.2; omega)]
theorem x_J79 {s e : Nat} {v1 : Int} (hT : TB T) (hv : v1 = 0 ∨ v1 = 1) (ha : (v1 = 1 ∧ s = e) ↔ adj T s) (hl : e ≤ T.length) (hs : s ≤ T.length) (hr : LR M T) (h9 : M 1 9 = (s : Nat)) (h : ∀ M', LX M' T s → oT M M' → Q M') : m_X7_advance_J79 Q v1 (e : Nat) M := by
  have tl := hT.1
  unfold m_X7_advance_J79
  intro M8 e8 M9 e9 M10 e10
  have o8 : oT M M8 := oT.up e8 (by decide) (by decide) (by decide)
  have o9 : oT M8 M9 := oT.up e9 (by decide) (by decide) (by decide)
  have o10 : oT M9 M10 := oT.up e10 (by decide) (by decide) (by decide)
  have o : oT M M10 := (o8.tr o9).tr o10
  have r10 := hr.oT o
  have f9 : M10 1 9 = (s : Nat) := by rw [e10, up_get, if_neg (by decide), e9, up_get, if_neg (by decide), e8, up_get, if_neg (by decide), h9]
  have f3 : M10 1 3 = (s : Nat) := by rw [e10, up_get, if_neg (by decide), e9, up_get, if_neg (by decide), e8, up_get, if_pos ⟨rfl, rfl⟩, h9]
  have fa : M10 1 10 = (s : Nat) := by rw [e10, up_get, if_neg (by decide), e9, up_get, if_pos ⟨rfl, rfl⟩, e8, up_get, if_neg (by decide), h9]
  have f5 : M10 1 5 = -1 := by rw [e10, up_get, if_pos ⟨rfl, rfl⟩]
  have tr := tc_rng hT s
  rw [f9, r10.1]
  refine ⟨by omega, by omega, fun q => ?_, fun q => ?_⟩
  · refine x_letterAt r10.1 r10.2.1 hT (by omega) ⟨by split <;> omega, fun q2 => ?_, fun q2 => ?_⟩
    · have nl : ¬ isLt T s := fun c => by
        rw [if_pos c] at q2
        omega
      rw [f9]
      refine x_digitAt r10.1 r10.2.1 hT (by omega) ⟨by split <;> omega, fun q3 M19 e19 => ?_, fun q3 => ?_⟩
      · have nd : ¬ isDt T s := fun c => by
          rw [if_pos c] at q3
          omega
        have s3 : so T s = 3 := by
          have := so_rng T s
          have := so_0 (T := T) (s := s)
          have := mt so_1.mp nl
          have := mt so_2.mp nd
          omega
        have o19 : oT M10 M19 := oT.up e19 (by decide) (by decide) (by decide)
        have g9 : M19 1 9 = (s : Nat) := by rw [e19, up_get, if_neg (by decide), f9]
        rw [g9]
        refine ⟨by omega, fun M21 e21 M22 e22 => ?_⟩
        have o21 : oT M19 M21 := oT.up e21 (by decide) (by decide) (by decide)
        have o22 : oT M21 M22 := oT.up e22 (by decide) (by decide) (by decide)
        have o' := (o19.tr o21).tr o22
        have rr := r10.oT o19
        refine x_J183 hT hv ha hl ⟨r10.oT o', hs, ?_, ?_, ?_, ?_, fun z => by omega, fun z => by omega, fun _ => ?_⟩ (fun M' l' o2 => h M' l' ((o.tr o').tr o2))
        · rw [e22, up_get, if_neg (by decide), e21, up_get, if_neg (by decide), e19, up_get, if_neg (by decide), f3]
        · rw [e22, up_get, if_pos ⟨rfl, rfl⟩, e21, up_get, if_neg (by decide), g9]
          unfold en
          rw [if_neg (by omega), if_neg (by omega), if_pos s3]
          omega
        · rw [e22, up_get, if_neg (by decide), e21, up_get, if_neg (by decide), e19, up_get, if_pos ⟨rfl, rfl⟩]
          have : ov T s = -1 := Decidable.byContradiction fun c => by have := ov_so c; omega
          rw [if_pos this, s3]
        · rw [e22, up_get, if_neg (by decide), e21, up_get, if_neg (by decide), e19, up_get, if_neg (by decide), fa]
          have : ov T s = -1 := Decidable.byContradiction fun c => by have := ov_so c; omega
          rw [if_pos this]
        · rw [e22, up_get, if_neg (by decide), e21, up_get, if_pos ⟨rfl, rfl⟩]
          exact rr.2.1 s (by omega)
      · have nd : isDt T s := Decidable.byContradiction fun c => by
          rw [if_neg c] at q3
          omega
        have s2 := so_2.mpr nd
        unfold m_X7_readNumber
        intro M14 e14 M15 e15
        have o14 : oT M10 M14 := oT.up e14 (by decide) (by decide) (by decide)
        have o15 : oT M14 M15 := oT.up e15 (by decide) (by decide) (by decide)
        have g9 : M15 1 9 = (s : Nat) := by rw [e15, up_get, if_neg (by decide), e14, up_get, if_neg (by decide), f9]
        have r15 := (r10.oT o14).oT o15
        have k2 : M15 1 2 = 2 := by rw [e15, up_get, if_neg (by decide), e14, up_get, if_pos ⟨rfl, rfl⟩]
        have k3 : M15 1 3 = (s : Nat) := by rw [e15, up_get, if_neg (by decide), e14, up_get, if_neg (by decide), f3]
        have ka : M15 1 10 = (s : Nat) := by rw [e15, up_get, if_neg (by decide), e14, up_get, if_neg (by decide), fa]
        refine ⟨5, x_num_l (M := M15) hT nd (fun M' o' z v4 v9 vv => ?_) 4 0 M15 (by omega) (by omega) r15 oT.rf (fun _ _ _ => rfl) (by rw [e15, up_get, if_pos ⟨rfl, rfl⟩]; rfl) (by rw [g9]; rfl)⟩
        refine x_J183 hT hv ha hl ⟨r15.oT o', hs, by rw [z 3 (by decide) (by decide) (by decide) (by decide), k3], ?_, ?_, ?_, fun z => by omega, fun _ => v4, fun z => by omega⟩ (fun M2 l2 o2 => h M2 l2 ((((o.tr o14).tr o15).tr o').tr o2))
        · rw [v9]
          unfold en
          rw [if_neg (by omega), if_pos s2]
        · rw [ov_d s2]
          by_cases c : (dg T s).length = 4 ∧ isDt T (s + 4)
          · rw [if_pos c, if_neg (by omega), (vv.2 c).1]
          · rw [if_neg c, if_pos rfl, (vv.1 c).1, k2, s2]
        · rw [ov_d s2]
          by_cases c : (dg T s).length = 4 ∧ isDt T (s + 4)
          · rw [if_pos c, if_neg (by omega), (vv.2 c).2]
          · rw [if_neg c, if_pos rfl, (vv.1 c).2, ka]
    · have nl : isLt T s := Decidable.byContradiction fun c => by
        rw [if_neg c] at q2
        omega
      have s1 := so_1.mpr nl
      unfold m_X7_readWord
      intro M14 e14 M15 e15
      have o14 : oT M10 M14 := oT.up e14 (by decide) (by decide) (by decide)
      have o15 : oT M14 M15 := oT.up e15 (by decide) (by decide) (by decide)
      have g9 : M15 1 9 = (s : Nat) := by rw [e15, up_get, if_neg (by decide), e14, up_get, if_neg (by decide), f9]
      have r15 := (r10.oT o14).oT o15
      have k2 : M15 1 2 = 1 := by rw [e15, up_get, if_neg (by decide), e14, up_get, if_pos ⟨rfl, rfl⟩]
      have k3 : M15 1 3 = (s : Nat) := by rw [e15, up_get, if_neg (by decide), e14, up_get, if_neg (by decide), f3]
      have ka : M15 1 10 = (s : Nat) := by rw [e15, up_get, if_neg (by decide), e14, up_get, if_neg (by decide), fa]
      have k5 : M15 1 5 = -1 := by rw [e15, up_get, if_neg (by decide), e14, up_get, if_neg (by decide), f5]
      refine ⟨7, x_word_l (M := M15) hT nl (fun M' o' z v4 v5 v9 vv => ?_) 6 0 M15 (by omega) r15 oT.rf (fun _ _ _ => rfl) k5 (by rw [e15, up_get, if_pos ⟨rfl, rfl⟩]; rfl) (by rw [g9]; have := nm_pos nl; rw [if_pos (by omega)]; rfl)⟩
      refine x_J183 hT hv ha hl ⟨r15.oT o', hs, by rw [z 3 (by decide) (by decide) (by decide) (by decide) (by decide), k3], ?_, ?_, ?_, fun _ => ⟨v4, v5⟩, fun z => by omega, fun z => by omega⟩ (fun M2 l2 o2 => h M2 l2 ((((o.tr o14).tr o15).tr o').tr o2))
      · rw [v9]
        unfold en
        rw [if_pos s1]
      · rw [ov_w s1]
        by_cases c : (nm T s).length = 6 ∧ isLt T (s + 6)
        · rw [if_pos c, if_neg (by omega), (vv.2 c).1]
        · rw [if_neg c, if_pos rfl, (vv.1 c).1, k2, s1]
      · rw [ov_w s1]
        by_cases c : (nm T s).length = 6 ∧ isLt T (s + 6)
        · rw [if_pos c, if_neg (by omega), (vv.2 c).2]
        · rw [if_neg c, if_pos rfl, (vv.1 c).2, ka]
  · intro M25 e25
    have o25 : oT M10 M25 := oT.up e25 (by decide) (by decide) (by decide)
    have s0 : so T s = 0 := so_0.mpr (by omega)
    have vo : ov T s = -1 := Decidable.byContradiction fun c => by have := ov_so c; omega
    refine x_J183 hT hv ha hl ⟨r10.oT o25, hs, ?_, ?_, ?_, ?_, fun z => by omega, fun z => by omega, fun z => by omega⟩ (fun M' l' o2 => h M' l' ((o.tr o25).tr o2))
    · rw [e25, up_get, if_neg (by decide), f3]
    · rw [e25, up_get, if_neg (by decide), f9]
      unfold en
      rw [if_neg (by omega), if_neg (by omega), if_neg (by omega)]
    · rw [e25, up_get, if_pos ⟨rfl, rfl⟩, if_pos vo, s0]
    · rw [e25, up_get, if_neg (by decide), if_pos vo, fa]
theorem x_skip_l {s e : Nat} {v1 : Int} (hT : TB T) (hv : v1 = 0 ∨ v1 = 1) (ha : (v1 = 1 ∧ s = e) ↔ adj T s) (hl : e ≤ T.length) (hs : s ≤ T.length) :
    ∀ (d n : Nat) (M : Mem), n + d = T.length → skT T n = s → LR M T → M 1 9 = (n : Nat) → (∀ M', LX M' T s → oT M M' → Q M') → m_X7_advance_L27 Q v1 (e : Nat) (d + 1) M
  | 0, n, M, hn, hk, hr, h9, h => by
    have tl := hT.1
    unfold m_X7_advance_L27
    rw [h9, hr.1]
    refine ⟨by omega, by omega, fun _ => ?_, fun q => by omega⟩
    rw [sk_end (by omega)] at hk
    subst hk
    exact x_J79 hT hv ha hl hs hr h9 h
  | d + 1, n, M, hn, hk, hr, h9, h => by
    have tl := hT.1
    unfold m_X7_advance_L27 m_X7_advance_J66
    have e2 : M 2 n = tc T n := hr.2.1 n (by omega)
    have r := tc_rng hT n
    have go : isB (tc T n) → ∀ M26 : Mem, M26 = up M 1 9 (M 1 9 + 1) → m_X7_advance_L27 Q v1 (e : Nat) (d + 1) M26 := fun hb M26 e26 => by
      have o26 : oT M M26 := oT.up e26 (by decide) (by decide) (by decide)
      rw [sk_b (by omega) hb] at hk
      refine x_skip_l hT hv ha hl hs d (n + 1) M26 (by omega) hk (hr.oT o26) ?_ (fun M' l o => h M' l (o26.tr o))
      rw [e26, up_get, if_pos ⟨rfl, rfl⟩, h9]
      rfl
    rw [h9, hr.1] 
    rw [h9] at go
    rw [e2]
    refine ⟨by omega, by omega, fun q => by omega, fun _ => ⟨by omega, by omega, fun q => go (Or.inl q), fun q => ⟨by omega, by omega, fun q2 => go (Or.inr q2), fun q2 => ?_⟩⟩⟩
    rw [sk_n (by omega) (by intro z; rcases z with z | z <;> contradiction)] at hk
    subst hk
    exact x_J79 hT hv ha hl hs hr h9 h
theorem x_adv0 {e : Nat} (hT : TB T) (hr : LR M T) (he : e ≤ T.length) (h9 : M 1 9 = (e : Nat)) (hk : 0 ≤ M 1 2 ∧ M 1 2 ≤ 3) (hka : (M 1 2 = 1 ∨ M 1 2 = 2) ↔ adj T e) (h : ∀ M', LX M' T (skT T e) → oT M M' → Q M') : m_X7_advance M Q := by
  have kr := sk_rng (T := T) (T.length - e) e (by omega)
  have aj : adj T (skT T e) ↔ skT T e = e ∧ adj T e := by
    rcases kr.2.2 with c | c
    · rw [c]
      simp
    · constructor
      · intro z
        have := z.2
        rcases c.2 with b | b <;> (unfold isA isL isD at this; rw [b] at this; omega)
      · intro z
        omega
  unfold m_X7_advance m_X7_advance_J16 m_X7_advance_J21
  have yes : (M 1 2 = 1 ∨ M 1 2 = 2) → m_X7_advance_L27 Q 1 (M 1 9) (T.length - e + 1) M := fun z => by
    rw [h9]
    exact x_skip_l (s := skT T e) hT (Or.inr rfl) (by rw [aj]; exact ⟨fun q => ⟨q.2, hka.mp z⟩, fun q => ⟨rfl, q.1⟩⟩) he kr.2.1 (T.length - e) e M (by omega) rfl hr h9 h
  refine ⟨by omega, fun q => ⟨_, yes (Or.inl q)⟩, fun q => ⟨by omega, fun q2 => ⟨_, yes (Or.inr q2)⟩, fun q2 => ⟨T.length - e + 1, ?_⟩⟩⟩
  rw [h9]
  exact x_skip_l (s := skT T e) hT (Or.inl rfl) (by rw [aj]; exact ⟨fun z => absurd z.1 (by decide), fun z => by have := hka.mpr z.2; omega⟩) he kr.2.1 (T.length - e) e M (by omega) rfl hr h9 h
/-- from one token to the next -/
theorem x_adv {s : Nat} (hT : TB T) (hx : LX M T s) (hb : bd T s = -1) (h0 : so T s ≠ 0) (h : ∀ M', LX M' T (nx T s) → oT M M' → Q M') : m_X7_advance M Q := by
  obtain ⟨r1, r2, r3, h1, h2, h3, h4, h5⟩ := hx
  have ee := en_rng h1
  have sr := so_rng T s
  rw [if_pos hb] at h4
  refine x_adv0 (e := en T s) hT ⟨r1, r2, r3⟩ ee.2.1 (h5 hb).1 (by omega) ?_ h
  rw [h4]
  constructor
  · intro z
    exact ⟨by have := ee.2.2.1 h0; omega, ee.2.2.2.1 z⟩
  · intro z
    refine Decidable.byContradiction fun c => ?_
    exact ee.2.2.2.2 (by omega) z.2
end
