/-! the value of a formula: both machines work the same list of codes out -/
def offR (a0 : Int) (M M' : Mem) : Prop := ∀ a, a ≠ a0 → M' a = M a
theorem offR.up {a0 k v : Int} {M M0 M1 : Mem} (h : offR a0 M0 M) (e : M1 = up M a0 k v) : offR a0 M0 M1 := fun a ha => by
  rw [e, up_ne _ ha, h a ha]
/-- one code: what it does to the sorts and to the stack -/
theorem vs_ok {env : Int → Int} (he : envB env) {c : Int} {cs : List Int} {ts : List Bool} {st : List Int} (hw : wfP (c :: cs) ts) (hs : stB ts st) (hh : ts.length ≤ 60) : ∃ ts', wfP cs ts' ∧ stB ts' (vsP env c st) ∧ ts'.length ≤ 60 := by
  obtain ⟨c1, c2, w1, w2, w3, w4, w5, w6, w7⟩ := hw
  by_cases k1 : 0 ≤ c
  · obtain ⟨l1, b, hb, w⟩ := w1 k1
    refine ⟨b :: ts, w, ?_, by simp; omega⟩
    unfold vsP
    rw [if_pos k1]
    exact ⟨c, st, rfl, by omega, by omega, fun z => by have := hb z; omega, hs⟩
  by_cases k2 : -7 ≤ c
  · obtain ⟨l1, w⟩ := w2 k2 (by omega)
    refine ⟨false :: ts, w, ?_, by simp; omega⟩
    unfold vsP
    rw [if_neg k1, if_pos k2]
    exact ⟨_, st, rfl, (he _).1, (he _).2, (fun z => by cases z), hs⟩
  by_cases k3 : c = -20
  · obtain ⟨r, rfl, w⟩ := w3 k3
    obtain ⟨v, s1, rfl, v1, v2, v3, h1⟩ := hs
    refine ⟨true :: r, w, ?_, by simp at hh ⊢; omega⟩
    have := v3 rfl
    simp only [vsP, if_neg k1, if_neg k2, if_pos k3]
    exact ⟨1 - v, s1, rfl, by omega, by omega, fun _ => by omega, h1⟩
  by_cases k4 : c = -21
  · obtain ⟨x, y, z, r, rfl, w⟩ := w4 k4
    obtain ⟨v, s1, rfl, v1, v2, -, u, s2, rfl, u1, u2, -, t, s3, rfl, t1, t2, -, h1⟩ := hs
    refine ⟨false :: r, w, ?_, by simp at hh ⊢; omega⟩
    simp only [vsP, if_neg k1, if_neg k2, if_neg k3, if_pos k4]
    refine ⟨_, s3, rfl, ?_, ?_, (fun z => by cases z), h1⟩ <;> split <;> omega
  have two : ∀ {x y : Bool} {r : List Bool}, stB (x :: y :: r) st → ∃ b a s2, st = b :: a :: s2 ∧ bnd b ∧ bnd a ∧ (x = true → b = 0 ∨ b = 1) ∧ (y = true → a = 0 ∨ a = 1) ∧ stB r s2 ∧ vsP env c st = clampP (jnP c a b) :: s2 := by
    intro x y r h
    obtain ⟨b, s1, rfl, v1, v2, v3, a, s2, rfl, u1, u2, u3, h1⟩ := h
    refine ⟨b, a, s2, rfl, ⟨v1, v2⟩, ⟨u1, u2⟩, v3, u3, h1, ?_⟩
    simp only [vsP, if_neg k1, if_neg k2, if_neg k3, if_neg k4]
  have cl := fun v => clampP_rng v
  by_cases k5 : c = -18 ∨ c = -19
  · obtain ⟨r, rfl, w⟩ := w5 k5
    obtain ⟨b, a, s2, rfl, hb, ha, b1, a1, h1, e⟩ := two hs
    refine ⟨true :: r, w, ?_, by simp at hh ⊢; omega⟩
    rw [e]
    refine ⟨_, s2, rfl, (cl _).1, (cl _).2, fun _ => ?_, h1⟩
    rcases b1 rfl with rfl | rfl <;> rcases a1 rfl with rfl | rfl <;> rcases k5 with rfl | rfl <;> decide +kernel
  by_cases k6 : c ≤ -15
  · obtain ⟨x, y, r, rfl, w⟩ := w6 (by omega) k6
    obtain ⟨b, a, s2, rfl, hb, ha, b1, a1, h1, e⟩ := two hs
    refine ⟨true :: r, w, ?_, by simp at hh ⊢; omega⟩
    rw [e]
    refine ⟨_, s2, rfl, (cl _).1, (cl _).2, fun _ => ?_, h1⟩
    rcases (show c = -15 ∨ c = -16 ∨ c = -17 by omega) with rfl | rfl | rfl <;> simp only [jnP, Int.reduceNeg, Int.reduceEq, if_false, if_true] <;> split <;> decide
  · obtain ⟨x, y, r, rfl, w⟩ := w7 (by omega) (by omega)
    obtain ⟨b, a, s2, rfl, hb, ha, b1, a1, h1, e⟩ := two hs
    refine ⟨false :: r, w, ?_, by simp at hh ⊢; omega⟩
    rw [e]
    exact ⟨_, s2, rfl, (cl _).1, (cl _).2, (fun z => by cases z), h1⟩
theorem clamp_x (v : Int) : (if (-1000000 : Int) < (if v < 1000000 then v else 1000000) then (if v < 1000000 then v else 1000000) else -1000000) = clampP v := by
  unfold clampP
  repeat' split
  all_goals omega
theorem evs_push {env : Int → Int} {c : Int} {st : List Int} (h : 0 ≤ c) : vsP env c st = c :: st := by
  unfold vsP
  rw [if_pos h]
theorem evs_known {env : Int → Int} {c : Int} {st : List Int} (h : ¬ 0 ≤ c) (h2 : -7 ≤ c) : vsP env c st = env (-1 - c) :: st := by
  unfold vsP
  rw [if_neg h, if_pos h2]
theorem evs_not {env : Int → Int} {b : Int} {st : List Int} : vsP env (-20) (b :: st) = (1 - b) :: st := rfl
theorem evs_if {env : Int → Int} {a b t : Int} {st : List Int} : vsP env (-21) (b :: a :: t :: st) = (if t = 1 then a else b) :: st := rfl
theorem evs_two {env : Int → Int} {c a b : Int} {st : List Int} (h : c < -7) (h2 : ¬ c = -20) (h3 : ¬ c = -21) : vsP env c (b :: a :: st) = clampP (jnP c a b) :: st := by
  unfold vsP
  rw [if_neg (by omega), if_neg (by omega)]
  simp only [if_neg h2, if_neg h3]
/-- the stack under a code that takes two -/
theorem wf_two {c : Int} {cs : List Int} {ts : List Bool} {st : List Int} (hw : wfP (c :: cs) ts) (hs : stB ts st) (h : c < -7) (h2 : ¬ c = -20) (h3 : ¬ c = -21) : ∃ b a s2, st = b :: a :: s2 ∧ bnd b ∧ bnd a ∧ (c = -18 ∨ c = -19 → (b = 0 ∨ b = 1) ∧ (a = 0 ∨ a = 1)) := by
  obtain ⟨c1, c2, w1, w2, w3, w4, w5, w6, w7⟩ := hw
  by_cases k5 : c = -18 ∨ c = -19
  · obtain ⟨r, rfl, w⟩ := w5 k5
    obtain ⟨b, s1, rfl, v1, v2, v3, a, s2, rfl, u1, u2, u3, h1⟩ := hs
    exact ⟨b, a, s2, rfl, ⟨v1, v2⟩, ⟨u1, u2⟩, fun _ => ⟨v3 rfl, u3 rfl⟩⟩
  by_cases k6 : c ≤ -15
  · obtain ⟨x, y, r, rfl, w⟩ := w6 (by omega) k6
    obtain ⟨b, s1, rfl, v1, v2, v3, a, s2, rfl, u1, u2, u3, h1⟩ := hs
    exact ⟨b, a, s2, rfl, ⟨v1, v2⟩, ⟨u1, u2⟩, fun z => absurd z k5⟩
  · obtain ⟨x, y, r, rfl, w⟩ := w7 (by omega) (by omega)
    obtain ⟨b, s1, rfl, v1, v2, v3, a, s2, rfl, u1, u2, u3, h1⟩ := hs
    exact ⟨b, a, s2, rfl, ⟨v1, v2⟩, ⟨u1, u2⟩, fun z => absurd z k5⟩
theorem wf_not {cs : List Int} {ts : List Bool} {st : List Int} (hw : wfP (-20 :: cs) ts) (hs : stB ts st) : ∃ b s1, st = b :: s1 ∧ bnd b := by
  obtain ⟨r, rfl, -⟩ := hw.2.2.2.2.1 rfl
  obtain ⟨b, s1, rfl, v1, v2, -⟩ := hs
  exact ⟨b, s1, rfl, v1, v2⟩
theorem wf_if {cs : List Int} {ts : List Bool} {st : List Int} (hw : wfP (-21 :: cs) ts) (hs : stB ts st) : ∃ b a t s1, st = b :: a :: t :: s1 ∧ bnd b ∧ bnd a ∧ bnd t := by
  obtain ⟨x, y, z, r, rfl, -⟩ := hw.2.2.2.2.2.1 rfl
  obtain ⟨b, s1, rfl, v1, v2, -, a, s2, rfl, u1, u2, -, t, s3, rfl, t1, t2, -⟩ := hs
  exact ⟨b, a, t, s3, rfl, ⟨v1, v2⟩, ⟨u1, u2⟩, t1, t2⟩
set_option maxHeartbeats 2000000 in
/-- one code in the class's loop -/
theorem x_val_step {o kn : Int} {env : Int → Int} {M0 M : Mem} {Q : Int → Mem → Prop} {f : Nat} {c : Int} {cs : List Int} {ts : List Bool} {st : List Int} {k : Nat} {n : Int} (hkn : ln kn = 7) (d1 : kn ≠ o + 2) (hl2 : ln (o + 2) = 64) (hen : -7 ≤ c → c < 0 → M0 kn (-1 - c) = env (-1 - c))
    (hw : wfP (c :: cs) ts) (hs : stB ts st) (hh : ts.length ≤ 60) (hr : repS (M (o + 2)) st) (hf : offR (o + 2) M0 M) (hn : M o 2 = n) (hkn2 : (k : Int) < n) (hn2 : n ≤ 1600) (hc0 : M (o + 1) k = c)
    (go : ∀ M1 : Mem, repS (M1 (o + 2)) (vsP env c st) → offR (o + 2) M0 M1 → m_X1_value_L4 Q o kn f ((vsP env c st).length : Nat) ((k : Int) + 1) M1) : m_X1_value_L4 Q o kn (f + 1) (st.length : Nat) k M := by
  have hl := stB_len hs
  have hcr : -21 ≤ c ∧ c ≤ 9999 := ⟨hw.2.1, hw.1⟩
  have hb60 := hw.2.2.1
  have hb61 := hw.2.2.2.1
  unfold m_X1_value_L4
  rw [hc0, hn]
  refine ⟨by omega, by omega, fun q => by omega, fun _ => ⟨by omega, fun q => by omega, fun _ => ⟨by omega, by omega, fun q1 => ⟨by omega, fun q2 => ⟨by omega, fun q3 => ?_, fun q3 => ?_⟩, fun q2 => ?_⟩, fun q1 => ?_⟩⟩⟩
  · -- not
    subst q3
    obtain ⟨b, s1, rfl, bb⟩ := wf_not hw hs
    simp only [List.length_cons] at *
    refine ⟨by omega, fun q => by omega, fun _ => ⟨by omega, by omega, fun M1 e1 => ?_⟩⟩
    have e0 : ((s1.length + 1 : Nat) : Int) - 1 = (s1.length : Nat) := by omega
    rw [e0, hr.1] at e1
    unfold m_X1_value_J212
    refine go M1 ?_ (hf.up e1)
    rw [e1, up_row, evs_not]
    exact ⟨by simp [upR], repS_up (by omega) hr.2⟩
  · have two : ∀ (_ : ¬ c = -21), m_X1_value_J158 (m_X1_value_L4 Q o kn f) Q o kn (st.length : Nat) k c M := by
      intro q4
      obtain ⟨b, a, s2, rfl, bb, ba, -⟩ := wf_two hw hs q2 q3 q4
      simp only [List.length_cons] at *
      unfold m_X1_value_J158 m_X1_value_J212
      have e0 : ((s2.length + 1 + 1 : Nat) : Int) + (-1) = (s2.length + 1 : Nat) := by omega
      have e1 : ((s2.length + 1 : Nat) : Int) - 1 = (s2.length : Nat) := by omega
      rw [e0, e1, show M (o + 2) ((s2.length + 1 : Nat) : Int) = b from hr.1, show M (o + 2) (s2.length : Nat) = a from hr.2.1]
      refine ⟨by omega, fun q => by omega, fun _ => ⟨by omega, by omega, by omega, by omega, x_joined (by omega) ba bb fun hj => j_minl (by decide) hj (j_maxl (by decide) (by split <;> omega) ⟨by omega, fun M1 e2 => ?_⟩)⟩⟩
      rw [clamp_x] at e2
      have g := go M1 (by rw [e2, up_row, evs_two q2 q3 q4]; exact ⟨by simp [upR], repS_up (by omega) hr.2.2⟩) (hf.up e2)
      rw [evs_two q2 q3 q4] at g
      exact g
    unfold m_X1_value_J103
    refine ⟨by omega, fun q4 => ?_, fun q4 => two q4⟩
    subst q4
    obtain ⟨b, a, t, s1, rfl, bb, ba, bt⟩ := wf_if hw hs
    simp only [List.length_cons] at *
    have e0 : ((s1.length + 1 + 1 + 1 : Nat) : Int) + (-2) = (s1.length + 1 : Nat) := by omega
    have e1 : ((s1.length + 1 : Nat) : Int) - 1 = (s1.length : Nat) := by omega
    have e2 : ((s1.length + 1 : Nat) : Int) + 1 = (s1.length + 1 + 1 : Nat) := by omega
    rw [e0, e1, e2, show M (o + 2) ((s1.length + 1 + 1 : Nat) : Int) = b from hr.1, show M (o + 2) ((s1.length + 1 : Nat) : Int) = a from hr.2.1, show M (o + 2) (s1.length : Nat) = t from hr.2.2.1]
    have fin : ∀ v, v = (if t = 1 then a else b) → m_X1_value_J154 (m_X1_value_L4 Q o kn f) Q o kn (s1.length + 1 : Nat) k (o + 2) (s1.length : Nat) v M := by
      intro v ev
      unfold m_X1_value_J154 m_X1_value_J212
      rw [hl2]
      refine ⟨by omega, fun M1 e3 => ?_⟩
      have g := go M1 (by rw [e3, up_row, evs_if, ← ev]; exact ⟨by simp [upR], repS_up (by omega) hr.2.2.2⟩) (hf.up e3)
      rw [evs_if] at g
      exact g
    exact ⟨by omega, fun q => by omega, fun _ => ⟨by omega, by omega, fun q => ⟨by omega, fin a (by rw [if_pos q])⟩, fun q => ⟨by omega, fin b (by rw [if_neg q])⟩⟩⟩
  · have := (hb61 (by omega) q1).1
    rw [hkn]
    refine ⟨by omega, by omega, fun M1 e1 => ?_⟩
    rw [hf kn d1, hen (by omega) (by omega)] at e1
    unfold m_X1_value_J212
    have g := go M1 (by rw [e1, up_row, evs_known (by omega) (by omega)]; exact ⟨by simp [upR], repS_up (by omega) hr⟩) (hf.up e1)
    rw [evs_known (by omega) (by omega)] at g
    exact g
  · have := (hb60 (by omega)).1
    refine ⟨by omega, fun M1 e1 => ?_⟩
    unfold m_X1_value_J212
    have g := go M1 (by rw [e1, up_row, evs_push (by omega)]; exact ⟨by simp [upR], repS_up (by omega) hr⟩) (hf.up e1)
    rw [evs_push (by omega)] at g
    exact g
theorem x_val_loop {o kn : Int} {env : Int → Int} (he : envB env) {M0 : Mem} {Q : Int → Mem → Prop} (hkn : ln kn = 7) (d1 : kn ≠ o + 2) (hl2 : ln (o + 2) = 64) :
    ∀ (cs : List Int) (ts : List Bool) (st : List Int) (k : Nat) (M : Mem), (∀ c ∈ cs, -7 ≤ c → c < 0 → M0 kn (-1 - c) = env (-1 - c)) → wfP cs ts → stB ts st → ts.length ≤ 60 → repS (M (o + 2)) st → offR (o + 2) M0 M → M0 o 2 = k + (cs.length : Nat) → k + cs.length ≤ 1600 → (∀ j : Nat, j < cs.length → M0 (o + 1) (k + j : Nat) = cs.getD j 0) →
      (∀ M' v, offR (o + 2) M0 M' → evP env cs st = [v] → bnd v → Q v M') → m_X1_value_L4 Q o kn (cs.length + 1) (st.length : Nat) k M
  | [], ts, st, k, M, hen, hw, hs, hh, hr, hf, hn, hk, hc, h => by
    have e1 : M o 2 = k := by rw [hf o (by omega), hn]; simp
    have hl := stB_len hs
    rw [show ts.length = 1 from hw] at hl
    match st, hl, hs, hr, h with
    | [v], _, hs, hr, h =>
      unfold m_X1_value_L4 m_X1_value_J218 m_X1_value_J232
      match ts, hw, hs with
      | [t], _, hs =>
        obtain ⟨v', r, e, b1, b2, -, -⟩ := hs
        cases e
        refine ⟨by omega, by omega, fun _ => ⟨by show inI 1; decide, fun q => absurd q (by simp), fun _ => ?_⟩, fun q => by omega⟩
        rw [show M (o + 2) 0 = v from hr.1]
        exact h M v hf rfl ⟨b1, b2⟩
  | c :: cs, ts, st, k, M, hen, hw, hs, hh, hr, hf, hn, hk, hc, h => by
    obtain ⟨ts', hw', hs', hh'⟩ := vs_ok he hw hs hh
    have hc0 : M (o + 1) k = c := by
      rw [hf _ (by omega)]
      have := hc 0 (by simp)
      simpa using this
    simp only [List.length_cons] at hn hk
    refine x_val_step hkn d1 hl2 (hen c List.mem_cons_self) hw hs hh hr hf (n := (k + (cs.length + 1) : Nat)) (by rw [hf o (by omega), hn]; omega) (by omega) (by omega) hc0 fun M1 r1 f1 => ?_
    exact x_val_loop he hkn d1 hl2 cs ts' (vsP env c st) (k + 1) M1 (fun d hd => hen d (List.mem_cons_of_mem _ hd)) hw' hs' hh' r1 f1 (by rw [hn]; omega) (by omega) (fun j hj => by
        have := hc (j + 1) (by simp; omega)
        rw [show k + 1 + j = k + (j + 1) by omega, this]
        simp) (fun M' v a b => h M' v a b)
/-- the codes of a formula of the class -/
def cdX (M : Mem) (o : Int) (cs : List Int) : Prop := M o 2 = (cs.length : Nat) ∧ cs.length ≤ 1600 ∧ (∀ j : Nat, j < cs.length → M (o + 1) (j : Nat) = cs.getD j 0) ∧ (cs = [] ∨ wfP cs [])
/-- what a formula is worth: 0 without one -/
def fvP (cs : List Int) (env : Int → Int) : Int := (evP env cs []).headD 0
theorem ev_one {env : Int → Int} (he : envB env) : ∀ (cs : List Int) (ts : List Bool) (st : List Int), wfP cs ts → stB ts st → ts.length ≤ 60 → ∃ v, evP env cs st = [v] ∧ bnd v
  | [], ts, st, hw, hs, hh => by
    have hl := stB_len hs
    rw [show ts.length = 1 from hw] at hl
    match ts, st, hl, hw, hs with
    | [t], [v], _, _, hs =>
      obtain ⟨v', r, e, b1, b2, -, -⟩ := hs
      cases e
      exact ⟨v, rfl, b1, b2⟩
  | c :: cs, ts, st, hw, hs, hh => by
    obtain ⟨ts', hw', hs', hh'⟩ := vs_ok he hw hs hh
    exact ev_one he cs ts' _ hw' hs' hh'
theorem fv_b {env : Int → Int} (he : envB env) {cs : List Int} (h : cs = [] ∨ wfP cs []) : bnd (fvP cs env) := by
  rcases h with rfl | h
  · exact ⟨by show (-1000000 : Int) ≤ 0; decide, by show (0 : Int) ≤ 1000000; decide⟩
  · obtain ⟨v, e, b⟩ := ev_one he cs [] [] h rfl (by decide)
    unfold fvP
    rw [e]
    exact b
theorem x_value {o kn : Int} {env : Int → Int} (he : envB env) {M : Mem} {Q : Int → Mem → Prop} {cs : List Int} (ho : kd o = 1) (hk : kd kn = 20) (hkn : ln kn = 7) (hc : cdX M o cs) (hen : ∀ c ∈ cs, -7 ≤ c → c < 0 → M kn (-1 - c) = env (-1 - c)) (h : ∀ M', offR (o + 2) M M' → Q (fvP cs env) M') : m_X1_value o kn M Q := by
  have hl2 := (sub_1_1 ho).2
  have d1 : kn ≠ o + 2 := fun q => by rw [q, hl2] at hkn; omega
  obtain ⟨c1, c2, c3, c4⟩ := hc
  refine ⟨ho, hk, ?_⟩
  rcases c4 with rfl | c4
  · refine ⟨1, ?_⟩
    unfold m_X1_value_L4 m_X1_value_J218 m_X1_value_J232
    rw [show M o 2 = 0 from c1]
    exact ⟨by decide, by decide, fun _ => ⟨by decide, fun _ => h M (fun _ _ => rfl), fun q => absurd (by decide) q⟩, fun q => absurd (by decide) q⟩
  · refine ⟨_, x_val_loop he hkn d1 hl2 cs [] [] 0 M hen c4 rfl (by decide) trivial (fun _ _ => rfl) (by rw [c1]; omega) (by omega) (fun j hj => by rw [Nat.zero_add]; exact c3 j hj) (fun M' v f e b => ?_)⟩
    have := h M' f
    unfold fvP at this
    rwa [e] at this
/-! the model -/
theorem y_held {a : Int} {M : Mem} {Q : Int → Mem → Prop} (ha : inL a) (h : Q (clampP a) M) : m_X12_held a M Q := by
  unfold m_X12_held m_X12_held_J29
  unfold clampP at h
  refine ⟨ha, fun q => ⟨ha, fun q2 => ?_, fun q2 => ?_⟩, fun q => ?_⟩
  · rwa [if_neg (by omega), if_neg (by omega)] at h
  · rwa [if_pos (by omega)] at h
  · rwa [if_neg (by omega), if_pos (by omega)] at h
theorem y_floor {a b : Int} {M : Mem} {Q : Int → Mem → Prop} (ha : bnd a) (hb : bnd b) (h : Q (if b = 0 then 0 else a.fdiv b) M) : m_X12_floor a b M Q := by
  have tb := tmod_b (b := b) ha
  unfold m_X12_floor m_X12_floor_J53 m_X12_floor_J32 m_X12_floor_J43 m_X12_floor_J53 m_X12_floor_J55
  refine ⟨by omega, fun q => by rwa [if_pos q] at h, fun q => ?_⟩
  rw [if_neg q] at h
  refine ⟨by omega, by omega, q, by omega, by omega, q, by omega, fun q2 => by rwa [(fd3 q2).1] at h, fun q2 => ⟨by omega, fun q3 => ⟨by omega, fun q4 => ⟨by decide, by decide, fun _ => ?_, fun z => absurd rfl z⟩, fun q4 => ⟨by decide, by decide, fun z => absurd z (by decide), fun _ => ?_⟩⟩, fun q3 => ⟨by omega, fun q4 => ⟨by decide, by decide, fun z => absurd z (by decide), fun _ => ?_⟩, fun q4 => ⟨by decide, by decide, fun _ => ?_, fun z => absurd rfl z⟩⟩⟩⟩
  · rwa [(fd1 q (by omega)).1] at h
  · rwa [(fd2 q (by omega) q2).1] at h
  · rwa [(fd2 q (by omega) q2).1] at h
  · rwa [(fd1 q (by omega)).1] at h
theorem clamp_id {a : Int} (h : bnd a) : clampP a = a := by
  unfold clampP
  rw [if_neg (by omega), if_neg (by omega)]
theorem y_two {c a b : Int} {M : Mem} {Q : Int → Mem → Prop} (hc : -19 ≤ c ∧ c ≤ -8) (ha : bnd a) (hb : bnd b) (hab : c = -18 ∨ c = -19 → (b = 0 ∨ b = 1) ∧ (a = 0 ∨ a = 1)) (h : Q (clampP (jnP c a b)) M) : m_X12_two (23 - c) a b M Q := by
  have mb := mul_b ha hb
  have fb := fdiv_b (b := b) ha
  have fm := fmod_b ha hb
  unfold m_X12_two m_X12_two_J172 m_X12_two_J160 m_X12_two_J148 m_X12_two_J136 m_X12_two_J124 m_X12_two_J112
  refine ⟨by omega, ?_, ?_, ?_, ?_, ?_, ?_, ?_, ?_, ?_, ?_, ?_, ?_⟩
  all_goals intro q
  · obtain rfl : c = -8 := by omega
    exact y_held (by omega) h
  · obtain rfl : c = -9 := by omega
    exact y_held (by omega) h
  · obtain rfl : c = -10 := by omega
    exact y_held (by omega) h
  · obtain rfl : c = -11 := by omega
    exact y_floor ha hb (y_held (by split <;> omega) h)
  · obtain rfl : c = -12 := by omega
    simp only [jnP, Int.reduceNeg, Int.reduceEq, if_false, if_true] at h
    refine ⟨by omega, fun q2 => by rw [if_pos q2] at h; exact h, fun q2 => y_floor ha hb ?_⟩
    rw [if_neg q2] at h ⊢
    have e := Int.mul_fdiv_add_fmod a b
    rw [show a - b * a.fdiv b = a.fmod b by omega]
    exact y_held (by omega) h
  · obtain rfl : c = -13 := by omega
    simp only [jnP, Int.reduceNeg, Int.reduceEq, if_false, if_true] at h
    refine ⟨by omega, by omega, fun q2 => ?_, fun q2 => ?_⟩
    · by_cases q3 : a ≤ b
      · rw [if_pos q3, clamp_id ha] at h
        rwa [show b = a by omega]
      · rwa [if_neg q3, clamp_id hb] at h
    · rwa [if_pos (by omega), clamp_id ha] at h
  · obtain rfl : c = -14 := by omega
    simp only [jnP, Int.reduceNeg, Int.reduceEq, if_false, if_true] at h
    refine ⟨by omega, by omega, fun q2 => ?_, fun q2 => ?_⟩
    · by_cases q3 : b ≤ a
      · rw [if_pos q3, clamp_id ha] at h
        rwa [show b = a by omega]
      · rwa [if_neg q3, clamp_id hb] at h
    · rwa [if_pos (by omega), clamp_id ha] at h
  · obtain rfl : c = -15 := by omega
    simp only [jnP, Int.reduceNeg, Int.reduceEq, if_false, if_true] at h
    exact ⟨by omega, by omega, fun q2 => by rwa [if_neg (by omega)] at h, fun q2 => by rwa [if_pos (by omega)] at h⟩
  · obtain rfl : c = -16 := by omega
    simp only [jnP, Int.reduceNeg, Int.reduceEq, if_false, if_true] at h
    exact ⟨by omega, by omega, fun q2 => by rwa [if_neg (by omega)] at h, fun q2 => by rwa [if_pos (by omega)] at h⟩
  · obtain rfl : c = -17 := by omega
    simp only [jnP, Int.reduceNeg, Int.reduceEq, if_false, if_true] at h
    exact ⟨by omega, by omega, fun q2 => by rwa [if_pos q2] at h, fun q2 => by rwa [if_neg q2] at h⟩
  · obtain rfl : c = -18 := by omega
    obtain ⟨hb1, ha1⟩ := hab (by decide)
    have e : clampP (jnP (-18) a b) = wand a b := by
      rcases ha1 with rfl | rfl <;> rcases hb1 with rfl | rfl <;> decide +kernel
    rwa [e] at h
  · obtain rfl : c = -19 := by omega
    obtain ⟨hb1, ha1⟩ := hab (by decide)
    have e : clampP (jnP (-19) a b) = wor a b := by
      rcases ha1 with rfl | rfl <;> rcases hb1 with rfl | rfl <;> decide +kernel
    rwa [e] at h
/-- a code of the class, and the model's sort and value -/
def crP (c s v : Int) : Prop := (0 ≤ c ∧ ((s = 0 ∧ v = c) ∨ (s = 30 ∧ c = 1))) ∨ (-7 ≤ c ∧ c < 0 ∧ s = -c) ∨ (c ≤ -8 ∧ s = 23 - c)
set_option maxHeartbeats 2000000 in
theorem y_reck_step {w : Int} {env : Int → Int} (he : envB env) {M0 M : Mem} {Q : Int → Mem → Prop} {f : Nat} {c : Int} {cs : List Int} {ts : List Bool} {st : List Int} {k : Nat} {n : Int} (hen : ∀ i, 0 ≤ i → i < 7 → M0 235 (i + 1) = env i)
    (hw : wfP (c :: cs) ts) (hs : stB ts st) (hh : ts.length ≤ 60) (hr : repS (M 234) st) (hf : offR 234 M0 M) (hb : 0 ≤ 2 * M 199 13 + w ∧ 2 * M 199 13 + w < 4) (hn : 1600 * M 199 13 + M 215 (2 * M 199 13 + w) = n) (hkn2 : (k : Int) < n) (hn2 : n ≤ 3200) (hc0 : crP c (M 216 k) (M 217 k))
    (go : ∀ M1 : Mem, repS (M1 234) (vsP env c st) → offR 234 M0 M1 → m_X12_reckons_L25 Q w f ((vsP env c st).length : Nat) ((k : Int) + 1) M1) : m_X12_reckons_L25 Q w (f + 1) (st.length : Nat) k M := by
  have hl := stB_len hs
  have hcr : -21 ≤ c ∧ c ≤ 9999 := ⟨hw.2.1, hw.1⟩
  have hb60 := hw.2.2.1
  have hb61 := hw.2.2.2.1
  have push : ∀ v : Int, vsP env c st = v :: st → st.length < 60 → m_X12_reckons_J105 (m_X12_reckons_L25 Q w f) Q w (st.length : Nat) k 234 (st.length : Nat) v M := by
    intro v ev h60
    unfold m_X12_reckons_J105 m_X12_reckons_J221
    rw [ln_234]
    refine ⟨by omega, fun M1 e1 => ?_⟩
    have g := go M1 (by rw [e1, up_row, ev]; exact ⟨by simp [upR], repS_up (by omega) hr⟩) (hf.up e1)
    rw [ev] at g
    exact g
  unfold m_X12_reckons_L25
  rw [hn]
  rcases hc0 with ⟨c0, cc⟩ | ⟨c0, c1, cc⟩ | ⟨c0, cc⟩
  · have l60 := (hb60 c0).1
    have ev := evs_push (env := env) (st := st) c0
    rcases cc with ⟨e1, e2⟩ | ⟨e1, e2⟩
    · rw [e1, e2]
      exact ⟨hb, by omega, by omega, fun q => by omega, fun _ => ⟨by omega, by decide, fun q => absurd q (by decide), fun _ => ⟨by decide, fun _ => ⟨by omega, by omega, push c ev (by omega)⟩, fun q => absurd rfl q⟩⟩⟩
    · rw [e1]
      exact ⟨hb, by omega, by omega, fun q => by omega, fun _ => ⟨by omega, by decide, fun q => absurd q (by decide), fun _ => ⟨by decide, fun q => absurd q (by decide), fun _ => ⟨by decide, fun _ => push 1 (by rw [ev, e2]) (by omega), fun q => absurd rfl q⟩⟩⟩⟩
  · have l60 := (hb61 c0 c1).1
    have ev := evs_known (env := env) (st := st) (show ¬ 0 ≤ c by omega) c0
    have e235 : M 235 (-c) = env (-1 - c) := by
      rw [hf 235 (by decide), show -c = (-1 - c) + 1 by omega, hen _ (by omega) (by omega)]
    have eb := he (-1 - c)
    rw [cc]
    refine ⟨hb, by omega, by omega, fun q => by omega, fun _ => ⟨by omega, by omega, fun q => by omega, fun _ => ⟨by omega, fun q => by omega, fun _ => ⟨by omega, fun q => by omega, fun _ => ⟨by omega, ?_, ?_⟩⟩⟩⟩⟩
    · rw [e235]; omega
    · rw [e235]; exact push _ ev (by omega)
  · rw [cc]
    refine ⟨hb, by omega, by omega, fun q => by omega, fun _ => ⟨by omega, by omega, fun _ => ⟨by omega, fun q => ?_, fun q => ⟨by omega, fun q2 => ?_, fun q2 => ?_⟩⟩, fun q => by omega⟩⟩
    · obtain rfl : c = -20 := by omega
      obtain ⟨b, s1, rfl, bb⟩ := wf_not hw hs
      simp only [List.length_cons] at *
      refine ⟨by omega, by omega, fun M1 e1 => ?_⟩
      have e0 : ((s1.length + 1 : Nat) : Int) - 1 = (s1.length : Nat) := by omega
      rw [e0, hr.1] at e1
      unfold m_X12_reckons_J221
      refine go M1 ?_ (hf.up e1)
      rw [e1, up_row, evs_not]
      exact ⟨by simp [upR], repS_up (by omega) hr.2⟩
    · obtain rfl : c = -21 := by omega
      obtain ⟨b, a, t, s1, rfl, bb, ba, bt⟩ := wf_if hw hs
      simp only [List.length_cons] at *
      have e0 : ((s1.length + 1 + 1 + 1 : Nat) : Int) + (-2) = (s1.length + 1 : Nat) := by omega
      have e1 : ((s1.length + 1 : Nat) : Int) - 1 = (s1.length : Nat) := by omega
      have e2 : ((s1.length + 1 : Nat) : Int) + 1 = (s1.length + 1 + 1 : Nat) := by omega
      rw [e0, e1, e2, show M 234 ((s1.length + 1 + 1 : Nat) : Int) = b from hr.1, show M 234 ((s1.length + 1 : Nat) : Int) = a from hr.2.1, show M 234 (s1.length : Nat) = t from hr.2.2.1]
      have fin : ∀ v, v = (if t = 1 then a else b) → m_X12_reckons_J187 (m_X12_reckons_L25 Q w f) Q w (s1.length + 1 : Nat) k 234 (s1.length : Nat) v M := by
        intro v ev
        unfold m_X12_reckons_J187 m_X12_reckons_J221
        rw [ln_234]
        refine ⟨by omega, fun M1 e3 => ?_⟩
        have g := go M1 (by rw [e3, up_row, evs_if, ← ev]; exact ⟨by simp [upR], repS_up (by omega) hr.2.2.2⟩) (hf.up e3)
        rw [evs_if] at g
        exact g
      exact ⟨by omega, by omega, fun q => ⟨by omega, fin a (by rw [if_pos q])⟩, fun q => ⟨by omega, fin b (by rw [if_neg q])⟩⟩
    · have q1 : c < -7 := by omega
      have q3 : ¬ c = -20 := by omega
      have q4 : ¬ c = -21 := by omega
      obtain ⟨b, a, s2, rfl, bb, ba, bab⟩ := wf_two hw hs q1 q3 q4
      simp only [List.length_cons] at *
      have e0 : ((s2.length + 1 + 1 : Nat) : Int) + (-1) = (s2.length + 1 : Nat) := by omega
      have e1 : ((s2.length + 1 : Nat) : Int) - 1 = (s2.length : Nat) := by omega
      rw [e0, e1, show M 234 ((s2.length + 1 : Nat) : Int) = b from hr.1, show M 234 (s2.length : Nat) = a from hr.2.1]
      refine ⟨by omega, by omega, y_two (by omega) ba bb bab ⟨by omega, fun M1 e2 => ?_⟩⟩
      unfold m_X12_reckons_J221
      have g := go M1 (by rw [e2, up_row, evs_two q1 q3 q4]; exact ⟨by simp [upR], repS_up (by omega) hr.2.2⟩) (hf.up e2)
      rw [evs_two q1 q3 q4] at g
      exact g
theorem y_reck_loop {w : Int} {env : Int → Int} (he : envB env) {M0 : Mem} {Q : Int → Mem → Prop} (hen : ∀ i, 0 ≤ i → i < 7 → M0 235 (i + 1) = env i) (hb : 0 ≤ 2 * M0 199 13 + w ∧ 2 * M0 199 13 + w < 4) :
    ∀ (cs : List Int) (ts : List Bool) (st : List Int) (k : Nat) (M : Mem), wfP cs ts → stB ts st → ts.length ≤ 60 → repS (M 234) st → offR 234 M0 M → 1600 * M0 199 13 + M0 215 (2 * M0 199 13 + w) = k + (cs.length : Nat) → k + cs.length ≤ 3200 → (∀ j : Nat, j < cs.length → crP (cs.getD j 0) (M0 216 (k + j : Nat)) (M0 217 (k + j : Nat))) →
      (∀ M' v, offR 234 M0 M' → evP env cs st = [v] → bnd v → Q v M') → m_X12_reckons_L25 Q w (cs.length + 1) (st.length : Nat) k M
  | [], ts, st, k, M, hw, hs, hh, hr, hf, hn, hk, hc, h => by
    have hl := stB_len hs
    rw [show ts.length = 1 from hw] at hl
    simp only [List.length_nil] at hn hk
    match st, hl, hs, hr, h with
    | [v], _, hs, hr, h =>
      unfold m_X12_reckons_L25
      match ts, hw, hs with
      | [t], _, hs =>
        obtain ⟨v', r, e, b1, b2, -, -⟩ := hs
        cases e
        rw [hf 199 (by decide), hf 215 (by decide)]
        refine ⟨hb, by omega, by omega, fun _ => ?_, fun q => by omega⟩
        rw [show M 234 0 = v from hr.1]
        exact h M v hf rfl ⟨b1, b2⟩
  | c :: cs, ts, st, k, M, hw, hs, hh, hr, hf, hn, hk, hc, h => by
    obtain ⟨ts', hw', hs', hh'⟩ := vs_ok he hw hs hh
    have hc0 := hc 0 (by simp)
    simp only [List.length_cons] at hn hk
    refine y_reck_step he hen hw hs hh hr hf (n := (k + (cs.length + 1) : Nat)) (by rw [hf 199 (by decide)]; exact hb) (by rw [hf 199 (by decide), hf 215 (by decide), hn]; omega) (by omega) (by omega) (by rw [hf 216 (by decide), hf 217 (by decide)]; simpa using hc0) fun M1 r1 f1 => ?_
    exact y_reck_loop he hen hb cs ts' (vsP env c st) (k + 1) M1 hw' hs' hh' r1 f1 (by rw [hn]; omega) (by omega) (fun j hj => by
        have := hc (j + 1) (by simp; omega)
        rw [show k + 1 + j = k + (j + 1) by omega]
        simpa using this) (fun M' v a b => h M' v a b)
/-- the codes of a formula (w: 0 stays, 1 goes) of the model's bank b, told -/
def cdY (M : Mem) (b w : Int) (cs : List Int) : Prop := 0 ≤ M 214 (2 * b + w) ∧ M 214 (2 * b + w) + (cs.length : Nat) = M 215 (2 * b + w) ∧ M 215 (2 * b + w) ≤ 1600 ∧ (∀ j : Nat, j < cs.length → crP (cs.getD j 0) (M 216 (1600 * b + M 214 (2 * b + w) + j)) (M 217 (1600 * b + M 214 (2 * b + w) + j))) ∧ wfP cs []
theorem y_reckons {w b : Int} {env : Int → Int} (he : envB env) {M : Mem} {Q : Int → Mem → Prop} {cs : List Int} (hb : M 199 13 = b) (hb2 : b = 0 ∨ b = 1) (hw : w = 0 ∨ w = 1) (hc : cdY M b w cs) (hen : ∀ i, 0 ≤ i → i < 7 → M 235 (i + 1) = env i) (h : ∀ M', offR 234 M M' → Q (fvP cs env) M') : m_X12_reckons w M Q := by
  obtain ⟨c1, c2, c3, c4, c5⟩ := hc
  unfold m_X12_reckons
  rw [hb]
  refine ⟨by omega, fun x ex => ⟨cs.length + 1, ?_⟩⟩
  have hx : 0 ≤ x := by omega
  have := y_reck_loop (w := w) (M0 := M) (Q := Q) he hen (by omega) cs [] [] x.toNat M c5 rfl (by decide) trivial (fun _ _ => rfl) (by rw [hb]; omega) (by omega) (fun j hj => by
    have := c4 j hj
    rwa [show 1600 * b + M 214 (2 * b + w) + (j : Int) = ((x.toNat + j : Nat) : Int) by omega] at this) (fun M' v f e bb => by
    have := h M' f
    unfold fvP at this
    rwa [e] at this)
  rw [toNat_i hx] at this
  exact this
