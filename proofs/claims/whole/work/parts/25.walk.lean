/-! a town and a scene, pure; a day gone through -/
/-- places, people, who is next to what, distances (-1 without a way), kinds, stays, goes -/
abbrev TW : Type := Nat × Nat × (Int → Int → Bool) × (Int → Int → Int) × (Int → Int) × List Int × List Int
abbrev wPl (W : TW) : Nat := W.1
abbrev wPn (W : TW) : Nat := W.2.1
abbrev wRe (W : TW) : Int → Int → Bool := W.2.2.1
abbrev wDi (W : TW) : Int → Int → Int := W.2.2.2.1
abbrev wKi (W : TW) : Int → Int := W.2.2.2.2.1
abbrev wSt (W : TW) : List Int := W.2.2.2.2.2.1
abbrev wGo (W : TW) : List Int := W.2.2.2.2.2.2
/-- the day, who watches (bits), where people are, the frames (step, place, many) -/
abbrev TS : Type := Int × Nat × (Int → Int) × List (Int × Int × Int)
abbrev sDay (S : TS) : Int := S.1
abbrev sWa (S : TS) : Nat := S.2.1
abbrev sSp (S : TS) : Int → Int := S.2.2.1
abbrev sRe (S : TS) : List (Int × Int × Int) := S.2.2.2
def noTF (cs : List Int) : Prop := ∀ c ∈ cs, c ≠ -6 ∧ c ≠ -7
def WOK (W : TW) : Prop := wPl W ≤ 7 ∧ wPn W ≤ 6 ∧ (∀ i : Nat, i < wPl W → wRe W i i = true) ∧ (∀ i j : Nat, i < wPl W → j < wPl W → -1 ≤ wDi W i j ∧ wDi W i j ≤ 6) ∧ (∀ p : Nat, p < wPn W → 0 ≤ wKi W p ∧ wKi W p ≤ 9) ∧ (wSt W = [] ∨ wfP (wSt W) []) ∧ (wGo W = [] ∨ wfP (wGo W) []) ∧ noTF (wSt W)
/-- a frame that can be -/
def frOKP (W : TW) (q : Int × Int × Int) : Prop := 1 ≤ q.1 ∧ q.1 ≤ 8 ∧ 0 ≤ q.2.1 ∧ q.2.1 < wPl W ∧ 0 ≤ q.2.2 ∧ q.2.2 ≤ 6
/-- no two frames of one step and place -/
def ndP : List (Int × Int × Int) → Prop
  | [] => True
  | q :: l => (∀ r ∈ l, ¬ (r.1 = q.1 ∧ r.2.1 = q.2.1)) ∧ ndP l
def reOK (W : TW) (l : List (Int × Int × Int)) : Prop := l.length ≤ 9 ∧ (∀ q ∈ l, frOKP W q) ∧ ndP l
def SOK (W : TW) (S : TS) : Prop := 0 ≤ sDay S ∧ sDay S ≤ 999 ∧ sWa S < 64 ∧ (∀ p : Nat, p < wPn W → 0 ≤ sSp S p ∧ sSp S p < wPl W) ∧ reOK W (sRe S)
/-- what is shown in a place behind a step: 9 if nothing is -/
def shP : List (Int × Int × Int) → Int → Int → Int
  | [], _, _ => 9
  | q :: l, s, p => if q.1 = s ∧ q.2.1 = p then q.2.2 else shP l s p
theorem shP_rng {W : TW} {s p : Int} : ∀ {l : List (Int × Int × Int)}, (∀ q ∈ l, frOKP W q) → 0 ≤ shP l s p ∧ shP l s p ≤ 9
  | [], _ => by simp [shP]
  | q :: l, h => by
    have h1 := h q (List.mem_cons_self)
    have h2 := shP_rng (s := s) (p := p) (l := l) (fun r hr => h r (List.mem_cons_of_mem _ hr))
    unfold shP
    unfold frOKP at h1
    split <;> omega
def seenP (S : TS) (p : Nat) (step pl : Int) : Int := if (sWa S).testBit p then shP (sRe S) step pl else 9
def envP (W : TW) (S : TS) (f : Int → Int) (p : Nat) (step own pl : Int) : Int → Int := fun i =>
  if i = 0 then wKi W p else if i = 1 then step else if i = 2 then sDay S else if i = 3 then cntP f (wPn W) own else if i = 4 then seenP S p step pl else if i = 5 then cntP f (wPn W) pl else if i = 6 then (if wDi W (sSp S p) pl = -1 then 9 else wDi W (sSp S p) pl) else 0
def bestP (W : TW) (S : TS) (f : Int → Int) (p : Nat) (step own : Int) : Nat → Int × Int
  | 0 => (own, -1000001)
  | n + 1 => if wRe W own n = true ∧ (bestP W S f p step own n).2 < fvP (wGo W) (envP W S f p step own n) then ((n : Int), fvP (wGo W) (envP W S f p step own n)) else bestP W S f p step own n
def nextP (W : TW) (S : TS) (f : Int → Int) (p : Nat) (step : Int) : Int :=
  if fvP (wSt W) (envP W S f p step (f p) (f p)) = 1 then f p else (bestP W S f p step (f p) (wPl W)).1
def walkP (W : TW) (S : TS) : Nat → Int → Int
  | 0 => sSp S
  | k + 1 => fun p => nextP W S (walkP W S k) p.toNat (k + 1 : Nat)
theorem bestP_rng (W : TW) (S : TS) (f : Int → Int) (p : Nat) (step own : Int) (ho : 0 ≤ own ∧ own < wPl W) : ∀ n : Nat, n ≤ wPl W → 0 ≤ (bestP W S f p step own n).1 ∧ (bestP W S f p step own n).1 < wPl W
  | 0, _ => ho
  | n + 1, h => by
    unfold bestP
    split
    · exact ⟨by show (0 : Int) ≤ n; omega, by show (n : Int) < _; omega⟩
    · exact bestP_rng W S f p step own ho n (by omega)
theorem nextP_rng {W : TW} {S : TS} {f : Int → Int} {p : Nat} {step : Int} (h : 0 ≤ f p ∧ f p < wPl W) : 0 ≤ nextP W S f p step ∧ nextP W S f p step < wPl W := by
  unfold nextP
  split
  · exact h
  · exact bestP_rng W S f p step _ h _ (Nat.le_refl _)
theorem walkP_rng {W : TW} {S : TS} (hS : SOK W S) : ∀ (k : Nat) (p : Nat), p < wPn W → 0 ≤ walkP W S k p ∧ walkP W S k p < wPl W
  | 0, p, hp => hS.2.2.2.1 p hp
  | k + 1, p, hp => by
    unfold walkP
    exact nextP_rng (by rw [Int.toNat_natCast]; exact walkP_rng hS k p hp)
theorem envP_b {W : TW} {S : TS} (hW : WOK W) (hS : SOK W S) {f : Int → Int} {p : Nat} (hp : p < wPn W) {step own : Int} (hs : 0 ≤ step ∧ step ≤ 8) {n : Int} (hn : 0 ≤ n ∧ n < wPl W) : envB (envP W S f p step own n) := by
  intro i
  obtain ⟨w1, w2, w3, w4, w5, -⟩ := hW
  obtain ⟨s1, s2, s3, s4, s5, s6, s7⟩ := hS
  have k1 := w5 p hp
  have k2 := cntP_rng f own (wPn W)
  have k3 := cntP_rng f n (wPn W)
  have k4 := shP_rng (s := step) (p := n) s6
  have k5 := s4 p hp
  have k6 := w4 (sSp S p).toNat n.toNat (by omega) (by omega)
  rw [toNat_i k5.1, toNat_i hn.1] at k6
  unfold envP seenP
  repeat' split
  all_goals omega
theorem vsP_cong {env env' : Int → Int} {c : Int} {st : List Int} (h : -7 ≤ c → c < 0 → env (-1 - c) = env' (-1 - c)) : vsP env c st = vsP env' c st := by
  unfold vsP
  by_cases c1 : 0 ≤ c
  · rw [if_pos c1, if_pos c1]
  · rw [if_neg c1, if_neg c1]
    by_cases c2 : -7 ≤ c
    · rw [if_pos c2, if_pos c2, h c2 (by omega)]
    · rw [if_neg c2, if_neg c2]
theorem evP_cong {env env' : Int → Int} (h : ∀ i, 0 ≤ i → i < 5 → env i = env' i) : ∀ (cs : List Int) (st : List Int), noTF cs → evP env cs st = evP env' cs st
  | [], st, _ => rfl
  | c :: cs, st, hn => by
    unfold evP
    have h1 := hn c List.mem_cons_self
    rw [vsP_cong (fun a b => h _ (by omega) (by omega)), evP_cong h cs _ (fun d hd => hn d (List.mem_cons_of_mem _ hd))]
theorem fvP_cong {env env' : Int → Int} {cs : List Int} (h : ∀ i, 0 ≤ i → i < 5 → env i = env' i) (hn : noTF cs) : fvP cs env = fvP cs env' := by
  unfold fvP
  rw [evP_cong h cs [] hn]
theorem envP_cong {W : TW} {S : TS} {f g : Int → Int} {p : Nat} {step own n : Int} (h : ∀ q : Nat, q < wPn W → f q = g q) : envP W S f p step own n = envP W S g p step own n := by
  unfold envP
  rw [cntP_cong (v := own) h, cntP_cong (v := n) h]
theorem bestP_cong {W : TW} {S : TS} {f g : Int → Int} {p : Nat} {step own : Int} (h : ∀ q : Nat, q < wPn W → f q = g q) : ∀ n : Nat, bestP W S f p step own n = bestP W S g p step own n
  | 0 => rfl
  | n + 1 => by
    unfold bestP
    rw [envP_cong h, bestP_cong h n]
theorem nextP_cong {W : TW} {S : TS} {f g : Int → Int} {p : Nat} {step : Int} (hp : p < wPn W) (h : ∀ q : Nat, q < wPn W → f q = g q) : nextP W S f p step = nextP W S g p step := by
  unfold nextP
  rw [h p hp, envP_cong h, bestP_cong h]
/-- the frames of the model's state v: rows of three -/
def reY (M : Mem) (v : Int) (l : List (Int × Int × Int)) : Prop := M 230 v = (l.length : Nat) ∧ ∀ k : Nat, k < l.length → M 231 (3 * (9 * v + k)) = (l.getD k (0, 0, 0)).1 ∧ M 231 (3 * (9 * v + k) + 1) = (l.getD k (0, 0, 0)).2.1 ∧ M 231 (3 * (9 * v + k) + 2) = (l.getD k (0, 0, 0)).2.2
/-- the model's bank b holds the town W (names, rain apart) -/
def TY (M : Mem) (b : Int) (W : TW) : Prop := (b = 0 ∨ b = 1) ∧ M 201 b = (wPl W : Nat) ∧ M 205 b = (wPn W : Nat) ∧
  (∀ i j : Nat, i < wPl W → j < wPl W → (M 203 (49 * b + 7 * i + j) = 0 ∨ M 203 (49 * b + 7 * i + j) = 1) ∧ (wRe W i j = true ↔ j = i ∨ M 203 (49 * b + 7 * i + j) = 1) ∧ 0 ≤ M 204 (49 * b + 7 * i + j) ∧ M 204 (49 * b + 7 * i + j) ≤ 1000000000 ∧ wDi W i j = (if M 204 (49 * b + 7 * i + j) < 100000000 then M 204 (49 * b + 7 * i + j) else -1)) ∧
  (∀ p : Nat, p < wPn W → M 207 (6 * b + p) = wKi W p) ∧
  (if wSt W = [] then M 214 (2 * b) = -1 else cdY M b 0 (wSt W)) ∧ (if wGo W = [] then M 214 (2 * b + 1) = -1 else cdY M b 1 (wGo W))
/-- the model's state v holds the scene S -/
def SY (M : Mem) (v : Int) (W : TW) (S : TS) : Prop := (0 ≤ v ∧ v < 22) ∧ M 227 v = sDay S ∧ M 229 v = (sWa S : Nat) ∧ (∀ p : Nat, p < wPn W → M 228 (6 * v + p) = sSp S p) ∧ reY M v (sRe S)
