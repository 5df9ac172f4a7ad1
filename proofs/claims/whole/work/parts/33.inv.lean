/-! what holds between two calls: the class's cells and the model's, each against one pure state -/
/-- the tape; refusals; the fault told; the town; names of places, of people, roads, rain; the scene; days kept; undo (newest first: scene, days kept); seen; image; seed -/
abbrev PT : Type := List Int × (Int → Int) × (Int × Int) × TW × (List (List Int) × List (List Int) × Int × Int) × TS × List (Int × Int × Int) × List (TS × Nat) × List (Int × Int × Int) × List Int × Int
abbrev pTp (p : PT) : List Int := p.1
abbrev pRf (p : PT) : Int → Int := p.2.1
abbrev pFa (p : PT) : Int × Int := p.2.2.1
abbrev pW (p : PT) : TW := p.2.2.2.1
abbrev pNa (p : PT) : List (List Int) := p.2.2.2.2.1.1
abbrev pNb (p : PT) : List (List Int) := p.2.2.2.2.1.2.1
abbrev pRo (p : PT) : Int := p.2.2.2.2.1.2.2.1
abbrev pRa (p : PT) : Int := p.2.2.2.2.1.2.2.2
abbrev pS (p : PT) : TS := p.2.2.2.2.2.1
abbrev pK (p : PT) : List (Int × Int × Int) := p.2.2.2.2.2.2.1
abbrev pU (p : PT) : List (TS × Nat) := p.2.2.2.2.2.2.2.1
abbrev pSe (p : PT) : List (Int × Int × Int) := p.2.2.2.2.2.2.2.2.1
abbrev pIm (p : PT) : List Int := p.2.2.2.2.2.2.2.2.2.1
abbrev pSd (p : PT) : Int := p.2.2.2.2.2.2.2.2.2.2
def ownL : List Int := [549489824, 619745280, 686817280, 542723566, 54525952, 378998784, 773459200, 220247200, 658564704, 250792960, 605337600, 658685952, 136085504, 274273280, 646438336, 679659680, 202964992, 308281344, 522190848, 48365568, 486146048, 46530560, 446103552, 438042624]
/-- names: letters 1 to 26, one to six of them -/
def okN (ns : List Int) : Prop := 1 ≤ ns.length ∧ ns.length ≤ 6 ∧ ∀ c ∈ ns, 1 ≤ c ∧ c ≤ 26
def pkX (ns : List Int) : Int := ((((ns.getD 0 0 * 32 + ns.getD 1 0) * 32 + ns.getD 2 0) * 32 + ns.getD 3 0) * 32 + ns.getD 4 0) * 32 + ns.getD 5 0
def pkY (ns : List Int) : Int := ns.foldl (fun w c => 256 * w + (c + 96)) 0
def dU : TS × Nat := ((0, 0, fun _ => 0, []), 0)
/-- rows of three -/
def rw3 (M : Mem) (a : Int) (l : List (Int × Int × Int)) : Prop := ∀ k : Nat, k < l.length → M a (3 * k) = (l.getD k (0, 0, 0)).1 ∧ M a (3 * k + 1) = (l.getD k (0, 0, 0)).2.1 ∧ M a (3 * k + 2) = (l.getD k (0, 0, 0)).2.2
/-- a row of numbers -/
def rw1 (M : Mem) (a : Int) (l : List Int) : Prop := ∀ k : Nat, k < l.length → M a k = l.getD k 0
def slX (n : Int) (j : Nat) : Int := 65 + 6 * ((n - j) % 20)
def slY (f : Int) (n j : Nat) : Int := 2 + (f + ((n : Int) - 1 - j)) % 20
/-- the class: what is plain -/
def aX (M : Mem) (p : PT) : Prop := M 1 1 = ((pTp p).length : Nat) ∧ rw1 M 2 (pTp p) ∧ (∀ i : Nat, i < 6 → M 198 i = pRf p i) ∧ M 1 6 = (pFa p).1 ∧ M 1 7 = (pFa p).2 ∧ rw1 M 3 ownL ∧ M 187 1 = ((pSe p).length : Nat) ∧ rw3 M 188 (pSe p) ∧ M 185 1 = ((pIm p).length : Nat) ∧ rw1 M 186 (pIm p) ∧ M 0 13 = pSd p
/-- its town -/
def tX (M : Mem) (t : Int) (p : PT) : Prop := M 0 2 = t ∧ M 0 3 = 29 - t ∧ TX M t (pW p) ∧ (∀ i : Nat, i < wPl (pW p) → M (t + 1) i = pkX ((pNa p).getD i [])) ∧ (∀ i : Nat, i < wPn (pW p) → M (t + 4) i = pkX ((pNb p).getD i [])) ∧ M t 2 = pRo p ∧ M t 11 = pRa p
/-- its scene and the days kept -/
def sX (M : Mem) (p : PT) : Prop := SX M 40 (pW p) (pS p) ∧ M 40 4 = ((pK p).length : Nat) ∧ rw3 M 64 (pK p)
/-- what it can undo -/
def uX (M : Mem) (p : PT) : Prop := M 62 2 = ((pU p).length : Nat) ∧ 0 ≤ M 62 1 ∧ M 62 1 < 20 ∧ ∀ j : Nat, j < (pU p).length → SX M (slX (M 62 1) j) (pW p) ((pU p).getD j dU).1 ∧ M (slX (M 62 1) j) 4 = (((pU p).getD j dU).2 : Nat)
/-- its day, if it stands -/
def dX (M : Mem) (p : PT) : Prop := M 0 8 = 0 ∨ (M 0 8 = 1 ∧ dayX M 52 (pW p) (pS p))
def IX (M : Mem) (t : Int) (p : PT) : Prop := aX M p ∧ tX M t p ∧ sX M p ∧ uX M p ∧ dX M p
/-- the model: what is plain -/
def aY (M : Mem) (p : PT) : Prop := M 199 1 = ((pTp p).length : Nat) ∧ rw1 M 200 (pTp p) ∧ (∀ i : Nat, i < 6 → M 226 i = pRf p i) ∧ M 199 10 = (pFa p).1 ∧ M 199 11 = (pFa p).2 ∧ M 199 60 = ((pSe p).length : Nat) ∧ (∀ k : Nat, k < (pSe p).length → M 237 k = ((pSe p).getD k (0, 0, 0)).1 ∧ M 238 k = ((pSe p).getD k (0, 0, 0)).2.1 ∧ M 239 k = ((pSe p).getD k (0, 0, 0)).2.2) ∧ M 199 66 = ((pIm p).length : Nat) ∧ rw1 M 241 (pIm p) ∧ M 199 56 = pSd p
def tY (M : Mem) (b : Int) (p : PT) : Prop := M 199 13 = b ∧ TY M b (pW p) ∧ (∀ i : Nat, i < wPl (pW p) → M 218 (7 * b + i) = pkY ((pNa p).getD i [])) ∧ (∀ i : Nat, i < wPn (pW p) → M 219 (6 * b + i) = pkY ((pNb p).getD i [])) ∧ M 202 b = pRo p ∧ M 213 b = pRa p
def sY (M : Mem) (p : PT) : Prop := SY M 0 (pW p) (pS p) ∧ KY M 0 (pK p)
def uY (M : Mem) (p : PT) : Prop := M 199 55 = ((pU p).length : Nat) ∧ 0 ≤ M 199 54 ∧ M 199 54 < 20 ∧ ∀ j : Nat, j < (pU p).length → SY M (slY (M 199 54) (pU p).length j) (pW p) ((pU p).getD j dU).1 ∧ KY M (slY (M 199 54) (pU p).length j) ((pK p).take ((pU p).getD j dU).2)
def IY (M : Mem) (b : Int) (p : PT) : Prop := aY M p ∧ tY M b p ∧ sY M p ∧ uY M p
/-- a pure state that can be, after at most N refusals -/
def rowOK (q : Int × Int × Int) : Prop := 0 ≤ q.1 ∧ q.1 ≤ 999 ∧ 0 ≤ q.2.1 ∧ q.2.1 ≤ 9 ∧ 0 ≤ q.2.2 ∧ q.2.2 ≤ 9
def sceneOK (W : TW) (S : TS) (n : Nat) : Prop := SOK W S ∧ (sRe S).length ≤ 8 ∧ (n : Int) ≤ sDay S
def aOK (N : Nat) (p : PT) : Prop := (pTp p).length ≤ 1600 ∧ (∀ c ∈ pTp p, 0 ≤ c ∧ c < 256) ∧ (∀ i : Nat, i < 6 → 0 ≤ pRf p i ∧ pRf p i ≤ N) ∧ inI (pFa p).1 ∧ inI (pFa p).2 ∧ (pSe p).length ≤ 16 ∧ (∀ q ∈ pSe p, 1 ≤ q.1 ∧ q.1 ≤ 8 ∧ 0 ≤ q.2.1 ∧ q.2.1 < wPl (pW p) ∧ 0 ≤ q.2.2 ∧ q.2.2 < 256) ∧ (pIm p).length ≤ 40 ∧ (∀ c ∈ pIm p, 0 ≤ c ∧ c < 256) ∧ 0 ≤ pSd p ∧ pSd p < 2147483648
def tOK (p : PT) : Prop := WOK (pW p) ∧ (∀ i : Nat, i < wPl (pW p) → okN ((pNa p).getD i [])) ∧ (∀ i : Nat, i < wPn (pW p) → okN ((pNb p).getD i [])) ∧ 0 ≤ pRo p ∧ pRo p ≤ 12 ∧ 0 ≤ pRa p ∧ pRa p ≤ 100
def sOK (p : PT) : Prop := sceneOK (pW p) (pS p) (pK p).length ∧ (∀ q ∈ pK p, rowOK q)
def uOK (p : PT) : Prop := (pU p).length ≤ 20 ∧ ∀ j : Nat, j < (pU p).length → sceneOK (pW p) ((pU p).getD j dU).1 ((pU p).getD j dU).2 ∧ ((pU p).getD j dU).2 ≤ (pK p).length ∧ ∀ i : Nat, i < j → ((pU p).getD j dU).2 ≤ ((pU p).getD i dU).2
def POK (N : Nat) (p : PT) : Prop := aOK N p ∧ tOK p ∧ sOK p ∧ uOK p
/-! scratch -/
/-- the class's queries write here alone -/
def scrX (M M' : Mem) : Prop := (∀ a, (a < 46 ∨ 51 < a) → (a < 57 ∨ 61 < a) → a ≠ 19 → a ≠ 22 → a ≠ 36 → a ≠ 39 → (a < 187 ∨ 197 < a ∨ a = 188) → M' a = M a) ∧ M' 187 1 = M 187 1
theorem scrX.rf {M : Mem} : scrX M M := ⟨fun _ _ _ _ _ _ _ _ => rfl, rfl⟩
theorem scrX.tr {M M1 M2 : Mem} (h : scrX M M1) (k : scrX M1 M2) : scrX M M2 := ⟨fun a b c d e f g i => by rw [k.1 a b c d e f g i, h.1 a b c d e f g i], by rw [k.2, h.2]⟩
theorem offS.scr {M M' : Mem} (h : offS 46 M M') : scrX M M' := ⟨fun a a1 a2 a3 a4 a5 a6 a7 => h a (by omega), by rw [h 187 (by decide)]⟩
theorem offW.scr {t : Int} {M M' : Mem} (h : offW 57 t M M') (ht : t = 6 ∨ t = 23) : scrX M M' := ⟨fun a a1 a2 a3 a4 a5 a6 a7 => h a (by omega) (by omega) (by omega), by rw [h 187 (by omega) (by omega) (by omega)]⟩
theorem TX.keep {M M' : Mem} {t : Int} {W : TW} (h : TX M t W) (e : ∀ a, t ≤ a → a ≤ t + 15 → a ≠ t + 13 → M' a = M a) : TX M' t W := by
  unfold TX cdX at *
  rw [e t (by omega) (by omega) (by omega), e (t + 2) (by omega) (by omega) (by omega), e (t + 3) (by omega) (by omega) (by omega), e (t + 6) (by omega) (by omega) (by omega), e (t + 11) (by omega) (by omega) (by omega), e (t + 14) (by omega) (by omega) (by omega), e (t + 11 + 1) (by omega) (by omega) (by omega), e (t + 14 + 1) (by omega) (by omega) (by omega)]
  exact h
theorem aX.scr {M M' : Mem} {p : PT} (h : aX M p) (e : scrX M M') : aX M' p := by
  unfold aX rw1 rw3 at *
  rw [e.1 1 (by decide) (by decide) (by decide) (by decide) (by decide) (by decide) (by decide), e.1 2 (by decide) (by decide) (by decide) (by decide) (by decide) (by decide) (by decide), e.1 3 (by decide) (by decide) (by decide) (by decide) (by decide) (by decide) (by decide), e.1 198 (by decide) (by decide) (by decide) (by decide) (by decide) (by decide) (by decide), e.1 188 (by decide) (by decide) (by decide) (by decide) (by decide) (by decide) (by decide), e.1 185 (by decide) (by decide) (by decide) (by decide) (by decide) (by decide) (by decide), e.1 186 (by decide) (by decide) (by decide) (by decide) (by decide) (by decide) (by decide), e.1 0 (by decide) (by decide) (by decide) (by decide) (by decide) (by decide) (by decide), e.2]
  exact h
theorem tX.scr {M M' : Mem} {t : Int} {p : PT} (h : tX M t p) (e : scrX M M') : tX M' t p := by
  obtain ⟨h1, h2, h3, h4⟩ := h
  have k := isTown h3.1
  refine ⟨?_, ?_, h3.keep (fun a a1 a2 a3 => e.1 a (by omega) (by omega) (by omega) (by omega) (by omega) (by omega) (by omega)), ?_⟩
  · rw [e.1 0 (by decide) (by decide) (by decide) (by decide) (by decide) (by decide) (by decide), h1]
  · rw [e.1 0 (by decide) (by decide) (by decide) (by decide) (by decide) (by decide) (by decide), h2]
  · rw [e.1 t (by omega) (by omega) (by omega) (by omega) (by omega) (by omega) (by omega), e.1 (t + 1) (by omega) (by omega) (by omega) (by omega) (by omega) (by omega) (by omega), e.1 (t + 4) (by omega) (by omega) (by omega) (by omega) (by omega) (by omega) (by omega)]
    exact h4
theorem sX.scr {M M' : Mem} {p : PT} (h : sX M p) (e : scrX M M') : sX M' p := by
  obtain ⟨h1, h2, h3⟩ := h
  refine ⟨h1.rows (fun a a1 a2 => e.1 a (by omega) (by omega) (by omega) (by omega) (by omega) (by omega) (by omega)), ?_, ?_⟩
  · rw [e.1 40 (by decide) (by decide) (by decide) (by decide) (by decide) (by decide) (by decide), h2]
  · unfold rw3 at *
    rw [e.1 64 (by decide) (by decide) (by decide) (by decide) (by decide) (by decide) (by decide)]
    exact h3
theorem uX.scr {M M' : Mem} {p : PT} (h : uX M p) (e : scrX M M') : uX M' p := by
  obtain ⟨h1, h2, h3, h4⟩ := h
  unfold uX
  rw [e.1 62 (by decide) (by decide) (by decide) (by decide) (by decide) (by decide) (by decide)]
  refine ⟨h1, h2, h3, fun j hj => ?_⟩
  obtain ⟨k1, k2⟩ := h4 j hj
  have : 65 ≤ slX (M 62 1) j ∧ slX (M 62 1) j ≤ 179 := by unfold slX; omega
  refine ⟨k1.rows (fun a a1 a2 => e.1 a (by omega) (by omega) (by omega) (by omega) (by omega) (by omega) (by omega)), ?_⟩
  rw [e.1 _ (by omega) (by omega) (by omega) (by omega) (by omega) (by omega) (by omega), k2]
theorem dX.scr {M M' : Mem} {p : PT} (h : dX M p) (e : scrX M M') : dX M' p := by
  unfold dX dayX at *
  rw [e.1 0 (by decide) (by decide) (by decide) (by decide) (by decide) (by decide) (by decide), e.1 (52 + 1) (by decide) (by decide) (by decide) (by decide) (by decide) (by decide) (by decide), e.1 (52 + 2) (by decide) (by decide) (by decide) (by decide) (by decide) (by decide) (by decide)]
  exact h
theorem IX.scr {M M' : Mem} {t : Int} {p : PT} (h : IX M t p) (e : scrX M M') : IX M' t p := ⟨h.1.scr e, h.2.1.scr e, h.2.2.1.scr e, h.2.2.2.1.scr e, h.2.2.2.2.scr e⟩
/-- the model's queries write here alone -/
def scrY (M M' : Mem) : Prop := (∀ a, (a < 227 ∨ 236 < a) → a ≠ 240 → M' a = M a) ∧ (∀ i, i ≠ 1 → M' 227 i = M 227 i ∧ M' 229 i = M 229 i ∧ M' 230 i = M 230 i ∧ M' 232 i = M 232 i) ∧ (∀ i, (i < 6 * 1 ∨ 6 * 1 + 6 ≤ i) → M' 228 i = M 228 i) ∧ (∀ i, (i < 27 * 1 ∨ 27 * 1 + 27 ≤ i) → M' 231 i = M 231 i) ∧ (∀ i, (i < 120 * 1 ∨ 120 * 1 + 120 ≤ i) → M' 233 i = M 233 i)
theorem scrY.rf {M : Mem} : scrY M M := ⟨fun _ _ _ => rfl, fun _ _ => ⟨rfl, rfl, rfl, rfl⟩, fun _ _ => rfl, fun _ _ => rfl, fun _ _ => rfl⟩
theorem scrY.tr {M M1 M2 : Mem} (h : scrY M M1) (k : scrY M1 M2) : scrY M M2 := by
  obtain ⟨h1, h2, h3, h4, h5⟩ := h
  obtain ⟨k1, k2, k3, k4, k5⟩ := k
  refine ⟨fun a a1 a2 => by rw [k1 a a1 a2, h1 a a1 a2], fun i hi => ?_, fun i hi => by rw [k3 i hi, h3 i hi], fun i hi => by rw [k4 i hi, h4 i hi], fun i hi => by rw [k5 i hi, h5 i hi]⟩
  obtain ⟨a1, a2, a3, a4⟩ := h2 i hi
  obtain ⟨b1, b2, b3, b4⟩ := k2 i hi
  exact ⟨by rw [b1, a1], by rw [b2, a2], by rw [b3, a3], by rw [b4, a4]⟩
theorem othY.scr {M M' : Mem} (h : othY 1 M M') : scrY M M' := ⟨fun a a1 a2 => h.1 a (by simp; omega), h.2.1, h.2.2.1, h.2.2.2.1, h.2.2.2.2⟩
theorem offL.scr {M M' : Mem} (h : offL [234, 235, 236] M M') : scrY M M' := (h.oth (v := 1)).scr
theorem SY.scr {M M' : Mem} {v : Int} {W : TW} {S : TS} (h : SY M v W S) (hW : WOK W) (h9 : (sRe S).length ≤ 9) (e : scrY M M') (hv : v ≠ 1) : SY M' v W S := by
  obtain ⟨h1, h2, h3, h4, h5, h6⟩ := h
  obtain ⟨e1, e2, e3, e4, e5⟩ := e
  obtain ⟨a1, a2, a3, a4⟩ := e2 v hv
  have w2 := hW.2.1
  refine ⟨h1, by rw [a1, h2], by rw [a2, h3], fun p hp => by rw [e3 _ (by omega), h4 p hp], by rw [a3, h5], fun k hk => ?_⟩
  rw [e4 _ (by omega), e4 _ (by omega), e4 _ (by omega)]
  exact h6 k hk
theorem KY.scr {M M' : Mem} {v : Int} {kp : List (Int × Int × Int)} (h : KY M v kp) (e : scrY M M') (hv : v ≠ 1) : KY M' v kp := by
  obtain ⟨h1, h2⟩ := h
  obtain ⟨e1, e2, e3, e4, e5⟩ := e
  obtain ⟨a1, a2, a3, a4⟩ := e2 v hv
  refine ⟨by rw [a4, h1], fun k hk hk2 => ?_⟩
  rw [e5 _ (by omega), e5 _ (by omega), e5 _ (by omega)]
  exact h2 k hk hk2
theorem IY.scr {M M' : Mem} {b : Int} {p : PT} {N : Nat} (h : IY M b p) (hp : POK N p) (e : scrY M M') : IY M' b p := by
  obtain ⟨h1, h2, h3, h4⟩ := h
  obtain ⟨p1, p2, p3, p4⟩ := hp
  have hW := p2.1
  refine ⟨?_, ?_, ⟨h3.1.scr hW (by have := p3.1.2.1; omega) e (by decide), h3.2.scr e (by decide)⟩, ?_⟩
  · unfold aY rw1 at *
    rw [e.1 199 (by decide) (by decide), e.1 200 (by decide) (by decide), e.1 226 (by decide) (by decide), e.1 237 (by decide) (by decide), e.1 238 (by decide) (by decide), e.1 239 (by decide) (by decide), e.1 241 (by decide) (by decide)]
    exact h1
  · obtain ⟨k1, k2, k3⟩ := h2
    refine ⟨?_, k2.off (fun a a1 a2 => e.1 a (by omega) (by omega)), ?_⟩
    · rw [e.1 199 (by decide) (by decide), k1]
    · rw [e.1 218 (by decide) (by decide), e.1 219 (by decide) (by decide), e.1 202 (by decide) (by decide), e.1 213 (by decide) (by decide)]
      exact k3
  · obtain ⟨k1, k2, k3, k4⟩ := h4
    unfold uY
    rw [e.1 199 (by decide) (by decide)]
    refine ⟨k1, k2, k3, fun j hj => ?_⟩
    obtain ⟨l1, l2⟩ := k4 j hj
    have hv : slY (M 199 54) (pU p).length j ≠ 1 := by unfold slY; omega
    have := (p4.2 j hj).1.2.1
    exact ⟨l1.scr hW (by omega) e hv, l2.scr e hv⟩
/-- what one side does leaves the other side's -/
def stX (M M' : Mem) : Prop := ∀ a, 199 ≤ a → M' a = M a
def stY (M M' : Mem) : Prop := ∀ a, a < 199 → M' a = M a
theorem scrX.st {M M' : Mem} (h : scrX M M') : stX M M' := fun a ha => h.1 a (by omega) (by omega) (by omega) (by omega) (by omega) (by omega) (by omega)
theorem scrY.st {M M' : Mem} (h : scrY M M') : stY M M' := fun a ha => h.1 a (by omega) (by omega)
theorem stX.tr {M M1 M2 : Mem} (h : stX M M1) (k : stX M1 M2) : stX M M2 := fun a ha => by rw [k a ha, h a ha]
theorem stY.tr {M M1 M2 : Mem} (h : stY M M1) (k : stY M1 M2) : stY M M2 := fun a ha => by rw [k a ha, h a ha]
theorem stX.up {M M1 : Mem} {a k v : Int} (e : M1 = up M a k v) (ha : a < 199) : stX M M1 := fun c hc => by rw [e, up_ne _ (by omega)]
theorem stY.up {M M1 : Mem} {a k v : Int} (e : M1 = up M a k v) (ha : 199 ≤ a) : stY M M1 := fun c hc => by rw [e, up_ne _ (by omega)]
theorem stX.rf {M : Mem} : stX M M := fun _ _ => rfl
theorem stY.rf {M : Mem} : stY M M := fun _ _ => rfl
theorem othY.st {v : Int} {M M' : Mem} (h : othY v M M') : stY M M' := fun a ha => h.1 a (by simp; omega)
theorem IY.st {M M' : Mem} {b : Int} {p : PT} (h : IY M b p) (e : stX M M') : IY M' b p := by
  obtain ⟨h1, ⟨k1, k2, k3⟩, ⟨h3, h3'⟩, ⟨l1, l2, l3, l4⟩⟩ := h
  refine ⟨?_, ⟨?_, k2.off (fun a a1 a2 => e a (by omega)), ?_⟩, ⟨h3.off (e _ (by decide)) (e _ (by decide)) (e _ (by decide)) (e _ (by decide)) (e _ (by decide)), ?_⟩, ?_⟩
  · unfold aY rw1 at *
    rw [e 199 (by decide), e 200 (by decide), e 226 (by decide), e 237 (by decide), e 238 (by decide), e 239 (by decide), e 241 (by decide)]
    exact h1
  · rw [e 199 (by decide), k1]
  · rw [e 218 (by decide), e 219 (by decide), e 202 (by decide), e 213 (by decide)]
    exact k3
  · unfold KY at *
    rw [e 232 (by decide), e 233 (by decide)]
    exact h3'
  · unfold uY
    rw [e 199 (by decide)]
    refine ⟨l1, l2, l3, fun j hj => ?_⟩
    obtain ⟨m1, m2⟩ := l4 j hj
    refine ⟨m1.off (e _ (by decide)) (e _ (by decide)) (e _ (by decide)) (e _ (by decide)) (e _ (by decide)), ?_⟩
    unfold KY at *
    rw [e 232 (by decide), e 233 (by decide)]
    exact m2
theorem IX.st {M M' : Mem} {t : Int} {p : PT} (h : IX M t p) (e : stY M M') : IX M' t p := by
  obtain ⟨h1, ⟨k1, k2, k3, k4⟩, ⟨h3, h4, h5⟩, ⟨l1, l2, l3, l4⟩, h6⟩ := h
  have k := isTown k3.1
  refine ⟨?_, ⟨?_, ?_, k3.rows (fun a a1 a2 => e a (by omega)), ?_⟩, ⟨h3.rows (fun a a1 a2 => e a (by omega)), ?_, ?_⟩, ?_, ?_⟩
  · unfold aX rw1 rw3 at *
    rw [e 1 (by decide), e 2 (by decide), e 3 (by decide), e 198 (by decide), e 187 (by decide), e 188 (by decide), e 185 (by decide), e 186 (by decide), e 0 (by decide)]
    exact h1
  · rw [e 0 (by decide), k1]
  · rw [e 0 (by decide), k2]
  · rw [e t (by omega), e (t + 1) (by omega), e (t + 4) (by omega)]
    exact k4
  · rw [e 40 (by decide), h4]
  · unfold rw3 at *
    rw [e 64 (by decide)]
    exact h5
  · unfold uX
    rw [e 62 (by decide)]
    refine ⟨l1, l2, l3, fun j hj => ?_⟩
    obtain ⟨m1, m2⟩ := l4 j hj
    have : 65 ≤ slX (M 62 1) j ∧ slX (M 62 1) j ≤ 179 := by unfold slX; omega
    refine ⟨m1.rows (fun a a1 a2 => e a (by omega)), ?_⟩
    rw [e _ (by omega), m2]
  · unfold dX dayX at *
    rw [e 0 (by decide), e (52 + 1) (by decide), e (52 + 2) (by decide)]
    exact h6
