/-! names by their two packings; the model's tests of a token -/
def ownW : List (List Int) := [[16, 12, 1, 3, 5], [18, 15, 1, 4], [20, 15], [16, 5, 18, 19, 15, 14], [1, 20], [11, 9, 14, 4], [23, 1, 20, 3, 8], [6, 18, 1, 13, 5], [19, 20, 1, 25, 19], [7, 15, 5, 19], [18, 1, 9, 14], [19, 20, 5, 16], [4, 1, 25], [8, 5, 18, 5], [19, 8, 15, 23, 14], [20, 8, 5, 18, 5], [6, 1, 18], [9, 6], [15, 18], [1, 14, 4], [14, 15, 20], [1, 12, 12], [13, 9, 14], [13, 1, 24]]
def ownYL : List Int := [482854658917, 1919902052, 29807, 123581014175598, 24948, 1802071652, 512736125800, 440005651813, 495873784179, 1735353715, 1918986606, 1937007984, 6578553, 1751478885, 495673374574, 499967685221, 6709618, 26982, 28530, 6385252, 7237492, 6384748, 7170414, 7168376]
theorem own_x : ∀ k : Nat, k < 24 → pkX (ownW.getD k []) = ownL.getD k 0 := by decide
theorem own_y : ∀ k : Nat, k < 24 → pkY (ownW.getD k []) = ownYL.getD k 0 := by decide
theorem own_ok : ∀ k : Nat, k < 24 → okN (ownW.getD k []) := by
  unfold okN
  decide
def pkR : List Int → Int
  | [] => 0
  | c :: r => 256 * pkR r + (c + 96)
theorem pkR_rev (l : List Int) : pkY l = pkR l.reverse := by
  have key : ∀ r : List Int, pkY r.reverse = pkR r := by
    intro r
    induction r with
    | nil => rfl
    | cons c r ih =>
      unfold pkY at *
      rw [List.reverse_cons, List.foldl_append, ih]
      rfl
  rw [← key, List.reverse_reverse]
theorem pkR_inj : ∀ {l m : List Int}, (∀ c ∈ l, 1 ≤ c ∧ c ≤ 26) → (∀ c ∈ m, 1 ≤ c ∧ c ≤ 26) → pkR l = pkR m → l = m
  | [], [], _, _, _ => rfl
  | [], c :: m, _, hm, h => by
    have pos : ∀ r : List Int, (∀ c ∈ r, 1 ≤ c ∧ c ≤ 26) → 0 ≤ pkR r := by
      intro r
      induction r with
      | nil => intro _; decide
      | cons c r ih =>
        intro hr
        have h1 := hr c List.mem_cons_self
        have h2 := ih (fun d hd => hr d (List.mem_cons_of_mem _ hd))
        unfold pkR
        omega
    have h1 := hm c List.mem_cons_self
    have h2 := pos m (fun d hd => hm d (List.mem_cons_of_mem _ hd))
    simp only [pkR] at h
    omega
  | c :: l, [], hl, _, h => by
    have pos : ∀ r : List Int, (∀ c ∈ r, 1 ≤ c ∧ c ≤ 26) → 0 ≤ pkR r := by
      intro r
      induction r with
      | nil => intro _; decide
      | cons c r ih =>
        intro hr
        have h1 := hr c List.mem_cons_self
        have h2 := ih (fun d hd => hr d (List.mem_cons_of_mem _ hd))
        unfold pkR
        omega
    have h1 := hl c List.mem_cons_self
    have h2 := pos l (fun d hd => hl d (List.mem_cons_of_mem _ hd))
    simp only [pkR] at h
    omega
  | c :: l, d :: m, hl, hm, h => by
    have h1 := hl c List.mem_cons_self
    have h2 := hm d List.mem_cons_self
    simp only [pkR] at h
    have e : c = d := by omega
    have e2 : pkR l = pkR m := by omega
    rw [e, pkR_inj (fun x hx => hl x (List.mem_cons_of_mem _ hx)) (fun x hx => hm x (List.mem_cons_of_mem _ hx)) e2]
theorem pkY_inj {l m : List Int} (hl : okN l) (hm : okN m) (h : pkY l = pkY m) : l = m := by
  rw [pkR_rev, pkR_rev] at h
  have := pkR_inj (fun c hc => hl.2.2 c (List.mem_reverse.mp hc)) (fun c hc => hm.2.2 c (List.mem_reverse.mp hc)) h
  exact List.reverse_inj.mp this
theorem getD_pos {l : List Int} (h : okN l) (i : Nat) : (i < l.length → 1 ≤ l.getD i 0) ∧ (l.length ≤ i → l.getD i 0 = 0) := by
  rw [List.getD_eq_getElem?_getD]
  refine ⟨fun q => ?_, fun q => by rw [List.getElem?_eq_none q]; rfl⟩
  rw [List.getElem?_eq_getElem q]
  exact (h.2.2 _ (List.getElem_mem q)).1
theorem pkX_inj {l m : List Int} (hl : okN l) (hm : okN m) (h : pkX l = pkX m) : l = m := by
  have a0 := getD_b hl 0
  have a1 := getD_b hl 1
  have a2 := getD_b hl 2
  have a3 := getD_b hl 3
  have a4 := getD_b hl 4
  have a5 := getD_b hl 5
  have b0 := getD_b hm 0
  have b1 := getD_b hm 1
  have b2 := getD_b hm 2
  have b3 := getD_b hm 3
  have b4 := getD_b hm 4
  have b5 := getD_b hm 5
  unfold pkX at h
  have e5 : l.getD 5 0 = m.getD 5 0 := by omega
  have e4 : l.getD 4 0 = m.getD 4 0 := by omega
  have e3 : l.getD 3 0 = m.getD 3 0 := by omega
  have e2 : l.getD 2 0 = m.getD 2 0 := by omega
  have e1 : l.getD 1 0 = m.getD 1 0 := by omega
  have e0 : l.getD 0 0 = m.getD 0 0 := by omega
  have all : ∀ i, l.getD i 0 = m.getD i 0 := by
    intro i
    rcases (show i = 0 ∨ i = 1 ∨ i = 2 ∨ i = 3 ∨ i = 4 ∨ i = 5 ∨ 6 ≤ i by omega) with rfl | rfl | rfl | rfl | rfl | rfl | q
    · exact e0
    · exact e1
    · exact e2
    · exact e3
    · exact e4
    · exact e5
    · rw [(getD_pos hl i).2 (by have := hl.2.1; omega), (getD_pos hm i).2 (by have := hm.2.1; omega)]
  have ll : l.length = m.length := by
    rcases Nat.lt_trichotomy l.length m.length with q | q | q
    · have x := (getD_pos hl l.length).2 (Nat.le_refl _)
      have y := (getD_pos hm l.length).1 q
      rw [all] at x
      omega
    · exact q
    · have x := (getD_pos hm m.length).2 (Nat.le_refl _)
      have y := (getD_pos hl m.length).1 q
      rw [all] at y
      omega
  refine List.ext_getElem ll fun i h1 h2 => ?_
  have := all i
  rw [List.getD_eq_getElem?_getD, List.getD_eq_getElem?_getD, List.getElem?_eq_getElem h1, List.getElem?_eq_getElem h2] at this
  exact this
theorem pk_same {l m : List Int} (hl : okN l) (hm : okN m) : pkX l = pkX m ↔ pkY l = pkY m := ⟨fun h => by rw [pkX_inj hl hm h], fun h => by rw [pkY_inj hl hm h]⟩
theorem owG_in {v : Int} : ∀ (n k : Nat), owG n v = (k : Nat) → ownL.getD k 0 = v
  | 0, k, h => by simp [owG] at h
  | n + 1, k, h => by
    unfold owG at h
    split at h
    · next q =>
      have : k = n := by omega
      rw [this]
      exact q
    · exact owG_in n k h
theorem owG_at : ∀ k : Nat, k < 24 → owG 24 (ownL.getD k 0) = (k : Nat) := by decide
theorem ow_k {T : List Int} {s k : Nat} (hs : so T s = 1) (hk : k < 24) : ow T s = (k : Nat) ↔ pkY (nm T s) = ownYL.getD k 0 := by
  have ok := nm_ok hs
  rw [← own_y k hk, ← pk_same ok (own_ok k hk), own_x k hk]
  unfold ow
  constructor
  · intro h
    exact (owG_in 24 k h).symm
  · intro h
    rw [h]
    exact owG_at k hk
/-- the model is at fault -/
def FY (M : Mem) (e : Int × Int) : Prop := M 199 8 = e.1 ∧ M 199 9 = e.2
def oB (M M' : Mem) : Prop := (∀ a, a ≠ 199 → M' a = M a) ∧ ∀ k, k ≠ 8 → k ≠ 9 → M' 199 k = M 199 k
theorem FY.n {M : Mem} {k p : Int} (h : FY M (k, p)) (hk : k ≠ 0 := by decide) : M 199 8 ≠ 0 := by
  rw [show M 199 8 = k from h.1]
  exact hk
section
variable {M : Mem} {T : List Int} {s : Nat}
theorem LY.oB {M' : Mem} (h : LY M T s) (o : oB M M') : LY M' T s := by
  unfold LY LYR rw1 at *
  rw [o.1 200 (by decide), o.2 2 (by decide) (by decide), o.2 4 (by decide) (by decide), o.2 3 (by decide) (by decide), o.2 12 (by decide) (by decide), o.2 5 (by decide) (by decide), o.2 7 (by decide) (by decide), o.2 6 (by decide) (by decide)]
  exact h
theorem y_blame {Q : Mem → Prop} {k p : Int} (h8 : M 199 8 = 0) (h : ∀ M', oB M M' → FY M' (k, p) → Q M') : m_X12_blame k p M Q := by
  unfold m_X12_blame
  rw [h8]
  refine ⟨by decide, fun _ M2 e2 M3 e3 => h M3 ⟨fun a ha => by rw [e3, up_ne _ ha, e2, up_ne _ ha], fun j j8 j9 => by rw [e3, up_get, if_neg (by omega), e2, up_get, if_neg (by omega)]⟩ ⟨by rw [e3, up_get, if_neg (by decide), e2, up_get, if_pos ⟨rfl, rfl⟩], by rw [e3, up_get, if_pos ⟨rfl, rfl⟩]⟩, fun q => absurd (by decide) q⟩
theorem y_blame1 {Q : Mem → Prop} {k p : Int} (h8 : 0 < M 199 8 ∧ M 199 8 < 9) (h : Q M) : m_X12_blame k p M Q := by
  unfold m_X12_blame
  exact ⟨by omega, fun q => by omega, fun _ => h⟩
theorem y_lex {Q : Mem → Prop} (hT : TB T) (hx : LY M T s) (h8 : M 199 8 = 0) (h1 : bd T s = -1 → Q M) (h0 : bd T s ≠ -1 → ∀ M', oB M M' → FY M' (1, wr T s) → Q M') : m_X12_lex M Q := by
  have b := bd_rng hx.2.1
  have tl := hT.1
  unfold m_X12_lex m_X12_lex_J17
  rw [hx.2.2.2.2.1]
  refine ⟨by omega, fun q => h1 q, fun q => y_blame h8 fun M' o f => h0 q M' o ?_⟩
  unfold wr
  rw [if_neg q]
  exact f
theorem y_isSign {Q : Int → Mem → Prop} {c : Int} (hT : TB T) (hx : LY M T s) (hb : bd T s = -1) (hc : 0 ≤ c ∧ c < 256) (h : Q (if ts T s = c then 1 else 0) M) : m_X12_isSign c M Q := by
  have sr := so_rng T s
  have tr := tc_rng hT s
  unfold m_X12_isSign m_X12_isSign_J20 m_X12_isSign_J21
  rw [hx.2.2.2.1]
  refine ⟨by omega, fun q => ?_, fun q => ?_⟩
  · have e : ts T s = tc T s := by unfold ts; rw [if_pos ⟨hb, q⟩]
    rw [hx.2.2.2.2.2.2.2.2.1 q]
    rw [e] at h
    refine ⟨by omega, by omega, fun q2 => ⟨by decide, ?_⟩, fun q2 => ⟨by decide, ?_⟩⟩
    · rwa [if_pos q2] at h
    · rwa [if_neg q2] at h
  · have e : ts T s = -1 := by unfold ts; rw [if_neg (fun z => q z.2)]
    rw [e, if_neg (by omega)] at h
    exact ⟨by decide, h⟩
theorem y_isWord {Q : Int → Mem → Prop} {c : Int} (k : Nat) (hk : k < 24) (hc : ownYL.getD k 0 = c) (hx : LY M T s) (hb : bd T s = -1) (h : Q (if tw T s = (k : Nat) then 1 else 0) M) : m_X12_isWord c M Q := by
  have sr := so_rng T s
  have cl : inL c := by
    have : ∀ k : Nat, k < 24 → inL (ownYL.getD k 0) := by decide
    rw [← hc]
    exact this k hk
  unfold m_X12_isWord m_X12_isWord_J21 m_X12_isWord_J22
  rw [hx.2.2.2.1]
  refine ⟨by omega, fun q => ?_, fun q => ?_⟩
  · have e : tw T s = ow T s := by unfold tw; rw [if_pos ⟨hb, q⟩]
    have ok := nm_ok q
    have p := pk48 ok
    have o := ow_k q hk
    rw [hc] at o
    rw [hx.2.2.2.2.2.2.1 q]
    rw [e] at h
    refine ⟨by omega, cl, fun q2 => ⟨by decide, ?_⟩, fun q2 => ⟨by decide, ?_⟩⟩
    · rwa [if_pos (o.mpr q2)] at h
    · rwa [if_neg (mt o.mp q2)] at h
  · have e : tw T s = -2 := by unfold tw; rw [if_neg (fun z => q z.2)]
    rw [e, if_neg (by omega)] at h
    exact ⟨by decide, h⟩
theorem y_sg {c : Int} {A B : Mem → Prop} (hT : TB T) (hx : LY M T s) (hb : bd T s = -1) (hc : 0 ≤ c ∧ c < 256) (h0 : ts T s ≠ c → A M) (h1 : ts T s = c → B M) : m_X12_isSign c M (fun r M' => (inI r) ∧ ((r = 0 → A M') ∧ (¬ r = 0 → B M'))) := by
  refine y_isSign hT hx hb hc ?_
  by_cases q : ts T s = c
  · rw [if_pos q]
    exact rq_1 (h1 q)
  · rw [if_neg q]
    exact rq_0 (h0 q)
theorem y_ww {c : Int} {A B : Mem → Prop} (k : Nat) (hk : k < 24) (hc : ownYL.getD k 0 = c) (hx : LY M T s) (hb : bd T s = -1) (h0 : tw T s ≠ (k : Nat) → A M) (h1 : tw T s = (k : Nat) → B M) : m_X12_isWord c M (fun r M' => (inI r) ∧ ((r = 0 → A M') ∧ (¬ r = 0 → B M'))) := by
  refine y_isWord k hk hc hx hb ?_
  by_cases q : tw T s = (k : Nat)
  · rw [if_pos q]
    exact rq_1 (h1 q)
  · rw [if_neg q]
    exact rq_0 (h0 q)
theorem y_isOwn {Q : Int → Mem → Prop} (hs : so T s = 1) (h : Q (if ow T s = -1 then 0 else 1) M) : m_X12_isOwn (pkY (nm T s)) M Q := by
  have p := pk48 (nm_ok hs)
  have cl : inL (pkY (nm T s)) := by omega
  have k : ∀ (j : Nat) (c : Int), j < 24 → ownYL.getD j 0 = c → pkY (nm T s) = c → Q 1 M := fun j c hj hc he => by
    have : ow T s = (j : Nat) := (ow_k hs hj).mpr (by rw [hc, he])
    rwa [if_neg (by omega)] at h
  unfold m_X12_isOwn m_X12_isOwn_J200 m_X12_isOwn_J166 m_X12_isOwn_J124 m_X12_isOwn_J82 m_X12_isOwn_J40
  refine ⟨cl, k 0 _ (by decide) rfl, fun q0 => ⟨cl, k 1 _ (by decide) rfl, fun q1 => ⟨cl, k 2 _ (by decide) rfl, fun q2 => ⟨cl, k 3 _ (by decide) rfl, fun q3 => ⟨cl, k 4 _ (by decide) rfl, fun q4 => ⟨cl, k 5 _ (by decide) rfl, fun q5 => ⟨cl, k 6 _ (by decide) rfl, fun q6 => ⟨cl, k 7 _ (by decide) rfl, fun q7 => ⟨cl, k 8 _ (by decide) rfl, fun q8 => ⟨cl, k 9 _ (by decide) rfl, fun q9 => ⟨cl, k 10 _ (by decide) rfl, fun q10 => ⟨cl, k 11 _ (by decide) rfl, fun q11 => ⟨cl, k 12 _ (by decide) rfl, fun q12 => ⟨cl, k 13 _ (by decide) rfl, fun q13 => ⟨cl, k 14 _ (by decide) rfl, fun q14 => ⟨cl, k 15 _ (by decide) rfl, fun q15 => ⟨cl, k 16 _ (by decide) rfl, fun q16 => ⟨cl, k 17 _ (by decide) rfl, fun q17 => ⟨cl, k 18 _ (by decide) rfl, fun q18 => ⟨cl, k 19 _ (by decide) rfl, fun q19 => ⟨cl, k 20 _ (by decide) rfl, fun q20 => ⟨cl, k 21 _ (by decide) rfl, fun q21 => ⟨cl, k 22 _ (by decide) rfl, fun q22 => ⟨cl, k 23 _ (by decide) rfl, fun q23 => ?_⟩⟩⟩⟩⟩⟩⟩⟩⟩⟩⟩⟩⟩⟩⟩⟩⟩⟩⟩⟩⟩⟩⟩⟩
  have r := ow_rng T s
  have no : ow T s = -1 := by
    refine Decidable.byContradiction fun z => ?_
    have e : ow T s = ((ow T s).toNat : Nat) := by omega
    have hy := (ow_k hs (k := (ow T s).toNat) (by omega)).mp e
    have cases : ∀ j : Nat, j < 24 → pkY (nm T s) = ownYL.getD j 0 → False := by
      intro j hj he
      rcases (show j = 0 ∨ j = 1 ∨ j = 2 ∨ j = 3 ∨ j = 4 ∨ j = 5 ∨ j = 6 ∨ j = 7 ∨ j = 8 ∨ j = 9 ∨ j = 10 ∨ j = 11 ∨ j = 12 ∨ j = 13 ∨ j = 14 ∨ j = 15 ∨ j = 16 ∨ j = 17 ∨ j = 18 ∨ j = 19 ∨ j = 20 ∨ j = 21 ∨ j = 22 ∨ j = 23 by omega) with rfl | rfl | rfl | rfl | rfl | rfl | rfl | rfl | rfl | rfl | rfl | rfl | rfl | rfl | rfl | rfl | rfl | rfl | rfl | rfl | rfl | rfl | rfl | rfl
      all_goals (simp [ownYL] at he; contradiction)
    exact cases _ (by omega) hy
  rwa [if_pos no] at h
end
