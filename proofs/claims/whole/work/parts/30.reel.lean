/-! frames shown and cut -/
theorem getD_app {α : Type} {l : List α} {q d : α} {k : Nat} : (l ++ [q]).getD k d = if k < l.length then l.getD k d else if k = l.length then q else d := by
  simp only [List.getD_eq_getElem?_getD]
  by_cases c : k < l.length
  · rw [if_pos c, List.getElem?_append_left c]
  · rw [if_neg c, List.getElem?_append_right (by omega)]
    by_cases e : k = l.length
    · rw [if_pos e, e]; simp
    · rw [if_neg e, List.getElem?_eq_none (by simp; omega)]; rfl
theorem getD_set {α : Type} {l : List α} {q d : α} {i k : Nat} (hi : i < l.length) : (l.set i q).getD k d = if k = i then q else l.getD k d := by
  simp only [List.getD_eq_getElem?_getD]
  by_cases c : k = i
  · subst c; rw [if_pos rfl, List.getElem?_set_self hi]; rfl
  · rw [if_neg c, List.getElem?_set_ne (fun z => c z.symm)]
theorem getD_erase {α : Type} {l : List α} {d : α} {i k : Nat} : (l.eraseIdx i).getD k d = if k < i then l.getD k d else l.getD (k + 1) d := by
  simp only [List.getD_eq_getElem?_getD, List.getElem?_eraseIdx]
  split <;> rfl
def putP (l : List (Int × Int × Int)) (s p n : Int) : List (Int × Int × Int) := if idxP l s p 0 = -1 then l ++ [(s, p, n)] else l.set (idxP l s p 0).toNat (s, p, n)
theorem putP_len {l : List (Int × Int × Int)} {s p n : Int} : (putP l s p n).length = if idxP l s p 0 = -1 then l.length + 1 else l.length := by
  unfold putP
  split <;> simp
theorem ndP_app {q : Int × Int × Int} : ∀ {l : List (Int × Int × Int)}, ndP l → (∀ r ∈ l, ¬ (r.1 = q.1 ∧ r.2.1 = q.2.1)) → ndP (l ++ [q])
  | [], _, _ => by simp [ndP]
  | r :: l, h, k => by
    simp only [List.cons_append, ndP]
    refine ⟨fun x hx => ?_, ndP_app h.2 (fun x hx => k x (List.mem_cons_of_mem _ hx))⟩
    rcases List.mem_append.mp hx with hx | hx
    · exact h.1 x hx
    · rw [List.mem_singleton.mp hx]
      intro z
      exact k r List.mem_cons_self ⟨z.1.symm, z.2.symm⟩
theorem ndP_key : ∀ {l m : List (Int × Int × Int)}, l.map (fun q => (q.1, q.2.1)) = m.map (fun q => (q.1, q.2.1)) → ndP l → ndP m
  | [], [], _, _ => trivial
  | q :: l, r :: m, e, h => by
    simp only [List.map_cons, List.cons.injEq, Prod.mk.injEq] at e
    obtain ⟨⟨e1, e2⟩, e3⟩ := e
    refine ⟨fun x hx => ?_, ndP_key e3 h.2⟩
    have : (x.1, x.2.1) ∈ m.map (fun q => (q.1, q.2.1)) := List.mem_map.mpr ⟨x, hx, rfl⟩
    rw [← e3] at this
    obtain ⟨y, hy, ey⟩ := List.mem_map.mp this
    simp only [Prod.mk.injEq] at ey
    rw [← e1, ← e2, ← ey.1, ← ey.2]
    exact h.1 y hy
  | [], r :: m, e, _ => by simp at e
  | q :: l, [], e, _ => by simp at e
theorem set_key {l : List (Int × Int × Int)} {i : Nat} {s p n : Int} (h1 : (l.getD i (0, 0, 0)).1 = s) (h2 : (l.getD i (0, 0, 0)).2.1 = p) : l.map (fun q => (q.1, q.2.1)) = (l.set i (s, p, n)).map (fun q => (q.1, q.2.1)) := by
  apply List.ext_getElem?
  intro k
  rw [List.getElem?_map, List.getElem?_map]
  by_cases c : i = k
  · subst c
    by_cases hl : i < l.length
    · rw [List.getElem?_set_self hl, List.getElem?_eq_getElem hl]
      rw [List.getD_eq_getElem?_getD, List.getElem?_eq_getElem hl] at h1 h2
      simp only [Option.getD_some] at h1 h2
      simp [h1, h2]
    · rw [List.getElem?_eq_none (by omega), List.getElem?_eq_none (by simp; omega)]
  · rw [List.getElem?_set_ne c]
theorem reOK.put {W : TW} {l : List (Int × Int × Int)} {s p n : Int} (h : reOK W l) (h8 : l.length ≤ 8) (hq : frOKP W (s, p, n)) : reOK W (putP l s p n) := by
  obtain ⟨h1, h2, h3⟩ := h
  unfold reOK
  rw [putP_len]
  unfold putP
  split
  · rename_i c
    refine ⟨by omega, fun q hm => ?_, ndP_app h3 ((idxP_no (by omega)).mp c)⟩
    rcases List.mem_append.mp hm with hm | hm
    · exact h2 q hm
    · rw [List.mem_singleton.mp hm]; exact hq
  · rename_i c
    obtain ⟨i1, i2, i3, i4⟩ := idxP_at (l := l) (s := s) (p := p) (k := 0) (by omega) c
    rw [Int.sub_zero] at i3 i4
    refine ⟨by omega, fun q hm => ?_, ndP_key (set_key i3 i4) h3⟩
    rcases List.mem_or_eq_of_mem_set hm with hm | hm
    · exact h2 q hm
    · rw [hm]; exact hq
theorem ndP_erase : ∀ {l : List (Int × Int × Int)} {k : Nat}, ndP l → ndP (l.eraseIdx k)
  | [], _, _ => trivial
  | q :: l, 0, h => h.2
  | q :: l, k + 1, h => by
    refine ⟨fun r hr => h.1 r (List.mem_of_mem_eraseIdx hr), ndP_erase h.2⟩
theorem reOK.erase {W : TW} {l : List (Int × Int × Int)} {k : Nat} (h : reOK W l) : reOK W (l.eraseIdx k) := by
  refine ⟨?_, fun q hq => h.2.1 q (List.mem_of_mem_eraseIdx hq), ndP_erase h.2.2⟩
  have := List.length_eraseIdx_le l k
  have := h.1
  omega
theorem up3 {M M1 M2 M3 : Mem} {r i a b c : Int} (e1 : M1 = up M (r + 1) i a) (e2 : M2 = up M1 (r + 2) i b) (e3 : M3 = up M2 (r + 3) i c) (j : Int) : M3 (r + 1) j = (if j = i then a else M (r + 1) j) ∧ M3 (r + 2) j = (if j = i then b else M (r + 2) j) ∧ M3 (r + 3) j = (if j = i then c else M (r + 3) j) := by
  have a1 : ¬ r + 1 = r + 3 := by omega
  have a2 : ¬ r + 2 = r + 3 := by omega
  have a3 : ¬ r + 1 = r + 2 := by omega
  have a4 : ¬ r + 3 = r + 2 := by omega
  have a5 : ¬ r + 2 = r + 1 := by omega
  have a6 : ¬ r + 3 = r + 1 := by omega
  rw [e3, e2, e1]
  simp only [up_get, a1, a2, a3, a4, a5, a6, false_and, if_false, true_and, and_self]
theorem x_reput {r s p n : Int} {M : Mem} {Q : Mem → Prop} {l : List (Int × Int × Int)} {W : TW} (hr : kd r = 5) (hl : reX M r l) (hok : reOK W l) (hW : wPl W ≤ 7) (h8 : l.length ≤ 8) (h1 : inI s) (h2 : inI p) (h : ∀ M', (∀ c, (c < r ∨ r + 3 < c) → M' c = M c) → reX M' r (putP l s p n) → Q M') : m_X5_put r s p n M Q := by
  have fin : ∀ k : Nat, k ≤ 8 → k ≤ l.length → (putP l s p n).length = (if l.length < k + 1 then k + 1 else l.length) → (∀ i, i < (putP l s p n).length → (putP l s p n).getD i (0, 0, 0) = if i = k then (s, p, n) else l.getD i (0, 0, 0)) → m_X5_put_J20 Q r s p n k M := by
    intro k hk hk2 hlen hg
    unfold m_X5_put_J20
    refine ⟨by omega, fun _ => ⟨by omega, fun M1 e1 => ⟨by omega, fun M2 e2 => ⟨by omega, fun M3 e3 => ?_⟩⟩⟩, fun q => by omega⟩
    have e0 : M3 r 0 = (l.length : Nat) := by rw [e3, up_ne _ (by omega), e2, up_ne _ (by omega), e1, up_ne _ (by omega), hl.1]
    unfold m_J9_max_7cf53 m_J9_max_7cf53_J10
    rw [e0]
    have last : ∀ x M4, x = ((putP l s p n).length : Nat) → M4 = up M3 r 0 x → Q M4 := by
      intro x M4 ex e4
      refine h M4 (fun c hc => ?_) ⟨?_, fun i hi => ?_⟩
      · rw [e4, up_ne _ (by omega), e3, up_ne _ (by omega), e2, up_ne _ (by omega), e1, up_ne _ (by omega)]
      · rw [e4]; simp [up_get, ex]
      · obtain ⟨b1, b2, b3⟩ := up3 e1 e2 e3 i
        rw [hg i hi, e4, up_ne _ (by omega), up_ne _ (by omega), up_ne _ (by omega), b1, b2, b3]
        by_cases c : i = k
        · subst c
          simp
        · rw [if_neg c, if_neg (by omega), if_neg (by omega), if_neg (by omega)]
          exact hl.2 i (by rw [hlen] at hi; split at hi <;> omega)
    refine ⟨by omega, by omega, fun q M4 e4 => last _ M4 (by rw [hlen, if_pos (by omega)]) e4, fun q M4 e4 => last _ M4 (by rw [hlen, if_neg (by omega)]) e4⟩
  refine ⟨hr, x_indexOf hr hl hok hW h1 h2 ?_⟩
  by_cases c : idxP l s p 0 = -1
  · refine ⟨by omega, fun _ => ?_, fun z => absurd c z⟩
    rw [hl.1]
    refine fin l.length h8 (by omega) (by rw [putP_len, if_pos c, if_pos (by omega)]) (fun i hi => ?_)
    unfold putP at hi ⊢
    rw [if_pos c] at hi ⊢
    simp at hi
    rw [getD_app]
    by_cases e : i = l.length
    · rw [if_neg (by omega), if_pos e, if_pos e]
    · rw [if_pos (by omega), if_neg e]
  · obtain ⟨i1, i2, -⟩ := idxP_at (l := l) (s := s) (p := p) (k := 0) (by omega) c
    refine ⟨by omega, fun z => absurd z c, fun _ => ?_⟩
    have := fin (idxP l s p 0).toNat (by omega) (by omega) (by rw [putP_len, if_neg c, if_neg (by omega)]) (fun i hi => by
      unfold putP
      rw [if_neg c, getD_set (by omega)])
    rwa [toNat_i i1] at this
theorem x_rem_l {r : Int} {M0 : Mem} {Q : Mem → Prop} {l : List (Int × Int × Int)} {k : Nat} (h9 : l.length ≤ 9) (hk : k < l.length) (h : ∀ M', (∀ c, (c < r ∨ r + 3 < c) → M' c = M0 c) → reX M' r (l.eraseIdx k) → Q M') :
    ∀ (d i : Nat) (M : Mem), i + d + 1 = l.length → k ≤ i → (∀ c, (c < r ∨ r + 3 < c) → M c = M0 c) → M r 0 = (l.length - 1 : Nat) → (∀ j : Nat, j < i → M (r + 1) j = ((l.eraseIdx k).getD j (0, 0, 0)).1 ∧ M (r + 2) j = ((l.eraseIdx k).getD j (0, 0, 0)).2.1 ∧ M (r + 3) j = ((l.eraseIdx k).getD j (0, 0, 0)).2.2) → (∀ j : Nat, i ≤ j → j < l.length → M (r + 1) j = (l.getD j (0, 0, 0)).1 ∧ M (r + 2) j = (l.getD j (0, 0, 0)).2.1 ∧ M (r + 3) j = (l.getD j (0, 0, 0)).2.2) → m_X5_remove_L25 Q r (d + 1) i M
  | 0, i, M, hd, hi, h1, h2, h3, h4 => by
    unfold m_X5_remove_L25
    rw [h2]
    refine ⟨by omega, by omega, fun _ => h M h1 ⟨?_, fun j hj => ?_⟩, fun q => by omega⟩
    · rw [h2, List.length_eraseIdx_of_lt hk]
    · rw [List.length_eraseIdx_of_lt hk] at hj
      exact h3 j (by omega)
  | d + 1, i, M, hd, hi, h1, h2, h3, h4 => by
    obtain ⟨a1, a2, a3⟩ := h4 (i + 1) (by omega) (by omega)
    unfold m_X5_remove_L25
    rw [h2]
    refine ⟨by omega, by omega, fun q => by omega, fun _ => ⟨by omega, by omega, fun M1 e1 => ⟨by omega, by omega, fun M2 e2 => ⟨by omega, by omega, fun M3 e3 => ?_⟩⟩⟩⟩
    have v1 : M (r + 1) ((i : Int) + 1) = (l.getD (i + 1) (0, 0, 0)).1 := by rw [← a1]; rfl
    have v2 : M1 (r + 2) ((i : Int) + 1) = (l.getD (i + 1) (0, 0, 0)).2.1 := by rw [e1, up_ne _ (by omega), ← a2]; rfl
    have v3 : M2 (r + 3) ((i : Int) + 1) = (l.getD (i + 1) (0, 0, 0)).2.2 := by rw [e2, up_ne _ (by omega), e1, up_ne _ (by omega), ← a3]; rfl
    rw [v1] at e1
    rw [v2] at e2
    rw [v3] at e3
    have row : ∀ j : Int, M3 (r + 1) j = (if j = i then (l.getD (i + 1) (0, 0, 0)).1 else M (r + 1) j) ∧ M3 (r + 2) j = (if j = i then (l.getD (i + 1) (0, 0, 0)).2.1 else M (r + 2) j) ∧ M3 (r + 3) j = (if j = i then (l.getD (i + 1) (0, 0, 0)).2.2 else M (r + 3) j) := by
      exact fun j => up3 e1 e2 e3 j
    refine x_rem_l h9 hk h d (i + 1) M3 (by omega) (by omega) (fun c hc => ?_) ?_ (fun j hj => ?_) (fun j hj hj2 => ?_)
    · rw [e3, up_ne _ (by omega), e2, up_ne _ (by omega), e1, up_ne _ (by omega), h1 c hc]
    · rw [e3, up_ne _ (by omega), e2, up_ne _ (by omega), e1, up_ne _ (by omega), h2]
    · obtain ⟨b1, b2, b3⟩ := row j
      rw [b1, b2, b3]
      by_cases c : j = i
      · subst c
        rw [if_pos rfl, if_pos rfl, if_pos rfl, getD_erase, if_neg (by omega)]
        exact ⟨rfl, rfl, rfl⟩
      · rw [if_neg (by omega), if_neg (by omega), if_neg (by omega)]
        exact h3 j (by omega)
    · obtain ⟨b1, b2, b3⟩ := row j
      rw [b1, b2, b3, if_neg (by omega), if_neg (by omega), if_neg (by omega)]
      exact h4 j (by omega) hj2
theorem x_remove {r : Int} {M : Mem} {Q : Mem → Prop} {l : List (Int × Int × Int)} {k : Nat} (hr : kd r = 5) (hl : reX M r l) (h9 : l.length ≤ 9) (hk : k < l.length) (h : ∀ M', (∀ c, (c < r ∨ r + 3 < c) → M' c = M c) → reX M' r (l.eraseIdx k) → Q M') : m_X5_remove r k M Q := by
  unfold m_X5_remove
  rw [hl.1]
  refine ⟨hr, by omega, fun q => by omega, fun _ => ⟨by omega, by omega, fun _ M1 e1 => ⟨l.length - 1 - k + 1, ?_⟩, fun q => by omega⟩⟩
  refine x_rem_l (M0 := M) h9 hk h (l.length - 1 - k) k M1 (by omega) (by omega) (fun c hc => ?_) ?_ (fun j hj => ?_) (fun j hj hj2 => ?_)
  · rw [e1, up_ne _ (by omega)]
  · rw [e1]
    simp only [up_get]
    rw [if_pos ⟨trivial, trivial⟩]
    omega
  · rw [e1, up_ne _ (by omega), up_ne _ (by omega), up_ne _ (by omega), getD_erase, if_pos hj]
    exact hl.2 j (by omega)
  · rw [e1, up_ne _ (by omega), up_ne _ (by omega), up_ne _ (by omega)]
    exact hl.2 j hj2
