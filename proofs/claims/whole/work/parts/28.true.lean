/-! frames that are true; the class's walk from its beginning -/
theorem shP_app {q : Int × Int × Int} {s p : Int} : ∀ {l : List (Int × Int × Int)}, (∀ r ∈ l, ¬ (r.1 = q.1 ∧ r.2.1 = q.2.1)) → shP (l ++ [q]) s p = if q.1 = s ∧ q.2.1 = p then q.2.2 else shP l s p
  | [], _ => rfl
  | r :: l, h => by
    have ih := shP_app (q := q) (s := s) (p := p) (l := l) (fun x hx => h x (List.mem_cons_of_mem _ hx))
    have h1 := h r List.mem_cons_self
    simp only [List.cons_append, shP]
    rw [ih]
    by_cases c : q.1 = s ∧ q.2.1 = p
    · rw [if_pos c, if_neg (fun z => h1 ⟨by rw [z.1, c.1], by rw [z.2, c.2]⟩), if_pos c]
    · rw [if_neg c, if_neg c]
theorem nd_at {d : Int × Int × Int} : ∀ {l : List (Int × Int × Int)} {k : Nat}, ndP l → k < l.length → ∀ r ∈ l.take k, ¬ (r.1 = (l.getD k d).1 ∧ r.2.1 = (l.getD k d).2.1)
  | [], k, _, h => by simp at h
  | q :: l, 0, _, _ => by simp
  | q :: l, k + 1, hn, hk => by
    simp only [List.length_cons] at hk
    intro r hr
    simp only [List.take_succ_cons, List.mem_cons] at hr
    simp only [List.getD_cons_succ]
    rcases hr with rfl | hr
    · intro z
      have hm : l.getD k d ∈ l := by rw [List.getD_eq_getElem?_getD, List.getElem?_eq_getElem (by omega)]; exact List.getElem_mem _
      exact hn.1 _ hm ⟨z.1.symm, z.2.symm⟩
    · exact nd_at hn.2 (by omega) r hr
theorem take_s {α : Type} {l : List α} {k : Nat} {d : α} (h : k < l.length) : l.take (k + 1) = l.take k ++ [l.getD k d] := by
  rw [List.take_succ, List.getD_eq_getElem?_getD, List.getElem?_eq_getElem h]
  rfl
theorem getD_mem {α : Type} {l : List α} {k : Nat} {d : α} (h : k < l.length) : l.getD k d ∈ l := by
  rw [List.getD_eq_getElem?_getD, List.getElem?_eq_getElem h]; exact List.getElem_mem _
theorem x_beg_83 {o t s : Int} {M0 : Mem} {Q : Mem → Prop} {W : TW} {S : TS} (ho : kd o = 10) (hT : TX M0 t W) (hV : SX M0 s W S) (hW : WOK W) (hS : SOK W S) (h : ∀ M', walkX M0 M' o t s W S 1 0 → Q M') :
    ∀ (d p : Nat) (M : Mem), p + d = wPn W → walkX M0 M o t s W S 0 p → m_X10_begin_L83 Q o t s (d + 1) p M
  | 0, p, M, hd, hx => by
    obtain rfl : p = wPn W := by omega
    have w2 := hW.2.1
    unfold m_X10_begin_L83
    rw [(hT.off ho hx.1).2.2.1]
    exact ⟨by omega, by omega, fun _ => h M hx.next, fun q => by omega⟩
  | d + 1, p, M, hd, hx => by
    have w2 := hW.2.1
    unfold m_X10_begin_L83
    rw [(hT.off ho hx.1).2.2.1, (hV.off ho hT.1 hx.1).2.2.2.1 p (by omega)]
    refine ⟨by omega, by omega, fun q => by omega, fun _ => ⟨by omega, ?_⟩⟩
    exact x_put (k := 0) ho hW (by omega) (by omega) hx rfl (hS.2.2.2.1 p (by omega)) fun M1 hx1 => x_beg_83 ho hT hV hW hS h d (p + 1) M1 (by omega) hx1
theorem x_beg_35 {o t s : Int} {M0 : Mem} {Q : Mem → Prop} {W : TW} {S : TS} (ho : kd o = 10) (hT : TX M0 t W) (hV : SX M0 s W S) (hW : WOK W) (hS : SOK W S) (h : ∀ M', walkX M0 M' o t s W S 1 0 → Q M') :
    ∀ (d k : Nat) (M : Mem), k + d = (sRe S).length → offW o t M0 M → M o 4 = t → M o 5 = s → (∀ j q : Nat, j ≤ 8 → q < 7 → M (o + 2) (7 * j + q) = 0) → (∀ j q : Nat, 1 ≤ j → j ≤ 8 → q < 7 → M (o + 3) (7 * j + q) = shP ((sRe S).take k) j q) → m_X10_begin_L35 Q o t s (s + 2) (d + 1) k M
  | 0, k, M, hd, h1, h2, h3, h4, h5 => by
    obtain rfl : k = (sRe S).length := by omega
    have s9 := hS.2.2.2.2.1
    have w1 := hW.1
    unfold m_X10_begin_L35
    rw [(hV.off ho hT.1 h1).2.2.2.2.1]
    refine ⟨by omega, by omega, fun _ => ⟨_, x_beg_83 ho hT hV hW hS h (wPn W) 0 M (by omega) ⟨h1, h2, h3, fun j q a b c => ?_, fun j q a b => by omega, fun j q a b => ?_⟩⟩, fun q => by omega⟩
    · rw [h5 j q a b (by omega), List.take_length]
    · rw [h4 j q a b]
      simp only [Nat.not_lt_zero, if_false]
      split <;> rfl
  | d + 1, k, M, hd, h1, h2, h3, h4, h5 => by
    have s9 := hS.2.2.2.2.1
    have w1 := hW.1
    have hk : k < (sRe S).length := by omega
    obtain ⟨r0, r⟩ := (hV.off ho hT.1 h1).2.2.2.2
    obtain ⟨r1, r2, r3⟩ := r k hk
    have fo := hS.2.2.2.2.2.1 _ (getD_mem (d := (0, 0, 0)) hk)
    have nd := nd_at (d := (0, 0, 0)) hS.2.2.2.2.2.2 hk
    unfold frOKP at fo
    unfold m_X10_begin_L35
    rw [r0, r1, r2, r3]
    refine ⟨by omega, by omega, fun q => by omega, fun _ => ⟨by omega, by omega, by omega, by omega, fun M1 e1 => ?_⟩⟩
    refine x_beg_35 ho hT hV hW hS h d (k + 1) M1 (by omega) (h1.up e1 (by omega)) ?_ ?_ ?_ ?_
    · rw [e1, up_ne _ (by omega)]; exact h2
    · rw [e1, up_ne _ (by omega)]; exact h3
    · rw [e1, up_ne _ (by omega)]; exact h4
    · intro j q a b c
      rw [take_s (d := (0, 0, 0)) hk, shP_app nd, e1]
      simp only [up_get]
      by_cases z : ((sRe S).getD k (0, 0, 0)).1 = j ∧ ((sRe S).getD k (0, 0, 0)).2.1 = q
      · rw [if_pos z, if_pos ⟨trivial, by rw [z.1, z.2]⟩]
      · rw [if_neg z, if_neg (by omega)]
        exact h5 j q a b c
theorem x_begin {o t s : Int} {M : Mem} {Q : Mem → Prop} {W : TW} {S : TS} (ho : kd o = 10) (hT : TX M t W) (hV : SX M s W S) (hW : WOK W) (hS : SOK W S) (h : ∀ M', walkX M M' o t s W S 1 0 → Q M') : m_X10_begin o t s M Q := by
  have f3 := sub_10_2 ho
  have f2 := sub_10_1 ho
  refine ⟨ho, hT.1, hV.1, fun M1 e1 M2 e2 => j_fill (n := 63) f3.1 f3.2 (by decide) fun M3 o3 v3 => j_fill (n := 63) f2.1 f2.2 (by decide) fun M4 o4 v4 => ⟨(sRe S).length + 1, ?_⟩⟩
  have oo : offW o t M M4 := (((offW.rf.up e1 (by omega)).up e2 (by omega)).tr (o3.W (by omega))).tr (o4.W (by omega))
  refine x_beg_35 ho hT hV hW hS h (sRe S).length 0 M4 (by omega) oo ?_ ?_ ?_ ?_
  · rw [o4 _ (by omega), o3 _ (by omega), e2, e1]; simp [up_get]
  · rw [o4 _ (by omega), o3 _ (by omega), e2]; simp [up_get]
  · intro j q a b
    have := v4 (7 * j + q) (by omega)
    rw [← this]; congr 1
  · intro j q a b c
    rw [o4 _ (by omega)]
    have := v3 (7 * j + q) (by omega)
    rw [show (7 : Int) * j + q = ((7 * j + q : Nat) : Int) by omega, this]
    rfl
/-- a walk that is done -/
def dayX (M : Mem) (o : Int) (W : TW) (S : TS) : Prop := (∀ j q : Nat, j ≤ 8 → q < wPn W → M (o + 1) (6 * j + q) = walkP W S j q) ∧ (∀ j q : Nat, j ≤ 8 → q < 7 → M (o + 2) (7 * j + q) = (whoP (walkP W S j) (wPn W) q : Nat))
theorem walkX.day {M0 M : Mem} {o t s : Int} {W : TW} {S : TS} (h : walkX M0 M o t s W S 9 0) : dayX M o W S := by
  obtain ⟨h1, h2, h3, h4, h5, h6⟩ := h
  refine ⟨fun j q a b => h5 j q b (by omega), fun j q a b => ?_⟩
  have := h6 j q a b
  rwa [if_pos (by omega)] at this
theorem x_goThrough {o t s : Int} {M : Mem} {Q : Mem → Prop} {W : TW} {S : TS} (ho : kd o = 10) (hT : TX M t W) (hV : SX M s W S) (hW : WOK W) (hS : SOK W S) (h : ∀ M', offW o t M M' → dayX M' o W S → Q M') : m_X10_goThrough o t s M Q :=
  ⟨ho, hT.1, hV.1, x_begin ho hT hV hW hS fun M1 hx => ⟨9, x_go_out ho hT hV hW hS (fun M2 hx2 => h M2 hx2.1 hx2.day) 8 0 M1 (by omega) hx⟩⟩
/-- a frame is true in the day of S -/
def trP (W : TW) (S : TS) (q : Int × Int × Int) : Prop := cntP (walkP W S q.1.toNat) (wPn W) q.2.1 = q.2.2
/-- how many of the first k frames are true -/
noncomputable def trN (W : TW) (S : TS) (l : List (Int × Int × Int)) : Nat → Int
  | 0 => 0
  | k + 1 => trN W S l k + if cntP (walkP W S (l.getD k (0, 0, 0)).1.toNat) (wPn W) (l.getD k (0, 0, 0)).2.1 = (l.getD k (0, 0, 0)).2.2 then 1 else 0
theorem trN_rng (W : TW) (S : TS) (l : List (Int × Int × Int)) : ∀ k : Nat, 0 ≤ trN W S l k ∧ trN W S l k ≤ k
  | 0 => by simp [trN]
  | k + 1 => by
    have := trN_rng W S l k
    simp only [trN]
    split <;> omega
theorem trN_all (W : TW) (S : TS) (l : List (Int × Int × Int)) : ∀ k : Nat, trN W S l k = k ↔ ∀ i, i < k → trP W S (l.getD i (0, 0, 0))
  | 0 => by simp [trN]
  | k + 1 => by
    have ih := trN_all W S l k
    have r := trN_rng W S l k
    simp only [trN]
    constructor
    · intro h i hi
      split at h
      · by_cases c : i = k
        · subst c; assumption
        · exact ih.mp (by omega) i (by omega)
      · omega
    · intro h
      rw [if_pos (show _ = _ from h k (by omega)), ih.mpr (fun i hi => h i (by omega))]
      omega
theorem x_isTrue {o r : Int} {M : Mem} {Q : Int → Mem → Prop} {W : TW} {S : TS} {l : List (Int × Int × Int)} {k : Nat} (ho : kd o = 10) (hr : kd r = 5) (hl : reX M r l) (hW : WOK W) (hok : reOK W l) (hk : k < l.length)
    (hw : M (o + 2) (7 * (l.getD k (0, 0, 0)).1 + (l.getD k (0, 0, 0)).2.1) = (whoP (walkP W S (l.getD k (0, 0, 0)).1.toNat) (wPn W) (l.getD k (0, 0, 0)).2.1 : Nat))
    (h : Q (if cntP (walkP W S (l.getD k (0, 0, 0)).1.toNat) (wPn W) (l.getD k (0, 0, 0)).2.1 = (l.getD k (0, 0, 0)).2.2 then 1 else 0) M) : m_X10_isTrue o r k M Q := by
  have w1 := hW.1
  have w2 := hW.2.1
  have l9 := hok.1
  have fo := hok.2.1 _ (getD_mem (d := (0, 0, 0)) hk)
  unfold frOKP at fo
  obtain ⟨r1, r2, r3⟩ := hl.2 k hk
  have cr := cntP_rng (walkP W S (l.getD k (0, 0, 0)).1.toNat) (l.getD k (0, 0, 0)).2.1 (wPn W)
  unfold m_X10_isTrue m_X10_isTrue_J30
  rw [r1, r2]
  refine ⟨ho, hr, by omega, by omega, x_countIn (f := walkP W S (l.getD k (0, 0, 0)).1.toNat) (n := wPn W) ho (by omega) w2 hw ?_⟩
  rw [r3]
  refine ⟨by omega, by omega, by omega, fun q => ⟨by decide, ?_⟩, fun q => ⟨by decide, ?_⟩⟩
  · rwa [if_pos q] at h
  · rwa [if_neg q] at h
theorem dayX.at {M : Mem} {o : Int} {W : TW} {S : TS} (h : dayX M o W S) (hW : WOK W) {l : List (Int × Int × Int)} (hok : reOK W l) {k : Nat} (hk : k < l.length) : M (o + 2) (7 * (l.getD k (0, 0, 0)).1 + (l.getD k (0, 0, 0)).2.1) = (whoP (walkP W S (l.getD k (0, 0, 0)).1.toNat) (wPn W) (l.getD k (0, 0, 0)).2.1 : Nat) := by
  have w1 := hW.1
  have fo := hok.2.1 _ (getD_mem (d := (0, 0, 0)) hk)
  unfold frOKP at fo
  have := h.2 (l.getD k (0, 0, 0)).1.toNat (l.getD k (0, 0, 0)).2.1.toNat (by omega) (by omega)
  rw [toNat_i (by omega : 0 ≤ (l.getD k (0, 0, 0)).1), toNat_i (by omega : 0 ≤ (l.getD k (0, 0, 0)).2.1)] at this
  exact this
theorem x_ones_l {o r : Int} {M : Mem} {Q : Int → Mem → Prop} {W : TW} {S : TS} {l : List (Int × Int × Int)} (ho : kd o = 10) (hr : kd r = 5) (hl : reX M r l) (hW : WOK W) (hok : reOK W l) (hd : dayX M o W S) (h : Q (trN W S l l.length) M) :
    ∀ d k : Nat, k + d = l.length → m_X10_trueOnes_L4 Q o r (d + 1) (trN W S l k) k M
  | 0, k, he => by
    obtain rfl : k = l.length := by omega
    have l9 := hok.1
    unfold m_X10_trueOnes_L4
    rw [hl.1]
    exact ⟨by omega, by omega, fun _ => h, fun q => by omega⟩
  | d + 1, k, he => by
    have l9 := hok.1
    have hk : k < l.length := by omega
    have ih := x_ones_l ho hr hl hW hok hd h d (k + 1) (by omega)
    unfold m_X10_trueOnes_L4 m_X10_trueOnes_J27
    rw [hl.1]
    refine ⟨by omega, by omega, fun q => by omega, fun _ => x_isTrue ho hr hl hW hok hk (hd.at hW hok hk) ?_⟩
    simp only [trN] at ih
    split at ih
    · rw [if_pos (by assumption)]
      exact ⟨by decide, fun z => absurd z (by decide), fun _ => ih⟩
    · rw [if_neg (by assumption)]
      exact ⟨by decide, fun _ => ih, fun z => absurd rfl z⟩
theorem x_trueOnes {o r : Int} {M : Mem} {Q : Int → Mem → Prop} {W : TW} {S : TS} {l : List (Int × Int × Int)} (ho : kd o = 10) (hr : kd r = 5) (hl : reX M r l) (hW : WOK W) (hok : reOK W l) (hd : dayX M o W S) (h : Q (trN W S l l.length) M) : m_X10_trueOnes o r M Q :=
  ⟨ho, hr, _, x_ones_l ho hr hl hW hok hd h l.length 0 (by omega)⟩
/-- whether the day of S agrees -/
noncomputable def agP (W : TW) (S : TS) : Int := if trN W S (sRe S) (sRe S).length = ((sRe S).length : Nat) then 1 else 0
theorem x_agreesWith {o r : Int} {M : Mem} {Q : Int → Mem → Prop} {W : TW} {S : TS} (ho : kd o = 10) (hr : kd r = 5) (hl : reX M r (sRe S)) (hW : WOK W) (hS : SOK W S) (hd : dayX M o W S) (h : Q (agP W S) M) : m_X10_agreesWith o r M Q := by
  have l9 := hS.2.2.2.2.1
  have tr := trN_rng W S (sRe S) (sRe S).length
  refine ⟨ho, hr, x_trueOnes ho hr hl hW hS.2.2.2.2 hd ?_⟩
  unfold m_X10_agreesWith_J17
  rw [hl.1]
  unfold agP at h
  refine ⟨by omega, by omega, fun q => ⟨by decide, ?_⟩, fun q => ⟨by decide, ?_⟩⟩
  · rwa [if_pos q] at h
  · rwa [if_neg q] at h
/-! the model -/
theorem y_isTrue {v b : Int} {M : Mem} {Q : Int → Mem → Prop} {W : TW} {S : TS} {l : List (Int × Int × Int)} {k : Nat} (hT : TY M b W) (hb : M 199 13 = b) (hv : 0 ≤ v ∧ v < 22) (hl : reY M v l) (hW : WOK W) (hS : SOK W S) (hok : reOK W l) (hk : k < l.length) (hd : rowsY M W S 9 0)
    (h : Q (if cntP (walkP W S (l.getD k (0, 0, 0)).1.toNat) (wPn W) (l.getD k (0, 0, 0)).2.1 = (l.getD k (0, 0, 0)).2.2 then 1 else 0) M) : m_X12_isTrue v k M Q := by
  have w1 := hW.1
  have w2 := hW.2.1
  have l9 := hok.1
  have fo := hok.2.1 _ (getD_mem (d := (0, 0, 0)) hk)
  unfold frOKP at fo
  obtain ⟨r1, r2, r3⟩ := hl.2 k hk
  have cr := cntP_rng (walkP W S (l.getD k (0, 0, 0)).1.toNat) (l.getD k (0, 0, 0)).2.1 (wPn W)
  have rows : ∀ q : Nat, q < wPn W → M 236 (6 * (l.getD k (0, 0, 0)).1 + q) = walkP W S (l.getD k (0, 0, 0)).1.toNat q := fun q hq => by
    have := hd (l.getD k (0, 0, 0)).1.toNat q hq (by omega)
    rwa [toNat_i (by omega : 0 ≤ (l.getD k (0, 0, 0)).1)] at this
  have ce := cntP_cong (v := (l.getD k (0, 0, 0)).2.1) (f := fun q => M 236 (6 * (l.getD k (0, 0, 0)).1 + q)) (g := walkP W S (l.getD k (0, 0, 0)).1.toNat) (n := wPn W) rows
  unfold m_X12_isTrue m_X12_isTrue_J43
  rw [r1, r2]
  refine ⟨by omega, by omega, y_manyAt (pn := wPn W) hb hT.1 hT.2.2.1 w2 (by omega) (fun q hq => by rw [rows q hq]; have := walkP_rng hS (l.getD k (0, 0, 0)).1.toNat q hq; omega) (by omega) ?_⟩
  rw [ce, r3]
  refine ⟨by omega, by omega, by omega, fun q => ⟨by decide, ?_⟩, fun q => ⟨by decide, ?_⟩⟩
  · rwa [if_pos q] at h
  · rwa [if_neg q] at h
theorem y_trues_l {v b : Int} {M : Mem} {Q : Int → Mem → Prop} {W : TW} {S : TS} {l : List (Int × Int × Int)} (hT : TY M b W) (hb : M 199 13 = b) (hv : 0 ≤ v ∧ v < 22) (hl : reY M v l) (hW : WOK W) (hS : SOK W S) (hok : reOK W l) (hd : rowsY M W S 9 0) (h : Q (trN W S l l.length) M) :
    ∀ d k : Nat, k + d = l.length → m_X12_trues_L4 Q v (d + 1) (trN W S l k) k M
  | 0, k, he => by
    obtain rfl : k = l.length := by omega
    have l9 := hok.1
    unfold m_X12_trues_L4
    rw [hl.1]
    exact ⟨hv, by omega, by omega, fun _ => h, fun q => by omega⟩
  | d + 1, k, he => by
    have l9 := hok.1
    have hk : k < l.length := by omega
    have ih := y_trues_l hT hb hv hl hW hS hok hd h d (k + 1) (by omega)
    unfold m_X12_trues_L4 m_X12_trues_J29
    rw [hl.1]
    refine ⟨hv, by omega, by omega, fun q => by omega, fun _ => y_isTrue hT hb hv hl hW hS hok hk hd ?_⟩
    simp only [trN] at ih
    split at ih
    · rw [if_pos (by assumption)]
      exact ⟨by decide, fun z => absurd z (by decide), fun _ => ih⟩
    · rw [if_neg (by assumption)]
      exact ⟨by decide, fun _ => ih, fun z => absurd rfl z⟩
theorem y_trues {v b : Int} {M : Mem} {Q : Int → Mem → Prop} {W : TW} {S : TS} {l : List (Int × Int × Int)} (hT : TY M b W) (hb : M 199 13 = b) (hv : 0 ≤ v ∧ v < 22) (hl : reY M v l) (hW : WOK W) (hS : SOK W S) (hok : reOK W l) (hd : rowsY M W S 9 0) (h : Q (trN W S l l.length) M) : m_X12_trues v M Q :=
  ⟨_, y_trues_l hT hb hv hl hW hS hok hd h l.length 0 (by omega)⟩
theorem y_isAgreed {v b : Int} {M : Mem} {Q : Int → Mem → Prop} {W : TW} {S : TS} (hT : TY M b W) (hV : SY M v W S) (hW : WOK W) (hS : SOK W S) (hb : M 199 13 = b) (h : ∀ M', offL [234, 235, 236] M M' → rowsY M' W S 9 0 → Q (agP W S) M') : m_X12_isAgreed v M Q := by
  have l9 := hS.2.2.2.2.1
  have tr := trN_rng W S (sRe S) (sRe S).length
  refine y_runs hT hV hW hS hb fun M1 o1 d1 => ?_
  have hV1 : SY M1 v W S := hV.off (o1 227 (by decide)) (o1 228 (by decide)) (o1 229 (by decide)) (o1 230 (by decide)) (o1 231 (by decide))
  refine y_trues (hT.off (fun a a1 a2 => o1 a (by simp; omega))) (by rw [o1 199 (by decide), hb]) hV.1 hV1.2.2.2.2 hW hS hS.2.2.2.2 d1 ?_
  unfold m_X12_isAgreed_J24
  rw [hV1.2.2.2.2.1]
  have h := h M1 o1 d1
  unfold agP at h
  refine ⟨hV.1, by omega, by omega, fun q => ⟨by decide, ?_⟩, fun q => ⟨by decide, ?_⟩⟩
  · rwa [if_pos q] at h
  · rwa [if_neg q] at h
/-! the class's walk that ends at the first frame that is not true -/
def okAt (W : TW) (S : TS) (l : List (Int × Int × Int)) (j : Int) (k : Nat) : Prop := ∀ i, k ≤ i → i < l.length → (l.getD i (0, 0, 0)).1 = j → trP W S (l.getD i (0, 0, 0))
theorem x_at_l {o r : Int} {M : Mem} {Q : Int → Mem → Prop} {W : TW} {S : TS} {l : List (Int × Int × Int)} {j : Nat} (ho : kd o = 10) (hr : kd r = 5) (hl : reX M r l) (hW : WOK W) (hok : reOK W l) (hj : j ≤ 8) (hw : ∀ q : Nat, q < 7 → M (o + 2) (7 * j + q) = (whoP (walkP W S j) (wPn W) q : Nat)) (h1 : okAt W S l j 0 → Q 1 M) (h0 : ¬ okAt W S l j 0 → Q 0 M) :
    ∀ d k : Nat, k + d = l.length → (okAt W S l j 0 ↔ okAt W S l j k) → m_X10_isTrueAt_L2 Q o j r (d + 1) k M
  | 0, k, he, hi => by
    have l9 := hok.1
    unfold m_X10_isTrueAt_L2
    rw [hl.1]
    exact ⟨by omega, by omega, fun _ => h1 (hi.mpr (fun i a b => by omega)), fun q => by omega⟩
  | d + 1, k, he, hi => by
    have l9 := hok.1
    have w1 := hW.1
    have hk : k < l.length := by omega
    have ih := x_at_l ho hr hl hW hok hj hw h1 h0 d (k + 1) (by omega)
    have fo := hok.2.1 _ (getD_mem (d := (0, 0, 0)) hk)
    unfold frOKP at fo
    obtain ⟨r1, r2, r3⟩ := hl.2 k hk
    unfold m_X10_isTrueAt_L2 m_X10_isTrueAt_J31
    rw [hl.1, r1]
    refine ⟨by omega, by omega, fun q => by omega, fun _ => ⟨by omega, by omega, by omega, fun q => ?_, fun q => ?_⟩⟩
    · have wq := hw (l.getD k (0, 0, 0)).2.1.toNat (by omega)
      rw [toNat_i (by omega : 0 ≤ (l.getD k (0, 0, 0)).2.1)] at wq
      have ej : (l.getD k (0, 0, 0)).1.toNat = j := by omega
      refine x_isTrue (S := S) ho hr hl hW hok hk (by rw [ej, q]; exact wq) ?_
      split
      · rename_i tr
        refine ⟨by decide, fun z => absurd z (by decide), fun _ => ih (hi.trans ⟨fun z i a b c => z i (by omega) b c, fun z i a b c => ?_⟩)⟩
        by_cases e : i = k
        · subst e; exact tr
        · exact z i (by omega) b c
      · rename_i tr
        exact ⟨by decide, fun _ => h0 (fun z => tr (hi.mp z k (by omega) hk q)), fun z => absurd rfl z⟩
    · refine ih (hi.trans ⟨fun z i a b c => z i (by omega) b c, fun z i a b c => ?_⟩)
      by_cases e : i = k
      · subst e; exact absurd c q
      · exact z i (by omega) b c
theorem agP_no {W : TW} {S : TS} {j : Nat} (h : ¬ okAt W S (sRe S) j 0) : agP W S = 0 := by
  unfold agP
  refine if_neg (fun z => h (fun i _ b _ => ?_))
  exact (trN_all W S (sRe S) (sRe S).length).mp z i b
theorem agP_yes {W : TW} {S : TS} (hS : SOK W S) (h : ∀ j : Nat, 1 ≤ j → j ≤ 8 → okAt W S (sRe S) j 0) : agP W S = 1 := by
  unfold agP
  refine if_pos ((trN_all W S (sRe S) (sRe S).length).mpr fun i hi => ?_)
  have fo := hS.2.2.2.2.2.1 _ (getD_mem (d := (0, 0, 0)) hi)
  unfold frOKP at fo
  exact h ((sRe S).getD i (0, 0, 0)).1.toNat (by omega) (by omega) i (by omega) hi (by omega)
theorem x_ag_in {o t s : Int} {k : Nat} {M0 : Mem} {Q : Int → Mem → Prop} {K : Int → Mem → Prop} {W : TW} {S : TS} (ho : kd o = 10) (hT : TX M0 t W) (hV : SX M0 s W S) (hW : WOK W) (hS : SOK W S) (hk : k ≤ 7) (h0 : ∀ M', offW o t M0 M' → agP W S = 0 → Q 0 M') (h : ∀ M', walkX M0 M' o t s W S (k + 2) 0 → okAt W S (sRe S) (k + 1 : Nat) 0 → K ((k : Int) + 1 + 1) M') :
    ∀ (d p : Nat) (M : Mem), p + d = wPn W → walkX M0 M o t s W S (k + 1) p → m_X10_agreesIn_L17 K Q o t s ((k : Int) + 1) (d + 1) p M
  | 0, p, M, hd, hx => by
    obtain rfl : p = wPn W := by omega
    have w2 := hW.2.1
    have hV' := hV.off ho hT.1 hx.1
    unfold m_X10_agreesIn_L17
    rw [(hT.off ho hx.1).2.2.1]
    refine ⟨by omega, by omega, fun _ => ⟨ho, sub_6_3 hV.1, (sRe S).length + 1, ?_⟩, fun q => by omega⟩
    refine x_at_l (j := k + 1) (S := S) ho (sub_6_3 hV.1) hV'.2.2.2.2 hW hS.2.2.2.2 (by omega) (fun q hq => ?_) (fun z => ?_) (fun z => ?_) (sRe S).length 0 (by omega) Iff.rfl
    · have := hx.2.2.2.2.2 (k + 1) q (by omega) hq
      rwa [if_neg (by omega), if_pos rfl] at this
    · exact ⟨by decide, fun y => absurd y (by decide), fun _ => h M hx.next z⟩
    · exact ⟨by decide, fun _ => h0 M hx.1 (agP_no z), fun y => absurd rfl y⟩
  | d + 1, p, M, hd, hx => by
    have w2 := hW.2.1
    unfold m_X10_agreesIn_L17
    rw [(hT.off ho hx.1).2.2.1]
    refine ⟨by omega, by omega, fun q => by omega, fun _ => x_goal ho hT hV hW hS (by omega) hk hx fun M1 hx1 => ?_⟩
    exact x_put (k := k + 1) ho hW (by omega) (by omega) hx1 rfl (walkP_rng hS (k + 1) p (by omega)) fun M2 hx2 => x_ag_in ho hT hV hW hS hk h0 h d (p + 1) M2 (by omega) hx2
theorem x_ag_out {o t s : Int} {M0 : Mem} {Q : Int → Mem → Prop} {W : TW} {S : TS} (ho : kd o = 10) (hT : TX M0 t W) (hV : SX M0 s W S) (hW : WOK W) (hS : SOK W S) (h : ∀ M', offW o t M0 M' → Q (agP W S) M') :
    ∀ (d k : Nat) (M : Mem), k + d = 8 → walkX M0 M o t s W S (k + 1) 0 → (∀ j : Nat, 1 ≤ j → j ≤ k → okAt W S (sRe S) j 0) → m_X10_agreesIn_L8 Q o t s (d + 1) ((k : Int) + 1) M
  | 0, k, M, hd, hx, ha => by
    obtain rfl : k = 8 := by omega
    unfold m_X10_agreesIn_L8
    refine ⟨by decide, fun _ => ?_, fun q => absurd (by decide) q⟩
    have := h M hx.1
    rwa [agP_yes hS ha] at this
  | d + 1, k, M, hd, hx, ha => by
    unfold m_X10_agreesIn_L8
    refine ⟨by omega, fun q => by omega, fun _ => ⟨wPn W + 1, ?_⟩⟩
    refine x_ag_in ho hT hV hW hS (by omega) (fun M1 o1 z => by have := h M1 o1; rwa [z] at this) (fun M1 hx1 z => x_ag_out ho hT hV hW hS h d (k + 1) M1 (by omega) hx1 fun j a b => ?_) (wPn W) 0 M (by omega) hx
    by_cases c : j = k + 1
    · subst c; exact z
    · exact ha j a (by omega)
theorem x_agreesIn {o t s : Int} {M : Mem} {Q : Int → Mem → Prop} {W : TW} {S : TS} (ho : kd o = 10) (hT : TX M t W) (hV : SX M s W S) (hW : WOK W) (hS : SOK W S) (h : ∀ M', offW o t M M' → Q (agP W S) M') : m_X10_agreesIn o t s M Q :=
  ⟨ho, hT.1, hV.1, x_begin ho hT hV hW hS fun M1 hx => ⟨9, x_ag_out ho hT hV hW hS h 8 0 M1 (by omega) hx (fun j a b => by omega)⟩⟩
