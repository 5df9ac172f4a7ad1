/-! the model's machine reads what the pure reader reads -/
theorem nts_app : ∀ (P R : List Int), nts (P ++ R) = nts P + nts R
  | [], R => by simp [nts]
  | c :: P, R => by
    show _ + nts (P ++ R) = _ + nts P + nts R
    rw [nts_app P R]
    omega
theorem rks_app {l : Int} {P R : List Int} (hP : rks l P) (hR : rks l R) : rks l (P ++ R) := fun x hx => by
  rcases List.mem_append.mp hx with h | h
  · exact hP x h
  · exact hR x h
theorem rks_one {l c : Int} (h1 : -20 ≤ c) (h2 : c ≤ -8) (h3 : l ≤ rkO c) : rks l [c] := fun x hx => by
  rw [List.mem_singleton.mp hx]
  exact ⟨h1, h2, h3⟩
theorem rks_nil {l : Int} : rks l [] := fun x hx => absurd hx (by simp)
theorem rks_le {l m : Int} {P : List Int} (h : rks m P) (hl : l ≤ m) : rks l P := fun x hx => ⟨(h x hx).1, (h x hx).2.1, by have := (h x hx).2.2; omega⟩
theorem hdL_le {l m : Int} {O : List Int} (h : hdL l O) (hl : l ≤ m) : hdL m O := by
  cases O with
  | nil => trivial
  | cons c r => exact ⟨h.1, h.2.1, by have := h.2.2; omega⟩
/-- what the machine comes to behind a piece -/
def okY (T : List Int) (g : Bool) (b : Int) (c0 : Nat) (Q : Mem → Prop) (M : Mem) (cs : List Int) (k pr : Int) (O : List Int) (fs : List FR) (o : Nat) (l : Int) (bP : Nat) (E : Int → Nat → Prop) : (Int × Int) ⊕ (List Int × Nat) → Prop
  | .inl e => ∀ M', oZ b c0 M M' → FY M' e → Q M'
  | .inr (c, t) => ∀ M' cs' P ph', YM T g b c0 M' t cs' ((k, ph', 0, pr, P ++ O) :: fs) (o + nts P) 1 → cs' ++ P = cs ++ c → rks l P → P.length ≤ bP + nts P → o + nts P ≤ 7 → E ph' t → oZ b c0 M M' → yG Q T t M'
/-- part, product, sum -/
def ySm (T : List Int) (g : Bool) (b : Int) (c0 : Nat) (w : Nat) (l : Int) (hg bP : Nat) (Ex : Nat → Prop) (f : Nat) : Prop := ∀ (o s : Nat) (M : Mem) (Q : Mem → Prop) (cs : List Int) (k ph bg pr : Int) (O : List Int) (fs : List FR) (r : (Int × Int) ⊕ (List Int × Nat)), pd T g f w o s = some r → YM T g b c0 M s cs ((k, ph, bg, pr, O) :: fs) o 0 → c0 + cs.length ≤ s → o ≤ 7 → fs.length ≤ o → tot fs + O.length ≤ 6 * o + hg → hdL l O → (0 ≤ k ∧ k ≤ 6) → (ph = 0 ∨ ph = 1) → (bg = 0 ∨ bg = 1) → ((k = 1 ∨ k = 5 ∨ k = 6) → bg = 1 → tw T s ≠ 20 ∧ ts T s ≠ 91 ∧ tw T s ≠ 21) → okY T g b c0 Q M cs k pr O fs o l bP (fun ph' t => ph' = ph ∧ Ex t) r → yG Q T s M
/-- behind a fact -/
abbrev eF (T : List Int) (ph : Int) (t : Nat) : Prop := (ph = 1 ∧ smc T t = 0 ∧ prc T t = 0) ∨ ph = 2
/-- fact, both, test -/
def yTs (T : List Int) (g : Bool) (b : Int) (c0 : Nat) (w : Nat) (l le : Int) (hg bP : Nat) (Ex : Nat → Prop) (f : Nat) : Prop := ∀ (o s : Nat) (M : Mem) (Q : Mem → Prop) (cs : List Int) (k pr : Int) (O : List Int) (fs : List FR) (r : (Int × Int) ⊕ (List Int × Nat)), pd T g f w o s = some r → YM T g b c0 M s cs ((k, 0, 1, pr, O) :: fs) o 0 → c0 + cs.length ≤ s → o ≤ 7 → fs.length ≤ o → tot fs + O.length ≤ 6 * o + hg → hdL le O → (k = 1 ∨ k = 5 ∨ k = 6) → okY T g b c0 Q M cs k pr O fs o l bP (fun ph' t => eF T ph' t ∧ Ex t) r → yG Q T s M
/-- what follows: or, and, + -, * / % -/
def yTl (T : List Int) (g : Bool) (b : Int) (c0 : Nat) (w : Nat) (l : Int) (hg bP : Nat) (En : Int → Int → Nat → Prop) (Ex : Int → Int → Nat → Prop) (f : Nat) : Prop := ∀ (o s : Nat) (M : Mem) (Q : Mem → Prop) (cs cs' P : List Int) (k ph pr : Int) (O : List Int) (fs : List FR) (r : (Int × Int) ⊕ (List Int × Nat)), pd T g f w o s = some r → YM T g b c0 M s cs' ((k, ph, 0, pr, P ++ O) :: fs) (o + nts P) 1 → cs' ++ P = cs → c0 + cs.length ≤ s → rks l P → P.length ≤ bP + nts P → o + nts P ≤ 7 → fs.length ≤ o → tot fs + O.length ≤ 6 * o + hg → hdL l O → (0 ≤ k ∧ k ≤ 6) → En k ph s → okY T g b c0 Q M cs k pr O fs o l bP (Ex ph) r → yG Q T s M
section
variable {T : List Int} {g : Bool} {b : Int} {c0 : Nat}
theorem okY_pre {Q : Mem → Prop} {M M' : Mem} {cs : List Int} {k pr : Int} {O : List Int} {fs : List FR} {o : Nat} {l : Int} {bP : Nat} {E : Int → Nat → Prop} {c : List Int} {x x2 : (Int × Int) ⊕ (List Int × Nat)} (h : okY T g b c0 Q M cs k pr O fs o l bP E x) (hp : pre c (some x2) = some x) (o1 : oZ b c0 M M') : okY T g b c0 Q M' (cs ++ c) k pr O fs o l bP E x2 := by
  cases x2 with
  | inl e =>
    have : x = .inl e := by simpa [pre] using hp.symm
    subst this
    exact fun M2 o2 f => h M2 (o1.tr o2) f
  | inr q =>
    obtain ⟨d, t⟩ := q
    have : x = .inr (c ++ d, t) := by simpa [pre] using hp.symm
    subst this
    intro M2 cs2 P2 ph2 y2 e2 a1 a2 a3 a4 o2
    rw [List.append_assoc] at e2
    exact h M2 cs2 P2 ph2 y2 e2 a1 a2 a3 a4 (o1.tr o2)
theorem y_T11 {f : Nat} (hT : TB T) (hb : b = 0 ∨ b = 1) (hP : ySm T g b c0 5 7 5 0 (fun _ => True) f) (hL : yTl T g b c0 11 6 4 1 (fun _ ph _ => ph = 0 ∨ ph = 1) (fun ph ph' t => ph' = ph ∧ prc T t = 0) f) : yTl T g b c0 11 6 4 1 (fun _ ph _ => ph = 0 ∨ ph = 1) (fun ph ph' t => ph' = ph ∧ prc T t = 0) (f + 1) := by
  intro o s M Q cs cs' P k ph pr O fs r hr hy hcs hc hrk hbP hoP hfs ht hO hk hEn h
  have tl := hT.1
  have sl := hy.1.2.1
  have cl : cs'.length + P.length = cs.length := by rw [← hcs, List.length_append]
  simp only [pd] at hr
  by_cases q : prc T s ≠ 0
  · rw [if_pos q] at hr
    have tb := ts_b (prc_ts q)
    have n := nx_ts sl (prc_ts q)
    have pq := prc_rng q
    have rp : rkO (prc T s) = 6 := by unfold rkO; rw [if_neg (by omega), if_neg (by omega), if_neg (by omega), if_neg (by omega), if_neg (by omega)]
    refine y_Lg hy.2.2.2.2.2.2.2.2.1 fun fu hfu => y_gA (l := 6) (c := prc T s) hT hb hy tb.1 (by omega) hEn (Or.inr ⟨by unfold smc; unfold prc at q; omega, q, rfl, rfl⟩) hO (by omega) hrk (by omega) (by omega) fun M1 y1 z1 => Qg_1 (T := T) (t := nx T s) y1.2.1 ?_ (by omega)
    rw [hcs] at y1
    rcases bn_x hr with ⟨e, hr1, rfl⟩ | ⟨c1, t1, x2, hr1, hr2, hpre⟩
    · exact hP o _ M1 Q cs k ph 0 pr _ fs _ hr1 y1 (by omega) (by omega) hfs (by simp only [List.length_cons]; omega) ⟨by omega, by omega, by omega⟩ hk hEn (Or.inl rfl) (fun _ z => absurd z (by decide)) fun M2 o2 f2 => h M2 (z1.tr o2) f2
    · have pl := pd_len _ _ _ _ _ _ n.2 hr1
      refine hP o _ M1 Q cs k ph 0 pr _ fs _ hr1 y1 (by omega) (by omega) hfs (by simp only [List.length_cons]; omega) ⟨by omega, by omega, by omega⟩ hk hEn (Or.inl rfl) (fun _ z => absurd z (by decide)) fun M2 cs2 P2 ph2 y2 e2 r2 b2 p2 x2' z2 => ?_
      obtain ⟨x3, e3, pre3⟩ := pre_x hr2
      have nn : nts (P2 ++ [prc T s]) = nts P2 := by rw [nts_app]; simp [nts]; omega
      have ph2e := x2'.1
      subst ph2e
      refine hL o t1 M2 Q (cs ++ c1 ++ [prc T s]) cs2 (P2 ++ [prc T s]) k ph2 pr O fs x3 e3 ?_ ?_ ?_ (rks_app (rks_le r2 (by decide)) (rks_one (by omega) (by omega) (by omega))) ?_ (by omega) hfs ht hO hk hEn (okY_pre (okY_pre h hpre (z1.tr z2)) pre3 oZ.rf)
      · rw [nn, List.append_assoc]
        exact y2
      · rw [← List.append_assoc, e2]
      · rw [List.length_append, List.length_append, List.length_singleton]
        omega
      · rw [nn, List.length_append, List.length_singleton]
        omega
  · rw [if_neg q] at hr
    rw [ok_x hr] at h
    exact h M cs' P ph hy (by rw [List.append_nil]; exact hcs) hrk hbP hoP ⟨rfl, by omega⟩ oZ.rf
theorem y_T10 {f : Nat} (hT : TB T) (hb : b = 0 ∨ b = 1) (hP : ySm T g b c0 4 6 4 1 (fun t => prc T t = 0) f) (hL : yTl T g b c0 10 5 3 2 (fun _ ph s => (ph = 0 ∨ ph = 1) ∧ prc T s = 0) (fun ph ph' t => ph' = ph ∧ prc T t = 0 ∧ smc T t = 0) f) : yTl T g b c0 10 5 3 2 (fun _ ph s => (ph = 0 ∨ ph = 1) ∧ prc T s = 0) (fun ph ph' t => ph' = ph ∧ prc T t = 0 ∧ smc T t = 0) (f + 1) := by
  intro o s M Q cs cs' P k ph pr O fs r hr hy hcs hc hrk hbP hoP hfs ht hO hk hEn h
  have tl := hT.1
  have sl := hy.1.2.1
  have cl : cs'.length + P.length = cs.length := by rw [← hcs, List.length_append]
  simp only [pd] at hr
  by_cases q : smc T s ≠ 0
  · rw [if_pos q] at hr
    have tb := ts_b (smc_ts q)
    have n := nx_ts sl (smc_ts q)
    have pq := smc_rng q
    have rp : rkO (smc T s) = 5 := by unfold rkO; rw [if_neg (by omega), if_neg (by omega), if_neg (by omega), if_neg (by omega), if_pos (by omega)]
    refine y_Lg hy.2.2.2.2.2.2.2.2.1 fun fu hfu => y_gA (l := 5) (c := smc T s) hT hb hy tb.1 (by omega) hEn.1 (Or.inl ⟨q, rfl, rfl⟩) hO (by omega) hrk (by omega) (by omega) fun M1 y1 z1 => Qg_1 (T := T) (t := nx T s) y1.2.1 ?_ (by omega)
    rw [hcs] at y1
    rcases bn_x hr with ⟨e, hr1, rfl⟩ | ⟨c1, t1, x2, hr1, hr2, hpre⟩
    · exact hP o _ M1 Q cs k ph 0 pr _ fs _ hr1 y1 (by omega) (by omega) hfs (by simp only [List.length_cons]; omega) ⟨by omega, by omega, by omega⟩ hk hEn.1 (Or.inl rfl) (fun _ z => absurd z (by decide)) fun M2 o2 f2 => h M2 (z1.tr o2) f2
    · have pl := pd_len _ _ _ _ _ _ n.2 hr1
      refine hP o _ M1 Q cs k ph 0 pr _ fs _ hr1 y1 (by omega) (by omega) hfs (by simp only [List.length_cons]; omega) ⟨by omega, by omega, by omega⟩ hk hEn.1 (Or.inl rfl) (fun _ z => absurd z (by decide)) fun M2 cs2 P2 ph2 y2 e2 r2 b2 p2 x2' z2 => ?_
      obtain ⟨x3, e3, pre3⟩ := pre_x hr2
      have nn : nts (P2 ++ [smc T s]) = nts P2 := by rw [nts_app]; simp [nts]; omega
      have ph2e := x2'.1
      subst ph2e
      refine hL o t1 M2 Q (cs ++ c1 ++ [smc T s]) cs2 (P2 ++ [smc T s]) k ph2 pr O fs x3 e3 ?_ ?_ ?_ (rks_app (rks_le r2 (by decide)) (rks_one (by omega) (by omega) (by omega))) ?_ (by omega) hfs ht hO hk ⟨hEn.1, x2'.2⟩ (okY_pre (okY_pre h hpre (z1.tr z2)) pre3 oZ.rf)
      · rw [nn, List.append_assoc]
        exact y2
      · rw [← List.append_assoc, e2]
      · rw [List.length_append, List.length_append, List.length_singleton]
        omega
      · rw [nn, List.length_append, List.length_singleton]
        omega
  · rw [if_neg q] at hr
    rw [ok_x hr] at h
    exact h M cs' P ph hy (by rw [List.append_nil]; exact hcs) hrk hbP hoP ⟨rfl, hEn.2, by omega⟩ oZ.rf
theorem y_T9 {f : Nat} (hT : TB T) (hb : b = 0 ∨ b = 1) (hP : yTs T g b c0 2 3 5 2 3 (fun _ => True) f) (hL : yTl T g b c0 9 2 1 4 (fun k ph s => (k = 1 ∨ k = 5 ∨ k = 6) ∧ eF T ph s) (fun _ ph' t => eF T ph' t ∧ tw T t ≠ 19) f) : yTl T g b c0 9 2 1 4 (fun k ph s => (k = 1 ∨ k = 5 ∨ k = 6) ∧ eF T ph s) (fun _ ph' t => eF T ph' t ∧ tw T t ≠ 19) (f + 1) := by
  intro o s M Q cs cs' P k ph pr O fs r hr hy hcs hc hrk hbP hoP hfs ht hO hk hEn h
  have tl := hT.1
  have sl := hy.1.2.1
  have cl : cs'.length + P.length = cs.length := by rw [← hcs, List.length_append]
  simp only [pd] at hr
  by_cases q : tw T s = 19
  · rw [if_pos q] at hr
    have n := nx_tw sl (show tw T s ≠ -2 by omega)
    refine y_Lg hy.2.2.2.2.2.2.2.2.1 fun fu hfu => y_gC (l := 2) (c := -18) hT hb hy hEn.1 (by have := hEn.2; omega) (Or.inl ⟨q, rfl, rfl⟩) hO (by omega) hrk (by omega) (by omega) fun M1 y1 z1 => Qg_1 (T := T) (t := nx T s) y1.2.1 ?_ (by omega)
    rw [hcs] at y1
    rcases bn_x hr with ⟨e, hr1, rfl⟩ | ⟨c1, t1, x2, hr1, hr2, hpre⟩
    · exact hP o _ M1 Q cs k pr _ fs _ hr1 y1 (by omega) (by omega) hfs (by simp only [List.length_cons]; omega) ⟨by decide, by decide, by decide⟩ hEn.1 fun M2 o2 f2 => h M2 (z1.tr o2) f2
    · have pl := pd_len _ _ _ _ _ _ n.2 hr1
      refine hP o _ M1 Q cs k pr _ fs _ hr1 y1 (by omega) (by omega) hfs (by simp only [List.length_cons]; omega) ⟨by decide, by decide, by decide⟩ hEn.1 fun M2 cs2 P2 ph2 y2 e2 r2 b2 p2 x2' z2 => ?_
      obtain ⟨x3, e3, pre3⟩ := pre_x hr2
      have nn : nts (P2 ++ [-18]) = nts P2 := by rw [nts_app]; simp [nts]
      refine hL o t1 M2 Q (cs ++ c1 ++ [-18]) cs2 (P2 ++ [-18]) k ph2 pr O fs x3 e3 ?_ ?_ ?_ (rks_app (rks_le r2 (by decide)) (rks_one (by decide) (by decide) (by decide))) ?_ (by omega) hfs ht hO hk ⟨hEn.1, x2'.1⟩ (okY_pre (okY_pre h hpre (z1.tr z2)) pre3 oZ.rf)
      · rw [nn, List.append_assoc]
        exact y2
      · rw [← List.append_assoc, e2]
      · rw [List.length_append, List.length_append, List.length_singleton]
        omega
      · rw [nn, List.length_append, List.length_singleton]
        omega
  · rw [if_neg q] at hr
    rw [ok_x hr] at h
    exact h M cs' P ph hy (by rw [List.append_nil]; exact hcs) hrk hbP hoP ⟨hEn.2, q⟩ oZ.rf
theorem y_T8 {f : Nat} (hT : TB T) (hb : b = 0 ∨ b = 1) (hP : yTs T g b c0 1 2 2 1 4 (fun t => tw T t ≠ 19) f) (hL : yTl T g b c0 8 1 0 5 (fun k ph s => (k = 1 ∨ k = 5 ∨ k = 6) ∧ eF T ph s ∧ tw T s ≠ 19) (fun _ ph' t => eF T ph' t ∧ tw T t ≠ 19 ∧ tw T t ≠ 18) f) : yTl T g b c0 8 1 0 5 (fun k ph s => (k = 1 ∨ k = 5 ∨ k = 6) ∧ eF T ph s ∧ tw T s ≠ 19) (fun _ ph' t => eF T ph' t ∧ tw T t ≠ 19 ∧ tw T t ≠ 18) (f + 1) := by
  intro o s M Q cs cs' P k ph pr O fs r hr hy hcs hc hrk hbP hoP hfs ht hO hk hEn h
  have tl := hT.1
  have sl := hy.1.2.1
  have cl : cs'.length + P.length = cs.length := by rw [← hcs, List.length_append]
  simp only [pd] at hr
  by_cases q : tw T s = 18
  · rw [if_pos q] at hr
    have n := nx_tw sl (show tw T s ≠ -2 by omega)
    refine y_Lg hy.2.2.2.2.2.2.2.2.1 fun fu hfu => y_gC (l := 1) (c := -19) hT hb hy hEn.1 (by have := hEn.2.1; omega) (Or.inr ⟨q, rfl, rfl⟩) hO (by omega) hrk (by omega) (by omega) fun M1 y1 z1 => Qg_1 (T := T) (t := nx T s) y1.2.1 ?_ (by omega)
    rw [hcs] at y1
    rcases bn_x hr with ⟨e, hr1, rfl⟩ | ⟨c1, t1, x2, hr1, hr2, hpre⟩
    · exact hP o _ M1 Q cs k pr _ fs _ hr1 y1 (by omega) (by omega) hfs (by simp only [List.length_cons]; omega) ⟨by decide, by decide, by decide⟩ hEn.1 fun M2 o2 f2 => h M2 (z1.tr o2) f2
    · have pl := pd_len _ _ _ _ _ _ n.2 hr1
      refine hP o _ M1 Q cs k pr _ fs _ hr1 y1 (by omega) (by omega) hfs (by simp only [List.length_cons]; omega) ⟨by decide, by decide, by decide⟩ hEn.1 fun M2 cs2 P2 ph2 y2 e2 r2 b2 p2 x2' z2 => ?_
      obtain ⟨x3, e3, pre3⟩ := pre_x hr2
      have nn : nts (P2 ++ [-19]) = nts P2 := by rw [nts_app]; simp [nts]
      refine hL o t1 M2 Q (cs ++ c1 ++ [-19]) cs2 (P2 ++ [-19]) k ph2 pr O fs x3 e3 ?_ ?_ ?_ (rks_app (rks_le r2 (by decide)) (rks_one (by decide) (by decide) (by decide))) ?_ (by omega) hfs ht hO hk ⟨hEn.1, x2'⟩ (okY_pre (okY_pre h hpre (z1.tr z2)) pre3 oZ.rf)
      · rw [nn, List.append_assoc]
        exact y2
      · rw [← List.append_assoc, e2]
      · rw [List.length_append, List.length_append, List.length_singleton]
        omega
      · rw [nn, List.length_append, List.length_singleton]
        omega
  · rw [if_neg q] at hr
    rw [ok_x hr] at h
    exact h M cs' P ph hy (by rw [List.append_nil]; exact hcs) hrk hbP hoP ⟨hEn.2.1, hEn.2.2, q⟩ oZ.rf
theorem y_N4 {f : Nat} (hP : ySm T g b c0 5 7 5 0 (fun _ => True) f) (hL : yTl T g b c0 11 6 4 1 (fun _ ph _ => ph = 0 ∨ ph = 1) (fun ph ph' t => ph' = ph ∧ prc T t = 0) f) : ySm T g b c0 4 6 4 1 (fun t => prc T t = 0) (f + 1) := by
  intro o s M Q cs k ph bg pr O fs r hr hy hc ho hfs ht hO hk hph hbg nf h
  have sl := hy.1.2.1
  simp only [pd] at hr
  rcases bn_x hr with ⟨e, hr1, rfl⟩ | ⟨c1, t1, x2, hr1, hr2, hpre⟩
  · exact hP o s M Q cs k ph bg pr O fs _ hr1 hy hc ho hfs (by omega) (hdL_le hO (by decide)) hk hph hbg nf h
  · have pl := pd_len _ _ _ _ _ _ sl hr1
    refine hP o s M Q cs k ph bg pr O fs _ hr1 hy hc ho hfs (by omega) (hdL_le hO (by decide)) hk hph hbg nf fun M2 cs2 P2 ph2 y2 e2 r2 b2 p2 x2' z2 => ?_
    have ph2e := x2'.1
    subst ph2e
    exact hL o t1 M2 Q (cs ++ c1) cs2 P2 k ph2 pr O fs x2 hr2 y2 e2 (by rw [List.length_append]; omega) (rks_le r2 (by decide)) (by omega) p2 hfs ht hO hk hph (okY_pre h hpre z2)
theorem y_N3 {f : Nat} (hP : ySm T g b c0 4 6 4 1 (fun t => prc T t = 0) f) (hL : yTl T g b c0 10 5 3 2 (fun _ ph s => (ph = 0 ∨ ph = 1) ∧ prc T s = 0) (fun ph ph' t => ph' = ph ∧ prc T t = 0 ∧ smc T t = 0) f) : ySm T g b c0 3 5 3 2 (fun t => prc T t = 0 ∧ smc T t = 0) (f + 1) := by
  intro o s M Q cs k ph bg pr O fs r hr hy hc ho hfs ht hO hk hph hbg nf h
  have sl := hy.1.2.1
  simp only [pd] at hr
  rcases bn_x hr with ⟨e, hr1, rfl⟩ | ⟨c1, t1, x2, hr1, hr2, hpre⟩
  · exact hP o s M Q cs k ph bg pr O fs _ hr1 hy hc ho hfs (by omega) (hdL_le hO (by decide)) hk hph hbg nf h
  · have pl := pd_len _ _ _ _ _ _ sl hr1
    refine hP o s M Q cs k ph bg pr O fs _ hr1 hy hc ho hfs (by omega) (hdL_le hO (by decide)) hk hph hbg nf fun M2 cs2 P2 ph2 y2 e2 r2 b2 p2 x2' z2 => ?_
    have ph2e := x2'.1
    subst ph2e
    exact hL o t1 M2 Q (cs ++ c1) cs2 P2 k ph2 pr O fs x2 hr2 y2 e2 (by rw [List.length_append]; omega) (rks_le r2 (by decide)) (by omega) p2 hfs ht hO hk ⟨hph, x2'.2⟩ (okY_pre h hpre z2)
theorem y_N1 {f : Nat} (hP : yTs T g b c0 2 3 5 2 3 (fun _ => True) f) (hL : yTl T g b c0 9 2 1 4 (fun k ph s => (k = 1 ∨ k = 5 ∨ k = 6) ∧ eF T ph s) (fun _ ph' t => eF T ph' t ∧ tw T t ≠ 19) f) : yTs T g b c0 1 2 2 1 4 (fun t => tw T t ≠ 19) (f + 1) := by
  intro o s M Q cs k pr O fs r hr hy hc ho hfs ht hO hk h
  have sl := hy.1.2.1
  simp only [pd] at hr
  rcases bn_x hr with ⟨e, hr1, rfl⟩ | ⟨c1, t1, x2, hr1, hr2, hpre⟩
  · exact hP o s M Q cs k pr O fs _ hr1 hy hc ho hfs (by omega) (hdL_le hO (by decide)) hk h
  · have pl := pd_len _ _ _ _ _ _ sl hr1
    refine hP o s M Q cs k pr O fs _ hr1 hy hc ho hfs (by omega) (hdL_le hO (by decide)) hk fun M2 cs2 P2 ph2 y2 e2 r2 b2 p2 x2' z2 => ?_
    exact hL o t1 M2 Q (cs ++ c1) cs2 P2 k ph2 pr O fs x2 hr2 y2 e2 (by rw [List.length_append]; omega) (rks_le r2 (by decide)) (by omega) p2 hfs ht hO (by omega) ⟨hk, x2'.1⟩ (okY_pre h hpre z2)
theorem y_N0 {f : Nat} (hP : yTs T g b c0 1 2 2 1 4 (fun t => tw T t ≠ 19) f) (hL : yTl T g b c0 8 1 0 5 (fun k ph s => (k = 1 ∨ k = 5 ∨ k = 6) ∧ eF T ph s ∧ tw T s ≠ 19) (fun _ ph' t => eF T ph' t ∧ tw T t ≠ 19 ∧ tw T t ≠ 18) f) : yTs T g b c0 0 1 1 0 5 (fun t => tw T t ≠ 19 ∧ tw T t ≠ 18) (f + 1) := by
  intro o s M Q cs k pr O fs r hr hy hc ho hfs ht hO hk h
  have sl := hy.1.2.1
  simp only [pd] at hr
  rcases bn_x hr with ⟨e, hr1, rfl⟩ | ⟨c1, t1, x2, hr1, hr2, hpre⟩
  · exact hP o s M Q cs k pr O fs _ hr1 hy hc ho hfs (by omega) (hdL_le hO (by decide)) hk h
  · have pl := pd_len _ _ _ _ _ _ sl hr1
    refine hP o s M Q cs k pr O fs _ hr1 hy hc ho hfs (by omega) (hdL_le hO (by decide)) hk fun M2 cs2 P2 ph2 y2 e2 r2 b2 p2 x2' z2 => ?_
    exact hL o t1 M2 Q (cs ++ c1) cs2 P2 k ph2 pr O fs x2 hr2 y2 e2 (by rw [List.length_append]; omega) (rks_le r2 (by decide)) (by omega) p2 hfs ht hO (by omega) ⟨hk, x2'⟩ (okY_pre h hpre z2)
end
