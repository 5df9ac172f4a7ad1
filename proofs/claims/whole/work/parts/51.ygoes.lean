/-! the model's machine goes on behind an operand -/
def yG (Q : Mem → Prop) (T : List Int) (s : Nat) (M : Mem) : Prop := ∀ fu : Nat, T.length - s + 3 ≤ fu → m_X12_reads_L43 Q fu 1 M
def Qo (Q : Mem → Prop) (fu : Nat) : Int → Mem → Prop := fun r M7 => (r = 0 ∨ r = 1) ∧ ∀ M10 : Mem, M10 = up M7 199 45 r → m_X12_reads_J70 (m_X12_reads_L43 Q fu) Q 1 M10
def Qg (Q : Mem → Prop) (fu : Nat) : Int → Mem → Prop := fun r M5 => m_X12_reads_J70 (m_X12_reads_L43 Q fu) Q r M5
section
variable {T : List Int} {g : Bool} {b : Int} {c0 : Nat} {M : Mem} {s : Nat} {cs : List Int} {fs : List FR} {o : Nat} {op : Int} {Q : Mem → Prop} {R : Int → Mem → Prop}
theorem y_end0 {fu : Nat} (h : Q M) (hf : 1 ≤ fu) : m_X12_reads_L43 Q fu 0 M := by
  obtain ⟨fu, rfl⟩ : ∃ k, fu = k + 1 := ⟨fu - 1, by omega⟩
  unfold m_X12_reads_L43
  exact ⟨by decide, fun _ => h, fun z => absurd rfl z⟩
theorem y_Lo (h45 : M 199 45 = 0) (h : ∀ fu : Nat, T.length - s + 2 ≤ fu → m_X12_operand M (Qo Q fu)) : yG Q T s M := by
  intro fu hfu
  obtain ⟨fu, rfl⟩ : ∃ k, fu = k + 1 := ⟨fu - 1, by omega⟩
  unfold m_X12_reads_L43
  rw [h45]
  exact ⟨by decide, fun z => absurd z (by decide), fun _ => ⟨by decide, fun _ => h fu (by omega), fun z => absurd rfl z⟩⟩
theorem y_Lg (h45 : M 199 45 = 1) (h : ∀ fu : Nat, T.length - s + 2 ≤ fu → m_X12_goesOn M (Qg Q fu)) : yG Q T s M := by
  intro fu hfu
  obtain ⟨fu, rfl⟩ : ∃ k, fu = k + 1 := ⟨fu - 1, by omega⟩
  unfold m_X12_reads_L43
  rw [h45]
  exact ⟨by decide, fun z => absurd z (by decide), fun _ => ⟨by decide, fun z => absurd z (by decide), fun _ => h fu (by omega)⟩⟩
theorem Qg_1 {fu t : Nat} (h8 : M 199 8 = 0) (h : yG Q T t M) (hf : T.length - t + 3 ≤ fu) : Qg Q fu 1 M := by
  unfold Qg m_X12_reads_J70 m_X12_reads_J85 m_X12_reads_J86
  rw [h8]
  exact ⟨by decide, fun z => absurd z (by decide), fun _ => ⟨by decide, fun _ => h fu hf, fun z => absurd rfl z⟩⟩
theorem Qg_0 {fu : Nat} (h : Q M) (hf : 1 ≤ fu) : Qg Q fu 0 M := by
  unfold Qg m_X12_reads_J70 m_X12_reads_J85 m_X12_reads_J86
  exact ⟨by decide, fun _ => y_end0 h hf, fun z => absurd rfl z⟩
theorem Qo_1 {fu t : Nat} {r x : Int} (hr : r = 0 ∨ r = 1) (h : YM T g b c0 M t cs fs o x) (hG : ∀ M', YM T g b c0 M' t cs fs o r → oZ b c0 M M' → yG Q T t M') (hf : T.length - t + 3 ≤ fu) : Qo Q fu r M := by
  refine ⟨hr, fun M10 e => ?_⟩
  have y := h.oper e
  unfold m_X12_reads_J70 m_X12_reads_J85 m_X12_reads_J86
  rw [y.2.1]
  exact ⟨by decide, fun z => absurd z (by decide), fun _ => ⟨by decide, fun _ => hG M10 y (oZ.up e (by omega)) fu hf, fun z => absurd rfl z⟩⟩
theorem Qo_0 {fu : Nat} {r : Int} {e : Int × Int} (hr : r = 0 ∨ r = 1) (h : FY M e) (he : 0 < e.1 ∧ e.1 < 9) (hQ : ∀ M', oZ b c0 M M' → FY M' e → Q M') (hf : 1 ≤ fu) : Qo Q fu r M := by
  refine ⟨hr, fun M10 e1 => ?_⟩
  have f10 : FY M10 e := by
    unfold FY at *
    rw [e1, up_get, if_neg (by decide), up_get, if_neg (by decide)]
    exact h
  unfold m_X12_reads_J70 m_X12_reads_J85 m_X12_reads_J86
  rw [f10.1]
  exact ⟨by decide, fun z => absurd z (by decide), fun _ => ⟨by omega, fun z => by omega, fun _ => y_end0 (hQ M10 (oZ.up e1 (by omega)) f10) hf⟩⟩
theorem YM.deep {k ph bg pr : Int} {O : List Int} (h : YM T g b c0 M s cs ((k, ph, bg, pr, O) :: fs) o op) : M 199 41 - 1 = (fs.length : Nat) ∧ M 220 (fs.length : Nat) = k ∧ M 221 (fs.length : Nat) = ph ∧ M 222 (fs.length : Nat) = bg ∧ M 223 (fs.length : Nat) = 23 - pr := by
  obtain ⟨h1, h2, h3, h4, h5, h6, h7, h8, h9, k1, k2, k3, k4, -⟩ := h
  refine ⟨?_, k1, k2, k3, k4⟩
  rw [h6]
  simp only [List.length_cons]
  omega
theorem y_gA {k ph bg pr c l : Int} {O P : List Int} (hT : TB T) (hb : b = 0 ∨ b = 1) (h : YM T g b c0 M s cs ((k, ph, bg, pr, P ++ O) :: fs) (o + nts P) op) (hbd : bd T s = -1) (hk : inI k) (hph : ph = 0 ∨ ph = 1) (hc : (smc T s ≠ 0 ∧ c = smc T s ∧ l = 5) ∨ (smc T s = 0 ∧ prc T s ≠ 0 ∧ c = prc T s ∧ l = 6)) (hO : hdL l O) (hf : fs.length < 20) (hr : rks l P) (hcl : c0 + cs.length + P.length ≤ 1600) (ht : tot fs + P.length + O.length < 500)
    (hQ : ∀ M', YM T g b c0 M' (nx T s) (cs ++ P) ((k, ph, bg, pr, c :: O) :: fs) o 0 → oZ b c0 M M' → R 1 M') : m_X12_goesOn M R := by
  obtain ⟨d1, d2, d3, -⟩ := h.deep
  have j112 : m_X12_goesOn_J112 R l M := by
    unfold m_X12_goesOn_J112 m_X12_goesOn_J174
    refine y_joins hb (by omega) hO hf h hr hcl (by omega) fun M1 y1 z1 => ?_
    have fin : ∀ v, v = 23 - c → m_X12_holdsBack v M1 (fun M86 => m_X12_ahead M86 (fun M87 => ∀ M88 : Mem, M88 = up M87 199 45 0 → R 1 M88)) := fun v hv => by
      refine y_hold y1 (by omega) hv fun M2 y2 z2 => y_ahead hT y2.1 hbd fun M3 o3 l3 M4 e4 => ?_
      exact hQ M4 ((y2.ahead o3 l3).oper e4) (((z1.tr z2).tr (o3.z (l3.i12 hT))).tr (oZ.up e4 (by omega)))
    unfold smc prc at hc
    refine y_sg hT y1.1 hbd (by decide) (fun q1 => y_sg hT y1.1 hbd (by decide) (fun q2 => y_sg hT y1.1 hbd (by decide) (fun q3 => y_sg hT y1.1 hbd (by decide) (fun q4 => fin _ ?_) (fun q4 => fin _ ?_)) (fun q3 => fin _ ?_)) (fun q2 => fin _ ?_)) (fun q1 => fin _ ?_) <;> omega
  have j87 : m_X12_goesOn_J87 R M := by
    unfold m_X12_goesOn_J87 m_X12_goesOn_J106
    unfold smc at hc
    refine y_sg hT h.1 hbd (by decide) (fun q1 => y_sg hT h.1 hbd (by decide) (fun q2 => ?_) (fun q2 => ?_)) (fun q1 => ?_)
    · have : l = 6 := by omega
      rw [← this]
      exact j112
    · have : l = 5 := by omega
      rw [← this]
      exact j112
    · have : l = 5 := by omega
      rw [← this]
      exact j112
  unfold m_X12_goesOn
  refine y_lex hT h.1 h.2.1 (fun _ => ?_) (fun z => absurd hbd z)
  rw [h.2.1, d1, d2]
  refine ⟨by decide, fun _ => ⟨by omega, y_isTest hk ⟨by omega, ?_⟩⟩, fun z => absurd (by decide) z⟩
  rw [d3]
  refine ⟨by omega, fun z => by omega, fun _ => y_sg hT h.1 hbd (by decide) (fun q1 => y_sg hT h.1 hbd (by decide) (fun q2 => y_sg hT h.1 hbd (by decide) (fun q3 => y_sg hT h.1 hbd (by decide) (fun q4 => y_sg hT h.1 hbd (by decide) (fun q5 => ?_) (fun _ => j87)) (fun _ => j87)) (fun _ => j87)) (fun _ => j87)) (fun _ => j87)⟩
  unfold smc prc at hc
  omega
/-- no operator of a sum here -/
theorem y_g188 {k ph bg pr : Int} {O : List Int} (hT : TB T) (h : YM T g b c0 M s cs ((k, ph, bg, pr, O) :: fs) o op) (hbd : bd T s = -1) (hk : inI k) (hf : fs.length < 20) (hp : 0 ≤ ph ∧ ph ≤ 2) (hn : ph = 2 ∨ (smc T s = 0 ∧ prc T s = 0)) (hJ : m_X12_goesOn_J188 R (fs.length : Nat) k (if k = 1 ∨ k = 5 ∨ k = 6 then 1 else 0) M) : m_X12_goesOn M R := by
  obtain ⟨d1, d2, d3, -⟩ := h.deep
  unfold m_X12_goesOn
  refine y_lex hT h.1 h.2.1 (fun _ => ?_) (fun z => absurd hbd z)
  rw [h.2.1, d1, d2]
  refine ⟨by decide, fun _ => ⟨by omega, y_isTest hk ⟨by omega, ?_⟩⟩, fun z => absurd (by decide) z⟩
  rw [d3]
  unfold smc prc at hn
  refine ⟨by omega, fun _ => hJ, fun z => y_sg hT h.1 hbd (by decide) (fun q1 => y_sg hT h.1 hbd (by decide) (fun q2 => y_sg hT h.1 hbd (by decide) (fun q3 => y_sg hT h.1 hbd (by decide) (fun q4 => y_sg hT h.1 hbd (by decide) (fun q5 => hJ) (fun q => by omega)) (fun q => by omega)) (fun q => by omega)) (fun q => by omega)) (fun q => by omega)⟩
theorem y_gB {k bg pr : Int} {O P : List Int} (hT : TB T) (hb : b = 0 ∨ b = 1) (h : YM T g b c0 M s cs ((k, 0, bg, pr, P ++ O) :: fs) (o + nts P) op) (hk : k = 1 ∨ k = 5 ∨ k = 6) (hc : cmc T s ≠ 0) (hO : hdL 5 O) (hf : fs.length < 20) (hr : rks 5 P) (hcl : c0 + cs.length + P.length ≤ 1600) (ht : tot fs + P.length + O.length < 500)
    (hQ : ∀ M', YM T g b c0 M' (nx T s) (cs ++ P) ((k, 1, bg, pr, cmc T s :: O) :: fs) o 0 → oZ b c0 M M' → R 1 M') : m_X12_goesOn M R := by
  have hbd := (ts_b (cmc_ts hc)).1
  have tsv : ts T s = 60 ∨ ts T s = 62 ∨ ts T s = 61 := by unfold cmc at hc; omega
  refine y_g188 hT h hbd (by omega) hf (by omega) (Or.inr (by unfold smc prc; omega)) ?_
  obtain ⟨d1, d2, d3, -⟩ := h.deep
  have j228 : m_X12_goesOn_J228 R (fs.length : Nat) M := by
    unfold m_X12_goesOn_J228 m_X12_goesOn_J264
    refine y_joins hb (by decide) hO hf h hr hcl (by omega) fun M1 y1 z1 => ?_
    have fin : ∀ v, v = 23 - cmc T s → m_X12_holdsBack v M1 (fun M62 => ((0 : Int) ≤ (fs.length : Nat) ∧ ((fs.length : Nat) : Int) < 20) ∧ ∀ M64 : Mem, M64 = up M62 221 (fs.length : Nat) 1 → m_X12_ahead M64 (fun M65 => ∀ M66 : Mem, M66 = up M65 199 45 0 → R 1 M66)) := fun v hv => by
      refine y_hold y1 (by omega) hv fun M2 y2 z2 => ⟨by omega, fun M3 e3 => ?_⟩
      have y3 : YM T g b c0 M3 s (cs ++ P) ((k, 1, bg, pr, cmc T s :: O) :: fs) o op := y2.top e3 (by decide) (by simp) (by simp) (by simp) (by simp) rfl
      refine y_ahead hT y3.1 hbd fun M4 o4 l4 M5 e5 => ?_
      exact hQ M5 ((y3.ahead o4 l4).oper e5) ((((z1.tr z2).tr (oZ.up e3 (by omega))).tr (o4.z (l4.i12 hT))).tr (oZ.up e5 (by omega)))
    refine y_sg hT y1.1 hbd (by decide) (fun q1 => y_sg hT y1.1 hbd (by decide) (fun q2 => fin _ ?_) (fun q2 => fin _ ?_)) (fun q1 => fin _ ?_) <;> (unfold cmc; omega)
  unfold m_X12_goesOn_J188
  rw [if_pos hk, d3]
  exact ⟨by decide, fun z => absurd z (by decide), fun _ => ⟨by omega, by decide, fun _ => y_sg hT h.1 hbd (by decide) (fun q1 => y_sg hT h.1 hbd (by decide) (fun q2 => y_sg hT h.1 hbd (by decide) (fun q3 => by omega) (fun _ => j228)) (fun _ => j228)) (fun _ => j228), fun z => absurd rfl z⟩⟩
/-- and, or -/
theorem y_gC {k ph bg pr c l : Int} {O P : List Int} (hT : TB T) (hb : b = 0 ∨ b = 1) (h : YM T g b c0 M s cs ((k, ph, bg, pr, P ++ O) :: fs) (o + nts P) op) (hk : k = 1 ∨ k = 5 ∨ k = 6) (hph : ph = 1 ∨ ph = 2) (hc : (tw T s = 19 ∧ c = -18 ∧ l = 2) ∨ (tw T s = 18 ∧ c = -19 ∧ l = 1)) (hO : hdL l O) (hf : fs.length < 20) (hr : rks l P) (hcl : c0 + cs.length + P.length ≤ 1600) (ht : tot fs + P.length + O.length < 500)
    (hQ : ∀ M', YM T g b c0 M' (nx T s) (cs ++ P) ((k, 0, 1, pr, c :: O) :: fs) o 0 → oZ b c0 M M' → R 1 M') : m_X12_goesOn M R := by
  have tb := tw_b (T := T) (s := s) (by omega)
  have hbd := tb.1
  have t1 : ts T s = -1 := by unfold ts; rw [if_neg (by omega)]
  refine y_g188 hT h hbd (by omega) hf (by omega) (Or.inr (by unfold smc prc; omega)) ?_
  obtain ⟨d1, d2, d3, -⟩ := h.deep
  have j372 : ∀ v, v = 23 - c → ∀ M1, YM T g b c0 M1 s (cs ++ P) ((k, ph, bg, pr, O) :: fs) o op → oZ b c0 M M1 → m_X12_goesOn_J372 R (fs.length : Nat) v M1 := fun v hv M1 y1 z1 => by
    unfold m_X12_goesOn_J372
    refine y_hold y1 (by omega) hv fun M2 y2 z2 => ⟨by omega, fun M3 e3 => ⟨by omega, fun M4 e4 => ?_⟩⟩
    have y3 : YM T g b c0 M3 s (cs ++ P) ((k, 0, bg, pr, c :: O) :: fs) o op := y2.top e3 (by decide) (by simp) (by simp) (by simp) (by simp) rfl
    have y4 : YM T g b c0 M4 s (cs ++ P) ((k, 0, 1, pr, c :: O) :: fs) o op := y3.top e4 (by decide) (by simp) (by simp) (by simp) (by simp) rfl
    refine y_ahead hT y4.1 hbd fun M5 o5 l5 M6 e6 => ?_
    exact hQ M6 ((y4.ahead o5 l5).oper e6) (((((z1.tr z2).tr (oZ.up e3 (by omega))).tr (oZ.up e4 (by omega))).tr (o5.z (l5.i12 hT))).tr (oZ.up e6 (by omega)))
  have j309 : m_X12_goesOn_J309 R (fs.length : Nat) M := by
    unfold m_X12_goesOn_J309 m_X12_goesOn_J327 m_X12_goesOn_J356
    rw [d3, h.2.1]
    refine ⟨by omega, by omega, fun z => by omega, fun _ => ⟨by decide, fun _ => ?_, fun z => absurd (by decide) z⟩⟩
    refine y_isWord 19 (by decide) rfl h.1 hbd ?_
    by_cases q : tw T s = ((19 : Nat) : Int)
    · rw [if_pos q]
      have : l = 2 := by omega
      subst this
      exact ⟨by decide, fun z => absurd z (by decide), fun _ => y_joins hb (by decide) hO hf h hr hcl (by omega) fun M1 y1 z1 => ⟨by decide, fun z => absurd z (by decide), fun _ => j372 _ (by omega) M1 y1 z1⟩⟩
    · rw [if_neg q]
      have : l = 1 := by omega
      subst this
      exact ⟨by decide, fun _ => y_joins hb (by decide) hO hf h hr hcl (by omega) fun M1 y1 z1 => ⟨by decide, fun _ => j372 _ (by omega) M1 y1 z1, fun z => absurd rfl z⟩, fun z => absurd rfl z⟩
  have j285 : m_X12_goesOn_J285 R (fs.length : Nat) k 1 M := by
    unfold m_X12_goesOn_J285
    exact ⟨by decide, fun z => absurd z (by decide), fun _ => y_ww 19 (by decide) rfl h.1 hbd (fun q1 => y_ww 18 (by decide) rfl h.1 hbd (fun q2 => by omega) (fun _ => j309)) (fun _ => j309)⟩
  unfold m_X12_goesOn_J188
  rw [if_pos hk, d3]
  exact ⟨by decide, fun z => absurd z (by decide), fun _ => ⟨by omega, by omega, fun z => by omega, fun _ => j285⟩⟩
/-- at fault already: nothing more is done -/
theorem y_g422f {k v1 : Int} {e : Int × Int} (hT : TB T) (hl : LY M T s) (hbd : bd T s = -1) (hf : FY M e) (he : 0 < e.1 ∧ e.1 < 9) (hk : 0 ≤ k ∧ k ≤ 6) (h : R 0 M) : m_X12_goesOn_J422 R v1 k M := by
  have h8 := hf.1
  unfold m_X12_goesOn_J422 m_X12_goesOn_J439 m_X12_goesOn_J452 m_X12_goesOn_J531 m_X12_goesOn_J470 m_X12_goesOn_J546
  have i8 : inI (M 199 8) := by omega
  have z8 : ¬ M 199 8 ≤ 0 := by omega
  have n8 : ¬ M 199 8 = 0 := by omega
  have k8 : 0 < M 199 8 ∧ M 199 8 < 9 := by omega
  refine ⟨by omega, fun _ => ⟨by omega, fun _ => ?_, fun _ => ⟨by omega, fun _ => ?_, fun _ => ⟨by omega, fun _ => ?_, fun _ => ?_⟩⟩⟩, fun _ => ⟨i8, fun z => absurd z n8, fun _ => h⟩⟩
  · exact y_sg hT hl hbd (by decide) (fun _ => y_blame1 k8 ⟨i8, fun z => absurd z z8, fun _ => h⟩) (fun _ => ⟨i8, fun z => absurd z z8, fun _ => h⟩)
  · exact y_sg hT hl hbd (by decide) (fun _ => y_blame1 k8 ⟨i8, fun z => absurd z z8, fun _ => h⟩) (fun _ => ⟨i8, fun z => absurd z z8, fun _ => h⟩)
  · exact y_sg hT hl hbd (by decide) (fun _ => y_blame1 k8 ⟨i8, fun z => absurd z z8, fun _ => h⟩) (fun _ => ⟨i8, fun z => absurd z z8, fun _ => h⟩)
  · exact y_sg hT hl hbd (by decide) (fun _ => y_blame1 k8 ⟨i8, fun z => absurd z z8, fun _ => h⟩) (fun _ => ⟨i8, fun z => absurd z z8, fun _ => h⟩)
theorem y_gx {fl : FR} (hT : TB T) (h : YM T g b c0 M s cs (fl :: fs) o op) (hbd : bd T s ≠ -1) (hQ : ∀ M', oZ b c0 M M' → FY M' (1, wr T s) → R 0 M') : m_X12_goesOn M R := by
  unfold m_X12_goesOn
  refine y_lex hT h.1 h.2.1 (fun z => absurd z hbd) (fun _ M1 o1 f1 => ?_)
  rw [show M1 199 8 = 1 from f1.1]
  exact ⟨by decide, fun z => absurd z (by decide), fun _ => hQ M1 (o1.z f1.n) f1⟩
theorem wr_ok {T : List Int} {s : Nat} (h : bd T s = -1) : wr T s = (s : Nat) := by
  unfold wr
  rw [if_pos h]
/-- a sum in a test without a comparison behind it -/
theorem y_gD {k bg pr : Int} {O : List Int} (hT : TB T) (h : YM T g b c0 M s cs ((k, 0, bg, pr, O) :: fs) o op) (hk : k = 1 ∨ k = 5 ∨ k = 6) (hc : cmc T s = 0) (hn : smc T s = 0 ∧ prc T s = 0) (hf : fs.length < 20) (hQ : ∀ M', oZ b c0 M M' → FY M' (1, wr T s) → R 0 M') : m_X12_goesOn M R := by
  by_cases hbd : bd T s = -1
  · rw [wr_ok hbd] at hQ
    refine y_g188 hT h hbd (by omega) hf (by omega) (Or.inr hn) ?_
    obtain ⟨d1, d2, d3, -⟩ := h.deep
    have e4 : M 199 4 = (s : Nat) := h.1.2.2.1
    have j309 : m_X12_goesOn_J309 R (fs.length : Nat) M := by
      unfold m_X12_goesOn_J309 m_X12_goesOn_J327
      rw [d3, e4]
      refine ⟨by omega, by decide, fun _ => y_blame h.2.1 fun M1 o1 f1 => ?_, fun z => absurd rfl z⟩
      rw [show M1 199 8 = 1 from f1.1]
      exact ⟨by decide, fun z => absurd z (by decide), fun _ => hQ M1 (o1.z f1.n) f1⟩
    have j285 : m_X12_goesOn_J285 R (fs.length : Nat) k 1 M := by
      unfold m_X12_goesOn_J285 m_X12_goesOn_J400
      refine ⟨by decide, fun z => absurd z (by decide), fun _ => y_ww 19 (by decide) rfl h.1 hbd (fun q1 => y_ww 18 (by decide) rfl h.1 hbd (fun q2 => ?_) (fun _ => j309)) (fun _ => j309)⟩
      rw [d3, e4]
      refine ⟨by decide, fun z => absurd z (by decide), fun _ => ⟨by omega, by decide, fun _ => y_blame h.2.1 fun M1 o1 f1 => ?_, fun z => absurd rfl z⟩⟩
      exact y_g422f hT (h.1.oB o1) hbd f1 ⟨by show (0 : Int) < 1; decide, by show (1 : Int) < 9; decide⟩ (by omega) (hQ M1 (o1.z f1.n) f1)
    unfold m_X12_goesOn_J188
    unfold cmc at hc
    rw [if_pos hk, d3]
    exact ⟨by decide, fun z => absurd z (by decide), fun _ => ⟨by omega, by decide, fun _ => y_sg hT h.1 hbd (by decide) (fun q1 => y_sg hT h.1 hbd (by decide) (fun q2 => y_sg hT h.1 hbd (by decide) (fun q3 => j285) (fun q => by omega)) (fun q => by omega)) (fun q => by omega), fun z => absurd rfl z⟩⟩
  · exact y_gx hT h hbd hQ
/-- what is behind a whole test or sum -/
def atE (T : List Int) (k ph : Int) (s : Nat) : Prop := ((k = 1 ∨ k = 5 ∨ k = 6) ∧ (ph = 1 ∨ ph = 2) ∧ (ph = 2 ∨ (smc T s = 0 ∧ prc T s = 0)) ∧ tw T s ≠ 18 ∧ tw T s ≠ 19) ∨ ((k = 0 ∨ k = 2 ∨ k = 3 ∨ k = 4) ∧ ph = 0 ∧ smc T s = 0 ∧ prc T s = 0)
theorem y_g422 {k ph bg pr : Int} {O : List Int} (hT : TB T) (h : YM T g b c0 M s cs ((k, ph, bg, pr, O) :: fs) o op) (hbd : bd T s = -1) (hE : atE T k ph s) (hf : fs.length < 20) (hJ : m_X12_goesOn_J422 R (fs.length : Nat) k M) : m_X12_goesOn M R := by
  obtain ⟨d1, d2, d3, -⟩ := h.deep
  rcases hE with ⟨hk, hp, hn, w1, w2⟩ | ⟨hk, hp, hn⟩
  · refine y_g188 hT h hbd (by omega) hf (by omega) hn ?_
    unfold m_X12_goesOn_J188 m_X12_goesOn_J285 m_X12_goesOn_J400
    rw [if_pos hk, d3]
    refine ⟨by decide, fun z => absurd z (by decide), fun _ => ⟨by omega, by omega, fun z => by omega, fun _ => ⟨by decide, fun z => absurd z (by decide), fun _ => y_ww 19 (by decide) rfl h.1 hbd (fun q1 => y_ww 18 (by decide) rfl h.1 hbd (fun q2 => ⟨by decide, fun z => absurd z (by decide), fun _ => ?_⟩) (fun q => absurd q w1)) (fun q => absurd q w2)⟩⟩⟩
    rw [d3]
    exact ⟨by omega, by omega, fun z => by omega, fun _ => hJ⟩
  · refine y_g188 hT h hbd (by omega) hf (by omega) (Or.inr hn) ?_
    unfold m_X12_goesOn_J188 m_X12_goesOn_J285 m_X12_goesOn_J400
    rw [if_neg (by omega)]
    exact ⟨by decide, fun _ => ⟨by decide, fun _ => ⟨by decide, fun _ => hJ, fun z => absurd rfl z⟩, fun z => absurd rfl z⟩, fun z => absurd rfl z⟩
/-- the end -/
theorem y_gE {k ph bg pr : Int} {P : List Int} (hT : TB T) (hb : b = 0 ∨ b = 1) (h : YM T g b c0 M s cs ((k, ph, bg, pr, P) :: fs) (o + nts P) op) (hE : atE T k ph s) (hk : k = 0 ∨ k = 1) (hf : fs.length < 20) (hr : rks 1 P) (hcl : c0 + cs.length + P.length ≤ 1600) (ht : tot fs + P.length < 500)
    (hQ : bd T s = -1 → ∀ M', YM T g b c0 M' s (cs ++ P) ((k, ph, bg, pr, []) :: fs) o op → oZ b c0 M M' → R 0 M') (hX : bd T s ≠ -1 → ∀ M', oZ b c0 M M' → FY M' (1, wr T s) → R 0 M') : m_X12_goesOn M R := by
  by_cases hbd : bd T s = -1
  · refine y_g422 hT h hbd hE hf ?_
    unfold m_X12_goesOn_J422 m_X12_goesOn_J439
    rw [h.2.1]
    refine ⟨by omega, fun z => by omega, fun _ => ⟨by decide, fun _ => y_joins (O := []) (P := P) hb (by decide) trivial hf (by rw [List.append_nil]; exact h) hr hcl (by simp only [List.length_nil]; omega) fun M1 y1 z1 => hQ hbd M1 y1 z1, fun z => absurd rfl z⟩⟩
  · exact y_gx hT h hbd (hX hbd)
/-- a comma -/
theorem y_gG {k ph bg pr : Int} {P : List Int} (hT : TB T) (hb : b = 0 ∨ b = 1) (h : YM T g b c0 M s cs ((k, ph, bg, pr, P) :: fs) (o + nts P) op) (hE : atE T k ph s) (hk : k = 3 ∨ k = 6) (hf : fs.length < 20) (hr : rks 1 P) (hcl : c0 + cs.length + P.length ≤ 1600) (ht : tot fs + P.length < 500)
    (hQ : ts T s = 44 → ∀ M', YM T g b c0 M' (nx T s) (cs ++ P) ((if k = 3 then 4 else 3, 0, bg, pr, []) :: fs) o 0 → oZ b c0 M M' → R 1 M') (hX : ts T s ≠ 44 → ∀ M', oZ b c0 M M' → FY M' (1, wr T s) → R 0 M') : m_X12_goesOn M R := by
  by_cases hbd : bd T s = -1
  · refine y_g422 hT h hbd hE hf ?_
    have e4 : M 199 4 = (s : Nat) := h.1.2.2.1
    have j452 : m_X12_goesOn_J452 R (fs.length : Nat) k M := by
      unfold m_X12_goesOn_J452 m_X12_goesOn_J470 m_X12_goesOn_J499
      refine y_sg hT h.1 hbd (by decide) (fun q => ?_) (fun q => ?_)
      · rw [e4]
        refine y_blame h.2.1 fun M1 o1 f1 => ?_
        rw [show M1 199 8 = 1 from f1.1]
        rw [wr_ok hbd] at hX
        exact ⟨by decide, fun z => absurd z (by decide), fun _ => hX q M1 (o1.z f1.n) f1⟩
      · rw [h.2.1]
        refine ⟨by decide, fun _ => y_joins (O := []) (P := P) hb (by decide) trivial hf (by rw [List.append_nil]; exact h) hr hcl (by simp only [List.length_nil]; omega) fun M1 y1 z1 => ?_, fun z => absurd (by decide) z⟩
        have rest : ∀ v, v = (if k = 3 then 4 else 3) → ((0 : Int) ≤ (fs.length : Nat) ∧ ((fs.length : Nat) : Int) < ln 220) ∧ ∀ M17 : Mem, M17 = up M1 220 (fs.length : Nat) v → ((0 : Int) ≤ (fs.length : Nat) ∧ ((fs.length : Nat) : Int) < 20) ∧ ∀ M19 : Mem, M19 = up M17 221 (fs.length : Nat) 0 → m_X12_ahead M19 (fun M20 => ∀ M21 : Mem, M21 = up M20 199 45 0 → R 1 M21) := fun v hv => by
          refine ⟨by rw [show ln 220 = 20 from rfl]; omega, fun M17 e17 => ⟨by omega, fun M19 e19 => ?_⟩⟩
          have y2 : YM T g b c0 M17 s (cs ++ P) ((v, ph, bg, pr, []) :: fs) o op := y1.top e17 (by decide) (by simp) (by simp) (by simp) (by simp) rfl
          have y3 : YM T g b c0 M19 s (cs ++ P) ((v, 0, bg, pr, []) :: fs) o op := y2.top e19 (by decide) (by simp) (by simp) (by simp) (by simp) rfl
          refine y_ahead hT y3.1 hbd fun M20 o20 l20 M21 e21 => ?_
          rw [hv] at y3
          exact hQ q M21 ((y3.ahead o20 l20).oper e21) ((((z1.tr (oZ.up e17 (by omega))).tr (oZ.up e19 (by omega))).tr (o20.z (l20.i12 hT))).tr (oZ.up e21 (by omega)))
        exact ⟨by omega, fun q3 => rest _ (by rw [if_pos q3]), fun q3 => rest _ (by rw [if_neg q3])⟩
    unfold m_X12_goesOn_J422
    exact ⟨by omega, fun _ => ⟨by omega, fun _ => j452, fun _ => ⟨by omega, fun _ => j452, fun z => by omega⟩⟩, fun z => by omega⟩
  · refine y_gx hT h hbd (hX ?_)
    unfold ts
    rw [if_neg (fun z => hbd z.1)]
    decide
/-- a bracket closes -/
theorem y_gF {k ph bg pr k1 ph1 bg1 pr1 cl : Int} {P O1 : List Int} (hT : TB T) (hb : b = 0 ∨ b = 1) (h : YM T g b c0 M s cs ((k, ph, bg, pr, P) :: (k1, ph1, bg1, pr1, O1) :: fs) (o + 1 + nts P) op) (hE : atE T k ph s) (hk : k = 2 ∨ k = 4 ∨ k = 5) (hcl' : cl = if k = 5 then 93 else 41) (hp4 : k = 4 → -21 ≤ pr ∧ pr ≤ -13) (hf : fs.length < 19) (hr : rks 1 P) (hcl : c0 + cs.length + P.length ≤ 1600) (hcl2 : k = 4 → c0 + cs.length + P.length < 1600) (ht : tot fs + O1.length + P.length < 500)
    (hQ : ts T s = cl → ∀ M', YM T g b c0 M' (nx T s) (cs ++ P ++ (if k = 4 then [pr] else [])) ((k1, if k = 5 then 2 else ph1, bg1, pr1, O1) :: fs) o op → oZ b c0 M M' → R 1 M') (hX : ts T s ≠ cl → ∀ M', oZ b c0 M M' → FY M' (1, wr T s) → R 0 M') : m_X12_goesOn M R := by
  have cr : 0 ≤ cl ∧ cl < 256 := by rw [hcl']; split <;> omega
  by_cases hbd : bd T s = -1
  · have fl : ((k1, ph1, bg1, pr1, O1) :: fs).length = fs.length + 1 := rfl
    refine y_g422 hT h hbd hE (by omega) ?_
    have e4 : M 199 4 = (s : Nat) := h.1.2.2.1
    have tt : tot ((k1, ph1, bg1, pr1, O1) :: fs) = O1.length + tot fs := rfl
    have j531 : m_X12_goesOn_J531 R (((k1, ph1, bg1, pr1, O1) :: fs).length : Nat) k cl M := by
      unfold m_X12_goesOn_J531 m_X12_goesOn_J546
      refine y_sg hT h.1 hbd cr (fun q => ?_) (fun q => ?_)
      · rw [e4]
        refine y_blame h.2.1 fun M1 o1 f1 => ?_
        rw [show M1 199 8 = 1 from f1.1]
        rw [wr_ok hbd] at hX
        exact ⟨by decide, fun z => absurd z (by decide), fun _ => hX q M1 (o1.z f1.n) f1⟩
      · rw [h.2.1]
        refine ⟨by decide, fun _ => y_joins (O := []) (P := P) (fs := (k1, ph1, bg1, pr1, O1) :: fs) hb (by decide) trivial (by omega) (by rw [List.append_nil]; exact h) hr hcl (by simp only [List.length_nil]; omega) fun M1 y1 z1 M7 e7 M8 e8 => ?_, fun z => absurd (by decide) z⟩
        obtain ⟨a1, a2, a3, a4, a5, a6, a7, a8, a9, k1', k2', k3', k4', k5', k6', k7'⟩ := y1
        have y7 : YM T g b c0 M7 s (cs ++ P) ((k1, ph1, bg1, pr1, O1) :: fs) (o + 1) op := by
          have z : ∀ j, j ≠ 41 → M7 199 j = M1 199 j := fun j hj => by rw [e7, up_get, if_neg (by omega)]
          have y : ∀ a, a ≠ 199 → M7 a = M1 a := fun a ha => by rw [e7, up_ne _ ha]
          refine ⟨?_, by rw [z 8 (by omega), a2], by rw [z 34 (by omega), a3], by rw [z 35 (by omega), a4], a5.off (z 33 (by omega)) (y 216 (by decide)) (y 217 (by decide)), ?_, by rw [z 42 (by omega), a7], ?_, by rw [z 45 (by omega), a9], k7'.off (fun a a1 a2 i _ => by rw [y a (by omega)]) (fun i _ => by rw [y 225 (by decide)])⟩
          · unfold LY LYR rw1 at *
            rw [y 200 (by decide), z 2 (by omega), z 4 (by omega), z 3 (by omega), z 12 (by omega), z 5 (by omega), z 7 (by omega), z 6 (by omega)]
            exact a1
          · rw [e7, up_get, if_pos ⟨rfl, rfl⟩, a6]
            simp only [List.length_cons]
            omega
          · rw [z 44 (by omega), a8, tot_c]
            simp
        rw [y7.2.2.2.2.2.2.1, show (((o + 1 : Nat) : Int) - 1) = ((o : Nat) : Int) by omega] at e8
        have y8 := y7.opd e8
        have z8 : oZ b c0 M M8 := (z1.tr (oZ.up e7 (by omega))).tr (oZ.up e8 (by omega))
        have j596 : ∀ M9 (cs9 : List Int), YM T g b c0 M9 s cs9 ((k1, ph1, bg1, pr1, O1) :: fs) o op → oZ b c0 M M9 → cs9 = cs ++ P ++ (if k = 4 then [pr] else []) → m_X12_goesOn_J596 R k M9 := fun M9 cs9 y9 z9 hcs => by
          unfold m_X12_goesOn_J596 m_X12_goesOn_J613
          subst hcs
          obtain ⟨d1, d2, d3, -⟩ := y9.deep
          refine ⟨by omega, fun q5 => ?_, fun q5 => ?_⟩
          · rw [d1]
            refine ⟨by omega, fun M10 e10 => ?_⟩
            have y10 : YM T g b c0 M10 s _ ((k1, 2, bg1, pr1, O1) :: fs) o op := y9.top e10 (by decide) (by simp) (by simp) (by simp) (by simp) rfl
            refine y_ahead hT y10.1 hbd fun M11 o11 l11 => hQ q M11 ?_ ((z9.tr (oZ.up e10 (by omega))).tr (o11.z (l11.i12 hT)))
            rw [if_pos q5]
            exact y10.ahead o11 l11
          · refine y_ahead hT y9.1 hbd fun M11 o11 l11 => hQ q M11 ?_ (z9.tr (o11.z (l11.i12 hT)))
            rw [if_neg q5]
            exact y9.ahead o11 l11
        refine ⟨by omega, fun q4 => ⟨by omega, ?_⟩, fun q4 => j596 M8 _ y8 z8 (by rw [if_neg q4, List.append_nil])⟩
        have e23 : M8 223 (((k1, ph1, bg1, pr1, O1) :: fs).length : Nat) = 23 - pr := by
          rw [e8, up_ne _ (by decide), e7, up_ne _ (by decide)]
          exact k4'
        rw [e23]
        have pv := hp4 q4
        exact y_add (c := pr) hb y8 (by rw [List.length_append]; have := hcl2 q4; omega) (Or.inr (Or.inr ⟨by omega, rfl⟩)) fun M9 y9 z9 _ _ _ => j596 M9 _ y9 (z8.tr z9) (by rw [if_pos q4])
    unfold m_X12_goesOn_J422
    refine ⟨by omega, fun _ => ⟨by omega, fun z => by omega, fun _ => ⟨by omega, fun z => by omega, fun _ => ⟨by omega, fun q5 => ?_, fun q5 => ?_⟩⟩⟩, fun z => by omega⟩
    · rw [if_pos q5] at hcl'
      rw [← hcl']
      exact j531
    · rw [if_neg q5] at hcl'
      rw [← hcl']
      exact j531
  · refine y_gx hT h hbd (hX ?_)
    unfold ts
    rw [if_neg (fun z => hbd z.1)]
    omega
end
