theorem Cx.ok {Y : YT} {X : CX} {cc : ByteArray} {nL : Nat} {own : String} {d : Nat} (C : Cx Y X cc nL own d) : YOK Y := by
  obtain ⟨p, l, e, R, s, m, args, below, meth, c, Q, cl, sl⟩ := X
  exact C.2.2.2.2.2.2.1
theorem Met.ofWF {l : Launch} {y : MethodName} {ws ws' : List Cond} {rm : Room} {Pc : Array Value → State → Prop} {Qc : Array Value → State → Outcome → State → Prop} {mc ms : Nat} {free : Addr → Prop} {cc : ByteArray} {maxL : Nat} {ret : Option FieldType}
    (hy : plainFor y = true) (hw : ws = Cond.code y cc maxL ret :: ws')
    (body : ∀ p e s m args below meth c s₁, BodyLoose p l y (headSpec ws rm) cc maxL ret e s m args below meth c s₁ → c.maxLocals = maxL → Pc args s →
      W p l e (headSpec ws rm).room s m args below meth c s.heap [] 0 0 (MQ below Qc args s mc ms free) (entryFrame m args maxL)) : Met l y ws rm Pc Qc mc ms free := by
  refine MetFree.of_bodySF (code := cc) (maxLocals := maxL) (ret := ret) hy ?_ ?_
  · intro args s m h hn
    obtain ⟨meth, c, h1, h2, h3, h4, h5, h6, -, -⟩ := Cond.code_spec hn (atoms_spec (ws := ws) h _ (by rw [hw]; exact List.mem_cons_self))
    exact ⟨meth, c, h1, h2, h3, h4, h5, h6⟩
  · intro p e s m args below meth c s₁ B hml hP _
    have hh0 : s₁.heap = s.heap := by rw [B.state]; rfl
    obtain ⟨t, a1, o, b1, b2, b3⟩ := body p e s m args below meth c s₁ B hml hP s₁ hh0 (Stand.of_body B)
    exact ⟨t, o, a1, b1, b2, ⟨b3.1, b3.2⟩⟩
theorem ctr_ofF {l : Launch} {Y : YT} {y : MethodName} {cc : ByteArray} {nL : Nat} {ret : Option FieldType} {d : Nat} {vs : List Value} {M : Mem} {Qc : Array Value → State → Outcome → State → Prop} (hY : YOK Y) (hy : plainFor y = true) (hn : (lg_sl vs).length ≤ nL) (lv : List (Nat × Value)) (hlv : lv_args 0 vs = lv)
    (body : ∀ X : CX, X.2.1 = l → Cx Y X cc nL y.cls d → Rt Y X ret Qc → G Y X nL 0 lv [] M) : Ctr l Y y cc nL ret d vs M Qc := by
  refine Met.ofWF (cc := cc) (maxL := nL) (ret := ret) hy rfl ?_
  intro p e s m args below meth c s₁ B hml hv
  obtain ⟨rfl, hP, hK⟩ := hv
  have hts := atoms_spec (ws := Cond.code y cc nL ret :: GT) B.pre
  have hl := lv_entry vs (n := nL) hn
  rw [hlv] at hl
  rw [lg_entry_eq]
  exact body (p, l, e, rm d, s, m, vs.toArray, below, meth, c, MQ below Qc vs.toArray s 0 0 Y.2.2.2, 0, 0) rfl ⟨B.exec, B.bytes, hml, findClass_of_methodNamed B.named, fun w h => hts w (List.mem_cons_of_mem _ h), hK, hY, Nat.le_refl _, Nat.le_refl _, Nat.zero_le _, Nat.zero_le _, B.notSynchronized⟩ ⟨B.returns, rfl, rfl, rfl⟩ s.heap [] _ hl hP va_S.rf
def m_J6_bitCount_0f7a4 (a0 : Int) (M : Mem) (Q : Int → Mem → Prop) : Prop :=
  ∀ x1 : Int, x1 = a0 - (zand (zushr a0 1) 1431655765) → ∀ x2 : Int, x2 = (zand x1 858993459) + (zand (zushr x1 2) 858993459) → ∀ x3 : Int, x3 = zand (x2 + (zushr x2 4)) 252645135 → ∀ x4 : Int, x4 = (x3 + (zushr x3 8)) + (zushr (x3 + (zushr x3 8)) 16) → Q (zand x4 63) M
def m_J9_floorDiv_f86c9_J27  (Q : Int → Mem → Prop)  (v4 : Int) (M : Mem) : Prop :=
  Q v4 M
def m_J9_floorDiv_f86c9 (a0 : Int) (a1 : Int) (M : Mem) (Q : Int → Mem → Prop) : Prop :=
  (inL a0) ∧ (inL a1) ∧ (¬ a1 = 0) ∧ (inL (wxor a0 a1)) ∧ ((0 ≤ wxor a0 a1 →
    m_J9_floorDiv_f86c9_J27 Q (a0.tdiv a1) M) ∧ (¬ 0 ≤ wxor a0 a1 →
    (inL ((a0.tdiv a1) * a1)) ∧ (inL a0) ∧ (((a0.tdiv a1) * a1 = a0 →
      m_J9_floorDiv_f86c9_J27 Q (a0.tdiv a1) M) ∧ (¬ (a0.tdiv a1) * a1 = a0 →
      Q ((a0.tdiv a1) - 1) M))))
def m_J9_floorMod_f86c9_J25  (Q : Int → Mem → Prop)  (v4 : Int) (M : Mem) : Prop :=
  Q v4 M
def m_J9_floorMod_f86c9 (a0 : Int) (a1 : Int) (M : Mem) (Q : Int → Mem → Prop) : Prop :=
  (inL a0) ∧ (inL a1) ∧ (¬ a1 = 0) ∧ (inL (wxor a0 a1)) ∧ ((0 ≤ wxor a0 a1 →
    m_J9_floorMod_f86c9_J25 Q (a0.tmod a1) M) ∧ (¬ 0 ≤ wxor a0 a1 →
    (inL (a0.tmod a1)) ∧ ((a0.tmod a1 = 0 →
      m_J9_floorMod_f86c9_J25 Q (a0.tmod a1) M) ∧ (¬ a0.tmod a1 = 0 →
      Q ((a0.tmod a1) + a1) M))))
def m_J9_max_7cf53_J10  (Q : Int → Mem → Prop)  (s0 : Int) (M : Mem) : Prop :=
  Q s0 M
def m_J9_max_7cf53 (a0 : Int) (a1 : Int) (M : Mem) (Q : Int → Mem → Prop) : Prop :=
  (inI a0) ∧ (inI a1) ∧ ((a0 < a1 →
    m_J9_max_7cf53_J10 Q a1 M) ∧ (¬ a0 < a1 →
    m_J9_max_7cf53_J10 Q a0 M))
def m_J9_max_f86c9_J11  (Q : Int → Mem → Prop)  (s0 : Int) (M : Mem) : Prop :=
  Q s0 M
def m_J9_max_f86c9 (a0 : Int) (a1 : Int) (M : Mem) (Q : Int → Mem → Prop) : Prop :=
  (inL a0) ∧ (inL a1) ∧ ((a0 < a1 →
    m_J9_max_f86c9_J11 Q a1 M) ∧ (¬ a0 < a1 →
    m_J9_max_f86c9_J11 Q a0 M))
def m_J9_min_7cf53_J10  (Q : Int → Mem → Prop)  (s0 : Int) (M : Mem) : Prop :=
  Q s0 M
def m_J9_min_7cf53 (a0 : Int) (a1 : Int) (M : Mem) (Q : Int → Mem → Prop) : Prop :=
  (inI a0) ∧ (inI a1) ∧ ((a1 < a0 →
    m_J9_min_7cf53_J10 Q a1 M) ∧ (¬ a1 < a0 →
    m_J9_min_7cf53_J10 Q a0 M))
def m_J9_min_f86c9_J11  (Q : Int → Mem → Prop)  (s0 : Int) (M : Mem) : Prop :=
  Q s0 M
def m_J9_min_f86c9 (a0 : Int) (a1 : Int) (M : Mem) (Q : Int → Mem → Prop) : Prop :=
  (inL a0) ∧ (inL a1) ∧ ((a1 < a0 →
    m_J9_min_f86c9_J11 Q a1 M) ∧ (¬ a1 < a0 →
    m_J9_min_f86c9_J11 Q a0 M))
def m_J7_fill_53178_L5  (Q : Mem → Prop) (v0 : Int) (v1 : Int) (v3 : Int) : Nat → Int → Mem → Prop
  | 0, _, _ => False
  | f + 1, v2, M =>
  (inI v2) ∧ (inI v3) ∧ ((v3 ≤ v2 →
    Q M) ∧ (¬ v3 ≤ v2 →
    ((0 : Int) ≤ v2 ∧ v2 < (ln v0)) ∧ ∀ M4 : Mem, M4 = up M v0 v2 v1 → m_J7_fill_53178_L5 Q v0 v1 v3 f (v2 + 1) M4))
def m_J7_fill_53178 (a0 : Int) (a1 : Int) (M : Mem) (Q : Mem → Prop) : Prop :=
  (kd a0 = 20) ∧
  ∃ fu : Nat, m_J7_fill_53178_L5 Q a0 a1 (ln a0) fu 0 M
def m_X11_isStep_J16  (Q : Int → Mem → Prop)  (s0 : Int) (M : Mem) : Prop :=
  (s0 = 0 ∨ s0 = 1) ∧ Q s0 M
def m_X11_isStep_J15  (Q : Int → Mem → Prop)   (M : Mem) : Prop :=
  m_X11_isStep_J16 Q 0 M
def m_X11_isStep (a0 : Int) (M : Mem) (Q : Int → Mem → Prop) : Prop :=
  (inI a0) ∧ ((a0 < 1 →
    m_X11_isStep_J15 Q  M) ∧ (¬ a0 < 1 →
    (inI a0) ∧ ((8 < a0 →
      m_X11_isStep_J15 Q  M) ∧ (¬ 8 < a0 →
      m_X11_isStep_J16 Q 1 M))))
def m_X0_takeRows_J67  (Q : Int → Mem → Prop)   (M : Mem) : Prop :=
  Q 0 M
def m_X0_takeRows_L35  (Q : Int → Mem → Prop) (v2 : Int) (v3 : Int) : Nat → Int → Mem → Prop
  | 0, _, _ => False
  | f + 1, v4, M =>
  (inI v4) ∧ (inI (M 1 1)) ∧ ((M 1 1 ≤ v4 →
    ((0 : Int) ≤ 0 ∧ (0 : Int) ≤ 0 ∧ (0 : Int) ≤ M 1 1) ∧ ((0 : Int) + (M 1 1) ≤ (ln v3)) ∧ ((0 : Int) + (M 1 1) ≤ 48) ∧ ∀ M6 : Mem, M6 = cpy M v3 0 188 0 (M 1 1) → (inI (M6 1 1)) ∧ ∀ M8 : Mem, M8 = up M6 187 1 ((M6 1 1).tdiv 3) → Q 1 M8) ∧ (¬ M 1 1 ≤ v4 →
    ((0 : Int) ≤ v4 ∧ v4 < (ln v3)) ∧ m_X11_isStep (M v3 v4) M (fun r11 M10 =>
      (inI r11) ∧ ((r11 = 0 →
        m_X0_takeRows_J67 Q  M10) ∧ (¬ r11 = 0 →
        ((0 : Int) ≤ v4 + 1 ∧ v4 + 1 < (ln v3)) ∧ (inI (M10 v3 (v4 + 1))) ∧ (inI (M10 v2 0)) ∧ ((M10 v3 (v4 + 1) < M10 v2 0 →
          m_X0_takeRows_L35 Q v2 v3 f (v4 + 3) M10) ∧ (¬ M10 v3 (v4 + 1) < M10 v2 0 →
          m_X0_takeRows_J67 Q  M10)))))))
def m_X0_takeRows_J30  (Q : Int → Mem → Prop)   (M : Mem) : Prop :=
  Q 0 M
def m_X0_takeRows (a1 : Int) (M : Mem) (Q : Int → Mem → Prop) : Prop :=
  (kd a1 = 8) ∧
  (inI (M 1 1)) ∧ ((M 1 1 = 0 →
    m_X0_takeRows_J30 Q  M) ∧ (¬ M 1 1 = 0 →
    (inI (M 1 1)) ∧ (inI ((M 1 1).tmod 3)) ∧ (((M 1 1).tmod 3 = 0 →
      (inI (M 1 1)) ∧ ((M 1 1 ≤ 48 →
        ∃ fu : Nat, m_X0_takeRows_L35 Q a1 2 fu 0 M) ∧ (¬ M 1 1 ≤ 48 →
        m_X0_takeRows_J30 Q  M))) ∧ (¬ (M 1 1).tmod 3 = 0 →
      m_X0_takeRows_J30 Q  M))))
def m_X0_clear (M : Mem) (Q : Mem → Prop) : Prop :=
  ∀ M1 : Mem, M1 = up M 187 4 0 → ∀ M2 : Mem, M2 = up M1 187 5 (-1) → ∀ M3 : Mem, M3 = up M2 187 6 (-1) → ∀ M4 : Mem, M4 = up M3 187 7 (-1) → Q M4
def m_X10_peopleIn (o : Int) (a0 : Int) (a1 : Int) (M : Mem) (Q : Int → Mem → Prop) : Prop :=
  (kd o = 10) ∧
  ((0 : Int) ≤ (7 * a1) + a0 ∧ (7 * a1) + a0 < 63) ∧ Q (M (o + 2) ((7 * a1) + a0)) M
def m_X10_countIn (o : Int) (a0 : Int) (a1 : Int) (M : Mem) (Q : Int → Mem → Prop) : Prop :=
  (kd o = 10) ∧
  m_X10_peopleIn o a0 a1 M (fun r2 M1 =>
    m_J6_bitCount_0f7a4 r2 M1 (fun r4 M3 =>
      Q r4 M3))
def m_X0_isAsSeen_L2  (Q : Int → Mem → Prop) (v1 : Int) : Nat → Int → Mem → Prop
  | 0, _, _ => False
  | f + 1, v2, M =>
  (inI v2) ∧ (inI (3 * (M 187 1))) ∧ ((3 * (M 187 1) ≤ v2 →
    Q 1 M) ∧ (¬ 3 * (M 187 1) ≤ v2 →
    ((0 : Int) ≤ v2 + 1 ∧ v2 + 1 < 48) ∧ ((0 : Int) ≤ v2 ∧ v2 < 48) ∧ m_X10_countIn v1 (M 188 (v2 + 1)) (M 188 v2) M (fun r6 M5 =>
      ((0 : Int) ≤ v2 + 2 ∧ v2 + 2 < 48) ∧ (inI r6) ∧ (inI (M5 188 (v2 + 2))) ∧ ((r6 = M5 188 (v2 + 2) →
        m_X0_isAsSeen_L2 Q v1 f (v2 + 3) M5) ∧ (¬ r6 = M5 188 (v2 + 2) →
        Q 0 M5)))))
def m_X0_isAsSeen (a0 : Int) (M : Mem) (Q : Int → Mem → Prop) : Prop :=
  (kd a0 = 10) ∧
  ∃ fu : Nat, m_X0_isAsSeen_L2 Q a0 fu 0 M
def m_X0_weigh_L32 (k23 : Int → Mem → Prop) (Q : Mem → Prop) (v1 : Int) (v2 : Int) (v3 : Int) : Nat → Int → Mem → Prop
  | 0, _, _ => False
  | f + 1, v4, M =>
  (inI v4) ∧ ((7 ≤ v4 →
    k23 (v3 + 1) M) ∧ (¬ 7 ≤ v4 →
    ((0 : Int) ≤ v1 ∧ v1 < 7) ∧ m_X10_countIn v2 v4 v3 M (fun r4 M3 =>
      ((0 : Int) ≤ (7 * (v3 - 1)) + v4 ∧ (7 * (v3 - 1)) + v4 < 56) ∧ ∀ M6 : Mem, M6 = up M3 (189 + 1 + v1) ((7 * (v3 - 1)) + v4) r4 → m_X0_weigh_L32 k23 Q v1 v2 v3 f (v4 + 1) M6)))
def m_X0_weigh_L23  (Q : Mem → Prop) (v1 : Int) (v2 : Int) : Nat → Int → Mem → Prop
  | 0, _, _ => False
  | f + 1, v3, M =>
  (inI v3) ∧ ((8 < v3 →
    Q M) ∧ (¬ 8 < v3 →
    ∃ fu : Nat, m_X0_weigh_L32 (m_X0_weigh_L23 Q v1 v2 f) Q v1 v2 v3 fu 0 M))
def m_X0_weigh (a0 : Int) (a1 : Int) (M : Mem) (Q : Mem → Prop) : Prop :=
  (kd a1 = 10) ∧
  m_X0_isAsSeen a1 M (fun r9 M8 =>
    (inI r9) ∧ ((r9 = 0 →
      Q M8) ∧ (¬ r9 = 0 →
      ∀ M11 : Mem, M11 = up M8 187 4 (zor (M8 187 4) (zshl 1 a0)) → ∃ fu : Nat, m_X0_weigh_L23 Q a0 a1 fu 1 M11)))
def m_X0_mostAlike_J63 (k12 : Int → Int → Mem → Prop) (Q : Int → Mem → Prop)  (v1 : Int) (v2 : Int) (v3 : Int) (M : Mem) : Prop :=
  k12 v2 (v3 + 1) M
def m_X0_mostAlike_L12  (Q : Int → Mem → Prop) (v1 : Int) : Nat → Int → Int → Mem → Prop
  | 0, _, _, _ => False
  | f + 1, v2, v3, M =>
  (inI v3) ∧ ((7 ≤ v3 →
    Q v2 M) ∧ (¬ 7 ≤ v3 →
    (inI (zand (zshr (M 187 4) v3) 1)) ∧ ((zand (zshr (M 187 4) v3) 1 = 1 →
      ((0 : Int) ≤ v3 ∧ v3 < 7) ∧ ((0 : Int) ≤ v1 ∧ v1 < 56) ∧ ((0 : Int) ≤ M (189 + 1 + v3) v1 ∧ M (189 + 1 + v3) v1 < 7) ∧ ((0 : Int) ≤ M (189 + 1 + v3) v1 ∧ M (189 + 1 + v3) v1 < 7) ∧ ∀ M7 : Mem, M7 = up M 197 (M (189 + 1 + v3) v1) ((M 197 (M (189 + 1 + v3) v1)) + 1) → ((0 : Int) ≤ M (189 + 1 + v3) v1 ∧ M (189 + 1 + v3) v1 < 7) ∧ m_J9_max_7cf53 v2 (M7 197 (M (189 + 1 + v3) v1)) M7 (fun r10 M9 =>
        m_X0_mostAlike_J63 (m_X0_mostAlike_L12 Q v1 f) Q v1 r10 v3 M9)) ∧ (¬ zand (zshr (M 187 4) v3) 1 = 1 →
      m_X0_mostAlike_J63 (m_X0_mostAlike_L12 Q v1 f) Q v1 v2 v3 M))))
def m_X0_mostAlike (a0 : Int) (M : Mem) (Q : Int → Mem → Prop) : Prop :=
  m_J7_fill_53178 197 0 M (fun M11 =>
    ∃ fu : Nat, m_X0_mostAlike_L12 Q a0 fu 0 0 M11)
def m_X0_findTelling_J70 (k10 : Int → Mem → Prop) (k18 : Int → Mem → Prop) (Q : Mem → Prop)  (v1 : Int) (v2 : Int) (v3 : Int) (M : Mem) : Prop :=
  k18 (v3 + 1) M
def m_X0_findTelling_J54 (k10 : Int → Mem → Prop) (k18 : Int → Mem → Prop) (Q : Mem → Prop)  (v1 : Int) (v2 : Int) (v3 : Int) (v4 : Int) (M : Mem) : Prop :=
  ∀ M1 : Mem, M1 = up M 187 7 v4 → ∀ M2 : Mem, M2 = up M1 187 5 v2 → ∀ M3 : Mem, M3 = up M2 187 6 v3 → m_X0_findTelling_J70 k10 k18 Q v1 v2 v3 M3
def m_X0_findTelling_L18 (k10 : Int → Mem → Prop) (Q : Mem → Prop) (v1 : Int) (v2 : Int) : Nat → Int → Mem → Prop
  | 0, _, _ => False
  | f + 1, v3, M =>
  (inI v3) ∧ (inI v1) ∧ ((v1 ≤ v3 →
    k10 (v2 + 1) M) ∧ (¬ v1 ≤ v3 →
    m_X0_mostAlike ((7 * (v2 - 1)) + v3) M (fun r7 M6 =>
      (inI (M6 187 7)) ∧ ((M6 187 7 = (-1) →
        m_X0_findTelling_J54 k10 (m_X0_findTelling_L18 k10 Q v1 v2 f) Q v1 v2 v3 r7 M6) ∧ (¬ M6 187 7 = (-1) →
        (inI r7) ∧ (inI (M6 187 7)) ∧ ((M6 187 7 ≤ r7 →
          m_X0_findTelling_J70 k10 (m_X0_findTelling_L18 k10 Q v1 v2 f) Q v1 v2 v3 M6) ∧ (¬ M6 187 7 ≤ r7 →
          m_X0_findTelling_J54 k10 (m_X0_findTelling_L18 k10 Q v1 v2 f) Q v1 v2 v3 r7 M6)))))))
def m_X0_findTelling_L10  (Q : Mem → Prop) (v1 : Int) : Nat → Int → Mem → Prop
  | 0, _, _ => False
  | f + 1, v2, M =>
  (inI v2) ∧ ((8 < v2 →
    Q M) ∧ (¬ 8 < v2 →
    ∃ fu : Nat, m_X0_findTelling_L18 (m_X0_findTelling_L10 Q v1 f) Q v1 v2 fu 0 M))
def m_X0_findTelling (a0 : Int) (M : Mem) (Q : Mem → Prop) : Prop :=
  (inI (M 187 4)) ∧ ((M 187 4 = 0 →
    Q M) ∧ (¬ M 187 4 = 0 →
    ∃ fu : Nat, m_X0_findTelling_L10 Q a0 fu 1 M))
def m_X1_add_J30  (Q : Int → Mem → Prop)   (M : Mem) : Prop :=
  Q 1 M
def m_X1_add (o : Int) (a0 : Int) (M : Mem) (Q : Int → Mem → Prop) : Prop :=
  (kd o = 1) ∧
  (inI (M o 2)) ∧ ((1600 ≤ M o 2 →
    m_X1_add_J30 Q  M) ∧ (¬ 1600 ≤ M o 2 →
    ((0 : Int) ≤ M o 2 ∧ M o 2 < 1600) ∧ ∀ M3 : Mem, M3 = up M (o + 1) (M o 2) a0 → ∀ M4 : Mem, M4 = up M3 o 2 ((M3 o 2) + 1) → m_X1_add_J30 Q  M4))
def m_X1_joined_J155  (Q : Int → Mem → Prop)  (s0 : Int) (M : Mem) : Prop :=
  Q s0 M
def m_X1_joined_J143  (Q : Int → Mem → Prop)  (s0 : Int) (M : Mem) : Prop :=
  Q s0 M
def m_X1_joined_J131  (Q : Int → Mem → Prop)  (s0 : Int) (M : Mem) : Prop :=
  Q s0 M
def m_X1_joined_J107  (Q : Int → Mem → Prop)  (s0 : Int) (M : Mem) : Prop :=
  Q s0 M
def m_X1_joined_J91  (Q : Int → Mem → Prop)  (s0 : Int) (M : Mem) : Prop :=
  Q s0 M
def m_X1_joined (a0 : Int) (a1 : Int) (a2 : Int) (M : Mem) (Q : Int → Mem → Prop) : Prop :=
  (inI a0) ∧ ((a0 = (-19) →
    Q (wor a1 a2) M) ∧
(a0 = (-18) →
    Q (wand a1 a2) M) ∧
(a0 = (-17) →
    (inL a1) ∧ (inL a2) ∧ ((a1 = a2 →
      m_X1_joined_J155 Q 1 M) ∧ (¬ a1 = a2 →
      m_X1_joined_J155 Q 0 M))) ∧
(a0 = (-16) →
    (inL a1) ∧ (inL a2) ∧ ((a1 ≤ a2 →
      m_X1_joined_J143 Q 0 M) ∧ (¬ a1 ≤ a2 →
      m_X1_joined_J143 Q 1 M))) ∧
(a0 = (-15) →
    (inL a1) ∧ (inL a2) ∧ ((a2 ≤ a1 →
      m_X1_joined_J131 Q 0 M) ∧ (¬ a2 ≤ a1 →
      m_X1_joined_J131 Q 1 M))) ∧
(a0 = (-14) →
    m_J9_max_f86c9 a1 a2 M (fun r9 M8 =>
      Q r9 M8)) ∧
(a0 = (-13) →
    m_J9_min_f86c9 a1 a2 M (fun r11 M10 =>
      Q r11 M10)) ∧
(a0 = (-12) →
    (inL a2) ∧ ((a2 = 0 →
      m_X1_joined_J107 Q 0 M) ∧ (¬ a2 = 0 →
      m_J9_floorMod_f86c9 a1 a2 M (fun r14 M13 =>
        m_X1_joined_J107 Q r14 M13)))) ∧
(a0 = (-11) →
    (inL a2) ∧ ((a2 = 0 →
      m_X1_joined_J91 Q 0 M) ∧ (¬ a2 = 0 →
      m_J9_floorDiv_f86c9 a1 a2 M (fun r17 M16 =>
        m_X1_joined_J91 Q r17 M16)))) ∧
(a0 = (-10) →
    Q (a1 * a2) M) ∧
(a0 = (-9) →
    Q (a1 - a2) M) ∧
(a0 = (-8) →
    Q (a1 + a2) M) ∧
(a0 < (-19) ∨ (-8) < a0 →
    Q 0 M))
def m_X1_value_J232  (Q : Int → Mem → Prop)  (s0 : Int) (M : Mem) : Prop :=
  Q s0 M
def m_X1_value_J218  (Q : Int → Mem → Prop)  (v0 : Int) (v2 : Int) (M : Mem) : Prop :=
  (inI v2) ∧ ((v2 ≤ 0 →
    m_X1_value_J232 Q 0 M) ∧ (¬ v2 ≤ 0 →
    m_X1_value_J232 Q (M (v0 + 2) 0) M))
def m_X1_value_J212 (k4 : Int → Int → Mem → Prop) (Q : Int → Mem → Prop)  (v0 : Int) (v1 : Int) (v2 : Int) (v3 : Int) (M : Mem) : Prop :=
  k4 v2 (v3 + 1) M
def m_X1_value_J158 (k4 : Int → Int → Mem → Prop) (Q : Int → Mem → Prop)  (v0 : Int) (v1 : Int) (v2 : Int) (v3 : Int) (v4 : Int) (M : Mem) : Prop :=
  (inI v2) ∧ ((v2 < 2 →
    m_X1_value_J212 k4 Q v0 v1 v2 v3 M) ∧ (¬ v2 < 2 →
    ((0 : Int) ≤ (v2 + (-1)) - 1 ∧ (v2 + (-1)) - 1 < 64) ∧ (inI (M (v0 + 2) ((v2 + (-1)) - 1))) ∧ ((0 : Int) ≤ v2 + (-1) ∧ v2 + (-1) < 64) ∧ (inI (M (v0 + 2) (v2 + (-1)))) ∧ m_X1_joined v4 (M (v0 + 2) ((v2 + (-1)) - 1)) (M (v0 + 2) (v2 + (-1))) M (fun r8 M7 =>
      m_J9_min_f86c9 1000000 r8 M7 (fun r10 M9 =>
        m_J9_max_f86c9 (-1000000) r10 M9 (fun r12 M11 =>
          ((0 : Int) ≤ (v2 + (-1)) - 1 ∧ (v2 + (-1)) - 1 < 64) ∧ ∀ M14 : Mem, M14 = up M11 (v0 + 2) ((v2 + (-1)) - 1) r12 → m_X1_value_J212 k4 Q v0 v1 (v2 + (-1)) v3 M14)))))
def m_X1_value_J154 (k4 : Int → Int → Mem → Prop) (Q : Int → Mem → Prop)  (v0 : Int) (v1 : Int) (v2 : Int) (v3 : Int) (s0 : Int) (s1 : Int) (s2 : Int) (M : Mem) : Prop :=
  ((0 : Int) ≤ s1 ∧ s1 < (ln s0)) ∧ ∀ M16 : Mem, M16 = up M s0 s1 s2 → m_X1_value_J212 k4 Q v0 v1 v2 v3 M16
def m_X1_value_J103 (k4 : Int → Int → Mem → Prop) (Q : Int → Mem → Prop)  (v0 : Int) (v1 : Int) (v2 : Int) (v3 : Int) (v4 : Int) (M : Mem) : Prop :=
  (inI v4) ∧ ((v4 = (-21) →
    (inI v2) ∧ ((v2 < 3 →
      m_X1_value_J158 k4 Q v0 v1 v2 v3 v4 M) ∧ (¬ v2 < 3 →
      ((0 : Int) ≤ (v2 + (-2)) - 1 ∧ (v2 + (-2)) - 1 < 64) ∧ (inI (M (v0 + 2) ((v2 + (-2)) - 1))) ∧ ((M (v0 + 2) ((v2 + (-2)) - 1) = 1 →
        ((0 : Int) ≤ v2 + (-2) ∧ v2 + (-2) < 64) ∧ m_X1_value_J154 k4 Q v0 v1 (v2 + (-2)) v3 (v0 + 2) ((v2 + (-2)) - 1) (M (v0 + 2) (v2 + (-2))) M) ∧ (¬ M (v0 + 2) ((v2 + (-2)) - 1) = 1 →
        ((0 : Int) ≤ (v2 + (-2)) + 1 ∧ (v2 + (-2)) + 1 < 64) ∧ m_X1_value_J154 k4 Q v0 v1 (v2 + (-2)) v3 (v0 + 2) ((v2 + (-2)) - 1) (M (v0 + 2) ((v2 + (-2)) + 1)) M))))) ∧ (¬ v4 = (-21) →
    m_X1_value_J158 k4 Q v0 v1 v2 v3 v4 M))
def m_X1_value_L4  (Q : Int → Mem → Prop) (v0 : Int) (v1 : Int) : Nat → Int → Int → Mem → Prop
  | 0, _, _, _ => False
  | f + 1, v2, v3, M =>
  (inI v3) ∧ (inI (M v0 2)) ∧ ((M v0 2 ≤ v3 →
    m_X1_value_J218 Q v0 v2 M) ∧ (¬ M v0 2 ≤ v3 →
    (inI v2) ∧ ((64 ≤ v2 →
      m_X1_value_J218 Q v0 v2 M) ∧ (¬ 64 ≤ v2 →
      ((0 : Int) ≤ v3 ∧ v3 < 1600) ∧ (inI (M (v0 + 1) v3)) ∧ ((M (v0 + 1) v3 < 0 →
        (inI (M (v0 + 1) v3)) ∧ ((M (v0 + 1) v3 < (-7) →
          (inI (M (v0 + 1) v3)) ∧ ((M (v0 + 1) v3 = (-20) →
            (inI v2) ∧ ((v2 < 1 →
              m_X1_value_J103 (m_X1_value_L4 Q v0 v1 f) Q v0 v1 v2 v3 (M (v0 + 1) v3) M) ∧ (¬ v2 < 1 →
              ((0 : Int) ≤ v2 - 1 ∧ v2 - 1 < 64) ∧ ((0 : Int) ≤ v2 - 1 ∧ v2 - 1 < 64) ∧ ∀ M33 : Mem, M33 = up M (v0 + 2) (v2 - 1) (1 - (M (v0 + 2) (v2 - 1))) → m_X1_value_J212 (m_X1_value_L4 Q v0 v1 f) Q v0 v1 v2 v3 M33))) ∧ (¬ M (v0 + 1) v3 = (-20) →
            m_X1_value_J103 (m_X1_value_L4 Q v0 v1 f) Q v0 v1 v2 v3 (M (v0 + 1) v3) M))) ∧ (¬ M (v0 + 1) v3 < (-7) →
          ((0 : Int) ≤ (-1) - (M (v0 + 1) v3) ∧ (-1) - (M (v0 + 1) v3) < (ln v1)) ∧ ((0 : Int) ≤ v2 ∧ v2 < 64) ∧ ∀ M36 : Mem, M36 = up M (v0 + 2) v2 (M v1 ((-1) - (M (v0 + 1) v3))) → m_X1_value_J212 (m_X1_value_L4 Q v0 v1 f) Q v0 v1 (v2 + 1) v3 M36))) ∧ (¬ M (v0 + 1) v3 < 0 →
        ((0 : Int) ≤ v2 ∧ v2 < 64) ∧ ∀ M38 : Mem, M38 = up M (v0 + 2) v2 (M (v0 + 1) v3) → m_X1_value_J212 (m_X1_value_L4 Q v0 v1 f) Q v0 v1 (v2 + 1) v3 M38))))))
def m_X1_value (o : Int) (a0 : Int) (M : Mem) (Q : Int → Mem → Prop) : Prop :=
  (kd o = 1) ∧
  (kd a0 = 20) ∧
  ∃ fu : Nat, m_X1_value_L4 Q o a0 fu 0 0 M
def m_X2_readInto (a0 : Int) (a1 : Int) (M : Mem) (Q : Mem → Prop) : Prop :=
  (kd a0 = 1) ∧
  ∀ M1 : Mem, M1 = up M 5 1 a0 → (a1 = 0 ∨ a1 = 1) ∧ ∀ M3 : Mem, M3 = up M1 5 2 a1 → Q M3
def m_X7_isOwn_J21  (Q : Int → Mem → Prop)  (s0 : Int) (M : Mem) : Prop :=
  (s0 = 0 ∨ s0 = 1) ∧ Q s0 M
def m_X7_isOwn_J20  (Q : Int → Mem → Prop)   (M : Mem) : Prop :=
  m_X7_isOwn_J21 Q 0 M
def m_X7_isOwn (a0 : Int) (M : Mem) (Q : Int → Mem → Prop) : Prop :=
  (inI (M 1 2)) ∧ ((M 1 2 = 1 →
    (inI (M 1 5)) ∧ (inI a0) ∧ ((M 1 5 = a0 →
      m_X7_isOwn_J21 Q 1 M) ∧ (¬ M 1 5 = a0 →
      m_X7_isOwn_J20 Q  M))) ∧ (¬ M 1 2 = 1 →
    m_X7_isOwn_J20 Q  M))
def m_X7_fail (a0 : Int) (M : Mem) (Q : Int → Mem → Prop) : Prop :=
  ∀ M1 : Mem, M1 = up M 1 6 a0 → ∀ M2 : Mem, M2 = up M1 1 7 (M1 1 3) → Q 0 M2
def m_X7_letterAt_J45  (Q : Int → Mem → Prop)  (s0 : Int) (M : Mem) : Prop :=
  Q s0 M
def m_X7_letterAt_J44  (Q : Int → Mem → Prop)   (M : Mem) : Prop :=
  m_X7_letterAt_J45 Q 0 M
def m_X7_letterAt (a0 : Int) (M : Mem) (Q : Int → Mem → Prop) : Prop :=
  (inI a0) ∧ (inI (M 1 1)) ∧ ((M 1 1 ≤ a0 →
    m_X7_letterAt_J44 Q  M) ∧ (¬ M 1 1 ≤ a0 →
    ((0 : Int) ≤ a0 ∧ a0 < 1600) ∧ (inI (M 2 a0)) ∧ ((M 2 a0 < 97 →
      m_X7_letterAt_J44 Q  M) ∧ (¬ M 2 a0 < 97 →
      ((0 : Int) ≤ a0 ∧ a0 < 1600) ∧ (inI (M 2 a0)) ∧ ((122 < M 2 a0 →
        m_X7_letterAt_J44 Q  M) ∧ (¬ 122 < M 2 a0 →
        ((0 : Int) ≤ a0 ∧ a0 < 1600) ∧ m_X7_letterAt_J45 Q (((M 2 a0) - 97) + 1) M))))))
def m_X7_readWord_J113 (k89 : Int → Mem → Prop) (Q : Mem → Prop)  (v1 : Int) (M : Mem) : Prop :=
  k89 (v1 + 1) M
def m_X7_readWord_L89  (Q : Mem → Prop)  : Nat → Int → Mem → Prop
  | 0, _, _ => False
  | f + 1, v1, M =>
  (inI v1) ∧ ((24 ≤ v1 →
    Q M) ∧ (¬ 24 ≤ v1 →
    ((0 : Int) ≤ v1 ∧ v1 < 24) ∧ (inI (M 3 v1)) ∧ (inI (M 1 4)) ∧ ((M 3 v1 = M 1 4 →
      ∀ M5 : Mem, M5 = up M 1 5 v1 → m_X7_readWord_J113 (m_X7_readWord_L89 Q f) Q v1 M5) ∧ (¬ M 3 v1 = M 1 4 →
      m_X7_readWord_J113 (m_X7_readWord_L89 Q f) Q v1 M))))
def m_X7_readWord_J87  (Q : Mem → Prop)   (M : Mem) : Prop :=
  ∃ fu : Nat, m_X7_readWord_L89 Q fu 0 M
def m_X7_readWord_J53 (k12 : Int → Mem → Prop) (Q : Mem → Prop)  (v1 : Int) (s1 : Int) (s2 : Int) (M : Mem) : Prop :=
  ∀ M6 : Mem, M6 = up M 1 9 (s1 + s2) → k12 (v1 + 1) M6
def m_X7_readWord_L12  (Q : Mem → Prop)  : Nat → Int → Mem → Prop
  | 0, _, _ => False
  | f + 1, v1, M =>
  (inI v1) ∧ ((6 ≤ v1 →
    m_X7_letterAt (M 1 9) M (fun r9 M8 =>
      (inI r9) ∧ ((r9 ≤ 0 →
        m_X7_readWord_J87 Q  M8) ∧ (¬ r9 ≤ 0 →
        ∀ M11 : Mem, M11 = up M8 1 2 4 → ∀ M12 : Mem, M12 = up M11 1 10 (M11 1 9) → m_X7_readWord_J87 Q  M12)))) ∧ (¬ 6 ≤ v1 →
    m_X7_letterAt (M 1 9) M (fun r14 M13 =>
      ∀ M15 : Mem, M15 = up M13 1 4 (zor (zshl (M13 1 4) 5) r14) → (inI r14) ∧ ((r14 ≤ 0 →
        m_X7_readWord_J53 (m_X7_readWord_L12 Q f) Q v1 (M15 1 9) 0 M15) ∧ (¬ r14 ≤ 0 →
        m_X7_readWord_J53 (m_X7_readWord_L12 Q f) Q v1 (M15 1 9) 1 M15)))))
def m_X7_readWord (M : Mem) (Q : Mem → Prop) : Prop :=
  ∀ M17 : Mem, M17 = up M 1 2 1 → ∀ M18 : Mem, M18 = up M17 1 4 0 → ∃ fu : Nat, m_X7_readWord_L12 Q fu 0 M18
def m_X7_digitAt_J43  (Q : Int → Mem → Prop)  (s0 : Int) (M : Mem) : Prop :=
  Q s0 M
def m_X7_digitAt_J42  (Q : Int → Mem → Prop)   (M : Mem) : Prop :=
  m_X7_digitAt_J43 Q (-1) M
def m_X7_digitAt (a0 : Int) (M : Mem) (Q : Int → Mem → Prop) : Prop :=
  (inI a0) ∧ (inI (M 1 1)) ∧ ((M 1 1 ≤ a0 →
    m_X7_digitAt_J42 Q  M) ∧ (¬ M 1 1 ≤ a0 →
    ((0 : Int) ≤ a0 ∧ a0 < 1600) ∧ (inI (M 2 a0)) ∧ ((M 2 a0 < 48 →
      m_X7_digitAt_J42 Q  M) ∧ (¬ M 2 a0 < 48 →
      ((0 : Int) ≤ a0 ∧ a0 < 1600) ∧ (inI (M 2 a0)) ∧ ((57 < M 2 a0 →
        m_X7_digitAt_J42 Q  M) ∧ (¬ 57 < M 2 a0 →
        ((0 : Int) ≤ a0 ∧ a0 < 1600) ∧ m_X7_digitAt_J43 Q ((M 2 a0) - 48) M))))))
def m_X7_readNumber_J88  (Q : Mem → Prop)   (M : Mem) : Prop :=
  Q M
def m_X7_readNumber_J64  (Q : Mem → Prop)   (M : Mem) : Prop :=
  m_X7_digitAt (M 1 9) M (fun r2 M1 =>
    (inI r2) ∧ ((r2 < 0 →
      m_X7_readNumber_J88 Q  M1) ∧ (¬ r2 < 0 →
      ∀ M4 : Mem, M4 = up M1 1 2 4 → ∀ M5 : Mem, M5 = up M4 1 10 (M4 1 9) → m_X7_readNumber_J88 Q  M5)))
def m_X7_readNumber_L12  (Q : Mem → Prop)  : Nat → Int → Mem → Prop
  | 0, _, _ => False
  | f + 1, v1, M =>
  (inI v1) ∧ ((4 ≤ v1 →
    m_X7_readNumber_J64 Q  M) ∧ (¬ 4 ≤ v1 →
    m_X7_digitAt (M 1 9) M (fun r8 M7 =>
      (inI r8) ∧ ((r8 < 0 →
        m_X7_readNumber_J64 Q  M7) ∧ (¬ r8 < 0 →
        m_X7_digitAt (M7 1 9) M7 (fun r11 M10 =>
          ∀ M12 : Mem, M12 = up M10 1 4 ((10 * (M7 1 4)) + r11) → ∀ M13 : Mem, M13 = up M12 1 9 ((M12 1 9) + 1) → m_X7_readNumber_L12 Q f (v1 + 1) M13))))))
def m_X7_readNumber (M : Mem) (Q : Mem → Prop) : Prop :=
  ∀ M14 : Mem, M14 = up M 1 2 2 → ∀ M15 : Mem, M15 = up M14 1 4 0 → ∃ fu : Nat, m_X7_readNumber_L12 Q fu 0 M15
def m_X7_advance_J223  (Q : Mem → Prop)   (M : Mem) : Prop :=
  Q M
def m_X7_advance_J183  (Q : Mem → Prop)  (v1 : Int) (v2 : Int) (M : Mem) : Prop :=
  (inI v1) ∧ ((v1 = 0 →
    m_X7_advance_J223 Q  M) ∧ (¬ v1 = 0 →
    (inI (M 1 3)) ∧ (inI v2) ∧ ((M 1 3 = v2 →
      (inI (M 1 2)) ∧ ((M 1 2 = 0 →
        m_X7_advance_J223 Q  M) ∧ (¬ M 1 2 = 0 →
        (inI (M 1 2)) ∧ ((M 1 2 = 3 →
          m_X7_advance_J223 Q  M) ∧ (¬ M 1 2 = 3 →
          ∀ M6 : Mem, M6 = up M 1 2 4 → ∀ M7 : Mem, M7 = up M6 1 10 (M6 1 3) → m_X7_advance_J223 Q  M7))))) ∧ (¬ M 1 3 = v2 →
      m_X7_advance_J223 Q  M))))
def m_X7_advance_J79  (Q : Mem → Prop)  (v1 : Int) (v2 : Int) (M : Mem) : Prop :=
  ∀ M8 : Mem, M8 = up M 1 3 (M 1 9) → ∀ M9 : Mem, M9 = up M8 1 10 (M8 1 9) → ∀ M10 : Mem, M10 = up M9 1 5 (-1) → (inI (M10 1 9)) ∧ (inI (M10 1 1)) ∧ ((M10 1 9 < M10 1 1 →
    m_X7_letterAt (M10 1 9) M10 (fun r14 M13 =>
      (inI r14) ∧ ((r14 ≤ 0 →
        m_X7_digitAt (M13 1 9) M13 (fun r17 M16 =>
          (inI r17) ∧ ((r17 < 0 →
            ∀ M19 : Mem, M19 = up M16 1 2 3 → ((0 : Int) ≤ M19 1 9 ∧ M19 1 9 < 1600) ∧ ∀ M21 : Mem, M21 = up M19 1 4 (M19 2 (M19 1 9)) → ∀ M22 : Mem, M22 = up M21 1 9 ((M21 1 9) + 1) → m_X7_advance_J183 Q v1 v2 M22) ∧ (¬ r17 < 0 →
            m_X7_readNumber  M16 (fun M23 =>
              m_X7_advance_J183 Q v1 v2 M23))))) ∧ (¬ r14 ≤ 0 →
        m_X7_readWord  M13 (fun M24 =>
          m_X7_advance_J183 Q v1 v2 M24))))) ∧ (¬ M10 1 9 < M10 1 1 →
    ∀ M25 : Mem, M25 = up M10 1 2 0 → m_X7_advance_J183 Q v1 v2 M25))
def m_X7_advance_J66 (k27 : Mem → Prop) (Q : Mem → Prop)  (v1 : Int) (v2 : Int) (M : Mem) : Prop :=
  ∀ M26 : Mem, M26 = up M 1 9 ((M 1 9) + 1) → k27  M26
def m_X7_advance_L27  (Q : Mem → Prop) (v1 : Int) (v2 : Int) : Nat → Mem → Prop
  | 0, _ => False
  | f + 1, M =>
  (inI (M 1 9)) ∧ (inI (M 1 1)) ∧ ((M 1 1 ≤ M 1 9 →
    m_X7_advance_J79 Q v1 v2 M) ∧ (¬ M 1 1 ≤ M 1 9 →
    ((0 : Int) ≤ M 1 9 ∧ M 1 9 < 1600) ∧ (inI (M 2 (M 1 9))) ∧ ((M 2 (M 1 9) = 32 →
      m_X7_advance_J66 (m_X7_advance_L27 Q v1 v2 f) Q v1 v2 M) ∧ (¬ M 2 (M 1 9) = 32 →
      ((0 : Int) ≤ M 1 9 ∧ M 1 9 < 1600) ∧ (inI (M 2 (M 1 9))) ∧ ((M 2 (M 1 9) = 10 →
        m_X7_advance_J66 (m_X7_advance_L27 Q v1 v2 f) Q v1 v2 M) ∧ (¬ M 2 (M 1 9) = 10 →
        m_X7_advance_J79 Q v1 v2 M))))))
def m_X7_advance_J21  (Q : Mem → Prop)  (s0 : Int) (M : Mem) : Prop :=
  ∃ fu : Nat, m_X7_advance_L27 Q s0 (M 1 9) fu  M
def m_X7_advance_J16  (Q : Mem → Prop)   (M : Mem) : Prop :=
  m_X7_advance_J21 Q 1 M
def m_X7_advance (M : Mem) (Q : Mem → Prop) : Prop :=
  (inI (M 1 2)) ∧ ((M 1 2 = 1 →
    m_X7_advance_J16 Q  M) ∧ (¬ M 1 2 = 1 →
    (inI (M 1 2)) ∧ ((M 1 2 = 2 →
      m_X7_advance_J16 Q  M) ∧ (¬ M 1 2 = 2 →
      m_X7_advance_J21 Q 0 M))))
def m_X2_opens (a0 : Int) (M : Mem) (Q : Int → Mem → Prop) : Prop :=
  (inI a0) ∧ ((a0 < 7 →
    m_X7_advance  M (fun M2 =>
      Q 1 M2)) ∧ (¬ a0 < 7 →
    m_X7_fail 5 M (fun r4 M3 =>
      (r4 = 0 ∨ r4 = 1) ∧ Q r4 M3)))
def m_X7_isSign_J21  (Q : Int → Mem → Prop)  (s0 : Int) (M : Mem) : Prop :=
  (s0 = 0 ∨ s0 = 1) ∧ Q s0 M
def m_X7_isSign_J20  (Q : Int → Mem → Prop)   (M : Mem) : Prop :=
  m_X7_isSign_J21 Q 0 M
def m_X7_isSign (a0 : Int) (M : Mem) (Q : Int → Mem → Prop) : Prop :=
  (inI (M 1 2)) ∧ ((M 1 2 = 3 →
    (inI (M 1 4)) ∧ (inI a0) ∧ ((M 1 4 = a0 →
      m_X7_isSign_J21 Q 1 M) ∧ (¬ M 1 4 = a0 →
      m_X7_isSign_J20 Q  M))) ∧ (¬ M 1 2 = 3 →
    m_X7_isSign_J20 Q  M))
def m_X7_misplaced (M : Mem) (Q : Int → Mem → Prop) : Prop :=
  ∀ M1 : Mem, M1 = up M 1 6 1 → ∀ M2 : Mem, M2 = up M1 1 7 (M1 1 10) → Q 0 M2
def m_X7_takeSign (a0 : Int) (M : Mem) (Q : Int → Mem → Prop) : Prop :=
  m_X7_isSign a0 M (fun r2 M1 =>
    (inI r2) ∧ ((r2 = 0 →
      m_X7_misplaced  M1 (fun r6 M5 =>
        (r6 = 0 ∨ r6 = 1) ∧ Q r6 M5)) ∧ (¬ r2 = 0 →
      m_X7_advance  M1 (fun M4 =>
        Q 1 M4))))
def m_X2_take (a0 : Int) (M : Mem) (Q : Int → Mem → Prop) : Prop :=
  m_X7_advance  M (fun M1 =>
    (kd (M1 5 1) = 1) ∧ m_X1_add (M1 5 1) a0 M1 (fun r4 M3 =>
      (r4 = 0 ∨ r4 = 1) ∧ Q r4 M3))
def m_X2_opensBracket_J27  (Q : Int → Mem → Prop)  (s0 : Int) (M : Mem) : Prop :=
  (s0 = 0 ∨ s0 = 1) ∧ Q s0 M
def m_X2_opensBracket (a0 : Int) (M : Mem) (Q : Int → Mem → Prop) : Prop :=
  m_X7_isSign 40 M (fun r3 M2 =>
    (inI r3) ∧ ((r3 = 0 →
      m_X7_misplaced  M2 (fun r6 M5 =>
        m_X2_opensBracket_J27 Q r6 M5)) ∧ (¬ r3 = 0 →
      m_X2_opens a0 M2 (fun r8 M7 =>
        m_X2_opensBracket_J27 Q r8 M7))))
def m_X2_productCode_J48  (Q : Int → Mem → Prop)  (s0 : Int) (M : Mem) : Prop :=
  Q s0 M
def m_X2_productCode (M : Mem) (Q : Int → Mem → Prop) : Prop :=
  m_X7_isSign 42 M (fun r2 M1 =>
    (inI r2) ∧ ((r2 = 0 →
      m_X7_isSign 47 M1 (fun r5 M4 =>
        (inI r5) ∧ ((r5 = 0 →
          m_X7_isSign 37 M4 (fun r8 M7 =>
            (inI r8) ∧ ((r8 = 0 →
              m_X2_productCode_J48 Q 0 M7) ∧ (¬ r8 = 0 →
              m_X2_productCode_J48 Q (-12) M7)))) ∧ (¬ r5 = 0 →
          Q (-11) M4)))) ∧ (¬ r2 = 0 →
      Q (-10) M1)))
def m_X2_comparison_J48  (Q : Int → Mem → Prop)  (s0 : Int) (M : Mem) : Prop :=
  Q s0 M
def m_X2_comparison (M : Mem) (Q : Int → Mem → Prop) : Prop :=
  m_X7_isSign 60 M (fun r2 M1 =>
    (inI r2) ∧ ((r2 = 0 →
      m_X7_isSign 62 M1 (fun r5 M4 =>
        (inI r5) ∧ ((r5 = 0 →
          m_X7_isSign 61 M4 (fun r8 M7 =>
            (inI r8) ∧ ((r8 = 0 →
              m_X2_comparison_J48 Q 0 M7) ∧ (¬ r8 = 0 →
              m_X2_comparison_J48 Q (-17) M7)))) ∧ (¬ r5 = 0 →
          Q (-16) M4)))) ∧ (¬ r2 = 0 →
      Q (-15) M1)))
def m_X2_test_J70 (F : Nat → Int → Int → Mem → (Int → Mem → Prop) → Prop)  (Q : Int → Mem → Prop)  (v2 : Int) (M : Mem) : Prop :=
  (v2 = 0 ∨ v2 = 1) ∧ Q v2 M
def m_X2_test_J63 (F : Nat → Int → Int → Mem → (Int → Mem → Prop) → Prop) (k8 : Int → Int → Mem → Prop) (Q : Int → Mem → Prop)  (v1 : Int) (v3 : Int) (s0 : Int) (M : Mem) : Prop :=
  k8 s0 (v3 + 1) M
def m_X2_test_J62 (F : Nat → Int → Int → Mem → (Int → Mem → Prop) → Prop) (k8 : Int → Int → Mem → Prop) (Q : Int → Mem → Prop)  (v1 : Int) (v3 : Int) (M : Mem) : Prop :=
  m_X2_test_J63 F k8 Q v1 v3 0 M
def m_X2_test_L8 (F : Nat → Int → Int → Mem → (Int → Mem → Prop) → Prop)  (Q : Int → Mem → Prop) (v1 : Int) : Nat → Int → Int → Mem → Prop
  | 0, _, _, _ => False
  | f + 1, v2, v3, M =>
  (inI v3) ∧ ((1600 ≤ v3 →
    m_X2_test_J70 F Q v2 M) ∧ (¬ 1600 ≤ v3 →
    (inI v2) ∧ ((v2 = 0 →
      m_X2_test_J70 F Q v2 M) ∧ (¬ v2 = 0 →
      m_X7_isOwn 18 M (fun r5 M4 =>
        (inI r5) ∧ ((r5 = 0 →
          m_X2_test_J70 F Q v2 M4) ∧ (¬ r5 = 0 →
          m_X7_advance  M4 (fun M7 =>
            F 1 v1 0 M7 (fun r9 M8 =>
              (inI r9) ∧ ((r9 = 0 →
                m_X2_test_J62 F (m_X2_test_L8 F Q v1 f) Q v1 v3 M8) ∧ (¬ r9 = 0 →
                (kd (M8 5 1) = 1) ∧ m_X1_add (M8 5 1) (-19) M8 (fun r13 M12 =>
                  (inI r13) ∧ ((r13 = 0 →
                    m_X2_test_J62 F (m_X2_test_L8 F Q v1 f) Q v1 v3 M12) ∧ (¬ r13 = 0 →
                    m_X2_test_J63 F (m_X2_test_L8 F Q v1 f) Q v1 v3 1 M12))))))))))))))
def mb_X2_test (F : Nat → Int → Int → Mem → (Int → Mem → Prop) → Prop) (a0 : Int) (M : Mem) (Q : Int → Mem → Prop) : Prop :=
  F 1 a0 0 M (fun r16 M15 =>
    ∃ fu : Nat, m_X2_test_L8 F Q a0 fu r16 0 M15)
def m_X2_both_J70 (F : Nat → Int → Int → Mem → (Int → Mem → Prop) → Prop)  (Q : Int → Mem → Prop)  (v2 : Int) (M : Mem) : Prop :=
  (v2 = 0 ∨ v2 = 1) ∧ Q v2 M
def m_X2_both_J63 (F : Nat → Int → Int → Mem → (Int → Mem → Prop) → Prop) (k8 : Int → Int → Mem → Prop) (Q : Int → Mem → Prop)  (v1 : Int) (v3 : Int) (s0 : Int) (M : Mem) : Prop :=
  k8 s0 (v3 + 1) M
def m_X2_both_J62 (F : Nat → Int → Int → Mem → (Int → Mem → Prop) → Prop) (k8 : Int → Int → Mem → Prop) (Q : Int → Mem → Prop)  (v1 : Int) (v3 : Int) (M : Mem) : Prop :=
  m_X2_both_J63 F k8 Q v1 v3 0 M
def m_X2_both_L8 (F : Nat → Int → Int → Mem → (Int → Mem → Prop) → Prop)  (Q : Int → Mem → Prop) (v1 : Int) : Nat → Int → Int → Mem → Prop
  | 0, _, _, _ => False
  | f + 1, v2, v3, M =>
  (inI v3) ∧ ((1600 ≤ v3 →
    m_X2_both_J70 F Q v2 M) ∧ (¬ 1600 ≤ v3 →
    (inI v2) ∧ ((v2 = 0 →
      m_X2_both_J70 F Q v2 M) ∧ (¬ v2 = 0 →
      m_X7_isOwn 19 M (fun r5 M4 =>
        (inI r5) ∧ ((r5 = 0 →
          m_X2_both_J70 F Q v2 M4) ∧ (¬ r5 = 0 →
          m_X7_advance  M4 (fun M7 =>
            F 2 v1 0 M7 (fun r9 M8 =>
              (inI r9) ∧ ((r9 = 0 →
                m_X2_both_J62 F (m_X2_both_L8 F Q v1 f) Q v1 v3 M8) ∧ (¬ r9 = 0 →
                (kd (M8 5 1) = 1) ∧ m_X1_add (M8 5 1) (-18) M8 (fun r13 M12 =>
                  (inI r13) ∧ ((r13 = 0 →
                    m_X2_both_J62 F (m_X2_both_L8 F Q v1 f) Q v1 v3 M12) ∧ (¬ r13 = 0 →
                    m_X2_both_J63 F (m_X2_both_L8 F Q v1 f) Q v1 v3 1 M12))))))))))))))
def mb_X2_both (F : Nat → Int → Int → Mem → (Int → Mem → Prop) → Prop) (a0 : Int) (M : Mem) (Q : Int → Mem → Prop) : Prop :=
  F 2 a0 0 M (fun r16 M15 =>
    ∃ fu : Nat, m_X2_both_L8 F Q a0 fu r16 0 M15)
def m_X2_fact_J172 (F : Nat → Int → Int → Mem → (Int → Mem → Prop) → Prop)  (Q : Int → Mem → Prop)  (s0 : Int) (M : Mem) : Prop :=
  (s0 = 0 ∨ s0 = 1) ∧ Q s0 M
def m_X2_fact_J171 (F : Nat → Int → Int → Mem → (Int → Mem → Prop) → Prop)  (Q : Int → Mem → Prop)   (M : Mem) : Prop :=
  m_X2_fact_J172 F Q 0 M
def m_X2_fact_J95 (F : Nat → Int → Int → Mem → (Int → Mem → Prop) → Prop)  (Q : Int → Mem → Prop)  (s0 : Int) (M : Mem) : Prop :=
  (s0 = 0 ∨ s0 = 1) ∧ Q s0 M
def m_X2_fact_J94 (F : Nat → Int → Int → Mem → (Int → Mem → Prop) → Prop)  (Q : Int → Mem → Prop)   (M : Mem) : Prop :=
  m_X2_fact_J95 F Q 0 M
def m_X2_fact_J47 (F : Nat → Int → Int → Mem → (Int → Mem → Prop) → Prop)  (Q : Int → Mem → Prop)  (s0 : Int) (M : Mem) : Prop :=
  (s0 = 0 ∨ s0 = 1) ∧ Q s0 M
def m_X2_fact_J46 (F : Nat → Int → Int → Mem → (Int → Mem → Prop) → Prop)  (Q : Int → Mem → Prop)   (M : Mem) : Prop :=
  m_X2_fact_J47 F Q 0 M
def mb_X2_fact (F : Nat → Int → Int → Mem → (Int → Mem → Prop) → Prop) (a0 : Int) (M : Mem) (Q : Int → Mem → Prop) : Prop :=
  m_X7_isOwn 20 M (fun r5 M4 =>
    (inI r5) ∧ ((r5 = 0 →
      m_X7_isSign 91 M4 (fun r8 M7 =>
        (inI r8) ∧ ((r8 = 0 →
          m_X7_isOwn 21 M7 (fun r11 M10 =>
            (inI r11) ∧ ((r11 = 0 →
              F 3 a0 0 M10 (fun r14 M13 =>
                (inI r14) ∧ ((r14 = 0 →
                  Q 0 M13) ∧ (¬ r14 = 0 →
                  m_X2_comparison  M13 (fun r17 M16 =>
                    (inI r17) ∧ ((r17 = 0 →
                      m_X7_misplaced  M16 (fun r28 M27 =>
                        (r28 = 0 ∨ r28 = 1) ∧ Q r28 M27)) ∧ (¬ r17 = 0 →
                      m_X7_advance  M16 (fun M19 =>
                        F 3 a0 0 M19 (fun r21 M20 =>
                          (inI r21) ∧ ((r21 = 0 →
                            m_X2_fact_J171 F Q  M20) ∧ (¬ r21 = 0 →
                            (kd (M20 5 1) = 1) ∧ m_X1_add (M20 5 1) r17 M20 (fun r25 M24 =>
                              (inI r25) ∧ ((r25 = 0 →
                                m_X2_fact_J171 F Q  M24) ∧ (¬ r25 = 0 →
                                m_X2_fact_J172 F Q 1 M24)))))))))))))) ∧ (¬ r11 = 0 →
              m_X2_take 1 M10 (fun r31 M30 =>
                (r31 = 0 ∨ r31 = 1) ∧ Q r31 M30))))) ∧ (¬ r8 = 0 →
          m_X2_opens a0 M7 (fun r34 M33 =>
            (inI r34) ∧ ((r34 = 0 →
              m_X2_fact_J94 F Q  M33) ∧ (¬ r34 = 0 →
              F 0 (a0 + 1) 0 M33 (fun r37 M36 =>
                (inI r37) ∧ ((r37 = 0 →
                  m_X2_fact_J94 F Q  M36) ∧ (¬ r37 = 0 →
                  m_X7_takeSign 93 M36 (fun r40 M39 =>
                    (inI r40) ∧ ((r40 = 0 →
                      m_X2_fact_J94 F Q  M39) ∧ (¬ r40 = 0 →
                      m_X2_fact_J95 F Q 1 M39))))))))))))) ∧ (¬ r5 = 0 →
      m_X2_opens a0 M4 (fun r43 M42 =>
        (inI r43) ∧ ((r43 = 0 →
          m_X2_fact_J46 F Q  M42) ∧ (¬ r43 = 0 →
          F 2 (a0 + 1) 0 M42 (fun r46 M45 =>
            (inI r46) ∧ ((r46 = 0 →
              m_X2_fact_J46 F Q  M45) ∧ (¬ r46 = 0 →
              (kd (M45 5 1) = 1) ∧ m_X1_add (M45 5 1) (-20) M45 (fun r50 M49 =>
                (inI r50) ∧ ((r50 = 0 →
                  m_X2_fact_J46 F Q  M49) ∧ (¬ r50 = 0 →
                  m_X2_fact_J47 F Q 1 M49))))))))))))
def m_X2_sum_J103 (F : Nat → Int → Int → Mem → (Int → Mem → Prop) → Prop)  (Q : Int → Mem → Prop)  (v2 : Int) (M : Mem) : Prop :=
  (v2 = 0 ∨ v2 = 1) ∧ Q v2 M
def m_X2_sum_J96 (F : Nat → Int → Int → Mem → (Int → Mem → Prop) → Prop) (k8 : Int → Int → Mem → Prop) (Q : Int → Mem → Prop)  (v1 : Int) (v3 : Int) (s0 : Int) (M : Mem) : Prop :=
  k8 s0 (v3 + 1) M
def m_X2_sum_J95 (F : Nat → Int → Int → Mem → (Int → Mem → Prop) → Prop) (k8 : Int → Int → Mem → Prop) (Q : Int → Mem → Prop)  (v1 : Int) (v3 : Int) (M : Mem) : Prop :=
  m_X2_sum_J96 F k8 Q v1 v3 0 M
def m_X2_sum_J62 (F : Nat → Int → Int → Mem → (Int → Mem → Prop) → Prop) (k8 : Int → Int → Mem → Prop) (Q : Int → Mem → Prop)  (v1 : Int) (v3 : Int) (s0 : Int) (M : Mem) : Prop :=
  m_X7_advance  M (fun M2 =>
    F 4 v1 0 M2 (fun r4 M3 =>
      (inI r4) ∧ ((r4 = 0 →
        m_X2_sum_J95 F k8 Q v1 v3 M3) ∧ (¬ r4 = 0 →
        (kd (M3 5 1) = 1) ∧ m_X1_add (M3 5 1) s0 M3 (fun r8 M7 =>
          (inI r8) ∧ ((r8 = 0 →
            m_X2_sum_J95 F k8 Q v1 v3 M7) ∧ (¬ r8 = 0 →
            m_X2_sum_J96 F k8 Q v1 v3 1 M7)))))))
def m_X2_sum_J43 (F : Nat → Int → Int → Mem → (Int → Mem → Prop) → Prop) (k8 : Int → Int → Mem → Prop) (Q : Int → Mem → Prop)  (v1 : Int) (v3 : Int) (M : Mem) : Prop :=
  m_X7_isSign 43 M (fun r11 M10 =>
    (inI r11) ∧ ((r11 = 0 →
      m_X2_sum_J62 F k8 Q v1 v3 (-9) M10) ∧ (¬ r11 = 0 →
      m_X2_sum_J62 F k8 Q v1 v3 (-8) M10)))
def m_X2_sum_L8 (F : Nat → Int → Int → Mem → (Int → Mem → Prop) → Prop)  (Q : Int → Mem → Prop) (v1 : Int) : Nat → Int → Int → Mem → Prop
  | 0, _, _, _ => False
  | f + 1, v2, v3, M =>
  (inI v3) ∧ ((1600 ≤ v3 →
    m_X2_sum_J103 F Q v2 M) ∧ (¬ 1600 ≤ v3 →
    (inI v2) ∧ ((v2 = 0 →
      m_X2_sum_J103 F Q v2 M) ∧ (¬ v2 = 0 →
      m_X7_isSign 43 M (fun r16 M15 =>
        (inI r16) ∧ ((r16 = 0 →
          m_X7_isSign 45 M15 (fun r19 M18 =>
            (inI r19) ∧ ((r19 = 0 →
              m_X2_sum_J103 F Q v2 M18) ∧ (¬ r19 = 0 →
              m_X2_sum_J43 F (m_X2_sum_L8 F Q v1 f) Q v1 v3 M18)))) ∧ (¬ r16 = 0 →
          m_X2_sum_J43 F (m_X2_sum_L8 F Q v1 f) Q v1 v3 M15)))))))
def mb_X2_sum (F : Nat → Int → Int → Mem → (Int → Mem → Prop) → Prop) (a0 : Int) (M : Mem) (Q : Int → Mem → Prop) : Prop :=
  F 4 a0 0 M (fun r22 M21 =>
    ∃ fu : Nat, m_X2_sum_L8 F Q a0 fu r22 0 M21)
def m_X2_product_J71 (F : Nat → Int → Int → Mem → (Int → Mem → Prop) → Prop)  (Q : Int → Mem → Prop)  (v2 : Int) (M : Mem) : Prop :=
  (v2 = 0 ∨ v2 = 1) ∧ Q v2 M
def m_X2_product_J64 (F : Nat → Int → Int → Mem → (Int → Mem → Prop) → Prop) (k8 : Int → Int → Mem → Prop) (Q : Int → Mem → Prop)  (v1 : Int) (v3 : Int) (s0 : Int) (M : Mem) : Prop :=
  k8 s0 (v3 + 1) M
def m_X2_product_J63 (F : Nat → Int → Int → Mem → (Int → Mem → Prop) → Prop) (k8 : Int → Int → Mem → Prop) (Q : Int → Mem → Prop)  (v1 : Int) (v3 : Int) (M : Mem) : Prop :=
  m_X2_product_J64 F k8 Q v1 v3 0 M
def m_X2_product_L8 (F : Nat → Int → Int → Mem → (Int → Mem → Prop) → Prop)  (Q : Int → Mem → Prop) (v1 : Int) : Nat → Int → Int → Mem → Prop
  | 0, _, _, _ => False
  | f + 1, v2, v3, M =>
  (inI v3) ∧ ((1600 ≤ v3 →
    m_X2_product_J71 F Q v2 M) ∧ (¬ 1600 ≤ v3 →
    (inI v2) ∧ ((v2 = 0 →
      m_X2_product_J71 F Q v2 M) ∧ (¬ v2 = 0 →
      m_X2_productCode  M (fun r5 M4 =>
        (inI r5) ∧ ((r5 = 0 →
          m_X2_product_J71 F Q v2 M4) ∧ (¬ r5 = 0 →
          m_X2_productCode  M4 (fun r8 M7 =>
            m_X7_advance  M7 (fun M9 =>
              F 5 v1 0 M9 (fun r11 M10 =>
                (inI r11) ∧ ((r11 = 0 →
                  m_X2_product_J63 F (m_X2_product_L8 F Q v1 f) Q v1 v3 M10) ∧ (¬ r11 = 0 →
                  (kd (M10 5 1) = 1) ∧ m_X1_add (M10 5 1) r8 M10 (fun r15 M14 =>
                    (inI r15) ∧ ((r15 = 0 →
                      m_X2_product_J63 F (m_X2_product_L8 F Q v1 f) Q v1 v3 M14) ∧ (¬ r15 = 0 →
                      m_X2_product_J64 F (m_X2_product_L8 F Q v1 f) Q v1 v3 1 M14)))))))))))))))
def mb_X2_product (F : Nat → Int → Int → Mem → (Int → Mem → Prop) → Prop) (a0 : Int) (M : Mem) (Q : Int → Mem → Prop) : Prop :=
  F 5 a0 0 M (fun r18 M17 =>
    ∃ fu : Nat, m_X2_product_L8 F Q a0 fu r18 0 M17)
def m_X2_part_J292 (F : Nat → Int → Int → Mem → (Int → Mem → Prop) → Prop)  (Q : Int → Mem → Prop)   (M : Mem) : Prop :=
  m_X7_misplaced  M (fun r2 M1 =>
    (r2 = 0 ∨ r2 = 1) ∧ Q r2 M1)
def m_X2_part_J269 (F : Nat → Int → Int → Mem → (Int → Mem → Prop) → Prop)  (Q : Int → Mem → Prop)  (s0 : Int) (M : Mem) : Prop :=
  (s0 = 0 ∨ s0 = 1) ∧ Q s0 M
def m_X2_part_J245 (F : Nat → Int → Int → Mem → (Int → Mem → Prop) → Prop)  (Q : Int → Mem → Prop)  (s0 : Int) (M : Mem) : Prop :=
  (s0 = 0 ∨ s0 = 1) ∧ Q s0 M
def m_X2_part_J70 (F : Nat → Int → Int → Mem → (Int → Mem → Prop) → Prop)  (Q : Int → Mem → Prop)  (s0 : Int) (M : Mem) : Prop :=
  (s0 = 0 ∨ s0 = 1) ∧ Q s0 M
def m_X2_part_J69 (F : Nat → Int → Int → Mem → (Int → Mem → Prop) → Prop)  (Q : Int → Mem → Prop)   (M : Mem) : Prop :=
  m_X2_part_J70 F Q 0 M
def mb_X2_part (F : Nat → Int → Int → Mem → (Int → Mem → Prop) → Prop) (a0 : Int) (M : Mem) (Q : Int → Mem → Prop) : Prop :=
  (inI (M 1 2)) ∧ ((M 1 2 = 2 →
    m_X2_take (M 1 4) M (fun r60 M59 =>
      (r60 = 0 ∨ r60 = 1) ∧ Q r60 M59)) ∧ (¬ M 1 2 = 2 →
    m_X7_isSign 40 M (fun r9 M8 =>
      (inI r9) ∧ ((r9 = 0 →
        (inI (M8 1 2)) ∧ ((M8 1 2 = 1 →
          (inI (M8 1 5)) ∧ ((M8 1 5 = 5 →
            m_X2_take (-1) M8 (fun r14 M13 =>
              (r14 = 0 ∨ r14 = 1) ∧ Q r14 M13)) ∧
(M8 1 5 = 6 →
            m_X2_part_J292 F Q  M8) ∧
(M8 1 5 = 7 →
            m_X2_part_J292 F Q  M8) ∧
(M8 1 5 = 8 →
            m_X2_part_J292 F Q  M8) ∧
(M8 1 5 = 9 →
            m_X2_part_J292 F Q  M8) ∧
(M8 1 5 = 10 →
            m_X2_part_J292 F Q  M8) ∧
(M8 1 5 = 11 →
            m_X2_take (-2) M8 (fun r17 M16 =>
              (r17 = 0 ∨ r17 = 1) ∧ Q r17 M16)) ∧
(M8 1 5 = 12 →
            m_X2_take (-3) M8 (fun r20 M19 =>
              (r20 = 0 ∨ r20 = 1) ∧ Q r20 M19)) ∧
(M8 1 5 = 13 →
            m_X2_take (-4) M8 (fun r23 M22 =>
              (r23 = 0 ∨ r23 = 1) ∧ Q r23 M22)) ∧
(M8 1 5 = 14 →
            m_X2_take (-5) M8 (fun r26 M25 =>
              (r26 = 0 ∨ r26 = 1) ∧ Q r26 M25)) ∧
(M8 1 5 = 15 →
            (inI (M8 5 2)) ∧ ((M8 5 2 = 0 →
              m_X7_misplaced  M8 (fun r30 M29 =>
                m_X2_part_J245 F Q r30 M29)) ∧ (¬ M8 5 2 = 0 →
              m_X2_take (-6) M8 (fun r32 M31 =>
                m_X2_part_J245 F Q r32 M31)))) ∧
(M8 1 5 = 16 →
            (inI (M8 5 2)) ∧ ((M8 5 2 = 0 →
              m_X7_misplaced  M8 (fun r35 M34 =>
                m_X2_part_J269 F Q r35 M34)) ∧ (¬ M8 5 2 = 0 →
              m_X2_take (-7) M8 (fun r37 M36 =>
                m_X2_part_J269 F Q r37 M36)))) ∧
(M8 1 5 = 17 →
            F 7 a0 0 M8 (fun r39 M38 =>
              (r39 = 0 ∨ r39 = 1) ∧ Q r39 M38)) ∧
(M8 1 5 = 18 →
            m_X2_part_J292 F Q  M8) ∧
(M8 1 5 = 19 →
            m_X2_part_J292 F Q  M8) ∧
(M8 1 5 = 20 →
            m_X2_part_J292 F Q  M8) ∧
(M8 1 5 = 21 →
            m_X2_part_J292 F Q  M8) ∧
(M8 1 5 = 22 →
            F 6 a0 (-13) M8 (fun r42 M41 =>
              (r42 = 0 ∨ r42 = 1) ∧ Q r42 M41)) ∧
(M8 1 5 = 23 →
            F 6 a0 (-14) M8 (fun r45 M44 =>
              (r45 = 0 ∨ r45 = 1) ∧ Q r45 M44)) ∧
(M8 1 5 < 5 ∨ 23 < M8 1 5 →
            m_X2_part_J292 F Q  M8))) ∧ (¬ M8 1 2 = 1 →
          m_X7_misplaced  M8 (fun r48 M47 =>
            (r48 = 0 ∨ r48 = 1) ∧ Q r48 M47)))) ∧ (¬ r9 = 0 →
        m_X2_opens a0 M8 (fun r51 M50 =>
          (inI r51) ∧ ((r51 = 0 →
            m_X2_part_J69 F Q  M50) ∧ (¬ r51 = 0 →
            F 3 (a0 + 1) 0 M50 (fun r54 M53 =>
              (inI r54) ∧ ((r54 = 0 →
                m_X2_part_J69 F Q  M53) ∧ (¬ r54 = 0 →
                m_X7_takeSign 41 M53 (fun r57 M56 =>
                  (inI r57) ∧ ((r57 = 0 →
                    m_X2_part_J69 F Q  M56) ∧ (¬ r57 = 0 →
                    m_X2_part_J70 F Q 1 M56))))))))))))))
def m_X2_pair_J75 (F : Nat → Int → Int → Mem → (Int → Mem → Prop) → Prop)  (Q : Int → Mem → Prop)  (s0 : Int) (M : Mem) : Prop :=
  (s0 = 0 ∨ s0 = 1) ∧ Q s0 M
def m_X2_pair_J74 (F : Nat → Int → Int → Mem → (Int → Mem → Prop) → Prop)  (Q : Int → Mem → Prop)   (M : Mem) : Prop :=
  m_X2_pair_J75 F Q 0 M
def mb_X2_pair (F : Nat → Int → Int → Mem → (Int → Mem → Prop) → Prop) (a0 : Int) (a1 : Int) (M : Mem) (Q : Int → Mem → Prop) : Prop :=
  m_X7_advance  M (fun M2 =>
    m_X2_opensBracket a0 M2 (fun r4 M3 =>
      (inI r4) ∧ ((r4 = 0 →
        m_X2_pair_J74 F Q  M3) ∧ (¬ r4 = 0 →
        F 3 (a0 + 1) 0 M3 (fun r7 M6 =>
          (inI r7) ∧ ((r7 = 0 →
            m_X2_pair_J74 F Q  M6) ∧ (¬ r7 = 0 →
            m_X7_takeSign 44 M6 (fun r10 M9 =>
              (inI r10) ∧ ((r10 = 0 →
                m_X2_pair_J74 F Q  M9) ∧ (¬ r10 = 0 →
                F 3 (a0 + 1) 0 M9 (fun r13 M12 =>
                  (inI r13) ∧ ((r13 = 0 →
                    m_X2_pair_J74 F Q  M12) ∧ (¬ r13 = 0 →
                    m_X7_takeSign 41 M12 (fun r16 M15 =>
                      (inI r16) ∧ ((r16 = 0 →
                        m_X2_pair_J74 F Q  M15) ∧ (¬ r16 = 0 →
                        (kd (M15 5 1) = 1) ∧ m_X1_add (M15 5 1) a1 M15 (fun r20 M19 =>
                          (inI r20) ∧ ((r20 = 0 →
                            m_X2_pair_J74 F Q  M19) ∧ (¬ r20 = 0 →
                            m_X2_pair_J75 F Q 1 M19)))))))))))))))))))
def m_X2_choice_J98 (F : Nat → Int → Int → Mem → (Int → Mem → Prop) → Prop)  (Q : Int → Mem → Prop)  (s0 : Int) (M : Mem) : Prop :=
  (s0 = 0 ∨ s0 = 1) ∧ Q s0 M
def m_X2_choice_J97 (F : Nat → Int → Int → Mem → (Int → Mem → Prop) → Prop)  (Q : Int → Mem → Prop)   (M : Mem) : Prop :=
  m_X2_choice_J98 F Q 0 M
def mb_X2_choice (F : Nat → Int → Int → Mem → (Int → Mem → Prop) → Prop) (a0 : Int) (M : Mem) (Q : Int → Mem → Prop) : Prop :=
  m_X7_advance  M (fun M2 =>
    m_X2_opensBracket a0 M2 (fun r4 M3 =>
      (inI r4) ∧ ((r4 = 0 →
        m_X2_choice_J97 F Q  M3) ∧ (¬ r4 = 0 →
        F 0 (a0 + 1) 0 M3 (fun r7 M6 =>
          (inI r7) ∧ ((r7 = 0 →
            m_X2_choice_J97 F Q  M6) ∧ (¬ r7 = 0 →
            m_X7_takeSign 44 M6 (fun r10 M9 =>
              (inI r10) ∧ ((r10 = 0 →
                m_X2_choice_J97 F Q  M9) ∧ (¬ r10 = 0 →
                F 3 (a0 + 1) 0 M9 (fun r13 M12 =>
                  (inI r13) ∧ ((r13 = 0 →
                    m_X2_choice_J97 F Q  M12) ∧ (¬ r13 = 0 →
                    m_X7_takeSign 44 M12 (fun r16 M15 =>
                      (inI r16) ∧ ((r16 = 0 →
                        m_X2_choice_J97 F Q  M15) ∧ (¬ r16 = 0 →
                        F 3 (a0 + 1) 0 M15 (fun r19 M18 =>
                          (inI r19) ∧ ((r19 = 0 →
                            m_X2_choice_J97 F Q  M18) ∧ (¬ r19 = 0 →
                            m_X7_takeSign 41 M18 (fun r22 M21 =>
                              (inI r22) ∧ ((r22 = 0 →
                                m_X2_choice_J97 F Q  M21) ∧ (¬ r22 = 0 →
                                (kd (M21 5 1) = 1) ∧ m_X1_add (M21 5 1) (-21) M21 (fun r26 M25 =>
                                  (inI r26) ∧ ((r26 = 0 →
                                    m_X2_choice_J97 F Q  M25) ∧ (¬ r26 = 0 →
                                    m_X2_choice_J98 F Q 1 M25)))))))))))))))))))))))))
def fr : Nat → Nat → Int → Int → Mem → (Int → Mem → Prop) → Prop
  | 0, _, _, _, _, _ => False
  | d + 1, 0, a, b, M, Q => mb_X2_test (fr d) a M Q
  | d + 1, 1, a, b, M, Q => mb_X2_both (fr d) a M Q
  | d + 1, 2, a, b, M, Q => mb_X2_fact (fr d) a M Q
  | d + 1, 3, a, b, M, Q => mb_X2_sum (fr d) a M Q
  | d + 1, 4, a, b, M, Q => mb_X2_product (fr d) a M Q
  | d + 1, 5, a, b, M, Q => mb_X2_part (fr d) a M Q
  | d + 1, 6, a, b, M, Q => mb_X2_pair (fr d) a b M Q
  | d + 1, 7, a, b, M, Q => mb_X2_choice (fr d) a M Q
  | _ + 1, _, _, _, _, _ => False
def m_X2_test (a0 : Int) (M : Mem) (Q : Int → Mem → Prop) : Prop := fr 60 0 a0 0 M Q
def m_X2_both (a0 : Int) (M : Mem) (Q : Int → Mem → Prop) : Prop := fr 60 1 a0 0 M Q
def m_X2_fact (a0 : Int) (M : Mem) (Q : Int → Mem → Prop) : Prop := fr 60 2 a0 0 M Q
def m_X2_sum (a0 : Int) (M : Mem) (Q : Int → Mem → Prop) : Prop := fr 60 3 a0 0 M Q
def m_X2_product (a0 : Int) (M : Mem) (Q : Int → Mem → Prop) : Prop := fr 60 4 a0 0 M Q
def m_X2_part (a0 : Int) (M : Mem) (Q : Int → Mem → Prop) : Prop := fr 60 5 a0 0 M Q
def m_X2_pair (a0 : Int) (a1 : Int) (M : Mem) (Q : Int → Mem → Prop) : Prop := fr 60 6 a0 a1 M Q
def m_X2_choice (a0 : Int) (M : Mem) (Q : Int → Mem → Prop) : Prop := fr 60 7 a0 0 M Q

def m_X3_forget (M : Mem) (Q : Mem → Prop) : Prop :=
  ∀ M1 : Mem, M1 = up M 62 2 0 → Q M1
def m_X5_copy (o : Int) (a0 : Int) (M : Mem) (Q : Mem → Prop) : Prop :=
  (kd o = 5) ∧
  (kd a0 = 5) ∧
  ∀ M1 : Mem, M1 = up M o 0 (M a0 0) → ((0 : Int) ≤ 0 ∧ (0 : Int) ≤ 0 ∧ (0 : Int) ≤ M1 o 0) ∧ ((0 : Int) + (M1 o 0) ≤ 9) ∧ ((0 : Int) + (M1 o 0) ≤ 9) ∧ ∀ M5 : Mem, M5 = cpy M1 (a0 + 1) 0 (o + 1) 0 (M1 o 0) → ((0 : Int) ≤ 0 ∧ (0 : Int) ≤ 0 ∧ (0 : Int) ≤ M5 o 0) ∧ ((0 : Int) + (M5 o 0) ≤ 9) ∧ ((0 : Int) + (M5 o 0) ≤ 9) ∧ ∀ M9 : Mem, M9 = cpy M5 (a0 + 2) 0 (o + 2) 0 (M5 o 0) → ((0 : Int) ≤ 0 ∧ (0 : Int) ≤ 0 ∧ (0 : Int) ≤ M9 o 0) ∧ ((0 : Int) + (M9 o 0) ≤ 9) ∧ ((0 : Int) + (M9 o 0) ≤ 9) ∧ ∀ M13 : Mem, M13 = cpy M9 (a0 + 3) 0 (o + 3) 0 (M9 o 0) → Q M13
def m_X6_copy (o : Int) (a0 : Int) (M : Mem) (Q : Mem → Prop) : Prop :=
  (kd o = 6) ∧
  (kd a0 = 6) ∧
  ∀ M1 : Mem, M1 = up M o 0 (M a0 0) → ((0 : Int) ≤ 0 ∧ (0 : Int) ≤ 0 ∧ (0 : Int) ≤ 6) ∧ ((0 : Int) + 6 ≤ 6) ∧ ((0 : Int) + 6 ≤ 6) ∧ ∀ M5 : Mem, M5 = cpy M1 (a0 + 1) 0 (o + 1) 0 6 → ∀ M6 : Mem, M6 = up M5 o 2 (M5 a0 2) → m_X5_copy (o + 2) (a0 + 2) M6 (fun M7 =>
    ∀ M8 : Mem, M8 = up M7 o 4 (M7 a0 4) → Q M8)
def m_X3_remember (a0 : Int) (M : Mem) (Q : Mem → Prop) : Prop :=
  (kd a0 = 6) ∧
  (inI ((M 62 1) + 1)) ∧ ∀ M2 : Mem, M2 = up M 62 1 (((M 62 1) + 1).tmod 20) → ((0 : Int) ≤ M2 62 1 ∧ M2 62 1 < 20) ∧ m_X6_copy (63 + 2 + 6 * (M2 62 1)) a0 M2 (fun M4 =>
    m_J9_min_7cf53 ((M4 62 2) + 1) 20 M4 (fun r6 M5 =>
      ∀ M7 : Mem, M7 = up M5 62 2 r6 → Q M7))
def m_X3_bringBack (a0 : Int) (M : Mem) (Q : Int → Mem → Prop) : Prop :=
  (kd a0 = 6) ∧
  (inI (M 62 2)) ∧ ((M 62 2 = 0 →
    Q 0 M) ∧ (¬ M 62 2 = 0 →
    ((0 : Int) ≤ M 62 1 ∧ M 62 1 < 20) ∧ m_X6_copy a0 (63 + 2 + 6 * (M 62 1)) M (fun M3 =>
      (inI (((M3 62 1) + 20) - 1)) ∧ ∀ M5 : Mem, M5 = up M3 62 1 ((((M3 62 1) + 20) - 1).tmod 20) → ∀ M6 : Mem, M6 = up M5 62 2 ((M5 62 2) - 1) → Q 1 M6)))
def m_X3_keep (a0 : Int) (a1 : Int) (M : Mem) (Q : Mem → Prop) : Prop :=
  (kd a0 = 6) ∧
  (inI (M a0 4)) ∧ ((M a0 4 < 999 →
    ((0 : Int) ≤ 3 * (M a0 4) ∧ 3 * (M a0 4) < 2997) ∧ ∀ M3 : Mem, M3 = up M 64 (3 * (M a0 4)) (M a0 0) → ((0 : Int) ≤ (3 * (M a0 4)) + 1 ∧ (3 * (M a0 4)) + 1 < 2997) ∧ ∀ M5 : Mem, M5 = up M3 64 ((3 * (M a0 4)) + 1) (M3 (a0 + 2) 0) → ((0 : Int) ≤ (3 * (M a0 4)) + 2 ∧ (3 * (M a0 4)) + 2 < 2997) ∧ ∀ M7 : Mem, M7 = up M5 64 ((3 * (M a0 4)) + 2) a1 → ∀ M8 : Mem, M8 = up M7 a0 4 ((M7 a0 4) + 1) → Q M8) ∧ (¬ M a0 4 < 999 →
    Q M))
def m_X3_keptOf (a0 : Int) (a1 : Int) (M : Mem) (Q : Int → Mem → Prop) : Prop :=
  ((0 : Int) ≤ (3 * a0) + a1 ∧ (3 * a0) + a1 < 2997) ∧ Q (M 64 ((3 * a0) + a1)) M
def m_X4_add_J29  (Q : Mem → Prop)   (M : Mem) : Prop :=
  Q M
def m_X4_add (a0 : Int) (M : Mem) (Q : Mem → Prop) : Prop :=
  (inI (M 185 1)) ∧ ((40 ≤ M 185 1 →
    m_X4_add_J29 Q  M) ∧ (¬ 40 ≤ M 185 1 →
    ((0 : Int) ≤ M 185 1 ∧ M 185 1 < 40) ∧ ∀ M3 : Mem, M3 = up M 186 (M 185 1) a0 → ∀ M4 : Mem, M4 = up M3 185 1 ((M3 185 1) + 1) → m_X4_add_J29 Q  M4))
def m_X6_watches_J17  (Q : Int → Mem → Prop)  (s0 : Int) (M : Mem) : Prop :=
  (s0 = 0 ∨ s0 = 1) ∧ Q s0 M
def m_X6_watches (o : Int) (a0 : Int) (M : Mem) (Q : Int → Mem → Prop) : Prop :=
  (kd o = 6) ∧
  (inI (zand (zshr (M o 2) a0) 1)) ∧ ((zand (zshr (M o 2) a0) 1 = 1 →
    m_X6_watches_J17 Q 1 M) ∧ (¬ zand (zshr (M o 2) a0) 1 = 1 →
    m_X6_watches_J17 Q 0 M))
def m_X4_proof_L6  (Q : Int → Mem → Prop) (v0 : Int) (v1 : Int) : Nat → Int → Int → Mem → Prop
  | 0, _, _, _ => False
  | f + 1, v2, v3, M =>
  (inI v3) ∧ (inI v1) ∧ ((v1 ≤ v3 →
    Q v2 M) ∧ (¬ v1 ≤ v3 →
    ((0 : Int) ≤ v3 ∧ v3 < (ln v0)) ∧ (inI ((5 * v2) + (M v0 v3))) ∧ ∀ x5 : Int, x5 = ((5 * v2) + (M v0 v3)).tmod 251 → m_X4_proof_L6 Q v0 v1 f x5 (v3 + 1) M))
def m_X4_proof (a0 : Int) (a1 : Int) (M : Mem) (Q : Int → Mem → Prop) : Prop :=
  (kd a0 = 20) ∧
  ∃ fu : Nat, m_X4_proof_L6 Q a0 a1 fu 193 0 M
def m_X4_write_L88  (Q : Mem → Prop) (v3 : Int) : Nat → Int → Mem → Prop
  | 0, _, _ => False
  | f + 1, v4, M =>
  (inI v4) ∧ (inI (M v3 0)) ∧ ((M v3 0 ≤ v4 →
    m_X4_proof 186 (M 185 1) M (fun r4 M3 =>
      m_X4_add r4 M3 (fun M5 =>
        Q M5))) ∧ (¬ M v3 0 ≤ v4 →
    ((0 : Int) ≤ v4 ∧ v4 < 9) ∧ m_X4_add (M (v3 + 1) v4) M (fun M7 =>
      ((0 : Int) ≤ v4 ∧ v4 < 9) ∧ m_X4_add (M7 (v3 + 2) v4) M7 (fun M9 =>
        ((0 : Int) ≤ v4 ∧ v4 < 9) ∧ m_X4_add (M9 (v3 + 3) v4) M9 (fun M11 =>
          m_X4_write_L88 Q v3 f (v4 + 1) M11)))))
def m_X4_write_J63 (k31 : Int → Mem → Prop) (Q : Mem → Prop)  (v1 : Int) (v2 : Int) (v3 : Int) (s1 : Int) (M : Mem) : Prop :=
  m_X4_add s1 M (fun M12 =>
    k31 (v3 + 1) M12)
def m_X4_write_L31  (Q : Mem → Prop) (v1 : Int) (v2 : Int) : Nat → Int → Mem → Prop
  | 0, _, _ => False
  | f + 1, v3, M =>
  (inI v3) ∧ (inI (M v1 5)) ∧ ((M v1 5 ≤ v3 →
    m_X4_add (M (v2 + 2) 0) M (fun M15 =>
      ∃ fu : Nat, m_X4_write_L88 Q (v2 + 2) fu 0 M15)) ∧ (¬ M v1 5 ≤ v3 →
    ((0 : Int) ≤ v3 ∧ v3 < 6) ∧ m_X4_add (M (v2 + 1) v3) M (fun M17 =>
      m_X6_watches v2 v3 M17 (fun r19 M18 =>
        (inI r19) ∧ ((r19 = 0 →
          m_X4_write_J63 (m_X4_write_L31 Q v1 v2 f) Q v1 v2 v3 0 M18) ∧ (¬ r19 = 0 →
          m_X4_write_J63 (m_X4_write_L31 Q v1 v2 f) Q v1 v2 v3 1 M18))))))
def m_X4_write (a0 : Int) (a1 : Int) (M : Mem) (Q : Mem → Prop) : Prop :=
  (kd a0 = 8) ∧
  (kd a1 = 6) ∧
  ∀ M21 : Mem, M21 = up M 185 1 0 → (inI (M21 a1 0)) ∧ m_X4_add ((M21 a1 0).tdiv 256) M21 (fun M23 =>
    (inI (M23 a1 0)) ∧ m_X4_add ((M23 a1 0).tmod 256) M23 (fun M25 =>
      ∃ fu : Nat, m_X4_write_L31 Q a0 a1 fu 0 M25))
def m_X4_readPeople_J48  (Q : Int → Mem → Prop)   (M : Mem) : Prop :=
  Q 0 M
def m_X4_readPeople_L7  (Q : Int → Mem → Prop) (v0 : Int) (v1 : Int) (v2 : Int) : Nat → Int → Mem → Prop
  | 0, _, _ => False
  | f + 1, v3, M =>
  (inI v3) ∧ (inI (M v1 5)) ∧ ((M v1 5 ≤ v3 →
    Q 1 M) ∧ (¬ M v1 5 ≤ v3 →
    ((0 : Int) ≤ 2 + (2 * v3) ∧ 2 + (2 * v3) < (ln v0)) ∧ ((0 : Int) ≤ 3 + (2 * v3) ∧ 3 + (2 * v3) < (ln v0)) ∧ (inI (M v0 (2 + (2 * v3)))) ∧ (inI (M v1 0)) ∧ ((M v1 0 ≤ M v0 (2 + (2 * v3)) →
      m_X4_readPeople_J48 Q  M) ∧ (¬ M v1 0 ≤ M v0 (2 + (2 * v3)) →
      (inI (M v0 (3 + (2 * v3)))) ∧ ((M v0 (3 + (2 * v3)) ≤ 1 →
        ((0 : Int) ≤ v3 ∧ v3 < 6) ∧ ∀ M9 : Mem, M9 = up M (v2 + 1) v3 (M v0 (2 + (2 * v3))) → ∀ M10 : Mem, M10 = up M9 v2 2 (zor (M9 v2 2) (zshl (M v0 (3 + (2 * v3))) v3)) → m_X4_readPeople_L7 Q v0 v1 v2 f (v3 + 1) M10) ∧ (¬ M v0 (3 + (2 * v3)) ≤ 1 →
        m_X4_readPeople_J48 Q  M))))))
def m_X4_readPeople (a0 : Int) (a1 : Int) (a2 : Int) (M : Mem) (Q : Int → Mem → Prop) : Prop :=
  (kd a0 = 20) ∧
  (kd a1 = 8) ∧
  (kd a2 = 6) ∧
  ∀ M11 : Mem, M11 = up M a2 2 0 → ∃ fu : Nat, m_X4_readPeople_L7 Q a0 a1 a2 fu 0 M11
def m_X5_indexOf_J32 (k2 : Int → Mem → Prop) (Q : Int → Mem → Prop)  (v0 : Int) (v1 : Int) (v2 : Int) (v3 : Int) (M : Mem) : Prop :=
  k2 (v3 + 1) M
def m_X5_indexOf_L2  (Q : Int → Mem → Prop) (v0 : Int) (v1 : Int) (v2 : Int) : Nat → Int → Mem → Prop
  | 0, _, _ => False
  | f + 1, v3, M =>
  (inI v3) ∧ (inI (M v0 0)) ∧ ((M v0 0 ≤ v3 →
    Q (-1) M) ∧ (¬ M v0 0 ≤ v3 →
    ((0 : Int) ≤ v3 ∧ v3 < 9) ∧ (inI (M (v0 + 1) v3)) ∧ (inI v1) ∧ ((M (v0 + 1) v3 = v1 →
      ((0 : Int) ≤ v3 ∧ v3 < 9) ∧ (inI (M (v0 + 2) v3)) ∧ (inI v2) ∧ ((M (v0 + 2) v3 = v2 →
        Q v3 M) ∧ (¬ M (v0 + 2) v3 = v2 →
        m_X5_indexOf_J32 (m_X5_indexOf_L2 Q v0 v1 v2 f) Q v0 v1 v2 v3 M))) ∧ (¬ M (v0 + 1) v3 = v1 →
      m_X5_indexOf_J32 (m_X5_indexOf_L2 Q v0 v1 v2 f) Q v0 v1 v2 v3 M))))
def m_X5_indexOf (o : Int) (a0 : Int) (a1 : Int) (M : Mem) (Q : Int → Mem → Prop) : Prop :=
  (kd o = 5) ∧
  ∃ fu : Nat, m_X5_indexOf_L2 Q o a0 a1 fu 0 M
def m_X5_put_J20  (Q : Mem → Prop)  (v0 : Int) (v1 : Int) (v2 : Int) (v3 : Int) (v4 : Int) (M : Mem) : Prop :=
  (inI v4) ∧ ((v4 ≤ 8 →
    ((0 : Int) ≤ v4 ∧ v4 < 9) ∧ ∀ M3 : Mem, M3 = up M (v0 + 1) v4 v1 → ((0 : Int) ≤ v4 ∧ v4 < 9) ∧ ∀ M5 : Mem, M5 = up M3 (v0 + 2) v4 v2 → ((0 : Int) ≤ v4 ∧ v4 < 9) ∧ ∀ M7 : Mem, M7 = up M5 (v0 + 3) v4 v3 → m_J9_max_7cf53 (M7 v0 0) (v4 + 1) M7 (fun r9 M8 =>
      ∀ M10 : Mem, M10 = up M8 v0 0 r9 → Q M10)) ∧ (¬ v4 ≤ 8 →
    Q M))
def m_X5_put (o : Int) (a0 : Int) (a1 : Int) (a2 : Int) (M : Mem) (Q : Mem → Prop) : Prop :=
  (kd o = 5) ∧
  m_X5_indexOf o a0 a1 M (fun r12 M11 =>
    (inI r12) ∧ ((r12 = (-1) →
      m_X5_put_J20 Q o a0 a1 a2 (M11 o 0) M11) ∧ (¬ r12 = (-1) →
      m_X5_put_J20 Q o a0 a1 a2 r12 M11)))
def m_X4_readReel_J98  (Q : Int → Mem → Prop)   (M : Mem) : Prop :=
  Q 0 M
def m_X4_readReel_L18  (Q : Int → Mem → Prop) (v0 : Int) (v1 : Int) (v2 : Int) (v3 : Int) : Nat → Int → Mem → Prop
  | 0, _, _ => False
  | f + 1, v4, M =>
  ((0 : Int) ≤ v1 ∧ v1 < (ln v0)) ∧ (inI v4) ∧ (inI (M v0 v1)) ∧ ((M v0 v1 ≤ v4 →
    Q 1 M) ∧ (¬ M v0 v1 ≤ v4 →
    ((0 : Int) ≤ (v1 + (3 * v4)) + 1 ∧ (v1 + (3 * v4)) + 1 < (ln v0)) ∧ ((0 : Int) ≤ (v1 + (3 * v4)) + 2 ∧ (v1 + (3 * v4)) + 2 < (ln v0)) ∧ ((0 : Int) ≤ (v1 + (3 * v4)) + 3 ∧ (v1 + (3 * v4)) + 3 < (ln v0)) ∧ m_X11_isStep (M v0 ((v1 + (3 * v4)) + 1)) M (fun r8 M7 =>
      (inI r8) ∧ ((r8 = 0 →
        m_X4_readReel_J98 Q  M7) ∧ (¬ r8 = 0 →
        (inI (M v0 ((v1 + (3 * v4)) + 2))) ∧ (inI (M7 v2 0)) ∧ ((M7 v2 0 ≤ M v0 ((v1 + (3 * v4)) + 2) →
          m_X4_readReel_J98 Q  M7) ∧ (¬ M7 v2 0 ≤ M v0 ((v1 + (3 * v4)) + 2) →
          (inI (M v0 ((v1 + (3 * v4)) + 3))) ∧ ((6 < M v0 ((v1 + (3 * v4)) + 3) →
            m_X4_readReel_J98 Q  M7) ∧ (¬ 6 < M v0 ((v1 + (3 * v4)) + 3) →
            m_X5_indexOf v3 (M v0 ((v1 + (3 * v4)) + 1)) (M v0 ((v1 + (3 * v4)) + 2)) M7 (fun r14 M13 =>
              (inI r14) ∧ ((r14 = (-1) →
                m_X5_put v3 (M v0 ((v1 + (3 * v4)) + 1)) (M v0 ((v1 + (3 * v4)) + 2)) (M v0 ((v1 + (3 * v4)) + 3)) M13 (fun M16 =>
                  m_X4_readReel_L18 Q v0 v1 v2 v3 f (v4 + 1) M16)) ∧ (¬ r14 = (-1) →
                m_X4_readReel_J98 Q  M13))))))))))))
def m_X4_readReel (a0 : Int) (a1 : Int) (a2 : Int) (a3 : Int) (M : Mem) (Q : Int → Mem → Prop) : Prop :=
  (kd a0 = 20) ∧
  (kd a2 = 8) ∧
  (kd a3 = 5) ∧
  ∀ M17 : Mem, M17 = up M a3 0 0 → ((0 : Int) ≤ a1 ∧ a1 < (ln a0)) ∧ (inI (M17 a0 a1)) ∧ ((M17 a0 a1 ≤ 8 →
    ∃ fu : Nat, m_X4_readReel_L18 Q a0 a1 a2 a3 fu 0 M17) ∧ (¬ M17 a0 a1 ≤ 8 →
    Q 0 M17))
def m_X4_read_J125  (Q : Int → Mem → Prop)  (s0 : Int) (M : Mem) : Prop :=
  (s0 = 0 ∨ s0 = 1) ∧ Q s0 M
def m_X4_read_J124  (Q : Int → Mem → Prop)   (M : Mem) : Prop :=
  m_X4_read_J125 Q 0 M
def m_X4_read_J65  (Q : Int → Mem → Prop)   (M : Mem) : Prop :=
  Q 0 M
def m_X4_read (a1 : Int) (a2 : Int) (M : Mem) (Q : Int → Mem → Prop) : Prop :=
  (kd a1 = 8) ∧
  (kd a2 = 6) ∧
  (inI (M 1 1)) ∧ (inI ((2 + (2 * (M a1 5))) + 2)) ∧ ((M 1 1 < (2 + (2 * (M a1 5))) + 2 →
    m_X4_read_J65 Q  M) ∧ (¬ M 1 1 < (2 + (2 * (M a1 5))) + 2 →
    ((0 : Int) ≤ 2 + (2 * (M a1 5)) ∧ 2 + (2 * (M a1 5)) < 1600) ∧ (inI (M 1 1)) ∧ (inI (((2 + (2 * (M a1 5))) + 2) + (3 * (M 2 (2 + (2 * (M a1 5))))))) ∧ ((M 1 1 = ((2 + (2 * (M a1 5))) + 2) + (3 * (M 2 (2 + (2 * (M a1 5))))) →
      ((0 : Int) ≤ (M 1 1) - 1 ∧ (M 1 1) - 1 < 1600) ∧ m_X4_proof 2 ((M 1 1) - 1) M (fun r9 M8 =>
        (inI (M 2 ((M 1 1) - 1))) ∧ (inI r9) ∧ ((M 2 ((M 1 1) - 1) = r9 →
          ∀ M12 : Mem, M12 = up M8 a2 0 ((256 * (M8 2 0)) + (M8 2 1)) → ∀ M13 : Mem, M13 = up M12 a2 4 0 → (inI (M13 a2 0)) ∧ ((999 < M13 a2 0 →
            m_X4_read_J124 Q  M13) ∧ (¬ 999 < M13 a2 0 →
            m_X4_readPeople 2 a1 a2 M13 (fun r16 M15 =>
              (inI r16) ∧ ((r16 = 0 →
                m_X4_read_J124 Q  M15) ∧ (¬ r16 = 0 →
                m_X4_readReel 2 (2 + (2 * (M a1 5))) a1 (a2 + 2) M15 (fun r19 M18 =>
                  (inI r19) ∧ ((r19 = 0 →
                    m_X4_read_J124 Q  M18) ∧ (¬ r19 = 0 →
                    m_X4_read_J125 Q 1 M18))))))))) ∧ (¬ M 2 ((M 1 1) - 1) = r9 →
          m_X4_read_J65 Q  M8)))) ∧ (¬ M 1 1 = ((2 + (2 * (M a1 5))) + 2) + (3 * (M 2 (2 + (2 * (M a1 5))))) →
      m_X4_read_J65 Q  M))))
def m_X5_remove_L25  (Q : Mem → Prop) (v0 : Int) : Nat → Int → Mem → Prop
  | 0, _, _ => False
  | f + 1, v2, M =>
  (inI v2) ∧ (inI (M v0 0)) ∧ ((M v0 0 ≤ v2 →
    Q M) ∧ (¬ M v0 0 ≤ v2 →
    ((0 : Int) ≤ v2 + 1 ∧ v2 + 1 < 9) ∧ ((0 : Int) ≤ v2 ∧ v2 < 9) ∧ ∀ M5 : Mem, M5 = up M (v0 + 1) v2 (M (v0 + 1) (v2 + 1)) → ((0 : Int) ≤ v2 + 1 ∧ v2 + 1 < 9) ∧ ((0 : Int) ≤ v2 ∧ v2 < 9) ∧ ∀ M8 : Mem, M8 = up M5 (v0 + 2) v2 (M5 (v0 + 2) (v2 + 1)) → ((0 : Int) ≤ v2 + 1 ∧ v2 + 1 < 9) ∧ ((0 : Int) ≤ v2 ∧ v2 < 9) ∧ ∀ M11 : Mem, M11 = up M8 (v0 + 3) v2 (M8 (v0 + 3) (v2 + 1)) → m_X5_remove_L25 Q v0 f (v2 + 1) M11))
def m_X5_remove_J12  (Q : Mem → Prop)   (M : Mem) : Prop :=
  Q M
def m_X5_remove (o : Int) (a0 : Int) (M : Mem) (Q : Mem → Prop) : Prop :=
  (kd o = 5) ∧
  (inI a0) ∧ ((a0 < 0 →
    m_X5_remove_J12 Q  M) ∧ (¬ a0 < 0 →
    (inI a0) ∧ (inI (M o 0)) ∧ ((a0 < M o 0 →
      ∀ M15 : Mem, M15 = up M o 0 ((M o 0) - 1) → ∃ fu : Nat, m_X5_remove_L25 Q o fu a0 M15) ∧ (¬ a0 < M o 0 →
      m_X5_remove_J12 Q  M))))
def m_X6_beginIn (o : Int) (a0 : Int) (M : Mem) (Q : Mem → Prop) : Prop :=
  (kd o = 6) ∧
  (kd a0 = 8) ∧
  ∀ M1 : Mem, M1 = up M o 0 0 → ((0 : Int) ≤ 0 ∧ (0 : Int) ≤ 0 ∧ (0 : Int) ≤ 6) ∧ ((0 : Int) + 6 ≤ 6) ∧ ((0 : Int) + 6 ≤ 6) ∧ ∀ M5 : Mem, M5 = cpy M1 (a0 + 5) 0 (o + 1) 0 6 → ∀ M6 : Mem, M6 = up M5 o 2 (M5 a0 9) → m_X5_copy (o + 2) (a0 + 7) M6 (fun M7 =>
    ∀ M8 : Mem, M8 = up M7 o 4 0 → Q M8)
def m_X6_hasSpotsOf_L2  (Q : Int → Mem → Prop) (v0 : Int) (v1 : Int) (v2 : Int) : Nat → Int → Mem → Prop
  | 0, _, _ => False
  | f + 1, v3, M =>
  (inI v3) ∧ (inI v2) ∧ ((v2 ≤ v3 →
    Q 1 M) ∧ (¬ v2 ≤ v3 →
    ((0 : Int) ≤ v3 ∧ v3 < 6) ∧ ((0 : Int) ≤ v3 ∧ v3 < 6) ∧ (inI (M (v0 + 1) v3)) ∧ (inI (M (v1 + 1) v3)) ∧ ((M (v0 + 1) v3 = M (v1 + 1) v3 →
      m_X6_hasSpotsOf_L2 Q v0 v1 v2 f (v3 + 1) M) ∧ (¬ M (v0 + 1) v3 = M (v1 + 1) v3 →
      Q 0 M))))
def m_X6_hasSpotsOf (o : Int) (a0 : Int) (a1 : Int) (M : Mem) (Q : Int → Mem → Prop) : Prop :=
  (kd o = 6) ∧
  (kd a0 = 6) ∧
  ∃ fu : Nat, m_X6_hasSpotsOf_L2 Q o a0 a1 fu 0 M
def m_X10_spotOf (o : Int) (a0 : Int) (a1 : Int) (M : Mem) (Q : Int → Mem → Prop) : Prop :=
  (kd o = 10) ∧
  ((0 : Int) ≤ (6 * a1) + a0 ∧ (6 * a1) + a0 < 54) ∧ Q (M (o + 1) ((6 * a1) + a0)) M
def m_X6_passInto_L2  (Q : Mem → Prop) (v0 : Int) (v1 : Int) : Nat → Int → Mem → Prop
  | 0, _, _ => False
  | f + 1, v2, M =>
  (inI v2) ∧ ((6 ≤ v2 →
    ∀ M2 : Mem, M2 = up M (v0 + 2) 0 0 → ∀ M3 : Mem, M3 = up M2 v0 0 ((M2 v0 0) + 1) → Q M3) ∧ (¬ 6 ≤ v2 →
    m_X10_spotOf v1 v2 8 M (fun r5 M4 =>
      ((0 : Int) ≤ v2 ∧ v2 < 6) ∧ ∀ M7 : Mem, M7 = up M4 (v0 + 1) v2 r5 → m_X6_passInto_L2 Q v0 v1 f (v2 + 1) M7)))
def m_X6_passInto (o : Int) (a0 : Int) (M : Mem) (Q : Mem → Prop) : Prop :=
  (kd o = 6) ∧
  (kd a0 = 10) ∧
  ∃ fu : Nat, m_X6_passInto_L2 Q o a0 fu 0 M
def m_X7_letterOf (a0 : Int) (a1 : Int) (M : Mem) (Q : Int → Mem → Prop) : Prop :=
  Q (zand (zshr a0 (5 * (5 - a1))) 31) M
def m_X7_add_J49  (Q : Mem → Prop)   (M : Mem) : Prop :=
  Q M
def m_X7_add_L3  (Q : Mem → Prop) (v1 : Int) : Nat → Int → Mem → Prop
  | 0, _, _ => False
  | f + 1, v2, M =>
  (inI v2) ∧ ((v2 < 0 →
    m_X7_add_J49 Q  M) ∧ (¬ v2 < 0 →
    (inI (M 1 1)) ∧ ((1600 ≤ M 1 1 →
      m_X7_add_J49 Q  M) ∧ (¬ 1600 ≤ M 1 1 →
      ((0 : Int) ≤ M 1 1 ∧ M 1 1 < 1600) ∧ ∀ M4 : Mem, M4 = up M 2 (M 1 1) (zand (zushr v1 v2) 255) → ∀ M5 : Mem, M5 = up M4 1 1 ((M4 1 1) + 1) → m_X7_add_L3 Q v1 f (v2 + (-8)) M5))))
def m_X7_add (a0 : Int) (M : Mem) (Q : Mem → Prop) : Prop :=
  ∃ fu : Nat, m_X7_add_L3 Q a0 fu 24 M
def m_X7_startReading (M : Mem) (Q : Mem → Prop) : Prop :=
  ∀ M1 : Mem, M1 = up M 1 6 0 → ∀ M2 : Mem, M2 = up M1 1 7 (-1) → ∀ M3 : Mem, M3 = up M2 1 9 0 → ∀ M4 : Mem, M4 = up M3 1 2 0 → m_X7_advance  M4 (fun M5 =>
    Q M5)
def m_X7_isName_J21  (Q : Int → Mem → Prop)  (s0 : Int) (M : Mem) : Prop :=
  (s0 = 0 ∨ s0 = 1) ∧ Q s0 M
def m_X7_isName_J20  (Q : Int → Mem → Prop)   (M : Mem) : Prop :=
  m_X7_isName_J21 Q 0 M
def m_X7_isName (M : Mem) (Q : Int → Mem → Prop) : Prop :=
  (inI (M 1 2)) ∧ ((M 1 2 = 1 →
    (inI (M 1 5)) ∧ ((M 1 5 = (-1) →
      m_X7_isName_J21 Q 1 M) ∧ (¬ M 1 5 = (-1) →
      m_X7_isName_J20 Q  M))) ∧ (¬ M 1 2 = 1 →
    m_X7_isName_J20 Q  M))
def m_X7_takeOwn (a0 : Int) (M : Mem) (Q : Int → Mem → Prop) : Prop :=
  m_X7_isOwn a0 M (fun r2 M1 =>
    (inI r2) ∧ ((r2 = 0 →
      m_X7_misplaced  M1 (fun r6 M5 =>
        (r6 = 0 ∨ r6 = 1) ∧ Q r6 M5)) ∧ (¬ r2 = 0 →
      m_X7_advance  M1 (fun M4 =>
        Q 1 M4))))
def m_X8_clear (o : Int) (M : Mem) (Q : Mem → Prop) : Prop :=
  (kd o = 8) ∧
  ∀ M1 : Mem, M1 = up M o 0 0 → ∀ M2 : Mem, M2 = up M1 o 2 0 → ∀ M3 : Mem, M3 = up M2 o 5 0 → ∀ M4 : Mem, M4 = up M3 o 9 0 → ∀ M5 : Mem, M5 = up M4 (o + 7) 0 0 → ∀ M6 : Mem, M6 = up M5 o 11 0 → ∀ M7 : Mem, M7 = up M6 (o + 11) 2 0 → ∀ M8 : Mem, M8 = up M7 (o + 14) 2 0 → Q M8
def m_X8_addPlace_J44  (Q : Mem → Prop)   (M : Mem) : Prop :=
  Q M
def m_X8_addPlace (o : Int) (a0 : Int) (M : Mem) (Q : Mem → Prop) : Prop :=
  (kd o = 8) ∧
  (inI (M o 0)) ∧ ((7 ≤ M o 0 →
    m_X8_addPlace_J44 Q  M) ∧ (¬ 7 ≤ M o 0 →
    ((0 : Int) ≤ M o 0 ∧ M o 0 < 7) ∧ ∀ M3 : Mem, M3 = up M (o + 1) (M o 0) a0 → ((0 : Int) ≤ M3 o 0 ∧ M3 o 0 < 7) ∧ ∀ M5 : Mem, M5 = up M3 (o + 2) (M3 o 0) (zshl 1 (M3 o 0)) → ∀ M6 : Mem, M6 = up M5 o 0 ((M5 o 0) + 1) → m_X8_addPlace_J44 Q  M6))
def m_X8_addRoad (o : Int) (a0 : Int) (a1 : Int) (M : Mem) (Q : Mem → Prop) : Prop :=
  (kd o = 8) ∧
  ((0 : Int) ≤ a0 ∧ a0 < 7) ∧ ((0 : Int) ≤ a0 ∧ a0 < 7) ∧ ∀ M3 : Mem, M3 = up M (o + 2) a0 (zor (M (o + 2) a0) (zshl 1 a1)) → ((0 : Int) ≤ a1 ∧ a1 < 7) ∧ ((0 : Int) ≤ a1 ∧ a1 < 7) ∧ ∀ M6 : Mem, M6 = up M3 (o + 2) a1 (zor (M3 (o + 2) a1) (zshl 1 a0)) → ∀ M7 : Mem, M7 = up M6 o 2 ((M6 o 2) + 1) → Q M7
def m_X8_addPerson_J49  (Q : Mem → Prop)   (M : Mem) : Prop :=
  Q M
def m_X8_addPerson (o : Int) (a0 : Int) (a1 : Int) (a2 : Int) (M : Mem) (Q : Mem → Prop) : Prop :=
  (kd o = 8) ∧
  (inI (M o 5)) ∧ ((6 ≤ M o 5 →
    m_X8_addPerson_J49 Q  M) ∧ (¬ 6 ≤ M o 5 →
    ((0 : Int) ≤ M o 5 ∧ M o 5 < 6) ∧ ∀ M3 : Mem, M3 = up M (o + 4) (M o 5) a0 → ((0 : Int) ≤ M3 o 5 ∧ M3 o 5 < 6) ∧ ∀ M5 : Mem, M5 = up M3 (o + 5) (M3 o 5) a1 → ((0 : Int) ≤ M5 o 5 ∧ M5 o 5 < 6) ∧ ∀ M7 : Mem, M7 = up M5 (o + 6) (M5 o 5) a2 → ∀ M8 : Mem, M8 = up M7 o 5 ((M7 o 5) + 1) → m_X8_addPerson_J49 Q  M8))
def m_X8_indexIn_L2  (Q : Int → Mem → Prop) (v0 : Int) (v1 : Int) (v2 : Int) : Nat → Int → Mem → Prop
  | 0, _, _ => False
  | f + 1, v3, M =>
  (inI v3) ∧ (inI v1) ∧ ((v1 ≤ v3 →
    Q (-1) M) ∧ (¬ v1 ≤ v3 →
    ((0 : Int) ≤ v3 ∧ v3 < (ln v0)) ∧ (inI (M v0 v3)) ∧ (inI v2) ∧ ((M v0 v3 = v2 →
      Q v3 M) ∧ (¬ M v0 v3 = v2 →
      m_X8_indexIn_L2 Q v0 v1 v2 f (v3 + 1) M))))
def m_X8_indexIn (a0 : Int) (a1 : Int) (a2 : Int) (M : Mem) (Q : Int → Mem → Prop) : Prop :=
  (kd a0 = 20) ∧
  ∃ fu : Nat, m_X8_indexIn_L2 Q a0 a1 a2 fu 0 M
def m_X8_placeOf (o : Int) (a0 : Int) (M : Mem) (Q : Int → Mem → Prop) : Prop :=
  (kd o = 8) ∧
  m_X8_indexIn (o + 1) (M o 0) a0 M (fun r2 M1 =>
    Q r2 M1)
def m_X8_personOf (o : Int) (a0 : Int) (M : Mem) (Q : Int → Mem → Prop) : Prop :=
  (kd o = 8) ∧
  m_X8_indexIn (o + 4) (M o 5) a0 M (fun r2 M1 =>
    Q r2 M1)
def m_X8_reaches_J19  (Q : Int → Mem → Prop)  (s0 : Int) (M : Mem) : Prop :=
  (s0 = 0 ∨ s0 = 1) ∧ Q s0 M
def m_X8_reaches (o : Int) (a0 : Int) (a1 : Int) (M : Mem) (Q : Int → Mem → Prop) : Prop :=
  (kd o = 8) ∧
  ((0 : Int) ≤ a0 ∧ a0 < 7) ∧ (inI (zand (zshr (M (o + 2) a0) a1) 1)) ∧ ((zand (zshr (M (o + 2) a0) a1) 1 = 1 →
    m_X8_reaches_J19 Q 1 M) ∧ (¬ zand (zshr (M (o + 2) a0) a1) 1 = 1 →
    m_X8_reaches_J19 Q 0 M))
def m_X8_roadsBetween (o : Int) (a0 : Int) (a1 : Int) (M : Mem) (Q : Int → Mem → Prop) : Prop :=
  (kd o = 8) ∧
  ((0 : Int) ≤ (7 * a0) + a1 ∧ (7 * a0) + a1 < 49) ∧ Q (M (o + 3) ((7 * a0) + a1)) M
def m_X8_measureFrom_J71 (k9 : Int → Int → Int → Mem → Prop) (k26 : Int → Int → Mem → Prop) (Q : Mem → Prop)  (v0 : Int) (v1 : Int) (v2 : Int) (v3 : Int) (v4 : Int) (v5 : Int) (v6 : Int) (M : Mem) : Prop :=
  k26 v5 (v6 + 1) M
def m_X8_measureFrom_L26 (k9 : Int → Int → Int → Mem → Prop) (Q : Mem → Prop) (v0 : Int) (v1 : Int) (v2 : Int) (v3 : Int) (v4 : Int) : Nat → Int → Int → Mem → Prop
  | 0, _, _, _ => False
  | f + 1, v5, v6, M =>
  (inI v6) ∧ (inI (M v0 0)) ∧ ((M v0 0 ≤ v6 →
    k9 v2 (zand v5 (zxor v2 (-1))) (v4 + 1) M) ∧ (¬ M v0 0 ≤ v6 →
    (inI (zand (zshr v3 v6) 1)) ∧ ((zand (zshr v3 v6) 1 = 1 →
      ((0 : Int) ≤ (7 * v1) + v6 ∧ (7 * v1) + v6 < 49) ∧ ∀ M5 : Mem, M5 = up M (v0 + 3) ((7 * v1) + v6) v4 → ((0 : Int) ≤ v6 ∧ v6 < 7) ∧ m_X8_measureFrom_J71 k9 (m_X8_measureFrom_L26 k9 Q v0 v1 v2 v3 v4 f) Q v0 v1 v2 v3 v4 (zor v5 (M5 (v0 + 2) v6)) v6 M5) ∧ (¬ zand (zshr v3 v6) 1 = 1 →
      m_X8_measureFrom_J71 k9 (m_X8_measureFrom_L26 k9 Q v0 v1 v2 v3 v4 f) Q v0 v1 v2 v3 v4 v5 v6 M))))
def m_X8_measureFrom_L9  (Q : Mem → Prop) (v0 : Int) (v1 : Int) : Nat → Int → Int → Int → Mem → Prop
  | 0, _, _, _, _ => False
  | f + 1, v2, v3, v4, M =>
  (inI v4) ∧ ((7 ≤ v4 →
    Q M) ∧ (¬ 7 ≤ v4 →
    ∃ fu : Nat, m_X8_measureFrom_L26 (m_X8_measureFrom_L9 Q v0 v1 f) Q v0 v1 (zor v2 v3) v3 v4 fu 0 0 M))
def m_X8_measureFrom (o : Int) (a0 : Int) (M : Mem) (Q : Mem → Prop) : Prop :=
  (kd o = 8) ∧
  ∃ fu : Nat, m_X8_measureFrom_L9 Q o a0 fu 0 (zshl 1 a0) 0 M
def m_X8_measure_L10  (Q : Mem → Prop) (v0 : Int) : Nat → Int → Mem → Prop
  | 0, _, _ => False
  | f + 1, v1, M =>
  (inI v1) ∧ (inI (M v0 0)) ∧ ((M v0 0 ≤ v1 →
    Q M) ∧ (¬ M v0 0 ≤ v1 →
    m_X8_measureFrom v0 v1 M (fun M3 =>
      m_X8_measure_L10 Q v0 f (v1 + 1) M3)))
def m_X8_measure (o : Int) (M : Mem) (Q : Mem → Prop) : Prop :=
  (kd o = 8) ∧
  m_J7_fill_53178 (o + 3) (-1) M (fun M4 =>
    ∃ fu : Nat, m_X8_measure_L10 Q o fu 0 M4)
def m_X9_begins (a0 : Int) (a1 : Int) (M : Mem) (Q : Int → Mem → Prop) : Prop :=
  (inI a0) ∧ (inI a1) ∧ ((a0 < a1 →
    m_X7_advance  M (fun M3 =>
      Q 1 M3)) ∧ (¬ a0 < a1 →
    m_X7_fail 6 M (fun r5 M4 =>
      (r5 = 0 ∨ r5 = 1) ∧ Q r5 M4)))
def m_X9_newName_J59  (Q : Int → Mem → Prop)   (M : Mem) : Prop :=
  m_X7_fail 2 M (fun r2 M1 =>
    (r2 = 0 ∨ r2 = 1) ∧ Q r2 M1)
def m_X9_newName (M : Mem) (Q : Int → Mem → Prop) : Prop :=
  m_X7_isName  M (fun r5 M4 =>
    (inI r5) ∧ ((r5 = 0 →
      m_X7_misplaced  M4 (fun r18 M17 =>
        (r18 = 0 ∨ r18 = 1) ∧ Q r18 M17)) ∧ (¬ r5 = 0 →
      ∀ M7 : Mem, M7 = up M4 4 3 (M4 1 4) → (kd (M7 4 2) = 8) ∧ m_X8_placeOf (M7 4 2) (M7 4 3) M7 (fun r10 M9 =>
        (inI r10) ∧ ((r10 = (-1) →
          (kd (M9 4 2) = 8) ∧ m_X8_personOf (M9 4 2) (M9 4 3) M9 (fun r14 M13 =>
            (inI r14) ∧ ((r14 = (-1) →
              m_X7_advance  M13 (fun M16 =>
                Q 1 M16)) ∧ (¬ r14 = (-1) →
              m_X9_newName_J59 Q  M13)))) ∧ (¬ r10 = (-1) →
          m_X9_newName_J59 Q  M9))))))
def m_X9_place_J23  (Q : Int → Mem → Prop)   (M : Mem) : Prop :=
  Q 0 M
def m_X9_place (M : Mem) (Q : Int → Mem → Prop) : Prop :=
  (kd (M 4 2) = 8) ∧ m_X9_begins (M (M 4 2) 0) 7 M (fun r3 M2 =>
    (inI r3) ∧ ((r3 = 0 →
      m_X9_place_J23 Q  M2) ∧ (¬ r3 = 0 →
      m_X9_newName  M2 (fun r6 M5 =>
        (inI r6) ∧ ((r6 = 0 →
          m_X9_place_J23 Q  M5) ∧ (¬ r6 = 0 →
          (kd (M5 4 2) = 8) ∧ m_X8_addPlace (M5 4 2) (M5 4 3) M5 (fun M9 =>
            Q 1 M9)))))))
def m_X9_placeName_J60  (Q : Int → Mem → Prop)  (s0 : Int) (M : Mem) : Prop :=
  (s0 = 0 ∨ s0 = 1) ∧ Q s0 M
def m_X9_placeName_J55  (Q : Int → Mem → Prop)   (M : Mem) : Prop :=
  m_X9_placeName_J60 Q 1 M
def m_X9_placeName (M : Mem) (Q : Int → Mem → Prop) : Prop :=
  m_X7_isName  M (fun r3 M2 =>
    (inI r3) ∧ ((r3 = 0 →
      m_X7_misplaced  M2 (fun r14 M13 =>
        (r14 = 0 ∨ r14 = 1) ∧ Q r14 M13)) ∧ (¬ r3 = 0 →
      (kd (M2 4 2) = 8) ∧ m_X8_placeOf (M2 4 2) (M2 1 4) M2 (fun r7 M6 =>
        ∀ M8 : Mem, M8 = up M6 4 3 r7 → (inI (M8 4 3)) ∧ ((M8 4 3 = (-1) →
          m_X7_fail 3 M8 (fun r11 M10 =>
            (inI r11) ∧ ((r11 = 0 →
              m_X9_placeName_J60 Q 0 M10) ∧ (¬ r11 = 0 →
              m_X9_placeName_J55 Q  M10)))) ∧ (¬ M8 4 3 = (-1) →
          m_X9_placeName_J55 Q  M8))))))
def m_X9_road_J55  (Q : Int → Mem → Prop)   (M : Mem) : Prop :=
  Q 0 M
def m_X9_road_J23  (Q : Int → Mem → Prop)   (M : Mem) : Prop :=
  Q 0 M
def m_X9_road (M : Mem) (Q : Int → Mem → Prop) : Prop :=
  (kd (M 4 2) = 8) ∧ m_X9_begins (M (M 4 2) 2) 12 M (fun r3 M2 =>
    (inI r3) ∧ ((r3 = 0 →
      m_X9_road_J23 Q  M2) ∧ (¬ r3 = 0 →
      m_X9_placeName  M2 (fun r6 M5 =>
        (inI r6) ∧ ((r6 = 0 →
          m_X9_road_J23 Q  M5) ∧ (¬ r6 = 0 →
          m_X7_advance  M5 (fun M8 =>
            m_X7_takeOwn 2 M8 (fun r10 M9 =>
              (inI r10) ∧ ((r10 = 0 →
                m_X9_road_J55 Q  M9) ∧ (¬ r10 = 0 →
                m_X9_placeName  M9 (fun r13 M12 =>
                  (inI r13) ∧ ((r13 = 0 →
                    m_X9_road_J55 Q  M12) ∧ (¬ r13 = 0 →
                    (kd (M12 4 2) = 8) ∧ m_X8_reaches (M12 4 2) (M5 4 3) (M12 4 3) M12 (fun r17 M16 =>
                      (inI r17) ∧ ((r17 = 0 →
                        (kd (M16 4 2) = 8) ∧ m_X8_addRoad (M16 4 2) (M5 4 3) (M16 4 3) M16 (fun M20 =>
                          m_X7_advance  M20 (fun M21 =>
                            Q 1 M21))) ∧ (¬ r17 = 0 →
                        m_X7_fail 3 M16 (fun r23 M22 =>
                          (r23 = 0 ∨ r23 = 1) ∧ Q r23 M22)))))))))))))))))
def m_X9_number_J46  (Q : Int → Mem → Prop)   (M : Mem) : Prop :=
  m_X7_fail 4 M (fun r2 M1 =>
    (r2 = 0 ∨ r2 = 1) ∧ Q r2 M1)
def m_X9_number (a0 : Int) (a1 : Int) (M : Mem) (Q : Int → Mem → Prop) : Prop :=
  (inI (M 1 2)) ∧ ((M 1 2 = 2 →
    ∀ M5 : Mem, M5 = up M 4 3 (M 1 4) → (inI (M5 4 3)) ∧ (inI a0) ∧ ((M5 4 3 < a0 →
      m_X9_number_J46 Q  M5) ∧ (¬ M5 4 3 < a0 →
      (inI (M5 4 3)) ∧ (inI a1) ∧ ((M5 4 3 ≤ a1 →
        m_X7_advance  M5 (fun M10 =>
          Q 1 M10)) ∧ (¬ M5 4 3 ≤ a1 →
        m_X9_number_J46 Q  M5))))) ∧ (¬ M 1 2 = 2 →
    m_X7_misplaced  M (fun r12 M11 =>
      (r12 = 0 ∨ r12 = 1) ∧ Q r12 M11)))
def m_X9_dweller_J83  (Q : Int → Mem → Prop)   (M : Mem) : Prop :=
  Q 0 M
def m_X9_dweller_J48  (Q : Int → Mem → Prop)   (M : Mem) : Prop :=
  Q 0 M
def m_X9_dweller_J23  (Q : Int → Mem → Prop)   (M : Mem) : Prop :=
  Q 0 M
def m_X9_dweller (M : Mem) (Q : Int → Mem → Prop) : Prop :=
  (kd (M 4 2) = 8) ∧ m_X9_begins (M (M 4 2) 5) 6 M (fun r3 M2 =>
    (inI r3) ∧ ((r3 = 0 →
      m_X9_dweller_J23 Q  M2) ∧ (¬ r3 = 0 →
      m_X9_newName  M2 (fun r6 M5 =>
        (inI r6) ∧ ((r6 = 0 →
          m_X9_dweller_J23 Q  M5) ∧ (¬ r6 = 0 →
          m_X7_takeOwn 4 M5 (fun r9 M8 =>
            (inI r9) ∧ ((r9 = 0 →
              m_X9_dweller_J48 Q  M8) ∧ (¬ r9 = 0 →
              m_X9_placeName  M8 (fun r12 M11 =>
                (inI r12) ∧ ((r12 = 0 →
                  m_X9_dweller_J48 Q  M11) ∧ (¬ r12 = 0 →
                  m_X7_advance  M11 (fun M14 =>
                    m_X7_takeOwn 5 M14 (fun r16 M15 =>
                      (inI r16) ∧ ((r16 = 0 →
                        m_X9_dweller_J83 Q  M15) ∧ (¬ r16 = 0 →
                        m_X9_number 0 9 M15 (fun r19 M18 =>
                          (inI r19) ∧ ((r19 = 0 →
                            m_X9_dweller_J83 Q  M18) ∧ (¬ r19 = 0 →
                            (kd (M18 4 2) = 8) ∧ m_X8_addPerson (M18 4 2) (M5 4 3) (M11 4 3) (M18 4 3) M18 (fun M22 =>
                              Q 1 M22))))))))))))))))))))
def m_X9_watcher_J60  (Q : Int → Mem → Prop)   (M : Mem) : Prop :=
  m_X7_fail 3 M (fun r2 M1 =>
    (r2 = 0 ∨ r2 = 1) ∧ Q r2 M1)
def m_X9_watcher (M : Mem) (Q : Int → Mem → Prop) : Prop :=
  m_X7_advance  M (fun M4 =>
    m_X7_isName  M4 (fun r6 M5 =>
      (inI r6) ∧ ((r6 = 0 →
        m_X7_misplaced  M5 (fun r18 M17 =>
          (r18 = 0 ∨ r18 = 1) ∧ Q r18 M17)) ∧ (¬ r6 = 0 →
        (kd (M5 4 2) = 8) ∧ m_X8_personOf (M5 4 2) (M5 1 4) M5 (fun r10 M9 =>
          (inI r10) ∧ ((r10 = (-1) →
            m_X9_watcher_J60 Q  M9) ∧ (¬ r10 = (-1) →
            (kd (M9 4 2) = 8) ∧ (inI (zand (zshr (M9 (M9 4 2) 9) r10) 1)) ∧ ((zand (zshr (M9 (M9 4 2) 9) r10) 1 = 1 →
              m_X9_watcher_J60 Q  M9) ∧ (¬ zand (zshr (M9 (M9 4 2) 9) r10) 1 = 1 →
              (kd (M9 4 2) = 8) ∧ ∀ M15 : Mem, M15 = up M9 (M9 4 2) 9 (zor (M9 (M9 4 2) 9) (zshl 1 r10)) → m_X7_advance  M15 (fun M16 =>
                Q 1 M16))))))))))
def m_X9_shownFrame_J29  (Q : Int → Mem → Prop)   (M : Mem) : Prop :=
  Q 0 M
def m_X9_shownFrame (M : Mem) (Q : Int → Mem → Prop) : Prop :=
  (kd (M 4 2) = 8) ∧ m_X9_begins (M ((M 4 2) + 7) 0) 8 M (fun r3 M2 =>
    (inI r3) ∧ ((r3 = 0 →
      m_X9_shownFrame_J29 Q  M2) ∧ (¬ r3 = 0 →
      m_X9_number 1 8 M2 (fun r6 M5 =>
        (inI r6) ∧ ((r6 = 0 →
          m_X9_shownFrame_J29 Q  M5) ∧ (¬ r6 = 0 →
          m_X9_placeName  M5 (fun r9 M8 =>
            (inI r9) ∧ ((r9 = 0 →
              Q 0 M8) ∧ (¬ r9 = 0 →
              (kd (M8 4 2) = 8) ∧ m_X5_indexOf ((M8 4 2) + 7) (M5 4 3) (M8 4 3) M8 (fun r13 M12 =>
                (inI r13) ∧ ((r13 = (-1) →
                  m_X7_advance  M12 (fun M15 =>
                    m_X9_number 0 6 M15 (fun r17 M16 =>
                      (inI r17) ∧ ((r17 = 0 →
                        Q 0 M16) ∧ (¬ r17 = 0 →
                        (kd (M16 4 2) = 8) ∧ m_X5_put ((M16 4 2) + 7) (M5 4 3) (M8 4 3) (M16 4 3) M16 (fun M20 =>
                          Q 1 M20)))))) ∧ (¬ r13 = (-1) →
                  m_X7_fail 3 M12 (fun r22 M21 =>
                    (r22 = 0 ∨ r22 = 1) ∧ Q r22 M21)))))))))))))
def m_X9_rain (M : Mem) (Q : Int → Mem → Prop) : Prop :=
  m_X7_advance  M (fun M1 =>
    m_X9_number 0 100 M1 (fun r3 M2 =>
      (inI r3) ∧ ((r3 = 0 →
        Q 0 M2) ∧ (¬ r3 = 0 →
        (kd (M2 4 2) = 8) ∧ ∀ M6 : Mem, M6 = up M2 (M2 4 2) 11 (M2 4 3) → Q 1 M6))))
def m_X9_statement_J214  (Q : Int → Mem → Prop)   (M : Mem) : Prop :=
  m_X7_misplaced  M (fun r2 M1 =>
    (r2 = 0 ∨ r2 = 1) ∧ Q r2 M1)
def m_X9_statement_J208  (Q : Int → Mem → Prop)  (s0 : Int) (M : Mem) : Prop :=
  (s0 = 0 ∨ s0 = 1) ∧ Q s0 M
def m_X9_statement_J207  (Q : Int → Mem → Prop)   (M : Mem) : Prop :=
  m_X9_statement_J208 Q 0 M
def m_X9_statement_J158  (Q : Int → Mem → Prop)  (s0 : Int) (M : Mem) : Prop :=
  (s0 = 0 ∨ s0 = 1) ∧ Q s0 M
def m_X9_statement_J157  (Q : Int → Mem → Prop)   (M : Mem) : Prop :=
  m_X9_statement_J158 Q 0 M
def m_X9_statement (M : Mem) (Q : Int → Mem → Prop) : Prop :=
  (inI (M 1 2)) ∧ ((M 1 2 = 1 →
    (inI (M 1 5)) ∧ ((M 1 5 = 0 →
      m_X9_place  M (fun r9 M8 =>
        (r9 = 0 ∨ r9 = 1) ∧ Q r9 M8)) ∧
(M 1 5 = 1 →
      m_X9_road  M (fun r12 M11 =>
        (r12 = 0 ∨ r12 = 1) ∧ Q r12 M11)) ∧
(M 1 5 = 2 →
      m_X9_statement_J214 Q  M) ∧
(M 1 5 = 3 →
      m_X9_dweller  M (fun r15 M14 =>
        (r15 = 0 ∨ r15 = 1) ∧ Q r15 M14)) ∧
(M 1 5 = 4 →
      m_X9_statement_J214 Q  M) ∧
(M 1 5 = 5 →
      m_X9_statement_J214 Q  M) ∧
(M 1 5 = 6 →
      m_X9_watcher  M (fun r18 M17 =>
        (r18 = 0 ∨ r18 = 1) ∧ Q r18 M17)) ∧
(M 1 5 = 7 →
      m_X9_shownFrame  M (fun r21 M20 =>
        (r21 = 0 ∨ r21 = 1) ∧ Q r21 M20)) ∧
(M 1 5 = 8 →
      (kd (M 4 2) = 8) ∧ m_X2_readInto ((M 4 2) + 11) 0 M (fun M24 =>
        (kd (M24 4 2) = 8) ∧ m_X9_begins (M24 ((M24 4 2) + 11) 2) 1 M24 (fun r27 M26 =>
          (inI r27) ∧ ((r27 = 0 →
            m_X9_statement_J157 Q  M26) ∧ (¬ r27 = 0 →
            m_X2_test 0 M26 (fun r30 M29 =>
              (inI r30) ∧ ((r30 = 0 →
                m_X9_statement_J157 Q  M29) ∧ (¬ r30 = 0 →
                m_X9_statement_J158 Q 1 M29)))))))) ∧
(M 1 5 = 9 →
      (kd (M 4 2) = 8) ∧ m_X2_readInto ((M 4 2) + 14) 1 M (fun M33 =>
        (kd (M33 4 2) = 8) ∧ m_X9_begins (M33 ((M33 4 2) + 14) 2) 1 M33 (fun r36 M35 =>
          (inI r36) ∧ ((r36 = 0 →
            m_X9_statement_J207 Q  M35) ∧ (¬ r36 = 0 →
            m_X2_sum 0 M35 (fun r39 M38 =>
              (inI r39) ∧ ((r39 = 0 →
                m_X9_statement_J207 Q  M38) ∧ (¬ r39 = 0 →
                m_X9_statement_J208 Q 1 M38)))))))) ∧
(M 1 5 = 10 →
      m_X9_rain  M (fun r42 M41 =>
        (r42 = 0 ∨ r42 = 1) ∧ Q r42 M41)) ∧
(M 1 5 < 0 ∨ 10 < M 1 5 →
      m_X9_statement_J214 Q  M))) ∧ (¬ M 1 2 = 1 →
    m_X7_misplaced  M (fun r45 M44 =>
      (r45 = 0 ∨ r45 = 1) ∧ Q r45 M44)))
def m_X9_read_J65  (Q : Int → Mem → Prop)   (M : Mem) : Prop :=
  Q (-1) M
def m_X9_read_L21  (Q : Int → Mem → Prop)  : Nat → Int → Mem → Prop
  | 0, _, _ => False
  | f + 1, v2, M =>
  (inI v2) ∧ ((80 ≤ v2 →
    (inI (M 1 2)) ∧ ((M 1 2 = 0 →
      (kd (M 4 2) = 8) ∧ m_X8_measure (M 4 2) M (fun M4 =>
        Q 80 M4)) ∧ (¬ M 1 2 = 0 →
      m_X7_fail 6 M (fun r6 M5 =>
        Q (-1) M5)))) ∧ (¬ 80 ≤ v2 →
    (inI (M 1 2)) ∧ ((M 1 2 = 0 →
      (kd (M 4 2) = 8) ∧ m_X8_measure (M 4 2) M (fun M15 =>
        Q v2 M15)) ∧ (¬ M 1 2 = 0 →
      m_X9_statement  M (fun r9 M8 =>
        (inI r9) ∧ ((r9 = 0 →
          m_X9_read_J65 Q  M8) ∧ (¬ r9 = 0 →
          m_X7_takeSign 59 M8 (fun r12 M11 =>
            (inI r12) ∧ ((r12 = 0 →
              m_X9_read_J65 Q  M11) ∧ (¬ r12 = 0 →
              m_X9_read_L21 Q f (v2 + 1) M11))))))))))
def m_X9_read (a0 : Int) (M : Mem) (Q : Int → Mem → Prop) : Prop :=
  (kd a0 = 8) ∧
  ∀ M16 : Mem, M16 = up M 4 2 a0 → (kd (M16 4 2) = 8) ∧ m_X8_clear (M16 4 2) M16 (fun M18 =>
    m_X7_startReading  M18 (fun M19 =>
      ∃ fu : Nat, m_X9_read_L21 Q fu 0 M19))
def m_X10_put (o : Int) (a0 : Int) (a1 : Int) (a2 : Int) (M : Mem) (Q : Mem → Prop) : Prop :=
  (kd o = 10) ∧
  ((0 : Int) ≤ (6 * a1) + a0 ∧ (6 * a1) + a0 < 54) ∧ ∀ M2 : Mem, M2 = up M (o + 1) ((6 * a1) + a0) a2 → ((0 : Int) ≤ (7 * a1) + a2 ∧ (7 * a1) + a2 < 63) ∧ ((0 : Int) ≤ (7 * a1) + a2 ∧ (7 * a1) + a2 < 63) ∧ ∀ M5 : Mem, M5 = up M2 (o + 2) ((7 * a1) + a2) (zor (M2 (o + 2) ((7 * a1) + a2)) (zshl 1 a0)) → Q M5
def m_X10_begin_L83  (Q : Mem → Prop) (v0 : Int) (v1 : Int) (v2 : Int) : Nat → Int → Mem → Prop
  | 0, _, _ => False
  | f + 1, v4, M =>
  (inI v4) ∧ (inI (M v1 5)) ∧ ((M v1 5 ≤ v4 →
    Q M) ∧ (¬ M v1 5 ≤ v4 →
    ((0 : Int) ≤ v4 ∧ v4 < 6) ∧ m_X10_put v0 v4 0 (M (v2 + 1) v4) M (fun M4 =>
      m_X10_begin_L83 Q v0 v1 v2 f (v4 + 1) M4)))
def m_X10_begin_L35  (Q : Mem → Prop) (v0 : Int) (v1 : Int) (v2 : Int) (v3 : Int) : Nat → Int → Mem → Prop
  | 0, _, _ => False
  | f + 1, v4, M =>
  (inI v4) ∧ (inI (M v3 0)) ∧ ((M v3 0 ≤ v4 →
    ∃ fu : Nat, m_X10_begin_L83 Q v0 v1 v2 fu 0 M) ∧ (¬ M v3 0 ≤ v4 →
    ((0 : Int) ≤ v4 ∧ v4 < 9) ∧ ((0 : Int) ≤ v4 ∧ v4 < 9) ∧ ((0 : Int) ≤ v4 ∧ v4 < 9) ∧ ((0 : Int) ≤ (7 * (M (v3 + 1) v4)) + (M (v3 + 2) v4) ∧ (7 * (M (v3 + 1) v4)) + (M (v3 + 2) v4) < 63) ∧ ∀ M11 : Mem, M11 = up M (v0 + 3) ((7 * (M (v3 + 1) v4)) + (M (v3 + 2) v4)) (M (v3 + 3) v4) → m_X10_begin_L35 Q v0 v1 v2 v3 f (v4 + 1) M11))
def m_X10_begin (o : Int) (a0 : Int) (a1 : Int) (M : Mem) (Q : Mem → Prop) : Prop :=
  (kd o = 10) ∧
  (kd a0 = 8) ∧
  (kd a1 = 6) ∧
  ∀ M12 : Mem, M12 = up M o 4 a0 → ∀ M13 : Mem, M13 = up M12 o 5 a1 → m_J7_fill_53178 (o + 3) 9 M13 (fun M14 =>
    m_J7_fill_53178 (o + 2) 0 M14 (fun M15 =>
      ∃ fu : Nat, m_X10_begin_L35 Q o a0 a1 (a1 + 2) fu 0 M15))
def m_X10_know (o : Int) (a0 : Int) (a1 : Int) (M : Mem) (Q : Mem → Prop) : Prop :=
  (kd o = 10) ∧
  ((0 : Int) ≤ (-1) - a0 ∧ (-1) - a0 < 7) ∧ ∀ M2 : Mem, M2 = up M (o + 4) ((-1) - a0) a1 → Q M2
def m_X10_shownTo_J27  (Q : Int → Mem → Prop)  (s0 : Int) (M : Mem) : Prop :=
  Q s0 M
def m_X10_shownTo (o : Int) (a0 : Int) (a1 : Int) (a2 : Int) (M : Mem) (Q : Int → Mem → Prop) : Prop :=
  (kd o = 10) ∧
  (kd (M o 5) = 6) ∧ m_X6_watches (M o 5) a0 M (fun r3 M2 =>
    (inI r3) ∧ ((r3 = 0 →
      m_X10_shownTo_J27 Q 9 M2) ∧ (¬ r3 = 0 →
      ((0 : Int) ≤ (7 * a2) + a1 ∧ (7 * a2) + a1 < 63) ∧ m_X10_shownTo_J27 Q (M2 (o + 3) ((7 * a2) + a1)) M2)))
def m_X10_bestPlace_J137 (k10 : Int → Int → Int → Mem → Prop) (Q : Int → Mem → Prop)  (v0 : Int) (v1 : Int) (v2 : Int) (v3 : Int) (v4 : Int) (v5 : Int) (v6 : Int) (M : Mem) : Prop :=
  k10 v4 v5 (v6 + 1) M
def m_X10_bestPlace_J103 (k10 : Int → Int → Int → Mem → Prop) (Q : Int → Mem → Prop)  (v0 : Int) (v1 : Int) (v2 : Int) (v3 : Int) (v4 : Int) (v5 : Int) (v6 : Int) (s0 : Int) (s1 : Int) (s2 : Int) (M : Mem) : Prop :=
  m_X10_know s0 s1 s2 M (fun M1 =>
    (kd (M1 v0 4) = 8) ∧ m_X1_value ((M1 v0 4) + 14) (v0 + 4) M1 (fun r4 M3 =>
      (inI r4) ∧ (inI v5) ∧ ((r4 ≤ v5 →
        m_X10_bestPlace_J137 k10 Q v0 v1 v2 v3 v4 v5 v6 M3) ∧ (¬ r4 ≤ v5 →
        m_X10_bestPlace_J137 k10 Q v0 v1 v2 v3 v6 r4 v6 M3))))
def m_X10_bestPlace_L10  (Q : Int → Mem → Prop) (v0 : Int) (v1 : Int) (v2 : Int) (v3 : Int) : Nat → Int → Int → Int → Mem → Prop
  | 0, _, _, _, _ => False
  | f + 1, v4, v5, v6, M =>
  (kd (M v0 4) = 8) ∧ (inI v6) ∧ (inI (M (M v0 4) 0)) ∧ ((M (M v0 4) 0 ≤ v6 →
    Q v4 M) ∧ (¬ M (M v0 4) 0 ≤ v6 →
    (kd (M v0 4) = 8) ∧ m_X8_reaches (M v0 4) v2 v6 M (fun r12 M11 =>
      (inI r12) ∧ ((r12 = 0 →
        m_X10_bestPlace_J137 (m_X10_bestPlace_L10 Q v0 v1 v2 v3 f) Q v0 v1 v2 v3 v4 v5 v6 M11) ∧ (¬ r12 = 0 →
        (kd (M11 v0 4) = 8) ∧ (kd (M11 v0 5) = 6) ∧ ((0 : Int) ≤ v1 ∧ v1 < 6) ∧ m_X8_roadsBetween (M11 v0 4) (M11 ((M11 v0 5) + 1) v1) v6 M11 (fun r18 M17 =>
          m_X10_shownTo v0 v1 v6 v3 M17 (fun r20 M19 =>
            m_X10_know v0 (-5) r20 M19 (fun M21 =>
              m_X10_countIn v0 v6 (v3 - 1) M21 (fun r23 M22 =>
                m_X10_know v0 (-6) r23 M22 (fun M24 =>
                  (inI r18) ∧ ((r18 = (-1) →
                    m_X10_bestPlace_J103 (m_X10_bestPlace_L10 Q v0 v1 v2 v3 f) Q v0 v1 v2 v3 v4 v5 v6 v0 (-7) 9 M24) ∧ (¬ r18 = (-1) →
                    m_X10_bestPlace_J103 (m_X10_bestPlace_L10 Q v0 v1 v2 v3 f) Q v0 v1 v2 v3 v4 v5 v6 v0 (-7) r18 M24))))))))))))
def m_X10_bestPlace (o : Int) (a0 : Int) (a1 : Int) (a2 : Int) (M : Mem) (Q : Int → Mem → Prop) : Prop :=
  (kd o = 10) ∧
  ∃ fu : Nat, m_X10_bestPlace_L10 Q o a0 a1 a2 fu a1 (-1000001) 0 M
def m_X10_goal_J99  (Q : Int → Mem → Prop)  (s0 : Int) (M : Mem) : Prop :=
  Q s0 M
def m_X10_goal (o : Int) (a0 : Int) (a1 : Int) (M : Mem) (Q : Int → Mem → Prop) : Prop :=
  (kd o = 10) ∧
  m_X10_spotOf o a0 (a1 - 1) M (fun r2 M1 =>
    (kd (M1 o 4) = 8) ∧ ((0 : Int) ≤ a0 ∧ a0 < 6) ∧ m_X10_know o (-1) (M1 ((M1 o 4) + 6) a0) M1 (fun M5 =>
      m_X10_know o (-2) a1 M5 (fun M6 =>
        (kd (M6 o 5) = 6) ∧ m_X10_know o (-3) (M6 (M6 o 5) 0) M6 (fun M8 =>
          m_X10_countIn o r2 (a1 - 1) M8 (fun r10 M9 =>
            m_X10_know o (-4) r10 M9 (fun M11 =>
              m_X10_shownTo o a0 r2 a1 M11 (fun r13 M12 =>
                m_X10_know o (-5) r13 M12 (fun M14 =>
                  (kd (M14 o 4) = 8) ∧ m_X1_value ((M14 o 4) + 11) (o + 4) M14 (fun r17 M16 =>
                    (inI r17) ∧ ((r17 = 1 →
                      m_X10_goal_J99 Q r2 M16) ∧ (¬ r17 = 1 →
                      m_X10_bestPlace o a0 r2 a1 M16 (fun r20 M19 =>
                        m_X10_goal_J99 Q r20 M19))))))))))))
def m_X10_goThrough_L17 (k8 : Int → Mem → Prop) (Q : Mem → Prop) (v0 : Int) (v1 : Int) (v3 : Int) : Nat → Int → Mem → Prop
  | 0, _, _ => False
  | f + 1, v4, M =>
  (inI v4) ∧ (inI (M v1 5)) ∧ ((M v1 5 ≤ v4 →
    k8 (v3 + 1) M) ∧ (¬ M v1 5 ≤ v4 →
    m_X10_goal v0 v4 v3 M (fun r4 M3 =>
      m_X10_put v0 v4 v3 r4 M3 (fun M5 =>
        m_X10_goThrough_L17 k8 Q v0 v1 v3 f (v4 + 1) M5))))
def m_X10_goThrough_L8  (Q : Mem → Prop) (v0 : Int) (v1 : Int) : Nat → Int → Mem → Prop
  | 0, _, _ => False
  | f + 1, v3, M =>
  (inI v3) ∧ ((8 < v3 →
    Q M) ∧ (¬ 8 < v3 →
    ∃ fu : Nat, m_X10_goThrough_L17 (m_X10_goThrough_L8 Q v0 v1 f) Q v0 v1 v3 fu 0 M))
def m_X10_goThrough (o : Int) (a0 : Int) (a1 : Int) (M : Mem) (Q : Mem → Prop) : Prop :=
  (kd o = 10) ∧
  (kd a0 = 8) ∧
  (kd a1 = 6) ∧
  m_X10_begin o a0 a1 M (fun M7 =>
    ∃ fu : Nat, m_X10_goThrough_L8 Q o a0 fu 1 M7)
def m_X10_isTrue_J30  (Q : Int → Mem → Prop)  (s0 : Int) (M : Mem) : Prop :=
  (s0 = 0 ∨ s0 = 1) ∧ Q s0 M
def m_X10_isTrue (o : Int) (a0 : Int) (a1 : Int) (M : Mem) (Q : Int → Mem → Prop) : Prop :=
  (kd o = 10) ∧
  (kd a0 = 5) ∧
  ((0 : Int) ≤ a1 ∧ a1 < 9) ∧ ((0 : Int) ≤ a1 ∧ a1 < 9) ∧ m_X10_countIn o (M (a0 + 2) a1) (M (a0 + 1) a1) M (fun r5 M4 =>
    ((0 : Int) ≤ a1 ∧ a1 < 9) ∧ (inI r5) ∧ (inI (M4 (a0 + 3) a1)) ∧ ((r5 = M4 (a0 + 3) a1 →
      m_X10_isTrue_J30 Q 1 M4) ∧ (¬ r5 = M4 (a0 + 3) a1 →
      m_X10_isTrue_J30 Q 0 M4)))
def m_X10_isTrueAt_J31 (k2 : Int → Mem → Prop) (Q : Int → Mem → Prop)  (v0 : Int) (v1 : Int) (v2 : Int) (v3 : Int) (M : Mem) : Prop :=
  k2 (v3 + 1) M
def m_X10_isTrueAt_L2  (Q : Int → Mem → Prop) (v0 : Int) (v1 : Int) (v2 : Int) : Nat → Int → Mem → Prop
  | 0, _, _ => False
  | f + 1, v3, M =>
  (inI v3) ∧ (inI (M v2 0)) ∧ ((M v2 0 ≤ v3 →
    Q 1 M) ∧ (¬ M v2 0 ≤ v3 →
    ((0 : Int) ≤ v3 ∧ v3 < 9) ∧ (inI (M (v2 + 1) v3)) ∧ (inI v1) ∧ ((M (v2 + 1) v3 = v1 →
      m_X10_isTrue v0 v2 v3 M (fun r7 M6 =>
        (inI r7) ∧ ((r7 = 0 →
          Q 0 M6) ∧ (¬ r7 = 0 →
          m_X10_isTrueAt_J31 (m_X10_isTrueAt_L2 Q v0 v1 v2 f) Q v0 v1 v2 v3 M6)))) ∧ (¬ M (v2 + 1) v3 = v1 →
      m_X10_isTrueAt_J31 (m_X10_isTrueAt_L2 Q v0 v1 v2 f) Q v0 v1 v2 v3 M))))
def m_X10_isTrueAt (o : Int) (a0 : Int) (a1 : Int) (M : Mem) (Q : Int → Mem → Prop) : Prop :=
  (kd o = 10) ∧
  (kd a1 = 5) ∧
  ∃ fu : Nat, m_X10_isTrueAt_L2 Q o a0 a1 fu 0 M
def m_X10_agreesIn_L17 (k8 : Int → Mem → Prop) (Q : Int → Mem → Prop) (v0 : Int) (v1 : Int) (v2 : Int) (v3 : Int) : Nat → Int → Mem → Prop
  | 0, _, _ => False
  | f + 1, v4, M =>
  (inI v4) ∧ (inI (M v1 5)) ∧ ((M v1 5 ≤ v4 →
    m_X10_isTrueAt v0 v3 (v2 + 2) M (fun r4 M3 =>
      (inI r4) ∧ ((r4 = 0 →
        Q 0 M3) ∧ (¬ r4 = 0 →
        k8 (v3 + 1) M3)))) ∧ (¬ M v1 5 ≤ v4 →
    m_X10_goal v0 v4 v3 M (fun r7 M6 =>
      m_X10_put v0 v4 v3 r7 M6 (fun M8 =>
        m_X10_agreesIn_L17 k8 Q v0 v1 v2 v3 f (v4 + 1) M8))))
def m_X10_agreesIn_L8  (Q : Int → Mem → Prop) (v0 : Int) (v1 : Int) (v2 : Int) : Nat → Int → Mem → Prop
  | 0, _, _ => False
  | f + 1, v3, M =>
  (inI v3) ∧ ((8 < v3 →
    Q 1 M) ∧ (¬ 8 < v3 →
    ∃ fu : Nat, m_X10_agreesIn_L17 (m_X10_agreesIn_L8 Q v0 v1 v2 f) Q v0 v1 v2 v3 fu 0 M))
def m_X10_agreesIn (o : Int) (a0 : Int) (a1 : Int) (M : Mem) (Q : Int → Mem → Prop) : Prop :=
  (kd o = 10) ∧
  (kd a0 = 8) ∧
  (kd a1 = 6) ∧
  m_X10_begin o a0 a1 M (fun M10 =>
    ∃ fu : Nat, m_X10_agreesIn_L8 Q o a0 a1 fu 1 M10)
def m_X10_trueOnes_J27 (k4 : Int → Int → Mem → Prop) (Q : Int → Mem → Prop)  (v0 : Int) (v1 : Int) (v3 : Int) (s0 : Int) (s1 : Int) (M : Mem) : Prop :=
  k4 (s0 + s1) (v3 + 1) M
def m_X10_trueOnes_L4  (Q : Int → Mem → Prop) (v0 : Int) (v1 : Int) : Nat → Int → Int → Mem → Prop
  | 0, _, _, _ => False
  | f + 1, v2, v3, M =>
  (inI v3) ∧ (inI (M v1 0)) ∧ ((M v1 0 ≤ v3 →
    Q v2 M) ∧ (¬ M v1 0 ≤ v3 →
    m_X10_isTrue v0 v1 v3 M (fun r4 M3 =>
      (inI r4) ∧ ((r4 = 0 →
        m_X10_trueOnes_J27 (m_X10_trueOnes_L4 Q v0 v1 f) Q v0 v1 v3 v2 0 M3) ∧ (¬ r4 = 0 →
        m_X10_trueOnes_J27 (m_X10_trueOnes_L4 Q v0 v1 f) Q v0 v1 v3 v2 1 M3)))))
def m_X10_trueOnes (o : Int) (a0 : Int) (M : Mem) (Q : Int → Mem → Prop) : Prop :=
  (kd o = 10) ∧
  (kd a0 = 5) ∧
  ∃ fu : Nat, m_X10_trueOnes_L4 Q o a0 fu 0 0 M
def m_X10_agreesWith_J17  (Q : Int → Mem → Prop)  (s0 : Int) (M : Mem) : Prop :=
  (s0 = 0 ∨ s0 = 1) ∧ Q s0 M
def m_X10_agreesWith (o : Int) (a0 : Int) (M : Mem) (Q : Int → Mem → Prop) : Prop :=
  (kd o = 10) ∧
  (kd a0 = 5) ∧
  m_X10_trueOnes o a0 M (fun r3 M2 =>
    (inI r3) ∧ (inI (M2 a0 0)) ∧ ((r3 = M2 a0 0 →
      m_X10_agreesWith_J17 Q 1 M2) ∧ (¬ r3 = M2 a0 0 →
      m_X10_agreesWith_J17 Q 0 M2)))
def m_X10_isNeverEntered_J34  (Q : Int → Mem → Prop)  (s0 : Int) (M : Mem) : Prop :=
  (s0 = 0 ∨ s0 = 1) ∧ Q s0 M
def m_X10_isNeverEntered_L4  (Q : Int → Mem → Prop) (v0 : Int) (v1 : Int) : Nat → Int → Int → Mem → Prop
  | 0, _, _, _ => False
  | f + 1, v2, v3, M =>
  (inI v3) ∧ ((8 < v3 →
    (inI v2) ∧ ((v2 = 0 →
      m_X10_isNeverEntered_J34 Q 1 M) ∧ (¬ v2 = 0 →
      m_X10_isNeverEntered_J34 Q 0 M))) ∧ (¬ 8 < v3 →
    m_X10_peopleIn v0 v1 v3 M (fun r5 M4 =>
      m_X10_isNeverEntered_L4 Q v0 v1 f (zor v2 r5) (v3 + 1) M4)))
def m_X10_isNeverEntered (o : Int) (a0 : Int) (M : Mem) (Q : Int → Mem → Prop) : Prop :=
  (kd o = 10) ∧
  ∃ fu : Nat, m_X10_isNeverEntered_L4 Q o a0 fu 0 1 M
def m_X10_bringsTogether_L2  (Q : Int → Mem → Prop) (v0 : Int) (v1 : Int) (v2 : Int) : Nat → Int → Mem → Prop
  | 0, _, _ => False
  | f + 1, v3, M =>
  (inI v3) ∧ ((8 < v3 →
    Q 0 M) ∧ (¬ 8 < v3 →
    m_X10_spotOf v0 v1 v3 M (fun r3 M2 =>
      m_X10_spotOf v0 v2 v3 M2 (fun r5 M4 =>
        (inI r3) ∧ (inI r5) ∧ ((r3 = r5 →
          Q 1 M4) ∧ (¬ r3 = r5 →
          m_X10_bringsTogether_L2 Q v0 v1 v2 f (v3 + 1) M4))))))
def m_X10_bringsTogether (o : Int) (a0 : Int) (a1 : Int) (M : Mem) (Q : Int → Mem → Prop) : Prop :=
  (kd o = 10) ∧
  ∃ fu : Nat, m_X10_bringsTogether_L2 Q o a0 a1 fu 1 M
def m_X11_refuse (a0 : Int) (M : Mem) (Q : Int → Mem → Prop) : Prop :=
  ((0 : Int) ≤ a0 ∧ a0 < 6) ∧ ((0 : Int) ≤ a0 ∧ a0 < 6) ∧ ∀ M3 : Mem, M3 = up M 198 a0 ((M 198 a0) + 1) → Q (-1) M3
def m_X11_feed (a0 : Int) (a1 : Int) (a2 : Int) (a3 : Int) (a4 : Int) (M : Mem) (Q : Int → Mem → Prop) : Prop :=
  (inI ((M 1 1) + 20)) ∧ (((M 1 1) + 20 ≤ 1600 →
    m_X7_add a0 M (fun M2 =>
      m_X7_add a1 M2 (fun M3 =>
        m_X7_add a2 M3 (fun M4 =>
          m_X7_add a3 M4 (fun M5 =>
            m_X7_add a4 M5 (fun M6 =>
              Q (M6 1 1) M6)))))) ∧ (¬ (M 1 1) + 20 ≤ 1600 →
    m_X11_refuse 0 M (fun r8 M7 =>
      Q r8 M7)))
def m_X11_deny (a0 : Int) (M : Mem) (Q : Int → Mem → Prop) : Prop :=
  ((0 : Int) ≤ a0 ∧ a0 < 6) ∧ ((0 : Int) ≤ a0 ∧ a0 < 6) ∧ ∀ M3 : Mem, M3 = up M 198 a0 ((M 198 a0) + 1) → Q 0 M3
def m_X11_end_J15  (Q : Int → Mem → Prop)   (M : Mem) : Prop :=
  m_X11_deny 0 M (fun r2 M1 =>
    (r2 = 0 ∨ r2 = 1) ∧ Q r2 M1)
def m_X11_end (a0 : Int) (M : Mem) (Q : Int → Mem → Prop) : Prop :=
  (inI a0) ∧ ((a0 < 0 →
    m_X11_end_J15 Q  M) ∧ (¬ a0 < 0 →
    (inI a0) ∧ (inI (M 1 1)) ∧ ((a0 ≤ M 1 1 →
      ∀ M7 : Mem, M7 = up M 1 1 a0 → Q 1 M7) ∧ (¬ a0 ≤ M 1 1 →
      m_X11_end_J15 Q  M))))
def m_X11_town (M : Mem) (Q : Int → Mem → Prop) : Prop :=
  (kd (M 0 3) = 8) ∧ m_X9_read (M 0 3) M (fun r3 M2 =>
    ∀ M4 : Mem, M4 = up M2 1 1 0 → (inI r3) ∧ ((r3 = (-1) →
      m_X11_refuse 1 M4 (fun r16 M15 =>
        Q r16 M15)) ∧ (¬ r3 = (-1) →
      (kd (M4 0 2) = 8) ∧ (kd (M4 0 3) = 8) ∧ ∀ M8 : Mem, M8 = up M4 0 2 (M4 0 3) → ∀ M9 : Mem, M9 = up M8 0 3 (M4 0 2) → (kd (M9 0 2) = 8) ∧ m_X6_beginIn 40 (M9 0 2) M9 (fun M11 =>
        m_X3_forget  M11 (fun M12 =>
          ∀ M13 : Mem, M13 = up M12 187 1 0 → ∀ M14 : Mem, M14 = up M13 0 8 0 → Q r3 M14)))))
def m_X11_fault (a0 : Int) (M : Mem) (Q : Int → Mem → Prop) : Prop :=
  (inI a0) ∧ ((a0 = 0 →
    Q (M 1 6) M) ∧
(a0 = 1 →
    Q (M 1 7) M) ∧
(¬ a0 = 0 ∧ ¬ a0 = 1 →
    Q (-1) M))
def m_X11_thisDay_J27  (Q : Int → Mem → Prop)   (M : Mem) : Prop :=
  Q 52 M
def m_X11_thisDay (M : Mem) (Q : Int → Mem → Prop) : Prop :=
  (inI (M 0 8)) ∧ ((M 0 8 = 0 →
    (kd (M 0 2) = 8) ∧ m_X10_goThrough 52 (M 0 2) 40 M (fun M3 =>
      ∀ M4 : Mem, M4 = up M3 0 8 1 → m_X11_thisDay_J27 Q  M4)) ∧ (¬ M 0 8 = 0 →
    m_X11_thisDay_J27 Q  M))
def m_X11_told (M : Mem) (Q : Int → Mem → Prop) : Prop :=
  m_J9_min_7cf53 (M 40 4) 40 M (fun r2 M1 =>
    Q r2 M1)
def m_X11_has (a0 : Int) (M : Mem) (Q : Int → Mem → Prop) : Prop :=
  (inI a0) ∧ ((a0 = 0 →
    (kd (M 0 2) = 8) ∧ Q (M (M 0 2) 0) M) ∧
(a0 = 1 →
    (kd (M 0 2) = 8) ∧ Q (M (M 0 2) 2) M) ∧
(a0 = 2 →
    (kd (M 0 2) = 8) ∧ Q (M (M 0 2) 5) M) ∧
(a0 = 3 →
    Q (M 40 0) M) ∧
(a0 = 4 →
    Q (M 42 0) M) ∧
(a0 = 5 →
    m_J6_bitCount_0f7a4 (M 40 2) M (fun r6 M5 =>
      Q r6 M5)) ∧
(a0 = 6 →
    m_X11_thisDay  M (fun r8 M7 =>
      (kd r8 = 10) ∧
      m_X10_trueOnes r8 42 M7 (fun r10 M9 =>
        Q r10 M9))) ∧
(a0 = 7 →
    m_X11_told  M (fun r12 M11 =>
      Q r12 M11)) ∧
(a0 = 8 →
    Q (M 187 1) M) ∧
(a0 = 9 →
    Q (M 62 2) M) ∧
(a0 = 10 →
    Q (M 0 13) M) ∧
(a0 < 0 ∨ 10 < a0 →
    Q (-1) M))
def m_X11_isPlace_J20  (Q : Int → Mem → Prop)  (s0 : Int) (M : Mem) : Prop :=
  (s0 = 0 ∨ s0 = 1) ∧ Q s0 M
def m_X11_isPlace_J19  (Q : Int → Mem → Prop)   (M : Mem) : Prop :=
  m_X11_isPlace_J20 Q 0 M
def m_X11_isPlace (a0 : Int) (M : Mem) (Q : Int → Mem → Prop) : Prop :=
  (inI a0) ∧ ((a0 < 0 →
    m_X11_isPlace_J19 Q  M) ∧ (¬ a0 < 0 →
    (kd (M 0 2) = 8) ∧ (inI a0) ∧ (inI (M (M 0 2) 0)) ∧ ((M (M 0 2) 0 ≤ a0 →
      m_X11_isPlace_J19 Q  M) ∧ (¬ M (M 0 2) 0 ≤ a0 →
      m_X11_isPlace_J20 Q 1 M))))
def m_X11_isPerson_J20  (Q : Int → Mem → Prop)  (s0 : Int) (M : Mem) : Prop :=
  (s0 = 0 ∨ s0 = 1) ∧ Q s0 M
def m_X11_isPerson_J19  (Q : Int → Mem → Prop)   (M : Mem) : Prop :=
  m_X11_isPerson_J20 Q 0 M
def m_X11_isPerson (a0 : Int) (M : Mem) (Q : Int → Mem → Prop) : Prop :=
  (inI a0) ∧ ((a0 < 0 →
    m_X11_isPerson_J19 Q  M) ∧ (¬ a0 < 0 →
    (kd (M 0 2) = 8) ∧ (inI a0) ∧ (inI (M (M 0 2) 5)) ∧ ((M (M 0 2) 5 ≤ a0 →
      m_X11_isPerson_J19 Q  M) ∧ (¬ M (M 0 2) 5 ≤ a0 →
      m_X11_isPerson_J20 Q 1 M))))
def m_X11_letter_J65  (Q : Int → Mem → Prop)   (M : Mem) : Prop :=
  Q (-1) M
def m_X11_letter_J38  (Q : Int → Mem → Prop)  (v1 : Int) (v2 : Int) (v3 : Int) (M : Mem) : Prop :=
  (inI v1) ∧ ((v1 = 1 →
    m_X11_isPerson v2 M (fun r3 M2 =>
      (inI r3) ∧ ((r3 = 0 →
        m_X11_letter_J65 Q  M2) ∧ (¬ r3 = 0 →
        (kd (M2 0 2) = 8) ∧ ((0 : Int) ≤ v2 ∧ v2 < 6) ∧ m_X7_letterOf (M2 ((M2 0 2) + 4) v2) v3 M2 (fun r8 M7 =>
          Q r8 M7))))) ∧ (¬ v1 = 1 →
    m_X11_letter_J65 Q  M))
def m_X11_letter_J10  (Q : Int → Mem → Prop)   (M : Mem) : Prop :=
  Q (-1) M
def m_X11_letter (a0 : Int) (a1 : Int) (a2 : Int) (M : Mem) (Q : Int → Mem → Prop) : Prop :=
  (inI a2) ∧ ((a2 < 0 →
    m_X11_letter_J10 Q  M) ∧ (¬ a2 < 0 →
    (inI a2) ∧ ((a2 < 6 →
      (inI a0) ∧ ((a0 = 0 →
        m_X11_isPlace a1 M (fun r13 M12 =>
          (inI r13) ∧ ((r13 = 0 →
            m_X11_letter_J38 Q a0 a1 a2 M12) ∧ (¬ r13 = 0 →
            (kd (M12 0 2) = 8) ∧ ((0 : Int) ≤ a1 ∧ a1 < 7) ∧ m_X7_letterOf (M12 ((M12 0 2) + 1) a1) a2 M12 (fun r18 M17 =>
              Q r18 M17))))) ∧ (¬ a0 = 0 →
        m_X11_letter_J38 Q a0 a1 a2 M))) ∧ (¬ a2 < 6 →
      m_X11_letter_J10 Q  M))))
def m_X11_far_J29  (Q : Int → Mem → Prop)  (s0 : Int) (M : Mem) : Prop :=
  Q s0 M
def m_X11_far_J28  (Q : Int → Mem → Prop)   (M : Mem) : Prop :=
  m_X11_far_J29 Q (-1) M
def m_X11_far (a0 : Int) (a1 : Int) (M : Mem) (Q : Int → Mem → Prop) : Prop :=
  m_X11_isPlace a0 M (fun r2 M1 =>
    (inI r2) ∧ ((r2 = 0 →
      m_X11_far_J28 Q  M1) ∧ (¬ r2 = 0 →
      m_X11_isPlace a1 M1 (fun r5 M4 =>
        (inI r5) ∧ ((r5 = 0 →
          m_X11_far_J28 Q  M4) ∧ (¬ r5 = 0 →
          (kd (M4 0 2) = 8) ∧ m_X8_roadsBetween (M4 0 2) a0 a1 M4 (fun r9 M8 =>
            m_X11_far_J29 Q r9 M8)))))))
def m_X11_person_J72  (Q : Int → Mem → Prop)  (s0 : Int) (M : Mem) : Prop :=
  Q s0 M
def m_X11_person (a0 : Int) (a1 : Int) (M : Mem) (Q : Int → Mem → Prop) : Prop :=
  m_X11_isPerson a0 M (fun r2 M1 =>
    (inI r2) ∧ ((r2 = 0 →
      Q (-1) M1) ∧ (¬ r2 = 0 →
      (inI a1) ∧ ((a1 = 0 →
        ((0 : Int) ≤ a0 ∧ a0 < 6) ∧ Q (M1 41 a0) M1) ∧
(a1 = 1 →
        (kd (M1 0 2) = 8) ∧ ((0 : Int) ≤ a0 ∧ a0 < 6) ∧ Q (M1 ((M1 0 2) + 6) a0) M1) ∧
(a1 = 2 →
        m_X6_watches 40 a0 M1 (fun r9 M8 =>
          (inI r9) ∧ ((r9 = 0 →
            m_X11_person_J72 Q 0 M8) ∧ (¬ r9 = 0 →
            m_X11_person_J72 Q 1 M8)))) ∧
(a1 < 0 ∨ 2 < a1 →
        Q (-1) M1)))))
def m_X11_isFrame_J23  (Q : Int → Mem → Prop)  (s0 : Int) (M : Mem) : Prop :=
  (s0 = 0 ∨ s0 = 1) ∧ Q s0 M
def m_X11_isFrame_J22  (Q : Int → Mem → Prop)   (M : Mem) : Prop :=
  m_X11_isFrame_J23 Q 0 M
def m_X11_isFrame (a0 : Int) (M : Mem) (Q : Int → Mem → Prop) : Prop :=
  (inI a0) ∧ ((a0 < 0 →
    m_X11_isFrame_J22 Q  M) ∧ (¬ a0 < 0 →
    (inI a0) ∧ (inI (M 42 0)) ∧ ((M 42 0 ≤ a0 →
      m_X11_isFrame_J22 Q  M) ∧ (¬ M 42 0 ≤ a0 →
      m_X11_isFrame_J23 Q 1 M))))
def m_X11_frame_J90  (Q : Int → Mem → Prop)  (s0 : Int) (M : Mem) : Prop :=
  Q s0 M
def m_X11_frame (a0 : Int) (a1 : Int) (M : Mem) (Q : Int → Mem → Prop) : Prop :=
  m_X11_isFrame a0 M (fun r2 M1 =>
    (inI r2) ∧ ((r2 = 0 →
      Q (-1) M1) ∧ (¬ r2 = 0 →
      (inI a1) ∧ ((a1 = 0 →
        ((0 : Int) ≤ a0 ∧ a0 < 9) ∧ Q (M1 43 a0) M1) ∧
(a1 = 1 →
        ((0 : Int) ≤ a0 ∧ a0 < 9) ∧ Q (M1 44 a0) M1) ∧
(a1 = 2 →
        ((0 : Int) ≤ a0 ∧ a0 < 9) ∧ Q (M1 45 a0) M1) ∧
(a1 = 3 →
        m_X11_thisDay  M1 (fun r9 M8 =>
          (kd r9 = 10) ∧
          m_X10_isTrue r9 42 a0 M8 (fun r11 M10 =>
            (inI r11) ∧ ((r11 = 0 →
              m_X11_frame_J90 Q 0 M10) ∧ (¬ r11 = 0 →
              m_X11_frame_J90 Q 1 M10))))) ∧
(a1 = 4 →
        m_X11_thisDay  M1 (fun r14 M13 =>
          (kd r14 = 10) ∧
          ((0 : Int) ≤ a0 ∧ a0 < 9) ∧ ((0 : Int) ≤ a0 ∧ a0 < 9) ∧ m_X10_peopleIn r14 (M13 44 a0) (M13 43 a0) M13 (fun r18 M17 =>
            Q r18 M17))) ∧
(a1 < 0 ∨ 4 < a1 →
        Q (-1) M1)))))
def m_X11_where_J18  (Q : Int → Mem → Prop)   (M : Mem) : Prop :=
  Q (-1) M
def m_X11_where (a0 : Int) (a1 : Int) (M : Mem) (Q : Int → Mem → Prop) : Prop :=
  m_X11_isPerson a0 M (fun r2 M1 =>
    (inI r2) ∧ ((r2 = 0 →
      m_X11_where_J18 Q  M1) ∧ (¬ r2 = 0 →
      (inI a1) ∧ ((a1 < 0 →
        m_X11_where_J18 Q  M1) ∧ (¬ a1 < 0 →
        (inI a1) ∧ ((a1 ≤ 8 →
          m_X11_thisDay  M1 (fun r7 M6 =>
            (kd r7 = 10) ∧
            m_X10_spotOf r7 a0 a1 M6 (fun r9 M8 =>
              Q r9 M8))) ∧ (¬ a1 ≤ 8 →
          m_X11_where_J18 Q  M1)))))))
def m_X11_who_J18  (Q : Int → Mem → Prop)   (M : Mem) : Prop :=
  Q (-1) M
def m_X11_who (a0 : Int) (a1 : Int) (M : Mem) (Q : Int → Mem → Prop) : Prop :=
  m_X11_isPlace a0 M (fun r2 M1 =>
    (inI r2) ∧ ((r2 = 0 →
      m_X11_who_J18 Q  M1) ∧ (¬ r2 = 0 →
      (inI a1) ∧ ((a1 < 0 →
        m_X11_who_J18 Q  M1) ∧ (¬ a1 < 0 →
        (inI a1) ∧ ((a1 ≤ 8 →
          m_X11_thisDay  M1 (fun r7 M6 =>
            (kd r7 = 10) ∧
            m_X10_peopleIn r7 a0 a1 M6 (fun r9 M8 =>
              Q r9 M8))) ∧ (¬ a1 ≤ 8 →
          m_X11_who_J18 Q  M1)))))))
def m_X11_agrees_J22  (Q : Int → Mem → Prop)  (s0 : Int) (M : Mem) : Prop :=
  Q s0 M
def m_X11_agrees (M : Mem) (Q : Int → Mem → Prop) : Prop :=
  m_X11_thisDay  M (fun r2 M1 =>
    (kd r2 = 10) ∧
    m_X10_agreesWith r2 42 M1 (fun r4 M3 =>
      (inI r4) ∧ ((r4 = 0 →
        m_X11_agrees_J22 Q 0 M3) ∧ (¬ r4 = 0 →
        m_X11_agrees_J22 Q 1 M3))))
def m_X11_self_J90 (k33 : Int → Int → Mem → Prop) (Q : Int → Mem → Prop)  (v1 : Int) (v2 : Int) (v3 : Int) (v4 : Int) (M : Mem) : Prop :=
  k33 v3 (v4 + 1) M
def m_X11_self_L33  (Q : Int → Mem → Prop) (v1 : Int) (v2 : Int) : Nat → Int → Int → Mem → Prop
  | 0, _, _, _ => False
  | f + 1, v3, v4, M =>
  (inI v4) ∧ ((6 < v4 →
    Q v3 M) ∧ (¬ 6 < v4 →
    m_X5_put 48 v1 v2 v4 M (fun M2 =>
      (kd (M2 0 2) = 8) ∧ m_X10_goThrough 57 (M2 0 2) 46 M2 (fun M4 =>
        m_X10_countIn 57 v2 v1 M4 (fun r6 M5 =>
          (inI r6) ∧ (inI v4) ∧ ((r6 = v4 →
            m_X11_self_J90 (m_X11_self_L33 Q v1 v2 f) Q v1 v2 (zor v3 (zshl 1 v4)) v4 M5) ∧ (¬ r6 = v4 →
            m_X11_self_J90 (m_X11_self_L33 Q v1 v2 f) Q v1 v2 v3 v4 M5)))))))
def m_X11_self_J15  (Q : Int → Mem → Prop)   (M : Mem) : Prop :=
  Q (-1) M
def m_X11_self (a0 : Int) (a1 : Int) (M : Mem) (Q : Int → Mem → Prop) : Prop :=
  m_X11_isStep a0 M (fun r10 M9 =>
    (inI r10) ∧ ((r10 = 0 →
      m_X11_self_J15 Q  M9) ∧ (¬ r10 = 0 →
      m_X11_isPlace a1 M9 (fun r13 M12 =>
        (inI r13) ∧ ((r13 = 0 →
          m_X11_self_J15 Q  M12) ∧ (¬ r13 = 0 →
          m_X6_copy 46 40 M12 (fun M15 =>
            ∃ fu : Nat, m_X11_self_L33 Q a0 a1 fu 0 0 M15)))))))
def m_X11_agreesWithout_J48 (k24 : Int → Mem → Prop) (Q : Int → Mem → Prop)  (v1 : Int) (v2 : Int) (M : Mem) : Prop :=
  k24 (v2 + (-1)) M
def m_X11_agreesWithout_L24  (Q : Int → Mem → Prop) (v1 : Int) : Nat → Int → Mem → Prop
  | 0, _, _ => False
  | f + 1, v2, M =>
  (inI v2) ∧ ((v2 < 0 →
    (kd (M 0 2) = 8) ∧ m_X10_agreesIn 57 (M 0 2) 46 M (fun r4 M3 =>
      (r4 = 0 ∨ r4 = 1) ∧ Q r4 M3)) ∧ (¬ v2 < 0 →
    (inI (zand (zshr v1 v2) 1)) ∧ ((zand (zshr v1 v2) 1 = 1 →
      m_X5_remove 48 v2 M (fun M7 =>
        m_X11_agreesWithout_J48 (m_X11_agreesWithout_L24 Q v1 f) Q v1 v2 M7)) ∧ (¬ zand (zshr v1 v2) 1 = 1 →
      m_X11_agreesWithout_J48 (m_X11_agreesWithout_L24 Q v1 f) Q v1 v2 M))))
def m_X11_agreesWithout (a0 : Int) (M : Mem) (Q : Int → Mem → Prop) : Prop :=
  m_X6_copy 46 40 M (fun M8 =>
    ∃ fu : Nat, m_X11_agreesWithout_L24 Q a0 fu ((M8 42 0) - 1) M8)
def m_X11_cuts_J52 (k17 : Int → Mem → Prop) (k25 : Int → Mem → Prop) (Q : Int → Mem → Prop)  (v1 : Int) (v2 : Int) (v3 : Int) (v4 : Int) (M : Mem) : Prop :=
  k25 (v4 + 1) M
def m_X11_cuts_L25 (k17 : Int → Mem → Prop) (Q : Int → Mem → Prop) (v1 : Int) (v2 : Int) (v3 : Int) : Nat → Int → Mem → Prop
  | 0, _, _ => False
  | f + 1, v4, M =>
  (inI v4) ∧ (inI v2) ∧ ((v2 ≤ v4 →
    k17 (v3 + 1) M) ∧ (¬ v2 ≤ v4 →
    m_J6_bitCount_0f7a4 v4 M (fun r4 M3 =>
      (inI r4) ∧ (inI v3) ∧ ((r4 = v3 →
        m_X11_agreesWithout v4 M3 (fun r8 M7 =>
          (inI r8) ∧ ((r8 = 0 →
            m_X11_cuts_J52 k17 (m_X11_cuts_L25 k17 Q v1 v2 v3 f) Q v1 v2 v3 v4 M7) ∧ (¬ r8 = 0 →
            Q v4 M7)))) ∧ (¬ r4 = v3 →
        m_X11_cuts_J52 k17 (m_X11_cuts_L25 k17 Q v1 v2 v3 f) Q v1 v2 v3 v4 M3)))))
def m_X11_cuts_L17  (Q : Int → Mem → Prop) (v1 : Int) (v2 : Int) : Nat → Int → Mem → Prop
  | 0, _, _ => False
  | f + 1, v3, M =>
  (inI v3) ∧ (inI v1) ∧ ((v1 < v3 →
    Q (v2 - 1) M) ∧ (¬ v1 < v3 →
    ∃ fu : Nat, m_X11_cuts_L25 (m_X11_cuts_L17 Q v1 v2 f) Q v1 v2 v3 fu 0 M))
def m_X11_cuts (M : Mem) (Q : Int → Mem → Prop) : Prop :=
  ∃ fu : Nat, m_X11_cuts_L17 Q (M 42 0) (zshl 1 (M 42 0)) fu 0 M
def m_X11_crowd_J81 (k25 : Int → Mem → Prop) (k33 : Int → Mem → Prop) (Q : Int → Mem → Prop)  (v1 : Int) (v2 : Int) (v3 : Int) (v4 : Int) (M : Mem) : Prop :=
  k33 (v4 + 1) M
def m_X11_crowd_L33 (k25 : Int → Mem → Prop) (Q : Int → Mem → Prop) (v1 : Int) (v2 : Int) (v3 : Int) : Nat → Int → Mem → Prop
  | 0, _, _ => False
  | f + 1, v4, M =>
  (inI v4) ∧ (inI v2) ∧ ((v2 ≤ v4 →
    k25 (v3 + 1) M) ∧ (¬ v2 ≤ v4 →
    m_J6_bitCount_0f7a4 v4 M (fun r4 M3 =>
      (inI r4) ∧ (inI v3) ∧ ((r4 = v3 →
        ∀ M7 : Mem, M7 = up M3 46 2 v4 → (kd (M7 0 2) = 8) ∧ m_X10_agreesIn 57 (M7 0 2) 46 M7 (fun r10 M9 =>
          (inI r10) ∧ ((r10 = 0 →
            m_X11_crowd_J81 k25 (m_X11_crowd_L33 k25 Q v1 v2 v3 f) Q v1 v2 v3 v4 M9) ∧ (¬ r10 = 0 →
            Q v4 M9)))) ∧ (¬ r4 = v3 →
        m_X11_crowd_J81 k25 (m_X11_crowd_L33 k25 Q v1 v2 v3 f) Q v1 v2 v3 v4 M3)))))
def m_X11_crowd_L25  (Q : Int → Mem → Prop) (v1 : Int) (v2 : Int) : Nat → Int → Mem → Prop
  | 0, _, _ => False
  | f + 1, v3, M =>
  (inI v3) ∧ (inI v1) ∧ ((v1 < v3 →
    Q (-1) M) ∧ (¬ v1 < v3 →
    ∃ fu : Nat, m_X11_crowd_L33 (m_X11_crowd_L25 Q v1 v2 f) Q v1 v2 v3 fu 0 M))
def m_X11_crowd (M : Mem) (Q : Int → Mem → Prop) : Prop :=
  (kd (M 0 2) = 8) ∧ m_X6_copy 46 40 M (fun M15 =>
    ∃ fu : Nat, m_X11_crowd_L25 Q (M (M 0 2) 5) (zshl 1 (M (M 0 2) 5)) fu 0 M15)
def m_X11_empty_J34 (k9 : Int → Int → Mem → Prop) (Q : Int → Mem → Prop)  (v1 : Int) (v2 : Int) (v3 : Int) (M : Mem) : Prop :=
  k9 v1 (v3 + 1) M
def m_X11_empty_L9  (Q : Int → Mem → Prop) (v2 : Int) : Nat → Int → Int → Mem → Prop
  | 0, _, _, _ => False
  | f + 1, v1, v3, M =>
  (kd (M 0 2) = 8) ∧ (inI v3) ∧ (inI (M (M 0 2) 0)) ∧ ((M (M 0 2) 0 ≤ v3 →
    Q v1 M) ∧ (¬ M (M 0 2) 0 ≤ v3 →
    m_X10_isNeverEntered v2 v3 M (fun r5 M4 =>
      (inI r5) ∧ ((r5 = 0 →
        m_X11_empty_J34 (m_X11_empty_L9 Q v2 f) Q v1 v2 v3 M4) ∧ (¬ r5 = 0 →
        m_X11_empty_J34 (m_X11_empty_L9 Q v2 f) Q (zor v1 (zshl 1 v3)) v2 v3 M4)))))
def m_X11_empty (M : Mem) (Q : Int → Mem → Prop) : Prop :=
  m_X11_thisDay  M (fun r8 M7 =>
    (kd r8 = 10) ∧
    ∃ fu : Nat, m_X11_empty_L9 Q r8 fu 0 0 M7)
def m_X11_daysAhead (M : Mem) (Q : Int → Mem → Prop) : Prop :=
  m_J9_min_7cf53 40 (999 - (M 40 0)) M (fun r2 M1 =>
    Q r2 M1)
def m_X11_later_L35  (Q : Int → Mem → Prop) (v1 : Int) (v2 : Int) : Nat → Int → Mem → Prop
  | 0, _, _ => False
  | f + 1, v3, M =>
  (inI v3) ∧ (inI v2) ∧ ((v2 ≤ v3 →
    ((0 : Int) ≤ v1 ∧ v1 < 6) ∧ Q (M 47 v1) M) ∧ (¬ v2 ≤ v3 →
    (kd (M 0 2) = 8) ∧ m_X10_goThrough 57 (M 0 2) 46 M (fun M5 =>
      m_X6_passInto 46 57 M5 (fun M6 =>
        m_X11_later_L35 Q v1 v2 f (v3 + 1) M6))))
def m_X11_later_J20  (Q : Int → Mem → Prop)   (M : Mem) : Prop :=
  Q (-1) M
def m_X11_later (a0 : Int) (a1 : Int) (M : Mem) (Q : Int → Mem → Prop) : Prop :=
  m_X11_isPerson a0 M (fun r8 M7 =>
    (inI r8) ∧ ((r8 = 0 →
      m_X11_later_J20 Q  M7) ∧ (¬ r8 = 0 →
      (inI a1) ∧ ((a1 < 0 →
        m_X11_later_J20 Q  M7) ∧ (¬ a1 < 0 →
        m_X11_daysAhead  M7 (fun r12 M11 =>
          (inI a1) ∧ (inI r12) ∧ ((a1 ≤ r12 →
            m_X6_copy 46 40 M11 (fun M15 =>
              ∃ fu : Nat, m_X11_later_L35 Q a0 a1 fu 0 M15)) ∧ (¬ a1 ≤ r12 →
            m_X11_later_J20 Q  M11))))))))
def m_X11_meet_L42  (Q : Int → Mem → Prop) (v1 : Int) (v2 : Int) (v3 : Int) : Nat → Int → Mem → Prop
  | 0, _, _ => False
  | f + 1, v4, M =>
  (inI v4) ∧ (inI v3) ∧ ((v3 < v4 →
    Q (-1) M) ∧ (¬ v3 < v4 →
    (kd (M 0 2) = 8) ∧ m_X10_goThrough 57 (M 0 2) 46 M (fun M4 =>
      m_X10_bringsTogether 57 v1 v2 M4 (fun r6 M5 =>
        (inI r6) ∧ ((r6 = 0 →
          m_X6_passInto 46 57 M5 (fun M8 =>
            m_X11_meet_L42 Q v1 v2 v3 f (v4 + 1) M8)) ∧ (¬ r6 = 0 →
          Q v4 M5))))))
def m_X11_meet_J21  (Q : Int → Mem → Prop)   (M : Mem) : Prop :=
  Q (-1) M
def m_X11_meet (a0 : Int) (a1 : Int) (M : Mem) (Q : Int → Mem → Prop) : Prop :=
  m_X11_isPerson a0 M (fun r10 M9 =>
    (inI r10) ∧ ((r10 = 0 →
      m_X11_meet_J21 Q  M9) ∧ (¬ r10 = 0 →
      m_X11_isPerson a1 M9 (fun r13 M12 =>
        (inI r13) ∧ ((r13 = 0 →
          m_X11_meet_J21 Q  M12) ∧ (¬ r13 = 0 →
          (inI a0) ∧ (inI a1) ∧ ((a0 = a1 →
            m_X11_meet_J21 Q  M12) ∧ (¬ a0 = a1 →
            m_X11_daysAhead  M12 (fun r18 M17 =>
              m_X6_copy 46 40 M17 (fun M19 =>
                ∃ fu : Nat, m_X11_meet_L42 Q a0 a1 r18 fu 1 M19))))))))))
def m_X11_round_L18  (Q : Int → Mem → Prop) (v1 : Int) : Nat → Int → Mem → Prop
  | 0, _, _ => False
  | f + 1, v2, M =>
  (inI v2) ∧ (inI v1) ∧ ((v1 < v2 →
    Q (-1) M) ∧ (¬ v1 < v2 →
    (kd (M 0 2) = 8) ∧ m_X10_goThrough 57 (M 0 2) 46 M (fun M4 =>
      m_X6_passInto 46 57 M4 (fun M5 =>
        (kd (M5 0 2) = 8) ∧ m_X6_hasSpotsOf 46 40 (M5 (M5 0 2) 5) M5 (fun r8 M7 =>
          (inI r8) ∧ ((r8 = 0 →
            m_X11_round_L18 Q v1 f (v2 + 1) M7) ∧ (¬ r8 = 0 →
            Q v2 M7)))))))
def m_X11_round (M : Mem) (Q : Int → Mem → Prop) : Prop :=
  m_X11_daysAhead  M (fun r11 M10 =>
    m_X6_copy 46 40 M10 (fun M12 =>
      ∃ fu : Nat, m_X11_round_L18 Q r11 fu 1 M12))
def m_X11_see_J43  (Q : Int → Mem → Prop)  (s0 : Int) (M : Mem) : Prop :=
  Q s0 M
def m_X11_see (M : Mem) (Q : Int → Mem → Prop) : Prop :=
  (kd (M 0 2) = 8) ∧ m_X0_takeRows (M 0 2) M (fun r3 M2 =>
    ∀ M4 : Mem, M4 = up M2 1 1 0 → (inI r3) ∧ ((r3 = 0 →
      m_X11_refuse 5 M4 (fun r7 M6 =>
        m_X11_see_J43 Q r7 M6)) ∧ (¬ r3 = 0 →
      m_X11_see_J43 Q (M4 187 1) M4)))
def m_X11_findBeginnings_L20  (Q : Mem → Prop) (v1 : Int) : Nat → Int → Mem → Prop
  | 0, _, _ => False
  | f + 1, v2, M =>
  (kd (M 0 2) = 8) ∧ (inI v2) ∧ (inI (M (M 0 2) 0)) ∧ ((M (M 0 2) 0 ≤ v2 →
    (kd (M 0 2) = 8) ∧ m_X0_findTelling (M (M 0 2) 0) M (fun M5 =>
      Q M5)) ∧ (¬ M (M 0 2) 0 ≤ v2 →
    ((0 : Int) ≤ v1 ∧ v1 < 6) ∧ ∀ M7 : Mem, M7 = up M 47 v1 v2 → (kd (M7 0 2) = 8) ∧ m_X10_goThrough 57 (M7 0 2) 46 M7 (fun M9 =>
      m_X0_weigh v2 57 M9 (fun M10 =>
        m_X11_findBeginnings_L20 Q v1 f (v2 + 1) M10))))
def m_X11_findBeginnings (a0 : Int) (M : Mem) (Q : Mem → Prop) : Prop :=
  m_X0_clear  M (fun M11 =>
    m_X6_copy 46 40 M11 (fun M12 =>
      ∃ fu : Nat, m_X11_findBeginnings_L20 Q a0 fu 0 M12))
def m_X11_began_J17  (Q : Int → Mem → Prop)   (M : Mem) : Prop :=
  Q (-1) M
def m_X11_began (a0 : Int) (a1 : Int) (M : Mem) (Q : Int → Mem → Prop) : Prop :=
  m_X11_isPerson a0 M (fun r2 M1 =>
    (inI r2) ∧ ((r2 = 0 →
      m_X11_began_J17 Q  M1) ∧ (¬ r2 = 0 →
      (inI a1) ∧ ((a1 < 0 →
        m_X11_began_J17 Q  M1) ∧ (¬ a1 < 0 →
        (inI a1) ∧ ((a1 ≤ 3 →
          m_X11_findBeginnings a0 M1 (fun M6 =>
            (inI a1) ∧ ((a1 = 0 →
              Q (M6 187 4) M6) ∧
(a1 = 1 →
              Q (M6 187 5) M6) ∧
(a1 = 2 →
              Q (M6 187 6) M6) ∧
(a1 < 0 ∨ 2 < a1 →
              Q (M6 187 7) M6)))) ∧ (¬ a1 ≤ 3 →
          m_X11_began_J17 Q  M1)))))))
def m_X11_pass (a0 : Int) (M : Mem) (Q : Mem → Prop) : Prop :=
  (kd a0 = 10) ∧
  m_X10_trueOnes a0 42 M (fun r2 M1 =>
    m_X3_keep 40 r2 M1 (fun M3 =>
      m_X6_passInto 40 a0 M3 (fun M4 =>
        ∀ M5 : Mem, M5 = up M4 0 8 0 → Q M5)))
def m_X11_days_J66 (k34 : Int → Int → Mem → Prop) (Q : Int → Mem → Prop)  (v1 : Int) (v3 : Int) (v4 : Int) (s0 : Int) (s1 : Int) (M : Mem) : Prop :=
  m_X11_pass v4 M (fun M1 =>
    k34 (s0 + s1) (v3 + 1) M1)
def m_X11_days_L34  (Q : Int → Mem → Prop) (v1 : Int) : Nat → Int → Int → Mem → Prop
  | 0, _, _, _ => False
  | f + 1, v2, v3, M =>
  (inI v3) ∧ (inI v1) ∧ ((v1 ≤ v3 →
    Q v2 M) ∧ (¬ v1 ≤ v3 →
    m_X11_thisDay  M (fun r5 M4 =>
      (kd r5 = 10) ∧
      m_X10_agreesWith r5 42 M4 (fun r7 M6 =>
        (inI r7) ∧ ((r7 = 0 →
          m_X11_days_J66 (m_X11_days_L34 Q v1 f) Q v1 v3 r5 v2 0 M6) ∧ (¬ r7 = 0 →
          m_X11_days_J66 (m_X11_days_L34 Q v1 f) Q v1 v3 r5 v2 1 M6))))))
def m_X11_days_J13  (Q : Int → Mem → Prop)   (M : Mem) : Prop :=
  m_X11_refuse 2 M (fun r10 M9 =>
    Q r10 M9)
def m_X11_days (a0 : Int) (M : Mem) (Q : Int → Mem → Prop) : Prop :=
  (inI a0) ∧ ((a0 < 1 →
    m_X11_days_J13 Q  M) ∧ (¬ a0 < 1 →
    m_X11_daysAhead  M (fun r13 M12 =>
      (inI a0) ∧ (inI r13) ∧ ((a0 ≤ r13 →
        m_X3_remember 40 M12 (fun M16 =>
          ∃ fu : Nat, m_X11_days_L34 Q a0 fu 0 0 M16)) ∧ (¬ a0 ≤ r13 →
        m_X11_days_J13 Q  M12)))))
def m_X11_draw_J39  (Q : Int → Mem → Prop)  (s0 : Int) (M : Mem) : Prop :=
  Q s0 M
def m_X11_draw (a0 : Int) (M : Mem) (Q : Int → Mem → Prop) : Prop :=
  (inI (M 0 13)) ∧ ∀ M2 : Mem, M2 = up M 0 13 (wand ((1103515245 * (M 0 13)) + 12345) 2147483647) → (inI a0) ∧ ((a0 ≤ 0 →
    m_X11_draw_J39 Q 0 M2) ∧ (¬ a0 ≤ 0 →
    (inI (M2 0 13)) ∧ (inI ((M2 0 13).tdiv 64)) ∧ (inI a0) ∧ (¬ a0 = 0) ∧ m_X11_draw_J39 Q (((M2 0 13).tdiv 64).tmod a0) M2))
def m_X11_rainCuts_J41  (Q : Int → Mem → Prop)   (M : Mem) : Prop :=
  Q 0 M
def m_X11_rainCuts_J21  (Q : Int → Mem → Prop)  (s0 : Int) (M : Mem) : Prop :=
  (inI s0) ∧ ((s0 = 0 →
    m_X11_rainCuts_J41 Q  M) ∧ (¬ s0 = 0 →
    (inI (M 42 0)) ∧ ((M 42 0 = 0 →
      m_X11_rainCuts_J41 Q  M) ∧ (¬ M 42 0 = 0 →
      m_X11_draw (M 42 0) M (fun r4 M3 =>
        m_X5_remove 42 r4 M3 (fun M5 =>
          ∀ M6 : Mem, M6 = up M5 0 8 0 → Q 1 M6))))))
def m_X11_rainCuts (M : Mem) (Q : Int → Mem → Prop) : Prop :=
  m_X11_draw 100 M (fun r8 M7 =>
    (kd (M7 0 2) = 8) ∧ (inI r8) ∧ (inI (M7 (M7 0 2) 11)) ∧ ((M7 (M7 0 2) 11 ≤ r8 →
      m_X11_rainCuts_J21 Q 0 M7) ∧ (¬ M7 (M7 0 2) 11 ≤ r8 →
      m_X11_rainCuts_J21 Q 1 M7)))
def m_X11_chance_J52 (k34 : Int → Int → Mem → Prop) (Q : Int → Mem → Prop)  (v1 : Int) (v3 : Int) (s0 : Int) (s1 : Int) (M : Mem) : Prop :=
  m_X11_thisDay  M (fun r2 M1 =>
    (kd r2 = 10) ∧
    m_X11_pass r2 M1 (fun M3 =>
      k34 (s0 + s1) (v3 + 1) M3))
def m_X11_chance_L34  (Q : Int → Mem → Prop) (v1 : Int) : Nat → Int → Int → Mem → Prop
  | 0, _, _, _ => False
  | f + 1, v2, v3, M =>
  (inI v3) ∧ (inI v1) ∧ ((v1 ≤ v3 →
    Q v2 M) ∧ (¬ v1 ≤ v3 →
    m_X11_rainCuts  M (fun r7 M6 =>
      (inI r7) ∧ ((r7 = 0 →
        m_X11_chance_J52 (m_X11_chance_L34 Q v1 f) Q v1 v3 v2 0 M6) ∧ (¬ r7 = 0 →
        m_X11_chance_J52 (m_X11_chance_L34 Q v1 f) Q v1 v3 v2 1 M6)))))
def m_X11_chance_J13  (Q : Int → Mem → Prop)   (M : Mem) : Prop :=
  m_X11_refuse 2 M (fun r10 M9 =>
    Q r10 M9)
def m_X11_chance (a0 : Int) (M : Mem) (Q : Int → Mem → Prop) : Prop :=
  (inI a0) ∧ ((a0 < 1 →
    m_X11_chance_J13 Q  M) ∧ (¬ a0 < 1 →
    m_X11_daysAhead  M (fun r13 M12 =>
      (inI a0) ∧ (inI r13) ∧ ((a0 ≤ r13 →
        m_X3_remember 40 M12 (fun M16 =>
          ∃ fu : Nat, m_X11_chance_L34 Q a0 fu 0 0 M16)) ∧ (¬ a0 ≤ r13 →
        m_X11_chance_J13 Q  M12)))))
def m_X11_act (M : Mem) (Q : Mem → Prop) : Prop :=
  m_X3_remember 40 M (fun M1 =>
    ∀ M2 : Mem, M2 = up M1 0 8 0 → Q M2)
def m_X11_show_J55  (Q : Int → Mem → Prop)   (M : Mem) : Prop :=
  m_X11_deny 3 M (fun r2 M1 =>
    (r2 = 0 ∨ r2 = 1) ∧ Q r2 M1)
def m_X11_show (a0 : Int) (a1 : Int) (a2 : Int) (M : Mem) (Q : Int → Mem → Prop) : Prop :=
  m_X11_isStep a0 M (fun r5 M4 =>
    (inI r5) ∧ ((r5 = 0 →
      m_X11_show_J55 Q  M4) ∧ (¬ r5 = 0 →
      m_X11_isPlace a1 M4 (fun r8 M7 =>
        (inI r8) ∧ ((r8 = 0 →
          m_X11_show_J55 Q  M7) ∧ (¬ r8 = 0 →
          (inI a2) ∧ ((a2 < 0 →
            m_X11_show_J55 Q  M7) ∧ (¬ a2 < 0 →
            (inI a2) ∧ ((6 < a2 →
              m_X11_show_J55 Q  M7) ∧ (¬ 6 < a2 →
              (inI (M7 42 0)) ∧ ((8 ≤ M7 42 0 →
                m_X11_show_J55 Q  M7) ∧ (¬ 8 ≤ M7 42 0 →
                m_X5_indexOf 42 a0 a1 M7 (fun r14 M13 =>
                  (inI r14) ∧ ((r14 = (-1) →
                    m_X11_act  M13 (fun M16 =>
                      m_X5_put 42 a0 a1 a2 M16 (fun M17 =>
                        Q 1 M17))) ∧ (¬ r14 = (-1) →
                    m_X11_show_J55 Q  M13)))))))))))))))
def m_X11_cut (a0 : Int) (M : Mem) (Q : Int → Mem → Prop) : Prop :=
  m_X11_isFrame a0 M (fun r2 M1 =>
    (inI r2) ∧ ((r2 = 0 →
      m_X11_deny 3 M1 (fun r7 M6 =>
        (r7 = 0 ∨ r7 = 1) ∧ Q r7 M6)) ∧ (¬ r2 = 0 →
      m_X11_act  M1 (fun M4 =>
        m_X5_remove 42 a0 M4 (fun M5 =>
          Q 1 M5)))))
def m_X11_watch_J38  (Q : Int → Mem → Prop)   (M : Mem) : Prop :=
  m_X11_deny 3 M (fun r2 M1 =>
    (r2 = 0 ∨ r2 = 1) ∧ Q r2 M1)
def m_X11_watch_J35  (Q : Int → Mem → Prop)  (v1 : Int) (s0 : Int) (s1 : Int) (M : Mem) : Prop :=
  (inI s0) ∧ (inI s1) ∧ ((s0 = s1 →
    m_X11_watch_J38 Q  M) ∧ (¬ s0 = s1 →
    m_X11_act  M (fun M6 =>
      ∀ M7 : Mem, M7 = up M6 40 2 (zxor (M6 40 2) (zshl 1 v1)) → Q 1 M7)))
def m_X11_watch (a0 : Int) (a1 : Int) (M : Mem) (Q : Int → Mem → Prop) : Prop :=
  m_X11_isPerson a0 M (fun r9 M8 =>
    (inI r9) ∧ ((r9 = 0 →
      m_X11_watch_J38 Q  M8) ∧ (¬ r9 = 0 →
      (inI a1) ∧ ((a1 < 0 →
        m_X11_watch_J38 Q  M8) ∧ (¬ a1 < 0 →
        (inI a1) ∧ ((1 < a1 →
          m_X11_watch_J38 Q  M8) ∧ (¬ 1 < a1 →
          m_X6_watches 40 a0 M8 (fun r14 M13 =>
            (inI a1) ∧ ((a1 = 1 →
              m_X11_watch_J35 Q a0 r14 1 M13) ∧ (¬ a1 = 1 →
              m_X11_watch_J35 Q a0 r14 0 M13))))))))))
def m_X11_send_J29  (Q : Int → Mem → Prop)   (M : Mem) : Prop :=
  m_X11_deny 3 M (fun r2 M1 =>
    (r2 = 0 ∨ r2 = 1) ∧ Q r2 M1)
def m_X11_send (a0 : Int) (a1 : Int) (M : Mem) (Q : Int → Mem → Prop) : Prop :=
  m_X11_isPerson a0 M (fun r5 M4 =>
    (inI r5) ∧ ((r5 = 0 →
      m_X11_send_J29 Q  M4) ∧ (¬ r5 = 0 →
      m_X11_isPlace a1 M4 (fun r8 M7 =>
        (inI r8) ∧ ((r8 = 0 →
          m_X11_send_J29 Q  M7) ∧ (¬ r8 = 0 →
          ((0 : Int) ≤ a0 ∧ a0 < 6) ∧ (inI (M7 41 a0)) ∧ (inI a1) ∧ ((M7 41 a0 = a1 →
            m_X11_send_J29 Q  M7) ∧ (¬ M7 41 a0 = a1 →
            m_X11_act  M7 (fun M13 =>
              ((0 : Int) ≤ a0 ∧ a0 < 6) ∧ ∀ M15 : Mem, M15 = up M13 41 a0 a1 → Q 1 M15)))))))))
def m_X11_undo (M : Mem) (Q : Int → Mem → Prop) : Prop :=
  m_X3_bringBack 40 M (fun r2 M1 =>
    (inI r2) ∧ ((r2 = 0 →
      m_X11_deny 4 M1 (fun r6 M5 =>
        (r6 = 0 ∨ r6 = 1) ∧ Q r6 M5)) ∧ (¬ r2 = 0 →
      ∀ M4 : Mem, M4 = up M1 0 8 0 → Q 1 M4)))
def m_X11_seed (a0 : Int) (M : Mem) (Q : Int → Mem → Prop) : Prop :=
  (inI a0) ∧ ((0 ≤ a0 →
    ∀ M2 : Mem, M2 = up M 0 13 a0 → Q 1 M2) ∧ (¬ 0 ≤ a0 →
    m_X11_deny 5 M (fun r4 M3 =>
      (r4 = 0 ∨ r4 = 1) ∧ Q r4 M3)))
def m_X11_kept_J23  (Q : Int → Mem → Prop)   (M : Mem) : Prop :=
  Q (-1) M
def m_X11_kept (a0 : Int) (a1 : Int) (M : Mem) (Q : Int → Mem → Prop) : Prop :=
  m_X11_told  M (fun r2 M1 =>
    (inI a0) ∧ ((a0 < 0 →
      m_X11_kept_J23 Q  M1) ∧ (¬ a0 < 0 →
      (inI a0) ∧ (inI r2) ∧ ((r2 ≤ a0 →
        m_X11_kept_J23 Q  M1) ∧ (¬ r2 ≤ a0 →
        (inI a1) ∧ ((a1 < 0 →
          m_X11_kept_J23 Q  M1) ∧ (¬ a1 < 0 →
          (inI a1) ∧ ((a1 ≤ 2 →
            m_X3_keptOf (((M1 40 4) - r2) + a0) a1 M1 (fun r9 M8 =>
              Q r9 M8)) ∧ (¬ a1 ≤ 2 →
            m_X11_kept_J23 Q  M1)))))))))
def m_X11_image (M : Mem) (Q : Int → Mem → Prop) : Prop :=
  (kd (M 0 2) = 8) ∧ m_X4_write (M 0 2) 40 M (fun M2 =>
    Q (M2 185 1) M2)
def m_X11_octet_J28  (Q : Int → Mem → Prop)  (s0 : Int) (M : Mem) : Prop :=
  Q s0 M
def m_X11_octet_J27  (Q : Int → Mem → Prop)   (M : Mem) : Prop :=
  m_X11_octet_J28 Q (-1) M
def m_X11_octet (a0 : Int) (M : Mem) (Q : Int → Mem → Prop) : Prop :=
  (inI a0) ∧ ((a0 < 0 →
    m_X11_octet_J27 Q  M) ∧ (¬ a0 < 0 →
    (inI a0) ∧ (inI (M 185 1)) ∧ ((M 185 1 ≤ a0 →
      m_X11_octet_J27 Q  M) ∧ (¬ M 185 1 ≤ a0 →
      ((0 : Int) ≤ a0 ∧ a0 < 40) ∧ m_X11_octet_J28 Q (M 186 a0) M))))
def m_X11_on (M : Mem) (Q : Int → Mem → Prop) : Prop :=
  (kd (M 0 2) = 8) ∧ m_X4_read (M 0 2) 46 M (fun r3 M2 =>
    ∀ M4 : Mem, M4 = up M2 1 1 0 → (inI r3) ∧ ((r3 = 0 →
      m_X11_deny 5 M4 (fun r10 M9 =>
        (r10 = 0 ∨ r10 = 1) ∧ Q r10 M9)) ∧ (¬ r3 = 0 →
      m_X6_copy 40 46 M4 (fun M6 =>
        m_X3_forget  M6 (fun M7 =>
          ∀ M8 : Mem, M8 = up M7 0 8 0 → Q 1 M8)))))
def m_X11_status_J23  (Q : Int → Mem → Prop)  (s0 : Int) (M : Mem) : Prop :=
  Q s0 M
def m_X11_status_J22  (Q : Int → Mem → Prop)   (M : Mem) : Prop :=
  m_X11_status_J23 Q (-1) M
def m_X11_status (a0 : Int) (M : Mem) (Q : Int → Mem → Prop) : Prop :=
  (inI a0) ∧ ((a0 < 0 →
    m_X11_status_J22 Q  M) ∧ (¬ a0 < 0 →
    (inI a0) ∧ ((6 ≤ a0 →
      m_X11_status_J22 Q  M) ∧ (¬ 6 ≤ a0 →
      ((0 : Int) ≤ a0 ∧ a0 < 6) ∧ m_X11_status_J23 Q (M 198 a0) M))))
def m_X12_is_J15  (Q : Int → Mem → Prop)  (s0 : Int) (M : Mem) : Prop :=
  (s0 = 0 ∨ s0 = 1) ∧ Q s0 M
def m_X12_is_J14  (Q : Int → Mem → Prop)   (M : Mem) : Prop :=
  m_X12_is_J15 Q 0 M
def m_X12_is (a0 : Int) (a1 : Int) (a2 : Int) (M : Mem) (Q : Int → Mem → Prop) : Prop :=
  (inI a0) ∧ (inI a1) ∧ ((a0 < a1 →
    m_X12_is_J14 Q  M) ∧ (¬ a0 < a1 →
    (inI a0) ∧ (inI a2) ∧ ((a2 < a0 →
      m_X12_is_J14 Q  M) ∧ (¬ a2 < a0 →
      m_X12_is_J15 Q 1 M))))
def m_X12_put_L3  (Q : Mem → Prop) (v1 : Int) : Nat → Int → Mem → Prop
  | 0, _, _ => False
  | f + 1, v2, M =>
  (inI v2) ∧ ((v2 < 0 →
    Q M) ∧ (¬ v2 < 0 →
    ((0 : Int) ≤ M 199 1 ∧ M 199 1 < 1800) ∧ ∀ M3 : Mem, M3 = up M 200 (M 199 1) (zand (zshr v1 v2) 255) → ∀ M4 : Mem, M4 = up M3 199 1 ((M3 199 1) + 1) → m_X12_put_L3 Q v1 f (v2 + (-8)) M4))
def m_X12_put (a0 : Int) (M : Mem) (Q : Mem → Prop) : Prop :=
  ∃ fu : Nat, m_X12_put_L3 Q a0 fu 24 M
def m_X12_refuses (a0 : Int) (M : Mem) (Q : Int → Mem → Prop) : Prop :=
  ((0 : Int) ≤ a0 ∧ a0 < 6) ∧ ((0 : Int) ≤ a0 ∧ a0 < 6) ∧ ∀ M3 : Mem, M3 = up M 226 a0 ((M 226 a0) + 1) → Q (-1) M3
def m_X12_feed (a0 : Int) (a1 : Int) (a2 : Int) (a3 : Int) (a4 : Int) (M : Mem) (Q : Int → Mem → Prop) : Prop :=
  (inI ((M 199 1) + 20)) ∧ (((M 199 1) + 20 ≤ 1600 →
    m_X12_put a0 M (fun M2 =>
      m_X12_put a1 M2 (fun M3 =>
        m_X12_put a2 M3 (fun M4 =>
          m_X12_put a3 M4 (fun M5 =>
            m_X12_put a4 M5 (fun M6 =>
              Q (M6 199 1) M6)))))) ∧ (¬ (M 199 1) + 20 ≤ 1600 →
    m_X12_refuses 0 M (fun r8 M7 =>
      Q r8 M7)))
def m_X12_end_J25  (Q : Int → Mem → Prop)  (s0 : Int) (M : Mem) : Prop :=
  (s0 = 0 ∨ s0 = 1) ∧ Q s0 M
def m_X12_end_J12  (Q : Int → Mem → Prop)   (M : Mem) : Prop :=
  m_X12_refuses 0 M (fun r3 M2 =>
    (inI r3) ∧ ((r3 < 0 →
      m_X12_end_J25 Q 0 M2) ∧ (¬ r3 < 0 →
      m_X12_end_J25 Q 1 M2)))
def m_X12_end (a0 : Int) (M : Mem) (Q : Int → Mem → Prop) : Prop :=
  (inI a0) ∧ ((a0 < 0 →
    m_X12_end_J12 Q  M) ∧ (¬ a0 < 0 →
    (inI a0) ∧ (inI (M 199 1)) ∧ ((a0 ≤ M 199 1 →
      ∀ M8 : Mem, M8 = up M 199 1 a0 → Q 1 M8) ∧ (¬ a0 ≤ M 199 1 →
      m_X12_end_J12 Q  M))))
def m_X12_blame (a0 : Int) (a1 : Int) (M : Mem) (Q : Mem → Prop) : Prop :=
  (inI (M 199 8)) ∧ ((M 199 8 ≤ 0 →
    ∀ M2 : Mem, M2 = up M 199 8 a0 → ∀ M3 : Mem, M3 = up M2 199 9 a1 → Q M3) ∧ (¬ M 199 8 ≤ 0 →
    Q M))
def m_X12_isLetter_J17  (Q : Int → Mem → Prop)  (s0 : Int) (M : Mem) : Prop :=
  (s0 = 0 ∨ s0 = 1) ∧ Q s0 M
def m_X12_isLetter_J16  (Q : Int → Mem → Prop)   (M : Mem) : Prop :=
  m_X12_isLetter_J17 Q 0 M
def m_X12_isLetter (a0 : Int) (M : Mem) (Q : Int → Mem → Prop) : Prop :=
  (inI a0) ∧ ((a0 < 97 →
    m_X12_isLetter_J16 Q  M) ∧ (¬ a0 < 97 →
    (inI a0) ∧ ((122 < a0 →
      m_X12_isLetter_J16 Q  M) ∧ (¬ 122 < a0 →
      m_X12_isLetter_J17 Q 1 M))))
def m_X12_isDigit_J17  (Q : Int → Mem → Prop)  (s0 : Int) (M : Mem) : Prop :=
  (s0 = 0 ∨ s0 = 1) ∧ Q s0 M
def m_X12_isDigit_J16  (Q : Int → Mem → Prop)   (M : Mem) : Prop :=
  m_X12_isDigit_J17 Q 0 M
def m_X12_isDigit (a0 : Int) (M : Mem) (Q : Int → Mem → Prop) : Prop :=
  (inI a0) ∧ ((a0 < 48 →
    m_X12_isDigit_J16 Q  M) ∧ (¬ a0 < 48 →
    (inI a0) ∧ ((57 < a0 →
      m_X12_isDigit_J16 Q  M) ∧ (¬ 57 < a0 →
      m_X12_isDigit_J17 Q 1 M))))
def m_X12_lex_J17  (Q : Mem → Prop)   (M : Mem) : Prop :=
  Q M
def m_X12_lex (M : Mem) (Q : Mem → Prop) : Prop :=
  (inI (M 199 12)) ∧ ((M 199 12 = (-1) →
    m_X12_lex_J17 Q  M) ∧ (¬ M 199 12 = (-1) →
    m_X12_blame 1 (M 199 12) M (fun M2 =>
      m_X12_lex_J17 Q  M2)))
def m_X12_ahead_J334  (Q : Mem → Prop)  (v1 : Int) (M : Mem) : Prop :=
  ∀ M1 : Mem, M1 = up M 199 5 v1 → Q M1
def m_X12_ahead_J325 (k204 : Int → Int → Mem → Prop) (Q : Mem → Prop)  (v1 : Int) (v2 : Int) (v3 : Int) (v4 : Int) (v5 : Int) (M : Mem) : Prop :=
  k204 (v1 + 1) (v5 + 1) M
def m_X12_ahead_J293 (k204 : Int → Int → Mem → Prop) (Q : Mem → Prop)  (v1 : Int) (v2 : Int) (v3 : Int) (v4 : Int) (v5 : Int) (M : Mem) : Prop :=
  (inI v5) ∧ (inI v4) ∧ ((v4 ≤ v5 →
    m_X12_ahead_J325 k204 Q v1 v2 v3 v4 v5 M) ∧ (¬ v4 ≤ v5 →
    (inI v3) ∧ ((v3 = 0 →
      m_X12_ahead_J325 k204 Q v1 v2 v3 v4 v5 M) ∧ (¬ v3 = 0 →
      ((0 : Int) ≤ v1 ∧ v1 < 1800) ∧ ∀ M6 : Mem, M6 = up M 199 6 (((10 * (M 199 6)) + (M 200 v1)) - 48) → m_X12_ahead_J325 k204 Q v1 v2 v3 v4 v5 M6))))
def m_X12_ahead_J263 (k204 : Int → Int → Mem → Prop) (Q : Mem → Prop)  (v1 : Int) (v2 : Int) (v3 : Int) (v4 : Int) (v5 : Int) (M : Mem) : Prop :=
  (inI v5) ∧ (inI v4) ∧ ((v4 ≤ v5 →
    m_X12_ahead_J293 k204 Q v1 v2 v3 v4 v5 M) ∧ (¬ v4 ≤ v5 →
    (inI v2) ∧ ((v2 = 0 →
      m_X12_ahead_J293 k204 Q v1 v2 v3 v4 v5 M) ∧ (¬ v2 = 0 →
      ((0 : Int) ≤ v1 ∧ v1 < 1800) ∧ (inI (M 200 v1)) ∧ ∀ M12 : Mem, M12 = up M 199 7 (wor (wshl (M 199 7) 8) (M 200 v1)) → m_X12_ahead_J293 k204 Q v1 v2 v3 v4 v5 M12))))
def m_X12_ahead_J243 (k204 : Int → Int → Mem → Prop) (Q : Mem → Prop)  (v1 : Int) (v2 : Int) (v3 : Int) (v4 : Int) (v5 : Int) (M : Mem) : Prop :=
  (inI v5) ∧ (inI v4) ∧ ((v5 = v4 →
    (inI (M 199 12)) ∧ ((M 199 12 = (-1) →
      ∀ M16 : Mem, M16 = up M 199 12 v1 → m_X12_ahead_J263 k204 Q v1 v2 v3 v4 v5 M16) ∧ (¬ M 199 12 = (-1) →
      m_X12_ahead_J263 k204 Q v1 v2 v3 v4 v5 M))) ∧ (¬ v5 = v4 →
    m_X12_ahead_J263 k204 Q v1 v2 v3 v4 v5 M))
def m_X12_ahead_L204  (Q : Mem → Prop) (v2 : Int) (v3 : Int) (v4 : Int) : Nat → Int → Int → Mem → Prop
  | 0, _, _, _ => False
  | f + 1, v1, v5, M =>
  (inI v1) ∧ (inI (M 199 2)) ∧ ((M 199 2 ≤ v1 →
    m_X12_ahead_J334 Q v1 M) ∧ (¬ M 199 2 ≤ v1 →
    (inI v2) ∧ ((v2 = 0 →
      ((0 : Int) ≤ v1 ∧ v1 < 1800) ∧ m_X12_isDigit (M 200 v1) M (fun r22 M21 =>
        (inI r22) ∧ ((r22 = 0 →
          m_X12_ahead_J334 Q v1 M21) ∧ (¬ r22 = 0 →
          m_X12_ahead_J243 (m_X12_ahead_L204 Q v2 v3 v4 f) Q v1 v2 v3 v4 v5 M21)))) ∧ (¬ v2 = 0 →
      ((0 : Int) ≤ v1 ∧ v1 < 1800) ∧ m_X12_isLetter (M 200 v1) M (fun r26 M25 =>
        (inI r26) ∧ ((r26 = 0 →
          m_X12_ahead_J334 Q v1 M25) ∧ (¬ r26 = 0 →
          m_X12_ahead_J243 (m_X12_ahead_L204 Q v2 v3 v4 f) Q v1 v2 v3 v4 v5 M25)))))))
def m_X12_ahead_J199  (Q : Mem → Prop)  (v1 : Int) (v2 : Int) (v3 : Int) (s0 : Int) (M : Mem) : Prop :=
  ∃ fu : Nat, m_X12_ahead_L204 Q v2 v3 s0 fu v1 0 M
def m_X12_ahead_J186  (Q : Mem → Prop)  (v1 : Int) (v2 : Int) (v3 : Int) (s1 : Int) (M : Mem) : Prop :=
  ∀ M28 : Mem, M28 = up M 199 3 s1 → (inI v2) ∧ ((v2 = 0 →
    m_X12_ahead_J199 Q v1 v2 v3 4 M28) ∧ (¬ v2 = 0 →
    m_X12_ahead_J199 Q v1 v2 v3 6 M28))
def m_X12_ahead_J176  (Q : Mem → Prop)  (v1 : Int) (v2 : Int) (v3 : Int) (M : Mem) : Prop :=
  (inI v2) ∧ ((v2 = 0 →
    m_X12_ahead_J186 Q v1 v2 v3 2 M) ∧ (¬ v2 = 0 →
    m_X12_ahead_J186 Q v1 v2 v3 1 M))
def m_X12_ahead_J135  (Q : Mem → Prop)  (v1 : Int) (v2 : Int) (v3 : Int) (M : Mem) : Prop :=
  ∀ M31 : Mem, M31 = up M 199 6 0 → ∀ M32 : Mem, M32 = up M31 199 7 0 → ∀ M33 : Mem, M33 = up M32 199 3 3 → ∀ M34 : Mem, M34 = up M33 199 5 (v1 + 1) → (inI v2) ∧ ((v2 = 0 →
    (inI v3) ∧ ((v3 = 0 →
      ((0 : Int) ≤ v1 ∧ v1 < 1800) ∧ ∀ M38 : Mem, M38 = up M34 199 6 (M34 200 v1) → Q M38) ∧ (¬ v3 = 0 →
      m_X12_ahead_J176 Q v1 v2 v3 M34))) ∧ (¬ v2 = 0 →
    m_X12_ahead_J176 Q v1 v2 v3 M34))
def m_X12_ahead_J130  (Q : Mem → Prop)  (v1 : Int) (v2 : Int) (v3 : Int) (M : Mem) : Prop :=
  ∀ M39 : Mem, M39 = up M 199 12 v1 → m_X12_ahead_J135 Q v1 v2 v3 M39
def m_X12_ahead_J98  (Q : Mem → Prop)  (v1 : Int) (v2 : Int) (v3 : Int) (M : Mem) : Prop :=
  (inI v1) ∧ ((v1 ≤ 0 →
    m_X12_ahead_J135 Q v1 v2 v3 M) ∧ (¬ v1 ≤ 0 →
    ((0 : Int) ≤ v1 - 1 ∧ v1 - 1 < 1800) ∧ m_X12_isLetter (M 200 (v1 - 1)) M (fun r43 M42 =>
      (inI r43) ∧ ((r43 = 0 →
        ((0 : Int) ≤ v1 - 1 ∧ v1 - 1 < 1800) ∧ m_X12_isDigit (M42 200 (v1 - 1)) M42 (fun r47 M46 =>
          (inI r47) ∧ ((r47 = 0 →
            m_X12_ahead_J135 Q v1 v2 v3 M46) ∧ (¬ r47 = 0 →
            m_X12_ahead_J130 Q v1 v2 v3 M46)))) ∧ (¬ r43 = 0 →
        m_X12_ahead_J130 Q v1 v2 v3 M42)))))
def m_X12_ahead_J41  (Q : Mem → Prop)  (v1 : Int) (M : Mem) : Prop :=
  ∀ M49 : Mem, M49 = up M 199 4 v1 → ∀ M50 : Mem, M50 = up M49 199 5 v1 → ∀ M51 : Mem, M51 = up M50 199 3 0 → ∀ M52 : Mem, M52 = up M51 199 12 (-1) → (inI v1) ∧ (inI (M52 199 2)) ∧ ((v1 < M52 199 2 →
    ((0 : Int) ≤ v1 ∧ v1 < 1800) ∧ m_X12_isLetter (M52 200 v1) M52 (fun r57 M56 =>
      ((0 : Int) ≤ v1 ∧ v1 < 1800) ∧ m_X12_isDigit (M56 200 v1) M56 (fun r60 M59 =>
        (inI r57) ∧ ((r57 = 0 →
          (inI r60) ∧ ((r60 = 0 →
            m_X12_ahead_J135 Q v1 r57 r60 M59) ∧ (¬ r60 = 0 →
            m_X12_ahead_J98 Q v1 r57 r60 M59))) ∧ (¬ r57 = 0 →
          m_X12_ahead_J98 Q v1 r57 r60 M59))))) ∧ (¬ v1 < M52 199 2 →
    Q M52))
def m_X12_ahead_J35 (k5 : Int → Mem → Prop) (Q : Mem → Prop)  (v1 : Int) (M : Mem) : Prop :=
  k5 (v1 + 1) M
def m_X12_ahead_L5  (Q : Mem → Prop)  : Nat → Int → Mem → Prop
  | 0, _, _ => False
  | f + 1, v1, M =>
  (inI v1) ∧ (inI (M 199 2)) ∧ ((M 199 2 ≤ v1 →
    m_X12_ahead_J41 Q v1 M) ∧ (¬ M 199 2 ≤ v1 →
    ((0 : Int) ≤ v1 ∧ v1 < 1800) ∧ (inI (M 200 v1)) ∧ ((M 200 v1 = 32 →
      m_X12_ahead_J35 (m_X12_ahead_L5 Q f) Q v1 M) ∧ (¬ M 200 v1 = 32 →
      ((0 : Int) ≤ v1 ∧ v1 < 1800) ∧ (inI (M 200 v1)) ∧ ((M 200 v1 = 10 →
        m_X12_ahead_J35 (m_X12_ahead_L5 Q f) Q v1 M) ∧ (¬ M 200 v1 = 10 →
        m_X12_ahead_J41 Q v1 M))))))
def m_X12_ahead (M : Mem) (Q : Mem → Prop) : Prop :=
  ∃ fu : Nat, m_X12_ahead_L5 Q fu (M 199 5) M
def m_X12_isSign_J21  (Q : Int → Mem → Prop)  (s0 : Int) (M : Mem) : Prop :=
  (s0 = 0 ∨ s0 = 1) ∧ Q s0 M
def m_X12_isSign_J20  (Q : Int → Mem → Prop)   (M : Mem) : Prop :=
  m_X12_isSign_J21 Q 0 M
def m_X12_isSign (a0 : Int) (M : Mem) (Q : Int → Mem → Prop) : Prop :=
  (inI (M 199 3)) ∧ ((M 199 3 = 3 →
    (inI (M 199 6)) ∧ (inI a0) ∧ ((M 199 6 = a0 →
      m_X12_isSign_J21 Q 1 M) ∧ (¬ M 199 6 = a0 →
      m_X12_isSign_J20 Q  M))) ∧ (¬ M 199 3 = 3 →
    m_X12_isSign_J20 Q  M))
def m_X12_isWord_J22  (Q : Int → Mem → Prop)  (s0 : Int) (M : Mem) : Prop :=
  (s0 = 0 ∨ s0 = 1) ∧ Q s0 M
def m_X12_isWord_J21  (Q : Int → Mem → Prop)   (M : Mem) : Prop :=
  m_X12_isWord_J22 Q 0 M
def m_X12_isWord (a0 : Int) (M : Mem) (Q : Int → Mem → Prop) : Prop :=
  (inI (M 199 3)) ∧ ((M 199 3 = 1 →
    (inL (M 199 7)) ∧ (inL a0) ∧ ((M 199 7 = a0 →
      m_X12_isWord_J22 Q 1 M) ∧ (¬ M 199 7 = a0 →
      m_X12_isWord_J21 Q  M))) ∧ (¬ M 199 3 = 1 →
    m_X12_isWord_J21 Q  M))
def m_X12_must_J32  (Q : Mem → Prop)   (M : Mem) : Prop :=
  Q M
def m_X12_must_J21  (Q : Mem → Prop)   (M : Mem) : Prop :=
  (inI (M 199 8)) ∧ ((M 199 8 = 0 →
    m_X12_ahead  M (fun M2 =>
      m_X12_must_J32 Q  M2)) ∧ (¬ M 199 8 = 0 →
    m_X12_must_J32 Q  M))
def m_X12_must (a0 : Int) (M : Mem) (Q : Mem → Prop) : Prop :=
  m_X12_lex  M (fun M3 =>
    m_X12_isSign a0 M3 (fun r5 M4 =>
      (inI r5) ∧ ((r5 = 0 →
        m_X12_blame 1 (M4 199 4) M4 (fun M7 =>
          m_X12_must_J21 Q  M7)) ∧ (¬ r5 = 0 →
        m_X12_must_J21 Q  M4))))
def m_X12_isOwn_J200  (Q : Int → Mem → Prop)   (M : Mem) : Prop :=
  Q 1 M
def m_X12_isOwn_J166  (Q : Int → Mem → Prop)   (M : Mem) : Prop :=
  Q 1 M
def m_X12_isOwn_J124  (Q : Int → Mem → Prop)   (M : Mem) : Prop :=
  Q 1 M
def m_X12_isOwn_J82  (Q : Int → Mem → Prop)   (M : Mem) : Prop :=
  Q 1 M
def m_X12_isOwn_J40  (Q : Int → Mem → Prop)   (M : Mem) : Prop :=
  Q 1 M
def m_X12_isOwn (a0 : Int) (M : Mem) (Q : Int → Mem → Prop) : Prop :=
  (inL a0) ∧ ((a0 = 482854658917 →
    m_X12_isOwn_J40 Q  M) ∧ (¬ a0 = 482854658917 →
    (inL a0) ∧ ((a0 = 1919902052 →
      m_X12_isOwn_J40 Q  M) ∧ (¬ a0 = 1919902052 →
      (inL a0) ∧ ((a0 = 29807 →
        m_X12_isOwn_J40 Q  M) ∧ (¬ a0 = 29807 →
        (inL a0) ∧ ((a0 = 123581014175598 →
          m_X12_isOwn_J40 Q  M) ∧ (¬ a0 = 123581014175598 →
          (inL a0) ∧ ((a0 = 24948 →
            m_X12_isOwn_J40 Q  M) ∧ (¬ a0 = 24948 →
            (inL a0) ∧ ((a0 = 1802071652 →
              m_X12_isOwn_J82 Q  M) ∧ (¬ a0 = 1802071652 →
              (inL a0) ∧ ((a0 = 512736125800 →
                m_X12_isOwn_J82 Q  M) ∧ (¬ a0 = 512736125800 →
                (inL a0) ∧ ((a0 = 440005651813 →
                  m_X12_isOwn_J82 Q  M) ∧ (¬ a0 = 440005651813 →
                  (inL a0) ∧ ((a0 = 495873784179 →
                    m_X12_isOwn_J82 Q  M) ∧ (¬ a0 = 495873784179 →
                    (inL a0) ∧ ((a0 = 1735353715 →
                      m_X12_isOwn_J82 Q  M) ∧ (¬ a0 = 1735353715 →
                      (inL a0) ∧ ((a0 = 1918986606 →
                        m_X12_isOwn_J124 Q  M) ∧ (¬ a0 = 1918986606 →
                        (inL a0) ∧ ((a0 = 1937007984 →
                          m_X12_isOwn_J124 Q  M) ∧ (¬ a0 = 1937007984 →
                          (inL a0) ∧ ((a0 = 6578553 →
                            m_X12_isOwn_J124 Q  M) ∧ (¬ a0 = 6578553 →
                            (inL a0) ∧ ((a0 = 1751478885 →
                              m_X12_isOwn_J124 Q  M) ∧ (¬ a0 = 1751478885 →
                              (inL a0) ∧ ((a0 = 495673374574 →
                                m_X12_isOwn_J124 Q  M) ∧ (¬ a0 = 495673374574 →
                                (inL a0) ∧ ((a0 = 499967685221 →
                                  m_X12_isOwn_J166 Q  M) ∧ (¬ a0 = 499967685221 →
                                  (inL a0) ∧ ((a0 = 6709618 →
                                    m_X12_isOwn_J166 Q  M) ∧ (¬ a0 = 6709618 →
                                    (inL a0) ∧ ((a0 = 26982 →
                                      m_X12_isOwn_J166 Q  M) ∧ (¬ a0 = 26982 →
                                      (inL a0) ∧ ((a0 = 28530 →
                                        m_X12_isOwn_J166 Q  M) ∧ (¬ a0 = 28530 →
                                        (inL a0) ∧ ((a0 = 6385252 →
                                          m_X12_isOwn_J166 Q  M) ∧ (¬ a0 = 6385252 →
                                          (inL a0) ∧ ((a0 = 7237492 →
                                            m_X12_isOwn_J200 Q  M) ∧ (¬ a0 = 7237492 →
                                            (inL a0) ∧ ((a0 = 6384748 →
                                              m_X12_isOwn_J200 Q  M) ∧ (¬ a0 = 6384748 →
                                              (inL a0) ∧ ((a0 = 7170414 →
                                                m_X12_isOwn_J200 Q  M) ∧ (¬ a0 = 7170414 →
                                                (inL a0) ∧ ((a0 = 7168376 →
                                                  m_X12_isOwn_J200 Q  M) ∧ (¬ a0 = 7168376 →
                                                  Q 0 M))))))))))))))))))))))))))))))))))))))))))))))))
def m_X12_manyOf_J19  (Q : Int → Mem → Prop)  (s0 : Int) (M : Mem) : Prop :=
  Q s0 M
def m_X12_manyOf (a0 : Int) (a1 : Int) (M : Mem) (Q : Int → Mem → Prop) : Prop :=
  (inI a1) ∧ ((a1 = 0 →
    ((0 : Int) ≤ a0 ∧ a0 < 2) ∧ m_X12_manyOf_J19 Q (M 201 a0) M) ∧ (¬ a1 = 0 →
    ((0 : Int) ≤ a0 ∧ a0 < 2) ∧ m_X12_manyOf_J19 Q (M 205 a0) M))
def m_X12_nameOf_J29  (Q : Int → Mem → Prop)  (s0 : Int) (M : Mem) : Prop :=
  Q s0 M
def m_X12_nameOf (a0 : Int) (a1 : Int) (a2 : Int) (M : Mem) (Q : Int → Mem → Prop) : Prop :=
  (inI a1) ∧ ((a1 = 0 →
    ((0 : Int) ≤ (7 * a0) + a2 ∧ (7 * a0) + a2 < 14) ∧ m_X12_nameOf_J29 Q (M 218 ((7 * a0) + a2)) M) ∧ (¬ a1 = 0 →
    ((0 : Int) ≤ (6 * a0) + a2 ∧ (6 * a0) + a2 < 12) ∧ m_X12_nameOf_J29 Q (M 219 ((6 * a0) + a2)) M))
def m_X12_named_L3  (Q : Int → Mem → Prop) (v1 : Int) (v2 : Int) : Nat → Int → Mem → Prop
  | 0, _, _ => False
  | f + 1, v4, M =>
  m_X12_manyOf (M 199 34) v1 M (fun r2 M1 =>
    (inI v4) ∧ (inI r2) ∧ ((r2 ≤ v4 →
      Q (-1) M1) ∧ (¬ r2 ≤ v4 →
      m_X12_nameOf (M1 199 34) v1 v4 M1 (fun r6 M5 =>
        (inL r6) ∧ (inL v2) ∧ ((r6 = v2 →
          Q v4 M5) ∧ (¬ r6 = v2 →
          m_X12_named_L3 Q v1 v2 f (v4 + 1) M5))))))
def m_X12_named (a0 : Int) (a1 : Int) (M : Mem) (Q : Int → Mem → Prop) : Prop :=
  ∃ fu : Nat, m_X12_named_L3 Q a0 a1 fu 0 M
def m_X12_number_J74  (Q : Int → Mem → Prop)  (v3 : Int) (M : Mem) : Prop :=
  Q v3 M
def m_X12_number_J58  (Q : Int → Mem → Prop)   (M : Mem) : Prop :=
  (inI (M 199 8)) ∧ ((M 199 8 = 0 →
    m_X12_ahead  M (fun M2 =>
      m_X12_number_J74 Q (M 199 6) M2)) ∧ (¬ M 199 8 = 0 →
    m_X12_number_J74 Q (M 199 6) M))
def m_X12_number_J30  (Q : Int → Mem → Prop)  (v1 : Int) (v2 : Int) (M : Mem) : Prop :=
  (inI (M 199 8)) ∧ ((M 199 8 = 0 →
    m_X12_is (M 199 6) v1 v2 M (fun r5 M4 =>
      (inI r5) ∧ ((r5 = 0 →
        m_X12_blame 4 (M4 199 4) M4 (fun M7 =>
          m_X12_number_J58 Q  M7)) ∧ (¬ r5 = 0 →
        m_X12_number_J58 Q  M4)))) ∧ (¬ M 199 8 = 0 →
    m_X12_number_J58 Q  M))
def m_X12_number (a0 : Int) (a1 : Int) (M : Mem) (Q : Int → Mem → Prop) : Prop :=
  m_X12_lex  M (fun M8 =>
    (inI (M8 199 8)) ∧ ((M8 199 8 ≤ 0 →
      (inI (M8 199 3)) ∧ ((M8 199 3 = 2 →
        m_X12_number_J30 Q a0 a1 M8) ∧ (¬ M8 199 3 = 2 →
        m_X12_blame 1 (M8 199 4) M8 (fun M11 =>
          m_X12_number_J30 Q a0 a1 M11)))) ∧ (¬ M8 199 8 ≤ 0 →
      Q 0 M8)))
def m_X12_add (a0 : Int) (a1 : Int) (M : Mem) (Q : Mem → Prop) : Prop :=
  ((0 : Int) ≤ (1600 * (M 199 34)) + (M 199 33) ∧ (1600 * (M 199 34)) + (M 199 33) < 3200) ∧ ∀ M2 : Mem, M2 = up M 216 ((1600 * (M 199 34)) + (M 199 33)) a0 → ((0 : Int) ≤ (1600 * (M2 199 34)) + (M2 199 33) ∧ (1600 * (M2 199 34)) + (M2 199 33) < 3200) ∧ ∀ M4 : Mem, M4 = up M2 217 ((1600 * (M2 199 34)) + (M2 199 33)) a1 → ∀ M5 : Mem, M5 = up M4 199 33 ((M4 199 33) + 1) → Q M5
def m_X12_rank_J70  (Q : Int → Mem → Prop)  (s0 : Int) (M : Mem) : Prop :=
  Q s0 M
def m_X12_rank_J64  (Q : Int → Mem → Prop)   (M : Mem) : Prop :=
  m_X12_rank_J70 Q 5 M
def m_X12_rank_J48  (Q : Int → Mem → Prop)   (M : Mem) : Prop :=
  m_X12_rank_J70 Q 4 M
def m_X12_rank (a0 : Int) (M : Mem) (Q : Int → Mem → Prop) : Prop :=
  (inI a0) ∧ ((a0 = 42 →
    m_X12_rank_J70 Q 1 M) ∧ (¬ a0 = 42 →
    (inI a0) ∧ ((a0 = 41 →
      m_X12_rank_J70 Q 2 M) ∧ (¬ a0 = 41 →
      (inI a0) ∧ ((a0 = 43 →
        m_X12_rank_J70 Q 3 M) ∧ (¬ a0 = 43 →
        (inI a0) ∧ ((a0 = 38 →
          m_X12_rank_J48 Q  M) ∧ (¬ a0 = 38 →
          (inI a0) ∧ ((a0 = 39 →
            m_X12_rank_J48 Q  M) ∧ (¬ a0 = 39 →
            (inI a0) ∧ ((a0 = 40 →
              m_X12_rank_J48 Q  M) ∧ (¬ a0 = 40 →
              (inI a0) ∧ ((a0 = 31 →
                m_X12_rank_J64 Q  M) ∧ (¬ a0 = 31 →
                (inI a0) ∧ ((a0 = 32 →
                  m_X12_rank_J64 Q  M) ∧ (¬ a0 = 32 →
                  m_X12_rank_J70 Q 6 M))))))))))))))))
def m_X12_joins_J87  (Q : Mem → Prop)   (M : Mem) : Prop :=
  Q M
def m_X12_joins_L0  (Q : Mem → Prop) (v1 : Int) : Nat → Mem → Prop
  | 0, _ => False
  | f + 1, M =>
  ((0 : Int) ≤ (M 199 41) - 1 ∧ (M 199 41) - 1 < 20) ∧ (inI (M 199 44)) ∧ (inI (M 224 ((M 199 41) - 1))) ∧ ((M 199 44 ≤ M 224 ((M 199 41) - 1) →
    m_X12_joins_J87 Q  M) ∧ (¬ M 199 44 ≤ M 224 ((M 199 41) - 1) →
    ((0 : Int) ≤ (M 199 44) - 1 ∧ (M 199 44) - 1 < 500) ∧ m_X12_rank (M 225 ((M 199 44) - 1)) M (fun r6 M5 =>
      (inI r6) ∧ (inI v1) ∧ ((r6 < v1 →
        m_X12_joins_J87 Q  M5) ∧ (¬ r6 < v1 →
        ∀ M9 : Mem, M9 = up M5 199 44 ((M5 199 44) - 1) → ((0 : Int) ≤ M9 199 44 ∧ M9 199 44 < 500) ∧ m_X12_add (M9 225 (M9 199 44)) 0 M9 (fun M11 =>
          ((0 : Int) ≤ M11 199 44 ∧ M11 199 44 < 500) ∧ (inI (M11 225 (M11 199 44))) ∧ ((M11 225 (M11 199 44) = 43 →
            ∀ M14 : Mem, M14 = up M11 199 42 ((M11 199 42) - 1) → m_X12_joins_L0 Q v1 f  M14) ∧ (¬ M11 225 (M11 199 44) = 43 →
            m_X12_joins_L0 Q v1 f  M11))))))))
def m_X12_joins (a0 : Int) (M : Mem) (Q : Mem → Prop) : Prop :=
  ∃ fu : Nat, m_X12_joins_L0 Q a0 fu  M
def m_X12_holdsBack (a0 : Int) (M : Mem) (Q : Mem → Prop) : Prop :=
  ((0 : Int) ≤ M 199 44 ∧ M 199 44 < 500) ∧ ∀ M2 : Mem, M2 = up M 225 (M 199 44) a0 → ∀ M3 : Mem, M3 = up M2 199 44 ((M2 199 44) + 1) → Q M3
def m_X12_pushes (a0 : Int) (M : Mem) (Q : Mem → Prop) : Prop :=
  ((0 : Int) ≤ M 199 41 ∧ M 199 41 < 20) ∧ ∀ M2 : Mem, M2 = up M 220 (M 199 41) a0 → ((0 : Int) ≤ M2 199 41 ∧ M2 199 41 < 20) ∧ ∀ M4 : Mem, M4 = up M2 221 (M2 199 41) 0 → ((0 : Int) ≤ M4 199 41 ∧ M4 199 41 < 20) ∧ ∀ M6 : Mem, M6 = up M4 222 (M4 199 41) 1 → ((0 : Int) ≤ M6 199 41 ∧ M6 199 41 < 20) ∧ ∀ M8 : Mem, M8 = up M6 224 (M6 199 41) (M6 199 44) → ∀ M9 : Mem, M9 = up M8 199 41 ((M8 199 41) + 1) → Q M9
def m_X12_opens_J18  (Q : Mem → Prop)  (v1 : Int) (M : Mem) : Prop :=
  (inI (M 199 8)) ∧ ((M 199 8 ≤ 0 →
    ∀ M2 : Mem, M2 = up M 199 42 ((M 199 42) + 1) → m_X12_ahead  M2 (fun M3 =>
      m_X12_pushes v1 M3 (fun M4 =>
        Q M4))) ∧ (¬ M 199 8 ≤ 0 →
    Q M))
def m_X12_opens (a0 : Int) (M : Mem) (Q : Mem → Prop) : Prop :=
  (inI (M 199 42)) ∧ ((M 199 42 = 7 →
    m_X12_blame 5 (M 199 4) M (fun M6 =>
      m_X12_opens_J18 Q a0 M6)) ∧ (¬ M 199 42 = 7 →
    m_X12_opens_J18 Q a0 M))
def m_X12_isTest_J21  (Q : Int → Mem → Prop)  (s0 : Int) (M : Mem) : Prop :=
  (s0 = 0 ∨ s0 = 1) ∧ Q s0 M
def m_X12_isTest_J16  (Q : Int → Mem → Prop)   (M : Mem) : Prop :=
  m_X12_isTest_J21 Q 1 M
def m_X12_isTest (a0 : Int) (M : Mem) (Q : Int → Mem → Prop) : Prop :=
  (inI a0) ∧ ((a0 = 1 →
    m_X12_isTest_J16 Q  M) ∧ (¬ a0 = 1 →
    (inI a0) ∧ ((a0 = 5 →
      m_X12_isTest_J16 Q  M) ∧ (¬ a0 = 5 →
      (inI a0) ∧ ((a0 = 6 →
        m_X12_isTest_J16 Q  M) ∧ (¬ a0 = 6 →
        m_X12_isTest_J21 Q 0 M))))))
def m_X12_operand_J455  (Q : Int → Mem → Prop)  (v3 : Int) (M : Mem) : Prop :=
  (inI (M 199 8)) ∧ ((M 199 8 ≤ 0 →
    m_X12_add v3 (M 199 6) M (fun M2 =>
      m_X12_ahead  M2 (fun M3 =>
        Q 1 M3))) ∧ (¬ M 199 8 ≤ 0 →
    Q 1 M))
def m_X12_operand_J441  (Q : Int → Mem → Prop)  (v3 : Int) (M : Mem) : Prop :=
  (inI v3) ∧ ((v3 = (-1) →
    m_X12_blame 1 (M 199 4) M (fun M5 =>
      m_X12_operand_J455 Q v3 M5)) ∧ (¬ v3 = (-1) →
    m_X12_operand_J455 Q v3 M))
def m_X12_operand_J426  (Q : Int → Mem → Prop)  (s0 : Int) (M : Mem) : Prop :=
  (inI s0) ∧ ((s0 ≤ 5 →
    m_X12_operand_J441 Q s0 M) ∧ (¬ s0 ≤ 5 →
    (inI (M 199 35)) ∧ ((M 199 35 = 0 →
      m_X12_operand_J441 Q (-1) M) ∧ (¬ M 199 35 = 0 →
      m_X12_operand_J441 Q s0 M))))
def m_X12_operand_J311  (Q : Int → Mem → Prop)   (M : Mem) : Prop :=
  Q 0 M
def m_X12_operand_J289  (Q : Int → Mem → Prop)  (v3 : Int) (s1 : Int) (M : Mem) : Prop :=
  m_X12_opens s1 M (fun M8 =>
    (inI (M8 199 8)) ∧ ((M8 199 8 = 0 →
      ((0 : Int) ≤ (M8 199 41) - 1 ∧ (M8 199 41) - 1 < 20) ∧ ∀ M11 : Mem, M11 = up M8 223 ((M8 199 41) - 1) v3 → m_X12_operand_J311 Q  M11) ∧ (¬ M8 199 8 = 0 →
      m_X12_operand_J311 Q  M8)))
def m_X12_operand_J276  (Q : Int → Mem → Prop)  (v3 : Int) (M : Mem) : Prop :=
  (inI v3) ∧ ((v3 = 44 →
    m_X12_operand_J289 Q v3 6 M) ∧ (¬ v3 = 44 →
    m_X12_operand_J289 Q v3 3 M))
def m_X12_operand_J249  (Q : Int → Mem → Prop)  (s0 : Int) (M : Mem) : Prop :=
  m_X12_ahead  M (fun M13 =>
    m_X12_lex  M13 (fun M14 =>
      m_X12_isSign 40 M14 (fun r16 M15 =>
        (inI r16) ∧ ((r16 = 0 →
          m_X12_blame 1 (M15 199 4) M15 (fun M18 =>
            m_X12_operand_J276 Q s0 M18)) ∧ (¬ r16 = 0 →
          m_X12_operand_J276 Q s0 M15)))))
def m_X12_operand_J217  (Q : Int → Mem → Prop)   (M : Mem) : Prop :=
  m_X12_isWord 7170414 M (fun r20 M19 =>
    (inI r20) ∧ ((r20 = 0 →
      m_X12_isWord 7168376 M19 (fun r23 M22 =>
        (inI r23) ∧ ((r23 = 0 →
          m_X12_operand_J249 Q 44 M22) ∧ (¬ r23 = 0 →
          m_X12_operand_J249 Q 37 M22)))) ∧ (¬ r20 = 0 →
      m_X12_operand_J249 Q 36 M19)))
def m_X12_operand_J171  (Q : Int → Mem → Prop)   (M : Mem) : Prop :=
  m_X12_isSign 40 M (fun r26 M25 =>
    (inI r26) ∧ ((r26 = 0 →
      m_X12_isWord 7170414 M25 (fun r29 M28 =>
        (inI r29) ∧ ((r29 = 0 →
          m_X12_isWord 7168376 M28 (fun r32 M31 =>
            (inI r32) ∧ ((r32 = 0 →
              m_X12_isWord 26982 M31 (fun r35 M34 =>
                (inI r35) ∧ ((r35 = 0 →
                  (inI (M34 199 3)) ∧ ((M34 199 3 = 2 →
                    m_X12_operand_J426 Q 0 M34) ∧ (¬ M34 199 3 = 2 →
                    m_X12_isWord 1802071652 M34 (fun r39 M38 =>
                      (inI r39) ∧ ((r39 = 0 →
                        m_X12_isWord 1937007984 M38 (fun r42 M41 =>
                          (inI r42) ∧ ((r42 = 0 →
                            m_X12_isWord 6578553 M41 (fun r45 M44 =>
                              (inI r45) ∧ ((r45 = 0 →
                                m_X12_isWord 1751478885 M44 (fun r48 M47 =>
                                  (inI r48) ∧ ((r48 = 0 →
                                    m_X12_isWord 495673374574 M47 (fun r51 M50 =>
                                      (inI r51) ∧ ((r51 = 0 →
                                        m_X12_isWord 499967685221 M50 (fun r54 M53 =>
                                          (inI r54) ∧ ((r54 = 0 →
                                            m_X12_isWord 6709618 M53 (fun r57 M56 =>
                                              (inI r57) ∧ ((r57 = 0 →
                                                m_X12_operand_J426 Q (-1) M56) ∧ (¬ r57 = 0 →
                                                m_X12_operand_J426 Q 7 M56)))) ∧ (¬ r54 = 0 →
                                            m_X12_operand_J426 Q 6 M53)))) ∧ (¬ r51 = 0 →
                                        m_X12_operand_J426 Q 5 M50)))) ∧ (¬ r48 = 0 →
                                    m_X12_operand_J426 Q 4 M47)))) ∧ (¬ r45 = 0 →
                                m_X12_operand_J426 Q 3 M44)))) ∧ (¬ r42 = 0 →
                            m_X12_operand_J426 Q 2 M41)))) ∧ (¬ r39 = 0 →
                        m_X12_operand_J426 Q 1 M38)))))) ∧ (¬ r35 = 0 →
                  m_X12_operand_J217 Q  M34)))) ∧ (¬ r32 = 0 →
              m_X12_operand_J217 Q  M31)))) ∧ (¬ r29 = 0 →
          m_X12_operand_J217 Q  M28)))) ∧ (¬ r26 = 0 →
      m_X12_opens 2 M25 (fun M59 =>
        Q 0 M59))))
def m_X12_operand_J137  (Q : Int → Mem → Prop)  (v1 : Int) (v2 : Int) (M : Mem) : Prop :=
  (inI v2) ∧ ((v2 = 0 →
    m_X12_operand_J171 Q  M) ∧ (¬ v2 = 0 →
    m_X12_isWord 6384748 M (fun r62 M61 =>
      (inI r62) ∧ ((r62 = 0 →
        m_X12_operand_J171 Q  M61) ∧ (¬ r62 = 0 →
        m_X12_add 30 0 M61 (fun M64 =>
          ((0 : Int) ≤ v1 ∧ v1 < 20) ∧ ∀ M66 : Mem, M66 = up M64 221 v1 2 → m_X12_ahead  M66 (fun M67 =>
            Q 1 M67)))))))
def m_X12_operand_J110  (Q : Int → Mem → Prop)  (v1 : Int) (v2 : Int) (M : Mem) : Prop :=
  ((0 : Int) ≤ v1 ∧ v1 < 20) ∧ ∀ M69 : Mem, M69 = up M 222 v1 0 → (inI v2) ∧ ((v2 = 0 →
    m_X12_operand_J137 Q v1 v2 M69) ∧ (¬ v2 = 0 →
    m_X12_isSign 91 M69 (fun r72 M71 =>
      (inI r72) ∧ ((r72 = 0 →
        m_X12_operand_J137 Q v1 v2 M71) ∧ (¬ r72 = 0 →
        m_X12_opens 5 M71 (fun M74 =>
          Q 0 M74))))))
def m_X12_operand_J79  (Q : Int → Mem → Prop)   (M : Mem) : Prop :=
  (inI (M 199 8)) ∧ ((M 199 8 ≤ 0 →
    ∀ M76 : Mem, M76 = up M 199 42 ((M 199 42) + 1) → m_X12_holdsBack 43 M76 (fun M77 =>
      m_X12_ahead  M77 (fun M78 =>
        Q 0 M78))) ∧ (¬ M 199 8 ≤ 0 →
    Q 1 M))
def m_X12_operand_J46  (Q : Int → Mem → Prop)  (v1 : Int) (s0 : Int) (M : Mem) : Prop :=
  (inI s0) ∧ ((s0 = 0 →
    m_X12_operand_J110 Q v1 s0 M) ∧ (¬ s0 = 0 →
    m_X12_isWord 7237492 M (fun r81 M80 =>
      (inI r81) ∧ ((r81 = 0 →
        m_X12_operand_J110 Q v1 s0 M80) ∧ (¬ r81 = 0 →
        (inI (M80 199 42)) ∧ ((M80 199 42 = 7 →
          m_X12_blame 5 (M80 199 4) M80 (fun M84 =>
            m_X12_operand_J79 Q  M84)) ∧ (¬ M80 199 42 = 7 →
          m_X12_operand_J79 Q  M80)))))))
def m_X12_operand_J45  (Q : Int → Mem → Prop)  (v1 : Int) (M : Mem) : Prop :=
  m_X12_operand_J46 Q v1 0 M
def m_X12_operand (M : Mem) (Q : Int → Mem → Prop) : Prop :=
  m_X12_lex  M (fun M85 =>
    (inI (M85 199 8)) ∧ ((M85 199 8 ≤ 0 →
      ((0 : Int) ≤ (M85 199 41) - 1 ∧ (M85 199 41) - 1 < 20) ∧ m_X12_isTest (M85 220 ((M85 199 41) - 1)) M85 (fun r89 M88 =>
        (inI r89) ∧ ((r89 = 0 →
          m_X12_operand_J45 Q ((M85 199 41) - 1) M88) ∧ (¬ r89 = 0 →
          ((0 : Int) ≤ (M85 199 41) - 1 ∧ (M85 199 41) - 1 < 20) ∧ (inI (M88 222 ((M85 199 41) - 1))) ∧ ((M88 222 ((M85 199 41) - 1) = 0 →
            m_X12_operand_J45 Q ((M85 199 41) - 1) M88) ∧ (¬ M88 222 ((M85 199 41) - 1) = 0 →
            m_X12_operand_J46 Q ((M85 199 41) - 1) 1 M88)))))) ∧ (¬ M85 199 8 ≤ 0 →
      Q 1 M85)))
def m_X12_goesOn_J613  (Q : Int → Mem → Prop)   (M : Mem) : Prop :=
  m_X12_ahead  M (fun M1 =>
    Q 1 M1)
def m_X12_goesOn_J596  (Q : Int → Mem → Prop)  (v2 : Int) (M : Mem) : Prop :=
  (inI v2) ∧ ((v2 = 5 →
    ((0 : Int) ≤ (M 199 41) - 1 ∧ (M 199 41) - 1 < 20) ∧ ∀ M4 : Mem, M4 = up M 221 ((M 199 41) - 1) 2 → m_X12_goesOn_J613 Q  M4) ∧ (¬ v2 = 5 →
    m_X12_goesOn_J613 Q  M))
def m_X12_goesOn_J546  (Q : Int → Mem → Prop)  (v1 : Int) (v2 : Int) (M : Mem) : Prop :=
  (inI (M 199 8)) ∧ ((M 199 8 ≤ 0 →
    m_X12_joins 1 M (fun M6 =>
      ∀ M7 : Mem, M7 = up M6 199 41 ((M6 199 41) - 1) → ∀ M8 : Mem, M8 = up M7 199 42 ((M7 199 42) - 1) → (inI v2) ∧ ((v2 = 4 →
        ((0 : Int) ≤ v1 ∧ v1 < 20) ∧ m_X12_add (M8 223 v1) 0 M8 (fun M11 =>
          m_X12_goesOn_J596 Q v2 M11)) ∧ (¬ v2 = 4 →
        m_X12_goesOn_J596 Q v2 M8)))) ∧ (¬ M 199 8 ≤ 0 →
    Q 0 M))
def m_X12_goesOn_J531  (Q : Int → Mem → Prop)  (v1 : Int) (v2 : Int) (s1 : Int) (M : Mem) : Prop :=
  m_X12_isSign s1 M (fun r13 M12 =>
    (inI r13) ∧ ((r13 = 0 →
      m_X12_blame 1 (M12 199 4) M12 (fun M15 =>
        m_X12_goesOn_J546 Q v1 v2 M15)) ∧ (¬ r13 = 0 →
      m_X12_goesOn_J546 Q v1 v2 M12)))
def m_X12_goesOn_J499  (Q : Int → Mem → Prop)  (v1 : Int) (s0 : Int) (s1 : Int) (s2 : Int) (M : Mem) : Prop :=
  ((0 : Int) ≤ s1 ∧ s1 < (ln s0)) ∧ ∀ M17 : Mem, M17 = up M s0 s1 s2 → ((0 : Int) ≤ v1 ∧ v1 < 20) ∧ ∀ M19 : Mem, M19 = up M17 221 v1 0 → m_X12_ahead  M19 (fun M20 =>
    ∀ M21 : Mem, M21 = up M20 199 45 0 → Q 1 M21)
def m_X12_goesOn_J470  (Q : Int → Mem → Prop)  (v1 : Int) (v2 : Int) (M : Mem) : Prop :=
  (inI (M 199 8)) ∧ ((M 199 8 ≤ 0 →
    m_X12_joins 1 M (fun M23 =>
      (inI v2) ∧ ((v2 = 3 →
        m_X12_goesOn_J499 Q v1 220 v1 4 M23) ∧ (¬ v2 = 3 →
        m_X12_goesOn_J499 Q v1 220 v1 3 M23)))) ∧ (¬ M 199 8 ≤ 0 →
    Q 0 M))
def m_X12_goesOn_J452  (Q : Int → Mem → Prop)  (v1 : Int) (v2 : Int) (M : Mem) : Prop :=
  m_X12_isSign 44 M (fun r26 M25 =>
    (inI r26) ∧ ((r26 = 0 →
      m_X12_blame 1 (M25 199 4) M25 (fun M28 =>
        m_X12_goesOn_J470 Q v1 v2 M28)) ∧ (¬ r26 = 0 →
      m_X12_goesOn_J470 Q v1 v2 M25)))
def m_X12_goesOn_J439  (Q : Int → Mem → Prop)   (M : Mem) : Prop :=
  Q 0 M
def m_X12_goesOn_J422  (Q : Int → Mem → Prop)  (v1 : Int) (v2 : Int) (M : Mem) : Prop :=
  (inI v2) ∧ ((2 ≤ v2 →
    (inI v2) ∧ ((v2 = 3 →
      m_X12_goesOn_J452 Q v1 v2 M) ∧ (¬ v2 = 3 →
      (inI v2) ∧ ((v2 = 6 →
        m_X12_goesOn_J452 Q v1 v2 M) ∧ (¬ v2 = 6 →
        (inI v2) ∧ ((v2 = 5 →
          m_X12_goesOn_J531 Q v1 v2 93 M) ∧ (¬ v2 = 5 →
          m_X12_goesOn_J531 Q v1 v2 41 M))))))) ∧ (¬ 2 ≤ v2 →
    (inI (M 199 8)) ∧ ((M 199 8 = 0 →
      m_X12_joins 1 M (fun M34 =>
        m_X12_goesOn_J439 Q  M34)) ∧ (¬ M 199 8 = 0 →
      m_X12_goesOn_J439 Q  M))))
def m_X12_goesOn_J400  (Q : Int → Mem → Prop)  (v1 : Int) (v2 : Int) (v3 : Int) (M : Mem) : Prop :=
  (inI v3) ∧ ((v3 = 0 →
    m_X12_goesOn_J422 Q v1 v2 M) ∧ (¬ v3 = 0 →
    ((0 : Int) ≤ v1 ∧ v1 < 20) ∧ (inI (M 221 v1)) ∧ ((M 221 v1 = 0 →
      m_X12_blame 1 (M 199 4) M (fun M38 =>
        m_X12_goesOn_J422 Q v1 v2 M38)) ∧ (¬ M 221 v1 = 0 →
      m_X12_goesOn_J422 Q v1 v2 M))))
def m_X12_goesOn_J372  (Q : Int → Mem → Prop)  (v1 : Int) (s1 : Int) (M : Mem) : Prop :=
  m_X12_holdsBack s1 M (fun M39 =>
    ((0 : Int) ≤ v1 ∧ v1 < 20) ∧ ∀ M41 : Mem, M41 = up M39 221 v1 0 → ((0 : Int) ≤ v1 ∧ v1 < 20) ∧ ∀ M43 : Mem, M43 = up M41 222 v1 1 → m_X12_ahead  M43 (fun M44 =>
      ∀ M45 : Mem, M45 = up M44 199 45 0 → Q 1 M45))
def m_X12_goesOn_J356  (Q : Int → Mem → Prop)  (v1 : Int) (v4 : Int) (s1 : Int) (M : Mem) : Prop :=
  m_X12_joins s1 M (fun M46 =>
    (inI v4) ∧ ((v4 = 0 →
      m_X12_goesOn_J372 Q v1 42 M46) ∧ (¬ v4 = 0 →
      m_X12_goesOn_J372 Q v1 41 M46)))
def m_X12_goesOn_J327  (Q : Int → Mem → Prop)  (v1 : Int) (M : Mem) : Prop :=
  (inI (M 199 8)) ∧ ((M 199 8 ≤ 0 →
    m_X12_isWord 6385252 M (fun r50 M49 =>
      (inI r50) ∧ ((r50 = 0 →
        m_X12_goesOn_J356 Q v1 r50 1 M49) ∧ (¬ r50 = 0 →
        m_X12_goesOn_J356 Q v1 r50 2 M49)))) ∧ (¬ M 199 8 ≤ 0 →
    Q 0 M))
def m_X12_goesOn_J309  (Q : Int → Mem → Prop)  (v1 : Int) (M : Mem) : Prop :=
  ((0 : Int) ≤ v1 ∧ v1 < 20) ∧ (inI (M 221 v1)) ∧ ((M 221 v1 = 0 →
    m_X12_blame 1 (M 199 4) M (fun M54 =>
      m_X12_goesOn_J327 Q v1 M54)) ∧ (¬ M 221 v1 = 0 →
    m_X12_goesOn_J327 Q v1 M))
def m_X12_goesOn_J285  (Q : Int → Mem → Prop)  (v1 : Int) (v2 : Int) (v3 : Int) (M : Mem) : Prop :=
  (inI v3) ∧ ((v3 = 0 →
    m_X12_goesOn_J400 Q v1 v2 v3 M) ∧ (¬ v3 = 0 →
    m_X12_isWord 6385252 M (fun r57 M56 =>
      (inI r57) ∧ ((r57 = 0 →
        m_X12_isWord 28530 M56 (fun r60 M59 =>
          (inI r60) ∧ ((r60 = 0 →
            m_X12_goesOn_J400 Q v1 v2 v3 M59) ∧ (¬ r60 = 0 →
            m_X12_goesOn_J309 Q v1 M59)))) ∧ (¬ r57 = 0 →
        m_X12_goesOn_J309 Q v1 M56)))))
def m_X12_goesOn_J264  (Q : Int → Mem → Prop)  (v1 : Int) (s1 : Int) (M : Mem) : Prop :=
  m_X12_holdsBack s1 M (fun M62 =>
    ((0 : Int) ≤ v1 ∧ v1 < 20) ∧ ∀ M64 : Mem, M64 = up M62 221 v1 1 → m_X12_ahead  M64 (fun M65 =>
      ∀ M66 : Mem, M66 = up M65 199 45 0 → Q 1 M66))
def m_X12_goesOn_J228  (Q : Int → Mem → Prop)  (v1 : Int) (M : Mem) : Prop :=
  m_X12_joins 5 M (fun M67 =>
    m_X12_isSign 60 M67 (fun r69 M68 =>
      (inI r69) ∧ ((r69 = 0 →
        m_X12_isSign 62 M68 (fun r72 M71 =>
          (inI r72) ∧ ((r72 = 0 →
            m_X12_goesOn_J264 Q v1 40 M71) ∧ (¬ r72 = 0 →
            m_X12_goesOn_J264 Q v1 39 M71)))) ∧ (¬ r69 = 0 →
        m_X12_goesOn_J264 Q v1 38 M68))))
def m_X12_goesOn_J188  (Q : Int → Mem → Prop)  (v1 : Int) (v2 : Int) (v3 : Int) (M : Mem) : Prop :=
  (inI v3) ∧ ((v3 = 0 →
    m_X12_goesOn_J285 Q v1 v2 v3 M) ∧ (¬ v3 = 0 →
    ((0 : Int) ≤ v1 ∧ v1 < 20) ∧ (inI (M 221 v1)) ∧ ((M 221 v1 = 0 →
      m_X12_isSign 60 M (fun r78 M77 =>
        (inI r78) ∧ ((r78 = 0 →
          m_X12_isSign 62 M77 (fun r81 M80 =>
            (inI r81) ∧ ((r81 = 0 →
              m_X12_isSign 61 M80 (fun r84 M83 =>
                (inI r84) ∧ ((r84 = 0 →
                  m_X12_goesOn_J285 Q v1 v2 v3 M83) ∧ (¬ r84 = 0 →
                  m_X12_goesOn_J228 Q v1 M83)))) ∧ (¬ r81 = 0 →
              m_X12_goesOn_J228 Q v1 M80)))) ∧ (¬ r78 = 0 →
          m_X12_goesOn_J228 Q v1 M77)))) ∧ (¬ M 221 v1 = 0 →
      m_X12_goesOn_J285 Q v1 v2 v3 M))))
def m_X12_goesOn_J174  (Q : Int → Mem → Prop)  (s1 : Int) (M : Mem) : Prop :=
  m_X12_holdsBack s1 M (fun M86 =>
    m_X12_ahead  M86 (fun M87 =>
      ∀ M88 : Mem, M88 = up M87 199 45 0 → Q 1 M88))
def m_X12_goesOn_J112  (Q : Int → Mem → Prop)  (s1 : Int) (M : Mem) : Prop :=
  m_X12_joins s1 M (fun M89 =>
    m_X12_isSign 43 M89 (fun r91 M90 =>
      (inI r91) ∧ ((r91 = 0 →
        m_X12_isSign 45 M90 (fun r94 M93 =>
          (inI r94) ∧ ((r94 = 0 →
            m_X12_isSign 42 M93 (fun r97 M96 =>
              (inI r97) ∧ ((r97 = 0 →
                m_X12_isSign 47 M96 (fun r100 M99 =>
                  (inI r100) ∧ ((r100 = 0 →
                    m_X12_goesOn_J174 Q 35 M99) ∧ (¬ r100 = 0 →
                    m_X12_goesOn_J174 Q 34 M99)))) ∧ (¬ r97 = 0 →
                m_X12_goesOn_J174 Q 33 M96)))) ∧ (¬ r94 = 0 →
            m_X12_goesOn_J174 Q 32 M93)))) ∧ (¬ r91 = 0 →
        m_X12_goesOn_J174 Q 31 M90))))
def m_X12_goesOn_J106  (Q : Int → Mem → Prop)   (M : Mem) : Prop :=
  m_X12_goesOn_J112 Q 5 M
def m_X12_goesOn_J87  (Q : Int → Mem → Prop)   (M : Mem) : Prop :=
  m_X12_isSign 43 M (fun r103 M102 =>
    (inI r103) ∧ ((r103 = 0 →
      m_X12_isSign 45 M102 (fun r106 M105 =>
        (inI r106) ∧ ((r106 = 0 →
          m_X12_goesOn_J112 Q 6 M105) ∧ (¬ r106 = 0 →
          m_X12_goesOn_J106 Q  M105)))) ∧ (¬ r103 = 0 →
      m_X12_goesOn_J106 Q  M102)))
def m_X12_goesOn (M : Mem) (Q : Int → Mem → Prop) : Prop :=
  m_X12_lex  M (fun M108 =>
    (inI (M108 199 8)) ∧ ((M108 199 8 ≤ 0 →
      ((0 : Int) ≤ (M108 199 41) - 1 ∧ (M108 199 41) - 1 < 20) ∧ m_X12_isTest (M108 220 ((M108 199 41) - 1)) M108 (fun r112 M111 =>
        ((0 : Int) ≤ (M108 199 41) - 1 ∧ (M108 199 41) - 1 < 20) ∧ (inI (M111 221 ((M108 199 41) - 1))) ∧ ((2 ≤ M111 221 ((M108 199 41) - 1) →
          m_X12_goesOn_J188 Q ((M108 199 41) - 1) (M108 220 ((M108 199 41) - 1)) r112 M111) ∧ (¬ 2 ≤ M111 221 ((M108 199 41) - 1) →
          m_X12_isSign 43 M111 (fun r116 M115 =>
            (inI r116) ∧ ((r116 = 0 →
              m_X12_isSign 45 M115 (fun r119 M118 =>
                (inI r119) ∧ ((r119 = 0 →
                  m_X12_isSign 42 M118 (fun r122 M121 =>
                    (inI r122) ∧ ((r122 = 0 →
                      m_X12_isSign 47 M121 (fun r125 M124 =>
                        (inI r125) ∧ ((r125 = 0 →
                          m_X12_isSign 37 M124 (fun r128 M127 =>
                            (inI r128) ∧ ((r128 = 0 →
                              m_X12_goesOn_J188 Q ((M108 199 41) - 1) (M108 220 ((M108 199 41) - 1)) r112 M127) ∧ (¬ r128 = 0 →
                              m_X12_goesOn_J87 Q  M127)))) ∧ (¬ r125 = 0 →
                          m_X12_goesOn_J87 Q  M124)))) ∧ (¬ r122 = 0 →
                      m_X12_goesOn_J87 Q  M121)))) ∧ (¬ r119 = 0 →
                  m_X12_goesOn_J87 Q  M118)))) ∧ (¬ r116 = 0 →
              m_X12_goesOn_J87 Q  M115))))))) ∧ (¬ M108 199 8 ≤ 0 →
      Q 0 M108)))
def m_X12_reads_J86 (k43 : Int → Mem → Prop) (Q : Mem → Prop)  (s0 : Int) (M : Mem) : Prop :=
  k43 s0 M
def m_X12_reads_J85 (k43 : Int → Mem → Prop) (Q : Mem → Prop)   (M : Mem) : Prop :=
  m_X12_reads_J86 k43 Q 0 M
def m_X12_reads_J70 (k43 : Int → Mem → Prop) (Q : Mem → Prop)  (v2 : Int) (M : Mem) : Prop :=
  (inI v2) ∧ ((v2 = 0 →
    m_X12_reads_J85 k43 Q  M) ∧ (¬ v2 = 0 →
    (inI (M 199 8)) ∧ ((M 199 8 = 0 →
      m_X12_reads_J86 k43 Q 1 M) ∧ (¬ M 199 8 = 0 →
      m_X12_reads_J85 k43 Q  M))))
def m_X12_reads_L43  (Q : Mem → Prop)  : Nat → Int → Mem → Prop
  | 0, _, _ => False
  | f + 1, v2, M =>
  (inI v2) ∧ ((v2 = 0 →
    Q M) ∧ (¬ v2 = 0 →
    (inI (M 199 45)) ∧ ((M 199 45 = 0 →
      m_X12_operand  M (fun r8 M7 =>
        (r8 = 0 ∨ r8 = 1) ∧ ∀ M10 : Mem, M10 = up M7 199 45 r8 → m_X12_reads_J70 (m_X12_reads_L43 Q f) Q v2 M10)) ∧ (¬ M 199 45 = 0 →
      m_X12_goesOn  M (fun r6 M5 =>
        m_X12_reads_J70 (m_X12_reads_L43 Q f) Q r6 M5)))))
def m_X12_reads_J38  (Q : Mem → Prop)  (s1 : Int) (M : Mem) : Prop :=
  m_X12_pushes s1 M (fun M11 =>
    ∃ fu : Nat, m_X12_reads_L43 Q fu 1 M11)
def m_X12_reads (a0 : Int) (M : Mem) (Q : Mem → Prop) : Prop :=
  (inI (M 199 8)) ∧ ((M 199 8 ≤ 0 →
    ∀ M13 : Mem, M13 = up M 199 41 0 → ∀ M14 : Mem, M14 = up M13 199 42 0 → ∀ M15 : Mem, M15 = up M14 199 44 0 → ∀ M16 : Mem, M16 = up M15 199 45 0 → (inI a0) ∧ ((a0 = 0 →
      m_X12_reads_J38 Q 0 M16) ∧ (¬ a0 = 0 →
      m_X12_reads_J38 Q 1 M16))) ∧ (¬ M 199 8 ≤ 0 →
    Q M))
def m_X12_counts_J44  (Q : Int → Mem → Prop)  (s0 : Int) (M : Mem) : Prop :=
  (s0 = 0 ∨ s0 = 1) ∧ Q s0 M
def m_X12_counts_J32  (Q : Int → Mem → Prop)   (M : Mem) : Prop :=
  (inI (M 199 8)) ∧ ((M 199 8 = 0 →
    m_X12_counts_J44 Q 1 M) ∧ (¬ M 199 8 = 0 →
    m_X12_counts_J44 Q 0 M))
def m_X12_counts_J21  (Q : Int → Mem → Prop)   (M : Mem) : Prop :=
  (inI (M 199 8)) ∧ ((M 199 8 = 0 →
    m_X12_ahead  M (fun M4 =>
      m_X12_counts_J32 Q  M4)) ∧ (¬ M 199 8 = 0 →
    m_X12_counts_J32 Q  M))
def m_X12_counts (a0 : Int) (M : Mem) (Q : Int → Mem → Prop) : Prop :=
  (inI (M 199 8)) ∧ ((M 199 8 = 0 →
    (inI a0) ∧ ((a0 = 0 →
      m_X12_counts_J21 Q  M) ∧ (¬ a0 = 0 →
      m_X12_blame 6 (M 199 4) M (fun M7 =>
        m_X12_counts_J21 Q  M7)))) ∧ (¬ M 199 8 = 0 →
    m_X12_counts_J21 Q  M))
def m_X12_must__J40  (Q : Mem → Prop)   (M : Mem) : Prop :=
  Q M
def m_X12_must__J29  (Q : Mem → Prop)   (M : Mem) : Prop :=
  (inI (M 199 8)) ∧ ((M 199 8 = 0 →
    m_X12_ahead  M (fun M2 =>
      m_X12_must__J40 Q  M2)) ∧ (¬ M 199 8 = 0 →
    m_X12_must__J40 Q  M))
def m_X12_must_ (a0 : Int) (M : Mem) (Q : Mem → Prop) : Prop :=
  m_X12_lex  M (fun M3 =>
    (inI (M3 199 8)) ∧ ((M3 199 8 ≤ 0 →
      m_X12_isWord a0 M3 (fun r6 M5 =>
        (inI r6) ∧ ((r6 = 0 →
          m_X12_blame 1 (M5 199 4) M5 (fun M8 =>
            m_X12_must__J29 Q  M8)) ∧ (¬ r6 = 0 →
          m_X12_must__J29 Q  M5)))) ∧ (¬ M3 199 8 ≤ 0 →
      Q M3)))
def m_X12_has2_J14  (Q : Int → Mem → Prop)  (s0 : Int) (M : Mem) : Prop :=
  (s0 = 0 ∨ s0 = 1) ∧ Q s0 M
def m_X12_has2 (a0 : Int) (a1 : Int) (M : Mem) (Q : Int → Mem → Prop) : Prop :=
  (inI (zand (zshr a0 a1) 1)) ∧ ((zand (zshr a0 a1) 1 = 1 →
    m_X12_has2_J14 Q 1 M) ∧ (¬ zand (zshr a0 a1) 1 = 1 →
    m_X12_has2_J14 Q 0 M))
def m_X12_fresh_J99  (Q : Int → Mem → Prop)  (v1 : Int) (M : Mem) : Prop :=
  Q v1 M
def m_X12_fresh_J83  (Q : Int → Mem → Prop)   (M : Mem) : Prop :=
  (inI (M 199 8)) ∧ ((M 199 8 = 0 →
    m_X12_ahead  M (fun M2 =>
      m_X12_fresh_J99 Q (M 199 7) M2)) ∧ (¬ M 199 8 = 0 →
    m_X12_fresh_J99 Q (M 199 7) M))
def m_X12_fresh_J77 (k43 : Int → Mem → Prop) (Q : Int → Mem → Prop)  (v1 : Int) (M : Mem) : Prop :=
  k43 (v1 + 1) M
def m_X12_fresh_L43  (Q : Int → Mem → Prop)  : Nat → Int → Mem → Prop
  | 0, _, _ => False
  | f + 1, v1, M =>
  (inI v1) ∧ ((1 < v1 →
    m_X12_fresh_J83 Q  M) ∧ (¬ 1 < v1 →
    (inI (M 199 8)) ∧ ((M 199 8 = 0 →
      m_X12_named v1 (M 199 7) M (fun r6 M5 =>
        (inI r6) ∧ ((r6 = (-1) →
          m_X12_fresh_J77 (m_X12_fresh_L43 Q f) Q v1 M5) ∧ (¬ r6 = (-1) →
          m_X12_blame 2 (M5 199 4) M5 (fun M8 =>
            m_X12_fresh_J77 (m_X12_fresh_L43 Q f) Q v1 M8))))) ∧ (¬ M 199 8 = 0 →
      m_X12_fresh_J83 Q  M))))
def m_X12_fresh_J41  (Q : Int → Mem → Prop)   (M : Mem) : Prop :=
  ∃ fu : Nat, m_X12_fresh_L43 Q fu 0 M
def m_X12_fresh_J32  (Q : Int → Mem → Prop)   (M : Mem) : Prop :=
  m_X12_blame 1 (M 199 4) M (fun M9 =>
    m_X12_fresh_J41 Q  M9)
def m_X12_fresh (M : Mem) (Q : Int → Mem → Prop) : Prop :=
  m_X12_lex  M (fun M10 =>
    (inI (M10 199 8)) ∧ ((M10 199 8 ≤ 0 →
      (inI (M10 199 3)) ∧ ((M10 199 3 = 1 →
        m_X12_isOwn (M10 199 7) M10 (fun r14 M13 =>
          (inI r14) ∧ ((r14 = 0 →
            m_X12_fresh_J41 Q  M13) ∧ (¬ r14 = 0 →
            m_X12_fresh_J32 Q  M13)))) ∧ (¬ M10 199 3 = 1 →
        m_X12_fresh_J32 Q  M10))) ∧ (¬ M10 199 8 ≤ 0 →
      Q 0 M10)))
def m_X12_knownBut_J114  (Q : Int → Mem → Prop)  (s0 : Int) (M : Mem) : Prop :=
  Q s0 M
def m_X12_knownBut_J102  (Q : Int → Mem → Prop)  (v3 : Int) (M : Mem) : Prop :=
  (inI (M 199 8)) ∧ ((M 199 8 ≤ 0 →
    m_X12_knownBut_J114 Q v3 M) ∧ (¬ M 199 8 ≤ 0 →
    m_X12_knownBut_J114 Q 0 M))
def m_X12_knownBut_J91  (Q : Int → Mem → Prop)  (v3 : Int) (M : Mem) : Prop :=
  (inI (M 199 8)) ∧ ((M 199 8 = 0 →
    m_X12_ahead  M (fun M3 =>
      m_X12_knownBut_J102 Q v3 M3)) ∧ (¬ M 199 8 = 0 →
    m_X12_knownBut_J102 Q v3 M))
def m_X12_knownBut_J82  (Q : Int → Mem → Prop)  (v3 : Int) (M : Mem) : Prop :=
  m_X12_blame 3 (M 199 4) M (fun M4 =>
    m_X12_knownBut_J91 Q v3 M4)
def m_X12_knownBut_J61  (Q : Int → Mem → Prop)  (v2 : Int) (s0 : Int) (M : Mem) : Prop :=
  (inI (M 199 8)) ∧ ((M 199 8 = 0 →
    (inI s0) ∧ ((s0 = (-1) →
      m_X12_knownBut_J82 Q s0 M) ∧ (¬ s0 = (-1) →
      m_X12_has2 v2 s0 M (fun r8 M7 =>
        (inI r8) ∧ ((r8 = 0 →
          m_X12_knownBut_J91 Q s0 M7) ∧ (¬ r8 = 0 →
          m_X12_knownBut_J82 Q s0 M7)))))) ∧ (¬ M 199 8 = 0 →
    m_X12_knownBut_J91 Q s0 M))
def m_X12_knownBut_J41  (Q : Int → Mem → Prop)  (v1 : Int) (v2 : Int) (M : Mem) : Prop :=
  (inI (M 199 8)) ∧ ((M 199 8 ≤ 0 →
    m_X12_named v1 (M 199 7) M (fun r12 M11 =>
      m_X12_knownBut_J61 Q v2 r12 M11)) ∧ (¬ M 199 8 ≤ 0 →
    m_X12_knownBut_J61 Q v2 0 M))
def m_X12_knownBut_J32  (Q : Int → Mem → Prop)  (v1 : Int) (v2 : Int) (M : Mem) : Prop :=
  m_X12_blame 1 (M 199 4) M (fun M13 =>
    m_X12_knownBut_J41 Q v1 v2 M13)
def m_X12_knownBut (a0 : Int) (a1 : Int) (M : Mem) (Q : Int → Mem → Prop) : Prop :=
  m_X12_lex  M (fun M14 =>
    (inI (M14 199 8)) ∧ ((M14 199 8 ≤ 0 →
      (inI (M14 199 3)) ∧ ((M14 199 3 = 1 →
        m_X12_isOwn (M14 199 7) M14 (fun r18 M17 =>
          (inI r18) ∧ ((r18 = 0 →
            m_X12_knownBut_J41 Q a0 a1 M17) ∧ (¬ r18 = 0 →
            m_X12_knownBut_J32 Q a0 a1 M17)))) ∧ (¬ M14 199 3 = 1 →
        m_X12_knownBut_J32 Q a0 a1 M14))) ∧ (¬ M14 199 8 ≤ 0 →
      Q 0 M14)))
def m_X12_at (a0 : Int) (a1 : Int) (a2 : Int) (M : Mem) (Q : Int → Mem → Prop) : Prop :=
  Q (((49 * a0) + (7 * a1)) + a2) M
def m_X12_placing_J73  (Q : Mem → Prop)   (M : Mem) : Prop :=
  Q M
def m_X12_placing_J20  (Q : Mem → Prop)  (s1 : Int) (M : Mem) : Prop :=
  m_X12_counts s1 M (fun r2 M1 =>
    (inI r2) ∧ ((r2 = 0 →
      Q M1) ∧ (¬ r2 = 0 →
      ((0 : Int) ≤ M1 199 34 ∧ M1 199 34 < 2) ∧ m_X12_fresh  M1 (fun r6 M5 =>
        ((0 : Int) ≤ (7 * (M1 199 34)) + (M1 201 (M1 199 34)) ∧ (7 * (M1 199 34)) + (M1 201 (M1 199 34)) < 14) ∧ ∀ M8 : Mem, M8 = up M5 218 ((7 * (M1 199 34)) + (M1 201 (M1 199 34))) r6 → (inI (M8 199 8)) ∧ ((M8 199 8 = 0 →
          ((0 : Int) ≤ M8 199 34 ∧ M8 199 34 < 2) ∧ ((0 : Int) ≤ M8 199 34 ∧ M8 199 34 < 2) ∧ ∀ M12 : Mem, M12 = up M8 201 (M8 199 34) ((M8 201 (M8 199 34)) + 1) → m_X12_placing_J73 Q  M12) ∧ (¬ M8 199 8 = 0 →
          m_X12_placing_J73 Q  M8))))))
def m_X12_placing (M : Mem) (Q : Mem → Prop) : Prop :=
  ((0 : Int) ≤ M 199 34 ∧ M 199 34 < 2) ∧ (inI (M 201 (M 199 34))) ∧ ((M 201 (M 199 34) = 7 →
    m_X12_placing_J20 Q 1 M) ∧ (¬ M 201 (M 199 34) = 7 →
    m_X12_placing_J20 Q 0 M))
def m_X12_roading_J79 (k47 : Int → Int → Mem → Prop) (Q : Mem → Prop)  (v1 : Int) (v3 : Int) (s0 : Int) (s1 : Int) (M : Mem) : Prop :=
  k47 (zor s0 s1) (v3 + 1) M
def m_X12_roading_L47  (Q : Mem → Prop) (v1 : Int) : Nat → Int → Int → Mem → Prop
  | 0, _, _, _ => False
  | f + 1, v2, v3, M =>
  (inI v3) ∧ ((7 ≤ v3 →
    m_X12_knownBut 0 v2 M (fun r3 M2 =>
      (inI (M2 199 8)) ∧ ((M2 199 8 ≤ 0 →
        m_X12_at (M2 199 34) v1 r3 M2 (fun r6 M5 =>
          ((0 : Int) ≤ r6 ∧ r6 < 98) ∧ ∀ M8 : Mem, M8 = up M5 203 r6 1 → m_X12_at (M8 199 34) r3 v1 M8 (fun r10 M9 =>
            ((0 : Int) ≤ r10 ∧ r10 < 98) ∧ ∀ M12 : Mem, M12 = up M9 203 r10 1 → ((0 : Int) ≤ M12 199 34 ∧ M12 199 34 < 2) ∧ ((0 : Int) ≤ M12 199 34 ∧ M12 199 34 < 2) ∧ ∀ M15 : Mem, M15 = up M12 202 (M12 199 34) ((M12 202 (M12 199 34)) + 1) → Q M15))) ∧ (¬ M2 199 8 ≤ 0 →
        Q M2)))) ∧ (¬ 7 ≤ v3 →
    m_X12_at (M 199 34) v1 v3 M (fun r17 M16 =>
      ((0 : Int) ≤ r17 ∧ r17 < 98) ∧ (inI (M16 203 r17)) ∧ ((M16 203 r17 ≤ 0 →
        m_X12_roading_J79 (m_X12_roading_L47 Q v1 f) Q v1 v3 v2 0 M16) ∧ (¬ M16 203 r17 ≤ 0 →
        m_X12_roading_J79 (m_X12_roading_L47 Q v1 f) Q v1 v3 v2 (zshl 1 v3) M16)))))
def m_X12_roading_J20  (Q : Mem → Prop)  (s1 : Int) (M : Mem) : Prop :=
  m_X12_counts s1 M (fun r21 M20 =>
    (inI r21) ∧ ((r21 = 0 →
      Q M20) ∧ (¬ r21 = 0 →
      m_X12_knownBut 0 0 M20 (fun r24 M23 =>
        m_X12_must_ 29807 M23 (fun M25 =>
          ∃ fu : Nat, m_X12_roading_L47 Q r24 fu (zshl 1 r24) 0 M25)))))
def m_X12_roading (M : Mem) (Q : Mem → Prop) : Prop :=
  ((0 : Int) ≤ M 199 34 ∧ M 199 34 < 2) ∧ (inI (M 202 (M 199 34))) ∧ ((M 202 (M 199 34) = 12 →
    m_X12_roading_J20 Q 1 M) ∧ (¬ M 202 (M 199 34) = 12 →
    m_X12_roading_J20 Q 0 M))
def m_X12_personing_J114  (Q : Mem → Prop)   (M : Mem) : Prop :=
  Q M
def m_X12_personing_J20  (Q : Mem → Prop)  (s1 : Int) (M : Mem) : Prop :=
  m_X12_counts s1 M (fun r2 M1 =>
    (inI r2) ∧ ((r2 = 0 →
      Q M1) ∧ (¬ r2 = 0 →
      ((0 : Int) ≤ M1 199 34 ∧ M1 199 34 < 2) ∧ ∀ x5 : Int, x5 = (6 * (M1 199 34)) + (M1 205 (M1 199 34)) → m_X12_fresh  M1 (fun r7 M6 =>
        ((0 : Int) ≤ x5 ∧ x5 < 12) ∧ ∀ M9 : Mem, M9 = up M6 219 x5 r7 → m_X12_must_ 24948 M9 (fun M10 =>
          m_X12_knownBut 0 0 M10 (fun r12 M11 =>
            ((0 : Int) ≤ x5 ∧ x5 < 12) ∧ ∀ M14 : Mem, M14 = up M11 206 x5 r12 → m_X12_must_ 1802071652 M14 (fun M15 =>
              m_X12_number 0 9 M15 (fun r17 M16 =>
                ((0 : Int) ≤ x5 ∧ x5 < 12) ∧ ∀ M19 : Mem, M19 = up M16 207 x5 r17 → (inI (M19 199 8)) ∧ ((M19 199 8 = 0 →
                  ((0 : Int) ≤ M19 199 34 ∧ M19 199 34 < 2) ∧ ((0 : Int) ≤ M19 199 34 ∧ M19 199 34 < 2) ∧ ∀ M23 : Mem, M23 = up M19 205 (M19 199 34) ((M19 205 (M19 199 34)) + 1) → m_X12_personing_J114 Q  M23) ∧ (¬ M19 199 8 = 0 →
                  m_X12_personing_J114 Q  M19))))))))))
def m_X12_personing (M : Mem) (Q : Mem → Prop) : Prop :=
  ((0 : Int) ≤ M 199 34 ∧ M 199 34 < 2) ∧ (inI (M 205 (M 199 34))) ∧ ((M 205 (M 199 34) = 6 →
    m_X12_personing_J20 Q 1 M) ∧ (¬ M 205 (M 199 34) = 6 →
    m_X12_personing_J20 Q 0 M))
def m_X12_watching_J46  (Q : Mem → Prop)   (M : Mem) : Prop :=
  Q M
def m_X12_watching (M : Mem) (Q : Mem → Prop) : Prop :=
  m_X12_counts 0 M (fun r2 M1 =>
    (inI r2) ∧ ((r2 = 0 →
      Q M1) ∧ (¬ r2 = 0 →
      ((0 : Int) ≤ M1 199 34 ∧ M1 199 34 < 2) ∧ m_X12_knownBut 1 (M1 208 (M1 199 34)) M1 (fun r6 M5 =>
        (inI (M5 199 8)) ∧ ((M5 199 8 = 0 →
          ((0 : Int) ≤ M5 199 34 ∧ M5 199 34 < 2) ∧ ((0 : Int) ≤ M5 199 34 ∧ M5 199 34 < 2) ∧ ∀ M10 : Mem, M10 = up M5 208 (M5 199 34) (zor (M5 208 (M5 199 34)) (zshl 1 r6)) → m_X12_watching_J46 Q  M10) ∧ (¬ M5 199 8 = 0 →
          m_X12_watching_J46 Q  M5))))))
def m_X12_framing_J154  (Q : Mem → Prop)   (M : Mem) : Prop :=
  Q M
def m_X12_framing_J101 (k68 : Int → Int → Mem → Prop) (Q : Mem → Prop)  (v1 : Int) (v3 : Int) (s0 : Int) (s1 : Int) (M : Mem) : Prop :=
  k68 (zor s0 s1) (v3 + 1) M
def m_X12_framing_L68  (Q : Mem → Prop) (v1 : Int) : Nat → Int → Int → Mem → Prop
  | 0, _, _, _ => False
  | f + 1, v2, v3, M =>
  (inI v3) ∧ (inI v1) ∧ ((v1 ≤ v3 →
    m_X12_knownBut 0 v2 M (fun r4 M3 =>
      ((0 : Int) ≤ v1 ∧ v1 < 16) ∧ ∀ M6 : Mem, M6 = up M3 211 v1 r4 → m_X12_number 0 6 M6 (fun r8 M7 =>
        ((0 : Int) ≤ v1 ∧ v1 < 16) ∧ ∀ M10 : Mem, M10 = up M7 212 v1 r8 → (inI (M10 199 8)) ∧ ((M10 199 8 = 0 →
          ((0 : Int) ≤ M10 199 34 ∧ M10 199 34 < 2) ∧ ((0 : Int) ≤ M10 199 34 ∧ M10 199 34 < 2) ∧ ∀ M14 : Mem, M14 = up M10 209 (M10 199 34) ((M10 209 (M10 199 34)) + 1) → m_X12_framing_J154 Q  M14) ∧ (¬ M10 199 8 = 0 →
          m_X12_framing_J154 Q  M10))))) ∧ (¬ v1 ≤ v3 →
    ((0 : Int) ≤ v3 ∧ v3 < 16) ∧ ((0 : Int) ≤ v1 ∧ v1 < 16) ∧ (inI (M 210 v3)) ∧ (inI (M 210 v1)) ∧ ((M 210 v3 = M 210 v1 →
      ((0 : Int) ≤ v3 ∧ v3 < 16) ∧ m_X12_framing_J101 (m_X12_framing_L68 Q v1 f) Q v1 v3 v2 (zshl 1 (M 211 v3)) M) ∧ (¬ M 210 v3 = M 210 v1 →
      m_X12_framing_J101 (m_X12_framing_L68 Q v1 f) Q v1 v3 v2 0 M))))
def m_X12_framing_J20  (Q : Mem → Prop)  (s1 : Int) (M : Mem) : Prop :=
  m_X12_counts s1 M (fun r21 M20 =>
    (inI r21) ∧ ((r21 = 0 →
      Q M20) ∧ (¬ r21 = 0 →
      ((0 : Int) ≤ M20 199 34 ∧ M20 199 34 < 2) ∧ ∀ x24 : Int, x24 = (8 * (M20 199 34)) + (M20 209 (M20 199 34)) → m_X12_number 1 8 M20 (fun r26 M25 =>
        ((0 : Int) ≤ x24 ∧ x24 < 16) ∧ ∀ M28 : Mem, M28 = up M25 210 x24 r26 → ∃ fu : Nat, m_X12_framing_L68 Q x24 fu 0 (8 * (M28 199 34)) M28))))
def m_X12_framing (M : Mem) (Q : Mem → Prop) : Prop :=
  ((0 : Int) ≤ M 199 34 ∧ M 199 34 < 2) ∧ (inI (M 209 (M 199 34))) ∧ ((M 209 (M 199 34) = 8 →
    m_X12_framing_J20 Q 1 M) ∧ (¬ M 209 (M 199 34) = 8 →
    m_X12_framing_J20 Q 0 M))
def m_X12_reading_J66  (Q : Mem → Prop)  (v2 : Int) (s1 : Int) (M : Mem) : Prop :=
  m_X12_reads s1 M (fun M1 =>
    ((0 : Int) ≤ v2 ∧ v2 < 4) ∧ ∀ M3 : Mem, M3 = up M1 215 v2 (M1 199 33) → Q M3)
def m_X12_reading_J43  (Q : Mem → Prop)  (v1 : Int) (v2 : Int) (s1 : Int) (M : Mem) : Prop :=
  (s1 = 0 ∨ s1 = 1) ∧ ∀ M5 : Mem, M5 = up M 199 35 s1 → ((0 : Int) ≤ v2 ∧ v2 < 4) ∧ ∀ M7 : Mem, M7 = up M5 214 v2 (M5 199 33) → (inI v1) ∧ ((v1 = 0 →
    m_X12_reading_J66 Q v2 1 M7) ∧ (¬ v1 = 0 →
    m_X12_reading_J66 Q v2 0 M7))
def m_X12_reading_J25  (Q : Mem → Prop)  (v1 : Int) (v2 : Int) (s1 : Int) (M : Mem) : Prop :=
  m_X12_counts s1 M (fun r10 M9 =>
    (inI r10) ∧ ((r10 = 0 →
      Q M9) ∧ (¬ r10 = 0 →
      (inI v1) ∧ ((v1 = 1 →
        m_X12_reading_J43 Q v1 v2 1 M9) ∧ (¬ v1 = 1 →
        m_X12_reading_J43 Q v1 v2 0 M9)))))
def m_X12_reading (a0 : Int) (M : Mem) (Q : Mem → Prop) : Prop :=
  ((0 : Int) ≤ (2 * (M 199 34)) + a0 ∧ (2 * (M 199 34)) + a0 < 4) ∧ (inI (M 214 ((2 * (M 199 34)) + a0))) ∧ ((M 214 ((2 * (M 199 34)) + a0) = (-1) →
    m_X12_reading_J25 Q a0 ((2 * (M 199 34)) + a0) 0 M) ∧ (¬ M 214 ((2 * (M 199 34)) + a0) = (-1) →
    m_X12_reading_J25 Q a0 ((2 * (M 199 34)) + a0) 1 M))
def m_X12_raining_J34  (Q : Mem → Prop)   (M : Mem) : Prop :=
  Q M
def m_X12_raining (M : Mem) (Q : Mem → Prop) : Prop :=
  m_X12_counts 0 M (fun r2 M1 =>
    (inI r2) ∧ ((r2 = 0 →
      Q M1) ∧ (¬ r2 = 0 →
      m_X12_number 0 100 M1 (fun r5 M4 =>
        (inI (M4 199 8)) ∧ ((M4 199 8 = 0 →
          ((0 : Int) ≤ M4 199 34 ∧ M4 199 34 < 2) ∧ ∀ M8 : Mem, M8 = up M4 213 (M4 199 34) r5 → m_X12_raining_J34 Q  M8) ∧ (¬ M4 199 8 = 0 →
          m_X12_raining_J34 Q  M4))))))
def m_X12_statement_J159  (Q : Mem → Prop)   (M : Mem) : Prop :=
  Q M
def m_X12_statement (M : Mem) (Q : Mem → Prop) : Prop :=
  m_X12_lex  M (fun M1 =>
    (inI (M1 199 8)) ∧ ((M1 199 8 ≤ 0 →
      m_X12_isWord 482854658917 M1 (fun r4 M3 =>
        (inI r4) ∧ ((r4 = 0 →
          m_X12_isWord 1919902052 M3 (fun r7 M6 =>
            (inI r7) ∧ ((r7 = 0 →
              m_X12_isWord 123581014175598 M6 (fun r10 M9 =>
                (inI r10) ∧ ((r10 = 0 →
                  m_X12_isWord 512736125800 M9 (fun r13 M12 =>
                    (inI r13) ∧ ((r13 = 0 →
                      m_X12_isWord 440005651813 M12 (fun r16 M15 =>
                        (inI r16) ∧ ((r16 = 0 →
                          m_X12_isWord 495873784179 M15 (fun r19 M18 =>
                            (inI r19) ∧ ((r19 = 0 →
                              m_X12_isWord 1735353715 M18 (fun r22 M21 =>
                                (inI r22) ∧ ((r22 = 0 →
                                  m_X12_isWord 1918986606 M21 (fun r25 M24 =>
                                    (inI r25) ∧ ((r25 = 0 →
                                      m_X12_blame 1 (M24 199 4) M24 (fun M27 =>
                                        m_X12_statement_J159 Q  M27)) ∧ (¬ r25 = 0 →
                                      m_X12_raining  M24 (fun M28 =>
                                        m_X12_statement_J159 Q  M28))))) ∧ (¬ r22 = 0 →
                                  m_X12_reading 1 M21 (fun M29 =>
                                    m_X12_statement_J159 Q  M29))))) ∧ (¬ r19 = 0 →
                              m_X12_reading 0 M18 (fun M30 =>
                                m_X12_statement_J159 Q  M30))))) ∧ (¬ r16 = 0 →
                          m_X12_framing  M15 (fun M31 =>
                            m_X12_statement_J159 Q  M31))))) ∧ (¬ r13 = 0 →
                      m_X12_watching  M12 (fun M32 =>
                        m_X12_statement_J159 Q  M32))))) ∧ (¬ r10 = 0 →
                  m_X12_personing  M9 (fun M33 =>
                    m_X12_statement_J159 Q  M33))))) ∧ (¬ r7 = 0 →
              m_X12_roading  M6 (fun M34 =>
                m_X12_statement_J159 Q  M34))))) ∧ (¬ r4 = 0 →
          m_X12_placing  M3 (fun M35 =>
            m_X12_statement_J159 Q  M35))))) ∧ (¬ M1 199 8 ≤ 0 →
      Q M1)))
def m_X12_finishes_J83  (Q : Mem → Prop)   (M : Mem) : Prop :=
  m_X12_must 59 M (fun M1 =>
    Q M1)
def m_X12_finishes_J53  (Q : Mem → Prop)  (v1 : Int) (v2 : Int) (M : Mem) : Prop :=
  m_X12_isSign 59 M (fun r3 M2 =>
    (inI r3) ∧ ((r3 = 0 →
      m_X12_finishes_J83 Q  M2) ∧ (¬ r3 = 0 →
      (inI v1) ∧ ((v1 = 80 →
        (inI v2) ∧ (inI (M2 199 2)) ∧ ((M2 199 2 ≤ v2 →
          m_X12_finishes_J83 Q  M2) ∧ (¬ M2 199 2 ≤ v2 →
          m_X12_blame 6 v2 M2 (fun M8 =>
            m_X12_finishes_J83 Q  M8)))) ∧ (¬ v1 = 80 →
        m_X12_finishes_J83 Q  M2)))))
def m_X12_finishes_J47 (k17 : Int → Mem → Prop) (Q : Mem → Prop)  (v1 : Int) (v2 : Int) (M : Mem) : Prop :=
  k17 (v2 + 1) M
def m_X12_finishes_L17  (Q : Mem → Prop) (v1 : Int) : Nat → Int → Mem → Prop
  | 0, _, _ => False
  | f + 1, v2, M =>
  (inI v2) ∧ (inI (M 199 2)) ∧ ((M 199 2 ≤ v2 →
    m_X12_finishes_J53 Q v1 v2 M) ∧ (¬ M 199 2 ≤ v2 →
    ((0 : Int) ≤ v2 ∧ v2 < 1800) ∧ (inI (M 200 v2)) ∧ ((M 200 v2 = 32 →
      m_X12_finishes_J47 (m_X12_finishes_L17 Q v1 f) Q v1 v2 M) ∧ (¬ M 200 v2 = 32 →
      ((0 : Int) ≤ v2 ∧ v2 < 1800) ∧ (inI (M 200 v2)) ∧ ((M 200 v2 = 10 →
        m_X12_finishes_J47 (m_X12_finishes_L17 Q v1 f) Q v1 v2 M) ∧ (¬ M 200 v2 = 10 →
        m_X12_finishes_J53 Q v1 v2 M))))))
def m_X12_finishes (a0 : Int) (M : Mem) (Q : Mem → Prop) : Prop :=
  m_X12_lex  M (fun M15 =>
    (inI (M15 199 8)) ∧ ((M15 199 8 ≤ 0 →
      ∃ fu : Nat, m_X12_finishes_L17 Q a0 fu (M15 199 5) M15) ∧ (¬ M15 199 8 ≤ 0 →
      Q M15)))
def m_X12_measures_J171 (k79 : Int → Mem → Prop) (k87 : Int → Mem → Prop) (k95 : Int → Mem → Prop) (Q : Mem → Prop)  (v1 : Int) (v2 : Int) (v3 : Int) (M : Mem) : Prop :=
  k95 (v3 + 1) M
def m_X12_measures_L95 (k79 : Int → Mem → Prop) (k87 : Int → Mem → Prop) (Q : Mem → Prop) (v1 : Int) (v2 : Int) : Nat → Int → Mem → Prop
  | 0, _, _ => False
  | f + 1, v3, M =>
  (inI v3) ∧ ((7 ≤ v3 →
    k87 (v2 + 1) M) ∧ (¬ 7 ≤ v3 →
    m_X12_at (M 199 34) v2 v1 M (fun r3 M2 =>
      ((0 : Int) ≤ r3 ∧ r3 < 98) ∧ m_X12_at (M2 199 34) v1 v3 M2 (fun r6 M5 =>
        ((0 : Int) ≤ r6 ∧ r6 < 98) ∧ m_X12_at (M5 199 34) v2 v3 M5 (fun r9 M8 =>
          ((0 : Int) ≤ r9 ∧ r9 < 98) ∧ (inI ((M2 204 r3) + (M5 204 r6))) ∧ (inI (M8 204 r9)) ∧ ((M8 204 r9 ≤ (M2 204 r3) + (M5 204 r6) →
            m_X12_measures_J171 k79 k87 (m_X12_measures_L95 k79 k87 Q v1 v2 f) Q v1 v2 v3 M8) ∧ (¬ M8 204 r9 ≤ (M2 204 r3) + (M5 204 r6) →
            m_X12_at (M8 199 34) v2 v3 M8 (fun r14 M13 =>
              ((0 : Int) ≤ r14 ∧ r14 < 98) ∧ ∀ M16 : Mem, M16 = up M13 204 r14 ((M2 204 r3) + (M5 204 r6)) → m_X12_measures_J171 k79 k87 (m_X12_measures_L95 k79 k87 Q v1 v2 f) Q v1 v2 v3 M16))))))))
def m_X12_measures_L87 (k79 : Int → Mem → Prop) (Q : Mem → Prop) (v1 : Int) : Nat → Int → Mem → Prop
  | 0, _, _ => False
  | f + 1, v2, M =>
  (inI v2) ∧ ((7 ≤ v2 →
    k79 (v1 + 1) M) ∧ (¬ 7 ≤ v2 →
    ∃ fu : Nat, m_X12_measures_L95 k79 (m_X12_measures_L87 k79 Q v1 f) Q v1 v2 fu 0 M))
def m_X12_measures_L79  (Q : Mem → Prop)  : Nat → Int → Mem → Prop
  | 0, _, _ => False
  | f + 1, v1, M =>
  (inI v1) ∧ ((7 ≤ v1 →
    Q M) ∧ (¬ 7 ≤ v1 →
    ∃ fu : Nat, m_X12_measures_L87 (m_X12_measures_L79 Q f) Q v1 fu 0 M))
def m_X12_measures_J64 (k2 : Int → Mem → Prop) (k10 : Int → Mem → Prop) (Q : Mem → Prop)  (v1 : Int) (v2 : Int) (s0 : Int) (s1 : Int) (s2 : Int) (M : Mem) : Prop :=
  ((0 : Int) ≤ s1 ∧ s1 < (ln s0)) ∧ ∀ M20 : Mem, M20 = up M s0 s1 s2 → k10 (v2 + 1) M20
def m_X12_measures_L10 (k2 : Int → Mem → Prop) (Q : Mem → Prop) (v1 : Int) : Nat → Int → Mem → Prop
  | 0, _, _ => False
  | f + 1, v2, M =>
  (inI v2) ∧ ((7 ≤ v2 →
    k2 (v1 + 1) M) ∧ (¬ 7 ≤ v2 →
    m_X12_at (M 199 34) v1 v2 M (fun r23 M22 =>
      (inI v1) ∧ (inI v2) ∧ ((v1 = v2 →
        m_X12_measures_J64 k2 (m_X12_measures_L10 k2 Q v1 f) Q v1 v2 204 r23 0 M22) ∧ (¬ v1 = v2 →
        m_X12_at (M22 199 34) v1 v2 M22 (fun r27 M26 =>
          ((0 : Int) ≤ r27 ∧ r27 < 98) ∧ (inI (M26 203 r27)) ∧ ((M26 203 r27 ≤ 0 →
            m_X12_measures_J64 k2 (m_X12_measures_L10 k2 Q v1 f) Q v1 v2 204 r23 100000000 M26) ∧ (¬ M26 203 r27 ≤ 0 →
            m_X12_measures_J64 k2 (m_X12_measures_L10 k2 Q v1 f) Q v1 v2 204 r23 1 M26))))))))
def m_X12_measures_L2  (Q : Mem → Prop)  : Nat → Int → Mem → Prop
  | 0, _, _ => False
  | f + 1, v1, M =>
  (inI v1) ∧ ((7 ≤ v1 →
    ∃ fu : Nat, m_X12_measures_L79 Q fu 0 M) ∧ (¬ 7 ≤ v1 →
    ∃ fu : Nat, m_X12_measures_L10 (m_X12_measures_L2 Q f) Q v1 fu 0 M))
def m_X12_measures (M : Mem) (Q : Mem → Prop) : Prop :=
  ∃ fu : Nat, m_X12_measures_L2 Q fu 0 M
def m_X12_begin_L73  (Q : Mem → Prop)  : Nat → Int → Mem → Prop
  | 0, _, _ => False
  | f + 1, v1, M =>
  (inI v1) ∧ ((8 ≤ v1 →
    ∀ M2 : Mem, M2 = up M 232 0 0 → ∀ M3 : Mem, M3 = up M2 199 55 0 → ∀ M4 : Mem, M4 = up M3 199 60 0 → Q M4) ∧ (¬ 8 ≤ v1 →
    ((0 : Int) ≤ (8 * (M 199 13)) + v1 ∧ (8 * (M 199 13)) + v1 < 16) ∧ ((0 : Int) ≤ 3 * v1 ∧ 3 * v1 < 594) ∧ ∀ M7 : Mem, M7 = up M 231 (3 * v1) (M 210 ((8 * (M 199 13)) + v1)) → ((0 : Int) ≤ (8 * (M7 199 13)) + v1 ∧ (8 * (M7 199 13)) + v1 < 16) ∧ ((0 : Int) ≤ (3 * v1) + 1 ∧ (3 * v1) + 1 < 594) ∧ ∀ M10 : Mem, M10 = up M7 231 ((3 * v1) + 1) (M7 211 ((8 * (M7 199 13)) + v1)) → ((0 : Int) ≤ (8 * (M10 199 13)) + v1 ∧ (8 * (M10 199 13)) + v1 < 16) ∧ ((0 : Int) ≤ (3 * v1) + 2 ∧ (3 * v1) + 2 < 594) ∧ ∀ M13 : Mem, M13 = up M10 231 ((3 * v1) + 2) (M10 212 ((8 * (M10 199 13)) + v1)) → m_X12_begin_L73 Q f (v1 + 1) M13))
def m_X12_begin_L24  (Q : Mem → Prop)  : Nat → Int → Mem → Prop
  | 0, _, _ => False
  | f + 1, v1, M =>
  (inI v1) ∧ ((6 ≤ v1 →
    ((0 : Int) ≤ M 199 13 ∧ M 199 13 < 2) ∧ ∀ M16 : Mem, M16 = up M 230 0 (M 209 (M 199 13)) → ∃ fu : Nat, m_X12_begin_L73 Q fu 0 M16) ∧ (¬ 6 ≤ v1 →
    ((0 : Int) ≤ (6 * (M 199 13)) + v1 ∧ (6 * (M 199 13)) + v1 < 12) ∧ ((0 : Int) ≤ v1 ∧ v1 < 132) ∧ ∀ M19 : Mem, M19 = up M 228 v1 (M 206 ((6 * (M 199 13)) + v1)) → m_X12_begin_L24 Q f (v1 + 1) M19))
def m_X12_begin (M : Mem) (Q : Mem → Prop) : Prop :=
  ∀ M20 : Mem, M20 = up M 227 0 0 → ((0 : Int) ≤ M20 199 13 ∧ M20 199 13 < 2) ∧ ∀ M22 : Mem, M22 = up M20 229 0 (M20 208 (M20 199 13)) → ∃ fu : Nat, m_X12_begin_L24 Q fu 0 M22
def m_X12_town_J208  (Q : Int → Mem → Prop)  (v1 : Int) (M : Mem) : Prop :=
  ∀ M1 : Mem, M1 = up M 199 10 (M 199 8) → ∀ M2 : Mem, M2 = up M1 199 11 (M1 199 9) → (inI (M2 199 8)) ∧ ((M2 199 8 ≤ 0 →
    m_X12_measures  M2 (fun M4 =>
      ∀ M5 : Mem, M5 = up M4 199 13 (M4 199 34) → m_X12_begin  M5 (fun M6 =>
        Q v1 M6))) ∧ (¬ M2 199 8 ≤ 0 →
    m_X12_refuses 1 M2 (fun r8 M7 =>
      Q r8 M7)))
def m_X12_town_L179  (Q : Int → Mem → Prop)  : Nat → Int → Mem → Prop
  | 0, _, _ => False
  | f + 1, v1, M =>
  (inI (M 199 8)) ∧ ((M 199 8 = 0 →
    (inI (M 199 3)) ∧ ((M 199 3 = 0 →
      m_X12_town_J208 Q v1 M) ∧ (¬ M 199 3 = 0 →
      m_X12_statement  M (fun M11 =>
        m_X12_finishes (v1 + 1) M11 (fun M12 =>
          m_X12_town_L179 Q f (v1 + 1) M12))))) ∧ (¬ M 199 8 = 0 →
    m_X12_town_J208 Q v1 M))
def m_X12_town_L134 (k126 : Int → Mem → Prop) (Q : Int → Mem → Prop) (v1 : Int) : Nat → Int → Mem → Prop
  | 0, _, _ => False
  | f + 1, v2, M =>
  (inI v2) ∧ ((7 ≤ v2 →
    k126 (v1 + 1) M) ∧ (¬ 7 ≤ v2 →
    m_X12_at (M 199 34) v1 v2 M (fun r15 M14 =>
      ((0 : Int) ≤ r15 ∧ r15 < 98) ∧ ∀ M17 : Mem, M17 = up M14 203 r15 0 → m_X12_town_L134 k126 Q v1 f (v2 + 1) M17)))
def m_X12_town_L126  (Q : Int → Mem → Prop)  : Nat → Int → Mem → Prop
  | 0, _, _ => False
  | f + 1, v1, M =>
  (inI v1) ∧ ((7 ≤ v1 →
    ∀ M19 : Mem, M19 = up M 199 33 0 → m_X12_ahead  M19 (fun M20 =>
      ∃ fu : Nat, m_X12_town_L179 Q fu 0 M20)) ∧ (¬ 7 ≤ v1 →
    ∃ fu : Nat, m_X12_town_L134 (m_X12_town_L126 Q f) Q v1 fu 0 M))
def m_X12_town (M : Mem) (Q : Int → Mem → Prop) : Prop :=
  ∀ M21 : Mem, M21 = up M 199 2 (M 199 1) → ∀ M22 : Mem, M22 = up M21 199 1 0 → ∀ M23 : Mem, M23 = up M22 199 5 0 → ∀ M24 : Mem, M24 = up M23 199 8 0 → ∀ M25 : Mem, M25 = up M24 199 9 (-1) → ∀ M26 : Mem, M26 = up M25 199 34 (1 - (M25 199 13)) → ((0 : Int) ≤ M26 199 34 ∧ M26 199 34 < 2) ∧ ∀ M28 : Mem, M28 = up M26 201 (M26 199 34) 0 → ((0 : Int) ≤ M28 199 34 ∧ M28 199 34 < 2) ∧ ∀ M30 : Mem, M30 = up M28 202 (M28 199 34) 0 → ((0 : Int) ≤ M30 199 34 ∧ M30 199 34 < 2) ∧ ∀ M32 : Mem, M32 = up M30 205 (M30 199 34) 0 → ((0 : Int) ≤ M32 199 34 ∧ M32 199 34 < 2) ∧ ∀ M34 : Mem, M34 = up M32 208 (M32 199 34) 0 → ((0 : Int) ≤ M34 199 34 ∧ M34 199 34 < 2) ∧ ∀ M36 : Mem, M36 = up M34 209 (M34 199 34) 0 → ((0 : Int) ≤ M36 199 34 ∧ M36 199 34 < 2) ∧ ∀ M38 : Mem, M38 = up M36 213 (M36 199 34) 0 → ((0 : Int) ≤ 2 * (M38 199 34) ∧ 2 * (M38 199 34) < 4) ∧ ∀ M40 : Mem, M40 = up M38 214 (2 * (M38 199 34)) (-1) → ((0 : Int) ≤ (2 * (M40 199 34)) + 1 ∧ (2 * (M40 199 34)) + 1 < 4) ∧ ∀ M42 : Mem, M42 = up M40 214 ((2 * (M40 199 34)) + 1) (-1) → ∃ fu : Nat, m_X12_town_L126 Q fu 0 M42
def m_X12_fault_J24  (Q : Int → Mem → Prop)  (s0 : Int) (M : Mem) : Prop :=
  Q s0 M
def m_X12_fault (a0 : Int) (M : Mem) (Q : Int → Mem → Prop) : Prop :=
  (inI a0) ∧ ((a0 = 0 →
    m_X12_fault_J24 Q (M 199 10) M) ∧ (¬ a0 = 0 →
    (inI a0) ∧ ((a0 = 1 →
      m_X12_fault_J24 Q (M 199 11) M) ∧ (¬ a0 = 1 →
      m_X12_fault_J24 Q (-1) M))))
def m_X12_status_J19  (Q : Int → Mem → Prop)  (s0 : Int) (M : Mem) : Prop :=
  Q s0 M
def m_X12_status (a0 : Int) (M : Mem) (Q : Int → Mem → Prop) : Prop :=
  m_X12_is a0 0 5 M (fun r2 M1 =>
    (inI r2) ∧ ((r2 = 0 →
      m_X12_status_J19 Q (-1) M1) ∧ (¬ r2 = 0 →
      ((0 : Int) ≤ a0 ∧ a0 < 6) ∧ m_X12_status_J19 Q (M1 226 a0) M1)))
def m_X12_copies_L122  (Q : Mem → Prop) (v1 : Int) (v2 : Int) : Nat → Int → Mem → Prop
  | 0, _, _ => False
  | f + 1, v3, M =>
  ((0 : Int) ≤ v2 ∧ v2 < 22) ∧ (inI v3) ∧ (inI (3 * (M 232 v2))) ∧ ((3 * (M 232 v2) ≤ v3 →
    Q M) ∧ (¬ 3 * (M 232 v2) ≤ v3 →
    ((0 : Int) ≤ (120 * v2) + v3 ∧ (120 * v2) + v3 < 2640) ∧ ((0 : Int) ≤ (120 * v1) + v3 ∧ (120 * v1) + v3 < 2640) ∧ ∀ M6 : Mem, M6 = up M 233 ((120 * v1) + v3) (M 233 ((120 * v2) + v3)) → m_X12_copies_L122 Q v1 v2 f (v3 + 1) M6))
def m_X12_copies_L74  (Q : Mem → Prop) (v1 : Int) (v2 : Int) : Nat → Int → Mem → Prop
  | 0, _, _ => False
  | f + 1, v3, M =>
  (inI v3) ∧ ((27 ≤ v3 →
    ((0 : Int) ≤ v2 ∧ v2 < 22) ∧ ((0 : Int) ≤ v1 ∧ v1 < 22) ∧ ∀ M10 : Mem, M10 = up M 232 v1 (M 232 v2) → ∃ fu : Nat, m_X12_copies_L122 Q v1 v2 fu 0 M10) ∧ (¬ 27 ≤ v3 →
    ((0 : Int) ≤ (27 * v2) + v3 ∧ (27 * v2) + v3 < 594) ∧ ((0 : Int) ≤ (27 * v1) + v3 ∧ (27 * v1) + v3 < 594) ∧ ∀ M13 : Mem, M13 = up M 231 ((27 * v1) + v3) (M 231 ((27 * v2) + v3)) → m_X12_copies_L74 Q v1 v2 f (v3 + 1) M13))
def m_X12_copies_L26  (Q : Mem → Prop) (v1 : Int) (v2 : Int) : Nat → Int → Mem → Prop
  | 0, _, _ => False
  | f + 1, v3, M =>
  (inI v3) ∧ ((6 ≤ v3 →
    ((0 : Int) ≤ v2 ∧ v2 < 22) ∧ ((0 : Int) ≤ v1 ∧ v1 < 22) ∧ ∀ M17 : Mem, M17 = up M 230 v1 (M 230 v2) → ∃ fu : Nat, m_X12_copies_L74 Q v1 v2 fu 0 M17) ∧ (¬ 6 ≤ v3 →
    ((0 : Int) ≤ (6 * v2) + v3 ∧ (6 * v2) + v3 < 132) ∧ ((0 : Int) ≤ (6 * v1) + v3 ∧ (6 * v1) + v3 < 132) ∧ ∀ M20 : Mem, M20 = up M 228 ((6 * v1) + v3) (M 228 ((6 * v2) + v3)) → m_X12_copies_L26 Q v1 v2 f (v3 + 1) M20))
def m_X12_copies (a0 : Int) (a1 : Int) (M : Mem) (Q : Mem → Prop) : Prop :=
  ((0 : Int) ≤ a1 ∧ a1 < 22) ∧ ((0 : Int) ≤ a0 ∧ a0 < 22) ∧ ∀ M23 : Mem, M23 = up M 227 a0 (M 227 a1) → ((0 : Int) ≤ a1 ∧ a1 < 22) ∧ ((0 : Int) ≤ a0 ∧ a0 < 22) ∧ ∀ M26 : Mem, M26 = up M23 229 a0 (M23 229 a1) → ∃ fu : Nat, m_X12_copies_L26 Q a0 a1 fu 0 M26
def m_X12_slot (a0 : Int) (M : Mem) (Q : Int → Mem → Prop) : Prop :=
  (inI ((M 199 54) + a0)) ∧ Q (2 + (((M 199 54) + a0).tmod 20)) M
def m_X12_keeps_J32  (Q : Mem → Prop)   (M : Mem) : Prop :=
  m_X12_slot (M 199 55) M (fun r2 M1 =>
    m_X12_copies r2 0 M1 (fun M3 =>
      ∀ M4 : Mem, M4 = up M3 199 55 ((M3 199 55) + 1) → Q M4))
def m_X12_keeps (M : Mem) (Q : Mem → Prop) : Prop :=
  (inI (M 199 55)) ∧ ((M 199 55 = 20 →
    (inI ((M 199 54) + 1)) ∧ ∀ M7 : Mem, M7 = up M 199 54 (((M 199 54) + 1).tmod 20) → ∀ M8 : Mem, M8 = up M7 199 55 ((M7 199 55) - 1) → m_X12_keeps_J32 Q  M8) ∧ (¬ M 199 55 = 20 →
    m_X12_keeps_J32 Q  M))
def m_X12_undo_J20  (Q : Int → Mem → Prop)  (s0 : Int) (M : Mem) : Prop :=
  (s0 = 0 ∨ s0 = 1) ∧ Q s0 M
def m_X12_undo (M : Mem) (Q : Int → Mem → Prop) : Prop :=
  (inI (M 199 55)) ∧ ((M 199 55 = 0 →
    m_X12_refuses 4 M (fun r8 M7 =>
      (inI r8) ∧ ((r8 < 0 →
        m_X12_undo_J20 Q 0 M7) ∧ (¬ r8 < 0 →
        m_X12_undo_J20 Q 1 M7)))) ∧ (¬ M 199 55 = 0 →
    ∀ M3 : Mem, M3 = up M 199 55 ((M 199 55) - 1) → m_X12_slot (M3 199 55) M3 (fun r5 M4 =>
      m_X12_copies 0 r5 M4 (fun M6 =>
        Q 1 M6))))
def m_X12_held_J29  (Q : Int → Mem → Prop)  (s0 : Int) (M : Mem) : Prop :=
  Q s0 M
def m_X12_held (a0 : Int) (M : Mem) (Q : Int → Mem → Prop) : Prop :=
  (inL a0) ∧ ((a0 ≤ 1000000 →
    (inL a0) ∧ (((-1000000) ≤ a0 →
      m_X12_held_J29 Q a0 M) ∧ (¬ (-1000000) ≤ a0 →
      m_X12_held_J29 Q (-1000000) M))) ∧ (¬ a0 ≤ 1000000 →
    m_X12_held_J29 Q 1000000 M))
def m_X12_floor_J55  (Q : Int → Mem → Prop)  (s0 : Int) (M : Mem) : Prop :=
  Q s0 M
def m_X12_floor_J53  (Q : Int → Mem → Prop)  (v4 : Int) (M : Mem) : Prop :=
  m_X12_floor_J55 Q v4 M
def m_X12_floor_J43  (Q : Int → Mem → Prop)  (v4 : Int) (s0 : Int) (s1 : Int) (M : Mem) : Prop :=
  (inI s0) ∧ (inI s1) ∧ ((s0 = s1 →
    m_X12_floor_J53 Q v4 M) ∧ (¬ s0 = s1 →
    m_X12_floor_J55 Q (v4 - 1) M))
def m_X12_floor_J32  (Q : Int → Mem → Prop)  (v2 : Int) (v4 : Int) (s0 : Int) (M : Mem) : Prop :=
  (inL v2) ∧ ((0 ≤ v2 →
    m_X12_floor_J43 Q v4 s0 0 M) ∧ (¬ 0 ≤ v2 →
    m_X12_floor_J43 Q v4 s0 1 M))
def m_X12_floor (a0 : Int) (a1 : Int) (M : Mem) (Q : Int → Mem → Prop) : Prop :=
  (inL a1) ∧ ((a1 = 0 →
    Q 0 M) ∧ (¬ a1 = 0 →
    (inL a0) ∧ (inL a1) ∧ (¬ a1 = 0) ∧ (inL a0) ∧ (inL a1) ∧ (¬ a1 = 0) ∧ (inL (a0.tmod a1)) ∧ ((a0.tmod a1 = 0 →
      m_X12_floor_J53 Q (a0.tdiv a1) M) ∧ (¬ a0.tmod a1 = 0 →
      (inL a0) ∧ ((0 ≤ a0 →
        m_X12_floor_J32 Q a1 (a0.tdiv a1) 0 M) ∧ (¬ 0 ≤ a0 →
        m_X12_floor_J32 Q a1 (a0.tdiv a1) 1 M))))))
def m_X12_two_J172  (Q : Int → Mem → Prop)  (s0 : Int) (M : Mem) : Prop :=
  Q s0 M
def m_X12_two_J160  (Q : Int → Mem → Prop)  (s0 : Int) (M : Mem) : Prop :=
  Q s0 M
def m_X12_two_J148  (Q : Int → Mem → Prop)  (s0 : Int) (M : Mem) : Prop :=
  Q s0 M
def m_X12_two_J136  (Q : Int → Mem → Prop)  (s0 : Int) (M : Mem) : Prop :=
  Q s0 M
def m_X12_two_J124  (Q : Int → Mem → Prop)  (s0 : Int) (M : Mem) : Prop :=
  Q s0 M
def m_X12_two_J112  (Q : Int → Mem → Prop)  (s0 : Int) (M : Mem) : Prop :=
  Q s0 M
def m_X12_two (a0 : Int) (a1 : Int) (a2 : Int) (M : Mem) (Q : Int → Mem → Prop) : Prop :=
  (inI a0) ∧ ((a0 = 31 →
    m_X12_held (a1 + a2) M (fun r3 M2 =>
      Q r3 M2)) ∧
(a0 = 32 →
    m_X12_held (a1 - a2) M (fun r5 M4 =>
      Q r5 M4)) ∧
(a0 = 33 →
    m_X12_held (a1 * a2) M (fun r7 M6 =>
      Q r7 M6)) ∧
(a0 = 34 →
    m_X12_floor a1 a2 M (fun r9 M8 =>
      m_X12_held r9 M8 (fun r11 M10 =>
        Q r11 M10))) ∧
(a0 = 35 →
    (inL a2) ∧ ((a2 = 0 →
      m_X12_two_J112 Q 0 M) ∧ (¬ a2 = 0 →
      m_X12_floor a1 a2 M (fun r14 M13 =>
        m_X12_held (a1 - (a2 * r14)) M13 (fun r16 M15 =>
          m_X12_two_J112 Q r16 M15))))) ∧
(a0 = 36 →
    (inL a1) ∧ (inL a2) ∧ ((a2 ≤ a1 →
      m_X12_two_J124 Q a2 M) ∧ (¬ a2 ≤ a1 →
      m_X12_two_J124 Q a1 M))) ∧
(a0 = 37 →
    (inL a1) ∧ (inL a2) ∧ ((a1 ≤ a2 →
      m_X12_two_J136 Q a2 M) ∧ (¬ a1 ≤ a2 →
      m_X12_two_J136 Q a1 M))) ∧
(a0 = 38 →
    (inL a1) ∧ (inL a2) ∧ ((a2 ≤ a1 →
      m_X12_two_J148 Q 0 M) ∧ (¬ a2 ≤ a1 →
      m_X12_two_J148 Q 1 M))) ∧
(a0 = 39 →
    (inL a1) ∧ (inL a2) ∧ ((a1 ≤ a2 →
      m_X12_two_J160 Q 0 M) ∧ (¬ a1 ≤ a2 →
      m_X12_two_J160 Q 1 M))) ∧
(a0 = 40 →
    (inL a1) ∧ (inL a2) ∧ ((a1 = a2 →
      m_X12_two_J172 Q 1 M) ∧ (¬ a1 = a2 →
      m_X12_two_J172 Q 0 M))) ∧
(a0 = 41 →
    Q (wand a1 a2) M) ∧
(a0 < 31 ∨ 41 < a0 →
    Q (wor a1 a2) M))
def m_X12_reckons_J221 (k25 : Int → Int → Mem → Prop) (Q : Int → Mem → Prop)  (v1 : Int) (v2 : Int) (v3 : Int) (M : Mem) : Prop :=
  k25 v2 (v3 + 1) M
def m_X12_reckons_J187 (k25 : Int → Int → Mem → Prop) (Q : Int → Mem → Prop)  (v1 : Int) (v2 : Int) (v3 : Int) (s0 : Int) (s1 : Int) (s2 : Int) (M : Mem) : Prop :=
  ((0 : Int) ≤ s1 ∧ s1 < (ln s0)) ∧ ∀ M2 : Mem, M2 = up M s0 s1 s2 → m_X12_reckons_J221 k25 Q v1 v2 v3 M2
def m_X12_reckons_J105 (k25 : Int → Int → Mem → Prop) (Q : Int → Mem → Prop)  (v1 : Int) (v2 : Int) (v3 : Int) (s0 : Int) (s1 : Int) (s2 : Int) (M : Mem) : Prop :=
  ((0 : Int) ≤ s1 ∧ s1 < (ln s0)) ∧ ∀ M4 : Mem, M4 = up M s0 s1 s2 → m_X12_reckons_J221 k25 Q v1 (v2 + 1) v3 M4
def m_X12_reckons_L25  (Q : Int → Mem → Prop) (v1 : Int) : Nat → Int → Int → Mem → Prop
  | 0, _, _, _ => False
  | f + 1, v2, v3, M =>
  ((0 : Int) ≤ (2 * (M 199 13)) + v1 ∧ (2 * (M 199 13)) + v1 < 4) ∧ (inI v3) ∧ (inI ((1600 * (M 199 13)) + (M 215 ((2 * (M 199 13)) + v1)))) ∧ (((1600 * (M 199 13)) + (M 215 ((2 * (M 199 13)) + v1)) ≤ v3 →
    Q (M 234 0) M) ∧ (¬ (1600 * (M 199 13)) + (M 215 ((2 * (M 199 13)) + v1)) ≤ v3 →
    ((0 : Int) ≤ v3 ∧ v3 < 3200) ∧ (inI (M 216 v3)) ∧ ((30 < M 216 v3 →
      (inI (M 216 v3)) ∧ ((M 216 v3 = 43 →
        ((0 : Int) ≤ v2 - 1 ∧ v2 - 1 < 500) ∧ ((0 : Int) ≤ v2 - 1 ∧ v2 - 1 < 500) ∧ ∀ M24 : Mem, M24 = up M 234 (v2 - 1) (1 - (M 234 (v2 - 1))) → m_X12_reckons_J221 (m_X12_reckons_L25 Q v1 f) Q v1 v2 v3 M24) ∧ (¬ M 216 v3 = 43 →
        (inI (M 216 v3)) ∧ ((M 216 v3 = 44 →
          ((0 : Int) ≤ (v2 + (-2)) - 1 ∧ (v2 + (-2)) - 1 < 500) ∧ (inL (M 234 ((v2 + (-2)) - 1))) ∧ ((M 234 ((v2 + (-2)) - 1) = 1 →
            ((0 : Int) ≤ v2 + (-2) ∧ v2 + (-2) < 500) ∧ m_X12_reckons_J187 (m_X12_reckons_L25 Q v1 f) Q v1 (v2 + (-2)) v3 234 ((v2 + (-2)) - 1) (M 234 (v2 + (-2))) M) ∧ (¬ M 234 ((v2 + (-2)) - 1) = 1 →
            ((0 : Int) ≤ (v2 + (-2)) + 1 ∧ (v2 + (-2)) + 1 < 500) ∧ m_X12_reckons_J187 (m_X12_reckons_L25 Q v1 f) Q v1 (v2 + (-2)) v3 234 ((v2 + (-2)) - 1) (M 234 ((v2 + (-2)) + 1)) M))) ∧ (¬ M 216 v3 = 44 →
          ((0 : Int) ≤ (v2 + (-1)) - 1 ∧ (v2 + (-1)) - 1 < 500) ∧ ((0 : Int) ≤ v2 + (-1) ∧ v2 + (-1) < 500) ∧ m_X12_two (M 216 v3) (M 234 ((v2 + (-1)) - 1)) (M 234 (v2 + (-1))) M (fun r15 M14 =>
            ((0 : Int) ≤ (v2 + (-1)) - 1 ∧ (v2 + (-1)) - 1 < 500) ∧ ∀ M17 : Mem, M17 = up M14 234 ((v2 + (-1)) - 1) r15 → m_X12_reckons_J221 (m_X12_reckons_L25 Q v1 f) Q v1 (v2 + (-1)) v3 M17)))))) ∧ (¬ 30 < M 216 v3 →
      (inI (M 216 v3)) ∧ ((M 216 v3 = 0 →
        ((0 : Int) ≤ v3 ∧ v3 < 3200) ∧ (inI (M 217 v3)) ∧ m_X12_reckons_J105 (m_X12_reckons_L25 Q v1 f) Q v1 v2 v3 234 v2 (M 217 v3) M) ∧ (¬ M 216 v3 = 0 →
        (inI (M 216 v3)) ∧ ((M 216 v3 = 30 →
          m_X12_reckons_J105 (m_X12_reckons_L25 Q v1 f) Q v1 v2 v3 234 v2 1 M) ∧ (¬ M 216 v3 = 30 →
          ((0 : Int) ≤ M 216 v3 ∧ M 216 v3 < 12) ∧ (inI (M 235 (M 216 v3))) ∧ m_X12_reckons_J105 (m_X12_reckons_L25 Q v1 f) Q v1 v2 v3 234 v2 (M 235 (M 216 v3)) M))))))))
def m_X12_reckons (a0 : Int) (M : Mem) (Q : Int → Mem → Prop) : Prop :=
  ((0 : Int) ≤ (2 * (M 199 13)) + a0 ∧ (2 * (M 199 13)) + a0 < 4) ∧ ∀ x32 : Int, x32 = (1600 * (M 199 13)) + (M 214 ((2 * (M 199 13)) + a0)) → ∃ fu : Nat, m_X12_reckons_L25 Q a0 fu 0 x32 M
def m_X12_isTold_J22  (Q : Int → Mem → Prop)  (s0 : Int) (M : Mem) : Prop :=
  (s0 = 0 ∨ s0 = 1) ∧ Q s0 M
def m_X12_isTold (a0 : Int) (M : Mem) (Q : Int → Mem → Prop) : Prop :=
  ((0 : Int) ≤ (2 * (M 199 13)) + a0 ∧ (2 * (M 199 13)) + a0 < 4) ∧ (inI (M 214 ((2 * (M 199 13)) + a0))) ∧ ((M 214 ((2 * (M 199 13)) + a0) = (-1) →
    m_X12_isTold_J22 Q 0 M) ∧ (¬ M 214 ((2 * (M 199 13)) + a0) = (-1) →
    m_X12_isTold_J22 Q 1 M))
def m_X12_manyAt_J41 (k5 : Int → Int → Mem → Prop) (Q : Int → Mem → Prop)  (v1 : Int) (v2 : Int) (v4 : Int) (s0 : Int) (s1 : Int) (M : Mem) : Prop :=
  k5 (s0 + s1) (v4 + 1) M
def m_X12_manyAt_L5  (Q : Int → Mem → Prop) (v1 : Int) (v2 : Int) : Nat → Int → Int → Mem → Prop
  | 0, _, _, _ => False
  | f + 1, v3, v4, M =>
  ((0 : Int) ≤ M 199 13 ∧ M 199 13 < 2) ∧ (inI v4) ∧ (inI (M 205 (M 199 13))) ∧ ((M 205 (M 199 13) ≤ v4 →
    Q v3 M) ∧ (¬ M 205 (M 199 13) ≤ v4 →
    ((0 : Int) ≤ (6 * v1) + v4 ∧ (6 * v1) + v4 < 54) ∧ (inI (M 236 ((6 * v1) + v4))) ∧ (inI v2) ∧ ((M 236 ((6 * v1) + v4) = v2 →
      m_X12_manyAt_J41 (m_X12_manyAt_L5 Q v1 v2 f) Q v1 v2 v4 v3 1 M) ∧ (¬ M 236 ((6 * v1) + v4) = v2 →
      m_X12_manyAt_J41 (m_X12_manyAt_L5 Q v1 v2 f) Q v1 v2 v4 v3 0 M))))
def m_X12_manyAt (a0 : Int) (a1 : Int) (M : Mem) (Q : Int → Mem → Prop) : Prop :=
  ∃ fu : Nat, m_X12_manyAt_L5 Q a0 a1 fu 0 0 M
def m_X12_shownAt_J59 (k3 : Int → Mem → Prop) (Q : Int → Mem → Prop)  (v1 : Int) (v2 : Int) (v3 : Int) (v4 : Int) (M : Mem) : Prop :=
  k3 (v4 + 1) M
def m_X12_shownAt_L3  (Q : Int → Mem → Prop) (v1 : Int) (v2 : Int) (v3 : Int) : Nat → Int → Mem → Prop
  | 0, _, _ => False
  | f + 1, v4, M =>
  ((0 : Int) ≤ v1 ∧ v1 < 22) ∧ (inI v4) ∧ (inI (M 230 v1)) ∧ ((M 230 v1 ≤ v4 →
    Q 9 M) ∧ (¬ M 230 v1 ≤ v4 →
    ((0 : Int) ≤ 3 * ((9 * v1) + v4) ∧ 3 * ((9 * v1) + v4) < 594) ∧ (inI (M 231 (3 * ((9 * v1) + v4)))) ∧ (inI v2) ∧ ((M 231 (3 * ((9 * v1) + v4)) = v2 →
      ((0 : Int) ≤ (3 * ((9 * v1) + v4)) + 1 ∧ (3 * ((9 * v1) + v4)) + 1 < 594) ∧ (inI (M 231 ((3 * ((9 * v1) + v4)) + 1))) ∧ (inI v3) ∧ ((M 231 ((3 * ((9 * v1) + v4)) + 1) = v3 →
        ((0 : Int) ≤ (3 * ((9 * v1) + v4)) + 2 ∧ (3 * ((9 * v1) + v4)) + 2 < 594) ∧ Q (M 231 ((3 * ((9 * v1) + v4)) + 2)) M) ∧ (¬ M 231 ((3 * ((9 * v1) + v4)) + 1) = v3 →
        m_X12_shownAt_J59 (m_X12_shownAt_L3 Q v1 v2 v3 f) Q v1 v2 v3 v4 M))) ∧ (¬ M 231 (3 * ((9 * v1) + v4)) = v2 →
      m_X12_shownAt_J59 (m_X12_shownAt_L3 Q v1 v2 v3 f) Q v1 v2 v3 v4 M))))
def m_X12_shownAt (a0 : Int) (a1 : Int) (a2 : Int) (M : Mem) (Q : Int → Mem → Prop) : Prop :=
  ∃ fu : Nat, m_X12_shownAt_L3 Q a0 a1 a2 fu 0 M
def m_X12_tells_J161  (Q : Mem → Prop)  (s0 : Int) (s1 : Int) (s2 : Int) (M : Mem) : Prop :=
  ((0 : Int) ≤ s1 ∧ s1 < (ln s0)) ∧ ∀ M2 : Mem, M2 = up M s0 s1 s2 → Q M2
def m_X12_tells_J123  (Q : Mem → Prop)  (v3 : Int) (v4 : Int) (v6 : Int) (s0 : Int) (s1 : Int) (s2 : Int) (M : Mem) : Prop :=
  ((0 : Int) ≤ s1 ∧ s1 < (ln s0)) ∧ ∀ M4 : Mem, M4 = up M s0 s1 s2 → m_X12_manyAt (v3 - 1) v4 M4 (fun r6 M5 =>
    ∀ M7 : Mem, M7 = up M5 235 6 r6 → (inI v6) ∧ ((v6 < 100000000 →
      m_X12_tells_J161 Q 235 7 v6 M7) ∧ (¬ v6 < 100000000 →
      m_X12_tells_J161 Q 235 7 9 M7)))
def m_X12_tells (a0 : Int) (a1 : Int) (a2 : Int) (a3 : Int) (M : Mem) (Q : Mem → Prop) : Prop :=
  ((0 : Int) ≤ (6 * (a2 - 1)) + a1 ∧ (6 * (a2 - 1)) + a1 < 54) ∧ ((0 : Int) ≤ a1 ∧ a1 < 54) ∧ m_X12_at (M 199 13) (M 236 a1) a3 M (fun r12 M11 =>
    ((0 : Int) ≤ r12 ∧ r12 < 98) ∧ ((0 : Int) ≤ (6 * (M11 199 13)) + a1 ∧ (6 * (M11 199 13)) + a1 < 12) ∧ ∀ M15 : Mem, M15 = up M11 235 1 (M11 207 ((6 * (M11 199 13)) + a1)) → ∀ M16 : Mem, M16 = up M15 235 2 a2 → ((0 : Int) ≤ a0 ∧ a0 < 22) ∧ ∀ M18 : Mem, M18 = up M16 235 3 (M16 227 a0) → m_X12_manyAt (a2 - 1) (M 236 ((6 * (a2 - 1)) + a1)) M18 (fun r20 M19 =>
      ∀ M21 : Mem, M21 = up M19 235 4 r20 → ((0 : Int) ≤ a0 ∧ a0 < 22) ∧ m_X12_has2 (M21 229 a0) a1 M21 (fun r24 M23 =>
        (inI r24) ∧ ((r24 = 0 →
          m_X12_tells_J123 Q a2 a3 (M11 204 r12) 235 5 9 M23) ∧ (¬ r24 = 0 →
          m_X12_shownAt a0 a2 a3 M23 (fun r27 M26 =>
            m_X12_tells_J123 Q a2 a3 (M11 204 r12) 235 5 r27 M26))))))
def m_X12_nextOf_J151 (k54 : Int → Int → Int → Mem → Prop) (Q : Int → Mem → Prop)  (v1 : Int) (v2 : Int) (v3 : Int) (v4 : Int) (v5 : Int) (v6 : Int) (v8 : Int) (M : Mem) : Prop :=
  k54 v5 v6 (v8 + 1) M
def m_X12_nextOf_J143 (k54 : Int → Int → Int → Mem → Prop) (Q : Int → Mem → Prop)  (v1 : Int) (v2 : Int) (v3 : Int) (v4 : Int) (v8 : Int) (v9 : Int) (M : Mem) : Prop :=
  m_X12_nextOf_J151 k54 Q v1 v2 v3 v4 v8 v9 v8 M
def m_X12_nextOf_J124 (k54 : Int → Int → Int → Mem → Prop) (Q : Int → Mem → Prop)  (v1 : Int) (v2 : Int) (v3 : Int) (v4 : Int) (v5 : Int) (v6 : Int) (v8 : Int) (s0 : Int) (M : Mem) : Prop :=
  (inI v5) ∧ ((v5 = (-1) →
    m_X12_nextOf_J143 k54 Q v1 v2 v3 v4 v8 s0 M) ∧ (¬ v5 = (-1) →
    (inL s0) ∧ (inL v6) ∧ ((v6 < s0 →
      m_X12_nextOf_J143 k54 Q v1 v2 v3 v4 v8 s0 M) ∧ (¬ v6 < s0 →
      m_X12_nextOf_J151 k54 Q v1 v2 v3 v4 v5 v6 v8 M))))
def m_X12_nextOf_J98 (k54 : Int → Int → Int → Mem → Prop) (Q : Int → Mem → Prop)  (v1 : Int) (v2 : Int) (v3 : Int) (v4 : Int) (v5 : Int) (v6 : Int) (v8 : Int) (M : Mem) : Prop :=
  m_X12_tells v1 v2 v3 v8 M (fun M4 =>
    m_X12_isTold 1 M4 (fun r6 M5 =>
      (inI r6) ∧ ((r6 = 0 →
        m_X12_nextOf_J124 k54 Q v1 v2 v3 v4 v5 v6 v8 0 M5) ∧ (¬ r6 = 0 →
        m_X12_reckons 1 M5 (fun r9 M8 =>
          m_X12_nextOf_J124 k54 Q v1 v2 v3 v4 v5 v6 v8 r9 M8)))))
def m_X12_nextOf_L54  (Q : Int → Mem → Prop) (v1 : Int) (v2 : Int) (v3 : Int) (v4 : Int) : Nat → Int → Int → Int → Mem → Prop
  | 0, _, _, _, _ => False
  | f + 1, v5, v6, v8, M =>
  ((0 : Int) ≤ M 199 13 ∧ M 199 13 < 2) ∧ (inI v8) ∧ (inI (M 201 (M 199 13))) ∧ ((M 201 (M 199 13) ≤ v8 →
    Q v5 M) ∧ (¬ M 201 (M 199 13) ≤ v8 →
    (inI v8) ∧ (inI v4) ∧ ((v8 = v4 →
      m_X12_nextOf_J98 (m_X12_nextOf_L54 Q v1 v2 v3 v4 f) Q v1 v2 v3 v4 v5 v6 v8 M) ∧ (¬ v8 = v4 →
      m_X12_at (M 199 13) v4 v8 M (fun r16 M15 =>
        ((0 : Int) ≤ r16 ∧ r16 < 98) ∧ (inI (M15 203 r16)) ∧ ((M15 203 r16 = 0 →
          m_X12_nextOf_J151 (m_X12_nextOf_L54 Q v1 v2 v3 v4 f) Q v1 v2 v3 v4 v5 v6 v8 M15) ∧ (¬ M15 203 r16 = 0 →
          m_X12_nextOf_J98 (m_X12_nextOf_L54 Q v1 v2 v3 v4 f) Q v1 v2 v3 v4 v5 v6 v8 M15)))))))
def m_X12_nextOf_J45  (Q : Int → Mem → Prop)  (v1 : Int) (v2 : Int) (v3 : Int) (v4 : Int) (M : Mem) : Prop :=
  ∃ fu : Nat, m_X12_nextOf_L54 Q v1 v2 v3 v4 fu (-1) 0 0 M
def m_X12_nextOf (a0 : Int) (a1 : Int) (a2 : Int) (M : Mem) (Q : Int → Mem → Prop) : Prop :=
  ((0 : Int) ≤ (6 * (a2 - 1)) + a1 ∧ (6 * (a2 - 1)) + a1 < 54) ∧ m_X12_tells a0 a1 a2 (M 236 ((6 * (a2 - 1)) + a1)) M (fun M20 =>
    m_X12_isTold 0 M20 (fun r22 M21 =>
      (inI r22) ∧ ((r22 = 0 →
        m_X12_nextOf_J45 Q a0 a1 a2 (M 236 ((6 * (a2 - 1)) + a1)) M21) ∧ (¬ r22 = 0 →
        m_X12_reckons 0 M21 (fun r25 M24 =>
          (inL r25) ∧ ((r25 = 1 →
            Q (M 236 ((6 * (a2 - 1)) + a1)) M24) ∧ (¬ r25 = 1 →
            m_X12_nextOf_J45 Q a0 a1 a2 (M 236 ((6 * (a2 - 1)) + a1)) M24)))))))
def m_X12_runs_L48 (k40 : Int → Mem → Prop) (Q : Mem → Prop) (v1 : Int) (v2 : Int) : Nat → Int → Mem → Prop
  | 0, _, _ => False
  | f + 1, v3, M =>
  ((0 : Int) ≤ M 199 13 ∧ M 199 13 < 2) ∧ (inI v3) ∧ (inI (M 205 (M 199 13))) ∧ ((M 205 (M 199 13) ≤ v3 →
    k40 (v2 + 1) M) ∧ (¬ M 205 (M 199 13) ≤ v3 →
    m_X12_nextOf v1 v3 v2 M (fun r5 M4 =>
      ((0 : Int) ≤ (6 * v2) + v3 ∧ (6 * v2) + v3 < 54) ∧ ∀ M7 : Mem, M7 = up M4 236 ((6 * v2) + v3) r5 → m_X12_runs_L48 k40 Q v1 v2 f (v3 + 1) M7)))
def m_X12_runs_L40  (Q : Mem → Prop) (v1 : Int) : Nat → Int → Mem → Prop
  | 0, _, _ => False
  | f + 1, v2, M =>
  (inI v2) ∧ ((8 < v2 →
    Q M) ∧ (¬ 8 < v2 →
    ∃ fu : Nat, m_X12_runs_L48 (m_X12_runs_L40 Q v1 f) Q v1 v2 fu 0 M))
def m_X12_runs_L2  (Q : Mem → Prop) (v1 : Int) : Nat → Int → Mem → Prop
  | 0, _, _ => False
  | f + 1, v2, M =>
  ((0 : Int) ≤ M 199 13 ∧ M 199 13 < 2) ∧ (inI v2) ∧ (inI (M 205 (M 199 13))) ∧ ((M 205 (M 199 13) ≤ v2 →
    ∃ fu : Nat, m_X12_runs_L40 Q v1 fu 1 M) ∧ (¬ M 205 (M 199 13) ≤ v2 →
    ((0 : Int) ≤ (6 * v1) + v2 ∧ (6 * v1) + v2 < 132) ∧ ((0 : Int) ≤ v2 ∧ v2 < 54) ∧ ∀ M14 : Mem, M14 = up M 236 v2 (M 228 ((6 * v1) + v2)) → m_X12_runs_L2 Q v1 f (v2 + 1) M14))
def m_X12_runs (a0 : Int) (M : Mem) (Q : Mem → Prop) : Prop :=
  ∃ fu : Nat, m_X12_runs_L2 Q a0 fu 0 M
def m_X12_isTrue_J43  (Q : Int → Mem → Prop)  (s0 : Int) (M : Mem) : Prop :=
  (s0 = 0 ∨ s0 = 1) ∧ Q s0 M
def m_X12_isTrue (a0 : Int) (a1 : Int) (M : Mem) (Q : Int → Mem → Prop) : Prop :=
  ((0 : Int) ≤ 3 * ((9 * a0) + a1) ∧ 3 * ((9 * a0) + a1) < 594) ∧ ((0 : Int) ≤ (3 * ((9 * a0) + a1)) + 1 ∧ (3 * ((9 * a0) + a1)) + 1 < 594) ∧ m_X12_manyAt (M 231 (3 * ((9 * a0) + a1))) (M 231 ((3 * ((9 * a0) + a1)) + 1)) M (fun r5 M4 =>
    ((0 : Int) ≤ (3 * ((9 * a0) + a1)) + 2 ∧ (3 * ((9 * a0) + a1)) + 2 < 594) ∧ (inI r5) ∧ (inI (M4 231 ((3 * ((9 * a0) + a1)) + 2))) ∧ ((r5 = M4 231 ((3 * ((9 * a0) + a1)) + 2) →
      m_X12_isTrue_J43 Q 1 M4) ∧ (¬ r5 = M4 231 ((3 * ((9 * a0) + a1)) + 2) →
      m_X12_isTrue_J43 Q 0 M4)))
def m_X12_trues_J29 (k4 : Int → Int → Mem → Prop) (Q : Int → Mem → Prop)  (v1 : Int) (v3 : Int) (s0 : Int) (s1 : Int) (M : Mem) : Prop :=
  k4 (s0 + s1) (v3 + 1) M
def m_X12_trues_L4  (Q : Int → Mem → Prop) (v1 : Int) : Nat → Int → Int → Mem → Prop
  | 0, _, _, _ => False
  | f + 1, v2, v3, M =>
  ((0 : Int) ≤ v1 ∧ v1 < 22) ∧ (inI v3) ∧ (inI (M 230 v1)) ∧ ((M 230 v1 ≤ v3 →
    Q v2 M) ∧ (¬ M 230 v1 ≤ v3 →
    m_X12_isTrue v1 v3 M (fun r5 M4 =>
      (inI r5) ∧ ((r5 = 0 →
        m_X12_trues_J29 (m_X12_trues_L4 Q v1 f) Q v1 v3 v2 0 M4) ∧ (¬ r5 = 0 →
        m_X12_trues_J29 (m_X12_trues_L4 Q v1 f) Q v1 v3 v2 1 M4)))))
def m_X12_trues (a0 : Int) (M : Mem) (Q : Int → Mem → Prop) : Prop :=
  ∃ fu : Nat, m_X12_trues_L4 Q a0 fu 0 0 M
def m_X12_isAgreed_J24  (Q : Int → Mem → Prop)  (s0 : Int) (M : Mem) : Prop :=
  (s0 = 0 ∨ s0 = 1) ∧ Q s0 M
def m_X12_isAgreed (a0 : Int) (M : Mem) (Q : Int → Mem → Prop) : Prop :=
  m_X12_runs a0 M (fun M2 =>
    m_X12_trues a0 M2 (fun r4 M3 =>
      ((0 : Int) ≤ a0 ∧ a0 < 22) ∧ (inI r4) ∧ (inI (M3 230 a0)) ∧ ((r4 = M3 230 a0 →
        m_X12_isAgreed_J24 Q 1 M3) ∧ (¬ r4 = M3 230 a0 →
        m_X12_isAgreed_J24 Q 0 M3))))
def m_X12_writesDown_J59  (Q : Mem → Prop)  (v1 : Int) (v2 : Int) (M : Mem) : Prop :=
  ((0 : Int) ≤ v1 ∧ v1 < 22) ∧ ((0 : Int) ≤ v1 ∧ v1 < 22) ∧ ((0 : Int) ≤ 3 * ((40 * v1) + (M 232 v1)) ∧ 3 * ((40 * v1) + (M 232 v1)) < 2640) ∧ ∀ M4 : Mem, M4 = up M 233 (3 * ((40 * v1) + (M 232 v1))) (M 227 v1) → ((0 : Int) ≤ v1 ∧ v1 < 22) ∧ ((0 : Int) ≤ (3 * ((40 * v1) + (M 232 v1))) + 1 ∧ (3 * ((40 * v1) + (M 232 v1))) + 1 < 2640) ∧ ∀ M7 : Mem, M7 = up M4 233 ((3 * ((40 * v1) + (M 232 v1))) + 1) (M4 230 v1) → ((0 : Int) ≤ (3 * ((40 * v1) + (M 232 v1))) + 2 ∧ (3 * ((40 * v1) + (M 232 v1))) + 2 < 2640) ∧ ∀ M9 : Mem, M9 = up M7 233 ((3 * ((40 * v1) + (M 232 v1))) + 2) v2 → ((0 : Int) ≤ v1 ∧ v1 < 22) ∧ ((0 : Int) ≤ v1 ∧ v1 < 22) ∧ ∀ M12 : Mem, M12 = up M9 232 v1 ((M9 232 v1) + 1) → Q M12
def m_X12_writesDown_L16  (Q : Mem → Prop) (v1 : Int) (v2 : Int) : Nat → Int → Mem → Prop
  | 0, _, _ => False
  | f + 1, v3, M =>
  (inI v3) ∧ (inI (((120 * v1) + 120) - 3)) ∧ ((((120 * v1) + 120) - 3 ≤ v3 →
    ((0 : Int) ≤ v1 ∧ v1 < 22) ∧ ((0 : Int) ≤ v1 ∧ v1 < 22) ∧ ∀ M17 : Mem, M17 = up M 232 v1 ((M 232 v1) - 1) → m_X12_writesDown_J59 Q v1 v2 M17) ∧ (¬ ((120 * v1) + 120) - 3 ≤ v3 →
    ((0 : Int) ≤ v3 + 3 ∧ v3 + 3 < 2640) ∧ ((0 : Int) ≤ v3 ∧ v3 < 2640) ∧ ∀ M20 : Mem, M20 = up M 233 v3 (M 233 (v3 + 3)) → m_X12_writesDown_L16 Q v1 v2 f (v3 + 1) M20))
def m_X12_writesDown (a0 : Int) (a1 : Int) (M : Mem) (Q : Mem → Prop) : Prop :=
  ((0 : Int) ≤ a0 ∧ a0 < 22) ∧ (inI (M 232 a0)) ∧ ((M 232 a0 = 40 →
    ∃ fu : Nat, m_X12_writesDown_L16 Q a0 a1 fu (120 * a0) M) ∧ (¬ M 232 a0 = 40 →
    m_X12_writesDown_J59 Q a0 a1 M))
def m_X12_passes_L18  (Q : Int → Mem → Prop) (v1 : Int) (v2 : Int) : Nat → Int → Mem → Prop
  | 0, _, _ => False
  | f + 1, v3, M =>
  ((0 : Int) ≤ M 199 13 ∧ M 199 13 < 2) ∧ (inI v3) ∧ (inI (M 205 (M 199 13))) ∧ ((M 205 (M 199 13) ≤ v3 →
    ((0 : Int) ≤ v1 ∧ v1 < 22) ∧ ∀ M5 : Mem, M5 = up M 230 v1 0 → ((0 : Int) ≤ v1 ∧ v1 < 22) ∧ ((0 : Int) ≤ v1 ∧ v1 < 22) ∧ ∀ M8 : Mem, M8 = up M5 227 v1 ((M5 227 v1) + 1) → (v2 = 0 ∨ v2 = 1) ∧ Q v2 M8) ∧ (¬ M 205 (M 199 13) ≤ v3 →
    ((0 : Int) ≤ 48 + v3 ∧ 48 + v3 < 54) ∧ ((0 : Int) ≤ (6 * v1) + v3 ∧ (6 * v1) + v3 < 132) ∧ ∀ M12 : Mem, M12 = up M 228 ((6 * v1) + v3) (M 236 (48 + v3)) → m_X12_passes_L18 Q v1 v2 f (v3 + 1) M12))
def m_X12_passes (a0 : Int) (M : Mem) (Q : Int → Mem → Prop) : Prop :=
  m_X12_isAgreed a0 M (fun r14 M13 =>
    m_X12_trues a0 M13 (fun r16 M15 =>
      m_X12_writesDown a0 r16 M15 (fun M17 =>
        ∃ fu : Nat, m_X12_passes_L18 Q a0 r14 fu 0 M17)))
def m_X12_takes_L9  (Q : Mem → Prop) (v1 : Int) : Nat → Int → Mem → Prop
  | 0, _, _ => False
  | f + 1, v3, M =>
  ((0 : Int) ≤ v1 ∧ v1 < 22) ∧ (inI v3) ∧ (inI ((3 * ((9 * v1) + (M 230 v1))) - 3)) ∧ (((3 * ((9 * v1) + (M 230 v1))) - 3 ≤ v3 →
    ((0 : Int) ≤ v1 ∧ v1 < 22) ∧ ((0 : Int) ≤ v1 ∧ v1 < 22) ∧ ∀ M6 : Mem, M6 = up M 230 v1 ((M 230 v1) - 1) → Q M6) ∧ (¬ (3 * ((9 * v1) + (M 230 v1))) - 3 ≤ v3 →
    ((0 : Int) ≤ v3 + 3 ∧ v3 + 3 < 594) ∧ ((0 : Int) ≤ v3 ∧ v3 < 594) ∧ ∀ M9 : Mem, M9 = up M 231 v3 (M 231 (v3 + 3)) → m_X12_takes_L9 Q v1 f (v3 + 1) M9))
def m_X12_takes (a0 : Int) (a1 : Int) (M : Mem) (Q : Mem → Prop) : Prop :=
  ∃ fu : Nat, m_X12_takes_L9 Q a0 fu (3 * ((9 * a0) + a1)) M
def m_X12_shows (a0 : Int) (a1 : Int) (a2 : Int) (a3 : Int) (M : Mem) (Q : Mem → Prop) : Prop :=
  ((0 : Int) ≤ a0 ∧ a0 < 22) ∧ ((0 : Int) ≤ 3 * ((9 * a0) + (M 230 a0)) ∧ 3 * ((9 * a0) + (M 230 a0)) < 594) ∧ ∀ M3 : Mem, M3 = up M 231 (3 * ((9 * a0) + (M 230 a0))) a1 → ((0 : Int) ≤ (3 * ((9 * a0) + (M 230 a0))) + 1 ∧ (3 * ((9 * a0) + (M 230 a0))) + 1 < 594) ∧ ∀ M5 : Mem, M5 = up M3 231 ((3 * ((9 * a0) + (M 230 a0))) + 1) a2 → ((0 : Int) ≤ (3 * ((9 * a0) + (M 230 a0))) + 2 ∧ (3 * ((9 * a0) + (M 230 a0))) + 2 < 594) ∧ ∀ M7 : Mem, M7 = up M5 231 ((3 * ((9 * a0) + (M 230 a0))) + 2) a3 → ((0 : Int) ≤ a0 ∧ a0 < 22) ∧ ((0 : Int) ≤ a0 ∧ a0 < 22) ∧ ∀ M10 : Mem, M10 = up M7 230 a0 ((M7 230 a0) + 1) → Q M10
def m_X12_frameAt_J55 (k3 : Int → Mem → Prop) (Q : Int → Mem → Prop)  (v1 : Int) (v2 : Int) (v3 : Int) (v4 : Int) (M : Mem) : Prop :=
  k3 (v4 + 1) M
def m_X12_frameAt_L3  (Q : Int → Mem → Prop) (v1 : Int) (v2 : Int) (v3 : Int) : Nat → Int → Mem → Prop
  | 0, _, _ => False
  | f + 1, v4, M =>
  ((0 : Int) ≤ v1 ∧ v1 < 22) ∧ (inI v4) ∧ (inI (M 230 v1)) ∧ ((M 230 v1 ≤ v4 →
    Q (-1) M) ∧ (¬ M 230 v1 ≤ v4 →
    ((0 : Int) ≤ 3 * ((9 * v1) + v4) ∧ 3 * ((9 * v1) + v4) < 594) ∧ (inI (M 231 (3 * ((9 * v1) + v4)))) ∧ (inI v2) ∧ ((M 231 (3 * ((9 * v1) + v4)) = v2 →
      ((0 : Int) ≤ (3 * ((9 * v1) + v4)) + 1 ∧ (3 * ((9 * v1) + v4)) + 1 < 594) ∧ (inI (M 231 ((3 * ((9 * v1) + v4)) + 1))) ∧ (inI v3) ∧ ((M 231 ((3 * ((9 * v1) + v4)) + 1) = v3 →
        Q v4 M) ∧ (¬ M 231 ((3 * ((9 * v1) + v4)) + 1) = v3 →
        m_X12_frameAt_J55 (m_X12_frameAt_L3 Q v1 v2 v3 f) Q v1 v2 v3 v4 M))) ∧ (¬ M 231 (3 * ((9 * v1) + v4)) = v2 →
      m_X12_frameAt_J55 (m_X12_frameAt_L3 Q v1 v2 v3 f) Q v1 v2 v3 v4 M))))
def m_X12_frameAt (a0 : Int) (a1 : Int) (a2 : Int) (M : Mem) (Q : Int → Mem → Prop) : Prop :=
  ∃ fu : Nat, m_X12_frameAt_L3 Q a0 a1 a2 fu 0 M
def m_X12_isPlace_J22  (Q : Int → Mem → Prop)  (s0 : Int) (M : Mem) : Prop :=
  (s0 = 0 ∨ s0 = 1) ∧ Q s0 M
def m_X12_isPlace_J21  (Q : Int → Mem → Prop)   (M : Mem) : Prop :=
  m_X12_isPlace_J22 Q 0 M
def m_X12_isPlace (a0 : Int) (M : Mem) (Q : Int → Mem → Prop) : Prop :=
  (inI a0) ∧ ((a0 < 0 →
    m_X12_isPlace_J21 Q  M) ∧ (¬ a0 < 0 →
    ((0 : Int) ≤ M 199 13 ∧ M 199 13 < 2) ∧ (inI a0) ∧ (inI (M 201 (M 199 13))) ∧ ((M 201 (M 199 13) ≤ a0 →
      m_X12_isPlace_J21 Q  M) ∧ (¬ M 201 (M 199 13) ≤ a0 →
      m_X12_isPlace_J22 Q 1 M))))
def m_X12_isPerson_J22  (Q : Int → Mem → Prop)  (s0 : Int) (M : Mem) : Prop :=
  (s0 = 0 ∨ s0 = 1) ∧ Q s0 M
def m_X12_isPerson_J21  (Q : Int → Mem → Prop)   (M : Mem) : Prop :=
  m_X12_isPerson_J22 Q 0 M
def m_X12_isPerson (a0 : Int) (M : Mem) (Q : Int → Mem → Prop) : Prop :=
  (inI a0) ∧ ((a0 < 0 →
    m_X12_isPerson_J21 Q  M) ∧ (¬ a0 < 0 →
    ((0 : Int) ≤ M 199 13 ∧ M 199 13 < 2) ∧ (inI a0) ∧ (inI (M 205 (M 199 13))) ∧ ((M 205 (M 199 13) ≤ a0 →
      m_X12_isPerson_J21 Q  M) ∧ (¬ M 205 (M 199 13) ≤ a0 →
      m_X12_isPerson_J22 Q 1 M))))
def m_X12_bits_L4  (Q : Int → Mem → Prop)  : Nat → Int → Int → Mem → Prop
  | 0, _, _, _ => False
  | f + 1, v1, v2, M =>
  (inI v2) ∧ ((v2 = 0 →
    Q v1 M) ∧ (¬ v2 = 0 →
    m_X12_bits_L4 Q f (v1 + 1) (zand v2 (v2 - 1)) M))
def m_X12_bits (a0 : Int) (M : Mem) (Q : Int → Mem → Prop) : Prop :=
  ∃ fu : Nat, m_X12_bits_L4 Q fu 0 a0 M
def m_X12_has (a0 : Int) (M : Mem) (Q : Int → Mem → Prop) : Prop :=
  (inI a0) ∧ ((a0 = 0 →
    ((0 : Int) ≤ M 199 13 ∧ M 199 13 < 2) ∧ Q (M 201 (M 199 13)) M) ∧
(a0 = 1 →
    ((0 : Int) ≤ M 199 13 ∧ M 199 13 < 2) ∧ Q (M 202 (M 199 13)) M) ∧
(a0 = 2 →
    ((0 : Int) ≤ M 199 13 ∧ M 199 13 < 2) ∧ Q (M 205 (M 199 13)) M) ∧
(a0 = 3 →
    Q (M 227 0) M) ∧
(a0 = 4 →
    Q (M 230 0) M) ∧
(a0 = 5 →
    m_X12_bits (M 229 0) M (fun r6 M5 =>
      Q r6 M5)) ∧
(a0 = 6 →
    m_X12_runs 0 M (fun M7 =>
      m_X12_trues 0 M7 (fun r9 M8 =>
        Q r9 M8))) ∧
(a0 = 7 →
    Q (M 232 0) M) ∧
(a0 = 8 →
    Q (M 199 60) M) ∧
(a0 = 9 →
    Q (M 199 55) M) ∧
(a0 = 10 →
    Q (M 199 56) M) ∧
(a0 < 0 ∨ 10 < a0 →
    Q (-1) M))
def m_X12_letter_J110  (Q : Int → Mem → Prop)  (s0 : Int) (M : Mem) : Prop :=
  Q s0 M
def m_X12_letter_L58  (Q : Int → Mem → Prop) (v3 : Int) (v4 : Int) : Nat → Int → Int → Mem → Prop
  | 0, _, _, _ => False
  | f + 1, v6, v7, M =>
  (inL v7) ∧ ((v7 ≤ 0 →
    (inI v3) ∧ (inI v6) ∧ ((v3 < v6 →
      m_X12_letter_J110 Q (((wand (wshr v4 (8 * ((v6 - 1) - v3))) 255) - 97) + 1) M) ∧ (¬ v3 < v6 →
      m_X12_letter_J110 Q 0 M))) ∧ (¬ v7 ≤ 0 →
    m_X12_letter_L58 Q v3 v4 f (v6 + 1) (wshr v7 8) M))
def m_X12_letter_J37  (Q : Int → Mem → Prop)   (M : Mem) : Prop :=
  Q (-1) M
def m_X12_letter (a0 : Int) (a1 : Int) (a2 : Int) (M : Mem) (Q : Int → Mem → Prop) : Prop :=
  m_X12_is a0 0 1 M (fun r5 M4 =>
    (inI r5) ∧ ((r5 = 0 →
      m_X12_letter_J37 Q  M4) ∧ (¬ r5 = 0 →
      m_X12_manyOf (M4 199 13) a0 M4 (fun r8 M7 =>
        m_X12_is a1 0 (r8 - 1) M7 (fun r10 M9 =>
          (inI r10) ∧ ((r10 = 0 →
            m_X12_letter_J37 Q  M9) ∧ (¬ r10 = 0 →
            m_X12_is a2 0 5 M9 (fun r13 M12 =>
              (inI r13) ∧ ((r13 = 0 →
                m_X12_letter_J37 Q  M12) ∧ (¬ r13 = 0 →
                m_X12_nameOf (M12 199 13) a0 a1 M12 (fun r16 M15 =>
                  ∃ fu : Nat, m_X12_letter_L58 Q a2 r16 fu 0 r16 M15)))))))))))
def m_X12_far_J56  (Q : Int → Mem → Prop)  (s0 : Int) (M : Mem) : Prop :=
  Q s0 M
def m_X12_far_J55  (Q : Int → Mem → Prop)   (M : Mem) : Prop :=
  m_X12_far_J56 Q (-1) M
def m_X12_far (a0 : Int) (a1 : Int) (M : Mem) (Q : Int → Mem → Prop) : Prop :=
  m_X12_isPlace a0 M (fun r2 M1 =>
    (inI r2) ∧ ((r2 = 0 →
      m_X12_far_J55 Q  M1) ∧ (¬ r2 = 0 →
      m_X12_isPlace a1 M1 (fun r5 M4 =>
        (inI r5) ∧ ((r5 = 0 →
          m_X12_far_J55 Q  M4) ∧ (¬ r5 = 0 →
          m_X12_at (M4 199 13) a0 a1 M4 (fun r8 M7 =>
            ((0 : Int) ≤ r8 ∧ r8 < 98) ∧ (inI (M7 204 r8)) ∧ ((100000000 ≤ M7 204 r8 →
              m_X12_far_J55 Q  M7) ∧ (¬ 100000000 ≤ M7 204 r8 →
              m_X12_at (M7 199 13) a0 a1 M7 (fun r12 M11 =>
                ((0 : Int) ≤ r12 ∧ r12 < 98) ∧ m_X12_far_J56 Q (M11 204 r12) M11))))))))))
def m_X12_person_J72  (Q : Int → Mem → Prop)  (s0 : Int) (M : Mem) : Prop :=
  Q s0 M
def m_X12_person (a0 : Int) (a1 : Int) (M : Mem) (Q : Int → Mem → Prop) : Prop :=
  m_X12_isPerson a0 M (fun r2 M1 =>
    (inI r2) ∧ ((r2 = 0 →
      Q (-1) M1) ∧ (¬ r2 = 0 →
      (inI a1) ∧ ((a1 = 0 →
        ((0 : Int) ≤ a0 ∧ a0 < 132) ∧ m_X12_person_J72 Q (M1 228 a0) M1) ∧ (¬ a1 = 0 →
        (inI a1) ∧ ((a1 = 1 →
          ((0 : Int) ≤ (6 * (M1 199 13)) + a0 ∧ (6 * (M1 199 13)) + a0 < 12) ∧ m_X12_person_J72 Q (M1 207 ((6 * (M1 199 13)) + a0)) M1) ∧ (¬ a1 = 1 →
          (inI a1) ∧ ((a1 = 2 →
            m_X12_has2 (M1 229 0) a0 M1 (fun r8 M7 =>
              (inI r8) ∧ ((r8 = 0 →
                m_X12_person_J72 Q 0 M7) ∧ (¬ r8 = 0 →
                m_X12_person_J72 Q 1 M7)))) ∧ (¬ a1 = 2 →
            m_X12_person_J72 Q (-1) M1)))))))))
def m_X12_whoAt_J44 (k5 : Int → Int → Mem → Prop) (Q : Int → Mem → Prop)  (v1 : Int) (v2 : Int) (v4 : Int) (s0 : Int) (s1 : Int) (M : Mem) : Prop :=
  k5 (zor s0 s1) (v4 + 1) M
def m_X12_whoAt_L5  (Q : Int → Mem → Prop) (v1 : Int) (v2 : Int) : Nat → Int → Int → Mem → Prop
  | 0, _, _, _ => False
  | f + 1, v3, v4, M =>
  ((0 : Int) ≤ M 199 13 ∧ M 199 13 < 2) ∧ (inI v4) ∧ (inI (M 205 (M 199 13))) ∧ ((M 205 (M 199 13) ≤ v4 →
    Q v3 M) ∧ (¬ M 205 (M 199 13) ≤ v4 →
    ((0 : Int) ≤ (6 * v1) + v4 ∧ (6 * v1) + v4 < 54) ∧ (inI (M 236 ((6 * v1) + v4))) ∧ (inI v2) ∧ ((M 236 ((6 * v1) + v4) = v2 →
      m_X12_whoAt_J44 (m_X12_whoAt_L5 Q v1 v2 f) Q v1 v2 v4 v3 (zshl 1 v4) M) ∧ (¬ M 236 ((6 * v1) + v4) = v2 →
      m_X12_whoAt_J44 (m_X12_whoAt_L5 Q v1 v2 f) Q v1 v2 v4 v3 0 M))))
def m_X12_whoAt (a0 : Int) (a1 : Int) (M : Mem) (Q : Int → Mem → Prop) : Prop :=
  ∃ fu : Nat, m_X12_whoAt_L5 Q a0 a1 fu 0 0 M
def m_X12_frame_J92  (Q : Int → Mem → Prop)  (s0 : Int) (M : Mem) : Prop :=
  Q s0 M
def m_X12_frame_J25  (Q : Int → Mem → Prop)   (M : Mem) : Prop :=
  Q (-1) M
def m_X12_frame (a0 : Int) (a1 : Int) (M : Mem) (Q : Int → Mem → Prop) : Prop :=
  m_X12_is a0 0 ((M 230 0) - 1) M (fun r2 M1 =>
    (inI r2) ∧ ((r2 = 0 →
      m_X12_frame_J25 Q  M1) ∧ (¬ r2 = 0 →
      m_X12_is a1 0 4 M1 (fun r5 M4 =>
        (inI r5) ∧ ((r5 = 0 →
          m_X12_frame_J25 Q  M4) ∧ (¬ r5 = 0 →
          (inI a1) ∧ ((3 ≤ a1 →
            m_X12_runs 0 M4 (fun M8 =>
              (inI a1) ∧ ((a1 = 3 →
                m_X12_isTrue 0 a0 M8 (fun r15 M14 =>
                  (inI r15) ∧ ((r15 = 0 →
                    m_X12_frame_J92 Q 0 M14) ∧ (¬ r15 = 0 →
                    m_X12_frame_J92 Q 1 M14)))) ∧ (¬ a1 = 3 →
                ((0 : Int) ≤ 3 * a0 ∧ 3 * a0 < 594) ∧ ((0 : Int) ≤ (3 * a0) + 1 ∧ (3 * a0) + 1 < 594) ∧ m_X12_whoAt (M8 231 (3 * a0)) (M8 231 ((3 * a0) + 1)) M8 (fun r13 M12 =>
                  m_X12_frame_J92 Q r13 M12))))) ∧ (¬ 3 ≤ a1 →
            ((0 : Int) ≤ (3 * a0) + a1 ∧ (3 * a0) + a1 < 594) ∧ Q (M4 231 ((3 * a0) + a1)) M4))))))))
def m_X12_where_J18  (Q : Int → Mem → Prop)   (M : Mem) : Prop :=
  Q (-1) M
def m_X12_where (a0 : Int) (a1 : Int) (M : Mem) (Q : Int → Mem → Prop) : Prop :=
  m_X12_isPerson a0 M (fun r2 M1 =>
    (inI r2) ∧ ((r2 = 0 →
      m_X12_where_J18 Q  M1) ∧ (¬ r2 = 0 →
      m_X12_is a1 0 8 M1 (fun r5 M4 =>
        (inI r5) ∧ ((r5 = 0 →
          m_X12_where_J18 Q  M4) ∧ (¬ r5 = 0 →
          m_X12_runs 0 M4 (fun M7 =>
            ((0 : Int) ≤ (6 * a1) + a0 ∧ (6 * a1) + a0 < 54) ∧ Q (M7 236 ((6 * a1) + a0)) M7)))))))
def m_X12_who_J18  (Q : Int → Mem → Prop)   (M : Mem) : Prop :=
  Q (-1) M
def m_X12_who (a0 : Int) (a1 : Int) (M : Mem) (Q : Int → Mem → Prop) : Prop :=
  m_X12_isPlace a0 M (fun r2 M1 =>
    (inI r2) ∧ ((r2 = 0 →
      m_X12_who_J18 Q  M1) ∧ (¬ r2 = 0 →
      m_X12_is a1 0 8 M1 (fun r5 M4 =>
        (inI r5) ∧ ((r5 = 0 →
          m_X12_who_J18 Q  M4) ∧ (¬ r5 = 0 →
          m_X12_runs 0 M4 (fun M7 =>
            m_X12_whoAt a1 a0 M7 (fun r9 M8 =>
              Q r9 M8))))))))
def m_X12_agrees_J13  (Q : Int → Mem → Prop)  (s0 : Int) (M : Mem) : Prop :=
  Q s0 M
def m_X12_agrees (M : Mem) (Q : Int → Mem → Prop) : Prop :=
  m_X12_isAgreed 0 M (fun r2 M1 =>
    (inI r2) ∧ ((r2 = 0 →
      m_X12_agrees_J13 Q 0 M1) ∧ (¬ r2 = 0 →
      m_X12_agrees_J13 Q 1 M1)))
def m_X12_self_J106 (k25 : Int → Int → Mem → Prop) (Q : Int → Mem → Prop)  (v1 : Int) (v2 : Int) (v4 : Int) (s0 : Int) (s1 : Int) (M : Mem) : Prop :=
  k25 (zor s0 s1) (v4 + 1) M
def m_X12_self_J81 (k25 : Int → Int → Mem → Prop) (Q : Int → Mem → Prop)  (v1 : Int) (v2 : Int) (v3 : Int) (v4 : Int) (M : Mem) : Prop :=
  m_X12_runs 1 M (fun M1 =>
    m_X12_manyAt v1 v2 M1 (fun r3 M2 =>
      (inI r3) ∧ (inI v4) ∧ ((r3 = v4 →
        m_X12_self_J106 k25 Q v1 v2 v4 v3 (zshl 1 v4) M2) ∧ (¬ r3 = v4 →
        m_X12_self_J106 k25 Q v1 v2 v4 v3 0 M2))))
def m_X12_self_L25  (Q : Int → Mem → Prop) (v1 : Int) (v2 : Int) : Nat → Int → Int → Mem → Prop
  | 0, _, _, _ => False
  | f + 1, v3, v4, M =>
  (inI v4) ∧ ((6 < v4 →
    Q v3 M) ∧ (¬ 6 < v4 →
    m_X12_copies 1 0 M (fun M7 =>
      m_X12_frameAt 1 v1 v2 M7 (fun r9 M8 =>
        (inI r9) ∧ ((r9 = (-1) →
          m_X12_shows 1 v1 v2 v4 M8 (fun M13 =>
            m_X12_self_J81 (m_X12_self_L25 Q v1 v2 f) Q v1 v2 v3 v4 M13)) ∧ (¬ r9 = (-1) →
          ((0 : Int) ≤ (3 * (9 + r9)) + 2 ∧ (3 * (9 + r9)) + 2 < 594) ∧ ∀ M12 : Mem, M12 = up M8 231 ((3 * (9 + r9)) + 2) v4 → m_X12_self_J81 (m_X12_self_L25 Q v1 v2 f) Q v1 v2 v3 v4 M12))))))
def m_X12_self_J18  (Q : Int → Mem → Prop)   (M : Mem) : Prop :=
  Q (-1) M
def m_X12_self (a0 : Int) (a1 : Int) (M : Mem) (Q : Int → Mem → Prop) : Prop :=
  m_X12_isPlace a1 M (fun r15 M14 =>
    (inI r15) ∧ ((r15 = 0 →
      m_X12_self_J18 Q  M14) ∧ (¬ r15 = 0 →
      m_X12_is a0 1 8 M14 (fun r18 M17 =>
        (inI r18) ∧ ((r18 = 0 →
          m_X12_self_J18 Q  M17) ∧ (¬ r18 = 0 →
          ∃ fu : Nat, m_X12_self_L25 Q a0 a1 fu 0 0 M17))))))
def m_X12_cuts_J78 (k4 : Int → Int → Mem → Prop) (Q : Int → Mem → Prop)  (v1 : Int) (v2 : Int) (M : Mem) : Prop :=
  k4 v1 (v2 + 1) M
def m_X12_cuts_J62 (k4 : Int → Int → Mem → Prop) (k44 : Int → Mem → Prop) (Q : Int → Mem → Prop)  (v1 : Int) (v2 : Int) (v3 : Int) (M : Mem) : Prop :=
  k44 (v3 + (-1)) M
def m_X12_cuts_L44 (k4 : Int → Int → Mem → Prop) (Q : Int → Mem → Prop) (v1 : Int) (v2 : Int) : Nat → Int → Mem → Prop
  | 0, _, _ => False
  | f + 1, v3, M =>
  (inI v3) ∧ ((v3 < 0 →
    m_X12_isAgreed 1 M (fun r3 M2 =>
      (inI r3) ∧ ((r3 = 0 →
        m_X12_cuts_J78 k4 Q v1 v2 M2) ∧ (¬ r3 = 0 →
        m_X12_cuts_J78 k4 Q v2 v2 M2)))) ∧ (¬ v3 < 0 →
    m_X12_has2 v2 v3 M (fun r6 M5 =>
      (inI r6) ∧ ((r6 = 0 →
        m_X12_cuts_J62 k4 (m_X12_cuts_L44 k4 Q v1 v2 f) Q v1 v2 v3 M5) ∧ (¬ r6 = 0 →
        m_X12_takes 1 v3 M5 (fun M8 =>
          m_X12_cuts_J62 k4 (m_X12_cuts_L44 k4 Q v1 v2 f) Q v1 v2 v3 M8))))))
def m_X12_cuts_J35 (k4 : Int → Int → Mem → Prop) (Q : Int → Mem → Prop)  (v1 : Int) (v2 : Int) (M : Mem) : Prop :=
  m_X12_copies 1 0 M (fun M9 =>
    ∃ fu : Nat, m_X12_cuts_L44 k4 Q v1 v2 fu 7 M9)
def m_X12_cuts_L4  (Q : Int → Mem → Prop)  : Nat → Int → Int → Mem → Prop
  | 0, _, _, _ => False
  | f + 1, v1, v2, M =>
  (inI v2) ∧ (inI (zshl 1 (M 230 0))) ∧ ((zshl 1 (M 230 0) ≤ v2 →
    Q v1 M) ∧ (¬ zshl 1 (M 230 0) ≤ v2 →
    (inI v1) ∧ ((v1 = (-1) →
      m_X12_cuts_J35 (m_X12_cuts_L4 Q f) Q v1 v2 M) ∧ (¬ v1 = (-1) →
      m_X12_bits v2 M (fun r14 M13 =>
        m_X12_bits v1 M13 (fun r16 M15 =>
          (inI r14) ∧ (inI r16) ∧ ((r14 < r16 →
            m_X12_cuts_J35 (m_X12_cuts_L4 Q f) Q v1 v2 M15) ∧ (¬ r14 < r16 →
            m_X12_cuts_J78 (m_X12_cuts_L4 Q f) Q v1 v2 M15))))))))
def m_X12_cuts (M : Mem) (Q : Int → Mem → Prop) : Prop :=
  ∃ fu : Nat, m_X12_cuts_L4 Q fu (-1) 0 M
def m_X12_crowd_J61 (k4 : Int → Int → Mem → Prop) (Q : Int → Mem → Prop)  (v1 : Int) (v2 : Int) (M : Mem) : Prop :=
  k4 v1 (v2 + 1) M
def m_X12_crowd_J38 (k4 : Int → Int → Mem → Prop) (Q : Int → Mem → Prop)  (v1 : Int) (v2 : Int) (M : Mem) : Prop :=
  m_X12_copies 1 0 M (fun M1 =>
    ∀ M2 : Mem, M2 = up M1 229 1 v2 → m_X12_isAgreed 1 M2 (fun r4 M3 =>
      (inI r4) ∧ ((r4 = 0 →
        m_X12_crowd_J61 k4 Q v1 v2 M3) ∧ (¬ r4 = 0 →
        m_X12_crowd_J61 k4 Q v2 v2 M3))))
def m_X12_crowd_L4  (Q : Int → Mem → Prop)  : Nat → Int → Int → Mem → Prop
  | 0, _, _, _ => False
  | f + 1, v1, v2, M =>
  ((0 : Int) ≤ M 199 13 ∧ M 199 13 < 2) ∧ (inI v2) ∧ (inI (zshl 1 (M 205 (M 199 13)))) ∧ ((zshl 1 (M 205 (M 199 13)) ≤ v2 →
    Q v1 M) ∧ (¬ zshl 1 (M 205 (M 199 13)) ≤ v2 →
    (inI v1) ∧ ((v1 = (-1) →
      m_X12_crowd_J38 (m_X12_crowd_L4 Q f) Q v1 v2 M) ∧ (¬ v1 = (-1) →
      m_X12_bits v2 M (fun r11 M10 =>
        m_X12_bits v1 M10 (fun r13 M12 =>
          (inI r11) ∧ (inI r13) ∧ ((r11 < r13 →
            m_X12_crowd_J38 (m_X12_crowd_L4 Q f) Q v1 v2 M12) ∧ (¬ r11 < r13 →
            m_X12_crowd_J61 (m_X12_crowd_L4 Q f) Q v1 v2 M12))))))))
def m_X12_crowd (M : Mem) (Q : Int → Mem → Prop) : Prop :=
  ∃ fu : Nat, m_X12_crowd_L4 Q fu (-1) 0 M
def m_X12_empty_J62 (k9 : Int → Int → Mem → Prop) (Q : Int → Mem → Prop)  (v2 : Int) (s0 : Int) (s1 : Int) (M : Mem) : Prop :=
  k9 (zor s0 s1) (v2 + 1) M
def m_X12_empty_L27 (k9 : Int → Int → Mem → Prop) (Q : Int → Mem → Prop) (v1 : Int) (v2 : Int) : Nat → Int → Int → Mem → Prop
  | 0, _, _, _ => False
  | f + 1, v3, v4, M =>
  (inI v4) ∧ ((8 < v4 →
    (inI v3) ∧ ((v3 = 0 →
      m_X12_empty_J62 k9 Q v2 v1 (zshl 1 v2) M) ∧ (¬ v3 = 0 →
      m_X12_empty_J62 k9 Q v2 v1 0 M))) ∧ (¬ 8 < v4 →
    m_X12_manyAt v4 v2 M (fun r4 M3 =>
      m_X12_empty_L27 k9 Q v1 v2 f (v3 + r4) (v4 + 1) M3)))
def m_X12_empty_L9  (Q : Int → Mem → Prop)  : Nat → Int → Int → Mem → Prop
  | 0, _, _, _ => False
  | f + 1, v1, v2, M =>
  ((0 : Int) ≤ M 199 13 ∧ M 199 13 < 2) ∧ (inI v2) ∧ (inI (M 201 (M 199 13))) ∧ ((M 201 (M 199 13) ≤ v2 →
    Q v1 M) ∧ (¬ M 201 (M 199 13) ≤ v2 →
    ∃ fu : Nat, m_X12_empty_L27 (m_X12_empty_L9 Q f) Q v1 v2 fu 0 1 M))
def m_X12_empty (M : Mem) (Q : Int → Mem → Prop) : Prop :=
  m_X12_runs 0 M (fun M8 =>
    ∃ fu : Nat, m_X12_empty_L9 Q fu 0 0 M8)
def m_X12_isAhead_J28  (Q : Int → Mem → Prop)  (s0 : Int) (M : Mem) : Prop :=
  (s0 = 0 ∨ s0 = 1) ∧ Q s0 M
def m_X12_isAhead_J27  (Q : Int → Mem → Prop)   (M : Mem) : Prop :=
  m_X12_isAhead_J28 Q 0 M
def m_X12_isAhead (a0 : Int) (a1 : Int) (a2 : Int) (M : Mem) (Q : Int → Mem → Prop) : Prop :=
  m_X12_is a0 a1 a2 M (fun r3 M2 =>
    (inI r3) ∧ ((r3 = 0 →
      m_X12_isAhead_J27 Q  M2) ∧ (¬ r3 = 0 →
      (inI (M2 227 0)) ∧ (inI (999 - a0)) ∧ ((999 - a0 < M2 227 0 →
        m_X12_isAhead_J27 Q  M2) ∧ (¬ 999 - a0 < M2 227 0 →
        m_X12_isAhead_J28 Q 1 M2)))))
def m_X12_later_L29  (Q : Int → Mem → Prop) (v1 : Int) (v2 : Int) : Nat → Int → Mem → Prop
  | 0, _, _ => False
  | f + 1, v3, M =>
  (inI v3) ∧ (inI v2) ∧ ((v2 ≤ v3 →
    ((0 : Int) ≤ 6 + v1 ∧ 6 + v1 < 132) ∧ Q (M 228 (6 + v1)) M) ∧ (¬ v2 ≤ v3 →
    m_X12_passes 1 M (fun r5 M4 =>
      m_X12_later_L29 Q v1 v2 f (v3 + 1) M4)))
def m_X12_later_J19  (Q : Int → Mem → Prop)   (M : Mem) : Prop :=
  Q (-1) M
def m_X12_later (a0 : Int) (a1 : Int) (M : Mem) (Q : Int → Mem → Prop) : Prop :=
  m_X12_isPerson a0 M (fun r7 M6 =>
    (inI r7) ∧ ((r7 = 0 →
      m_X12_later_J19 Q  M6) ∧ (¬ r7 = 0 →
      m_X12_isAhead a1 0 40 M6 (fun r10 M9 =>
        (inI r10) ∧ ((r10 = 0 →
          m_X12_later_J19 Q  M9) ∧ (¬ r10 = 0 →
          m_X12_copies 1 0 M9 (fun M12 =>
            ∃ fu : Nat, m_X12_later_L29 Q a0 a1 fu 0 M12)))))))
def m_X12_areTogether_L2  (Q : Int → Mem → Prop) (v1 : Int) (v2 : Int) : Nat → Int → Mem → Prop
  | 0, _, _ => False
  | f + 1, v3, M =>
  (inI v3) ∧ ((8 < v3 →
    Q 0 M) ∧ (¬ 8 < v3 →
    ((0 : Int) ≤ (6 * v3) + v1 ∧ (6 * v3) + v1 < 54) ∧ ((0 : Int) ≤ (6 * v3) + v2 ∧ (6 * v3) + v2 < 54) ∧ (inI (M 236 ((6 * v3) + v1))) ∧ (inI (M 236 ((6 * v3) + v2))) ∧ ((M 236 ((6 * v3) + v1) = M 236 ((6 * v3) + v2) →
      Q 1 M) ∧ (¬ M 236 ((6 * v3) + v1) = M 236 ((6 * v3) + v2) →
      m_X12_areTogether_L2 Q v1 v2 f (v3 + 1) M))))
def m_X12_areTogether (a0 : Int) (a1 : Int) (M : Mem) (Q : Int → Mem → Prop) : Prop :=
  ∃ fu : Nat, m_X12_areTogether_L2 Q a0 a1 fu 1 M
def m_X12_meet_L31  (Q : Int → Mem → Prop) (v1 : Int) (v2 : Int) : Nat → Int → Mem → Prop
  | 0, _, _ => False
  | f + 1, v3, M =>
  m_X12_isAhead v3 1 40 M (fun r2 M1 =>
    (inI r2) ∧ ((r2 = 0 →
      Q (-1) M1) ∧ (¬ r2 = 0 →
      m_X12_passes 1 M1 (fun r5 M4 =>
        m_X12_areTogether v1 v2 M4 (fun r7 M6 =>
          (inI r7) ∧ ((r7 = 0 →
            m_X12_meet_L31 Q v1 v2 f (v3 + 1) M6) ∧ (¬ r7 = 0 →
            Q v3 M6)))))))
def m_X12_meet_J21  (Q : Int → Mem → Prop)   (M : Mem) : Prop :=
  Q (-1) M
def m_X12_meet (a0 : Int) (a1 : Int) (M : Mem) (Q : Int → Mem → Prop) : Prop :=
  m_X12_isPerson a0 M (fun r10 M9 =>
    (inI r10) ∧ ((r10 = 0 →
      m_X12_meet_J21 Q  M9) ∧ (¬ r10 = 0 →
      m_X12_isPerson a1 M9 (fun r13 M12 =>
        (inI r13) ∧ ((r13 = 0 →
          m_X12_meet_J21 Q  M12) ∧ (¬ r13 = 0 →
          (inI a0) ∧ (inI a1) ∧ ((a0 = a1 →
            m_X12_meet_J21 Q  M12) ∧ (¬ a0 = a1 →
            m_X12_copies 1 0 M12 (fun M17 =>
              ∃ fu : Nat, m_X12_meet_L31 Q a0 a1 fu 1 M17)))))))))
def m_X12_isAsNow_L2  (Q : Int → Mem → Prop)  : Nat → Int → Mem → Prop
  | 0, _, _ => False
  | f + 1, v1, M =>
  ((0 : Int) ≤ M 199 13 ∧ M 199 13 < 2) ∧ (inI v1) ∧ (inI (M 205 (M 199 13))) ∧ ((M 205 (M 199 13) ≤ v1 →
    Q 1 M) ∧ (¬ M 205 (M 199 13) ≤ v1 →
    ((0 : Int) ≤ 6 + v1 ∧ 6 + v1 < 132) ∧ ((0 : Int) ≤ v1 ∧ v1 < 132) ∧ (inI (M 228 (6 + v1))) ∧ (inI (M 228 v1)) ∧ ((M 228 (6 + v1) = M 228 v1 →
      m_X12_isAsNow_L2 Q f (v1 + 1) M) ∧ (¬ M 228 (6 + v1) = M 228 v1 →
      Q 0 M))))
def m_X12_isAsNow (M : Mem) (Q : Int → Mem → Prop) : Prop :=
  ∃ fu : Nat, m_X12_isAsNow_L2 Q fu 0 M
def m_X12_round_L8  (Q : Int → Mem → Prop)  : Nat → Int → Mem → Prop
  | 0, _, _ => False
  | f + 1, v1, M =>
  m_X12_isAhead v1 1 40 M (fun r2 M1 =>
    (inI r2) ∧ ((r2 = 0 →
      Q (-1) M1) ∧ (¬ r2 = 0 →
      m_X12_passes 1 M1 (fun r5 M4 =>
        m_X12_isAsNow  M4 (fun r7 M6 =>
          (inI r7) ∧ ((r7 = 0 →
            m_X12_round_L8 Q f (v1 + 1) M6) ∧ (¬ r7 = 0 →
            Q v1 M6)))))))
def m_X12_round (M : Mem) (Q : Int → Mem → Prop) : Prop :=
  m_X12_copies 1 0 M (fun M9 =>
    ∃ fu : Nat, m_X12_round_L8 Q fu 1 M9)
def m_X12_see_L104  (Q : Int → Mem → Prop)  : Nat → Int → Mem → Prop
  | 0, _, _ => False
  | f + 1, v3, M =>
  (inI v3) ∧ (inI (M 199 60)) ∧ ((M 199 60 ≤ v3 →
    Q (M 199 60) M) ∧ (¬ M 199 60 ≤ v3 →
    ((0 : Int) ≤ 3 * v3 ∧ 3 * v3 < 1800) ∧ ((0 : Int) ≤ v3 ∧ v3 < 16) ∧ ∀ M5 : Mem, M5 = up M 237 v3 (M 200 (3 * v3)) → ((0 : Int) ≤ (3 * v3) + 1 ∧ (3 * v3) + 1 < 1800) ∧ ((0 : Int) ≤ v3 ∧ v3 < 16) ∧ ∀ M8 : Mem, M8 = up M5 238 v3 (M5 200 ((3 * v3) + 1)) → ((0 : Int) ≤ (3 * v3) + 2 ∧ (3 * v3) + 2 < 1800) ∧ ((0 : Int) ≤ v3 ∧ v3 < 16) ∧ ∀ M11 : Mem, M11 = up M8 239 v3 (M8 200 ((3 * v3) + 2)) → m_X12_see_L104 Q f (v3 + 1) M11))
def m_X12_see_J85  (Q : Int → Mem → Prop)  (v1 : Int) (v2 : Int) (M : Mem) : Prop :=
  (inI v2) ∧ ((v2 = 0 →
    m_X12_refuses 5 M (fun r16 M15 =>
      Q r16 M15)) ∧ (¬ v2 = 0 →
    (inI v1) ∧ ∀ M14 : Mem, M14 = up M 199 60 (v1.tdiv 3) → ∃ fu : Nat, m_X12_see_L104 Q fu 0 M14))
def m_X12_see_J78 (k34 : Int → Int → Mem → Prop) (Q : Int → Mem → Prop)  (v1 : Int) (v3 : Int) (s0 : Int) (M : Mem) : Prop :=
  k34 s0 (v3 + 3) M
def m_X12_see_J77 (k34 : Int → Int → Mem → Prop) (Q : Int → Mem → Prop)  (v1 : Int) (v3 : Int) (M : Mem) : Prop :=
  m_X12_see_J78 k34 Q v1 v3 0 M
def m_X12_see_L34  (Q : Int → Mem → Prop) (v1 : Int) : Nat → Int → Int → Mem → Prop
  | 0, _, _, _ => False
  | f + 1, v2, v3, M =>
  (inI v3) ∧ (inI v1) ∧ ((v1 ≤ v3 →
    m_X12_see_J85 Q v1 v2 M) ∧ (¬ v1 ≤ v3 →
    (inI v2) ∧ ((v2 = 0 →
      m_X12_see_J85 Q v1 v2 M) ∧ (¬ v2 = 0 →
      ((0 : Int) ≤ v3 ∧ v3 < 1800) ∧ m_X12_is (M 200 v3) 1 8 M (fun r22 M21 =>
        (inI r22) ∧ ((r22 = 0 →
          m_X12_see_J77 (m_X12_see_L34 Q v1 f) Q v1 v3 M21) ∧ (¬ r22 = 0 →
          ((0 : Int) ≤ v3 + 1 ∧ v3 + 1 < 1800) ∧ m_X12_isPlace (M21 200 (v3 + 1)) M21 (fun r26 M25 =>
            (inI r26) ∧ ((r26 = 0 →
              m_X12_see_J77 (m_X12_see_L34 Q v1 f) Q v1 v3 M25) ∧ (¬ r26 = 0 →
              m_X12_see_J78 (m_X12_see_L34 Q v1 f) Q v1 v3 1 M25))))))))))
def m_X12_see_J31  (Q : Int → Mem → Prop)  (v1 : Int) (s0 : Int) (M : Mem) : Prop :=
  ∃ fu : Nat, m_X12_see_L34 Q v1 fu s0 0 M
def m_X12_see_J30  (Q : Int → Mem → Prop)  (v1 : Int) (M : Mem) : Prop :=
  m_X12_see_J31 Q v1 0 M
def m_X12_see (M : Mem) (Q : Int → Mem → Prop) : Prop :=
  ∀ M28 : Mem, M28 = up M 199 1 0 → (inI (M 199 1)) ∧ ((M 199 1 ≤ 0 →
    m_X12_see_J30 Q (M 199 1) M28) ∧ (¬ M 199 1 ≤ 0 →
    (inI (M 199 1)) ∧ (inI ((M 199 1).tmod 3)) ∧ (((M 199 1).tmod 3 = 0 →
      (inI (M 199 1)) ∧ ((48 < M 199 1 →
        m_X12_see_J30 Q (M 199 1) M28) ∧ (¬ 48 < M 199 1 →
        m_X12_see_J31 Q (M 199 1) 1 M28))) ∧ (¬ (M 199 1).tmod 3 = 0 →
      m_X12_see_J30 Q (M 199 1) M28))))
def m_X12_beganBits_L127 (k4 : Int → Int → Mem → Prop) (k117 : Int → Mem → Prop) (Q : Int → Mem → Prop) (v1 : Int) (v2 : Int) (v3 : Int) (v5 : Int) : Nat → Int → Mem → Prop
  | 0, _, _ => False
  | f + 1, v6, M =>
  ((0 : Int) ≤ M 199 13 ∧ M 199 13 < 2) ∧ (inI v6) ∧ (inI (M 201 (M 199 13))) ∧ ((M 201 (M 199 13) ≤ v6 →
    k117 (v5 + 1) M) ∧ (¬ M 201 (M 199 13) ≤ v6 →
    m_X12_manyAt v5 v6 M (fun r5 M4 =>
      ((0 : Int) ≤ ((63 * v3) + (7 * v5)) + v6 ∧ ((63 * v3) + (7 * v5)) + v6 < 441) ∧ ∀ M7 : Mem, M7 = up M4 240 (((63 * v3) + (7 * v5)) + v6) r5 → m_X12_beganBits_L127 k4 k117 Q v1 v2 v3 v5 f (v6 + 1) M7)))
def m_X12_beganBits_L117 (k4 : Int → Int → Mem → Prop) (Q : Int → Mem → Prop) (v1 : Int) (v2 : Int) (v3 : Int) : Nat → Int → Mem → Prop
  | 0, _, _ => False
  | f + 1, v5, M =>
  (inI v5) ∧ ((8 < v5 →
    k4 v2 (v3 + 1) M) ∧ (¬ 8 < v5 →
    ∃ fu : Nat, m_X12_beganBits_L127 k4 (m_X12_beganBits_L117 k4 Q v1 v2 v3 f) Q v1 v2 v3 v5 fu 0 M))
def m_X12_beganBits_J112 (k4 : Int → Int → Mem → Prop) (Q : Int → Mem → Prop)  (v1 : Int) (v3 : Int) (s0 : Int) (s1 : Int) (M : Mem) : Prop :=
  ∃ fu : Nat, m_X12_beganBits_L117 k4 Q v1 (zor s0 s1) v3 fu 1 M
def m_X12_beganBits_J91 (k4 : Int → Int → Mem → Prop) (k44 : Int → Int → Mem → Prop) (Q : Int → Mem → Prop)  (v1 : Int) (v2 : Int) (v3 : Int) (v5 : Int) (s0 : Int) (M : Mem) : Prop :=
  k44 s0 (v5 + 1) M
def m_X12_beganBits_J90 (k4 : Int → Int → Mem → Prop) (k44 : Int → Int → Mem → Prop) (Q : Int → Mem → Prop)  (v1 : Int) (v2 : Int) (v3 : Int) (v5 : Int) (M : Mem) : Prop :=
  m_X12_beganBits_J91 k4 k44 Q v1 v2 v3 v5 0 M
def m_X12_beganBits_L44 (k4 : Int → Int → Mem → Prop) (Q : Int → Mem → Prop) (v1 : Int) (v2 : Int) (v3 : Int) : Nat → Int → Int → Mem → Prop
  | 0, _, _, _ => False
  | f + 1, v4, v5, M =>
  (inI v5) ∧ (inI (M 199 60)) ∧ ((M 199 60 ≤ v5 →
    (inI v4) ∧ ((v4 = 0 →
      m_X12_beganBits_J112 k4 Q v1 v3 v2 0 M) ∧ (¬ v4 = 0 →
      m_X12_beganBits_J112 k4 Q v1 v3 v2 (zshl 1 v3) M))) ∧ (¬ M 199 60 ≤ v5 →
    (inI v4) ∧ ((v4 = 0 →
      m_X12_beganBits_J90 k4 (m_X12_beganBits_L44 k4 Q v1 v2 v3 f) Q v1 v2 v3 v5 M) ∧ (¬ v4 = 0 →
      ((0 : Int) ≤ v5 ∧ v5 < 16) ∧ ((0 : Int) ≤ v5 ∧ v5 < 16) ∧ m_X12_manyAt (M 237 v5) (M 238 v5) M (fun r16 M15 =>
        ((0 : Int) ≤ v5 ∧ v5 < 16) ∧ (inI r16) ∧ (inI (M15 239 v5)) ∧ ((r16 = M15 239 v5 →
          m_X12_beganBits_J91 k4 (m_X12_beganBits_L44 k4 Q v1 v2 v3 f) Q v1 v2 v3 v5 1 M15) ∧ (¬ r16 = M15 239 v5 →
          m_X12_beganBits_J90 k4 (m_X12_beganBits_L44 k4 Q v1 v2 v3 f) Q v1 v2 v3 v5 M15)))))))
def m_X12_beganBits_L4  (Q : Int → Mem → Prop) (v1 : Int) : Nat → Int → Int → Mem → Prop
  | 0, _, _, _ => False
  | f + 1, v2, v3, M =>
  ((0 : Int) ≤ M 199 13 ∧ M 199 13 < 2) ∧ (inI v3) ∧ (inI (M 201 (M 199 13))) ∧ ((M 201 (M 199 13) ≤ v3 →
    Q v2 M) ∧ (¬ M 201 (M 199 13) ≤ v3 →
    m_X12_copies 1 0 M (fun M23 =>
      ((0 : Int) ≤ 6 + v1 ∧ 6 + v1 < 132) ∧ ∀ M25 : Mem, M25 = up M23 228 (6 + v1) v3 → m_X12_runs 1 M25 (fun M26 =>
        ∃ fu : Nat, m_X12_beganBits_L44 (m_X12_beganBits_L4 Q v1 f) Q v1 v2 v3 fu 1 0 M26))))
def m_X12_beganBits (a0 : Int) (M : Mem) (Q : Int → Mem → Prop) : Prop :=
  ∃ fu : Nat, m_X12_beganBits_L4 Q a0 fu 0 0 M
def m_X12_began_J247  (Q : Int → Mem → Prop)  (s0 : Int) (M : Mem) : Prop :=
  Q s0 M
def m_X12_began_J209  (Q : Int → Mem → Prop)  (v2 : Int) (v4 : Int) (v5 : Int) (M : Mem) : Prop :=
  (inI v4) ∧ ((v4 = (-1) →
    m_X12_began_J247 Q (-1) M) ∧ (¬ v4 = (-1) →
    (inI v2) ∧ ((v2 = 1 →
      (inI v4) ∧ m_X12_began_J247 Q (v4.tdiv 7) M) ∧ (¬ v2 = 1 →
      (inI v2) ∧ ((v2 = 2 →
        (inI v4) ∧ m_X12_began_J247 Q (v4.tmod 7) M) ∧ (¬ v2 = 2 →
        m_X12_began_J247 Q v5 M))))))
def m_X12_began_J203 (k43 : Int → Int → Int → Mem → Prop) (Q : Int → Mem → Prop)  (v2 : Int) (v3 : Int) (v4 : Int) (v5 : Int) (v6 : Int) (M : Mem) : Prop :=
  k43 v4 v5 (v6 + 1) M
def m_X12_began_J177 (k43 : Int → Int → Int → Mem → Prop) (k80 : Int → Int → Mem → Prop) (Q : Int → Mem → Prop)  (v2 : Int) (v3 : Int) (v4 : Int) (v5 : Int) (v6 : Int) (v8 : Int) (s0 : Int) (M : Mem) : Prop :=
  k80 s0 (v8 + 1) M
def m_X12_began_J154 (k43 : Int → Int → Int → Mem → Prop) (k80 : Int → Int → Mem → Prop) (k93 : Int → Int → Mem → Prop) (Q : Int → Mem → Prop)  (v2 : Int) (v3 : Int) (v4 : Int) (v5 : Int) (v6 : Int) (v7 : Int) (v8 : Int) (v10 : Int) (s0 : Int) (s1 : Int) (M : Mem) : Prop :=
  k93 (s0 + s1) (v10 + 1) M
def m_X12_began_J153 (k43 : Int → Int → Int → Mem → Prop) (k80 : Int → Int → Mem → Prop) (k93 : Int → Int → Mem → Prop) (Q : Int → Mem → Prop)  (v2 : Int) (v3 : Int) (v4 : Int) (v5 : Int) (v6 : Int) (v7 : Int) (v8 : Int) (v10 : Int) (s0 : Int) (M : Mem) : Prop :=
  m_X12_began_J154 k43 k80 k93 Q v2 v3 v4 v5 v6 v7 v8 v10 s0 0 M
def m_X12_began_L93 (k43 : Int → Int → Int → Mem → Prop) (k80 : Int → Int → Mem → Prop) (Q : Int → Mem → Prop) (v2 : Int) (v3 : Int) (v4 : Int) (v5 : Int) (v6 : Int) (v7 : Int) (v8 : Int) : Nat → Int → Int → Mem → Prop
  | 0, _, _, _ => False
  | f + 1, v9, v10, M =>
  (inI v10) ∧ ((7 ≤ v10 →
    (inI v9) ∧ (inI v7) ∧ ((v9 ≤ v7 →
      m_X12_began_J177 k43 k80 Q v2 v3 v4 v5 v6 v8 v7 M) ∧ (¬ v9 ≤ v7 →
      m_X12_began_J177 k43 k80 Q v2 v3 v4 v5 v6 v8 v9 M))) ∧ (¬ 7 ≤ v10 →
    m_X12_has2 v3 v8 M (fun r10 M9 =>
      (inI r10) ∧ ((r10 = 0 →
        m_X12_began_J153 k43 k80 (m_X12_began_L93 k43 k80 Q v2 v3 v4 v5 v6 v7 v8 f) Q v2 v3 v4 v5 v6 v7 v8 v10 v9 M9) ∧ (¬ r10 = 0 →
        m_X12_has2 v3 v10 M9 (fun r13 M12 =>
          (inI r13) ∧ ((r13 = 0 →
            m_X12_began_J153 k43 k80 (m_X12_began_L93 k43 k80 Q v2 v3 v4 v5 v6 v7 v8 f) Q v2 v3 v4 v5 v6 v7 v8 v10 v9 M12) ∧ (¬ r13 = 0 →
            ((0 : Int) ≤ (63 * v8) + v6 ∧ (63 * v8) + v6 < 441) ∧ ((0 : Int) ≤ (63 * v10) + v6 ∧ (63 * v10) + v6 < 441) ∧ (inI (M12 240 ((63 * v8) + v6))) ∧ (inI (M12 240 ((63 * v10) + v6))) ∧ ((M12 240 ((63 * v8) + v6) = M12 240 ((63 * v10) + v6) →
              m_X12_began_J154 k43 k80 (m_X12_began_L93 k43 k80 Q v2 v3 v4 v5 v6 v7 v8 f) Q v2 v3 v4 v5 v6 v7 v8 v10 v9 1 M12) ∧ (¬ M12 240 ((63 * v8) + v6) = M12 240 ((63 * v10) + v6) →
              m_X12_began_J153 k43 k80 (m_X12_began_L93 k43 k80 Q v2 v3 v4 v5 v6 v7 v8 f) Q v2 v3 v4 v5 v6 v7 v8 v10 v9 M12))))))))))
def m_X12_began_L80 (k43 : Int → Int → Int → Mem → Prop) (Q : Int → Mem → Prop) (v2 : Int) (v3 : Int) (v4 : Int) (v5 : Int) (v6 : Int) : Nat → Int → Int → Mem → Prop
  | 0, _, _, _ => False
  | f + 1, v7, v8, M =>
  (inI v8) ∧ ((7 ≤ v8 →
    (inI v7) ∧ (inI v5) ∧ ((v7 < v5 →
      m_X12_began_J203 k43 Q v2 v3 v6 v7 v6 M) ∧ (¬ v7 < v5 →
      m_X12_began_J203 k43 Q v2 v3 v4 v5 v6 M))) ∧ (¬ 7 ≤ v8 →
    ∃ fu : Nat, m_X12_began_L93 k43 (m_X12_began_L80 k43 Q v2 v3 v4 v5 v6 f) Q v2 v3 v4 v5 v6 v7 v8 fu 0 0 M))
def m_X12_began_L43  (Q : Int → Mem → Prop) (v2 : Int) (v3 : Int) : Nat → Int → Int → Int → Mem → Prop
  | 0, _, _, _, _ => False
  | f + 1, v4, v5, v6, M =>
  (inI v6) ∧ ((63 ≤ v6 →
    m_X12_began_J209 Q v2 v4 v5 M) ∧ (¬ 63 ≤ v6 →
    (inI v3) ∧ ((v3 = 0 →
      m_X12_began_J209 Q v2 v4 v5 M) ∧ (¬ v3 = 0 →
      (inI v6) ∧ ((0 : Int) ≤ M 199 13 ∧ M 199 13 < 2) ∧ (inI (v6.tmod 7)) ∧ (inI (M 201 (M 199 13))) ∧ ((v6.tmod 7 < M 201 (M 199 13) →
        ∃ fu : Nat, m_X12_began_L80 (m_X12_began_L43 Q v2 v3 f) Q v2 v3 v4 v5 v6 fu 0 0 M) ∧ (¬ v6.tmod 7 < M 201 (M 199 13) →
        m_X12_began_J203 (m_X12_began_L43 Q v2 v3 f) Q v2 v3 v4 v5 v6 M))))))
def m_X12_began_J17  (Q : Int → Mem → Prop)   (M : Mem) : Prop :=
  Q (-1) M
def m_X12_began (a0 : Int) (a1 : Int) (M : Mem) (Q : Int → Mem → Prop) : Prop :=
  m_X12_isPerson a0 M (fun r29 M28 =>
    (inI r29) ∧ ((r29 = 0 →
      m_X12_began_J17 Q  M28) ∧ (¬ r29 = 0 →
      m_X12_is a1 0 3 M28 (fun r32 M31 =>
        (inI r32) ∧ ((r32 = 0 →
          m_X12_began_J17 Q  M31) ∧ (¬ r32 = 0 →
          m_X12_beganBits a0 M31 (fun r35 M34 =>
            (inI a1) ∧ ((a1 = 0 →
              Q r35 M34) ∧ (¬ a1 = 0 →
              ∃ fu : Nat, m_X12_began_L43 Q a1 r35 fu (-1) 100000000 7 M34)))))))))
def m_X12_days_J44 (k25 : Int → Int → Mem → Prop) (Q : Int → Mem → Prop)  (v1 : Int) (v3 : Int) (s0 : Int) (s1 : Int) (M : Mem) : Prop :=
  k25 (s0 + s1) (v3 + 1) M
def m_X12_days_L25  (Q : Int → Mem → Prop) (v1 : Int) : Nat → Int → Int → Mem → Prop
  | 0, _, _, _ => False
  | f + 1, v2, v3, M =>
  (inI v3) ∧ (inI v1) ∧ ((v1 ≤ v3 →
    Q v2 M) ∧ (¬ v1 ≤ v3 →
    m_X12_passes 0 M (fun r4 M3 =>
      (inI r4) ∧ ((r4 = 0 →
        m_X12_days_J44 (m_X12_days_L25 Q v1 f) Q v1 v3 v2 0 M3) ∧ (¬ r4 = 0 →
        m_X12_days_J44 (m_X12_days_L25 Q v1 f) Q v1 v3 v2 1 M3)))))
def m_X12_days (a0 : Int) (M : Mem) (Q : Int → Mem → Prop) : Prop :=
  m_X12_isAhead a0 1 40 M (fun r7 M6 =>
    (inI r7) ∧ ((r7 = 0 →
      m_X12_refuses 2 M6 (fun r11 M10 =>
        Q r11 M10)) ∧ (¬ r7 = 0 →
      m_X12_keeps  M6 (fun M9 =>
        ∃ fu : Nat, m_X12_days_L25 Q a0 fu 0 0 M9))))
def m_X12_draw (a0 : Int) (M : Mem) (Q : Int → Mem → Prop) : Prop :=
  (inL ((1103515245 * (M 199 56)) + 12345)) ∧ ∀ M2 : Mem, M2 = up M 199 56 (((1103515245 * (M 199 56)) + 12345).tmod 2147483648) → (inL (M2 199 56)) ∧ (inI a0) ∧ (inL ((M2 199 56).tdiv 64)) ∧ (inL a0) ∧ (¬ a0 = 0) ∧ Q (((M2 199 56).tdiv 64).tmod a0) M2
def m_X12_chance_J75 (k25 : Int → Int → Mem → Prop) (Q : Int → Mem → Prop)  (v1 : Int) (v2 : Int) (v3 : Int) (M : Mem) : Prop :=
  m_X12_passes 0 M (fun r2 M1 =>
    k25 v2 (v3 + 1) M1)
def m_X12_chance_L25  (Q : Int → Mem → Prop) (v1 : Int) : Nat → Int → Int → Mem → Prop
  | 0, _, _, _ => False
  | f + 1, v2, v3, M =>
  (inI v3) ∧ (inI v1) ∧ ((v1 ≤ v3 →
    Q v2 M) ∧ (¬ v1 ≤ v3 →
    m_X12_draw 100 M (fun r6 M5 =>
      ((0 : Int) ≤ M5 199 13 ∧ M5 199 13 < 2) ∧ (inI r6) ∧ (inI (M5 213 (M5 199 13))) ∧ ((M5 213 (M5 199 13) ≤ r6 →
        m_X12_chance_J75 (m_X12_chance_L25 Q v1 f) Q v1 v2 v3 M5) ∧ (¬ M5 213 (M5 199 13) ≤ r6 →
        (inI (M5 230 0)) ∧ ((M5 230 0 ≤ 0 →
          m_X12_chance_J75 (m_X12_chance_L25 Q v1 f) Q v1 v2 v3 M5) ∧ (¬ M5 230 0 ≤ 0 →
          m_X12_draw (M5 230 0) M5 (fun r12 M11 =>
            m_X12_takes 0 r12 M11 (fun M13 =>
              m_X12_chance_J75 (m_X12_chance_L25 Q v1 f) Q v1 (v2 + 1) v3 M13)))))))))
def m_X12_chance (a0 : Int) (M : Mem) (Q : Int → Mem → Prop) : Prop :=
  m_X12_isAhead a0 1 40 M (fun r15 M14 =>
    (inI r15) ∧ ((r15 = 0 →
      m_X12_refuses 2 M14 (fun r19 M18 =>
        Q r19 M18)) ∧ (¬ r15 = 0 →
      m_X12_keeps  M14 (fun M17 =>
        ∃ fu : Nat, m_X12_chance_L25 Q a0 fu 0 0 M17))))
def m_X12_show_J63  (Q : Int → Mem → Prop)  (s0 : Int) (M : Mem) : Prop :=
  (s0 = 0 ∨ s0 = 1) ∧ Q s0 M
def m_X12_show_J50  (Q : Int → Mem → Prop)   (M : Mem) : Prop :=
  m_X12_refuses 3 M (fun r3 M2 =>
    (inI r3) ∧ ((r3 < 0 →
      m_X12_show_J63 Q 0 M2) ∧ (¬ r3 < 0 →
      m_X12_show_J63 Q 1 M2)))
def m_X12_show (a0 : Int) (a1 : Int) (a2 : Int) (M : Mem) (Q : Int → Mem → Prop) : Prop :=
  m_X12_is a0 1 8 M (fun r6 M5 =>
    (inI r6) ∧ ((r6 = 0 →
      m_X12_show_J50 Q  M5) ∧ (¬ r6 = 0 →
      m_X12_isPlace a1 M5 (fun r9 M8 =>
        (inI r9) ∧ ((r9 = 0 →
          m_X12_show_J50 Q  M8) ∧ (¬ r9 = 0 →
          m_X12_is a2 0 6 M8 (fun r12 M11 =>
            (inI r12) ∧ ((r12 = 0 →
              m_X12_show_J50 Q  M11) ∧ (¬ r12 = 0 →
              (inI (M11 230 0)) ∧ ((M11 230 0 = 8 →
                m_X12_show_J50 Q  M11) ∧ (¬ M11 230 0 = 8 →
                m_X12_frameAt 0 a0 a1 M11 (fun r16 M15 =>
                  (inI r16) ∧ ((r16 = (-1) →
                    m_X12_keeps  M15 (fun M18 =>
                      m_X12_shows 0 a0 a1 a2 M18 (fun M19 =>
                        Q 1 M19))) ∧ (¬ r16 = (-1) →
                    m_X12_show_J50 Q  M15))))))))))))))
def m_X12_cut_J29  (Q : Int → Mem → Prop)  (s0 : Int) (M : Mem) : Prop :=
  (s0 = 0 ∨ s0 = 1) ∧ Q s0 M
def m_X12_cut (a0 : Int) (M : Mem) (Q : Int → Mem → Prop) : Prop :=
  m_X12_is a0 0 ((M 230 0) - 1) M (fun r3 M2 =>
    (inI r3) ∧ ((r3 = 0 →
      m_X12_refuses 3 M2 (fun r8 M7 =>
        (inI r8) ∧ ((r8 < 0 →
          m_X12_cut_J29 Q 0 M7) ∧ (¬ r8 < 0 →
          m_X12_cut_J29 Q 1 M7)))) ∧ (¬ r3 = 0 →
      m_X12_keeps  M2 (fun M5 =>
        m_X12_takes 0 a0 M5 (fun M6 =>
          Q 1 M6)))))
def m_X12_watch_J53  (Q : Int → Mem → Prop)  (s0 : Int) (M : Mem) : Prop :=
  (s0 = 0 ∨ s0 = 1) ∧ Q s0 M
def m_X12_watch_J40  (Q : Int → Mem → Prop)   (M : Mem) : Prop :=
  m_X12_refuses 3 M (fun r3 M2 =>
    (inI r3) ∧ ((r3 < 0 →
      m_X12_watch_J53 Q 0 M2) ∧ (¬ r3 < 0 →
      m_X12_watch_J53 Q 1 M2)))
def m_X12_watch_J37  (Q : Int → Mem → Prop)  (v1 : Int) (s0 : Int) (s1 : Int) (M : Mem) : Prop :=
  (inI s0) ∧ (inI s1) ∧ ((s0 = s1 →
    m_X12_watch_J40 Q  M) ∧ (¬ s0 = s1 →
    m_X12_keeps  M (fun M7 =>
      ∀ M8 : Mem, M8 = up M7 229 0 (zxor (M7 229 0) (zshl 1 v1)) → Q 1 M8)))
def m_X12_watch (a0 : Int) (a1 : Int) (M : Mem) (Q : Int → Mem → Prop) : Prop :=
  m_X12_isPerson a0 M (fun r10 M9 =>
    (inI r10) ∧ ((r10 = 0 →
      m_X12_watch_J40 Q  M9) ∧ (¬ r10 = 0 →
      m_X12_is a1 0 1 M9 (fun r13 M12 =>
        (inI r13) ∧ ((r13 = 0 →
          m_X12_watch_J40 Q  M12) ∧ (¬ r13 = 0 →
          m_X12_has2 (M12 229 0) a0 M12 (fun r16 M15 =>
            (inI a1) ∧ ((a1 = 1 →
              m_X12_watch_J37 Q a0 r16 1 M15) ∧ (¬ a1 = 1 →
              m_X12_watch_J37 Q a0 r16 0 M15)))))))))
def m_X12_send_J39  (Q : Int → Mem → Prop)  (s0 : Int) (M : Mem) : Prop :=
  (s0 = 0 ∨ s0 = 1) ∧ Q s0 M
def m_X12_send_J26  (Q : Int → Mem → Prop)   (M : Mem) : Prop :=
  m_X12_refuses 3 M (fun r3 M2 =>
    (inI r3) ∧ ((r3 < 0 →
      m_X12_send_J39 Q 0 M2) ∧ (¬ r3 < 0 →
      m_X12_send_J39 Q 1 M2)))
def m_X12_send (a0 : Int) (a1 : Int) (M : Mem) (Q : Int → Mem → Prop) : Prop :=
  m_X12_isPerson a0 M (fun r6 M5 =>
    (inI r6) ∧ ((r6 = 0 →
      m_X12_send_J26 Q  M5) ∧ (¬ r6 = 0 →
      m_X12_isPlace a1 M5 (fun r9 M8 =>
        (inI r9) ∧ ((r9 = 0 →
          m_X12_send_J26 Q  M8) ∧ (¬ r9 = 0 →
          ((0 : Int) ≤ a0 ∧ a0 < 132) ∧ (inI (M8 228 a0)) ∧ (inI a1) ∧ ((M8 228 a0 = a1 →
            m_X12_send_J26 Q  M8) ∧ (¬ M8 228 a0 = a1 →
            m_X12_keeps  M8 (fun M14 =>
              ((0 : Int) ≤ a0 ∧ a0 < 132) ∧ ∀ M16 : Mem, M16 = up M14 228 a0 a1 → Q 1 M16)))))))))
def m_X12_seed_J17  (Q : Int → Mem → Prop)  (s0 : Int) (M : Mem) : Prop :=
  (s0 = 0 ∨ s0 = 1) ∧ Q s0 M
def m_X12_seed (a0 : Int) (M : Mem) (Q : Int → Mem → Prop) : Prop :=
  (inI a0) ∧ ((0 ≤ a0 →
    (inI a0) ∧ ∀ M4 : Mem, M4 = up M 199 56 a0 → Q 1 M4) ∧ (¬ 0 ≤ a0 →
    m_X12_refuses 5 M (fun r6 M5 =>
      (inI r6) ∧ ((r6 < 0 →
        m_X12_seed_J17 Q 0 M5) ∧ (¬ r6 < 0 →
        m_X12_seed_J17 Q 1 M5)))))
def m_X12_kept_J39  (Q : Int → Mem → Prop)  (s0 : Int) (M : Mem) : Prop :=
  Q s0 M
def m_X12_kept_J38  (Q : Int → Mem → Prop)   (M : Mem) : Prop :=
  m_X12_kept_J39 Q (-1) M
def m_X12_kept (a0 : Int) (a1 : Int) (M : Mem) (Q : Int → Mem → Prop) : Prop :=
  m_X12_is a0 0 ((M 232 0) - 1) M (fun r2 M1 =>
    (inI r2) ∧ ((r2 = 0 →
      m_X12_kept_J38 Q  M1) ∧ (¬ r2 = 0 →
      m_X12_is a1 0 2 M1 (fun r5 M4 =>
        (inI r5) ∧ ((r5 = 0 →
          m_X12_kept_J38 Q  M4) ∧ (¬ r5 = 0 →
          ((0 : Int) ≤ (3 * a0) + a1 ∧ (3 * a0) + a1 < 2640) ∧ m_X12_kept_J39 Q (M4 233 ((3 * a0) + a1)) M4))))))
def m_X12_writes (a0 : Int) (M : Mem) (Q : Mem → Prop) : Prop :=
  ((0 : Int) ≤ M 199 66 ∧ M 199 66 < 60) ∧ ∀ M2 : Mem, M2 = up M 241 (M 199 66) (zand a0 255) → ∀ M3 : Mem, M3 = up M2 199 66 ((M2 199 66) + 1) → Q M3
def m_X12_image_L127  (Q : Int → Mem → Prop)  : Nat → Int → Int → Mem → Prop
  | 0, _, _, _ => False
  | f + 1, v1, v2, M =>
  (inI v2) ∧ (inI (M 199 66)) ∧ ((M 199 66 ≤ v2 →
    m_X12_writes v1 M (fun M3 =>
      Q (M3 199 66) M3)) ∧ (¬ M 199 66 ≤ v2 →
    ((0 : Int) ≤ v2 ∧ v2 < 60) ∧ (inI ((5 * v1) + (M 241 v2))) ∧ ∀ x6 : Int, x6 = ((5 * v1) + (M 241 v2)).tmod 251 → m_X12_image_L127 Q f x6 (v2 + 1) M))
def m_X12_image_L93  (Q : Int → Mem → Prop)  : Nat → Int → Mem → Prop
  | 0, _, _ => False
  | f + 1, v1, M =>
  (inI v1) ∧ (inI (3 * (M 230 0))) ∧ ((3 * (M 230 0) ≤ v1 →
    ∃ fu : Nat, m_X12_image_L127 Q fu 193 0 M) ∧ (¬ 3 * (M 230 0) ≤ v1 →
    ((0 : Int) ≤ v1 ∧ v1 < 594) ∧ m_X12_writes (M 231 v1) M (fun M10 =>
      m_X12_image_L93 Q f (v1 + 1) M10)))
def m_X12_image_J72 (k30 : Int → Mem → Prop) (Q : Int → Mem → Prop)  (v1 : Int) (s1 : Int) (M : Mem) : Prop :=
  m_X12_writes s1 M (fun M11 =>
    k30 (v1 + 1) M11)
def m_X12_image_L30  (Q : Int → Mem → Prop)  : Nat → Int → Mem → Prop
  | 0, _, _ => False
  | f + 1, v1, M =>
  ((0 : Int) ≤ M 199 13 ∧ M 199 13 < 2) ∧ (inI v1) ∧ (inI (M 205 (M 199 13))) ∧ ((M 205 (M 199 13) ≤ v1 →
    m_X12_writes (M 230 0) M (fun M15 =>
      ∃ fu : Nat, m_X12_image_L93 Q fu 0 M15)) ∧ (¬ M 205 (M 199 13) ≤ v1 →
    ((0 : Int) ≤ v1 ∧ v1 < 132) ∧ m_X12_writes (M 228 v1) M (fun M17 =>
      m_X12_has2 (M17 229 0) v1 M17 (fun r19 M18 =>
        (inI r19) ∧ ((r19 = 0 →
          m_X12_image_J72 (m_X12_image_L30 Q f) Q v1 0 M18) ∧ (¬ r19 = 0 →
          m_X12_image_J72 (m_X12_image_L30 Q f) Q v1 1 M18))))))
def m_X12_image (M : Mem) (Q : Int → Mem → Prop) : Prop :=
  ∀ M21 : Mem, M21 = up M 199 66 0 → m_X12_writes (zshr (M21 227 0) 8) M21 (fun M22 =>
    m_X12_writes (M22 227 0) M22 (fun M23 =>
      ∃ fu : Nat, m_X12_image_L30 Q fu 0 M23))
def m_X12_octet_J24  (Q : Int → Mem → Prop)  (s0 : Int) (M : Mem) : Prop :=
  Q s0 M
def m_X12_octet (a0 : Int) (M : Mem) (Q : Int → Mem → Prop) : Prop :=
  m_X12_is a0 0 ((M 199 66) - 1) M (fun r2 M1 =>
    (inI r2) ∧ ((r2 = 0 →
      m_X12_octet_J24 Q (-1) M1) ∧ (¬ r2 = 0 →
      ((0 : Int) ≤ a0 ∧ a0 < 60) ∧ m_X12_octet_J24 Q (M1 241 a0) M1)))
def m_X12_comesOn_J367  (Q : Int → Mem → Prop)   (M : Mem) : Prop :=
  Q 0 M
def m_X12_comesOn_L275  (Q : Int → Mem → Prop) (v2 : Int) : Nat → Int → Mem → Prop
  | 0, _, _ => False
  | f + 1, v4, M =>
  ((0 : Int) ≤ v2 ∧ v2 < 1800) ∧ (inI v4) ∧ (inI (M 200 v2)) ∧ ((M 200 v2 ≤ v4 →
    Q 1 M) ∧ (¬ M 200 v2 ≤ v4 →
    ((0 : Int) ≤ (v2 + 1) + (3 * v4) ∧ (v2 + 1) + (3 * v4) < 1800) ∧ m_X12_is (M 200 ((v2 + 1) + (3 * v4))) 1 8 M (fun r6 M5 =>
      (inI r6) ∧ ((r6 = 0 →
        m_X12_comesOn_J367 Q  M5) ∧ (¬ r6 = 0 →
        ((0 : Int) ≤ ((v2 + 1) + (3 * v4)) + 1 ∧ ((v2 + 1) + (3 * v4)) + 1 < 1800) ∧ m_X12_isPlace (M5 200 (((v2 + 1) + (3 * v4)) + 1)) M5 (fun r10 M9 =>
          (inI r10) ∧ ((r10 = 0 →
            m_X12_comesOn_J367 Q  M9) ∧ (¬ r10 = 0 →
            ((0 : Int) ≤ ((v2 + 1) + (3 * v4)) + 2 ∧ ((v2 + 1) + (3 * v4)) + 2 < 1800) ∧ (inI (M9 200 (((v2 + 1) + (3 * v4)) + 2))) ∧ ((6 < M9 200 (((v2 + 1) + (3 * v4)) + 2) →
              m_X12_comesOn_J367 Q  M9) ∧ (¬ 6 < M9 200 (((v2 + 1) + (3 * v4)) + 2) →
              ((0 : Int) ≤ (v2 + 1) + (3 * v4) ∧ (v2 + 1) + (3 * v4) < 1800) ∧ ((0 : Int) ≤ ((v2 + 1) + (3 * v4)) + 1 ∧ ((v2 + 1) + (3 * v4)) + 1 < 1800) ∧ m_X12_frameAt 1 (M9 200 ((v2 + 1) + (3 * v4))) (M9 200 (((v2 + 1) + (3 * v4)) + 1)) M9 (fun r17 M16 =>
                (inI r17) ∧ ((r17 = (-1) →
                  ((0 : Int) ≤ (v2 + 1) + (3 * v4) ∧ (v2 + 1) + (3 * v4) < 1800) ∧ ((0 : Int) ≤ ((v2 + 1) + (3 * v4)) + 1 ∧ ((v2 + 1) + (3 * v4)) + 1 < 1800) ∧ ((0 : Int) ≤ ((v2 + 1) + (3 * v4)) + 2 ∧ ((v2 + 1) + (3 * v4)) + 2 < 1800) ∧ m_X12_shows 1 (M16 200 ((v2 + 1) + (3 * v4))) (M16 200 (((v2 + 1) + (3 * v4)) + 1)) (M16 200 (((v2 + 1) + (3 * v4)) + 2)) M16 (fun M22 =>
                    m_X12_comesOn_L275 Q v2 f (v4 + 1) M22)) ∧ (¬ r17 = (-1) →
                  m_X12_comesOn_J367 Q  M16)))))))))))))
def m_X12_comesOn_J220  (Q : Int → Mem → Prop)   (M : Mem) : Prop :=
  Q 0 M
def m_X12_comesOn_L173  (Q : Int → Mem → Prop) (v2 : Int) : Nat → Int → Mem → Prop
  | 0, _, _ => False
  | f + 1, v4, M =>
  ((0 : Int) ≤ M 199 13 ∧ M 199 13 < 2) ∧ (inI v4) ∧ (inI (M 205 (M 199 13))) ∧ ((M 205 (M 199 13) ≤ v4 →
    ∃ fu : Nat, m_X12_comesOn_L275 Q v2 fu 0 M) ∧ (¬ M 205 (M 199 13) ≤ v4 →
    ((0 : Int) ≤ 2 + (2 * v4) ∧ 2 + (2 * v4) < 1800) ∧ m_X12_isPlace (M 200 (2 + (2 * v4))) M (fun r28 M27 =>
      (inI r28) ∧ ((r28 = 0 →
        m_X12_comesOn_J220 Q  M27) ∧ (¬ r28 = 0 →
        ((0 : Int) ≤ 3 + (2 * v4) ∧ 3 + (2 * v4) < 1800) ∧ (inI (M27 200 (3 + (2 * v4)))) ∧ ((M27 200 (3 + (2 * v4)) ≤ 1 →
          ((0 : Int) ≤ 2 + (2 * v4) ∧ 2 + (2 * v4) < 1800) ∧ ((0 : Int) ≤ 6 + v4 ∧ 6 + v4 < 132) ∧ ∀ M34 : Mem, M34 = up M27 228 (6 + v4) (M27 200 (2 + (2 * v4))) → ((0 : Int) ≤ 3 + (2 * v4) ∧ 3 + (2 * v4) < 1800) ∧ ∀ M36 : Mem, M36 = up M34 229 1 (zor (M34 229 1) (zshl (M34 200 (3 + (2 * v4))) v4)) → m_X12_comesOn_L173 Q v2 f (v4 + 1) M36) ∧ (¬ M27 200 (3 + (2 * v4)) ≤ 1 →
          m_X12_comesOn_J220 Q  M27)))))))
def m_X12_comesOn_L77  (Q : Int → Mem → Prop) (v1 : Int) (v2 : Int) : Nat → Int → Int → Mem → Prop
  | 0, _, _, _ => False
  | f + 1, v3, v4, M =>
  (inI v4) ∧ (inI (v1 - 1)) ∧ ((v1 - 1 ≤ v4 →
    ((0 : Int) ≤ v1 - 1 ∧ v1 - 1 < 1800) ∧ (inI (M 200 (v1 - 1))) ∧ (inI v3) ∧ ((M 200 (v1 - 1) = v3 →
      m_X12_copies 1 0 M (fun M42 =>
        ∀ M43 : Mem, M43 = up M42 227 1 (zor (zshl (M42 200 0) 8) (M42 200 1)) → ∀ M44 : Mem, M44 = up M43 229 1 0 → ∀ M45 : Mem, M45 = up M44 230 1 0 → ∀ M46 : Mem, M46 = up M45 232 1 0 → ∃ fu : Nat, m_X12_comesOn_L173 Q v2 fu 0 M46)) ∧ (¬ M 200 (v1 - 1) = v3 →
      Q 0 M))) ∧ (¬ v1 - 1 ≤ v4 →
    ((0 : Int) ≤ v4 ∧ v4 < 1800) ∧ (inI ((5 * v3) + (M 200 v4))) ∧ ∀ x49 : Int, x49 = ((5 * v3) + (M 200 v4)).tmod 251 → m_X12_comesOn_L77 Q v1 v2 f x49 (v4 + 1) M))
def m_X12_comesOn_J68  (Q : Int → Mem → Prop)   (M : Mem) : Prop :=
  Q 0 M
def m_X12_comesOn (a0 : Int) (M : Mem) (Q : Int → Mem → Prop) : Prop :=
  ((0 : Int) ≤ M 199 13 ∧ M 199 13 < 2) ∧ (inI a0) ∧ (inI (2 + (2 * (M 205 (M 199 13))))) ∧ ((a0 ≤ 2 + (2 * (M 205 (M 199 13))) →
    m_X12_comesOn_J68 Q  M) ∧ (¬ a0 ≤ 2 + (2 * (M 205 (M 199 13))) →
    ((0 : Int) ≤ 2 + (2 * (M 205 (M 199 13))) ∧ 2 + (2 * (M 205 (M 199 13))) < 1800) ∧ (inI (M 200 (2 + (2 * (M 205 (M 199 13)))))) ∧ ((8 < M 200 (2 + (2 * (M 205 (M 199 13)))) →
      m_X12_comesOn_J68 Q  M) ∧ (¬ 8 < M 200 (2 + (2 * (M 205 (M 199 13)))) →
      ((0 : Int) ≤ 2 + (2 * (M 205 (M 199 13))) ∧ 2 + (2 * (M 205 (M 199 13))) < 1800) ∧ (inI a0) ∧ (inI (((2 + (2 * (M 205 (M 199 13)))) + 2) + (3 * (M 200 (2 + (2 * (M 205 (M 199 13)))))))) ∧ ((a0 = ((2 + (2 * (M 205 (M 199 13)))) + 2) + (3 * (M 200 (2 + (2 * (M 205 (M 199 13)))))) →
        (inI (zor (zshl (M 200 0) 8) (M 200 1))) ∧ ((zor (zshl (M 200 0) 8) (M 200 1) ≤ 999 →
          ∃ fu : Nat, m_X12_comesOn_L77 Q a0 (2 + (2 * (M 205 (M 199 13)))) fu 193 0 M) ∧ (¬ zor (zshl (M 200 0) 8) (M 200 1) ≤ 999 →
          m_X12_comesOn_J68 Q  M))) ∧ (¬ a0 = ((2 + (2 * (M 205 (M 199 13)))) + 2) + (3 * (M 200 (2 + (2 * (M 205 (M 199 13)))))) →
        m_X12_comesOn_J68 Q  M))))))
def m_X12_on_J31  (Q : Int → Mem → Prop)  (s0 : Int) (M : Mem) : Prop :=
  (s0 = 0 ∨ s0 = 1) ∧ Q s0 M
def m_X12_on (M : Mem) (Q : Int → Mem → Prop) : Prop :=
  ∀ M2 : Mem, M2 = up M 199 1 0 → m_X12_comesOn (M 199 1) M2 (fun r4 M3 =>
    (inI r4) ∧ ((r4 = 0 →
      m_X12_refuses 5 M3 (fun r9 M8 =>
        (inI r9) ∧ ((r9 < 0 →
          m_X12_on_J31 Q 0 M8) ∧ (¬ r9 < 0 →
          m_X12_on_J31 Q 1 M8)))) ∧ (¬ r4 = 0 →
      m_X12_copies 0 1 M3 (fun M6 =>
        ∀ M7 : Mem, M7 = up M6 199 55 0 → Q 1 M7))))
