/-! self, empty -/
theorem idxP_key {s p : Int} : ∀ {l m : List (Int × Int × Int)} {k : Int}, l.map (fun q => (q.1, q.2.1)) = m.map (fun q => (q.1, q.2.1)) → idxP l s p k = idxP m s p k
  | [], [], _, _ => rfl
  | [], _ :: _, _, h => by simp at h
  | _ :: _, [], _, h => by simp at h
  | q :: l, r :: m, k, h => by
    simp only [List.map_cons, List.cons.injEq, Prod.mk.injEq] at h
    obtain ⟨⟨h1, h2⟩, h3⟩ := h
    unfold idxP
    rw [h1, h2, idxP_key h3]
theorem idxP_app {s p n : Int} : ∀ {l : List (Int × Int × Int)} {k : Int}, 0 ≤ k → idxP l s p k = -1 → idxP (l ++ [(s, p, n)]) s p k = k + (l.length : Nat)
  | [], k, _, _ => by simp [idxP]
  | q :: l, k, h, e => by
    have e2 := (idxP_no h).mp e q List.mem_cons_self
    unfold idxP at e
    rw [if_neg e2] at e
    rw [List.cons_append]
    unfold idxP
    rw [if_neg e2, idxP_app (by omega) e, List.length_cons]
    omega
theorem putP_putP {l : List (Int × Int × Int)} {s p n m : Int} : putP (putP l s p n) s p m = putP l s p m := by
  by_cases c : idxP l s p 0 = -1
  · have e := idxP_app (n := n) (by decide) c
    have : putP l s p n = l ++ [(s, p, n)] := by unfold putP; rw [if_pos c]
    rw [this]
    unfold putP
    rw [if_pos c, e, if_neg (by omega)]
    rw [show (0 + (l.length : Int)).toNat = l.length by omega, List.set_append_right _ _ (Nat.le_refl _)]
    simp
  · obtain ⟨a1, a2, a3, a4⟩ := idxP_at (by decide) c
    rw [Int.sub_zero] at a3 a4
    have e : idxP (l.set (idxP l s p 0).toNat (s, p, n)) s p 0 = idxP l s p 0 := (idxP_key (set_key a3 a4)).symm
    have : putP l s p n = l.set (idxP l s p 0).toNat (s, p, n) := by unfold putP; rw [if_neg c]
    rw [this]
    unfold putP
    rw [e, if_neg c, if_neg c, List.set_set]
def reS (S : TS) (l : List (Int × Int × Int)) : TS := (sDay S, sWa S, sSp S, l)
theorem SOK.re {W : TW} {S : TS} {l : List (Int × Int × Int)} (h : SOK W S) (hl : reOK W l) : SOK W (reS S l) := ⟨h.1, h.2.1, h.2.2.1, h.2.2.2.1, hl⟩
theorem SX.re {M M' : Mem} {W : TW} {S : TS} {s : Int} {l : List (Int × Int × Int)} (h : SX M s W S) (e : ∀ c, (c < s + 2 ∨ s + 2 + 3 < c) → M' c = M c) (hl : reX M' (s + 2) l) : SX M' s W (reS S l) := by
  obtain ⟨h1, h2, h3, h4, h5⟩ := h
  rw [← e s (by omega)] at h2 h3
  rw [← e (s + 1) (by omega)] at h4
  exact ⟨h1, h2, h3, h4, hl⟩
theorem SY.re {M M' : Mem} {W : TW} {S : TS} {v : Int} {l : List (Int × Int × Int)} (h : SY M v W S) (e : ∀ a, a ≠ 230 → a ≠ 231 → M' a = M a) (hl : reY M' v l) : SY M' v W (reS S l) := by
  obtain ⟨h1, h2, h3, h4, h5⟩ := h
  rw [← e 227 (by decide) (by decide)] at h2
  rw [← e 229 (by decide) (by decide)] at h3
  rw [← e 228 (by decide) (by decide)] at h4
  exact ⟨h1, h2, h3, h4, hl⟩
theorem x_reput9 {r s p n : Int} {M : Mem} {Q : Mem → Prop} {l : List (Int × Int × Int)} {W : TW} (hr : kd r = 5) (hl : reX M r l) (hok : reOK W l) (hW : wPl W ≤ 7) (h8 : l.length ≤ 8 ∨ ¬ idxP l s p 0 = -1) (h1 : inI s) (h2 : inI p) (h : ∀ M', (∀ c, (c < r ∨ r + 3 < c) → M' c = M c) → reX M' r (putP l s p n) → Q M') : m_X5_put r s p n M Q := by
  have l9 := hok.1
  have fin : ∀ k : Nat, k ≤ 8 → k ≤ l.length → (putP l s p n).length = (if l.length < k + 1 then k + 1 else l.length) → (∀ i, i < (putP l s p n).length → (putP l s p n).getD i (0, 0, 0) = if i = k then (s, p, n) else l.getD i (0, 0, 0)) → m_X5_put_J20 Q r s p n k M := by
    intro k hk hk2 hlen hg
    unfold m_X5_put_J20
    refine ⟨by omega, fun _ => ⟨by omega, fun M1 e1 => ⟨by omega, fun M2 e2 => ⟨by omega, fun M3 e3 => ?_⟩⟩⟩, fun q => by omega⟩
    have e0 : M3 r 0 = (l.length : Nat) := by rw [e3, up_ne _ (by omega), e2, up_ne _ (by omega), e1, up_ne _ (by omega), hl.1]
    unfold m_J9_max_7cf53 m_J9_max_7cf53_J10
    rw [e0]
    have last : ∀ x M4, x = ((putP l s p n).length : Nat) → M4 = up M3 r 0 x → Q M4 := by
      intro x M4 ex e4
      refine h M4 (fun c hc => ?_) ⟨?_, fun i hi => ?_⟩
      · rw [e4, up_ne _ (by omega), e3, up_ne _ (by omega), e2, up_ne _ (by omega), e1, up_ne _ (by omega)]
      · rw [e4]; simp [up_get, ex]
      · obtain ⟨b1, b2, b3⟩ := up3 e1 e2 e3 i
        rw [hg i hi, e4, up_ne _ (by omega), up_ne _ (by omega), up_ne _ (by omega), b1, b2, b3]
        by_cases c : i = k
        · subst c
          simp
        · rw [if_neg c, if_neg (by omega), if_neg (by omega), if_neg (by omega)]
          exact hl.2 i (by rw [hlen] at hi; split at hi <;> omega)
    refine ⟨by omega, by omega, fun q M4 e4 => last _ M4 (by rw [hlen, if_pos (by omega)]) e4, fun q M4 e4 => last _ M4 (by rw [hlen, if_neg (by omega)]) e4⟩
  refine ⟨hr, x_indexOf hr hl hok hW h1 h2 ?_⟩
  by_cases c : idxP l s p 0 = -1
  · refine ⟨by omega, fun _ => ?_, fun z => absurd c z⟩
    rw [hl.1]
    refine fin l.length (h8.resolve_right (fun z => z c)) (by omega) (by rw [putP_len, if_pos c, if_pos (by omega)]) (fun i hi => ?_)
    unfold putP at hi ⊢
    rw [if_pos c] at hi ⊢
    simp at hi
    rw [getD_app]
    by_cases e : i = l.length
    · rw [if_neg (by omega), if_pos e, if_pos e]
    · rw [if_pos (by omega), if_neg e]
  · obtain ⟨i1, i2, -⟩ := idxP_at (l := l) (s := s) (p := p) (k := 0) (by omega) c
    refine ⟨by omega, fun z => absurd z c, fun _ => ?_⟩
    have := fin (idxP l s p 0).toNat (by omega) (by omega) (by rw [putP_len, if_neg c, if_neg (by omega)]) (fun i hi => by
      unfold putP
      rw [if_neg c, getD_set (by omega)])
    rwa [toNat_i i1] at this
section
variable {N : Nat} {t b : Int} {p : PT} {M : Mem}
theorem y_manyD {Q : Int → Mem → Prop} {T : TS} {W : TW} {st pl : Int} (hT : TY M b W) (hb : M 199 13 = b) (hW : WOK W) (hS : SOK W T) (hd : rowsY M W T 9 0) (hs : 0 ≤ st ∧ st ≤ 8) (hp : inI pl) (h : Q (cntP (walkP W T st.toNat) (wPn W) pl) M) : m_X12_manyAt st pl M Q := by
  have w1 := hW.1
  have e : ∀ q : Nat, q < wPn W → M 236 (6 * st + q) = walkP W T st.toNat q := fun q hq => by
    have := hd st.toNat q hq (by omega)
    rwa [step_of hs.1] at this
  refine y_manyAt hb hT.1 hT.2.2.1 hW.2.1 hs (fun q hq => ?_) hp ?_
  · rw [e q hq]
    have := walkP_rng hS st.toNat q hq
    omega
  · rw [cntP_cong (g := walkP W T st.toNat) (fun q hq => e q hq)]
    exact h
def slfP (p : PT) (st pl : Int) (k : Nat) : Prop := cntP (walkP (pW p) (reS (pS p) (putP (sRe (pS p)) st pl k)) st.toNat) (wPn (pW p)) pl = (k : Nat)
theorem x_self_l {Q : Int → Mem → Prop} {st pl : Int} {M0 : Mem} (hp : POK N p) (hst : 1 ≤ st ∧ st ≤ 8) (hpl : 0 ≤ pl ∧ pl < wPl (pW p)) (h : ∀ (r : Nat) M', IX M' t p → stX M0 M' → isSet (slfP p st pl) 7 r → Q r M') :
    ∀ (d k r : Nat) (M : Mem) (l : List (Int × Int × Int)), k + d = 7 → IX M t p → stX M0 M → SX M 46 (pW p) (reS (pS p) l) → (l = sRe (pS p) ∨ ∃ n : Nat, n ≤ 6 ∧ l = putP (sRe (pS p)) st pl n) → isSet (slfP p st pl) k r → m_X11_self_L33 Q st pl (d + 1) r k M
  | 0, k, r, M, l, hk, hx, s0, hs, hl, hr => by
    unfold m_X11_self_L33
    have : k = 7 := by omega
    subst this
    exact ⟨by decide, fun _ => h r M hx s0 hr, fun q => absurd (show (6 : Int) < (7 : Nat) by decide) q⟩
  | d + 1, k, r, M, l, hk, hx, s0, hs, hl, hr => by
    have hW := hp.2.1.1
    have w1 := hW.1
    have l8 := hp.2.2.1.1.2.1
    have ok := hp.2.2.1.1.1.2.2.2.2
    have okp : ∀ n : Nat, n ≤ 6 → reOK (pW p) (putP (sRe (pS p)) st pl n) := fun n hn => ok.put l8 ⟨by show 1 ≤ st; omega, by show st ≤ 8; omega, by show 0 ≤ pl; omega, by show pl < _; omega, by show 0 ≤ (n : Int); omega, by show (n : Int) ≤ 6; omega⟩
    have put : ∀ n : Nat, putP l st pl n = putP (sRe (pS p)) st pl n := fun n => by
      rcases hl with z | ⟨m, m6, z⟩
      · rw [z]
      · rw [z, putP_putP]
    have okl : reOK (pW p) l ∧ (l.length ≤ 8 ∨ ¬ idxP l st pl 0 = -1) := by
      rcases hl with z | ⟨m, m6, z⟩
      · rw [z]; exact ⟨ok, Or.inl l8⟩
      · rw [z]
        refine ⟨okp m m6, ?_⟩
        by_cases c : idxP (sRe (pS p)) st pl 0 = -1
        · right
          have e := idxP_app (n := (m : Int)) (by decide) c
          unfold putP
          rw [if_pos c, e]
          omega
        · left
          rw [putP_len, if_neg c]
          exact l8
    have rl := hr.lt
    have r7 : 2 ^ k ≤ 2 ^ 7 := Nat.pow_le_pow_right (by decide) (by omega)
    unfold m_X11_self_L33 m_X11_self_J90
    refine ⟨by omega, fun q => by omega, fun _ => ?_⟩
    refine x_reput9 (by decide) hs.2.2.2.2 okl.1 w1 okl.2 (by omega) (by omega) fun M1 o1 r1 => ?_
    rw [show putP (sRe (reS (pS p) l)) st pl (k : Int) = putP (sRe (pS p)) st pl (k : Int) from put k] at r1
    have s1 : SX M1 46 (pW p) (reS (pS p) (putP (sRe (pS p)) st pl k)) := hs.re (S := reS (pS p) l) o1 r1
    have z1 : scrX M M1 := ⟨fun a a1 a2 a3 a4 a5 a6 a7 => o1 a (by omega), by rw [o1 187 (by decide)]⟩
    have sok := hp.2.2.1.1.1.re (okp k (by omega))
    refine x_day46 (hx.scr z1) hp s1 sok fun M2 hx2 o2 s2 d2 => ?_
    have e := d2.2 st.toNat pl.toNat (by omega) (by omega)
    rw [step_of (by omega), step_of (by omega)] at e
    refine x_countIn (by decide) (by omega) hW.2.1 e ?_
    have cr := cntP_rng (walkP (pW p) (reS (pS p) (putP (sRe (pS p)) st pl k)) st.toNat) pl (wPn (pW p))
    have w2 := hW.2.1
    have st2 := (s0.tr z1.st).tr o2
    refine ⟨by omega, by omega, fun q => ?_, fun q => ?_⟩
    · rw [z_shl1 (by omega), Int.toNat_natCast, z_or (by omega) (by omega)]
      exact x_self_l hp hst hpl h d (k + 1) _ M2 _ (by omega) hx2 st2 s2 (Or.inr ⟨k, by omega, rfl⟩) (hr.y q)
    · exact x_self_l hp hst hpl h d (k + 1) _ M2 _ (by omega) hx2 st2 s2 (Or.inr ⟨k, by omega, rfl⟩) (hr.n q)
theorem y_self_81 {Q : Int → Mem → Prop} {K : Int → Int → Mem → Prop} {st pl : Int} {k r : Nat} (hy : IY M b p) (hp : POK N p) (hst : 1 ≤ st ∧ st ≤ 8) (hpl : 0 ≤ pl ∧ pl < wPl (pW p)) (hk : k ≤ 6) (hr : isSet (slfP p st pl) k r) (hs : SY M 1 (pW p) (reS (pS p) (putP (sRe (pS p)) st pl k))) (h : ∀ (r' : Nat) M', IY M' b p → stY M M' → isSet (slfP p st pl) (k + 1) r' → K r' ((k : Int) + 1) M') : m_X12_self_J81 K Q st pl r k M := by
  have hW := hp.2.1.1
  have w1 := hW.1
  have w2 := hW.2.1
  have rl := hr.lt
  have r7 : 2 ^ k ≤ 2 ^ 7 := Nat.pow_le_pow_right (by decide) (by omega)
  have okp : reOK (pW p) (putP (sRe (pS p)) st pl k) := hp.2.2.1.1.1.2.2.2.2.put hp.2.2.1.1.2.1 ⟨by show 1 ≤ st; omega, by show st ≤ 8; omega, by show 0 ≤ pl; omega, by show pl < _; omega, by show 0 ≤ (k : Int); omega, by show (k : Int) ≤ 6; omega⟩
  have sok := hp.2.2.1.1.1.re okp
  unfold m_X12_self_J81 m_X12_self_J106
  refine y_run1 hy hp hs sok fun M1 hy1 o1 d1 => y_manyD hy1.2.1.2.1 hy1.2.1.1 hW sok d1 (by omega) (by omega) ?_
  have cr := cntP_rng (walkP (pW p) (reS (pS p) (putP (sRe (pS p)) st pl k)) st.toNat) pl (wPn (pW p))
  refine ⟨by omega, by omega, fun q => ?_, fun q => ?_⟩
  · rw [z_shl1 (by omega), Int.toNat_natCast, z_or (by omega) (by omega)]
    exact h _ M1 hy1 o1 (hr.y q)
  · rw [show (0 : Int) = ((0 : Nat) : Int) from rfl, z_or (by omega) (by omega), Nat.or_zero]
    exact h _ M1 hy1 o1 (hr.n q)
theorem y_self_l {Q : Int → Mem → Prop} {st pl : Int} {M0 : Mem} (hp : POK N p) (hst : 1 ≤ st ∧ st ≤ 8) (hpl : 0 ≤ pl ∧ pl < wPl (pW p)) (h : ∀ (r : Nat) M', IY M' b p → stY M0 M' → isSet (slfP p st pl) 7 r → Q r M') :
    ∀ (d k r : Nat) (M : Mem), k + d = 7 → IY M b p → stY M0 M → isSet (slfP p st pl) k r → m_X12_self_L25 Q st pl (d + 1) r k M
  | 0, k, r, M, hk, hy, s0, hr => by
    unfold m_X12_self_L25
    have : k = 7 := by omega
    subst this
    exact ⟨by decide, fun _ => h r M hy s0 hr, fun q => absurd (show (6 : Int) < (7 : Nat) by decide) q⟩
  | d + 1, k, r, M, hk, hy, s0, hr => by
    have hW := hp.2.1.1
    have w1 := hW.1
    have ok := hp.2.2.1.1.1.2.2.2.2
    have l8 := hp.2.2.1.1.2.1
    unfold m_X12_self_L25
    refine ⟨by omega, fun q => by omega, fun _ => ?_⟩
    refine y_copy1 hy hp fun M1 hy1 o1 s1 _ => y_frameAt (by decide) s1.2.2.2.2 ok w1 (by omega) (by omega) ?_
    by_cases c : idxP (sRe (pS p)) st pl 0 = -1
    · rw [c]
      refine ⟨by decide, fun _ => y_shows (by decide) s1.2.2.2.2 l8 fun M2 o2 r2 z2 => ?_, fun z => absurd rfl z⟩
      have s2 : SY M2 1 (pW p) (reS (pS p) (putP (sRe (pS p)) st pl k)) := s1.re z2 (by unfold putP; rw [if_pos c]; exact r2)
      refine y_self_81 (hy1.scr hp o2.scr) hp hst hpl (by omega) hr s2 fun r' M3 hy3 o3 hr3 => ?_
      exact y_self_l hp hst hpl h d (k + 1) r' M3 (by omega) hy3 (((s0.tr o1).tr o2.st).tr o3) hr3
    · obtain ⟨a1, a2, a3, a4⟩ := idxP_at (by decide) c
      rw [Int.sub_zero] at a3 a4
      have re1 := s1.2.2.2.2
      generalize ei : idxP (sRe (pS p)) st pl 0 = i at *
      refine ⟨by omega, fun z => absurd z c, fun _ => ⟨by omega, fun M2 e2 => ?_⟩⟩
      have o2 : othY 1 M1 M2 := othY.re e2 (by omega)
      have r2 : reY M2 1 ((sRe (pS p)).set i.toNat (st, pl, (k : Int))) := by
        refine ⟨?_, fun j hj => ?_⟩
        · rw [e2, up_ne _ (by decide), List.length_set]; exact re1.1
        · rw [List.length_set] at hj
          have f := re1.2 j hj
          rw [getD_set (by omega), e2]
          simp only [up_get, true_and]
          grind
      have s2 : SY M2 1 (pW p) (reS (pS p) (putP (sRe (pS p)) st pl k)) := s1.re (fun a h1 h2 => by rw [e2, up_ne _ h2]) (by unfold putP; rw [ei, if_neg c]; exact r2)
      refine y_self_81 (hy1.scr hp o2.scr) hp hst hpl (by omega) hr s2 fun r' M3 hy3 o3 hr3 => ?_
      exact y_self_l hp hst hpl h d (k + 1) r' M3 (by omega) hy3 (((s0.tr o1).tr o2.st).tr o3) hr3
theorem s_self {a c : Int} (hi : Inv N M) (ha : inI a) (hc : inI c) : m_X11_self a c M (fun r1 M1 => m_X12_self a c M1 (fun r2 M2 => Good N r1 r2 M2)) := by
  obtain ⟨t, b, p, hp, hx, hy⟩ := hi
  have hno : ¬ ((1 ≤ a ∧ a ≤ 8) ∧ (0 ≤ c ∧ c < wPl (pW p))) → m_X12_self a c M (fun r2 M2 => Good N (-1) r2 M2) := fun q => by
    unfold m_X12_self m_X12_self_J18
    refine y_isPlace hy hp hc (fun q1 q2 => ⟨by decide, fun z => absurd z (by decide), fun _ => ?_⟩) (fun _ => ⟨by decide, fun _ => fin hp hx hy (by decide), fun z => absurd rfl z⟩)
    exact y_is2 ha (by decide) (by decide) (fun q3 q4 => absurd ⟨⟨q3, q4⟩, q1, q2⟩ q) (fun _ => ⟨by decide, fun _ => fin hp hx hy (by decide), fun z => absurd rfl z⟩)
  unfold m_X11_self m_X11_self_J15
  refine x_isStep ha (fun q1 q2 => ⟨by decide, fun z => absurd z (by decide), fun _ => ?_⟩) (fun q => ⟨by decide, fun _ => hno (fun z => q z.1), fun z => absurd rfl z⟩)
  refine x_isPlace hx hp hc (fun q3 q4 => ⟨by decide, fun z => absurd z (by decide), fun _ => ?_⟩) (fun q => ⟨by decide, fun _ => hno (fun z => q z.2), fun z => absurd rfl z⟩)
  refine x_copy46 hx hp fun M1 hx1 o1 s1 => ⟨8, x_self_l (M0 := M) hp ⟨q1, q2⟩ ⟨q3, q4⟩ (fun r M2 hx2 o2 f2 => ?_) 7 0 0 M1 (sRe (pS p)) (by omega) hx1 o1 s1 (Or.inl rfl) (isSet.z _)⟩
  have hy2 := hy.st o2
  unfold m_X12_self m_X12_self_J18
  refine y_isPlace hy2 hp hc (fun _ _ => ⟨by decide, fun z => absurd z (by decide), fun _ => ?_⟩) (fun q => by omega)
  refine y_is2 ha (by decide) (by decide) (fun _ _ => ⟨by decide, fun z => absurd z (by decide), fun _ => ?_⟩) (fun q => by omega)
  refine ⟨8, y_self_l (M0 := M2) hp ⟨q1, q2⟩ ⟨q3, q4⟩ (fun r' M4 hy4 o4 f4 => ?_) 7 0 0 M2 (by omega) hy2 stY.rf (isSet.z _)⟩
  have l1 := f2.lt
  rw [f4.eq f2]
  exact fin hp (hx2.st o4) hy4 (by omega)
/-! empty -/
theorem who_cnt {f : Int → Int} {n : Nat} {v : Int} (hn : n ≤ 6) : whoP f n v = 0 ↔ cntP f n v = 0 := by
  have h1 := pop_who f v n (by omega)
  have l1 := whoP_lt f v n
  have l2 : 2 ^ n ≤ 2 ^ 6 := Nat.pow_le_pow_right (by decide) hn
  constructor
  · intro h
    rw [h] at h1
    rw [← h1]
    rfl
  · intro h
    rw [h] at h1
    by_cases c : whoP f n v = 0
    · exact c
    · have := pop_pos _ (by omega) c
      omega
def nevP (W : TW) (S : TS) (pl : Nat) : Prop := ∀ j : Nat, 1 ≤ j → j ≤ 8 → cntP (walkP W S j) (wPn W) pl = 0
theorem or_zero {a c : Nat} : a ||| c = 0 ↔ a = 0 ∧ c = 0 := Nat.or_eq_zero_iff
theorem x_nev_l {Q : Int → Mem → Prop} {W : TW} {S : TS} {pl : Nat} (hW : WOK W) (hpl : pl < wPl W) (hd : dayX M 52 W S) (h1 : nevP W S pl → Q 1 M) (h0 : ¬ nevP W S pl → Q 0 M) :
    ∀ (d k r : Nat), k + d = 9 → 1 ≤ k → r < 64 → (r = 0 ↔ ∀ j : Nat, 1 ≤ j → j < k → cntP (walkP W S j) (wPn W) pl = 0) → m_X10_isNeverEntered_L4 Q 52 pl (d + 1) r k M
  | 0, k, r, hk, k1, hr, he => by
    unfold m_X10_isNeverEntered_L4 m_X10_isNeverEntered_J34
    have : k = 9 := by omega
    subst this
    refine ⟨by decide, fun _ => ⟨by omega, fun z => ⟨by decide, h1 (fun j j1 j2 => he.mp (by omega) j j1 (by omega))⟩, fun z => ⟨by decide, h0 (fun y => z ?_)⟩⟩, fun q => absurd (show (8 : Int) < (9 : Nat) by decide) q⟩
    have := he.mpr (fun j j1 j2 => y j j1 (by omega))
    omega
  | d + 1, k, r, hk, k1, hr, he => by
    have w1 := hW.1
    have w2 := hW.2.1
    have e := hd.2 k pl (by omega) (by omega)
    have l1 := whoP_lt (walkP W S k) pl (wPn W)
    have l2 : 2 ^ wPn W ≤ 2 ^ 6 := Nat.pow_le_pow_right (by decide) w2
    unfold m_X10_isNeverEntered_L4 m_X10_peopleIn
    rw [e]
    refine ⟨by omega, fun q => by omega, fun _ => ⟨by decide, by omega, ?_⟩⟩
    dsimp only
    rw [z_or (by omega) (by omega)]
    refine x_nev_l hW hpl hd h1 h0 d (k + 1) _ (by omega) (by omega) (Nat.or_lt_two_pow (n := 6) hr (by omega)) ?_
    rw [or_zero, he, who_cnt w2]
    constructor
    · rintro ⟨a1, a2⟩ j j1 j2
      by_cases z : j = k
      · subst z; exact a2
      · exact a1 j j1 (by omega)
    · intro a
      exact ⟨fun j j1 j2 => a j j1 (by omega), a k k1 (by omega)⟩
theorem x_empty_l {Q : Int → Mem → Prop} (hx : IX M t p) (hp : POK N p) (hd : dayX M 52 (pW p) (pS p)) (h : ∀ r : Nat, isSet (nevP (pW p) (pS p)) (wPl (pW p)) r → Q r M) :
    ∀ (d k r : Nat), k + d = wPl (pW p) → isSet (nevP (pW p) (pS p)) k r → m_X11_empty_L9 Q 52 (d + 1) r k M
  | 0, k, r, hk, hr => by
    have w1 := hp.2.1.1.1
    unfold m_X11_empty_L9
    rw [hx.2.1.1, hx.2.1.2.2.1.2.1]
    refine ⟨hx.2.1.2.2.1.1, by omega, by omega, fun _ => ?_, fun q => by omega⟩
    rw [show k = wPl (pW p) by omega] at hr
    exact h r hr
  | d + 1, k, r, hk, hr => by
    have w1 := hp.2.1.1.1
    have rl := hr.lt
    have r7 : 2 ^ k ≤ 2 ^ 7 := Nat.pow_le_pow_right (by decide) (by omega)
    unfold m_X11_empty_L9 m_X11_empty_J34
    rw [hx.2.1.1, hx.2.1.2.2.1.2.1]
    refine ⟨hx.2.1.2.2.1.1, by omega, by omega, fun q => by omega, fun _ => ⟨by decide, 9, x_nev_l hp.2.1.1 (by omega) hd (fun z => ?_) (fun z => ?_) 8 1 0 (by omega) (by omega) (by decide) ⟨fun _ j j1 j2 => by omega, fun _ => rfl⟩⟩⟩
    · refine ⟨by decide, fun z => absurd z (by decide), fun _ => ?_⟩
      rw [z_shl1 (by omega), Int.toNat_natCast, z_or (by omega) (by omega)]
      exact x_empty_l hx hp hd h d (k + 1) _ (by omega) (hr.y z)
    · exact ⟨by decide, fun _ => x_empty_l hx hp hd h d (k + 1) _ (by omega) (hr.n z), fun z => absurd rfl z⟩
theorem y_em_27 {Q : Int → Mem → Prop} {K : Int → Int → Mem → Prop} {W : TW} {S : TS} {pl r : Nat} (hT : TY M b W) (hb : M 199 13 = b) (hW : WOK W) (hS : SOK W S) (hd : rowsY M W S 9 0) (hpl : pl < wPl W) (h1 : nevP W S pl → K (zor (r : Nat) (zshl 1 (pl : Nat))) ((pl : Int) + 1) M) (h0 : ¬ nevP W S pl → K (zor (r : Nat) 0) ((pl : Int) + 1) M) :
    ∀ (d k s : Nat), k + d = 9 → 1 ≤ k → s ≤ 6 * k → (s = 0 ↔ ∀ j : Nat, 1 ≤ j → j < k → cntP (walkP W S j) (wPn W) pl = 0) → m_X12_empty_L27 K Q (r : Nat) (pl : Nat) (d + 1) s k M
  | 0, k, s, hk, k1, hs, he => by
    unfold m_X12_empty_L27 m_X12_empty_J62
    have : k = 9 := by omega
    subst this
    refine ⟨by decide, fun _ => ⟨by omega, fun z => h1 (fun j j1 j2 => he.mp (by omega) j j1 (by omega)), fun z => h0 (fun y => z ?_)⟩, fun q => absurd (show (8 : Int) < (9 : Nat) by decide) q⟩
    have := he.mpr (fun j j1 j2 => y j j1 (by omega))
    omega
  | d + 1, k, s, hk, k1, hs, he => by
    have w1 := hW.1
    have w2 := hW.2.1
    unfold m_X12_empty_L27
    refine ⟨by omega, fun q => by omega, fun _ => y_manyD hT hb hW hS hd (by omega) (by omega) ?_⟩
    rw [Int.toNat_natCast]
    have cr := cntP_rng (walkP W S k) pl (wPn W)
    have e : (s : Int) + cntP (walkP W S k) (wPn W) pl = ((s + (cntP (walkP W S k) (wPn W) pl).toNat : Nat) : Int) := by omega
    rw [e]
    refine y_em_27 hT hb hW hS hd hpl h1 h0 d (k + 1) _ (by omega) (by omega) (by omega) ?_
    constructor
    · intro a j j1 j2
      by_cases z : j = k
      · subst z; omega
      · exact he.mp (by omega) j j1 (by omega)
    · intro a
      have := he.mpr (fun j j1 j2 => a j j1 (by omega))
      have := a k k1 (by omega)
      omega
theorem y_empty_l {Q : Int → Mem → Prop} (hy : IY M b p) (hp : POK N p) (hd : rowsY M (pW p) (pS p) 9 0) (h : ∀ r : Nat, isSet (nevP (pW p) (pS p)) (wPl (pW p)) r → Q r M) :
    ∀ (d k r : Nat), k + d = wPl (pW p) → isSet (nevP (pW p) (pS p)) k r → m_X12_empty_L9 Q (d + 1) r k M
  | 0, k, r, hk, hr => by
    have w1 := hp.2.1.1.1
    have b1 := hy.2.1.2.1.1
    unfold m_X12_empty_L9
    rw [hy.2.1.1, hy.2.1.2.1.2.1]
    refine ⟨by omega, by omega, by omega, fun _ => ?_, fun q => by omega⟩
    rw [show k = wPl (pW p) by omega] at hr
    exact h r hr
  | d + 1, k, r, hk, hr => by
    have w1 := hp.2.1.1.1
    have b1 := hy.2.1.2.1.1
    have rl := hr.lt
    have r7 : 2 ^ k ≤ 2 ^ 7 := Nat.pow_le_pow_right (by decide) (by omega)
    unfold m_X12_empty_L9
    rw [hy.2.1.1, hy.2.1.2.1.2.1]
    refine ⟨by omega, by omega, by omega, fun q => by omega, fun _ => ⟨9, y_em_27 hy.2.1.2.1 hy.2.1.1 hp.2.1.1 hp.2.2.1.1.1 hd (by omega) (fun z => ?_) (fun z => ?_) 8 1 0 (by omega) (by omega) (by omega) ⟨fun _ j j1 j2 => by omega, fun _ => rfl⟩⟩⟩
    · rw [z_shl1 (by omega), Int.toNat_natCast, z_or (by omega) (by omega)]
      exact y_empty_l hy hp hd h d (k + 1) _ (by omega) (hr.y z)
    · rw [show (0 : Int) = ((0 : Nat) : Int) from rfl, z_or (by omega) (by omega), Nat.or_zero]
      exact y_empty_l hy hp hd h d (k + 1) _ (by omega) (hr.n z)
theorem s_empty (hi : Inv N M) : m_X11_empty M (fun r1 M1 => m_X12_empty M1 (fun r2 M2 => Good N r1 r2 M2)) := by
  obtain ⟨t, b, p, hp, hx, hy⟩ := hi
  have w1 := hp.2.1.1.1
  unfold m_X11_empty
  refine x_thisDay hx hp fun M1 hx1 o1 d1 => ⟨by decide, _, x_empty_l hx1 hp d1 (fun r f2 => ?_) (wPl (pW p)) 0 0 (by omega) (isSet.z _)⟩
  have hy1 := hy.st o1
  refine y_run0 hy1 hp fun M2 hy2 o2 d2 => ⟨_, y_empty_l hy2 hp d2 (fun r' f4 => ?_) (wPl (pW p)) 0 0 (by omega) (isSet.z _)⟩
  have l1 := f2.lt
  have r7 : 2 ^ wPl (pW p) ≤ 2 ^ 7 := Nat.pow_le_pow_right (by decide) (by omega)
  rw [f4.eq f2]
  exact fin hp (hx1.st o2) hy2 (by omega)
end
