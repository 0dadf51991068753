/-! THE ACTIONS, SIDE BY SIDE -/
theorem c_wrap {x : Option ((Nat ⊕ Int32) × sx_M)} {Q : (Nat ⊕ Int32) × sx_M → Prop} (h : wp x Q) : wp (sx_bT x fun v M => some (.inr v, M)) Q := by
  obtain ⟨⟨o, M⟩, e, hq⟩ := h
  subst e
  cases o with
  | inl k => exact ⟨_, rfl, hq⟩
  | inr v => exact ⟨_, rfl, hq⟩
theorem c_refuse_no {f : Int32} {k : Nat} (hf : (f = 1 ∧ k = 0) ∨ (f = 2 ∧ k = 1) ∨ (f = 3 ∧ k = 2)) (M : sx_M) : f7_refuse f M = some (.inl k, M) := by
  rcases hf with ⟨rfl, rfl⟩ | ⟨rfl, rfl⟩ | ⟨rfl, rfl⟩ <;> rfl
theorem c_bT_no {f : Int32} {k : Nat} (hf : (f = 1 ∧ k = 0) ∨ (f = 2 ∧ k = 1) ∨ (f = 3 ∧ k = 2)) (M : sx_M) (X : Unit → sx_M → Option ((Nat ⊕ Int32) × sx_M)) : sx_bT (f7_refuse f M) X = some (.inl k, M) := by
  rw [c_refuse_no hf]; rfl
theorem c_bT_yes (M : sx_M) (X : Unit → sx_M → Option ((Nat ⊕ Int32) × sx_M)) : sx_bT (f7_refuse 0 M) X = X () M := rfl
theorem c_act_no {M : sx_M} {kd a p z f : Int32} {k : Nat} (e : f3_faultOf 0 kd a p M = some f) (hf : (f = 1 ∧ k = 0) ∨ (f = 2 ∧ k = 1) ∨ (f = 3 ∧ k = 2)) : f7_act kd a p z M = some (.inl k, M) := by
  rw [f7_act, e, Option.bind_some]
  exact c_bT_no hf M _
theorem RC.act {M M' : sx_M} {st : ST} {A' : SH} (h : RC M st) (c : CS M' 0 A') (hf : Fr (pSh 0) M M') : RC M' (A', st.2) := by
  obtain ⟨h1, h2, ⟨h3, h4⟩, ⟨h5, h6⟩, h7⟩ := h
  have o : ∀ k s, k = 0 ∨ 9 ≤ k ∨ s ≠ 0 → M'.1 k s = M.1 k s := fun k s hk => hf.1 k s (fun q => by have := q.1; have := q.2; omega)
  refine ⟨c, h2.cong (fun k s hk hs => o k s (by omega)), ⟨?_, fun B hB => (h4 B hB).cong (fun k _ _ => o k 2 (by omega))⟩, ⟨?_, fun B hB => (h6 B hB).cong (fun k _ _ => o k 3 (by omega))⟩, h7.cong (o 13 0 (by omega)) (o 14 0 (by omega))⟩
  · rw [o 12 0 (by omega)]; exact h3
  · rw [o 12 0 (by omega)]; exact h5
theorem c_act_yes {M : sx_M} {st : ST} {kd a p z ans : Int32} {A' : SH} (h : RC M st) (e : f3_faultOf 0 kd a p M = some 0) (hp : ∀ M4, CS M4 0 st.A → wp (f3_perform 0 kd a p z M4) (fun r => r.1 = ans ∧ CS r.2 0 A' ∧ Fr (pSh 0) M4 r.2)) : wp (f7_act kd a p z M) (fun r => r.1 = .inr ans ∧ RC r.2 (A', push14 st.L st.A, st.2.2) ∧ ∀ k s, 17 ≤ k → r.2.1 k s = M.1 k s) := by
  rw [f7_act, e, Option.bind_some, c_bT_yes]
  obtain ⟨h1, h2, ⟨h3, h4⟩, ⟨h5, h6⟩, h7⟩ := id h
  obtain ⟨M4, e4, p4, f4⟩ := w1_remember h2 (s := 0) (by omega) h1
  refine wp_call e4 ?_
  have o4 : ∀ k s, ¬ pPa k s → M4.1 k s = M.1 k s := f4.1
  have np : ∀ k s, 1 ≤ k → k ≤ 8 → s < 4 → ¬ pPa k s := fun k s k1 k2 hs q => by
    rcases q with q | q
    · omega
    · have := q.2; omega
  have c4 : CS M4 0 st.A := h1.cong (fun k k1 k2 => o4 k 0 (np k 0 k1 k2 (by omega)))
  have n12 : ∀ k, 10 ≤ k → ¬ pPa k 0 := fun k hk q => by
    rcases q with q | q
    · omega
    · have := q.1; omega
  have r4 : RC M4 (st.A, push14 st.L st.A, st.2.2) := by
    refine ⟨c4, p4, ⟨?_, fun B hB => (h4 B hB).cong (fun k k1 k2 => o4 k 2 (np k 2 k1 k2 (by omega)))⟩, ⟨?_, fun B hB => (h6 B hB).cong (fun k k1 k2 => o4 k 3 (np k 3 k1 k2 (by omega)))⟩, h7.cong (o4 13 0 (n12 13 (by omega))) (o4 14 0 (n12 14 (by omega)))⟩
    · rw [o4 12 0 (n12 12 (by omega))]; exact h3
    · rw [o4 12 0 (n12 12 (by omega))]; exact h5
  obtain ⟨⟨v, M6⟩, e6, q1, q2, q3⟩ := hp M4 c4
  refine wp_b2 e6 ?_
  dsimp only at q1 q2 q3
  subst q1
  refine wp_some ⟨rfl, r4.act q2 q3, fun k s hk => ?_⟩
  show M6.1 k s = M.1 k s
  rw [q3.1 k s (fun q => by have := q.1; omega), o4 k s (fun q => by
    rcases q with q | q
    · omega
    · have := q.1; omega)]
theorem in_iff (v a b : Int32) (a' b' : Int64) (ha : a'.toInt = a.toInt) (hb : b'.toInt = b.toInt) : (a' ≤ v.toInt64 ∧ v.toInt64 ≤ b') ↔ (a ≤ v ∧ v ≤ b) := by
  rw [fa_le64, fa_le64, fa_le, fa_le, to64_int, ha, hb]
theorem row20 : row3 20 := Or.inr (Or.inl rfl)
theorem row21 : row3 21 := Or.inr (Or.inr rfl)
theorem row19 : row3 19 := Or.inl rfl
/-- after the state is remembered, an action on the row -/
theorem m_act {M2 : sx_M} {st : ST} {A' : SH} {ans : Int32} {X : sx_M → Option (Int32 × sx_M)} (hM : RM M2 st) (hI : INV st) (hx : ∀ M6, DS M6 20 st.A → wp (X M6) (fun q => q.1 = ans ∧ DS q.2 20 A' ∧ ∀ k s, k ≠ 20 → k ≠ 21 → k ≠ 25 → q.2.1 k s = M6.1 k s)) : wp ((f8_remember (sx_set M2 17 0 0 0)).bind X) (fun q => GOOD M2 (A', push14 st.L st.A, st.2.2) ans q) := by
  obtain ⟨M6, e6, r6, fr6, z6⟩ := w8_remember (hM.ref 0) hI
  refine wp_call e6 ?_
  obtain ⟨⟨v, M8⟩, e8, q1, q2, q3⟩ := hx M6 r6.1
  dsimp only at q1 q2 q3
  subst q1
  refine ⟨_, e8, r6.act q2 (fun k k1 k2 k3 => q3 k 0 k1 k2 k3), fun k s hk => ?_, ?_, rfl⟩
  · show M8.1 k s = M2.1 k s
    rw [q3 k s (by omega) (by omega) (by omega), fr6 k s hk]
    funext i
    show (sx_set M2 17 0 0 0).1 k s i = _
    rw [st_at, if_neg (by omega)]
  · show M8.1 17 0 0 = 0
    rw [q3 17 0 (by omega) (by omega) (by omega), z6, rd_e]
theorem INV.act {st : ST} (h : INV st) {A' : SH} (h' : IS A') : INV (A', push14 st.L st.A, st.2.2) := ⟨h', h.push, h.2.2⟩
theorem pair_make (v : Int32) {ex : Nat → Int32} (h1 : ex 1 = nI 1) (h2 : ex 2 = nI 2) : PAIR (fun M => f7_make v M) (fun M => f8_make v M) ex := by
  intro st M hI hR
  obtain ⟨r, e, hr⟩ := w3_fault1 hR.1 (-9) v
  have hin : ((1 : Int64) ≤ v.toInt64 ∧ v.toInt64 ≤ 9) ↔ (1 ≤ v ∧ v ≤ 9) := in_iff v 1 9 1 9 (by decide) (by decide)
  rcases hr with ⟨rfl, hno⟩ | ⟨l1, l9, ⟨rfl, hm⟩ | ⟨rfl, hm⟩⟩
  · refine ⟨.inl 1, st, hI, c_wrap (wp_eq (c_act_no e (Or.inr (Or.inl ⟨rfl, rfl⟩))) ⟨rfl, hR, fun _ _ _ => rfl⟩), fun M2 hM => ?_⟩
    show wp (f8_make v M2) _
    rw [f8_make]
    obtain ⟨r1, e1, hr1⟩ := w8_in v.toInt64 1 9 M2
    refine wp_call e1 ?_
    with_reducible refine wp_bd ?_
    rcases hr1 with ⟨rfl, q⟩ | ⟨rfl, q⟩
    · exact absurd (hin.mp q) hno
    · refine wp_ifp rfl ?_
      exact m_no hM (n := 1) (by omega) (by omega) h1
  · refine ⟨.inr (nI st.A.m), _, hI.act (hI.1.make hm v), c_wrap (c_act_yes hR e (fun M4 c4 => w3_do1 c4 hm _ _ _)), fun M2 hM => ?_⟩
    show wp (f8_make v M2) _
    rw [f8_make]
    obtain ⟨r1, e1, hr1⟩ := w8_in v.toInt64 1 9 M2
    refine wp_call e1 ?_
    with_reducible refine wp_bd ?_
    rcases hr1 with ⟨rfl, q⟩ | ⟨rfl, q⟩
    · refine wp_ifn (by decide) ?_
      refine wp_ifp ⟨by decide, by decide⟩ ?_
      have e0 : M2.1 20 0 ((0 : Int32)).toNatClampNeg = nI st.A.m := hM.1.2.2.1
      with_reducible refine wp_bd ?_
      rw [e0]
      refine wp_ifn (by rw [show (24 : Int32) = nI 24 from rfl, iI_eq (by omega) (by omega)]; omega) ?_
      refine m_yes ?_
      refine wp_mono (m_act hM hI (fun M6 d6 => ?_)) (fun q hq => hq.to)
      obtain ⟨⟨w, M8⟩, e8, q1, q2, q3⟩ := w8_makeIn row20 d6 hI.1.ws hI.1.2.2.2.1 hI.1.2.2.2.2.1 hm v
      refine wp_b2 e8 ?_
      exact wp_some ⟨q1, q2, fun k s k1 _ _ => q3.1 k s (fun q => k1 q.1)⟩
    · exact absurd (hin.mpr ⟨l1, l9⟩) q
  · refine ⟨.inl 2, st, hI, c_wrap (wp_eq (c_act_no e (Or.inr (Or.inr ⟨rfl, rfl⟩))) ⟨rfl, hR, fun _ _ _ => rfl⟩), fun M2 hM => ?_⟩
    show wp (f8_make v M2) _
    rw [f8_make]
    obtain ⟨r1, e1, hr1⟩ := w8_in v.toInt64 1 9 M2
    refine wp_call e1 ?_
    with_reducible refine wp_bd ?_
    rcases hr1 with ⟨rfl, q⟩ | ⟨rfl, q⟩
    · refine wp_ifn (by decide) ?_
      refine wp_ifp ⟨by decide, by decide⟩ ?_
      have e0 : M2.1 20 0 ((0 : Int32)).toNatClampNeg = nI st.A.m := hM.1.2.2.1
      with_reducible refine wp_bd ?_
      rw [e0, hm]
      refine wp_ifp rfl ?_
      exact m_no hM (n := 2) (by omega) (by omega) h2
    · exact absurd (hin.mpr ⟨l1, l9⟩) q
/-- one and the same string -/
theorem at_uniq {A : SH} (hI : IS A) {a p : Int32} {i j : Nat} (hi : A.g.at a p i) (hj : A.g.at a p j) : i = j := by
  have b1 := hI.1.2 i hi.1
  have b2 := hI.1.2 j hj.1
  refine hI.2.1 i j hi.1 hj.1 ?_ ?_
  · exact (tI_inj (by omega) (by omega)).mp (hi.2.1.trans hj.2.1.symm)
  · exact (iI_eq (by omega) (by omega)).mp (hi.2.2.trans hj.2.2.symm)
theorem at_ends {A : SH} (hI : IS A) {a p : Int32} {i : Nat} (hi : A.g.at a p i) : A.isTh a ∧ A.isP p := by
  have b1 := hI.1.2 i hi.1
  have b2 := hI.2.2.1 i hi.1
  exact ⟨⟨A.g.A i, b1.1, hi.2.1.symm, b2.1⟩, ⟨A.g.B i, b1.2, hi.2.2.symm, b2.2⟩⟩
theorem at_abs {A : SH} (hI : IS A) {a p : Int32} {i : Nat} (hi : A.g.at a p i) : a = tI (A.g.A i) ∧ p = nI (A.g.B i) ∧ A.g.A i < 28 ∧ A.g.B i < 24 := ⟨hi.2.1.symm, hi.2.2.symm, (hI.1.2 i hi.1).1, (hI.1.2 i hi.1).2⟩
theorem w8_foundString {M : sx_M} {A : SH} (h : DS M 20 A) (hI : IS A) (a p : Int32) : wp (f8_foundString a p M) (fun r => (r = -9 ∧ ∀ i, ¬ A.g.at a p i) ∨ ∃ i, r = nI i ∧ A.g.at a p i) := by
  rw [f8_foundString]
  obtain ⟨r, e, hr⟩ := w8_isThing row20 h (fun p _ => hI.2.2.2.1 p) a
  refine wp_call e ?_
  with_reducible refine wp_bd ?_
  with_reducible refine wp_bd ?_
  rcases hr with ⟨rfl, ha⟩ | ⟨rfl, ha⟩
  · refine wp_ifn (by decide) ?_
    obtain ⟨r2, e2, hr2⟩ := w8_isPart row20 h (fun p _ => hI.2.2.2.1 p) p
    refine wp_call e2 ?_
    rcases hr2 with ⟨rfl, hp⟩ | ⟨rfl, hp⟩
    · refine wp_ifn (by decide) ?_
      obtain ⟨r3, e3, hr3⟩ := w8_find row20 h.1 a p
      refine wp_call e3 ?_
      with_reducible refine wp_some ?_
      rcases hr3 with q | ⟨i, q1, q2, -⟩
      · exact Or.inl q
      · exact Or.inr ⟨i, q1, q2⟩
    · refine wp_ifp rfl ?_
      exact wp_some (Or.inl ⟨rfl, fun i hi => hp (at_ends hI hi).2⟩)
  · refine wp_ifp rfl ?_
    exact wp_some (Or.inl ⟨rfl, fun i hi => ha (at_ends hI hi).1⟩)
theorem ct_minus {X Y : Nat → Bool} {n : Nat} (h : ∀ p, p < n → Y p = true → X p = true) : fb_ct (fun p => X p && !Y p) n + fb_ct Y n = fb_ct X n := by
  rw [← fb_ct_or (fun k hk q => by
    have := q.1
    rw [q.2] at this
    simp at this)]
  refine fb_ct_cong (fun k hk => ?_)
  cases e : Y k with
  | false => simp
  | true => rw [h k hk e]; rfl
theorem shadeIf_H (A : SH) (c : Bool) (p : Nat) : (A.shadeIf c p).H = A.H := by cases c <;> rfl
theorem rm_sub {g : GT} {i : Nat} : ∀ x, x < (g.rm i).n → (g.rm i).Z x = true → ∃ j, j < g.n ∧ g.Z j = true ∧ g.A j = (g.rm i).A x ∧ g.B j = (g.rm i).B x := fun x hx hz => by
  have hx' : x < g.n - 1 := hx
  exact ⟨if x < i then x else x + 1, by split <;> omega, hz, rfl, rfl⟩
theorem cut_sub {A : SH} (hI : IS A) {i : Nat} (hi : i < A.g.n) {p : Nat} (hp : p < 24) (q : (A.cut i).H p = true) : A.H p = true :=
  GT.held_sub (g := A.g.rm i) (g' := A.g) (hI.cut hi).1 hI.1 rm_sub (by omega) q
theorem snd_sub0 {A : SH} (hI : IS A) (i : Nat) {p : Nat} (hp : p < 24) (q : (A.snd i false).H p = true) : A.H p = true := by
  refine GT.held_sub (g := A.g.snd i false) (g' := A.g) (H := hol A.P) (hI.snd i false).1 hI.1 (fun x hx hz => ?_) (by omega) q
  have hz' : (if x = i then false else A.g.Z x) = true := hz
  by_cases e : x = i
  · rw [if_pos e] at hz'; cases hz'
  · rw [if_neg e] at hz'; exact ⟨x, hx, hz', rfl, rfl⟩
theorem snd_sub1 {A : SH} (hI : IS A) (i : Nat) {p : Nat} (hp : p < 24) (q : A.H p = true) : (A.snd i true).H p = true := by
  have e : (A.snd i true).H = (A.setG (A.g.snd i true)).H := shadeIf_H _ _ _
  rw [e]
  refine GT.held_sub (g := A.g) (g' := A.g.snd i true) (H := hol A.P) hI.1 ⟨hI.1.1, hI.1.2⟩ (fun x hx hz => ?_) (by omega) q
  refine ⟨x, hx, ?_, rfl, rfl⟩
  show (if x = i then true else A.g.Z x) = true
  rw [hz]; split <;> rfl
