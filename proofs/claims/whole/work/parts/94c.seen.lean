/-! WHAT THERE IS, SIDE BY SIDE -/
theorem good_look {M2 M' : sx_M} {st : ST} {v w : Int32} (hM : RM M2 st) (f : ∀ k s, (k ≤ 20 ∨ 22 ≤ k ∧ k ≤ 24) → M'.1 k s = (sx_set M2 17 0 0 0).1 k s) (e : w = v) : GOOD M2 st v (w, M') := by
  refine ⟨(hM.ref 0).cong (fun k hk => f k 0 (by omega)) ?_ ?_, fun k s hk => ?_, ?_, e⟩
  · show M'.1 17 0 10 = _
    rw [f 17 0 (by omega)]
  · show M'.1 17 0 2 = _
    rw [f 17 0 (by omega)]
  · show M'.1 k s = M2.1 k s
    rw [f k s (by omega)]
    funext i
    rw [st_at, if_neg (by omega)]
  · show M'.1 17 0 0 = 0
    rw [f 17 0 (by omega), rd_e]
theorem look25 {M M' : sx_M} (h : Fr (pRw 25) M M') : ∀ k s, (k ≤ 20 ∨ 22 ≤ k ∧ k ≤ 24) → M'.1 k s = M.1 k s := fun k s hk => hits1 h (by omega) s
theorem pair_string (a p : Int32) {ex : Nat → Int32} (h0 : ex 0 = nI 1) : PAIR (fun M => f7_string a p M) (fun M => f8_string a p M) ex := by
  intro st M hI hR
  have hT0 : ∀ p, p < 24 → st.A.T p = true → p < st.A.m := fun p _ => hI.1.2.2.2.1 p
  have h40 := hI.1.1.1
  obtain ⟨r, e, hr⟩ := w3_placeFault hR.1 a p
  rcases hr with ⟨rfl, ha, hp⟩ | ⟨rfl, hno⟩
  · obtain ⟨j, ej, hj⟩ := w4_find hR.1.1 a p
    have main : ∀ v : Int32, wp (f4_kindAt 0 j M) (fun x => x = v) → (∀ M2, RM M2 st → wp ((f8_find 20 a p (sx_set M2 17 0 0 0)).bind fun v6 =>
      sx_bd (fun (v7 : Int32) =>
        some (v7, sx_set M2 17 0 0 0)) fun j68 =>
      if v6 = (-9 : Int32) then
        j68 (0 : Int32)
      else
        (f8_cordAt v6 (2 : Int32) (sx_set M2 17 0 0 0)).bind fun v9 =>
        if sx_in v9 247 then
        sx_bd ((sx_set M2 17 0 0 0).1 20 0 (v9).toNatClampNeg) fun v10 =>
        j68 ((2 : Int32) - v10)
        else none) (fun q => GOOD M2 st v q)) → ∃ (o : Nat ⊕ Int32) (st' : ST), INV st' ∧ wp (f7_string a p M) (fun r => r.1 = o ∧ RC r.2 st' ∧ ∀ k s, 17 ≤ k → r.2.1 k s = M.1 k s) ∧ ∀ M2, RM M2 st → wp (f8_string a p M2) (fun q => RM q.2 st' ∧ (∀ k s, k ≤ 16 → q.2.1 k s = M2.1 k s) ∧ q.2.1 17 0 0 = o.elim ex (fun _ => 0) ∧ ∀ v, o = .inr v → q.1 = v) := fun v hv hm => by
      refine ⟨.inr v, st, hI, ?_, fun M2 hM => ?_⟩
      · rw [f7_string]
        refine wp_call e ?_
        rw [c_bT_yes]
        refine wp_call ej ?_
        obtain ⟨x, ex', rfl⟩ := hv
        refine wp_call ex' ?_
        exact wp_some ⟨rfl, hR, fun _ _ _ => rfl⟩
      · rw [f8_string]
        obtain ⟨r1, e1, hr1⟩ := w8_isThing row20 hM.1 hT0 a
        refine wp_call e1 ?_
        with_reducible refine wp_bd ?_
        with_reducible refine wp_bd ?_
        rcases hr1 with ⟨rfl, q⟩ | ⟨rfl, q⟩
        · refine wp_ifn (by decide) ?_
          obtain ⟨r2, e2, hr2⟩ := w8_isPart row20 hM.1 hT0 p
          refine wp_call e2 ?_
          rcases hr2 with ⟨rfl, q2⟩ | ⟨rfl, q2⟩
          · refine wp_ifn (by decide) ?_
            refine m_yes ?_
            exact wp_mono (hm M2 hM) (fun q hq => hq.to)
          · exact absurd hp q2
        · exact absurd ha q
    rcases hj with ⟨rfl, hno⟩ | ⟨i, rfl, hi, hf⟩
    · refine main 0 (wp_eq (w4_kindAt_out hR.1.1 (fun i hi => (nI_ne_m1 (by omega)).symm)) rfl) (fun M2 hM => ?_)
      obtain ⟨r3, e3, hr3⟩ := w8_find row20 (hM.ref 0).1.1 a p
      refine wp_call e3 ?_
      with_reducible refine wp_bd ?_
      rcases hr3 with ⟨rfl, -⟩ | ⟨i, rfl, hi, -⟩
      · refine wp_ifp rfl ?_
        exact wp_some (good_look hM (fun _ _ _ => rfl) rfl)
      · exact absurd hi (hno i)
    · refine main (if st.A.g.Z i then 1 else 2) (wp_eq (w4_kindAt_in hR.1.1 hi.1) rfl) (fun M2 hM => ?_)
      obtain ⟨r3, e3, hr3⟩ := w8_find row20 (hM.ref 0).1.1 a p
      refine wp_call e3 ?_
      with_reducible refine wp_bd ?_
      rcases hr3 with ⟨rfl, hno⟩ | ⟨j, rfl, hj, -⟩
      · exact absurd hi (hno i)
      · have eij := at_uniq hI.1 hj hi
        subst eij
        have hjn := hj.1
        refine wp_ifn (nI_ne_m9 (by omega)) ?_
        refine wp_call (w8_co2 _ _) ?_
        refine wp_ifp (in3 row20 (by omega)) ?_
        have ez : (sx_set M2 17 0 0 0).1 20 0 (nI (103 + 3 * j + 2)).toNatClampNeg = bI01 (st.A.g.Z j) := by rw [nI_cl (by omega)]; exact ((hM.ref 0).1.1.2.2 j hjn).2.2.2.2
        with_reducible refine wp_bd ?_
        rw [ez]
        refine wp_some (good_look hM (fun _ _ _ => rfl) ?_)
        cases st.A.g.Z j <;> decide
  · refine ⟨.inl 0, st, hI, ?_, fun M2 hM => ?_⟩
    · show wp (f7_string a p M) _
      rw [f7_string]
      refine wp_call e ?_
      rw [c_bT_no (Or.inl ⟨rfl, rfl⟩)]
      exact wp_some ⟨rfl, hR, fun _ _ _ => rfl⟩
    · show wp (f8_string a p M2) _
      rw [f8_string]
      obtain ⟨r1, e1, hr1⟩ := w8_isThing row20 hM.1 hT0 a
      refine wp_call e1 ?_
      with_reducible refine wp_bd ?_
      with_reducible refine wp_bd ?_
      rcases hr1 with ⟨rfl, q⟩ | ⟨rfl, q⟩
      · refine wp_ifn (by decide) ?_
        obtain ⟨r2, e2, hr2⟩ := w8_isPart row20 hM.1 hT0 p
        refine wp_call e2 ?_
        rcases hr2 with ⟨rfl, q2⟩ | ⟨rfl, q2⟩
        · exact absurd ⟨q, q2⟩ hno
        · refine wp_ifp rfl ?_
          exact m_no hM (n := 1) (by omega) (by omega) h0
      · refine wp_ifp rfl ?_
        exact m_no hM (n := 1) (by omega) (by omega) h0
theorem w8_tells {M : sx_M} {A : SH} (h : DS M 20 A) {i : Nat} (hi : i < A.g.n) : f8_tells (nI i) M = some (nI (100 * A.g.A i + A.g.B i)) := by
  refine wp_get ?_
  have h40 := h.1.1
  obtain ⟨g1, g2, g3, g4, g5⟩ := h.1.2.2 i hi
  rw [f8_tells]
  refine wp_call (w8_co0 _ _) ?_
  refine wp_ifp (in3 row20 (by omega)) ?_
  with_reducible refine wp_bd ?_
  refine wp_call (w8_co1 _ _) ?_
  refine wp_ifp (in3 row20 (by omega)) ?_
  with_reducible refine wp_bd ?_
  refine wp_some ?_
  rw [nI_cl (by omega), nI_cl (by omega), g3, g4, Int32.add_comm (4 : Int32) (tI (A.g.A i)), show tI (A.g.A i) + 4 = nI (A.g.A i) from tI_4 _, show (100 : Int32) = nI 100 from rfl, nI_mul, nI_add]
theorem pair_stringAt (a : Int32) {ex : Nat → Int32} (h1 : ex 1 = nI 1) : PAIR (fun M => f7_stringAt a M) (fun M => f8_stringAt a M) ex := by
  intro st M hI hR
  have h40 := hI.1.1.1
  have hin : (0 : Int32) ≤ a ↔ ¬ a < 0 := by
    rw [fa_le, fa_lt]; have : (0 : Int32).toInt = 0 := by decide
    rw [this]; omega
  by_cases ha : (0 : Int32) ≤ a
  · obtain ⟨j, hj, rfl⟩ := iI_of (hin.mp ha)
    have fin : ∀ v : Int32, f4_codeAt 0 (nI j) M = some v → (∀ M2, RM M2 st → wp (if nI st.A.g.n ≤ nI j then
        some ((-9 : Int32), sx_set M2 17 0 0 0)
      else
        (f8_tells (nI j) (sx_set M2 17 0 0 0)).bind fun v8 =>
        some (v8, sx_set M2 17 0 0 0)) (fun q => GOOD M2 st v q)) → ∃ (o : Nat ⊕ Int32) (st' : ST), INV st' ∧ wp (f7_stringAt (nI j) M) (fun r => r.1 = o ∧ RC r.2 st' ∧ ∀ k s, 17 ≤ k → r.2.1 k s = M.1 k s) ∧ ∀ M2, RM M2 st → wp (f8_stringAt (nI j) M2) (fun q => RM q.2 st' ∧ (∀ k s, k ≤ 16 → q.2.1 k s = M2.1 k s) ∧ q.2.1 17 0 0 = o.elim ex (fun _ => 0) ∧ ∀ v, o = .inr v → q.1 = v) := fun v hv hm => by
      refine ⟨.inr v, st, hI, ?_, fun M2 hM => ?_⟩
      · rw [f7_stringAt]
        refine wp_ifp ha ?_
        refine wp_call hv ?_
        exact wp_some ⟨rfl, hR, fun _ _ _ => rfl⟩
      · rw [f8_stringAt]
        with_reducible refine wp_bd ?_
        refine wp_ifp ha ?_
        refine m_yes ?_
        refine wp_ifp (in3 row20 (a := 2) (by omega)) ?_
        have e2 : (sx_set M2 17 0 0 0).1 20 0 ((2 : Int32)).toNatClampNeg = nI st.A.g.n := (hM.ref 0).1.1.2.1
        with_reducible refine wp_bd ?_
        with_reducible refine wp_bd ?_
        rw [e2]
        exact wp_mono (hm M2 hM) (fun q hq => hq.to)
    by_cases hjn : j < st.A.g.n
    · refine fin _ (w4_codeAt_in hR.1.1 hjn) (fun M2 hM => ?_)
      refine wp_ifn (by rw [iI_le (by omega) (by omega)]; omega) ?_
      refine wp_call (w8_tells (hM.ref 0).1 hjn) ?_
      exact wp_some (good_look hM (fun _ _ _ => rfl) rfl)
    · refine fin (-9) (w4_codeAt_out hR.1.1 (fun i hi q => by
        have hi' : i < st.A.g.n := hi
        rw [iI_eq (by omega) (by omega)] at q; omega)) (fun M2 hM => ?_)
      refine wp_ifp (by rw [iI_le (by omega) (by omega)]; omega) ?_
      exact wp_some (good_look hM (fun _ _ _ => rfl) rfl)
  · refine ⟨.inl 1, st, hI, ?_, fun M2 hM => ?_⟩
    · show wp (f7_stringAt a M) _
      rw [f7_stringAt]
      exact wp_ifn ha (wp_some ⟨rfl, hR, fun _ _ _ => rfl⟩)
    · show wp (f8_stringAt a M2) _
      rw [f8_stringAt]
      with_reducible refine wp_bd ?_
      refine wp_ifn ha ?_
      exact m_no hM (n := 1) (by omega) (by omega) h1
/-! numbers of a shed -/
theorem w8_frayed {M : sx_M} {A : SH} (h : DS M 20 A) : f8_frayed M = some (nI (fb_ct (fun i => !A.g.Z i) A.g.n)) := by
  refine wp_get ?_
  have h40 := h.1.1
  have e2 : M.1 20 0 ((2 : Int32)).toNatClampNeg = nI A.g.n := h.1.2.1
  refine wp_up (F := fun m x3 x2 => f8_frayed_L4 M m x2 x3) A.g.n (fun j x => x = nI (fb_ct (fun i => !A.g.Z i) j)) (fun m j a hj hI kk => ?_) (fun m a hI => ?_) 5000 0 0 (by omega) (by omega) rfl
  · subst hI
    obtain ⟨g1, g2, g3, g4, g5⟩ := h.1.2.2 j hj
    show wp (f8_frayed_L4 M (m + 1) _ (nI j)) _
    rw [f8_frayed_L4]
    refine wp_ifp (in3 row20 (a := 2) (by omega)) ?_
    with_reducible refine wp_bd ?_
    rw [e2]
    refine wp_ifn (by rw [iI_le (by omega) (by omega)]; omega) ?_
    refine wp_call (w8_co2 _ _) ?_
    refine wp_ifp (in3 row20 (by omega)) ?_
    with_reducible refine wp_bd ?_
    with_reducible refine wp_bd ?_
    with_reducible refine wp_bd ?_
    rw [nI_cl (by omega), g5]
    refine kk _ ?_
    rw [← fb_ct_bI (fun i => !A.g.Z i) j]
    cases A.g.Z j <;> rfl
  · subst hI
    show wp (f8_frayed_L4 M (m + 1) _ (nI A.g.n)) _
    rw [f8_frayed_L4]
    refine wp_ifp (in3 row20 (a := 2) (by omega)) ?_
    with_reducible refine wp_bd ?_
    rw [e2]
    refine wp_ifp (by rw [iI_le (by omega) (by omega)]; omega) ?_
    exact wp_some rfl
theorem ct_m {A : SH} (hm : A.m ≤ 24) {X : Nat → Bool} (hX : ∀ p, X p = true → p < A.m) : fb_ct X A.m = fb_ct X 24 := by
  have : fb_ct X 24 = fb_ct X A.m + fb_ct (fun i => X (A.m + i)) (24 - A.m) := by
    rw [← fb_ct_split]; congr 1; omega
  have hz : fb_ct (fun i => X (A.m + i)) (24 - A.m) = 0 := fb_ct_zero.mpr (fun i _ => by
    cases e : X (A.m + i) with
    | false => rfl
    | true => have := hX _ e; omega)
  omega
theorem w8_pinned {M : sx_M} {A : SH} (h : DS M 20 A) (hI : IS A) : f8_pinned M = some (nI (fb_ct A.P 24)) := by
  refine wp_get ?_
  have h24 := h.2.1
  have e0 : M.1 20 0 ((0 : Int32)).toNatClampNeg = nI A.m := h.2.2.1
  refine wp_up (F := fun m x3 x2 => f8_pinned_L4 M m x2 x3) A.m (fun j x => x = nI (fb_ct A.P j)) (fun m j a hj hI kk => ?_) (fun m a hI2 => ?_) 5000 0 0 (by omega) (by omega) rfl
  · subst hI
    have g5 := (h.2.2.2.2.2.2.2.1 j hj).2.2
    show wp (f8_pinned_L4 M (m + 1) _ (nI j)) _
    rw [f8_pinned_L4]
    refine wp_ifp (in3 row20 (a := 0) (by omega)) ?_
    with_reducible refine wp_bd ?_
    rw [e0]
    refine wp_ifn (by rw [iI_le (by omega) (by omega)]; omega) ?_
    refine wp_call (w8_pa2 _ _) ?_
    refine wp_ifp (in3 row20 (by omega)) ?_
    with_reducible refine wp_bd ?_
    with_reducible refine wp_bd ?_
    with_reducible refine wp_bd ?_
    rw [nI_cl (by omega), g5]
    refine kk _ ?_
    rw [← fb_ct_bI A.P j]
  · subst hI2
    show wp (f8_pinned_L4 M (m + 1) _ (nI A.m)) _
    rw [f8_pinned_L4]
    refine wp_ifp (in3 row20 (a := 0) (by omega)) ?_
    with_reducible refine wp_bd ?_
    rw [e0]
    refine wp_ifp (by rw [iI_le (by omega) (by omega)]; omega) ?_
    refine wp_some ?_
    rw [ct_m h24 (fun p q => hI.2.2.2.1 p (hI.2.2.2.2.1 p q))]
theorem nI_m9_lt {d : Nat} (hd : d < 1000) : ¬ nI d ≤ (-9 : Int32) := by
  rw [fa_le, nI_toInt (by omega)]
  have : (-9 : Int32).toInt = -9 := by decide
  omega
theorem w8_deepest {M : sx_M} {A : SH} (h : DS M 20 A) (hI : IS A) {r : Int32} (hr : A.deep r) : wp (f8_deepest M) (fun q => q.1 = r ∧ Fr (pRw 25) M q.2) := by
  rw [f8_deepest]
  obtain ⟨M1, e1, ⟨D, hD⟩, f1⟩ := w8_lay row20 h hI
  refine wp_call e1 ?_
  have hok := hI.1
  refine wp_up (F := fun m x2 x1 => f8_deepest_L13 M1 m x1 x2) 24 (fun j x => (x = -9 ∧ ∀ p, p < j → A.H p = false) ∨ ∃ p, p < j ∧ A.H p = true ∧ x = nI (D p) ∧ ∀ p', p' < j → A.H p' = true → D p' ≤ D p) (fun m j x hj hI kk => ?_) (fun m x hI2 => ?_) 5000 0 (-9) (by omega) (by omega) (Or.inl ⟨rfl, fun p hp => absurd hp (Nat.not_lt_zero _)⟩)
  · obtain ⟨b1, b2⟩ := hD j hj
    show wp (f8_deepest_L13 M1 (m + 1) x (nI j)) _
    rw [f8_deepest_L13]
    refine wp_ifn (by rw [show (24 : Int32) = nI 24 from rfl, iI_le (by omega) (by omega)]; omega) ?_
    refine wp_ifp (sx_in_n hj (by omega)) ?_
    have b1' : M1.1 25 0 (nI j).toNatClampNeg = nI (D j) := by rw [nI_cl (by omega)]; exact b1
    with_reducible refine wp_bd ?_
    with_reducible refine wp_bd ?_
    with_reducible refine wp_bd ?_
    rw [b1']
    rcases b2 with ⟨h0, d99⟩ | ⟨h1, d24, hdp⟩
    · refine wp_ifp (by rw [nI_99 (by omega)]; omega) ?_
      refine kk x ?_
      rcases hI with ⟨q1, q2⟩ | ⟨p, q1, q2, q3, q4⟩
      · exact Or.inl ⟨q1, fun p hp => if e : p = j then e ▸ h0 else q2 p (by omega)⟩
      · exact Or.inr ⟨p, by omega, q2, q3, fun p' hp' q => if e : p' = j then by subst e; rw [h0] at q; cases q else q4 p' (by omega) q⟩
    · refine wp_ifn (by rw [nI_99 (by omega)]; omega) ?_
      refine wp_ifp (sx_in_n hj (by omega)) ?_
      with_reducible refine wp_bd ?_
      rcases hI with ⟨rfl, q2⟩ | ⟨p, q1, q2, rfl, q4⟩
      · refine wp_ifn (nI_m9_lt (by omega)) ?_
        refine wp_ifp (sx_in_n hj (by omega)) ?_
        with_reducible refine wp_bd ?_
        refine kk _ (Or.inr ⟨j, by omega, h1, rfl, fun p' hp' q => if e : p' = j then by subst e; exact Nat.le_refl _ else by rw [q2 p' (by omega)] at q; cases q⟩)
      · have hp24 : D p ≤ 24 := by
          rcases (hD p (by omega)).2 with ⟨z, -⟩ | ⟨-, z, -⟩
          · rw [q2] at z; cases z
          · exact z
        with_reducible refine wp_if (fun c => ?_) (fun c => ?_) <;> rw [iI_le (by omega) (by omega)] at c
        · exact kk _ (Or.inr ⟨p, by omega, q2, rfl, fun p' hp' q => if e : p' = j then by subst e; exact c else q4 p' (by omega) q⟩)
        · refine wp_ifp (sx_in_n hj (by omega)) ?_
          with_reducible refine wp_bd ?_
          exact kk _ (Or.inr ⟨j, by omega, h1, rfl, fun p' hp' q => if e : p' = j then by subst e; exact Nat.le_refl _ else by have := q4 p' (by omega) q; omega⟩)
  · show wp (f8_deepest_L13 M1 (m + 1) x (nI 24)) _
    rw [f8_deepest_L13]
    refine wp_ifp (by decide) ?_
    refine wp_some ⟨?_, f1⟩
    have hDp : ∀ p, p < 24 → A.H p = true → A.g.dp (hol A.P) (p + 4) (D p) := fun p hp q => by
      rcases (hD p hp).2 with ⟨z, -⟩ | ⟨-, -, z⟩
      · rw [q] at z; cases z
      · exact z
    rcases hI2 with ⟨rfl, q2⟩ | ⟨p, q1, q2, rfl, q4⟩
    · rcases hr with ⟨z, -⟩ | ⟨d, -, -, ⟨p, hp, z⟩, -⟩
      · exact z.symm
      · rw [q2 p hp] at z; cases z
    · rcases hr with ⟨-, z⟩ | ⟨d, hd, rfl, -, z1, z2⟩
      · rw [z p q1] at q2; cases q2
      · show nI (D p) = nI d
        congr 1
        have hle : D p ≤ d := by
          refine Nat.not_lt.mp (fun hlt => ?_)
          have hdp := hDp p q1 q2
          have := z1 (p + 4) (by omega) (D p) hdp.1
          rw [hdp.2 d hlt] at this; cases this
        by_cases d0 : d = 0
        · omega
        · obtain ⟨t, ht, t1, t2⟩ := z2 (d - 1) (by omega)
          rw [show d - 1 + 1 = d by omega] at t1
          have hheld := GT.held_of hok ht t1
          have ht4 : 4 ≤ t := by
            refine Nat.not_lt.mp (fun h4 => ?_)
            have h0 : A.g.lev (hol A.P) 0 t = true := by
              show hol A.P t = true
              unfold hol
              rw [decide_eq_true h4]; rfl
            have := GT.lev_le (Nat.zero_le (d - 1)) h0
            rw [t2] at this; cases this
          have ht28 : t < 28 := by
            refine Nat.not_le.mp (fun h28 => ?_)
            rw [GT.held_top hok h28 ht] at hheld; cases hheld
          have hHt : A.H (t - 4) = true := by
            show A.g.held (hol A.P) (t - 4 + 4) = true
            rw [show t - 4 + 4 = t by omega]; exact hheld
          have hdpt := hDp (t - 4) (by omega) hHt
          rw [show t - 4 + 4 = t by omega] at hdpt
          have : d ≤ D (t - 4) := by
            refine Nat.not_lt.mp (fun hlt => ?_)
            have := GT.lev_le (show D (t - 4) ≤ d - 1 by omega) hdpt.1
            rw [t2] at this; cases this
          have := q4 (t - 4) (by omega) hHt
          omega
