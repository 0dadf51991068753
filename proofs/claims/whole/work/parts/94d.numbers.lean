/-! NUMBERS OF A SHED AND OF A PART, SIDE BY SIDE -/
theorem m_figure {M2 : sx_M} {st : ST} (hM : RM M2 st) (hI : INV st) {k : Nat} (hk : k < 11) : wp (f8_about (nI k) M2) (fun q => GOOD M2 st (st.A.fig k) q) := by
  have r4 := hM.ref 0
  rw [f8_about]
  obtain ⟨r1, e1, hr1⟩ := w8_in (nI k).toInt64 0 11 M2
  refine wp_call e1 ?_
  with_reducible refine wp_bd ?_
  rcases hr1 with ⟨rfl, q⟩ | ⟨rfl, q⟩
  · refine wp_ifn (by decide) ?_
    refine m_yes ?_
    have lk : ∀ (M' : sx_M) (v : Int32), (∀ k s, (k ≤ 20 ∨ 22 ≤ k ∧ k ≤ 24) → M'.1 k s = (sx_set M2 17 0 0 0).1 k s) → v = st.A.fig k → GOOD M2 st (st.A.fig k) (v, M') := fun M' v f e => good_look hM f e
    generalize sx_set M2 17 0 0 0 = M4 at r4 lk ⊢
    obtain ⟨h1, h2, h3, h4, h5, h6, h7, h8, h9⟩ := id r4.1
    have rf : ∀ k s, (k ≤ 20 ∨ 22 ≤ k ∧ k ≤ 24) → M4.1 k s = M4.1 k s := fun _ _ _ => rfl
    have hk' : k = 0 ∨ k = 1 ∨ k = 2 ∨ k = 3 ∨ k = 4 ∨ k = 5 ∨ k = 6 ∨ k = 7 ∨ k = 8 ∨ k = 9 ∨ k = 10 := by omega
    clear q hk
    rcases hk' with rfl | rfl | rfl | rfl | rfl | rfl | rfl | rfl | rfl | rfl | rfl
    · refine wp_ifp rfl ?_
      refine wp_ifp (in3 row20 (a := 0) (by omega)) ?_
      with_reducible refine wp_bd ?_
      refine wp_ifp (in3 row20 (a := 1) (by omega)) ?_
      with_reducible refine wp_bd ?_
      refine wp_some (lk _ _ rf ?_)
      have e0 : M4.1 20 0 ((0 : Int32)).toNatClampNeg = nI st.A.m := h3
      have e1 : M4.1 20 0 ((1 : Int32)).toNatClampNeg = nI st.A.m - nI (fb_ct st.A.T 24) := h4
      rw [e0, e1, nI_ssub]; rfl
    · refine wp_ifn (by decide) ?_
      refine wp_ifp rfl ?_
      refine wp_ifp (in3 row20 (a := 0) (by omega)) ?_
      with_reducible refine wp_bd ?_
      exact wp_some (lk _ _ rf h3)
    · refine wp_ifn (by decide) ?_
      refine wp_ifn (by decide) ?_
      refine wp_ifp rfl ?_
      refine wp_ifp (in3 row20 (a := 1) (by omega)) ?_
      with_reducible refine wp_bd ?_
      exact wp_some (lk _ _ rf h4)
    · refine wp_ifn (by decide) ?_
      refine wp_ifn (by decide) ?_
      refine wp_ifn (by decide) ?_
      refine wp_ifp rfl ?_
      refine wp_ifp (in3 row20 (a := 2) (by omega)) ?_
      with_reducible refine wp_bd ?_
      exact wp_some (lk _ _ rf h1.2.1)
    · refine wp_ifn (by decide) ?_
      refine wp_ifn (by decide) ?_
      refine wp_ifn (by decide) ?_
      refine wp_ifn (by decide) ?_
      refine wp_ifp rfl ?_
      refine wp_call (w8_frayed r4.1) ?_
      exact wp_some (lk _ _ rf rfl)
    · refine wp_ifn (by decide) ?_
      refine wp_ifn (by decide) ?_
      refine wp_ifn (by decide) ?_
      refine wp_ifn (by decide) ?_
      refine wp_ifn (by decide) ?_
      refine wp_ifp rfl ?_
      refine wp_call (w8_pinned r4.1 hI.1) ?_
      exact wp_some (lk _ _ rf rfl)
    · refine wp_ifn (by decide) ?_
      refine wp_ifn (by decide) ?_
      refine wp_ifn (by decide) ?_
      refine wp_ifn (by decide) ?_
      refine wp_ifn (by decide) ?_
      refine wp_ifn (by decide) ?_
      refine wp_ifp rfl ?_
      obtain ⟨⟨v, M5⟩, e5, q1, -, f5⟩ := w8_heldMany row20 r4.1 hI.1
      refine wp_b2 e5 ?_
      exact wp_some (lk _ _ (look25 f5) q1)
    · refine wp_ifn (by decide) ?_
      refine wp_ifn (by decide) ?_
      refine wp_ifn (by decide) ?_
      refine wp_ifn (by decide) ?_
      refine wp_ifn (by decide) ?_
      refine wp_ifn (by decide) ?_
      refine wp_ifn (by decide) ?_
      refine wp_ifp rfl ?_
      obtain ⟨⟨v, M5⟩, e5, q1, -, f5⟩ := w8_heldWeight row20 r4.1 hI.1
      refine wp_b2 e5 ?_
      exact wp_some (lk _ _ (look25 f5) q1)
    · refine wp_ifn (by decide) ?_
      refine wp_ifn (by decide) ?_
      refine wp_ifn (by decide) ?_
      refine wp_ifn (by decide) ?_
      refine wp_ifn (by decide) ?_
      refine wp_ifn (by decide) ?_
      refine wp_ifn (by decide) ?_
      refine wp_ifn (by decide) ?_
      refine wp_ifp rfl ?_
      refine wp_ifp (in3 row20 (a := 3) (by omega)) ?_
      with_reducible refine wp_bd ?_
      exact wp_some (lk _ _ rf h5)
    · refine wp_ifn (by decide) ?_
      refine wp_ifn (by decide) ?_
      refine wp_ifn (by decide) ?_
      refine wp_ifn (by decide) ?_
      refine wp_ifn (by decide) ?_
      refine wp_ifn (by decide) ?_
      refine wp_ifn (by decide) ?_
      refine wp_ifn (by decide) ?_
      refine wp_ifn (by decide) ?_
      refine wp_ifp rfl ?_
      refine wp_ifp (in3 row20 (a := 4) (by omega)) ?_
      with_reducible refine wp_bd ?_
      exact wp_some (lk _ _ rf h6)
    · refine wp_ifn (by decide) ?_
      refine wp_ifn (by decide) ?_
      refine wp_ifn (by decide) ?_
      refine wp_ifn (by decide) ?_
      refine wp_ifn (by decide) ?_
      refine wp_ifn (by decide) ?_
      refine wp_ifn (by decide) ?_
      refine wp_ifn (by decide) ?_
      refine wp_ifn (by decide) ?_
      refine wp_ifn (by decide) ?_
      refine wp_ifp rfl ?_
      refine wp_ifp (in3 row20 (a := 5) (by omega)) ?_
      with_reducible refine wp_bd ?_
      exact wp_some (lk _ _ rf h7)
  · refine absurd ?_ q
    rw [in_iff (nI k) 0 11 0 11 (by decide) (by decide)]
    exact ⟨(iI_le (a := 0) (by omega) (by omega)).mpr (by omega), (iI_le (b := 11) (by omega) (by omega)).mpr (by omega)⟩
theorem m_deep {M2 : sx_M} {st : ST} (hM : RM M2 st) (hI : INV st) {r : Int32} (hr : st.A.deep r) : wp (f8_about (nI 11) M2) (fun q => GOOD M2 st r q) := by
  have r4 := hM.ref 0
  rw [f8_about]
  obtain ⟨r1, e1, hr1⟩ := w8_in (nI 11).toInt64 0 11 M2
  refine wp_call e1 ?_
  with_reducible refine wp_bd ?_
  rcases hr1 with ⟨rfl, q⟩ | ⟨rfl, q⟩
  · refine wp_ifn (by decide) ?_
    refine m_yes ?_
    have lk : ∀ (M' : sx_M) (v : Int32), (∀ k s, (k ≤ 20 ∨ 22 ≤ k ∧ k ≤ 24) → M'.1 k s = (sx_set M2 17 0 0 0).1 k s) → v = r → GOOD M2 st r (v, M') := fun M' v f e => good_look hM f e
    generalize sx_set M2 17 0 0 0 = M4 at r4 lk ⊢
    refine wp_ifn (by decide) ?_
    refine wp_ifn (by decide) ?_
    refine wp_ifn (by decide) ?_
    refine wp_ifn (by decide) ?_
    refine wp_ifn (by decide) ?_
    refine wp_ifn (by decide) ?_
    refine wp_ifn (by decide) ?_
    refine wp_ifn (by decide) ?_
    refine wp_ifn (by decide) ?_
    refine wp_ifn (by decide) ?_
    refine wp_ifn (by decide) ?_
    obtain ⟨⟨v, M5⟩, e5, q1, f5⟩ := w8_deepest r4.1 hI.1 hr
    refine wp_b2 e5 ?_
    exact wp_some (lk _ _ (look25 f5) q1)
  · exact absurd (by decide) q
theorem pair_about (a : Int32) {ex : Nat → Int32} (h1 : ex 1 = nI 1) : PAIR (fun M => f7_about a M) (fun M => f8_about a M) ex := by
  intro st M hI hR
  have hin : ((0 : Int64) ≤ a.toInt64 ∧ a.toInt64 ≤ 11) ↔ (0 ≤ a ∧ a ≤ 11) := in_iff a 0 11 0 11 (by decide) (by decide)
  by_cases ha : 0 ≤ a ∧ a ≤ 11
  · obtain ⟨k, hk, rfl⟩ : ∃ k, k < 12 ∧ a = nI k := by
      have ha' := ha
      rw [fa_le, fa_le] at ha'
      have z0 : (0 : Int32).toInt = 0 := by decide
      have z1 : (11 : Int32).toInt = 11 := by decide
      rw [z0, z1] at ha'
      exact ⟨a.toInt.toNat, by omega, by rw [fa_eq, nI_toInt (by omega)]; omega⟩
    have cpre : ∀ v : Int32, f3_figure 0 (nI k) M = some v → wp (f7_about (nI k) M) (fun r => r.1 = .inr v ∧ RC r.2 st ∧ ∀ k s, 17 ≤ k → r.2.1 k s = M.1 k s) := fun v hv => by
      rw [f7_about]
      with_reducible refine wp_bd ?_
      refine wp_ifn (by rw [show (0 : Int32) = nI 0 from rfl, iI_lt (by omega) (by omega)]; omega) ?_
      refine wp_ifp ha.2 ?_
      refine wp_call hv ?_
      exact wp_some ⟨rfl, hR, fun _ _ _ => rfl⟩
    by_cases k11 : k = 11
    · subst k11
      obtain ⟨r, e, hr⟩ := w3_figure_deep hR.1
      exact ⟨.inr r, st, hI, cpre r e, fun M2 hM => wp_mono (m_deep hM hI hr) (fun q hq => hq.to)⟩
    · exact ⟨.inr (st.A.fig k), st, hI, cpre _ (w3_figure hR.1 (by omega)), fun M2 hM => wp_mono (m_figure hM hI (by omega)) (fun q hq => hq.to)⟩
  · refine ⟨.inl 1, st, hI, ?_, fun M2 hM => ?_⟩
    · show wp (f7_about a M) _
      rw [f7_about]
      with_reducible refine wp_bd ?_
      have fin : wp (some ((.inl 1 : Nat ⊕ Int32), M)) (fun r => r.1 = .inl 1 ∧ RC r.2 st ∧ ∀ k s, 17 ≤ k → r.2.1 k s = M.1 k s) := wp_some ⟨rfl, hR, fun _ _ _ => rfl⟩
      with_reducible refine wp_if (fun c => ?_) (fun c => ?_)
      · exact fin
      · with_reducible refine wp_if (fun c2 => ?_) (fun c2 => ?_)
        · exact absurd ⟨by rw [fa_lt] at c; rw [fa_le]; omega, c2⟩ ha
        · exact fin
    · show wp (f8_about a M2) _
      rw [f8_about]
      obtain ⟨r1, e1, hr1⟩ := w8_in a.toInt64 0 11 M2
      refine wp_call e1 ?_
      with_reducible refine wp_bd ?_
      rcases hr1 with ⟨rfl, q⟩ | ⟨rfl, q⟩
      · exact absurd (hin.mp q) ha
      · refine wp_ifp rfl ?_
        exact m_no hM (n := 1) (by omega) (by omega) h1
theorem w8_strTo {M : sx_M} {A : SH} (h : DS M 20 A) {p : Nat} (hp : p < 24) : f8_stringsOf (nI p) (1 : Int32) (1 : Int32) M = some (nI (fb_ct (fun i => A.g.Z i && decide (A.g.B i = p)) A.g.n)) := by
  refine wp_get ?_
  have h40 := h.1.1
  have e2 : M.1 20 0 ((2 : Int32)).toNatClampNeg = nI A.g.n := h.1.2.1
  refine wp_up (F := fun m x3 x2 => f8_stringsOf_L6 (nI p) 1 1 M m x2 x3) A.g.n (fun j x => x = nI (fb_ct (fun i => A.g.Z i && decide (A.g.B i = p)) j)) (fun m j a hj hI kk => ?_) (fun m a hI => ?_) 5000 0 0 (by omega) (by omega) rfl
  · subst hI
    obtain ⟨g1, g2, g3, g4, g5⟩ := h.1.2.2 j hj
    have eb := fb_ct_bI (fun i => A.g.Z i && decide (A.g.B i = p)) j
    show wp (f8_stringsOf_L6 (nI p) 1 1 M (m + 1) _ (nI j)) _
    rw [f8_stringsOf_L6]
    refine wp_ifp (in3 row20 (a := 2) (by omega)) ?_
    with_reducible refine wp_bd ?_
    rw [e2]
    refine wp_ifn (by rw [iI_le (by omega) (by omega)]; omega) ?_
    refine wp_call (w8_co1 _ _) ?_
    refine wp_ifp (in3 row20 (by omega)) ?_
    with_reducible refine wp_bd ?_
    with_reducible refine wp_bd ?_
    with_reducible refine wp_bd ?_
    rw [nI_cl (by omega), g4]
    with_reducible refine wp_if (fun c => ?_) (fun c => ?_) <;> rw [iI_eq (by omega) (by omega)] at c
    · with_reducible refine wp_bd ?_
      refine wp_ifn (by decide) ?_
      refine wp_call (w8_co2 _ _) ?_
      refine wp_ifp (in3 row20 (by omega)) ?_
      with_reducible refine wp_bd ?_
      rw [nI_cl (by omega), g5]
      with_reducible refine wp_if (fun c2 => ?_) (fun c2 => ?_) <;> rw [bI01_1] at c2
      · exact kk _ (by rw [← eb, c2, decide_eq_true c]; rfl)
      · rw [Bool.not_eq_true] at c2
        exact kk _ (by rw [← eb, c2]; rfl)
    · exact kk _ (by rw [← eb, decide_eq_false c, Bool.and_false]; rfl)
  · subst hI
    show wp (f8_stringsOf_L6 (nI p) 1 1 M (m + 1) _ (nI A.g.n)) _
    rw [f8_stringsOf_L6]
    refine wp_ifp (in3 row20 (a := 2) (by omega)) ?_
    with_reducible refine wp_bd ?_
    rw [e2]
    refine wp_ifp (by rw [iI_le (by omega) (by omega)]; omega) ?_
    exact wp_some rfl
theorem w8_strUnder {M : sx_M} {A : SH} (h : DS M 20 A) {p : Nat} (hp : p < 24) : f8_stringsOf (nI p) (0 : Int32) (0 : Int32) M = some (nI (fb_ct (fun i => decide (A.g.A i = p + 4)) A.g.n)) := by
  refine wp_get ?_
  have h40 := h.1.1
  have e2 : M.1 20 0 ((2 : Int32)).toNatClampNeg = nI A.g.n := h.1.2.1
  refine wp_up (F := fun m x3 x2 => f8_stringsOf_L6 (nI p) 0 0 M m x2 x3) A.g.n (fun j x => x = nI (fb_ct (fun i => decide (A.g.A i = p + 4)) j)) (fun m j a hj hI kk => ?_) (fun m a hI => ?_) 5000 0 0 (by omega) (by omega) rfl
  · subst hI
    obtain ⟨g1, g2, g3, g4, g5⟩ := h.1.2.2 j hj
    have eb := fb_ct_bI (fun i => decide (A.g.A i = p + 4)) j
    show wp (f8_stringsOf_L6 (nI p) 0 0 M (m + 1) _ (nI j)) _
    rw [f8_stringsOf_L6]
    refine wp_ifp (in3 row20 (a := 2) (by omega)) ?_
    with_reducible refine wp_bd ?_
    rw [e2]
    refine wp_ifn (by rw [iI_le (by omega) (by omega)]; omega) ?_
    refine wp_call (w8_co0 _ _) ?_
    refine wp_ifp (in3 row20 (by omega)) ?_
    with_reducible refine wp_bd ?_
    with_reducible refine wp_bd ?_
    with_reducible refine wp_bd ?_
    rw [nI_cl (by omega), g3]
    with_reducible refine wp_if (fun c => ?_) (fun c => ?_) <;> rw [tI_nI (by omega) (by omega)] at c
    · with_reducible refine wp_bd ?_
      refine wp_ifp rfl ?_
      exact kk _ (by rw [← eb, decide_eq_true c]; rfl)
    · exact kk _ (by rw [← eb, decide_eq_false c]; rfl)
  · subst hI
    show wp (f8_stringsOf_L6 (nI p) 0 0 M (m + 1) _ (nI A.g.n)) _
    rw [f8_stringsOf_L6]
    refine wp_ifp (in3 row20 (a := 2) (by omega)) ?_
    with_reducible refine wp_bd ?_
    rw [e2]
    refine wp_ifp (by rw [iI_le (by omega) (by omega)]; omega) ?_
    exact wp_some rfl
theorem sw_one {W : Nat → Int32} {p : Nat} : ∀ m, sw (fun k => decide (k = p)) W m = if p < m then W p else 0 := by
  intro m
  induction m with
  | zero => rw [if_neg (by omega)]; rfl
  | succ m ih =>
    rw [sw_succ, ih]
    by_cases q : m = p
    · subst q
      rw [if_neg (Nat.lt_irrefl m), if_pos (Nat.lt_succ_self m)]
      show (0 : Int32) + (if decide (m = m) = true then W m else 0) = W m
      rw [decide_eq_true rfl, if_pos rfl, Int32.zero_add]
    · show (if p < m then W p else 0) + (if decide (m = p) = true then W m else 0) = _
      rw [decide_eq_false q, if_neg (show ¬ (false = true) by decide), Int32.add_zero]
      by_cases q2 : p < m
      · rw [if_pos q2, if_pos (Nat.lt_succ_of_lt q2)]
      · have : ¬ p < m + 1 := by omega
        rw [if_neg q2, if_neg this]
/-- the number of a part, told by both -/
def SH.partN (A : SH) (p k : Nat) (r : Int32) : Prop := if k = 3 then ((∃ d, d ≤ 24 ∧ r = nI d ∧ A.g.dp (hol A.P) (p + 4) d) ∨ (r = -9 ∧ A.H p = false)) else r = A.figP p k
theorem m_part {M2 : sx_M} {st : ST} (hM : RM M2 st) (hI : INV st) {p k : Nat} (hp : p < 24) (hTp : st.A.T p = true) (hk : k < 7) {r : Int32} (hr : st.A.partN p k r) : wp (f8_part (nI p) (nI k) M2) (fun q => GOOD M2 st r q) := by
  have r4 := hM.ref 0
  have hT0 : ∀ p, p < 24 → st.A.T p = true → p < st.A.m := fun p _ => hI.1.2.2.2.1 p
  have hpm := hT0 p hp hTp
  rw [f8_part]
  obtain ⟨r1, e1, hr1⟩ := w8_isPart row20 hM.1 hT0 (nI p)
  refine wp_call e1 ?_
  with_reducible refine wp_bd ?_
  rcases hr1 with ⟨rfl, -⟩ | ⟨rfl, q⟩
  · refine wp_ifn (by decide) ?_
    obtain ⟨r2, e2, hr2⟩ := w8_in (nI k).toInt64 0 6 M2
    refine wp_call e2 ?_
    rcases hr2 with ⟨rfl, -⟩ | ⟨rfl, q⟩
    · refine wp_ifn (by decide) ?_
      refine m_yes ?_
      have lk : ∀ (M' : sx_M) (v : Int32), (∀ k s, (k ≤ 20 ∨ 22 ≤ k ∧ k ≤ 24) → M'.1 k s = (sx_set M2 17 0 0 0).1 k s) → v = r → GOOD M2 st r (v, M') := fun M' v f e => good_look hM f e
      generalize sx_set M2 17 0 0 0 = M4 at r4 lk ⊢
      obtain ⟨M6, e6, hl, f6⟩ := w8_lay row20 r4.1 hI.1
      refine wp_call e6 ?_
      have d6 := r4.1.fr f6 (row3_25 row20)
      have lk6 : ∀ v, v = r → GOOD M2 st r (v, M6) := fun v e => lk M6 v (look25 f6) e
      obtain ⟨D, hD⟩ := id hl
      obtain ⟨b1, b2⟩ := hD p hp
      have b1' : M6.1 25 0 (nI p).toNatClampNeg = nI (D p) := by rw [nI_cl (by omega)]; exact b1
      obtain ⟨h1, h2, h3, h4, h5, h6, h7, h8, h9⟩ := id d6
      unfold SH.partN at hr
      have hk' : k = 0 ∨ k = 1 ∨ k = 2 ∨ k = 3 ∨ k = 4 ∨ k = 5 ∨ k = 6 := by omega
      clear hk
      rcases hk' with rfl | rfl | rfl | rfl | rfl | rfl | rfl
      · rw [if_neg (by decide)] at hr
        refine wp_ifp rfl ?_
        refine wp_call (w8_pa0 _ _) ?_
        refine wp_ifp (in3 row20 (by omega)) ?_
        with_reducible refine wp_bd ?_
        refine wp_some (lk6 _ ?_)
        rw [nI_cl (by omega), (h8 p hpm).1, hr]
        show _ = sw (fun k => decide (k = p)) st.A.W st.A.m
        rw [sw_one, if_pos hpm]
      · rw [if_neg (by decide)] at hr
        refine wp_ifn (by decide) ?_
        refine wp_ifp rfl ?_
        refine wp_call (w8_pa2 _ _) ?_
        refine wp_ifp (in3 row20 (by omega)) ?_
        with_reducible refine wp_bd ?_
        refine wp_some (lk6 _ ?_)
        rw [nI_cl (by omega), (h8 p hpm).2.2, hr]; rfl
      · rw [if_neg (by decide)] at hr
        refine wp_ifn (by decide) ?_
        refine wp_ifn (by decide) ?_
        refine wp_ifp rfl ?_
        refine wp_ifp (sx_in_n hp (by omega)) ?_
        with_reducible refine wp_bd ?_
        with_reducible refine wp_bd ?_
        rw [b1']
        rcases b2 with ⟨z0, z1⟩ | ⟨z0, z1, -⟩
        · refine wp_ifp (by rw [nI_99 (by omega)]; omega) ?_
          refine wp_some (lk6 _ ?_)
          rw [hr]
          show _ = bI01 (st.A.H p)
          rw [z0]; rfl
        · refine wp_ifn (by rw [nI_99 (by omega)]; omega) ?_
          refine wp_some (lk6 _ ?_)
          rw [hr]
          show _ = bI01 (st.A.H p)
          rw [z0]; rfl
      · rw [if_pos rfl] at hr
        refine wp_ifn (by decide) ?_
        refine wp_ifn (by decide) ?_
        refine wp_ifn (by decide) ?_
        refine wp_ifp rfl ?_
        refine wp_ifp (sx_in_n hp (by omega)) ?_
        with_reducible refine wp_bd ?_
        with_reducible refine wp_bd ?_
        rw [b1']
        rcases b2 with ⟨z0, z1⟩ | ⟨z0, z1, z2⟩
        · refine wp_ifp (by rw [nI_99 (by omega)]; omega) ?_
          refine wp_some (lk6 _ ?_)
          rcases hr with ⟨d, -, -, hd⟩ | ⟨hr, -⟩
          · have := GT.held_of hI.1.1 (by omega) hd.1
            have z0' : st.A.g.held (hol st.A.P) (p + 4) = false := z0
            rw [z0'] at this; cases this
          · exact hr.symm
        · refine wp_ifn (by rw [nI_99 (by omega)]; omega) ?_
          refine wp_ifp (sx_in_n hp (by omega)) ?_
          with_reducible refine wp_bd ?_
          refine wp_some (lk6 _ ?_)
          rcases hr with ⟨d, -, hr, hd⟩ | ⟨-, hr⟩
          · rw [hr, GT.dp_uniq hd z2]
          · rw [z0] at hr; cases hr
      · rw [if_neg (by decide)] at hr
        refine wp_ifn (by decide) ?_
        refine wp_ifn (by decide) ?_
        refine wp_ifn (by decide) ?_
        refine wp_ifn (by decide) ?_
        refine wp_ifp rfl ?_
        refine wp_call (w8_strTo d6 hp) ?_
        refine wp_some (lk6 _ ?_)
        rw [hr]; rfl
      · rw [if_neg (by decide)] at hr
        refine wp_ifn (by decide) ?_
        refine wp_ifn (by decide) ?_
        refine wp_ifn (by decide) ?_
        refine wp_ifn (by decide) ?_
        refine wp_ifn (by decide) ?_
        refine wp_ifp rfl ?_
        refine wp_call (w8_strUnder d6 hp) ?_
        refine wp_some (lk6 _ ?_)
        rw [hr]; rfl
      · rw [if_neg (by decide)] at hr
        refine wp_ifn (by decide) ?_
        refine wp_ifn (by decide) ?_
        refine wp_ifn (by decide) ?_
        refine wp_ifn (by decide) ?_
        refine wp_ifn (by decide) ?_
        refine wp_ifn (by decide) ?_
        refine wp_ifp (in3 row20 (a := 3) (by omega)) ?_
        have e3 : M6.1 20 0 ((3 : Int32)).toNatClampNeg = bI01 st.A.G := h5
        with_reducible refine wp_bd ?_
        with_reducible refine wp_bd ?_
        rw [e3]
        have hr' : r = if st.A.G then (if st.A.w p then 0 else if st.A.b p then 2 else 1) else -9 := hr
        cases hG : st.A.G with
        | true =>
          rw [hG, if_pos rfl] at hr'
          refine wp_ifp rfl ?_
          refine wp_call (w8_pa3 _ _) ?_
          refine wp_ifp (in3 row20 (by omega)) ?_
          with_reducible refine wp_bd ?_
          refine wp_some (lk6 _ ?_)
          rw [nI_cl (by omega), (h9 hG).2.2 p hpm hTp, hr']
        | false =>
          rw [hG, if_neg (by decide)] at hr'
          refine wp_ifn (by decide) ?_
          exact wp_some (lk6 _ hr'.symm)
    · refine absurd ?_ q
      rw [in_iff (nI k) 0 6 0 6 (by decide) (by decide)]
      exact ⟨(iI_le (a := 0) (by omega) (by omega)).mpr (by omega), (iI_le (b := 6) (by omega) (by omega)).mpr (by omega)⟩
  · exact absurd ⟨p, hp, rfl, hTp⟩ q
theorem pair_part (a b : Int32) {ex : Nat → Int32} (h0 : ex 0 = nI 1) (h1 : ex 1 = nI 2) : PAIR (fun M => f7_part a b M) (fun M => f8_part a b M) ex := by
  intro st M hI hR
  have hT0 : ∀ p, p < 24 → st.A.T p = true → p < st.A.m := fun p _ => hI.1.2.2.2.1 p
  have hin : ((0 : Int64) ≤ b.toInt64 ∧ b.toInt64 ≤ 6) ↔ (0 ≤ b ∧ b ≤ 6) := in_iff b 0 6 0 6 (by decide) (by decide)
  obtain ⟨r, e, hr⟩ := w3_partFault hR.1 a
  rcases hr with ⟨rfl, hp⟩ | ⟨rfl, hno⟩
  · obtain ⟨p, hp', rfl, hTp⟩ := id hp
    by_cases hb : 0 ≤ b ∧ b ≤ 6
    · obtain ⟨k, hk, rfl⟩ : ∃ k, k < 7 ∧ b = nI k := by
        have hb' := hb
        rw [fa_le, fa_le] at hb'
        have z0 : (0 : Int32).toInt = 0 := by decide
        have z1 : (6 : Int32).toInt = 6 := by decide
        rw [z0, z1] at hb'
        exact ⟨b.toInt.toNat, by omega, by rw [fa_eq, nI_toInt (by omega)]; omega⟩
      have hfig : ∃ v, f3_figureOf 0 (nI p) (nI k) M = some v ∧ st.A.partN p k v := by
        unfold SH.partN
        by_cases k3 : k = 3
        · subst k3
          obtain ⟨v, ev, hv⟩ := w3_figureOf_depth hR.1 hp'
          exact ⟨v, ev, by rw [if_pos rfl]; exact hv⟩
        · exact ⟨_, w3_figureOf hR.1 hp' hk k3, by rw [if_neg k3]⟩
      obtain ⟨v, ev, hv⟩ := hfig
      refine ⟨.inr v, st, hI, ?_, fun M2 hM => wp_mono (m_part hM hI hp' hTp hk hv) (fun q hq => hq.to)⟩
      show wp (f7_part (nI p) (nI k) M) _
      rw [f7_part]
      refine wp_call e ?_
      rw [c_bT_yes]
      with_reducible refine wp_bd ?_
      refine wp_ifn (by rw [show (0 : Int32) = nI 0 from rfl, iI_lt (by omega) (by omega)]; omega) ?_
      refine wp_ifp hb.2 ?_
      refine wp_call ev ?_
      exact wp_some ⟨rfl, hR, fun _ _ _ => rfl⟩
    · refine ⟨.inl 1, st, hI, ?_, fun M2 hM => ?_⟩
      · show wp (f7_part (nI p) b M) _
        rw [f7_part]
        refine wp_call e ?_
        rw [c_bT_yes]
        with_reducible refine wp_bd ?_
        have fin : wp (some ((.inl 1 : Nat ⊕ Int32), M)) (fun r => r.1 = .inl 1 ∧ RC r.2 st ∧ ∀ k s, 17 ≤ k → r.2.1 k s = M.1 k s) := wp_some ⟨rfl, hR, fun _ _ _ => rfl⟩
        with_reducible refine wp_if (fun c => ?_) (fun c => ?_)
        · exact fin
        · with_reducible refine wp_if (fun c2 => ?_) (fun c2 => ?_)
          · exact absurd ⟨by rw [fa_lt] at c; rw [fa_le]; omega, c2⟩ hb
          · exact fin
      · show wp (f8_part (nI p) b M2) _
        rw [f8_part]
        obtain ⟨r1, e1, hr1⟩ := w8_isPart row20 hM.1 hT0 (nI p)
        refine wp_call e1 ?_
        with_reducible refine wp_bd ?_
        rcases hr1 with ⟨rfl, -⟩ | ⟨rfl, q⟩
        · refine wp_ifn (by decide) ?_
          obtain ⟨r2, e2, hr2⟩ := w8_in b.toInt64 0 6 M2
          refine wp_call e2 ?_
          rcases hr2 with ⟨rfl, q⟩ | ⟨rfl, q⟩
          · exact absurd (hin.mp q) hb
          · refine wp_ifp rfl ?_
            exact m_no hM (n := 2) (by omega) (by omega) h1
        · exact absurd hp q
  · refine ⟨.inl 0, st, hI, ?_, fun M2 hM => ?_⟩
    · show wp (f7_part a b M) _
      rw [f7_part]
      refine wp_call e ?_
      rw [c_bT_no (Or.inl ⟨rfl, rfl⟩)]
      exact wp_some ⟨rfl, hR, fun _ _ _ => rfl⟩
    · show wp (f8_part a b M2) _
      rw [f8_part]
      obtain ⟨r1, e1, hr1⟩ := w8_isPart row20 hM.1 hT0 a
      refine wp_call e1 ?_
      with_reducible refine wp_bd ?_
      rcases hr1 with ⟨rfl, q⟩ | ⟨rfl, q⟩
      · exact absurd q hno
      · refine wp_ifp rfl ?_
        exact m_no hM (n := 1) (by omega) (by omega) h0
