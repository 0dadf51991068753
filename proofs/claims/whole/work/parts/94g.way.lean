/-! THE WAY, SIDE BY SIDE -/
theorem first_is {f : Nat → Bool} {n j : Nat} (hj : j < n) (h1 : f j = true) (h0 : ∀ i, i < j → f i = false) : fa_first f n = j := by
  have hlt : fa_first f n < n := by
    refine Nat.lt_of_not_le (fun hc => ?_)
    have := fa_first_no f n j (by omega)
    rw [h1] at this; cases this
  have hy := fa_first_yes f n hlt
  by_cases q : fa_first f n < j
  · rw [h0 _ q] at hy; cases hy
  · by_cases q2 : j < fa_first f n
    · have := fa_first_no f n j q2
      rw [h1] at this; cases this
    · omega
theorem first_cong {f f' : Nat → Bool} {n : Nat} (h : ∀ i, i < n → f i = f' i) : fa_first f n = fa_first f' n := by
  by_cases q : fa_first f n < n
  · refine (first_is q ?_ (fun i hi => ?_)).symm
    · rw [← h _ q]; exact fa_first_yes f n q
    · rw [← h _ (by omega)]; exact fa_first_no f n i hi
  · by_cases q2 : fa_first f' n < n
    · exact first_is q2 (by rw [h _ q2]; exact fa_first_yes f' n q2) (fun i hi => by rw [h _ (by omega)]; exact fa_first_no f' n i hi)
    · have := fa_first_le f n
      have := fa_first_le f' n
      omega
theorem GT.way_cong {g : GT} (hg : g.ok) {H H' : Nat → Bool} (h : ∀ t, t < 32 → H t = H' t) (t d : Nat) : ∀ k, g.way H t d k = g.way H' t d k := by
  intro k
  induction k with
  | zero => rfl
  | succ k ih =>
    show g.up H (g.way H t d k) (d - 1 - k) = g.up H' (g.way H' t d k) (d - 1 - k)
    rw [ih]
    unfold GT.up
    congr 1
    refine first_cong (fun i hi => ?_)
    unfold GT.upc
    rw [GT.dpB_cong hg h (by have := (hg.2 i hi).1; omega)]
theorem dp_hook {g : GT} {P : Nat → Bool} {t d : Nat} (ht : t < 4) : g.dpB (hol P) t d = decide (d = 0) := by
  have h0 : g.dp (hol P) t 0 := ⟨by show hol P t = true; unfold hol; rw [decide_eq_true ht]; rfl, fun e he => absurd he (Nat.not_lt_zero _)⟩
  rw [Bool.eq_iff_iff, GT.dpB_iff, decide_eq_true_eq]
  exact ⟨fun h => GT.dp_uniq h h0, fun h => h ▸ h0⟩
theorem w8_aboveOf {M : sx_M} {A : SH} (h : DS M 20 A) (hI : IS A) {D : Nat → Nat} (hD : ∀ p, p < 24 → M.1 25 0 p = nI (D p) ∧ ((A.H p = false ∧ D p = 99) ∨ (A.H p = true ∧ D p ≤ 24 ∧ A.g.dp (hol A.P) (p + 4) (D p)))) {p d : Nat} (hp : p < 24) (hd : A.g.dp (hol A.P) (p + 4) (d + 1)) : f8_aboveOf (nI p) M = some (tI (A.g.up (hol A.P) (p + 4) d)) := by
  have hok := hI.1
  have h40 := hok.1
  have e2 : M.1 20 0 ((2 : Int32)).toNatClampNeg = nI A.g.n := h.1.2.1
  have hDp : D p = d + 1 := by
    rcases (hD p hp).2 with ⟨z, -⟩ | ⟨-, -, z⟩
    · have := GT.held_of hok (by omega) hd.1
      have z' : A.g.held (hol A.P) (p + 4) = false := z
      rw [z'] at this; cases this
    · exact GT.dp_uniq z hd
  have hd24 : d + 1 ≤ 24 := GT.dp_24 hok (by omega) hd
  obtain ⟨u1, -⟩ := GT.up_ok hd
  have hup : A.g.up (hol A.P) (p + 4) d = A.g.A (fa_first (A.g.upc (hol A.P) p d) A.g.n) := by
    unfold GT.up; rw [Nat.add_sub_cancel]
  rw [Nat.add_sub_cancel] at u1
  refine wp_get ?_
  rw [f8_aboveOf]
  refine wp_up0 (F := fun m x2 => f8_aboveOf_L2 (nI p) M m x2) A.g.n (fun j => ∀ i, i < j → A.g.upc (hol A.P) p d i = false) (fun m j hj hI2 kk => ?_) (fun m hI2 => ?_) 5000 0 (by omega) (by omega) (fun i hi => absurd hi (Nat.not_lt_zero _))
  · obtain ⟨g1, g2, g3, g4, g5⟩ := h.1.2.2 j hj
    have kk2 : A.g.upc (hol A.P) p d j = false → _ := fun hne => kk (fun i hi => if e : i = j then e ▸ hne else hI2 i (by omega))
    have hu : A.g.upc (hol A.P) p d j = (A.g.Z j && decide (A.g.B j = p) && A.g.dpB (hol A.P) (A.g.A j) d) := rfl
    show wp (f8_aboveOf_L2 (nI p) M (m + 1) (nI j)) _
    rw [f8_aboveOf_L2]
    refine wp_ifp (in3 row20 (a := 2) (by omega)) ?_
    with_reducible refine wp_bd ?_
    rw [e2]
    refine wp_ifn (by rw [iI_le (by omega) (by omega)]; omega) ?_
    refine wp_call (w8_co0 _ _) ?_
    refine wp_ifp (in3 row20 (by omega)) ?_
    with_reducible refine wp_bd ?_
    refine wp_call (w8_co1 _ _) ?_
    refine wp_ifp (in3 row20 (by omega)) ?_
    with_reducible refine wp_bd ?_
    with_reducible refine wp_bd ?_
    rw [nI_cl (a := 103 + 3 * j + 0) (by omega), nI_cl (a := 103 + 3 * j + 1) (by omega), g3, g4]
    with_reducible refine wp_if (fun c => ?_) (fun c => ?_) <;> rw [iI_eq (by omega) (by omega)] at c
    · refine wp_call (w8_co2 _ _) ?_
      refine wp_ifp (in3 row20 (by omega)) ?_
      with_reducible refine wp_bd ?_
      rw [nI_cl (a := 103 + 3 * j + 2) (by omega), g5]
      with_reducible refine wp_if (fun c2 => ?_) (fun c2 => ?_) <;> rw [bI01_1] at c2
      · with_reducible refine wp_bd ?_
        have eDp : M.1 25 0 (nI p).toNatClampNeg = nI (d + 1) := by rw [nI_cl (by omega), (hD p hp).1, hDp]
        have rest : ∀ v : Nat, v < 1000 → (v = d ↔ A.g.dpB (hol A.P) (A.g.A j) d = true) → wp (if sx_in (nI p) 24 then
            sx_bd (M.1 25 0 (nI p).toNatClampNeg) fun v13 =>
            if nI v = (v13 - (1 : Int32)) then
              some (tI (A.g.A j))
            else
              (fun (_ : Unit) =>
                sx_bd (nI j + (1 : Int32)) fun v7 =>
                f8_aboveOf_L2 (nI p) M m v7) ()
            else none) (fun a => a = tI (A.g.up (hol A.P) (p + 4) d)) := fun v hv hiff => by
          refine wp_ifp (sx_in_n hp (by omega)) ?_
          with_reducible refine wp_bd ?_
          rw [eDp, iI_pred (by omega), Nat.add_sub_cancel]
          with_reducible refine wp_if (fun c3 => ?_) (fun c3 => ?_) <;> rw [iI_eq (by omega) (by omega), hiff] at c3
          · refine wp_some ?_
            have hj1 : A.g.upc (hol A.P) p d j = true := by rw [hu, c2, decide_eq_true c, c3]; rfl
            rw [hup, first_is hj hj1 hI2]
          · rw [Bool.not_eq_true] at c3
            exact kk2 (by rw [hu, c3, Bool.and_false])
        with_reducible refine wp_if (fun c4 => ?_) (fun c4 => ?_) <;> rw [tI_pos (by omega)] at c4
        · have ea : tI (A.g.A j) = nI (A.g.A j - 4) := tI_ge c4
          obtain ⟨b1, b2⟩ := hD (A.g.A j - 4) (by omega)
          have eDa : M.1 25 0 (nI (A.g.A j - 4)).toNatClampNeg = nI (D (A.g.A j - 4)) := by rw [nI_cl (by omega), b1]
          have hb := rest (D (A.g.A j - 4)) (by rcases b2 with ⟨-, z⟩ | ⟨-, z, -⟩ <;> omega) (by
            rw [GT.dpB_iff]
            rcases b2 with ⟨z0, z1⟩ | ⟨z0, z1, z2⟩
            · refine ⟨fun q => by omega, fun q => ?_⟩
              have := GT.held_of hok (by omega) q.1
              have z' : A.g.held (hol A.P) (A.g.A j - 4 + 4) = false := z0
              rw [show A.g.A j - 4 + 4 = A.g.A j by omega] at z'
              rw [z'] at this; cases this
            · rw [show A.g.A j - 4 + 4 = A.g.A j by omega] at z2
              exact ⟨fun q => q ▸ z2, fun q => GT.dp_uniq z2 q⟩)
          rw [ea] at hb ⊢
          refine wp_ifp (sx_in_n (by omega) (by omega)) ?_
          with_reducible refine wp_bd ?_
          rw [eDa]
          exact hb
        · refine rest 0 (by omega) ?_
          rw [dp_hook (by omega), decide_eq_true_eq]
          exact ⟨fun q => q.symm, fun q => q.symm⟩
      · rw [Bool.not_eq_true] at c2
        exact kk2 (by rw [hu, c2]; rfl)
    · exact kk2 (by rw [hu, decide_eq_false c, Bool.and_false, Bool.false_and])
  · have := fa_first_yes _ _ u1
    rw [hI2 _ u1] at this; cases this
theorem pair_way (a b : Int32) {ex : Nat → Int32} (h0 : ex 0 = nI 1) (h1 : ex 1 = nI 2) : PAIR (fun M => f7_way a b M) (fun M => f8_way a b M) ex := by
  intro st M hI hR
  have hT0 : ∀ p, p < 24 → st.A.T p = true → p < st.A.m := fun p _ => hI.1.2.2.2.1 p
  have hok := hI.1.1
  have hin : (0 : Int32) ≤ b ↔ ¬ b < 0 := by
    rw [fa_le, fa_lt]; have : (0 : Int32).toInt = 0 := by decide
    rw [this]; omega
  obtain ⟨r, e, hr⟩ := w3_partFault hR.1 a
  rcases hr with ⟨rfl, hp⟩ | ⟨rfl, hno⟩
  · obtain ⟨p, hp', rfl, hTp⟩ := id hp
    by_cases hb : (0 : Int32) ≤ b
    · obtain ⟨i, hi, rfl⟩ := iI_of (hin.mp hb)
      obtain ⟨x, ex', hx⟩ := w3_holders hR.1
      obtain ⟨v, ev, hv⟩ := w4_onWay hR.1.1 x hp' hi
      have hdp : ∀ d, st.A.g.dp (bt x) (p + 4) d ↔ st.A.g.dp (hol st.A.P) (p + 4) d := fun d => by
        rw [← GT.dpB_iff, ← GT.dpB_iff, GT.dpB_cong hok hx (by omega)]
      have hheld : st.A.g.held (bt x) (p + 4) = st.A.H p := GT.lev_cong hok hx 24 (p + 4) (by omega)
      refine ⟨.inr v, st, hI, ?_, fun M2 hM => ?_⟩
      · show wp (f7_way (nI p) (nI i) M) _
        rw [f7_way]
        refine wp_call e ?_
        rw [c_bT_yes]
        refine wp_ifp hb ?_
        refine wp_call ex' ?_
        refine wp_call ev ?_
        exact wp_some ⟨rfl, hR, fun _ _ _ => rfl⟩
      · show wp (f8_way (nI p) (nI i) M2) _
        rw [f8_way]
        obtain ⟨r1, e1, hr1⟩ := w8_isPart row20 hM.1 hT0 (nI p)
        refine wp_call e1 ?_
        with_reducible refine wp_bd ?_
        rcases hr1 with ⟨rfl, -⟩ | ⟨rfl, q⟩
        · refine wp_ifn (by decide) ?_
          refine wp_ifp hb ?_
          refine m_yes ?_
          have r4 := hM.ref 0
          have lk : ∀ (M' : sx_M) (w : Int32), (∀ k s, (k ≤ 20 ∨ 22 ≤ k ∧ k ≤ 24) → M'.1 k s = (sx_set M2 17 0 0 0).1 k s) → w = v → GOOD M2 st v (w, M') := fun M' w f e => good_look hM f e
          generalize sx_set M2 17 0 0 0 = M4 at r4 lk ⊢
          obtain ⟨M6, e6, ⟨D, hD⟩, f6⟩ := w8_lay row20 r4.1 hI.1
          refine wp_call e6 ?_
          have d6 := r4.1.fr f6 (row3_25 row20)
          have lk6 : ∀ w, w = v → GOOD M2 st v (w, M6) := fun w e => lk M6 w (look25 f6) e
          obtain ⟨b1, b2⟩ := hD p hp'
          have b1' : M6.1 25 0 (nI p).toNatClampNeg = nI (D p) := by rw [nI_cl (by omega)]; exact b1
          refine wp_ifp (sx_in_n hp' (by omega)) ?_
          with_reducible refine wp_bd ?_
          with_reducible refine wp_bd ?_
          rw [b1']
          rcases b2 with ⟨z0, z1⟩ | ⟨z0, z1, z2⟩
          · refine wp_ifp (by rw [z1]; rfl) ?_
            refine wp_some (lk6 _ ?_).to
            rcases hv with ⟨d, -, hd, -, -⟩ | ⟨hv, -⟩
            · have := GT.held_of hok (by omega) ((hdp d).mp hd).1
              have z' : st.A.g.held (hol st.A.P) (p + 4) = false := z0
              rw [z'] at this; cases this
            · exact hv.symm
          · refine wp_ifn (by rw [show (99 : Int32) = nI 99 from rfl, iI_eq (by omega) (by omega)]; omega) ?_
            refine wp_ifp (sx_in_n hp' (by omega)) ?_
            with_reducible refine wp_bd ?_
            with_reducible refine wp_if (fun c => ?_) (fun c => ?_) <;> rw [iI_le (by omega) (by omega)] at c
            · refine wp_ifp (sx_in_n hp' (by omega)) ?_
              with_reducible refine wp_bd ?_
              have hv' : v = tI (st.A.g.way (hol st.A.P) (p + 4) (D p) (D p - i)) := by
                rcases hv with ⟨d, -, hd, hid, hv⟩ | ⟨-, hv | ⟨d, hdi, hd⟩⟩
                · have ed := GT.dp_uniq ((hdp d).mp hd) z2
                  subst ed
                  rw [hv, GT.way_cong hok hx]
                · rw [hheld, z0] at hv; cases hv
                · have := GT.dp_uniq ((hdp d).mp hd) z2
                  omega
              have loop : ∀ (N k : Nat), k + i ≤ D p → D p - i - k < N → wp (f8_way_L75 (nI i) M6 N (tI (st.A.g.way (hol st.A.P) (p + 4) (D p) k)) (nI (D p - k))) (fun q => q.1 = tI (st.A.g.way (hol st.A.P) (p + 4) (D p) (D p - i)) ∧ q.2 = M6) := by
                intro N
                induction N with
                | zero => intro k _ hN; exact absurd hN (Nat.not_lt_zero _)
                | succ N ih =>
                  intro k hk hN
                  rw [f8_way_L75]
                  with_reducible refine wp_if (fun c2 => ?_) (fun c2 => ?_) <;> rw [iI_le (by omega) (by omega)] at c2
                  · refine wp_some ⟨?_, rfl⟩
                    rw [show k = D p - i by omega]
                  · have a1 : k + 1 + i ≤ D p := by omega
                    have a2 : D p - i - (k + 1) < N := by omega
                    have hw := GT.way_dp z2 k (by omega)
                    rw [show D p - k = D p - 1 - k + 1 by omega] at hw
                    obtain ⟨i', hi', -, hb', -⟩ := GT.dp_up hw
                    have hbi := (hok.2 i' hi').2
                    have eup : st.A.g.way (hol st.A.P) (p + 4) (D p) (k + 1) = st.A.g.up (hol st.A.P) (st.A.g.way (hol st.A.P) (p + 4) (D p) k) (D p - 1 - k) := rfl
                    have ih' := ih (k + 1) a1 a2
                    rw [eup] at ih'
                    generalize st.A.g.way (hol st.A.P) (p + 4) (D p) k = t at hw hb' ih' ⊢
                    have et : t = (t - 4) + 4 := by omega
                    have e1 : tI t = nI (t - 4) := tI_ge (by omega)
                    rw [e1]
                    rw [et] at hw
                    refine wp_call (w8_aboveOf d6 hI.1 hD (p := t - 4) (by omega) hw) ?_
                    with_reducible refine wp_bd ?_
                    rw [← et]
                    have e5 : nI (D p - k) + (-1 : Int32) = nI (D p - (k + 1)) := by
                      have : nI (D p - k) - (1 : Int32) = nI (D p - k - 1) := iI_pred (by omega)
                      rw [← Int32.sub_eq_add_neg, this]; congr 1
                    rw [e5]
                    exact ih'
              obtain ⟨⟨w, M7⟩, e7, q1, q2⟩ := loop 5000 0 (by omega) (by omega)
              dsimp only at q1 q2
              subst q2
              have e0 : tI (st.A.g.way (hol st.A.P) (p + 4) (D p) 0) = nI p := tI_part p
              rw [e0, Nat.sub_zero] at e7
              exact wp_eq e7 (lk6 _ (q1.trans hv'.symm)).to
            · refine wp_some (lk6 _ ?_).to
              rcases hv with ⟨d, -, hd, hid, -⟩ | ⟨hv, -⟩
              · have := GT.dp_uniq ((hdp d).mp hd) z2
                omega
              · exact hv.symm
        · exact absurd hp q
    · refine ⟨.inl 1, st, hI, ?_, fun M2 hM => ?_⟩
      · show wp (f7_way (nI p) b M) _
        rw [f7_way]
        refine wp_call e ?_
        rw [c_bT_yes]
        exact wp_ifn hb (wp_some ⟨rfl, hR, fun _ _ _ => rfl⟩)
      · show wp (f8_way (nI p) b M2) _
        rw [f8_way]
        obtain ⟨r1, e1, hr1⟩ := w8_isPart row20 hM.1 hT0 (nI p)
        refine wp_call e1 ?_
        with_reducible refine wp_bd ?_
        rcases hr1 with ⟨rfl, -⟩ | ⟨rfl, q⟩
        · refine wp_ifn (by decide) ?_
          refine wp_ifn hb ?_
          exact m_no hM (n := 2) (by omega) (by omega) h1
        · exact absurd hp q
  · refine ⟨.inl 0, st, hI, ?_, fun M2 hM => ?_⟩
    · show wp (f7_way a b M) _
      rw [f7_way]
      refine wp_call e ?_
      rw [c_bT_no (Or.inl ⟨rfl, rfl⟩)]
      exact wp_some ⟨rfl, hR, fun _ _ _ => rfl⟩
    · show wp (f8_way a b M2) _
      rw [f8_way]
      obtain ⟨r1, e1, hr1⟩ := w8_isPart row20 hM.1 hT0 a
      refine wp_call e1 ?_
      with_reducible refine wp_bd ?_
      rcases hr1 with ⟨rfl, q⟩ | ⟨rfl, q⟩
      · exact absurd q hno
      · refine wp_ifp rfl ?_
        exact m_no hM (n := 1) (by omega) (by omega) h0
