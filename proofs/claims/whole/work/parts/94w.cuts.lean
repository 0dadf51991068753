/-! CUTS, SIDE BY SIDE -/
theorem w8_fewest {M : sx_M} {A : SH} (h : DS M 20 A) (hI : IS A) {q : Nat} (hq : q < 24) (hP : A.P q = false) : wp (f8_cuts_L44 (nI q) (fun (M12 : sx_M) => f8_cuts_L65 (nI q) 5000 (0 : Int32) M12) 5000 (0 : Int32) M) (fun r => ∃ w, r.1 = nI w ∧ A.g.maxf A.P (q + 4) w ∧ Fr pCu M r.2) := by
  have hok := hI.1
  have h40 := hok.1
  have hh : hol A.P (q + 4) = false := by rw [hol_p A.P hq]; exact hP
  refine wp_up (F := fun m x2 M1 => f8_cuts_L44 (nI q) (fun (M12 : sx_M) => f8_cuts_L65 (nI q) 5000 (0 : Int32) M12) m x2 M1) 40 (fun j M1 => Fr pCu M M1 ∧ ∀ i, i < j → M1.1 27 0 i = bI01 false) (fun m j M1 hj hI2 kk => ?_) (fun m M1 hI2 => ?_) 5000 0 M (by omega) (by omega) ⟨Fr.rf, fun i hi => absurd hi (Nat.not_lt_zero _)⟩
  · obtain ⟨f1, h1⟩ := hI2
    show wp (f8_cuts_L44 (nI q) _ (m + 1) (nI j) M1) _
    rw [f8_cuts_L44]
    refine wp_ifn (by rw [show (40 : Int32) = nI 40 from rfl, iI_le (by omega) (by omega)]; omega) ?_
    refine wp_ifp ⟨sx_in_n hj (by omega), Or.inl rfl⟩ ?_
    with_reducible refine wp_bd ?_
    with_reducible refine wp_bd ?_
    rw [nI_cl (by omega)]
    refine kk _ ⟨f1.set ⟨⟨by omega, by omega⟩, rfl⟩, fun i hi => ?_⟩
    by_cases z : i = j
    · rw [z, rd_e]; rfl
    · rw [rd_n _ _ _ _ _ _ _ _ z]; exact h1 i (by omega)
  · obtain ⟨f1, h1⟩ := hI2
    show wp (f8_cuts_L44 (nI q) _ (m + 1) (nI 40) M1) _
    rw [f8_cuts_L44]
    refine wp_ifp (by decide) ?_
    have go : ∀ (k m w : Nat) (U : Nat → Bool) (Mc : sx_M), 40 - w = k → w ≤ 40 → k < m → (∀ i, i < A.g.n → Mc.1 27 0 i = bI01 (U i)) → A.g.flow A.P U (q + 4) w → Fr pCu M Mc → wp (f8_cuts_L65 (nI q) m (nI w) Mc) (fun r => ∃ w, r.1 = nI w ∧ A.g.maxf A.P (q + 4) w ∧ Fr pCu M r.2) := by
      intro k
      induction k with
      | zero =>
        intro m w U Mc hk hw hm hU hf f
        obtain ⟨m, rfl⟩ : ∃ m', m = m' + 1 := ⟨m - 1, by omega⟩
        rw [f8_cuts_L65]
        have d1 : DS Mc 20 A := h.fr f (fun z => by have := z.1; omega)
        obtain ⟨⟨v3, M4⟩, e3, f4, jd⟩ := w8_widen d1 hI hU hq hf
        dsimp only at f4 jd
        refine wp_b2 e3 ?_
        rcases jd with ⟨rfl, V, v1, v2⟩ | ⟨rfl, hm⟩
        · have := GT.flow_n hok v2 (by omega) hh
          omega
        · refine wp_ifp rfl ?_
          exact wp_some ⟨w, rfl, hm, f.trans f4⟩
      | succ k ih =>
        intro m w U Mc hk hw hm hU hf f
        obtain ⟨m, rfl⟩ : ∃ m', m = m' + 1 := ⟨m - 1, by omega⟩
        rw [f8_cuts_L65]
        have d1 : DS Mc 20 A := h.fr f (fun z => by have := z.1; omega)
        obtain ⟨⟨v3, M4⟩, e3, f4, jd⟩ := w8_widen d1 hI hU hq hf
        dsimp only at f4 jd
        refine wp_b2 e3 ?_
        rcases jd with ⟨rfl, V, v1, v2⟩ | ⟨rfl, hm⟩
        · refine wp_ifn (by decide) ?_
          with_reducible refine wp_bd ?_
          rw [iI_succ]
          exact ih m (w + 1) V M4 (by omega) (by omega) (by omega) v1 v2 (f.trans f4)
        · refine wp_ifp rfl ?_
          exact wp_some ⟨w, rfl, hm, f.trans f4⟩
    exact go 40 5000 0 (fun _ => false) M1 rfl (by omega) (by omega) (fun i hi => h1 i (by omega)) (GT.flow_0 fun _ _ => rfl) f1
theorem pair_cuts (a : Int32) {ex : Nat → Int32} (h0 : ex 0 = nI 1) : PAIR (fun M => f7_cuts a M) (fun M => f8_cuts a M) ex := by
  intro st M hI hR
  have hT0 : ∀ p, p < 24 → st.A.T p = true → p < st.A.m := fun p _ => hI.1.2.2.2.1 p
  obtain ⟨r, e, hr⟩ := w3_partFault hR.1 a
  rcases hr with ⟨rfl, hp⟩ | ⟨rfl, hno⟩
  · obtain ⟨q, hq, rfl, hTq⟩ := id hp
    have ei := w3_isPinned hR.1 hq
    -- the reference up to the pins
    have ref : ∀ (v : Int32) (M2 : sx_M), RM M2 st → (st.A.P q = true → v = -9) → (st.A.P q = false → ∃ w, v = nI w ∧ st.A.g.maxf st.A.P (q + 4) w) → wp (f8_cuts (nI q) M2) (fun q => GOOD M2 st v q) := fun v M2 hM hv1 hv2 => by
      rw [f8_cuts]
      obtain ⟨r1, e1, hr1⟩ := w8_isPart row20 hM.1 hT0 (nI q)
      refine wp_call e1 ?_
      with_reducible refine wp_bd ?_
      rcases hr1 with ⟨rfl, -⟩ | ⟨rfl, z⟩
      · refine wp_ifn (by decide) ?_
        refine m_yes ?_
        have r4 := hM.ref 0
        have lk : ∀ (M' : sx_M) (w : Int32), (∀ k s, (k ≤ 20 ∨ 22 ≤ k ∧ k ≤ 24) → M'.1 k s = (sx_set M2 17 0 0 0).1 k s) → w = v → GOOD M2 st v (w, M') := fun M' w f e => good_look hM f e
        generalize sx_set M2 17 0 0 0 = M4 at r4 lk ⊢
        refine wp_call (w8_pa2 _ _) ?_
        refine wp_ifp (in3 row20 (by omega)) ?_
        have e5 : M4.1 20 0 (nI (7 + 4 * q + 2)).toNatClampNeg = bI01 (st.A.P q) := by rw [nI_cl (by omega)]; exact (r4.1.2.2.2.2.2.2.2.1 q (hT0 q hq hTq)).2.2
        with_reducible refine wp_bd ?_
        rw [e5]
        with_reducible refine wp_if (fun c => ?_) (fun c => ?_) <;> rw [bI01_1] at c
        · exact wp_some (lk _ _ (fun _ _ _ => rfl) (hv1 c).symm)
        · rw [Bool.not_eq_true] at c
          obtain ⟨⟨x, M6⟩, e6, w, q1, q2, q3⟩ := w8_fewest r4.1 hI.1 hq c
          dsimp only at q1 q2 q3
          subst q1
          obtain ⟨w', rfl, hm'⟩ := hv2 c
          refine ⟨_, e6, lk _ _ (fun k s hk => q3.1 k s (fun z => by have := z.1; omega)) ?_⟩
          rw [GT.maxf_uniq q2 hm']
      · exact absurd hp z
    cases hPq : st.A.P q with
    | true =>
      refine ⟨.inr (-9), st, hI, ?_, fun M2 hM => wp_mono (ref (-9) M2 hM (fun _ => rfl) (fun z => by rw [hPq] at z; cases z)) (fun q hq => hq.to)⟩
      show wp (f7_cuts (nI q) M) _
      rw [f7_cuts]
      refine wp_call e ?_
      rw [c_bT_yes]
      refine wp_call ei ?_
      rw [hPq]
      with_reducible refine wp_bd ?_
      refine wp_ifn (by decide) ?_
      exact wp_some ⟨rfl, hR, fun _ _ _ => rfl⟩
    | false =>
      obtain ⟨x, ex', hx⟩ := w3_holders hR.1
      obtain ⟨⟨v, M4⟩, e4, w, q1, q2, q3⟩ := w0_fewest (P := st.A.P) hR.1.1 hx hq hPq
      dsimp only at q1 q2 q3
      subst q1
      refine ⟨.inr (nI w), st, hI, ?_, fun M2 hM => wp_mono (ref (nI w) M2 hM (fun z => by rw [hPq] at z; cases z) (fun _ => ⟨w, rfl, q2⟩)) (fun q hq => hq.to)⟩
      show wp (f7_cuts (nI q) M) _
      rw [f7_cuts]
      refine wp_call e ?_
      rw [c_bT_yes]
      refine wp_call ei ?_
      rw [hPq]
      with_reducible refine wp_bd ?_
      refine wp_ifp rfl ?_
      refine wp_call ex' ?_
      refine wp_b2 e4 ?_
      exact wp_some ⟨rfl, hR.cong (fun k s hk _ => q3 k s (by omega)), fun k s hk => q3 k s (by omega)⟩
  · refine ⟨.inl 0, st, hI, ?_, fun M2 hM => ?_⟩
    · show wp (f7_cuts a M) _
      rw [f7_cuts]
      refine wp_call e ?_
      rw [c_bT_no (Or.inl ⟨rfl, rfl⟩)]
      exact wp_some ⟨rfl, hR, fun _ _ _ => rfl⟩
    · show wp (f8_cuts a M2) _
      rw [f8_cuts]
      obtain ⟨r1, e1, hr1⟩ := w8_isPart row20 hM.1 hT0 a
      refine wp_call e1 ?_
      with_reducible refine wp_bd ?_
      rcases hr1 with ⟨rfl, z⟩ | ⟨rfl, -⟩
      · exact absurd z hno
      · refine wp_ifp rfl ?_
        exact m_no hM (n := 1) (by omega) (by omega) h0
