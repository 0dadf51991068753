/-! THE ACTIONS, SIDE BY SIDE: strings, pins, sweeps -/
theorem hits1 {M M' : sx_M} {k : Nat} (hf : Fr (pRw k) M M') {k' : Nat} (h : k' ≠ k) (s : Nat) : M'.1 k' s = M.1 k' s := hf.1 k' s (fun q => h q.1)
theorem pair_tie (a p z : Int32) (hz : z = 0 ∨ z = 1) {ex : Nat → Int32} (h0 : ex 0 = nI 1) (h1 : ex 1 = nI 2) (h2 : ex 2 = nI 3) : PAIR (fun M => f7_tie a p z M) (fun M => f8_tie a p z M) ex := by
  intro st M hI hR
  have hT0 : ∀ p, p < 24 → st.A.T p = true → p < st.A.m := fun p _ => hI.1.2.2.2.1 p
  obtain ⟨r, e, hr⟩ := w3_fault2 hR.1 a p
  rcases hr with ⟨rfl, hno⟩ | ⟨ha, hp, ⟨rfl, hap⟩ | ⟨hap, ⟨rfl, hfull⟩ | ⟨rfl, hn, hno⟩⟩⟩
  · refine ⟨.inl 0, st, hI, c_wrap (wp_eq (c_act_no e (Or.inl ⟨rfl, rfl⟩)) ⟨rfl, hR, fun _ _ _ => rfl⟩), fun M2 hM => ?_⟩
    show wp (f8_tie a p z M2) _
    rw [f8_tie]
    obtain ⟨r1, e1, hr1⟩ := w8_isThing row20 hM.1 hT0 a
    refine wp_call e1 ?_
    with_reducible refine wp_bd ?_
    with_reducible refine wp_bd ?_
    rcases hr1 with ⟨rfl, q⟩ | ⟨rfl, q⟩
    · refine wp_ifn (by decide) ?_
      obtain ⟨r2, e2, hr2⟩ := w8_isPart row20 hM.1 hT0 p
      refine wp_call e2 ?_
      rcases hr2 with ⟨rfl, q2⟩ | ⟨rfl, q2⟩
      · exact absurd ⟨q, q2⟩ hno
      · refine wp_ifp rfl ?_
        with_reducible refine wp_bd ?_
        refine wp_ifp rfl ?_
        exact m_no hM (n := 1) (by omega) (by omega) h0
    · refine wp_ifp rfl ?_
      with_reducible refine wp_bd ?_
      refine wp_ifp rfl ?_
      exact m_no hM (n := 1) (by omega) (by omega) h0
  · refine ⟨.inl 1, st, hI, c_wrap (wp_eq (c_act_no e (Or.inr (Or.inl ⟨rfl, rfl⟩))) ⟨rfl, hR, fun _ _ _ => rfl⟩), fun M2 hM => ?_⟩
    show wp (f8_tie a p z M2) _
    rw [f8_tie]
    obtain ⟨r1, e1, hr1⟩ := w8_isThing row20 hM.1 hT0 a
    refine wp_call e1 ?_
    with_reducible refine wp_bd ?_
    with_reducible refine wp_bd ?_
    rcases hr1 with ⟨rfl, q⟩ | ⟨rfl, q⟩
    · refine wp_ifn (by decide) ?_
      obtain ⟨r2, e2, hr2⟩ := w8_isPart row20 hM.1 hT0 p
      refine wp_call e2 ?_
      rcases hr2 with ⟨rfl, q2⟩ | ⟨rfl, q2⟩
      · refine wp_ifn (by decide) ?_
        with_reducible refine wp_bd ?_
        refine wp_ifn (by decide) ?_
        refine wp_ifp hap ?_
        exact m_no hM (n := 2) (by omega) (by omega) h1
      · exact absurd hp q2
    · exact absurd ha q
  · refine ⟨.inl 2, st, hI, c_wrap (wp_eq (c_act_no e (Or.inr (Or.inr ⟨rfl, rfl⟩))) ⟨rfl, hR, fun _ _ _ => rfl⟩), fun M2 hM => ?_⟩
    show wp (f8_tie a p z M2) _
    rw [f8_tie]
    obtain ⟨r1, e1, hr1⟩ := w8_isThing row20 hM.1 hT0 a
    refine wp_call e1 ?_
    with_reducible refine wp_bd ?_
    with_reducible refine wp_bd ?_
    rcases hr1 with ⟨rfl, q⟩ | ⟨rfl, q⟩
    · refine wp_ifn (by decide) ?_
      obtain ⟨r2, e2, hr2⟩ := w8_isPart row20 hM.1 hT0 p
      refine wp_call e2 ?_
      rcases hr2 with ⟨rfl, q2⟩ | ⟨rfl, q2⟩
      · refine wp_ifn (by decide) ?_
        with_reducible refine wp_bd ?_
        refine wp_ifn (by decide) ?_
        refine wp_ifn hap ?_
        have e3 : wp (f8_canTie 20 a p M2) (fun r => r = 0) := by
          rw [f8_canTie]
          obtain ⟨r3, e3, hr3⟩ := w8_find row20 hM.1.1 a p
          refine wp_call e3 ?_
          with_reducible refine wp_bd ?_
          with_reducible refine wp_bd ?_
          rcases hr3 with ⟨rfl, hno⟩ | ⟨i, rfl, hi, -⟩
          · refine wp_ifp rfl ?_
            refine wp_ifp (in3 row20 (a := 2) (by omega)) ?_
            have e4 : M2.1 20 0 ((2 : Int32)).toNatClampNeg = nI st.A.g.n := hM.1.1.2.1
            with_reducible refine wp_bd ?_
            rw [e4]
            have h40 : st.A.g.n = 40 := hfull.resolve_right (fun ⟨i, hi⟩ => hno i hi)
            rw [h40]
            refine wp_ifp (by decide) ?_
            exact wp_ifp (Or.inl rfl) (wp_some rfl)
          · refine wp_ifn (nI_ne_m9 (by have := hi.1; have := hI.1.1.1; omega)) ?_
            exact wp_ifp (Or.inl rfl) (wp_some rfl)
        obtain ⟨r3, e3, rfl⟩ := e3
        refine wp_call e3 ?_
        refine wp_ifp rfl ?_
        exact m_no hM (n := 3) (by omega) (by omega) h2
      · exact absurd hp q2
    · exact absurd ha q
  · obtain ⟨t, ht, rfl, htt⟩ := id ha
    obtain ⟨p', hp', rfl, hTp⟩ := id hp
    obtain ⟨zb, rfl⟩ : ∃ b : Bool, z = bI01 b := by
      rcases hz with rfl | rfl
      · exact ⟨false, rfl⟩
      · exact ⟨true, rfl⟩
    have hm : t < 4 ∨ (t - 4 < st.A.m ∧ st.A.T (t - 4) = true) := htt.imp id (fun q => ⟨hI.1.2.2.2.1 _ q, q⟩)
    have hpm := hI.1.2.2.2.1 _ hTp
    have hIS : IS (st.A.tie t p' zb) := hI.1.tie hn ht htt hTp (fun i hi q => hno i ⟨hi, by rw [q.1], by rw [q.2]⟩) zb
    refine ⟨.inr (nI (st.A.g.n + 1)), _, hI.act hIS, c_wrap (c_act_yes hR e (fun M4 c4 => w3_do2 c4 hn ht hp' zb)), fun M2 hM => ?_⟩
    show wp (f8_tie (tI t) (nI p') (bI01 zb) M2) _
    rw [f8_tie]
    obtain ⟨r1, e1, hr1⟩ := w8_isThing row20 hM.1 hT0 (tI t)
    refine wp_call e1 ?_
    with_reducible refine wp_bd ?_
    with_reducible refine wp_bd ?_
    rcases hr1 with ⟨rfl, q⟩ | ⟨rfl, q⟩
    · refine wp_ifn (by decide) ?_
      obtain ⟨r2, e2, hr2⟩ := w8_isPart row20 hM.1 hT0 (nI p')
      refine wp_call e2 ?_
      rcases hr2 with ⟨rfl, q2⟩ | ⟨rfl, q2⟩
      · refine wp_ifn (by decide) ?_
        with_reducible refine wp_bd ?_
        refine wp_ifn (by decide) ?_
        refine wp_ifn hap ?_
        have e3 : wp (f8_canTie 20 (tI t) (nI p') M2) (fun r => r = 1) := by
          rw [f8_canTie]
          obtain ⟨r3, e3, hr3⟩ := w8_find row20 hM.1.1 (tI t) (nI p')
          refine wp_call e3 ?_
          with_reducible refine wp_bd ?_
          with_reducible refine wp_bd ?_
          rcases hr3 with ⟨rfl, -⟩ | ⟨i, rfl, hi, -⟩
          · refine wp_ifp rfl ?_
            refine wp_ifp (in3 row20 (a := 2) (by omega)) ?_
            have e4 : M2.1 20 0 ((2 : Int32)).toNatClampNeg = nI st.A.g.n := hM.1.1.2.1
            with_reducible refine wp_bd ?_
            rw [e4]
            refine wp_ifn (by rw [show (40 : Int32) = nI 40 from rfl, iI_le (by omega) (by omega)]; omega) ?_
            exact wp_ifp (Or.inr rfl) (wp_some rfl)
          · exact absurd hi (hno i)
        obtain ⟨r3, e3, rfl⟩ := e3
        refine wp_call e3 ?_
        refine wp_ifn (by decide) ?_
        refine m_yes ?_
        refine wp_mono (m_act hM hI (A' := st.A.tie t p' zb) (ans := nI (st.A.g.n + 1)) (fun M6 d6 => ?_)) (fun q hq => hq.to)
        with_reducible refine wp_bd ?_
        have fin : wp ((f8_tieIn 20 (tI t) (nI p') (bI01 zb) M6).bind fun M9 =>
          if sx_in (2 : Int32) 247 then
          sx_bd (M9.1 20 0 ((2 : Int32)).toNatClampNeg) fun v10 =>
          some (v10, M9)
          else none) (fun q => q.1 = nI (st.A.g.n + 1) ∧ DS q.2 20 (st.A.tie t p' zb) ∧ ∀ k s, k ≠ 20 → k ≠ 21 → k ≠ 25 → q.2.1 k s = M6.1 k s) := by
          obtain ⟨M9, e9, d9, f9⟩ := w8_tieIn row20 d6 hI.1.ws hn ht hm hpm hTp zb
          refine wp_call e9 ?_
          refine wp_ifp (in3 row20 (a := 2) (by omega)) ?_
          have eg : (st.A.tie t p' zb).g = st.A.g.put t p' zb := shadeIf_g _ _ _
          have e10 : M9.1 20 0 ((2 : Int32)).toNatClampNeg = nI (st.A.g.n + 1) := by
            have := d9.1.2.1
            rw [eg] at this
            exact this
          with_reducible refine wp_bd ?_
          exact wp_some ⟨e10, d9, fun k s k1 _ _ => hits1 f9 k1 s⟩
        cases zb with
        | false =>
          refine wp_ifp rfl ?_
          exact fin
        | true =>
          refine wp_ifn (by decide) ?_
          exact fin
      · exact absurd hp q2
    · exact absurd ha q
theorem cut_H {A : SH} (hI : IS A) {i : Nat} (hi : i < A.g.n) : nI (fb_ct (fun p => A.H p && !(A.cut i).H p) 24) = nI (fb_ct A.H 24) - nI (fb_ct (A.cut i).H 24) := by
  have := ct_minus (X := A.H) (Y := (A.cut i).H) (n := 24) (fun p hp q => cut_sub hI hi hp q)
  rw [nI_sub (by omega)]; congr 1; omega
theorem snd0_H {A : SH} (hI : IS A) (i : Nat) : nI (fb_ct (fun p => A.H p ^^ (A.snd i false).H p) 24) = nI (fb_ct A.H 24) - nI (fb_ct (A.snd i false).H 24) := by
  have := ct_minus (X := A.H) (Y := (A.snd i false).H) (n := 24) (fun p hp q => snd_sub0 hI i hp q)
  rw [fb_ct_cong (q := fun p => A.H p && !(A.snd i false).H p) (fun k hk => by
    cases e : (A.snd i false).H k with
    | false => simp
    | true => rw [snd_sub0 hI i hk e]; rfl), nI_sub (by omega)]
  congr 1; omega
theorem snd1_H {A : SH} (hI : IS A) (i : Nat) : nI (fb_ct (fun p => A.H p ^^ (A.snd i true).H p) 24) = nI (fb_ct (A.snd i true).H 24) - nI (fb_ct A.H 24) := by
  have := ct_minus (X := (A.snd i true).H) (Y := A.H) (n := 24) (fun p hp q => snd_sub1 hI i hp q)
  rw [fb_ct_cong (q := fun p => (A.snd i true).H p && !A.H p) (fun k hk => by
    cases e : A.H k with
    | false => simp
    | true => rw [snd_sub1 hI i hk e]; rfl), nI_sub (by omega)]
  congr 1; omega
theorem pair_cut (a p : Int32) {ex : Nat → Int32} (h0 : ex 0 = nI 1) : PAIR (fun M => f7_cut a p M) (fun M => f8_cut a p M) ex := by
  intro st M hI hR
  have h40 := hI.1.1.1
  obtain ⟨r, e, hr⟩ := w3_fault3 hR.1 a p
  rcases hr with ⟨rfl, hno⟩ | ⟨rfl, i, hi, hf⟩
  · refine ⟨.inl 0, st, hI, c_wrap (wp_eq (c_act_no e (Or.inl ⟨rfl, rfl⟩)) ⟨rfl, hR, fun _ _ _ => rfl⟩), fun M2 hM => ?_⟩
    show wp (f8_cut a p M2) _
    rw [f8_cut]
    obtain ⟨r1, e1, hr1⟩ := w8_foundString hM.1 hI.1 a p
    refine wp_call e1 ?_
    with_reducible refine wp_bd ?_
    rcases hr1 with ⟨rfl, -⟩ | ⟨i, rfl, hi⟩
    · refine wp_ifp rfl ?_
      exact m_no hM (n := 1) (by omega) (by omega) h0
    · exact absurd hi (hno i)
  · refine ⟨.inr (nI (fb_ct (fun p => st.A.H p && !(st.A.cut i).H p) 24)), _, hI.act (hI.1.cut hi.1), c_wrap (c_act_yes hR e (fun M4 c4 => w3_do3 c4 hi hf _)), fun M2 hM => ?_⟩
    show wp (f8_cut a p M2) _
    rw [f8_cut]
    obtain ⟨r1, e1, hr1⟩ := w8_foundString hM.1 hI.1 a p
    refine wp_call e1 ?_
    with_reducible refine wp_bd ?_
    rcases hr1 with ⟨rfl, hno⟩ | ⟨j, rfl, hj⟩
    · exact absurd hi (hno i)
    · have eij := at_uniq hI.1 hj hi
      subst eij
      have hin := hj.1
      refine wp_ifn (nI_ne_m9 (by omega)) ?_
      refine m_yes ?_
      refine wp_mono (m_act hM hI (A' := st.A.cut j) (ans := nI (fb_ct (fun p => st.A.H p && !(st.A.cut j).H p) 24)) (fun M6 d6 => ?_)) (fun q hq => hq.to)
      obtain ⟨⟨v7, M8⟩, e7, q1, -, f8⟩ := w8_heldMany row20 d6 hI.1
      dsimp only at q1 f8
      refine wp_b2 e7 ?_
      obtain ⟨M9, e9, d9, f9⟩ := w8_removeString row20 (d6.fr f8 (row3_25 row20)) hin
      refine wp_call e9 ?_
      obtain ⟨⟨v10, M11⟩, e10, q10, -, f11⟩ := w8_heldMany row20 d9 (hI.1.cut hin)
      dsimp only at q10 f11
      refine wp_b2 e10 ?_
      refine wp_some ⟨?_, d9.fr f11 (row3_25 row20), fun k s k1 _ k3 => ?_⟩
      · rw [q1, q10]; exact (cut_H hI.1 hin).symm
      · exact (hits1 f11 k3 s).trans ((hits1 f9 k1 s).trans (hits1 f8 k3 s))
theorem pair_fray (a p : Int32) {ex : Nat → Int32} (h0 : ex 0 = nI 1) (h2 : ex 2 = nI 2) : PAIR (fun M => f7_fray a p M) (fun M => f8_fray a p M) ex := by
  intro st M hI hR
  have h40 := hI.1.1.1
  obtain ⟨r, e, hr⟩ := w3_fault4 hR.1 a p
  rcases hr with ⟨rfl, hno⟩ | ⟨i, hi, hf, er⟩
  · refine ⟨.inl 0, st, hI, c_wrap (wp_eq (c_act_no e (Or.inl ⟨rfl, rfl⟩)) ⟨rfl, hR, fun _ _ _ => rfl⟩), fun M2 hM => ?_⟩
    show wp (f8_fray a p M2) _
    rw [f8_fray]
    obtain ⟨r1, e1, hr1⟩ := w8_foundString hM.1 hI.1 a p
    refine wp_call e1 ?_
    with_reducible refine wp_bd ?_
    rcases hr1 with ⟨rfl, -⟩ | ⟨i, rfl, hi⟩
    · refine wp_ifp rfl ?_
      exact m_no hM (n := 1) (by omega) (by omega) h0
    · exact absurd hi (hno i)
  · have hin := hi.1
    obtain ⟨ea, ep, ha, hp⟩ := at_abs hI.1 hi
    -- the reference up to the refusal
    have mdl : ∀ M2, RM M2 st → ∀ Q : Int32 × sx_M → Prop, (wp (sx_b2 (f8_refused (if st.A.g.Z i then (0 : Int32) else (2 : Int32)) M2) fun v3 M4 =>
    if v3 = 0 then
      (f8_remember M4).bind fun M6 =>
      sx_b2 (f8_heldMany 20 M6) fun v7 M8 =>
      (f8_cordAt (nI i) (2 : Int32) M8).bind fun v9 =>
      if sx_in v9 247 then
      sx_bd (sx_set M8 20 0 (v9).toNatClampNeg (0 : Int32)) fun M10 =>
      sx_b2 (f8_heldMany 20 M10) fun v11 M12 =>
      some (v7 - v11, M12)
      else none
    else
      some ((0 : Int32), M4)) Q) → wp (f8_fray a p M2) Q := fun M2 hM Q hQ => by
      rw [f8_fray]
      obtain ⟨r1, e1, hr1⟩ := w8_foundString hM.1 hI.1 a p
      refine wp_call e1 ?_
      with_reducible refine wp_bd ?_
      rcases hr1 with ⟨rfl, hno⟩ | ⟨j, rfl, hj⟩
      · exact absurd hi (hno i)
      · have eij := at_uniq hI.1 hj hi
        subst eij
        refine wp_ifn (nI_ne_m9 (by omega)) ?_
        refine wp_call (w8_co2 _ _) ?_
        refine wp_ifp (in3 row20 (by omega)) ?_
        have ez : M2.1 20 0 (nI (103 + 3 * j + 2)).toNatClampNeg = bI01 (st.A.g.Z j) := by rw [nI_cl (by omega)]; exact (hM.1.1.2.2 j hin).2.2.2.2
        with_reducible refine wp_bd ?_
        rw [ez]
        revert hQ
        cases st.A.g.Z j with
        | false => exact fun hQ => wp_ifp rfl hQ
        | true => exact fun hQ => wp_ifn (by decide) hQ
    cases hz : st.A.g.Z i with
    | false =>
      rw [hz, if_neg (by decide)] at er
      subst er
      refine ⟨.inl 2, st, hI, c_wrap (wp_eq (c_act_no e (Or.inr (Or.inr ⟨rfl, rfl⟩))) ⟨rfl, hR, fun _ _ _ => rfl⟩), fun M2 hM => mdl M2 hM _ ?_⟩
      rw [hz]
      exact m_no hM (n := 2) (by omega) (by omega) h2
    | true =>
      rw [hz, if_pos rfl] at er
      subst er
      subst ea ep
      refine ⟨.inr (nI (fb_ct (fun p => st.A.H p ^^ (st.A.snd i false).H p) 24)), _, hI.act (hI.1.snd i false), c_wrap (c_act_yes hR e (fun M4 c4 => w3_do4 c4 hp ha hi hf _)), fun M2 hM => mdl M2 hM _ ?_⟩
      rw [hz]
      refine m_yes ?_
      refine wp_mono (m_act hM hI (A' := st.A.snd i false) (ans := nI (fb_ct (fun p => st.A.H p ^^ (st.A.snd i false).H p) 24)) (fun M6 d6 => ?_)) (fun q hq => hq.to)
      obtain ⟨⟨v7, M8⟩, e7, q1, -, f8⟩ := w8_heldMany row20 d6 hI.1
      dsimp only at q1 f8
      refine wp_b2 e7 ?_
      refine wp_call (w8_co2 _ _) ?_
      refine wp_ifp (in3 row20 (by omega)) ?_
      with_reducible refine wp_bd ?_
      rw [nI_cl (by omega)]
      have d10 : DS (sx_set M8 20 0 (103 + 3 * i + 2) (0 : Int32)) 20 (st.A.snd i false) := (d6.fr f8 (row3_25 row20)).snd hin false
      obtain ⟨⟨v11, M12⟩, e11, q11, -, f12⟩ := w8_heldMany row20 d10 (hI.1.snd i false)
      dsimp only at q11 f12
      refine wp_b2 e11 ?_
      refine wp_some ⟨?_, d10.fr f12 (row3_25 row20), fun k s k1 _ k3 => ?_⟩
      · rw [q1, q11]; exact (snd0_H hI.1 i).symm
      · refine (hits1 f12 k3 s).trans (Eq.trans ?_ (hits1 f8 k3 s))
        funext x
        rw [st_at, if_neg (fun q => k1 q.1)]
theorem pair_mend (a p : Int32) {ex : Nat → Int32} (h0 : ex 0 = nI 1) (h2 : ex 2 = nI 2) : PAIR (fun M => f7_mend a p M) (fun M => f8_mend a p M) ex := by
  intro st M hI hR
  have h40 := hI.1.1.1
  obtain ⟨r, e, hr⟩ := w3_fault5 hR.1 a p
  rcases hr with ⟨rfl, hno⟩ | ⟨i, hi, hf, er⟩
  · refine ⟨.inl 0, st, hI, c_wrap (wp_eq (c_act_no e (Or.inl ⟨rfl, rfl⟩)) ⟨rfl, hR, fun _ _ _ => rfl⟩), fun M2 hM => ?_⟩
    show wp (f8_mend a p M2) _
    rw [f8_mend]
    obtain ⟨r1, e1, hr1⟩ := w8_foundString hM.1 hI.1 a p
    refine wp_call e1 ?_
    with_reducible refine wp_bd ?_
    rcases hr1 with ⟨rfl, -⟩ | ⟨i, rfl, hi⟩
    · refine wp_ifp rfl ?_
      exact m_no hM (n := 1) (by omega) (by omega) h0
    · exact absurd hi (hno i)
  · have hin := hi.1
    obtain ⟨ea, ep, ha, hp⟩ := at_abs hI.1 hi
    have mdl : ∀ M2, RM M2 st → ∀ Q : Int32 × sx_M → Prop, (wp (sx_b2 (f8_refused (if st.A.g.Z i then (2 : Int32) else (0 : Int32)) M2) fun v3 M4 =>
    if v3 = 0 then
      (f8_remember M4).bind fun M6 =>
      sx_b2 (f8_heldMany 20 M6) fun v7 M8 =>
      (f8_mendIn 20 (nI i) M8).bind fun M9 =>
      sx_b2 (f8_heldMany 20 M9) fun v10 M11 =>
      some (v10 - v7, M11)
    else
      some ((0 : Int32), M4)) Q) → wp (f8_mend a p M2) Q := fun M2 hM Q hQ => by
      rw [f8_mend]
      obtain ⟨r1, e1, hr1⟩ := w8_foundString hM.1 hI.1 a p
      refine wp_call e1 ?_
      with_reducible refine wp_bd ?_
      rcases hr1 with ⟨rfl, hno⟩ | ⟨j, rfl, hj⟩
      · exact absurd hi (hno i)
      · have eij := at_uniq hI.1 hj hi
        subst eij
        refine wp_ifn (nI_ne_m9 (by omega)) ?_
        refine wp_call (w8_co2 _ _) ?_
        refine wp_ifp (in3 row20 (by omega)) ?_
        have ez : M2.1 20 0 (nI (103 + 3 * j + 2)).toNatClampNeg = bI01 (st.A.g.Z j) := by rw [nI_cl (by omega)]; exact (hM.1.1.2.2 j hin).2.2.2.2
        with_reducible refine wp_bd ?_
        rw [ez]
        revert hQ
        cases st.A.g.Z j with
        | false => exact fun hQ => wp_ifn (by decide) hQ
        | true => exact fun hQ => wp_ifp rfl hQ
    cases hz : st.A.g.Z i with
    | true =>
      rw [hz, if_neg (by decide)] at er
      subst er
      refine ⟨.inl 2, st, hI, c_wrap (wp_eq (c_act_no e (Or.inr (Or.inr ⟨rfl, rfl⟩))) ⟨rfl, hR, fun _ _ _ => rfl⟩), fun M2 hM => mdl M2 hM _ ?_⟩
      rw [hz]
      exact m_no hM (n := 2) (by omega) (by omega) h2
    | false =>
      rw [hz, if_pos rfl] at er
      subst er
      subst ea ep
      refine ⟨.inr (nI (fb_ct (fun p => st.A.H p ^^ (st.A.snd i true).H p) 24)), _, hI.act (hI.1.snd i true), c_wrap (c_act_yes hR e (fun M4 c4 => w3_do5 c4 hp ha hi hf _)), fun M2 hM => mdl M2 hM _ ?_⟩
      rw [hz]
      refine m_yes ?_
      refine wp_mono (m_act hM hI (A' := st.A.snd i true) (ans := nI (fb_ct (fun p => st.A.H p ^^ (st.A.snd i true).H p) 24)) (fun M6 d6 => ?_)) (fun q hq => hq.to)
      obtain ⟨⟨v7, M8⟩, e7, q1, -, f8⟩ := w8_heldMany row20 d6 hI.1
      dsimp only at q1 f8
      refine wp_b2 e7 ?_
      have hend := hI.1.2.2.1 i hin
      have hTm := hI.1.2.2.2.1
      obtain ⟨M9, e9, d9, f9⟩ := w8_mendIn row20 (d6.fr f8 (row3_25 row20)) hI.1.ws hin (hend.1.imp id (fun q => ⟨hTm _ q, q⟩)) (hTm _ hend.2) hend.2
      refine wp_call e9 ?_
      obtain ⟨⟨v10, M11⟩, e10, q10, -, f11⟩ := w8_heldMany row20 d9 (hI.1.snd i true)
      dsimp only at q10 f11
      refine wp_b2 e10 ?_
      refine wp_some ⟨?_, d9.fr f11 (row3_25 row20), fun k s k1 _ k3 => ?_⟩
      · rw [q1, q10]; exact (snd1_H hI.1 i).symm
      · exact (hits1 f11 k3 s).trans ((hits1 f9 k1 s).trans (hits1 f8 k3 s))
theorem pair_pin (p z : Int32) (hz : z = 0 ∨ z = 1) {ex : Nat → Int32} (h0 : ex 0 = nI 1) : PAIR (fun M => f7_pin p z M) (fun M => f8_pin p z M) ex := by
  intro st M hI hR
  have hT0 : ∀ p, p < 24 → st.A.T p = true → p < st.A.m := fun p _ => hI.1.2.2.2.1 p
  obtain ⟨r, e, hr⟩ := w3_fault6 hR.1 (-9) p
  rcases hr with ⟨rfl, hp⟩ | ⟨rfl, hno⟩
  · obtain ⟨p', hp', rfl, hTp⟩ := id hp
    obtain ⟨zb, rfl⟩ : ∃ b : Bool, z = bI01 b := by
      rcases hz with rfl | rfl
      · exact ⟨false, rfl⟩
      · exact ⟨true, rfl⟩
    refine ⟨.inr (nI (fb_ct (st.A.pin p' zb).H 24)), _, hI.act (hI.1.pin hTp zb), c_wrap (c_act_yes hR e (fun M4 c4 => w3_do6 c4 hp' _ zb)), fun M2 hM => ?_⟩
    show wp (f8_pin (nI p') (bI01 zb) M2) _
    rw [f8_pin]
    obtain ⟨r1, e1, hr1⟩ := w8_isPart row20 hM.1 hT0 (nI p')
    refine wp_call e1 ?_
    with_reducible refine wp_bd ?_
    rcases hr1 with ⟨rfl, q⟩ | ⟨rfl, q⟩
    · refine wp_ifn (by decide) ?_
      refine m_yes ?_
      refine wp_mono (m_act hM hI (A' := st.A.pin p' zb) (ans := nI (fb_ct (st.A.pin p' zb).H 24)) (fun M6 d6 => ?_)) (fun q hq => hq.to)
      obtain ⟨M7, e7, d7, f7⟩ := w8_pinIn row20 d6 hI.1.ws (hI.1.2.2.2.1 _ hTp) hTp (v := bI01 zb) (is := zb) bI01_0
      refine wp_call e7 ?_
      obtain ⟨⟨v8, M9⟩, e8, q8, -, f9⟩ := w8_heldMany row20 d7 (hI.1.pin hTp zb)
      dsimp only at q8 f9
      refine wp_b2 e8 ?_
      exact wp_some ⟨q8, d7.fr f9 (row3_25 row20), fun k s k1 _ k3 => (hits1 f9 k3 s).trans (hits1 f7 k1 s)⟩
    · exact absurd hp q
  · refine ⟨.inl 0, st, hI, c_wrap (wp_eq (c_act_no e (Or.inl ⟨rfl, rfl⟩)) ⟨rfl, hR, fun _ _ _ => rfl⟩), fun M2 hM => ?_⟩
    show wp (f8_pin p z M2) _
    rw [f8_pin]
    obtain ⟨r1, e1, hr1⟩ := w8_isPart row20 hM.1 hT0 p
    refine wp_call e1 ?_
    with_reducible refine wp_bd ?_
    rcases hr1 with ⟨rfl, q⟩ | ⟨rfl, q⟩
    · exact absurd q hno
    · refine wp_ifp rfl ?_
      exact m_no hM (n := 1) (by omega) (by omega) h0
theorem pair_begin {ex : Nat → Int32} (h2 : ex 2 = nI 1) : PAIR (fun M => f7_begin M) (fun M => f8_begin M) ex := by
  intro st M hI hR
  have e := w3_fault7 hR.1 (-9) (-9)
  have e3 : ∀ M2, RM M2 st → M2.1 20 0 ((3 : Int32)).toNatClampNeg = bI01 st.A.G := fun M2 hM => hM.1.2.2.2.2.1
  cases hG : st.A.G with
  | true =>
    rw [hG] at e
    refine ⟨.inl 2, st, hI, c_wrap (wp_eq (c_act_no e (Or.inr (Or.inr ⟨rfl, rfl⟩))) ⟨rfl, hR, fun _ _ _ => rfl⟩), fun M2 hM => ?_⟩
    show wp (f8_begin M2) _
    rw [f8_begin]
    refine wp_ifp (in3 row20 (a := 3) (by omega)) ?_
    with_reducible refine wp_bd ?_
    rw [e3 M2 hM, hG]
    exact m_no hM (n := 1) (by omega) (by omega) h2
  | false =>
    rw [hG] at e
    refine ⟨.inr (nI st.A.begin.q.length), _, hI.act hI.1.begin, c_wrap (c_act_yes hR e (fun M4 c4 => w3_do7 c4 _ _ _)), fun M2 hM => ?_⟩
    show wp (f8_begin M2) _
    rw [f8_begin]
    refine wp_ifp (in3 row20 (a := 3) (by omega)) ?_
    with_reducible refine wp_bd ?_
    rw [e3 M2 hM, hG]
    refine m_yes ?_
    refine wp_mono (m_act hM hI (A' := st.A.begin) (ans := nI st.A.begin.q.length) (fun M6 d6 => ?_)) (fun q hq => hq.to)
    obtain ⟨⟨v6, M7⟩, e6, q1, q2, q3⟩ := w8_beginIn row20 d6 hI.1.2.2.2.1
    refine wp_b2 e6 ?_
    exact wp_some ⟨q1, q2, fun k s k1 _ _ => hits1 q3 k1 s⟩
theorem pair_step {ex : Nat → Int32} (h2 : ex 2 = nI 1) : PAIR (fun M => f7_step M) (fun M => f8_step M) ex := by
  intro st M hI hR
  have e := w3_fault8 hR.1 (-9) (-9)
  have e3 : ∀ M2, RM M2 st → M2.1 20 0 ((3 : Int32)).toNatClampNeg = bI01 st.A.G := fun M2 hM => hM.1.2.2.2.2.1
  cases hG : st.A.G with
  | false =>
    rw [hG] at e
    refine ⟨.inl 2, st, hI, c_wrap (wp_eq (c_act_no e (Or.inr (Or.inr ⟨rfl, rfl⟩))) ⟨rfl, hR, fun _ _ _ => rfl⟩), fun M2 hM => ?_⟩
    show wp (f8_step M2) _
    rw [f8_step]
    refine wp_ifp (in3 row20 (a := 3) (by omega)) ?_
    with_reducible refine wp_bd ?_
    rw [e3 M2 hM, hG]
    exact m_no hM (n := 1) (by omega) (by omega) h2
  | true =>
    rw [hG] at e
    refine ⟨.inr st.A.told, _, hI.act hI.1.step, c_wrap (c_act_yes hR e (fun M4 c4 => w3_do8 c4 hG _ _ _)), fun M2 hM => ?_⟩
    show wp (f8_step M2) _
    rw [f8_step]
    refine wp_ifp (in3 row20 (a := 3) (by omega)) ?_
    with_reducible refine wp_bd ?_
    rw [e3 M2 hM, hG]
    refine m_yes ?_
    refine wp_mono (m_act hM hI (A' := st.A.step) (ans := st.A.told) (fun M6 d6 => ?_)) (fun q hq => hq.to)
    obtain ⟨⟨v6, M7⟩, e6, q1, q2, q3⟩ := w8_stepIn row20 d6 hG hI.1
    refine wp_b2 e6 ?_
    exact wp_some ⟨q1, q2, fun k s k1 _ _ => hits1 q3 k1 s⟩
