/-! RESTORE AND THE TEXT'S LENGTH, SIDE BY SIDE -/
theorem RC.slot {M : sx_M} {st : ST} (h : RC M st) {i : Nat} (hi : i < 2) : M.1 12 0 i = bI01 (slotOf st.s i).isSome ∧ ∀ B, slotOf st.s i = some B → CS M (2 + i) B := by
  obtain ⟨-, -, h3, h4, -⟩ := h
  unfold slotOf
  by_cases q : i = 0
  · subst q; rw [if_pos rfl]; exact h3
  · have : i = 1 := by omega
    subst this
    rw [if_neg q]; exact h4
theorem RM.slot {M : sx_M} {st : ST} (h : RM M st) {i : Nat} (hi : i < 2) : M.1 24 0 i = bI01 (slotOf st.s i).isSome ∧ ∀ B, slotOf st.s i = some B → DAt (fun j => M.1 23 0 (247 * i + j)) B := by
  obtain ⟨-, -, -, -, h3, h4, -⟩ := h
  unfold slotOf
  by_cases q : i = 0
  · subst q; rw [if_pos rfl]; exact h3
  · have : i = 1 := by omega
    subst this
    rw [if_neg q]; exact h4
theorem INV.slot {st : ST} (h : INV st) {i : Nat} {B : SH} (e : slotOf st.s i = some B) : IS B := by
  unfold slotOf at e
  split at e
  · exact h.2.2.1 B e
  · exact h.2.2.2 B e
theorem pair_restore (a : Int32) {ex : Nat → Int32} (h0 : ex 0 = nI 1) (h2 : ex 2 = nI 2) : PAIR (fun M => f7_restore a M) (fun M => f8_restore a M) ex := by
  intro st M hI hR
  obtain ⟨A, L, S, l⟩ := st
  by_cases ha : a = 0 ∨ a = 1
  · obtain ⟨i, hi, rfl⟩ : ∃ i, i < 2 ∧ a = nI i := by
      rcases ha with rfl | rfl
      · exact ⟨0, by omega, rfl⟩
      · exact ⟨1, by omega, rfl⟩
    have ecl : (nI i).toNatClampNeg = i := nI_cl (by omega)
    have cpre : ∀ Q : (Nat ⊕ Int32) × sx_M → Prop, wp (if bI01 (slotOf S i).isSome = 0 then
        some (.inl 2, M)
      else
        if sx_in (nI i) 2 then
        sx_bd (2 + (nI i).toNatClampNeg) fun v5 =>
        (f3_copyFrom 0 v5 M).bind fun M6 =>
        (f1_forget M6).bind fun M7 =>
        (f3_parts 0 M7).bind fun v8 =>
        (fJ6_bitCount_0f7a4 v8 M7).bind fun v9 =>
        some (.inr v9, M7)
        else none) Q → wp (f7_restore (nI i) M) Q := fun Q hQ => by
      rw [f7_restore]
      with_reducible refine wp_bd ?_
      refine wp_ifn (by rw [show (0 : Int32) = nI 0 from rfl, iI_lt (by omega) (by omega)]; omega) ?_
      refine wp_ifp (by rw [show (2 : Int32) = nI 2 from rfl, iI_lt (by omega) (by omega)]; omega) ?_
      refine wp_ifp (sx_in_n hi (by omega)) ?_
      have e12 : M.1 12 0 (nI i).toNatClampNeg = bI01 (slotOf S i).isSome := by rw [ecl]; exact (hR.slot hi).1
      with_reducible refine wp_bd ?_
      rw [e12]
      exact hQ
    have mpre : ∀ M2, RM M2 (A, L, S, l) → ∀ Q : Int32 × sx_M → Prop, wp (sx_b2 (f8_refused (if (slotOf S i).isSome then (0 : Int32) else (2 : Int32)) M2) fun v3 M4 =>
    if v3 = 0 then
      (f8_copy 23 ((247 : Int32) * nI i) 20 (0 : Int32) (247 : Int32) M4).bind fun M6 =>
      sx_bd (sx_set M6 17 0 10 (0 : Int32)) fun M7 =>
      if sx_in (0 : Int32) 247 then
      sx_bd (M7.1 20 0 ((0 : Int32)).toNatClampNeg) fun v8 =>
      if sx_in (1 : Int32) 247 then
      sx_bd (M7.1 20 0 ((1 : Int32)).toNatClampNeg) fun v9 =>
      some (v8 - v9, M7)
      else none
      else none
    else
      some ((0 : Int32), M4)) Q → wp (f8_restore (nI i) M2) Q := fun M2 hM Q hQ => by
      rw [f8_restore]
      obtain ⟨r1, e1, hr1⟩ := w8_in01 (nI i) M2
      refine wp_call e1 ?_
      with_reducible refine wp_bd ?_
      rcases hr1 with ⟨rfl, -⟩ | ⟨rfl, q⟩
      · refine wp_ifn (by decide) ?_
        refine wp_ifp (sx_in_n hi (by omega)) ?_
        have e24 : M2.1 24 0 (nI i).toNatClampNeg = bI01 (slotOf S i).isSome := by rw [ecl]; exact (hM.slot hi).1
        with_reducible refine wp_bd ?_
        rw [e24]
        revert hQ
        cases (slotOf S i).isSome with
        | false => exact fun hQ => wp_ifp rfl hQ
        | true => exact fun hQ => wp_ifn (by decide) hQ
      · exact absurd ha q
    cases hs : slotOf S i with
    | none =>
      rw [hs] at cpre mpre
      refine ⟨.inl 2, _, hI, cpre _ (wp_ifp rfl (wp_some ⟨rfl, hR, fun _ _ _ => rfl⟩)), fun M2 hM => mpre M2 hM _ ?_⟩
      exact m_no hM (n := 2) (by omega) (by omega) h2
    | some B =>
      rw [hs] at cpre mpre
      have hIB : IS B := hI.slot (st := (A, L, S, l)) hs
      refine ⟨.inr (nI (fb_ct B.T 24)), (B, [], S, l), ⟨hIB, fun C hC => absurd hC List.not_mem_nil, hI.2.2⟩, cpre _ ?_, fun M2 hM => mpre M2 hM _ ?_⟩
      · refine wp_ifn (show ¬ bI01 true = 0 by decide) ?_
        refine wp_ifp (sx_in_n hi (by omega)) ?_
        with_reducible refine wp_bd ?_
        rw [ecl]
        obtain ⟨h1, h2, ⟨h3, h4⟩, ⟨h5, h6⟩, h7⟩ := id hR
        obtain ⟨M6, e6, c6, f6⟩ := w3_copyFrom (s := 0) (s1 := 2 + i) (by omega) ((hR.slot hi).2 B hs)
        refine wp_call e6 ?_
        have o6 : ∀ k s, (k = 0 ∨ 9 ≤ k ∨ s ≠ 0) → M6.1 k s = M.1 k s := fun k s hk => f6.1 k s (fun q => by have := q.1; have := q.2; omega)
        obtain ⟨M7, e7, p7, f7⟩ := w1_forget (h2.cong (M' := M6) (fun k s hk hs => o6 k s (by omega)))
        refine wp_call e7 ?_
        have o7 : ∀ k s, ¬ pPa k s → M7.1 k s = M6.1 k s := f7.1
        have np : ∀ k s, 1 ≤ k → k ≤ 8 → s < 4 → ¬ pPa k s := fun k s k1 k2 hs q => by
          rcases q with q | q
          · omega
          · have := q.2; omega
        have n12 : ∀ k, 10 ≤ k → ¬ pPa k 0 := fun k hk q => by
          rcases q with q | q
          · omega
          · have := q.1; omega
        have c7 : CS M7 0 B := c6.cong (fun k k1 k2 => o7 k 0 (np k 0 k1 k2 (by omega)))
        rw [f3_parts]
        refine wp_call (a := M7.1 1 0 4) rfl ?_
        refine wp_call (wJ_count c7.2.2.2.2.1 _) ?_
        refine wp_some ⟨rfl, ⟨c7, p7, ⟨?_, fun C hC => (h4 C hC).cong (fun k k1 k2 => (o7 k 2 (np k 2 k1 k2 (by omega))).trans (o6 k 2 (by omega)))⟩, ⟨?_, fun C hC => (h6 C hC).cong (fun k k1 k2 => (o7 k 3 (np k 3 k1 k2 (by omega))).trans (o6 k 3 (by omega)))⟩, h7.cong ((o7 13 0 (n12 13 (by omega))).trans (o6 13 0 (by omega))) ((o7 14 0 (n12 14 (by omega))).trans (o6 14 0 (by omega)))⟩, fun k s hk => (o7 k s (fun q => by
          rcases q with q | q
          · omega
          · have := q.1; omega)).trans (o6 k s (by omega))⟩
        · show M7.1 12 0 0 = _
          rw [o7 12 0 (n12 12 (by omega)), o6 12 0 (by omega)]; exact h3
        · show M7.1 12 0 1 = _
          rw [o7 12 0 (n12 12 (by omega)), o6 12 0 (by omega)]; exact h5
      · refine m_yes ?_
        have r4 := hM.ref 0
        have z4 : (sx_set M2 17 0 0 0).1 17 0 0 = 0 := rd_e _ _ _ _ _
        have f4 : ∀ k s, k ≤ 16 → (sx_set M2 17 0 0 0).1 k s = M2.1 k s := fun k s hk => by funext i; rw [st_at, if_neg (by omega)]
        generalize sx_set M2 17 0 0 0 = M4 at r4 z4 f4
        rw [show (247 : Int32) = nI 247 from rfl, nI_mul]
        obtain ⟨M6, e6, c1, c2, f6⟩ := w8_copy (M := M4) (ka := 23) (kb := 20) (a := 247 * i) (b := 0) (n := 247) (by omega) (by show _ ≤ 494; omega) (by show 0 + 247 ≤ 247; omega) (Or.inl (by omega))
        refine wp_call e6 ?_
        with_reducible refine wp_bd ?_
        have o6 : ∀ k s, k ≠ 20 → M6.1 k s = M4.1 k s := fun k s hk => f6.1 k s (fun q => hk q.1)
        have o7 : ∀ k s j, ¬ (k = 17 ∧ s = 0 ∧ j = 10) → (sx_set M6 17 0 10 (0 : Int32)).1 k s j = M6.1 k s j := fun k s j hk => by rw [st_at, if_neg hk]
        have o7k : ∀ k s, k ≠ 17 → (sx_set M6 17 0 10 (0 : Int32)).1 k s = M6.1 k s := fun k s hk => by funext j; exact o7 k s j (fun q => hk q.1)
        have o7i : (sx_set M6 17 0 10 (0 : Int32)).1 17 0 10 = 0 := rd_e _ _ _ _ _
        generalize sx_set M6 17 0 10 (0 : Int32) = M7 at o7 o7k o7i
        have hsl := (r4.slot hi).2 B hs
        obtain ⟨k1, k2, k3, k4, k5, k6, k7, k8, k9, k10⟩ := r4
        have d7 : DS M7 20 B := by
          rw [DAt_iff]
          refine DAt.cong hsl hIB (fun j hj => ?_)
          have := c1 j hj
          rw [Nat.zero_add] at this
          rw [o7k 20 0 (by omega)]
          exact this
        have ans : M7.1 20 0 ((0 : Int32)).toNatClampNeg - M7.1 20 0 ((1 : Int32)).toNatClampNeg = nI (fb_ct B.T 24) := by
          have e0 : M7.1 20 0 ((0 : Int32)).toNatClampNeg = nI B.m := d7.2.2.1
          have e1 : M7.1 20 0 ((1 : Int32)).toNatClampNeg = nI B.m - nI (fb_ct B.T 24) := d7.2.2.2.1
          rw [e0, e1, nI_ssub]
        have key : GOOD M2 (B, [], S, l) (nI (fb_ct B.T 24)) (M7.1 20 0 ((0 : Int32)).toNatClampNeg - M7.1 20 0 ((1 : Int32)).toNatClampNeg, M7) := by
          refine ⟨⟨d7, o7i, Nat.zero_le _, fun j hj => absurd hj (Nat.not_lt_zero _), ⟨?_, fun C hC => ?_⟩, ⟨?_, fun C hC => ?_⟩, k7, k8, ?_, fun j hj => ?_⟩, fun k s hk => ?_, ?_, ans⟩
          · show M7.1 24 0 0 = _
            rw [o7k 24 0 (by omega), o6 24 0 (by omega)]; exact k5.1
          · show DAt (fun j => M7.1 23 0 (0 + j)) C
            rw [o7k 23 0 (by omega), o6 23 0 (by omega)]; exact k5.2 C hC
          · show M7.1 24 0 1 = _
            rw [o7k 24 0 (by omega), o6 24 0 (by omega)]; exact k6.1
          · show DAt (fun j => M7.1 23 0 (247 + j)) C
            rw [o7k 23 0 (by omega), o6 23 0 (by omega)]; exact k6.2 C hC
          · show M7.1 17 0 2 = _
            rw [o7 17 0 2 (by omega), o6 17 0 (by omega)]; exact k9
          · show M7.1 18 0 j = _
            rw [o7k 18 0 (by omega), o6 18 0 (by omega)]; exact k10 j hj
          · show M7.1 k s = M2.1 k s
            rw [o7k k s (by omega), o6 k s (by omega), f4 k s hk]
          · show M7.1 17 0 0 = 0
            rw [o7 17 0 0 (by omega), o6 17 0 (by omega), z4]
        refine wp_ifp (in3 row20 (a := 0) (by omega)) ?_
        with_reducible refine wp_bd ?_
        refine wp_ifp (in3 row20 (a := 1) (by omega)) ?_
        with_reducible refine wp_bd ?_
        exact wp_some key.to
  · refine ⟨.inl 0, _, hI, ?_, fun M2 hM => ?_⟩
    · show wp (f7_restore a M) _
      rw [f7_restore]
      with_reducible refine wp_bd ?_
      have fin : wp (some ((.inl 0 : Nat ⊕ Int32), M)) (fun r => r.1 = .inl 0 ∧ RC r.2 (A, L, S, l) ∧ ∀ k s, 17 ≤ k → r.2.1 k s = M.1 k s) := wp_some ⟨rfl, hR, fun _ _ _ => rfl⟩
      with_reducible refine wp_if (fun c => ?_) (fun c => ?_)
      · exact fin
      · with_reducible refine wp_if (fun c2 => ?_) (fun c2 => ?_)
        · exfalso
          apply ha
          rw [fa_lt] at c c2
          rw [fa_eq, fa_eq]
          have z0 : (0 : Int32).toInt = 0 := by decide
          have z1 : (1 : Int32).toInt = 1 := by decide
          have z2 : (2 : Int32).toInt = 2 := by decide
          rw [z0] at c ⊢; rw [z2] at c2; rw [z1]; omega
        · exact fin
    · show wp (f8_restore a M2) _
      rw [f8_restore]
      obtain ⟨r1, e1, hr1⟩ := w8_in01 a M2
      refine wp_call e1 ?_
      with_reducible refine wp_bd ?_
      rcases hr1 with ⟨rfl, q⟩ | ⟨rfl, -⟩
      · exact absurd q ha
      · refine wp_ifp rfl ?_
        exact m_no hM (n := 1) (by omega) (by omega) h0
/-- a call that never throws -/
def PAIR0 (c : sx_M → Option (Int32 × sx_M)) (m : sx_M → Option (Int32 × sx_M)) : Prop :=
  ∀ (st : ST) (M : sx_M), INV st → RC M st → ∃ (v : Int32) (st' : ST), INV st' ∧ wp (c M) (fun r => r.1 = v ∧ RC r.2 st' ∧ ∀ k s, 17 ≤ k → r.2.1 k s = M.1 k s) ∧ ∀ M2, RM M2 st → wp (m M2) (fun q => GOOD M2 st' v q)
theorem RC.text {M M' : sx_M} {st : ST} {l' : List Nat} (h : RC M st) (c : TS M' l') (hf : Fr pTx M M') : RC M' (st.1, st.2.1, st.2.2.1, l') := by
  obtain ⟨h1, h2, ⟨h3, h4⟩, ⟨h5, h6⟩, h7⟩ := h
  have o : ∀ k s, k ≤ 12 → M'.1 k s = M.1 k s := fun k s hk => hf.1 k s (fun q => by have := q.1; omega)
  refine ⟨h1.cong (fun k _ _ => o k 0 (by omega)), h2.cong (fun k s hk _ => o k s (by omega)), ⟨?_, fun B hB => (h4 B hB).cong (fun k _ _ => o k 2 (by omega))⟩, ⟨?_, fun B hB => (h6 B hB).cong (fun k _ _ => o k 3 (by omega))⟩, c⟩
  · show M'.1 12 0 0 = _
    rw [o 12 0 (by omega)]; exact h3
  · show M'.1 12 0 1 = _
    rw [o 12 0 (by omega)]; exact h5
theorem pair_clearText : PAIR0 (fun M => f7_clearText M) (fun M => f8_clearText M) := by
  intro st M hI hR
  refine ⟨nI st.l.length, (st.1, st.2.1, st.2.2.1, []), hI, ?_, fun M2 hM => ?_⟩
  · show wp (f7_clearText M) _
    rw [f7_clearText]
    obtain ⟨⟨v, M'⟩, e, q1, q2, q3⟩ := w6_empty hR.2.2.2.2
    refine wp_b2 e ?_
    exact wp_some ⟨q1, hR.text q2 q3, fun k s hk => q3.1 k s (fun q => by have := q.1; omega)⟩
  · show wp (f8_clearText M2) _
    rw [f8_clearText]
    obtain ⟨k1, k2, k3, k4, k5, k6, k7, k8, k9, k10⟩ := id hM
    with_reducible refine wp_bd ?_
    with_reducible refine wp_bd ?_
    with_reducible refine wp_bd ?_
    have o : ∀ k s i, ¬ (k = 17 ∧ s = 0 ∧ (i = 0 ∨ i = 2)) → (sx_set (sx_set M2 17 0 0 (0 : Int32)) 17 0 2 (0 : Int32)).1 k s i = M2.1 k s i := fun k s i hk => by
      rw [st_at, if_neg (by omega), st_at, if_neg (by omega)]
    have ok : ∀ k s, k ≠ 17 → (sx_set (sx_set M2 17 0 0 (0 : Int32)) 17 0 2 (0 : Int32)).1 k s = M2.1 k s := fun k s hk => by funext i; exact o k s i (fun q => hk q.1)
    refine wp_some ⟨⟨?_, ?_, k3, fun i hi => ?_, ?_, ?_, Nat.zero_le _, fun c hc => absurd hc List.not_mem_nil, rd_e _ _ _ _ _, fun i hi => absurd hi (Nat.not_lt_zero _)⟩, fun k s hk => ok k s (by omega), ?_, ?_⟩
    · rw [DAt_iff, ok 20 0 (by omega)]; exact k1
    · rw [o 17 0 10 (by omega)]; exact k2
    · rw [ok 22 0 (by omega)]; exact k4 i hi
    · rw [ok 24 0 (by omega), ok 23 0 (by omega)]; exact k5
    · rw [ok 24 0 (by omega), ok 23 0 (by omega)]; exact k6
    · rw [rd_n _ _ _ _ _ _ _ _ (by omega), rd_e]
    · show (sx_set M2 17 0 0 (0 : Int32)).1 17 0 2 = nI st.l.length
      rw [rd_n _ _ _ _ _ _ _ _ (by omega)]; exact k9
theorem pair_append (a : Int32) {ex : Nat → Int32} (h1 : ex 1 = nI 1) (h2 : ex 2 = nI 2) : PAIR (fun M => f7_append a M) (fun M => f8_append a M) ex := by
  intro st M hI hR
  have hin : ((0 : Int64) ≤ a.toInt64 ∧ a.toInt64 ≤ 255) ↔ (0 ≤ a ∧ a ≤ 255) := in_iff a 0 255 0 255 (by decide) (by decide)
  have hts := hR.2.2.2.2
  have hl := hts.1
  by_cases ha : 0 ≤ a ∧ a ≤ 255
  · obtain ⟨c, hc, rfl⟩ : ∃ c, c < 256 ∧ a = nI c := by
      have ha' := ha
      rw [fa_le, fa_le] at ha'
      have z0 : (0 : Int32).toInt = 0 := by decide
      have z1 : (255 : Int32).toInt = 255 := by decide
      rw [z0, z1] at ha'
      exact ⟨a.toInt.toNat, by omega, by rw [fa_eq, nI_toInt (by omega)]; omega⟩
    have cpre : ∀ Q : (Nat ⊕ Int32) × sx_M → Prop, wp (if bI01 (decide (st.l.length = 120)) = 0 then
        sx_b2 (f6_add (nI c) M) fun v5 M6 =>
        some (.inr v5, M6)
      else
        some (.inl 2, M)) Q → wp (f7_append (nI c) M) Q := fun Q hQ => by
      rw [f7_append]
      with_reducible refine wp_bd ?_
      refine wp_ifn (by rw [show (0 : Int32) = nI 0 from rfl, iI_lt (by omega) (by omega)]; omega) ?_
      refine wp_ifp ha.2 ?_
      refine wp_call (w6_isFull hts) ?_
      exact hQ
    have mpre : ∀ M2, RM M2 st → ∀ Q : Int32 × sx_M → Prop, wp (sx_b2 (f8_refused (if st.l.length = 120 then (2 : Int32) else (0 : Int32)) M2) fun v3 M4 =>
    if v3 = 0 then
      sx_bd (M4.1 17 0 2) fun v6 =>
      if sx_in v6 120 then
      sx_bd (sx_set M4 18 0 (v6).toNatClampNeg (nI c)) fun M7 =>
      sx_bd (M7.1 17 0 2) fun v8 =>
      sx_bd (sx_set M7 17 0 2 (v8 + (1 : Int32))) fun M9 =>
      sx_bd (M9.1 17 0 2) fun v10 =>
      some (v10, M9)
      else none
    else
      some ((0 : Int32), M4)) Q → wp (f8_append (nI c) M2) Q := fun M2 hM Q hQ => by
      rw [f8_append]
      obtain ⟨r1, e1, hr1⟩ := w8_in (nI c).toInt64 0 255 M2
      refine wp_call e1 ?_
      with_reducible refine wp_bd ?_
      rcases hr1 with ⟨rfl, q⟩ | ⟨rfl, q⟩
      · refine wp_ifn (by decide) ?_
        have e2 : M2.1 17 0 2 = nI st.l.length := hM.2.2.2.2.2.2.2.2.1
        with_reducible refine wp_bd ?_
        rw [e2]
        have hd : nI st.l.length = (120 : Int32) ↔ st.l.length = 120 := by rw [show (120 : Int32) = nI 120 from rfl, iI_eq (by omega) (by omega)]
        by_cases q : st.l.length = 120
        · rw [if_pos q] at hQ
          exact wp_ifp (hd.mpr q) hQ
        · rw [if_neg q] at hQ
          exact wp_ifn (fun z => q (hd.mp z)) hQ
      · exact absurd (hin.mpr ha) q
    by_cases hfull : st.l.length = 120
    · rw [decide_eq_true hfull] at cpre
      refine ⟨.inl 2, st, hI, cpre _ (wp_ifn (by decide) (wp_some ⟨rfl, hR, fun _ _ _ => rfl⟩)), fun M2 hM => mpre M2 hM _ ?_⟩
      rw [if_pos hfull]
      exact m_no hM (n := 2) (by omega) (by omega) h2
    · rw [decide_eq_false hfull] at cpre
      refine ⟨.inr (nI (st.l.length + 1)), (st.1, st.2.1, st.2.2.1, st.l ++ [c]), hI, cpre _ (wp_ifp rfl ?_), fun M2 hM => mpre M2 hM _ ?_⟩
      · obtain ⟨⟨v, M'⟩, e, q1, q2, q3⟩ := w6_add hts (by omega) hc
        refine wp_b2 e ?_
        dsimp only at q1
        subst q1
        exact wp_some ⟨rfl, hR.text q2 q3, fun k s hk => q3.1 k s (fun q => by have := q.1; omega)⟩
      · rw [if_neg hfull]
        refine m_yes ?_
        have r4 := hM.ref 0
        have z4 : (sx_set M2 17 0 0 0).1 17 0 0 = 0 := rd_e _ _ _ _ _
        have f4 : ∀ k s, k ≤ 16 → (sx_set M2 17 0 0 0).1 k s = M2.1 k s := fun k s hk => by funext i; rw [st_at, if_neg (by omega)]
        generalize sx_set M2 17 0 0 0 = M4 at r4 z4 f4
        obtain ⟨k1, k2, k3, k4, k5, k6, k7, k8, k9, k10⟩ := r4
        with_reducible refine wp_bd ?_
        rw [k9]
        refine wp_ifp (sx_in_n (by omega) (by omega)) ?_
        with_reducible refine wp_bd ?_
        with_reducible refine wp_bd ?_
        with_reducible refine wp_bd ?_
        with_reducible refine wp_bd ?_
        have e72 : (sx_set M4 18 0 (nI st.l.length).toNatClampNeg (nI c)).1 17 0 2 = nI st.l.length := by rw [st_at, if_neg (by omega)]; exact k9
        rw [e72, iI_succ, nI_cl (by omega)]
        have o : ∀ k s i, ¬ (k = 17 ∧ s = 0 ∧ i = 2) → ¬ (k = 18 ∧ s = 0 ∧ i = st.l.length) → (sx_set (sx_set M4 18 0 st.l.length (nI c)) 17 0 2 (nI (st.l.length + 1))).1 k s i = M4.1 k s i := fun k s i hk hk2 => by
          rw [st_at, if_neg hk, st_at, if_neg hk2]
        have ok : ∀ k s, k ≠ 17 → k ≠ 18 → (sx_set (sx_set M4 18 0 st.l.length (nI c)) 17 0 2 (nI (st.l.length + 1))).1 k s = M4.1 k s := fun k s hk hk2 => by funext i; exact o k s i (fun q => hk q.1) (fun q => hk2 q.1)
        have key : GOOD M2 (st.1, st.2.1, st.2.2.1, st.l ++ [c]) (nI (st.l.length + 1)) ((sx_set (sx_set M4 18 0 st.l.length (nI c)) 17 0 2 (nI (st.l.length + 1))).1 17 0 2, sx_set (sx_set M4 18 0 st.l.length (nI c)) 17 0 2 (nI (st.l.length + 1))) := by
          refine ⟨⟨?_, ?_, k3, fun i hi => ?_, ?_, ?_, ?_, fun x hx => ?_, ?_, fun i hi => ?_⟩, fun k s hk => ?_, ?_, (show (sx_set (sx_set M4 18 0 st.l.length (nI c)) 17 0 2 (nI (st.l.length + 1))).1 17 0 2 = _ from rd_e _ _ _ _ _)⟩
          · rw [DAt_iff, ok 20 0 (by omega) (by omega)]; exact k1
          · rw [o 17 0 10 (by omega) (by omega)]; exact k2
          · rw [ok 22 0 (by omega) (by omega)]; exact k4 i hi
          · rw [ok 24 0 (by omega) (by omega), ok 23 0 (by omega) (by omega)]; exact k5
          · rw [ok 24 0 (by omega) (by omega), ok 23 0 (by omega) (by omega)]; exact k6
          · show (st.l ++ [c]).length ≤ 120
            rw [List.length_append]; show st.l.length + 1 ≤ 120; omega
          · have hx' : x ∈ st.l ++ [c] := hx
            rcases List.mem_append.mp hx' with hx | hx
            · exact k8 x hx
            · rw [List.mem_singleton.mp hx]; exact hc
          · show (sx_set (sx_set M4 18 0 st.l.length (nI c)) 17 0 2 (nI (st.l.length + 1))).1 17 0 2 = nI (st.l ++ [c]).length
            rw [rd_e, List.length_append]; rfl
          · have hi' : i < (st.l ++ [c]).length := hi
            rw [List.length_append] at hi'
            have hi2 : i < st.l.length + 1 := hi'
            show (sx_set (sx_set M4 18 0 st.l.length (nI c)) 17 0 2 (nI (st.l.length + 1))).1 18 0 i = nI ((st.l ++ [c]).getD i 0)
            rw [st_at, if_neg (by omega), st_at]
            by_cases e : i = st.l.length
            · subst e
              rw [if_pos ⟨rfl, rfl, rfl⟩]
              simp [List.getD_eq_getElem?_getD]
            · rw [if_neg (fun q => e q.2.2), k10 i (by omega), List.getD_eq_getElem?_getD, List.getD_eq_getElem?_getD, List.getElem?_append_left (by omega)]
          · show (sx_set (sx_set M4 18 0 st.l.length (nI c)) 17 0 2 (nI (st.l.length + 1))).1 k s = M2.1 k s
            rw [ok k s (by omega) (by omega)]; exact f4 k s hk
          · show (sx_set (sx_set M4 18 0 st.l.length (nI c)) 17 0 2 (nI (st.l.length + 1))).1 17 0 0 = 0
            rw [o 17 0 0 (by omega) (by omega)]; exact z4
        exact wp_some key.to
  · refine ⟨.inl 1, st, hI, ?_, fun M2 hM => ?_⟩
    · show wp (f7_append a M) _
      rw [f7_append]
      with_reducible refine wp_bd ?_
      have fin : wp (some ((.inl 1 : Nat ⊕ Int32), M)) (fun r => r.1 = .inl 1 ∧ RC r.2 st ∧ ∀ k s, 17 ≤ k → r.2.1 k s = M.1 k s) := wp_some ⟨rfl, hR, fun _ _ _ => rfl⟩
      with_reducible refine wp_if (fun c => ?_) (fun c => ?_)
      · exact fin
      · with_reducible refine wp_if (fun c2 => ?_) (fun c2 => ?_)
        · exact absurd ⟨by rw [fa_lt] at c; rw [fa_le]; omega, c2⟩ ha
        · exact fin
    · show wp (f8_append a M2) _
      rw [f8_append]
      obtain ⟨r1, e1, hr1⟩ := w8_in a.toInt64 0 255 M2
      refine wp_call e1 ?_
      with_reducible refine wp_bd ?_
      rcases hr1 with ⟨rfl, q⟩ | ⟨rfl, q⟩
      · exact absurd (hin.mp q) ha
      · refine wp_ifp rfl ?_
        exact m_no hM (n := 1) (by omega) (by omega) h1
