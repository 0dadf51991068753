/-! UNDO, SLOTS, TEXT, LOOKS, SIDE BY SIDE -/
theorem pushed_of {L : List SH} (h : L ≠ []) : ∃ L' B, L = L' ++ [B] := ⟨L.dropLast, L.getLast h, (List.dropLast_concat_getLast h).symm⟩
theorem pair_undo {ex : Nat → Int32} (h2 : ex 2 = nI 1) : PAIR (fun M => f7_undo M) (fun M => f8_undo M) ex := by
  intro st M hI hR
  obtain ⟨A, L, S, l⟩ := st
  have e1 := w1_isEmpty hR.2.1
  have e10 : ∀ M2, RM M2 (A, L, S, l) → M2.1 17 0 10 = nI L.length := fun M2 hM => hM.2.1
  by_cases hL : L = []
  · subst hL
    refine ⟨.inl 2, _, hI, ?_, fun M2 hM => ?_⟩
    · show wp (f7_undo M) _
      rw [f7_undo]
      refine wp_call e1 ?_
      refine wp_ifn (show ¬ bI01 (decide ((0 : Nat) = 0)) = 0 by decide) ?_
      exact wp_some ⟨rfl, hR, fun _ _ _ => rfl⟩
    · show wp (f8_undo M2) _
      rw [f8_undo]
      with_reducible refine wp_bd ?_
      with_reducible refine wp_bd ?_
      rw [e10 M2 hM]
      refine wp_ifp rfl ?_
      exact m_no hM (n := 1) (by omega) (by omega) h2
  · obtain ⟨L', B, rfl⟩ := pushed_of hL
    have hIB : IS B := hI.2.1 B (by show B ∈ L' ++ [B]; simp)
    have hIL : ∀ C ∈ L', IS C := fun C hC => hI.2.1 C (by show C ∈ L' ++ [B]; simp [hC])
    refine ⟨.inr (nI L'.length), (B, L', S, l), ⟨hIB, hIL, hI.2.2⟩, ?_, fun M2 hM => ?_⟩
    · show wp (f7_undo M) _
      rw [f7_undo]
      refine wp_call e1 ?_
      refine wp_ifp (by
        show bI01 (decide ((L' ++ [B]).length = 0)) = 0
        rw [List.length_append, decide_eq_false (by show ¬ L'.length + 1 = 0; omega)]; rfl) ?_
      obtain ⟨⟨v3, M4⟩, e3, q1, q2, q3, q4⟩ := w1_takeBack (L := L') (A := B) hR.2.1 (s := 0) (by omega)
      dsimp only at q1 q2 q3 q4
      subst q1
      refine wp_b2 e3 ?_
      obtain ⟨-, -, ⟨h3, h4⟩, ⟨h5, h6⟩, h7⟩ := hR
      have o : ∀ k s, ¬ (pPa k s ∨ pSh 0 k s) → M4.1 k s = M.1 k s := q4.1
      have np : ∀ k s, 1 ≤ k → k ≤ 8 → s = 2 ∨ s = 3 → ¬ (pPa k s ∨ pSh 0 k s) := fun k s k1 k2 hs q => by
        rcases q with (q | q) | q
        · omega
        · have := q.2; omega
        · have := q.2; omega
      have n12 : ∀ k, 10 ≤ k → ¬ (pPa k 0 ∨ pSh 0 k 0) := fun k hk q => by
        rcases q with (q | q) | q
        · omega
        · have := q.1; omega
        · have := q.1; omega
      refine wp_some ⟨rfl, ⟨q3, q2, ⟨?_, fun C hC => (h4 C hC).cong (fun k k1 k2 => o k 2 (np k 2 k1 k2 (by omega)))⟩, ⟨?_, fun C hC => (h6 C hC).cong (fun k k1 k2 => o k 3 (np k 3 k1 k2 (by omega)))⟩, h7.cong (o 13 0 (n12 13 (by omega))) (o 14 0 (n12 14 (by omega)))⟩, fun k s hk => o k s (fun q => by
        rcases q with (q | q) | q
        · omega
        · have := q.1; omega
        · have := q.1; omega)⟩
      · show M4.1 12 0 0 = _
        rw [o 12 0 (n12 12 (by omega))]; exact h3
      · show M4.1 12 0 1 = _
        rw [o 12 0 (n12 12 (by omega))]; exact h5
    · show wp (f8_undo M2) _
      rw [f8_undo]
      have hln : (L' ++ [B]).length = L'.length + 1 := by rw [List.length_append]; rfl
      have e10' := e10 M2 hM
      rw [hln] at e10'
      have hl14 : L'.length + 1 ≤ 14 := by rw [← hln]; exact hM.2.2.1
      with_reducible refine wp_bd ?_
      with_reducible refine wp_bd ?_
      rw [e10']
      refine wp_ifn (by rw [show (0 : Int32) = nI 0 from rfl, iI_eq (by omega) (by omega)]; omega) ?_
      refine m_yes ?_
      have r4 := hM.ref 0
      have z4 : (sx_set M2 17 0 0 0).1 17 0 0 = 0 := rd_e _ _ _ _ _
      have f4 : ∀ k s, k ≤ 16 → (sx_set M2 17 0 0 0).1 k s = M2.1 k s := fun k s hk => by funext i; rw [st_at, if_neg (by omega)]
      generalize sx_set M2 17 0 0 0 = M4 at r4 z4 f4
      have e10'' : M4.1 17 0 10 = nI (L'.length + 1) := by rw [← hln]; exact r4.2.1
      with_reducible refine wp_bd ?_
      with_reducible refine wp_bd ?_
      with_reducible refine wp_bd ?_
      rw [e10'', iI_pred (by omega), Nat.add_sub_cancel, rd_e, show (247 : Int32) = nI 247 from rfl, nI_mul]
      have r7 : ∀ k s i, ¬ (k = 17 ∧ s = 0 ∧ i = 10) → (sx_set M4 17 0 10 (nI L'.length)).1 k s i = M4.1 k s i := fun k s i hk => by rw [st_at, if_neg hk]
      have r7k : ∀ k s, k ≠ 17 → (sx_set M4 17 0 10 (nI L'.length)).1 k s = M4.1 k s := fun k s hk => by funext i; exact r7 k s i (fun q => hk q.1)
      have r710 : (sx_set M4 17 0 10 (nI L'.length)).1 17 0 10 = nI L'.length := rd_e _ _ _ _ _
      generalize sx_set M4 17 0 10 (nI L'.length) = M7 at r7 r7k r710
      obtain ⟨M9, e9, c1, c2, f9⟩ := w8_copy (M := M7) (ka := 22) (kb := 20) (a := 247 * L'.length) (b := 0) (n := 247) (by omega) (by show _ ≤ 3458; omega) (by show 0 + 247 ≤ 247; omega) (Or.inl (by omega))
      refine wp_call e9 ?_
      have o9 : ∀ k s, k ≠ 20 → M9.1 k s = M7.1 k s := fun k s hk => f9.1 k s (fun q => hk q.1)
      obtain ⟨k1, k2, k3, k4, k5, k6, k7, k8, k9, k10⟩ := r4
      have key : GOOD M2 (B, L', S, l) (nI L'.length) (M9.1 17 0 10, M9) := by
        refine ⟨⟨?_, ?_, by show L'.length ≤ 14; omega, fun i hi => ?_, ⟨?_, fun C hC => ?_⟩, ⟨?_, fun C hC => ?_⟩, k7, k8, ?_, fun i hi => ?_⟩, fun k s hk => ?_, ?_, ?_⟩
        · obtain ⟨C, eC, dC⟩ := k4 L'.length (by show L'.length < (L' ++ [B]).length; omega)
          have eCB : C = B := by
            have eC' : (L' ++ [B])[L'.length]? = some C := eC
            rw [List.getElem?_append_right (Nat.le_refl _), Nat.sub_self] at eC'
            exact (Option.some.inj eC').symm
          subst eCB
          refine DAt.cong dC hIB (fun j hj => ?_)
          have := c1 j hj
          rw [Nat.zero_add, r7k 22 0 (by omega)] at this
          exact this
        · show M9.1 17 0 10 = nI L'.length
          rw [o9 17 0 (by omega)]; exact r710
        · have hi' : i < L'.length := hi
          obtain ⟨C, eC, dC⟩ := k4 i (by show i < (L' ++ [B]).length; omega)
          have eC' : (L' ++ [B])[i]? = some C := eC
          rw [List.getElem?_append_left hi'] at eC'
          refine ⟨C, eC', ?_⟩
          show DAt (fun j => M9.1 22 0 (247 * i + j)) C
          rw [o9 22 0 (by omega), r7k 22 0 (by omega)]; exact dC
        · show M9.1 24 0 0 = _
          rw [o9 24 0 (by omega), r7k 24 0 (by omega)]; exact k5.1
        · show DAt (fun j => M9.1 23 0 (0 + j)) C
          rw [o9 23 0 (by omega), r7k 23 0 (by omega)]; exact k5.2 C hC
        · show M9.1 24 0 1 = _
          rw [o9 24 0 (by omega), r7k 24 0 (by omega)]; exact k6.1
        · show DAt (fun j => M9.1 23 0 (247 + j)) C
          rw [o9 23 0 (by omega), r7k 23 0 (by omega)]; exact k6.2 C hC
        · show M9.1 17 0 2 = _
          rw [o9 17 0 (by omega), r7 17 0 2 (by omega)]; exact k9
        · show M9.1 18 0 i = _
          rw [o9 18 0 (by omega), r7k 18 0 (by omega)]; exact k10 i hi
        · show M9.1 k s = M2.1 k s
          rw [o9 k s (by omega), r7k k s (by omega), f4 k s hk]
        · show M9.1 17 0 0 = 0
          rw [o9 17 0 (by omega), r7 17 0 0 (by omega), z4]
        · show M9.1 17 0 10 = nI L'.length
          rw [o9 17 0 (by omega)]; exact r710
      with_reducible refine wp_bd ?_
      exact wp_some key.to
/-- a call of the class that changes nothing, or the trial alone -/
theorem w8_in01 (a : Int32) (M : sx_M) : wp (f8_in a.toInt64 0 1 M) (fun r => (r = 1 ∧ (a = 0 ∨ a = 1)) ∨ (r = 0 ∧ ¬ (a = 0 ∨ a = 1))) := by
  obtain ⟨r, e, hr⟩ := w8_in a.toInt64 0 1 M
  have hin : ((0 : Int64) ≤ a.toInt64 ∧ a.toInt64 ≤ 1) ↔ (a = 0 ∨ a = 1) := by
    rw [in_iff a 0 1 0 1 (by decide) (by decide), fa_le, fa_le, fa_eq, fa_eq]
    have z0 : (0 : Int32).toInt = 0 := by decide
    have z1 : (1 : Int32).toInt = 1 := by decide
    rw [z0, z1]; omega
  refine ⟨r, e, ?_⟩
  rcases hr with ⟨q1, q2⟩ | ⟨q1, q2⟩
  · exact Or.inl ⟨q1, hin.mp q2⟩
  · exact Or.inr ⟨q1, fun q => q2 (hin.mpr q)⟩
theorem nI_ssub (a b : Nat) : nI a - (nI a - nI b) = nI b := by
  have e : nI a = nI b + (nI a - nI b) := by rw [Int32.add_comm, Int32.sub_add_cancel]
  generalize hx : nI a - nI b = x at e ⊢
  rw [e]
  exact Int32.add_sub_cancel _ _
/-- the slot of a number -/
def slotOf (S : Option SH × Option SH) (i : Nat) : Option SH := if i = 0 then S.1 else S.2
def putSlot (S : Option SH × Option SH) (i : Nat) (A : SH) : Option SH × Option SH := if i = 0 then (some A, S.2) else (S.1, some A)
theorem pair_save (a : Int32) {ex : Nat → Int32} (h0 : ex 0 = nI 1) : PAIR (fun M => f7_save a M) (fun M => f8_save a M) ex := by
  intro st M hI hR
  obtain ⟨A, L, S, l⟩ := st
  by_cases ha : a = 0 ∨ a = 1
  · obtain ⟨i, hi, rfl⟩ : ∃ i, i < 2 ∧ a = nI i := by
      rcases ha with rfl | rfl
      · exact ⟨0, by omega, rfl⟩
      · exact ⟨1, by omega, rfl⟩
    have hI' : INV (A, L, putSlot S i A, l) := by
      refine ⟨hI.1, hI.2.1, fun B hB => ?_, fun B hB => ?_⟩
      · unfold putSlot at hB
        by_cases q : i = 0
        · rw [if_pos q] at hB
          have : A = B := Option.some.inj hB
          rw [← this]; exact hI.1
        · rw [if_neg q] at hB
          exact hI.2.2.1 B hB
      · unfold putSlot at hB
        by_cases q : i = 0
        · rw [if_pos q] at hB
          exact hI.2.2.2 B hB
        · rw [if_neg q] at hB
          have : A = B := Option.some.inj hB
          rw [← this]; exact hI.1
    refine ⟨.inr (nI (fb_ct A.T 24)), (A, L, putSlot S i A, l), hI', ?_, fun M2 hM => ?_⟩
    · show wp (f7_save (nI i) M) _
      rw [f7_save]
      with_reducible refine wp_bd ?_
      refine wp_ifn (by rw [show (0 : Int32) = nI 0 from rfl, iI_lt (by omega) (by omega)]; omega) ?_
      refine wp_ifp (by rw [show (2 : Int32) = nI 2 from rfl, iI_lt (by omega) (by omega)]; omega) ?_
      refine wp_ifp (sx_in_n hi (by omega)) ?_
      with_reducible refine wp_bd ?_
      obtain ⟨h1, h2, ⟨h3, h4⟩, ⟨h5, h6⟩, h7⟩ := hR
      have ecl : (nI i).toNatClampNeg = i := nI_cl (by omega)
      obtain ⟨M4, e4, c4, f4⟩ := w3_copyFrom (s := 2 + (nI i).toNatClampNeg) (s1 := 0) (by omega) h1
      refine wp_call e4 ?_
      rw [ecl] at c4 f4
      refine wp_ifp ⟨sx_in_n hi (by omega), Or.inr rfl⟩ ?_
      with_reducible refine wp_bd ?_
      rw [ecl]
      have o4 : ∀ k s, (k = 0 ∨ 9 ≤ k ∨ s ≠ 2 + i) → M4.1 k s = M.1 k s := fun k s hk => f4.1 k s (fun q => by have := q.1; have := q.2; omega)
      have o5 : ∀ k s j, ¬ (k = 12 ∧ s = 0 ∧ j = i) → (sx_set M4 12 0 i (1 : Int32)).1 k s j = M4.1 k s j := fun k s j hk => by rw [st_at, if_neg hk]
      have o5k : ∀ k s, k ≠ 12 → (sx_set M4 12 0 i (1 : Int32)).1 k s = M4.1 k s := fun k s hk => by funext j; exact o5 k s j (fun q => hk q.1)
      have o5i : (sx_set M4 12 0 i (1 : Int32)).1 12 0 i = 1 := rd_e _ _ _ _ _
      generalize sx_set M4 12 0 i (1 : Int32) = M5 at o5 o5k o5i
      have c5 : CS M5 0 A := h1.cong (fun k k1 k2 => (o5k k 0 (by omega)).trans (o4 k 0 (by omega)))
      have cs5 : CS M5 (2 + i) A := c4.cong (fun k k1 k2 => o5k k _ (by omega))
      rw [f3_parts]
      refine wp_call (a := M5.1 1 0 4) rfl ?_
      refine wp_call (wJ_count c5.2.2.2.2.1 _) ?_
      refine wp_some ⟨rfl, ⟨c5, h2.cong (fun k s hk hs => (o5k k s (by omega)).trans (o4 k s (by omega))), ?_, ?_, h7.cong ((o5k 13 0 (by omega)).trans (o4 13 0 (by omega))) ((o5k 14 0 (by omega)).trans (o4 14 0 (by omega)))⟩, fun k s hk => (o5k k s (by omega)).trans (o4 k s (by omega))⟩
      · show M5.1 12 0 0 = bI01 (putSlot S i A).1.isSome ∧ ∀ B, (putSlot S i A).1 = some B → CS M5 2 B
        unfold putSlot
        by_cases q : i = 0
        · subst q
          rw [if_pos rfl]
          exact ⟨o5i, fun B hB => by rw [← Option.some.inj hB]; exact cs5⟩
        · rw [if_neg q]
          refine ⟨?_, fun B hB => (h4 B hB).cong (fun k k1 k2 => (o5k k 2 (by omega)).trans (o4 k 2 (by omega)))⟩
          rw [o5 12 0 0 (by omega), o4 12 0 (by omega)]; exact h3
      · show M5.1 12 0 1 = bI01 (putSlot S i A).2.isSome ∧ ∀ B, (putSlot S i A).2 = some B → CS M5 3 B
        unfold putSlot
        by_cases q : i = 0
        · rw [if_pos q]
          refine ⟨?_, fun B hB => (h6 B hB).cong (fun k k1 k2 => (o5k k 3 (by omega)).trans (o4 k 3 (by omega)))⟩
          rw [o5 12 0 1 (by omega), o4 12 0 (by omega)]; exact h5
        · have q1 : i = 1 := by omega
          subst q1
          rw [if_neg q]
          exact ⟨o5i, fun B hB => by rw [← Option.some.inj hB]; exact cs5⟩
    · show wp (f8_save (nI i) M2) _
      rw [f8_save]
      obtain ⟨r1, e1, hr1⟩ := w8_in01 (nI i) M2
      refine wp_call e1 ?_
      with_reducible refine wp_bd ?_
      rcases hr1 with ⟨rfl, -⟩ | ⟨rfl, q⟩
      · refine wp_ifn (by decide) ?_
        refine m_yes ?_
        have r4 := hM.ref 0
        have z4 : (sx_set M2 17 0 0 0).1 17 0 0 = 0 := rd_e _ _ _ _ _
        have f4 : ∀ k s, k ≤ 16 → (sx_set M2 17 0 0 0).1 k s = M2.1 k s := fun k s hk => by funext i; rw [st_at, if_neg (by omega)]
        generalize sx_set M2 17 0 0 0 = M4 at r4 z4 f4
        rw [show (247 : Int32) = nI 247 from rfl, nI_mul]
        obtain ⟨M6, e6, c1, c2, f6⟩ := w8_copy (M := M4) (ka := 20) (kb := 23) (a := 0) (b := 247 * i) (n := 247) (by omega) (by show 0 + 247 ≤ 247; omega) (by show _ ≤ 494; omega) (Or.inl (by omega))
        refine wp_call e6 ?_
        refine wp_ifp ⟨sx_in_n hi (by omega), Or.inr rfl⟩ ?_
        with_reducible refine wp_bd ?_
        rw [nI_cl (by omega)]
        have o6 : ∀ k s, k ≠ 23 → M6.1 k s = M4.1 k s := fun k s hk => f6.1 k s (fun q => hk q.1)
        have o7 : ∀ k s j, ¬ (k = 24 ∧ s = 0 ∧ j = i) → (sx_set M6 24 0 i (1 : Int32)).1 k s j = M6.1 k s j := fun k s j hk => by rw [st_at, if_neg hk]
        have o7k : ∀ k s, k ≠ 24 → (sx_set M6 24 0 i (1 : Int32)).1 k s = M6.1 k s := fun k s hk => by funext j; exact o7 k s j (fun q => hk q.1)
        have o7i : (sx_set M6 24 0 i (1 : Int32)).1 24 0 i = 1 := rd_e _ _ _ _ _
        generalize sx_set M6 24 0 i (1 : Int32) = M7 at o7 o7k o7i
        obtain ⟨k1, k2, k3, k4, k5, k6, k7, k8, k9, k10⟩ := r4
        have d7 : DS M7 20 A := by
          rw [DAt_iff, o7k 20 0 (by omega), o6 20 0 (by omega)]; exact k1
        have dslot : DAt (fun j => M7.1 23 0 (247 * i + j)) A := by
          refine DAt.cong (f := M4.1 20 0) (DAt_iff.mp k1) hI.1 (fun j hj => ?_)
          have := c1 j hj
          rw [Nat.zero_add] at this
          rw [o7k 23 0 (by omega)]
          exact this
        have ans : M7.1 20 0 ((0 : Int32)).toNatClampNeg - M7.1 20 0 ((1 : Int32)).toNatClampNeg = nI (fb_ct A.T 24) := by
          have e0 : M7.1 20 0 ((0 : Int32)).toNatClampNeg = nI A.m := d7.2.2.1
          have e1 : M7.1 20 0 ((1 : Int32)).toNatClampNeg = nI A.m - nI (fb_ct A.T 24) := d7.2.2.2.1
          rw [e0, e1, nI_ssub]
        have key : GOOD M2 (A, L, putSlot S i A, l) (nI (fb_ct A.T 24)) (M7.1 20 0 ((0 : Int32)).toNatClampNeg - M7.1 20 0 ((1 : Int32)).toNatClampNeg, M7) := by
          refine ⟨⟨d7, ?_, k3, fun j hj => ?_, ?_, ?_, k7, k8, ?_, fun j hj => ?_⟩, fun k s hk => ?_, ?_, ans⟩
          · show M7.1 17 0 10 = _
            rw [o7k 17 0 (by omega), o6 17 0 (by omega)]; exact k2
          · obtain ⟨C, eC, dC⟩ := k4 j hj
            refine ⟨C, eC, ?_⟩
            show DAt (fun x => M7.1 22 0 (247 * j + x)) C
            rw [o7k 22 0 (by omega), o6 22 0 (by omega)]; exact dC
          · show M7.1 24 0 0 = bI01 (putSlot S i A).1.isSome ∧ ∀ B, (putSlot S i A).1 = some B → DAt (fun j => M7.1 23 0 (0 + j)) B
            unfold putSlot
            by_cases q : i = 0
            · subst q
              rw [if_pos rfl]
              exact ⟨o7i, fun B hB => by rw [← Option.some.inj hB]; exact dslot⟩
            · rw [if_neg q]
              refine ⟨?_, fun B hB => ?_⟩
              · rw [o7 24 0 0 (by omega), o6 24 0 (by omega)]; exact k5.1
              · refine DAt.cong (k5.2 B hB) (hI.2.2.1 B hB) (fun j hj => ?_)
                rw [o7k 23 0 (by omega)]
                exact c2 _ (Or.inl (by omega))
          · show M7.1 24 0 1 = bI01 (putSlot S i A).2.isSome ∧ ∀ B, (putSlot S i A).2 = some B → DAt (fun j => M7.1 23 0 (247 + j)) B
            unfold putSlot
            by_cases q : i = 0
            · rw [if_pos q]
              refine ⟨?_, fun B hB => ?_⟩
              · rw [o7 24 0 1 (by omega), o6 24 0 (by omega)]; exact k6.1
              · refine DAt.cong (k6.2 B hB) (hI.2.2.2 B hB) (fun j hj => ?_)
                rw [o7k 23 0 (by omega)]
                exact c2 _ (Or.inr (by omega))
            · have q1 : i = 1 := by omega
              subst q1
              rw [if_neg q]
              exact ⟨o7i, fun B hB => by rw [← Option.some.inj hB]; exact dslot⟩
          · show M7.1 17 0 2 = _
            rw [o7k 17 0 (by omega), o6 17 0 (by omega)]; exact k9
          · show M7.1 18 0 j = _
            rw [o7k 18 0 (by omega), o6 18 0 (by omega)]; exact k10 j hj
          · show M7.1 k s = M2.1 k s
            rw [o7k k s (by omega), o6 k s (by omega), f4 k s hk]
          · show M7.1 17 0 0 = 0
            rw [o7k 17 0 (by omega), o6 17 0 (by omega), z4]
        refine wp_ifp (in3 row20 (a := 0) (by omega)) ?_
        with_reducible refine wp_bd ?_
        refine wp_ifp (in3 row20 (a := 1) (by omega)) ?_
        with_reducible refine wp_bd ?_
        exact wp_some key.to
      · exact absurd ha q
  · refine ⟨.inl 0, _, hI, ?_, fun M2 hM => ?_⟩
    · show wp (f7_save a M) _
      rw [f7_save]
      with_reducible refine wp_bd ?_
      have fin : wp (some ((.inl 0 : Nat ⊕ Int32), M)) (fun r => r.1 = .inl 0 ∧ RC r.2 (A, L, S, l) ∧ ∀ k s, 17 ≤ k → r.2.1 k s = M.1 k s) := wp_some ⟨rfl, hR, fun _ _ _ => rfl⟩
      with_reducible refine wp_if (fun c => ?_) (fun c => ?_)
      · exact fin
      · with_reducible refine wp_if (fun c2 => ?_) (fun c2 => ?_)
        · exfalso
          apply ha
          rw [fa_lt] at c c2
          rw [fa_eq, fa_eq]
          have z0 : (0 : Int32).toInt = 0 := by decide
          have z1 : (1 : Int32).toInt = 1 := by decide
          have z2 : (2 : Int32).toInt = 2 := by decide
          rw [z0] at c ⊢; rw [z2] at c2; rw [z1]; omega
        · exact fin
    · show wp (f8_save a M2) _
      rw [f8_save]
      obtain ⟨r1, e1, hr1⟩ := w8_in01 a M2
      refine wp_call e1 ?_
      with_reducible refine wp_bd ?_
      rcases hr1 with ⟨rfl, q⟩ | ⟨rfl, -⟩
      · exact absurd q ha
      · refine wp_ifp rfl ?_
        exact m_no hM (n := 1) (by omega) (by omega) h0
