/-! THE LAW'S LOOP (calls.py) -/
set_option maxRecDepth 20000 in
set_option maxHeartbeats 4000000 in
theorem law_loop {L : Nat} (hL : L ≤ 2048) (xs : Nat → Int32) : ∀ (r N j : Nat) (M : sx_M) (st : ST), L - 4 * j ≤ r → r < N → 4 * j ≤ L → BOTH M st → wp (fL_law_L23 L xs N (nI (4 * j)) M) (fun a => a = 1) := by
  intro r
  induction r with
  | zero =>
    intro N j M st hr hN hj hB
    obtain ⟨n, rfl⟩ : ∃ n, N = n + 1 := ⟨N - 1, by omega⟩
    rw [fL_law_L23]
    refine wp_ifp ?_ (wp_some rfl)
    refine Classical.byContradiction fun z => ?_
    have := sx_lawj hL (by omega) z
    omega
  | succ r ih =>
    intro N j M st hr hN hj hB
    obtain ⟨n, rfl⟩ : ∃ n, N = n + 1 := ⟨N - 1, by omega⟩
    by_cases z : Int32.ofNat L - (4 : Int32) < nI (4 * j)
    · rw [fL_law_L23]
      exact wp_ifp z (wp_some rfl)
    have hj4 := sx_lawj hL (by omega) z
    have i0 : sx_in (nI (4 * j)) L := sx_in_n (by omega) (by omega)
    have i1 : sx_in (nI (4 * j) + (1 : Int32)) L := by rw [iI_succ]; exact sx_in_n (by omega) (by omega)
    have i2 : sx_in (nI (4 * j) + (2 : Int32)) L := by rw [show (2 : Int32) = nI 2 from rfl, nI_add]; exact sx_in_n (by omega) (by omega)
    have i3 : sx_in (nI (4 * j) + (3 : Int32)) L := by rw [show (3 : Int32) = nI 3 from rfl, nI_add]; exact sx_in_n (by omega) (by omega)
    have next : ∀ M' st', BOTH M' st' → wp (sx_bd (nI (4 * j) + (4 : Int32)) fun v4 => fL_law_L23 L xs n v4 M') (fun a => a = 1) := fun M' st' h' => by
      with_reducible refine wp_bd ?_
      rw [sx_add4]
      exact ih n (j + 1) M' st' (by omega) (by omega) (by omega) h'
    clear ih
    rw [fL_law_L23]
    refine wp_ifn z ?_
    refine wp_ifp i0 ?_
    with_reducible refine wp_bd ?_
    with_reducible refine wp_bd ?_
    with_reducible refine wp_if (fun _ => ?_) (fun _ => ?_)
    · refine wp_ifp i1 ?_
      with_reducible refine wp_bd ?_
      obtain ⟨v7, M8, v10, M11, st', e1, e2, hB', e3, e4⟩ := law_append (xs (nI (4 * j) + (1 : Int32)).toNatClampNeg) hB
      refine wp_b2 e1 ?_
      refine wp_ifp i1 ?_
      with_reducible refine wp_bd ?_
      refine wp_b2 e2 ?_
      exact law_tail e3 e4 (next M11 st' hB')
    with_reducible refine wp_if (fun _ => ?_) (fun _ => ?_)
    · obtain ⟨v, M8, M11, st', e1, e2, hB'⟩ := law_call0 _ _ pair_clearText hB
      refine wp_b2 e1 ?_
      refine wp_b2 e2 ?_
      exact wp_ifp rfl (next M11 st' hB')
    with_reducible refine wp_if (fun _ => ?_) (fun _ => ?_)
    · obtain ⟨v, M11, st', e1, e2, hB'⟩ := law_look _ _ pair_errorPosition hB
      refine wp_call e1 ?_
      refine wp_b2 e2 ?_
      exact wp_ifp rfl (next M11 st' hB')
    with_reducible refine wp_if (fun _ => ?_) (fun _ => ?_)
    · obtain ⟨v7, M8, v10, M11, st', e1, e2, hB', e3, e4⟩ := law_load  hB
      refine wp_b2 e1 ?_
      refine wp_b2 e2 ?_
      exact law_tail e3 e4 (next M11 st' hB')
    with_reducible refine wp_if (fun _ => ?_) (fun _ => ?_)
    · refine wp_ifp i1 ?_
      with_reducible refine wp_bd ?_
      obtain ⟨v7, M8, v10, M11, st', e1, e2, hB', e3, e4⟩ := law_about (xs (nI (4 * j) + (1 : Int32)).toNatClampNeg) hB
      refine wp_b2 e1 ?_
      refine wp_ifp i1 ?_
      with_reducible refine wp_bd ?_
      refine wp_b2 e2 ?_
      exact law_tail e3 e4 (next M11 st' hB')
    with_reducible refine wp_if (fun _ => ?_) (fun _ => ?_)
    · refine wp_ifp i1 ?_
      with_reducible refine wp_bd ?_
      refine wp_ifp i2 ?_
      with_reducible refine wp_bd ?_
      obtain ⟨v7, M8, v10, M11, st', e1, e2, hB', e3, e4⟩ := law_part (xs (nI (4 * j) + (1 : Int32)).toNatClampNeg) (xs (nI (4 * j) + (2 : Int32)).toNatClampNeg) hB
      refine wp_b2 e1 ?_
      refine wp_ifp i1 ?_
      with_reducible refine wp_bd ?_
      refine wp_ifp i2 ?_
      with_reducible refine wp_bd ?_
      refine wp_b2 e2 ?_
      exact law_tail e3 e4 (next M11 st' hB')
    with_reducible refine wp_if (fun _ => ?_) (fun _ => ?_)
    · refine wp_ifp i1 ?_
      with_reducible refine wp_bd ?_
      refine wp_ifp i2 ?_
      with_reducible refine wp_bd ?_
      obtain ⟨v7, M8, v10, M11, st', e1, e2, hB', e3, e4⟩ := law_string (xs (nI (4 * j) + (1 : Int32)).toNatClampNeg) (xs (nI (4 * j) + (2 : Int32)).toNatClampNeg) hB
      refine wp_b2 e1 ?_
      refine wp_ifp i1 ?_
      with_reducible refine wp_bd ?_
      refine wp_ifp i2 ?_
      with_reducible refine wp_bd ?_
      refine wp_b2 e2 ?_
      exact law_tail e3 e4 (next M11 st' hB')
    with_reducible refine wp_if (fun _ => ?_) (fun _ => ?_)
    · refine wp_ifp i1 ?_
      with_reducible refine wp_bd ?_
      obtain ⟨v7, M8, v10, M11, st', e1, e2, hB', e3, e4⟩ := law_stringAt (xs (nI (4 * j) + (1 : Int32)).toNatClampNeg) hB
      refine wp_b2 e1 ?_
      refine wp_ifp i1 ?_
      with_reducible refine wp_bd ?_
      refine wp_b2 e2 ?_
      exact law_tail e3 e4 (next M11 st' hB')
    with_reducible refine wp_if (fun _ => ?_) (fun _ => ?_)
    · refine wp_ifp i1 ?_
      with_reducible refine wp_bd ?_
      obtain ⟨v7, M8, v10, M11, st', e1, e2, hB', e3, e4⟩ := law_make (xs (nI (4 * j) + (1 : Int32)).toNatClampNeg) hB
      refine wp_b2 e1 ?_
      refine wp_ifp i1 ?_
      with_reducible refine wp_bd ?_
      refine wp_b2 e2 ?_
      exact law_tail e3 e4 (next M11 st' hB')
    with_reducible refine wp_if (fun _ => ?_) (fun _ => ?_)
    · refine wp_ifp i1 ?_
      with_reducible refine wp_bd ?_
      refine wp_ifp i2 ?_
      with_reducible refine wp_bd ?_
      refine wp_ifp i3 ?_
      with_reducible refine wp_bd ?_
      with_reducible refine wp_bd ?_
      with_reducible refine wp_if (fun c => ?_) (fun c => ?_)
      · obtain ⟨v7, M8, v10, M11, st', e1, e2, hB', e3, e4⟩ := law_tie (xs (nI (4 * j) + (1 : Int32)).toNatClampNeg) (xs (nI (4 * j) + (2 : Int32)).toNatClampNeg) (0 : Int32) (Or.inl rfl) hB
        refine wp_b2 e1 ?_
        refine wp_ifp i1 ?_
        with_reducible refine wp_bd ?_
        refine wp_ifp i2 ?_
        with_reducible refine wp_bd ?_
        refine wp_ifp i3 ?_
        with_reducible refine wp_bd ?_
        with_reducible refine wp_bd ?_
        refine wp_ifp c ?_
        refine wp_b2 e2 ?_
        exact law_tail e3 e4 (next M11 st' hB')
      · obtain ⟨v7, M8, v10, M11, st', e1, e2, hB', e3, e4⟩ := law_tie (xs (nI (4 * j) + (1 : Int32)).toNatClampNeg) (xs (nI (4 * j) + (2 : Int32)).toNatClampNeg) (1 : Int32) (Or.inr rfl) hB
        refine wp_b2 e1 ?_
        refine wp_ifp i1 ?_
        with_reducible refine wp_bd ?_
        refine wp_ifp i2 ?_
        with_reducible refine wp_bd ?_
        refine wp_ifp i3 ?_
        with_reducible refine wp_bd ?_
        with_reducible refine wp_bd ?_
        refine wp_ifn c ?_
        refine wp_b2 e2 ?_
        exact law_tail e3 e4 (next M11 st' hB')
    with_reducible refine wp_if (fun _ => ?_) (fun _ => ?_)
    · refine wp_ifp i1 ?_
      with_reducible refine wp_bd ?_
      refine wp_ifp i2 ?_
      with_reducible refine wp_bd ?_
      obtain ⟨v7, M8, v10, M11, st', e1, e2, hB', e3, e4⟩ := law_cut (xs (nI (4 * j) + (1 : Int32)).toNatClampNeg) (xs (nI (4 * j) + (2 : Int32)).toNatClampNeg) hB
      refine wp_b2 e1 ?_
      refine wp_ifp i1 ?_
      with_reducible refine wp_bd ?_
      refine wp_ifp i2 ?_
      with_reducible refine wp_bd ?_
      refine wp_b2 e2 ?_
      exact law_tail e3 e4 (next M11 st' hB')
    with_reducible refine wp_if (fun _ => ?_) (fun _ => ?_)
    · refine wp_ifp i1 ?_
      with_reducible refine wp_bd ?_
      refine wp_ifp i2 ?_
      with_reducible refine wp_bd ?_
      obtain ⟨v7, M8, v10, M11, st', e1, e2, hB', e3, e4⟩ := law_fray (xs (nI (4 * j) + (1 : Int32)).toNatClampNeg) (xs (nI (4 * j) + (2 : Int32)).toNatClampNeg) hB
      refine wp_b2 e1 ?_
      refine wp_ifp i1 ?_
      with_reducible refine wp_bd ?_
      refine wp_ifp i2 ?_
      with_reducible refine wp_bd ?_
      refine wp_b2 e2 ?_
      exact law_tail e3 e4 (next M11 st' hB')
    with_reducible refine wp_if (fun _ => ?_) (fun _ => ?_)
    · refine wp_ifp i1 ?_
      with_reducible refine wp_bd ?_
      refine wp_ifp i2 ?_
      with_reducible refine wp_bd ?_
      obtain ⟨v7, M8, v10, M11, st', e1, e2, hB', e3, e4⟩ := law_mend (xs (nI (4 * j) + (1 : Int32)).toNatClampNeg) (xs (nI (4 * j) + (2 : Int32)).toNatClampNeg) hB
      refine wp_b2 e1 ?_
      refine wp_ifp i1 ?_
      with_reducible refine wp_bd ?_
      refine wp_ifp i2 ?_
      with_reducible refine wp_bd ?_
      refine wp_b2 e2 ?_
      exact law_tail e3 e4 (next M11 st' hB')
    with_reducible refine wp_if (fun _ => ?_) (fun _ => ?_)
    · refine wp_ifp i1 ?_
      with_reducible refine wp_bd ?_
      refine wp_ifp i2 ?_
      with_reducible refine wp_bd ?_
      with_reducible refine wp_bd ?_
      with_reducible refine wp_if (fun c => ?_) (fun c => ?_)
      · obtain ⟨v7, M8, v10, M11, st', e1, e2, hB', e3, e4⟩ := law_pin (xs (nI (4 * j) + (1 : Int32)).toNatClampNeg) (0 : Int32) (Or.inl rfl) hB
        refine wp_b2 e1 ?_
        refine wp_ifp i1 ?_
        with_reducible refine wp_bd ?_
        refine wp_ifp i2 ?_
        with_reducible refine wp_bd ?_
        with_reducible refine wp_bd ?_
        refine wp_ifp c ?_
        refine wp_b2 e2 ?_
        exact law_tail e3 e4 (next M11 st' hB')
      · obtain ⟨v7, M8, v10, M11, st', e1, e2, hB', e3, e4⟩ := law_pin (xs (nI (4 * j) + (1 : Int32)).toNatClampNeg) (1 : Int32) (Or.inr rfl) hB
        refine wp_b2 e1 ?_
        refine wp_ifp i1 ?_
        with_reducible refine wp_bd ?_
        refine wp_ifp i2 ?_
        with_reducible refine wp_bd ?_
        with_reducible refine wp_bd ?_
        refine wp_ifn c ?_
        refine wp_b2 e2 ?_
        exact law_tail e3 e4 (next M11 st' hB')
    with_reducible refine wp_if (fun _ => ?_) (fun _ => ?_)
    · obtain ⟨v7, M8, v10, M11, st', e1, e2, hB', e3, e4⟩ := law_begin  hB
      refine wp_b2 e1 ?_
      refine wp_b2 e2 ?_
      exact law_tail e3 e4 (next M11 st' hB')
    with_reducible refine wp_if (fun _ => ?_) (fun _ => ?_)
    · obtain ⟨v7, M8, v10, M11, st', e1, e2, hB', e3, e4⟩ := law_step  hB
      refine wp_b2 e1 ?_
      refine wp_b2 e2 ?_
      exact law_tail e3 e4 (next M11 st' hB')
    with_reducible refine wp_if (fun _ => ?_) (fun _ => ?_)
    · obtain ⟨v7, M8, v10, M11, st', e1, e2, hB', e3, e4⟩ := law_undo  hB
      refine wp_b2 e1 ?_
      refine wp_b2 e2 ?_
      exact law_tail e3 e4 (next M11 st' hB')
    with_reducible refine wp_if (fun _ => ?_) (fun _ => ?_)
    · refine wp_ifp i1 ?_
      with_reducible refine wp_bd ?_
      refine wp_ifp i2 ?_
      with_reducible refine wp_bd ?_
      obtain ⟨v7, M8, v10, M11, st', e1, e2, hB', e3, e4⟩ := law_falls (xs (nI (4 * j) + (1 : Int32)).toNatClampNeg) (xs (nI (4 * j) + (2 : Int32)).toNatClampNeg) hB
      refine wp_b2 e1 ?_
      refine wp_ifp i1 ?_
      with_reducible refine wp_bd ?_
      refine wp_ifp i2 ?_
      with_reducible refine wp_bd ?_
      refine wp_b2 e2 ?_
      exact law_tail e3 e4 (next M11 st' hB')
    with_reducible refine wp_if (fun _ => ?_) (fun _ => ?_)
    · refine wp_ifp i1 ?_
      with_reducible refine wp_bd ?_
      obtain ⟨v7, M8, v10, M11, st', e1, e2, hB', e3, e4⟩ := law_cuts (xs (nI (4 * j) + (1 : Int32)).toNatClampNeg) hB
      refine wp_b2 e1 ?_
      refine wp_ifp i1 ?_
      with_reducible refine wp_bd ?_
      refine wp_b2 e2 ?_
      exact law_tail e3 e4 (next M11 st' hB')
    with_reducible refine wp_if (fun _ => ?_) (fun _ => ?_)
    · obtain ⟨v, M11, st', e1, e2, hB'⟩ := law_look _ _ pair_heaviest hB
      refine wp_call e1 ?_
      refine wp_b2 e2 ?_
      exact wp_ifp rfl (next M11 st' hB')
    with_reducible refine wp_if (fun _ => ?_) (fun _ => ?_)
    · obtain ⟨v, M11, st', e1, e2, hB'⟩ := law_look _ _ pair_rings hB
      refine wp_call e1 ?_
      refine wp_b2 e2 ?_
      exact wp_ifp rfl (next M11 st' hB')
    with_reducible refine wp_if (fun _ => ?_) (fun _ => ?_)
    · obtain ⟨v, M8, M11, st', e1, e2, hB'⟩ := law_call0 _ _ pair_takes hB
      refine wp_b2 e1 ?_
      refine wp_b2 e2 ?_
      exact wp_ifp rfl (next M11 st' hB')
    with_reducible refine wp_if (fun _ => ?_) (fun _ => ?_)
    · obtain ⟨v, M8, M11, st', e1, e2, hB'⟩ := law_call0 _ _ pair_spares hB
      refine wp_b2 e1 ?_
      refine wp_b2 e2 ?_
      exact wp_ifp rfl (next M11 st' hB')
    with_reducible refine wp_if (fun _ => ?_) (fun _ => ?_)
    · refine wp_ifp i1 ?_
      with_reducible refine wp_bd ?_
      refine wp_ifp i2 ?_
      with_reducible refine wp_bd ?_
      obtain ⟨v7, M8, v10, M11, st', e1, e2, hB', e3, e4⟩ := law_way (xs (nI (4 * j) + (1 : Int32)).toNatClampNeg) (xs (nI (4 * j) + (2 : Int32)).toNatClampNeg) hB
      refine wp_b2 e1 ?_
      refine wp_ifp i1 ?_
      with_reducible refine wp_bd ?_
      refine wp_ifp i2 ?_
      with_reducible refine wp_bd ?_
      refine wp_b2 e2 ?_
      exact law_tail e3 e4 (next M11 st' hB')
    with_reducible refine wp_if (fun _ => ?_) (fun _ => ?_)
    · refine wp_ifp i1 ?_
      with_reducible refine wp_bd ?_
      refine wp_ifp i2 ?_
      with_reducible refine wp_bd ?_
      refine wp_ifp i3 ?_
      with_reducible refine wp_bd ?_
      obtain ⟨v7, M8, v10, M11, st', e1, e2, hB', e3, e4⟩ := law_runScript (xs (nI (4 * j) + (1 : Int32)).toNatClampNeg) (((xs (nI (4 * j) + (2 : Int32)).toNatClampNeg).toInt64 <<< ((32 : Int32).toInt64 &&& 63)) ||| ((xs (nI (4 * j) + (3 : Int32)).toNatClampNeg).toInt64 &&& (4294967295 : Int64))) hB
      refine wp_b2 e1 ?_
      refine wp_ifp i1 ?_
      with_reducible refine wp_bd ?_
      refine wp_ifp i2 ?_
      with_reducible refine wp_bd ?_
      refine wp_ifp i3 ?_
      with_reducible refine wp_bd ?_
      refine wp_b2 e2 ?_
      exact law_tail e3 e4 (next M11 st' hB')
    with_reducible refine wp_if (fun _ => ?_) (fun _ => ?_)
    · refine wp_ifp i1 ?_
      with_reducible refine wp_bd ?_
      refine wp_ifp i2 ?_
      with_reducible refine wp_bd ?_
      refine wp_ifp i3 ?_
      with_reducible refine wp_bd ?_
      obtain ⟨v7, M8, v10, M11, st', e1, e2, hB', e3, e4⟩ := law_simulate (((xs (nI (4 * j) + (1 : Int32)).toNatClampNeg).toInt64 <<< ((32 : Int32).toInt64 &&& 63)) ||| ((xs (nI (4 * j) + (2 : Int32)).toNatClampNeg).toInt64 &&& (4294967295 : Int64))) (xs (nI (4 * j) + (3 : Int32)).toNatClampNeg) hB
      refine wp_b2 e1 ?_
      refine wp_ifp i1 ?_
      with_reducible refine wp_bd ?_
      refine wp_ifp i2 ?_
      with_reducible refine wp_bd ?_
      refine wp_ifp i3 ?_
      with_reducible refine wp_bd ?_
      refine wp_b2 e2 ?_
      exact law_tail e3 e4 (next M11 st' hB')
    with_reducible refine wp_if (fun _ => ?_) (fun _ => ?_)
    · refine wp_ifp i1 ?_
      with_reducible refine wp_bd ?_
      obtain ⟨v7, M8, v10, M11, st', e1, e2, hB', e3, e4⟩ := law_save (xs (nI (4 * j) + (1 : Int32)).toNatClampNeg) hB
      refine wp_b2 e1 ?_
      refine wp_ifp i1 ?_
      with_reducible refine wp_bd ?_
      refine wp_b2 e2 ?_
      exact law_tail e3 e4 (next M11 st' hB')
    with_reducible refine wp_if (fun _ => ?_) (fun _ => ?_)
    · refine wp_ifp i1 ?_
      with_reducible refine wp_bd ?_
      obtain ⟨v7, M8, v10, M11, st', e1, e2, hB', e3, e4⟩ := law_restore (xs (nI (4 * j) + (1 : Int32)).toNatClampNeg) hB
      refine wp_b2 e1 ?_
      refine wp_ifp i1 ?_
      with_reducible refine wp_bd ?_
      refine wp_b2 e2 ?_
      exact law_tail e3 e4 (next M11 st' hB')
    exact next M st hB
/-- the start -/
theorem wd_nil : Wd (0 : Int32) (fun _ => false) := fun i hi => by rw [bt_zero, Bool.and_false]
theorem ds_nil : DS (fun _ _ _ => 0, fun _ _ _ => 0) 20 SH.nil :=
  ⟨⟨Nat.zero_le _, rfl, fun i hi => absurd hi (Nat.not_lt_zero _)⟩, Nat.zero_le _, rfl, rfl, rfl, rfl, rfl, fun p hp => absurd hp (Nat.not_lt_zero _), fun q => by cases q⟩
theorem cs_nil (s : Nat) : CS (fun _ _ _ => 0, fun _ _ _ => 0) s SH.nil :=
  ⟨⟨Nat.zero_le _, rfl, fun i hi => absurd hi (Nat.not_lt_zero _)⟩, ⟨rfl, wd_nil, wd_nil, rfl, List.nodup_nil, fun x hx => absurd hx List.not_mem_nil, fun e he => absurd he (Nat.not_lt_zero _)⟩, Nat.zero_le _, rfl, wd_nil, wd_nil, rfl, rfl, fun p hp => absurd hp (Nat.not_lt_zero _)⟩
theorem both_0 : BOTH (fun _ _ _ => 0, fun _ _ _ => 0) (SH.nil, [], (none, none), []) :=
  ⟨⟨IS.nil, fun B hB => absurd hB List.not_mem_nil, fun B hB => (by cases hB), fun B hB => (by cases hB)⟩,
   ⟨cs_nil 0, ⟨Nat.zero_le _, rfl, 0, by decide, rfl, fun i hi => absurd hi (Nat.not_lt_zero _)⟩, ⟨rfl, fun B hB => (by cases hB)⟩, ⟨rfl, fun B hB => (by cases hB)⟩, ⟨Nat.zero_le _, fun c hc => absurd hc List.not_mem_nil, rfl, fun i hi => absurd hi (Nat.not_lt_zero _)⟩⟩,
   ⟨ds_nil, rfl, Nat.zero_le _, fun i hi => absurd hi (Nat.not_lt_zero _), ⟨rfl, fun B hB => (by cases hB)⟩, ⟨rfl, fun B hB => (by cases hB)⟩, Nat.zero_le _, fun c hc => absurd hc List.not_mem_nil, rfl, fun i hi => absurd hi (Nat.not_lt_zero _)⟩⟩
theorem sx_pure {L : Nat} (hL : L ≤ 2048) (xs : Nat → Int32) : fL_law_L23 L xs 5000 0 (fun _ _ _ => 0, fun _ _ _ => 0) = some 1 :=
  wp_get (law_loop hL xs 2048 5000 0 (fun _ _ _ => 0, fun _ _ _ => 0) (SH.nil, [], (none, none), []) (by omega) (by omega) (by omega) both_0)
