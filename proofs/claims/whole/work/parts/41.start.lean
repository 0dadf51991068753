/-! FROM THE ENTRY. Written by wip/whole/start.py -/
set_option maxRecDepth 100000 in
theorem sx_nest_tbl : ∀ w ∈ sx_nest, w ∈ lw_tbl := (List.forall_mem_cons.mpr ⟨List.mem_of_getElem? (i := 91) rfl, (List.forall_mem_cons.mpr ⟨List.mem_of_getElem? (i := 97) rfl, (List.forall_mem_cons.mpr ⟨List.mem_of_getElem? (i := 118) rfl, (List.forall_mem_cons.mpr ⟨List.mem_of_getElem? (i := 174) rfl, (List.forall_mem_cons.mpr ⟨List.mem_of_getElem? (i := 187) rfl, (List.forall_mem_cons.mpr ⟨List.mem_of_getElem? (i := 200) rfl, (List.forall_mem_cons.mpr ⟨List.mem_of_getElem? (i := 289) rfl, (List.forall_mem_cons.mpr ⟨List.mem_of_getElem? (i := 312) rfl, (List.forall_mem_cons.mpr ⟨List.mem_of_getElem? (i := 359) rfl, (List.forall_mem_cons.mpr ⟨List.mem_of_getElem? (i := 868) rfl, (List.forall_mem_cons.mpr ⟨List.mem_of_getElem? (i := 139) rfl, (List.forall_mem_cons.mpr ⟨List.mem_of_getElem? (i := 141) rfl, (List.forall_mem_cons.mpr ⟨List.mem_of_getElem? (i := 142) rfl, (fun _ h => absurd h List.not_mem_nil)⟩)⟩)⟩)⟩)⟩)⟩)⟩)⟩)⟩)⟩)⟩)⟩)⟩)
set_option maxRecDepth 100000 in
theorem sx_exw_tbl : ∀ w ∈ sx_exw, w ∈ lw_tbl := (List.forall_mem_cons.mpr ⟨List.mem_of_getElem? (i := 691) rfl, (List.forall_mem_cons.mpr ⟨List.mem_of_getElem? (i := 434) rfl, (List.forall_mem_cons.mpr ⟨List.mem_of_getElem? (i := 506) rfl, (List.forall_mem_cons.mpr ⟨List.mem_of_getElem? (i := 436) rfl, (List.forall_mem_cons.mpr ⟨List.mem_of_getElem? (i := 438) rfl, (List.forall_mem_cons.mpr ⟨List.mem_of_getElem? (i := 440) rfl, (fun _ h => absurd h List.not_mem_nil)⟩)⟩)⟩)⟩)⟩)⟩)
set_option maxRecDepth 100000 in
theorem sx_txt_tbl : ∀ q ∈ sx_txt, Cond.stringRef RX7 q.1 q.2 ∈ lw_tbl := (List.forall_mem_cons.mpr ⟨List.mem_of_getElem? (i := 473) rfl, (List.forall_mem_cons.mpr ⟨List.mem_of_getElem? (i := 513) rfl, (List.forall_mem_cons.mpr ⟨List.mem_of_getElem? (i := 531) rfl, (List.forall_mem_cons.mpr ⟨List.mem_of_getElem? (i := 663) rfl, (List.forall_mem_cons.mpr ⟨List.mem_of_getElem? (i := 698) rfl, (List.forall_mem_cons.mpr ⟨List.mem_of_getElem? (i := 705) rfl, (List.forall_mem_cons.mpr ⟨List.mem_of_getElem? (i := 706) rfl, (List.forall_mem_cons.mpr ⟨List.mem_of_getElem? (i := 707) rfl, (List.forall_mem_cons.mpr ⟨List.mem_of_getElem? (i := 753) rfl, (List.forall_mem_cons.mpr ⟨List.mem_of_getElem? (i := 839) rfl, (List.forall_mem_cons.mpr ⟨List.mem_of_getElem? (i := 908) rfl, (List.forall_mem_cons.mpr ⟨List.mem_of_getElem? (i := 913) rfl, (List.forall_mem_cons.mpr ⟨List.mem_of_getElem? (i := 940) rfl, (List.forall_mem_cons.mpr ⟨List.mem_of_getElem? (i := 956) rfl, (List.forall_mem_cons.mpr ⟨List.mem_of_getElem? (i := 964) rfl, (fun _ h => absurd h List.not_mem_nil)⟩)⟩)⟩)⟩)⟩)⟩)⟩)⟩)⟩)⟩)⟩)⟩)⟩)⟩)⟩)
def sx_flat : List Cond := flatC (Jvm.Cond.and given_1 narrow_1)
theorem sx_nc0 : Cond.not (.castable "java/lang/IndexOutOfBoundsException" "java/lang/IllegalArgumentException") ∈ sx_flat := by unfold sx_flat; decide +kernel
theorem sx_nc1 : Cond.not (.castable "java/lang/IndexOutOfBoundsException" "java/lang/IllegalStateException") ∈ sx_flat := by unfold sx_flat; decide +kernel
theorem sx_nc2 : Cond.not (.castable "java/lang/IllegalArgumentException" "java/lang/IndexOutOfBoundsException") ∈ sx_flat := by unfold sx_flat; decide +kernel
theorem sx_nc3 : Cond.not (.castable "java/lang/IllegalArgumentException" "java/lang/IllegalStateException") ∈ sx_flat := by unfold sx_flat; decide +kernel
theorem sx_nc4 : Cond.not (.castable "java/lang/IllegalStateException" "java/lang/IndexOutOfBoundsException") ∈ sx_flat := by unfold sx_flat; decide +kernel
theorem sx_nc5 : Cond.not (.castable "java/lang/IllegalStateException" "java/lang/IllegalArgumentException") ∈ sx_flat := by unfold sx_flat; decide +kernel
theorem sx_fU : Cond.isRef (.static Bundle.tN "UNASSIGNED_STACK" Bundle.steD) ∈ sx_flat := by unfold sx_flat; decide +kernel
theorem sx_fN : Cond.isRef (.static Bundle.tN "SUPPRESSED_SENTINEL" Bundle.listD) ∈ sx_flat := by unfold sx_flat; decide +kernel
set_option maxRecDepth 100000 in
/-- what the tables and the Statement's start give -/
theorem sx_known {args : Array Value} {s : State} (hts : ∀ w ∈ lw_tbl, w.before args s = true) (hgv : (Jvm.Cond.and given_1 narrow_1).before args s = true) : ∃ C : sx_C, sx_sz C = s.heap.size ∧ sx_K C s ∧ va_AO "StringShed$Shed" s ∧ sx_thr C s ∧ s.vm.findClass ("[" ++ FieldType.long.toString) = some (sx_cJ C) := by
  have hts' : ∀ w ∈ sx_T, w.before args s = true := fun w hw => hts w (sx_T_tbl w hw)
  have hfl : ∀ w ∈ sx_flat, w.before args s = true := flat_of_before _ hgv
  obtain ⟨c0, i0, K0⟩ := u_known (C := RX0) (T := TX0) (N := 2) (n := 2) hts' inX0 (hts' _ tw_199)
  obtain ⟨c1, i1, K1⟩ := u_known (C := RX1) (T := TX1) (N := 3) (n := 3) hts' inX1 (hts' _ tw_167)
  obtain ⟨c2, i2, K2⟩ := u_known (C := RX3) (T := TX3) (N := 8) (n := 8) hts' inX3 (hts' _ tw_90)
  obtain ⟨c3, i3, K3⟩ := u_known (C := RX4) (T := TX4) (N := 4) (n := 4) hts' inX4 (hts' _ tw_96)
  obtain ⟨c4, i4, K4⟩ := u_known (C := RX5) (T := TX5) (N := 5) (n := 5) hts' inX5 (hts' _ tw_117)
  obtain ⟨c5, i5, K5⟩ := u_known (C := RX6) (T := TX6) (N := 2) (n := 2) hts' inX6 (hts' _ tw_186)
  obtain ⟨c6, i6, K6⟩ := u_known (C := RX7) (T := TX7) (N := 7) (n := 7) hts' inX7 (hts' _ tw_82)
  obtain ⟨c7, i7, K7⟩ := u_known (C := RX8) (T := TX8) (N := 18) (n := 18) hts' inX8 (hts' _ tw_966)
  obtain ⟨dC, dI, hKc⟩ : ∃ (dC : Nat → ClassId) (dI : Nat → Nat → Nat), ∀ (k : Nat) (q : vw_C), vwCl[k]? = some q → u_Kn s q.1 q.2.1 q.2.2 (dC k) (dI k) := by
    refine ⟨fun k => match k with | 0 => c0 | 1 => c1 | 2 => c2 | 3 => c3 | 4 => c4 | 5 => c5 | 6 => c6 | _ => c7, fun k => match k with | 0 => i0 | 1 => i1 | 2 => i2 | 3 => i3 | 4 => i4 | 5 => i5 | 6 => i6 | _ => i7, ?_⟩
    intro k q hq
    match k, hq with
    | 0, hq => cases hq; exact K0
    | 1, hq => cases hq; exact K1
    | 2, hq => cases hq; exact K2
    | 3, hq => cases hq; exact K3
    | 4, hq => cases hq; exact K4
    | 5, hq => cases hq; exact K5
    | 6, hq => cases hq; exact K6
    | 7, hq => cases hq; exact K7
    | k + 8, hq => simp [vwCl] at hq
  obtain ⟨cI, kI, mI, fI, gI, hI⟩ := Cond.arrayClass_spec (hts' _ tw_114)
  obtain ⟨cZ, kZ, mZ, fZ, gZ, hZ⟩ := Cond.arrayClass_spec (hts' _ tw_115)
  obtain ⟨cJ, kJ, mJ, fJ, gJ, hJ⟩ := Cond.arrayClass_spec (hts' _ tw_1377)
  have hao : (Cond.arrayOver (.object "StringShed$Shed")).before args s = true := hts _ (List.mem_of_getElem? (i := 173) rfl)
  obtain ⟨mQ, cQ, kQ, fS, -, gQ, hQ, fQ⟩ := Cond.arrayOver_spec hao
  have hA : ∀ a : Nat, a < s.heap.size → ¬ sx_A ((fun _ _ => 0, (dC, dI), cI, cZ, cJ, cQ, s.heap.size) : sx_C) a := fun a h1 h2 => absurd h1 (Nat.not_lt.mpr h2)
  refine ⟨(fun _ _ => 0, (dC, dI), cI, cZ, cJ, cQ, s.heap.size), rfl, ⟨⟨hKc, ?_⟩, fun w hw => va_Nw.of (sx_nest_good w hw) (hts w (sx_nest_tbl w hw))⟩, va_AO.of hao, ⟨fun q hq => ?_, vx_Zqof (hts _ (List.mem_of_getElem? (i := 459) rfl)) (hts' _ tw_72) (hfl _ sx_fU) hA, vx_Zqof (hts _ (List.mem_of_getElem? (i := 461) rfl)) (hts' _ tw_72) (hfl _ sx_fN) hA, fun w hw => va_Nw.of (sx_exw_ot w hw) (hts w (sx_exw_tbl w hw)), ?_⟩, fJ⟩
  · intro k q hq
    match k, hq with
    | 0, hq => cases hq; exact ⟨fun n z => ⟨fun k h => (by cases h), kI, gI, mI, hI⟩, fI⟩
    | 1, hq => cases hq; exact ⟨fun n z => ⟨fun k h => (by cases h), kZ, gZ, mZ, hZ⟩, fZ⟩
    | 2, hq => cases hq; exact ⟨fun n z => ⟨fun k h => (by cases h), kJ, gJ, mJ, hJ⟩, fJ⟩
    | 3, hq => cases hq; exact ⟨fun n z => ⟨fun k h => (by cases h), kQ, gQ, mQ, hQ⟩, kQ, mQ, gQ, hQ, fS, fQ⟩
    | k + 4, hq => simp at hq
  · have hw := hts _ (sx_txt_tbl q hq)
    obtain ⟨_, _, _, a, -, -, -, -, -, ev⟩ := Cond.stringRef_spec K6.2.1 hw
    exact ⟨a, vk_R.of hw ev⟩
  · exact (List.forall_mem_cons.mpr ⟨va_Nc.of (hfl _ sx_nc0), (List.forall_mem_cons.mpr ⟨va_Nc.of (hfl _ sx_nc1), (List.forall_mem_cons.mpr ⟨va_Nc.of (hfl _ sx_nc2), (List.forall_mem_cons.mpr ⟨va_Nc.of (hfl _ sx_nc3), (List.forall_mem_cons.mpr ⟨va_Nc.of (hfl _ sx_nc4), (List.forall_mem_cons.mpr ⟨va_Nc.of (hfl _ sx_nc5), (fun _ h => absurd h List.not_mem_nil)⟩)⟩)⟩)⟩)⟩)⟩)
