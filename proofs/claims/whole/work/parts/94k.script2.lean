/-! THE OTHER COMMANDS OF A SCRIPT -/
section
variable {A : SH} {n : Nat}
theorem w01 {b : Int32} (hb : b = 0 ∨ b = 1) {M : sx_M} {Q : Int32 × sx_M → Prop} (h : Q (b, M)) : wp (if b = 0 ∨ b = 1 then some (b, M) else none) Q := wp_ifp hb (wp_some h)
theorem ifs_c {c k : Nat} (hc : c < 1000) (hk : k < 1000) (h : c ≠ k) : ¬ nI c = nI k := by rw [iI_eq (by omega) (by omega)]; exact h
theorem do_4 (hI : IS A) (hn : n < 100000) (hc : n / 10000 = 4) : DO A n := by
  obtain ⟨a1, a2, a3, a4, a5, a6⟩ := su_open hn hc (M := (fun _ _ _ => 0, fun _ _ _ => 0))
  have hb : n % 10000 / 100 < 100 := by omega
  generalize n % 10000 / 100 = hi at *
  generalize n % 10000 % 100 = lo at *
  have cpre : ∀ (M : sx_M) (Q : Int32 × sx_M → Prop), wp (if (1 : Int32) < nI hi then
      (if (0 : Int32) = 0 ∨ (0 : Int32) = 1 then some ((0 : Int32), M) else none)
    else
      sx_bd (fun (v20 : Int32) =>
        sx_b2 (f3_attempt 1 (6 : Int32) (-9 : Int32) (nI lo) v20 M) fun v21 M22 =>
        if v21 = 0 then
          (if (0 : Int32) = 0 ∨ (0 : Int32) = 1 then some ((0 : Int32), M22) else none)
        else
          (if (1 : Int32) = 0 ∨ (1 : Int32) = 1 then some ((1 : Int32), M22) else none)) fun j129 =>
      if nI hi = 0 then
        j129 (1 : Int32)
      else
        j129 (0 : Int32)) Q → wp (f2_succeeds 1 (nI n) M) Q := fun M Q hQ => by
    rw [f2_succeeds]
    with_reducible refine wp_bd ?_
    with_reducible refine wp_bd ?_
    with_reducible refine wp_bd ?_
    rw [a2, a4, a3, a1]
    refine wp_ifn (by decide) ?_
    refine wp_ifn (by decide) ?_
    refine wp_ifn (by decide) ?_
    refine wp_ifp rfl ?_
    exact hQ
  have mpre : ∀ (M : sx_M) (Q : Int32 × sx_M → Prop), wp (if (10 : Int32) ≤ nI hi then
      (if (0 : Int32) = 0 ∨ (0 : Int32) = 1 then some ((0 : Int32), M) else none)
    else
      sx_b2 (f8_pins (nI hi) (nI lo) M) fun v25 M26 =>
      if v25 = 0 then
        (if (0 : Int32) = 0 ∨ (0 : Int32) = 1 then some ((0 : Int32), M26) else none)
      else
        (if (1 : Int32) = 0 ∨ (1 : Int32) = 1 then some ((1 : Int32), M26) else none)) Q → wp (f8_does (nI n) M) Q := fun M Q hQ => by
    rw [f8_does]
    with_reducible refine wp_bd ?_
    with_reducible refine wp_bd ?_
    with_reducible refine wp_bd ?_
    rw [a5, a6, a1]
    refine wp_ifn (by decide) ?_
    refine wp_ifn (by decide) ?_
    refine wp_ifn (by decide) ?_
    refine wp_ifp rfl ?_
    exact hQ
  have mres : ∀ (ok : Bool) (A' : SH), hi < 10 → MT A (f8_pins (nI hi) (nI lo)) ok A' → MT A (f8_does (nI n)) ok A' := fun ok A' hh hm M h => by
    refine mpre M _ ?_
    refine wp_ifn (by rw [show (10 : Int32) = nI 10 from rfl, iI_le (by omega) (by omega)]; omega) ?_
    obtain ⟨⟨v, M9⟩, e9, q1, q2, q3⟩ := hm M h
    dsimp only at q1 q2 q3
    subst q1
    refine wp_b2 e9 ?_
    cases ok with
    | false => exact wp_ifp rfl (w01 (Or.inl rfl) ⟨rfl, q2, q3⟩)
    | true => exact wp_ifn (by decide) (w01 (Or.inr rfl) ⟨rfl, q2, q3⟩)
  by_cases h1 : 1 < hi
  · refine ⟨false, A, hI, fun M h => cpre M _ ?_, ?_⟩
    · refine wp_ifp (by rw [show (1 : Int32) = nI 1 from rfl, iI_lt (by omega) (by omega)]; exact h1) ?_
      exact w01 (Or.inl rfl) ⟨rfl, h, Fr.rf⟩
    · by_cases h10 : 10 ≤ hi
      · intro M h
        refine mpre M _ ?_
        refine wp_ifp (by rw [show (10 : Int32) = nI 10 from rfl, iI_le (by omega) (by omega)]; exact h10) ?_
        exact w01 (Or.inl rfl) ⟨rfl, h, fun _ _ _ _ => rfl⟩
      · exact mres false A (by omega) (m_pins_no hI (by omega) (Or.inl h1))
  · have hz : ∃ is : Bool, nI hi = (if is then 0 else 1 : Int32) ∧ (nI hi = 0 ↔ is = true) := by
      have : hi = 0 ∨ hi = 1 := by omega
      rcases this with rfl | rfl
      · exact ⟨true, rfl, ⟨fun _ => rfl, fun _ => rfl⟩⟩
      · exact ⟨false, rfl, ⟨fun q => absurd q (by decide), fun q => by cases q⟩⟩
    obtain ⟨is, eis, his⟩ := hz
    have cres : ∀ (ok : Bool) (A' : SH), CT A 6 (-9) (nI lo) (bI01 is) ok A' → ∀ M, CS M 1 A → wp (f2_succeeds 1 (nI n) M) (fun r => r.1 = bI01 ok ∧ CS r.2 1 A' ∧ Fr (pSh 1) M r.2) := fun ok A' ht M h => by
      refine cpre M _ ?_
      refine wp_ifn (by rw [show (1 : Int32) = nI 1 from rfl, iI_lt (by omega) (by omega)]; exact h1) ?_
      obtain ⟨⟨v, M6⟩, e6, q1, q2, q3⟩ := ht.2 1 M h
      dsimp only at q1 q2 q3
      subst q1
      have fin : wp (sx_b2 (f3_attempt 1 (6 : Int32) (-9 : Int32) (nI lo) (bI01 is) M) fun v21 M22 =>
        if v21 = 0 then
          (if (0 : Int32) = 0 ∨ (0 : Int32) = 1 then some ((0 : Int32), M22) else none)
        else
          (if (1 : Int32) = 0 ∨ (1 : Int32) = 1 then some ((1 : Int32), M22) else none)) (fun r => r.1 = bI01 ok ∧ CS r.2 1 A' ∧ Fr (pSh 1) M r.2) := by
        refine wp_b2 e6 ?_
        cases ok with
        | false => exact wp_ifp rfl (w01 (Or.inl rfl) ⟨rfl, q2, q3⟩)
        | true => exact wp_ifn (by decide) (w01 (Or.inr rfl) ⟨rfl, q2, q3⟩)
      with_reducible refine wp_bd ?_
      cases is with
      | true => exact wp_ifp (his.mpr rfl) fin
      | false => exact wp_ifn (fun q => by have := his.mp q; cases this) fin
    rcases try_pin hI (-9) (nI lo) is with ⟨hno, ht⟩ | ⟨p', hp', ep, hTp, ht⟩
    · exact ⟨false, A, hI, cres _ _ ht, mres false A (by omega) (m_pins_no hI (by omega) (Or.inr hno))⟩
    · refine ⟨true, _, ht.1, cres _ _ ht, mres true _ (by omega) ?_⟩
      rw [eis, ep]
      exact m_pins_yes hI hp' hTp is
theorem do_5 (hI : IS A) (hn : n < 100000) (hc : n / 10000 = 5) : DO A n := by
  obtain ⟨a1, a2, a3, a4, a5, a6⟩ := su_open hn hc (M := (fun _ _ _ => 0, fun _ _ _ => 0))
  have hb : n % 10000 < 10000 := Nat.mod_lt _ (by omega)
  generalize n % 10000 = rest at *
  have cpre : ∀ (M : sx_M) (Q : Int32 × sx_M → Prop), wp (if nI rest = 0 then
      sx_b2 (f3_attempt 1 (7 : Int32) (-9 : Int32) (-9 : Int32) (0 : Int32) M) fun v30 M31 =>
      if v30 = 0 then
        (if (0 : Int32) = 0 ∨ (0 : Int32) = 1 then some ((0 : Int32), M31) else none)
      else
        (if (1 : Int32) = 0 ∨ (1 : Int32) = 1 then some ((1 : Int32), M31) else none)
    else
      (if (0 : Int32) = 0 ∨ (0 : Int32) = 1 then some ((0 : Int32), M) else none)) Q → wp (f2_succeeds 1 (nI n) M) Q := fun M Q hQ => by
    rw [f2_succeeds]
    with_reducible refine wp_bd ?_
    with_reducible refine wp_bd ?_
    with_reducible refine wp_bd ?_
    rw [a2, a1]
    refine wp_ifn (by decide) ?_
    refine wp_ifn (by decide) ?_
    refine wp_ifn (by decide) ?_
    refine wp_ifn (by decide) ?_
    refine wp_ifp rfl ?_
    exact hQ
  have mpre : ∀ (M : sx_M) (Q : Int32 × sx_M → Prop), wp (if nI rest = 0 then
      sx_b2 (f8_begins M) fun v33 M34 =>
      if v33 = 0 then
        (if (0 : Int32) = 0 ∨ (0 : Int32) = 1 then some ((0 : Int32), M34) else none)
      else
        (if (1 : Int32) = 0 ∨ (1 : Int32) = 1 then some ((1 : Int32), M34) else none)
    else
      (if (0 : Int32) = 0 ∨ (0 : Int32) = 1 then some ((0 : Int32), M) else none)) Q → wp (f8_does (nI n) M) Q := fun M Q hQ => by
    rw [f8_does]
    with_reducible refine wp_bd ?_
    with_reducible refine wp_bd ?_
    with_reducible refine wp_bd ?_
    rw [a2, a1]
    refine wp_ifn (by decide) ?_
    refine wp_ifn (by decide) ?_
    refine wp_ifn (by decide) ?_
    refine wp_ifn (by decide) ?_
    refine wp_ifp rfl ?_
    exact hQ
  by_cases h0 : rest = 0
  · have e0 : nI rest = 0 := by rw [h0]; rfl
    have res : ∀ (ok : Bool) (A' : SH), CT A 7 (-9) (-9) 0 ok A' → MT A f8_begins ok A' → DO A n := fun ok A' ht hm => by
      refine ⟨ok, A', ht.1, fun M h => cpre M _ ?_, fun M h => mpre M _ ?_⟩
      · refine wp_ifp e0 ?_
        obtain ⟨⟨v, M6⟩, e6, q1, q2, q3⟩ := ht.2 1 M h
        dsimp only at q1 q2 q3
        subst q1
        refine wp_b2 e6 ?_
        cases ok with
        | false => exact wp_ifp rfl (w01 (Or.inl rfl) ⟨rfl, q2, q3⟩)
        | true => exact wp_ifn (by decide) (w01 (Or.inr rfl) ⟨rfl, q2, q3⟩)
      · refine wp_ifp e0 ?_
        obtain ⟨⟨v, M6⟩, e6, q1, q2, q3⟩ := hm M h
        dsimp only at q1 q2 q3
        subst q1
        refine wp_b2 e6 ?_
        cases ok with
        | false => exact wp_ifp rfl (w01 (Or.inl rfl) ⟨rfl, q2, q3⟩)
        | true => exact wp_ifn (by decide) (w01 (Or.inr rfl) ⟨rfl, q2, q3⟩)
    rcases try_begin hI (-9) (-9) 0 with ⟨hG, ht⟩ | ⟨hG, ht⟩
    · exact res _ _ ht (w21_begins_no hG)
    · exact res _ _ ht (w21_begins_yes hI hG)
  · have e0 : ¬ nI rest = 0 := by rw [show (0 : Int32) = nI 0 from rfl, iI_eq (by omega) (by omega)]; exact h0
    exact ⟨false, A, hI, fun M h => cpre M _ (wp_ifn e0 (w01 (Or.inl rfl) ⟨rfl, h, Fr.rf⟩)), fun M h => mpre M _ (wp_ifn e0 (w01 (Or.inl rfl) ⟨rfl, h, fun _ _ _ _ => rfl⟩))⟩
theorem do_6 (hI : IS A) (hn : n < 100000) (hc : n / 10000 = 6) : DO A n := by
  obtain ⟨a1, a2, a3, a4, a5, a6⟩ := su_open hn hc (M := (fun _ _ _ => 0, fun _ _ _ => 0))
  have hb : n % 10000 / 100 < 100 := by omega
  have hlo : n % 10000 % 100 < 100 := Nat.mod_lt _ (by omega)
  generalize n % 10000 / 100 = hi at *
  generalize n % 10000 % 100 = lo at *
  have cpre : ∀ (M : sx_M) (Q : Int32 × sx_M → Prop), wp (if nI hi = 0 then
      if nI lo < (1 : Int32) then
        (if (0 : Int32) = 0 ∨ (0 : Int32) = 1 then some ((0 : Int32), M) else none)
      else
        sx_b2 (f2_takeSteps 1 (nI lo) M) fun v39 M40 =>
        if v39 = 0 then
          (if (0 : Int32) = 0 ∨ (0 : Int32) = 1 then some ((0 : Int32), M40) else none)
        else
          (if (1 : Int32) = 0 ∨ (1 : Int32) = 1 then some ((1 : Int32), M40) else none)
    else
      (if (0 : Int32) = 0 ∨ (0 : Int32) = 1 then some ((0 : Int32), M) else none)) Q → wp (f2_succeeds 1 (nI n) M) Q := fun M Q hQ => by
    rw [f2_succeeds]
    with_reducible refine wp_bd ?_
    with_reducible refine wp_bd ?_
    with_reducible refine wp_bd ?_
    rw [a2, a4, a3, a1]
    refine wp_ifn (by decide) ?_
    refine wp_ifn (by decide) ?_
    refine wp_ifn (by decide) ?_
    refine wp_ifn (by decide) ?_
    refine wp_ifn (by decide) ?_
    refine wp_ifp rfl ?_
    exact hQ
  have mpre : ∀ (M : sx_M) (Q : Int32 × sx_M → Prop), wp (if nI hi = 0 then
      sx_b2 (f8_steps (nI lo) M) fun v41 M42 =>
      if v41 = 0 then
        (if (0 : Int32) = 0 ∨ (0 : Int32) = 1 then some ((0 : Int32), M42) else none)
      else
        (if (1 : Int32) = 0 ∨ (1 : Int32) = 1 then some ((1 : Int32), M42) else none)
    else
      (if (0 : Int32) = 0 ∨ (0 : Int32) = 1 then some ((0 : Int32), M) else none)) Q → wp (f8_does (nI n) M) Q := fun M Q hQ => by
    rw [f8_does]
    with_reducible refine wp_bd ?_
    with_reducible refine wp_bd ?_
    with_reducible refine wp_bd ?_
    rw [a5, a6, a1]
    refine wp_ifn (by decide) ?_
    refine wp_ifn (by decide) ?_
    refine wp_ifn (by decide) ?_
    refine wp_ifn (by decide) ?_
    refine wp_ifn (by decide) ?_
    refine wp_ifp rfl ?_
    exact hQ
  by_cases h0 : hi = 0
  · have e0 : nI hi = 0 := by rw [h0]; rfl
    have mres : ∀ (ok : Bool) (A' : SH), MT A (f8_steps (nI lo)) ok A' → MT A (f8_does (nI n)) ok A' := fun ok A' hm M h => by
      refine mpre M _ (wp_ifp e0 ?_)
      obtain ⟨⟨v, M6⟩, e6, q1, q2, q3⟩ := hm M h
      dsimp only at q1 q2 q3
      subst q1
      refine wp_b2 e6 ?_
      cases ok with
      | false => exact wp_ifp rfl (w01 (Or.inl rfl) ⟨rfl, q2, q3⟩)
      | true => exact wp_ifn (by decide) (w01 (Or.inr rfl) ⟨rfl, q2, q3⟩)
    by_cases hl0 : lo = 0
    · refine ⟨false, A, hI, fun M h => cpre M _ (wp_ifp e0 ?_), mres _ _ (w21_steps_no (by omega) (Or.inl hl0))⟩
      refine wp_ifp (by rw [hl0]; decide) ?_
      exact w01 (Or.inl rfl) ⟨rfl, h, Fr.rf⟩
    · have el : ¬ nI lo < (1 : Int32) := by rw [show (1 : Int32) = nI 1 from rfl, iI_lt (by omega) (by omega)]; omega
      have crun : ∀ M, CS M 1 A → wp (f2_takeSteps 1 (nI lo) M) (fun r => r.1 = bI01 A.G ∧ CS r.2 1 (A.steps lo) ∧ Fr (pSh 1) M r.2) := fun M h => by
        rw [f2_takeSteps]
        refine wp_call (w5_isGoing h.2.1) ?_
        obtain ⟨M2, e2, q2, q3⟩ := w3_takeSteps h (k := lo) (by omega)
        refine wp_call e2 ?_
        exact hit01 _ M2 ⟨rfl, q2, q3⟩
      cases hG : A.G with
      | false =>
        have es : A.steps lo = A := SH.steps_stop (j := 0) hG lo (Nat.zero_le _)
        refine ⟨false, A, hI, fun M h => cpre M _ (wp_ifp e0 (wp_ifn el ?_)), mres _ _ (w21_steps_no (by omega) (Or.inr hG))⟩
        obtain ⟨⟨v, M6⟩, e6, q1, q2, q3⟩ := crun M h
        dsimp only at q1 q2 q3
        rw [hG] at q1
        subst q1
        rw [es] at q2
        refine wp_b2 e6 ?_
        exact wp_ifp rfl (w01 (Or.inl rfl) ⟨rfl, q2, q3⟩)
      | true =>
        refine ⟨true, A.steps lo, hI.steps lo, fun M h => cpre M _ (wp_ifp e0 (wp_ifn el ?_)), mres _ _ (w21_steps_yes hI (by omega) hl0 hG)⟩
        obtain ⟨⟨v, M6⟩, e6, q1, q2, q3⟩ := crun M h
        dsimp only at q1 q2 q3
        rw [hG] at q1
        subst q1
        refine wp_b2 e6 ?_
        exact wp_ifn (by decide) (w01 (Or.inr rfl) ⟨rfl, q2, q3⟩)
  · have e0 : ¬ nI hi = 0 := by rw [show (0 : Int32) = nI 0 from rfl, iI_eq (by omega) (by omega)]; exact h0
    exact ⟨false, A, hI, fun M h => cpre M _ (wp_ifn e0 (w01 (Or.inl rfl) ⟨rfl, h, Fr.rf⟩)), fun M h => mpre M _ (wp_ifn e0 (w01 (Or.inl rfl) ⟨rfl, h, fun _ _ _ _ => rfl⟩))⟩
/-- the class's depth of a part there -/
theorem c_depth (hI : IS A) {M : sx_M} (h : CS M 1 A) {p : Nat} (hp : p < 24) : wp (f3_depthOf 1 (nI p) M) (fun r => (A.H p = false ∧ r = -9) ∨ (A.H p = true ∧ ∃ d, d ≤ 24 ∧ r = nI d ∧ A.g.dp (hol A.P) (p + 4) d)) := by
  obtain ⟨r, e, hr⟩ := w3_depthOf h (v := p + 4) (by omega)
  rw [tI_part] at e
  refine ⟨r, e, ?_⟩
  rcases hr with ⟨d, h1, h2, h3⟩ | ⟨h1, h2⟩
  · exact Or.inr ⟨GT.held_of hI.1 (by omega) h3.1, d, h1, h2, h3⟩
  · exact Or.inl ⟨h2, h1⟩
theorem do_7 (hI : IS A) (hn : n < 100000) (hc : n / 10000 = 7) : DO A n := by
  obtain ⟨a1, a2, a3, a4, a5, a6⟩ := su_open hn hc (M := (fun _ _ _ => 0, fun _ _ _ => 0))
  have hb : n % 10000 / 100 < 100 := by omega
  have hlo : n % 10000 % 100 < 100 := Nat.mod_lt _ (by omega)
  generalize n % 10000 / 100 = hi at *
  generalize n % 10000 % 100 = lo at *
  have hT0 : ∀ p, p < 24 → A.T p = true → p < A.m := fun p _ => hI.2.2.2.1 p
  have cpre : ∀ (M : sx_M) (Q : Int32 × sx_M → Prop), wp (if (1 : Int32) < nI lo then
      (if (0 : Int32) = 0 ∨ (0 : Int32) = 1 then some ((0 : Int32), M) else none)
    else
      (f3_isPart 1 (nI hi) M).bind fun v45 =>
      if v45 = 0 then
        (if (0 : Int32) = 0 ∨ (0 : Int32) = 1 then some ((0 : Int32), M) else none)
      else
        (f3_depthOf 1 (nI hi) M).bind fun v47 =>
        sx_bd (fun (v48 : Int32) =>
          sx_bd (fun (v49 : Int32) =>
            if v48 = v49 then
              (if (1 : Int32) = 0 ∨ (1 : Int32) = 1 then some ((1 : Int32), M) else none)
            else
              (if (0 : Int32) = 0 ∨ (0 : Int32) = 1 then some ((0 : Int32), M) else none)) fun j230 =>
          if nI lo = (1 : Int32) then
            j230 (1 : Int32)
          else
            j230 (0 : Int32)) fun j219 =>
        if v47 = (-9 : Int32) then
          j219 (0 : Int32)
        else
          j219 (1 : Int32)) Q → wp (f2_succeeds 1 (nI n) M) Q := fun M Q hQ => by
    rw [f2_succeeds]
    with_reducible refine wp_bd ?_
    with_reducible refine wp_bd ?_
    with_reducible refine wp_bd ?_
    rw [a2, a4, a3, a1]
    refine wp_ifn (by decide) ?_
    refine wp_ifn (by decide) ?_
    refine wp_ifn (by decide) ?_
    refine wp_ifn (by decide) ?_
    refine wp_ifn (by decide) ?_
    refine wp_ifn (by decide) ?_
    refine wp_ifp rfl ?_
    exact hQ
  have mpre : ∀ (M : sx_M) (Q : Int32 × sx_M → Prop), wp ((f8_isPart 21 (nI hi) M).bind fun v45 =>
    if v45 = 0 then
      (if (0 : Int32) = 0 ∨ (0 : Int32) = 1 then some ((0 : Int32), M) else none)
    else
      if (2 : Int32) ≤ nI lo then
        (if (0 : Int32) = 0 ∨ (0 : Int32) = 1 then some ((0 : Int32), M) else none)
      else
        sx_b2 (f8_isHeld (nI hi) M) fun v51 M52 =>
        sx_bd (fun (v53 : Int32) =>
          if v51 = v53 then
            (if (1 : Int32) = 0 ∨ (1 : Int32) = 1 then some ((1 : Int32), M52) else none)
          else
            (if (0 : Int32) = 0 ∨ (0 : Int32) = 1 then some ((0 : Int32), M52) else none)) fun j217 =>
        if nI lo = (1 : Int32) then
          j217 (1 : Int32)
        else
          j217 (0 : Int32)) Q → wp (f8_does (nI n) M) Q := fun M Q hQ => by
    rw [f8_does]
    with_reducible refine wp_bd ?_
    with_reducible refine wp_bd ?_
    with_reducible refine wp_bd ?_
    rw [a5, a6, a1]
    refine wp_ifn (by decide) ?_
    refine wp_ifn (by decide) ?_
    refine wp_ifn (by decide) ?_
    refine wp_ifn (by decide) ?_
    refine wp_ifn (by decide) ?_
    refine wp_ifn (by decide) ?_
    refine wp_ifp rfl ?_
    exact hQ
  have c0 : ∀ M, CS M 1 A → wp (if (0 : Int32) = 0 ∨ (0 : Int32) = 1 then some ((0 : Int32), M) else none) (fun r => r.1 = bI01 false ∧ CS r.2 1 A ∧ Fr (pSh 1) M r.2) := fun M h => w01 (Or.inl rfl) ⟨rfl, h, Fr.rf⟩
  have m0 : ∀ M, DS M 21 A → wp (if (0 : Int32) = 0 ∨ (0 : Int32) = 1 then some ((0 : Int32), M) else none) (fun q => q.1 = bI01 false ∧ DS q.2 21 A ∧ ∀ k s, k ≠ 21 → k ≠ 25 → q.2.1 k s = M.1 k s) := fun M h => w01 (Or.inl rfl) ⟨rfl, h, fun _ _ _ _ => rfl⟩
  have l1 : (1 : Int32) < nI lo ↔ 1 < lo := by rw [show (1 : Int32) = nI 1 from rfl, iI_lt (by omega) (by omega)]
  have l2 : (2 : Int32) ≤ nI lo ↔ 2 ≤ lo := by rw [show (2 : Int32) = nI 2 from rfl, iI_le (by omega) (by omega)]
  have l3 : nI lo = (1 : Int32) ↔ lo = 1 := by rw [show (1 : Int32) = nI 1 from rfl, iI_eq (by omega) (by omega)]
  by_cases hp : A.isP (nI hi)
  · by_cases h2 : 1 < lo
    · refine ⟨false, A, hI, fun M h => cpre M _ (wp_ifp (l1.mpr h2) (c0 M h)), fun M h => mpre M _ ?_⟩
      obtain ⟨r, e, hr⟩ := w8_isPart row21 h hT0 (nI hi)
      refine wp_call e ?_
      rcases hr with ⟨rfl, -⟩ | ⟨rfl, q⟩
      · exact wp_ifn (by decide) (wp_ifp (l2.mpr (by omega)) (m0 M h))
      · exact absurd hp q
    · obtain ⟨p', hp', ep, hTp⟩ := id hp
      rw [iI_eq (by omega) (by omega)] at ep
      subst ep
      have hl : nI lo = bI01 (decide (lo = 1)) := by
        have : lo = 0 ∨ lo = 1 := by omega
        rcases this with rfl | rfl <;> rfl
      have b01 : ∀ x y : Bool, (bI01 x = bI01 y) ↔ x = y := fun x y => by cases x <;> cases y <;> decide
      refine ⟨(A.H hi == decide (lo = 1)), A, hI, fun M h => cpre M _ (wp_ifn (fun q => h2 (l1.mp q)) ?_), fun M h => mpre M _ ?_⟩
      · obtain ⟨r, e, hr⟩ := w3_isPart h (nI hi)
        refine wp_call e ?_
        rcases hr with ⟨rfl, -⟩ | ⟨rfl, q⟩
        · refine wp_ifn (by decide) ?_
          obtain ⟨d, ed, hd⟩ := c_depth hI h hp'
          refine wp_call ed ?_
          have tail : ∀ b : Bool, b = A.H hi → wp (sx_bd (fun (v49 : Int32) =>
            if bI01 b = v49 then
              (if (1 : Int32) = 0 ∨ (1 : Int32) = 1 then some ((1 : Int32), M) else none)
            else
              (if (0 : Int32) = 0 ∨ (0 : Int32) = 1 then some ((0 : Int32), M) else none)) fun j230 =>
          if nI lo = (1 : Int32) then
            j230 (1 : Int32)
          else
            j230 (0 : Int32)) (fun r => r.1 = bI01 (A.H hi == decide (lo = 1)) ∧ CS r.2 1 A ∧ Fr (pSh 1) M r.2) := fun b hb => by
            subst hb
            have fin : ∀ v : Bool, v = decide (lo = 1) → wp (if bI01 (A.H hi) = bI01 v then
              (if (1 : Int32) = 0 ∨ (1 : Int32) = 1 then some ((1 : Int32), M) else none)
            else
              (if (0 : Int32) = 0 ∨ (0 : Int32) = 1 then some ((0 : Int32), M) else none)) (fun r => r.1 = bI01 (A.H hi == decide (lo = 1)) ∧ CS r.2 1 A ∧ Fr (pSh 1) M r.2) := fun v hv => by
              subst hv
              with_reducible refine wp_if (fun c => ?_) (fun c => ?_) <;> rw [b01] at c
              · rw [c, beq_self_eq_true]
                exact w01 (Or.inr rfl) ⟨rfl, h, Fr.rf⟩
              · have : (A.H hi == decide (lo = 1)) = false := beq_eq_false_iff_ne.mpr c
                rw [this]
                exact c0 M h
            with_reducible refine wp_bd ?_
            by_cases q : lo = 1
            · exact wp_ifp (l3.mpr q) (fin true (by rw [decide_eq_true q]))
            · exact wp_ifn (fun z => q (l3.mp z)) (fin false (by rw [decide_eq_false q]))
          with_reducible refine wp_bd ?_
          rcases hd with ⟨z1, rfl⟩ | ⟨z1, d', z2, rfl, -⟩
          · refine wp_ifp rfl ?_
            exact tail false z1.symm
          · refine wp_ifn (nI_ne_m9 (by omega)) ?_
            exact tail true z1.symm
        · exact absurd hp q
      · obtain ⟨r, e, hr⟩ := w8_isPart row21 h hT0 (nI hi)
        refine wp_call e ?_
        rcases hr with ⟨rfl, -⟩ | ⟨rfl, q⟩
        · refine wp_ifn (by decide) (wp_ifn (fun q => by have := l2.mp q; omega) ?_)
          obtain ⟨⟨v, M5⟩, e5, q1, -, q3, q4⟩ := w21_isHeld hI hp' h
          dsimp only at q1 q3 q4
          subst q1
          refine wp_b2 e5 ?_
          have fin : ∀ v : Bool, v = decide (lo = 1) → wp (if bI01 (A.H hi) = bI01 v then
              (if (1 : Int32) = 0 ∨ (1 : Int32) = 1 then some ((1 : Int32), M5) else none)
            else
              (if (0 : Int32) = 0 ∨ (0 : Int32) = 1 then some ((0 : Int32), M5) else none)) (fun q => q.1 = bI01 (A.H hi == decide (lo = 1)) ∧ DS q.2 21 A ∧ ∀ k s, k ≠ 21 → k ≠ 25 → q.2.1 k s = M.1 k s) := fun v hv => by
              subst hv
              with_reducible refine wp_if (fun c => ?_) (fun c => ?_) <;> rw [b01] at c
              · rw [c, beq_self_eq_true]
                exact w01 (Or.inr rfl) ⟨rfl, q3, fr25 q4⟩
              · have : (A.H hi == decide (lo = 1)) = false := beq_eq_false_iff_ne.mpr c
                rw [this]
                exact w01 (Or.inl rfl) ⟨rfl, q3, fr25 q4⟩
          with_reducible refine wp_bd ?_
          by_cases q : lo = 1
          · exact wp_ifp (l3.mpr q) (fin true (by rw [decide_eq_true q]))
          · exact wp_ifn (fun z => q (l3.mp z)) (fin false (by rw [decide_eq_false q]))
        · exact absurd hp q
  · refine ⟨false, A, hI, fun M h => cpre M _ ?_, fun M h => mpre M _ ?_⟩
    · with_reducible refine wp_if (fun c => ?_) (fun c => ?_)
      · exact c0 M h
      · obtain ⟨r, e, hr⟩ := w3_isPart h (nI hi)
        refine wp_call e ?_
        rcases hr with ⟨rfl, q⟩ | ⟨rfl, -⟩
        · exact absurd q hp
        · exact wp_ifp rfl (c0 M h)
    · obtain ⟨r, e, hr⟩ := w8_isPart row21 h hT0 (nI hi)
      refine wp_call e ?_
      rcases hr with ⟨rfl, q⟩ | ⟨rfl, -⟩
      · exact absurd q hp
      · exact wp_ifp rfl (m0 M h)
end
