/-! SCRIPTS, SIDE BY SIDE -/
section
variable {A : SH} {n : Nat}
theorem DL.held {M : sx_M} (h : DL M A) {p : Nat} (hp : p < 24) (hH : A.H p = true) {d : Nat} (hd : A.g.dp (hol A.P) (p + 4) d) : M.1 25 0 p = nI d := by
  obtain ⟨D, hD⟩ := h
  obtain ⟨q1, q2⟩ := hD p hp
  rcases q2 with ⟨z, -⟩ | ⟨-, -, z⟩
  · rw [hH] at z; cases z
  · rw [q1, GT.dp_uniq z hd]
theorem do_8 (hI : IS A) (hn : n < 100000) (hc : n / 10000 = 8) : DO A n := by
  obtain ⟨a1, a2, a3, a4, a5, a6⟩ := su_open hn hc (M := (fun _ _ _ => 0, fun _ _ _ => 0))
  have hb : n % 10000 / 100 < 100 := by omega
  have hlo : n % 10000 % 100 < 100 := Nat.mod_lt _ (by omega)
  generalize n % 10000 / 100 = hi at *
  generalize n % 10000 % 100 = lo at *
  have hT0 : ∀ p, p < 24 → A.T p = true → p < A.m := fun p _ => hI.2.2.2.1 p
  have cpre : ∀ (M : sx_M) (Q : Int32 × sx_M → Prop), wp ((f3_isPart 1 (nI hi) M).bind fun v54 =>
    if v54 = 0 then
      (if (0 : Int32) = 0 ∨ (0 : Int32) = 1 then some ((0 : Int32), M) else none)
    else
      (f3_depthOf 1 (nI hi) M).bind fun v57 =>
      if v57 = (-9 : Int32) then
        (if (0 : Int32) = 0 ∨ (0 : Int32) = 1 then some ((0 : Int32), M) else none)
      else
        (f3_depthOf 1 (nI hi) M).bind fun v59 =>
        if nI lo < v59 then
          (if (0 : Int32) = 0 ∨ (0 : Int32) = 1 then some ((0 : Int32), M) else none)
        else
          (if (1 : Int32) = 0 ∨ (1 : Int32) = 1 then some ((1 : Int32), M) else none)) Q → wp (f2_succeeds 1 (nI n) M) Q := fun M Q hQ => by
    rw [f2_succeeds]
    with_reducible refine wp_bd ?_
    with_reducible refine wp_bd ?_
    with_reducible refine wp_bd ?_
    rw [a2, a4, a3, a1]
    refine wp_ifn (by decide) ?_
    refine wp_ifn (by decide) ?_
    refine wp_ifn (by decide) ?_
    refine wp_ifn (by decide) ?_
    refine wp_ifn (by decide) ?_
    refine wp_ifn (by decide) ?_
    refine wp_ifn (by decide) ?_
    refine wp_ifp rfl ?_
    exact hQ
  have mpre : ∀ (M : sx_M) (Q : Int32 × sx_M → Prop), wp ((f8_isPart 21 (nI hi) M).bind fun v57 =>
    if v57 = 0 then
      (if (0 : Int32) = 0 ∨ (0 : Int32) = 1 then some ((0 : Int32), M) else none)
    else
      sx_b2 (f8_isHeld (nI hi) M) fun v62 M63 =>
      if v62 = 0 then
        (if (0 : Int32) = 0 ∨ (0 : Int32) = 1 then some ((0 : Int32), M63) else none)
      else
        if sx_in (nI hi) 24 then
        sx_bd (M63.1 25 0 (nI hi).toNatClampNeg) fun v65 =>
        if nI lo < v65 then
          (if (0 : Int32) = 0 ∨ (0 : Int32) = 1 then some ((0 : Int32), M63) else none)
        else
          (if (1 : Int32) = 0 ∨ (1 : Int32) = 1 then some ((1 : Int32), M63) else none)
        else none) Q → wp (f8_does (nI n) M) Q := fun M Q hQ => by
    rw [f8_does]
    with_reducible refine wp_bd ?_
    with_reducible refine wp_bd ?_
    with_reducible refine wp_bd ?_
    rw [a5, a6, a1]
    refine wp_ifn (by decide) ?_
    refine wp_ifn (by decide) ?_
    refine wp_ifn (by decide) ?_
    refine wp_ifn (by decide) ?_
    refine wp_ifn (by decide) ?_
    refine wp_ifn (by decide) ?_
    refine wp_ifn (by decide) ?_
    refine wp_ifp rfl ?_
    exact hQ
  have c0 : ∀ M, CS M 1 A → wp (if (0 : Int32) = 0 ∨ (0 : Int32) = 1 then some ((0 : Int32), M) else none) (fun r => r.1 = bI01 false ∧ CS r.2 1 A ∧ Fr (pSh 1) M r.2) := fun M h => w01 (Or.inl rfl) ⟨rfl, h, Fr.rf⟩
  have m0 : ∀ (M M' : sx_M), DS M' 21 A → (∀ k s, k ≠ 21 → k ≠ 25 → M'.1 k s = M.1 k s) → wp (if (0 : Int32) = 0 ∨ (0 : Int32) = 1 then some ((0 : Int32), M') else none) (fun q => q.1 = bI01 false ∧ DS q.2 21 A ∧ ∀ k s, k ≠ 21 → k ≠ 25 → q.2.1 k s = M.1 k s) := fun M M' h f => w01 (Or.inl rfl) ⟨rfl, h, f⟩
  by_cases hp : A.isP (nI hi)
  · obtain ⟨p', hp', ep, hTp⟩ := id hp
    rw [iI_eq (by omega) (by omega)] at ep
    subst ep
    have cmid : ∀ (M : sx_M), CS M 1 A → ∀ Q : Int32 × sx_M → Prop, wp ((f3_depthOf 1 (nI hi) M).bind fun v57 =>
      if v57 = (-9 : Int32) then
        (if (0 : Int32) = 0 ∨ (0 : Int32) = 1 then some ((0 : Int32), M) else none)
      else
        (f3_depthOf 1 (nI hi) M).bind fun v59 =>
        if nI lo < v59 then
          (if (0 : Int32) = 0 ∨ (0 : Int32) = 1 then some ((0 : Int32), M) else none)
        else
          (if (1 : Int32) = 0 ∨ (1 : Int32) = 1 then some ((1 : Int32), M) else none)) Q → wp (f2_succeeds 1 (nI n) M) Q := fun M h Q hQ => by
      refine cpre M Q ?_
      obtain ⟨r, e, hr⟩ := w3_isPart h (nI hi)
      refine wp_call e ?_
      rcases hr with ⟨rfl, -⟩ | ⟨rfl, q⟩
      · exact wp_ifn (by decide) hQ
      · exact absurd hp q
    have mmid : ∀ (M : sx_M), DS M 21 A → ∀ Q : Int32 × sx_M → Prop, wp (sx_b2 (f8_isHeld (nI hi) M) fun v62 M63 =>
      if v62 = 0 then
        (if (0 : Int32) = 0 ∨ (0 : Int32) = 1 then some ((0 : Int32), M63) else none)
      else
        if sx_in (nI hi) 24 then
        sx_bd (M63.1 25 0 (nI hi).toNatClampNeg) fun v65 =>
        if nI lo < v65 then
          (if (0 : Int32) = 0 ∨ (0 : Int32) = 1 then some ((0 : Int32), M63) else none)
        else
          (if (1 : Int32) = 0 ∨ (1 : Int32) = 1 then some ((1 : Int32), M63) else none)
        else none) Q → wp (f8_does (nI n) M) Q := fun M h Q hQ => by
      refine mpre M Q ?_
      obtain ⟨r, e, hr⟩ := w8_isPart row21 h hT0 (nI hi)
      refine wp_call e ?_
      rcases hr with ⟨rfl, -⟩ | ⟨rfl, q⟩
      · exact wp_ifn (by decide) hQ
      · exact absurd hp q
    cases hH : A.H hi with
    | false =>
      refine ⟨false, A, hI, fun M h => cmid M h _ ?_, fun M h => mmid M h _ ?_⟩
      · obtain ⟨d, ed, hd⟩ := c_depth hI h hp'
        refine wp_call ed ?_
        rcases hd with ⟨-, rfl⟩ | ⟨z, -⟩
        · exact wp_ifp rfl (c0 M h)
        · rw [hH] at z; cases z
      · obtain ⟨⟨v, M5⟩, e5, q1, -, q3, q4⟩ := w21_isHeld hI hp' h
        dsimp only at q1 q3 q4
        rw [hH] at q1
        subst q1
        refine wp_b2 e5 ?_
        exact wp_ifp rfl (m0 M M5 q3 (fr25 q4))
    | true =>
      obtain ⟨d, hd24, hdp⟩ := GT.held_dp (show A.g.held (hol A.P) (hi + 4) = true from hH)
      have hlt : nI lo < nI d ↔ lo < d := iI_lt (by omega) (by omega)
      refine ⟨decide (d ≤ lo), A, hI, fun M h => cmid M h _ ?_, fun M h => mmid M h _ ?_⟩
      · obtain ⟨r, ed, hd⟩ := c_depth hI h hp'
        have er : r = nI d := by
          rcases hd with ⟨z, -⟩ | ⟨-, d', -, z, z2⟩
          · rw [hH] at z; cases z
          · rw [z, GT.dp_uniq z2 hdp]
        subst er
        refine wp_call ed ?_
        refine wp_ifn (nI_ne_m9 (by omega)) ?_
        refine wp_call ed ?_
        with_reducible refine wp_if (fun c => ?_) (fun c => ?_) <;> rw [hlt] at c
        · rw [decide_eq_false (by omega)]; exact c0 M h
        · rw [decide_eq_true (by omega)]; exact w01 (Or.inr rfl) ⟨rfl, h, Fr.rf⟩
      · obtain ⟨⟨v, M5⟩, e5, q1, q2, q3, q4⟩ := w21_isHeld hI hp' h
        dsimp only at q1 q2 q3 q4
        rw [hH] at q1
        subst q1
        refine wp_b2 e5 ?_
        refine wp_ifn (by decide) ?_
        refine wp_ifp (sx_in_n hp' (by omega)) ?_
        with_reducible refine wp_bd ?_
        have ev : M5.1 25 0 (nI hi).toNatClampNeg = nI d := by rw [nI_cl (by omega)]; exact q2.held hp' hH hdp
        rw [ev]
        with_reducible refine wp_if (fun c => ?_) (fun c => ?_) <;> rw [hlt] at c
        · rw [decide_eq_false (by omega)]; exact m0 M M5 q3 (fr25 q4)
        · rw [decide_eq_true (by omega)]; exact w01 (Or.inr rfl) ⟨rfl, q3, fr25 q4⟩
  · refine ⟨false, A, hI, fun M h => cpre M _ ?_, fun M h => mpre M _ ?_⟩
    · obtain ⟨r, e, hr⟩ := w3_isPart h (nI hi)
      refine wp_call e ?_
      rcases hr with ⟨rfl, q⟩ | ⟨rfl, -⟩
      · exact absurd q hp
      · exact wp_ifp rfl (c0 M h)
    · obtain ⟨r, e, hr⟩ := w8_isPart row21 h hT0 (nI hi)
      refine wp_call e ?_
      rcases hr with ⟨rfl, q⟩ | ⟨rfl, -⟩
      · exact absurd q hp
      · exact wp_ifp rfl (m0 M M h (fun _ _ _ _ => rfl))
theorem do_9 (hI : IS A) (hn : n < 100000) (hc : n / 10000 = 9) : DO A n := by
  obtain ⟨a1, a2, a3, a4, a5, a6⟩ := su_open hn hc (M := (fun _ _ _ => 0, fun _ _ _ => 0))
  have hb : n % 10000 < 10000 := Nat.mod_lt _ (by omega)
  have b3 : nI n - nI n / (1000 : Int32) * (1000 : Int32) = nI (n % 1000) := ar_rem (d := 1000) (by omega) (by omega) (by omega)
  have cpre : ∀ (M : sx_M) (Q : Int32 × sx_M → Prop), wp (if (1000 : Int32) ≤ nI (n % 10000) then
      (if (0 : Int32) = 0 ∨ (0 : Int32) = 1 then some ((0 : Int32), M) else none)
    else
      (f3_held 1 M).bind fun v64 =>
      (f3_weightOf 1 v64 M).bind fun v65 =>
      if nI (n % 10000) < v65 then
        (if (0 : Int32) = 0 ∨ (0 : Int32) = 1 then some ((0 : Int32), M) else none)
      else
        (if (1 : Int32) = 0 ∨ (1 : Int32) = 1 then some ((1 : Int32), M) else none)) Q → wp (f2_succeeds 1 (nI n) M) Q := fun M Q hQ => by
    rw [f2_succeeds]
    with_reducible refine wp_bd ?_
    with_reducible refine wp_bd ?_
    with_reducible refine wp_bd ?_
    rw [a2, a1]
    refine wp_ifn (by decide) ?_
    refine wp_ifn (by decide) ?_
    refine wp_ifn (by decide) ?_
    refine wp_ifn (by decide) ?_
    refine wp_ifn (by decide) ?_
    refine wp_ifn (by decide) ?_
    refine wp_ifn (by decide) ?_
    refine wp_ifn (by decide) ?_
    refine wp_ifp rfl ?_
    exact hQ
  have mpre : ∀ (M : sx_M) (Q : Int32 × sx_M → Prop), wp (if (10 : Int32) ≤ nI (n % 10000 / 100) then
      (if (0 : Int32) = 0 ∨ (0 : Int32) = 1 then some ((0 : Int32), M) else none)
    else
      sx_b2 (f8_heldWeight 21 M) fun v72 M73 =>
      if nI (n % 1000) < v72 then
        (if (0 : Int32) = 0 ∨ (0 : Int32) = 1 then some ((0 : Int32), M73) else none)
      else
        (if (1 : Int32) = 0 ∨ (1 : Int32) = 1 then some ((1 : Int32), M73) else none)) Q → wp (f8_does (nI n) M) Q := fun M Q hQ => by
    rw [f8_does]
    with_reducible refine wp_bd ?_
    with_reducible refine wp_bd ?_
    with_reducible refine wp_bd ?_
    rw [a5, b3, a1]
    refine wp_ifn (by decide) ?_
    refine wp_ifn (by decide) ?_
    refine wp_ifn (by decide) ?_
    refine wp_ifn (by decide) ?_
    refine wp_ifn (by decide) ?_
    refine wp_ifn (by decide) ?_
    refine wp_ifn (by decide) ?_
    refine wp_ifn (by decide) ?_
    refine wp_ifp rfl ?_
    exact hQ
  have c0 : ∀ M, CS M 1 A → wp (if (0 : Int32) = 0 ∨ (0 : Int32) = 1 then some ((0 : Int32), M) else none) (fun r => r.1 = bI01 false ∧ CS r.2 1 A ∧ Fr (pSh 1) M r.2) := fun M h => w01 (Or.inl rfl) ⟨rfl, h, Fr.rf⟩
  have m0 : ∀ (M M' : sx_M), DS M' 21 A → (∀ k s, k ≠ 21 → k ≠ 25 → M'.1 k s = M.1 k s) → wp (if (0 : Int32) = 0 ∨ (0 : Int32) = 1 then some ((0 : Int32), M') else none) (fun q => q.1 = bI01 false ∧ DS q.2 21 A ∧ ∀ k s, k ≠ 21 → k ≠ 25 → q.2.1 k s = M.1 k s) := fun M M' h f => w01 (Or.inl rfl) ⟨rfl, h, f⟩
  have l1 : (1000 : Int32) ≤ nI (n % 10000) ↔ 1000 ≤ n % 10000 := by rw [show (1000 : Int32) = nI 1000 from rfl, iI_le (by omega) (by omega)]
  have l2 : (10 : Int32) ≤ nI (n % 10000 / 100) ↔ 10 ≤ n % 10000 / 100 := by rw [show (10 : Int32) = nI 10 from rfl, iI_le (by omega) (by omega)]
  by_cases h1 : 1000 ≤ n % 10000
  · exact ⟨false, A, hI, fun M h => cpre M _ (wp_ifp (l1.mpr h1) (c0 M h)), fun M h => mpre M _ (wp_ifp (l2.mpr (by omega)) (m0 M M h (fun _ _ _ _ => rfl)))⟩
  · have en : n % 1000 = n % 10000 := by omega
    by_cases hw : nI (n % 10000) < sw A.H A.W A.m
    · refine ⟨false, A, hI, fun M h => cpre M _ (wp_ifn (fun q => h1 (l1.mp q)) ?_), fun M h => mpre M _ (wp_ifn (fun q => by have := l2.mp q; omega) ?_)⟩
      · obtain ⟨r, e, hr⟩ := w3_held h
        refine wp_call e ?_
        refine wp_call (w3_weightOf h hr) ?_
        exact wp_ifp hw (c0 M h)
      · obtain ⟨⟨v, M5⟩, e5, q1, -, q3⟩ := w8_heldWeight row21 h hI
        dsimp only at q1 q3
        subst q1
        refine wp_b2 e5 ?_
        rw [en]
        exact wp_ifp hw (m0 M M5 (h.fr q3 (row3_25 row21)) (fr25 q3))
    · refine ⟨true, A, hI, fun M h => cpre M _ (wp_ifn (fun q => h1 (l1.mp q)) ?_), fun M h => mpre M _ (wp_ifn (fun q => by have := l2.mp q; omega) ?_)⟩
      · obtain ⟨r, e, hr⟩ := w3_held h
        refine wp_call e ?_
        refine wp_call (w3_weightOf h hr) ?_
        exact wp_ifn hw (w01 (Or.inr rfl) ⟨rfl, h, Fr.rf⟩)
      · obtain ⟨⟨v, M5⟩, e5, q1, -, q3⟩ := w8_heldWeight row21 h hI
        dsimp only at q1 q3
        subst q1
        refine wp_b2 e5 ?_
        rw [en]
        exact wp_ifn hw (w01 (Or.inr rfl) ⟨rfl, h.fr q3 (row3_25 row21), fr25 q3⟩)
theorem do_0 (hI : IS A) (hn : n < 100000) (hc : n / 10000 = 0) : DO A n := by
  obtain ⟨a1, a2, a3, a4, a5, a6⟩ := su_open hn hc (M := (fun _ _ _ => 0, fun _ _ _ => 0))
  refine ⟨false, A, hI, fun M h => ?_, fun M h => ?_⟩
  · rw [f2_succeeds]
    with_reducible refine wp_bd ?_
    with_reducible refine wp_bd ?_
    with_reducible refine wp_bd ?_
    rw [a1]
    refine wp_ifn (by decide) ?_
    refine wp_ifn (by decide) ?_
    refine wp_ifn (by decide) ?_
    refine wp_ifn (by decide) ?_
    refine wp_ifn (by decide) ?_
    refine wp_ifn (by decide) ?_
    refine wp_ifn (by decide) ?_
    refine wp_ifn (by decide) ?_
    refine wp_ifn (by decide) ?_
    exact wp_some ⟨rfl, h, Fr.rf⟩
  · rw [f8_does]
    with_reducible refine wp_bd ?_
    with_reducible refine wp_bd ?_
    with_reducible refine wp_bd ?_
    rw [a1]
    refine wp_ifn (by decide) ?_
    refine wp_ifn (by decide) ?_
    refine wp_ifn (by decide) ?_
    refine wp_ifn (by decide) ?_
    refine wp_ifn (by decide) ?_
    refine wp_ifn (by decide) ?_
    refine wp_ifn (by decide) ?_
    refine wp_ifn (by decide) ?_
    refine wp_ifn (by decide) ?_
    exact wp_some ⟨rfl, h, fun _ _ _ _ => rfl⟩
theorem do_all (hI : IS A) (hn : n < 100000) : DO A n := by
  have hc : n / 10000 = 0 ∨ n / 10000 = 1 ∨ n / 10000 = 2 ∨ n / 10000 = 3 ∨ n / 10000 = 4 ∨ n / 10000 = 5 ∨ n / 10000 = 6 ∨ n / 10000 = 7 ∨ n / 10000 = 8 ∨ n / 10000 = 9 := by omega
  rcases hc with hc | hc | hc | hc | hc | hc | hc | hc | hc | hc
  · exact do_0 hI hn hc
  · exact do_1 hI hn hc
  · exact do_2 hI hn hc
  · exact do_3 hI hn hc
  · exact do_4 hI hn hc
  · exact do_5 hI hn hc
  · exact do_6 hI hn hc
  · exact do_7 hI hn hc
  · exact do_8 hI hn hc
  · exact do_9 hI hn hc
end
/-! numbers of up to fifteen digits -/
theorem c_limit {k : Nat} (hk : k ≤ 3) (M : sx_M) : f2_limit (nI k) M = some (lN (100000 ^ k)) := by
  refine wp_get ?_
  rw [f2_limit]
  refine wp_up (F := fun m x3 x1 => f2_limit_L4 (nI k) M _ m x1 x3) k (fun j x => x = lN (100000 ^ j)) (fun m j a hj hI kk => ?_) (fun m a hI => ?_) 5000 0 1 (by omega) (by omega) rfl
  · subst hI
    show wp (f2_limit_L4 (nI k) M _ (m + 1) _ (nI j)) _
    rw [f2_limit_L4]
    refine wp_ifn (by rw [iI_le (by omega) (by omega)]; omega) ?_
    refine wp_ifn (by rw [show (3 : Int32) = nI 3 from rfl, iI_le (by omega) (by omega)]; omega) ?_
    with_reducible refine wp_bd ?_
    with_reducible refine wp_bd ?_
    refine kk _ ?_
    rw [show (100000 : Int64) = lN 100000 from rfl, lN_mul]; rfl
  · subst hI
    show wp (f2_limit_L4 (nI k) M _ (m + 1) _ (nI k)) _
    rw [f2_limit_L4]
    refine wp_ifp (by rw [iI_le (by omega) (by omega)]; omega) ?_
    exact wp_some rfl
theorem m_tenTo {k : Nat} (hk : k ≤ 15) (M : sx_M) : f8_tenTo (nI k) M = some (lN (10 ^ k)) := by
  refine wp_get ?_
  rw [f8_tenTo]
  refine wp_up (F := fun m x3 x1 => f8_tenTo_L4 (nI k) M m x1 x3) k (fun j x => x = lN (10 ^ j)) (fun m j a hj hI kk => ?_) (fun m a hI => ?_) 5000 0 1 (by omega) (by omega) rfl
  · subst hI
    show wp (f8_tenTo_L4 (nI k) M (m + 1) _ (nI j)) _
    rw [f8_tenTo_L4]
    refine wp_ifn (by rw [iI_le (by omega) (by omega)]; omega) ?_
    with_reducible refine wp_bd ?_
    with_reducible refine wp_bd ?_
    refine kk _ ?_
    rw [show (10 : Int64) = lN 10 from rfl, lN_mul]; rfl
  · subst hI
    show wp (f8_tenTo_L4 (nI k) M (m + 1) _ (nI k)) _
    rw [f8_tenTo_L4]
    refine wp_ifp (by rw [iI_le (by omega) (by omega)]; omega) ?_
    exact wp_some rfl
theorem c_groupAt {t p : Nat} (ht : t < 9223372036854775808) (hp : p ≤ 2) (M : sx_M) : f2_groupAt (lN t) (nI p) M = some (nI (t / 100000 ^ p % 100000)) := by
  refine wp_get ?_
  rw [f2_groupAt]
  refine wp_up (F := fun m x5 x3 => f2_groupAt_L5 (nI p) M _ m x3 x5) p (fun j x => x = lN (t / 100000 ^ j)) (fun m j a hj hI kk => ?_) (fun m a hI => ?_) 5000 0 (lN t) (by omega) (by omega) (by rw [Nat.pow_zero, Nat.div_one])
  · subst hI
    show wp (f2_groupAt_L5 (nI p) M _ (m + 1) _ (nI j)) _
    rw [f2_groupAt_L5]
    refine wp_ifn (by rw [iI_le (by omega) (by omega)]; omega) ?_
    refine wp_ifn (by rw [show (3 : Int32) = nI 3 from rfl, iI_le (by omega) (by omega)]; omega) ?_
    with_reducible refine wp_bd ?_
    with_reducible refine wp_bd ?_
    refine kk _ ?_
    have hle : t / 100000 ^ j ≤ t := Nat.div_le_self _ _
    rw [show (100000 : Int64) = lN 100000 from rfl, pk_lDiv (by omega) (by omega) (by omega), Nat.div_div_eq_div_mul, ← Nat.pow_succ]
  · subst hI
    show wp (f2_groupAt_L5 (nI p) M _ (m + 1) _ (nI p)) _
    rw [f2_groupAt_L5]
    refine wp_ifp (by rw [iI_le (by omega) (by omega)]; omega) ?_
    refine wp_some ?_
    have hle : t / 100000 ^ p ≤ t := Nat.div_le_self _ _
    rw [show (100000 : Int64) = lN 100000 from rfl, pk_lRem (by omega) (by omega) (by omega), lN_i]
theorem RC.trial1 {M M' : sx_M} {st : ST} (h : RC M st) (hf : Fr (pSh 1) M M') : RC M' st := h.trial hf
theorem pair_runScript (a : Int32) (b : Int64) {ex : Nat → Int32} (h1 : ex 1 = nI 1) : PAIR (fun M => f7_runScript a b M) (fun M => f8_runScript a b M) ex := by
  intro st M hI hR
  have hin : ((1 : Int64) ≤ a.toInt64 ∧ a.toInt64 ≤ 3) ↔ (1 ≤ a ∧ a ≤ 3) := in_iff a 1 3 1 3 (by decide) (by decide)
  have bad : (¬ ((1 ≤ a ∧ a ≤ 3) ∧ ∃ k t, a = nI k ∧ 1 ≤ k ∧ k ≤ 3 ∧ b = lN t ∧ t < 100000 ^ k)) → ∃ (o : Nat ⊕ Int32) (st' : ST), INV st' ∧ wp (f7_runScript a b M) (fun r => r.1 = o ∧ RC r.2 st' ∧ ∀ k s, 17 ≤ k → r.2.1 k s = M.1 k s) ∧ ∀ M2, RM M2 st → wp (f8_runScript a b M2) (fun q => RM q.2 st' ∧ (∀ k s, k ≤ 16 → q.2.1 k s = M2.1 k s) ∧ q.2.1 17 0 0 = o.elim ex (fun _ => 0) ∧ ∀ v, o = .inr v → q.1 = v) := fun hbad => by
    have fin : wp (some ((.inl 1 : Nat ⊕ Int32), M)) (fun r => r.1 = .inl 1 ∧ RC r.2 st ∧ ∀ k s, 17 ≤ k → r.2.1 k s = M.1 k s) := wp_some ⟨rfl, hR, fun _ _ _ => rfl⟩
    refine ⟨.inl 1, st, hI, ?_, fun M2 hM => ?_⟩
    · rw [f7_runScript]
      with_reducible refine wp_bd ?_
      with_reducible refine wp_if (fun c => ?_) (fun c => ?_)
      · exact fin
      · with_reducible refine wp_if (fun c2 => ?_) (fun c2 => ?_)
        · have ha : 1 ≤ a ∧ a ≤ 3 := ⟨by rw [fa_lt] at c; rw [fa_le]; omega, c2⟩
          obtain ⟨k, hk1, hk3, rfl⟩ : ∃ k, 1 ≤ k ∧ k ≤ 3 ∧ a = nI k := by
            have ha' := ha
            rw [fa_le, fa_le] at ha'
            have z0 : (1 : Int32).toInt = 1 := by decide
            have z1 : (3 : Int32).toInt = 3 := by decide
            rw [z0, z1] at ha'
            exact ⟨a.toInt.toNat, by omega, by omega, by rw [fa_eq, nI_toInt (by omega)]; omega⟩
          with_reducible refine wp_bd ?_
          with_reducible refine wp_if (fun c3 => ?_) (fun c3 => ?_) <;> rw [lcmp_lt] at c3
          · exact fin
          · obtain ⟨t, ht, rfl⟩ := pk_lOf c3
            refine wp_call (c_limit hk3 M) ?_
            have hpw : 100000 ^ k ≤ 100000 ^ 3 := Nat.pow_le_pow_right (by omega) hk3
            with_reducible refine wp_if (fun c4 => ?_) (fun c4 => ?_) <;> rw [lcmp_lt, pk_lLT ht (by omega)] at c4
            · exact absurd ⟨ha, k, t, rfl, hk1, hk3, rfl, c4⟩ hbad
            · exact fin
        · exact fin
    · rw [f8_runScript]
      obtain ⟨r1, e1, hr1⟩ := w8_in a.toInt64 1 3 M2
      refine wp_call e1 ?_
      with_reducible refine wp_bd ?_
      with_reducible refine wp_bd ?_
      rcases hr1 with ⟨rfl, q⟩ | ⟨rfl, q⟩
      · have ha := hin.mp q
        obtain ⟨k, hk1, hk3, rfl⟩ : ∃ k, 1 ≤ k ∧ k ≤ 3 ∧ a = nI k := by
          have ha' := ha
          rw [fa_le, fa_le] at ha'
          have z0 : (1 : Int32).toInt = 1 := by decide
          have z1 : (3 : Int32).toInt = 3 := by decide
          rw [z0, z1] at ha'
          exact ⟨a.toInt.toNat, by omega, by omega, by rw [fa_eq, nI_toInt (by omega)]; omega⟩
        refine wp_ifn (by decide) ?_
        with_reducible refine wp_bd ?_
        refine wp_ifn (by decide) ?_
        rw [show (5 : Int32) = nI 5 from rfl, nI_mul]
        refine wp_call (m_tenTo (k := 5 * k) (by omega) M2) ?_
        have e10 : 10 ^ (5 * k) = 100000 ^ k := by rw [Nat.pow_mul]
        have hpw : 100000 ^ k ≤ 100000 ^ 3 := Nat.pow_le_pow_right (by omega) hk3
        have hpos : 1 ≤ 100000 ^ k := Nat.one_le_pow _ _ (by omega)
        rw [e10, show (1 : Int64) = lN 1 from rfl, lN_sub hpos]
        obtain ⟨r2, e2, hr2⟩ := w8_in b 0 (lN (100000 ^ k - 1)) M2
        refine wp_call e2 ?_
        rcases hr2 with ⟨-, q1, q2⟩ | ⟨rfl, -⟩
        · exfalso
          obtain ⟨t, ht, rfl⟩ := pk_lOf (show ¬ b < 0 by rw [fa_lt64]; rw [fa_le64] at q1; omega)
          rw [pk_lLE ht (by omega)] at q2
          exact hbad ⟨ha, k, t, rfl, hk1, hk3, rfl, by omega⟩
        · refine wp_ifp rfl ?_
          exact m_no hM (n := 1) (by omega) (by omega) h1
      · refine wp_ifp rfl ?_
        exact m_no hM (n := 1) (by omega) (by omega) h1
  by_cases hgood : (1 ≤ a ∧ a ≤ 3) ∧ ∃ k t, a = nI k ∧ 1 ≤ k ∧ k ≤ 3 ∧ b = lN t ∧ t < 100000 ^ k
  · obtain ⟨ha, k, t, rfl, hk1, hk3, rfl, ht⟩ := hgood
    have hpw : 100000 ^ k ≤ 100000 ^ 3 := Nat.pow_le_pow_right (by omega) hk3
    have hpos : 1 ≤ 100000 ^ k := Nat.one_le_pow _ _ (by omega)
    -- the commands, one after another
    have run : ∀ (r : Nat) (j : Nat) (B : SH), j + r = k → IS B → ∃ (v : Int32), (∀ (N : Nat) (M : sx_M), r < N → RC M st → CS M 1 B → wp (f7_runScript_L59 (nI k) (lN t) N (nI j) M) (fun q => q.1 = .inr v ∧ RC q.2 st ∧ ∀ k s, 17 ≤ k → q.2.1 k s = M.1 k s)) ∧ (∀ (N : Nat) (M : sx_M), r < N → DS M 21 B → wp (f8_runScript_L62 (nI k) (lN t) N (nI j) M) (fun q => q.1 = v ∧ ∀ k s, k ≠ 21 → k ≠ 25 → q.2.1 k s = M.1 k s)) := by
      intro r
      induction r with
      | zero =>
        intro j B hj hIB
        refine ⟨-9, fun N M hN hR hB => ?_, fun N M hN hB => ?_⟩
        · obtain ⟨N, rfl⟩ : ∃ N', N = N' + 1 := ⟨N - 1, by omega⟩
          rw [f7_runScript_L59]
          refine wp_ifp (by rw [iI_le (by omega) (by omega)]; omega) ?_
          exact wp_some ⟨rfl, hR, fun _ _ _ => rfl⟩
        · obtain ⟨N, rfl⟩ : ∃ N', N = N' + 1 := ⟨N - 1, by omega⟩
          rw [f8_runScript_L62]
          refine wp_ifp (by rw [iI_le (by omega) (by omega)]; omega) ?_
          exact wp_some ⟨rfl, fun _ _ _ _ => rfl⟩
      | succ r ih =>
        intro j B hj hIB
        have hgl : t / 100000 ^ (k - 1 - j) % 100000 < 100000 := Nat.mod_lt _ (by omega)
        obtain ⟨ok, B', hIB', hc, hm⟩ := do_all hIB hgl
        have epl : (nI k - (1 : Int32)) - nI j = nI (k - 1 - j) := by rw [iI_pred (by omega), nI_sub (by omega)]
        have e10 : 10 ^ (5 * (k - 1 - j)) = 100000 ^ (k - 1 - j) := by rw [Nat.pow_mul]
        have hpw2 : 100000 ^ (k - 1 - j) ≤ 100000 ^ 3 := Nat.pow_le_pow_right (by omega) (by omega)
        have hpos2 : 1 ≤ 100000 ^ (k - 1 - j) := Nat.one_le_pow _ _ (by omega)
        have cstep : ∀ (N : Nat) (M : sx_M), RC M st → CS M 1 B → ∀ Q : (Nat ⊕ Int32) × sx_M → Prop, (∀ M1, RC M1 st → CS M1 1 B' → (∀ k s, 17 ≤ k → M1.1 k s = M.1 k s) → wp (if bI01 ok = 0 then some (.inr (nI j), M1) else f7_runScript_L59 (nI k) (lN t) N (nI j + 1) M1) Q) → wp (f7_runScript_L59 (nI k) (lN t) (N + 1) (nI j) M) Q := fun N M hR hB Q hQ => by
          rw [f7_runScript_L59]
          refine wp_ifn (by rw [iI_le (by omega) (by omega)]; omega) ?_
          rw [epl]
          refine wp_call (c_groupAt (t := t) (p := k - 1 - j) (by omega) (by omega) M) ?_
          obtain ⟨⟨v, M1⟩, e1, q1, q2, q3⟩ := hc M hB
          dsimp only at q1 q2 q3
          subst q1
          refine wp_b2 e1 ?_
          exact hQ M1 (hR.trial q3) q2 (fun k s hk => q3.1 k s (fun q => by have := q.1; omega))
        have mstep : ∀ (N : Nat) (M : sx_M), DS M 21 B → ∀ Q : Int32 × sx_M → Prop, (∀ M1, DS M1 21 B' → (∀ k s, k ≠ 21 → k ≠ 25 → M1.1 k s = M.1 k s) → wp (if bI01 ok = 0 then some (nI j, M1) else f8_runScript_L62 (nI k) (lN t) N (nI j + 1) M1) Q) → wp (f8_runScript_L62 (nI k) (lN t) (N + 1) (nI j) M) Q := fun N M hB Q hQ => by
          rw [f8_runScript_L62]
          refine wp_ifn (by rw [iI_le (by omega) (by omega)]; omega) ?_
          rw [epl, show (5 : Int32) = nI 5 from rfl, nI_mul]
          refine wp_call (m_tenTo (k := 5 * (k - 1 - j)) (by omega) M) ?_
          rw [e10]
          refine wp_ifn (by rw [show (0 : Int64) = lN 0 from rfl, pk_lEQ (by omega) (by omega)]; omega) ?_
          have hle : t / 100000 ^ (k - 1 - j) ≤ t := Nat.div_le_self _ _
          rw [pk_lDiv (by omega) (by omega) (by omega), show (100000 : Int64) = lN 100000 from rfl, pk_lRem (by omega) (by omega) (by omega), lN_i]
          obtain ⟨⟨v, M1⟩, e1, q1, q2, q3⟩ := hm M hB
          dsimp only at q1 q2 q3
          subst q1
          refine wp_b2 e1 ?_
          exact hQ M1 q2 q3
        cases ok with
        | false =>
          refine ⟨nI j, fun N M hN hR hB => ?_, fun N M hN hB => ?_⟩
          · obtain ⟨N, rfl⟩ : ∃ N', N = N' + 1 := ⟨N - 1, by omega⟩
            refine cstep N M hR hB _ (fun M1 hR1 _ f1 => ?_)
            exact wp_ifp rfl (wp_some ⟨rfl, hR1, f1⟩)
          · obtain ⟨N, rfl⟩ : ∃ N', N = N' + 1 := ⟨N - 1, by omega⟩
            refine mstep N M hB _ (fun M1 _ f1 => ?_)
            exact wp_ifp rfl (wp_some ⟨rfl, f1⟩)
        | true =>
          obtain ⟨v, hcv, hmv⟩ := ih (j + 1) B' (by omega) hIB'
          refine ⟨v, fun N M hN hR hB => ?_, fun N M hN hB => ?_⟩
          · obtain ⟨N, rfl⟩ : ∃ N', N = N' + 1 := ⟨N - 1, by omega⟩
            refine cstep N M hR hB _ (fun M1 hR1 hB1 f1 => ?_)
            refine wp_ifn (by decide) ?_
            rw [iI_succ]
            exact wp_mono (hcv N M1 (by omega) hR1 hB1) (fun q hq => ⟨hq.1, hq.2.1, fun k s hk => (hq.2.2 k s hk).trans (f1 k s hk)⟩)
          · obtain ⟨N, rfl⟩ : ∃ N', N = N' + 1 := ⟨N - 1, by omega⟩
            refine mstep N M hB _ (fun M1 hB1 f1 => ?_)
            refine wp_ifn (by decide) ?_
            rw [iI_succ]
            exact wp_mono (hmv N M1 (by omega) hB1) (fun q hq => ⟨hq.1, fun k s k1 k2 => (hq.2 k s k1 k2).trans (f1 k s k1 k2)⟩)
    obtain ⟨v, hcv, hmv⟩ := run k 0 st.A (by omega) hI.1
    refine ⟨.inr v, st, hI, ?_, fun M2 hM => ?_⟩
    · show wp (f7_runScript (nI k) (lN t) M) _
      rw [f7_runScript]
      with_reducible refine wp_bd ?_
      refine wp_ifn (by rw [show (1 : Int32) = nI 1 from rfl, iI_lt (by omega) (by omega)]; omega) ?_
      refine wp_ifp ha.2 ?_
      with_reducible refine wp_bd ?_
      refine wp_ifn (by rw [lcmp_lt, show (0 : Int64) = lN 0 from rfl, pk_lLT (by omega) (by omega)]; omega) ?_
      refine wp_call (c_limit hk3 M) ?_
      refine wp_ifp (by rw [lcmp_lt, pk_lLT (by omega) (by omega)]; exact ht) ?_
      obtain ⟨M6, e6, c6, f6⟩ := w3_copyFrom (s := 1) (s1 := 0) (by omega) hR.1
      refine wp_call e6 ?_
      exact wp_mono (hcv 5000 M6 (by omega) (hR.trial f6) c6) (fun q hq => ⟨hq.1, hq.2.1, fun k s hk => (hq.2.2 k s hk).trans (f6.1 k s (fun q => by have := q.1; omega))⟩)
    · show wp (f8_runScript (nI k) (lN t) M2) _
      rw [f8_runScript]
      obtain ⟨r1, e1, hr1⟩ := w8_in (nI k).toInt64 1 3 M2
      refine wp_call e1 ?_
      with_reducible refine wp_bd ?_
      with_reducible refine wp_bd ?_
      rcases hr1 with ⟨rfl, -⟩ | ⟨rfl, q⟩
      · refine wp_ifn (by decide) ?_
        with_reducible refine wp_bd ?_
        refine wp_ifn (by decide) ?_
        rw [show (5 : Int32) = nI 5 from rfl, nI_mul]
        refine wp_call (m_tenTo (k := 5 * k) (by omega) M2) ?_
        have e10 : 10 ^ (5 * k) = 100000 ^ k := by rw [Nat.pow_mul]
        rw [e10, show (1 : Int64) = lN 1 from rfl, lN_sub hpos]
        obtain ⟨r2, e2, hr2⟩ := w8_in (lN t) 0 (lN (100000 ^ k - 1)) M2
        refine wp_call e2 ?_
        rcases hr2 with ⟨rfl, -⟩ | ⟨-, q⟩
        · refine wp_ifn (by decide) ?_
          refine m_yes ?_
          have r4 := hM.ref 0
          have lk : ∀ (M' : sx_M) (w : Int32), (∀ k s, (k ≤ 20 ∨ 22 ≤ k ∧ k ≤ 24) → M'.1 k s = (sx_set M2 17 0 0 0).1 k s) → w = v → GOOD M2 st v (w, M') := fun M' w f e => good_look hM f e
          generalize sx_set M2 17 0 0 0 = M4 at r4 lk ⊢
          obtain ⟨M6, e6, d6, f6⟩ := w8_tryIt r4.1 hI.1
          refine wp_call e6 ?_
          exact wp_mono (hmv 5000 M6 (by omega) d6) (fun q hq => (lk q.2 q.1 (fun k s hk => (hq.2 k s (by omega) (by omega)).trans (hits1 f6 (by omega) s)) hq.1).to)
        · exact absurd ⟨(pk_lLE (a := 0) (by omega) (by omega)).mpr (Nat.zero_le _), (pk_lLE (by omega) (by omega)).mpr (by omega)⟩ q
      · exact absurd (hin.mpr ha) q
  · exact bad hgood
