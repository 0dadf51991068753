/-! SIMULATIONS, SIDE BY SIDE -/
/-- both do the same in a turn -/
def TN (A : SH) (r : Int32) : Prop := ∃ A' : SH, IS A' ∧ (∀ M, CS M 1 A → wp (f7_takeTurn r M) (fun M' => CS M' 1 A' ∧ Fr (pSh 1) M M')) ∧ (∀ M, DS M 21 A → wp (f8_stir r M) (fun M' => DS M' 21 A' ∧ ∀ k s, k ≠ 21 → k ≠ 25 → M'.1 k s = M.1 k s))
section
variable {A : SH} {n : Nat}
theorem tn_ar (hn : n < 2147483648) : (nI n / (16 : Int32) - nI n / (16 : Int32) / (24 : Int32) * (24 : Int32) = nI (n / 16 % 24)) ∧ (nI n / (512 : Int32) - nI n / (512 : Int32) / (28 : Int32) * (28 : Int32) - (4 : Int32) = tI (n / 512 % 28)) ∧ (nI n - nI n / (8 : Int32) * (8 : Int32) = nI (n % 8)) ∧ (nI n / (16384 : Int32) - nI n / (16384 : Int32) / (2 : Int32) * (2 : Int32) = nI (n / 16384 % 2)) := by
  have a1 : nI n / (16 : Int32) = nI (n / 16) := ar_div (d := 16) (by omega) (by omega) (by omega)
  have a2 : nI n / (512 : Int32) = nI (n / 512) := ar_div (d := 512) (by omega) (by omega) (by omega)
  have a3 : nI n / (16384 : Int32) = nI (n / 16384) := ar_div (d := 16384) (by omega) (by omega) (by omega)
  have b1 : nI (n / 16) - nI (n / 16) / (24 : Int32) * (24 : Int32) = nI (n / 16 % 24) := ar_rem (d := 24) (by omega) (by omega) (by omega)
  have b2 : nI (n / 512) - nI (n / 512) / (28 : Int32) * (28 : Int32) = nI (n / 512 % 28) := ar_rem (d := 28) (by omega) (by omega) (by omega)
  have b3 : nI n - nI n / (8 : Int32) * (8 : Int32) = nI (n % 8) := ar_rem (d := 8) (by omega) (by omega) (by omega)
  have b4 : nI (n / 16384) - nI (n / 16384) / (2 : Int32) * (2 : Int32) = nI (n / 16384 % 2) := ar_rem (d := 2) (by omega) (by omega) (by omega)
  exact ⟨by rw [a1, b1], by rw [a2, b2]; rfl, b3, by rw [a3, b4]⟩
theorem sx_bb {α β : Type} (M : α) (Q : α → Prop) (h : Q M) : wp (some M) Q := wp_some h
/-- a turn of the class is one try -/
theorem tn_c {kd a p z : Int32} {ok : Bool} {A' : SH} (ht : CT A kd a p z ok A') {M : sx_M} (h : CS M 1 A) : wp (sx_b2 (f3_attempt 1 kd a p z M) fun _ M6 => some M6) (fun M' => CS M' 1 A' ∧ Fr (pSh 1) M M') := by
  obtain ⟨⟨v, M6⟩, e6, q1, q2, q3⟩ := ht.2 1 M h
  exact wp_b2 e6 (wp_some ⟨q2, q3⟩)
theorem tn_m {m : sx_M → Option (Int32 × sx_M)} {ok : Bool} {A' : SH} (ht : MT A m ok A') {M : sx_M} (h : DS M 21 A) : wp (sx_b2 (m M) fun _ M6 => some M6) (fun M' => DS M' 21 A' ∧ ∀ k s, k ≠ 21 → k ≠ 25 → M'.1 k s = M.1 k s) := by
  obtain ⟨⟨v, M6⟩, e6, q1, q2, q3⟩ := ht M h
  exact wp_b2 e6 (wp_some ⟨q2, q3⟩)
theorem turn_all (hI : IS A) (hn : n < 2147483648) : TN A (nI n) := by
  obtain ⟨a1, a2, a3, a4⟩ := tn_ar hn
  have hq : n / 16 % 24 < 24 := Nat.mod_lt _ (by omega)
  have ha : n / 512 % 28 < 28 := Nat.mod_lt _ (by omega)
  have hr : n % 8 < 8 := Nat.mod_lt _ (by omega)
  have hb : n / 16384 % 2 < 2 := Nat.mod_lt _ (by omega)
  have h40 := hI.1.1
  generalize n / 16 % 24 = q at *
  generalize n / 512 % 28 = t at *
  generalize n % 8 = r at *
  generalize n / 16384 % 2 = bb at *
  -- the string that the reference looks for first
  have found : ∀ M, DS M 21 A → wp (f8_stringOf (tI t) (nI q) M) (fun x => (x = -9 ∧ ∀ i, ¬ A.g.at (tI t) (nI q) i) ∨ ∃ i, x = nI i ∧ A.g.at (tI t) (nI q) i) := fun M h => w8_stringOf h hI _ _
  have hrr : r = 0 ∨ r = 1 ∨ r = 2 ∨ r = 3 ∨ r = 4 ∨ r = 5 ∨ r = 6 ∨ r = 7 := by omega
  have same : ∀ M, DS M 21 A → wp (some M) (fun M' => DS M' 21 A ∧ ∀ k s, k ≠ 21 → k ≠ 25 → M'.1 k s = M.1 k s) := fun M h => wp_some ⟨h, fun _ _ _ _ => rfl⟩
  have tie : ∃ ok A', CT A 2 (tI t) (nI q) 1 ok A' ∧ MT A (f8_ties (tI t) (nI q)) ok A' := by
    rcases try_tie hI (tI t) (nI q) with ⟨hno, ht⟩ | ⟨t', p', h1, h2, h3, h4, h5, h6, h7, h8, h9, ht⟩
    · exact ⟨false, A, ht, m_ties_no hI hno⟩
    · refine ⟨true, _, ht, ?_⟩
      rw [h2, h5] at h7 h9 ⊢
      exact m_ties_yes hI h1 h3 h4 h6 h7 h8 h9
  have opC : ∀ M, f7_takeTurn (nI n) M = f7_takeTurn (nI n) M := fun _ => rfl
  rcases hrr with rfl | rfl | rfl | rfl | rfl | rfl | hr6
  · obtain ⟨ok, A', ht, hm⟩ := tie
    refine ⟨A', ht.1, fun M h => ?_, fun M h => ?_⟩
    · rw [f7_takeTurn]
      with_reducible refine wp_bd ?_
      with_reducible refine wp_bd ?_
      with_reducible refine wp_bd ?_
      rw [a1, a2, a3]
      refine wp_ifp rfl ?_
      exact tn_c ht h
    · rw [f8_stir]
      with_reducible refine wp_bd ?_
      with_reducible refine wp_bd ?_
      rw [a1, a2, a3]
      obtain ⟨x, ex, -⟩ := found M h
      refine wp_call ex ?_
      with_reducible refine wp_bd ?_
      refine wp_ifp rfl ?_
      exact tn_m hm h
  · obtain ⟨ok, A', ht, hm⟩ := tie
    refine ⟨A', ht.1, fun M h => ?_, fun M h => ?_⟩
    · rw [f7_takeTurn]
      with_reducible refine wp_bd ?_
      with_reducible refine wp_bd ?_
      with_reducible refine wp_bd ?_
      rw [a1, a2, a3]
      refine wp_ifn (by decide) ?_
      refine wp_ifp rfl ?_
      exact tn_c ht h
    · rw [f8_stir]
      with_reducible refine wp_bd ?_
      with_reducible refine wp_bd ?_
      rw [a1, a2, a3]
      obtain ⟨x, ex, -⟩ := found M h
      refine wp_call ex ?_
      with_reducible refine wp_bd ?_
      refine wp_ifn (by decide) ?_
      refine wp_ifp rfl ?_
      exact tn_m hm h
  · have cutx : ∃ ok A', CT A 3 (tI t) (nI q) 0 ok A' ∧ MT A (f8_cutsString (tI t) (nI q)) ok A' := by
      rcases try_cut hI (tI t) (nI q) 0 with ⟨hno, ht⟩ | ⟨i, hi, ht⟩
      · exact ⟨false, A, ht, m_cuts_no hI hno⟩
      · exact ⟨true, _, ht, m_cuts_yes hI hi⟩
    obtain ⟨ok, A', ht, hm⟩ := cutx
    refine ⟨A', ht.1, fun M h => ?_, fun M h => ?_⟩
    · rw [f7_takeTurn]
      with_reducible refine wp_bd ?_
      with_reducible refine wp_bd ?_
      with_reducible refine wp_bd ?_
      rw [a1, a2, a3]
      refine wp_ifn (by decide) ?_
      refine wp_ifn (by decide) ?_
      refine wp_ifp rfl ?_
      exact tn_c ht h
    · rw [f8_stir]
      with_reducible refine wp_bd ?_
      with_reducible refine wp_bd ?_
      rw [a1, a2, a3]
      obtain ⟨x, ex, -⟩ := found M h
      refine wp_call ex ?_
      with_reducible refine wp_bd ?_
      refine wp_ifn (by decide) ?_
      refine wp_ifn (by decide) ?_
      refine wp_ifp rfl ?_
      exact tn_m hm h
  · have cside : ∀ (ok : Bool) (A' : SH), CT A 4 (tI t) (nI q) 0 ok A' → ∀ M, CS M 1 A → wp (f7_takeTurn (nI n) M) (fun M' => CS M' 1 A' ∧ Fr (pSh 1) M M') := fun ok A' ht M h => by
      rw [f7_takeTurn]
      with_reducible refine wp_bd ?_
      with_reducible refine wp_bd ?_
      with_reducible refine wp_bd ?_
      rw [a1, a2, a3]
      refine wp_ifn (by decide) ?_
      refine wp_ifn (by decide) ?_
      refine wp_ifn (by decide) ?_
      refine wp_ifp rfl ?_
      exact tn_c ht h
    have mside : ∀ (M : sx_M), DS M 21 A → ∀ Q : sx_M → Prop, (∀ x, ((x = -9 ∧ ∀ i, ¬ A.g.at (tI t) (nI q) i) ∨ ∃ i, x = nI i ∧ A.g.at (tI t) (nI q) i) → wp (if x = (-9 : Int32) then some M else
        (f8_cordAt x (2 : Int32) M).bind fun v16 =>
        if sx_in v16 247 then
        sx_bd (sx_set M 21 0 (v16).toNatClampNeg (0 : Int32)) fun M17 => some M17
        else none) Q) → wp (f8_stir (nI n) M) Q := fun M h Q hQ => by
      rw [f8_stir]
      with_reducible refine wp_bd ?_
      with_reducible refine wp_bd ?_
      rw [a1, a2, a3]
      obtain ⟨x, ex, hx⟩ := found M h
      refine wp_call ex ?_
      with_reducible refine wp_bd ?_
      refine wp_ifn (by decide) ?_
      refine wp_ifn (by decide) ?_
      refine wp_ifn (by decide) ?_
      refine wp_ifp rfl ?_
      exact hQ x hx
    have setZ : ∀ (M : sx_M) (i : Nat), DS M 21 A → i < A.g.n → wp ((f8_cordAt (nI i) (2 : Int32) M).bind fun v16 =>
        if sx_in v16 247 then
        sx_bd (sx_set M 21 0 (v16).toNatClampNeg (0 : Int32)) fun M17 => some M17
        else none) (fun M' => DS M' 21 (A.setG (A.g.snd i false)) ∧ ∀ k s, k ≠ 21 → k ≠ 25 → M'.1 k s = M.1 k s) := fun M i h hi => by
      refine wp_call (w8_co2 _ _) ?_
      refine wp_ifp (in3 row21 (by omega)) ?_
      with_reducible refine wp_bd ?_
      rw [nI_cl (by omega)]
      exact wp_some ⟨h.snd hi false, fun k s k1 _ => by funext y; rw [st_at, if_neg (fun z => k1 z.1)]⟩
    rcases try_fray hI (tI t) (nI q) 0 with ⟨hno, ht⟩ | ⟨i, hi, hz, ht⟩
    · refine ⟨A, hI, cside _ _ ht, fun M h => mside M h _ (fun x hx => ?_)⟩
      rcases hx with ⟨rfl, -⟩ | ⟨i, rfl, hi⟩
      · exact wp_ifp rfl (same M h)
      · have hin := hi.1
        refine wp_ifn (nI_ne_m9 (by omega)) ?_
        refine wp_mono (setZ M i h hin) (fun M' z => ⟨z.1.ext ⟨rfl, fun y hy => ⟨rfl, rfl, ?_⟩⟩ rfl (fun _ => rfl) (fun _ _ => rfl) (fun _ _ => rfl) (Or.inl rfl) rfl rfl, z.2⟩)
        show (if y = i then false else A.g.Z y) = A.g.Z y
        by_cases e : y = i
        · rw [if_pos e, e, hno i hi]
        · rw [if_neg e]
    · refine ⟨A.snd i false, ht.1, cside _ _ ht, fun M h => mside M h _ (fun x hx => ?_)⟩
      rcases hx with ⟨-, hno⟩ | ⟨j, rfl, hj⟩
      · exact absurd hi (hno i)
      · have eij := at_uniq hI hj hi
        subst eij
        have hjn := hj.1
        refine wp_ifn (nI_ne_m9 (by omega)) ?_
        exact setZ M j h hjn
  · have cside : ∀ (ok : Bool) (A' : SH), CT A 5 (tI t) (nI q) 0 ok A' → ∀ M, CS M 1 A → wp (f7_takeTurn (nI n) M) (fun M' => CS M' 1 A' ∧ Fr (pSh 1) M M') := fun ok A' ht M h => by
      rw [f7_takeTurn]
      with_reducible refine wp_bd ?_
      with_reducible refine wp_bd ?_
      with_reducible refine wp_bd ?_
      rw [a1, a2, a3]
      refine wp_ifn (by decide) ?_
      refine wp_ifn (by decide) ?_
      refine wp_ifn (by decide) ?_
      refine wp_ifn (by decide) ?_
      refine wp_ifp rfl ?_
      exact tn_c ht h
    have mside : ∀ (M : sx_M), DS M 21 A → ∀ Q : sx_M → Prop, (∀ x, ((x = -9 ∧ ∀ i, ¬ A.g.at (tI t) (nI q) i) ∨ ∃ i, x = nI i ∧ A.g.at (tI t) (nI q) i) → wp (if x = (-9 : Int32) then some M else
        (f8_cordAt x (2 : Int32) M).bind fun v20 =>
        if sx_in v20 247 then
        sx_bd (M.1 21 0 (v20).toNatClampNeg) fun v21 =>
        if v21 = 0 then
          (f8_mendIn 21 x M).bind fun M23 => some M23
        else
          some M
        else none) Q) → wp (f8_stir (nI n) M) Q := fun M h Q hQ => by
      rw [f8_stir]
      with_reducible refine wp_bd ?_
      with_reducible refine wp_bd ?_
      rw [a1, a2, a3]
      obtain ⟨x, ex, hx⟩ := found M h
      refine wp_call ex ?_
      with_reducible refine wp_bd ?_
      refine wp_ifn (by decide) ?_
      refine wp_ifn (by decide) ?_
      refine wp_ifn (by decide) ?_
      refine wp_ifn (by decide) ?_
      refine wp_ifp rfl ?_
      exact hQ x hx
    rcases try_mend hI (tI t) (nI q) 0 with ⟨hno, ht⟩ | ⟨i, hi, hz, ht⟩
    · refine ⟨A, hI, cside _ _ ht, fun M h => mside M h _ (fun x hx => ?_)⟩
      rcases hx with ⟨rfl, -⟩ | ⟨i, rfl, hi⟩
      · exact wp_ifp rfl (same M h)
      · have hin := hi.1
        refine wp_ifn (nI_ne_m9 (by omega)) ?_
        refine wp_call (w8_co2 _ _) ?_
        refine wp_ifp (in3 row21 (by omega)) ?_
        have ez : M.1 21 0 (nI (103 + 3 * i + 2)).toNatClampNeg = bI01 (A.g.Z i) := by rw [nI_cl (by omega)]; exact (h.1.2.2 i hin).2.2.2.2
        with_reducible refine wp_bd ?_
        rw [ez, hno i hi]
        exact wp_ifn (by decide) (same M h)
    · refine ⟨A.snd i true, ht.1, cside _ _ ht, fun M h => mside M h _ (fun x hx => ?_)⟩
      rcases hx with ⟨-, hno⟩ | ⟨j, rfl, hj⟩
      · exact absurd hi (hno i)
      · have eij := at_uniq hI hj hi
        subst eij
        have hjn := hj.1
        refine wp_ifn (nI_ne_m9 (by omega)) ?_
        refine wp_call (w8_co2 _ _) ?_
        refine wp_ifp (in3 row21 (by omega)) ?_
        have ez : M.1 21 0 (nI (103 + 3 * j + 2)).toNatClampNeg = bI01 (A.g.Z j) := by rw [nI_cl (by omega)]; exact (h.1.2.2 j hjn).2.2.2.2
        with_reducible refine wp_bd ?_
        rw [ez, hz]
        refine wp_ifp rfl ?_
        have hend := hI.2.2.1 j hjn
        have hTm := hI.2.2.2.1
        obtain ⟨M9, e9, d9, f9⟩ := w8_mendIn row21 h hI.ws hjn (hend.1.imp id (fun q => ⟨hTm _ q, q⟩)) (hTm _ hend.2) hend.2
        refine wp_call e9 ?_
        exact wp_some ⟨d9, fr21 f9⟩
  · have pinx : ∃ ok A', CT A 6 (-9) (nI q) (bI01 (decide (bb = 1))) ok A' ∧ MT A (f8_pins (if decide (bb = 1) then 0 else 1) (nI q)) ok A' := by
      rcases try_pin hI (-9) (nI q) (decide (bb = 1)) with ⟨hno, ht⟩ | ⟨p', hp', ep, hTp, ht⟩
      · refine ⟨false, A, ht, ?_⟩
        have e : (if decide (bb = 1) then 0 else 1 : Int32) = nI (if bb = 1 then 0 else 1) := by
          by_cases z : bb = 1
          · rw [decide_eq_true z, if_pos rfl, if_pos z]; rfl
          · rw [decide_eq_false z, if_neg (by decide), if_neg z]; rfl
        rw [e]
        exact m_pins_no hI (by split <;> omega) (Or.inr hno)
      · refine ⟨true, _, ht, ?_⟩
        rw [ep]
        exact m_pins_yes hI hp' hTp _
    obtain ⟨ok, A', ht, hm⟩ := pinx
    have hbb : nI bb = (1 : Int32) ↔ bb = 1 := by rw [show (1 : Int32) = nI 1 from rfl, iI_eq (by omega) (by omega)]
    refine ⟨A', ht.1, fun M h => ?_, fun M h => ?_⟩
    · rw [f7_takeTurn]
      with_reducible refine wp_bd ?_
      with_reducible refine wp_bd ?_
      with_reducible refine wp_bd ?_
      rw [a1, a2, a3, a4]
      refine wp_ifn (by decide) ?_
      refine wp_ifn (by decide) ?_
      refine wp_ifn (by decide) ?_
      refine wp_ifn (by decide) ?_
      refine wp_ifn (by decide) ?_
      refine wp_ifp rfl ?_
      with_reducible refine wp_bd ?_
      have fin := tn_c ht h
      by_cases z : bb = 1
      · rw [decide_eq_true z] at fin
        exact wp_ifp (hbb.mpr z) fin
      · rw [decide_eq_false z] at fin
        exact wp_ifn (fun y => z (hbb.mp y)) fin
    · rw [f8_stir]
      with_reducible refine wp_bd ?_
      with_reducible refine wp_bd ?_
      rw [a1, a2, a3, a4]
      obtain ⟨x, ex, -⟩ := found M h
      refine wp_call ex ?_
      with_reducible refine wp_bd ?_
      refine wp_ifn (by decide) ?_
      refine wp_ifn (by decide) ?_
      refine wp_ifn (by decide) ?_
      refine wp_ifn (by decide) ?_
      refine wp_ifn (by decide) ?_
      refine wp_ifp rfl ?_
      with_reducible refine wp_bd ?_
      have fin := tn_m hm h
      by_cases z : bb = 1
      · rw [decide_eq_true z, if_pos rfl] at fin
        exact wp_ifp (hbb.mpr z) fin
      · rw [decide_eq_false z, if_neg (by decide)] at fin
        exact wp_ifn (fun y => z (hbb.mp y)) fin
  · have hne : ∀ k : Nat, k < 6 → ¬ nI r = nI k := fun k hk => by rw [iI_eq (by omega) (by omega)]; omega
    have cside : ∀ (kd : Int32) (ok : Bool) (A' : SH), kd = (if A.G then 8 else 7) → CT A kd (-9) (-9) 0 ok A' → ∀ M, CS M 1 A → wp (f7_takeTurn (nI n) M) (fun M' => CS M' 1 A' ∧ Fr (pSh 1) M M') := fun kd ok A' hkd ht M h => by
      rw [f7_takeTurn]
      with_reducible refine wp_bd ?_
      with_reducible refine wp_bd ?_
      with_reducible refine wp_bd ?_
      rw [a1, a2, a3]
      refine wp_ifn (hne 0 (by omega)) ?_
      refine wp_ifn (hne 1 (by omega)) ?_
      refine wp_ifn (hne 2 (by omega)) ?_
      refine wp_ifn (hne 3 (by omega)) ?_
      refine wp_ifn (hne 4 (by omega)) ?_
      refine wp_ifn (hne 5 (by omega)) ?_
      refine wp_call (w5_isGoing h.2.1) ?_
      have fin := tn_c ht h
      with_reducible refine wp_bd ?_
      cases hG : A.G with
      | false =>
        rw [hG, if_neg (by decide)] at hkd
        subst hkd
        exact wp_ifp rfl fin
      | true =>
        rw [hG, if_pos rfl] at hkd
        subst hkd
        exact wp_ifn (by decide) fin
    have mside : ∀ (M : sx_M), DS M 21 A → ∀ Q : sx_M → Prop, wp (if bI01 A.G = (1 : Int32) then
      sx_b2 (f8_stepIn 21 M) fun _ M34 => some M34
    else
      sx_b2 (f8_beginIn 21 M) fun _ M32 => some M32) Q → wp (f8_stir (nI n) M) Q := fun M h Q hQ => by
      rw [f8_stir]
      with_reducible refine wp_bd ?_
      with_reducible refine wp_bd ?_
      rw [a1, a2, a3]
      obtain ⟨x, ex, hx⟩ := found M h
      refine wp_call ex ?_
      with_reducible refine wp_bd ?_
      refine wp_ifn (hne 0 (by omega)) ?_
      refine wp_ifn (hne 1 (by omega)) ?_
      refine wp_ifn (hne 2 (by omega)) ?_
      refine wp_ifn (hne 3 (by omega)) ?_
      refine wp_ifn (hne 4 (by omega)) ?_
      refine wp_ifn (hne 5 (by omega)) ?_
      refine wp_ifp (in3 row21 (a := 3) (by omega)) ?_
      have e3 : M.1 21 0 ((3 : Int32)).toNatClampNeg = bI01 A.G := h.2.2.2.2.1
      with_reducible refine wp_bd ?_
      rw [e3]
      exact hQ
    cases hG : A.G with
    | false =>
      rcases try_begin hI (-9) (-9) 0 with ⟨hG', -⟩ | ⟨-, ht⟩
      · rw [hG] at hG'; cases hG'
      · refine ⟨A.begin, ht.1, cside 7 true _ (by rw [hG]; rfl) ht, fun M h => mside M h _ ?_⟩
        rw [hG]
        refine wp_ifn (by decide) ?_
        obtain ⟨⟨v, M4⟩, e4, -, d4, f4⟩ := w8_beginIn row21 h hI.2.2.2.1
        exact wp_b2 e4 (wp_some ⟨d4, fr21 f4⟩)
    | true =>
      rcases try_step hI (-9) (-9) 0 with ⟨hG', -⟩ | ⟨-, ht⟩
      · rw [hG] at hG'; cases hG'
      · refine ⟨A.step, ht.1, cside 8 true _ (by rw [hG]; rfl) ht, fun M h => mside M h _ ?_⟩
        rw [hG]
        refine wp_ifp rfl ?_
        obtain ⟨⟨v, M4⟩, e4, -, d4, f4⟩ := w8_stepIn row21 h hG hI
        exact wp_b2 e4 (wp_some ⟨d4, fr21 f4⟩)
end
theorem shr33 (x : Int64) : ∃ n, n < 2147483648 ∧ (((x.toUInt64 >>> ((33 : Int32).toInt64.toUInt64 &&& Int64.toUInt64 63)).toInt64).toInt32) = nI n := by
  obtain ⟨m, hm, rfl⟩ := wb_of x
  refine ⟨m / 2 ^ 33, by omega, ?_⟩
  have := wb_shr (n := m) (k := 33) hm (by omega)
  rw [show (33 : Int32) = nI 33 from rfl, this, lN_i]
theorem pair_simulate (x0 : Int64) (a : Int32) {ex : Nat → Int32} (h1 : ex 1 = nI 1) : PAIR (fun M => f7_simulate x0 a M) (fun M => f8_simulate x0 a M) ex := by
  intro st M hI hR
  have hin : ((1 : Int64) ≤ a.toInt64 ∧ a.toInt64 ≤ 200) ↔ (1 ≤ a ∧ a ≤ 200) := in_iff a 1 200 1 200 (by decide) (by decide)
  by_cases ha : 1 ≤ a ∧ a ≤ 200
  · obtain ⟨k, hk1, hk2, rfl⟩ : ∃ k, 1 ≤ k ∧ k ≤ 200 ∧ a = nI k := by
      have ha' := ha
      rw [fa_le, fa_le] at ha'
      have z0 : (1 : Int32).toInt = 1 := by decide
      have z1 : (200 : Int32).toInt = 200 := by decide
      rw [z0, z1] at ha'
      exact ⟨a.toInt.toNat, by omega, by omega, by rw [fa_eq, nI_toInt (by omega)]; omega⟩
    have run : ∀ (r : Nat) (j : Nat) (x : Int64) (B : SH), j + r = k → IS B → ∃ (v : Int32), (∀ (N : Nat) (M : sx_M), r < N → RC M st → CS M 1 B → wp (f7_simulate_L39 (nI k) N x (nI j) M) (fun q => q.1 = .inr v ∧ RC q.2 st ∧ ∀ k s, 17 ≤ k → q.2.1 k s = M.1 k s)) ∧ (∀ (N : Nat) (M : sx_M), r < N → DS M 20 st.A → DS M 21 B → wp (f8_simulate_L36 (nI k) N x (nI j) M) (fun q => q.1 = v ∧ ∀ k s, k ≠ 21 → k ≠ 25 → q.2.1 k s = M.1 k s)) := by
      intro r
      induction r with
      | zero =>
        intro j x B hj hIB
        refine ⟨(1000 : Int32) * ((nI B.m - nI (fb_ct B.T 24)) - (nI st.A.m - nI (fb_ct st.A.T 24))) + sw B.H B.W B.m, fun N M hN hR hB => ?_, fun N M hN hA hB => ?_⟩
        · obtain ⟨N, rfl⟩ : ∃ N', N = N' + 1 := ⟨N - 1, by omega⟩
          rw [f7_simulate_L39]
          refine wp_ifp (by rw [iI_le (by omega) (by omega)]; omega) ?_
          refine wp_call (w3_swept hB) ?_
          refine wp_call (w3_swept hR.1) ?_
          obtain ⟨r, e, hr⟩ := w3_held hB
          refine wp_call e ?_
          refine wp_call (w3_weightOf hB hr) ?_
          exact wp_some ⟨rfl, hR, fun _ _ _ => rfl⟩
        · obtain ⟨N, rfl⟩ : ∃ N', N = N' + 1 := ⟨N - 1, by omega⟩
          rw [f8_simulate_L36]
          refine wp_ifp (by rw [iI_le (by omega) (by omega)]; omega) ?_
          refine wp_ifp (in3 row21 (a := 1) (by omega)) ?_
          have e1 : M.1 21 0 ((1 : Int32)).toNatClampNeg = nI B.m - nI (fb_ct B.T 24) := hB.2.2.2.1
          have e2 : M.1 20 0 ((1 : Int32)).toNatClampNeg = nI st.A.m - nI (fb_ct st.A.T 24) := hA.2.2.2.1
          with_reducible refine wp_bd ?_
          refine wp_ifp (in3 row20 (a := 1) (by omega)) ?_
          with_reducible refine wp_bd ?_
          obtain ⟨⟨v, M5⟩, e5, q1, -, q3⟩ := w8_heldWeight row21 hB hIB
          dsimp only at q1 q3
          subst q1
          refine wp_b2 e5 ?_
          rw [e1, e2]
          exact wp_some ⟨rfl, fr25 q3⟩
      | succ r ih =>
        intro j x B hj hIB
        obtain ⟨n, hn, en⟩ := shr33 (x * (6364136223846793005 : Int64) + (1442695040888963407 : Int64))
        obtain ⟨B', hIB', hc, hm⟩ := turn_all hIB hn
        obtain ⟨v, hcv, hmv⟩ := ih (j + 1) (x * (6364136223846793005 : Int64) + (1442695040888963407 : Int64)) B' (by omega) hIB'
        refine ⟨v, fun N M hN hR hB => ?_, fun N M hN hA hB => ?_⟩
        · obtain ⟨N, rfl⟩ : ∃ N', N = N' + 1 := ⟨N - 1, by omega⟩
          rw [f7_simulate_L39]
          refine wp_ifn (by rw [iI_le (by omega) (by omega)]; omega) ?_
          with_reducible refine wp_bd ?_
          rw [en]
          obtain ⟨M1, e1, q2, q3⟩ := hc M hB
          refine wp_call e1 ?_
          with_reducible refine wp_bd ?_
          rw [iI_succ]
          exact wp_mono (hcv N M1 (by omega) (hR.trial q3) q2) (fun q hq => ⟨hq.1, hq.2.1, fun k s hk => (hq.2.2 k s hk).trans (q3.1 k s (fun z => by have := z.1; omega))⟩)
        · obtain ⟨N, rfl⟩ : ∃ N', N = N' + 1 := ⟨N - 1, by omega⟩
          rw [f8_simulate_L36]
          refine wp_ifn (by rw [iI_le (by omega) (by omega)]; omega) ?_
          with_reducible refine wp_bd ?_
          rw [en]
          obtain ⟨M1, e1, q2, q3⟩ := hm M hB
          refine wp_call e1 ?_
          with_reducible refine wp_bd ?_
          rw [iI_succ]
          have hA1 : DS M1 20 st.A := by rw [DAt_iff, q3 20 0 (by omega) (by omega)]; exact hA
          exact wp_mono (hmv N M1 (by omega) hA1 q2) (fun q hq => ⟨hq.1, fun k s k1 k2 => (hq.2 k s k1 k2).trans (q3 k s k1 k2)⟩)
    obtain ⟨v, hcv, hmv⟩ := run k 0 x0 st.A (by omega) hI.1
    refine ⟨.inr v, st, hI, ?_, fun M2 hM => ?_⟩
    · show wp (f7_simulate x0 (nI k) M) _
      rw [f7_simulate]
      with_reducible refine wp_bd ?_
      refine wp_ifn (by rw [show (1 : Int32) = nI 1 from rfl, iI_lt (by omega) (by omega)]; omega) ?_
      refine wp_ifp ha.2 ?_
      obtain ⟨M6, e6, c6, f6⟩ := w3_copyFrom (s := 1) (s1 := 0) (by omega) hR.1
      refine wp_call e6 ?_
      exact wp_mono (hcv 5000 M6 (by omega) (hR.trial f6) c6) (fun q hq => ⟨hq.1, hq.2.1, fun k s hk => (hq.2.2 k s hk).trans (f6.1 k s (fun q => by have := q.1; omega))⟩)
    · show wp (f8_simulate x0 (nI k) M2) _
      rw [f8_simulate]
      obtain ⟨r1, e1, hr1⟩ := w8_in (nI k).toInt64 1 200 M2
      refine wp_call e1 ?_
      with_reducible refine wp_bd ?_
      rcases hr1 with ⟨rfl, -⟩ | ⟨rfl, q⟩
      · refine wp_ifn (by decide) ?_
        refine m_yes ?_
        have r4 := hM.ref 0
        have lk : ∀ (M' : sx_M) (w : Int32), (∀ k s, (k ≤ 20 ∨ 22 ≤ k ∧ k ≤ 24) → M'.1 k s = (sx_set M2 17 0 0 0).1 k s) → w = v → GOOD M2 st v (w, M') := fun M' w f e => good_look hM f e
        generalize sx_set M2 17 0 0 0 = M4 at r4 lk ⊢
        obtain ⟨M6, e6, d6, f6⟩ := w8_tryIt r4.1 hI.1
        refine wp_call e6 ?_
        exact wp_mono (hmv 5000 M6 (by omega) (r4.1.fr f6 not21_20) d6) (fun q hq => (lk q.2 q.1 (fun k s hk => (hq.2 k s (by omega) (by omega)).trans (hits1 f6 (by omega) s)) hq.1).to)
      · exact absurd (hin.mpr ha) q
  · refine ⟨.inl 1, st, hI, ?_, fun M2 hM => ?_⟩
    · show wp (f7_simulate x0 a M) _
      rw [f7_simulate]
      with_reducible refine wp_bd ?_
      have fin : wp (some ((.inl 1 : Nat ⊕ Int32), M)) (fun r => r.1 = .inl 1 ∧ RC r.2 st ∧ ∀ k s, 17 ≤ k → r.2.1 k s = M.1 k s) := wp_some ⟨rfl, hR, fun _ _ _ => rfl⟩
      with_reducible refine wp_if (fun c => ?_) (fun c => ?_)
      · exact fin
      · with_reducible refine wp_if (fun c2 => ?_) (fun c2 => ?_)
        · exact absurd ⟨by rw [fa_lt] at c; rw [fa_le]; omega, c2⟩ ha
        · exact fin
    · show wp (f8_simulate x0 a M2) _
      rw [f8_simulate]
      obtain ⟨r1, e1, hr1⟩ := w8_in a.toInt64 1 200 M2
      refine wp_call e1 ?_
      with_reducible refine wp_bd ?_
      rcases hr1 with ⟨rfl, q⟩ | ⟨rfl, q⟩
      · exact absurd (hin.mp q) ha
      · refine wp_ifp rfl ?_
        exact m_no hM (n := 1) (by omega) (by omega) h1
