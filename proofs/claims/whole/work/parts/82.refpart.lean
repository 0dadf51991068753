/-! THE REFERENCE'S PARTS AND THINGS -/
theorem to64_int (x : Int32) : x.toInt64.toInt = x.toInt := Int32.toInt_toInt64 x
theorem w8_isPart {M : sx_M} {k : Nat} {A : SH} (hk : row3 k) (h : DS M k A) (hT : ∀ p, p < 24 → A.T p = true → p < A.m) (v : Int32) : wp (f8_isPart k v M) (fun r => (r = 1 ∧ A.isP v) ∨ (r = 0 ∧ ¬ A.isP v)) := by
  obtain ⟨h1, h2, h3, h4, h5, h6, h7, h8, h9⟩ := h
  have hl := row3_len hk
  rw [f8_isPart]
  refine wp_ifp (by rw [hl]; exact ⟨by decide, by decide⟩) ?_
  have h3' : M.1 k 0 ((0 : Int32)).toNatClampNeg = nI A.m := h3
  with_reducible refine wp_bd ?_
  rw [h3']
  have em : ((nI A.m - (1 : Int32)).toInt64).toInt = (A.m : Int) - 1 := by rw [to64_int, nI_m1_int (by omega)]
  obtain ⟨r, e, hr⟩ := w8_in v.toInt64 0 (nI A.m - (1 : Int32)).toInt64 M
  refine wp_call e ?_
  have z0 : (0 : Int64).toInt = 0 := by decide
  have z23 : (23 : Int64).toInt = 23 := by decide
  rw [fa_le64, fa_le64, em, to64_int, z0] at hr
  with_reducible refine wp_bd ?_
  with_reducible refine wp_bd ?_
  rcases hr with ⟨rfl, ha, hb⟩ | ⟨rfl, hno⟩
  · refine wp_ifn (by decide) ?_
    obtain ⟨p, hp, rfl⟩ : ∃ p : Nat, p < A.m ∧ v = nI p := ⟨v.toInt.toNat, by omega, by rw [fa_eq, nI_toInt (by omega)]; omega⟩
    obtain ⟨r2, e2, hr2⟩ := w8_in (nI p).toInt64 0 23 M
    refine wp_call e2 ?_
    rw [fa_le64, fa_le64, to64_int, z0, z23, nI_toInt (by omega)] at hr2
    have er2 : r2 = 1 := by
      rcases hr2 with ⟨q, -⟩ | ⟨-, q⟩
      · exact q
      · exact absurd ⟨by omega, by omega⟩ q
    subst er2
    with_reducible refine wp_bd ?_
    refine wp_ifn (by decide) ?_
    refine wp_call (w8_partAt p 1 M) ?_
    rw [hl]
    repeat' (first | with_reducible refine wp_some ?_ | with_reducible refine wp_bd ?_ | (with_reducible refine wp_ifp ?_ ?_; · (first | exact ⟨by decide, by decide⟩ | exact sx_in_n (by omega) (by omega) | assumption | exact ⟨sx_in_n (by omega) (by omega), bI01_01 _⟩ | exact Or.inl rfl | exact Or.inr rfl | (simp (disch := omega) only [nI_lit, iI_le, iI_lt, iI_eq, nI_cl, nI_add, tI_4N, bt_shrN, bI01_0N, bI01_1N, Nat.not_le, Nat.not_lt, not_true_eq_false, not_false_eq_true, true_or, or_true, false_or, or_false, Bool.not_eq_false, Bool.not_eq_true] <;> omega))) | (with_reducible refine wp_ifn ?_ ?_; · (first | exact ⟨by decide, by decide⟩ | exact sx_in_n (by omega) (by omega) | assumption | exact ⟨sx_in_n (by omega) (by omega), bI01_01 _⟩ | exact Or.inl rfl | exact Or.inr rfl | (simp (disch := omega) only [nI_lit, iI_le, iI_lt, iI_eq, nI_cl, nI_add, tI_4N, bt_shrN, bI01_0N, bI01_1N, Nat.not_le, Nat.not_lt, not_true_eq_false, not_false_eq_true, true_or, or_true, false_or, or_false, Bool.not_eq_false, Bool.not_eq_true] <;> omega))) | fail)
    have e4 : M.1 k 0 (nI (7 + 4 * p + 1)).toNatClampNeg = bI01 (A.T p) := by rw [nI_cl (by omega)]; exact (h8 p hp).2.1
    rw [e4]
    with_reducible refine wp_if (fun c => ?_) (fun c => ?_)
    · rw [bI01_1] at c
      repeat' (first | with_reducible refine wp_some ?_ | with_reducible refine wp_bd ?_ | (with_reducible refine wp_ifp ?_ ?_; · (first | exact ⟨by decide, by decide⟩ | exact sx_in_n (by omega) (by omega) | assumption | exact ⟨sx_in_n (by omega) (by omega), bI01_01 _⟩ | exact Or.inl rfl | exact Or.inr rfl | (simp (disch := omega) only [nI_lit, iI_le, iI_lt, iI_eq, nI_cl, nI_add, tI_4N, bt_shrN, bI01_0N, bI01_1N, Nat.not_le, Nat.not_lt, not_true_eq_false, not_false_eq_true, true_or, or_true, false_or, or_false, Bool.not_eq_false, Bool.not_eq_true] <;> omega))) | (with_reducible refine wp_ifn ?_ ?_; · (first | exact ⟨by decide, by decide⟩ | exact sx_in_n (by omega) (by omega) | assumption | exact ⟨sx_in_n (by omega) (by omega), bI01_01 _⟩ | exact Or.inl rfl | exact Or.inr rfl | (simp (disch := omega) only [nI_lit, iI_le, iI_lt, iI_eq, nI_cl, nI_add, tI_4N, bt_shrN, bI01_0N, bI01_1N, Nat.not_le, Nat.not_lt, not_true_eq_false, not_false_eq_true, true_or, or_true, false_or, or_false, Bool.not_eq_false, Bool.not_eq_true] <;> omega))) | fail)
      exact Or.inl ⟨rfl, p, by omega, rfl, c⟩
    · rw [bI01_1] at c
      repeat' (first | with_reducible refine wp_some ?_ | with_reducible refine wp_bd ?_ | (with_reducible refine wp_ifp ?_ ?_; · (first | exact ⟨by decide, by decide⟩ | exact sx_in_n (by omega) (by omega) | assumption | exact ⟨sx_in_n (by omega) (by omega), bI01_01 _⟩ | exact Or.inl rfl | exact Or.inr rfl | (simp (disch := omega) only [nI_lit, iI_le, iI_lt, iI_eq, nI_cl, nI_add, tI_4N, bt_shrN, bI01_0N, bI01_1N, Nat.not_le, Nat.not_lt, not_true_eq_false, not_false_eq_true, true_or, or_true, false_or, or_false, Bool.not_eq_false, Bool.not_eq_true] <;> omega))) | (with_reducible refine wp_ifn ?_ ?_; · (first | exact ⟨by decide, by decide⟩ | exact sx_in_n (by omega) (by omega) | assumption | exact ⟨sx_in_n (by omega) (by omega), bI01_01 _⟩ | exact Or.inl rfl | exact Or.inr rfl | (simp (disch := omega) only [nI_lit, iI_le, iI_lt, iI_eq, nI_cl, nI_add, tI_4N, bt_shrN, bI01_0N, bI01_1N, Nat.not_le, Nat.not_lt, not_true_eq_false, not_false_eq_true, true_or, or_true, false_or, or_false, Bool.not_eq_false, Bool.not_eq_true] <;> omega))) | fail)
      refine Or.inr ⟨rfl, ?_⟩
      rintro ⟨p', hp', e5, ht⟩
      rw [iI_eq (by omega) (by omega)] at e5
      subst e5
      exact c ht
  · repeat' (first | with_reducible refine wp_some ?_ | with_reducible refine wp_bd ?_ | (with_reducible refine wp_ifp ?_ ?_; · (first | exact ⟨by decide, by decide⟩ | exact sx_in_n (by omega) (by omega) | assumption | exact ⟨sx_in_n (by omega) (by omega), bI01_01 _⟩ | exact Or.inl rfl | exact Or.inr rfl | (simp (disch := omega) only [nI_lit, iI_le, iI_lt, iI_eq, nI_cl, nI_add, tI_4N, bt_shrN, bI01_0N, bI01_1N, Nat.not_le, Nat.not_lt, not_true_eq_false, not_false_eq_true, true_or, or_true, false_or, or_false, Bool.not_eq_false, Bool.not_eq_true] <;> omega))) | (with_reducible refine wp_ifn ?_ ?_; · (first | exact ⟨by decide, by decide⟩ | exact sx_in_n (by omega) (by omega) | assumption | exact ⟨sx_in_n (by omega) (by omega), bI01_01 _⟩ | exact Or.inl rfl | exact Or.inr rfl | (simp (disch := omega) only [nI_lit, iI_le, iI_lt, iI_eq, nI_cl, nI_add, tI_4N, bt_shrN, bI01_0N, bI01_1N, Nat.not_le, Nat.not_lt, not_true_eq_false, not_false_eq_true, true_or, or_true, false_or, or_false, Bool.not_eq_false, Bool.not_eq_true] <;> omega))) | fail)
    refine Or.inr ⟨rfl, ?_⟩
    rintro ⟨p', hp', e5, ht⟩
    have := hT p' hp' ht
    rw [e5, nI_toInt (by omega)] at hno
    exact hno ⟨by omega, by omega⟩
