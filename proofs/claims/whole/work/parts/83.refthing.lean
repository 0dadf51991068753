/-! THE REFERENCE'S THINGS -/
theorem w8_isThing {M : sx_M} {k : Nat} {A : SH} (hk : row3 k) (h : DS M k A) (hT : ∀ p, p < 24 → A.T p = true → p < A.m) (v : Int32) : wp (f8_isThing k v M) (fun r => (r = 1 ∧ A.isTh v) ∨ (r = 0 ∧ ¬ A.isTh v)) := by
  rw [f8_isThing]
  obtain ⟨r, e, hr⟩ := w8_in v.toInt64 (-4) (-1) M
  refine wp_call e ?_
  have z4 : (-4 : Int64).toInt = -4 := by decide
  have z1 : (-1 : Int64).toInt = -1 := by decide
  rw [fa_le64, fa_le64, to64_int, z4, z1] at hr
  with_reducible refine wp_bd ?_
  with_reducible refine wp_bd ?_
  rcases hr with ⟨rfl, ha, hb⟩ | ⟨rfl, hno⟩
  · refine wp_ifn (by decide) ?_
    repeat' (first | with_reducible refine wp_some ?_ | with_reducible refine wp_bd ?_ | (with_reducible refine wp_ifp ?_ ?_; · (first | exact ⟨by decide, by decide⟩ | exact sx_in_n (by omega) (by omega) | assumption | exact ⟨sx_in_n (by omega) (by omega), bI01_01 _⟩ | exact Or.inl rfl | exact Or.inr rfl | (simp (disch := omega) only [nI_lit, iI_le, iI_lt, iI_eq, nI_cl, nI_add, tI_4N, bt_shrN, bI01_0N, bI01_1N, Nat.not_le, Nat.not_lt, not_true_eq_false, not_false_eq_true, true_or, or_true, false_or, or_false, Bool.not_eq_false, Bool.not_eq_true] <;> omega))) | (with_reducible refine wp_ifn ?_ ?_; · (first | exact ⟨by decide, by decide⟩ | exact sx_in_n (by omega) (by omega) | assumption | exact ⟨sx_in_n (by omega) (by omega), bI01_01 _⟩ | exact Or.inl rfl | exact Or.inr rfl | (simp (disch := omega) only [nI_lit, iI_le, iI_lt, iI_eq, nI_cl, nI_add, tI_4N, bt_shrN, bI01_0N, bI01_1N, Nat.not_le, Nat.not_lt, not_true_eq_false, not_false_eq_true, true_or, or_true, false_or, or_false, Bool.not_eq_false, Bool.not_eq_true] <;> omega))) | fail)
    refine Or.inl ⟨rfl, (v.toInt + 4).toNat, by omega, ?_, Or.inl (by omega)⟩
    rw [fa_eq, tI_int (by omega)]; omega
  · refine wp_ifp rfl ?_
    obtain ⟨r2, e2, hr2⟩ := w8_isPart hk h hT v
    refine wp_call e2 ?_
    rcases hr2 with ⟨rfl, p, hp, e3, ht⟩ | ⟨rfl, hnp⟩
    · refine wp_ifn (by decide) ?_
      repeat' (first | with_reducible refine wp_some ?_ | with_reducible refine wp_bd ?_ | (with_reducible refine wp_ifp ?_ ?_; · (first | exact ⟨by decide, by decide⟩ | exact sx_in_n (by omega) (by omega) | assumption | exact ⟨sx_in_n (by omega) (by omega), bI01_01 _⟩ | exact Or.inl rfl | exact Or.inr rfl | (simp (disch := omega) only [nI_lit, iI_le, iI_lt, iI_eq, nI_cl, nI_add, tI_4N, bt_shrN, bI01_0N, bI01_1N, Nat.not_le, Nat.not_lt, not_true_eq_false, not_false_eq_true, true_or, or_true, false_or, or_false, Bool.not_eq_false, Bool.not_eq_true] <;> omega))) | (with_reducible refine wp_ifn ?_ ?_; · (first | exact ⟨by decide, by decide⟩ | exact sx_in_n (by omega) (by omega) | assumption | exact ⟨sx_in_n (by omega) (by omega), bI01_01 _⟩ | exact Or.inl rfl | exact Or.inr rfl | (simp (disch := omega) only [nI_lit, iI_le, iI_lt, iI_eq, nI_cl, nI_add, tI_4N, bt_shrN, bI01_0N, bI01_1N, Nat.not_le, Nat.not_lt, not_true_eq_false, not_false_eq_true, true_or, or_true, false_or, or_false, Bool.not_eq_false, Bool.not_eq_true] <;> omega))) | fail)
      exact Or.inl ⟨rfl, p + 4, by omega, by rw [e3, tI_part], Or.inr ht⟩
    · refine wp_ifp rfl ?_
      repeat' (first | with_reducible refine wp_some ?_ | with_reducible refine wp_bd ?_ | (with_reducible refine wp_ifp ?_ ?_; · (first | exact ⟨by decide, by decide⟩ | exact sx_in_n (by omega) (by omega) | assumption | exact ⟨sx_in_n (by omega) (by omega), bI01_01 _⟩ | exact Or.inl rfl | exact Or.inr rfl | (simp (disch := omega) only [nI_lit, iI_le, iI_lt, iI_eq, nI_cl, nI_add, tI_4N, bt_shrN, bI01_0N, bI01_1N, Nat.not_le, Nat.not_lt, not_true_eq_false, not_false_eq_true, true_or, or_true, false_or, or_false, Bool.not_eq_false, Bool.not_eq_true] <;> omega))) | (with_reducible refine wp_ifn ?_ ?_; · (first | exact ⟨by decide, by decide⟩ | exact sx_in_n (by omega) (by omega) | assumption | exact ⟨sx_in_n (by omega) (by omega), bI01_01 _⟩ | exact Or.inl rfl | exact Or.inr rfl | (simp (disch := omega) only [nI_lit, iI_le, iI_lt, iI_eq, nI_cl, nI_add, tI_4N, bt_shrN, bI01_0N, bI01_1N, Nat.not_le, Nat.not_lt, not_true_eq_false, not_false_eq_true, true_or, or_true, false_or, or_false, Bool.not_eq_false, Bool.not_eq_true] <;> omega))) | fail)
      refine Or.inr ⟨rfl, ?_⟩
      rintro ⟨t, ht, e3, h4 | h4⟩
      · rw [e3, tI_int (by omega)] at hno
        exact hno ⟨by omega, by omega⟩
      · by_cases q : t < 4
        · rw [e3, tI_int (by omega)] at hno
          exact hno ⟨by omega, by omega⟩
        · exact hnp ⟨t - 4, by omega, by rw [e3, tI_ge (by omega)], h4⟩
