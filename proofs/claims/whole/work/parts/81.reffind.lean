/-! A SHED IN A ROW OF THE REFERENCE -/
def GD (M : sx_M) (k : Nat) (g : GT) : Prop := g.n ≤ 40 ∧ M.1 k 0 2 = nI g.n ∧ ∀ i, i < g.n → g.A i < 28 ∧ g.B i < 24 ∧ M.1 k 0 (103 + 3 * i + 0) = tI (g.A i) ∧ M.1 k 0 (103 + 3 * i + 1) = nI (g.B i) ∧ M.1 k 0 (103 + 3 * i + 2) = bI01 (g.Z i)
def DS (M : sx_M) (k : Nat) (A : SH) : Prop := GD M k A.g ∧ A.m ≤ 24 ∧ M.1 k 0 0 = nI A.m ∧ M.1 k 0 1 = nI A.m - nI (fb_ct A.T 24) ∧ M.1 k 0 3 = bI01 A.G ∧ M.1 k 0 4 = A.E ∧ M.1 k 0 5 = A.N ∧ (∀ p, p < A.m → M.1 k 0 (7 + 4 * p + 0) = A.W p ∧ M.1 k 0 (7 + 4 * p + 1) = bI01 (A.T p) ∧ M.1 k 0 (7 + 4 * p + 2) = bI01 (A.P p)) ∧ (A.G = true → M.1 k 0 6 = nI A.q.length ∧ (∀ e, e < A.q.length → M.1 k 0 (223 + e) = nI (A.q.getD e 0)) ∧ ∀ p, p < A.m → A.T p = true → M.1 k 0 (7 + 4 * p + 3) = if A.w p then 0 else if A.b p then 2 else 1)
def row3 (k : Nat) : Prop := k = 19 ∨ k = 20 ∨ k = 21
theorem row3_len {k : Nat} (h : row3 k) : sx_len k = 247 := by rcases h with rfl | rfl | rfl <;> rfl
theorem w8_find {M : sx_M} {k : Nat} {g : GT} (hk : row3 k) (h : GD M k g) (a p : Int32) : wp (f8_find k a p M) (fun r => (r = -9 ∧ ∀ i, ¬ g.at a p i) ∨ ∃ i, r = nI i ∧ g.at a p i ∧ ∀ j, i < j → ¬ g.at a p j) := by
  obtain ⟨h40, hn, hg⟩ := h
  have hl := row3_len hk
  have c2 : sx_in (2 : Int32) (sx_len k) := by rw [hl]; exact ⟨by decide, by decide⟩
  have hn2 : M.1 k 0 ((2 : Int32)).toNatClampNeg = nI g.n := hn
  rw [f8_find]
  refine wp_up (F := fun m x4 x3 => f8_find_L6 k a p M m x3 x4) g.n (fun j x => (x = -9 ∧ ∀ i, i < j → ¬ g.at a p i) ∨ ∃ i, i < j ∧ x = nI i ∧ g.at a p i ∧ ∀ e, e < j → i < e → ¬ g.at a p e) (fun m j x hj hI kk => ?_) (fun m x hI => ?_) 5000 0 (-9) (by omega) (by omega) (Or.inl ⟨rfl, fun i hi => absurd hi (Nat.not_lt_zero _)⟩)
  · obtain ⟨g1, g2, g3, g4, g5⟩ := hg j hj
    have keep : ¬ g.at a p j → _ := fun hne => kk x (by
      rcases hI with ⟨rfl, hno⟩ | ⟨i, hi, rfl, h1, h2⟩
      · exact Or.inl ⟨rfl, fun i hi => if e : i = j then e ▸ hne else hno i (by omega)⟩
      · exact Or.inr ⟨i, by omega, rfl, h1, fun e he hie => if q : e = j then q ▸ hne else h2 e (by omega) hie⟩)
    show wp (f8_find_L6 k a p M (m + 1) x (nI j)) _
    rw [f8_find_L6]
    refine wp_ifp c2 ?_
    with_reducible refine wp_bd ?_
    rw [hn2]
    repeat' (first | with_reducible refine wp_some ?_ | with_reducible refine wp_bd ?_ | (with_reducible refine wp_ifp ?_ ?_; · (first | exact ⟨by decide, by decide⟩ | exact sx_in_n (by omega) (by omega) | assumption | exact ⟨sx_in_n (by omega) (by omega), bI01_01 _⟩ | exact Or.inl rfl | exact Or.inr rfl | (simp (disch := omega) only [nI_lit, iI_le, iI_lt, iI_eq, nI_cl, nI_add, tI_4N, bt_shrN, bI01_0N, bI01_1N, Nat.not_le, Nat.not_lt, not_true_eq_false, not_false_eq_true, true_or, or_true, false_or, or_false, Bool.not_eq_false, Bool.not_eq_true] <;> omega))) | (with_reducible refine wp_ifn ?_ ?_; · (first | exact ⟨by decide, by decide⟩ | exact sx_in_n (by omega) (by omega) | assumption | exact ⟨sx_in_n (by omega) (by omega), bI01_01 _⟩ | exact Or.inl rfl | exact Or.inr rfl | (simp (disch := omega) only [nI_lit, iI_le, iI_lt, iI_eq, nI_cl, nI_add, tI_4N, bt_shrN, bI01_0N, bI01_1N, Nat.not_le, Nat.not_lt, not_true_eq_false, not_false_eq_true, true_or, or_true, false_or, or_false, Bool.not_eq_false, Bool.not_eq_true] <;> omega))) | fail)
    refine wp_call (w8_cordAt j 0 M) ?_
    rw [hl]
    repeat' (first | with_reducible refine wp_some ?_ | with_reducible refine wp_bd ?_ | (with_reducible refine wp_ifp ?_ ?_; · (first | exact ⟨by decide, by decide⟩ | exact sx_in_n (by omega) (by omega) | assumption | exact ⟨sx_in_n (by omega) (by omega), bI01_01 _⟩ | exact Or.inl rfl | exact Or.inr rfl | (simp (disch := omega) only [nI_lit, iI_le, iI_lt, iI_eq, nI_cl, nI_add, tI_4N, bt_shrN, bI01_0N, bI01_1N, Nat.not_le, Nat.not_lt, not_true_eq_false, not_false_eq_true, true_or, or_true, false_or, or_false, Bool.not_eq_false, Bool.not_eq_true] <;> omega))) | (with_reducible refine wp_ifn ?_ ?_; · (first | exact ⟨by decide, by decide⟩ | exact sx_in_n (by omega) (by omega) | assumption | exact ⟨sx_in_n (by omega) (by omega), bI01_01 _⟩ | exact Or.inl rfl | exact Or.inr rfl | (simp (disch := omega) only [nI_lit, iI_le, iI_lt, iI_eq, nI_cl, nI_add, tI_4N, bt_shrN, bI01_0N, bI01_1N, Nat.not_le, Nat.not_lt, not_true_eq_false, not_false_eq_true, true_or, or_true, false_or, or_false, Bool.not_eq_false, Bool.not_eq_true] <;> omega))) | fail)
    have e3 : M.1 k 0 (nI (103 + 3 * j + 0)).toNatClampNeg = tI (g.A j) := by rw [nI_cl (by omega)]; exact g3
    rw [e3]
    with_reducible refine wp_if (fun c => ?_) (fun c => ?_)
    · refine wp_call (w8_cordAt j 1 M) ?_
      repeat' (first | with_reducible refine wp_some ?_ | with_reducible refine wp_bd ?_ | (with_reducible refine wp_ifp ?_ ?_; · (first | exact ⟨by decide, by decide⟩ | exact sx_in_n (by omega) (by omega) | assumption | exact ⟨sx_in_n (by omega) (by omega), bI01_01 _⟩ | exact Or.inl rfl | exact Or.inr rfl | (simp (disch := omega) only [nI_lit, iI_le, iI_lt, iI_eq, nI_cl, nI_add, tI_4N, bt_shrN, bI01_0N, bI01_1N, Nat.not_le, Nat.not_lt, not_true_eq_false, not_false_eq_true, true_or, or_true, false_or, or_false, Bool.not_eq_false, Bool.not_eq_true] <;> omega))) | (with_reducible refine wp_ifn ?_ ?_; · (first | exact ⟨by decide, by decide⟩ | exact sx_in_n (by omega) (by omega) | assumption | exact ⟨sx_in_n (by omega) (by omega), bI01_01 _⟩ | exact Or.inl rfl | exact Or.inr rfl | (simp (disch := omega) only [nI_lit, iI_le, iI_lt, iI_eq, nI_cl, nI_add, tI_4N, bt_shrN, bI01_0N, bI01_1N, Nat.not_le, Nat.not_lt, not_true_eq_false, not_false_eq_true, true_or, or_true, false_or, or_false, Bool.not_eq_false, Bool.not_eq_true] <;> omega))) | fail)
      have e4 : M.1 k 0 (nI (103 + 3 * j + 1)).toNatClampNeg = nI (g.B j) := by rw [nI_cl (by omega)]; exact g4
      rw [e4]
      with_reducible refine wp_if (fun c5 => ?_) (fun c5 => ?_)
      · exact kk (nI j) (Or.inr ⟨j, by omega, rfl, ⟨hj, c, c5⟩, fun e he hje => by omega⟩)
      · exact keep (fun q => c5 q.2.2)
    · exact keep (fun q => c q.2.1)
  · show wp (f8_find_L6 k a p M (m + 1) x (nI g.n)) _
    rw [f8_find_L6]
    refine wp_ifp c2 ?_
    with_reducible refine wp_bd ?_
    rw [hn2]
    repeat' (first | with_reducible refine wp_some ?_ | with_reducible refine wp_bd ?_ | (with_reducible refine wp_ifp ?_ ?_; · (first | exact ⟨by decide, by decide⟩ | exact sx_in_n (by omega) (by omega) | assumption | exact ⟨sx_in_n (by omega) (by omega), bI01_01 _⟩ | exact Or.inl rfl | exact Or.inr rfl | (simp (disch := omega) only [nI_lit, iI_le, iI_lt, iI_eq, nI_cl, nI_add, tI_4N, bt_shrN, bI01_0N, bI01_1N, Nat.not_le, Nat.not_lt, not_true_eq_false, not_false_eq_true, true_or, or_true, false_or, or_false, Bool.not_eq_false, Bool.not_eq_true] <;> omega))) | (with_reducible refine wp_ifn ?_ ?_; · (first | exact ⟨by decide, by decide⟩ | exact sx_in_n (by omega) (by omega) | assumption | exact ⟨sx_in_n (by omega) (by omega), bI01_01 _⟩ | exact Or.inl rfl | exact Or.inr rfl | (simp (disch := omega) only [nI_lit, iI_le, iI_lt, iI_eq, nI_cl, nI_add, tI_4N, bt_shrN, bI01_0N, bI01_1N, Nat.not_le, Nat.not_lt, not_true_eq_false, not_false_eq_true, true_or, or_true, false_or, or_false, Bool.not_eq_false, Bool.not_eq_true] <;> omega))) | fail)
    rcases hI with ⟨rfl, hno⟩ | ⟨i, hi, rfl, h1, h2⟩
    · exact Or.inl ⟨rfl, fun i hi => hno i hi.1 hi⟩
    · exact Or.inr ⟨i, rfl, h1, fun e hie he => h2 e he.1 hie he⟩
