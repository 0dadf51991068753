/-! THE CLASS'S TEXT -/
/-- the class's text holds the codes l -/
def TS (M : sx_M) (l : List Nat) : Prop := l.length ≤ 120 ∧ (∀ c ∈ l, c < 256) ∧ M.1 13 0 1 = nI l.length ∧ ∀ i, i < l.length → M.1 14 0 i = nI (l.getD i 0)
def pTx : Nat → Nat → Prop := fun k s' => (k = 13 ∨ k = 14) ∧ s' = 0
theorem TS.fr {P : Nat → Nat → Prop} {M M' : sx_M} {l : List Nat} (h : TS M l) (hf : Fr P M M') (h13 : ¬ P 13 0) (h14 : ¬ P 14 0) : TS M' l := by
  unfold TS
  rw [hf.1 13 0 h13, hf.1 14 0 h14]
  exact h
theorem w6_isFull {M : sx_M} {l : List Nat} (h : TS M l) : f6_isFull M = some (bI01 (decide (l.length = 120))) := by
  have h1 := h.1
  have h2 := h.2.2.1
  refine wp_get ?_
  rw [f6_isFull]
  with_reducible refine wp_bd ?_
  with_reducible refine wp_bd ?_
  with_reducible refine wp_if (fun c => ?_) (fun c => ?_) <;> (try simp (disch := omega) only [h2, nI_lit, iI_le, iI_lt, iI_eq, nI_cl, nI_add, tI_4N, bt_shrN, bI01_0N, bI01_1N, Nat.not_le, Nat.not_lt, not_true_eq_false, not_false_eq_true, true_or, or_true, false_or, or_false, Bool.not_eq_false, Bool.not_eq_true] at c)
  · repeat' (first | with_reducible refine wp_some ?_ | with_reducible refine wp_bd ?_ | (with_reducible refine wp_ifp ?_ ?_; · (first | exact ⟨by decide, by decide⟩ | exact sx_in_n (by omega) (by omega) | assumption | exact ⟨sx_in_n (by omega) (by omega), bI01_01 _⟩ | exact Or.inl rfl | exact Or.inr rfl | (simp (disch := omega) only [nI_lit, iI_le, iI_lt, iI_eq, nI_cl, nI_add, tI_4N, bt_shrN, bI01_0N, bI01_1N, Nat.not_le, Nat.not_lt, not_true_eq_false, not_false_eq_true, true_or, or_true, false_or, or_false, Bool.not_eq_false, Bool.not_eq_true] <;> omega))) | (with_reducible refine wp_ifn ?_ ?_; · (first | exact ⟨by decide, by decide⟩ | exact sx_in_n (by omega) (by omega) | assumption | exact ⟨sx_in_n (by omega) (by omega), bI01_01 _⟩ | exact Or.inl rfl | exact Or.inr rfl | (simp (disch := omega) only [nI_lit, iI_le, iI_lt, iI_eq, nI_cl, nI_add, tI_4N, bt_shrN, bI01_0N, bI01_1N, Nat.not_le, Nat.not_lt, not_true_eq_false, not_false_eq_true, true_or, or_true, false_or, or_false, Bool.not_eq_false, Bool.not_eq_true] <;> omega))) | fail)
    rw [decide_eq_false (by omega)]; rfl
  · repeat' (first | with_reducible refine wp_some ?_ | with_reducible refine wp_bd ?_ | (with_reducible refine wp_ifp ?_ ?_; · (first | exact ⟨by decide, by decide⟩ | exact sx_in_n (by omega) (by omega) | assumption | exact ⟨sx_in_n (by omega) (by omega), bI01_01 _⟩ | exact Or.inl rfl | exact Or.inr rfl | (simp (disch := omega) only [nI_lit, iI_le, iI_lt, iI_eq, nI_cl, nI_add, tI_4N, bt_shrN, bI01_0N, bI01_1N, Nat.not_le, Nat.not_lt, not_true_eq_false, not_false_eq_true, true_or, or_true, false_or, or_false, Bool.not_eq_false, Bool.not_eq_true] <;> omega))) | (with_reducible refine wp_ifn ?_ ?_; · (first | exact ⟨by decide, by decide⟩ | exact sx_in_n (by omega) (by omega) | assumption | exact ⟨sx_in_n (by omega) (by omega), bI01_01 _⟩ | exact Or.inl rfl | exact Or.inr rfl | (simp (disch := omega) only [nI_lit, iI_le, iI_lt, iI_eq, nI_cl, nI_add, tI_4N, bt_shrN, bI01_0N, bI01_1N, Nat.not_le, Nat.not_lt, not_true_eq_false, not_false_eq_true, true_or, or_true, false_or, or_false, Bool.not_eq_false, Bool.not_eq_true] <;> omega))) | fail)
    rw [decide_eq_true (by omega)]; rfl
theorem w6_size {M : sx_M} {l : List Nat} (h : TS M l) : f6_size M = some (nI l.length) := by
  rw [f6_size]
  exact congrArg some h.2.2.1
theorem w6_empty {M : sx_M} {l : List Nat} (h : TS M l) : wp (f6_empty M) (fun r => r.1 = nI l.length ∧ TS r.2 [] ∧ Fr pTx M r.2) := by
  rw [f6_empty]
  refine wp_some ⟨h.2.2.1, ⟨Nat.zero_le _, fun c hc => absurd hc List.not_mem_nil, by simp [st_at]; rfl, fun i hi => absurd hi (Nat.not_lt_zero _)⟩, Fr.rf.set ⟨Or.inl rfl, rfl⟩⟩
theorem w6_add {M : sx_M} {l : List Nat} (h : TS M l) (hl : l.length < 120) {c : Nat} (hc : c < 256) : wp (f6_add (nI c) M) (fun r => r.1 = nI (l.length + 1) ∧ TS r.2 (l ++ [c]) ∧ Fr pTx M r.2) := by
  obtain ⟨h1, h2, h3, h4⟩ := h
  rw [f6_add]
  repeat' (first | with_reducible refine wp_some ?_ | with_reducible refine wp_bd ?_ | (with_reducible refine wp_ifp ?_ ?_; · (first | exact ⟨by decide, by decide⟩ | exact sx_in_n (by omega) (by omega) | assumption | exact ⟨sx_in_n (by omega) (by omega), bI01_01 _⟩ | exact Or.inl rfl | exact Or.inr rfl | (simp (disch := omega) only [h3, nI_lit, iI_le, iI_lt, iI_eq, nI_cl, nI_add, tI_4N, bt_shrN, bI01_0N, bI01_1N, Nat.not_le, Nat.not_lt, not_true_eq_false, not_false_eq_true, true_or, or_true, false_or, or_false, Bool.not_eq_false, Bool.not_eq_true] <;> omega))) | (with_reducible refine wp_ifn ?_ ?_; · (first | exact ⟨by decide, by decide⟩ | exact sx_in_n (by omega) (by omega) | assumption | exact ⟨sx_in_n (by omega) (by omega), bI01_01 _⟩ | exact Or.inl rfl | exact Or.inr rfl | (simp (disch := omega) only [h3, nI_lit, iI_le, iI_lt, iI_eq, nI_cl, nI_add, tI_4N, bt_shrN, bI01_0N, bI01_1N, Nat.not_le, Nat.not_lt, not_true_eq_false, not_false_eq_true, true_or, or_true, false_or, or_false, Bool.not_eq_false, Bool.not_eq_true] <;> omega))) | fail)
  have e1 : ∀ v, (sx_set M 14 0 l.length v).1 13 0 1 = nI l.length := fun v => by rw [st_at, if_neg (by omega), h3]
  have e2 : (sx_set (sx_set M 14 0 l.length (nI c)) 13 0 1 (nI (l.length + 1))).1 13 0 1 = nI (l.length + 1) := by rw [st_at, if_pos ⟨rfl, rfl, rfl⟩]
  rw [h3]
  refine wp_ifp (sx_in_n (by omega) (by omega)) ?_
  rw [nI_cl (by omega)]
  with_reducible refine wp_bd ?_
  with_reducible refine wp_bd ?_
  rw [e1, iI_succ]
  with_reducible refine wp_bd ?_
  refine wp_some ⟨e2, ⟨by rw [List.length_append]; exact hl, fun x hx => ?_, by rw [e2, List.length_append]; rfl, fun i hi => ?_⟩, (Fr.rf.set ⟨Or.inr rfl, rfl⟩).set ⟨Or.inl rfl, rfl⟩⟩
  · rcases List.mem_append.mp hx with hx | hx
    · exact h2 x hx
    · rw [List.mem_singleton.mp hx]; exact hc
  · rw [List.length_append] at hi
    have hi' : i < l.length + 1 := hi
    rw [st_at, if_neg (by omega), st_at]
    by_cases e : i = l.length
    · subst e
      rw [if_pos ⟨rfl, rfl, rfl⟩]
      simp [List.getD_eq_getElem?_getD]
    · rw [if_neg (fun q => e q.2.2), h4 i (by omega), List.getD_eq_getElem?_getD, List.getD_eq_getElem?_getD, List.getElem?_append_left (by omega)]
