/-! THE CLASS'S FAULTS; a shed copied -/
theorem w7_tst (v : Int32) (M : sx_M) : ∃ x, f7_bitOf v M = some x ∧ ∀ y : Int32, y &&& x = 0 ↔ ¬ ∃ t, t < 28 ∧ v = tI t ∧ bt y t = true := by
  rcases thing_or v with ⟨t, ht, rfl⟩ | ho
  · refine ⟨_, w7_bitOf_t ht M, fun y => ?_⟩
    rw [bt_and (by omega)]
    constructor
    · rintro h ⟨t', h1, h2, h3⟩
      rw [tI_inj (by omega) (by omega)] at h2
      subst h2
      rw [h] at h3; cases h3
    · intro h
      cases e : bt y t with
      | false => rfl
      | true => exact absurd ⟨t, ht, rfl, e⟩ h
  · refine ⟨_, w7_bitOf_o ho M, fun y => ⟨fun _ ⟨t, h1, h2, _⟩ => thing_out ho h1 h2, fun _ => by rw [bt_eq0]; intro i hi; rw [b_and, bt_zero, Bool.and_false]⟩⟩
/-- v is a part, a thing -/
def SH.isP (A : SH) (v : Int32) : Prop := ∃ p, p < 24 ∧ v = nI p ∧ A.T p = true
def SH.isTh (A : SH) (v : Int32) : Prop := ∃ t, t < 28 ∧ v = tI t ∧ (t < 4 ∨ A.T (t - 4) = true)
theorem isP_iff {A : SH} {m v : Int32} (h : Wd m A.T) : (∃ t, t < 28 ∧ v = tI t ∧ bt m t = true) ↔ A.isP v := by
  constructor
  · rintro ⟨t, h1, h2, h3⟩
    rw [h t (by omega), Bool.and_eq_true, Bool.and_eq_true, decide_eq_true_eq, decide_eq_true_eq] at h3
    exact ⟨t - 4, by omega, by rw [h2, tI_ge h3.1.1], h3.2⟩
  · rintro ⟨p, h1, h2, h3⟩
    exact ⟨p + 4, by omega, by rw [h2, tI_part], by rw [h.at h1]; exact h3⟩
theorem isTh_iff {A : SH} {m v : Int32} (h : Wd m A.T) : (∃ t, t < 28 ∧ v = tI t ∧ bt (m ||| 15) t = true) ↔ A.isTh v := by
  constructor
  · rintro ⟨t, h1, h2, h3⟩
    rw [bt_or, bt_15 t (by omega), h t (by omega), Bool.or_eq_true, Bool.and_eq_true, decide_eq_true_eq] at h3
    exact ⟨t, h1, h2, h3.elim (fun q => Or.inr q.2) Or.inl⟩
  · rintro ⟨t, h1, h2, h3⟩
    refine ⟨t, h1, h2, ?_⟩
    rw [bt_or, bt_15 t (by omega), h t (by omega)]
    by_cases h4 : t < 4
    · simp [h4]
    · have := h3.resolve_left h4
      have h5 : 4 ≤ t := by omega
      simp [h4, h5, h1, this]
theorem w3_isPart {M : sx_M} {s : Nat} {A : SH} (h : CS M s A) (v : Int32) : wp (f3_isPart s v M) (fun r => (r = 1 ∧ A.isP v) ∨ (r = 0 ∧ ¬ A.isP v)) := by
  rw [f3_isPart]
  with_reducible refine wp_bd ?_
  obtain ⟨x, e, hx⟩ := w7_tst v M
  refine wp_call e ?_
  have tw := (hx (M.1 1 s 4)).trans (not_congr (isP_iff (v := v) h.2.2.2.2.1))
  with_reducible refine wp_bd ?_
  with_reducible refine wp_if (fun c => ?_) (fun c => ?_)
  · rw [tw] at c
    repeat' (first | with_reducible refine wp_some ?_ | with_reducible refine wp_bd ?_ | (with_reducible refine wp_ifp ?_ ?_; · (first | exact ⟨by decide, by decide⟩ | exact sx_in_n (by omega) (by omega) | assumption | exact ⟨sx_in_n (by omega) (by omega), bI01_01 _⟩ | exact Or.inl rfl | exact Or.inr rfl | (simp (disch := omega) only [nI_lit, iI_le, iI_lt, iI_eq, nI_cl, nI_add, tI_4N, bt_shrN, bI01_0N, bI01_1N, Nat.not_le, Nat.not_lt, not_true_eq_false, not_false_eq_true, true_or, or_true, false_or, or_false, Bool.not_eq_false, Bool.not_eq_true] <;> omega))) | (with_reducible refine wp_ifn ?_ ?_; · (first | exact ⟨by decide, by decide⟩ | exact sx_in_n (by omega) (by omega) | assumption | exact ⟨sx_in_n (by omega) (by omega), bI01_01 _⟩ | exact Or.inl rfl | exact Or.inr rfl | (simp (disch := omega) only [nI_lit, iI_le, iI_lt, iI_eq, nI_cl, nI_add, tI_4N, bt_shrN, bI01_0N, bI01_1N, Nat.not_le, Nat.not_lt, not_true_eq_false, not_false_eq_true, true_or, or_true, false_or, or_false, Bool.not_eq_false, Bool.not_eq_true] <;> omega))) | fail)
    exact Or.inr ⟨rfl, c⟩
  · rw [tw] at c
    repeat' (first | with_reducible refine wp_some ?_ | with_reducible refine wp_bd ?_ | (with_reducible refine wp_ifp ?_ ?_; · (first | exact ⟨by decide, by decide⟩ | exact sx_in_n (by omega) (by omega) | assumption | exact ⟨sx_in_n (by omega) (by omega), bI01_01 _⟩ | exact Or.inl rfl | exact Or.inr rfl | (simp (disch := omega) only [nI_lit, iI_le, iI_lt, iI_eq, nI_cl, nI_add, tI_4N, bt_shrN, bI01_0N, bI01_1N, Nat.not_le, Nat.not_lt, not_true_eq_false, not_false_eq_true, true_or, or_true, false_or, or_false, Bool.not_eq_false, Bool.not_eq_true] <;> omega))) | (with_reducible refine wp_ifn ?_ ?_; · (first | exact ⟨by decide, by decide⟩ | exact sx_in_n (by omega) (by omega) | assumption | exact ⟨sx_in_n (by omega) (by omega), bI01_01 _⟩ | exact Or.inl rfl | exact Or.inr rfl | (simp (disch := omega) only [nI_lit, iI_le, iI_lt, iI_eq, nI_cl, nI_add, tI_4N, bt_shrN, bI01_0N, bI01_1N, Nat.not_le, Nat.not_lt, not_true_eq_false, not_false_eq_true, true_or, or_true, false_or, or_false, Bool.not_eq_false, Bool.not_eq_true] <;> omega))) | fail)
    exact Or.inl ⟨rfl, Classical.byContradiction c⟩
theorem w3_partFault {M : sx_M} {s : Nat} {A : SH} (h : CS M s A) (v : Int32) : wp (f3_partFault s v M) (fun r => (r = 0 ∧ A.isP v) ∨ (r = 1 ∧ ¬ A.isP v)) := by
  rw [f3_partFault]
  obtain ⟨r, e, hr⟩ := w3_isPart h v
  refine wp_call e ?_
  with_reducible refine wp_bd ?_
  rcases hr with ⟨rfl, hp⟩ | ⟨rfl, hp⟩
  · refine wp_ifn (by decide) (wp_some (Or.inl ⟨rfl, hp⟩))
  · refine wp_ifp rfl (wp_some (Or.inr ⟨rfl, hp⟩))
theorem w3_placeFault {M : sx_M} {s : Nat} {A : SH} (h : CS M s A) (a p : Int32) : wp (f3_placeFault s a p M) (fun r => (r = 0 ∧ A.isTh a ∧ A.isP p) ∨ (r = 1 ∧ ¬ (A.isTh a ∧ A.isP p))) := by
  rw [f3_placeFault]
  with_reducible refine wp_bd ?_
  obtain ⟨x, e, hx⟩ := w7_tst a M
  refine wp_call e ?_
  have t1 := (hx (M.1 1 s 4 ||| 15)).trans (not_congr (isTh_iff (v := a) h.2.2.2.2.1))
  obtain ⟨x2, e2, hx2⟩ := w7_tst p M
  have t2 := (hx2 (M.1 1 s 4)).trans (not_congr (isP_iff (v := p) h.2.2.2.2.1))
  with_reducible refine wp_bd ?_
  with_reducible refine wp_if (fun c => ?_) (fun c => ?_)
  · rw [t1] at c
    repeat' (first | with_reducible refine wp_some ?_ | with_reducible refine wp_bd ?_ | (with_reducible refine wp_ifp ?_ ?_; · (first | exact ⟨by decide, by decide⟩ | exact sx_in_n (by omega) (by omega) | assumption | exact ⟨sx_in_n (by omega) (by omega), bI01_01 _⟩ | exact Or.inl rfl | exact Or.inr rfl | (simp (disch := omega) only [nI_lit, iI_le, iI_lt, iI_eq, nI_cl, nI_add, tI_4N, bt_shrN, bI01_0N, bI01_1N, Nat.not_le, Nat.not_lt, not_true_eq_false, not_false_eq_true, true_or, or_true, false_or, or_false, Bool.not_eq_false, Bool.not_eq_true] <;> omega))) | (with_reducible refine wp_ifn ?_ ?_; · (first | exact ⟨by decide, by decide⟩ | exact sx_in_n (by omega) (by omega) | assumption | exact ⟨sx_in_n (by omega) (by omega), bI01_01 _⟩ | exact Or.inl rfl | exact Or.inr rfl | (simp (disch := omega) only [nI_lit, iI_le, iI_lt, iI_eq, nI_cl, nI_add, tI_4N, bt_shrN, bI01_0N, bI01_1N, Nat.not_le, Nat.not_lt, not_true_eq_false, not_false_eq_true, true_or, or_true, false_or, or_false, Bool.not_eq_false, Bool.not_eq_true] <;> omega))) | fail)
    exact Or.inr ⟨rfl, fun q => c q.1⟩
  · rw [t1] at c
    repeat' (first | with_reducible refine wp_some ?_ | with_reducible refine wp_bd ?_ | (with_reducible refine wp_ifp ?_ ?_; · (first | exact ⟨by decide, by decide⟩ | exact sx_in_n (by omega) (by omega) | assumption | exact ⟨sx_in_n (by omega) (by omega), bI01_01 _⟩ | exact Or.inl rfl | exact Or.inr rfl | (simp (disch := omega) only [nI_lit, iI_le, iI_lt, iI_eq, nI_cl, nI_add, tI_4N, bt_shrN, bI01_0N, bI01_1N, Nat.not_le, Nat.not_lt, not_true_eq_false, not_false_eq_true, true_or, or_true, false_or, or_false, Bool.not_eq_false, Bool.not_eq_true] <;> omega))) | (with_reducible refine wp_ifn ?_ ?_; · (first | exact ⟨by decide, by decide⟩ | exact sx_in_n (by omega) (by omega) | assumption | exact ⟨sx_in_n (by omega) (by omega), bI01_01 _⟩ | exact Or.inl rfl | exact Or.inr rfl | (simp (disch := omega) only [nI_lit, iI_le, iI_lt, iI_eq, nI_cl, nI_add, tI_4N, bt_shrN, bI01_0N, bI01_1N, Nat.not_le, Nat.not_lt, not_true_eq_false, not_false_eq_true, true_or, or_true, false_or, or_false, Bool.not_eq_false, Bool.not_eq_true] <;> omega))) | fail)
    refine wp_call e2 ?_
    with_reducible refine wp_if (fun c2 => ?_) (fun c2 => ?_)
    · rw [t2] at c2
      repeat' (first | with_reducible refine wp_some ?_ | with_reducible refine wp_bd ?_ | (with_reducible refine wp_ifp ?_ ?_; · (first | exact ⟨by decide, by decide⟩ | exact sx_in_n (by omega) (by omega) | assumption | exact ⟨sx_in_n (by omega) (by omega), bI01_01 _⟩ | exact Or.inl rfl | exact Or.inr rfl | (simp (disch := omega) only [nI_lit, iI_le, iI_lt, iI_eq, nI_cl, nI_add, tI_4N, bt_shrN, bI01_0N, bI01_1N, Nat.not_le, Nat.not_lt, not_true_eq_false, not_false_eq_true, true_or, or_true, false_or, or_false, Bool.not_eq_false, Bool.not_eq_true] <;> omega))) | (with_reducible refine wp_ifn ?_ ?_; · (first | exact ⟨by decide, by decide⟩ | exact sx_in_n (by omega) (by omega) | assumption | exact ⟨sx_in_n (by omega) (by omega), bI01_01 _⟩ | exact Or.inl rfl | exact Or.inr rfl | (simp (disch := omega) only [nI_lit, iI_le, iI_lt, iI_eq, nI_cl, nI_add, tI_4N, bt_shrN, bI01_0N, bI01_1N, Nat.not_le, Nat.not_lt, not_true_eq_false, not_false_eq_true, true_or, or_true, false_or, or_false, Bool.not_eq_false, Bool.not_eq_true] <;> omega))) | fail)
      exact Or.inr ⟨rfl, fun q => c2 q.2⟩
    · rw [t2] at c2
      repeat' (first | with_reducible refine wp_some ?_ | with_reducible refine wp_bd ?_ | (with_reducible refine wp_ifp ?_ ?_; · (first | exact ⟨by decide, by decide⟩ | exact sx_in_n (by omega) (by omega) | assumption | exact ⟨sx_in_n (by omega) (by omega), bI01_01 _⟩ | exact Or.inl rfl | exact Or.inr rfl | (simp (disch := omega) only [nI_lit, iI_le, iI_lt, iI_eq, nI_cl, nI_add, tI_4N, bt_shrN, bI01_0N, bI01_1N, Nat.not_le, Nat.not_lt, not_true_eq_false, not_false_eq_true, true_or, or_true, false_or, or_false, Bool.not_eq_false, Bool.not_eq_true] <;> omega))) | (with_reducible refine wp_ifn ?_ ?_; · (first | exact ⟨by decide, by decide⟩ | exact sx_in_n (by omega) (by omega) | assumption | exact ⟨sx_in_n (by omega) (by omega), bI01_01 _⟩ | exact Or.inl rfl | exact Or.inr rfl | (simp (disch := omega) only [nI_lit, iI_le, iI_lt, iI_eq, nI_cl, nI_add, tI_4N, bt_shrN, bI01_0N, bI01_1N, Nat.not_le, Nat.not_lt, not_true_eq_false, not_false_eq_true, true_or, or_true, false_or, or_false, Bool.not_eq_false, Bool.not_eq_true] <;> omega))) | fail)
      exact Or.inl ⟨rfl, Classical.byContradiction c, Classical.byContradiction c2⟩
theorem w3_makeFault {M : sx_M} {s : Nat} {A : SH} (h : CS M s A) (v : Int32) : wp (f3_makeFault s v M) (fun r => (r = 2 ∧ ¬ (1 ≤ v ∧ v ≤ 9)) ∨ (1 ≤ v ∧ v ≤ 9 ∧ ((r = 0 ∧ A.m < 24) ∨ (r = 3 ∧ A.m = 24)))) := by
  have hm := h.2.2.1
  have hn := h.2.2.2.1
  rw [f3_makeFault]
  with_reducible refine wp_bd ?_
  with_reducible refine wp_if (fun c => ?_) (fun c => ?_)
  · repeat' (first | with_reducible refine wp_some ?_ | with_reducible refine wp_bd ?_ | (with_reducible refine wp_ifp ?_ ?_; · (first | exact ⟨by decide, by decide⟩ | exact sx_in_n (by omega) (by omega) | assumption | exact ⟨sx_in_n (by omega) (by omega), bI01_01 _⟩ | exact Or.inl rfl | exact Or.inr rfl | (simp (disch := omega) only [nI_lit, iI_le, iI_lt, iI_eq, nI_cl, nI_add, tI_4N, bt_shrN, bI01_0N, bI01_1N, Nat.not_le, Nat.not_lt, not_true_eq_false, not_false_eq_true, true_or, or_true, false_or, or_false, Bool.not_eq_false, Bool.not_eq_true] <;> omega))) | (with_reducible refine wp_ifn ?_ ?_; · (first | exact ⟨by decide, by decide⟩ | exact sx_in_n (by omega) (by omega) | assumption | exact ⟨sx_in_n (by omega) (by omega), bI01_01 _⟩ | exact Or.inl rfl | exact Or.inr rfl | (simp (disch := omega) only [nI_lit, iI_le, iI_lt, iI_eq, nI_cl, nI_add, tI_4N, bt_shrN, bI01_0N, bI01_1N, Nat.not_le, Nat.not_lt, not_true_eq_false, not_false_eq_true, true_or, or_true, false_or, or_false, Bool.not_eq_false, Bool.not_eq_true] <;> omega))) | fail)
    refine Or.inl ⟨rfl, fun q => ?_⟩
    have q1 := q.1
    rw [fa_lt] at c; rw [fa_le] at q1; omega
  · have c' : (1 : Int32) ≤ v := by rw [fa_lt] at c; rw [fa_le]; omega
    with_reducible refine wp_if (fun c2 => ?_) (fun c2 => ?_)
    · with_reducible refine wp_bd ?_
      with_reducible refine wp_bd ?_
      with_reducible refine wp_if (fun c3 => ?_) (fun c3 => ?_) <;> (try simp (disch := omega) only [hn, nI_lit, iI_le, iI_lt, iI_eq, nI_cl, nI_add, tI_4N, bt_shrN, bI01_0N, bI01_1N, Nat.not_le, Nat.not_lt, not_true_eq_false, not_false_eq_true, true_or, or_true, false_or, or_false, Bool.not_eq_false, Bool.not_eq_true] at c3)
      · repeat' (first | with_reducible refine wp_some ?_ | with_reducible refine wp_bd ?_ | (with_reducible refine wp_ifp ?_ ?_; · (first | exact ⟨by decide, by decide⟩ | exact sx_in_n (by omega) (by omega) | assumption | exact ⟨sx_in_n (by omega) (by omega), bI01_01 _⟩ | exact Or.inl rfl | exact Or.inr rfl | (simp (disch := omega) only [nI_lit, iI_le, iI_lt, iI_eq, nI_cl, nI_add, tI_4N, bt_shrN, bI01_0N, bI01_1N, Nat.not_le, Nat.not_lt, not_true_eq_false, not_false_eq_true, true_or, or_true, false_or, or_false, Bool.not_eq_false, Bool.not_eq_true] <;> omega))) | (with_reducible refine wp_ifn ?_ ?_; · (first | exact ⟨by decide, by decide⟩ | exact sx_in_n (by omega) (by omega) | assumption | exact ⟨sx_in_n (by omega) (by omega), bI01_01 _⟩ | exact Or.inl rfl | exact Or.inr rfl | (simp (disch := omega) only [nI_lit, iI_le, iI_lt, iI_eq, nI_cl, nI_add, tI_4N, bt_shrN, bI01_0N, bI01_1N, Nat.not_le, Nat.not_lt, not_true_eq_false, not_false_eq_true, true_or, or_true, false_or, or_false, Bool.not_eq_false, Bool.not_eq_true] <;> omega))) | fail)
        exact Or.inr ⟨c', c2, Or.inl ⟨rfl, c3⟩⟩
      · repeat' (first | with_reducible refine wp_some ?_ | with_reducible refine wp_bd ?_ | (with_reducible refine wp_ifp ?_ ?_; · (first | exact ⟨by decide, by decide⟩ | exact sx_in_n (by omega) (by omega) | assumption | exact ⟨sx_in_n (by omega) (by omega), bI01_01 _⟩ | exact Or.inl rfl | exact Or.inr rfl | (simp (disch := omega) only [nI_lit, iI_le, iI_lt, iI_eq, nI_cl, nI_add, tI_4N, bt_shrN, bI01_0N, bI01_1N, Nat.not_le, Nat.not_lt, not_true_eq_false, not_false_eq_true, true_or, or_true, false_or, or_false, Bool.not_eq_false, Bool.not_eq_true] <;> omega))) | (with_reducible refine wp_ifn ?_ ?_; · (first | exact ⟨by decide, by decide⟩ | exact sx_in_n (by omega) (by omega) | assumption | exact ⟨sx_in_n (by omega) (by omega), bI01_01 _⟩ | exact Or.inl rfl | exact Or.inr rfl | (simp (disch := omega) only [nI_lit, iI_le, iI_lt, iI_eq, nI_cl, nI_add, tI_4N, bt_shrN, bI01_0N, bI01_1N, Nat.not_le, Nat.not_lt, not_true_eq_false, not_false_eq_true, true_or, or_true, false_or, or_false, Bool.not_eq_false, Bool.not_eq_true] <;> omega))) | fail)
        exact Or.inr ⟨c', c2, Or.inr ⟨rfl, by omega⟩⟩
    · repeat' (first | with_reducible refine wp_some ?_ | with_reducible refine wp_bd ?_ | (with_reducible refine wp_ifp ?_ ?_; · (first | exact ⟨by decide, by decide⟩ | exact sx_in_n (by omega) (by omega) | assumption | exact ⟨sx_in_n (by omega) (by omega), bI01_01 _⟩ | exact Or.inl rfl | exact Or.inr rfl | (simp (disch := omega) only [nI_lit, iI_le, iI_lt, iI_eq, nI_cl, nI_add, tI_4N, bt_shrN, bI01_0N, bI01_1N, Nat.not_le, Nat.not_lt, not_true_eq_false, not_false_eq_true, true_or, or_true, false_or, or_false, Bool.not_eq_false, Bool.not_eq_true] <;> omega))) | (with_reducible refine wp_ifn ?_ ?_; · (first | exact ⟨by decide, by decide⟩ | exact sx_in_n (by omega) (by omega) | assumption | exact ⟨sx_in_n (by omega) (by omega), bI01_01 _⟩ | exact Or.inl rfl | exact Or.inr rfl | (simp (disch := omega) only [nI_lit, iI_le, iI_lt, iI_eq, nI_cl, nI_add, tI_4N, bt_shrN, bI01_0N, bI01_1N, Nat.not_le, Nat.not_lt, not_true_eq_false, not_false_eq_true, true_or, or_true, false_or, or_false, Bool.not_eq_false, Bool.not_eq_true] <;> omega))) | fail)
      exact Or.inl ⟨rfl, fun q => c2 q.2⟩
theorem w4_isFull {M : sx_M} {s : Nat} {g : GT} (h : GS M s g) : f4_isFull s M = some (bI01 (decide (40 ≤ g.n))) := by
  have hn := h.2.1
  have h40 := h.1
  refine wp_get ?_
  rw [f4_isFull]
  with_reducible refine wp_bd ?_
  with_reducible refine wp_bd ?_
  with_reducible refine wp_if (fun c => ?_) (fun c => ?_) <;> (try simp (disch := omega) only [hn, nI_lit, iI_le, iI_lt, iI_eq, nI_cl, nI_add, tI_4N, bt_shrN, bI01_0N, bI01_1N, Nat.not_le, Nat.not_lt, not_true_eq_false, not_false_eq_true, true_or, or_true, false_or, or_false, Bool.not_eq_false, Bool.not_eq_true] at c)
  · repeat' (first | with_reducible refine wp_some ?_ | with_reducible refine wp_bd ?_ | (with_reducible refine wp_ifp ?_ ?_; · (first | exact ⟨by decide, by decide⟩ | exact sx_in_n (by omega) (by omega) | assumption | exact ⟨sx_in_n (by omega) (by omega), bI01_01 _⟩ | exact Or.inl rfl | exact Or.inr rfl | (simp (disch := omega) only [nI_lit, iI_le, iI_lt, iI_eq, nI_cl, nI_add, tI_4N, bt_shrN, bI01_0N, bI01_1N, Nat.not_le, Nat.not_lt, not_true_eq_false, not_false_eq_true, true_or, or_true, false_or, or_false, Bool.not_eq_false, Bool.not_eq_true] <;> omega))) | (with_reducible refine wp_ifn ?_ ?_; · (first | exact ⟨by decide, by decide⟩ | exact sx_in_n (by omega) (by omega) | assumption | exact ⟨sx_in_n (by omega) (by omega), bI01_01 _⟩ | exact Or.inl rfl | exact Or.inr rfl | (simp (disch := omega) only [nI_lit, iI_le, iI_lt, iI_eq, nI_cl, nI_add, tI_4N, bt_shrN, bI01_0N, bI01_1N, Nat.not_le, Nat.not_lt, not_true_eq_false, not_false_eq_true, true_or, or_true, false_or, or_false, Bool.not_eq_false, Bool.not_eq_true] <;> omega))) | fail)
    rw [decide_eq_false (by omega)]; rfl
  · repeat' (first | with_reducible refine wp_some ?_ | with_reducible refine wp_bd ?_ | (with_reducible refine wp_ifp ?_ ?_; · (first | exact ⟨by decide, by decide⟩ | exact sx_in_n (by omega) (by omega) | assumption | exact ⟨sx_in_n (by omega) (by omega), bI01_01 _⟩ | exact Or.inl rfl | exact Or.inr rfl | (simp (disch := omega) only [nI_lit, iI_le, iI_lt, iI_eq, nI_cl, nI_add, tI_4N, bt_shrN, bI01_0N, bI01_1N, Nat.not_le, Nat.not_lt, not_true_eq_false, not_false_eq_true, true_or, or_true, false_or, or_false, Bool.not_eq_false, Bool.not_eq_true] <;> omega))) | (with_reducible refine wp_ifn ?_ ?_; · (first | exact ⟨by decide, by decide⟩ | exact sx_in_n (by omega) (by omega) | assumption | exact ⟨sx_in_n (by omega) (by omega), bI01_01 _⟩ | exact Or.inl rfl | exact Or.inr rfl | (simp (disch := omega) only [nI_lit, iI_le, iI_lt, iI_eq, nI_cl, nI_add, tI_4N, bt_shrN, bI01_0N, bI01_1N, Nat.not_le, Nat.not_lt, not_true_eq_false, not_false_eq_true, true_or, or_true, false_or, or_false, Bool.not_eq_false, Bool.not_eq_true] <;> omega))) | fail)
    rw [decide_eq_true (by omega)]; rfl
theorem w3_tieFault {M : sx_M} {s : Nat} {A : SH} (h : CS M s A) (a p : Int32) : wp (f3_tieFault s a p M) (fun r => (r = 1 ∧ ¬ (A.isTh a ∧ A.isP p)) ∨ (A.isTh a ∧ A.isP p ∧ ((r = 2 ∧ a = p) ∨ (a ≠ p ∧ ((r = 3 ∧ (A.g.n = 40 ∨ ∃ i, A.g.at a p i)) ∨ (r = 0 ∧ A.g.n < 40 ∧ ∀ i, ¬ A.g.at a p i)))))) := by
  have h40 := h.1.1
  rw [f3_tieFault]
  obtain ⟨r, e, hr⟩ := w3_placeFault h a p
  refine wp_call e ?_
  rcases hr with ⟨rfl, hp⟩ | ⟨rfl, hp⟩
  · refine wp_ifp rfl ?_
    with_reducible refine wp_if (fun c => ?_) (fun c => ?_)
    · exact wp_some (Or.inr ⟨hp.1, hp.2, Or.inl ⟨rfl, c⟩⟩)
    · refine wp_call (w4_isFull h.1) ?_
      with_reducible refine wp_bd ?_
      with_reducible refine wp_bd ?_
      with_reducible refine wp_if (fun c2 => ?_) (fun c2 => ?_) <;> (try simp (disch := omega) only [nI_lit, iI_le, iI_lt, iI_eq, nI_cl, nI_add, tI_4N, bt_shrN, bI01_0N, bI01_1N, Nat.not_le, Nat.not_lt, not_true_eq_false, not_false_eq_true, true_or, or_true, false_or, or_false, Bool.not_eq_false, Bool.not_eq_true] at c2)
      · rw [decide_eq_false_iff_not] at c2
        obtain ⟨r2, e2, hr2⟩ := w4_find h.1 a p
        refine wp_call e2 ?_
        rcases hr2 with ⟨rfl, hno⟩ | ⟨i, rfl, hi, -⟩
        · refine wp_ifp rfl ?_
          exact wp_some (Or.inr ⟨hp.1, hp.2, Or.inr ⟨c, Or.inr ⟨rfl, by omega, hno⟩⟩⟩)
        · refine wp_ifn (nI_ne_m1 (by have := hi.1; omega)) ?_
          exact wp_some (Or.inr ⟨hp.1, hp.2, Or.inr ⟨c, Or.inl ⟨rfl, Or.inr ⟨i, hi⟩⟩⟩⟩)
      · rw [decide_eq_true_eq] at c2
        exact wp_some (Or.inr ⟨hp.1, hp.2, Or.inr ⟨c, Or.inl ⟨rfl, Or.inl (by omega)⟩⟩⟩)
  · refine wp_ifn (by decide) ?_
    exact wp_some (Or.inl ⟨rfl, hp⟩)
theorem w3_stringFault {M : sx_M} {s : Nat} {A : SH} (h : CS M s A) (a p : Int32) (z : Bool) : wp (f3_stringFault s a p (bI01 z) M) (fun r => (r = 1 ∧ ∀ i, ¬ A.g.at a p i) ∨ ∃ i, A.g.at a p i ∧ (∀ j, j < i → ¬ A.g.at a p j) ∧ r = if A.g.Z i = z then 0 else 3) := by
  have h40 := h.1.1
  rw [f3_stringFault]
  obtain ⟨r2, e2, hr2⟩ := w4_find h.1 a p
  refine wp_call e2 ?_
  rcases hr2 with ⟨rfl, hno⟩ | ⟨i, rfl, hi, hf⟩
  · exact wp_ifp rfl (wp_some (Or.inl ⟨rfl, hno⟩))
  · refine wp_ifn (nI_ne_m1 (by have := hi.1; omega)) ?_
    refine wp_call (w4_isSoundAt h.1 hi.1) ?_
    with_reducible refine wp_bd ?_
    have hb : bI01 (A.g.Z i) = bI01 z ↔ A.g.Z i = z := by
      cases A.g.Z i <;> cases z <;> decide
    with_reducible refine wp_if (fun c => ?_) (fun c => ?_)
    · rw [hb] at c
      exact wp_some (Or.inr ⟨i, hi, hf, by rw [if_pos c]⟩)
    · rw [hb] at c
      exact wp_some (Or.inr ⟨i, hi, hf, by rw [if_neg c]⟩)
theorem w3_copyL {M : sx_M} {s s1 N m : Nat} {k : sx_M → Option sx_M} {Q : sx_M → Prop} (hs : s1 ≠ s) (h3 : M.1 1 s 3 = nI m) (hm : m ≤ 24) (hN : m < N) (hk : ∀ M1, Fr (fun k s' => k = 8 ∧ s' = s) M M1 → (∀ p, p < m → M1.1 8 s p = M.1 8 s1 p) → wp (k M1) Q) : wp (f3_copyFrom_L69 s s1 k N (nI 0) M) Q := by
  refine wp_up (F := fun m x2 M1 => f3_copyFrom_L69 s s1 k m x2 M1) m (fun j M1 => Fr (fun k s' => k = 8 ∧ s' = s) M M1 ∧ ∀ p, p < j → M1.1 8 s p = M.1 8 s1 p) (fun m j M1 hj hI kk => ?_) (fun m' M1 hI => ?_) N 0 M (by omega) (by omega) ⟨Fr.rf, fun p hp => absurd hp (Nat.not_lt_zero _)⟩
  · obtain ⟨f1, f2⟩ := hI
    have f4 : M1.1 1 s 3 = _ := (congrFun (f1.1 1 s (fun q => by cases q.1)) 3).trans h3
    have r : M1.1 8 s1 = M.1 8 s1 := f1.1 8 s1 (fun q => hs q.2)
    show wp (f3_copyFrom_L69 s s1 k (m + 1) (nI j) M1) _
    rw [f3_copyFrom_L69]
    repeat' (first | with_reducible refine wp_some ?_ | with_reducible refine wp_bd ?_ | (with_reducible refine wp_ifp ?_ ?_; · (first | exact ⟨by decide, by decide⟩ | exact sx_in_n (by omega) (by omega) | assumption | exact ⟨sx_in_n (by omega) (by omega), bI01_01 _⟩ | exact Or.inl rfl | exact Or.inr rfl | (simp (disch := omega) only [f4, nI_lit, iI_le, iI_lt, iI_eq, nI_cl, nI_add, tI_4N, bt_shrN, bI01_0N, bI01_1N, Nat.not_le, Nat.not_lt, not_true_eq_false, not_false_eq_true, true_or, or_true, false_or, or_false, Bool.not_eq_false, Bool.not_eq_true] <;> omega))) | (with_reducible refine wp_ifn ?_ ?_; · (first | exact ⟨by decide, by decide⟩ | exact sx_in_n (by omega) (by omega) | assumption | exact ⟨sx_in_n (by omega) (by omega), bI01_01 _⟩ | exact Or.inl rfl | exact Or.inr rfl | (simp (disch := omega) only [f4, nI_lit, iI_le, iI_lt, iI_eq, nI_cl, nI_add, tI_4N, bt_shrN, bI01_0N, bI01_1N, Nat.not_le, Nat.not_lt, not_true_eq_false, not_false_eq_true, true_or, or_true, false_or, or_false, Bool.not_eq_false, Bool.not_eq_true] <;> omega))) | fail)
    refine kk _ ⟨f1.set ⟨rfl, rfl⟩, fun p hp => ?_⟩
    rw [nI_cl (by omega)]
    by_cases e1 : p = j
    · subst e1; simp [st_at, r]
    · rw [← f2 p (by omega)]; simp [st_at, e1]
  · obtain ⟨f1, f2⟩ := hI
    have f4 : M1.1 1 s 3 = _ := (congrFun (f1.1 1 s (fun q => by cases q.1)) 3).trans h3
    show wp (f3_copyFrom_L69 s s1 k (m' + 1) (nI m) M1) _
    rw [f3_copyFrom_L69]
    repeat' (first | with_reducible refine wp_some ?_ | with_reducible refine wp_bd ?_ | (with_reducible refine wp_ifp ?_ ?_; · (first | exact ⟨by decide, by decide⟩ | exact sx_in_n (by omega) (by omega) | assumption | exact ⟨sx_in_n (by omega) (by omega), bI01_01 _⟩ | exact Or.inl rfl | exact Or.inr rfl | (simp (disch := omega) only [f4, nI_lit, iI_le, iI_lt, iI_eq, nI_cl, nI_add, tI_4N, bt_shrN, bI01_0N, bI01_1N, Nat.not_le, Nat.not_lt, not_true_eq_false, not_false_eq_true, true_or, or_true, false_or, or_false, Bool.not_eq_false, Bool.not_eq_true] <;> omega))) | (with_reducible refine wp_ifn ?_ ?_; · (first | exact ⟨by decide, by decide⟩ | exact sx_in_n (by omega) (by omega) | assumption | exact ⟨sx_in_n (by omega) (by omega), bI01_01 _⟩ | exact Or.inl rfl | exact Or.inr rfl | (simp (disch := omega) only [f4, nI_lit, iI_le, iI_lt, iI_eq, nI_cl, nI_add, tI_4N, bt_shrN, bI01_0N, bI01_1N, Nat.not_le, Nat.not_lt, not_true_eq_false, not_false_eq_true, true_or, or_true, false_or, or_false, Bool.not_eq_false, Bool.not_eq_true] <;> omega))) | fail)
    exact hk M1 f1 f2
theorem w3_copyFrom {M : sx_M} {s s1 : Nat} {A : SH} (hs : s1 ≠ s) (h : CS M s1 A) : wp (f3_copyFrom s s1 M) (fun M' => CS M' s A ∧ Fr (pSh s) M M') := by
  rw [f3_copyFrom]
  obtain ⟨h1, h2, h3, h4, h5, h6, h7, h8, h9⟩ := id h
  obtain ⟨M1, e1, g1, r1⟩ := w4_copyFrom hs h1
  refine wp_call e1 ?_
  have hno : ∀ k, ¬ pStr s k s1 := fun k q => hs q.2
  obtain ⟨M2, e2, g2, r2⟩ := w5_copyFrom hs (h2.fr r1 (hno 6) (hno 7))
  refine wp_call e2 ?_
  have f2 : Fr (pSh s) M M2 := (r1.mono pStr_sh).trans (r2.mono pSw_sh)
  have c2 := h.other f2 hs
  obtain ⟨-, -, -, k4, k5, k6, k7, k8, k9⟩ := c2
  have gs2 := g1.fr r2 (fun q => by rcases q.1 with q | q <;> omega) (fun q => by rcases q.1 with q | q <;> omega) (fun q => by rcases q.1 with q | q <;> omega) (fun q => by rcases q.1 with q | q <;> omega)
  have hs' : ¬ s1 = s := hs
  with_reducible refine wp_bd ?_
  with_reducible refine wp_bd ?_
  with_reducible refine wp_bd ?_
  with_reducible refine wp_bd ?_
  with_reducible refine wp_bd ?_
  with_reducible refine wp_bd ?_
  with_reducible refine wp_bd ?_
  with_reducible refine wp_bd ?_
  with_reducible refine wp_bd ?_
  with_reducible refine wp_bd ?_
  have hF : ∀ M3 : sx_M, Fr (fun k s' => k = 1 ∧ s' = s) M2 M3 → M3.1 1 s 3 = nI A.m → M3.1 1 s 4 = M2.1 1 s1 4 → M3.1 1 s 5 = M2.1 1 s1 5 → M3.1 1 s 6 = M2.1 1 s1 6 → M3.1 1 s 7 = M2.1 1 s1 7 → wp (f3_copyFrom_L69 s s1 (fun M19 => some M19) 5000 (nI 0) M3) (fun M' => CS M' s A ∧ Fr (pSh s) M M') := fun M3 r3 q3 q4 q5 q6 q7 => by
    have n1 : ∀ k, k ≠ 1 → ¬ (fun k s' => k = 1 ∧ s' = s) k s := fun k hk q => hk q.1
    refine w3_copyL hs q3 h3 (by omega) (fun M4 r4 w4 => wp_some ⟨?_, ((f2.trans (r3.mono (fun k s' q => ⟨by omega, q.2⟩))).trans (r4.mono (fun k s' q => ⟨by omega, q.2⟩)))⟩)
    have n8 : ∀ k, k ≠ 8 → ¬ (fun k s' => k = 8 ∧ s' = s) k s := fun k hk q => hk q.1
    refine ⟨(gs2.fr r3 (n1 2 (by omega)) (n1 3 (by omega)) (n1 4 (by omega)) (n1 5 (by omega))).fr r4 (n8 2 (by omega)) (n8 3 (by omega)) (n8 4 (by omega)) (n8 5 (by omega)), (g2.fr r3 (n1 6 (by omega)) (n1 7 (by omega))).fr r4 (n8 6 (by omega)) (n8 7 (by omega)), h3, ?_⟩
    rw [r4.1 1 s (n8 1 (by omega))]
    refine ⟨q3, q4 ▸ k5, q5 ▸ k6, q6.trans k7, q7.trans k8, fun p hp => (w4 p hp).trans ?_⟩
    rw [r3.1 8 s1 (fun q => by cases q.1)]
    exact k9 p hp
  refine hF _ (((((Fr.rf.set ⟨rfl, rfl⟩).set ⟨rfl, rfl⟩).set ⟨rfl, rfl⟩).set ⟨rfl, rfl⟩).set ⟨rfl, rfl⟩) ?_ ?_ ?_ ?_ ?_
  · simp [st_at, hs', k4]
  · simp [st_at, hs']
  · simp [st_at, hs']
  · simp [st_at, hs']
  · simp [st_at, hs']
