/-! THE CLASS'S ACTS -/
def SH.steps (A : SH) : Nat → SH
  | 0 => A
  | k + 1 => if (A.steps k).G then (A.steps k).step else A.steps k
theorem SH.steps_stop {A : SH} {j : Nat} (h : (A.steps j).G = false) : ∀ k, j ≤ k → A.steps k = A.steps j := by
  intro k
  induction k with
  | zero => intro hk; rw [show j = 0 by omega]
  | succ k ih =>
    intro hk
    by_cases e : j = k + 1
    · rw [e]
    · have := ih (by omega)
      show (if (A.steps k).G then (A.steps k).step else A.steps k) = A.steps j
      rw [this, h]; rfl
theorem w3_takeSteps {M : sx_M} {s : Nat} {A : SH} (h : CS M s A) {k : Nat} (hk : k < 1000) : wp (f3_takeSteps s (nI k) M) (fun M' => CS M' s (A.steps k) ∧ Fr (pSh s) M M') := by
  rw [f3_takeSteps]
  refine wp_up (F := fun m x2 M1 => f3_takeSteps_L2 s (nI k) _ m x2 M1) k (fun j M1 => CS M1 s (A.steps j) ∧ Fr (pSh s) M M1) (fun m j M1 hj hI kk => ?_) (fun m M1 hI => ?_) 5000 0 M (by omega) (by omega) ⟨h, Fr.rf⟩
  · show wp (f3_takeSteps_L2 s (nI k) _ (m + 1) (nI j) M1) _
    rw [f3_takeSteps_L2]
    repeat' (first | with_reducible refine wp_some ?_ | with_reducible refine wp_bd ?_ | (with_reducible refine wp_ifp ?_ ?_; · (first | exact ⟨by decide, by decide⟩ | exact sx_in_n (by omega) (by omega) | assumption | exact ⟨sx_in_n (by omega) (by omega), bI01_01 _⟩ | exact Or.inl rfl | exact Or.inr rfl | (simp (disch := omega) only [nI_lit, iI_le, iI_lt, iI_eq, nI_cl, nI_add, tI_4N, bt_shrN, bI01_0N, bI01_1N, Nat.not_le, Nat.not_lt, not_true_eq_false, not_false_eq_true, true_or, or_true, false_or, or_false, Bool.not_eq_false, Bool.not_eq_true] <;> omega))) | (with_reducible refine wp_ifn ?_ ?_; · (first | exact ⟨by decide, by decide⟩ | exact sx_in_n (by omega) (by omega) | assumption | exact ⟨sx_in_n (by omega) (by omega), bI01_01 _⟩ | exact Or.inl rfl | exact Or.inr rfl | (simp (disch := omega) only [nI_lit, iI_le, iI_lt, iI_eq, nI_cl, nI_add, tI_4N, bt_shrN, bI01_0N, bI01_1N, Nat.not_le, Nat.not_lt, not_true_eq_false, not_false_eq_true, true_or, or_true, false_or, or_false, Bool.not_eq_false, Bool.not_eq_true] <;> omega))) | fail)
    refine wp_call (w5_isGoing hI.1.2.1) ?_
    with_reducible refine wp_if (fun c => ?_) (fun c => ?_) <;> (try simp (disch := omega) only [nI_lit, iI_le, iI_lt, iI_eq, nI_cl, nI_add, tI_4N, bt_shrN, bI01_0N, bI01_1N, Nat.not_le, Nat.not_lt, not_true_eq_false, not_false_eq_true, true_or, or_true, false_or, or_false, Bool.not_eq_false, Bool.not_eq_true] at c)
    · refine wp_some ⟨?_, hI.2⟩
      rw [SH.steps_stop c k (by omega)]
      exact hI.1
    · obtain ⟨⟨r1, M2⟩, e, -, c2, f2⟩ := w3_takeStep hI.1 c
      refine wp_b2 e ?_
      refine kk M2 ⟨?_, hI.2.trans f2⟩
      show CS M2 s (if (A.steps j).G then (A.steps j).step else A.steps j)
      rw [if_pos c]
      exact c2
  · show wp (f3_takeSteps_L2 s (nI k) _ (m + 1) (nI k) M1) _
    rw [f3_takeSteps_L2]
    repeat' (first | with_reducible refine wp_some ?_ | with_reducible refine wp_bd ?_ | (with_reducible refine wp_ifp ?_ ?_; · (first | exact ⟨by decide, by decide⟩ | exact sx_in_n (by omega) (by omega) | assumption | exact ⟨sx_in_n (by omega) (by omega), bI01_01 _⟩ | exact Or.inl rfl | exact Or.inr rfl | (simp (disch := omega) only [nI_lit, iI_le, iI_lt, iI_eq, nI_cl, nI_add, tI_4N, bt_shrN, bI01_0N, bI01_1N, Nat.not_le, Nat.not_lt, not_true_eq_false, not_false_eq_true, true_or, or_true, false_or, or_false, Bool.not_eq_false, Bool.not_eq_true] <;> omega))) | (with_reducible refine wp_ifn ?_ ?_; · (first | exact ⟨by decide, by decide⟩ | exact sx_in_n (by omega) (by omega) | assumption | exact ⟨sx_in_n (by omega) (by omega), bI01_01 _⟩ | exact Or.inl rfl | exact Or.inr rfl | (simp (disch := omega) only [nI_lit, iI_le, iI_lt, iI_eq, nI_cl, nI_add, tI_4N, bt_shrN, bI01_0N, bI01_1N, Nat.not_le, Nat.not_lt, not_true_eq_false, not_false_eq_true, true_or, or_true, false_or, or_false, Bool.not_eq_false, Bool.not_eq_true] <;> omega))) | fail)
    exact hI
def SH.finish (A : SH) : SH := (if A.G then A else A.begin).steps 25
theorem w3_finishSweep {M : sx_M} {s : Nat} {A : SH} (h : CS M s A) : wp (f3_finishSweep s M) (fun M' => CS M' s A.finish ∧ Fr (pSh s) M M') := by
  rw [f3_finishSweep]
  refine wp_call (w5_isGoing h.2.1) ?_
  unfold SH.finish
  have fin : ∀ (M1 : sx_M) (B : SH), CS M1 s B → Fr (pSh s) M M1 → wp ((f3_takeSteps s (25 : Int32) M1).bind fun M4 => some M4) (fun M' => CS M' s (B.steps 25) ∧ Fr (pSh s) M M') := fun M1 B hB hf => by
    obtain ⟨M2, e, c2, f2⟩ := w3_takeSteps hB (k := 25) (by omega)
    refine wp_call e ?_
    exact wp_some ⟨c2, hf.trans f2⟩
  with_reducible refine wp_bd ?_
  cases hG : A.G with
  | true =>
    refine wp_ifn (by decide) ?_
    exact fin M A h Fr.rf
  | false =>
    refine wp_ifp rfl ?_
    obtain ⟨⟨r1, M1⟩, e, -, c1, f1⟩ := w3_beginSweep h
    refine wp_b2 e ?_
    exact fin M1 _ c1 f1
