/-! THE CLASS'S DEPTHS, WAYS, RINGS -/
/-- at the first level d -/
def GT.dp (g : GT) (H : Nat → Bool) (t d : Nat) : Prop := g.lev H d t = true ∧ ∀ e, e < d → g.lev H e t = false
theorem GT.dp_uniq {g : GT} {H : Nat → Bool} {t d e : Nat} (h : g.dp H t d) (h' : g.dp H t e) : d = e := by
  by_cases q : d < e
  · have := h'.2 d q; rw [h.1] at this; cases this
  · by_cases q2 : e < d
    · have := h.2 e q2; rw [h'.1] at this; cases this
    · omega
theorem GT.dp_ex {g : GT} {H : Nat → Bool} {t : Nat} : ∀ {d : Nat}, g.lev H d t = true → ∃ e, e ≤ d ∧ g.dp H t e := by
  intro d
  induction d with
  | zero => intro h; exact ⟨0, by omega, h, fun e he => absurd he (Nat.not_lt_zero _)⟩
  | succ d ih =>
    intro h
    cases q : g.lev H d t with
    | true => obtain ⟨e, he, hd⟩ := ih q; exact ⟨e, by omega, hd⟩
    | false =>
      refine ⟨d + 1, by omega, h, fun e he => ?_⟩
      cases q2 : g.lev H e t with
      | false => rfl
      | true => rw [GT.lev_le (by omega : e ≤ d) q2] at q; cases q
theorem GT.dp_24 {g : GT} {H : Nat → Bool} (hg : g.ok) {t d : Nat} (ht : t < 32) (h : g.dp H t d) : d ≤ 24 := by
  refine Classical.byContradiction fun hc => ?_
  have h24 := h.2 24 (by omega)
  rw [← GT.lev_24 hg d t ht (by omega), h.1] at h24
  cases h24
theorem GT.held_dp {g : GT} {H : Nat → Bool} {t : Nat} (h : g.held H t = true) : ∃ d, d ≤ 24 ∧ g.dp H t d := GT.dp_ex h
theorem w4_depthOf_o {M : sx_M} {s : Nat} {g : GT} (h : GS M s g) (x : Int32) {v : Int32} (hv : v < -4 ∨ 24 ≤ v) : f4_depthOf s x v M = some (-9) := by
  refine wp_get ?_
  refine wp_up (F := fun m x4 x3 => f4_depthOf_L5 s v M m x3 x4) 25 (fun _ _ => True) (fun m j a hj hI kk => ?_) (fun m a hI => ?_) 5000 0 x (by omega) (by omega) trivial
  · show wp (f4_depthOf_L5 s v M (m + 1) a (nI j)) _
    rw [f4_depthOf_L5]
    repeat' (first | with_reducible refine wp_some ?_ | with_reducible refine wp_bd ?_ | (with_reducible refine wp_ifp ?_ ?_; · (first | exact sx_in_n (by omega) (by omega) | assumption | exact ⟨sx_in_n (by omega) (by omega), bI01_01 _⟩ | exact Or.inl rfl | exact Or.inr rfl | (simp (disch := omega) only [nI_lit, iI_le, iI_lt, iI_eq, nI_cl, nI_add, tI_4N, bt_shrN, bI01_0N, bI01_1N, Nat.not_le, Nat.not_lt, not_true_eq_false, not_false_eq_true, true_or, or_true, false_or, or_false, Bool.not_eq_false, Bool.not_eq_true] <;> omega))) | (with_reducible refine wp_ifn ?_ ?_; · (first | exact sx_in_n (by omega) (by omega) | assumption | exact ⟨sx_in_n (by omega) (by omega), bI01_01 _⟩ | exact Or.inl rfl | exact Or.inr rfl | (simp (disch := omega) only [nI_lit, iI_le, iI_lt, iI_eq, nI_cl, nI_add, tI_4N, bt_shrN, bI01_0N, bI01_1N, Nat.not_le, Nat.not_lt, not_true_eq_false, not_false_eq_true, true_or, or_true, false_or, or_false, Bool.not_eq_false, Bool.not_eq_true] <;> omega))) | fail)
    refine wp_call (w7_bitOf_o hv M) ?_
    refine wp_ifp (by rw [bt_eq0]; intro i hi; rw [b_and, bt_zero, Bool.and_false]) ?_
    obtain ⟨r, e, hr⟩ := w4_nextBelow h a
    refine wp_call e ?_
    exact kk _ trivial
  · show wp (f4_depthOf_L5 s v M (m + 1) a (nI 25)) _
    rw [f4_depthOf_L5]
    repeat' (first | with_reducible refine wp_some ?_ | with_reducible refine wp_bd ?_ | (with_reducible refine wp_ifp ?_ ?_; · (first | exact sx_in_n (by omega) (by omega) | assumption | exact ⟨sx_in_n (by omega) (by omega), bI01_01 _⟩ | exact Or.inl rfl | exact Or.inr rfl | (simp (disch := omega) only [nI_lit, iI_le, iI_lt, iI_eq, nI_cl, nI_add, tI_4N, bt_shrN, bI01_0N, bI01_1N, Nat.not_le, Nat.not_lt, not_true_eq_false, not_false_eq_true, true_or, or_true, false_or, or_false, Bool.not_eq_false, Bool.not_eq_true] <;> omega))) | (with_reducible refine wp_ifn ?_ ?_; · (first | exact sx_in_n (by omega) (by omega) | assumption | exact ⟨sx_in_n (by omega) (by omega), bI01_01 _⟩ | exact Or.inl rfl | exact Or.inr rfl | (simp (disch := omega) only [nI_lit, iI_le, iI_lt, iI_eq, nI_cl, nI_add, tI_4N, bt_shrN, bI01_0N, bI01_1N, Nat.not_le, Nat.not_lt, not_true_eq_false, not_false_eq_true, true_or, or_true, false_or, or_false, Bool.not_eq_false, Bool.not_eq_true] <;> omega))) | fail)
    rfl
theorem w4_depthOf {M : sx_M} {s : Nat} {g : GT} (h : GS M s g) (x : Int32) {v : Nat} (hv : v < 28) : wp (f4_depthOf s x (tI v) M) (fun r => (∃ d, d ≤ 24 ∧ r = nI d ∧ g.dp (bt x) v d) ∨ (r = -9 ∧ g.held (bt x) v = false)) := by
  refine wp_up (F := fun m x4 x3 => f4_depthOf_L5 s (tI v) M m x3 x4) 25 (fun j y => (∀ t, t < 32 → bt y t = g.lev (bt x) j t) ∧ ∀ e, e < j → g.lev (bt x) e v = false) (fun m j a hj hI kk => ?_) (fun m a hI => ?_) 5000 0 x (by omega) (by omega) ⟨fun _ _ => rfl, fun e he => absurd he (Nat.not_lt_zero _)⟩
  · show wp (f4_depthOf_L5 s (tI v) M (m + 1) a (nI j)) _
    rw [f4_depthOf_L5]
    repeat' (first | with_reducible refine wp_some ?_ | with_reducible refine wp_bd ?_ | (with_reducible refine wp_ifp ?_ ?_; · (first | exact sx_in_n (by omega) (by omega) | assumption | exact ⟨sx_in_n (by omega) (by omega), bI01_01 _⟩ | exact Or.inl rfl | exact Or.inr rfl | (simp (disch := omega) only [nI_lit, iI_le, iI_lt, iI_eq, nI_cl, nI_add, tI_4N, bt_shrN, bI01_0N, bI01_1N, Nat.not_le, Nat.not_lt, not_true_eq_false, not_false_eq_true, true_or, or_true, false_or, or_false, Bool.not_eq_false, Bool.not_eq_true] <;> omega))) | (with_reducible refine wp_ifn ?_ ?_; · (first | exact sx_in_n (by omega) (by omega) | assumption | exact ⟨sx_in_n (by omega) (by omega), bI01_01 _⟩ | exact Or.inl rfl | exact Or.inr rfl | (simp (disch := omega) only [nI_lit, iI_le, iI_lt, iI_eq, nI_cl, nI_add, tI_4N, bt_shrN, bI01_0N, bI01_1N, Nat.not_le, Nat.not_lt, not_true_eq_false, not_false_eq_true, true_or, or_true, false_or, or_false, Bool.not_eq_false, Bool.not_eq_true] <;> omega))) | fail)
    refine wp_call (w7_bitOf_t hv M) ?_
    with_reducible refine wp_if (fun c => ?_) (fun c => ?_)
    · rw [bt_and (by omega), hI.1 v (by omega)] at c
      obtain ⟨r, e, hr⟩ := w4_nextBelow h a
      refine wp_call e ?_
      refine kk _ ⟨fun t ht => ?_, fun e he => ?_⟩
      · rw [bt_or, hr t ht, hI.1 t ht, GT.nx_cong h.ok (Y := g.lev (bt x) j) (fun t ht => hI.1 t (by omega)) t]; rfl
      · by_cases q : e = j
        · subst q; exact c
        · exact hI.2 e (by omega)
    · rw [bt_and (by omega), hI.1 v (by omega)] at c
      refine wp_some (Or.inl ⟨j, by omega, rfl, by simpa using c, hI.2⟩)
  · show wp (f4_depthOf_L5 s (tI v) M (m + 1) a (nI 25)) _
    rw [f4_depthOf_L5]
    repeat' (first | with_reducible refine wp_some ?_ | with_reducible refine wp_bd ?_ | (with_reducible refine wp_ifp ?_ ?_; · (first | exact sx_in_n (by omega) (by omega) | assumption | exact ⟨sx_in_n (by omega) (by omega), bI01_01 _⟩ | exact Or.inl rfl | exact Or.inr rfl | (simp (disch := omega) only [nI_lit, iI_le, iI_lt, iI_eq, nI_cl, nI_add, tI_4N, bt_shrN, bI01_0N, bI01_1N, Nat.not_le, Nat.not_lt, not_true_eq_false, not_false_eq_true, true_or, or_true, false_or, or_false, Bool.not_eq_false, Bool.not_eq_true] <;> omega))) | (with_reducible refine wp_ifn ?_ ?_; · (first | exact sx_in_n (by omega) (by omega) | assumption | exact ⟨sx_in_n (by omega) (by omega), bI01_01 _⟩ | exact Or.inl rfl | exact Or.inr rfl | (simp (disch := omega) only [nI_lit, iI_le, iI_lt, iI_eq, nI_cl, nI_add, tI_4N, bt_shrN, bI01_0N, bI01_1N, Nat.not_le, Nat.not_lt, not_true_eq_false, not_false_eq_true, true_or, or_true, false_or, or_false, Bool.not_eq_false, Bool.not_eq_true] <;> omega))) | fail)
    exact Or.inr ⟨rfl, hI.2 24 (by omega)⟩
theorem w4_greatestDepth {M : sx_M} {s : Nat} {g : GT} (h : GS M s g) (x : Int32) : wp (f4_greatestDepth s x M) (fun r => ∃ d, d ≤ 24 ∧ r = nI d ∧ (∀ t, t < 32 → ∀ e, g.lev (bt x) e t = true → g.lev (bt x) d t = true) ∧ ∀ e, e < d → ∃ t, t < 32 ∧ g.lev (bt x) (e + 1) t = true ∧ g.lev (bt x) e t = false) := by
  refine wp_up (F := fun m x3 x2 => f4_greatestDepth_L4 s M m x2 x3) 24 (fun j y => (∀ t, t < 32 → bt y t = g.lev (bt x) j t) ∧ ∀ e, e < j → ∃ t, t < 32 ∧ g.lev (bt x) (e + 1) t = true ∧ g.lev (bt x) e t = false) (fun m j a hj hI kk => ?_) (fun m a hI => ?_) 5000 0 x (by omega) (by omega) ⟨fun _ _ => rfl, fun e he => absurd he (Nat.not_lt_zero _)⟩
  · show wp (f4_greatestDepth_L4 s M (m + 1) a (nI j)) _
    rw [f4_greatestDepth_L4]
    repeat' (first | with_reducible refine wp_some ?_ | with_reducible refine wp_bd ?_ | (with_reducible refine wp_ifp ?_ ?_; · (first | exact sx_in_n (by omega) (by omega) | assumption | exact ⟨sx_in_n (by omega) (by omega), bI01_01 _⟩ | exact Or.inl rfl | exact Or.inr rfl | (simp (disch := omega) only [nI_lit, iI_le, iI_lt, iI_eq, nI_cl, nI_add, tI_4N, bt_shrN, bI01_0N, bI01_1N, Nat.not_le, Nat.not_lt, not_true_eq_false, not_false_eq_true, true_or, or_true, false_or, or_false, Bool.not_eq_false, Bool.not_eq_true] <;> omega))) | (with_reducible refine wp_ifn ?_ ?_; · (first | exact sx_in_n (by omega) (by omega) | assumption | exact ⟨sx_in_n (by omega) (by omega), bI01_01 _⟩ | exact Or.inl rfl | exact Or.inr rfl | (simp (disch := omega) only [nI_lit, iI_le, iI_lt, iI_eq, nI_cl, nI_add, tI_4N, bt_shrN, bI01_0N, bI01_1N, Nat.not_le, Nat.not_lt, not_true_eq_false, not_false_eq_true, true_or, or_true, false_or, or_false, Bool.not_eq_false, Bool.not_eq_true] <;> omega))) | fail)
    obtain ⟨r, e, hr⟩ := w4_nextBelow h a
    refine wp_call e ?_
    have hor : ∀ t, t < 32 → bt (a ||| r) t = g.lev (bt x) (j + 1) t := fun t ht => by
      rw [bt_or, hr t ht, hI.1 t ht, GT.nx_cong h.ok (Y := g.lev (bt x) j) (fun t ht => hI.1 t (by omega)) t]; rfl
    with_reducible refine wp_bd ?_
    with_reducible refine wp_if (fun c => ?_) (fun c => ?_)
    · have hst : ∀ t, t < 32 → g.lev (bt x) (j + 1) t = g.lev (bt x) j t := fun t ht => by rw [← hor t ht, c, hI.1 t ht]
      refine wp_some ⟨j, by omega, rfl, fun t ht e he => ?_, hI.2⟩
      by_cases q : e ≤ j
      · exact GT.lev_le q he
      · rw [← GT.lev_still h.ok hst e (by omega) t ht]; exact he
    · refine kk _ ⟨hor, fun e he => ?_⟩
      by_cases q : e = j
      · subst q
        refine Classical.byContradiction fun hc => c (b_ext fun t ht => ?_)
        rw [hor t ht, hI.1 t ht]
        cases e1 : g.lev (bt x) e t with
        | true => exact GT.lev_up e1
        | false =>
          cases e2 : g.lev (bt x) (e + 1) t with
          | false => rfl
          | true => exact absurd ⟨t, ht, e2, e1⟩ hc
      · exact hI.2 e (by omega)
  · show wp (f4_greatestDepth_L4 s M (m + 1) a (nI 24)) _
    rw [f4_greatestDepth_L4]
    repeat' (first | with_reducible refine wp_some ?_ | with_reducible refine wp_bd ?_ | (with_reducible refine wp_ifp ?_ ?_; · (first | exact sx_in_n (by omega) (by omega) | assumption | exact ⟨sx_in_n (by omega) (by omega), bI01_01 _⟩ | exact Or.inl rfl | exact Or.inr rfl | (simp (disch := omega) only [nI_lit, iI_le, iI_lt, iI_eq, nI_cl, nI_add, tI_4N, bt_shrN, bI01_0N, bI01_1N, Nat.not_le, Nat.not_lt, not_true_eq_false, not_false_eq_true, true_or, or_true, false_or, or_false, Bool.not_eq_false, Bool.not_eq_true] <;> omega))) | (with_reducible refine wp_ifn ?_ ?_; · (first | exact sx_in_n (by omega) (by omega) | assumption | exact ⟨sx_in_n (by omega) (by omega), bI01_01 _⟩ | exact Or.inl rfl | exact Or.inr rfl | (simp (disch := omega) only [nI_lit, iI_le, iI_lt, iI_eq, nI_cl, nI_add, tI_4N, bt_shrN, bI01_0N, bI01_1N, Nat.not_le, Nat.not_lt, not_true_eq_false, not_false_eq_true, true_or, or_true, false_or, or_false, Bool.not_eq_false, Bool.not_eq_true] <;> omega))) | fail)
    exact ⟨24, by omega, rfl, fun t ht e he => GT.held_of h.ok ht he, hI.2⟩
theorem w4_isOnRing {M : sx_M} {s : Nat} {g : GT} (h : GS M s g) {p : Nat} (hp : p < 24) : f4_isOnRing s (nI p) M = some (bI01 (g.held (g.nx (fun t => decide (t = p + 4))) (p + 4))) := by
  refine wp_get ?_
  rw [f4_isOnRing]
  refine wp_call (w7_bitOf_p hp M) ?_
  obtain ⟨r, e, hr⟩ := w4_nextBelow h (bI (p + 4))
  refine wp_call e ?_
  obtain ⟨r2, e2, hr2⟩ := w4_reach h r (-1)
  refine wp_call e2 ?_
  refine wp_call (w7_bitOf_p hp M) ?_
  have hb : bt r2 (p + 4) = g.held (g.nx (fun t => decide (t = p + 4))) (p + 4) := by
    rw [hr2 _ (by omega)]
    have e3 : (g.wo (-1)).held (bt r) (p + 4) = g.held (bt r) (p + 4) := by
      have hok := h.ok
      have hne : ∀ i, i < g.n → (g.wo (-1)).Z i = g.Z i := fun i hi => by
        show (g.Z i && !decide (nI i = -1)) = g.Z i
        rw [decide_eq_false (by rw [fa_eq, nI_toInt (by have := hok.1; omega)]; show ¬ ((i : Int) = -1); omega)]; simp
      rw [Bool.eq_iff_iff]
      constructor
      · exact fun q => GT.lev_least (g := g.wo (-1)) (Y := fun t => g.held (bt r) t = true) (fun t _ q => GT.held_H q) (fun i hi hz q => GT.held_closed hok hi ((hne i hi) ▸ hz) q) hok 24 _ (by omega) q
      · exact fun q => GT.lev_least (g := g) (Y := fun t => (g.wo (-1)).held (bt r) t = true) (fun t _ q => GT.held_H q) (fun i hi hz q => GT.held_closed (g := g.wo (-1)) hok hi ((hne i hi).trans hz) q) hok 24 _ (by omega) q
    rw [e3]
    refine GT.lev_cong h.ok (fun t ht => ?_) 24 _ (by omega)
    rw [hr t ht]
    exact GT.nx_cong h.ok (fun t ht => by rw [bt_bI (by omega) (by omega)]) t
  with_reducible refine wp_bd ?_
  with_reducible refine wp_if (fun c => ?_) (fun c => ?_)
  · rw [bt_and (by omega), hb] at c
    repeat' (first | with_reducible refine wp_some ?_ | with_reducible refine wp_bd ?_ | (with_reducible refine wp_ifp ?_ ?_; · (first | exact sx_in_n (by omega) (by omega) | assumption | exact ⟨sx_in_n (by omega) (by omega), bI01_01 _⟩ | exact Or.inl rfl | exact Or.inr rfl | (simp (disch := omega) only [nI_lit, iI_le, iI_lt, iI_eq, nI_cl, nI_add, tI_4N, bt_shrN, bI01_0N, bI01_1N, Nat.not_le, Nat.not_lt, not_true_eq_false, not_false_eq_true, true_or, or_true, false_or, or_false, Bool.not_eq_false, Bool.not_eq_true] <;> omega))) | (with_reducible refine wp_ifn ?_ ?_; · (first | exact sx_in_n (by omega) (by omega) | assumption | exact ⟨sx_in_n (by omega) (by omega), bI01_01 _⟩ | exact Or.inl rfl | exact Or.inr rfl | (simp (disch := omega) only [nI_lit, iI_le, iI_lt, iI_eq, nI_cl, nI_add, tI_4N, bt_shrN, bI01_0N, bI01_1N, Nat.not_le, Nat.not_lt, not_true_eq_false, not_false_eq_true, true_or, or_true, false_or, or_false, Bool.not_eq_false, Bool.not_eq_true] <;> omega))) | fail)
    rw [c]; rfl
  · rw [bt_and (by omega), hb] at c
    repeat' (first | with_reducible refine wp_some ?_ | with_reducible refine wp_bd ?_ | (with_reducible refine wp_ifp ?_ ?_; · (first | exact sx_in_n (by omega) (by omega) | assumption | exact ⟨sx_in_n (by omega) (by omega), bI01_01 _⟩ | exact Or.inl rfl | exact Or.inr rfl | (simp (disch := omega) only [nI_lit, iI_le, iI_lt, iI_eq, nI_cl, nI_add, tI_4N, bt_shrN, bI01_0N, bI01_1N, Nat.not_le, Nat.not_lt, not_true_eq_false, not_false_eq_true, true_or, or_true, false_or, or_false, Bool.not_eq_false, Bool.not_eq_true] <;> omega))) | (with_reducible refine wp_ifn ?_ ?_; · (first | exact sx_in_n (by omega) (by omega) | assumption | exact ⟨sx_in_n (by omega) (by omega), bI01_01 _⟩ | exact Or.inl rfl | exact Or.inr rfl | (simp (disch := omega) only [nI_lit, iI_le, iI_lt, iI_eq, nI_cl, nI_add, tI_4N, bt_shrN, bI01_0N, bI01_1N, Nat.not_le, Nat.not_lt, not_true_eq_false, not_false_eq_true, true_or, or_true, false_or, or_false, Bool.not_eq_false, Bool.not_eq_true] <;> omega))) | fail)
    rw [show g.held (g.nx (fun t => decide (t = p + 4))) (p + 4) = true by simpa using c]; rfl
