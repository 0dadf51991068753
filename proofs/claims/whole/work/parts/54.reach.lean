/-! THE CLASS'S REACH AND DEPTHS -/
theorem tI_nI {t p : Nat} (ht : t < 1000) (hp : p < 900) : tI t = nI p ↔ t = p + 4 := by rw [← tI_part, tI_inj ht (by omega)]
/-- counting, one after another -/
theorem fb_ct_bI (f : Nat → Bool) (j : Nat) : nI (fb_ct f j) + bI01 (f j) = nI (fb_ct f (j + 1)) := by
  rw [fb_ct_succ]
  cases f j
  · show nI _ + nI 0 = _; rw [nI_add]; rfl
  · show nI _ + nI 1 = _; rw [nI_add]; rfl
theorem w4_frayed {M : sx_M} {s : Nat} {g : GT} (h : GS M s g) : f4_frayed s M = some (nI (fb_ct (fun i => !g.Z i) g.n)) := by
  obtain ⟨h40, hn, hg⟩ := h
  refine wp_get ?_
  refine wp_up (F := fun m x3 x2 => f4_frayed_L4 s M _ m x2 x3) g.n (fun j x => x = nI (fb_ct (fun i => !g.Z i) j)) (fun m j a hj hI kk => ?_) (fun m a hI => ?_) 5000 0 0 (by omega) (by omega) rfl
  · obtain ⟨g1, g2, g3, g4, g5⟩ := hg j hj
    show wp (f4_frayed_L4 s M _ (m + 1) a (nI j)) _
    rw [f4_frayed_L4]
    repeat' (first | with_reducible refine wp_some ?_ | with_reducible refine wp_bd ?_ | (with_reducible refine wp_ifp ?_ ?_; · (first | exact sx_in_n (by omega) (by omega) | assumption | exact ⟨sx_in_n (by omega) (by omega), bI01_01 _⟩ | exact Or.inl rfl | exact Or.inr rfl | (simp (disch := omega) only [hn, nI_lit, iI_le, iI_lt, iI_eq, nI_cl, nI_add, tI_4N, bt_shrN, bI01_0N, bI01_1N, Nat.not_le, Nat.not_lt, not_true_eq_false, not_false_eq_true, true_or, or_true, false_or, or_false, Bool.not_eq_false, Bool.not_eq_true] <;> omega))) | (with_reducible refine wp_ifn ?_ ?_; · (first | exact sx_in_n (by omega) (by omega) | assumption | exact ⟨sx_in_n (by omega) (by omega), bI01_01 _⟩ | exact Or.inl rfl | exact Or.inr rfl | (simp (disch := omega) only [hn, nI_lit, iI_le, iI_lt, iI_eq, nI_cl, nI_add, tI_4N, bt_shrN, bI01_0N, bI01_1N, Nat.not_le, Nat.not_lt, not_true_eq_false, not_false_eq_true, true_or, or_true, false_or, or_false, Bool.not_eq_false, Bool.not_eq_true] <;> omega))) | fail)
    have e := fb_ct_bI (fun i => !g.Z i) j
    with_reducible refine wp_if (fun c => ?_) (fun c => ?_) <;> (try simp (disch := omega) only [g5, nI_lit, iI_le, iI_lt, iI_eq, nI_cl, nI_add, tI_4N, bt_shrN, bI01_0N, bI01_1N, Nat.not_le, Nat.not_lt, not_true_eq_false, not_false_eq_true, true_or, or_true, false_or, or_false, Bool.not_eq_false, Bool.not_eq_true] at c)
    · refine kk _ ?_
      rw [hI, ← e, c]; rfl
    · refine kk _ ?_
      rw [hI, ← e, c]; rfl
  · show wp (f4_frayed_L4 s M _ (m + 1) a (nI g.n)) _
    rw [f4_frayed_L4]
    repeat' (first | with_reducible refine wp_some ?_ | with_reducible refine wp_bd ?_ | (with_reducible refine wp_ifp ?_ ?_; · (first | exact sx_in_n (by omega) (by omega) | assumption | exact ⟨sx_in_n (by omega) (by omega), bI01_01 _⟩ | exact Or.inl rfl | exact Or.inr rfl | (simp (disch := omega) only [hn, nI_lit, iI_le, iI_lt, iI_eq, nI_cl, nI_add, tI_4N, bt_shrN, bI01_0N, bI01_1N, Nat.not_le, Nat.not_lt, not_true_eq_false, not_false_eq_true, true_or, or_true, false_or, or_false, Bool.not_eq_false, Bool.not_eq_true] <;> omega))) | (with_reducible refine wp_ifn ?_ ?_; · (first | exact sx_in_n (by omega) (by omega) | assumption | exact ⟨sx_in_n (by omega) (by omega), bI01_01 _⟩ | exact Or.inl rfl | exact Or.inr rfl | (simp (disch := omega) only [hn, nI_lit, iI_le, iI_lt, iI_eq, nI_cl, nI_add, tI_4N, bt_shrN, bI01_0N, bI01_1N, Nat.not_le, Nat.not_lt, not_true_eq_false, not_false_eq_true, true_or, or_true, false_or, or_false, Bool.not_eq_false, Bool.not_eq_true] <;> omega))) | fail)
    exact hI
theorem w4_soundTo {M : sx_M} {s : Nat} {g : GT} (h : GS M s g) {p : Nat} (hp : p < 24) : f4_soundTo s (nI p) M = some (nI (fb_ct (fun i => g.Z i && decide (g.B i = p)) g.n)) := by
  obtain ⟨h40, hn, hg⟩ := h
  refine wp_get ?_
  refine wp_up (F := fun m x3 x2 => f4_soundTo_L4 s (nI p) M _ m x2 x3) g.n (fun j x => x = nI (fb_ct (fun i => g.Z i && decide (g.B i = p)) j)) (fun m j a hj hI kk => ?_) (fun m a hI => ?_) 5000 0 0 (by omega) (by omega) rfl
  · obtain ⟨g1, g2, g3, g4, g5⟩ := hg j hj
    show wp (f4_soundTo_L4 s (nI p) M _ (m + 1) a (nI j)) _
    rw [f4_soundTo_L4]
    repeat' (first | with_reducible refine wp_some ?_ | with_reducible refine wp_bd ?_ | (with_reducible refine wp_ifp ?_ ?_; · (first | exact sx_in_n (by omega) (by omega) | assumption | exact ⟨sx_in_n (by omega) (by omega), bI01_01 _⟩ | exact Or.inl rfl | exact Or.inr rfl | (simp (disch := omega) only [hn, nI_lit, iI_le, iI_lt, iI_eq, nI_cl, nI_add, tI_4N, bt_shrN, bI01_0N, bI01_1N, Nat.not_le, Nat.not_lt, not_true_eq_false, not_false_eq_true, true_or, or_true, false_or, or_false, Bool.not_eq_false, Bool.not_eq_true] <;> omega))) | (with_reducible refine wp_ifn ?_ ?_; · (first | exact sx_in_n (by omega) (by omega) | assumption | exact ⟨sx_in_n (by omega) (by omega), bI01_01 _⟩ | exact Or.inl rfl | exact Or.inr rfl | (simp (disch := omega) only [hn, nI_lit, iI_le, iI_lt, iI_eq, nI_cl, nI_add, tI_4N, bt_shrN, bI01_0N, bI01_1N, Nat.not_le, Nat.not_lt, not_true_eq_false, not_false_eq_true, true_or, or_true, false_or, or_false, Bool.not_eq_false, Bool.not_eq_true] <;> omega))) | fail)
    have e := fb_ct_bI (fun i => g.Z i && decide (g.B i = p)) j
    with_reducible refine wp_if (fun c => ?_) (fun c => ?_) <;> (try simp (disch := omega) only [g5, nI_lit, iI_le, iI_lt, iI_eq, nI_cl, nI_add, tI_4N, bt_shrN, bI01_0N, bI01_1N, Nat.not_le, Nat.not_lt, not_true_eq_false, not_false_eq_true, true_or, or_true, false_or, or_false, Bool.not_eq_false, Bool.not_eq_true] at c)
    · refine kk _ ?_
      rw [hI, ← e, c]; rfl
    · repeat' (first | with_reducible refine wp_some ?_ | with_reducible refine wp_bd ?_ | (with_reducible refine wp_ifp ?_ ?_; · (first | exact sx_in_n (by omega) (by omega) | assumption | exact ⟨sx_in_n (by omega) (by omega), bI01_01 _⟩ | exact Or.inl rfl | exact Or.inr rfl | (simp (disch := omega) only [nI_lit, iI_le, iI_lt, iI_eq, nI_cl, nI_add, tI_4N, bt_shrN, bI01_0N, bI01_1N, Nat.not_le, Nat.not_lt, not_true_eq_false, not_false_eq_true, true_or, or_true, false_or, or_false, Bool.not_eq_false, Bool.not_eq_true] <;> omega))) | (with_reducible refine wp_ifn ?_ ?_; · (first | exact sx_in_n (by omega) (by omega) | assumption | exact ⟨sx_in_n (by omega) (by omega), bI01_01 _⟩ | exact Or.inl rfl | exact Or.inr rfl | (simp (disch := omega) only [nI_lit, iI_le, iI_lt, iI_eq, nI_cl, nI_add, tI_4N, bt_shrN, bI01_0N, bI01_1N, Nat.not_le, Nat.not_lt, not_true_eq_false, not_false_eq_true, true_or, or_true, false_or, or_false, Bool.not_eq_false, Bool.not_eq_true] <;> omega))) | fail)
      with_reducible refine wp_if (fun c2 => ?_) (fun c2 => ?_) <;> (try simp (disch := omega) only [g4, nI_lit, iI_le, iI_lt, iI_eq, nI_cl, nI_add, tI_4N, bt_shrN, bI01_0N, bI01_1N, Nat.not_le, Nat.not_lt, not_true_eq_false, not_false_eq_true, true_or, or_true, false_or, or_false, Bool.not_eq_false, Bool.not_eq_true] at c2)
      · refine kk _ ?_
        rw [hI, ← e, c, decide_eq_true c2]; rfl
      · refine kk _ ?_
        rw [hI, ← e, c, decide_eq_false c2]; rfl
  · show wp (f4_soundTo_L4 s (nI p) M _ (m + 1) a (nI g.n)) _
    rw [f4_soundTo_L4]
    repeat' (first | with_reducible refine wp_some ?_ | with_reducible refine wp_bd ?_ | (with_reducible refine wp_ifp ?_ ?_; · (first | exact sx_in_n (by omega) (by omega) | assumption | exact ⟨sx_in_n (by omega) (by omega), bI01_01 _⟩ | exact Or.inl rfl | exact Or.inr rfl | (simp (disch := omega) only [hn, nI_lit, iI_le, iI_lt, iI_eq, nI_cl, nI_add, tI_4N, bt_shrN, bI01_0N, bI01_1N, Nat.not_le, Nat.not_lt, not_true_eq_false, not_false_eq_true, true_or, or_true, false_or, or_false, Bool.not_eq_false, Bool.not_eq_true] <;> omega))) | (with_reducible refine wp_ifn ?_ ?_; · (first | exact sx_in_n (by omega) (by omega) | assumption | exact ⟨sx_in_n (by omega) (by omega), bI01_01 _⟩ | exact Or.inl rfl | exact Or.inr rfl | (simp (disch := omega) only [hn, nI_lit, iI_le, iI_lt, iI_eq, nI_cl, nI_add, tI_4N, bt_shrN, bI01_0N, bI01_1N, Nat.not_le, Nat.not_lt, not_true_eq_false, not_false_eq_true, true_or, or_true, false_or, or_false, Bool.not_eq_false, Bool.not_eq_true] <;> omega))) | fail)
    exact hI
theorem w4_under {M : sx_M} {s : Nat} {g : GT} (h : GS M s g) {p : Nat} (hp : p < 24) : f4_under s (nI p) M = some (nI (fb_ct (fun i => decide (g.A i = p + 4)) g.n)) := by
  obtain ⟨h40, hn, hg⟩ := h
  refine wp_get ?_
  refine wp_up (F := fun m x3 x2 => f4_under_L4 s (nI p) M _ m x2 x3) g.n (fun j x => x = nI (fb_ct (fun i => decide (g.A i = p + 4)) j)) (fun m j a hj hI kk => ?_) (fun m a hI => ?_) 5000 0 0 (by omega) (by omega) rfl
  · obtain ⟨g1, g2, g3, g4, g5⟩ := hg j hj
    show wp (f4_under_L4 s (nI p) M _ (m + 1) a (nI j)) _
    rw [f4_under_L4]
    repeat' (first | with_reducible refine wp_some ?_ | with_reducible refine wp_bd ?_ | (with_reducible refine wp_ifp ?_ ?_; · (first | exact sx_in_n (by omega) (by omega) | assumption | exact ⟨sx_in_n (by omega) (by omega), bI01_01 _⟩ | exact Or.inl rfl | exact Or.inr rfl | (simp (disch := omega) only [hn, nI_lit, iI_le, iI_lt, iI_eq, nI_cl, nI_add, tI_4N, bt_shrN, bI01_0N, bI01_1N, Nat.not_le, Nat.not_lt, not_true_eq_false, not_false_eq_true, true_or, or_true, false_or, or_false, Bool.not_eq_false, Bool.not_eq_true] <;> omega))) | (with_reducible refine wp_ifn ?_ ?_; · (first | exact sx_in_n (by omega) (by omega) | assumption | exact ⟨sx_in_n (by omega) (by omega), bI01_01 _⟩ | exact Or.inl rfl | exact Or.inr rfl | (simp (disch := omega) only [hn, nI_lit, iI_le, iI_lt, iI_eq, nI_cl, nI_add, tI_4N, bt_shrN, bI01_0N, bI01_1N, Nat.not_le, Nat.not_lt, not_true_eq_false, not_false_eq_true, true_or, or_true, false_or, or_false, Bool.not_eq_false, Bool.not_eq_true] <;> omega))) | fail)
    have e := fb_ct_bI (fun i => decide (g.A i = p + 4)) j
    with_reducible refine wp_if (fun c => ?_) (fun c => ?_) <;> (try simp (disch := omega) only [g3, tI_nI, nI_lit, iI_le, iI_lt, iI_eq, nI_cl, nI_add, tI_4N, bt_shrN, bI01_0N, bI01_1N, Nat.not_le, Nat.not_lt, not_true_eq_false, not_false_eq_true, true_or, or_true, false_or, or_false, Bool.not_eq_false, Bool.not_eq_true] at c)
    · refine kk _ ?_
      rw [hI, ← e, decide_eq_true c]; rfl
    · refine kk _ ?_
      rw [hI, ← e, decide_eq_false c]; rfl
  · show wp (f4_under_L4 s (nI p) M _ (m + 1) a (nI g.n)) _
    rw [f4_under_L4]
    repeat' (first | with_reducible refine wp_some ?_ | with_reducible refine wp_bd ?_ | (with_reducible refine wp_ifp ?_ ?_; · (first | exact sx_in_n (by omega) (by omega) | assumption | exact ⟨sx_in_n (by omega) (by omega), bI01_01 _⟩ | exact Or.inl rfl | exact Or.inr rfl | (simp (disch := omega) only [hn, nI_lit, iI_le, iI_lt, iI_eq, nI_cl, nI_add, tI_4N, bt_shrN, bI01_0N, bI01_1N, Nat.not_le, Nat.not_lt, not_true_eq_false, not_false_eq_true, true_or, or_true, false_or, or_false, Bool.not_eq_false, Bool.not_eq_true] <;> omega))) | (with_reducible refine wp_ifn ?_ ?_; · (first | exact sx_in_n (by omega) (by omega) | assumption | exact ⟨sx_in_n (by omega) (by omega), bI01_01 _⟩ | exact Or.inl rfl | exact Or.inr rfl | (simp (disch := omega) only [hn, nI_lit, iI_le, iI_lt, iI_eq, nI_cl, nI_add, tI_4N, bt_shrN, bI01_0N, bI01_1N, Nat.not_le, Nat.not_lt, not_true_eq_false, not_false_eq_true, true_or, or_true, false_or, or_false, Bool.not_eq_false, Bool.not_eq_true] <;> omega))) | fail)
    exact hI
theorem w4_reach {M : sx_M} {s : Nat} {g : GT} (h : GS M s g) (x lo : Int32) : wp (f4_reach s x lo M) (fun r => ∀ t, t < 32 → bt r t = (g.wo lo).held (bt x) t) := by
  have hok : (g.wo lo).ok := h.ok
  obtain ⟨h40, hn, hg⟩ := h
  have fin : ∀ r : Int32, (∀ t, t < 32 → bt x t = true → bt r t = true) → (∀ t, t < 32 → bt r t = true → (g.wo lo).held (bt x) t = true) → (∀ e, e < g.n → (g.wo lo).Z e = true → bt r (g.A e) = true → bt r (g.B e + 4) = true) → ∀ t, t < 32 → bt r t = (g.wo lo).held (bt x) t := fun r h1 h2 h3 t ht => by
    rw [Bool.eq_iff_iff]
    exact ⟨h2 t ht, fun q => GT.lev_least (Y := fun t => bt r t = true) h1 h3 hok 24 t ht q⟩
  refine wp_up (F := fun m x4 x3 => f4_reach_L5 s lo M m x3 x4) 24 (fun j b => (∀ t, t < 32 → bt x t = true → bt b t = true) ∧ (∀ t, t < 32 → bt b t = true → (g.wo lo).held (bt x) t = true) ∧ j ≤ fb_ct (fun p => bt b (p + 4)) 24) (fun m j b hj hI kk => ?_) (fun m b hI => ?_) 5000 0 x (by omega) (by omega) ⟨fun _ _ q => q, fun _ _ q => GT.held_H q, Nat.zero_le _⟩
  · obtain ⟨i1, i2, i3⟩ := hI
    show wp (f4_reach_L5 s lo M (m + 1) b (nI j)) _
    rw [f4_reach_L5]
    repeat' (first | with_reducible refine wp_some ?_ | with_reducible refine wp_bd ?_ | (with_reducible refine wp_ifp ?_ ?_; · (first | exact sx_in_n (by omega) (by omega) | assumption | exact ⟨sx_in_n (by omega) (by omega), bI01_01 _⟩ | exact Or.inl rfl | exact Or.inr rfl | (simp (disch := omega) only [nI_lit, iI_le, iI_lt, iI_eq, nI_cl, nI_add, tI_4N, bt_shrN, bI01_0N, bI01_1N, Nat.not_le, Nat.not_lt, not_true_eq_false, not_false_eq_true, true_or, or_true, false_or, or_false, Bool.not_eq_false, Bool.not_eq_true] <;> omega))) | (with_reducible refine wp_ifn ?_ ?_; · (first | exact sx_in_n (by omega) (by omega) | assumption | exact ⟨sx_in_n (by omega) (by omega), bI01_01 _⟩ | exact Or.inl rfl | exact Or.inr rfl | (simp (disch := omega) only [nI_lit, iI_le, iI_lt, iI_eq, nI_cl, nI_add, tI_4N, bt_shrN, bI01_0N, bI01_1N, Nat.not_le, Nat.not_lt, not_true_eq_false, not_false_eq_true, true_or, or_true, false_or, or_false, Bool.not_eq_false, Bool.not_eq_true] <;> omega))) | fail)
    refine wp_up (F := fun m x6 x3 => f4_reach_L18 s lo (nI j) b M _ m x3 x6) g.n (fun i y => (∀ t, t < 32 → bt b t = true → bt y t = true) ∧ (∀ t, t < 32 → bt y t = true → (g.wo lo).held (bt x) t = true) ∧ (∀ t, t < 32 → bt y t = true → bt b t = true ∨ (4 ≤ t ∧ t < 28)) ∧ (∀ e, e < i → (g.wo lo).Z e = true → bt b (g.A e) = true → bt y (g.B e + 4) = true)) (fun m i y hi hI kk => ?_) (fun m y hI => ?_) 5000 0 b (by omega) (by omega) ⟨fun _ _ q => q, i2, fun _ _ q => Or.inl q, fun e he => absurd he (Nat.not_lt_zero _)⟩
    · obtain ⟨k1, k2, k3, k4⟩ := hI
      obtain ⟨g1, g2, g3, g4, g5⟩ := hg i hi
      show wp (f4_reach_L18 s lo (nI j) b M _ (m + 1) y (nI i)) _
      rw [f4_reach_L18]
      repeat' (first | with_reducible refine wp_some ?_ | with_reducible refine wp_bd ?_ | (with_reducible refine wp_ifp ?_ ?_; · (first | exact sx_in_n (by omega) (by omega) | assumption | exact ⟨sx_in_n (by omega) (by omega), bI01_01 _⟩ | exact Or.inl rfl | exact Or.inr rfl | (simp (disch := omega) only [hn, nI_lit, iI_le, iI_lt, iI_eq, nI_cl, nI_add, tI_4N, bt_shrN, bI01_0N, bI01_1N, Nat.not_le, Nat.not_lt, not_true_eq_false, not_false_eq_true, true_or, or_true, false_or, or_false, Bool.not_eq_false, Bool.not_eq_true] <;> omega))) | (with_reducible refine wp_ifn ?_ ?_; · (first | exact sx_in_n (by omega) (by omega) | assumption | exact ⟨sx_in_n (by omega) (by omega), bI01_01 _⟩ | exact Or.inl rfl | exact Or.inr rfl | (simp (disch := omega) only [hn, nI_lit, iI_le, iI_lt, iI_eq, nI_cl, nI_add, tI_4N, bt_shrN, bI01_0N, bI01_1N, Nat.not_le, Nat.not_lt, not_true_eq_false, not_false_eq_true, true_or, or_true, false_or, or_false, Bool.not_eq_false, Bool.not_eq_true] <;> omega))) | fail)
      have keep : ((g.wo lo).Z i = true → bt b (g.A i) = true → bt y (g.B i + 4) = true) → _ := fun hne => kk y ⟨k1, k2, k3, fun e he => if q : e = i then q ▸ hne else k4 e (by omega)⟩
      with_reducible refine wp_if (fun c1 => ?_) (fun c1 => ?_) <;> (try simp (disch := omega) only [g5, nI_lit, iI_le, iI_lt, iI_eq, nI_cl, nI_add, tI_4N, bt_shrN, bI01_0N, bI01_1N, Nat.not_le, Nat.not_lt, not_true_eq_false, not_false_eq_true, true_or, or_true, false_or, or_false, Bool.not_eq_false, Bool.not_eq_true] at c1)
      · refine keep (fun q => ?_)
        have q' : (g.Z i && !decide (nI i = lo)) = true := q
        rw [c1] at q'; cases q'
      · with_reducible refine wp_if (fun c2 => ?_) (fun c2 => ?_)
        · refine keep (fun q => ?_)
          have q' : (g.Z i && !decide (nI i = lo)) = true := q
          rw [decide_eq_true c2, Bool.and_comm] at q'; cases q'
        · repeat' (first | with_reducible refine wp_some ?_ | with_reducible refine wp_bd ?_ | (with_reducible refine wp_ifp ?_ ?_; · (first | exact sx_in_n (by omega) (by omega) | assumption | exact ⟨sx_in_n (by omega) (by omega), bI01_01 _⟩ | exact Or.inl rfl | exact Or.inr rfl | (simp (disch := omega) only [nI_lit, iI_le, iI_lt, iI_eq, nI_cl, nI_add, tI_4N, bt_shrN, bI01_0N, bI01_1N, Nat.not_le, Nat.not_lt, not_true_eq_false, not_false_eq_true, true_or, or_true, false_or, or_false, Bool.not_eq_false, Bool.not_eq_true] <;> omega))) | (with_reducible refine wp_ifn ?_ ?_; · (first | exact sx_in_n (by omega) (by omega) | assumption | exact ⟨sx_in_n (by omega) (by omega), bI01_01 _⟩ | exact Or.inl rfl | exact Or.inr rfl | (simp (disch := omega) only [nI_lit, iI_le, iI_lt, iI_eq, nI_cl, nI_add, tI_4N, bt_shrN, bI01_0N, bI01_1N, Nat.not_le, Nat.not_lt, not_true_eq_false, not_false_eq_true, true_or, or_true, false_or, or_false, Bool.not_eq_false, Bool.not_eq_true] <;> omega))) | fail)
          have hz : (g.wo lo).Z i = true := by
            show (g.Z i && !decide (nI i = lo)) = true
            rw [c1, decide_eq_false c2]; rfl
          with_reducible refine wp_if (fun c3 => ?_) (fun c3 => ?_) <;> (try simp (disch := omega) only [g3, nI_lit, iI_le, iI_lt, iI_eq, nI_cl, nI_add, tI_4N, bt_shrN, bI01_0N, bI01_1N, Nat.not_le, Nat.not_lt, not_true_eq_false, not_false_eq_true, true_or, or_true, false_or, or_false, Bool.not_eq_false, Bool.not_eq_true] at c3)
          · refine keep (fun _ q => ?_)
            rw [k1 (g.A i) (by omega) q] at c3; cases c3
          · repeat' (first | with_reducible refine wp_some ?_ | with_reducible refine wp_bd ?_ | (with_reducible refine wp_ifp ?_ ?_; · (first | exact sx_in_n (by omega) (by omega) | assumption | exact ⟨sx_in_n (by omega) (by omega), bI01_01 _⟩ | exact Or.inl rfl | exact Or.inr rfl | (simp (disch := omega) only [nI_lit, iI_le, iI_lt, iI_eq, nI_cl, nI_add, tI_4N, bt_shrN, bI01_0N, bI01_1N, Nat.not_le, Nat.not_lt, not_true_eq_false, not_false_eq_true, true_or, or_true, false_or, or_false, Bool.not_eq_false, Bool.not_eq_true] <;> omega))) | (with_reducible refine wp_ifn ?_ ?_; · (first | exact sx_in_n (by omega) (by omega) | assumption | exact ⟨sx_in_n (by omega) (by omega), bI01_01 _⟩ | exact Or.inl rfl | exact Or.inr rfl | (simp (disch := omega) only [nI_lit, iI_le, iI_lt, iI_eq, nI_cl, nI_add, tI_4N, bt_shrN, bI01_0N, bI01_1N, Nat.not_le, Nat.not_lt, not_true_eq_false, not_false_eq_true, true_or, or_true, false_or, or_false, Bool.not_eq_false, Bool.not_eq_true] <;> omega))) | fail)
            have e1 : y ||| (1 : Int32) <<< ((M.1 4 s (nI i).toNatClampNeg + (4 : Int32)) &&& 31) = y ||| bI (g.B i + 4) := by
              rw [nI_cl (by omega), g4, show (nI (g.B i) + 4 : Int32) = nI (g.B i + 4) from nI_add _ 4]; rfl
            rw [e1]
            have hbt : ∀ t, t < 32 → bt (y ||| bI (g.B i + 4)) t = (bt y t || decide (t = g.B i + 4)) := fun t ht => by rw [bt_or, bt_bI (by omega) ht]
            refine kk _ ⟨fun t ht q => ?_, fun t ht q => ?_, fun t ht q => ?_, fun e he hz2 q => ?_⟩
            · rw [hbt t ht, k1 t ht q]; rfl
            · rw [hbt t ht, Bool.or_eq_true, decide_eq_true_eq] at q
              rcases q with q | rfl
              · exact k2 t ht q
              · exact GT.held_closed hok hi hz (k2 (g.A i) (by omega) c3)
            · rw [hbt t ht, Bool.or_eq_true, decide_eq_true_eq] at q
              rcases q with q | rfl
              · exact k3 t ht q
              · exact Or.inr ⟨by omega, by omega⟩
            · have hbe := (hg e (by omega)).2.1
              rw [hbt _ (by omega)]
              by_cases qe : e = i
              · subst qe; simp
              · rw [k4 e (by omega) hz2 q]; rfl
    · obtain ⟨k1, k2, k3, k4⟩ := hI
      show wp (f4_reach_L18 s lo (nI j) b M _ (m + 1) y (nI g.n)) _
      rw [f4_reach_L18]
      repeat' (first | with_reducible refine wp_some ?_ | with_reducible refine wp_bd ?_ | (with_reducible refine wp_ifp ?_ ?_; · (first | exact sx_in_n (by omega) (by omega) | assumption | exact ⟨sx_in_n (by omega) (by omega), bI01_01 _⟩ | exact Or.inl rfl | exact Or.inr rfl | (simp (disch := omega) only [hn, nI_lit, iI_le, iI_lt, iI_eq, nI_cl, nI_add, tI_4N, bt_shrN, bI01_0N, bI01_1N, Nat.not_le, Nat.not_lt, not_true_eq_false, not_false_eq_true, true_or, or_true, false_or, or_false, Bool.not_eq_false, Bool.not_eq_true] <;> omega))) | (with_reducible refine wp_ifn ?_ ?_; · (first | exact sx_in_n (by omega) (by omega) | assumption | exact ⟨sx_in_n (by omega) (by omega), bI01_01 _⟩ | exact Or.inl rfl | exact Or.inr rfl | (simp (disch := omega) only [hn, nI_lit, iI_le, iI_lt, iI_eq, nI_cl, nI_add, tI_4N, bt_shrN, bI01_0N, bI01_1N, Nat.not_le, Nat.not_lt, not_true_eq_false, not_false_eq_true, true_or, or_true, false_or, or_false, Bool.not_eq_false, Bool.not_eq_true] <;> omega))) | fail)
      with_reducible refine wp_if (fun c => ?_) (fun c => ?_)
      · subst c
        exact wp_some (fin y i1 k2 k4)
      · refine kk y ⟨fun t ht q => k1 t ht (i1 t ht q), k2, ?_⟩
        obtain ⟨t, ht, q1, q2⟩ : ∃ t, t < 32 ∧ bt y t = true ∧ bt b t = false := by
          refine Classical.byContradiction fun hc => c (b_ext fun t ht => ?_)
          cases e1 : bt b t with
          | true => exact k1 t ht e1
          | false =>
            cases e2 : bt y t with
            | false => rfl
            | true => exact absurd ⟨t, ht, e2, e1⟩ hc
        have h4 : 4 ≤ t ∧ t < 28 := (k3 t ht q1).resolve_left (by rw [q2]; decide)
        have := fb_ct_lt (X := fun p => bt b (p + 4)) (Y := fun p => bt y (p + 4)) (n := 24) (q := t - 4) (fun p hp => k1 (p + 4) (by omega)) (by omega) (by show bt b (t - 4 + 4) = false; rw [show t - 4 + 4 = t by omega]; exact q2) (by show bt y (t - 4 + 4) = true; rw [show t - 4 + 4 = t by omega]; exact q1)
        omega
  · obtain ⟨i1, i2, i3⟩ := hI
    show wp (f4_reach_L5 s lo M (m + 1) b (nI 24)) _
    rw [f4_reach_L5]
    repeat' (first | with_reducible refine wp_some ?_ | with_reducible refine wp_bd ?_ | (with_reducible refine wp_ifp ?_ ?_; · (first | exact sx_in_n (by omega) (by omega) | assumption | exact ⟨sx_in_n (by omega) (by omega), bI01_01 _⟩ | exact Or.inl rfl | exact Or.inr rfl | (simp (disch := omega) only [nI_lit, iI_le, iI_lt, iI_eq, nI_cl, nI_add, tI_4N, bt_shrN, bI01_0N, bI01_1N, Nat.not_le, Nat.not_lt, not_true_eq_false, not_false_eq_true, true_or, or_true, false_or, or_false, Bool.not_eq_false, Bool.not_eq_true] <;> omega))) | (with_reducible refine wp_ifn ?_ ?_; · (first | exact sx_in_n (by omega) (by omega) | assumption | exact ⟨sx_in_n (by omega) (by omega), bI01_01 _⟩ | exact Or.inl rfl | exact Or.inr rfl | (simp (disch := omega) only [nI_lit, iI_le, iI_lt, iI_eq, nI_cl, nI_add, tI_4N, bt_shrN, bI01_0N, bI01_1N, Nat.not_le, Nat.not_lt, not_true_eq_false, not_false_eq_true, true_or, or_true, false_or, or_false, Bool.not_eq_false, Bool.not_eq_true] <;> omega))) | fail)
    have hall := (fb_ct_all (p := fun p => bt b (p + 4)) (n := 24)).mp (by have := fb_ct_le (fun p => bt b (p + 4)) 24; omega)
    exact fin b i1 i2 (fun e he _ _ => hall (g.B e) (hg e he).2.1)
