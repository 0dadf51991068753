/-! THE CLASS'S COUNTS AND WEIGHTS -/
theorem Wd.count {r : Int32} {X : Nat → Bool} (h : Wd r X) : fb_ct (bt r) 32 = fb_ct X 24 := by
  rw [show (32 : Nat) = 4 + 28 from rfl, fb_ct_split, show (28 : Nat) = 24 + 4 from rfl, fb_ct_split]
  have e0 : fb_ct (bt r) 4 = 0 := fb_ct_zero.mpr (fun k hk => h.hook hk)
  have e1 : fb_ct (fun k => bt r (4 + k)) 24 = fb_ct X 24 := fb_ct_cong (fun k hk => by rw [Nat.add_comm, h.at hk])
  have e2 : fb_ct (fun k => (fun k => bt r (4 + k)) (24 + k)) 4 = 0 := fb_ct_zero.mpr (fun k hk => by
    show bt r (4 + (24 + k)) = false
    rw [h _ (by omega)]
    have : ¬ 4 + (24 + k) < 28 := by omega
    simp [this])
  rw [e0, e1, e2]
  omega
theorem wJ_count {r : Int32} {X : Nat → Bool} (h : Wd r X) (M : sx_M) : fJ6_bitCount_0f7a4 r M = some (nI (fb_ct X 24)) := by
  rw [wJ_bitCount, h.count]
/-- parts of one set but not of the other -/
theorem Wd.minus {m m' : Int32} {X Y : Nat → Bool} (h : Wd m X) (h' : ∀ t, t < 28 → 4 ≤ t → bt m' t = Y (t - 4)) : Wd (m &&& (m' ^^^ (-1))) (fun p => X p && !Y p) := fun i hi => by
  rw [b_and, h i hi, bt_not hi]
  by_cases h4 : 4 ≤ i
  · by_cases h28 : i < 28
    · rw [h' i h28 h4]
      simp [h4, h28]
    · simp [h28]
  · simp [h4]
theorem Wd.atp {m' : Int32} {Y : Nat → Bool} (h : Wd m' Y) : ∀ t, t < 28 → 4 ≤ t → bt m' t = Y (t - 4) := fun t h28 h4 => by
  rw [h t (by omega)]; simp [h4, h28]
theorem Wd.xor {m m' : Int32} {X Y : Nat → Bool} (h : Wd m X) (h' : Wd m' Y) : Wd (m ^^^ m') (fun p => X p ^^ Y p) := fun i hi => by
  rw [b_xor, h i hi, h' i hi]
  by_cases h4 : 4 ≤ i
  · by_cases h28 : i < 28
    · simp [h4, h28]
    · simp [h28]
  · simp [h4]
theorem Wd.or {m m' : Int32} {X Y : Nat → Bool} (h : Wd m X) (h' : Wd m' Y) : Wd (m ||| m') (fun p => X p || Y p) := fun i hi => by
  rw [bt_or, h i hi, h' i hi]
  by_cases h4 : 4 ≤ i
  · by_cases h28 : i < 28
    · simp [h4, h28]
    · simp [h28]
  · simp [h4]
/-- a sum of weights -/
def sw (X : Nat → Bool) (W : Nat → Int32) : Nat → Int32
  | 0 => 0
  | n + 1 => sw X W n + (if X n then W n else 0)
theorem sw_succ (X : Nat → Bool) (W : Nat → Int32) (n : Nat) : sw X W (n + 1) = sw X W n + (if X n then W n else 0) := rfl
theorem w3_weightOf {M : sx_M} {s : Nat} {A : SH} (h : CS M s A) {x : Int32} {X : Nat → Bool} (hx : Wd x X) : f3_weightOf s x M = some (sw X A.W A.m) := by
  obtain ⟨h1, h2, h3, h4, h5, h6, h7, h8, h9⟩ := id h
  refine wp_get ?_
  refine wp_up (F := fun m x3 x2 => f3_weightOf_L4 s x M _ m x2 x3) A.m (fun j y => y = sw X A.W j) (fun m j a hj hI kk => ?_) (fun m a hI => ?_) 5000 0 0 (by omega) (by omega) rfl
  · show wp (f3_weightOf_L4 s x M _ (m + 1) a (nI j)) _
    rw [f3_weightOf_L4]
    repeat' (first | with_reducible refine wp_some ?_ | with_reducible refine wp_bd ?_ | (with_reducible refine wp_ifp ?_ ?_; · (first | exact ⟨by decide, by decide⟩ | exact sx_in_n (by omega) (by omega) | assumption | exact ⟨sx_in_n (by omega) (by omega), bI01_01 _⟩ | exact Or.inl rfl | exact Or.inr rfl | (simp (disch := omega) only [h4, nI_lit, iI_le, iI_lt, iI_eq, nI_cl, nI_add, tI_4N, bt_shrN, bI01_0N, bI01_1N, Nat.not_le, Nat.not_lt, not_true_eq_false, not_false_eq_true, true_or, or_true, false_or, or_false, Bool.not_eq_false, Bool.not_eq_true] <;> omega))) | (with_reducible refine wp_ifn ?_ ?_; · (first | exact ⟨by decide, by decide⟩ | exact sx_in_n (by omega) (by omega) | assumption | exact ⟨sx_in_n (by omega) (by omega), bI01_01 _⟩ | exact Or.inl rfl | exact Or.inr rfl | (simp (disch := omega) only [h4, nI_lit, iI_le, iI_lt, iI_eq, nI_cl, nI_add, tI_4N, bt_shrN, bI01_0N, bI01_1N, Nat.not_le, Nat.not_lt, not_true_eq_false, not_false_eq_true, true_or, or_true, false_or, or_false, Bool.not_eq_false, Bool.not_eq_true] <;> omega))) | fail)
    refine wp_call (w7_bitOf_p (by omega) M) ?_
    have tw := hx.tst (p := j) (by omega)
    with_reducible refine wp_bd ?_
    with_reducible refine wp_if (fun c => ?_) (fun c => ?_)
    · rw [tw] at c
      refine kk _ ?_
      rw [hI, sw_succ, c]; rfl
    · rw [tw, Bool.not_eq_false] at c
      repeat' (first | with_reducible refine wp_some ?_ | with_reducible refine wp_bd ?_ | (with_reducible refine wp_ifp ?_ ?_; · (first | exact ⟨by decide, by decide⟩ | exact sx_in_n (by omega) (by omega) | assumption | exact ⟨sx_in_n (by omega) (by omega), bI01_01 _⟩ | exact Or.inl rfl | exact Or.inr rfl | (simp (disch := omega) only [nI_lit, iI_le, iI_lt, iI_eq, nI_cl, nI_add, tI_4N, bt_shrN, bI01_0N, bI01_1N, Nat.not_le, Nat.not_lt, not_true_eq_false, not_false_eq_true, true_or, or_true, false_or, or_false, Bool.not_eq_false, Bool.not_eq_true] <;> omega))) | (with_reducible refine wp_ifn ?_ ?_; · (first | exact ⟨by decide, by decide⟩ | exact sx_in_n (by omega) (by omega) | assumption | exact ⟨sx_in_n (by omega) (by omega), bI01_01 _⟩ | exact Or.inl rfl | exact Or.inr rfl | (simp (disch := omega) only [nI_lit, iI_le, iI_lt, iI_eq, nI_cl, nI_add, tI_4N, bt_shrN, bI01_0N, bI01_1N, Nat.not_le, Nat.not_lt, not_true_eq_false, not_false_eq_true, true_or, or_true, false_or, or_false, Bool.not_eq_false, Bool.not_eq_true] <;> omega))) | fail)
      refine kk _ ?_
      rw [hI, sw_succ, c, nI_cl (by omega), h9 j hj]; rfl
  · show wp (f3_weightOf_L4 s x M _ (m + 1) a (nI A.m)) _
    rw [f3_weightOf_L4]
    repeat' (first | with_reducible refine wp_some ?_ | with_reducible refine wp_bd ?_ | (with_reducible refine wp_ifp ?_ ?_; · (first | exact ⟨by decide, by decide⟩ | exact sx_in_n (by omega) (by omega) | assumption | exact ⟨sx_in_n (by omega) (by omega), bI01_01 _⟩ | exact Or.inl rfl | exact Or.inr rfl | (simp (disch := omega) only [h4, nI_lit, iI_le, iI_lt, iI_eq, nI_cl, nI_add, tI_4N, bt_shrN, bI01_0N, bI01_1N, Nat.not_le, Nat.not_lt, not_true_eq_false, not_false_eq_true, true_or, or_true, false_or, or_false, Bool.not_eq_false, Bool.not_eq_true] <;> omega))) | (with_reducible refine wp_ifn ?_ ?_; · (first | exact ⟨by decide, by decide⟩ | exact sx_in_n (by omega) (by omega) | assumption | exact ⟨sx_in_n (by omega) (by omega), bI01_01 _⟩ | exact Or.inl rfl | exact Or.inr rfl | (simp (disch := omega) only [h4, nI_lit, iI_le, iI_lt, iI_eq, nI_cl, nI_add, tI_4N, bt_shrN, bI01_0N, bI01_1N, Nat.not_le, Nat.not_lt, not_true_eq_false, not_false_eq_true, true_or, or_true, false_or, or_false, Bool.not_eq_false, Bool.not_eq_true] <;> omega))) | fail)
    exact hI
theorem w3_swept {M : sx_M} {s : Nat} {A : SH} (h : CS M s A) : f3_swept s M = some (nI A.m - nI (fb_ct A.T 24)) := by
  obtain ⟨h1, h2, h3, h4, h5, h6, h7, h8, h9⟩ := id h
  refine wp_get ?_
  rw [f3_swept]
  with_reducible refine wp_bd ?_
  with_reducible refine wp_bd ?_
  refine wp_call (wJ_count h5 M) ?_
  refine wp_some ?_
  rw [h4]
theorem w3_weightUnder {M : sx_M} {s : Nat} {A : SH} (h : CS M s A) (lo : Int32) : f3_weightUnder s lo M = some (sw (fun p => A.H p && !(A.g.wo lo).held (hol A.P) (p + 4)) A.W A.m) := by
  refine wp_get ?_
  rw [f3_weightUnder]
  obtain ⟨r, e, hr⟩ := w3_held h
  refine wp_call e ?_
  obtain ⟨x, e1, hx⟩ := w3_holders h
  refine wp_call e1 ?_
  obtain ⟨r2, e2, hr2⟩ := w4_reach h.1 x lo
  refine wp_call e2 ?_
  have hok := GT.wo_ok h.1.ok lo
  have hw : Wd (r &&& (r2 ^^^ (-1))) (fun p => A.H p && !(A.g.wo lo).held (hol A.P) (p + 4)) := hr.minus (Y := fun p => (A.g.wo lo).held (hol A.P) (p + 4)) (fun t h28 h4 => by
    rw [hr2 t (by omega)]
    show _ = (A.g.wo lo).held (hol A.P) (t - 4 + 4)
    rw [show t - 4 + 4 = t by omega]
    exact GT.lev_cong hok hx 24 t (by omega))
  refine wp_call (w3_weightOf h hw) ?_
  exact wp_some rfl
/-- whether a part hangs in a ring: below itself -/
def GT.ring (g : GT) (p : Nat) : Bool := g.held (g.nx (fun t => decide (t = p + 4))) (p + 4)
theorem w3_partsOnRings {M : sx_M} {s : Nat} {A : SH} (h : CS M s A) : f3_partsOnRings s M = some (nI (fb_ct (fun p => A.T p && !A.H p && A.g.ring p) 24)) := by
  refine wp_get ?_
  rw [f3_partsOnRings]
  with_reducible refine wp_bd ?_
  obtain ⟨r, e, hr⟩ := w3_held h
  refine wp_call e ?_
  have hw : Wd (M.1 1 s 4 &&& (r ^^^ (-1))) (fun p => A.T p && !A.H p) := h.2.2.2.2.1.minus hr.atp
  with_reducible refine wp_bd ?_
  generalize M.1 1 s 4 &&& (r ^^^ (-1)) = x at hw ⊢
  refine wp_up (F := fun m x3 x2 => f3_partsOnRings_L16 s x M m x2 x3) 24 (fun j y => y = nI (fb_ct (fun p => A.T p && !A.H p && A.g.ring p) j)) (fun m j a hj hI kk => ?_) (fun m a hI => ?_) 5000 0 0 (by omega) (by omega) rfl
  · show wp (f3_partsOnRings_L16 s x M (m + 1) a (nI j)) _
    rw [f3_partsOnRings_L16]
    repeat' (first | with_reducible refine wp_some ?_ | with_reducible refine wp_bd ?_ | (with_reducible refine wp_ifp ?_ ?_; · (first | exact ⟨by decide, by decide⟩ | exact sx_in_n (by omega) (by omega) | assumption | exact ⟨sx_in_n (by omega) (by omega), bI01_01 _⟩ | exact Or.inl rfl | exact Or.inr rfl | (simp (disch := omega) only [nI_lit, iI_le, iI_lt, iI_eq, nI_cl, nI_add, tI_4N, bt_shrN, bI01_0N, bI01_1N, Nat.not_le, Nat.not_lt, not_true_eq_false, not_false_eq_true, true_or, or_true, false_or, or_false, Bool.not_eq_false, Bool.not_eq_true] <;> omega))) | (with_reducible refine wp_ifn ?_ ?_; · (first | exact ⟨by decide, by decide⟩ | exact sx_in_n (by omega) (by omega) | assumption | exact ⟨sx_in_n (by omega) (by omega), bI01_01 _⟩ | exact Or.inl rfl | exact Or.inr rfl | (simp (disch := omega) only [nI_lit, iI_le, iI_lt, iI_eq, nI_cl, nI_add, tI_4N, bt_shrN, bI01_0N, bI01_1N, Nat.not_le, Nat.not_lt, not_true_eq_false, not_false_eq_true, true_or, or_true, false_or, or_false, Bool.not_eq_false, Bool.not_eq_true] <;> omega))) | fail)
    refine wp_call (w7_bitOf_p (by omega) M) ?_
    have tw := hw.tst (p := j) (by omega)
    have eb := fb_ct_bI (fun p => A.T p && !A.H p && A.g.ring p) j
    with_reducible refine wp_bd ?_
    with_reducible refine wp_bd ?_
    with_reducible refine wp_if (fun c => ?_) (fun c => ?_)
    · rw [tw] at c
      refine kk _ ?_
      rw [hI, ← eb, c]; rfl
    · rw [tw, Bool.not_eq_false] at c
      refine wp_call (w4_isOnRing h.1 (by omega)) ?_
      have ering : A.g.held (A.g.nx (fun t => decide (t = j + 4))) (j + 4) = A.g.ring j := rfl
      rw [ering]
      with_reducible refine wp_if (fun c2 => ?_) (fun c2 => ?_) <;> (try simp (disch := omega) only [nI_lit, iI_le, iI_lt, iI_eq, nI_cl, nI_add, tI_4N, bt_shrN, bI01_0N, bI01_1N, Nat.not_le, Nat.not_lt, not_true_eq_false, not_false_eq_true, true_or, or_true, false_or, or_false, Bool.not_eq_false, Bool.not_eq_true] at c2)
      · refine kk _ ?_
        rw [hI, ← eb, c, c2]; rfl
      · refine kk _ ?_
        rw [hI, ← eb, c, c2]; rfl
  · show wp (f3_partsOnRings_L16 s x M (m + 1) a (nI 24)) _
    rw [f3_partsOnRings_L16]
    repeat' (first | with_reducible refine wp_some ?_ | with_reducible refine wp_bd ?_ | (with_reducible refine wp_ifp ?_ ?_; · (first | exact ⟨by decide, by decide⟩ | exact sx_in_n (by omega) (by omega) | assumption | exact ⟨sx_in_n (by omega) (by omega), bI01_01 _⟩ | exact Or.inl rfl | exact Or.inr rfl | (simp (disch := omega) only [nI_lit, iI_le, iI_lt, iI_eq, nI_cl, nI_add, tI_4N, bt_shrN, bI01_0N, bI01_1N, Nat.not_le, Nat.not_lt, not_true_eq_false, not_false_eq_true, true_or, or_true, false_or, or_false, Bool.not_eq_false, Bool.not_eq_true] <;> omega))) | (with_reducible refine wp_ifn ?_ ?_; · (first | exact ⟨by decide, by decide⟩ | exact sx_in_n (by omega) (by omega) | assumption | exact ⟨sx_in_n (by omega) (by omega), bI01_01 _⟩ | exact Or.inl rfl | exact Or.inr rfl | (simp (disch := omega) only [nI_lit, iI_le, iI_lt, iI_eq, nI_cl, nI_add, tI_4N, bt_shrN, bI01_0N, bI01_1N, Nat.not_le, Nat.not_lt, not_true_eq_false, not_false_eq_true, true_or, or_true, false_or, or_false, Bool.not_eq_false, Bool.not_eq_true] <;> omega))) | fail)
    exact hI
theorem w3_isPinned {M : sx_M} {s : Nat} {A : SH} (h : CS M s A) {p : Nat} (hp : p < 24) : f3_isPinned s (nI p) M = some (bI01 (A.P p)) := by
  refine wp_get ?_
  rw [f3_isPinned]
  with_reducible refine wp_bd ?_
  refine wp_call (w7_bitOf_p hp M) ?_
  have tw := h.2.2.2.2.2.1.tst hp
  with_reducible refine wp_bd ?_
  with_reducible refine wp_if (fun c => ?_) (fun c => ?_)
  · rw [tw] at c
    repeat' (first | with_reducible refine wp_some ?_ | with_reducible refine wp_bd ?_ | (with_reducible refine wp_ifp ?_ ?_; · (first | exact ⟨by decide, by decide⟩ | exact sx_in_n (by omega) (by omega) | assumption | exact ⟨sx_in_n (by omega) (by omega), bI01_01 _⟩ | exact Or.inl rfl | exact Or.inr rfl | (simp (disch := omega) only [nI_lit, iI_le, iI_lt, iI_eq, nI_cl, nI_add, tI_4N, bt_shrN, bI01_0N, bI01_1N, Nat.not_le, Nat.not_lt, not_true_eq_false, not_false_eq_true, true_or, or_true, false_or, or_false, Bool.not_eq_false, Bool.not_eq_true] <;> omega))) | (with_reducible refine wp_ifn ?_ ?_; · (first | exact ⟨by decide, by decide⟩ | exact sx_in_n (by omega) (by omega) | assumption | exact ⟨sx_in_n (by omega) (by omega), bI01_01 _⟩ | exact Or.inl rfl | exact Or.inr rfl | (simp (disch := omega) only [nI_lit, iI_le, iI_lt, iI_eq, nI_cl, nI_add, tI_4N, bt_shrN, bI01_0N, bI01_1N, Nat.not_le, Nat.not_lt, not_true_eq_false, not_false_eq_true, true_or, or_true, false_or, or_false, Bool.not_eq_false, Bool.not_eq_true] <;> omega))) | fail)
    rw [c]; rfl
  · rw [tw, Bool.not_eq_false] at c
    repeat' (first | with_reducible refine wp_some ?_ | with_reducible refine wp_bd ?_ | (with_reducible refine wp_ifp ?_ ?_; · (first | exact ⟨by decide, by decide⟩ | exact sx_in_n (by omega) (by omega) | assumption | exact ⟨sx_in_n (by omega) (by omega), bI01_01 _⟩ | exact Or.inl rfl | exact Or.inr rfl | (simp (disch := omega) only [nI_lit, iI_le, iI_lt, iI_eq, nI_cl, nI_add, tI_4N, bt_shrN, bI01_0N, bI01_1N, Nat.not_le, Nat.not_lt, not_true_eq_false, not_false_eq_true, true_or, or_true, false_or, or_false, Bool.not_eq_false, Bool.not_eq_true] <;> omega))) | (with_reducible refine wp_ifn ?_ ?_; · (first | exact ⟨by decide, by decide⟩ | exact sx_in_n (by omega) (by omega) | assumption | exact ⟨sx_in_n (by omega) (by omega), bI01_01 _⟩ | exact Or.inl rfl | exact Or.inr rfl | (simp (disch := omega) only [nI_lit, iI_le, iI_lt, iI_eq, nI_cl, nI_add, tI_4N, bt_shrN, bI01_0N, bI01_1N, Nat.not_le, Nat.not_lt, not_true_eq_false, not_false_eq_true, true_or, or_true, false_or, or_false, Bool.not_eq_false, Bool.not_eq_true] <;> omega))) | fail)
    rw [c]; rfl
theorem w3_depthOf {M : sx_M} {s : Nat} {A : SH} (h : CS M s A) {v : Nat} (hv : v < 28) : wp (f3_depthOf s (tI v) M) (fun r => (∃ d, d ≤ 24 ∧ r = nI d ∧ A.g.dp (hol A.P) v d) ∨ (r = -9 ∧ A.g.held (hol A.P) v = false)) := by
  rw [f3_depthOf]
  obtain ⟨x, e, hx⟩ := w3_holders h
  refine wp_call e ?_
  obtain ⟨r, e2, hr⟩ := w4_depthOf h.1 x hv
  refine wp_call e2 ?_
  have hl : ∀ d, A.g.lev (bt x) d v = A.g.lev (hol A.P) d v := fun d => GT.lev_cong h.1.ok hx d v (by omega)
  refine wp_some ?_
  rcases hr with ⟨d, h1, h2, h3⟩ | ⟨h1, h2⟩
  · exact Or.inl ⟨d, h1, h2, by rw [← hl]; exact h3.1, fun e he => by rw [← hl]; exact h3.2 e he⟩
  · exact Or.inr ⟨h1, by show A.g.lev (hol A.P) 24 v = false; rw [← hl]; exact h2⟩
def SH.nil : SH := (GT.nil, (0, fun _ => false, fun _ => false, fun _ => 0), (false, fun _ => false, fun _ => false, []), 0, 0)
theorem w3_clear (M : sx_M) (s : Nat) : wp (f3_clear s M) (fun M' => CS M' s SH.nil ∧ Fr (pSh s) M M') := by
  rw [f3_clear]
  obtain ⟨M1, e1, g1, r1⟩ := w4_clear M s
  refine wp_call e1 ?_
  obtain ⟨M2, e2, g2, r2⟩ := w5_stop M1 s
  refine wp_call e2 ?_
  have gs2 := g1.fr r2 (fun q => by rcases q.1 with q | q <;> omega) (fun q => by rcases q.1 with q | q <;> omega) (fun q => by rcases q.1 with q | q <;> omega) (fun q => by rcases q.1 with q | q <;> omega)
  have hF : ∀ M3 : sx_M, Fr (fun k s' => k = 1 ∧ s' = s) M2 M3 → M3.1 1 s 3 = 0 → M3.1 1 s 4 = 0 → M3.1 1 s 5 = 0 → M3.1 1 s 6 = 0 → M3.1 1 s 7 = 0 → CS M3 s SH.nil ∧ Fr (pSh s) M M3 := fun M3 r3 q3 q4 q5 q6 q7 => by
    have n1 : ∀ k, k ≠ 1 → ¬ (fun k s' => k = 1 ∧ s' = s) k s := fun k hk q => hk q.1
    refine ⟨⟨gs2.fr r3 (n1 2 (by omega)) (n1 3 (by omega)) (n1 4 (by omega)) (n1 5 (by omega)), g2.fr r3 (n1 6 (by omega)) (n1 7 (by omega)), Nat.zero_le _, q3, q4 ▸ Wd.zero, q5 ▸ Wd.zero, q6, q7, fun p hp => absurd hp (Nat.not_lt_zero _)⟩, ((r1.mono pStr_sh).trans (r2.mono pSw_sh)).trans (r3.mono (fun k s' q => ⟨by omega, q.2⟩))⟩
  refine wp_some (hF _ (((((Fr.rf.set ⟨rfl, rfl⟩).set ⟨rfl, rfl⟩).set ⟨rfl, rfl⟩).set ⟨rfl, rfl⟩).set ⟨rfl, rfl⟩) ?_ ?_ ?_ ?_ ?_)
  all_goals simp [st_at]
