/-! THE CLASS'S WAY UP -/
/-- at the first level d, as a Bool -/
def GT.dpB (g : GT) (H : Nat → Bool) (t d : Nat) : Bool := g.lev H d t && !anyN (fun e => g.lev H e t) d
theorem GT.dpB_iff {g : GT} {H : Nat → Bool} {t d : Nat} : g.dpB H t d = true ↔ g.dp H t d := by
  unfold GT.dpB GT.dp
  rw [Bool.and_eq_true, Bool.not_eq_true']
  constructor
  · rintro ⟨h1, h2⟩
    refine ⟨h1, fun e he => ?_⟩
    cases q : g.lev H e t with
    | false => rfl
    | true => rw [anyN_iff.mpr ⟨e, he, q⟩] at h2; cases h2
  · rintro ⟨h1, h2⟩
    refine ⟨h1, ?_⟩
    cases q : anyN (fun e => g.lev H e t) d with
    | false => rfl
    | true =>
      obtain ⟨e, he, q2⟩ := anyN_iff.mp q
      rw [h2 e he] at q2; cases q2
theorem GT.dpB_cong {g : GT} (hg : g.ok) {H H' : Nat → Bool} (h : ∀ t, t < 32 → H t = H' t) {t d : Nat} (ht : t < 32) : g.dpB H t d = g.dpB H' t d := by
  rw [Bool.eq_iff_iff, GT.dpB_iff, GT.dpB_iff]
  unfold GT.dp
  have hl : ∀ e, g.lev H e t = g.lev H' e t := fun e => GT.lev_cong hg h e t ht
  constructor
  · rintro ⟨h1, h2⟩; exact ⟨by rw [← hl]; exact h1, fun e he => by rw [← hl]; exact h2 e he⟩
  · rintro ⟨h1, h2⟩; exact ⟨by rw [hl]; exact h1, fun e he => by rw [hl]; exact h2 e he⟩
/-- the first string that leads to part p from depth d -/
def GT.upc (g : GT) (H : Nat → Bool) (p d i : Nat) : Bool := g.Z i && decide (g.B i = p) && g.dpB H (g.A i) d
theorem w4_firstAbove {M : sx_M} {s : Nat} {g : GT} (h : GS M s g) (x : Int32) {p d : Nat} (hp : p < 24) (hd : d < 100) : wp (f4_firstAbove s x (nI p) (nI d) M) (fun r => (∃ i, i < g.n ∧ g.upc (bt x) p d i = true ∧ (∀ j, j < i → g.upc (bt x) p d j = false) ∧ r = tI (g.A i)) ∨ (r = -9 ∧ ∀ i, i < g.n → g.upc (bt x) p d i = false)) := by
  have hs := h
  obtain ⟨h40, hn, hg⟩ := h
  rw [f4_firstAbove]
  refine wp_up0 (F := f4_firstAbove_L3 s x (nI p) (nI d) M _) g.n (fun j => ∀ i, i < j → g.upc (bt x) p d i = false) (fun m j hj hI kk => ?_) (fun m hI => ?_) 5000 0 (by omega) (by omega) (fun i hi => absurd hi (Nat.not_lt_zero _))
  · obtain ⟨g1, g2, g3, g4, g5⟩ := hg j hj
    have kk2 : g.upc (bt x) p d j = false → _ := fun hne => kk (fun i hi => if e : i = j then e ▸ hne else hI i (by omega))
    have hu : g.upc (bt x) p d j = (g.Z j && decide (g.B j = p) && g.dpB (bt x) (g.A j) d) := rfl
    show wp (f4_firstAbove_L3 s x (nI p) (nI d) M _ (m + 1) (nI j)) _
    rw [f4_firstAbove_L3]
    repeat' (first | with_reducible refine wp_some ?_ | with_reducible refine wp_bd ?_ | (with_reducible refine wp_ifp ?_ ?_; · (first | exact ⟨by decide, by decide⟩ | exact sx_in_n (by omega) (by omega) | assumption | exact ⟨sx_in_n (by omega) (by omega), bI01_01 _⟩ | exact Or.inl rfl | exact Or.inr rfl | (simp (disch := omega) only [hn, nI_lit, iI_le, iI_lt, iI_eq, nI_cl, nI_add, tI_4N, bt_shrN, bI01_0N, bI01_1N, Nat.not_le, Nat.not_lt, not_true_eq_false, not_false_eq_true, true_or, or_true, false_or, or_false, Bool.not_eq_false, Bool.not_eq_true] <;> omega))) | (with_reducible refine wp_ifn ?_ ?_; · (first | exact ⟨by decide, by decide⟩ | exact sx_in_n (by omega) (by omega) | assumption | exact ⟨sx_in_n (by omega) (by omega), bI01_01 _⟩ | exact Or.inl rfl | exact Or.inr rfl | (simp (disch := omega) only [hn, nI_lit, iI_le, iI_lt, iI_eq, nI_cl, nI_add, tI_4N, bt_shrN, bI01_0N, bI01_1N, Nat.not_le, Nat.not_lt, not_true_eq_false, not_false_eq_true, true_or, or_true, false_or, or_false, Bool.not_eq_false, Bool.not_eq_true] <;> omega))) | fail)
    with_reducible refine wp_if (fun c => ?_) (fun c => ?_) <;> (try simp (disch := omega) only [g5, nI_lit, iI_le, iI_lt, iI_eq, nI_cl, nI_add, tI_4N, bt_shrN, bI01_0N, bI01_1N, Nat.not_le, Nat.not_lt, not_true_eq_false, not_false_eq_true, true_or, or_true, false_or, or_false, Bool.not_eq_false, Bool.not_eq_true] at c)
    · exact kk2 (by rw [hu, c]; rfl)
    · repeat' (first | with_reducible refine wp_some ?_ | with_reducible refine wp_bd ?_ | (with_reducible refine wp_ifp ?_ ?_; · (first | exact ⟨by decide, by decide⟩ | exact sx_in_n (by omega) (by omega) | assumption | exact ⟨sx_in_n (by omega) (by omega), bI01_01 _⟩ | exact Or.inl rfl | exact Or.inr rfl | (simp (disch := omega) only [nI_lit, iI_le, iI_lt, iI_eq, nI_cl, nI_add, tI_4N, bt_shrN, bI01_0N, bI01_1N, Nat.not_le, Nat.not_lt, not_true_eq_false, not_false_eq_true, true_or, or_true, false_or, or_false, Bool.not_eq_false, Bool.not_eq_true] <;> omega))) | (with_reducible refine wp_ifn ?_ ?_; · (first | exact ⟨by decide, by decide⟩ | exact sx_in_n (by omega) (by omega) | assumption | exact ⟨sx_in_n (by omega) (by omega), bI01_01 _⟩ | exact Or.inl rfl | exact Or.inr rfl | (simp (disch := omega) only [nI_lit, iI_le, iI_lt, iI_eq, nI_cl, nI_add, tI_4N, bt_shrN, bI01_0N, bI01_1N, Nat.not_le, Nat.not_lt, not_true_eq_false, not_false_eq_true, true_or, or_true, false_or, or_false, Bool.not_eq_false, Bool.not_eq_true] <;> omega))) | fail)
      with_reducible refine wp_if (fun c2 => ?_) (fun c2 => ?_) <;> (try simp (disch := omega) only [g4, nI_lit, iI_le, iI_lt, iI_eq, nI_cl, nI_add, tI_4N, bt_shrN, bI01_0N, bI01_1N, Nat.not_le, Nat.not_lt, not_true_eq_false, not_false_eq_true, true_or, or_true, false_or, or_false, Bool.not_eq_false, Bool.not_eq_true] at c2)
      · repeat' (first | with_reducible refine wp_some ?_ | with_reducible refine wp_bd ?_ | (with_reducible refine wp_ifp ?_ ?_; · (first | exact ⟨by decide, by decide⟩ | exact sx_in_n (by omega) (by omega) | assumption | exact ⟨sx_in_n (by omega) (by omega), bI01_01 _⟩ | exact Or.inl rfl | exact Or.inr rfl | (simp (disch := omega) only [nI_lit, iI_le, iI_lt, iI_eq, nI_cl, nI_add, tI_4N, bt_shrN, bI01_0N, bI01_1N, Nat.not_le, Nat.not_lt, not_true_eq_false, not_false_eq_true, true_or, or_true, false_or, or_false, Bool.not_eq_false, Bool.not_eq_true] <;> omega))) | (with_reducible refine wp_ifn ?_ ?_; · (first | exact ⟨by decide, by decide⟩ | exact sx_in_n (by omega) (by omega) | assumption | exact ⟨sx_in_n (by omega) (by omega), bI01_01 _⟩ | exact Or.inl rfl | exact Or.inr rfl | (simp (disch := omega) only [nI_lit, iI_le, iI_lt, iI_eq, nI_cl, nI_add, tI_4N, bt_shrN, bI01_0N, bI01_1N, Nat.not_le, Nat.not_lt, not_true_eq_false, not_false_eq_true, true_or, or_true, false_or, or_false, Bool.not_eq_false, Bool.not_eq_true] <;> omega))) | fail)
        have e3 : M.1 3 s (nI j).toNatClampNeg = tI (g.A j) := by rw [nI_cl (by omega), g3]
        rw [e3]
        obtain ⟨r, e, hr⟩ := w4_depthOf hs x g1
        refine wp_call e ?_
        have hdp : r = nI d ↔ g.dpB (bt x) (g.A j) d = true := by
          rw [GT.dpB_iff]
          rcases hr with ⟨d', hd', rfl, hdp⟩ | ⟨rfl, hno⟩
          · rw [iI_eq (by omega) (by omega)]
            exact ⟨fun q => q ▸ hdp, fun q => GT.dp_uniq hdp q⟩
          · refine ⟨fun q => absurd q.symm (nI_ne_m9 (by omega)), fun q => ?_⟩
            have := GT.held_of hs.ok (by omega) q.1
            rw [hno] at this; cases this
        with_reducible refine wp_if (fun c3 => ?_) (fun c3 => ?_)
        · rw [hdp] at c3
          repeat' (first | with_reducible refine wp_some ?_ | with_reducible refine wp_bd ?_ | (with_reducible refine wp_ifp ?_ ?_; · (first | exact ⟨by decide, by decide⟩ | exact sx_in_n (by omega) (by omega) | assumption | exact ⟨sx_in_n (by omega) (by omega), bI01_01 _⟩ | exact Or.inl rfl | exact Or.inr rfl | (simp (disch := omega) only [nI_lit, iI_le, iI_lt, iI_eq, nI_cl, nI_add, tI_4N, bt_shrN, bI01_0N, bI01_1N, Nat.not_le, Nat.not_lt, not_true_eq_false, not_false_eq_true, true_or, or_true, false_or, or_false, Bool.not_eq_false, Bool.not_eq_true] <;> omega))) | (with_reducible refine wp_ifn ?_ ?_; · (first | exact ⟨by decide, by decide⟩ | exact sx_in_n (by omega) (by omega) | assumption | exact ⟨sx_in_n (by omega) (by omega), bI01_01 _⟩ | exact Or.inl rfl | exact Or.inr rfl | (simp (disch := omega) only [nI_lit, iI_le, iI_lt, iI_eq, nI_cl, nI_add, tI_4N, bt_shrN, bI01_0N, bI01_1N, Nat.not_le, Nat.not_lt, not_true_eq_false, not_false_eq_true, true_or, or_true, false_or, or_false, Bool.not_eq_false, Bool.not_eq_true] <;> omega))) | fail)
          exact Or.inl ⟨j, hj, by rw [hu, c, decide_eq_true c2, c3]; rfl, hI, rfl⟩
        · rw [hdp, Bool.not_eq_true] at c3
          exact kk2 (by rw [hu, c3, Bool.and_false])
      · exact kk2 (by rw [hu, decide_eq_false c2, Bool.and_false, Bool.false_and])
  · show wp (f4_firstAbove_L3 s x (nI p) (nI d) M _ (m + 1) (nI g.n)) _
    rw [f4_firstAbove_L3]
    repeat' (first | with_reducible refine wp_some ?_ | with_reducible refine wp_bd ?_ | (with_reducible refine wp_ifp ?_ ?_; · (first | exact ⟨by decide, by decide⟩ | exact sx_in_n (by omega) (by omega) | assumption | exact ⟨sx_in_n (by omega) (by omega), bI01_01 _⟩ | exact Or.inl rfl | exact Or.inr rfl | (simp (disch := omega) only [hn, nI_lit, iI_le, iI_lt, iI_eq, nI_cl, nI_add, tI_4N, bt_shrN, bI01_0N, bI01_1N, Nat.not_le, Nat.not_lt, not_true_eq_false, not_false_eq_true, true_or, or_true, false_or, or_false, Bool.not_eq_false, Bool.not_eq_true] <;> omega))) | (with_reducible refine wp_ifn ?_ ?_; · (first | exact ⟨by decide, by decide⟩ | exact sx_in_n (by omega) (by omega) | assumption | exact ⟨sx_in_n (by omega) (by omega), bI01_01 _⟩ | exact Or.inl rfl | exact Or.inr rfl | (simp (disch := omega) only [hn, nI_lit, iI_le, iI_lt, iI_eq, nI_cl, nI_add, tI_4N, bt_shrN, bI01_0N, bI01_1N, Nat.not_le, Nat.not_lt, not_true_eq_false, not_false_eq_true, true_or, or_true, false_or, or_false, Bool.not_eq_false, Bool.not_eq_true] <;> omega))) | fail)
    exact Or.inr ⟨rfl, hI⟩
