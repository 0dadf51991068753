/-! THE CLASS'S PAST -/
theorem iI_rem14 {a : Nat} (ha : a < 100) : nI a - nI a / (14 : Int32) * (14 : Int32) = nI (a % 14) := by
  show nI a - nI a / nI 14 * nI 14 = nI (a % 14)
  exact pk_rem (by omega) (by omega) (by omega)
theorem wJ_floorMod {a : Nat} (ha : a < 32) (M : sx_M) : fJ9_floorMod_7cf53 (nI a) (14 : Int32) M = some (nI (a % 14)) := by
  refine wp_get ?_
  rw [fJ9_floorMod_7cf53]
  refine wp_ifn (by decide) ?_
  have e1 : nI a - nI a / (14 : Int32) * (14 : Int32) = nI (a % 14) := iI_rem14 (by omega)
  with_reducible refine wp_bd ?_
  rw [e1]
  with_reducible refine wp_bd ?_
  have hx : a ^^^ 14 < 2 ^ 5 := Nat.xor_lt_two_pow (by omega) (by omega)
  have e2 : nI a ^^^ (14 : Int32) = nI (a ^^^ 14) := fb_xorI a 14
  refine wp_ifp ?_ (wp_some rfl)
  rw [e2]
  exact (iI_le (a := 0) (by omega) (by omega)).mpr (Nat.zero_le _)
/-- the class's past holds the sheds L, the oldest first -/
def PS (M : sx_M) (L : List SH) : Prop := L.length ≤ 14 ∧ M.1 9 0 2 = nI L.length ∧ ∃ o, o < 14 ∧ M.1 9 0 1 = nI o ∧ ∀ i, i < L.length → ∃ A, L[i]? = some A ∧ CS M (4 + (o + i) % 14) A
def pPa : Nat → Nat → Prop := fun k s' => (k = 9 ∧ s' = 0) ∨ ((1 ≤ k ∧ k ≤ 8) ∧ 4 ≤ s')
theorem PS.fr {P : Nat → Nat → Prop} {M M' : sx_M} {L : List SH} (h : PS M L) (hf : Fr P M M') (h9 : ¬ P 9 0) (hp : ∀ k s, 1 ≤ k → k ≤ 8 → 4 ≤ s → ¬ P k s) : PS M' L := by
  obtain ⟨h1, h2, o, h3, h4, h5⟩ := h
  unfold PS
  rw [hf.1 9 0 h9]
  refine ⟨h1, h2, o, h3, h4, fun i hi => ?_⟩
  obtain ⟨A, e, c⟩ := h5 i hi
  exact ⟨A, e, c.fr hf (fun k k1 k2 => hp k _ k1 k2 (by omega))⟩
theorem w1_stateAt {M : sx_M} {o i : Nat} (ho : o < 14) (h1 : M.1 9 0 1 = nI o) (hi : i < 15) : f1_stateAt (nI i) M = some (4 + (o + i) % 14) := by
  refine wp_get ?_
  rw [f1_stateAt]
  with_reducible refine wp_bd ?_
  rw [h1, nI_add]
  refine wp_call (wJ_floorMod (by omega) M) ?_
  refine wp_ifp (sx_in_n (by omega) (by omega)) ?_
  refine wp_some ?_
  rw [nI_cl (by omega)]
theorem w1_isEmpty {M : sx_M} {L : List SH} (h : PS M L) : f1_isEmpty M = some (bI01 (decide (L.length = 0))) := by
  have h2 := h.2.1
  have h14 := h.1
  refine wp_get ?_
  rw [f1_isEmpty]
  with_reducible refine wp_bd ?_
  with_reducible refine wp_bd ?_
  with_reducible refine wp_if (fun c => ?_) (fun c => ?_) <;> (try simp (disch := omega) only [h2, nI_lit, iI_le, iI_lt, iI_eq, nI_cl, nI_add, tI_4N, bt_shrN, bI01_0N, bI01_1N, Nat.not_le, Nat.not_lt, not_true_eq_false, not_false_eq_true, true_or, or_true, false_or, or_false, Bool.not_eq_false, Bool.not_eq_true] at c)
  · repeat' (first | with_reducible refine wp_some ?_ | with_reducible refine wp_bd ?_ | (with_reducible refine wp_ifp ?_ ?_; · (first | exact ⟨by decide, by decide⟩ | exact sx_in_n (by omega) (by omega) | assumption | exact ⟨sx_in_n (by omega) (by omega), bI01_01 _⟩ | exact Or.inl rfl | exact Or.inr rfl | (simp (disch := omega) only [nI_lit, iI_le, iI_lt, iI_eq, nI_cl, nI_add, tI_4N, bt_shrN, bI01_0N, bI01_1N, Nat.not_le, Nat.not_lt, not_true_eq_false, not_false_eq_true, true_or, or_true, false_or, or_false, Bool.not_eq_false, Bool.not_eq_true] <;> omega))) | (with_reducible refine wp_ifn ?_ ?_; · (first | exact ⟨by decide, by decide⟩ | exact sx_in_n (by omega) (by omega) | assumption | exact ⟨sx_in_n (by omega) (by omega), bI01_01 _⟩ | exact Or.inl rfl | exact Or.inr rfl | (simp (disch := omega) only [nI_lit, iI_le, iI_lt, iI_eq, nI_cl, nI_add, tI_4N, bt_shrN, bI01_0N, bI01_1N, Nat.not_le, Nat.not_lt, not_true_eq_false, not_false_eq_true, true_or, or_true, false_or, or_false, Bool.not_eq_false, Bool.not_eq_true] <;> omega))) | fail)
    rw [decide_eq_false (by omega)]; rfl
  · repeat' (first | with_reducible refine wp_some ?_ | with_reducible refine wp_bd ?_ | (with_reducible refine wp_ifp ?_ ?_; · (first | exact ⟨by decide, by decide⟩ | exact sx_in_n (by omega) (by omega) | assumption | exact ⟨sx_in_n (by omega) (by omega), bI01_01 _⟩ | exact Or.inl rfl | exact Or.inr rfl | (simp (disch := omega) only [nI_lit, iI_le, iI_lt, iI_eq, nI_cl, nI_add, tI_4N, bt_shrN, bI01_0N, bI01_1N, Nat.not_le, Nat.not_lt, not_true_eq_false, not_false_eq_true, true_or, or_true, false_or, or_false, Bool.not_eq_false, Bool.not_eq_true] <;> omega))) | (with_reducible refine wp_ifn ?_ ?_; · (first | exact ⟨by decide, by decide⟩ | exact sx_in_n (by omega) (by omega) | assumption | exact ⟨sx_in_n (by omega) (by omega), bI01_01 _⟩ | exact Or.inl rfl | exact Or.inr rfl | (simp (disch := omega) only [nI_lit, iI_le, iI_lt, iI_eq, nI_cl, nI_add, tI_4N, bt_shrN, bI01_0N, bI01_1N, Nat.not_le, Nat.not_lt, not_true_eq_false, not_false_eq_true, true_or, or_true, false_or, or_false, Bool.not_eq_false, Bool.not_eq_true] <;> omega))) | fail)
    rw [decide_eq_true (by omega)]; rfl
theorem w1_forget {M : sx_M} {L : List SH} (h : PS M L) : wp (f1_forget M) (fun M' => PS M' [] ∧ Fr pPa M M') := by
  obtain ⟨h1, h2, o, h3, h4, h5⟩ := h
  rw [f1_forget]
  refine wp_some ⟨⟨Nat.zero_le _, by simp [st_at]; rfl, o, h3, by simp [st_at, h4], fun i hi => absurd hi (Nat.not_lt_zero _)⟩, Fr.rf.set (Or.inl ⟨rfl, rfl⟩)⟩
/-- one more remembered: fourteen at most -/
def push14 (L : List SH) (A : SH) : List SH := (if L.length = 14 then L.drop 1 else L) ++ [A]
theorem w1_remember {M : sx_M} {L : List SH} {A : SH} (h : PS M L) {s : Nat} (hs : s < 4) (hA : CS M s A) : wp (f1_remember s M) (fun M' => PS M' (push14 L A) ∧ Fr pPa M M') := by
  rw [f1_remember]
  -- with room for one more
  have main : ∀ (M2 : sx_M) (L2 : List SH), PS M2 L2 → L2.length < 14 → CS M2 s A → Fr pPa M M2 → wp (sx_bd (M2.1 9 0 2) fun v3 => (f1_stateAt v3 M2).bind fun v4 => if v4 < 18 then (f3_copyFrom v4 s M2).bind fun M5 => sx_bd (M5.1 9 0 2) fun v6 => sx_bd (sx_set M5 9 0 2 (v6 + (1 : Int32))) fun M7 => some M7 else none) (fun M' => PS M' (L2 ++ [A]) ∧ Fr pPa M M') := fun M2 L2 hL hlt hA2 hf2 => by
    obtain ⟨h1, h2, o, h3, h4, h5⟩ := hL
    with_reducible refine wp_bd ?_
    rw [h2]
    refine wp_call (w1_stateAt h3 h4 (by omega)) ?_
    refine wp_ifp (by omega) ?_
    obtain ⟨M5, e5, c5, f5⟩ := w3_copyFrom (s := 4 + (o + L2.length) % 14) (by omega) hA2
    refine wp_call e5 ?_
    have e9 : M5.1 9 0 = M2.1 9 0 := f5.1 9 0 (fun q => by have := q.1; omega)
    with_reducible refine wp_bd ?_
    have f7 : Fr (fun k s' => k = 9 ∧ s' = 0) M5 (sx_set M5 9 0 2 (M5.1 9 0 2 + (1 : Int32))) := Fr.rf.set ⟨rfl, rfl⟩
    refine wp_some ⟨⟨?_, ?_, o, h3, ?_, fun i hi => ?_⟩, (hf2.trans (f5.mono (fun k s' q => Or.inr ⟨q.1, by have := q.2; omega⟩))).trans (f7.mono (fun k s' q => Or.inl q))⟩
    · rw [List.length_append]; show L2.length + 1 ≤ 14; omega
    · rw [List.length_append, st_at, if_pos ⟨rfl, rfl, rfl⟩, e9, h2]; exact nI_add _ 1
    · rw [st_at, if_neg (by omega), e9, h4]
    · rw [List.length_append] at hi
      have hi' : i < L2.length + 1 := hi
      by_cases e : i = L2.length
      · subst e
        exact ⟨A, by simp, c5.fr f7 (fun k k1 k2 q => by omega)⟩
      · obtain ⟨B, eB, cB⟩ := h5 i (by omega)
        refine ⟨B, by rw [List.getElem?_append_left (by omega)]; exact eB, (cB.other f5 (by omega)).fr f7 (fun k k1 k2 q => by omega)⟩
  obtain ⟨h1, h2, o, h3, h4, h5⟩ := id h
  with_reducible refine wp_bd ?_
  with_reducible refine wp_bd ?_
  unfold push14
  with_reducible refine wp_if (fun c => ?_) (fun c => ?_) <;> (try simp (disch := omega) only [h2, nI_lit, iI_le, iI_lt, iI_eq, nI_cl, nI_add, tI_4N, bt_shrN, bI01_0N, bI01_1N, Nat.not_le, Nat.not_lt, not_true_eq_false, not_false_eq_true, true_or, or_true, false_or, or_false, Bool.not_eq_false, Bool.not_eq_true] at c)
  · rw [if_neg (by omega)]
    exact main M L h c hA Fr.rf
  · rw [if_pos (by omega)]
    have e1 : (nI o + (1 : Int32)) - (nI o + (1 : Int32)) / (14 : Int32) * (14 : Int32) = nI ((o + 1) % 14) := by
      rw [iI_succ]
      exact iI_rem14 (by omega)
    with_reducible refine wp_bd ?_
    with_reducible refine wp_bd ?_
    with_reducible refine wp_bd ?_
    with_reducible refine wp_bd ?_
    rw [h4, e1]
    have f12 : Fr (fun k s' => k = 9 ∧ s' = 0) M (sx_set (sx_set M 9 0 1 (nI ((o + 1) % 14))) 9 0 2 ((sx_set M 9 0 1 (nI ((o + 1) % 14))).1 9 0 2 - (1 : Int32))) := (Fr.rf.set ⟨rfl, rfl⟩).set ⟨rfl, rfl⟩
    have hl : L.length = 14 := by omega
    refine main _ (L.drop 1) ⟨by rw [List.length_drop]; omega, ?_, (o + 1) % 14, by omega, ?_, fun i hi => ?_⟩ (by rw [List.length_drop]; omega) (hA.fr f12 (fun k k1 k2 q => by omega)) (f12.mono (fun k s' q => Or.inl q))
    · rw [st_at, if_pos ⟨rfl, rfl, rfl⟩, st_at, if_neg (by omega), h2, List.length_drop]; exact iI_pred (by omega)
    · rw [st_at, if_neg (by omega), st_at, if_pos ⟨rfl, rfl, rfl⟩]
    · rw [List.length_drop] at hi
      obtain ⟨B, eB, cB⟩ := h5 (1 + i) (by omega)
      refine ⟨B, by rw [List.getElem?_drop]; exact eB, ?_⟩
      rw [show 4 + ((o + 1) % 14 + i) % 14 = 4 + (o + (1 + i)) % 14 by omega]
      exact cB.fr f12 (fun k k1 k2 q => by omega)
theorem w1_takeBack {M : sx_M} {L : List SH} {A : SH} (h : PS M (L ++ [A])) {s : Nat} (hs : s < 4) : wp (f1_takeBack s M) (fun r => r.1 = nI L.length ∧ PS r.2 L ∧ CS r.2 s A ∧ Fr (fun k s' => pPa k s' ∨ pSh s k s') M r.2) := by
  obtain ⟨h1, h2, o, h3, h4, h5⟩ := h
  rw [List.length_append] at h1 h2
  have h1' : L.length + 1 ≤ 14 := h1
  have h2' : M.1 9 0 2 = nI (L.length + 1) := h2
  rw [f1_takeBack]
  with_reducible refine wp_bd ?_
  with_reducible refine wp_bd ?_
  refine wp_ifn (by rw [h2']; exact fun q => absurd ((iI_le (b := 0) (by omega) (by omega)).mp q) (by omega)) ?_
  with_reducible refine wp_bd ?_
  with_reducible refine wp_bd ?_
  with_reducible refine wp_bd ?_
  have f6 : Fr (fun k s' => k = 9 ∧ s' = 0) M (sx_set M 9 0 2 (M.1 9 0 2 - (1 : Int32))) := Fr.rf.set ⟨rfl, rfl⟩
  have v2 : (sx_set M 9 0 2 (M.1 9 0 2 - (1 : Int32))).1 9 0 2 = nI L.length := by
    rw [st_at, if_pos ⟨rfl, rfl, rfl⟩, h2', iI_pred (by omega), Nat.add_sub_cancel]
  have v1 : (sx_set M 9 0 2 (M.1 9 0 2 - (1 : Int32))).1 9 0 1 = nI o := by
    rw [st_at, if_neg (by omega), h4]
  generalize sx_set M 9 0 2 (M.1 9 0 2 - (1 : Int32)) = M6 at f6 v2 v1 ⊢
  rw [v2]
  refine wp_call (w1_stateAt h3 v1 (by omega)) ?_
  refine wp_ifp (by omega) ?_
  obtain ⟨B, eB, cB⟩ := h5 L.length (by rw [List.length_append]; exact Nat.lt_succ_self _)
  have eBA : B = A := by
    rw [List.getElem?_append_right (Nat.le_refl _), Nat.sub_self] at eB
    exact (Option.some.inj eB).symm
  subst eBA
  obtain ⟨M9, e9, c9, f9⟩ := w3_copyFrom (s := s) (s1 := 4 + (o + L.length) % 14) (by omega) (cB.fr f6 (fun k k1 k2 q => by omega))
  refine wp_call e9 ?_
  have e99 : M9.1 9 0 = M6.1 9 0 := f9.1 9 0 (fun q => by have := q.1; omega)
  refine wp_some ⟨by rw [e99, v2], ⟨by omega, by rw [e99, v2], o, h3, by rw [e99, v1], fun i hi => ?_⟩, c9, (f6.mono (fun k s' q => Or.inl (Or.inl q))).trans (f9.mono (fun k s' q => Or.inr q))⟩
  obtain ⟨C, eC, cC⟩ := h5 i (by rw [List.length_append]; show i < L.length + 1; omega)
  rw [List.getElem?_append_left hi] at eC
  exact ⟨C, eC, (cC.fr f6 (fun k k1 k2 q => by omega)).other f9 (by omega)⟩
