/-! THE CLASS'S STRINGS: copied, cleared, thinned out -/
def GT.nil : GT := (0, fun _ => 0, fun _ => 0, fun _ => false)
theorem w4_clear (M : sx_M) (s : Nat) : wp (f4_clear s M) (fun M' => GS M' s GT.nil ∧ Fr (pStr s) M M') := by
  rw [f4_clear]
  repeat' (first | with_reducible refine wp_some ?_ | with_reducible refine wp_bd ?_ | (with_reducible refine wp_ifp ?_ ?_; · (first | exact sx_in_n (by omega) (by omega) | assumption | exact ⟨sx_in_n (by omega) (by omega), bI01_01 _⟩ | exact Or.inl rfl | exact Or.inr rfl | (simp (disch := omega) only [nI_lit, iI_le, iI_lt, iI_eq, nI_cl, nI_add, tI_4N, bt_shrN, bI01_0N, bI01_1N, Nat.not_le, Nat.not_lt, not_true_eq_false, not_false_eq_true, true_or, or_true, false_or, or_false, Bool.not_eq_false, Bool.not_eq_true] <;> omega))) | (with_reducible refine wp_ifn ?_ ?_; · (first | exact sx_in_n (by omega) (by omega) | assumption | exact ⟨sx_in_n (by omega) (by omega), bI01_01 _⟩ | exact Or.inl rfl | exact Or.inr rfl | (simp (disch := omega) only [nI_lit, iI_le, iI_lt, iI_eq, nI_cl, nI_add, tI_4N, bt_shrN, bI01_0N, bI01_1N, Nat.not_le, Nat.not_lt, not_true_eq_false, not_false_eq_true, true_or, or_true, false_or, or_false, Bool.not_eq_false, Bool.not_eq_true] <;> omega))) | fail)
  exact ⟨⟨Nat.zero_le _, by rw [st_at, if_pos ⟨rfl, rfl, rfl⟩]; rfl, fun i hi => absurd hi (Nat.not_lt_zero _)⟩, Fr.rf.set (pStr2 s)⟩
theorem w4_copyFrom {M : sx_M} {s s1 : Nat} {g : GT} (hs : s1 ≠ s) (h : GS M s1 g) : wp (f4_copyFrom s s1 M) (fun M' => GS M' s g ∧ Fr (pStr s) M M') := by
  obtain ⟨h40, hn, hg⟩ := h
  rw [f4_copyFrom]
  repeat' (first | with_reducible refine wp_some ?_ | with_reducible refine wp_bd ?_ | (with_reducible refine wp_ifp ?_ ?_; · (first | exact sx_in_n (by omega) (by omega) | assumption | exact ⟨sx_in_n (by omega) (by omega), bI01_01 _⟩ | exact Or.inl rfl | exact Or.inr rfl | (simp (disch := omega) only [nI_lit, iI_le, iI_lt, iI_eq, nI_cl, nI_add, tI_4N, bt_shrN, bI01_0N, bI01_1N, Nat.not_le, Nat.not_lt, not_true_eq_false, not_false_eq_true, true_or, or_true, false_or, or_false, Bool.not_eq_false, Bool.not_eq_true] <;> omega))) | (with_reducible refine wp_ifn ?_ ?_; · (first | exact sx_in_n (by omega) (by omega) | assumption | exact ⟨sx_in_n (by omega) (by omega), bI01_01 _⟩ | exact Or.inl rfl | exact Or.inr rfl | (simp (disch := omega) only [nI_lit, iI_le, iI_lt, iI_eq, nI_cl, nI_add, tI_4N, bt_shrN, bI01_0N, bI01_1N, Nat.not_le, Nat.not_lt, not_true_eq_false, not_false_eq_true, true_or, or_true, false_or, or_false, Bool.not_eq_false, Bool.not_eq_true] <;> omega))) | fail)
  refine wp_up (F := fun m x2 M1 => f4_copyFrom_L10 s s1 _ m x2 M1) g.n (fun j M1 => Fr (pStr s) M M1 ∧ M1.1 2 s 3 = nI g.n ∧ ∀ k, 3 ≤ k → k ≤ 5 → ∀ e, e < j → M1.1 k s e = M.1 k s1 e) (fun m j M1 hj hI kk => ?_) (fun m M1 hI => ?_) 5000 0 _ (by omega) (by omega) ⟨Fr.rf.set (pStr2 s), by rw [st_at, if_pos ⟨rfl, rfl, rfl⟩, hn], fun k _ _ e he => absurd he (Nat.not_lt_zero _)⟩
  · obtain ⟨f1, f2, f3⟩ := hI
    obtain ⟨g1, g2, g3, g4, g5⟩ := hg j hj
    have r : ∀ k, M1.1 k s1 = M.1 k s1 := fun k => f1.1 k s1 (fun q => hs q.2)
    show wp (f4_copyFrom_L10 s s1 _ (m + 1) (nI j) M1) _
    rw [f4_copyFrom_L10]
    repeat' (first | with_reducible refine wp_some ?_ | with_reducible refine wp_bd ?_ | (with_reducible refine wp_ifp ?_ ?_; · (first | exact sx_in_n (by omega) (by omega) | assumption | exact ⟨sx_in_n (by omega) (by omega), bI01_01 _⟩ | exact Or.inl rfl | exact Or.inr rfl | (simp (disch := omega) only [f2, nI_lit, iI_le, iI_lt, iI_eq, nI_cl, nI_add, tI_4N, bt_shrN, bI01_0N, bI01_1N, Nat.not_le, Nat.not_lt, not_true_eq_false, not_false_eq_true, true_or, or_true, false_or, or_false, Bool.not_eq_false, Bool.not_eq_true] <;> omega))) | (with_reducible refine wp_ifn ?_ ?_; · (first | exact sx_in_n (by omega) (by omega) | assumption | exact ⟨sx_in_n (by omega) (by omega), bI01_01 _⟩ | exact Or.inl rfl | exact Or.inr rfl | (simp (disch := omega) only [f2, nI_lit, iI_le, iI_lt, iI_eq, nI_cl, nI_add, tI_4N, bt_shrN, bI01_0N, bI01_1N, Nat.not_le, Nat.not_lt, not_true_eq_false, not_false_eq_true, true_or, or_true, false_or, or_false, Bool.not_eq_false, Bool.not_eq_true] <;> omega))) | fail)
    refine wp_ifp ⟨sx_in_n (by omega) (by omega), ?_⟩ ?_
    · rw [nI_cl (by omega)]
      show M1.1 5 s1 j = 0 ∨ M1.1 5 s1 j = 1
      rw [r, g5]; exact bI01_01 _
    refine kk _ ⟨((f1.set (pStr3 s)).set (pStr4 s)).set (pStr5 s), f2, fun k hk1 hk2 e he => ?_⟩
    have hk : k = 3 ∨ k = 4 ∨ k = 5 := by omega
    rw [nI_cl (by omega)]
    by_cases q : e = j
    · subst q
      rcases hk with rfl | rfl | rfl <;> simp [st_at, r]
    · rcases hk with rfl | rfl | rfl <;> simp [st_at, q, f3 _ hk1 hk2 e (by omega)]
  · obtain ⟨f1, f2, f3⟩ := hI
    show wp (f4_copyFrom_L10 s s1 _ (m + 1) (nI g.n) M1) _
    rw [f4_copyFrom_L10]
    repeat' (first | with_reducible refine wp_some ?_ | with_reducible refine wp_bd ?_ | (with_reducible refine wp_ifp ?_ ?_; · (first | exact sx_in_n (by omega) (by omega) | assumption | exact ⟨sx_in_n (by omega) (by omega), bI01_01 _⟩ | exact Or.inl rfl | exact Or.inr rfl | (simp (disch := omega) only [f2, nI_lit, iI_le, iI_lt, iI_eq, nI_cl, nI_add, tI_4N, bt_shrN, bI01_0N, bI01_1N, Nat.not_le, Nat.not_lt, not_true_eq_false, not_false_eq_true, true_or, or_true, false_or, or_false, Bool.not_eq_false, Bool.not_eq_true] <;> omega))) | (with_reducible refine wp_ifn ?_ ?_; · (first | exact sx_in_n (by omega) (by omega) | assumption | exact ⟨sx_in_n (by omega) (by omega), bI01_01 _⟩ | exact Or.inl rfl | exact Or.inr rfl | (simp (disch := omega) only [f2, nI_lit, iI_le, iI_lt, iI_eq, nI_cl, nI_add, tI_4N, bt_shrN, bI01_0N, bI01_1N, Nat.not_le, Nat.not_lt, not_true_eq_false, not_false_eq_true, true_or, or_true, false_or, or_false, Bool.not_eq_false, Bool.not_eq_true] <;> omega))) | fail)
    refine ⟨⟨h40, f2, fun i hi => ?_⟩, f1⟩
    obtain ⟨g1, g2, g3, g4, g5⟩ := hg i hi
    exact ⟨g1, g2, (f3 3 (by omega) (by omega) i hi).trans g3, (f3 4 (by omega) (by omega) i hi).trans g4, (f3 5 (by omega) (by omega) i hi).trans g5⟩
/-- the strings in their order -/
def GT.ls (g : GT) : List (Nat × Nat × Bool) := (List.range g.n).map (fun i => (g.A i, g.B i, g.Z i))
theorem GT.ls_len (g : GT) : g.ls.length = g.n := by unfold GT.ls; simp
theorem GT.ls_at {g : GT} {i : Nat} (h : i < g.n) : g.ls[i]? = some (g.A i, g.B i, g.Z i) := by
  unfold GT.ls
  rw [List.getElem?_map, List.getElem?_range h]; rfl
theorem GT.ls_put (g : GT) (a b : Nat) (z : Bool) : (g.put a b z).ls = g.ls ++ [(a, b, z)] := by
  unfold GT.ls
  rw [show (g.put a b z).n = g.n + 1 from rfl, List.range_succ, List.map_append]
  congr 1
  · refine List.map_congr_left (fun i hi => ?_)
    have : i ≠ g.n := Nat.ne_of_lt (List.mem_range.mp hi)
    rw [put_A, put_B, put_Z, if_neg this, if_neg this, if_neg this]
  · simp [put_A, put_B, put_Z]
/-- the same strings in the same order -/
def GT.eqv (g g' : GT) : Prop := g.n = g'.n ∧ ∀ i, i < g.n → g.A i = g'.A i ∧ g.B i = g'.B i ∧ g.Z i = g'.Z i
theorem GT.eqv_of {g g' : GT} (h : g.ls = g'.ls) : g.eqv g' := by
  have hn : g.n = g'.n := by rw [← g.ls_len, h, g'.ls_len]
  refine ⟨hn, fun i hi => ?_⟩
  have := GT.ls_at hi
  rw [h, GT.ls_at (hn ▸ hi)] at this
  have e := Option.some.inj this
  exact ⟨(congrArg (fun q => q.1) e).symm, (congrArg (fun q => q.2.1) e).symm, (congrArg (fun q => q.2.2) e).symm⟩
theorem GS.eqv {M : sx_M} {s : Nat} {g g' : GT} (h : GS M s g) (e : g.eqv g') : GS M s g' := by
  obtain ⟨h40, hn, hg⟩ := h
  obtain ⟨en, ei⟩ := e
  refine ⟨en ▸ h40, en ▸ hn, fun i hi => ?_⟩
  obtain ⟨e1, e2, e3⟩ := ei i (en ▸ hi)
  rw [← e1, ← e2, ← e3]
  exact hg i (en ▸ hi)
def keepW (w : Int32) (x : Nat × Nat × Bool) : Bool := !bt w x.1 && !bt w (x.2.1 + 4)
theorem ends_and {w : Int32} {a b : Nat} (ha : a < 32) (hb : b < 32) : (bI a ||| bI b) &&& w = 0 ↔ bt w a = false ∧ bt w b = false := by
  rw [bt_eq0]
  constructor
  · intro h
    have h1 := h a ha
    have h2 := h b hb
    rw [b_and, bt_or, bt_bI ha ha] at h1
    rw [b_and, bt_or, bt_bI hb hb] at h2
    simp at h1 h2
    exact ⟨h1, h2⟩
  · rintro ⟨h1, h2⟩ i hi
    rw [b_and, bt_or, bt_bI ha hi, bt_bI hb hi]
    by_cases e1 : i = a
    · subst e1; rw [h1, Bool.and_false]
    · by_cases e2 : i = b
      · subst e2; rw [h2, Bool.and_false]
      · rw [decide_eq_false e1, decide_eq_false e2]; rfl
theorem w4_removeAll {M : sx_M} {s : Nat} {g : GT} (h : GS M s g) (w : Int32) : wp (f4_removeAll s w M) (fun r => ∃ g' : GT, GS r.2 s g' ∧ g'.ls = g.ls.filter (keepW w) ∧ r.1 = nI g.n - nI g'.n ∧ Fr (pStr s) M r.2) := by
  obtain ⟨h40, hn, hg⟩ := h
  rw [f4_removeAll]
  refine wp_up (F := fun m x3 (a : Int32 × sx_M) => f4_removeAll_L4 s w _ m a.1 x3 a.2) g.n (fun j a => Fr (pStr s) M a.2 ∧ a.2.1 2 s 3 = nI g.n ∧ (∀ k, 3 ≤ k → k ≤ 5 → ∀ e, j ≤ e → a.2.1 k s e = M.1 k s e) ∧ ∃ q : GT, q.n ≤ j ∧ a.1 = nI q.n ∧ q.ls = (g.ls.take j).filter (keepW w) ∧ ∀ e, e < q.n → q.A e < 28 ∧ q.B e < 24 ∧ a.2.1 3 s e = tI (q.A e) ∧ a.2.1 4 s e = nI (q.B e) ∧ a.2.1 5 s e = bI01 (q.Z e)) (fun m j a hj hI kk => ?_) (fun m a hI => ?_) 5000 0 (0, M) (by omega) (by omega) ⟨Fr.rf, hn, fun _ _ _ _ _ => rfl, GT.nil, Nat.le_refl _, rfl, rfl, fun e he => absurd he (Nat.not_lt_zero _)⟩
  · obtain ⟨k0, M1⟩ := a
    obtain ⟨f1, f2, f3, q, q1, q2, q3, q4⟩ := hI
    dsimp only at f1 f2 f3 q2 q4
    subst q2
    obtain ⟨g1, g2, g3, g4, g5⟩ := hg j hj
    have r3 := (f3 3 (by omega) (by omega) j (Nat.le_refl _)).trans g3
    have r4 := (f3 4 (by omega) (by omega) j (Nat.le_refl _)).trans g4
    have r5 := (f3 5 (by omega) (by omega) j (Nat.le_refl _)).trans g5
    have htk : g.ls.take (j + 1) = g.ls.take j ++ [(g.A j, g.B j, g.Z j)] := by
      rw [List.take_succ, GT.ls_at hj]; rfl
    show wp (f4_removeAll_L4 s w _ (m + 1) (nI q.n) (nI j) M1) _
    rw [f4_removeAll_L4]
    repeat' (first | with_reducible refine wp_some ?_ | with_reducible refine wp_bd ?_ | (with_reducible refine wp_ifp ?_ ?_; · (first | exact sx_in_n (by omega) (by omega) | assumption | exact ⟨sx_in_n (by omega) (by omega), bI01_01 _⟩ | exact Or.inl rfl | exact Or.inr rfl | (simp (disch := omega) only [f2, nI_lit, iI_le, iI_lt, iI_eq, nI_cl, nI_add, tI_4N, bt_shrN, bI01_0N, bI01_1N, Nat.not_le, Nat.not_lt, not_true_eq_false, not_false_eq_true, true_or, or_true, false_or, or_false, Bool.not_eq_false, Bool.not_eq_true] <;> omega))) | (with_reducible refine wp_ifn ?_ ?_; · (first | exact sx_in_n (by omega) (by omega) | assumption | exact ⟨sx_in_n (by omega) (by omega), bI01_01 _⟩ | exact Or.inl rfl | exact Or.inr rfl | (simp (disch := omega) only [f2, nI_lit, iI_le, iI_lt, iI_eq, nI_cl, nI_add, tI_4N, bt_shrN, bI01_0N, bI01_1N, Nat.not_le, Nat.not_lt, not_true_eq_false, not_false_eq_true, true_or, or_true, false_or, or_false, Bool.not_eq_false, Bool.not_eq_true] <;> omega))) | fail)
    have ec : ((1 : Int32) <<< ((M1.1 3 s (nI j).toNatClampNeg + (4 : Int32)) &&& 31) ||| (1 : Int32) <<< ((M1.1 4 s (nI j).toNatClampNeg + (4 : Int32)) &&& 31)) = bI (g.A j) ||| bI (g.B j + 4) := by
      rw [nI_cl (by omega), r3, r4, tI_4, show (nI (g.B j) + 4 : Int32) = nI (g.B j + 4) from nI_add _ 4]; rfl
    with_reducible refine wp_if (fun c => ?_) (fun c => ?_) <;> rw [ec, ends_and (by omega) (by omega)] at c
    · have hkeep : keepW w (g.A j, g.B j, g.Z j) = true := by
        show (!bt w (g.A j) && !bt w (g.B j + 4)) = true
        rw [c.1, c.2]; rfl
      have hqn : q.n < 40 := by omega
      have cj : sx_in (nI j) 40 := sx_in_n (by omega) (by omega)
      have cq : sx_in (nI q.n) 40 := sx_in_n (by omega) (by omega)
      simp (disch := omega) only [sx_bd, nI_cl]
      refine wp_ifp cj ?_
      refine wp_ifp cq ?_
      refine wp_ifp cj ?_
      refine wp_ifp cq ?_
      refine wp_ifp cj ?_
      refine wp_ifp ⟨cq, ?_⟩ ?_
      · show M1.1 5 s j = 0 ∨ M1.1 5 s j = 1
        rw [r5]; exact bI01_01 _
      refine kk (_, _) ⟨((f1.set (pStr3 s)).set (pStr4 s)).set (pStr5 s), f2, fun k hk1 hk2 e he => ?_, q.put (g.A j) (g.B j) (g.Z j), by show q.n + 1 ≤ j + 1; omega, nI_add q.n 1, by rw [GT.ls_put, q3, htk, List.filter_append, List.filter_cons_of_pos hkeep, List.filter_nil], fun e he => ?_⟩
      · have hk : k = 3 ∨ k = 4 ∨ k = 5 := by omega
        have hne : ¬ e = q.n := by omega
        rw [← f3 k hk1 hk2 e (by omega)]
        rcases hk with rfl | rfl | rfl <;> simp [st_at, hne]
      · have he' : e < q.n + 1 := he
        rw [put_A, put_B, put_Z]
        by_cases e1 : e = q.n
        · subst e1
          rw [if_pos rfl, if_pos rfl, if_pos rfl]
          refine ⟨g1, g2, ?_, ?_, ?_⟩
          · simp [st_at, r3]
          · simp [st_at, r4]
          · simp [st_at, r5]
        · obtain ⟨h1, h2, h3, h4, h5⟩ := q4 e (by omega)
          rw [if_neg e1, if_neg e1, if_neg e1]
          refine ⟨h1, h2, ?_, ?_, ?_⟩
          · simp [st_at, e1, h3]
          · simp [st_at, e1, h4]
          · simp [st_at, e1, h5]
    · have hkeep : ¬ keepW w (g.A j, g.B j, g.Z j) = true := by
        intro hk
        have hk' : (!bt w (g.A j) && !bt w (g.B j + 4)) = true := hk
        rw [Bool.and_eq_true, Bool.not_eq_true', Bool.not_eq_true'] at hk'
        exact c hk'
      refine kk (_, _) ⟨f1, f2, fun k hk1 hk2 e he => f3 k hk1 hk2 e (by omega), q, by omega, rfl, by rw [q3, htk, List.filter_append, List.filter_cons_of_neg hkeep, List.filter_nil, List.append_nil], q4⟩
  · obtain ⟨k0, M1⟩ := a
    obtain ⟨f1, f2, f3, q, q1, q2, q3, q4⟩ := hI
    dsimp only at f1 f2 f3 q2 q4
    subst q2
    show wp (f4_removeAll_L4 s w _ (m + 1) (nI q.n) (nI g.n) M1) _
    rw [f4_removeAll_L4]
    repeat' (first | with_reducible refine wp_some ?_ | with_reducible refine wp_bd ?_ | (with_reducible refine wp_ifp ?_ ?_; · (first | exact sx_in_n (by omega) (by omega) | assumption | exact ⟨sx_in_n (by omega) (by omega), bI01_01 _⟩ | exact Or.inl rfl | exact Or.inr rfl | (simp (disch := omega) only [f2, nI_lit, iI_le, iI_lt, iI_eq, nI_cl, nI_add, tI_4N, bt_shrN, bI01_0N, bI01_1N, Nat.not_le, Nat.not_lt, not_true_eq_false, not_false_eq_true, true_or, or_true, false_or, or_false, Bool.not_eq_false, Bool.not_eq_true] <;> omega))) | (with_reducible refine wp_ifn ?_ ?_; · (first | exact sx_in_n (by omega) (by omega) | assumption | exact ⟨sx_in_n (by omega) (by omega), bI01_01 _⟩ | exact Or.inl rfl | exact Or.inr rfl | (simp (disch := omega) only [f2, nI_lit, iI_le, iI_lt, iI_eq, nI_cl, nI_add, tI_4N, bt_shrN, bI01_0N, bI01_1N, Nat.not_le, Nat.not_lt, not_true_eq_false, not_false_eq_true, true_or, or_true, false_or, or_false, Bool.not_eq_false, Bool.not_eq_true] <;> omega))) | fail)
    refine ⟨q, ⟨by omega, by rw [st_at, if_pos ⟨rfl, rfl, rfl⟩], fun e he => ?_⟩, ?_, by rw [f2], f1.set (pStr2 s)⟩
    · exact q4 e he
    · rw [q3, List.take_of_length_le (by rw [g.ls_len]; exact Nat.le_refl _)]
