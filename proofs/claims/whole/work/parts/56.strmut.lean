/-! THE CLASS'S STRINGS, CHANGED -/
/-- only what P names has changed -/
def Fr (P : Nat → Nat → Prop) (M M' : sx_M) : Prop := (∀ k s, ¬ P k s → M'.1 k s = M.1 k s) ∧ M'.2 = M.2
theorem Fr.rf {P : Nat → Nat → Prop} {M : sx_M} : Fr P M M := ⟨fun _ _ _ => rfl, rfl⟩
theorem Fr.trans {P : Nat → Nat → Prop} {M M1 M2 : sx_M} (h : Fr P M M1) (h' : Fr P M1 M2) : Fr P M M2 := ⟨fun k s hk => (h'.1 k s hk).trans (h.1 k s hk), h'.2.trans h.2⟩
theorem Fr.mono {P P' : Nat → Nat → Prop} {M M' : sx_M} (h : Fr P M M') (hp : ∀ k s, P k s → P' k s) : Fr P' M M' := ⟨fun k s hk => h.1 k s (fun q => hk (hp k s q)), h.2⟩
theorem Fr.set {P : Nat → Nat → Prop} {M M' : sx_M} {k s i : Nat} {v : Int32} (h : Fr P M M') (hp : P k s) : Fr P M (sx_set M' k s i v) := by
  refine ⟨fun k' s' hk => ?_, h.2⟩
  rw [← h.1 k' s' hk]
  funext i'
  show (if k' = k ∧ s' = s ∧ i' = i then v else M'.1 k' s' i') = _
  rw [if_neg]
  rintro ⟨rfl, rfl, -⟩
  exact hk hp
theorem st_at (M : sx_M) (k s i : Nat) (v : Int32) (k' s' i' : Nat) : (sx_set M k s i v).1 k' s' i' = if k' = k ∧ s' = s ∧ i' = i then v else M.1 k' s' i' := rfl
def pStr (s : Nat) : Nat → Nat → Prop := fun k s' => (k = 2 ∨ k = 3 ∨ k = 4 ∨ k = 5) ∧ s' = s
theorem pStr2 (s : Nat) : pStr s 2 s := ⟨Or.inl rfl, rfl⟩
theorem pStr3 (s : Nat) : pStr s 3 s := ⟨Or.inr (Or.inl rfl), rfl⟩
theorem pStr4 (s : Nat) : pStr s 4 s := ⟨Or.inr (Or.inr (Or.inl rfl)), rfl⟩
theorem pStr5 (s : Nat) : pStr s 5 s := ⟨Or.inr (Or.inr (Or.inr rfl)), rfl⟩
theorem GS.fr {P : Nat → Nat → Prop} {M M' : sx_M} {s : Nat} {g : GT} (h : GS M s g) (hf : Fr P M M') (h2 : ¬ P 2 s) (h3 : ¬ P 3 s) (h4 : ¬ P 4 s) (h5 : ¬ P 5 s) : GS M' s g := by
  unfold GS
  rw [hf.1 2 s h2, hf.1 3 s h3, hf.1 4 s h4, hf.1 5 s h5]
  exact h
def GT.put (g : GT) (a b : Nat) (z : Bool) : GT := (g.n + 1, fun i => if i = g.n then a else g.A i, fun i => if i = g.n then b else g.B i, fun i => if i = g.n then z else g.Z i)
def GT.snd (g : GT) (j : Nat) (z : Bool) : GT := (g.n, g.A, g.B, fun i => if i = j then z else g.Z i)
def GT.rm (g : GT) (j : Nat) : GT := (g.n - 1, fun i => g.A (if i < j then i else i + 1), fun i => g.B (if i < j then i else i + 1), fun i => g.Z (if i < j then i else i + 1))
theorem put_A (g : GT) (a b : Nat) (z : Bool) (i : Nat) : (g.put a b z).A i = if i = g.n then a else g.A i := rfl
theorem put_B (g : GT) (a b : Nat) (z : Bool) (i : Nat) : (g.put a b z).B i = if i = g.n then b else g.B i := rfl
theorem put_Z (g : GT) (a b : Nat) (z : Bool) (i : Nat) : (g.put a b z).Z i = if i = g.n then z else g.Z i := rfl
theorem w4_add {M : sx_M} {s : Nat} {g : GT} (h : GS M s g) (hn40 : g.n < 40) {a b : Nat} (ha : a < 28) (hb : b < 24) (z : Bool) : wp (f4_add s (tI a) (nI b) (bI01 z) M) (fun M' => GS M' s (g.put a b z) ∧ Fr (pStr s) M M') := by
  obtain ⟨h40, hn, hg⟩ := h
  rw [f4_add]
  have e1 : ∀ i v, (sx_set M 3 s i v).1 2 s 3 = nI g.n := fun i v => hn
  have e2 : ∀ i v i' v', (sx_set (sx_set M 3 s i v) 4 s i' v').1 2 s 3 = nI g.n := fun i v i' v' => hn
  have e3 : ∀ i v i' v' i2 v2, (sx_set (sx_set (sx_set M 3 s i v) 4 s i' v') 5 s i2 v2).1 2 s 3 = nI g.n := fun i v i' v' _ _ => hn
  simp (disch := omega) only [sx_bd, hn, e1, e2, e3, nI_cl]
  have c0 : sx_in (nI g.n) 40 := sx_in_n (by omega) (by omega)
  refine wp_ifn c0.1 ?_
  repeat' (first | with_reducible refine wp_some ?_ | with_reducible refine wp_bd ?_ | (with_reducible refine wp_ifp ?_ ?_; · (first | exact sx_in_n (by omega) (by omega) | assumption | exact ⟨sx_in_n (by omega) (by omega), bI01_01 _⟩ | exact Or.inl rfl | exact Or.inr rfl | (simp (disch := omega) only [hn, nI_lit, iI_le, iI_lt, iI_eq, nI_cl, nI_add, tI_4N, bt_shrN, bI01_0N, bI01_1N, Nat.not_le, Nat.not_lt, not_true_eq_false, not_false_eq_true, true_or, or_true, false_or, or_false, Bool.not_eq_false, Bool.not_eq_true] <;> omega))) | (with_reducible refine wp_ifn ?_ ?_; · (first | exact sx_in_n (by omega) (by omega) | assumption | exact ⟨sx_in_n (by omega) (by omega), bI01_01 _⟩ | exact Or.inl rfl | exact Or.inr rfl | (simp (disch := omega) only [hn, nI_lit, iI_le, iI_lt, iI_eq, nI_cl, nI_add, tI_4N, bt_shrN, bI01_0N, bI01_1N, Nat.not_le, Nat.not_lt, not_true_eq_false, not_false_eq_true, true_or, or_true, false_or, or_false, Bool.not_eq_false, Bool.not_eq_true] <;> omega))) | fail)
  refine ⟨⟨by show g.n + 1 ≤ 40; omega, ?_, fun i hi => ?_⟩, (((Fr.rf.set (pStr3 s)).set (pStr4 s)).set (pStr5 s)).set (pStr2 s)⟩
  · rw [st_at, if_pos ⟨rfl, rfl, rfl⟩, show nI g.n + (1 : Int32) = nI (g.n + 1) from nI_add _ 1]; rfl
  · have hi' : i < g.n + 1 := hi
    by_cases e : i = g.n
    · subst e
      refine ⟨by show (if g.n = g.n then a else _) < 28; rw [if_pos rfl]; exact ha, by show (if g.n = g.n then b else _) < 24; rw [if_pos rfl]; exact hb, ?_, ?_, ?_⟩
      · simp [st_at, put_A, put_B, put_Z]
      · simp [st_at, put_A, put_B, put_Z]
      · simp [st_at, put_A, put_B, put_Z]
    · obtain ⟨g1, g2, g3, g4, g5⟩ := hg i (by omega)
      refine ⟨by show (if i = g.n then a else g.A i) < 28; rw [if_neg e]; exact g1, by show (if i = g.n then b else g.B i) < 24; rw [if_neg e]; exact g2, ?_, ?_, ?_⟩
      · simp [st_at, put_A, put_B, put_Z, e, g3]
      · simp [st_at, put_A, put_B, put_Z, e, g4]
      · simp [st_at, put_A, put_B, put_Z, e, g5]
theorem w4_setSound {M : sx_M} {s : Nat} {g : GT} (h : GS M s g) {j : Nat} (hj : j < g.n) (z : Bool) : wp (f4_setSound s (nI j) (bI01 z) M) (fun M' => GS M' s (g.snd j z) ∧ Fr (pStr s) M M') := by
  rw [f4_setSound]
  refine wp_call (w4_isAt_in h hj) ?_
  obtain ⟨h40, hn, hg⟩ := h
  repeat' (first | with_reducible refine wp_some ?_ | with_reducible refine wp_bd ?_ | (with_reducible refine wp_ifp ?_ ?_; · (first | exact sx_in_n (by omega) (by omega) | assumption | exact ⟨sx_in_n (by omega) (by omega), bI01_01 _⟩ | exact Or.inl rfl | exact Or.inr rfl | (simp (disch := omega) only [nI_lit, iI_le, iI_lt, iI_eq, nI_cl, nI_add, tI_4N, bt_shrN, bI01_0N, bI01_1N, Nat.not_le, Nat.not_lt, not_true_eq_false, not_false_eq_true, true_or, or_true, false_or, or_false, Bool.not_eq_false, Bool.not_eq_true] <;> omega))) | (with_reducible refine wp_ifn ?_ ?_; · (first | exact sx_in_n (by omega) (by omega) | assumption | exact ⟨sx_in_n (by omega) (by omega), bI01_01 _⟩ | exact Or.inl rfl | exact Or.inr rfl | (simp (disch := omega) only [nI_lit, iI_le, iI_lt, iI_eq, nI_cl, nI_add, tI_4N, bt_shrN, bI01_0N, bI01_1N, Nat.not_le, Nat.not_lt, not_true_eq_false, not_false_eq_true, true_or, or_true, false_or, or_false, Bool.not_eq_false, Bool.not_eq_true] <;> omega))) | fail)
  refine ⟨⟨h40, hn, fun i hi => ?_⟩, Fr.rf.set (pStr5 s)⟩
  obtain ⟨g1, g2, g3, g4, g5⟩ := hg i hi
  refine ⟨g1, g2, ?_, ?_, ?_⟩
  · simp [st_at, GT.snd, g3]
  · simp [st_at, GT.snd, g4]
  · rw [st_at, nI_cl (by omega)]
    show _ = bI01 (if i = j then z else g.Z i)
    by_cases e : i = j
    · rw [if_pos ⟨rfl, rfl, e⟩, if_pos e]
    · rw [if_neg (fun q => e q.2.2), if_neg e]; exact g5
theorem w4_removeAt {M : sx_M} {s : Nat} {g : GT} (h : GS M s g) {j0 : Nat} (hj0 : j0 < g.n) : wp (f4_removeAt s (nI j0) M) (fun M' => GS M' s (g.rm j0) ∧ Fr (pStr s) M M') := by
  rw [f4_removeAt]
  refine wp_call (w4_isAt_in h hj0) ?_
  obtain ⟨h40, hn, hg⟩ := h
  repeat' (first | with_reducible refine wp_some ?_ | with_reducible refine wp_bd ?_ | (with_reducible refine wp_ifp ?_ ?_; · (first | exact sx_in_n (by omega) (by omega) | assumption | exact ⟨sx_in_n (by omega) (by omega), bI01_01 _⟩ | exact Or.inl rfl | exact Or.inr rfl | (simp (disch := omega) only [nI_lit, iI_le, iI_lt, iI_eq, nI_cl, nI_add, tI_4N, bt_shrN, bI01_0N, bI01_1N, Nat.not_le, Nat.not_lt, not_true_eq_false, not_false_eq_true, true_or, or_true, false_or, or_false, Bool.not_eq_false, Bool.not_eq_true] <;> omega))) | (with_reducible refine wp_ifn ?_ ?_; · (first | exact sx_in_n (by omega) (by omega) | assumption | exact ⟨sx_in_n (by omega) (by omega), bI01_01 _⟩ | exact Or.inl rfl | exact Or.inr rfl | (simp (disch := omega) only [nI_lit, iI_le, iI_lt, iI_eq, nI_cl, nI_add, tI_4N, bt_shrN, bI01_0N, bI01_1N, Nat.not_le, Nat.not_lt, not_true_eq_false, not_false_eq_true, true_or, or_true, false_or, or_false, Bool.not_eq_false, Bool.not_eq_true] <;> omega))) | fail)
  rw [show nI j0 + (1 : Int32) = nI (j0 + 1) from nI_add _ 1]
  refine wp_up (F := fun m x2 M1 => f4_removeAt_L13 s _ m x2 M1) g.n (fun j M1 => j0 + 1 ≤ j ∧ Fr (pStr s) M M1 ∧ M1.1 2 s 3 = nI g.n ∧ ∀ k, 3 ≤ k → k ≤ 5 → ∀ e, e < 40 → M1.1 k s e = M.1 k s (if e < j0 ∨ j ≤ e + 1 then e else e + 1)) (fun m j M1 hj hI kk => ?_) (fun m M1 hI => ?_) 5000 (j0 + 1) M (by omega) (by omega) ⟨Nat.le_refl _, Fr.rf, hn, fun k _ _ e _ => by rw [if_pos (by omega)]⟩
  · obtain ⟨hlo, f1, f2, f3⟩ := hI
    · have c0 : sx_in (nI j) 40 := sx_in_n (by omega) (by omega)
      have ej : nI j - (1 : Int32) = nI (j - 1) := iI_pred (by omega)
      have c1 : sx_in (nI (j - 1)) 40 := sx_in_n (by omega) (by omega)
      obtain ⟨g1, g2, g3, g4, g5⟩ := hg j hj
      have r3 := f3 3 (by omega) (by omega) j (by omega)
      have r4 := f3 4 (by omega) (by omega) j (by omega)
      have r5 := f3 5 (by omega) (by omega) j (by omega)
      rw [if_pos (Or.inr (by omega))] at r3 r4 r5
      show wp (f4_removeAt_L13 s _ (m + 1) (nI j) M1) _
      rw [f4_removeAt_L13]
      repeat' (first | with_reducible refine wp_some ?_ | with_reducible refine wp_bd ?_ | (with_reducible refine wp_ifp ?_ ?_; · (first | exact sx_in_n (by omega) (by omega) | assumption | exact ⟨sx_in_n (by omega) (by omega), bI01_01 _⟩ | exact Or.inl rfl | exact Or.inr rfl | (simp (disch := omega) only [f2, nI_lit, iI_le, iI_lt, iI_eq, nI_cl, nI_add, tI_4N, bt_shrN, bI01_0N, bI01_1N, Nat.not_le, Nat.not_lt, not_true_eq_false, not_false_eq_true, true_or, or_true, false_or, or_false, Bool.not_eq_false, Bool.not_eq_true] <;> omega))) | (with_reducible refine wp_ifn ?_ ?_; · (first | exact sx_in_n (by omega) (by omega) | assumption | exact ⟨sx_in_n (by omega) (by omega), bI01_01 _⟩ | exact Or.inl rfl | exact Or.inr rfl | (simp (disch := omega) only [f2, nI_lit, iI_le, iI_lt, iI_eq, nI_cl, nI_add, tI_4N, bt_shrN, bI01_0N, bI01_1N, Nat.not_le, Nat.not_lt, not_true_eq_false, not_false_eq_true, true_or, or_true, false_or, or_false, Bool.not_eq_false, Bool.not_eq_true] <;> omega))) | fail)
      simp (disch := omega) only [sx_bd, ej, nI_cl]
      refine wp_ifp c1 ?_
      refine wp_ifp c0 ?_
      refine wp_ifp c1 ?_
      refine wp_ifp c0 ?_
      refine wp_ifp ⟨c1, ?_⟩ ?_
      · show M1.1 5 s j = 0 ∨ M1.1 5 s j = 1
        rw [r5, g5]; exact bI01_01 _
      refine kk _ ⟨by omega, ((f1.set (pStr3 s)).set (pStr4 s)).set (pStr5 s), f2, fun k hk1 hk2 e he => ?_⟩
      have hk : k = 3 ∨ k = 4 ∨ k = 5 := by omega
      have hf := f3 k hk1 hk2 e he
      by_cases ej2 : e = j - 1
      · rw [if_neg (by omega), show e + 1 = j by omega]
        rcases hk with rfl | rfl | rfl
        · simp [st_at, ej2, r3]
        · simp [st_at, ej2, r4]
        · simp [st_at, ej2, r5]
      · have e5 : (if e < j0 ∨ j + 1 ≤ e + 1 then e else e + 1) = (if e < j0 ∨ j ≤ e + 1 then e else e + 1) := by
          by_cases q : e < j0 ∨ j + 1 ≤ e + 1
          · rw [if_pos q, if_pos (by omega)]
          · rw [if_neg q, if_neg (by omega)]
        rw [e5, ← hf]
        rcases hk with rfl | rfl | rfl <;> simp [st_at, ej2]
  · obtain ⟨hlo, f1, f2, f3⟩ := hI
    show wp (f4_removeAt_L13 s _ (m + 1) (nI g.n) M1) _
    rw [f4_removeAt_L13]
    repeat' (first | with_reducible refine wp_some ?_ | with_reducible refine wp_bd ?_ | (with_reducible refine wp_ifp ?_ ?_; · (first | exact sx_in_n (by omega) (by omega) | assumption | exact ⟨sx_in_n (by omega) (by omega), bI01_01 _⟩ | exact Or.inl rfl | exact Or.inr rfl | (simp (disch := omega) only [f2, nI_lit, iI_le, iI_lt, iI_eq, nI_cl, nI_add, tI_4N, bt_shrN, bI01_0N, bI01_1N, Nat.not_le, Nat.not_lt, not_true_eq_false, not_false_eq_true, true_or, or_true, false_or, or_false, Bool.not_eq_false, Bool.not_eq_true] <;> omega))) | (with_reducible refine wp_ifn ?_ ?_; · (first | exact sx_in_n (by omega) (by omega) | assumption | exact ⟨sx_in_n (by omega) (by omega), bI01_01 _⟩ | exact Or.inl rfl | exact Or.inr rfl | (simp (disch := omega) only [f2, nI_lit, iI_le, iI_lt, iI_eq, nI_cl, nI_add, tI_4N, bt_shrN, bI01_0N, bI01_1N, Nat.not_le, Nat.not_lt, not_true_eq_false, not_false_eq_true, true_or, or_true, false_or, or_false, Bool.not_eq_false, Bool.not_eq_true] <;> omega))) | fail)
    refine ⟨⟨by show g.n - 1 ≤ 40; omega, ?_, fun i hi => ?_⟩, f1.set (pStr2 s)⟩
    · rw [st_at, if_pos ⟨rfl, rfl, rfl⟩, f2, iI_pred (by omega)]; rfl
    · have hi' : i < g.n - 1 := hi
      have e0 : (if i < j0 ∨ g.n ≤ i + 1 then i else i + 1) = (if i < j0 then i else i + 1) := by
        by_cases q : i < j0
        · rw [if_pos (Or.inl q), if_pos q]
        · rw [if_neg (by omega), if_neg q]
      obtain ⟨g1, g2, g3, g4, g5⟩ := hg (if i < j0 then i else i + 1) (by split <;> omega)
      have r3 := f3 3 (by omega) (by omega) i (by omega)
      have r4 := f3 4 (by omega) (by omega) i (by omega)
      have r5 := f3 5 (by omega) (by omega) i (by omega)
      rw [e0] at r3 r4 r5
      exact ⟨g1, g2, (show _ = M1.1 3 s i from rfl).trans (r3.trans g3), (show _ = M1.1 4 s i from rfl).trans (r4.trans g4), (show _ = M1.1 5 s i from rfl).trans (r5.trans g5)⟩
