/-! THE CLASS'S SWEEP -/
theorem nd_len {l : List Nat} {n : Nat} (h : l.Nodup) (hb : ∀ x ∈ l, x < n) : l.length ≤ n := by
  refine fb_holes n l.length (fun i => l.getD i 0) (fun i hi => ?_) (fun i j hij hj e => ?_)
  · have : l.getD i 0 = l[i] := by rw [List.getD_eq_getElem?_getD, List.getElem?_eq_getElem hi]; rfl
    show l.getD i 0 < n
    rw [this]
    exact hb _ (List.getElem_mem hi)
  · have hi : i < l.length := by omega
    have e' : l.getD i 0 = l.getD j 0 := e
    rw [List.getD_eq_getElem?_getD, List.getD_eq_getElem?_getD, List.getElem?_eq_getElem hi, List.getElem?_eq_getElem hj] at e'
    have e2 : l[i] = l[j] := e'
    have := (List.getElem_inj h).mp e2
    omega
theorem Wd.zero : Wd 0 (fun _ => false) := fun i _ => by rw [bt_zero, Bool.and_false]
theorem Wd.add {m : Int32} {X : Nat → Bool} (h : Wd m X) {p : Nat} (hp : p < 24) : Wd (m ||| bI (p + 4)) (fun k => X k || decide (k = p)) := fun i hi => by
  rw [bt_or, h i hi, bt_bI (by omega) hi]
  by_cases e : i = p + 4
  · subst e
    have h1 : p + 4 < 28 := by omega
    simp [h1]
  · rw [decide_eq_false e, Bool.or_false]
    by_cases h4 : 4 ≤ i
    · have : ¬ i - 4 = p := by omega
      simp [this]
    · simp [h4]
theorem Wd.del {m : Int32} {X : Nat → Bool} (h : Wd m X) {p : Nat} (hp : p < 24) : Wd (m &&& (bI (p + 4) ^^^ (-1))) (fun k => X k && !decide (k = p)) := fun i hi => by
  rw [b_and, h i hi, bt_not hi, bt_bI (by omega) hi]
  by_cases e : i = p + 4
  · subst e; simp
  · rw [decide_eq_false e]
    by_cases h4 : 4 ≤ i
    · have : ¬ i - 4 = p := by omega
      simp [this]
    · simp [h4]
theorem Wd.tst {m : Int32} {X : Nat → Bool} (h : Wd m X) {p : Nat} (hp : p < 24) : m &&& bI (p + 4) = 0 ↔ X p = false := by rw [bt_and (by omega), h.at hp]
/-- the sweep of the class's shed s: going, white, black, the gray row -/
def SS (M : sx_M) (s : Nat) (G : Bool) (w b : Nat → Bool) (q : List Nat) : Prop := M.1 6 s 4 = bI01 G ∧ Wd (M.1 6 s 2) w ∧ Wd (M.1 6 s 3) b ∧ M.1 6 s 1 = nI q.length ∧ q.Nodup ∧ (∀ x ∈ q, x < 24 ∧ w x = false) ∧ ∀ e, e < q.length → M.1 7 s e = nI (q.getD e 0)
theorem SS.len {M : sx_M} {s : Nat} {G : Bool} {w b : Nat → Bool} {q : List Nat} (h : SS M s G w b q) : q.length ≤ 24 := nd_len h.2.2.2.2.1 (fun x hx => (h.2.2.2.2.2.1 x hx).1)
theorem SS.lt {M : sx_M} {s : Nat} {G : Bool} {w b : Nat → Bool} {q : List Nat} (h : SS M s G w b q) {p : Nat} (hp : p < 24) (hw : w p = true) : q.length < 24 := by
  have : (p :: q).length ≤ 24 := nd_len (List.nodup_cons.mpr ⟨fun hm => (by have := (h.2.2.2.2.2.1 p hm).2; rw [hw] at this; cases this), h.2.2.2.2.1⟩) (fun x hx => by
    rcases List.mem_cons.mp hx with rfl | hx
    · exact hp
    · exact (h.2.2.2.2.2.1 x hx).1)
  exact this
def pSw (s : Nat) : Nat → Nat → Prop := fun k s' => (k = 6 ∨ k = 7) ∧ s' = s
theorem pSw6 (s : Nat) : pSw s 6 s := ⟨Or.inl rfl, rfl⟩
theorem pSw7 (s : Nat) : pSw s 7 s := ⟨Or.inr rfl, rfl⟩
theorem SS.fr {P : Nat → Nat → Prop} {M M' : sx_M} {s : Nat} {G : Bool} {w b : Nat → Bool} {q : List Nat} (h : SS M s G w b q) (hf : Fr P M M') (h6 : ¬ P 6 s) (h7 : ¬ P 7 s) : SS M' s G w b q := by
  unfold SS
  rw [hf.1 6 s h6, hf.1 7 s h7]
  exact h
theorem w5_isGoing {M : sx_M} {s : Nat} {G : Bool} {w b : Nat → Bool} {q : List Nat} (h : SS M s G w b q) : f5_isGoing s M = some (bI01 G) := by
  refine wp_get ?_
  rw [f5_isGoing]
  simp only [sx_bd, h.1]
  exact wp_ifp (bI01_01 G) (wp_some rfl)
theorem w5_graysInRow {M : sx_M} {s : Nat} {G : Bool} {w b : Nat → Bool} {q : List Nat} (h : SS M s G w b q) : f5_graysInRow s M = some (nI q.length) := by
  rw [f5_graysInRow]
  simp only [sx_bd, h.2.2.2.1]
theorem bt_15 : ∀ i, i < 32 → bt 15 i = decide (i < 4) := by decide +kernel
theorem w5_passesBelow {M : sx_M} {s : Nat} {G : Bool} {w b : Nat → Bool} {q : List Nat} (h : SS M s G w b q) {t : Nat} (ht : t < 28) : f5_passesBelow s (tI t) M = some (bI01 (decide (t < 4) || b (t - 4))) := by
  refine wp_get ?_
  rw [f5_passesBelow]
  with_reducible refine wp_bd ?_
  refine wp_call (w7_bitOf_t ht M) ?_
  have e : ((15 : Int32) ||| M.1 6 s 3) &&& bI t = 0 ↔ (decide (t < 4) || b (t - 4)) = false := by
    rw [bt_and (by omega), bt_or, bt_15 t (by omega), h.2.2.1 t (by omega)]
    by_cases h4 : t < 4
    · simp [h4]
    · have : 4 ≤ t := by omega
      simp [h4, this, ht]
  with_reducible refine wp_bd ?_
  with_reducible refine wp_if (fun c => ?_) (fun c => ?_) <;> rw [e] at c
  · repeat' (first | with_reducible refine wp_some ?_ | with_reducible refine wp_bd ?_ | (with_reducible refine wp_ifp ?_ ?_; · (first | exact ⟨by decide, by decide⟩ | exact sx_in_n (by omega) (by omega) | assumption | exact ⟨sx_in_n (by omega) (by omega), bI01_01 _⟩ | exact Or.inl rfl | exact Or.inr rfl | (simp (disch := omega) only [nI_lit, iI_le, iI_lt, iI_eq, nI_cl, nI_add, tI_4N, bt_shrN, bI01_0N, bI01_1N, Nat.not_le, Nat.not_lt, not_true_eq_false, not_false_eq_true, true_or, or_true, false_or, or_false, Bool.not_eq_false, Bool.not_eq_true] <;> omega))) | (with_reducible refine wp_ifn ?_ ?_; · (first | exact ⟨by decide, by decide⟩ | exact sx_in_n (by omega) (by omega) | assumption | exact ⟨sx_in_n (by omega) (by omega), bI01_01 _⟩ | exact Or.inl rfl | exact Or.inr rfl | (simp (disch := omega) only [nI_lit, iI_le, iI_lt, iI_eq, nI_cl, nI_add, tI_4N, bt_shrN, bI01_0N, bI01_1N, Nat.not_le, Nat.not_lt, not_true_eq_false, not_false_eq_true, true_or, or_true, false_or, or_false, Bool.not_eq_false, Bool.not_eq_true] <;> omega))) | fail)
    rw [c]; rfl
  · repeat' (first | with_reducible refine wp_some ?_ | with_reducible refine wp_bd ?_ | (with_reducible refine wp_ifp ?_ ?_; · (first | exact ⟨by decide, by decide⟩ | exact sx_in_n (by omega) (by omega) | assumption | exact ⟨sx_in_n (by omega) (by omega), bI01_01 _⟩ | exact Or.inl rfl | exact Or.inr rfl | (simp (disch := omega) only [nI_lit, iI_le, iI_lt, iI_eq, nI_cl, nI_add, tI_4N, bt_shrN, bI01_0N, bI01_1N, Nat.not_le, Nat.not_lt, not_true_eq_false, not_false_eq_true, true_or, or_true, false_or, or_false, Bool.not_eq_false, Bool.not_eq_true] <;> omega))) | (with_reducible refine wp_ifn ?_ ?_; · (first | exact ⟨by decide, by decide⟩ | exact sx_in_n (by omega) (by omega) | assumption | exact ⟨sx_in_n (by omega) (by omega), bI01_01 _⟩ | exact Or.inl rfl | exact Or.inr rfl | (simp (disch := omega) only [nI_lit, iI_le, iI_lt, iI_eq, nI_cl, nI_add, tI_4N, bt_shrN, bI01_0N, bI01_1N, Nat.not_le, Nat.not_lt, not_true_eq_false, not_false_eq_true, true_or, or_true, false_or, or_false, Bool.not_eq_false, Bool.not_eq_true] <;> omega))) | fail)
    rw [Bool.not_eq_false] at c
    rw [c]; rfl
theorem w5_addBlack {M : sx_M} {s : Nat} {w b : Nat → Bool} {q : List Nat} (h : SS M s true w b q) {p : Nat} (hp : p < 24) : wp (f5_addBlack s (nI p) M) (fun M' => SS M' s true w (fun k => b k || decide (k = p)) q ∧ Fr (pSw s) M M') := by
  rw [f5_addBlack]
  simp only [sx_bd, h.1]
  refine wp_ifn (by decide) ?_
  refine wp_call (w7_bitOf_p hp M) ?_
  refine wp_some ⟨⟨by simpa [st_at] using h.1, by simpa [st_at] using h.2.1, by simpa [st_at] using h.2.2.1.add hp, by simpa [st_at] using h.2.2.2.1, h.2.2.2.2.1, h.2.2.2.2.2.1, h.2.2.2.2.2.2⟩, Fr.rf.set (pSw6 s)⟩
theorem w5_addBlack_no {M : sx_M} {s : Nat} {w b : Nat → Bool} {q : List Nat} (h : SS M s false w b q) (v : Int32) : f5_addBlack s v M = some M := by
  rw [f5_addBlack]
  simp only [sx_bd, h.1]
  rfl
/-- a part turns gray -/
def shW (w : Nat → Bool) (p : Nat) : Nat → Bool := fun k => w k && !decide (k = p)
def shQ (w : Nat → Bool) (q : List Nat) (p : Nat) : List Nat := if w p then q ++ [p] else q
theorem w5_shade {M : sx_M} {s : Nat} {G : Bool} {w b : Nat → Bool} {q : List Nat} (h : SS M s G w b q) {p : Nat} (hp : p < 24) : wp (f5_shade s (nI p) M) (fun M' => SS M' s G (shW w p) b (shQ w q p) ∧ Fr (pSw s) M M') := by
  rw [f5_shade]
  with_reducible refine wp_bd ?_
  refine wp_call (w7_bitOf_p hp M) ?_
  have hl := h.len
  with_reducible refine wp_bd ?_
  have twc := h.2.1.tst hp
  with_reducible refine wp_if (fun c => ?_) (fun c => ?_) <;> rw [twc] at c
  · refine wp_some ⟨⟨h.1, h.2.1.ext (fun k _ => ?_), h.2.2.1, ?_, ?_, ?_, ?_⟩, Fr.rf⟩
    · unfold shW
      by_cases e : k = p
      · subst e; rw [c]; rfl
      · rw [decide_eq_false e]; simp
    all_goals (unfold shQ; rw [c]; simp only [Bool.false_eq_true, if_false])
    · exact h.2.2.2.1
    · exact h.2.2.2.2.1
    · exact fun x hx => ⟨(h.2.2.2.2.2.1 x hx).1, by unfold shW; rw [(h.2.2.2.2.2.1 x hx).2]; rfl⟩
    · exact h.2.2.2.2.2.2
  · rw [Bool.not_eq_false] at c
    have hlt := h.lt hp c
    have hn := h.2.2.2.1
    have c0 : sx_in (nI q.length) 24 := sx_in_n hlt (by omega)
    repeat' (first | with_reducible refine wp_some ?_ | with_reducible refine wp_bd ?_ | (with_reducible refine wp_ifp ?_ ?_; · (first | exact ⟨by decide, by decide⟩ | exact sx_in_n (by omega) (by omega) | assumption | exact ⟨sx_in_n (by omega) (by omega), bI01_01 _⟩ | exact Or.inl rfl | exact Or.inr rfl | (simp (disch := omega) only [hn, nI_lit, iI_le, iI_lt, iI_eq, nI_cl, nI_add, tI_4N, bt_shrN, bI01_0N, bI01_1N, Nat.not_le, Nat.not_lt, not_true_eq_false, not_false_eq_true, true_or, or_true, false_or, or_false, Bool.not_eq_false, Bool.not_eq_true] <;> omega))) | (with_reducible refine wp_ifn ?_ ?_; · (first | exact ⟨by decide, by decide⟩ | exact sx_in_n (by omega) (by omega) | assumption | exact ⟨sx_in_n (by omega) (by omega), bI01_01 _⟩ | exact Or.inl rfl | exact Or.inr rfl | (simp (disch := omega) only [hn, nI_lit, iI_le, iI_lt, iI_eq, nI_cl, nI_add, tI_4N, bt_shrN, bI01_0N, bI01_1N, Nat.not_le, Nat.not_lt, not_true_eq_false, not_false_eq_true, true_or, or_true, false_or, or_false, Bool.not_eq_false, Bool.not_eq_true] <;> omega))) | fail)
    refine wp_call (w7_bitOf_p hp M) ?_
    have e1 : ∀ v, (sx_set M 6 s 2 v).1 6 s 1 = nI q.length := fun v => by simpa [st_at] using hn
    have e2 : ∀ v v' i, (sx_set (sx_set M 6 s 2 v) 7 s i v').1 6 s 1 = nI q.length := fun v v' i => by simpa [st_at] using hn
    simp (disch := omega) only [sx_bd, e1, e2, nI_cl]
    refine wp_ifp c0 ?_
    have eq : shQ w q p = q ++ [p] := by unfold shQ; rw [c]; rfl
    have hpq : p ∉ q := fun hm => by have := (h.2.2.2.2.2.1 p hm).2; rw [c] at this; cases this
    refine wp_some ⟨⟨by simpa [st_at] using h.1, by have := h.2.1.del hp; simpa [st_at] using (show Wd _ (shW w p) from this), by simpa [st_at] using h.2.2.1, ?_, ?_, ?_, ?_⟩, ((Fr.rf.set (pSw6 s)).set (pSw7 s)).set (pSw6 s)⟩
    · rw [eq, List.length_append, st_at, if_pos ⟨rfl, rfl, rfl⟩]; exact nI_add _ 1
    · rw [eq, List.nodup_append]
      exact ⟨h.2.2.2.2.1, by simp, fun a ha b hb e => by rw [List.mem_singleton.mp hb] at e; rw [e] at ha; exact hpq ha⟩
    · rw [eq]
      intro x hx
      rcases List.mem_append.mp hx with hx | hx
      · exact ⟨(h.2.2.2.2.2.1 x hx).1, by unfold shW; rw [(h.2.2.2.2.2.1 x hx).2]; rfl⟩
      · rw [List.mem_singleton.mp hx]; exact ⟨hp, by unfold shW; simp⟩
    · rw [eq]
      intro e he
      rw [List.length_append] at he
      have he' : e < q.length + 1 := he
      by_cases q1 : e = q.length
      · subst q1
        simp [st_at, List.getD_eq_getElem?_getD]
      · have hq := h.2.2.2.2.2.2 e (by omega)
        have e3 : (q ++ [p]).getD e 0 = q.getD e 0 := by
          rw [List.getD_eq_getElem?_getD, List.getD_eq_getElem?_getD, List.getElem?_append_left (by omega)]
        rw [e3, ← hq]
        simp [st_at, q1]
theorem w5_stop (M : sx_M) (s : Nat) : wp (f5_stop s M) (fun M' => SS M' s false (fun _ => false) (fun _ => false) [] ∧ Fr (pSw s) M M') := by
  rw [f5_stop]
  refine wp_ifp (Or.inl rfl) ?_
  refine wp_some ⟨⟨by simp [st_at, bI01], by simpa [st_at] using Wd.zero, by simpa [st_at] using Wd.zero, by simp [st_at]; rfl, List.nodup_nil, fun x hx => absurd hx List.not_mem_nil, fun e he => absurd he (Nat.not_lt_zero _)⟩, (((Fr.rf.set (pSw6 s)).set (pSw6 s)).set (pSw6 s)).set (pSw6 s)⟩
theorem w5_start (M : sx_M) (s : Nat) {v : Int32} {w : Nat → Bool} (hv : Wd v w) : wp (f5_start s v M) (fun M' => SS M' s true w (fun _ => false) [] ∧ Fr (pSw s) M M') := by
  rw [f5_start]
  obtain ⟨M1, e, h, hf⟩ := w5_stop M s
  refine wp_call e ?_
  refine wp_ifp (Or.inr rfl) ?_
  refine wp_some ⟨⟨by simp [st_at, bI01], by simpa [st_at] using hv, by simpa [st_at] using h.2.2.1, by simpa [st_at] using h.2.2.2.1, List.nodup_nil, fun x hx => absurd hx List.not_mem_nil, fun e he => absurd he (Nat.not_lt_zero _)⟩, (hf.set (pSw6 s)).set (pSw6 s)⟩
theorem w5_colourOf {M : sx_M} {s : Nat} {G : Bool} {w b : Nat → Bool} {q : List Nat} (h : SS M s G w b q) {p : Nat} (hp : p < 24) : f5_colourOf s (nI p) M = some (if G then (if w p then 0 else if b p then 2 else 1) else -9) := by
  refine wp_get ?_
  rw [f5_colourOf]
  simp only [sx_bd, h.1]
  cases G with
  | false => exact wp_ifp (by decide) (wp_some rfl)
  | true =>
    refine wp_ifn (by decide) ?_
    refine wp_call (w7_bitOf_p hp M) ?_
    have twc := h.2.1.tst hp
    with_reducible refine wp_if (fun c => ?_) (fun c => ?_) <;> rw [twc] at c
    · refine wp_call (w7_bitOf_p hp M) ?_
      have twc2 := h.2.2.1.tst hp
      with_reducible refine wp_if (fun c2 => ?_) (fun c2 => ?_) <;> rw [twc2] at c2
      · exact wp_some (by rw [c, c2]; rfl)
      · rw [Bool.not_eq_false] at c2
        exact wp_some (by rw [c, c2]; rfl)
    · rw [Bool.not_eq_false] at c
      exact wp_some (by rw [c]; rfl)
theorem w5_whites {M : sx_M} {s : Nat} : f5_whites s M = some (M.1 6 s 2) := by
  rw [f5_whites]; rfl
theorem w5_blackenFirst_0 {M : sx_M} {s : Nat} {G : Bool} {w b : Nat → Bool} (h : SS M s G w b []) : f5_blackenFirst s M = some (-9, M) := by
  refine wp_get ?_
  have hn := h.2.2.2.1
  rw [f5_blackenFirst]
  generalize (5000 : Nat) = N
  with_reducible refine wp_bd ?_
  refine wp_ifn (by rw [hn]; decide) ?_
  exact wp_some rfl
theorem w5_blL {M : sx_M} {s N n : Nat} {v : Int32} {k : sx_M → Option (Int32 × sx_M)} {Q : Int32 × sx_M → Prop} (h4 : M.1 6 s 1 = nI n) (h1 : 1 ≤ n) (hn : n ≤ 24) (hN : n < N) (hk : ∀ M1, Fr (pSw s) M M1 → M1.1 6 s = M.1 6 s → (∀ e, M1.1 7 s e = M.1 7 s (if e + 1 < n then e + 1 else e)) → wp (k M1) Q) : wp (f5_blackenFirst_L19 s v k N 1 M) Q := by
  refine wp_up (F := fun m x2 M1 => f5_blackenFirst_L19 s v k m x2 M1) n (fun j M1 => 1 ≤ j ∧ Fr (pSw s) M M1 ∧ M1.1 6 s = M.1 6 s ∧ ∀ e, M1.1 7 s e = M.1 7 s (if e + 1 < j then e + 1 else e)) (fun m j M1 hj hI kk => ?_) (fun m M1 hI => ?_) N 1 M (by omega) (by omega) ⟨Nat.le_refl _, Fr.rf, rfl, fun e => by rw [if_neg (by omega)]⟩
  · obtain ⟨j1, f1, f2, f3⟩ := hI
    have ej : nI j - (1 : Int32) = nI (j - 1) := iI_pred (by omega)
    have f4 : M1.1 6 s 1 = nI n := by rw [f2]; exact h4
    show wp (f5_blackenFirst_L19 s v k (m + 1) (nI j) M1) _
    rw [f5_blackenFirst_L19]
    repeat' (first | with_reducible refine wp_some ?_ | with_reducible refine wp_bd ?_ | (with_reducible refine wp_ifp ?_ ?_; · (first | exact ⟨by decide, by decide⟩ | exact sx_in_n (by omega) (by omega) | assumption | exact ⟨sx_in_n (by omega) (by omega), bI01_01 _⟩ | exact Or.inl rfl | exact Or.inr rfl | (simp (disch := omega) only [f4, nI_lit, iI_le, iI_lt, iI_eq, nI_cl, nI_add, tI_4N, bt_shrN, bI01_0N, bI01_1N, Nat.not_le, Nat.not_lt, not_true_eq_false, not_false_eq_true, true_or, or_true, false_or, or_false, Bool.not_eq_false, Bool.not_eq_true] <;> omega))) | (with_reducible refine wp_ifn ?_ ?_; · (first | exact ⟨by decide, by decide⟩ | exact sx_in_n (by omega) (by omega) | assumption | exact ⟨sx_in_n (by omega) (by omega), bI01_01 _⟩ | exact Or.inl rfl | exact Or.inr rfl | (simp (disch := omega) only [f4, nI_lit, iI_le, iI_lt, iI_eq, nI_cl, nI_add, tI_4N, bt_shrN, bI01_0N, bI01_1N, Nat.not_le, Nat.not_lt, not_true_eq_false, not_false_eq_true, true_or, or_true, false_or, or_false, Bool.not_eq_false, Bool.not_eq_true] <;> omega))) | fail)
    simp (disch := omega) only [sx_bd, ej, nI_cl]
    refine wp_ifp (sx_in_n (by omega) (by omega)) ?_
    refine kk _ ⟨by omega, f1.set (pSw7 s), ?_, fun e => ?_⟩
    · rw [← f2]; funext e; simp [st_at]
    · by_cases e1 : e = j - 1
      · subst e1
        rw [if_pos (by omega), show j - 1 + 1 = j by omega]
        have := f3 j
        rw [if_neg (by omega)] at this
        simp [st_at, this]
      · have e2 : (if e + 1 < j + 1 then e + 1 else e) = (if e + 1 < j then e + 1 else e) := by
          by_cases q : e + 1 < j
          · rw [if_pos q, if_pos (by omega)]
          · rw [if_neg q, if_neg (by omega)]
        rw [e2, ← f3 e]
        simp [st_at, e1]
  · obtain ⟨j1, f1, f2, f3⟩ := hI
    have f4 : M1.1 6 s 1 = nI n := by rw [f2]; exact h4
    show wp (f5_blackenFirst_L19 s v k (m + 1) (nI n) M1) _
    rw [f5_blackenFirst_L19]
    repeat' (first | with_reducible refine wp_some ?_ | with_reducible refine wp_bd ?_ | (with_reducible refine wp_ifp ?_ ?_; · (first | exact ⟨by decide, by decide⟩ | exact sx_in_n (by omega) (by omega) | assumption | exact ⟨sx_in_n (by omega) (by omega), bI01_01 _⟩ | exact Or.inl rfl | exact Or.inr rfl | (simp (disch := omega) only [f4, nI_lit, iI_le, iI_lt, iI_eq, nI_cl, nI_add, tI_4N, bt_shrN, bI01_0N, bI01_1N, Nat.not_le, Nat.not_lt, not_true_eq_false, not_false_eq_true, true_or, or_true, false_or, or_false, Bool.not_eq_false, Bool.not_eq_true] <;> omega))) | (with_reducible refine wp_ifn ?_ ?_; · (first | exact ⟨by decide, by decide⟩ | exact sx_in_n (by omega) (by omega) | assumption | exact ⟨sx_in_n (by omega) (by omega), bI01_01 _⟩ | exact Or.inl rfl | exact Or.inr rfl | (simp (disch := omega) only [f4, nI_lit, iI_le, iI_lt, iI_eq, nI_cl, nI_add, tI_4N, bt_shrN, bI01_0N, bI01_1N, Nat.not_le, Nat.not_lt, not_true_eq_false, not_false_eq_true, true_or, or_true, false_or, or_false, Bool.not_eq_false, Bool.not_eq_true] <;> omega))) | fail)
    exact hk M1 f1 f2 f3
theorem w5_blackenFirst {M : sx_M} {s : Nat} {w b : Nat → Bool} {p : Nat} {q : List Nat} (h : SS M s true w b (p :: q)) : wp (f5_blackenFirst s M) (fun r => r.1 = nI p ∧ SS r.2 s true w (fun k => b k || decide (k = p)) q ∧ Fr (pSw s) M r.2) := by
  obtain ⟨h1, h2, h3, h4, h5, h6, h7⟩ := id h
  have hl := h.len
  have hp : p < 24 := (h6 p List.mem_cons_self).1
  have hq1 : q.length + 1 ≤ 24 := hl
  rw [f5_blackenFirst]
  generalize hN : (5000 : Nat) = N
  have h4' : M.1 6 s 1 = nI (q.length + 1) := h4
  have hp0 : M.1 7 s ((0 : Int32)).toNatClampNeg = nI p := by
    rw [show (0 : Int32) = nI 0 from rfl, nI_cl (by omega)]
    exact h7 0 (Nat.zero_lt_succ _)
  have hc1 : (0 : Int32) < M.1 6 s 1 := by rw [h4']; exact (iI_lt (a := 0) (by omega) (by omega)).mpr (by omega)
  have hc2 : sx_in (0 : Int32) 24 := ⟨by decide, by decide⟩
  with_reducible refine wp_bd ?_
  refine wp_ifp hc1 ?_
  refine wp_ifp hc2 ?_
  with_reducible refine wp_bd ?_
  rw [hp0]
  refine w5_blL h4' (by omega) (by omega) (by omega) (fun M1 f1 f2 f3 => ?_)
  have f4 : M1.1 6 s 1 = nI (q.length + 1) := by rw [f2]; exact h4'
  with_reducible refine wp_bd ?_
  with_reducible refine wp_bd ?_
  with_reducible refine wp_bd ?_
  refine wp_call (w7_bitOf_p hp _) ?_
  with_reducible refine wp_bd ?_
  refine wp_some ⟨rfl, ⟨?_, ?_, ?_, ?_, (List.nodup_cons.mp h5).2, fun x hx => h6 x (List.mem_cons_of_mem _ hx), fun e he => ?_⟩, (f1.set (pSw6 s)).set (pSw6 s)⟩
  · simpa [st_at, f2] using h1
  · simpa [st_at, f2] using h2
  · simpa [st_at, f2] using h3.add hp
  · simp only [st_at]
    simp [f4]
    exact (iI_pred (by omega)).trans (by rw [Nat.add_sub_cancel])
  · have := f3 e
    rw [if_pos (by omega)] at this
    have h8 := h7 (e + 1) (by show e + 1 < q.length + 1; omega)
    simp only [st_at]
    simp [this]
    simpa using h8
theorem w5_copyFrom {M : sx_M} {s s1 : Nat} {G : Bool} {w b : Nat → Bool} {q : List Nat} (hs : s1 ≠ s) (h : SS M s1 G w b q) : wp (f5_copyFrom s s1 M) (fun M' => SS M' s G w b q ∧ Fr (pSw s) M M') := by
  obtain ⟨h1, h2, h3, h4, h5, h6, h7⟩ := id h
  have hl := h.len
  rw [f5_copyFrom]
  have hs' : ¬ s1 = s := hs
  simp only [sx_bd, st_at, hs', false_and, and_false, if_false]
  refine wp_ifp (by rw [h1]; exact bI01_01 _) ?_
  refine wp_up (F := fun m x2 M1 => f5_copyFrom_L34 s s1 _ m x2 M1) q.length (fun j M1 => Fr (pSw s) M M1 ∧ (∀ f, 1 ≤ f → f ≤ 4 → M1.1 6 s f = M.1 6 s1 f) ∧ ∀ e, e < j → M1.1 7 s e = M.1 7 s1 e) (fun m j M1 hj hI kk => ?_) (fun m M1 hI => ?_) 5000 0 _ (by omega) (by omega) ⟨(((Fr.rf.set (pSw6 s)).set (pSw6 s)).set (pSw6 s)).set (pSw6 s), fun f hf1 hf2 => ?_, fun e he => absurd he (Nat.not_lt_zero _)⟩
  · obtain ⟨f1, f2, f3⟩ := hI
    have f4 : M1.1 6 s 1 = nI q.length := (f2 1 (by omega) (by omega)).trans h4
    have r : M1.1 7 s1 = M.1 7 s1 := f1.1 7 s1 (fun q => hs q.2)
    show wp (f5_copyFrom_L34 s s1 _ (m + 1) (nI j) M1) _
    rw [f5_copyFrom_L34]
    repeat' (first | with_reducible refine wp_some ?_ | with_reducible refine wp_bd ?_ | (with_reducible refine wp_ifp ?_ ?_; · (first | exact ⟨by decide, by decide⟩ | exact sx_in_n (by omega) (by omega) | assumption | exact ⟨sx_in_n (by omega) (by omega), bI01_01 _⟩ | exact Or.inl rfl | exact Or.inr rfl | (simp (disch := omega) only [f4, nI_lit, iI_le, iI_lt, iI_eq, nI_cl, nI_add, tI_4N, bt_shrN, bI01_0N, bI01_1N, Nat.not_le, Nat.not_lt, not_true_eq_false, not_false_eq_true, true_or, or_true, false_or, or_false, Bool.not_eq_false, Bool.not_eq_true] <;> omega))) | (with_reducible refine wp_ifn ?_ ?_; · (first | exact ⟨by decide, by decide⟩ | exact sx_in_n (by omega) (by omega) | assumption | exact ⟨sx_in_n (by omega) (by omega), bI01_01 _⟩ | exact Or.inl rfl | exact Or.inr rfl | (simp (disch := omega) only [f4, nI_lit, iI_le, iI_lt, iI_eq, nI_cl, nI_add, tI_4N, bt_shrN, bI01_0N, bI01_1N, Nat.not_le, Nat.not_lt, not_true_eq_false, not_false_eq_true, true_or, or_true, false_or, or_false, Bool.not_eq_false, Bool.not_eq_true] <;> omega))) | fail)
    refine kk _ ⟨f1.set (pSw7 s), fun f hf1 hf2 => ?_, fun e he => ?_⟩
    · rw [← f2 f hf1 hf2]; simp [st_at]
    · rw [nI_cl (by omega)]
      by_cases e1 : e = j
      · subst e1; simp [st_at, r]
      · rw [← f3 e (by omega)]; simp [st_at, e1]
  · obtain ⟨f1, f2, f3⟩ := hI
    have f4 : M1.1 6 s 1 = nI q.length := (f2 1 (by omega) (by omega)).trans h4
    show wp (f5_copyFrom_L34 s s1 _ (m + 1) (nI q.length) M1) _
    rw [f5_copyFrom_L34]
    repeat' (first | with_reducible refine wp_some ?_ | with_reducible refine wp_bd ?_ | (with_reducible refine wp_ifp ?_ ?_; · (first | exact ⟨by decide, by decide⟩ | exact sx_in_n (by omega) (by omega) | assumption | exact ⟨sx_in_n (by omega) (by omega), bI01_01 _⟩ | exact Or.inl rfl | exact Or.inr rfl | (simp (disch := omega) only [f4, nI_lit, iI_le, iI_lt, iI_eq, nI_cl, nI_add, tI_4N, bt_shrN, bI01_0N, bI01_1N, Nat.not_le, Nat.not_lt, not_true_eq_false, not_false_eq_true, true_or, or_true, false_or, or_false, Bool.not_eq_false, Bool.not_eq_true] <;> omega))) | (with_reducible refine wp_ifn ?_ ?_; · (first | exact ⟨by decide, by decide⟩ | exact sx_in_n (by omega) (by omega) | assumption | exact ⟨sx_in_n (by omega) (by omega), bI01_01 _⟩ | exact Or.inl rfl | exact Or.inr rfl | (simp (disch := omega) only [f4, nI_lit, iI_le, iI_lt, iI_eq, nI_cl, nI_add, tI_4N, bt_shrN, bI01_0N, bI01_1N, Nat.not_le, Nat.not_lt, not_true_eq_false, not_false_eq_true, true_or, or_true, false_or, or_false, Bool.not_eq_false, Bool.not_eq_true] <;> omega))) | fail)
    refine ⟨⟨(f2 4 (by omega) (by omega)).trans h1, (f2 2 (by omega) (by omega)) ▸ h2, (f2 3 (by omega) (by omega)) ▸ h3, f4, h5, h6, fun e he => (f3 e he).trans (h7 e he)⟩, f1⟩
  · have hf : f = 1 ∨ f = 2 ∨ f = 3 ∨ f = 4 := by omega
    rcases hf with rfl | rfl | rfl | rfl <;> simp [st_at]
