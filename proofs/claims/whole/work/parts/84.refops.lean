/-! THE REFERENCE'S ROWS, CHANGED -/
theorem rd_e (M : sx_M) (k s i : Nat) (v : Int32) : (sx_set M k s i v).1 k s i = v := by rw [st_at, if_pos ⟨rfl, rfl, rfl⟩]
theorem rd_n (M : sx_M) (k s i : Nat) (v : Int32) (k' s' i' : Nat) (h : i' ≠ i) : (sx_set M k s i v).1 k' s' i' = M.1 k' s' i' := by rw [st_at, if_neg (fun q => h q.2.2)]
theorem w8_pa0 (p : Nat) (M : sx_M) : f8_partAt (nI p) (0 : Int32) M = some (nI (7 + 4 * p + 0)) := w8_partAt p 0 M
theorem w8_pa1 (p : Nat) (M : sx_M) : f8_partAt (nI p) (1 : Int32) M = some (nI (7 + 4 * p + 1)) := w8_partAt p 1 M
theorem w8_pa2 (p : Nat) (M : sx_M) : f8_partAt (nI p) (2 : Int32) M = some (nI (7 + 4 * p + 2)) := w8_partAt p 2 M
theorem w8_pa3 (p : Nat) (M : sx_M) : f8_partAt (nI p) (3 : Int32) M = some (nI (7 + 4 * p + 3)) := w8_partAt p 3 M
theorem w8_co0 (p : Nat) (M : sx_M) : f8_cordAt (nI p) (0 : Int32) M = some (nI (103 + 3 * p + 0)) := w8_cordAt p 0 M
theorem w8_co1 (p : Nat) (M : sx_M) : f8_cordAt (nI p) (1 : Int32) M = some (nI (103 + 3 * p + 1)) := w8_cordAt p 1 M
theorem w8_co2 (p : Nat) (M : sx_M) : f8_cordAt (nI p) (2 : Int32) M = some (nI (103 + 3 * p + 2)) := w8_cordAt p 2 M
/-- the row of kind k alone -/
def pRw (k : Nat) : Nat → Nat → Prop := fun k' s' => k' = k ∧ s' = 0
theorem pRw_i (k : Nat) : pRw k k 0 := ⟨rfl, rfl⟩
theorem DS.fr {P : Nat → Nat → Prop} {M M' : sx_M} {k : Nat} {A : SH} (h : DS M k A) (hf : Fr P M M') (hp : ¬ P k 0) : DS M' k A := by
  unfold DS GD
  rw [hf.1 k 0 hp]
  exact h
/-- the sweep's sets fit together -/
def WS (A : SH) : Prop := A.m ≤ 24 ∧ A.q.Nodup ∧ (∀ x ∈ A.q, x < A.m ∧ A.w x = false) ∧ (∀ p, A.w p = true → p < A.m ∧ A.b p = false)
theorem shade_no {A : SH} {p : Nat} (h : A.w p = false) : A.shade p = A := by
  have e1 : shW A.w p = A.w := by
    funext x
    unfold shW
    by_cases e : x = p
    · subst e; rw [h]; rfl
    · rw [decide_eq_false e]; simp
  have e2 : shQ A.w A.q p = A.q := by unfold shQ; rw [h]; rfl
  unfold SH.shade
  rw [e1, e2]
theorem WS.lt {A : SH} (h : WS A) {p : Nat} (hw : A.w p = true) : A.q.length < 24 := by
  obtain ⟨h1, h2, h3, h4⟩ := h
  have : (p :: A.q).length ≤ 24 := nd_len (List.nodup_cons.mpr ⟨fun hm => (by have := (h3 p hm).2; rw [hw] at this; cases this), h2⟩) (fun x hx => by
    rcases List.mem_cons.mp hx with rfl | hx
    · have := (h4 x hw).1; omega
    · have := (h3 x hx).1; omega)
  exact this
theorem WS.shade {A : SH} (h : WS A) (p : Nat) : WS (A.shade p) := by
  cases hw : A.w p with
  | false => rw [shade_no hw]; exact h
  | true =>
    obtain ⟨h1, h2, h3, h4⟩ := h
    have eq : (A.shade p).q = A.q ++ [p] := by show shQ A.w A.q p = _; unfold shQ; rw [hw]; rfl
    have hpq : p ∉ A.q := fun hm => by have := (h3 p hm).2; rw [hw] at this; cases this
    have ew : ∀ x, (A.shade p).w x = (A.w x && !decide (x = p)) := fun _ => rfl
    refine ⟨h1, ?_, fun x hx => ?_, fun x hx => ?_⟩
    · rw [eq, List.nodup_append]
      exact ⟨h2, by simp, fun a ha b hb e => by rw [List.mem_singleton.mp hb] at e; rw [e] at ha; exact hpq ha⟩
    · rw [eq] at hx
      rw [ew]
      rcases List.mem_append.mp hx with hx | hx
      · exact ⟨(h3 x hx).1, by rw [(h3 x hx).2]; rfl⟩
      · rw [List.mem_singleton.mp hx]; exact ⟨(h4 p hw).1, by simp⟩
    · rw [ew, Bool.and_eq_true] at hx
      exact h4 x hx.1
/-- a copy from one row to another, or downwards inside one -/
theorem w8_copy {M : sx_M} {ka kb a b n : Nat} (hn : n < 4000) (ha : a + n ≤ sx_len ka) (hb : b + n ≤ sx_len kb) (hov : ka ≠ kb ∨ b ≤ a ∨ a + n ≤ b) : wp (f8_copy ka (nI a) kb (nI b) (nI n) M) (fun M' => (∀ j, j < n → M'.1 kb 0 (b + j) = M.1 ka 0 (a + j)) ∧ (∀ i, (i < b ∨ b + n ≤ i) → M'.1 kb 0 i = M.1 kb 0 i) ∧ Fr (pRw kb) M M') := by
  have hla : sx_len ka < 10000 := by unfold sx_len; split <;> (try split) <;> omega
  have hlb : sx_len kb < 10000 := by unfold sx_len; split <;> (try split) <;> omega
  rw [f8_copy]
  refine wp_up (F := fun m x5 M1 => f8_copy_L3 ka (nI a) kb (nI b) (nI n) m x5 M1) n (fun j M1 => (∀ e, e < j → M1.1 kb 0 (b + e) = M.1 ka 0 (a + e)) ∧ (∀ i, (i < b ∨ b + j ≤ i) → M1.1 kb 0 i = M.1 kb 0 i) ∧ Fr (pRw kb) M M1) (fun m j M1 hj hI kk => ?_) (fun m M1 hI => ?_) 5000 0 M (by omega) (by omega) ⟨fun e he => absurd he (Nat.not_lt_zero _), fun _ _ => rfl, Fr.rf⟩
  · obtain ⟨i1, i2, i3⟩ := hI
    show wp (f8_copy_L3 ka (nI a) kb (nI b) (nI n) (m + 1) (nI j) M1) _
    rw [f8_copy_L3]
    refine wp_ifn (by rw [iI_le (by omega) (by omega)]; omega) ?_
    rw [nI_add, nI_add]
    refine wp_ifp (sx_in_n (by omega) (by omega)) ?_
    with_reducible refine wp_bd ?_
    refine wp_ifp (sx_in_n (by omega) (by omega)) ?_
    with_reducible refine wp_bd ?_
    with_reducible refine wp_bd ?_
    rw [nI_cl (by omega), nI_cl (by omega)]
    have hr : M1.1 ka 0 (a + j) = M.1 ka 0 (a + j) := by
      by_cases e : ka = kb
      · subst e
        rcases hov with q | q | q
        · exact absurd rfl q
        · exact i2 _ (Or.inr (by omega))
        · exact i2 _ (Or.inl (by omega))
      · rw [i3.1 ka 0 (fun q => e q.1)]
    rw [hr]
    refine kk _ ⟨fun e he => ?_, fun i hi => ?_, i3.set (pRw_i kb)⟩
    · by_cases q : e = j
      · subst q; rw [rd_e]
      · rw [rd_n _ _ _ _ _ _ _ _ (by omega)]; exact i1 e (by omega)
    · rw [rd_n _ _ _ _ _ _ _ _ (by omega)]; exact i2 i (by omega)
  · show wp (f8_copy_L3 ka (nI a) kb (nI b) (nI n) (m + 1) (nI n) M1) _
    rw [f8_copy_L3]
    refine wp_ifp (by rw [iI_le (by omega) (by omega)]; omega) ?_
    exact wp_some hI
theorem w8_redden {M : sx_M} {k : Nat} {A : SH} (hk : row3 k) (h : DS M k A) (hw : WS A) {p : Nat} (hp : p < A.m) (hTp : A.T p = true) : wp (f8_redden k (nI p) M) (fun M' => DS M' k (A.shade p) ∧ Fr (pRw k) M M') := by
  obtain ⟨h1, h2, h3, h4, h5, h6, h7, h8, h9⟩ := id h
  have hl := row3_len hk
  rw [f8_redden]
  simp only [hl]
  have e3 : M.1 k 0 ((3 : Int32)).toNatClampNeg = bI01 A.G := h5
  refine wp_ifp ⟨by decide, by decide⟩ ?_
  with_reducible refine wp_bd ?_
  with_reducible refine wp_bd ?_
  rw [e3]
  cases hG : A.G with
  | false =>
    refine wp_ifn (by decide) ?_
    exact wp_some ⟨⟨h1, h2, h3, h4, h5, h6, h7, h8, fun q => absurd (show A.G = true from q) (by rw [hG]; decide)⟩, Fr.rf⟩
  | true =>
    obtain ⟨k1, k2, k3⟩ := h9 hG
    have hq3 := k3 p hp hTp
    refine wp_ifp rfl ?_
    cases hwp : A.w p with
    | false =>
      rw [shade_no hwp]
      rw [hwp] at hq3
      refine wp_call (w8_pa3 p M) ?_
      refine wp_ifp (sx_in_n (by omega) (by omega)) ?_
      with_reducible refine wp_bd ?_
      rw [nI_cl (by omega), hq3]
      refine wp_ifn ?_ (wp_some ⟨h, Fr.rf⟩)
      cases A.b p <;> decide
    | true =>
      rw [hwp] at hq3
      have hq3' : M.1 k 0 (7 + 4 * p + 3) = nI 0 := hq3
      have hlt := hw.lt hwp
      repeat' (first | with_reducible refine wp_some ?_ | (with_reducible refine wp_bd ?_; try simp (disch := omega) only [k1, hq3', nI_cl, nI_lit, nI_add, rd_n, rd_e]) | (with_reducible refine wp_call (w8_pa0 _ _) ?_) | (with_reducible refine wp_call (w8_pa1 _ _) ?_) | (with_reducible refine wp_call (w8_pa2 _ _) ?_) | (with_reducible refine wp_call (w8_pa3 _ _) ?_) | (with_reducible refine wp_call (w8_co0 _ _) ?_) | (with_reducible refine wp_call (w8_co1 _ _) ?_) | (with_reducible refine wp_call (w8_co2 _ _) ?_) | (with_reducible refine wp_ifp ?_ ?_; · (first | exact ⟨by decide, by decide⟩ | exact sx_in_n (by omega) (by omega) | assumption | exact ⟨sx_in_n (by omega) (by omega), bI01_01 _⟩ | exact Or.inl rfl | exact Or.inr rfl | (simp (disch := omega) only [k1, hq3', rd_n, rd_e, nI_add, nI_lit, iI_le, iI_lt, iI_eq, nI_cl, nI_add, tI_4N, bt_shrN, bI01_0N, bI01_1N, Nat.not_le, Nat.not_lt, not_true_eq_false, not_false_eq_true, true_or, or_true, false_or, or_false, Bool.not_eq_false, Bool.not_eq_true] <;> omega))) | (with_reducible refine wp_ifn ?_ ?_; · (first | exact ⟨by decide, by decide⟩ | exact sx_in_n (by omega) (by omega) | assumption | exact ⟨sx_in_n (by omega) (by omega), bI01_01 _⟩ | exact Or.inl rfl | exact Or.inr rfl | (simp (disch := omega) only [k1, hq3', rd_n, rd_e, nI_add, nI_lit, iI_le, iI_lt, iI_eq, nI_cl, nI_add, tI_4N, bt_shrN, bI01_0N, bI01_1N, Nat.not_le, Nat.not_lt, not_true_eq_false, not_false_eq_true, true_or, or_true, false_or, or_false, Bool.not_eq_false, Bool.not_eq_true] <;> omega))) | fail)
      have eq : (A.shade p).q = A.q ++ [p] := by show shQ A.w A.q p = _; unfold shQ; rw [hwp]; rfl
      have ew : ∀ x, (A.shade p).w x = (A.w x && !decide (x = p)) := fun _ => rfl
      refine ⟨⟨⟨h1.1, ?_, fun i hi => ?_⟩, h2, ?_, ?_, ?_, ?_, ?_, fun x hx => ?_, fun _ => ⟨?_, fun e he => ?_, fun x hx hTx => ?_⟩⟩, ((Fr.rf.set (pRw_i k)).set (pRw_i k)).set (pRw_i k)⟩
      · simp (disch := omega) only [nI_cl, nI_lit, nI_add, rd_n, rd_e]
        exact h1.2.1
      · obtain ⟨g1, g2, g3, g4, g5⟩ := h1.2.2 i hi
        have h40 := h1.1
        have hi' : i < A.g.n := hi
        refine ⟨g1, g2, ?_, ?_, ?_⟩
        · simp (disch := omega) only [nI_cl, nI_lit, nI_add, rd_n, rd_e]
          exact g3
        · simp (disch := omega) only [nI_cl, nI_lit, nI_add, rd_n, rd_e]
          exact g4
        · simp (disch := omega) only [nI_cl, nI_lit, nI_add, rd_n, rd_e]
          exact g5
      · simp (disch := omega) only [nI_cl, nI_lit, nI_add, rd_n, rd_e]
        exact h3
      · simp (disch := omega) only [nI_cl, nI_lit, nI_add, rd_n, rd_e]
        exact h4
      · simp (disch := omega) only [nI_cl, nI_lit, nI_add, rd_n, rd_e]
        exact h5
      · simp (disch := omega) only [nI_cl, nI_lit, nI_add, rd_n, rd_e]
        exact h6
      · simp (disch := omega) only [nI_cl, nI_lit, nI_add, rd_n, rd_e]
        exact h7
      · have hx' : x < A.m := hx
        obtain ⟨g3, g4, g5⟩ := h8 x hx
        refine ⟨?_, ?_, ?_⟩
        · simp (disch := omega) only [nI_cl, nI_lit, nI_add, rd_n, rd_e]
          exact g3
        · simp (disch := omega) only [nI_cl, nI_lit, nI_add, rd_n, rd_e]
          exact g4
        · simp (disch := omega) only [nI_cl, nI_lit, nI_add, rd_n, rd_e]
          exact g5
      · rw [eq, List.length_append]
        simp (disch := omega) only [nI_cl, nI_lit, nI_add, rd_n, rd_e]
        rfl
      · rw [eq] at he ⊢
        rw [List.length_append] at he
        have he' : e < A.q.length + 1 := he
        by_cases q1 : e = A.q.length
        · subst q1
          simp (disch := omega) only [nI_cl, nI_lit, nI_add, rd_n, rd_e]
          simp [List.getD_eq_getElem?_getD]
        · have e3 : (A.q ++ [p]).getD e 0 = A.q.getD e 0 := by
            rw [List.getD_eq_getElem?_getD, List.getD_eq_getElem?_getD, List.getElem?_append_left (by omega)]
          rw [e3, ← k2 e (by omega)]
          simp (disch := omega) only [nI_cl, nI_lit, nI_add, rd_n, rd_e]
      · have hx' : x < A.m := hx
        rw [ew]
        have eb : (A.shade p).b x = A.b x := rfl
        by_cases q1 : x = p
        · subst q1
          rw [decide_eq_true rfl, Bool.not_true, Bool.and_false, eb, (hw.2.2.2 x hwp).2]
          simp (disch := omega) only [nI_cl, nI_lit, nI_add, rd_n, rd_e]
          rfl
        · rw [decide_eq_false q1, Bool.not_false, Bool.and_true, eb, ← k3 x hx' hTx]
          simp (disch := omega) only [nI_cl, nI_lit, nI_add, rd_n, rd_e]
