/-! THE REFERENCE'S STRINGS AND PARTS, CHANGED -/
theorem nI_ss (a b : Nat) : nI (a + 1) - nI (b + 1) = nI a - nI b := by
  have e : nI (a + 1) = (nI a - nI b) + nI (b + 1) := by
    rw [← nI_add a 1, ← nI_add b 1, ← Int32.add_assoc, Int32.sub_add_cancel]
  rw [e]
  exact Int32.add_sub_cancel _ _
theorem DS.strs {M M' : sx_M} {k : Nat} {A : SH} {g' : GT} (h : DS M k A) (hg : GD M' k g') (hc : ∀ i, i < 103 ∨ 223 ≤ i → i ≠ 2 → M'.1 k 0 i = M.1 k 0 i) : DS M' k (A.setG g') := by
  obtain ⟨h1, h2, h3, h4, h5, h6, h7, h8, h9⟩ := id h
  refine ⟨hg, h2, ?_, ?_, ?_, ?_, ?_, fun p hp => ?_, fun q => ?_⟩
  · rw [hc 0 (by omega) (by omega)]; exact h3
  · rw [hc 1 (by omega) (by omega)]; exact h4
  · rw [hc 3 (by omega) (by omega)]; exact h5
  · rw [hc 4 (by omega) (by omega)]; exact h6
  · rw [hc 5 (by omega) (by omega)]; exact h7
  · have hp' : p < A.m := hp
    rw [hc _ (by omega) (by omega), hc _ (by omega) (by omega), hc _ (by omega) (by omega)]; exact h8 p hp
  · obtain ⟨k1, k2, k3⟩ := h9 q
    refine ⟨?_, fun e he => ?_, fun p hp hTp => ?_⟩
    · rw [hc 6 (by omega) (by omega)]; exact k1
    · rw [hc _ (by omega) (by omega)]; exact k2 e he
    · have hp' : p < A.m := hp
      rw [hc _ (by omega) (by omega)]; exact k3 p hp hTp
theorem DS.nG {M : sx_M} {k : Nat} {A B : SH} (h : DS M k A) (hG : A.G = false) (e1 : B.1 = A.1) (e2 : B.2.1 = A.2.1) (e3 : B.G = false) (e4 : B.2.2.2 = A.2.2.2) : DS M k B := by
  obtain ⟨h1, h2, h3, h4, h5, h6, h7, h8, h9⟩ := id h
  obtain ⟨bg, bp, ⟨bG, bs⟩, be⟩ := B
  obtain ⟨ag, ap, ⟨aG, as⟩, ae⟩ := A
  dsimp only at e1 e2 e4
  subst e1 e2 e4
  have e3' : bG = false := e3
  have hG' : aG = false := hG
  subst e3' hG'
  exact ⟨h1, h2, h3, h4, h5, h6, h7, h8, fun q => by cases q⟩
theorem w8_makeIn {M : sx_M} {k : Nat} {A : SH} (hk : row3 k) (h : DS M k A) (hw : WS A) (hT : ∀ p, A.T p = true → p < A.m) (hP : ∀ p, A.P p = true → A.T p = true) (hm : A.m < 24) (v : Int32) : wp (f8_makeIn k v M) (fun r => r.1 = nI A.m ∧ DS r.2 k (A.make v) ∧ Fr (pRw k) M r.2) := by
  obtain ⟨h1, h2, h3, h4, h5, h6, h7, h8, h9⟩ := id h
  have hl := row3_len hk
  rw [f8_makeIn]
  simp only [hl]
  have e0 : M.1 k 0 0 = nI A.m := h3
  have hTm : A.T A.m = false := by
    cases e : A.T A.m with
    | false => rfl
    | true => exact absurd (hT _ e) (Nat.lt_irrefl _)
  have hPm : A.P A.m = false := by
    cases e : A.P A.m with
    | false => rfl
    | true => rw [hP _ e] at hTm; cases hTm
  have hwm : A.w A.m = false := by
    cases e : A.w A.m with
    | false => rfl
    | true => exact absurd (hw.2.2.2 _ e).1 (Nat.lt_irrefl _)
  have e0' : M.1 k 0 ((0 : Int32)).toNatClampNeg = nI A.m := e0
  refine wp_ifp ⟨by decide, by decide⟩ ?_
  with_reducible refine wp_bd ?_
  rw [e0']
  refine wp_call (w8_pa0 _ _) ?_
  refine wp_ifp (sx_in_n (by omega) (by omega)) ?_
  with_reducible refine wp_bd ?_
  refine wp_call (w8_pa1 _ _) ?_
  refine wp_ifp (sx_in_n (by omega) (by omega)) ?_
  with_reducible refine wp_bd ?_
  refine wp_call (w8_pa2 _ _) ?_
  refine wp_ifp (sx_in_n (by omega) (by omega)) ?_
  with_reducible refine wp_bd ?_
  refine wp_call (w8_pa3 _ _) ?_
  refine wp_ifp (sx_in_n (by omega) (by omega)) ?_
  with_reducible refine wp_bd ?_
  refine wp_ifp ⟨by decide, by decide⟩ ?_
  with_reducible refine wp_bd ?_
  refine wp_ifp ⟨by decide, by decide⟩ ?_
  with_reducible refine wp_bd ?_
  rw [nI_cl (by omega), nI_cl (by omega), nI_cl (by omega), nI_cl (by omega)]
  have e10 : (sx_set (sx_set (sx_set (sx_set M k 0 (7 + 4 * A.m + 0) v) k 0 (7 + 4 * A.m + 1) (1 : Int32)) k 0 (7 + 4 * A.m + 2) (0 : Int32)) k 0 (7 + 4 * A.m + 3) (2 : Int32)).1 k 0 ((0 : Int32)).toNatClampNeg = nI A.m := by
    show (sx_set (sx_set (sx_set (sx_set M k 0 (7 + 4 * A.m + 0) v) k 0 (7 + 4 * A.m + 1) (1 : Int32)) k 0 (7 + 4 * A.m + 2) (0 : Int32)) k 0 (7 + 4 * A.m + 3) (2 : Int32)).1 k 0 0 = nI A.m
    rw [rd_n _ _ _ _ _ _ _ _ (by omega), rd_n _ _ _ _ _ _ _ _ (by omega), rd_n _ _ _ _ _ _ _ _ (by omega), rd_n _ _ _ _ _ _ _ _ (by omega)]; exact h3
  rw [e10, iI_succ]
  refine wp_some ?_
  show nI A.m = nI A.m ∧ DS (sx_set (sx_set (sx_set (sx_set (sx_set M k 0 (7 + 4 * A.m + 0) v) k 0 (7 + 4 * A.m + 1) (1 : Int32)) k 0 (7 + 4 * A.m + 2) (0 : Int32)) k 0 (7 + 4 * A.m + 3) (2 : Int32)) k 0 0 (nI (A.m + 1))) k (A.make v) ∧ Fr (pRw k) M (sx_set (sx_set (sx_set (sx_set (sx_set M k 0 (7 + 4 * A.m + 0) v) k 0 (7 + 4 * A.m + 1) (1 : Int32)) k 0 (7 + 4 * A.m + 2) (0 : Int32)) k 0 (7 + 4 * A.m + 3) (2 : Int32)) k 0 0 (nI (A.m + 1)))
  have rd : ∀ i, i ≠ 0 → i ≠ 7 + 4 * A.m + 0 → i ≠ 7 + 4 * A.m + 1 → i ≠ 7 + 4 * A.m + 2 → i ≠ 7 + 4 * A.m + 3 → (sx_set (sx_set (sx_set (sx_set (sx_set M k 0 (7 + 4 * A.m + 0) v) k 0 (7 + 4 * A.m + 1) (1 : Int32)) k 0 (7 + 4 * A.m + 2) (0 : Int32)) k 0 (7 + 4 * A.m + 3) (2 : Int32)) k 0 0 (nI (A.m + 1))).1 k 0 i = M.1 k 0 i := fun i q0 q1 q2 q3 q4 => by
    rw [rd_n _ _ _ _ _ _ _ _ q0, rd_n _ _ _ _ _ _ _ _ q4, rd_n _ _ _ _ _ _ _ _ q3, rd_n _ _ _ _ _ _ _ _ q2, rd_n _ _ _ _ _ _ _ _ q1]
  have r0 : (sx_set (sx_set (sx_set (sx_set (sx_set M k 0 (7 + 4 * A.m + 0) v) k 0 (7 + 4 * A.m + 1) (1 : Int32)) k 0 (7 + 4 * A.m + 2) (0 : Int32)) k 0 (7 + 4 * A.m + 3) (2 : Int32)) k 0 0 (nI (A.m + 1))).1 k 0 (7 + 4 * A.m + 0) = v := by
    rw [rd_n _ _ _ _ _ _ _ _ (by omega), rd_n _ _ _ _ _ _ _ _ (by omega), rd_n _ _ _ _ _ _ _ _ (by omega), rd_n _ _ _ _ _ _ _ _ (by omega), rd_e]
  have r1 : (sx_set (sx_set (sx_set (sx_set (sx_set M k 0 (7 + 4 * A.m + 0) v) k 0 (7 + 4 * A.m + 1) (1 : Int32)) k 0 (7 + 4 * A.m + 2) (0 : Int32)) k 0 (7 + 4 * A.m + 3) (2 : Int32)) k 0 0 (nI (A.m + 1))).1 k 0 (7 + 4 * A.m + 1) = 1 := by
    rw [rd_n _ _ _ _ _ _ _ _ (by omega), rd_n _ _ _ _ _ _ _ _ (by omega), rd_n _ _ _ _ _ _ _ _ (by omega), rd_e]
  have r2 : (sx_set (sx_set (sx_set (sx_set (sx_set M k 0 (7 + 4 * A.m + 0) v) k 0 (7 + 4 * A.m + 1) (1 : Int32)) k 0 (7 + 4 * A.m + 2) (0 : Int32)) k 0 (7 + 4 * A.m + 3) (2 : Int32)) k 0 0 (nI (A.m + 1))).1 k 0 (7 + 4 * A.m + 2) = 0 := by
    rw [rd_n _ _ _ _ _ _ _ _ (by omega), rd_n _ _ _ _ _ _ _ _ (by omega), rd_e]
  have r3 : (sx_set (sx_set (sx_set (sx_set (sx_set M k 0 (7 + 4 * A.m + 0) v) k 0 (7 + 4 * A.m + 1) (1 : Int32)) k 0 (7 + 4 * A.m + 2) (0 : Int32)) k 0 (7 + 4 * A.m + 3) (2 : Int32)) k 0 0 (nI (A.m + 1))).1 k 0 (7 + 4 * A.m + 3) = 2 := by
    rw [rd_n _ _ _ _ _ _ _ _ (by omega), rd_e]
  have rz : (sx_set (sx_set (sx_set (sx_set (sx_set M k 0 (7 + 4 * A.m + 0) v) k 0 (7 + 4 * A.m + 1) (1 : Int32)) k 0 (7 + 4 * A.m + 2) (0 : Int32)) k 0 (7 + 4 * A.m + 3) (2 : Int32)) k 0 0 (nI (A.m + 1))).1 k 0 0 = nI (A.m + 1) := rd_e _ _ _ _ _
  have fr : Fr (pRw k) M (sx_set (sx_set (sx_set (sx_set (sx_set M k 0 (7 + 4 * A.m + 0) v) k 0 (7 + 4 * A.m + 1) (1 : Int32)) k 0 (7 + 4 * A.m + 2) (0 : Int32)) k 0 (7 + 4 * A.m + 3) (2 : Int32)) k 0 0 (nI (A.m + 1))) := ((((Fr.rf.set (pRw_i k)).set (pRw_i k)).set (pRw_i k)).set (pRw_i k)).set (pRw_i k)
  generalize sx_set (sx_set (sx_set (sx_set (sx_set M k 0 (7 + 4 * A.m + 0) v) k 0 (7 + 4 * A.m + 1) (1 : Int32)) k 0 (7 + 4 * A.m + 2) (0 : Int32)) k 0 (7 + 4 * A.m + 3) (2 : Int32)) k 0 0 (nI (A.m + 1)) = M9 at rd r0 r1 r2 r3 rz fr ⊢
  have h40 := h1.1
  refine ⟨rfl, ⟨⟨h1.1, (rd 2 (by omega) (by omega) (by omega) (by omega) (by omega)).trans h1.2.1, fun i hi => ?_⟩, (by show A.m + 1 ≤ 24; omega), rz, ?_, (rd 3 (by omega) (by omega) (by omega) (by omega) (by omega)).trans h5, (rd 4 (by omega) (by omega) (by omega) (by omega) (by omega)).trans h6, (rd 5 (by omega) (by omega) (by omega) (by omega) (by omega)).trans h7, fun x hx => ?_, fun hG => ⟨(rd 6 (by omega) (by omega) (by omega) (by omega) (by omega)).trans (h9 hG).1, fun e he => (rd _ (by omega) (by omega) (by omega) (by omega) (by omega)).trans ((h9 hG).2.1 e he), fun x hx hTx => ?_⟩⟩, fr⟩
  · have hi' : i < A.g.n := hi
    obtain ⟨g1, g2, g3, g4, g5⟩ := h1.2.2 i hi
    exact ⟨g1, g2, (rd _ (by omega) (by omega) (by omega) (by omega) (by omega)).trans g3, (rd _ (by omega) (by omega) (by omega) (by omega) (by omega)).trans g4, (rd _ (by omega) (by omega) (by omega) (by omega) (by omega)).trans g5⟩
  · rw [rd 1 (by omega) (by omega) (by omega) (by omega) (by omega)]
    have e : fb_ct (A.make v).T 24 = fb_ct A.T 24 + 1 := by
      have e1 : fb_ct (fun x => if x = A.m then true else A.T x) 24 + (if A.T A.m = true then 1 else 0) = fb_ct A.T 24 + (if true = true then 1 else 0) := fb_ct_upd A.T true hm
      rw [hTm, if_neg (by decide), if_pos rfl] at e1
      have e2 : fb_ct (A.make v).T 24 = fb_ct (fun x => if x = A.m then true else A.T x) 24 := fb_ct_cong (fun x _ => by
        show (A.T x || decide (x = A.m)) = _
        by_cases q : x = A.m <;> simp [q])
      rw [e2]; omega
    show M.1 k 0 1 = nI (A.m + 1) - nI (fb_ct (A.make v).T 24)
    rw [e, nI_ss]
    exact h4
  · have hx' : x < A.m + 1 := hx
    show _ = (if x = A.m then v else A.W x) ∧ _ = bI01 (A.T x || decide (x = A.m)) ∧ _ = bI01 (A.P x)
    by_cases q : x = A.m
    · subst q
      rw [if_pos rfl, decide_eq_true rfl, Bool.or_true, hPm]
      exact ⟨r0, r1, r2⟩
    · obtain ⟨g3, g4, g5⟩ := h8 x (by omega)
      rw [if_neg q, decide_eq_false q, Bool.or_false]
      exact ⟨(rd _ (by omega) (by omega) (by omega) (by omega) (by omega)).trans g3, (rd _ (by omega) (by omega) (by omega) (by omega) (by omega)).trans g4, (rd _ (by omega) (by omega) (by omega) (by omega) (by omega)).trans g5⟩
  · have hx' : x < A.m + 1 := hx
    have hG' : A.G = true := hG
    have eb : (A.make v).b x = (A.b x || decide (x = A.m)) := by
      show (if A.G then fun k => A.b k || decide (k = A.m) else A.b) x = _
      rw [hG']; rfl
    show _ = if A.w x then 0 else if (A.make v).b x then 2 else 1
    rw [eb]
    by_cases q : x = A.m
    · subst q
      rw [hwm, decide_eq_true rfl, Bool.or_true]
      exact r3
    · have hTx' : (A.T x || decide (x = A.m)) = true := hTx
      rw [decide_eq_false q, Bool.or_false] at hTx' ⊢
      exact (rd _ (by omega) (by omega) (by omega) (by omega) (by omega)).trans ((h9 hG).2.2 x (by omega) hTx')
theorem w8_removeString {M : sx_M} {k : Nat} {A : SH} (hk : row3 k) (h : DS M k A) {i : Nat} (hi : i < A.g.n) : wp (f8_removeString k (nI i) M) (fun M' => DS M' k (A.cut i) ∧ Fr (pRw k) M M') := by
  have h1 := h.1
  have h40 := h1.1
  have hl := row3_len hk
  rw [f8_removeString]
  simp only [hl]
  rw [iI_succ]
  refine wp_call (w8_co0 _ _) ?_
  refine wp_call (w8_co0 _ _) ?_
  refine wp_ifp ⟨by decide, by decide⟩ ?_
  have e2 : M.1 k 0 ((2 : Int32)).toNatClampNeg = nI A.g.n := h1.2.1
  with_reducible refine wp_bd ?_
  rw [e2, iI_pred (by omega), nI_sub (by omega), show (3 : Int32) = nI 3 from rfl, nI_mul]
  obtain ⟨M4, e4, c1, c2, c3⟩ := w8_copy (M := M) (ka := k) (kb := k) (a := 103 + 3 * (i + 1) + 0) (b := 103 + 3 * i + 0) (n := 3 * (A.g.n - 1 - i)) (by omega) (by omega) (by omega) (Or.inr (Or.inl (by omega)))
  refine wp_call e4 ?_
  have e24 : M4.1 k 0 ((2 : Int32)).toNatClampNeg = nI A.g.n := (c2 2 (by omega)).trans h1.2.1
  refine wp_ifp ⟨by decide, by decide⟩ ?_
  with_reducible refine wp_bd ?_
  refine wp_ifp ⟨by decide, by decide⟩ ?_
  with_reducible refine wp_bd ?_
  rw [e24, iI_pred (by omega)]
  refine wp_some ⟨h.strs ⟨by show A.g.n - 1 ≤ 40; omega, rd_e _ _ _ _ _, fun x hx => ?_⟩ (fun c hc hc2 => ?_), c3.set (pRw_i k)⟩
  · have hx' : x < A.g.n - 1 := hx
    have cell : ∀ c, c < 3 → (sx_set M4 k 0 2 (nI (A.g.n - 1))).1 k 0 (103 + 3 * x + c) = M.1 k 0 (103 + 3 * (if x < i then x else x + 1) + c) := fun c hc => by
      rw [rd_n _ _ _ _ _ _ _ _ (by omega)]
      by_cases q : x < i
      · rw [if_pos q]; exact c2 _ (by omega)
      · rw [if_neg q]
        have := c1 (3 * (x - i) + c) (by omega)
        rw [show 103 + 3 * i + 0 + (3 * (x - i) + c) = 103 + 3 * x + c by omega, show 103 + 3 * (i + 1) + 0 + (3 * (x - i) + c) = 103 + 3 * (x + 1) + c by omega] at this
        exact this
    obtain ⟨g1, g2, g3, g4, g5⟩ := h1.2.2 (if x < i then x else x + 1) (by split <;> omega)
    exact ⟨g1, g2, (cell 0 (by omega)).trans g3, (cell 1 (by omega)).trans g4, (cell 2 (by omega)).trans g5⟩
  · show (sx_set M4 k 0 2 _).1 k 0 c = _
    rw [rd_n _ _ _ _ _ _ _ _ hc2]
    exact c2 c (by omega)
theorem w8_colors {M : sx_M} {k : Nat} {A : SH} (hk : row3 k) (h : DS M k A) (hw : WS A) {t : Nat} (ht : t < 28) (hm : t < 4 ∨ (t - 4 < A.m ∧ A.T (t - 4) = true)) : wp (f8_colors k (tI t) M) (fun r => A.G = true → r = bI01 (A.passes t)) := by
  have h24 := h.2.1
  have hl := row3_len hk
  rw [f8_colors]
  simp only [hl]
  with_reducible refine wp_bd ?_
  with_reducible refine wp_bd ?_
  with_reducible refine wp_if (fun c => ?_) (fun c => ?_) <;> rw [tI_neg (by omega)] at c
  · repeat' (first | with_reducible refine wp_some ?_ | with_reducible refine wp_bd ?_ | (with_reducible refine wp_ifp ?_ ?_; · (first | exact ⟨by decide, by decide⟩ | exact sx_in_n (by omega) (by omega) | assumption | exact ⟨sx_in_n (by omega) (by omega), bI01_01 _⟩ | exact Or.inl rfl | exact Or.inr rfl | (simp (disch := omega) only [nI_lit, iI_le, iI_lt, iI_eq, nI_cl, nI_add, tI_4N, bt_shrN, bI01_0N, bI01_1N, Nat.not_le, Nat.not_lt, not_true_eq_false, not_false_eq_true, true_or, or_true, false_or, or_false, Bool.not_eq_false, Bool.not_eq_true] <;> omega))) | (with_reducible refine wp_ifn ?_ ?_; · (first | exact ⟨by decide, by decide⟩ | exact sx_in_n (by omega) (by omega) | assumption | exact ⟨sx_in_n (by omega) (by omega), bI01_01 _⟩ | exact Or.inl rfl | exact Or.inr rfl | (simp (disch := omega) only [nI_lit, iI_le, iI_lt, iI_eq, nI_cl, nI_add, tI_4N, bt_shrN, bI01_0N, bI01_1N, Nat.not_le, Nat.not_lt, not_true_eq_false, not_false_eq_true, true_or, or_true, false_or, or_false, Bool.not_eq_false, Bool.not_eq_true] <;> omega))) | fail)
    intro _
    unfold SH.passes
    rw [decide_eq_true c]; rfl
  · rw [tI_ge (by omega)]
    have hm' := hm.resolve_left c
    refine wp_call (w8_pa3 _ _) ?_
    refine wp_ifp (sx_in_n (by omega) (by omega)) ?_
    with_reducible refine wp_bd ?_
    rw [nI_cl (by omega)]
    with_reducible refine wp_if (fun c2 => ?_) (fun c2 => ?_)
    · repeat' (first | with_reducible refine wp_some ?_ | with_reducible refine wp_bd ?_ | (with_reducible refine wp_ifp ?_ ?_; · (first | exact ⟨by decide, by decide⟩ | exact sx_in_n (by omega) (by omega) | assumption | exact ⟨sx_in_n (by omega) (by omega), bI01_01 _⟩ | exact Or.inl rfl | exact Or.inr rfl | (simp (disch := omega) only [nI_lit, iI_le, iI_lt, iI_eq, nI_cl, nI_add, tI_4N, bt_shrN, bI01_0N, bI01_1N, Nat.not_le, Nat.not_lt, not_true_eq_false, not_false_eq_true, true_or, or_true, false_or, or_false, Bool.not_eq_false, Bool.not_eq_true] <;> omega))) | (with_reducible refine wp_ifn ?_ ?_; · (first | exact ⟨by decide, by decide⟩ | exact sx_in_n (by omega) (by omega) | assumption | exact ⟨sx_in_n (by omega) (by omega), bI01_01 _⟩ | exact Or.inl rfl | exact Or.inr rfl | (simp (disch := omega) only [nI_lit, iI_le, iI_lt, iI_eq, nI_cl, nI_add, tI_4N, bt_shrN, bI01_0N, bI01_1N, Nat.not_le, Nat.not_lt, not_true_eq_false, not_false_eq_true, true_or, or_true, false_or, or_false, Bool.not_eq_false, Bool.not_eq_true] <;> omega))) | fail)
      intro hG
      rw [(h.2.2.2.2.2.2.2.2 hG).2.2 (t - 4) hm'.1 hm'.2] at c2
      unfold SH.passes
      rw [decide_eq_false c, Bool.false_or]
      revert c2
      cases A.w (t - 4) <;> cases A.b (t - 4) <;> decide
    · repeat' (first | with_reducible refine wp_some ?_ | with_reducible refine wp_bd ?_ | (with_reducible refine wp_ifp ?_ ?_; · (first | exact ⟨by decide, by decide⟩ | exact sx_in_n (by omega) (by omega) | assumption | exact ⟨sx_in_n (by omega) (by omega), bI01_01 _⟩ | exact Or.inl rfl | exact Or.inr rfl | (simp (disch := omega) only [nI_lit, iI_le, iI_lt, iI_eq, nI_cl, nI_add, tI_4N, bt_shrN, bI01_0N, bI01_1N, Nat.not_le, Nat.not_lt, not_true_eq_false, not_false_eq_true, true_or, or_true, false_or, or_false, Bool.not_eq_false, Bool.not_eq_true] <;> omega))) | (with_reducible refine wp_ifn ?_ ?_; · (first | exact ⟨by decide, by decide⟩ | exact sx_in_n (by omega) (by omega) | assumption | exact ⟨sx_in_n (by omega) (by omega), bI01_01 _⟩ | exact Or.inl rfl | exact Or.inr rfl | (simp (disch := omega) only [nI_lit, iI_le, iI_lt, iI_eq, nI_cl, nI_add, tI_4N, bt_shrN, bI01_0N, bI01_1N, Nat.not_le, Nat.not_lt, not_true_eq_false, not_false_eq_true, true_or, or_true, false_or, or_false, Bool.not_eq_false, Bool.not_eq_true] <;> omega))) | fail)
      intro hG
      rw [(h.2.2.2.2.2.2.2.2 hG).2.2 (t - 4) hm'.1 hm'.2] at c2
      have := hw.2.2.2 (t - 4)
      unfold SH.passes
      rw [decide_eq_false c, Bool.false_or]
      revert c2 this
      cases A.w (t - 4) <;> cases A.b (t - 4) <;> simp [bI01]
/-- colored by a thing above, or not -/
theorem w8_pass {M : sx_M} {k : Nat} {A : SH} (hk : row3 k) (h : DS M k A) (hw : WS A) {t p : Nat} (hp : p < A.m) (hTp : A.T p = true) {r : Int32} (hr : A.G = true → r = bI01 (A.passes t)) : (r = 0 → DS M k (A.shadeIf (A.passes t) p)) ∧ (r ≠ 0 → wp (f8_redden k (nI p) M) (fun M' => DS M' k (A.shadeIf (A.passes t) p) ∧ Fr (pRw k) M M')) := by
  have sG : ∀ c, (A.shadeIf c p).G = A.G := fun c => by cases c <;> rfl
  have s1 : ∀ c, (A.shadeIf c p).1 = A.1 := fun c => by cases c <;> rfl
  have s2 : ∀ c, (A.shadeIf c p).2.1 = A.2.1 := fun c => by cases c <;> rfl
  have s4 : ∀ c, (A.shadeIf c p).2.2.2 = A.2.2.2 := fun c => by cases c <;> rfl
  cases hG : A.G with
  | false =>
    refine ⟨fun _ => h.nG hG (s1 _) (s2 _) ((sG _).trans hG) (s4 _), fun _ => wp_mono (w8_redden hk h hw hp hTp) (fun M' q => ⟨q.1.nG (A := A.shade p) hG (s1 _) (s2 _) ((sG _).trans hG) (s4 _), q.2⟩)⟩
  | true =>
    have e := hr hG
    subst e
    refine ⟨fun q => ?_, fun q => ?_⟩
    · rw [bI01_0] at q
      rw [q]; exact h
    · have q' : A.passes t = true := by
        cases e : A.passes t with
        | true => rfl
        | false => exact absurd (by rw [e]; rfl) q
      rw [q']
      exact w8_redden hk h hw hp hTp
theorem WS.setG {A : SH} (h : WS A) (g : GT) : WS (A.setG g) := h
theorem WS.setP {A : SH} (h : WS A) (P : Nat → Bool) : WS (A.setP P) := h
theorem w8_tieIn {M : sx_M} {k : Nat} {A : SH} (hk : row3 k) (h : DS M k A) (hw : WS A) (hn : A.g.n < 40) {t p : Nat} (ht : t < 28) (hm : t < 4 ∨ (t - 4 < A.m ∧ A.T (t - 4) = true)) (hp : p < A.m) (hTp : A.T p = true) (z : Bool) : wp (f8_tieIn k (tI t) (nI p) (bI01 z) M) (fun M' => DS M' k (A.tie t p z) ∧ Fr (pRw k) M M') := by
  have h1 := h.1
  have h24 := h.2.1
  have hl := row3_len hk
  rw [f8_tieIn]
  simp only [hl]
  have e2 : M.1 k 0 ((2 : Int32)).toNatClampNeg = nI A.g.n := h1.2.1
  refine wp_ifp ⟨by decide, by decide⟩ ?_
  with_reducible refine wp_bd ?_
  rw [e2]
  refine wp_call (w8_co0 _ _) ?_
  refine wp_ifp (sx_in_n (by omega) (by omega)) ?_
  with_reducible refine wp_bd ?_
  refine wp_call (w8_co1 _ _) ?_
  refine wp_ifp (sx_in_n (by omega) (by omega)) ?_
  with_reducible refine wp_bd ?_
  refine wp_call (w8_co2 _ _) ?_
  refine wp_ifp (sx_in_n (by omega) (by omega)) ?_
  with_reducible refine wp_bd ?_
  refine wp_ifp ⟨by decide, by decide⟩ ?_
  with_reducible refine wp_bd ?_
  refine wp_ifp ⟨by decide, by decide⟩ ?_
  with_reducible refine wp_bd ?_
  with_reducible refine wp_bd ?_
  rw [nI_cl (by omega), nI_cl (by omega), nI_cl (by omega)]
  have e10 : (sx_set (sx_set (sx_set M k 0 (103 + 3 * A.g.n + 0) (tI t)) k 0 (103 + 3 * A.g.n + 1) (nI p)) k 0 (103 + 3 * A.g.n + 2) (bI01 z)).1 k 0 ((2 : Int32)).toNatClampNeg = nI A.g.n := by
    show (sx_set (sx_set (sx_set M k 0 (103 + 3 * A.g.n + 0) (tI t)) k 0 (103 + 3 * A.g.n + 1) (nI p)) k 0 (103 + 3 * A.g.n + 2) (bI01 z)).1 k 0 2 = nI A.g.n
    rw [rd_n _ _ _ _ _ _ _ _ (by omega), rd_n _ _ _ _ _ _ _ _ (by omega), rd_n _ _ _ _ _ _ _ _ (by omega)]; exact e2
  rw [e10, iI_succ]
  have hM9 : DS (sx_set (sx_set (sx_set (sx_set M k 0 (103 + 3 * A.g.n + 0) (tI t)) k 0 (103 + 3 * A.g.n + 1) (nI p)) k 0 (103 + 3 * A.g.n + 2) (bI01 z)) k 0 2 (nI (A.g.n + 1))) k (A.setG (A.g.put t p z)) := by
    refine h.strs ⟨hn, rd_e _ _ _ _ _, fun i hi => ?_⟩ (fun c hc hc2 => ?_)
    · have hi' : i < A.g.n + 1 := hi
      rw [put_A, put_B, put_Z]
      by_cases q : i = A.g.n
      · subst q
        rw [if_pos rfl, if_pos rfl, if_pos rfl]
        refine ⟨ht, by omega, ?_, ?_, ?_⟩
        · simp (disch := omega) only [nI_cl, nI_lit, nI_add, rd_n, rd_e]
        · simp (disch := omega) only [nI_cl, nI_lit, nI_add, rd_n, rd_e]
        · simp (disch := omega) only [nI_cl, nI_lit, nI_add, rd_n, rd_e]
      · obtain ⟨g1, g2, g3, g4, g5⟩ := h1.2.2 i (by omega)
        rw [if_neg q, if_neg q, if_neg q]
        refine ⟨g1, g2, ?_, ?_, ?_⟩
        · simp (disch := omega) only [nI_cl, nI_lit, nI_add, rd_n, rd_e]
          exact g3
        · simp (disch := omega) only [nI_cl, nI_lit, nI_add, rd_n, rd_e]
          exact g4
        · simp (disch := omega) only [nI_cl, nI_lit, nI_add, rd_n, rd_e]
          exact g5
    · simp (disch := omega) only [nI_cl, nI_lit, nI_add, rd_n, rd_e]
  have f9 : Fr (pRw k) M (sx_set (sx_set (sx_set (sx_set M k 0 (103 + 3 * A.g.n + 0) (tI t)) k 0 (103 + 3 * A.g.n + 1) (nI p)) k 0 (103 + 3 * A.g.n + 2) (bI01 z)) k 0 2 (nI (A.g.n + 1))) := (((Fr.rf.set (pRw_i k)).set (pRw_i k)).set (pRw_i k)).set (pRw_i k)
  have fin : ∀ M9 : sx_M, DS M9 k (A.setG (A.g.put t p z)) → Fr (pRw k) M M9 → wp (if bI01 z = (1 : Int32) then
    (f8_colors k (tI t) M9).bind fun v12 =>
    if v12 = 0 then
      some M9
    else
      (f8_redden k (nI p) M9).bind fun M14 =>
      some M14
  else
    some M9) (fun M' => DS M' k (A.tie t p z) ∧ Fr (pRw k) M M') := fun M9 hN9 g9 => by
    cases z with
    | false =>
      refine wp_ifn (by decide) ?_
      exact wp_some ⟨hN9, g9⟩
    | true =>
      refine wp_ifp rfl ?_
      obtain ⟨r, e, hr⟩ := w8_colors hk hN9 (hw.setG _) ht hm
      refine wp_call e ?_
      obtain ⟨q1, q2⟩ := w8_pass hk hN9 (hw.setG _) (t := t) (p := p) hp hTp hr
      with_reducible refine wp_if (fun c => ?_) (fun c => ?_)
      · exact wp_some ⟨q1 c, g9⟩
      · obtain ⟨M14, e14, d14, f14⟩ := q2 c
        refine wp_call e14 ?_
        exact wp_some ⟨d14, g9.trans f14⟩
  exact fin _ hM9 f9
theorem DS.snd {M : sx_M} {k : Nat} {A : SH} (h : DS M k A) {i : Nat} (hi : i < A.g.n) (z : Bool) : DS (sx_set M k 0 (103 + 3 * i + 2) (bI01 z)) k (A.setG (A.g.snd i z)) := by
  have h1 := h.1
  have h40 := h1.1
  refine h.strs ⟨h40, ?_, fun x hx => ?_⟩ (fun c hc hc2 => ?_)
  · simp (disch := omega) only [nI_cl, nI_lit, nI_add, rd_n, rd_e]
    exact h1.2.1
  · have hx' : x < A.g.n := hx
    obtain ⟨g1, g2, g3, g4, g5⟩ := h1.2.2 x hx
    refine ⟨g1, g2, ?_, ?_, ?_⟩
    · simp (disch := omega) only [nI_cl, nI_lit, nI_add, rd_n, rd_e]
      exact g3
    · simp (disch := omega) only [nI_cl, nI_lit, nI_add, rd_n, rd_e]
      exact g4
    · show _ = bI01 (if x = i then z else A.g.Z x)
      by_cases q : x = i
      · subst q
        rw [if_pos rfl]
        simp (disch := omega) only [nI_cl, nI_lit, nI_add, rd_n, rd_e]
      · rw [if_neg q]
        simp (disch := omega) only [nI_cl, nI_lit, nI_add, rd_n, rd_e]
        exact g5
  · simp (disch := omega) only [nI_cl, nI_lit, nI_add, rd_n, rd_e]
theorem w8_mendIn {M : sx_M} {k : Nat} {A : SH} (hk : row3 k) (h : DS M k A) (hw : WS A) {i : Nat} (hi : i < A.g.n) (hm : A.g.A i < 4 ∨ (A.g.A i - 4 < A.m ∧ A.T (A.g.A i - 4) = true)) (hp : A.g.B i < A.m) (hTp : A.T (A.g.B i) = true) : wp (f8_mendIn k (nI i) M) (fun M' => DS M' k (A.snd i true) ∧ Fr (pRw k) M M') := by
  have h1 := h.1
  have h40 := h1.1
  have hl := row3_len hk
  obtain ⟨g1, g2, g3, g4, g5⟩ := h1.2.2 i hi
  have hd := h.snd hi true
  have f9 : Fr (pRw k) M (sx_set M k 0 (103 + 3 * i + 2) (bI01 true)) := Fr.rf.set (pRw_i k)
  have r0 : (sx_set M k 0 (103 + 3 * i + 2) (bI01 true)).1 k 0 (103 + 3 * i + 0) = tI (A.g.A i) := by
    rw [rd_n _ _ _ _ _ _ _ _ (by omega)]; exact g3
  have r1 : (sx_set M k 0 (103 + 3 * i + 2) (bI01 true)).1 k 0 (103 + 3 * i + 1) = nI (A.g.B i) := by
    rw [rd_n _ _ _ _ _ _ _ _ (by omega)]; exact g4
  rw [f8_mendIn]
  simp only [hl]
  refine wp_call (w8_co2 _ _) ?_
  refine wp_ifp (sx_in_n (by omega) (by omega)) ?_
  with_reducible refine wp_bd ?_
  rw [nI_cl (by omega), show (1 : Int32) = bI01 true from rfl]
  generalize sx_set M k 0 (103 + 3 * i + 2) (bI01 true) = M2 at hd f9 r0 r1 ⊢
  refine wp_call (w8_co0 _ _) ?_
  refine wp_ifp (sx_in_n (by omega) (by omega)) ?_
  with_reducible refine wp_bd ?_
  rw [nI_cl (by omega), r0]
  obtain ⟨r, e, hr⟩ := w8_colors hk hd (hw.setG _) g1 hm
  refine wp_call e ?_
  obtain ⟨q1, q2⟩ := w8_pass hk hd (hw.setG _) (t := A.g.A i) (p := A.g.B i) hp hTp hr
  with_reducible refine wp_bd ?_
  with_reducible refine wp_if (fun c => ?_) (fun c => ?_)
  · exact wp_some ⟨q1 c, f9⟩
  · refine wp_call (w8_co1 _ _) ?_
    refine wp_ifp (sx_in_n (by omega) (by omega)) ?_
    with_reducible refine wp_bd ?_
    rw [nI_cl (by omega), r1]
    obtain ⟨M14, e14, d14, f14⟩ := q2 c
    refine wp_call e14 ?_
    exact wp_some ⟨d14, f9.trans f14⟩
theorem w8_pinIn {M : sx_M} {k : Nat} {A : SH} (hk : row3 k) (h : DS M k A) (hw : WS A) {p : Nat} (hp : p < A.m) (hTp : A.T p = true) {v : Int32} {is : Bool} (hv : v = 0 ↔ is = false) : wp (f8_pinIn k (nI p) v M) (fun M' => DS M' k (A.pin p is) ∧ Fr (pRw k) M M') := by
  have hl := row3_len hk
  obtain ⟨h1, h2, h3, h4, h5, h6, h7, h8, h9⟩ := id h
  have key : ∀ P : Nat → Bool, (∀ x, x < A.m → x ≠ p → P x = A.P x) → DS (sx_set M k 0 (7 + 4 * p + 2) (bI01 (P p))) k (A.setP P) := fun P hP => by
    refine ⟨⟨h1.1, ?_, fun i hi => ?_⟩, h2, ?_, ?_, ?_, ?_, ?_, fun x hx => ?_, fun hG => ⟨?_, fun e he => ?_, fun x hx hTx => ?_⟩⟩
    · simp (disch := omega) only [nI_cl, nI_lit, nI_add, rd_n, rd_e]
      exact h1.2.1
    · have h40 := h1.1
      have hi' : i < A.g.n := hi
      obtain ⟨g1, g2, g3, g4, g5⟩ := h1.2.2 i hi
      refine ⟨g1, g2, ?_, ?_, ?_⟩
      · simp (disch := omega) only [nI_cl, nI_lit, nI_add, rd_n, rd_e]
        exact g3
      · simp (disch := omega) only [nI_cl, nI_lit, nI_add, rd_n, rd_e]
        exact g4
      · simp (disch := omega) only [nI_cl, nI_lit, nI_add, rd_n, rd_e]
        exact g5
    · simp (disch := omega) only [nI_cl, nI_lit, nI_add, rd_n, rd_e]
      exact h3
    · simp (disch := omega) only [nI_cl, nI_lit, nI_add, rd_n, rd_e]
      exact h4
    · simp (disch := omega) only [nI_cl, nI_lit, nI_add, rd_n, rd_e]
      exact h5
    · simp (disch := omega) only [nI_cl, nI_lit, nI_add, rd_n, rd_e]
      exact h6
    · simp (disch := omega) only [nI_cl, nI_lit, nI_add, rd_n, rd_e]
      exact h7
    · have hx' : x < A.m := hx
      obtain ⟨g3, g4, g5⟩ := h8 x hx
      refine ⟨?_, ?_, ?_⟩
      · simp (disch := omega) only [nI_cl, nI_lit, nI_add, rd_n, rd_e]
        exact g3
      · simp (disch := omega) only [nI_cl, nI_lit, nI_add, rd_n, rd_e]
        exact g4
      · show _ = bI01 (P x)
        by_cases q : x = p
        · subst q
          simp (disch := omega) only [nI_cl, nI_lit, nI_add, rd_n, rd_e]
        · rw [hP x hx' q]
          simp (disch := omega) only [nI_cl, nI_lit, nI_add, rd_n, rd_e]
          exact g5
    · simp (disch := omega) only [nI_cl, nI_lit, nI_add, rd_n, rd_e]
      exact (h9 hG).1
    · have he' : e < A.q.length := he
      have hq24 : A.q.length ≤ 24 := nd_len hw.2.1 (fun x hx => by have := (hw.2.2.1 x hx).1; omega)
      simp (disch := omega) only [nI_cl, nI_lit, nI_add, rd_n, rd_e]
      exact (h9 hG).2.1 e he
    · have hx' : x < A.m := hx
      simp (disch := omega) only [nI_cl, nI_lit, nI_add, rd_n, rd_e]
      exact (h9 hG).2.2 x hx hTx
  rw [f8_pinIn]
  simp only [hl]
  refine wp_call (w8_pa2 _ _) ?_
  with_reducible refine wp_bd ?_
  unfold SH.pin
  cases is with
  | false =>
    have d := key (fun k => A.P k && !decide (k = p)) (fun x _ q => by rw [decide_eq_false q]; simp)
    have ep : (A.P p && !decide (p = p)) = false := by simp
    rw [ep] at d
    refine wp_ifp (hv.mpr rfl) ?_
    refine wp_ifp (sx_in_n (by omega) (by omega)) ?_
    with_reducible refine wp_bd ?_
    with_reducible refine wp_bd ?_
    rw [nI_cl (by omega)]
    refine wp_ifp (hv.mpr rfl) ?_
    exact wp_some ⟨d, Fr.rf.set (pRw_i k)⟩
  | true =>
    have hv1 : ¬ v = 0 := fun q => by have := hv.mp q; cases this
    have d := key (fun k => A.P k || decide (k = p)) (fun x _ q => by rw [decide_eq_false q]; simp)
    have ep : (A.P p || decide (p = p)) = true := by simp
    rw [ep] at d
    have f9 : Fr (pRw k) M (sx_set M k 0 (7 + 4 * p + 2) (bI01 true)) := Fr.rf.set (pRw_i k)
    refine wp_ifn hv1 ?_
    refine wp_ifp (sx_in_n (by omega) (by omega)) ?_
    with_reducible refine wp_bd ?_
    with_reducible refine wp_bd ?_
    rw [nI_cl (by omega), show (1 : Int32) = bI01 true from rfl]
    refine wp_ifn hv1 ?_
    obtain ⟨M6, e6, d6, f6⟩ := w8_redden hk d (hw.setP _) (p := p) hp hTp
    refine wp_call e6 ?_
    exact wp_some ⟨d6, f9.trans f6⟩
