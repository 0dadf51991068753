/-! THE REFERENCE ENDS A SWEEP; what always holds of a shed -/
/-- what always holds of a shed -/
def IS (A : SH) : Prop := A.g.ok ∧ (∀ i j, i < A.g.n → j < A.g.n → A.g.A i = A.g.A j → A.g.B i = A.g.B j → i = j) ∧ (∀ i, i < A.g.n → (A.g.A i < 4 ∨ A.T (A.g.A i - 4) = true) ∧ A.T (A.g.B i) = true) ∧ (∀ p, A.T p = true → p < A.m) ∧ (∀ p, A.P p = true → A.T p = true) ∧ WS A ∧ (∀ p, A.w p = true → A.T p = true ∧ A.P p = false)
theorem keep_comp (w : Nat → Bool) (j : Nat) (l : List (Nat × Nat × Bool)) (hw : w j = true) : (l.filter (keepX (fun x => w x && decide (x < j)))).filter (keep1 j) = l.filter (keepX (fun x => w x && decide (x < j + 1))) := by
  rw [List.filter_filter]
  refine List.filter_congr (fun x _ => ?_)
  unfold keepX keep1
  have e : ∀ y, (w y && decide (y < j + 1)) = ((w y && decide (y < j)) || decide (y = j)) := fun y => by
    by_cases q : y = j
    · subst q; simp [hw]
    · by_cases q2 : y < j
      · simp [q2, show y < j + 1 by omega, q]
      · simp [q2, show ¬ y < j + 1 by omega, q]
  dsimp only
  rw [e, e]
  have hd : decide (x.1 = j + 4) = (decide (4 ≤ x.1) && decide (x.1 - 4 = j)) := by
    rw [Bool.eq_iff_iff, Bool.and_eq_true, decide_eq_true_eq, decide_eq_true_eq, decide_eq_true_eq]; omega
  rw [hd]
  generalize decide (4 ≤ x.1) = f4
  generalize decide (x.1 - 4 = j) = f5
  generalize decide (x.2.1 = j) = f6
  generalize (w (x.1 - 4) && decide (x.1 - 4 < j)) = f7
  generalize (w x.2.1 && decide (x.2.1 < j)) = f8
  cases f4 <;> cases f5 <;> cases f6 <;> cases f7 <;> cases f8 <;> rfl
theorem keep_none (w : Nat → Bool) (j : Nat) (hw : w j = false) : (fun x => w x && decide (x < j)) = (fun x => w x && decide (x < j + 1)) := by
  funext x
  by_cases q : x = j
  · subst q; simp [hw]
  · by_cases q2 : x < j
    · simp [q2, show x < j + 1 by omega]
    · simp [q2, show ¬ x < j + 1 by omega]
theorem w8_endIn {M : sx_M} {k : Nat} {A : SH} (hk : row3 k) (h : DS M k A) (hG : A.G = true) (hI : IS A) : wp (f8_endIn k M) (fun r => r.1 = nI (fb_ct A.w 24) ∧ DS r.2 k A.ended ∧ Fr (pRw k) M r.2) := by
  obtain ⟨hok, -, -, hT, hP, hw, hwp⟩ := hI
  have h24 := h.2.1
  rw [f8_endIn]
  refine wp_up (F := fun m x2 (a : Int32 × sx_M) => f8_endIn_L4 k m a.1 x2 a.2) A.m (fun j a => a.1 = nI (fb_ct A.w j) ∧ Fr (pRw k) M a.2 ∧ ∃ C : SH, DS a.2 k C ∧ C.g.ls = A.g.ls.filter (keepX (fun x => A.w x && decide (x < j))) ∧ C.m = A.m ∧ (∀ x, C.T x = (A.T x && !(A.w x && decide (x < j)))) ∧ (∀ x, C.P x = A.P x) ∧ C.W = A.W ∧ C.2.2.1 = A.2.2.1 ∧ C.E = A.E ∧ C.N = A.N + (nI A.g.n - nI C.g.n)) (fun m j a hj hI kk => ?_) (fun m a hI => ?_) 5000 0 (0, M) (by omega) (by omega) ⟨rfl, Fr.rf, A, h, ?_, rfl, fun x => by simp, fun _ => rfl, rfl, rfl, rfl, by rw [Int32.sub_self, Int32.add_zero]⟩
  · obtain ⟨x1, M1⟩ := a
    obtain ⟨i1, f1, C, d1, c1, c2, c3, c4, c5, c6, c7, c8⟩ := hI
    dsimp only at i1 f1 d1
    subst i1
    have cG : C.G = true := (congrArg (fun z => z.1) c6).trans hG
    have cw : C.w = A.w := congrArg (fun z => z.2.1) c6
    have cb : C.b = A.b := congrArg (fun z => z.2.2.1) c6
    have e0 : M1.1 k 0 ((0 : Int32)).toNatClampNeg = nI A.m := by rw [← c2]; exact d1.2.2.1
    have ect : nI (fb_ct A.w j) + bI01 (A.w j) = nI (fb_ct A.w (j + 1)) := fb_ct_bI A.w j
    have no : A.w j = false → wp (f8_endIn_L4 k m (nI (fb_ct A.w j)) (nI j + 1) M1) (fun r => r.1 = nI (fb_ct A.w 24) ∧ DS r.2 k A.ended ∧ Fr (pRw k) M r.2) := fun hne => kk (_, _) ⟨by rw [← ect, hne]; exact (Int32.add_zero _).symm, f1, C, d1, by rw [c1, keep_none _ _ hne], c2, fun x => by rw [c3 x]; have := congrFun (keep_none A.w j hne) x; rw [this], c4, c5, c6, c7, c8⟩
    show wp (f8_endIn_L4 k (m + 1) (nI (fb_ct A.w j)) (nI j) M1) _
    rw [f8_endIn_L4]
    refine wp_ifp (in3 hk (a := 0) (by omega)) ?_
    with_reducible refine wp_bd ?_
    rw [e0]
    refine wp_ifn (by rw [iI_le (by omega) (by omega)]; omega) ?_
    obtain ⟨r, e, hr⟩ := w8_isPart hk d1 (fun p _ q => by rw [c3, Bool.and_eq_true] at q; rw [c2]; exact hT p q.1) (nI j)
    refine wp_call e ?_
    with_reducible refine wp_bd ?_
    rcases hr with ⟨rfl, p', hp', ep', hTp⟩ | ⟨rfl, hno⟩
    · rw [iI_eq (by omega) (by omega)] at ep'
      subst ep'
      refine wp_ifn (by decide) ?_
      refine wp_call (w8_pa3 _ _) ?_
      refine wp_ifp (in3 hk (by omega)) ?_
      with_reducible refine wp_bd ?_
      have e3 : M1.1 k 0 (nI (7 + 4 * j + 3)).toNatClampNeg = if A.w j then 0 else if A.b j then 2 else 1 := by
        rw [nI_cl (by omega), ← cw, ← cb]; exact (d1.2.2.2.2.2.2.2.2 cG).2.2 j (by rw [c2]; exact hj) hTp
      rw [e3]
      cases hwj : A.w j with
      | false =>
        refine wp_ifn (by cases A.b j <;> decide) ?_
        with_reducible refine wp_bd ?_
        exact no hwj
      | true =>
        refine wp_ifp rfl ?_
        obtain ⟨M14, e14, g', q1, q2, q3⟩ := w8_sweepPart hk d1 (p := j) (by rw [c2]; exact hj) hTp
        refine wp_call e14 ?_
        with_reducible refine wp_bd ?_
        with_reducible refine wp_bd ?_
        have hPj : A.P j = false := (hwp j hwj).2
        refine kk (_, _) ⟨by rw [← ect, hwj]; rfl, f1.trans q3, C.off j g' (C.N + (nI C.g.n - nI g'.n)), q2, ?_, c2, fun x => ?_, fun x => ?_, c5, c6, c7, ?_⟩
        · show g'.ls = _
          rw [q1, c1, keep_comp _ _ _ hwj]
        · show (C.T x && !decide (x = j)) = _
          rw [c3 x]
          by_cases q : x = j
          · subst q; simp [hwj]
          · by_cases q2 : x < j
            · simp [q, q2, show x < j + 1 by omega]
            · simp [q, q2, show ¬ x < j + 1 by omega]
        · show (C.P x && !decide (x = j)) = _
          rw [c4 x]
          by_cases q : x = j
          · subst q; rw [hPj]; rfl
          · rw [decide_eq_false q]; simp
        · show C.N + (nI C.g.n - nI g'.n) = A.N + (nI A.g.n - nI g'.n)
          rw [c8, Int32.add_assoc]
          congr 1
          rw [Int32.sub_eq_add_neg, Int32.sub_eq_add_neg, Int32.sub_eq_add_neg, ← Int32.add_assoc, Int32.add_assoc (nI A.g.n), Int32.add_left_neg, Int32.add_zero]
    · refine wp_ifp rfl ?_
      with_reducible refine wp_bd ?_
      refine no ?_
      cases e : A.w j with
      | false => rfl
      | true => exact absurd ⟨j, by omega, rfl, by rw [c3, (hwp j e).1]; simp⟩ hno
  · obtain ⟨x1, M1⟩ := a
    obtain ⟨i1, f1, C, d1, c1, c2, c3, c4, c5, c6, c7, c8⟩ := hI
    dsimp only at i1 f1 d1
    subst i1
    have e0 : M1.1 k 0 ((0 : Int32)).toNatClampNeg = nI A.m := by rw [← c2]; exact d1.2.2.1
    have hwm : ∀ x, (A.w x && decide (x < A.m)) = A.w x := fun x => by
      cases e : A.w x with
      | false => rfl
      | true => rw [decide_eq_true (hw.2.2.2 x e).1]; rfl
    have hct : fb_ct A.w A.m = fb_ct A.w 24 := by
      have : fb_ct A.w 24 = fb_ct A.w A.m + fb_ct (fun i => A.w (A.m + i)) (24 - A.m) := by
        rw [← fb_ct_split]; congr 1; omega
      have hz : fb_ct (fun i => A.w (A.m + i)) (24 - A.m) = 0 := fb_ct_zero.mpr (fun i _ => by
        cases e : A.w (A.m + i) with
        | false => rfl
        | true => have := (hw.2.2.2 _ e).1; omega)
      omega
    show wp (f8_endIn_L4 k (m + 1) (nI (fb_ct A.w A.m)) (nI A.m) M1) _
    rw [f8_endIn_L4]
    refine wp_ifp (in3 hk (a := 0) (by omega)) ?_
    with_reducible refine wp_bd ?_
    rw [e0]
    refine wp_ifp (by rw [iI_le (by omega) (by omega)]; omega) ?_
    refine wp_ifp (in3 hk (a := 3) (by omega)) ?_
    with_reducible refine wp_bd ?_
    refine wp_ifp (in3 hk (a := 4) (by omega)) ?_
    with_reducible refine wp_bd ?_
    refine wp_ifp (in3 hk (a := 4) (by omega)) ?_
    with_reducible refine wp_bd ?_
    rw [hct]
    refine wp_some ⟨rfl, ?_, (f1.set (pRw_i k)).set (pRw_i k)⟩
    have e4 : (sx_set M1 k 0 ((3 : Int32)).toNatClampNeg (0 : Int32)).1 k 0 ((4 : Int32)).toNatClampNeg = A.E := (rd_n _ _ _ _ _ _ _ _ (by decide)).trans (d1.2.2.2.2.2.1.trans c7)
    show DS (sx_set (sx_set M1 k 0 3 (0 : Int32)) k 0 4 ((sx_set M1 k 0 3 (0 : Int32)).1 k 0 4 + (1 : Int32))) k A.ended
    have e4' : (sx_set M1 k 0 3 (0 : Int32)).1 k 0 4 = A.E := e4
    rw [e4']
    have rd : ∀ i, i ≠ 3 → i ≠ 4 → (sx_set (sx_set M1 k 0 3 (0 : Int32)) k 0 4 (A.E + 1)).1 k 0 i = M1.1 k 0 i := fun i q3 q4 => (rd_n _ _ _ _ _ _ _ _ q4).trans (rd_n _ _ _ _ _ _ _ _ q3)
    have d5 : DS (sx_set (sx_set M1 k 0 3 (0 : Int32)) k 0 4 (A.E + 1)) k (C.g, (C.m, C.T, C.P, C.W), (false, (fun _ => false), (fun _ => false), []), A.E + 1, C.N) := by
      obtain ⟨h1, h2, h3, h4, h5, h6, h7, h8, h9⟩ := id d1
      refine ⟨⟨h1.1, (rd 2 (by omega) (by omega)).trans h1.2.1, fun i hi => ?_⟩, h2, (rd 0 (by omega) (by omega)).trans h3, (rd 1 (by omega) (by omega)).trans h4, ?_, rd_e _ _ _ _ _, (rd 5 (by omega) (by omega)).trans h7, fun p hp => ?_, fun q => by cases q⟩
      · obtain ⟨g1, g2, g3, g4, g5⟩ := h1.2.2 i hi
        exact ⟨g1, g2, (rd _ (by omega) (by omega)).trans g3, (rd _ (by omega) (by omega)).trans g4, (rd _ (by omega) (by omega)).trans g5⟩
      · rw [rd_n _ _ _ _ _ _ _ _ (by omega), rd_e]; rfl
      · obtain ⟨g3, g4, g5⟩ := h8 p hp
        exact ⟨(rd _ (by omega) (by omega)).trans g3, (rd _ (by omega) (by omega)).trans g4, (rd _ (by omega) (by omega)).trans g5⟩
    have elist : C.g.ls = A.thin.ls := by
      unfold SH.thin
      rw [GT.ofL_ls, c1]
      refine List.filter_congr (fun x _ => ?_)
      unfold keepX
      dsimp only
      rw [hwm, hwm]
    have en : C.g.n = A.thin.n := (GT.eqv_of elist).1
    refine d5.ext (B := A.ended) (GT.eqv_of elist) c2 (fun p => ?_) (fun p _ => c4 p) (fun p _ => congrFun c5 p) (Or.inl rfl) rfl ?_
    · show C.T p = (A.T p && !A.w p)
      rw [c3 p, hwm]
    · show C.N = A.N + (nI A.g.n - nI A.thin.n)
      rw [c8, en]
  · symm
    refine List.filter_eq_self.mpr (fun x _ => ?_)
    unfold keepX
    simp
theorem blk_WS {A : SH} (h : WS A) {p : Nat} {q : List Nat} (hq : A.q = p :: q) : WS (A.blk p q) := by
  obtain ⟨h1, h2, h3, h4⟩ := h
  rw [hq] at h2 h3
  refine ⟨h1, (List.nodup_cons.mp h2).2, fun x hx => h3 x (List.mem_cons_of_mem _ hx), fun x hx => ⟨(h4 x hx).1, ?_⟩⟩
  have hx' : A.w x = true := hx
  show (A.b x || decide (x = p)) = false
  rw [(h4 x hx).2, Bool.false_or, decide_eq_false]
  intro e
  subst e
  have := (h3 x List.mem_cons_self).2
  rw [hx'] at this; cases this
theorem w8_stepIn {M : sx_M} {k : Nat} {A : SH} (hk : row3 k) (h : DS M k A) (hG : A.G = true) (hI : IS A) : wp (f8_stepIn k M) (fun r => r.1 = A.told ∧ DS r.2 k A.step ∧ Fr (pRw k) M r.2) := by
  obtain ⟨h1, h2, h3, h4, h5, h6, h7, h8, h9⟩ := id h
  obtain ⟨k1, k2, k3⟩ := h9 hG
  obtain ⟨hok, -, hends, hT, hP, hw, hwp⟩ := id hI
  have hlen : A.q.length ≤ 24 := nd_len hw.2.1 (fun x hx => by have := (hw.2.2.1 x hx).1; omega)
  rw [f8_stepIn]
  refine wp_ifp (in3 hk (a := 6) (by omega)) ?_
  have e6 : M.1 k 0 ((6 : Int32)).toNatClampNeg = nI A.q.length := k1
  with_reducible refine wp_bd ?_
  rw [e6]
  unfold SH.told SH.step
  cases hq : A.q with
  | nil =>
    refine wp_ifp rfl ?_
    obtain ⟨⟨r, M1⟩, e, q1, q2, q3⟩ := w8_endIn hk h hG hI
    refine wp_b2 e ?_
    dsimp only at q1
    subst q1
    exact wp_some ⟨rfl, q2, q3⟩
  | cons p q =>
    rw [hq] at k1 k2 hlen
    have hl1 : (p :: q).length = q.length + 1 := rfl
    rw [hl1] at k1 hlen ⊢
    have hpw := hw.2.2.1 p (by rw [hq]; exact List.mem_cons_self)
    refine wp_ifn (by rw [show (0 : Int32) = nI 0 from rfl, iI_eq (by omega) (by omega)]; omega) ?_
    refine wp_ifp (in3 hk (a := 223) (by omega)) ?_
    have e223 : M.1 k 0 ((223 : Int32)).toNatClampNeg = nI p := k2 0 (by rw [hl1]; omega)
    with_reducible refine wp_bd ?_
    rw [e223]
    refine wp_ifp (in3 hk (a := 6) (by omega)) ?_
    with_reducible refine wp_bd ?_
    rw [iI_pred (by omega), Nat.add_sub_cancel]
    refine wp_ifp (in3 hk (a := 6) (by omega)) ?_
    with_reducible refine wp_bd ?_
    refine wp_ifp (in3 hk (a := 6) (by omega)) ?_
    with_reducible refine wp_bd ?_
    have e56 : (sx_set M k 0 ((6 : Int32)).toNatClampNeg (nI q.length)).1 k 0 ((6 : Int32)).toNatClampNeg = nI q.length := rd_e _ _ _ _ _
    rw [e56]
    have v5 : ∀ i, i ≠ 6 → (sx_set M k 0 ((6 : Int32)).toNatClampNeg (nI q.length)).1 k 0 i = M.1 k 0 i := fun i hi => rd_n _ _ _ _ _ _ _ _ hi
    have v56 : (sx_set M k 0 ((6 : Int32)).toNatClampNeg (nI q.length)).1 k 0 6 = nI q.length := rd_e _ _ _ _ _
    have f5 : Fr (pRw k) M (sx_set M k 0 ((6 : Int32)).toNatClampNeg (nI q.length)) := Fr.rf.set (pRw_i k)
    generalize sx_set M k 0 ((6 : Int32)).toNatClampNeg (nI q.length) = M5 at v5 v56 f5 ⊢
    obtain ⟨M7, e7, c1, c2, f7⟩ := w8_copy (M := M5) (ka := k) (kb := k) (a := 224) (b := 223) (n := q.length) (by omega) (by rw [row3_len hk]; omega) (by rw [row3_len hk]; omega) (Or.inr (Or.inl (by omega)))
    refine wp_call e7 ?_
    refine wp_call (w8_pa3 _ _) ?_
    refine wp_ifp (in3 hk (by omega)) ?_
    with_reducible refine wp_bd ?_
    rw [nI_cl (by omega)]
    have d9 : DS (sx_set M7 k 0 (7 + 4 * p + 3) (2 : Int32)) k (A.blk p q) := by
      have rd : ∀ i, i ≠ 6 → i < 223 → i ≠ 7 + 4 * p + 3 → (sx_set M7 k 0 (7 + 4 * p + 3) (2 : Int32)).1 k 0 i = M.1 k 0 i := fun i q1 q2 q3 => (rd_n _ _ _ _ _ _ _ _ q3).trans ((c2 i (Or.inl q2)).trans (v5 i q1))
      refine ⟨⟨h1.1, (rd 2 (by omega) (by omega) (by omega)).trans h1.2.1, fun i hi => ?_⟩, h2, (rd 0 (by omega) (by omega) (by omega)).trans h3, (rd 1 (by omega) (by omega) (by omega)).trans h4, (rd 3 (by omega) (by omega) (by omega)).trans h5, (rd 4 (by omega) (by omega) (by omega)).trans h6, (rd 5 (by omega) (by omega) (by omega)).trans h7, fun x hx => ?_, fun _ => ⟨?_, fun e he => ?_, fun x hx hTx => ?_⟩⟩
      · have h40 := h1.1
        have hi' : i < A.g.n := hi
        obtain ⟨g1, g2, g3, g4, g5⟩ := h1.2.2 i hi
        exact ⟨g1, g2, (rd _ (by omega) (by omega) (by omega)).trans g3, (rd _ (by omega) (by omega) (by omega)).trans g4, (rd _ (by omega) (by omega) (by omega)).trans g5⟩
      · have hx' : x < A.m := hx
        obtain ⟨g3, g4, g5⟩ := h8 x hx
        exact ⟨(rd _ (by omega) (by omega) (by omega)).trans g3, (rd _ (by omega) (by omega) (by omega)).trans g4, (rd _ (by omega) (by omega) (by omega)).trans g5⟩
      · rw [rd_n _ _ _ _ _ _ _ _ (by omega), c2 6 (Or.inl (by omega))]; exact v56
      · have he' : e < q.length := he
        rw [rd_n _ _ _ _ _ _ _ _ (by omega), c1 e he', v5 _ (by omega)]
        have := k2 (e + 1) (by rw [hl1]; omega)
        rw [show 224 + e = 223 + (e + 1) by omega]
        exact this
      · have hx' : x < A.m := hx
        show _ = if A.w x then 0 else if (A.b x || decide (x = p)) then 2 else 1
        by_cases e : x = p
        · subst e
          rw [rd_e, hpw.2, decide_eq_true rfl, Bool.or_true]; rfl
        · rw [decide_eq_false e, Bool.or_false]
          exact (rd _ (by omega) (by omega) (by omega)).trans (k3 x hx hTx)
    have f9 : Fr (pRw k) M (sx_set M7 k 0 (7 + 4 * p + 3) (2 : Int32)) := (f5.trans f7).set (pRw_i k)
    generalize sx_set M7 k 0 (7 + 4 * p + 3) (2 : Int32) = M9 at d9 f9 ⊢
    have w9 := blk_WS hw hq
    have h40 := h1.1
    refine wp_up (F := fun m x2 M1 => f8_stepIn_L54 k (nI p) m x2 M1) A.g.n (fun j M3 => DS M3 k ((A.blk p q).shadeN (fun i => A.g.Z i && decide (A.g.A i = p + 4)) A.g.B j) ∧ Fr (pRw k) M M3) (fun m j M3 hj hI kk => ?_) (fun m M3 hI => ?_) 5000 0 M9 (by omega) (by omega) ⟨d9, f9⟩
    · obtain ⟨d3, f3⟩ := hI
      obtain ⟨s1, s2, s3, s4, s5⟩ := shadeN_same (A.blk p q) (fun i => A.g.Z i && decide (A.g.A i = p + 4)) A.g.B j
      have wB := w9.shadeN (fun i => A.g.Z i && decide (A.g.A i = p + 4)) A.g.B j
      have kk' : ∀ M', DS M' k (((A.blk p q).shadeN (fun i => A.g.Z i && decide (A.g.A i = p + 4)) A.g.B j).shadeIf (A.g.Z j && decide (A.g.A j = p + 4)) (A.g.B j)) → Fr (pRw k) M M' → _ := fun M' q1 q2 => kk M' ⟨q1, q2⟩
      generalize (A.blk p q).shadeN (fun i => A.g.Z i && decide (A.g.A i = p + 4)) A.g.B j = B at d3 s1 s2 wB kk'
      have sm : B.m = A.m := congrArg (fun z => z.1) s2
      have sT : B.T = A.T := congrArg (fun z => z.2.1) s2
      have sg : B.g = A.g := s1
      have hg3 : GD M3 k A.g := sg ▸ d3.1
      obtain ⟨g1, g2, g3, g4, g5⟩ := hg3.2.2 j hj
      have e2 : M3.1 k 0 ((2 : Int32)).toNatClampNeg = nI A.g.n := hg3.2.1
      show wp (f8_stepIn_L54 k (nI p) (m + 1) (nI j) M3) _
      rw [f8_stepIn_L54]
      refine wp_ifp (in3 hk (a := 2) (by omega)) ?_
      with_reducible refine wp_bd ?_
      rw [e2]
      refine wp_ifn (by rw [iI_le (by omega) (by omega)]; omega) ?_
      refine wp_call (w8_co0 _ _) ?_
      refine wp_ifp (in3 hk (by omega)) ?_
      with_reducible refine wp_bd ?_
      with_reducible refine wp_bd ?_
      rw [nI_cl (by omega), g3]
      have no : (A.g.Z j && decide (A.g.A j = p + 4)) = false → _ := fun hc => kk' M3 (by rw [hc]; exact d3) f3
      with_reducible refine wp_if (fun c => ?_) (fun c => ?_) <;> rw [tI_nI (by omega) (by omega)] at c
      · refine wp_call (w8_co2 _ _) ?_
        refine wp_ifp (in3 hk (by omega)) ?_
        with_reducible refine wp_bd ?_
        rw [nI_cl (by omega), g5]
        with_reducible refine wp_if (fun c2 => ?_) (fun c2 => ?_) <;> rw [bI01_1] at c2
        · refine wp_call (w8_co1 _ _) ?_
          refine wp_ifp (in3 hk (by omega)) ?_
          with_reducible refine wp_bd ?_
          rw [nI_cl (by omega), g4]
          have hTb := (hends j hj).2
          obtain ⟨M22, e22, d22, f22⟩ := w8_redden hk d3 wB (p := A.g.B j) (by rw [sm]; exact hT _ hTb) (by rw [sT]; exact hTb)
          refine wp_call e22 ?_
          refine kk' M22 ?_ (f3.trans f22)
          rw [c2, decide_eq_true c]
          exact d22
        · rw [Bool.not_eq_true] at c2
          exact no (by rw [c2]; rfl)
      · exact no (by rw [decide_eq_false c, Bool.and_false])
    · obtain ⟨d3, f3⟩ := hI
      obtain ⟨s1, s2, s3, s4, s5⟩ := shadeN_same (A.blk p q) (fun i => A.g.Z i && decide (A.g.A i = p + 4)) A.g.B A.g.n
      have e2 : M3.1 k 0 ((2 : Int32)).toNatClampNeg = nI A.g.n := by
        have := d3.1.2.1
        rw [show ((A.blk p q).shadeN (fun i => A.g.Z i && decide (A.g.A i = p + 4)) A.g.B A.g.n).g = A.g from s1] at this
        exact this
      show wp (f8_stepIn_L54 k (nI p) (m + 1) (nI A.g.n) M3) _
      rw [f8_stepIn_L54]
      refine wp_ifp (in3 hk (a := 2) (by omega)) ?_
      with_reducible refine wp_bd ?_
      rw [e2]
      refine wp_ifp (by rw [iI_le (by omega) (by omega)]; omega) ?_
      exact wp_some ⟨rfl, d3, f3⟩
