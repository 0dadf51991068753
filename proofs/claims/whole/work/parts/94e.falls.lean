/-! WHAT A CUT WOULD LET FALL, SIDE BY SIDE -/
theorem w8_tryIt {M : sx_M} {A : SH} (h : DS M 20 A) (hI : IS A) : wp (f8_tryIt M) (fun M' => DS M' 21 A ∧ Fr (pRw 21) M M') := by
  rw [f8_tryIt]
  obtain ⟨M1, e1, c1, c2, f1⟩ := w8_copy (M := M) (ka := 20) (kb := 21) (a := 0) (b := 0) (n := 247) (by omega) (by show 0 + 247 ≤ 247; omega) (by show 0 + 247 ≤ 247; omega) (Or.inl (by omega))
  refine wp_call e1 ?_
  refine wp_some ⟨?_, f1⟩
  rw [DAt_iff]
  refine DAt.cong (DAt_iff.mp h) hI (fun j hj => ?_)
  have := c1 j hj
  rwa [Nat.zero_add] at this
theorem row3_21_25 : ¬ pRw 25 21 0 := row3_25 row21
theorem not21_20 : ¬ pRw 21 20 0 := fun q => by have := q.1; omega
theorem w8_fallsBy {M : sx_M} {A : SH} (h : DS M 20 A) (hI : IS A) {i : Nat} (hi : i < A.g.n) : wp (f8_fallsBy (nI i) M) (fun q => q.1 = sw A.H A.W A.m - sw (A.cut i).H A.W A.m ∧ ∀ k s, (k ≤ 20 ∨ 22 ≤ k ∧ k ≤ 24) → q.2.1 k s = M.1 k s) := by
  rw [f8_fallsBy]
  obtain ⟨⟨v1, M2⟩, e1, q1, -, f2⟩ := w8_heldWeight row20 h hI
  dsimp only at q1 f2
  refine wp_b2 e1 ?_
  obtain ⟨M3, e3, d3, f3⟩ := w8_tryIt (h.fr f2 (row3_25 row20)) hI
  refine wp_call e3 ?_
  obtain ⟨M4, e4, d4, f4⟩ := w8_removeString row21 d3 hi
  refine wp_call e4 ?_
  obtain ⟨⟨v5, M6⟩, e6, q6, -, f6⟩ := w8_heldWeight row21 d4 (hI.cut hi)
  dsimp only at q6 f6
  refine wp_b2 e6 ?_
  refine wp_some ⟨by rw [q1, q6]; rfl, fun k s hk => ?_⟩
  exact (hits1 f6 (by omega) s).trans ((hits1 f4 (by omega) s).trans ((hits1 f3 (by omega) s).trans (hits1 f2 (by omega) s)))
theorem wo_cut {A : SH} (hI : IS A) {i : Nat} (hi : i < A.g.n) {p : Nat} (hp : p < 24) : (A.g.wo (nI i)).held (hol A.P) (p + 4) = (A.cut i).H p := by
  have hok := hI.1
  have h40 := hok.1
  rw [Bool.eq_iff_iff]
  constructor
  · intro q
    refine GT.held_sub (g := A.g.wo (nI i)) (g' := A.g.rm i) (H := hol A.P) hok (hI.cut hi).1 (fun x hx hz => ?_) (by omega) q
    have hx' : x < A.g.n := hx
    have hz' : (A.g.Z x && !decide (nI x = nI i)) = true := hz
    rw [Bool.and_eq_true, Bool.not_eq_true', decide_eq_false_iff_not, iI_eq (by omega) (by omega)] at hz'
    have key : ∃ j, j < A.g.n - 1 ∧ (if j < i then j else j + 1) = x := by
      by_cases q2 : x < i
      · exact ⟨x, by omega, if_pos q2⟩
      · exact ⟨x - 1, by omega, by rw [if_neg (by omega)]; omega⟩
    obtain ⟨j, hj, ej⟩ := key
    refine ⟨j, hj, ?_, ?_, ?_⟩
    · show A.g.Z (if j < i then j else j + 1) = true
      rw [ej]; exact hz'.1
    · show A.g.A (if j < i then j else j + 1) = A.g.A x
      rw [ej]
    · show A.g.B (if j < i then j else j + 1) = A.g.B x
      rw [ej]
  · intro q
    refine GT.held_sub (g := A.g.rm i) (g' := A.g.wo (nI i)) (H := hol A.P) (hI.cut hi).1 hok (fun x hx hz => ?_) (by omega) q
    have hx' : x < A.g.n - 1 := hx
    have hz' : A.g.Z (if x < i then x else x + 1) = true := hz
    refine ⟨if x < i then x else x + 1, by show (if x < i then x else x + 1) < A.g.n; split <;> omega, ?_, rfl, rfl⟩
    show (A.g.Z (if x < i then x else x + 1) && !decide (nI (if x < i then x else x + 1) = nI i)) = true
    rw [hz', decide_eq_false (by
      rw [iI_eq (by split <;> omega) (by omega)]
      split <;> omega)]
    rfl
theorem sw_minus {X Y : Nat → Bool} {W : Nat → Int32} : ∀ {n : Nat}, (∀ p, p < n → Y p = true → X p = true) → sw (fun p => X p && !Y p) W n = sw X W n - sw Y W n := by
  intro n
  induction n with
  | zero => intro _; exact (Int32.sub_self 0).symm
  | succ n ih =>
    intro h
    have ih' := ih (fun p hp => h p (by omega))
    show sw (fun p => X p && !Y p) W n + (if (X n && !Y n) = true then W n else 0) = (sw X W n + (if X n = true then W n else 0)) - (sw Y W n + (if Y n = true then W n else 0))
    rw [ih']
    cases eY : Y n with
    | true =>
      rw [h n (Nat.lt_succ_self n) eY]
      show (sw X W n - sw Y W n) + 0 = (sw X W n + W n) - (sw Y W n + W n)
      rw [Int32.add_zero]
      have e : sw X W n + W n = (sw X W n - sw Y W n) + (sw Y W n + W n) := by rw [← Int32.add_assoc, Int32.sub_add_cancel]
      rw [e]
      exact (Int32.add_sub_cancel _ _).symm
    | false =>
      show (sw X W n - sw Y W n) + (if (X n && true) = true then W n else 0) = (sw X W n + (if X n = true then W n else 0)) - (sw Y W n + 0)
      rw [Bool.and_true, Int32.add_zero]
      generalize (if X n = true then W n else 0) = c
      have e : sw X W n + c = ((sw X W n - sw Y W n) + c) + sw Y W n := by
        rw [Int32.add_assoc, Int32.add_comm c, ← Int32.add_assoc, Int32.sub_add_cancel]
      rw [e]
      exact (Int32.add_sub_cancel _ _).symm
theorem sw_cong {X Y : Nat → Bool} {W : Nat → Int32} : ∀ {n : Nat}, (∀ p, p < n → X p = Y p) → sw X W n = sw Y W n := by
  intro n
  induction n with
  | zero => intro _; rfl
  | succ n ih =>
    intro h
    rw [sw_succ, sw_succ, ih (fun p hp => h p (by omega)), h n (Nat.lt_succ_self n)]
theorem falls_eq {A : SH} (hI : IS A) {i : Nat} (hi : i < A.g.n) : sw (fun p => A.H p && !(A.g.wo (nI i)).held (hol A.P) (p + 4)) A.W A.m = sw A.H A.W A.m - sw (A.cut i).H A.W A.m := by
  have hm := hI.ws.1
  rw [← sw_minus (fun p hp q => cut_sub hI hi (by omega) q)]
  refine sw_cong (fun p hp => ?_)
  rw [wo_cut hI hi (by omega)]
theorem pair_falls (a p : Int32) {ex : Nat → Int32} (h0 : ex 0 = nI 1) : PAIR (fun M => f7_falls a p M) (fun M => f8_falls a p M) ex := by
  intro st M hI hR
  have h40 := hI.1.1.1
  obtain ⟨r, e, hr⟩ := w3_fault3 hR.1 a p
  rcases hr with ⟨rfl, hno⟩ | ⟨rfl, i, hi, hf⟩
  · refine ⟨.inl 0, st, hI, ?_, fun M2 hM => ?_⟩
    · show wp (f7_falls a p M) _
      rw [f7_falls]
      refine wp_call e ?_
      rw [c_bT_no (Or.inl ⟨rfl, rfl⟩)]
      exact wp_some ⟨rfl, hR, fun _ _ _ => rfl⟩
    · show wp (f8_falls a p M2) _
      rw [f8_falls]
      obtain ⟨r1, e1, hr1⟩ := w8_foundString hM.1 hI.1 a p
      refine wp_call e1 ?_
      with_reducible refine wp_bd ?_
      rcases hr1 with ⟨rfl, -⟩ | ⟨i, rfl, hi⟩
      · refine wp_ifp rfl ?_
        exact m_no hM (n := 1) (by omega) (by omega) h0
      · exact absurd hi (hno i)
  · refine ⟨.inr (sw st.A.H st.A.W st.A.m - sw (st.A.cut i).H st.A.W st.A.m), st, hI, ?_, fun M2 hM => ?_⟩
    · show wp (f7_falls a p M) _
      rw [f7_falls]
      refine wp_call e ?_
      rw [c_bT_yes]
      obtain ⟨j, ej, hj⟩ := w4_find hR.1.1 a p
      refine wp_call ej ?_
      have eji : j = nI i := by
        rcases hj with ⟨-, hno⟩ | ⟨i', rfl, h1, -⟩
        · exact absurd hi (hno i)
        · rw [at_uniq hI.1 h1 hi]
      subst eji
      refine wp_call (w3_weightUnder hR.1 (nI i)) ?_
      rw [falls_eq hI.1 hi.1]
      exact wp_some ⟨rfl, hR, fun _ _ _ => rfl⟩
    · show wp (f8_falls a p M2) _
      rw [f8_falls]
      obtain ⟨r1, e1, hr1⟩ := w8_foundString hM.1 hI.1 a p
      refine wp_call e1 ?_
      with_reducible refine wp_bd ?_
      rcases hr1 with ⟨rfl, hno⟩ | ⟨j, rfl, hj⟩
      · exact absurd hi (hno i)
      · have eij := at_uniq hI.1 hj hi
        subst eij
        have hjn := hj.1
        refine wp_ifn (nI_ne_m9 (by omega)) ?_
        have r4 := hM.ref 0
        refine wp_b2 (m_refused (n := 0) (by omega) M2) ?_
        have lk : ∀ (M' : sx_M) (v : Int32), (∀ k s, (k ≤ 20 ∨ 22 ≤ k ∧ k ≤ 24) → M'.1 k s = (sx_set M2 17 0 0 0).1 k s) → v = sw st.A.H st.A.W st.A.m - sw (st.A.cut j).H st.A.W st.A.m → GOOD M2 st (sw st.A.H st.A.W st.A.m - sw (st.A.cut j).H st.A.W st.A.m) (v, M') := fun M' v f e => good_look hM f e
        show wp (sx_bd _ _) _
        with_reducible refine wp_bd ?_
        refine wp_ifp (by decide) ?_
        have e0 : sx_set M2 17 0 0 (nI 0) = sx_set M2 17 0 0 0 := rfl
        rw [e0]
        generalize sx_set M2 17 0 0 0 = M4 at r4 lk ⊢
        obtain ⟨⟨v, M5⟩, e5, q1, q2⟩ := w8_fallsBy r4.1 hI.1 hjn
        refine wp_b2 e5 ?_
        exact wp_some (lk _ _ q2 q1).to
/-- the first of the greatest -/
def hb (f : Nat → Int32) : Nat → Option Nat × Int32
  | 0 => (none, -1)
  | j + 1 => if f j ≤ (hb f j).2 then hb f j else (some j, f j)
theorem hb_lt {f : Nat → Int32} : ∀ {j i : Nat}, (hb f j).1 = some i → i < j := by
  intro j
  induction j with
  | zero => intro i h; cases h
  | succ j ih =>
    intro i h
    unfold hb at h
    split at h
    · have := ih h; omega
    · have : j = i := Option.some.inj h
      omega
def oI (d : Int32) : Option Nat → Int32
  | none => d
  | some i => nI i
theorem pair_heaviest : PAIR0 (fun M => (f7_heaviest M).bind fun v => some (v, M)) (fun M => f8_heaviest M) := by
  intro st M hI hR
  have h40 := hI.1.1.1
  have hf : ∀ i, i < st.A.g.n → f3_weightUnder 0 (nI i) M = some (sw st.A.H st.A.W st.A.m - sw (st.A.cut i).H st.A.W st.A.m) := fun i hi => by
    rw [w3_weightUnder hR.1 (nI i), falls_eq hI.1 hi]
  have ff : ∀ M4, DS M4 20 st.A → ∀ i, i < st.A.g.n → wp (f8_fallsBy (nI i) M4) (fun q => q.1 = sw st.A.H st.A.W st.A.m - sw (st.A.cut i).H st.A.W st.A.m ∧ ∀ k s, (k ≤ 20 ∨ 22 ≤ k ∧ k ≤ 24) → q.2.1 k s = M4.1 k s) := fun M4 d4 i hi => w8_fallsBy d4 hI.1 hi
  obtain ⟨f, ef⟩ : ∃ f : Nat → Int32, f = fun i => sw st.A.H st.A.W st.A.m - sw (st.A.cut i).H st.A.W st.A.m := ⟨_, rfl⟩
  have ef' : ∀ i, sw st.A.H st.A.W st.A.m - sw (st.A.cut i).H st.A.W st.A.m = f i := fun i => by rw [ef]
  have hf2 : ∀ i, i < st.A.g.n → f3_weightUnder 0 (nI i) M = some (f i) := fun i hi => by rw [hf i hi, ef']
  have ff2 : ∀ M4, DS M4 20 st.A → ∀ i, i < st.A.g.n → wp (f8_fallsBy (nI i) M4) (fun q => q.1 = f i ∧ ∀ k s, (k ≤ 20 ∨ 22 ≤ k ∧ k ≤ 24) → q.2.1 k s = M4.1 k s) := fun M4 d4 i hi => by rw [← ef']; exact ff M4 d4 i hi
  clear hf ff ef ef'
  obtain ⟨v, hv⟩ : ∃ v, v = match (hb f st.A.g.n).1 with | none => (-9 : Int32) | some i => nI (100 * st.A.g.A i + st.A.g.B i) := ⟨_, rfl⟩
  refine ⟨v, st, hI, ?_, fun M2 hM => ?_⟩
  · show wp ((f7_heaviest M).bind fun v => some (v, M)) _
    have e : f7_heaviest M = some v := by
      refine wp_get ?_
      rw [f7_heaviest]
      refine wp_up (F := fun m x3 (a : Int32 × Int32) => f7_heaviest_L6 M m a.1 a.2 x3) st.A.g.n (fun j a => a.1 = oI (-1) (hb f j).1 ∧ a.2 = (hb f j).2) (fun m j a hj hI2 kk => ?_) (fun m a hI2 => ?_) 5000 0 (-1, -1) (by omega) (by omega) ⟨rfl, rfl⟩
      · obtain ⟨x1, x2⟩ := a
        obtain ⟨i1, i2⟩ := hI2
        dsimp only at i1 i2
        subst i1 i2
        show wp (f7_heaviest_L6 M (m + 1) _ _ (nI j)) _
        rw [f7_heaviest_L6]
        refine wp_call (show f4_size 0 M = some (nI st.A.g.n) by rw [f4_size]; exact congrArg some hR.1.1.2.1) ?_
        refine wp_ifn (by rw [iI_le (by omega) (by omega)]; omega) ?_
        refine wp_call (hf2 j hj) ?_
        with_reducible refine wp_bd ?_
        have eh : hb f (j + 1) = if f j ≤ (hb f j).2 then hb f j else (some j, f j) := rfl
        with_reducible refine wp_if (fun c => ?_) (fun c => ?_)
        · rw [if_pos c] at eh
          exact kk (_, _) ⟨by rw [eh], by rw [eh]⟩
        · rw [if_neg c] at eh
          exact kk (_, _) ⟨by rw [eh]; rfl, by rw [eh]⟩
      · obtain ⟨x1, x2⟩ := a
        obtain ⟨i1, i2⟩ := hI2
        dsimp only at i1 i2
        subst i1 i2
        show wp (f7_heaviest_L6 M (m + 1) _ _ (nI st.A.g.n)) _
        rw [f7_heaviest_L6]
        refine wp_call (show f4_size 0 M = some (nI st.A.g.n) by rw [f4_size]; exact congrArg some hR.1.1.2.1) ?_
        refine wp_ifp (by rw [iI_le (by omega) (by omega)]; omega) ?_
        rw [hv]
        cases eb : (hb f st.A.g.n).1 with
        | none =>
          refine wp_call (w4_codeAt_out hR.1.1 (fun i hi => (nI_ne_m1 (by omega)).symm)) ?_
          exact wp_some rfl
        | some i =>
          refine wp_call (w4_codeAt_in hR.1.1 (hb_lt eb)) ?_
          exact wp_some rfl
    refine wp_call e ?_
    exact wp_some ⟨rfl, hR, fun _ _ _ => rfl⟩
  · show wp (f8_heaviest M2) _
    rw [f8_heaviest]
    with_reducible refine wp_bd ?_
    have r4 := hM.ref 0
    have lk : ∀ (M' : sx_M) (w : Int32), (∀ k s, (k ≤ 20 ∨ 22 ≤ k ∧ k ≤ 24) → M'.1 k s = (sx_set M2 17 0 0 0).1 k s) → w = v → GOOD M2 st v (w, M') := fun M' w f e => good_look hM f e
    generalize sx_set M2 17 0 0 0 = M4 at r4 lk ⊢
    refine wp_up (F := fun m x3 (a : Int32 × Int32 × sx_M) => f8_heaviest_L12 m a.1 a.2.1 x3 a.2.2) st.A.g.n (fun j a => a.1 = oI (-9) (hb f j).1 ∧ a.2.1 = (hb f j).2 ∧ ∀ k s, (k ≤ 20 ∨ 22 ≤ k ∧ k ≤ 24) → a.2.2.1 k s = M4.1 k s) (fun m j a hj hI2 kk => ?_) (fun m a hI2 => ?_) 5000 0 (-9, -1, M4) (by omega) (by omega) ⟨rfl, rfl, fun _ _ _ => rfl⟩
    · obtain ⟨x1, x2, M5⟩ := a
      obtain ⟨i1, i2, i3⟩ := hI2
      dsimp only at i1 i2 i3
      subst i1 i2
      have d5 : DS M5 20 st.A := by rw [DAt_iff, i3 20 0 (by omega)]; exact r4.1
      show wp (f8_heaviest_L12 (m + 1) _ _ (nI j) M5) _
      rw [f8_heaviest_L12]
      refine wp_ifp (in3 row20 (a := 2) (by omega)) ?_
      have e2 : M5.1 20 0 ((2 : Int32)).toNatClampNeg = nI st.A.g.n := d5.1.2.1
      with_reducible refine wp_bd ?_
      rw [e2]
      refine wp_ifn (by rw [iI_le (by omega) (by omega)]; omega) ?_
      obtain ⟨⟨w, M8⟩, e8, q1, q2⟩ := ff2 M5 d5 j hj
      dsimp only at q1 q2
      subst q1
      refine wp_b2 e8 ?_
      with_reducible refine wp_bd ?_
      have eh : hb f (j + 1) = if f j ≤ (hb f j).2 then hb f j else (some j, f j) := rfl
      with_reducible refine wp_if (fun c => ?_) (fun c => ?_)
      · rw [if_pos c] at eh
        with_reducible refine wp_bd ?_
        refine wp_ifp c ?_
        exact kk (_, _, _) ⟨by rw [eh], by rw [eh], fun k s hk => (q2 k s hk).trans (i3 k s hk)⟩
      · rw [if_neg c] at eh
        with_reducible refine wp_bd ?_
        refine wp_ifn c ?_
        exact kk (_, _, _) ⟨by rw [eh]; rfl, by rw [eh], fun k s hk => (q2 k s hk).trans (i3 k s hk)⟩
    · obtain ⟨x1, x2, M5⟩ := a
      obtain ⟨i1, i2, i3⟩ := hI2
      dsimp only at i1 i2 i3
      subst i1 i2
      have d5 : DS M5 20 st.A := by rw [DAt_iff, i3 20 0 (by omega)]; exact r4.1
      show wp (f8_heaviest_L12 (m + 1) _ _ (nI st.A.g.n) M5) _
      rw [f8_heaviest_L12]
      refine wp_ifp (in3 row20 (a := 2) (by omega)) ?_
      have e2 : M5.1 20 0 ((2 : Int32)).toNatClampNeg = nI st.A.g.n := d5.1.2.1
      with_reducible refine wp_bd ?_
      rw [e2]
      refine wp_ifp (by rw [iI_le (by omega) (by omega)]; omega) ?_
      with_reducible refine wp_bd ?_
      cases eb : (hb f st.A.g.n).1 with
      | none =>
        rw [eb] at hv
        refine wp_ifp rfl ?_
        exact wp_some (lk _ _ i3 hv.symm)
      | some i =>
        rw [eb] at hv
        have hin := hb_lt eb
        refine wp_ifn (nI_ne_m9 (by omega)) ?_
        refine wp_call (w8_tells d5 hin) ?_
        exact wp_some (lk _ _ i3 hv.symm)
