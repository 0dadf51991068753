/-! THE REFERENCE LAYS THE DEPTHS -/
def sN (D : Nat → Nat) : Nat → Nat
  | 0 => 0
  | n + 1 => sN D n + D n
theorem sN_out (D : Nat → Nat) (p v : Nat) : ∀ n, n ≤ p → sN (fun x => if x = p then v else D x) n = sN D n := by
  intro n
  induction n with
  | zero => intro _; rfl
  | succ n ih =>
    intro h
    show sN (fun x => if x = p then v else D x) n + (if n = p then v else D n) = sN D n + D n
    rw [ih (by omega), if_neg (by omega)]
theorem sN_upd (D : Nat → Nat) (p v : Nat) : ∀ n, p < n → sN (fun x => if x = p then v else D x) n + D p = sN D n + v := by
  intro n
  induction n with
  | zero => intro h; exact absurd h (Nat.not_lt_zero _)
  | succ n ih =>
    intro h
    show sN (fun x => if x = p then v else D x) n + (if n = p then v else D n) + D p = sN D n + D n + v
    by_cases q : n = p
    · subst q
      rw [if_pos rfl, sN_out D n v n (Nat.le_refl _)]; omega
    · rw [if_neg q]
      have := ih (by omega)
      omega
theorem sN_le (D : Nat → Nat) (c : Nat) : ∀ n, (∀ p, p < n → D p ≤ c) → sN D n ≤ c * n := by
  intro n
  induction n with
  | zero => intro _; exact Nat.le_refl _
  | succ n ih =>
    intro h
    have h1 := ih (fun p hp => h p (by omega))
    have h2 := h n (Nat.lt_succ_self _)
    show sN D n + D n ≤ c * (n + 1)
    rw [Nat.mul_succ]; omega
theorem DS.at5 {M : sx_M} {k : Nat} {A : SH} (h : DS M k A) {P : Nat → Nat → Prop} {M' : sx_M} (hf : Fr P M M') (hp : ¬ P k 0) : DS M' k A := h.fr hf hp
theorem row3_25 {k : Nat} (hk : row3 k) : ¬ pRw 25 k 0 := fun q => by
  have e : k = 25 := q.1
  rcases hk with h | h | h <;> omega
/-- depths on the way: D -/
def DP (M : sx_M) (A : SH) (D : Nat → Nat) : Prop := ∀ p, p < 24 → M.1 25 0 p = nI (D p) ∧ D p ≤ 99 ∧ (D p < 99 → A.g.lev (hol A.P) (D p) (p + 4) = true) ∧ (A.P p = true → D p = 0)
def upD (D : Nat → Nat) (t : Nat) : Nat := if t < 4 then 0 else D (t - 4)
theorem w8_layL2 {M : sx_M} {k N : Nat} {A : SH} {K : sx_M → Option sx_M} {Q : sx_M → Prop} (hk : row3 k) (h : DS M k A) (hI : IS A) (hN : 24 < N) (hK : ∀ M1, Fr (pRw 25) M M1 → DP M1 A (fun p => if A.P p then 0 else 99) → wp (K M1) Q) : wp (f8_lay_L2 k K N 0 M) Q := by
  obtain ⟨-, -, -, hT, hP, hw, -⟩ := id hI
  have h24 := hw.1
  refine wp_up (F := fun n x1 M1 => f8_lay_L2 k K n x1 M1) 24 (fun j M1 => Fr (pRw 25) M M1 ∧ ∀ p, p < j → M1.1 25 0 p = nI (if A.P p then 0 else 99)) (fun n j M1 hj hI kk => ?_) (fun n M1 hI => ?_) N 0 M (by omega) (by omega) ⟨Fr.rf, fun p hp => absurd hp (Nat.not_lt_zero _)⟩
  · obtain ⟨f1, f2⟩ := hI
    have d1 := h.fr f1 (row3_25 hk)
    have st : ∀ v : Nat, v = (if A.P j then 0 else 99) → wp (if sx_in (nI j) 24 then
        sx_bd (sx_set M1 25 0 (nI j).toNatClampNeg (nI v)) fun M4 =>
        sx_bd (nI j + (1 : Int32)) fun v5 =>
        f8_lay_L2 k K n v5 M4
        else none) Q := fun v hv => by
      refine wp_ifp (sx_in_n hj (by omega)) ?_
      with_reducible refine wp_bd ?_
      with_reducible refine wp_bd ?_
      rw [nI_cl (by omega)]
      refine kk _ ⟨f1.set (pRw_i 25), fun p hp => ?_⟩
      by_cases q : p = j
      · subst q; rw [rd_e, hv]
      · rw [rd_n _ _ _ _ _ _ _ _ q]; exact f2 p (by omega)
    show wp (f8_lay_L2 k K (n + 1) (nI j) M1) _
    rw [f8_lay_L2]
    refine wp_ifn (by rw [show (24 : Int32) = nI 24 from rfl, iI_le (by omega) (by omega)]; omega) ?_
    obtain ⟨r, e, hr⟩ := w8_isPart hk d1 (fun p _ => hT p) (nI j)
    refine wp_call e ?_
    with_reducible refine wp_bd ?_
    with_reducible refine wp_bd ?_
    rcases hr with ⟨rfl, p', hp', ep', hTp⟩ | ⟨rfl, hno⟩
    · rw [iI_eq (by omega) (by omega)] at ep'
      subst ep'
      refine wp_ifn (by decide) ?_
      refine wp_call (w8_pa2 _ _) ?_
      refine wp_ifp (in3 hk (by omega)) ?_
      with_reducible refine wp_bd ?_
      have ep : M1.1 k 0 (nI (7 + 4 * j + 2)).toNatClampNeg = bI01 (A.P j) := by
        rw [nI_cl (by omega)]; exact (d1.2.2.2.2.2.2.2.1 j (hT j hTp)).2.2
      rw [ep]
      with_reducible refine wp_if (fun c => ?_) (fun c => ?_) <;> rw [bI01_1] at c
      · exact st 0 (by rw [c]; rfl)
      · rw [Bool.not_eq_true] at c
        exact st 99 (by rw [c]; rfl)
    · refine wp_ifp rfl ?_
      refine st 99 ?_
      cases e : A.P j with
      | false => rfl
      | true => exact absurd ⟨j, hj, rfl, hP j e⟩ hno
  · obtain ⟨f1, f2⟩ := hI
    show wp (f8_lay_L2 k K (n + 1) (nI 24) M1) _
    rw [f8_lay_L2]
    refine wp_ifp (by decide) ?_
    refine hK M1 f1 (fun p hp => ⟨f2 p hp, (by dsimp only; split <;> omega), fun q => ?_, fun q => (by dsimp only; rw [q]; rfl)⟩)
    dsimp only at q ⊢
    cases e : A.P p with
    | false => rw [e] at q; exact absurd q (by decide)
    | true =>
      rw [if_pos rfl]
      show hol A.P (p + 4) = true
      unfold hol
      rw [Nat.add_sub_cancel, e, decide_eq_true (by omega : p + 4 < 28), Bool.and_self, Bool.or_true]
theorem w8_layL55 {M : sx_M} {k N : Nat} {A : SH} {D : Nat → Nat} {K : Int32 → sx_M → Option sx_M} {Q : sx_M → Prop} (hk : row3 k) (h : DS M k A) (hok : A.g.ok) (hD : DP M A D) (hN : 40 < N) (hK : ∀ M1 x D', Fr (pRw 25) M M1 → DP M1 A D' → ((x = 0 ∧ ∀ i, i < A.g.n → A.g.Z i = true → D' (A.g.B i) ≤ upD D' (A.g.A i) + 1) ∨ (x = 1 ∧ sN D' 24 < sN D 24)) → wp (K x M1) Q) : wp (f8_lay_L55 k K N 0 0 M) Q := by
  have h40 := hok.1
  refine wp_up (F := fun n x3 (a : Int32 × (Nat → Nat) × sx_M) => f8_lay_L55 k K n a.1 x3 a.2.2) A.g.n (fun j a => Fr (pRw 25) M a.2.2 ∧ DP a.2.2 A a.2.1 ∧ ((a.1 = 0 ∧ a.2.1 = D ∧ ∀ i, i < j → A.g.Z i = true → D (A.g.B i) ≤ upD D (A.g.A i) + 1) ∨ (a.1 = 1 ∧ sN a.2.1 24 < sN D 24))) (fun n j a hj hI kk => ?_) (fun n a hI => ?_) N 0 (0, D, M) (by omega) (by omega) ⟨Fr.rf, hD, Or.inl ⟨rfl, rfl, fun i hi => absurd hi (Nat.not_lt_zero _)⟩⟩
  · obtain ⟨x2, D1, M1⟩ := a
    obtain ⟨f1, hD1, hx⟩ := hI
    dsimp only at f1 hD1 hx
    have d1 := h.fr f1 (row3_25 hk)
    obtain ⟨g1, g2, g3, g4, g5⟩ := d1.1.2.2 j hj
    have e2 : M1.1 k 0 ((2 : Int32)).toNatClampNeg = nI A.g.n := d1.1.2.1
    obtain ⟨b1, b2, b3, b4⟩ := hD1 (A.g.B j) g2
    have keep : (A.g.Z j = true → D1 (A.g.B j) ≤ upD D1 (A.g.A j) + 1) → wp (f8_lay_L55 k K n x2 (nI j + 1) M1) Q := fun hs => kk (x2, D1, M1) ⟨f1, hD1, by
      rcases hx with ⟨q1, q2, q3⟩ | q
      · subst q2
        exact Or.inl ⟨q1, rfl, fun i hi hz => if e : i = j then by subst e; exact hs hz else q3 i (by omega) hz⟩
      · exact Or.inr q⟩
    show wp (f8_lay_L55 k K (n + 1) x2 (nI j) M1) _
    rw [f8_lay_L55]
    refine wp_ifp (in3 hk (a := 2) (by omega)) ?_
    with_reducible refine wp_bd ?_
    rw [e2]
    refine wp_ifn (by rw [iI_le (by omega) (by omega)]; omega) ?_
    refine wp_call (w8_co0 _ _) ?_
    refine wp_ifp (in3 hk (by omega)) ?_
    with_reducible refine wp_bd ?_
    refine wp_call (w8_co1 _ _) ?_
    refine wp_ifp (in3 hk (by omega)) ?_
    with_reducible refine wp_bd ?_
    with_reducible refine wp_bd ?_
    rw [nI_cl (by omega), nI_cl (by omega), g3, g4]
    have rest : upD D1 (A.g.A j) ≤ 99 → (upD D1 (A.g.A j) < 99 → A.g.lev (hol A.P) (upD D1 (A.g.A j)) (A.g.A j) = true) → wp (sx_bd (nI (upD D1 (A.g.A j)) + (1 : Int32)) fun v19 =>
        (f8_cordAt (nI j) (2 : Int32) M1).bind fun v20 =>
        if sx_in v20 (sx_len k) then
        sx_bd (M1.1 k 0 (v20).toNatClampNeg) fun v21 =>
        sx_bd (fun (v22 : Int32) (M23 : sx_M) =>
          sx_bd (nI j + (1 : Int32)) fun v24 =>
          f8_lay_L55 k K n v22 v24 M23) fun j134 =>
        if v21 = (1 : Int32) then
          if sx_in (nI (A.g.B j)) 24 then
          sx_bd (M1.1 25 0 (nI (A.g.B j)).toNatClampNeg) fun v26 =>
          if v26 ≤ v19 then
            j134 x2 M1
          else
            if sx_in (nI (A.g.B j)) 24 then
            sx_bd (sx_set M1 25 0 (nI (A.g.B j)).toNatClampNeg v19) fun M28 =>
            j134 (1 : Int32) M28
            else none
          else none
        else
          j134 x2 M1
        else none) Q := fun u1 u2 => by
      with_reducible refine wp_bd ?_
      refine wp_call (w8_co2 _ _) ?_
      refine wp_ifp (in3 hk (by omega)) ?_
      with_reducible refine wp_bd ?_
      with_reducible refine wp_bd ?_
      rw [nI_cl (a := 103 + 3 * j + 2) (by omega), g5, iI_succ]
      have b1' : M1.1 25 0 (nI (A.g.B j)).toNatClampNeg = nI (D1 (A.g.B j)) := by rw [nI_cl (by omega)]; exact b1
      with_reducible refine wp_if (fun c => ?_) (fun c => ?_) <;> rw [bI01_1] at c
      · refine wp_ifp (sx_in_n g2 (by omega)) ?_
        with_reducible refine wp_bd ?_
        rw [b1']
        with_reducible refine wp_if (fun c2 => ?_) (fun c2 => ?_) <;> rw [iI_le (by omega) (by omega)] at c2
        · exact keep (fun _ => c2)
        · refine wp_ifp (sx_in_n g2 (by omega)) ?_
          with_reducible refine wp_bd ?_
          rw [nI_cl (a := A.g.B j) (by omega)]
          obtain ⟨U, hU⟩ : ∃ U : Nat → Nat, U = fun x => if x = A.g.B j then upD D1 (A.g.A j) + 1 else D1 x := ⟨_, rfl⟩
          have hU1 : U (A.g.B j) = upD D1 (A.g.A j) + 1 := by rw [hU]; exact if_pos rfl
          have hU2 : ∀ p, p ≠ A.g.B j → U p = D1 p := fun p hp => by rw [hU]; exact if_neg hp
          have hUs : sN U 24 + D1 (A.g.B j) = sN D1 24 + (upD D1 (A.g.A j) + 1) := by rw [hU]; exact sN_upd D1 (A.g.B j) (upD D1 (A.g.A j) + 1) 24 g2
          refine kk (1, U, sx_set M1 25 0 (A.g.B j) (nI (upD D1 (A.g.A j) + 1))) ⟨f1.set (pRw_i 25), fun p hp => ?_, Or.inr ⟨rfl, ?_⟩⟩
          · show (sx_set M1 25 0 (A.g.B j) (nI (upD D1 (A.g.A j) + 1))).1 25 0 p = nI (U p) ∧ U p ≤ 99 ∧ (U p < 99 → A.g.lev (hol A.P) (U p) (p + 4) = true) ∧ (A.P p = true → U p = 0)
            by_cases q : p = A.g.B j
            · subst q
              rw [rd_e, hU1]
              refine ⟨rfl, by omega, fun _ => ?_, fun hPq => by have := b4 hPq; omega⟩
              have hl := u2 (by omega)
              have hnx : A.g.nx (A.g.lev (hol A.P) (upD D1 (A.g.A j))) (A.g.B j + 4) = true := GT.nx_iff.mpr ⟨j, hj, c, hl, rfl⟩
              show (A.g.lev (hol A.P) (upD D1 (A.g.A j)) (A.g.B j + 4) || A.g.nx (A.g.lev (hol A.P) (upD D1 (A.g.A j))) (A.g.B j + 4)) = true
              rw [hnx, Bool.or_true]
            · rw [rd_n _ _ _ _ _ _ _ _ q, hU2 p q]
              exact hD1 p hp
          · show sN U 24 < sN D 24
            rcases hx with ⟨-, q2, -⟩ | ⟨-, q⟩
            · subst q2; omega
            · omega
      · exact keep (fun q => absurd q c)
    with_reducible refine wp_if (fun c => ?_) (fun c => ?_) <;> rw [tI_pos (by omega)] at c
    · have ea : tI (A.g.A j) = nI (A.g.A j - 4) := tI_ge c
      rw [ea]
      refine wp_ifp (sx_in_n (by omega) (by omega)) ?_
      with_reducible refine wp_bd ?_
      have hu : upD D1 (A.g.A j) = D1 (A.g.A j - 4) := if_neg (by omega)
      obtain ⟨a1, a2, a3, a4⟩ := hD1 (A.g.A j - 4) (by omega)
      have a1' : M1.1 25 0 (nI (A.g.A j - 4)).toNatClampNeg = nI (upD D1 (A.g.A j)) := by rw [nI_cl (by omega), a1, hu]
      rw [a1']
      refine rest (by rw [hu]; exact a2) (fun q => ?_)
      rw [hu] at q ⊢
      have := a3 q
      rw [show A.g.A j - 4 + 4 = A.g.A j by omega] at this
      exact this
    · have hu : upD D1 (A.g.A j) = 0 := if_pos (by omega)
      have := rest (by rw [hu]; omega) (fun _ => by
        rw [hu]
        show hol A.P (A.g.A j) = true
        unfold hol
        rw [decide_eq_true (by omega : A.g.A j < 4)]; rfl)
      rw [hu] at this
      exact this
  · obtain ⟨x2, D1, M1⟩ := a
    obtain ⟨f1, hD1, hx⟩ := hI
    dsimp only at f1 hD1 hx
    have d1 := h.fr f1 (row3_25 hk)
    have e2 : M1.1 k 0 ((2 : Int32)).toNatClampNeg = nI A.g.n := d1.1.2.1
    show wp (f8_lay_L55 k K (n + 1) x2 (nI A.g.n) M1) _
    rw [f8_lay_L55]
    refine wp_ifp (in3 hk (a := 2) (by omega)) ?_
    with_reducible refine wp_bd ?_
    rw [e2]
    refine wp_ifp (by rw [iI_le (by omega) (by omega)]; omega) ?_
    refine hK M1 x2 D1 f1 hD1 ?_
    rcases hx with ⟨q1, q2, q3⟩ | q
    · subst q2; exact Or.inl ⟨q1, q3⟩
    · exact Or.inr q
/-- the depths as they are -/
def DL (M : sx_M) (A : SH) : Prop := ∃ D : Nat → Nat, ∀ p, p < 24 → M.1 25 0 p = nI (D p) ∧ ((A.H p = false ∧ D p = 99) ∨ (A.H p = true ∧ D p ≤ 24 ∧ A.g.dp (hol A.P) (p + 4) (D p)))
theorem DL_of {M : sx_M} {A : SH} {D : Nat → Nat} (hok : A.g.ok) (hD : DP M A D) (hs : ∀ i, i < A.g.n → A.g.Z i = true → D (A.g.B i) ≤ upD D (A.g.A i) + 1) : DL M A := by
  have low : ∀ d p, p < 24 → A.g.lev (hol A.P) d (p + 4) = true → D p ≤ d := by
    intro d
    induction d with
    | zero =>
      intro p hp q
      have q' : hol A.P (p + 4) = true := q
      unfold hol at q'
      rw [Nat.add_sub_cancel, decide_eq_false (by omega : ¬ p + 4 < 4), Bool.false_or, Bool.and_eq_true] at q'
      exact Nat.le_of_eq ((hD p hp).2.2.2 q'.2)
    | succ d ih =>
      intro p hp q
      have q' : (A.g.lev (hol A.P) d (p + 4) || A.g.nx (A.g.lev (hol A.P) d) (p + 4)) = true := q
      rw [Bool.or_eq_true] at q'
      rcases q' with q' | q'
      · have := ih p hp q'; omega
      · obtain ⟨i, hi, hz, hx, e⟩ := GT.nx_iff.mp q'
        have eb : A.g.B i = p := by omega
        have := hs i hi hz
        rw [eb] at this
        unfold upD at this
        by_cases q4 : A.g.A i < 4
        · rw [if_pos q4] at this; omega
        · rw [if_neg q4] at this
          have ha := (hok.2 i hi).1
          have := ih (A.g.A i - 4) (by omega) (by rw [show A.g.A i - 4 + 4 = A.g.A i by omega]; exact hx)
          omega
  refine ⟨D, fun p hp => ?_⟩
  obtain ⟨q1, q2, q3, q4⟩ := hD p hp
  refine ⟨q1, ?_⟩
  cases e : A.H p with
  | false =>
    refine Or.inl ⟨rfl, ?_⟩
    by_cases q : D p < 99
    · have := GT.held_of hok (by omega) (q3 q)
      have e' : A.g.held (hol A.P) (p + 4) = false := e
      rw [e'] at this; cases this
    · omega
  | true =>
    have h24 := low 24 p hp e
    refine Or.inr ⟨rfl, h24, q3 (by omega), fun d hd => ?_⟩
    cases e2 : A.g.lev (hol A.P) d (p + 4) with
    | false => rfl
    | true => have := low d p hp e2; omega
theorem w8_lay {M : sx_M} {k : Nat} {A : SH} (hk : row3 k) (h : DS M k A) (hI : IS A) : wp (f8_lay k M) (fun M' => DL M' A ∧ Fr (pRw 25) M M') := by
  rw [f8_lay]
  refine w8_layL2 hk h hI (by omega) (fun M1 f1 hD1 => ?_)
  have hok := hI.1
  have hs0 : sN (fun p => if A.P p then 0 else 99) 24 ≤ 99 * 24 := sN_le _ 99 24 (fun p _ => by show (if A.P p then 0 else 99) ≤ 99; split <;> omega)
  generalize (fun p => if A.P p then 0 else 99 : Nat → Nat) = D0 at hD1 hs0
  refine wp_wh (F := fun n (a : Int32 × (Nat → Nat) × sx_M) => f8_lay_L47 k n a.1 a.2.2) (fun a => if a.1 = 0 then 0 else 1 + sN a.2.1 24) (fun a => Fr (pRw 25) M a.2.2 ∧ DP a.2.2 A a.2.1 ∧ (a.1 = 0 → ∀ i, i < A.g.n → A.g.Z i = true → a.2.1 (A.g.B i) ≤ upD a.2.1 (A.g.A i) + 1)) (fun n a hI2 kk => ?_) 5000 (1, D0, M1) ?_ ⟨f1, hD1, fun q => absurd (show (1 : Int32) = 0 from q) (by decide)⟩
  · obtain ⟨x, D, M2⟩ := a
    obtain ⟨f2, hD2, hs⟩ := hI2
    dsimp only at f2 hD2 hs
    show wp (f8_lay_L47 k (n + 1) x M2) _
    rw [f8_lay_L47]
    with_reducible refine wp_if (fun c => ?_) (fun c => ?_)
    · exact wp_some ⟨DL_of hok hD2 (hs c), f2⟩
    · refine w8_layL55 hk (h.fr f2 (row3_25 hk)) hok hD2 (by omega) (fun M3 x3 D3 f3 hD3 hx => ?_)
      refine kk (x3, D3, M3) ⟨f2.trans f3, hD3, fun q => ?_⟩ ?_
      · rcases hx with ⟨-, q2⟩ | ⟨q2, -⟩
        · exact q2
        · have q' : x3 = 0 := q
          rw [q'] at q2; exact absurd q2 (by decide)
      · dsimp only
        rw [if_neg c]
        rcases hx with ⟨q1, -⟩ | ⟨q1, q2⟩
        · rw [if_pos q1]; omega
        · rw [q1, if_neg (by decide)]; omega
  · dsimp only
    rw [if_neg (by decide)]
    omega
theorem nI_99 {a : Nat} (h : a < 1000) : (99 : Int32) ≤ nI a ↔ 99 ≤ a := iI_le (a := 99) (by omega) (by omega)
theorem DL.cell {M : sx_M} {A : SH} (h : DL M A) {p : Nat} (hp : p < 24) : (99 : Int32) ≤ M.1 25 0 p ↔ A.H p = false := by
  obtain ⟨D, hD⟩ := h
  obtain ⟨q1, q2⟩ := hD p hp
  rw [q1]
  rcases q2 with ⟨a, b⟩ | ⟨a, b, -⟩
  · rw [nI_99 (by omega), a, b]; simp
  · rw [nI_99 (by omega), a]
    exact ⟨fun q => by omega, fun q => by cases q⟩
theorem w8_heldMany {M : sx_M} {k : Nat} {A : SH} (hk : row3 k) (h : DS M k A) (hI : IS A) : wp (f8_heldMany k M) (fun r => r.1 = nI (fb_ct A.H 24) ∧ DL r.2 A ∧ Fr (pRw 25) M r.2) := by
  rw [f8_heldMany]
  obtain ⟨M1, e1, hl, f1⟩ := w8_lay hk h hI
  refine wp_call e1 ?_
  refine wp_up (F := fun m x3 x2 => f8_heldMany_L9 M1 m x2 x3) 24 (fun j x => x = nI (fb_ct A.H j)) (fun m j a hj hI kk => ?_) (fun m a hI => ?_) 5000 0 0 (by omega) (by omega) rfl
  · subst hI
    have ect := fb_ct_bI A.H j
    show wp (f8_heldMany_L9 M1 (m + 1) _ (nI j)) _
    rw [f8_heldMany_L9]
    refine wp_ifn (by rw [show (24 : Int32) = nI 24 from rfl, iI_le (by omega) (by omega)]; omega) ?_
    refine wp_ifp (sx_in_n hj (by omega)) ?_
    with_reducible refine wp_bd ?_
    with_reducible refine wp_bd ?_
    rw [nI_cl (by omega)]
    with_reducible refine wp_if (fun c => ?_) (fun c => ?_) <;> rw [hl.cell hj] at c
    · exact kk _ (by rw [← ect, c]; rfl)
    · rw [Bool.not_eq_false] at c
      exact kk _ (by rw [← ect, c]; rfl)
  · subst hI
    show wp (f8_heldMany_L9 M1 (m + 1) _ (nI 24)) _
    rw [f8_heldMany_L9]
    refine wp_ifp (by decide) ?_
    exact wp_some ⟨rfl, hl, f1⟩
theorem sw_more {X : Nat → Bool} {W : Nat → Int32} {m : Nat} (h : ∀ p, m ≤ p → p < 24 → X p = false) : ∀ n, m ≤ n → n ≤ 24 → sw X W n = sw X W m := by
  intro n
  induction n with
  | zero => intro h1 _; rw [show m = 0 by omega]
  | succ n ih =>
    intro h1 h2
    by_cases q : m = n + 1
    · rw [q]
    · rw [sw_succ, h n (by omega) (by omega), ih (by omega) (by omega)]
      exact Int32.add_zero _
theorem IS.Hm {A : SH} (h : IS A) {p : Nat} (hp : p < 24) (q : A.H p = true) : p < A.m := h.2.2.2.1 p (h.heldT hp q)
theorem w8_heldWeight {M : sx_M} {k : Nat} {A : SH} (hk : row3 k) (h : DS M k A) (hI : IS A) : wp (f8_heldWeight k M) (fun r => r.1 = sw A.H A.W A.m ∧ DL r.2 A ∧ Fr (pRw 25) M r.2) := by
  rw [f8_heldWeight]
  obtain ⟨M1, e1, hl, f1⟩ := w8_lay hk h hI
  have d1 := h.fr f1 (row3_25 hk)
  have h24 := h.2.1
  have hm : ∀ p, A.m ≤ p → p < 24 → A.H p = false := fun p hp1 hp2 => by
    cases e : A.H p with
    | false => rfl
    | true => have := hI.Hm hp2 e; omega
  refine wp_call e1 ?_
  refine wp_up (F := fun m x3 x2 => f8_heldWeight_L9 k M1 m x2 x3) 24 (fun j x => x = sw A.H A.W j) (fun m j a hj hI2 kk => ?_) (fun m a hI2 => ?_) 5000 0 0 (by omega) (by omega) rfl
  · subst hI2
    show wp (f8_heldWeight_L9 k M1 (m + 1) _ (nI j)) _
    rw [f8_heldWeight_L9]
    refine wp_ifn (by rw [show (24 : Int32) = nI 24 from rfl, iI_le (by omega) (by omega)]; omega) ?_
    refine wp_ifp (sx_in_n hj (by omega)) ?_
    with_reducible refine wp_bd ?_
    with_reducible refine wp_bd ?_
    rw [nI_cl (by omega)]
    with_reducible refine wp_if (fun c => ?_) (fun c => ?_) <;> rw [hl.cell hj] at c
    · exact kk _ (by rw [sw_succ, c]; rfl)
    · rw [Bool.not_eq_false] at c
      refine wp_call (w8_pa0 _ _) ?_
      refine wp_ifp (in3 hk (by omega)) ?_
      with_reducible refine wp_bd ?_
      rw [nI_cl (by omega), (d1.2.2.2.2.2.2.2.1 j (hI.Hm hj c)).1]
      exact kk _ (by rw [sw_succ, c]; rfl)
  · subst hI2
    show wp (f8_heldWeight_L9 k M1 (m + 1) _ (nI 24)) _
    rw [f8_heldWeight_L9]
    refine wp_ifp (by decide) ?_
    exact wp_some ⟨sw_more hm 24 h24 (Nat.le_refl _), hl, f1⟩
