/-! THE REFERENCE BEGINS A SWEEP -/
theorem in3 {k a : Nat} (hk : row3 k) (ha : a < 247) : sx_in (nI a) (sx_len k) := by rw [row3_len hk]; exact sx_in_n ha (by omega)
theorem shadeN_same (A : SH) (c : Nat → Bool) (pt : Nat → Nat) : ∀ n, (A.shadeN c pt n).1 = A.1 ∧ (A.shadeN c pt n).2.1 = A.2.1 ∧ (A.shadeN c pt n).G = A.G ∧ (A.shadeN c pt n).2.2.2 = A.2.2.2 ∧ (A.shadeN c pt n).b = A.b
  | 0 => ⟨rfl, rfl, rfl, rfl, rfl⟩
  | n + 1 => by
    obtain ⟨h1, h2, h3, h4, h5⟩ := shadeN_same A c pt n
    show ((A.shadeN c pt n).shadeIf (c n) (pt n)).1 = A.1 ∧ ((A.shadeN c pt n).shadeIf (c n) (pt n)).2.1 = A.2.1 ∧ ((A.shadeN c pt n).shadeIf (c n) (pt n)).G = A.G ∧ ((A.shadeN c pt n).shadeIf (c n) (pt n)).2.2.2 = A.2.2.2 ∧ ((A.shadeN c pt n).shadeIf (c n) (pt n)).b = A.b
    cases c n with
    | false => exact ⟨h1, h2, h3, h4, h5⟩
    | true => exact ⟨h1, h2, h3, h4, h5⟩
theorem WS.shadeIf {A : SH} (h : WS A) (c : Bool) (p : Nat) : WS (A.shadeIf c p) := by
  cases c with
  | false => exact h
  | true => exact h.shade p
theorem WS.shadeN {A : SH} (h : WS A) (c : Nat → Bool) (pt : Nat → Nat) : ∀ n, WS (A.shadeN c pt n)
  | 0 => h
  | n + 1 => WS.shadeIf (WS.shadeN h c pt n) (c n) (pt n)
theorem shadeIf_w (A : SH) (c : Bool) (p x : Nat) (h : (A.shadeIf c p).w x = true) : A.w x = true := by
  cases c with
  | false => exact h
  | true =>
    have h' : (A.w x && !decide (x = p)) = true := h
    rw [Bool.and_eq_true] at h'
    exact h'.1
theorem shadeN_w (A : SH) (c : Nat → Bool) (pt : Nat → Nat) (x : Nat) : ∀ n, (A.shadeN c pt n).w x = true → A.w x = true
  | 0, h => h
  | n + 1, h => shadeN_w A c pt x n (shadeIf_w _ _ _ _ h)
/-- parts that are not there do not turn gray -/
theorem shadeN_stop {A : SH} {c : Nat → Bool} {m : Nat} (h : ∀ p, m ≤ p → A.w p = false) : ∀ n, m ≤ n → A.shadeN c (fun p => p) n = A.shadeN c (fun p => p) m := by
  intro n
  induction n with
  | zero => intro hn; rw [show m = 0 by omega]
  | succ n ih =>
    intro hn
    by_cases q : m = n + 1
    · rw [q]
    · rw [← ih (by omega)]
      show (A.shadeN c (fun p => p) n).shadeIf (c n) n = _
      have hw : (A.shadeN c (fun p => p) n).w n = false := by
        cases e : (A.shadeN c (fun p => p) n).w n with
        | false => rfl
        | true => have h1 := shadeN_w A c _ n n e; rw [h n (by omega)] at h1; cases h1
      cases c n with
      | false => rfl
      | true => exact shade_no hw
theorem w8_beL1 {M : sx_M} {k m N : Nat} {K : sx_M → Option (Int32 × sx_M)} {Q : Int32 × sx_M → Prop} (hk : row3 k) (h0 : M.1 k 0 0 = nI m) (hm : m ≤ 24) (hN : m < N) (hK : ∀ M1, Fr (pRw k) M M1 → (∀ p, p < m → M1.1 k 0 (7 + 4 * p + 3) = 0) → (∀ i, (∀ p, p < m → i ≠ 7 + 4 * p + 3) → M1.1 k 0 i = M.1 k 0 i) → wp (K M1) Q) : wp (f8_beginIn_L11 k K N 0 M) Q := by
  refine wp_up (F := fun n x1 M1 => f8_beginIn_L11 k K n x1 M1) m (fun j M1 => Fr (pRw k) M M1 ∧ (∀ p, p < j → M1.1 k 0 (7 + 4 * p + 3) = 0) ∧ (∀ i, (∀ p, p < j → i ≠ 7 + 4 * p + 3) → M1.1 k 0 i = M.1 k 0 i)) (fun n j M1 hj hI kk => ?_) (fun n M1 hI => ?_) N 0 M (by omega) (by omega) ⟨Fr.rf, fun p hp => absurd hp (Nat.not_lt_zero _), fun _ _ => rfl⟩
  · obtain ⟨f1, f2, f3⟩ := hI
    have e0 : M1.1 k 0 ((0 : Int32)).toNatClampNeg = nI m := (f3 0 (fun p hp => by omega)).trans h0
    show wp (f8_beginIn_L11 k K (n + 1) (nI j) M1) _
    rw [f8_beginIn_L11]
    refine wp_ifp (in3 hk (a := 0) (by omega)) ?_
    with_reducible refine wp_bd ?_
    rw [e0]
    refine wp_ifn (by rw [iI_le (by omega) (by omega)]; omega) ?_
    refine wp_call (w8_pa3 _ _) ?_
    refine wp_ifp (in3 hk (by omega)) ?_
    with_reducible refine wp_bd ?_
    with_reducible refine wp_bd ?_
    rw [nI_cl (by omega)]
    refine kk _ ⟨f1.set (pRw_i k), fun p hp => ?_, fun i hi => ?_⟩
    · by_cases q : p = j
      · subst q; rw [rd_e]
      · rw [rd_n _ _ _ _ _ _ _ _ (by omega)]; exact f2 p (by omega)
    · rw [rd_n _ _ _ _ _ _ _ _ (hi j (Nat.lt_succ_self _))]; exact f3 i (fun p hp => hi p (by omega))
  · obtain ⟨f1, f2, f3⟩ := hI
    have e0 : M1.1 k 0 ((0 : Int32)).toNatClampNeg = nI m := (f3 0 (fun p hp => by omega)).trans h0
    show wp (f8_beginIn_L11 k K (n + 1) (nI m) M1) _
    rw [f8_beginIn_L11]
    refine wp_ifp (in3 hk (a := 0) (by omega)) ?_
    with_reducible refine wp_bd ?_
    rw [e0]
    refine wp_ifp (by rw [iI_le (by omega) (by omega)]; omega) ?_
    exact hK M1 f1 f2 f3
theorem w8_beL2 {M : sx_M} {k p N : Nat} {g : GT} {b : Bool} {K : Int32 → Option (Int32 × sx_M)} {Q : Int32 × sx_M → Prop} (hk : row3 k) (h : GD M k g) (hp : p < 24) (hN : g.n < N) (hK : wp (K (bI01 (b || g.nx (fun t => decide (t < 4)) (p + 4)))) Q) : wp (f8_beginIn_L60 k (nI p) M K N (bI01 b) 0) Q := by
  obtain ⟨h40, hn, hg⟩ := h
  have hn2 : M.1 k 0 ((2 : Int32)).toNatClampNeg = nI g.n := hn
  have hnx : g.nx (fun t => decide (t < 4)) (p + 4) = anyN (fun i => g.Z i && decide (g.A i < 4) && decide (p + 4 = g.B i + 4)) g.n := rfl
  refine wp_up (F := fun m x3 x2 => f8_beginIn_L60 k (nI p) M K m x2 x3) g.n (fun j x => x = bI01 (b || anyN (fun i => g.Z i && decide (g.A i < 4) && decide (p + 4 = g.B i + 4)) j)) (fun m j x hj hI kk => ?_) (fun m x hI => ?_) N 0 (bI01 b) (by omega) (by omega) (by show bI01 b = bI01 (b || false); rw [Bool.or_false])
  · subst hI
    obtain ⟨g1, g2, g3, g4, g5⟩ := hg j hj
    have ea : anyN (fun i => g.Z i && decide (g.A i < 4) && decide (p + 4 = g.B i + 4)) (j + 1) = (anyN (fun i => g.Z i && decide (g.A i < 4) && decide (p + 4 = g.B i + 4)) j || (g.Z j && decide (g.A j < 4) && decide (p + 4 = g.B j + 4))) := rfl
    rw [ea] at kk
    show wp (f8_beginIn_L60 k (nI p) M K (m + 1) _ (nI j)) _
    rw [f8_beginIn_L60]
    refine wp_ifp (in3 hk (a := 2) (by omega)) ?_
    with_reducible refine wp_bd ?_
    rw [hn2]
    refine wp_ifn (by rw [iI_le (by omega) (by omega)]; omega) ?_
    with_reducible refine wp_bd ?_
    with_reducible refine wp_bd ?_
    cases hb : (b || anyN (fun i => g.Z i && decide (g.A i < 4) && decide (p + 4 = g.B i + 4)) j) with
    | true =>
      refine wp_ifn (by decide) ?_
      with_reducible refine wp_bd ?_
      exact kk 1 (by rw [← Bool.or_assoc, hb]; rfl)
    | false =>
      refine wp_ifp rfl ?_
      refine wp_call (w8_co0 _ _) ?_
      refine wp_ifp (in3 hk (by omega)) ?_
      with_reducible refine wp_bd ?_
      with_reducible refine wp_bd ?_
      rw [nI_cl (by omega), g3]
      have no : (g.Z j && decide (g.A j < 4) && decide (p + 4 = g.B j + 4)) = false → _ := fun hc => kk 0 (by rw [← Bool.or_assoc, hb, hc]; rfl)
      with_reducible refine wp_if (fun c => ?_) (fun c => ?_) <;> rw [tI_pos (by omega)] at c
      · exact no (by rw [decide_eq_false (by omega : ¬ g.A j < 4), Bool.and_false, Bool.false_and])
      · refine wp_call (w8_co1 _ _) ?_
        refine wp_ifp (in3 hk (by omega)) ?_
        with_reducible refine wp_bd ?_
        rw [nI_cl (by omega), g4]
        with_reducible refine wp_if (fun c2 => ?_) (fun c2 => ?_) <;> rw [iI_eq (by omega) (by omega)] at c2
        · refine wp_call (w8_co2 _ _) ?_
          refine wp_ifp (in3 hk (by omega)) ?_
          with_reducible refine wp_bd ?_
          rw [nI_cl (by omega), g5]
          with_reducible refine wp_if (fun c3 => ?_) (fun c3 => ?_) <;> rw [bI01_1] at c3
          · exact kk 1 (by rw [← Bool.or_assoc, hb, c3, decide_eq_true (by omega : g.A j < 4), decide_eq_true (by omega : p + 4 = g.B j + 4)]; rfl)
          · rw [Bool.not_eq_true] at c3
            exact no (by rw [c3]; rfl)
        · exact no (by rw [decide_eq_false (by omega : ¬ p + 4 = g.B j + 4), Bool.and_false])
  · subst hI
    show wp (f8_beginIn_L60 k (nI p) M K (m + 1) _ (nI g.n)) _
    rw [f8_beginIn_L60]
    refine wp_ifp (in3 hk (a := 2) (by omega)) ?_
    with_reducible refine wp_bd ?_
    rw [hn2]
    refine wp_ifp (by rw [iI_le (by omega) (by omega)]; omega) ?_
    rw [hnx] at hK
    exact hK
theorem begun_WS {A : SH} (hm : A.m ≤ 24) (hT : ∀ p, A.T p = true → p < A.m) : WS A.begun := ⟨hm, List.nodup_nil, fun x hx => absurd hx List.not_mem_nil, fun p hp => ⟨hT p hp, rfl⟩⟩
theorem w8_beginIn {M : sx_M} {k : Nat} {A : SH} (hk : row3 k) (h : DS M k A) (hT : ∀ p, A.T p = true → p < A.m) : wp (f8_beginIn k M) (fun r => r.1 = nI A.begin.q.length ∧ DS r.2 k A.begin ∧ Fr (pRw k) M r.2) := by
  obtain ⟨h1, h2, h3, h4, h5, h6, h7, h8, h9⟩ := id h
  have h40 := h1.1
  have hT0 : ∀ p, p < 24 → A.T p = true → p < A.m := fun p _ q => hT p q
  rw [f8_beginIn]
  refine wp_ifp (in3 hk (a := 3) (by omega)) ?_
  with_reducible refine wp_bd ?_
  refine wp_ifp (in3 hk (a := 6) (by omega)) ?_
  with_reducible refine wp_bd ?_
  have f2 : Fr (pRw k) M (sx_set (sx_set M k 0 ((3 : Int32)).toNatClampNeg (1 : Int32)) k 0 ((6 : Int32)).toNatClampNeg (0 : Int32)) := (Fr.rf.set (pRw_i k)).set (pRw_i k)
  have v3 : (sx_set (sx_set M k 0 ((3 : Int32)).toNatClampNeg (1 : Int32)) k 0 ((6 : Int32)).toNatClampNeg (0 : Int32)).1 k 0 3 = 1 := (rd_n _ _ _ _ _ _ _ _ (by decide)).trans (rd_e _ _ _ _ _)
  have v6 : (sx_set (sx_set M k 0 ((3 : Int32)).toNatClampNeg (1 : Int32)) k 0 ((6 : Int32)).toNatClampNeg (0 : Int32)).1 k 0 6 = 0 := rd_e _ _ _ _ _
  have vo : ∀ i, i ≠ 3 → i ≠ 6 → (sx_set (sx_set M k 0 ((3 : Int32)).toNatClampNeg (1 : Int32)) k 0 ((6 : Int32)).toNatClampNeg (0 : Int32)).1 k 0 i = M.1 k 0 i := fun i h3 h6 => (rd_n _ _ _ _ _ _ _ _ h6).trans (rd_n _ _ _ _ _ _ _ _ h3)
  generalize sx_set (sx_set M k 0 ((3 : Int32)).toNatClampNeg (1 : Int32)) k 0 ((6 : Int32)).toNatClampNeg (0 : Int32) = M2 at f2 v3 v6 vo ⊢
  refine w8_beL1 hk ((vo 0 (by omega) (by omega)).trans h3) h2 (by omega) (fun M8 f8 c1 c2 => ?_)
  have rd : ∀ i, i ≠ 3 → i ≠ 6 → (∀ p, p < A.m → i ≠ 7 + 4 * p + 3) → M8.1 k 0 i = M.1 k 0 i := fun i q3 q6 qc => (c2 i qc).trans (vo i q3 q6)
  have d8 : DS M8 k A.begun := by
    refine ⟨⟨h1.1, ?_, fun i hi => ?_⟩, h2, ?_, ?_, ?_, ?_, ?_, fun x hx => ?_, fun _ => ⟨?_, fun e he => absurd he (Nat.not_lt_zero _), fun x hx hTx => ?_⟩⟩
    · rw [rd 2 (by omega) (by omega) (fun p _ => by omega)]; exact h1.2.1
    · have hi' : i < A.g.n := hi
      obtain ⟨g1, g2, g3, g4, g5⟩ := h1.2.2 i hi
      exact ⟨g1, g2, (rd _ (by omega) (by omega) (fun p _ => by omega)).trans g3, (rd _ (by omega) (by omega) (fun p _ => by omega)).trans g4, (rd _ (by omega) (by omega) (fun p _ => by omega)).trans g5⟩
    · rw [rd 0 (by omega) (by omega) (fun p _ => by omega)]; exact h3
    · rw [rd 1 (by omega) (by omega) (fun p _ => by omega)]; exact h4
    · rw [c2 3 (fun p _ => by omega)]; exact v3
    · rw [rd 4 (by omega) (by omega) (fun p _ => by omega)]; exact h6
    · rw [rd 5 (by omega) (by omega) (fun p _ => by omega)]; exact h7
    · have hx' : x < A.m := hx
      obtain ⟨g3, g4, g5⟩ := h8 x hx
      exact ⟨(rd _ (by omega) (by omega) (fun p _ => by omega)).trans g3, (rd _ (by omega) (by omega) (fun p _ => by omega)).trans g4, (rd _ (by omega) (by omega) (fun p _ => by omega)).trans g5⟩
    · rw [c2 6 (fun p _ => by omega)]; exact v6
    · rw [c1 x hx]
      have hTx' : A.T x = true := hTx
      show (0 : Int32) = if A.T x then 0 else _
      rw [hTx']; rfl
  have f28 := f2.trans f8
  have w8 := begun_WS h2 hT
  have est : A.begun.shadeN A.first (fun p => p) 24 = A.begun.shadeN A.first (fun p => p) A.m := shadeN_stop (fun p hp => by
    show A.T p = false
    cases e : A.T p with
    | false => rfl
    | true => have := hT p e; omega) 24 h2
  refine wp_up (F := fun m x1 M1 => f8_beginIn_L34 k m x1 M1) A.m (fun j M1 => DS M1 k (A.begun.shadeN A.first (fun p => p) j) ∧ Fr (pRw k) M M1) (fun m j M1 hj hI kk => ?_) (fun m M1 hI => ?_) 5000 0 M8 (by omega) (by omega) ⟨d8, f28⟩
  · obtain ⟨d1, f1⟩ := hI
    obtain ⟨s1, s2, s3, s4, s5⟩ := shadeN_same A.begun A.first (fun p => p) j
    have wB := w8.shadeN A.first (fun p => p) j
    have kk' : ∀ M', DS M' k ((A.begun.shadeN A.first (fun p => p) j).shadeIf (A.first j) j) → Fr (pRw k) M M' → _ := fun M' q1 q2 => kk M' ⟨q1, q2⟩
    have wT : ∀ x, (A.begun.shadeN A.first (fun p => p) j).w x = true → A.T x = true := fun x q => shadeN_w A.begun A.first _ x j q
    generalize A.begun.shadeN A.first (fun p => p) j = B at d1 s1 s2 s3 s4 s5 wB kk' wT
    have sm : B.m = A.m := congrArg (fun z => z.1) s2
    have sT : B.T = A.T := congrArg (fun z => z.2.1) s2
    have sP : B.P = A.P := congrArg (fun z => z.2.2.1) s2
    have sg : B.g = A.g := s1
    have e0 : M1.1 k 0 ((0 : Int32)).toNatClampNeg = nI A.m := by rw [← sm]; exact d1.2.2.1
    show wp (f8_beginIn_L34 k (m + 1) (nI j) M1) _
    rw [f8_beginIn_L34]
    refine wp_ifp (in3 hk (a := 0) (by omega)) ?_
    with_reducible refine wp_bd ?_
    rw [e0]
    refine wp_ifn (by rw [iI_le (by omega) (by omega)]; omega) ?_
    refine wp_call (w8_pa2 _ _) ?_
    refine wp_ifp (in3 hk (by omega)) ?_
    with_reducible refine wp_bd ?_
    with_reducible refine wp_bd ?_
    have ep : M1.1 k 0 (7 + 4 * j + 2) = bI01 (A.P j) := by
      rw [← sP]; exact (d1.2.2.2.2.2.2.2.1 j (sm ▸ hj)).2.2
    rw [nI_cl (by omega), ep]
    have main : ∀ b : Bool, b = A.P j → wp (f8_beginIn_L60 k (nI j) M1 (fun (v29 : Int32) =>
            sx_bd (fun (M30 : sx_M) =>
              sx_bd (nI j + (1 : Int32)) fun v31 =>
              f8_beginIn_L34 k m v31 M30) fun j132 =>
            if v29 = 0 then
              j132 M1
            else
              (f8_isPart k (nI j) M1).bind fun v33 =>
              if v33 = 0 then
                j132 M1
              else
                (f8_redden k (nI j) M1).bind fun M35 =>
                j132 M35) 5000 (bI01 b) 0) (fun r => r.1 = nI A.begin.q.length ∧ DS r.2 k A.begin ∧ Fr (pRw k) M r.2) := fun b hb => by
      subst hb
      have hg1 : GD M1 k A.g := sg ▸ d1.1
      refine w8_beL2 hk hg1 (by omega) (by omega) ?_
      have ef : (A.P j || A.g.nx (fun t => decide (t < 4)) (j + 4)) = A.first j := rfl
      rw [ef]
      with_reducible refine wp_bd ?_
      cases hf : A.first j with
      | false =>
        refine wp_ifp rfl ?_
        refine kk' M1 ?_ f1
        rw [hf]; exact d1
      | true =>
        rw [hf] at kk'
        refine wp_ifn (by decide) ?_
        obtain ⟨r, e, hr⟩ := w8_isPart hk d1 (by rw [sT, sm]; exact hT0) (nI j)
        refine wp_call e ?_
        rcases hr with ⟨rfl, p', hp', ep', hTp⟩ | ⟨rfl, hno⟩
        · rw [iI_eq (by omega) (by omega)] at ep'
          subst ep'
          refine wp_ifn (by decide) ?_
          obtain ⟨M35, e35, d35, f35⟩ := w8_redden hk d1 wB (p := j) (sm ▸ hj) hTp
          refine wp_call e35 ?_
          exact kk' M35 d35 (f1.trans f35)
        · refine wp_ifp rfl ?_
          refine kk' M1 ?_ f1
          have hwj : B.w j = false := by
            cases e : B.w j with
            | false => rfl
            | true => exact absurd ⟨j, by omega, rfl, by rw [sT]; exact wT j e⟩ hno
          show DS M1 k (B.shade j)
          rw [shade_no hwj]; exact d1
    with_reducible refine wp_if (fun c => ?_) (fun c => ?_) <;> rw [bI01_1] at c
    · have := main true c.symm
      exact this
    · rw [Bool.not_eq_true] at c
      have := main false c.symm
      exact this
  · obtain ⟨d1, f1⟩ := hI
    obtain ⟨s1, s2, s3, s4, s5⟩ := shadeN_same A.begun A.first (fun p => p) A.m
    have sm : (A.begun.shadeN A.first (fun p => p) A.m).m = A.m := congrArg (fun z => z.1) s2
    have e0 : M1.1 k 0 ((0 : Int32)).toNatClampNeg = nI A.m := by rw [← sm]; exact d1.2.2.1
    have e6 : M1.1 k 0 ((6 : Int32)).toNatClampNeg = nI (A.begun.shadeN A.first (fun p => p) A.m).q.length := (d1.2.2.2.2.2.2.2.2 s3).1
    show wp (f8_beginIn_L34 k (m + 1) (nI A.m) M1) _
    rw [f8_beginIn_L34]
    refine wp_ifp (in3 hk (a := 0) (by omega)) ?_
    with_reducible refine wp_bd ?_
    rw [e0]
    refine wp_ifp (by rw [iI_le (by omega) (by omega)]; omega) ?_
    refine wp_ifp (in3 hk (a := 6) (by omega)) ?_
    with_reducible refine wp_bd ?_
    rw [e6]
    unfold SH.begin
    rw [est]
    exact wp_some ⟨rfl, d1, f1⟩
