/-! THE CLASS'S WAY UP, to its end -/
theorem GT.dp_up {g : GT} {H : Nat → Bool} {t d : Nat} (h : g.dp H t (d + 1)) : ∃ i, i < g.n ∧ g.Z i = true ∧ g.B i + 4 = t ∧ g.dp H (g.A i) d := by
  obtain ⟨h1, h2⟩ := h
  have h1' : (g.lev H d t || g.nx (g.lev H d) t) = true := h1
  rw [h2 d (Nat.lt_succ_self _), Bool.false_or] at h1'
  obtain ⟨i, hi, hz, hx, e⟩ := GT.nx_iff.mp h1'
  refine ⟨i, hi, hz, e.symm, hx, fun e' he' => ?_⟩
  cases q : g.lev H e' (g.A i) with
  | false => rfl
  | true =>
    have h3 : g.lev H (e' + 1) t = true := by
      show (g.lev H e' t || g.nx (g.lev H e') t) = true
      rw [GT.nx_iff.mpr ⟨i, hi, hz, q, e⟩, Bool.or_true]
    rw [h2 (e' + 1) (by omega)] at h3
    cases h3
/-- the thing one step up from thing t, at depth d -/
def GT.up (g : GT) (H : Nat → Bool) (t d : Nat) : Nat := g.A (fa_first (g.upc H (t - 4) d) g.n)
def GT.way (g : GT) (H : Nat → Bool) (t d : Nat) : Nat → Nat
  | 0 => t
  | k + 1 => g.up H (g.way H t d k) (d - 1 - k)
theorem GT.up_ok {g : GT} {H : Nat → Bool} {t d : Nat} (h : g.dp H t (d + 1)) : fa_first (g.upc H (t - 4) d) g.n < g.n ∧ g.dp H (g.up H t d) d := by
  obtain ⟨i, hi, hz, hb, hd⟩ := GT.dp_up h
  have hu : g.upc H (t - 4) d i = true := by
    show (g.Z i && decide (g.B i = t - 4) && g.dpB H (g.A i) d) = true
    rw [hz, decide_eq_true (by omega), GT.dpB_iff.mpr hd]; rfl
  have hlt : fa_first (g.upc H (t - 4) d) g.n < g.n := by
    refine Classical.byContradiction fun hc => ?_
    have := fa_first_no (g.upc H (t - 4) d) g.n i (by omega)
    rw [hu] at this; cases this
  refine ⟨hlt, ?_⟩
  have hy : (g.Z _ && decide (g.B _ = t - 4) && g.dpB H (g.A _) d) = true := fa_first_yes _ _ hlt
  rw [Bool.and_eq_true] at hy
  exact GT.dpB_iff.mp hy.2
theorem GT.way_dp {g : GT} {H : Nat → Bool} {t d : Nat} (h : g.dp H t d) : ∀ k, k ≤ d → g.dp H (g.way H t d k) (d - k) := by
  intro k
  induction k with
  | zero => intro _; exact h
  | succ k ih =>
    intro hk
    have := ih (by omega)
    rw [show d - k = d - 1 - k + 1 by omega] at this
    have := (GT.up_ok this).2
    rw [show d - (k + 1) = d - 1 - k by omega]
    exact this
theorem nI_m1_int {c : Nat} (h : c < 1000) : (nI c - (1 : Int32)).toInt = (c : Int) - 1 := by
  by_cases h0 : c = 0
  · subst h0; decide
  · rw [iI_pred (by omega), nI_toInt (by omega)]; omega
theorem w4_onWay {M : sx_M} {s : Nat} {g : GT} (h : GS M s g) (x : Int32) {p : Nat} (hp : p < 24) {i : Nat} (hi : i < 2147483648) : wp (f4_onWay s x (nI p) (nI i) M) (fun r => (∃ d, d ≤ 24 ∧ g.dp (bt x) (p + 4) d ∧ i ≤ d ∧ r = tI (g.way (bt x) (p + 4) d (d - i))) ∨ (r = -9 ∧ (g.held (bt x) (p + 4) = false ∨ ∃ d, d < i ∧ g.dp (bt x) (p + 4) d))) := by
  rw [f4_onWay]
  obtain ⟨r, e, hr⟩ := w4_depthOf h x (v := p + 4) (by omega)
  rw [tI_part] at e
  refine wp_call e ?_
  with_reducible refine wp_bd ?_
  rcases hr with ⟨d, hd, rfl, hdp⟩ | ⟨rfl, hno⟩
  · refine wp_ifn (nI_ne_m9 (by omega)) ?_
    with_reducible refine wp_if (fun c => ?_) (fun c => ?_) <;> (try simp (disch := omega) only [nI_lit, iI_le, iI_lt, iI_eq, nI_cl, nI_add, tI_4N, bt_shrN, bI01_0N, bI01_1N, Nat.not_le, Nat.not_lt, not_true_eq_false, not_false_eq_true, true_or, or_true, false_or, or_false, Bool.not_eq_false, Bool.not_eq_true] at c)
    · with_reducible refine wp_bd ?_
      have h40 := h.1
      have loop : ∀ (N k : Nat), k + i ≤ d → d - i - k < N → wp (f4_onWay_L33 s x (nI i) M N (tI (g.way (bt x) (p + 4) d k)) (nI (d - k) - (1 : Int32))) (fun r => r = tI (g.way (bt x) (p + 4) d (d - i))) := by
        intro N
        induction N with
        | zero => intro k _ hN; exact absurd hN (Nat.not_lt_zero _)
        | succ N ih =>
          intro k hk hN
          rw [f4_onWay_L33]
          have hc : nI (d - k) - (1 : Int32) < nI i ↔ d - k ≤ i := by
            rw [fa_lt, nI_m1_int (by omega), nI_toInt (by omega)]; omega
          with_reducible refine wp_if (fun c2 => ?_) (fun c2 => ?_)
          · rw [hc] at c2
            refine wp_some ?_
            rw [show k = d - i by omega]
          · rw [hc] at c2
            have a1 : k + 1 + i ≤ d := by omega
            have a2 : d - i - (k + 1) < N := by omega
            have hw := GT.way_dp hdp k (by omega)
            rw [show d - k = d - 1 - k + 1 by omega] at hw
            obtain ⟨u1, u2⟩ := GT.up_ok hw
            obtain ⟨i', hi', -, hb', -⟩ := GT.dp_up hw
            have hbi := (h.2.2 i' hi').2.1
            generalize hgw : g.way (bt x) (p + 4) d k = t at hw u1 u2 hb' ⊢
            have e1 : tI t = nI (t - 4) := tI_ge (by omega)
            have e2 : nI (d - k) - (1 : Int32) = nI (d - 1 - k) := by rw [iI_pred (by omega)]; congr 1; omega
            rw [e1, e2]
            obtain ⟨r2, e3, hr2⟩ := w4_firstAbove h x (p := t - 4) (d := d - 1 - k) (by omega) (by omega)
            refine wp_call e3 ?_
            have er : r2 = tI (g.way (bt x) (p + 4) d (k + 1)) := by
              show r2 = tI (g.up (bt x) (g.way (bt x) (p + 4) d k) (d - 1 - k))
              rw [hgw]
              have hyes := fa_first_yes _ _ u1
              have hno := fa_first_no (g.upc (bt x) (t - 4) (d - 1 - k)) g.n
              rcases hr2 with ⟨j, hj, hju, hjf, rfl⟩ | ⟨rfl, hnone⟩
              · have : j = fa_first (g.upc (bt x) (t - 4) (d - 1 - k)) g.n := by
                  by_cases q : j < fa_first (g.upc (bt x) (t - 4) (d - 1 - k)) g.n
                  · rw [hno j q] at hju; cases hju
                  · by_cases q2 : fa_first (g.upc (bt x) (t - 4) (d - 1 - k)) g.n < j
                    · rw [hjf _ q2] at hyes; cases hyes
                    · omega
                rw [this]; rfl
              · rw [hnone _ u1] at hyes; cases hyes
            with_reducible refine wp_bd ?_
            rw [er]
            have e5 : nI (d - 1 - k) + (-1 : Int32) = nI (d - (k + 1)) - (1 : Int32) := by
              rw [show d - (k + 1) = d - 1 - k by omega]; exact (Int32.sub_eq_add_neg _ _).symm
            rw [e5]
            exact ih (k + 1) a1 a2
      have := loop 5000 0 (by omega) (by omega)
      obtain ⟨r, e, hr⟩ := this
      refine ⟨r, ?_, Or.inl ⟨d, hd, hdp, c, hr⟩⟩
      have e0 : tI (g.way (bt x) (p + 4) d 0) = nI p := tI_part p
      rw [e0, Nat.sub_zero] at e
      exact e
    · exact wp_some (Or.inr ⟨rfl, Or.inr ⟨d, by omega, hdp⟩⟩)
  · refine wp_ifp rfl ?_
    exact wp_some (Or.inr ⟨rfl, Or.inl hno⟩)
