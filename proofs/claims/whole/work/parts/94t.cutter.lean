/-! THE CLASS'S FEWEST CUTS -/
theorem lcmp_0 (a b : Int64) : lg_cmp a b = 0 ↔ a = b := by
  unfold lg_cmp
  by_cases q : a = b
  · subst q
    rw [if_neg (fun z => by rw [gt_iff_lt, fa_lt64] at z; omega), if_pos rfl]
    exact ⟨fun _ => rfl, fun _ => rfl⟩
  · refine ⟨fun z => ?_, fun z => absurd z q⟩
    split at z <;> first | exact absurd z (by decide) | (rw [if_neg q] at z; exact absurd z (by decide))
theorem lb_shr (x : Int64) {k : Nat} (hk : k < 64) : (x >>> ((nI k).toInt64 &&& 63)).toBitVec.getLsbD 0 = x.toBitVec.getLsbD k := by
  rw [wb_c k hk, Int64.toBitVec_shiftRight, wb_tb, wb_sm k hk, BitVec.sshiftRight_eq', BitVec.toNat_ofNat, Nat.mod_eq_of_lt (by omega), BitVec.getLsbD_sshiftRight]
  simp [hk]
theorem lb_and1 (x : Int64) : x &&& 1 = 0 ↔ x.toBitVec.getLsbD 0 = false := by
  have h := ts_bit (w := x) (s := 0) (j := 0) (by omega) rfl
  rwa [UInt64.shiftRight_zero, show x.toUInt64.toInt64 = x from rfl] at h
theorem lb_xor (x : Int64) {k : Nat} (hk : k < 64) {i : Nat} (hi : i < 64) : (x ^^^ ((1 : Int64) <<< ((nI k).toInt64 &&& 63))).toBitVec.getLsbD i = if i = k then !x.toBitVec.getLsbD i else x.toBitVec.getLsbD i := by
  rw [show (1 : Int64) = lN 1 from rfl, wb_shl 1 hk, Int64.toBitVec_xor, BitVec.getLsbD_xor, wb_tb, BitVec.getLsbD_ofNat, Nat.one_mul, Nat.testBit_two_pow]
  by_cases q : i = k
  · subst q; simp [hi]
  · rw [if_neg q, decide_eq_false (p := k = i) (fun z => q z.symm)]; simp
def UL (M : sx_M) (n : Nat) (U : Nat → Bool) : Prop := ∀ i, i < n → (M.2 15 0 1).toBitVec.getLsbD i = U i
def VL (M : sx_M) (P X : Nat → Bool) (via : Nat → Nat) : Prop := ∀ p, p < 24 → hol P (p + 4) = false → X (p + 4) = true → M.1 16 0 p = nI (via (p + 4))
def O16 (M M' : sx_M) : Prop := ∀ k s, k ≠ 16 → M'.1 k s = M.1 k s
theorem O16.rf {M : sx_M} : O16 M M := fun _ _ _ => rfl
theorem O16.trans {M M' M'' : sx_M} (h : O16 M M') (k : O16 M' M'') : O16 M M'' := fun a s q => (k a s q).trans (h a s q)
theorem GS.o16 {M M' : sx_M} {s : Nat} {g : GT} (h : GS M s g) (f : O16 M M') : GS M' s g := by
  unfold GS
  rw [f 2 s (by omega), f 3 s (by omega), f 4 s (by omega), f 5 s (by omega)]
  exact h
theorem w4_size {M : sx_M} {s : Nat} {g : GT} (h : GS M s g) : f4_size s M = some (nI g.n) := by
  rw [f4_size]
  show some (M.1 2 s 3) = _
  rw [h.2.1]
theorem w0_isUsed {M : sx_M} {n : Nat} {U : Nat → Bool} (h : UL M n U) (hn : n ≤ 40) {i : Nat} (hi : i < n) : f0_isUsed (nI i) M = some (bI01 (U i)) := by
  rw [f0_isUsed]
  have e : lg_cmp ((M.2 15 0 1 >>> ((nI i).toInt64 &&& 63)) &&& (1 : Int64)) (0 : Int64) = 0 ↔ U i = false := by
    rw [lcmp_0, lb_and1, lb_shr _ (by omega), h i hi]
  refine wp_get ?_
  with_reducible refine wp_bd ?_
  with_reducible refine wp_bd ?_
  cases hU : U i with
  | false =>
    refine wp_ifp (e.mpr hU) ?_
    exact wp_ifp (Or.inl rfl) (wp_some rfl)
  | true =>
    refine wp_ifn (fun z => by rw [e.mp z] at hU; cases hU) ?_
    exact wp_ifp (Or.inr rfl) (wp_some rfl)
section
variable {g : GT} {P U : Nat → Bool} {s : Nat}
def GT.sh1 (g : GT) (U X : Nat → Bool) (i : Nat) : Prop := g.Z i = true → (U i = true → X (g.B i + 4) = true → X (g.A i) = true) ∧ (U i = false → X (g.A i) = true → X (g.B i + 4) = true)
/-- the state of a search -/
def SR (g : GT) (P U X : Nat → Bool) (M : sx_M) : Prop := (∀ t, t < 28 → hol P t = true → X t = true) ∧ ∃ via d, g.rs P U X via d ∧ VL M P X via
theorem SR.add (hg : g.ok) {X : Nat → Bool} {M : sx_M} (h : SR g P U X M) {q i : Nat} (hq : q < 24) (hx : X (q + 4) = false) (hi : i < g.n) (hz : g.Z i = true)
    (hd : (U i = false ∧ g.B i + 4 = q + 4 ∧ X (g.A i) = true) ∨ (U i = true ∧ g.A i = q + 4 ∧ X (g.B i + 4) = true)) : SR g P U (fx1 X (q + 4) true) (sx_set M 16 0 q (nI i)) := by
  obtain ⟨h1, via, d, h2, h3⟩ := h
  refine ⟨fun t ht hh => ?_, _, _, GT.rs_add h2 hq hx hi hz hg hd, fun p hp hh hX => ?_⟩
  · by_cases z : t = q + 4
    · rw [z, fx1_s]
    · rw [fx1_n _ _ z]; exact h1 t ht hh
  · by_cases z : p = q
    · rw [z, rd_e, fx1_s]
    · rw [fx1_n _ _ (by omega)] at hX
      rw [rd_n _ _ _ _ _ _ _ _ z, fx1_n _ _ (by omega)]
      exact h3 p hp hh hX
theorem w0_spread {M : sx_M} (h : GS M s g) (hU : UL M g.n U) {x : Int32} {X : Nat → Bool} (hb : ∀ t, t < 28 → bt x t = X t) (hS : SR g P U X M) :
    wp (f0_spread s x M) (fun r => ∃ X', (∀ t, t < 28 → bt r.1 t = X' t) ∧ SR g P U X' r.2 ∧ r.2.2 = M.2 ∧ O16 M r.2 ∧ ((X' = X ∧ g.shut U X) ∨ (fb_ct (fun p => X (p + 4)) 24 + 1 ≤ fb_ct (fun p => X' (p + 4)) 24 ∧ ¬ g.shut U X))) := by
  rw [f0_spread]
  have hok := h.ok
  refine wp_up (F := fun m x4 (y : Int32 × sx_M) => f0_spread_L5 s m y.1 x4 y.2) g.n (fun i y => ∃ X', (∀ t, t < 28 → bt y.1 t = X' t) ∧ SR g P U X' y.2 ∧ y.2.2 = M.2 ∧ O16 M y.2 ∧ ((X' = X ∧ ∀ j, j < i → g.sh1 U X j) ∨ (fb_ct (fun p => X (p + 4)) 24 + 1 ≤ fb_ct (fun p => X' (p + 4)) 24 ∧ ¬ g.shut U X))) (fun m i y hi hI kk => ?_) (fun m y hI => ?_) 5000 0 (x, M) (Nat.zero_le _) (by have := hok.1; omega) ⟨X, hb, hS, rfl, O16.rf, Or.inl ⟨rfl, fun j hj => absurd hj (Nat.not_lt_zero _)⟩⟩
  · obtain ⟨x3, Mc⟩ := y
    obtain ⟨Xc, kb, kS, k2, kf, kd⟩ := hI
    dsimp only at kb kS k2 kf
    have kk : ∀ (y3 : Int32) (My : sx_M) (Xy : Nat → Bool), (∀ t, t < 28 → bt y3 t = Xy t) → SR g P U Xy My → My.2 = M.2 → O16 M My → ((Xy = X ∧ ∀ j, j < i + 1 → g.sh1 U X j) ∨ (fb_ct (fun p => X (p + 4)) 24 + 1 ≤ fb_ct (fun p => Xy (p + 4)) 24 ∧ ¬ g.shut U X)) → wp (f0_spread_L5 s m y3 (nI i + 1) My) _ := fun y3 My Xy a b c d e => kk (y3, My) ⟨Xy, a, b, c, d, e⟩
    have hc := h.o16 kf
    have hUc : UL Mc g.n U := fun j hj => by rw [k2]; exact hU j hj
    have hgi := hok.2 i hi
    have h40 := hok.1
    show wp (f0_spread_L5 s (m + 1) x3 (nI i) Mc) _
    rw [f0_spread_L5]
    refine wp_call (w4_size hc) ?_
    refine wp_ifn (by rw [iI_le (by omega) (by omega)]; omega) ?_
    refine wp_call (w0_isUsed hUc h40 hi) ?_
    with_reducible refine wp_bd ?_
    -- one end to the other
    have tail : ∀ fr tt : Nat, fr < 28 → tt < 28 → (∀ Y : Nat → Bool, (g.Z i = true → Y fr = true → Y tt = true) ↔ g.sh1 U Y i) → (Xc fr = true → (U i = false ∧ g.B i + 4 = tt ∧ Xc (g.A i) = true) ∨ (U i = true ∧ g.A i = tt ∧ Xc (g.B i + 4) = true)) → wp (sx_bd (fun (v6 : Int32) =>
          (f7_bitOf (tI fr) Mc).bind fun v7 =>
          sx_bd (fun (v8 : Int32) =>
            sx_bd (fun (v9 : Int32) (M10 : sx_M) =>
              sx_bd (nI i + (1 : Int32)) fun v11 =>
              f0_spread_L5 s m v9 v11 M10) fun j136 =>
            if v8 = 0 then
              j136 x3 Mc
            else
              (f4_isSoundAt s (nI i) Mc).bind fun v13 =>
              if v13 = 0 then
                j136 x3 Mc
              else
                if v6 < 0 then
                  j136 x3 Mc
                else
                  if (24 : Int32) ≤ v6 then
                    j136 x3 Mc
                  else
                    if sx_in v6 24 then
                    sx_bd (sx_set Mc 16 0 (v6).toNatClampNeg (nI i)) fun M17 =>
                    (f7_bitOf v6 M17).bind fun v18 =>
                    sx_bd (x3 ||| v18) fun v19 =>
                    j136 v19 M17
                    else none) fun j91 =>
          sx_bd (fun (_ : Unit) =>
            j91 (0 : Int32)) fun j90 =>
          if (x3 &&& v7) = 0 then
            j90 ()
          else
            (f7_bitOf v6 Mc).bind fun v21 =>
            if (x3 &&& v21) = 0 then
              j91 (1 : Int32)
            else
              j90 ()) fun j64 => j64 (tI tt)) (fun r => ∃ X', (∀ t, t < 28 → bt r.1 t = X' t) ∧ SR g P U X' r.2 ∧ r.2.2 = M.2 ∧ O16 M r.2 ∧ ((X' = X ∧ g.shut U X) ∨ (fb_ct (fun p => X (p + 4)) 24 + 1 ≤ fb_ct (fun p => X' (p + 4)) 24 ∧ ¬ g.shut U X))) := fun fr tt hfr htt hsh hends => by
      have same : (g.Z i = true → Xc fr = true → Xc tt = true) → wp (f0_spread_L5 s m x3 (nI i + 1) Mc) (fun r => ∃ X', (∀ t, t < 28 → bt r.1 t = X' t) ∧ SR g P U X' r.2 ∧ r.2.2 = M.2 ∧ O16 M r.2 ∧ ((X' = X ∧ g.shut U X) ∨ (fb_ct (fun p => X (p + 4)) 24 + 1 ≤ fb_ct (fun p => X' (p + 4)) 24 ∧ ¬ g.shut U X))) := fun hn => by
        refine kk x3 Mc Xc kb kS k2 kf ?_
        rcases kd with ⟨e, q⟩ | q
        · left
          refine ⟨e, fun j hj => ?_⟩
          by_cases z : j = i
          · subst z; rw [← e]; exact (hsh Xc).mp hn
          · exact q j (by omega)
        · exact Or.inr q
      with_reducible refine wp_bd ?_
      refine wp_call (w7_bitOf_t hfr Mc) ?_
      with_reducible refine wp_bd ?_
      with_reducible refine wp_bd ?_
      with_reducible refine wp_if (fun c1 => ?_) (fun c1 => ?_)
      · rw [bt_and (by omega), kb fr hfr] at c1
        with_reducible refine wp_bd ?_
        refine wp_ifp rfl ?_
        exact same (fun _ z => by rw [c1] at z; cases z)
      · have c1 : Xc fr = true := by
          rw [bt_and (by omega), kb fr hfr] at c1
          exact ts_nf c1
        refine wp_call (w7_bitOf_t htt Mc) ?_
        with_reducible refine wp_if (fun c2 => ?_) (fun c2 => ?_)
        · have c2 : Xc tt = false := by
            rwa [bt_and (by omega), kb tt htt] at c2
          with_reducible refine wp_bd ?_
          refine wp_ifn (by decide) ?_
          refine wp_call (w4_isSoundAt hc hi) ?_
          with_reducible refine wp_if (fun c3 => ?_) (fun c3 => ?_)
          · have c3 : g.Z i = false := bI01_0.mp c3
            exact same (fun z => by rw [c3] at z; cases z)
          · have c3 : g.Z i = true := by
              cases e : g.Z i with
              | true => rfl
              | false => exact absurd (bI01_0.mpr e) c3
            have t4 : 4 ≤ tt := by
              refine Classical.byContradiction fun z => ?_
              have : hol P tt = true := by unfold hol; rw [decide_eq_true (by omega)]; rfl
              rw [kS.1 tt htt this] at c2; cases c2
            obtain ⟨q, rfl⟩ : ∃ q, tt = q + 4 := ⟨tt - 4, by omega⟩
            have hq : q < 24 := by omega
            rw [tI_part]
            refine wp_ifn (by rw [show (0 : Int32) = nI 0 from rfl, iI_lt (by omega) (by omega)]; omega) ?_
            refine wp_ifn (by rw [show (24 : Int32) = nI 24 from rfl, iI_le (by omega) (by omega)]; omega) ?_
            refine wp_ifp (sx_in_n hq (by omega)) ?_
            with_reducible refine wp_bd ?_
            refine wp_call (w7_bitOf_p hq _) ?_
            with_reducible refine wp_bd ?_
            rw [nI_cl (by omega)]
            refine kk _ _ (fx1 Xc (q + 4) true) (fun t ht => ?_) (kS.add hok hq c2 hi c3 (hends c1)) k2 (kf.trans (fun k s' hk => ?_)) (Or.inr ?_)
            · rw [bt_or, bt_bI (by omega) (by omega), kb t ht]
              by_cases z : t = q + 4
              · rw [z, fx1_s, decide_eq_true rfl, Bool.or_true]
              · rw [fx1_n _ _ z, decide_eq_false z, Bool.or_false]
            · funext y; rw [st_at, if_neg (fun z => hk z.1)]
            · rw [ct_add hq c2]
              rcases kd with ⟨e, -⟩ | ⟨e, w⟩
              · subst e
                refine ⟨Nat.le_refl _, fun z => ?_⟩
                have := (hsh Xc).mpr (z i hi) c3 c1
                rw [c2] at this; cases this
              · exact ⟨by omega, w⟩
        · with_reducible refine wp_bd ?_
          refine wp_ifp rfl ?_
          exact same (fun _ _ => by rw [bt_and (by omega), kb tt htt] at c2; exact ts_nf c2)
    cases hUi : U i with
    | false =>
      rw [hUi] at tail
      refine wp_ifp rfl ?_
      refine wp_call (w4_aboveAt hc hi) ?_
      refine wp_call (w0_isUsed hUc h40 hi) ?_
      refine wp_bd ?_
      rw [hUi]
      refine wp_ifp rfl ?_
      refine wp_call (w4_belowAt hc hi) ?_
      have := tail (g.A i) (g.B i + 4) hgi.1 (by omega) (fun Y => ?_) (fun z => Or.inl ⟨rfl, rfl, z⟩)
      · rw [tI_part] at this
        exact this
      · unfold GT.sh1
        rw [hUi]
        exact ⟨fun z a => ⟨fun q => (by cases q), fun _ => z a⟩, fun z a => (z a).2 rfl⟩
    | true =>
      rw [hUi] at tail
      refine wp_ifn (by decide) ?_
      refine wp_call (w4_belowAt hc hi) ?_
      refine wp_call (w0_isUsed hUc h40 hi) ?_
      refine wp_bd ?_
      rw [hUi]
      refine wp_ifn (by decide) ?_
      refine wp_call (w4_aboveAt hc hi) ?_
      have := tail (g.B i + 4) (g.A i) (by omega) hgi.1 (fun Y => ?_) (fun z => Or.inr ⟨rfl, rfl, z⟩)
      · rw [tI_part] at this
        exact this
      · unfold GT.sh1
        rw [hUi]
        exact ⟨fun z a => ⟨fun _ => z a, fun q => (by cases q)⟩, fun z a => (z a).1 rfl⟩
  · obtain ⟨x3, Mc⟩ := y
    obtain ⟨Xc, kb, kS, k2, kf, kd⟩ := hI
    dsimp only at kb kS k2 kf
    have hc := h.o16 kf
    have h40 := hok.1
    show wp (f0_spread_L5 s (m + 1) x3 (nI g.n) Mc) _
    rw [f0_spread_L5]
    refine wp_call (w4_size hc) ?_
    refine wp_ifp (by rw [iI_le (by omega) (by omega)]; omega) ?_
    exact wp_some ⟨Xc, kb, kS, k2, kf, kd⟩
end
