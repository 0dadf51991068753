/-! THE CLASS'S FEWEST CUTS, TO ITS END -/
theorem stL_at (M : sx_M) (k s i : Nat) (v : Int64) (k' s' i' : Nat) : (sx_setL M k s i v).2 k' s' i' = if k' = k ∧ s' = s ∧ i' = i then v else M.2 k' s' i' := rfl
theorem rdL_e (M : sx_M) (k s i : Nat) (v : Int64) : (sx_setL M k s i v).2 k s i = v := by rw [stL_at, if_pos ⟨rfl, rfl, rfl⟩]
section
variable {g : GT} {P U : Nat → Bool} {s : Nat}
theorem w0_findWay {M : sx_M} (h : GS M s g) (hU : UL M g.n U) {x : Int32} (hb : ∀ t, t < 32 → bt x t = hol P t) {q : Nat} (hq : q < 24) :
    wp (f0_findWay s x (nI q) M) (fun r => ∃ X, SR g P U X r.2 ∧ r.2.2 = M.2 ∧ O16 M r.2 ∧ ((r.1 = 1 ∧ X (q + 4) = true) ∨ (r.1 = 0 ∧ X (q + 4) = false ∧ g.shut U X))) := by
  rw [f0_findWay]
  have fin : ∀ (x4 : Int32) (Mc : sx_M) (X : Nat → Bool), (∀ t, t < 28 → bt x4 t = X t) → SR g P U X Mc → Mc.2 = M.2 → O16 M Mc → (X (q + 4) = true ∨ g.shut U X) → wp ((f7_bitOf (nI q) Mc).bind fun v9 =>
      sx_bd (fun (v10 : Int32) =>
        if v10 = 0 ∨ v10 = 1 then some (v10, Mc) else none) fun j53 =>
      if (x4 &&& v9) = 0 then
        j53 (0 : Int32)
      else
        j53 (1 : Int32)) (fun r => ∃ X, SR g P U X r.2 ∧ r.2.2 = M.2 ∧ O16 M r.2 ∧ ((r.1 = 1 ∧ X (q + 4) = true) ∨ (r.1 = 0 ∧ X (q + 4) = false ∧ g.shut U X))) := fun x4 Mc X kb kS k2 kf hX => by
    refine wp_call (w7_bitOf_p hq Mc) ?_
    with_reducible refine wp_bd ?_
    with_reducible refine wp_if (fun c1 => ?_) (fun c1 => ?_)
    · rw [bt_and (by omega), kb _ (by omega)] at c1
      refine wp_ifp (Or.inl rfl) (wp_some ⟨X, kS, k2, kf, Or.inr ⟨rfl, c1, ?_⟩⟩)
      exact hX.resolve_left (by rw [c1]; decide)
    · rw [bt_and (by omega), kb _ (by omega)] at c1
      exact wp_ifp (Or.inr rfl) (wp_some ⟨X, kS, k2, kf, Or.inl ⟨rfl, ts_nf c1⟩⟩)
  have S0 : SR g P U (hol P) M := ⟨fun t _ hh => hh, fun _ => 0, fun _ => 0, fun t _ h1 h2 => absurd h2 (by rw [h1]; decide), fun p _ h1 h2 => absurd h2 (by rw [h1]; decide)⟩
  refine wp_up (F := fun m x5 (y : Int32 × sx_M) => f0_findWay_L6 s (nI q) _ m y.1 x5 y.2) 24 (fun j y => ∃ X, (∀ t, t < 28 → bt y.1 t = X t) ∧ SR g P U X y.2 ∧ y.2.2 = M.2 ∧ O16 M y.2 ∧ (g.shut U X ∨ j ≤ fb_ct (fun p => X (p + 4)) 24)) (fun m j y hj hI kk => ?_) (fun m y hI => ?_) 5000 0 (x, M) (Nat.zero_le _) (by omega) ⟨hol P, fun t ht => hb t (by omega), S0, rfl, O16.rf, Or.inr (Nat.zero_le _)⟩
  · obtain ⟨x4, Mc⟩ := y
    obtain ⟨X, kb, kS, k2, kf, kd⟩ := hI
    dsimp only at kb kS k2 kf
    show wp (f0_findWay_L6 s (nI q) _ (m + 1) x4 (nI j) Mc) _
    rw [f0_findWay_L6]
    refine wp_ifn (by rw [show (24 : Int32) = nI 24 from rfl, iI_le (by omega) (by omega)]; omega) ?_
    refine wp_call (w7_bitOf_p hq Mc) ?_
    with_reducible refine wp_if (fun c1 => ?_) (fun c1 => ?_)
    · have hUc : UL Mc g.n U := fun i hi => by rw [k2]; exact hU i hi
      obtain ⟨⟨x5, M5⟩, e5, X5, jb, jS, j2, jf, jd⟩ := w0_spread (h.o16 kf) hUc kb kS
      dsimp only at jb jS j2 jf
      refine wp_b2 e5 ?_
      with_reducible refine wp_bd ?_
      refine kk (x5, M5) ⟨X5, jb, jS, j2.trans k2, kf.trans jf, ?_⟩
      rcases jd with ⟨rfl, w⟩ | ⟨w1, w2⟩
      · exact Or.inl w
      · rcases kd with z | z
        · exact absurd z w2
        · exact Or.inr (by omega)
    · rw [bt_and (by omega), kb _ (by omega)] at c1
      exact fin x4 Mc X kb kS k2 kf (Or.inl (ts_nf c1))
  · obtain ⟨x4, Mc⟩ := y
    obtain ⟨X, kb, kS, k2, kf, kd⟩ := hI
    dsimp only at kb kS k2 kf
    show wp (f0_findWay_L6 s (nI q) _ (m + 1) x4 (nI 24) Mc) _
    rw [f0_findWay_L6]
    refine wp_ifp (by decide) ?_
    refine fin x4 Mc X kb kS k2 kf ?_
    rcases kd with z | z
    · exact Or.inr z
    · cases c : X (q + 4) with
      | true => exact Or.inl rfl
      | false =>
        have := ct_room hq c
        omega
theorem w0_takeWay {M : sx_M} (h : GS M s g) (hU : UL M g.n U) {x : Int32} (hb : ∀ t, t < 32 → bt x t = hol P t) {q w : Nat} (hq : q < 24) (hf : g.flow P U (q + 4) w) {X : Nat → Bool} (hS : SR g P U X M) (hX : X (q + 4) = true) :
    wp (f0_takeWay s x (nI q) M) (fun M' => ∃ V, UL M' g.n V ∧ g.flow P V (q + 4) (w + 1) ∧ M'.1 = M.1) := by
  rw [f0_takeWay]
  obtain ⟨hX0, via, d, hr, hv⟩ := hS
  have hok := h.ok
  have h40 := hok.1
  have go : ∀ (k m j t : Nat) (V : Nat → Bool) (Mc : sx_M), k < m → (hol P t = true ∨ d t + 1 ≤ k) → j + k ≤ 24 → Mc.1 = M.1 → UL Mc g.n V → g.wk P U X via d (q + 4) V t → wp (f0_takeWay_L6 s x (fun (M15 : sx_M) =>
      some M15) (fun (M16 : sx_M) =>
      some M16) m (tI t) (nI j) Mc) (fun M' => ∃ V, UL M' g.n V ∧ g.flow P V (q + 4) (w + 1) ∧ M'.1 = M.1) := by
    intro k
    induction k with
    | zero =>
      intro m j t V Mc hm hd hj h1 hV hw
      have ht : hol P t = true := hd.resolve_right (by omega)
      obtain ⟨m, rfl⟩ : ∃ m', m = m' + 1 := ⟨m - 1, by omega⟩
      rw [f0_takeWay_L6]
      have fin : wp (some Mc) (fun M' => ∃ V, UL M' g.n V ∧ g.flow P V (q + 4) (w + 1) ∧ M'.1 = M.1) := wp_some ⟨V, hV, GT.wk_end hf hw ht, h1⟩
      with_reducible refine wp_if (fun c1 => ?_) (fun c1 => ?_)
      · exact fin
      · refine wp_call (w7_bitOf_t hw.1 Mc) ?_
        refine wp_ifn (fun z => ?_) fin
        have hw1 := hw.1
        rw [bt_and (by omega), hb t (by omega), ht] at z; cases z
    | succ k ih =>
      intro m j t V Mc hm hd hj h1 hV hw
      have hw1 := hw.1
      obtain ⟨m, rfl⟩ : ∃ m', m = m' + 1 := ⟨m - 1, by omega⟩
      rw [f0_takeWay_L6]
      refine wp_ifn (by rw [show (24 : Int32) = nI 24 from rfl, iI_le (by omega) (by omega)]; omega) ?_
      refine wp_call (w7_bitOf_t hw.1 Mc) ?_
      cases ht : hol P t with
      | true =>
        refine wp_ifn (fun z => ?_) (wp_some ⟨V, hV, GT.wk_end hf hw ht, h1⟩)
        rw [bt_and (by omega), hb t (by omega), ht] at z; cases z
      | false =>
        refine wp_ifp (by rw [bt_and (by omega), hb t (by omega), ht]) ?_
        have t4 : 4 ≤ t := by
          refine Classical.byContradiction fun z => ?_
          have : hol P t = true := by unfold hol; rw [decide_eq_true (by omega)]; rfl
          rw [this] at ht; cases ht
        obtain ⟨p, rfl⟩ : ∃ p, t = p + 4 := ⟨t - 4, by omega⟩
        have hp : p < 24 := by omega
        rw [tI_part]
        refine wp_ifn (by rw [show (0 : Int32) = nI 0 from rfl, iI_lt (by omega) (by omega)]; omega) ?_
        refine wp_ifp (by rw [show (24 : Int32) = nI 24 from rfl, iI_lt (by omega) (by omega)]; omega) ?_
        refine wp_ifp (sx_in_n hp (by omega)) ?_
        rw [nI_cl (by omega)]
        have ev : Mc.1 16 0 p = nI (via (p + 4)) := by rw [h1]; exact hv p hp ht hw.2.1
        with_reducible refine wp_bd ?_
        rw [ev]
        obtain ⟨s1, s2, s3⟩ := GT.wk_step hok hr hw ht
        have hi : via (p + 4) < g.n := (hr _ (by omega) ht hw.2.1).2.1
        have hc : GS Mc s g := by unfold GS; rw [h1]; exact h
        refine wp_call (w0_isUsed hV h40 hi) ?_
        with_reducible refine wp_bd ?_
        rw [s1]
        have next : wp (sx_bd (Mc.2 15 0 1) fun v9 =>
              sx_bd (sx_setL Mc 15 0 1 (v9 ^^^ ((1 : Int64) <<< ((nI (via (p + 4))).toInt64 &&& 63)))) fun M10 =>
              sx_bd (nI j + (1 : Int32)) fun v11 =>
              f0_takeWay_L6 s x (fun (M15 : sx_M) => some M15) (fun (M16 : sx_M) => some M16) m (tI (if U (via (p + 4)) then g.B (via (p + 4)) + 4 else g.A (via (p + 4)))) v11 M10) (fun M' => ∃ V, UL M' g.n V ∧ g.flow P V (q + 4) (w + 1) ∧ M'.1 = M.1) := by
          with_reducible refine wp_bd ?_
          with_reducible refine wp_bd ?_
          with_reducible refine wp_bd ?_
          rw [iI_succ]
          refine ih m (j + 1) _ _ _ (by omega) ?_ (by omega) h1 ?_ s2
          · rcases s3 with z | z
            · exact Or.inl z
            · rcases hd with y | y
              · rw [y] at ht; cases ht
              · exact Or.inr (by omega)
          · intro i hii
            have e : (sx_setL Mc 15 0 1 (Mc.2 15 0 1 ^^^ ((1 : Int64) <<< ((nI (via (p + 4))).toInt64 &&& 63)))).2 15 0 1 = Mc.2 15 0 1 ^^^ ((1 : Int64) <<< ((nI (via (p + 4))).toInt64 &&& 63)) := rdL_e _ _ _ _ _
            rw [e, lb_xor _ (by omega) (by omega)]
            by_cases z : i = via (p + 4)
            · rw [if_pos z, z, fx1_s, hV _ hi, s1]
            · rw [if_neg z, fx1_n _ _ z, hV i hii]
        cases hUi : U (via (p + 4)) with
        | false =>
          rw [hUi] at next
          refine wp_ifp rfl ?_
          refine wp_call (w4_aboveAt hc hi) ?_
          exact next
        | true =>
          rw [hUi, if_pos rfl, tI_part] at next
          refine wp_ifn (by decide) ?_
          refine wp_call (w4_belowAt hc hi) ?_
          exact next
  have := go 24 5000 0 (q + 4) U M (by omega) ?_ (by omega) rfl hU (GT.wk_0 hf (by omega) hX)
  · rw [tI_part] at this
    exact this
  · cases z : hol P (q + 4) with
    | true => exact Or.inl rfl
    | false =>
      right
      have a := (hr (q + 4) (by omega) z hX).1
      have b := fb_ct_le (fun p => X (p + 4)) 24
      omega
theorem w0_fewest {M : sx_M} (h : GS M s g) {x : Int32} (hb : ∀ t, t < 32 → bt x t = hol P t) {q : Nat} (hq : q < 24) (hP : P q = false) :
    wp (f0_fewest s x (nI q) M) (fun r => ∃ w, r.1 = nI w ∧ g.maxf P (q + 4) w ∧ O16 M r.2) := by
  have hok := h.ok
  have h40 := hok.1
  have hh : hol P (q + 4) = false := by
    unfold hol
    rw [decide_eq_false (by omega), Nat.add_sub_cancel, hP, Bool.and_false]; rfl
  rw [f0_fewest]
  with_reducible refine wp_bd ?_
  have go : ∀ (k m w : Nat) (U : Nat → Bool) (Mc : sx_M), 40 - w = k → w ≤ 40 → k < m → UL Mc g.n U → g.flow P U (q + 4) w → O16 M Mc → wp (f0_fewest_L11 s x (nI q) (fun (v9 : Int32) (M10 : sx_M) =>
      some (v9, M10)) m (nI w) (nI w) Mc) (fun r => ∃ w, r.1 = nI w ∧ g.maxf P (q + 4) w ∧ O16 M r.2) := by
    intro k
    induction k with
    | zero =>
      intro m w U Mc hk hw hm hU hf ho
      obtain ⟨m, rfl⟩ : ∃ m', m = m' + 1 := ⟨m - 1, by omega⟩
      rw [f0_fewest_L11]
      refine wp_ifp (by rw [show (40 : Int32) = nI 40 from rfl, iI_le (by omega) (by omega)]; omega) ?_
      refine wp_some ⟨w, rfl, ⟨⟨U, hf⟩, fun V v hv => ?_⟩, ho⟩
      have := GT.flow_n hok hv (by omega) hh
      omega
    | succ k ih =>
      intro m w U Mc hk hw hm hU hf ho
      obtain ⟨m, rfl⟩ : ∃ m', m = m' + 1 := ⟨m - 1, by omega⟩
      rw [f0_fewest_L11]
      refine wp_ifn (by rw [show (40 : Int32) = nI 40 from rfl, iI_le (by omega) (by omega)]; omega) ?_
      obtain ⟨⟨v3, M4⟩, e3, X, jS, j2, jf, jd⟩ := w0_findWay (h.o16 ho) hU hb hq
      dsimp only at jS j2 jf jd
      refine wp_b2 e3 ?_
      rcases jd with ⟨rfl, hX⟩ | ⟨rfl, hX, hsh⟩
      · refine wp_ifn (by decide) ?_
        obtain ⟨M6, e6, V, v1, v2, v3⟩ := w0_takeWay ((h.o16 ho).o16 jf) (fun i hi => by rw [j2]; exact hU i hi) hb hq hf jS hX
        refine wp_call e6 ?_
        with_reducible refine wp_bd ?_
        with_reducible refine wp_bd ?_
        rw [iI_succ]
        exact ih m (w + 1) V M6 (by omega) (by omega) (by omega) v1 v2 (ho.trans (fun k s' hk => by rw [v3]; exact jf k s' hk))
      · refine wp_ifp rfl ?_
        exact wp_some ⟨w, rfl, ⟨⟨U, hf⟩, fun V v hv => GT.most hok hf hv jS.1 (by omega) hX hsh⟩, ho.trans jf⟩
  refine go 40 5000 0 (fun _ => false) _ rfl (by omega) (by omega) (fun i hi => ?_) (GT.flow_0 fun _ _ => rfl) (fun k s' hk => rfl)
  have e : (sx_setL M 15 0 1 (0 : Int64)).2 15 0 1 = 0 := rdL_e _ _ _ _ _
  rw [e]
  exact BitVec.getLsbD_zero
end
