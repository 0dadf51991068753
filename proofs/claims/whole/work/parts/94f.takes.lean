/-! WHAT THE SWEEP WILL TAKE, SIDE BY SIDE -/
/-- how many steps may still come, less one -/
def SH.mu (A : SH) : Nat := A.q.length + fb_ct A.w 24
theorem filt_len (p : Nat → Bool) : ∀ n, ((List.range n).filter p).length = fb_ct p n := by
  intro n
  induction n with
  | zero => rfl
  | succ n ih =>
    rw [List.range_succ, List.filter_append, List.length_append, ih, fb_ct_succ]
    cases e : p n with
    | true => rw [List.filter_cons_of_pos (by rw [e])]; rfl
    | false => rw [List.filter_cons_of_neg (by rw [e]; decide)]; rfl
theorem mu_le {A : SH} (h : WS A) : A.mu ≤ 24 := by
  obtain ⟨h1, h2, h3, h4⟩ := h
  have := nd_len (l := A.q ++ (List.range 24).filter A.w) (n := 24) (by
    rw [List.nodup_append]
    refine ⟨h2, List.nodup_range.filter _, fun a ha b hb e => ?_⟩
    rw [List.mem_filter] at hb
    have := (h3 a ha).2
    rw [e, hb.2] at this; cases this) (fun x hx => by
    rcases List.mem_append.mp hx with hx | hx
    · have := (h3 x hx).1; omega
    · rw [List.mem_filter, List.mem_range] at hx; exact hx.1)
  rw [List.length_append, filt_len] at this
  exact this
theorem mu_shade {A : SH} (h : WS A) (p : Nat) : (A.shade p).mu = A.mu := by
  cases hw : A.w p with
  | false => rw [shade_no hw]
  | true =>
    have hp : p < 24 := by have := (h.2.2.2 p hw).1; have := h.1; omega
    have eq : (A.shade p).q = A.q ++ [p] := by show shQ A.w A.q p = _; unfold shQ; rw [hw]; rfl
    have ec : fb_ct (A.shade p).w 24 + 1 = fb_ct A.w 24 := by
      have e : fb_ct (fun x => if x = p then false else A.w x) 24 + (if A.w p = true then 1 else 0) = fb_ct A.w 24 + (if false = true then 1 else 0) := fb_ct_upd A.w false hp
      rw [hw, if_pos rfl, if_neg (by decide)] at e
      rw [← show fb_ct (A.shade p).w 24 = fb_ct (fun x => if x = p then false else A.w x) 24 from fb_ct_cong (fun x _ => by
        show (A.w x && !decide (x = p)) = _
        by_cases q : x = p <;> simp [q])] at e
      omega
    unfold SH.mu
    rw [eq, List.length_append]
    show A.q.length + 1 + fb_ct (A.shade p).w 24 = A.q.length + fb_ct A.w 24
    omega
theorem mu_shadeN {A : SH} (h : WS A) (c : Nat → Bool) (pt : Nat → Nat) : ∀ n, (A.shadeN c pt n).mu = A.mu := by
  intro n
  induction n with
  | zero => rfl
  | succ n ih =>
    show ((A.shadeN c pt n).shadeIf (c n) (pt n)).mu = A.mu
    cases c n with
    | false => exact ih
    | true => exact (mu_shade (h.shadeN c pt n) (pt n)).trans ih
theorem mu_step {A : SH} (h : WS A) {p : Nat} {q : List Nat} (hq : A.q = p :: q) : A.step.mu + 1 = A.mu := by
  have e : A.step = (A.blk p q).onward p := by unfold SH.step; rw [hq]
  rw [e]
  show ((A.blk p q).shadeN _ _ _).mu + 1 = A.mu
  rw [mu_shadeN (blk_WS h hq)]
  unfold SH.mu
  rw [hq]
  show q.length + fb_ct A.w 24 + 1 = q.length + 1 + fb_ct A.w 24
  omega
theorem step_cons {A : SH} {p : Nat} {q : List Nat} (hq : A.q = p :: q) : A.step.G = A.G ∧ A.step.2.1 = A.2.1 := by
  have e : A.step = (A.blk p q).onward p := by unfold SH.step; rw [hq]
  rw [e]
  obtain ⟨s1, s2, s3, s4, s5⟩ := shadeN_same (A.blk p q) (fun i => (A.blk p q).g.Z i && decide ((A.blk p q).g.A i = p + 4)) (A.blk p q).g.B (A.blk p q).g.n
  exact ⟨s3, s2⟩
theorem step_nil {A : SH} (hq : A.q = []) : A.step = A.ended := by unfold SH.step; rw [hq]
theorem ct_ended {A : SH} (hI : IS A) : fb_ct A.ended.T 24 + fb_ct A.w 24 = fb_ct A.T 24 :=
  ct_minus (X := A.T) (Y := A.w) (fun p _ q => (hI.2.2.2.2.2.2 p q).1)
/-- steps to the end: the state, the parts swept -/
theorem steps_end {A : SH} (hI : IS A) (hG : A.G = true) : ∃ k, k ≤ A.mu + 1 ∧ (A.steps k).G = false ∧ ∀ j, j < k → (A.steps j).G = true ∧ (A.steps j).2.1 = A.2.1 ∧ (A.steps j).mu + j = A.mu ∧ ((A.steps j).q = [] ↔ j + 1 = k) := by
  suffices h : ∀ (n : Nat) (i : Nat), (A.steps i).mu = n → (A.steps i).G = true → (A.steps i).2.1 = A.2.1 → (A.steps i).mu + i = A.mu → (∀ j, j < i → (A.steps j).G = true ∧ (A.steps j).2.1 = A.2.1 ∧ (A.steps j).mu + j = A.mu ∧ (A.steps j).q ≠ []) → ∃ k, k ≤ A.mu + 1 ∧ (A.steps k).G = false ∧ ∀ j, j < k → (A.steps j).G = true ∧ (A.steps j).2.1 = A.2.1 ∧ (A.steps j).mu + j = A.mu ∧ ((A.steps j).q = [] ↔ j + 1 = k) from
    h _ 0 rfl hG rfl rfl (fun j hj => absurd hj (Nat.not_lt_zero _))
  intro n
  induction n with
  | zero =>
    intro i hmu hGi h2 hsum hprev
    have hq : (A.steps i).q = [] := by
      unfold SH.mu at hmu
      exact List.length_eq_zero_iff.mp (by omega)
    have es : A.steps (i + 1) = (A.steps i).ended := by
      show (if (A.steps i).G then (A.steps i).step else A.steps i) = _
      rw [if_pos hGi, step_nil hq]
    refine ⟨i + 1, by omega, by rw [es]; rfl, fun j hj => ?_⟩
    by_cases e : j = i
    · subst e; exact ⟨hGi, h2, hsum, fun _ => rfl, fun _ => hq⟩
    · obtain ⟨q1, q2, q3, q4⟩ := hprev j (by omega)
      exact ⟨q1, q2, q3, fun q => absurd q q4, fun q => by omega⟩
  | succ n ih =>
    intro i hmu hGi h2 hsum hprev
    cases hq : (A.steps i).q with
    | nil =>
      have es : A.steps (i + 1) = (A.steps i).ended := by
        show (if (A.steps i).G then (A.steps i).step else A.steps i) = _
        rw [if_pos hGi, step_nil hq]
      refine ⟨i + 1, by omega, by rw [es]; rfl, fun j hj => ?_⟩
      by_cases e : j = i
      · subst e; exact ⟨hGi, h2, hsum, fun _ => rfl, fun _ => hq⟩
      · obtain ⟨q1, q2, q3, q4⟩ := hprev j (by omega)
        exact ⟨q1, q2, q3, fun q => absurd q q4, fun q => by omega⟩
    | cons p q =>
      have es : A.steps (i + 1) = (A.steps i).step := by
        show (if (A.steps i).G then (A.steps i).step else A.steps i) = _
        rw [if_pos hGi]
      have hIi := hI.steps i
      obtain ⟨c1, c2⟩ := step_cons hq
      have cm := mu_step hIi.ws hq
      refine ih (i + 1) (by rw [es]; omega) (by rw [es, c1]; exact hGi) (by rw [es, c2]; exact h2) (by rw [es]; omega) (fun j hj => ?_)
      by_cases e : j = i
      · subst e; exact ⟨hGi, h2, hsum, by rw [hq]; exact List.cons_ne_nil _ _⟩
      · exact hprev j (by omega)
theorem finish_eq {B : SH} {k : Nat} (hk : k ≤ 25) (h : (B.steps k).G = false) : B.steps 25 = B.steps k := SH.steps_stop h 25 hk
/-- the parts that are swept -/
def SH.gone (A B : SH) : Int32 := nI (fb_ct A.T 24) - nI (fb_ct B.T 24)
theorem w8_endTrial {M : sx_M} {A : SH} (h : DS M 21 A) (hI : IS A) (hG : A.G = true) : wp (f8_endTrial M) (fun q => q.1 = A.gone (A.steps 25) ∧ DS q.2 21 (A.steps 25) ∧ Fr (pRw 21) M q.2) := by
  obtain ⟨k, hk, hkG, hj⟩ := steps_end hI hG
  have hk25 : k ≤ 25 := by have := mu_le hI.ws; omega
  have hk1 : 1 ≤ k := by
    refine Nat.not_lt.mp (fun h0 => ?_)
    have e0 : k = 0 := by omega
    rw [e0] at hkG
    have : A.G = false := hkG
    rw [hG] at this; cases this
  rw [finish_eq hk25 hkG, f8_endTrial]
  refine wp_wh (F := fun n (a : Nat × Int32 × sx_M) => f8_endTrial_L2 n a.2.1 a.2.2) (fun a => k - a.1) (fun a => a.1 ≤ k ∧ DS a.2.2 21 (A.steps a.1) ∧ Fr (pRw 21) M a.2.2 ∧ (a.1 = k → (-9 : Int32) - a.2.1 = A.gone (A.steps k))) (fun n a hI2 kk => ?_) 5000 (0, 0, M) (by show k - 0 < 5000; omega) ⟨Nat.zero_le _, h, Fr.rf, fun e => by have e' : 0 = k := e; omega⟩
  obtain ⟨j, x1, M1⟩ := a
  obtain ⟨i1, d1, f1, i4⟩ := hI2
  dsimp only at i1 d1 f1 i4
  have e3 : M1.1 21 0 ((3 : Int32)).toNatClampNeg = bI01 (A.steps j).G := d1.2.2.2.2.1
  show wp (f8_endTrial_L2 (n + 1) x1 M1) _
  rw [f8_endTrial_L2]
  refine wp_ifp (in3 row21 (a := 3) (by omega)) ?_
  with_reducible refine wp_bd ?_
  rw [e3]
  by_cases e : j = k
  · subst e
    rw [hkG]
    refine wp_ifn (by decide) ?_
    exact wp_some ⟨i4 rfl, d1, f1⟩
  · obtain ⟨q1, q2, q3, q4⟩ := hj j (by omega)
    rw [q1]
    refine wp_ifp rfl ?_
    have hIj := hI.steps j
    obtain ⟨⟨v3, M4⟩, e4, t1, t2, t3⟩ := w8_stepIn row21 d1 q1 hIj
    dsimp only at t1 t2 t3
    refine wp_b2 e4 ?_
    have es : A.steps (j + 1) = (A.steps j).step := by
      show (if (A.steps j).G then (A.steps j).step else A.steps j) = _
      rw [if_pos q1]
    refine kk (j + 1, v3, M4) ⟨by show j + 1 ≤ k; omega, by show DS M4 21 (A.steps (j + 1)); rw [es]; exact t2, f1.trans t3, fun ek => ?_⟩ (by show k - (j + 1) < k - j; omega)
    have ek' : j + 1 = k := ek
    have hqn := q4.mpr ek'
    have told : (A.steps j).told = -9 - nI (fb_ct (A.steps j).w 24) := by unfold SH.told; rw [hqn]
    have hend : A.steps k = (A.steps j).ended := by rw [← ek', es, step_nil hqn]
    have hc := ct_ended hIj
    have hT : (A.steps j).T = A.T := congrArg (fun z => z.2.1) q2
    show (-9 : Int32) - v3 = A.gone (A.steps k)
    rw [t1, told, hend]
    unfold SH.gone
    rw [hT] at hc
    have e5 : (-9 : Int32) - (-9 - nI (fb_ct (A.steps j).w 24)) = nI (fb_ct (A.steps j).w 24) := by
      have e6 : (-9 : Int32) = nI (fb_ct (A.steps j).w 24) + (-9 - nI (fb_ct (A.steps j).w 24)) := by rw [Int32.add_comm, Int32.sub_add_cancel]
      generalize hx : (-9 : Int32) - nI (fb_ct (A.steps j).w 24) = x at e6 ⊢
      rw [e6]
      exact Int32.add_sub_cancel _ _
    rw [e5, nI_sub (by omega)]
    congr 1; omega
theorem IS.finish {A : SH} (h : IS A) : IS A.finish := by
  unfold SH.finish
  refine IS.steps ?_ 25
  split
  · exact h
  · exact h.begin
theorem begin_same (A : SH) : A.begin.G = true ∧ A.begin.2.1 = A.2.1 := by
  obtain ⟨s1, s2, s3, s4, s5⟩ := shadeN_same A.begun A.first (fun p => p) 24
  exact ⟨s3, s2⟩
theorem RC.trial {M M' : sx_M} {st : ST} (h : RC M st) (hf : Fr (pSh 1) M M') : RC M' st :=
  h.cong (fun k s _ hk => hf.1 k s (fun q => by have := q.1; have := q.2; omega))
theorem sub_lem (m m' a b : Int32) (e : m' = m) : (m' - b) - (m - a) = a - b := by
  subst e
  have e : m' - b = (a - b) + (m' - a) := by
    generalize hx : m' - a = x
    have : m' = x + a := by rw [← hx, Int32.sub_add_cancel]
    rw [this, Int32.sub_eq_add_neg, Int32.add_assoc, ← Int32.sub_eq_add_neg, Int32.add_comm]
  rw [e]
  exact Int32.add_sub_cancel _ _
theorem steps_m {A : SH} (hI : IS A) (hG : A.G = true) : (A.steps 25).m = A.m ∧ ∀ p, (A.steps 25).T p = true → A.T p = true := by
  obtain ⟨k, hk, hkG, hj⟩ := steps_end hI hG
  have hk25 : k ≤ 25 := by have := mu_le hI.ws; omega
  have hk1 : 1 ≤ k := by
    refine Nat.not_lt.mp (fun h0 => ?_)
    have e0 : k = 0 := by omega
    rw [e0] at hkG
    have : A.G = false := hkG
    rw [hG] at this; cases this
  rw [finish_eq hk25 hkG]
  obtain ⟨q1, q2, q3, q4⟩ := hj (k - 1) (by omega)
  have hqn := q4.mpr (by omega)
  have es : A.steps (k - 1 + 1) = (A.steps (k - 1)).step := by
    show (if (A.steps (k - 1)).G then (A.steps (k - 1)).step else A.steps (k - 1)) = _
    rw [if_pos q1]
  rw [show k - 1 + 1 = k by omega, step_nil hqn] at es
  rw [es]
  refine ⟨?_, fun p hp => ?_⟩
  · show (A.steps (k - 1)).m = A.m
    exact congrArg (fun z => z.1) q2
  · have hp' : ((A.steps (k - 1)).T p && !(A.steps (k - 1)).w p) = true := hp
    rw [Bool.and_eq_true] at hp'
    rw [← show (A.steps (k - 1)).T = A.T from congrArg (fun z => z.2.1) q2]
    exact hp'.1
theorem pair_takes : PAIR0 (fun M => f7_takes M) (fun M => f8_takes M) := by
  intro st M hI hR
  obtain ⟨B, hB⟩ : ∃ B, B = if st.A.G then st.A else st.A.begin := ⟨_, rfl⟩
  have hIB : IS B := by rw [hB]; split; exact hI.1; exact hI.1.begin
  have hGB : B.G = true := by
    rw [hB]
    cases e : st.A.G with
    | true => rw [if_pos rfl]; exact e
    | false => rw [if_neg (by decide)]; exact (begin_same st.A).1
  have hB2 : B.2.1 = st.A.2.1 := by
    rw [hB]
    cases e : st.A.G with
    | true => rw [if_pos rfl]
    | false => rw [if_neg (by decide)]; exact (begin_same st.A).2
  have hfin : st.A.finish = B.steps 25 := by rw [hB]; rfl
  obtain ⟨hm, -⟩ := steps_m hIB hGB
  have hmB : B.m = st.A.m := congrArg (fun z => z.1) hB2
  have hTB : B.T = st.A.T := congrArg (fun z => z.2.1) hB2
  refine ⟨B.gone (B.steps 25), st, hI, ?_, fun M2 hM => ?_⟩
  · show wp (f7_takes M) _
    rw [f7_takes]
    obtain ⟨M1, e1, c1, f1⟩ := w3_copyFrom (s := 1) (s1 := 0) (by omega) hR.1
    refine wp_call e1 ?_
    obtain ⟨M3, e3, c3, f3⟩ := w3_finishSweep c1
    refine wp_call e3 ?_
    have r3 := hR.trial (f1.trans f3)
    refine wp_call (w3_swept c3) ?_
    refine wp_call (w3_swept r3.1) ?_
    refine wp_some ⟨?_, r3, fun k s hk => (f3.1 k s (fun q => by have := q.1; omega)).trans (f1.1 k s (fun q => by have := q.1; omega))⟩
    rw [hfin]
    unfold SH.gone
    rw [hTB]
    exact sub_lem _ _ _ _ (by rw [hm, hmB])
  · show wp (f8_takes M2) _
    rw [f8_takes]
    with_reducible refine wp_bd ?_
    have r4 := hM.ref 0
    have lk : ∀ (M' : sx_M) (w : Int32), (∀ k s, (k ≤ 20 ∨ 22 ≤ k ∧ k ≤ 24) → M'.1 k s = (sx_set M2 17 0 0 0).1 k s) → w = B.gone (B.steps 25) → GOOD M2 st (B.gone (B.steps 25)) (w, M') := fun M' w f e => good_look hM f e
    generalize sx_set M2 17 0 0 0 = M4 at r4 lk ⊢
    obtain ⟨M5, e5, d5, f5⟩ := w8_tryIt r4.1 hI.1
    refine wp_call e5 ?_
    refine wp_ifp (in3 row21 (a := 3) (by omega)) ?_
    have e3 : M5.1 21 0 ((3 : Int32)).toNatClampNeg = bI01 st.A.G := d5.2.2.2.2.1
    have fin : ∀ M6, DS M6 21 B → Fr (pRw 21) M4 M6 → wp (sx_b2 (f8_endTrial M6) fun v5 M6 => some (v5, M6)) (fun q => GOOD M2 st (B.gone (B.steps 25)) q) := fun M6 d6 f6 => by
      obtain ⟨⟨v, M7⟩, e7, q1, q2, q3⟩ := w8_endTrial d6 hIB hGB
      refine wp_b2 e7 ?_
      exact wp_some (lk _ _ (fun k s hk => (hits1 q3 (by omega) s).trans (hits1 f6 (by omega) s)) q1)
    with_reducible refine wp_bd ?_
    with_reducible refine wp_bd ?_
    rw [e3]
    cases hG : st.A.G with
    | true =>
      rw [hG, if_pos rfl] at hB
      refine wp_ifn (by decide) ?_
      exact fin M5 (hB ▸ d5) f5
    | false =>
      rw [hG, if_neg (by decide)] at hB
      refine wp_ifp rfl ?_
      obtain ⟨⟨v, M7⟩, e7, q1, q2, q3⟩ := w8_beginIn row21 d5 hI.1.2.2.2.1
      refine wp_b2 e7 ?_
      exact fin M7 (hB ▸ q2) (f5.trans q3)
theorem DL.cell99 {M : sx_M} {A : SH} (h : DL M A) {p : Nat} (hp : p < 24) : M.1 25 0 p = (99 : Int32) ↔ A.H p = false := by
  obtain ⟨D, hD⟩ := h
  obtain ⟨q1, q2⟩ := hD p hp
  rw [q1, show (99 : Int32) = nI 99 from rfl]
  rcases q2 with ⟨a, b⟩ | ⟨a, b, -⟩
  · rw [iI_eq (by omega) (by omega), a, b]; simp
  · rw [iI_eq (by omega) (by omega), a]
    exact ⟨fun q => by omega, fun q => by cases q⟩
theorem pair_spares : PAIR0 (fun M => f7_spares M) (fun M => f8_spares M) := by
  intro st M hI hR
  cases hG : st.A.G with
  | false =>
    refine ⟨0, st, hI, ?_, fun M2 hM => ?_⟩
    · show wp (f7_spares M) _
      rw [f7_spares]
      refine wp_call (w5_isGoing hR.1.2.1) ?_
      rw [hG]
      refine wp_ifp rfl ?_
      exact wp_some ⟨rfl, hR, fun _ _ _ => rfl⟩
    · show wp (f8_spares M2) _
      rw [f8_spares]
      with_reducible refine wp_bd ?_
      refine wp_ifp (in3 row20 (a := 3) (by omega)) ?_
      have e3 : (sx_set M2 17 0 0 0).1 20 0 ((3 : Int32)).toNatClampNeg = bI01 st.A.G := (hM.ref 0).1.2.2.2.2.1
      with_reducible refine wp_bd ?_
      rw [e3, hG]
      refine wp_ifp rfl ?_
      exact wp_some (good_look hM (fun _ _ _ => rfl) rfl)
  | true =>
    have hfin : st.A.finish = st.A.steps 25 := by unfold SH.finish; rw [if_pos hG]
    obtain ⟨hm, hTT⟩ := steps_m hI.1 hG
    have hT := hI.1.2.2.2.1
    have h24 := hI.1.ws.1
    refine ⟨nI (fb_ct (fun p => (st.A.steps 25).T p && !st.A.H p) 24), st, hI, ?_, fun M2 hM => ?_⟩
    · show wp (f7_spares M) _
      rw [f7_spares]
      refine wp_call (w5_isGoing hR.1.2.1) ?_
      rw [hG]
      refine wp_ifn (by decide) ?_
      obtain ⟨M1, e1, c1, f1⟩ := w3_copyFrom (s := 1) (s1 := 0) (by omega) hR.1
      refine wp_call e1 ?_
      obtain ⟨M3, e3, c3, f3⟩ := w3_finishSweep c1
      refine wp_call e3 ?_
      have r3 := hR.trial (f1.trans f3)
      rw [hfin] at c3
      refine wp_call (a := M3.1 1 1 4) (by rw [f3_parts]; rfl) ?_
      obtain ⟨r, er, hr⟩ := w3_held r3.1
      refine wp_call er ?_
      refine wp_call (wJ_count (c3.2.2.2.2.1.minus hr.atp) _) ?_
      exact wp_some ⟨rfl, r3, fun k s hk => (f3.1 k s (fun q => by have := q.1; omega)).trans (f1.1 k s (fun q => by have := q.1; omega))⟩
    · show wp (f8_spares M2) _
      rw [f8_spares]
      with_reducible refine wp_bd ?_
      have r4 := hM.ref 0
      have lk : ∀ (M' : sx_M) (w : Int32), (∀ k s, (k ≤ 20 ∨ 22 ≤ k ∧ k ≤ 24) → M'.1 k s = (sx_set M2 17 0 0 0).1 k s) → w = nI (fb_ct (fun p => (st.A.steps 25).T p && !st.A.H p) 24) → GOOD M2 st (nI (fb_ct (fun p => (st.A.steps 25).T p && !st.A.H p) 24)) (w, M') := fun M' w f e => good_look hM f e
      generalize sx_set M2 17 0 0 0 = M4 at r4 lk ⊢
      refine wp_ifp (in3 row20 (a := 3) (by omega)) ?_
      have e3 : M4.1 20 0 ((3 : Int32)).toNatClampNeg = bI01 st.A.G := r4.1.2.2.2.2.1
      with_reducible refine wp_bd ?_
      rw [e3, hG]
      refine wp_ifn (by decide) ?_
      obtain ⟨M5, e5, d5, f5⟩ := w8_tryIt r4.1 hI.1
      refine wp_call e5 ?_
      obtain ⟨⟨v6, M6⟩, e6, -, d6, f6⟩ := w8_endTrial d5 hI.1 hG
      dsimp only at d6 f6
      refine wp_b2 e6 ?_
      have d20 : DS M6 20 st.A := (r4.1.fr f5 not21_20).fr f6 not21_20
      obtain ⟨M7, e7, hl, f7⟩ := w8_lay row20 d20 hI.1
      refine wp_call e7 ?_
      have d20' := d20.fr f7 (row3_25 row20)
      have d21' := d6.fr f7 (row3_25 row21)
      have e0 : M7.1 20 0 ((0 : Int32)).toNatClampNeg = nI st.A.m := d20'.2.2.1
      have hI' := hI.1.steps 25
      refine wp_up (F := fun m x2 x1 => f8_spares_L37 M7 m x1 x2) st.A.m (fun j x => x = nI (fb_ct (fun p => (st.A.steps 25).T p && !st.A.H p) j)) (fun m j a hj hI2 kk => ?_) (fun m a hI2 => ?_) 5000 0 0 (by omega) (by omega) rfl
      · subst hI2
        have eb := fb_ct_bI (fun p => (st.A.steps 25).T p && !st.A.H p) j
        have no : ((st.A.steps 25).T j && !st.A.H j) = false → wp (f8_spares_L37 M7 m (nI (fb_ct (fun p => (st.A.steps 25).T p && !st.A.H p) j) + 0) (nI j + 1)) (fun q => GOOD M2 st (nI (fb_ct (fun p => (st.A.steps 25).T p && !st.A.H p) 24)) q) := fun hc => kk _ (by rw [← eb, hc]; rfl)
        show wp (f8_spares_L37 M7 (m + 1) _ (nI j)) _
        rw [f8_spares_L37]
        refine wp_ifp (in3 row20 (a := 0) (by omega)) ?_
        with_reducible refine wp_bd ?_
        rw [e0]
        refine wp_ifn (by rw [iI_le (by omega) (by omega)]; omega) ?_
        obtain ⟨r1, e1, hr1⟩ := w8_isPart row20 d20' (fun p _ => hT p) (nI j)
        refine wp_call e1 ?_
        with_reducible refine wp_bd ?_
        with_reducible refine wp_bd ?_
        rcases hr1 with ⟨rfl, p', hp', ep', hTp⟩ | ⟨rfl, hno⟩
        · rw [iI_eq (by omega) (by omega)] at ep'
          subst ep'
          refine wp_ifn (by decide) ?_
          refine wp_ifp (sx_in_n (by omega) (by omega)) ?_
          with_reducible refine wp_bd ?_
          rw [nI_cl (by omega)]
          with_reducible refine wp_if (fun c => ?_) (fun c => ?_) <;> rw [hl.cell99 (by omega)] at c
          · obtain ⟨r2, e2, hr2⟩ := w8_isPart row21 d21' (fun p _ => hI'.2.2.2.1 p) (nI j)
            refine wp_call e2 ?_
            rcases hr2 with ⟨rfl, p', hp', ep', hTp'⟩ | ⟨rfl, hno⟩
            · rw [iI_eq (by omega) (by omega)] at ep'
              subst ep'
              refine wp_ifn (by decide) ?_
              exact kk _ (by rw [← eb, hTp', c]; rfl)
            · refine wp_ifp rfl ?_
              refine no ?_
              cases e : (st.A.steps 25).T j with
              | false => rfl
              | true => exact absurd ⟨j, by omega, rfl, e⟩ hno
          · rw [Bool.not_eq_false] at c
            exact no (by rw [c]; simp)
        · refine wp_ifp rfl ?_
          refine no ?_
          cases e : (st.A.steps 25).T j with
          | false => rfl
          | true => exact absurd ⟨j, by omega, rfl, hTT j e⟩ hno
      · subst hI2
        show wp (f8_spares_L37 M7 (m + 1) _ (nI st.A.m)) _
        rw [f8_spares_L37]
        refine wp_ifp (in3 row20 (a := 0) (by omega)) ?_
        with_reducible refine wp_bd ?_
        rw [e0]
        refine wp_ifp (by rw [iI_le (by omega) (by omega)]; omega) ?_
        refine wp_some (lk _ _ (fun k s hk => (hits1 f7 (by omega) s).trans ((hits1 f6 (by omega) s).trans (hits1 f5 (by omega) s))) ?_)
        rw [ct_m h24 (fun p q => by
          rw [Bool.and_eq_true] at q
          exact hT p (hTT p q.1))]
