/-! THE CLASS'S PARTS, PINS AND SWEEPS -/
theorem w3_addPart {M : sx_M} {s : Nat} {A : SH} (h : CS M s A) (hm : A.m < 24) (v : Int32) : wp (f3_addPart s v M) (fun r => r.1 = nI A.m ∧ CS r.2 s (A.make v) ∧ Fr (pSh s) M r.2) := by
  obtain ⟨h1, h2, h3, h4, h5, h6, h7, h8, h9⟩ := id h
  rw [f3_addPart]
  have c0 : sx_in (nI A.m) 24 := sx_in_n hm (by omega)
  repeat' (first | with_reducible refine wp_some ?_ | with_reducible refine wp_bd ?_ | (with_reducible refine wp_ifp ?_ ?_; · (first | exact ⟨by decide, by decide⟩ | exact sx_in_n (by omega) (by omega) | assumption | exact ⟨sx_in_n (by omega) (by omega), bI01_01 _⟩ | exact Or.inl rfl | exact Or.inr rfl | (simp (disch := omega) only [h4, nI_lit, iI_le, iI_lt, iI_eq, nI_cl, nI_add, tI_4N, bt_shrN, bI01_0N, bI01_1N, Nat.not_le, Nat.not_lt, not_true_eq_false, not_false_eq_true, true_or, or_true, false_or, or_false, Bool.not_eq_false, Bool.not_eq_true] <;> omega))) | (with_reducible refine wp_ifn ?_ ?_; · (first | exact ⟨by decide, by decide⟩ | exact sx_in_n (by omega) (by omega) | assumption | exact ⟨sx_in_n (by omega) (by omega), bI01_01 _⟩ | exact Or.inl rfl | exact Or.inr rfl | (simp (disch := omega) only [h4, nI_lit, iI_le, iI_lt, iI_eq, nI_cl, nI_add, tI_4N, bt_shrN, bI01_0N, bI01_1N, Nat.not_le, Nat.not_lt, not_true_eq_false, not_false_eq_true, true_or, or_true, false_or, or_false, Bool.not_eq_false, Bool.not_eq_true] <;> omega))) | fail)
  rw [h4, nI_cl (by omega)]
  refine wp_call (w7_bitOf_p hm _) ?_
  with_reducible refine wp_bd ?_
  have key : ∀ M9 : sx_M, GS M9 s A.g → SS M9 s A.G A.w (if A.G then fun k => A.b k || decide (k = A.m) else A.b) A.q → (∀ f, f ≠ 4 → M9.1 1 s f = M.1 1 s f) → M9.1 1 s 4 = M.1 1 s 4 ||| bI (A.m + 4) → (∀ p, M9.1 8 s p = if p = A.m then v else M.1 8 s p) → Fr (pSh s) M M9 → wp (sx_bd (M9.1 1 s 3) fun v10 => sx_bd (sx_set M9 1 s 3 (v10 + (1 : Int32))) fun M11 => (fun (M2 : sx_M) => some (nI A.m, M2)) M11) (fun r => r.1 = nI A.m ∧ CS r.2 s (A.make v) ∧ Fr (pSh s) M r.2) := fun M9 k1 k2 k3 k4 k5 k6 => by
    have fr1 : Fr (fun k s' => k = 1 ∧ s' = s) M9 (sx_set M9 1 s 3 (M9.1 1 s 3 + (1 : Int32))) := Fr.rf.set ⟨rfl, rfl⟩
    have n1 : ∀ k, k ≠ 1 → ¬ (fun k s' => k = 1 ∧ s' = s) k s := fun k hk q => hk q.1
    refine wp_some ⟨rfl, ⟨k1.fr fr1 (n1 2 (by omega)) (n1 3 (by omega)) (n1 4 (by omega)) (n1 5 (by omega)), k2.fr fr1 (n1 6 (by omega)) (n1 7 (by omega)), by show A.m + 1 ≤ 24; omega, ?_, ?_, ?_, ?_, ?_, fun p hp => ?_⟩, k6.set (pSh_k (by omega) (by omega))⟩
    · rw [st_at, if_pos ⟨rfl, rfl, rfl⟩, k3 3 (by omega), h4]; exact nI_add _ 1
    · have := h5.add hm
      rw [← k4] at this
      simpa [st_at] using (show Wd _ (A.make v).T from this)
    · rw [← k3 5 (by omega)] at h6
      simpa [st_at] using (show Wd _ (A.make v).P from h6)
    · simp [st_at, k3 6 (by omega), h7]; rfl
    · simp [st_at, k3 7 (by omega), h8]; rfl
    · have hp' : p < A.m + 1 := hp
      show (sx_set M9 1 s 3 _).1 8 s p = if p = A.m then v else A.W p
      rw [st_at, if_neg (fun q => by cases q.1), k5]
      by_cases e : p = A.m
      · rw [if_pos e, if_pos e]
      · rw [if_neg e, if_neg e, h9 p (by omega)]
  have fA : Fr (pSh s) M (sx_set M 8 s A.m v) := Fr.rf.set (pSh_k (by omega) (by omega))
  have e4 : (sx_set M 8 s A.m v).1 1 s 4 = M.1 1 s 4 := by simp [st_at]
  rw [e4]
  have f8 : Fr (fun k s' => (k = 1 ∨ k = 8) ∧ s' = s) M (sx_set (sx_set M 8 s A.m v) 1 s 4 (M.1 1 s 4 ||| bI (A.m + 4))) := (Fr.rf.set ⟨Or.inr rfl, rfl⟩).set ⟨Or.inl rfl, rfl⟩
  have n8 : ∀ k, ¬ (k = 1 ∨ k = 8) → ¬ (fun k s' => (k = 1 ∨ k = 8) ∧ s' = s) k s := fun k hk q => hk q.1
  have v1 : ∀ f, f ≠ 4 → (sx_set (sx_set M 8 s A.m v) 1 s 4 (M.1 1 s 4 ||| bI (A.m + 4))).1 1 s f = M.1 1 s f := fun f hf => by simp [st_at, hf]
  have v2 : (sx_set (sx_set M 8 s A.m v) 1 s 4 (M.1 1 s 4 ||| bI (A.m + 4))).1 1 s 4 = M.1 1 s 4 ||| bI (A.m + 4) := by simp [st_at]
  have v3 : ∀ p, (sx_set (sx_set M 8 s A.m v) 1 s 4 (M.1 1 s 4 ||| bI (A.m + 4))).1 8 s p = if p = A.m then v else M.1 8 s p := fun p => by simp [st_at]
  generalize sx_set (sx_set M 8 s A.m v) 1 s 4 (M.1 1 s 4 ||| bI (A.m + 4)) = M8 at f8 v1 v2 v3 ⊢
  have gs8 := h1.fr f8 (n8 2 (by omega)) (n8 3 (by omega)) (n8 4 (by omega)) (n8 5 (by omega))
  have ss8 := h2.fr f8 (n8 6 (by omega)) (n8 7 (by omega))
  have f8' : Fr (pSh s) M M8 := f8.mono (fun k s' q => ⟨by omega, q.2⟩)
  cases hG : A.G with
  | false =>
    rw [hG] at ss8
    refine wp_call (w5_addBlack_no ss8 _) ?_
    refine key M8 gs8 ?_ v1 v2 v3 f8'
    rw [hG]
    exact ss8
  | true =>
    rw [hG] at ss8
    obtain ⟨M9, e9, s9, r9⟩ := w5_addBlack ss8 hm
    refine wp_call e9 ?_
    have no : ∀ k, ¬ (k = 6 ∨ k = 7) → ¬ pSw s k s := fun k hk q => hk q.1
    refine key M9 (gs8.fr r9 (no 2 (by omega)) (no 3 (by omega)) (no 4 (by omega)) (no 5 (by omega))) ?_ (fun f hf => ?_) ?_ (fun p => ?_) (f8'.trans (r9.mono pSw_sh))
    · rw [hG]; exact s9
    · rw [r9.1 1 s (no 1 (by omega))]; exact v1 f hf
    · rw [r9.1 1 s (no 1 (by omega))]; exact v2
    · rw [r9.1 8 s (no 8 (by omega))]; exact v3 p
theorem CS.setP {M : sx_M} {s : Nat} {A : SH} (h : CS M s A) {v : Int32} {P : Nat → Bool} (hv : Wd v P) : CS (sx_set M 1 s 5 v) s (A.setP P) ∧ Fr (pSh s) M (sx_set M 1 s 5 v) := by
  obtain ⟨h1, h2, h3, h4, h5, h6, h7, h8, h9⟩ := id h
  have fr1 : Fr (fun k s' => k = 1 ∧ s' = s) M (sx_set M 1 s 5 v) := Fr.rf.set ⟨rfl, rfl⟩
  have n1 : ∀ k, k ≠ 1 → ¬ (fun k s' => k = 1 ∧ s' = s) k s := fun k hk q => hk q.1
  refine ⟨⟨h1.fr fr1 (n1 2 (by omega)) (n1 3 (by omega)) (n1 4 (by omega)) (n1 5 (by omega)), h2.fr fr1 (n1 6 (by omega)) (n1 7 (by omega)), h3, ?_, ?_, ?_, ?_, ?_, fun p hp => ?_⟩, Fr.rf.set (pSh_k (by omega) (by omega))⟩
  · simpa [st_at] using (show M.1 1 s 3 = nI (A.setP P).m from h4)
  · simpa [st_at] using (show Wd _ (A.setP P).T from h5)
  · simpa [st_at] using (show Wd _ (A.setP P).P from hv)
  · simpa [st_at] using (show M.1 1 s 6 = (A.setP P).E from h7)
  · simpa [st_at] using (show M.1 1 s 7 = (A.setP P).N from h8)
  · rw [st_at, if_neg (fun q => by cases q.1)]
    exact h9 p hp
theorem w3_setPinned {M : sx_M} {s : Nat} {A : SH} (h : CS M s A) {p : Nat} (hp : p < 24) (is : Bool) : wp (f3_setPinned s (nI p) (bI01 is) M) (fun r => r.1 = nI (fb_ct (A.pin p is).H 24) ∧ CS r.2 s (A.pin p is) ∧ Fr (pSh s) M r.2) := by
  rw [f3_setPinned]
  have h6 := h.2.2.2.2.2.1
  have fin : ∀ M2, CS M2 s (A.pin p is) → Fr (pSh s) M M2 → wp ((f3_held s M2).bind fun v2 => (fJ6_bitCount_0f7a4 v2 M2).bind fun v3 => some (v3, M2)) (fun r => r.1 = nI (fb_ct (A.pin p is).H 24) ∧ CS r.2 s (A.pin p is) ∧ Fr (pSh s) M r.2) := fun M2 c2 f2 => by
    obtain ⟨r', e3, hr'⟩ := w3_held c2
    refine wp_call e3 ?_
    refine wp_call (wJ_count hr' _) ?_
    exact wp_some ⟨rfl, c2, f2⟩
  with_reducible refine wp_bd ?_
  cases is with
  | false =>
    refine wp_ifp rfl ?_
    with_reducible refine wp_bd ?_
    refine wp_call (w7_bitOf_p hp _) ?_
    obtain ⟨c1, f1⟩ := h.setP (h6.del hp)
    exact fin _ c1 f1
  | true =>
    refine wp_ifn (by decide) ?_
    with_reducible refine wp_bd ?_
    refine wp_call (w7_bitOf_p hp _) ?_
    obtain ⟨c1, f1⟩ := h.setP (h6.add hp)
    with_reducible refine wp_bd ?_
    obtain ⟨M2, e2, c2, f2⟩ := w3_shade c1 hp
    refine wp_call e2 ?_
    exact fin _ c2 (f1.trans f2)
/-- one after another, those that c names turn gray -/
def SH.shadeN (A : SH) (c : Nat → Bool) (pt : Nat → Nat) : Nat → SH
  | 0 => A
  | n + 1 => (A.shadeN c pt n).shadeIf (c n) (pt n)
def SH.begun (A : SH) : SH := (A.1, A.2.1, (true, A.T, fun _ => false, []), A.2.2.2)
def SH.first (A : SH) (p : Nat) : Bool := A.P p || A.g.nx (fun t => decide (t < 4)) (p + 4)
def SH.begin (A : SH) : SH := A.begun.shadeN A.first (fun p => p) 24
theorem w3_beginSweep {M : sx_M} {s : Nat} {A : SH} (h : CS M s A) : wp (f3_beginSweep s M) (fun r => r.1 = nI A.begin.q.length ∧ CS r.2 s A.begin ∧ Fr (pSh s) M r.2) := by
  rw [f3_beginSweep]
  with_reducible refine wp_bd ?_
  obtain ⟨M1, e1, s1, f1⟩ := w5_start M s h.2.2.2.2.1
  refine wp_call e1 ?_
  obtain ⟨c1, g1⟩ := h.setS s1 f1
  with_reducible refine wp_bd ?_
  obtain ⟨r, e2, hr⟩ := w4_nextBelow c1.1 15
  refine wp_call e2 ?_
  have hok := h.1.ok
  have hw : Wd (M1.1 1 s 5 ||| r) A.first := by
    refine (c1.2.2.2.2.2.1.or (Y := fun p => A.g.nx (fun t => decide (t < 4)) (p + 4)) (fun t ht => ?_))
    rw [hr t ht]
    have e3 : A.g.nx (bt 15) t = A.g.nx (fun t => decide (t < 4)) t := GT.nx_cong hok (fun t ht => bt_15 t (by omega)) t
    show A.g.nx (bt 15) t = _
    rw [e3]
    by_cases h4 : 4 ≤ t ∧ t < 28
    · show _ = (decide (4 ≤ t) && decide (t < 28) && A.g.nx (fun t => decide (t < 4)) (t - 4 + 4))
      rw [show t - 4 + 4 = t by omega]; simp [h4]
    · cases e : A.g.nx (fun t => decide (t < 4)) t with
      | true => exact absurd (GT.nx_part hok e) h4
      | false =>
        by_cases q : 4 ≤ t
        · have : ¬ t < 28 := fun q2 => h4 ⟨q, q2⟩
          simp [this]
        · simp [q]
  with_reducible refine wp_bd ?_
  generalize M1.1 1 s 5 ||| r = x at hw ⊢
  refine wp_up (F := fun m x2 M1 => f3_beginSweep_L28 s x m x2 M1) 24 (fun j M2 => CS M2 s (A.begun.shadeN A.first (fun p => p) j) ∧ Fr (pSh s) M M2) (fun m j M2 hj hI kk => ?_) (fun m M2 hI => ?_) 5000 0 M1 (by omega) (by omega) ⟨c1, g1⟩
  · show wp (f3_beginSweep_L28 s x (m + 1) (nI j) M2) _
    rw [f3_beginSweep_L28]
    repeat' (first | with_reducible refine wp_some ?_ | with_reducible refine wp_bd ?_ | (with_reducible refine wp_ifp ?_ ?_; · (first | exact ⟨by decide, by decide⟩ | exact sx_in_n (by omega) (by omega) | assumption | exact ⟨sx_in_n (by omega) (by omega), bI01_01 _⟩ | exact Or.inl rfl | exact Or.inr rfl | (simp (disch := omega) only [nI_lit, iI_le, iI_lt, iI_eq, nI_cl, nI_add, tI_4N, bt_shrN, bI01_0N, bI01_1N, Nat.not_le, Nat.not_lt, not_true_eq_false, not_false_eq_true, true_or, or_true, false_or, or_false, Bool.not_eq_false, Bool.not_eq_true] <;> omega))) | (with_reducible refine wp_ifn ?_ ?_; · (first | exact ⟨by decide, by decide⟩ | exact sx_in_n (by omega) (by omega) | assumption | exact ⟨sx_in_n (by omega) (by omega), bI01_01 _⟩ | exact Or.inl rfl | exact Or.inr rfl | (simp (disch := omega) only [nI_lit, iI_le, iI_lt, iI_eq, nI_cl, nI_add, tI_4N, bt_shrN, bI01_0N, bI01_1N, Nat.not_le, Nat.not_lt, not_true_eq_false, not_false_eq_true, true_or, or_true, false_or, or_false, Bool.not_eq_false, Bool.not_eq_true] <;> omega))) | fail)
    refine wp_call (w7_bitOf_p hj _) ?_
    have tw := hw.tst hj
    with_reducible refine wp_bd ?_
    with_reducible refine wp_if (fun c => ?_) (fun c => ?_)
    · rw [tw] at c
      refine kk _ ⟨?_, hI.2⟩
      show CS M2 s ((A.begun.shadeN A.first (fun p => p) j).shadeIf (A.first j) j)
      rw [c]
      exact hI.1
    · rw [tw, Bool.not_eq_false] at c
      obtain ⟨M3, e3, c3, f3⟩ := w3_shade hI.1 hj
      refine wp_call e3 ?_
      refine kk _ ⟨?_, hI.2.trans f3⟩
      show CS M3 s ((A.begun.shadeN A.first (fun p => p) j).shadeIf (A.first j) j)
      rw [c]
      exact c3
  · show wp (f3_beginSweep_L28 s x (m + 1) (nI 24) M2) _
    rw [f3_beginSweep_L28]
    repeat' (first | with_reducible refine wp_some ?_ | with_reducible refine wp_bd ?_ | (with_reducible refine wp_ifp ?_ ?_; · (first | exact ⟨by decide, by decide⟩ | exact sx_in_n (by omega) (by omega) | assumption | exact ⟨sx_in_n (by omega) (by omega), bI01_01 _⟩ | exact Or.inl rfl | exact Or.inr rfl | (simp (disch := omega) only [nI_lit, iI_le, iI_lt, iI_eq, nI_cl, nI_add, tI_4N, bt_shrN, bI01_0N, bI01_1N, Nat.not_le, Nat.not_lt, not_true_eq_false, not_false_eq_true, true_or, or_true, false_or, or_false, Bool.not_eq_false, Bool.not_eq_true] <;> omega))) | (with_reducible refine wp_ifn ?_ ?_; · (first | exact ⟨by decide, by decide⟩ | exact sx_in_n (by omega) (by omega) | assumption | exact ⟨sx_in_n (by omega) (by omega), bI01_01 _⟩ | exact Or.inl rfl | exact Or.inr rfl | (simp (disch := omega) only [nI_lit, iI_le, iI_lt, iI_eq, nI_cl, nI_add, tI_4N, bt_shrN, bI01_0N, bI01_1N, Nat.not_le, Nat.not_lt, not_true_eq_false, not_false_eq_true, true_or, or_true, false_or, or_false, Bool.not_eq_false, Bool.not_eq_true] <;> omega))) | fail)
    refine wp_call (w5_graysInRow hI.1.2.1) ?_
    exact wp_some ⟨rfl, hI⟩
