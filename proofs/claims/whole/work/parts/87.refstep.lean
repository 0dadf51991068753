/-! THE REFERENCE TAKES A STEP OF A SWEEP -/
theorem DS.ext {M : sx_M} {k : Nat} {A B : SH} (h : DS M k A) (hg : A.g.eqv B.g) (hm : A.m = B.m) (hT : ∀ p, A.T p = B.T p) (hP : ∀ p, p < A.m → A.P p = B.P p) (hW : ∀ p, p < A.m → A.W p = B.W p) (hS : A.2.2.1 = B.2.2.1 ∨ (A.G = false ∧ B.G = false)) (hE : A.E = B.E) (hN : A.N = B.N) : DS M k B := by
  obtain ⟨h1, h2, h3, h4, h5, h6, h7, h8, h9⟩ := id h
  obtain ⟨en, ei⟩ := hg
  have hG : A.G = B.G := by
    rcases hS with e | ⟨e1, e2⟩
    · exact congrArg (fun z => z.1) e
    · rw [e1, e2]
  refine ⟨⟨en ▸ h1.1, en ▸ h1.2.1, fun i hi => ?_⟩, hm ▸ h2, hm ▸ h3, ?_, hG ▸ h5, hE ▸ h6, hN ▸ h7, fun p hp => ?_, fun q => ?_⟩
  · have hi' : i < A.g.n := by rw [en]; exact hi
    obtain ⟨e1, e2, e3⟩ := ei i hi'
    rw [← e1, ← e2, ← e3]
    exact h1.2.2 i hi'
  · rw [← hm, ← fb_ct_cong (p := A.T) (fun p _ => hT p)]; exact h4
  · rw [← hm] at hp
    rw [← hW p hp, ← hT p, ← hP p hp]; exact h8 p hp
  · rcases hS with e | ⟨-, e2⟩
    · have q' : A.G = true := by rw [hG]; exact q
      obtain ⟨k1, k2, k3⟩ := h9 q'
      have eq : A.q = B.q := congrArg (fun z => z.2.2.2) e
      have ew : A.w = B.w := congrArg (fun z => z.2.1) e
      have eb : A.b = B.b := congrArg (fun z => z.2.2.1) e
      rw [← hm, ← eq, ← ew, ← eb]
      exact ⟨k1, k2, fun p hp hTp => k3 p hp ((hT p).trans hTp)⟩
    · have q' : B.G = true := q
      rw [e2] at q'; cases q'
theorem GT.ls_split {g : GT} {i : Nat} (hi : i < g.n) : g.ls = g.ls.take i ++ (g.A i, g.B i, g.Z i) :: g.ls.drop (i + 1) := by
  have e : g.ls[i]? = some (g.A i, g.B i, g.Z i) := GT.ls_at hi
  have hl : i < g.ls.length := by rw [g.ls_len]; exact hi
  rw [List.getElem?_eq_getElem hl] at e
  have e' := Option.some.inj e
  rw [← e', ← List.drop_eq_getElem_cons hl, List.take_append_drop]
theorem GT.ls_rm {g : GT} {i : Nat} (hi : i < g.n) : (g.rm i).ls = g.ls.take i ++ g.ls.drop (i + 1) := by
  apply List.ext_getElem?
  intro j
  have hl : (g.ls.take i).length = i := by rw [List.length_take, g.ls_len]; omega
  by_cases hj : j < g.n - 1
  · rw [GT.ls_at (show j < (g.rm i).n from hj)]
    show some (g.A (if j < i then j else j + 1), g.B (if j < i then j else j + 1), g.Z (if j < i then j else j + 1)) = _
    by_cases q : j < i
    · rw [if_pos q, List.getElem?_append_left (by omega), List.getElem?_take_of_lt q, GT.ls_at (by omega)]
    · rw [if_neg q, List.getElem?_append_right (by omega), hl, List.getElem?_drop, show i + 1 + (j - i) = j + 1 by omega, GT.ls_at (by omega)]
  · rw [List.getElem?_eq_none (by rw [GT.ls_len]; show g.n - 1 ≤ j; omega), List.getElem?_eq_none (by rw [List.length_append, hl, List.length_drop, g.ls_len]; omega)]
def SH.setN (A : SH) (v : Int32) : SH := (A.1, A.2.1, A.2.2.1, A.E, v)
theorem DS.setN {M : sx_M} {k : Nat} {A : SH} (h : DS M k A) (v : Int32) : DS (sx_set M k 0 5 v) k (A.setN v) := by
  obtain ⟨h1, h2, h3, h4, h5, h6, h7, h8, h9⟩ := id h
  have rd : ∀ i, i ≠ 5 → (sx_set M k 0 5 v).1 k 0 i = M.1 k 0 i := fun i hi => rd_n _ _ _ _ _ _ _ _ hi
  refine ⟨⟨h1.1, (rd 2 (by omega)).trans h1.2.1, fun i hi => ?_⟩, h2, (rd 0 (by omega)).trans h3, (rd 1 (by omega)).trans h4, (rd 3 (by omega)).trans h5, (rd 4 (by omega)).trans h6, rd_e _ _ _ _ _, fun p hp => ?_, fun hG => ?_⟩
  · obtain ⟨g1, g2, g3, g4, g5⟩ := h1.2.2 i hi
    exact ⟨g1, g2, (rd _ (by omega)).trans g3, (rd _ (by omega)).trans g4, (rd _ (by omega)).trans g5⟩
  · obtain ⟨g3, g4, g5⟩ := h8 p hp
    exact ⟨(rd _ (by omega)).trans g3, (rd _ (by omega)).trans g4, (rd _ (by omega)).trans g5⟩
  · obtain ⟨k1, k2, k3⟩ := h9 hG
    exact ⟨(rd _ (by omega)).trans k1, fun e he => (rd _ (by omega)).trans (k2 e he), fun p hp hTp => (rd _ (by omega)).trans (k3 p hp hTp)⟩
/-- strings that do not touch a part -/
def keep1 (p : Nat) (x : Nat × Nat × Bool) : Bool := !decide (x.1 = p + 4) && !decide (x.2.1 = p)
/-- a part is gone, with its strings -/
def SH.off (A : SH) (p : Nat) (g : GT) (v : Int32) : SH := (g, (A.m, (fun x => A.T x && !decide (x = p)), (fun x => A.P x && !decide (x = p)), A.W), A.2.2.1, A.E, v)
theorem nI_sub_S (n a : Nat) (h : 1 ≤ a) : (nI n - nI a) + 1 = nI n - nI (a - 1) := by
  have e : nI a = nI (a - 1) + 1 := by rw [iI_succ]; congr 1; omega
  have e2 : nI n = ((nI n - nI a) + 1) + nI (a - 1) := by
    rw [Int32.add_assoc, Int32.add_comm 1, ← e, Int32.sub_add_cancel]
  generalize hx : (nI n - nI a) + 1 = x at e2 ⊢
  rw [e2]
  exact (Int32.add_sub_cancel _ _).symm
theorem w8_swL {M : sx_M} {k : Nat} {A : SH} (hk : row3 k) {p : Nat} (hp : p < 24) {g0 : GT} (h0 : g0.n ≤ 40) (h : DS M k (A.off p g0 A.N)) : wp (f8_sweepPart_L25 k (nI p) 5000 0 M) (fun M' => ∃ g' : GT, g'.ls = g0.ls.filter (keep1 p) ∧ DS M' k (A.off p g' (A.N + (nI g0.n - nI g'.n))) ∧ Fr (pRw k) M M') := by
  refine wp_wh (F := fun m (a : Nat × GT × sx_M) => f8_sweepPart_L25 k (nI p) m (nI a.1) a.2.2) (fun a => a.2.1.n - a.1) (fun a => a.1 ≤ a.2.1.n ∧ a.2.1.n ≤ g0.n ∧ a.2.1.ls.filter (keep1 p) = g0.ls.filter (keep1 p) ∧ (∀ x ∈ a.2.1.ls.take a.1, keep1 p x = true) ∧ DS a.2.2 k (A.off p a.2.1 (A.N + (nI g0.n - nI a.2.1.n))) ∧ Fr (pRw k) M a.2.2) (fun m a hI kk => ?_) 5000 (0, g0, M) (by show g0.n - 0 < 5000; omega) ⟨Nat.zero_le _, Nat.le_refl _, rfl, fun x hx => absurd hx (by simp), ?_, Fr.rf⟩
  · obtain ⟨i, g, M1⟩ := a
    obtain ⟨i1, i2, i3, i4, d1, f1⟩ := hI
    dsimp only at i1 i2 i3 i4 d1 f1
    have e2 : M1.1 k 0 ((2 : Int32)).toNatClampNeg = nI g.n := d1.1.2.1
    show wp (f8_sweepPart_L25 k (nI p) (m + 1) (nI i) M1) _
    rw [f8_sweepPart_L25]
    refine wp_ifp (in3 hk (a := 2) (by omega)) ?_
    with_reducible refine wp_bd ?_
    rw [e2]
    with_reducible refine wp_if (fun c => ?_) (fun c => ?_) <;> rw [iI_le (by omega) (by omega)] at c
    · refine wp_some ⟨g, ?_, d1, f1⟩
      rw [← i3]
      have : i = g.n := by omega
      rw [this, List.take_of_length_le (by rw [g.ls_len]; exact Nat.le_refl _)] at i4
      exact (List.filter_eq_self.mpr i4).symm
    · have hi : i < g.n := by omega
      have hGD : GD M1 k g := d1.1
      obtain ⟨g1, g2, g3, g4, g5⟩ := hGD.2.2 i hi
      refine wp_call (w8_co0 _ _) ?_
      refine wp_ifp (in3 hk (by omega)) ?_
      with_reducible refine wp_bd ?_
      with_reducible refine wp_bd ?_
      have hsp := GT.ls_split hi
      have drop : keep1 p (g.A i, g.B i, g.Z i) = false → wp ((f8_removeString k (nI i) M1).bind fun M11 =>
        if sx_in (5 : Int32) (sx_len k) then
        sx_bd (M11.1 k 0 ((5 : Int32)).toNatClampNeg) fun v12 =>
        if sx_in (5 : Int32) (sx_len k) then
        sx_bd (sx_set M11 k 0 ((5 : Int32)).toNatClampNeg (v12 + (1 : Int32))) fun M13 =>
        f8_sweepPart_L25 k (nI p) m (nI i) M13
        else none
        else none) (fun M' => ∃ g' : GT, g'.ls = g0.ls.filter (keep1 p) ∧ DS M' k (A.off p g' (A.N + (nI g0.n - nI g'.n))) ∧ Fr (pRw k) M M') := fun hne => by
        obtain ⟨M11, e11, d11, f11⟩ := w8_removeString hk d1 (i := i) hi
        refine wp_call e11 ?_
        have e5 : M11.1 k 0 ((5 : Int32)).toNatClampNeg = A.N + (nI g0.n - nI g.n) := d11.2.2.2.2.2.2.1
        refine wp_ifp (in3 hk (a := 5) (by omega)) ?_
        with_reducible refine wp_bd ?_
        refine wp_ifp (in3 hk (a := 5) (by omega)) ?_
        with_reducible refine wp_bd ?_
        rw [e5, Int32.add_assoc, nI_sub_S _ _ (by omega)]
        refine kk (i, g.rm i, _) ⟨by show i ≤ g.n - 1; omega, by show g.n - 1 ≤ g0.n; omega, ?_, ?_, d11.setN _, f1.trans (f11.set (pRw_i k))⟩ (by show g.n - 1 - i < g.n - i; omega)
        · show (g.rm i).ls.filter (keep1 p) = _
          rw [← i3, GT.ls_rm hi]
          conv => rhs; rw [hsp]
          rw [List.filter_append, List.filter_append, List.filter_cons_of_neg (by rw [hne]; decide)]
        · show ∀ x ∈ (g.rm i).ls.take i, keep1 p x = true
          rw [GT.ls_rm hi, List.take_append_of_le_length (by rw [List.length_take, g.ls_len]; omega), List.take_take, Nat.min_self]
          exact i4
      rw [nI_cl (by omega), g3]
      with_reducible refine wp_if (fun c2 => ?_) (fun c2 => ?_) <;> rw [tI_nI (by omega) (by omega)] at c2
      · exact drop (by show (!decide (g.A i = p + 4) && !decide (g.B i = p)) = false; rw [decide_eq_true c2]; rfl)
      · refine wp_call (w8_co1 _ _) ?_
        refine wp_ifp (in3 hk (by omega)) ?_
        with_reducible refine wp_bd ?_
        rw [nI_cl (by omega), g4]
        with_reducible refine wp_if (fun c3 => ?_) (fun c3 => ?_) <;> rw [iI_eq (by omega) (by omega)] at c3
        · exact drop (by show (!decide (g.A i = p + 4) && !decide (g.B i = p)) = false; rw [decide_eq_true c3, Bool.not_true, Bool.and_false])
        · with_reducible refine wp_bd ?_
          rw [iI_succ]
          refine kk (i + 1, g, M1) ⟨hi, i2, i3, ?_, d1, f1⟩ (by show g.n - (i + 1) < g.n - i; omega)
          show ∀ x ∈ g.ls.take (i + 1), keep1 p x = true
          rw [List.take_succ, GT.ls_at hi]
          intro x hx
          rcases List.mem_append.mp hx with hx | hx
          · exact i4 x hx
          · have : x = (g.A i, g.B i, g.Z i) := by simpa using hx
            rw [this]
            show (!decide (g.A i = p + 4) && !decide (g.B i = p)) = true
            rw [decide_eq_false c2, decide_eq_false c3]; rfl
  · show DS M k (A.off p g0 (A.N + (nI g0.n - nI g0.n)))
    rw [Int32.sub_self, Int32.add_zero]
    exact h
theorem w8_sweepPart {M : sx_M} {k : Nat} {A : SH} (hk : row3 k) (h : DS M k A) {p : Nat} (hp : p < A.m) (hTp : A.T p = true) : wp (f8_sweepPart k (nI p) M) (fun M' => ∃ g' : GT, g'.ls = A.g.ls.filter (keep1 p) ∧ DS M' k (A.off p g' (A.N + (nI A.g.n - nI g'.n))) ∧ Fr (pRw k) M M') := by
  obtain ⟨h1, h2, h3, h4, h5, h6, h7, h8, h9⟩ := id h
  have h40 := h1.1
  rw [f8_sweepPart]
  refine wp_call (w8_pa1 _ _) ?_
  refine wp_ifp (in3 hk (by omega)) ?_
  with_reducible refine wp_bd ?_
  refine wp_call (w8_pa2 _ _) ?_
  refine wp_ifp (in3 hk (by omega)) ?_
  with_reducible refine wp_bd ?_
  refine wp_ifp (in3 hk (a := 1) (by omega)) ?_
  with_reducible refine wp_bd ?_
  refine wp_ifp (in3 hk (a := 1) (by omega)) ?_
  with_reducible refine wp_bd ?_
  have e1 : (sx_set (sx_set M k 0 (nI (7 + 4 * p + 1)).toNatClampNeg (0 : Int32)) k 0 (nI (7 + 4 * p + 2)).toNatClampNeg (0 : Int32)).1 k 0 ((1 : Int32)).toNatClampNeg = nI A.m - nI (fb_ct A.T 24) := by
    rw [nI_cl (by omega), nI_cl (by omega)]
    show (sx_set (sx_set M k 0 (7 + 4 * p + 1) 0) k 0 (7 + 4 * p + 2) 0).1 k 0 1 = _
    rw [rd_n _ _ _ _ _ _ _ _ (by omega), rd_n _ _ _ _ _ _ _ _ (by omega)]
    exact h4
  rw [e1, nI_cl (by omega), nI_cl (by omega)]
  have hct : 1 ≤ fb_ct A.T 24 ∧ fb_ct (fun x => A.T x && !decide (x = p)) 24 = fb_ct A.T 24 - 1 := by
    have e : fb_ct (fun x => if x = p then false else A.T x) 24 + (if A.T p = true then 1 else 0) = fb_ct A.T 24 + (if false = true then 1 else 0) := fb_ct_upd A.T false (by omega)
    rw [hTp, if_pos rfl, if_neg (by decide)] at e
    have e' : fb_ct (fun x => A.T x && !decide (x = p)) 24 = fb_ct (fun x => if x = p then false else A.T x) 24 := fb_ct_cong (fun x _ => by by_cases q : x = p <;> simp [q])
    rw [e']; omega
  rw [nI_sub_S _ _ hct.1]
  have d6 : DS (sx_set (sx_set (sx_set M k 0 (7 + 4 * p + 1) (0 : Int32)) k 0 (7 + 4 * p + 2) (0 : Int32)) k 0 ((1 : Int32)).toNatClampNeg (nI A.m - nI (fb_ct A.T 24 - 1))) k (A.off p A.g A.N) := by
    show DS (sx_set (sx_set (sx_set M k 0 (7 + 4 * p + 1) (0 : Int32)) k 0 (7 + 4 * p + 2) (0 : Int32)) k 0 1 (nI A.m - nI (fb_ct A.T 24 - 1))) k (A.off p A.g A.N)
    have rd : ∀ i, i ≠ 1 → i ≠ 7 + 4 * p + 1 → i ≠ 7 + 4 * p + 2 → (sx_set (sx_set (sx_set M k 0 (7 + 4 * p + 1) (0 : Int32)) k 0 (7 + 4 * p + 2) (0 : Int32)) k 0 1 (nI A.m - nI (fb_ct A.T 24 - 1))).1 k 0 i = M.1 k 0 i := fun i q1 q2 q3 => by
      rw [rd_n _ _ _ _ _ _ _ _ q1, rd_n _ _ _ _ _ _ _ _ q3, rd_n _ _ _ _ _ _ _ _ q2]
    refine ⟨⟨h40, (rd 2 (by omega) (by omega) (by omega)).trans h1.2.1, fun i hi => ?_⟩, h2, (rd 0 (by omega) (by omega) (by omega)).trans h3, ?_, (rd 3 (by omega) (by omega) (by omega)).trans h5, (rd 4 (by omega) (by omega) (by omega)).trans h6, (rd 5 (by omega) (by omega) (by omega)).trans h7, fun x hx => ?_, fun hG => ?_⟩
    · have hi' : i < A.g.n := hi
      obtain ⟨g1, g2, g3, g4, g5⟩ := h1.2.2 i hi
      exact ⟨g1, g2, (rd _ (by omega) (by omega) (by omega)).trans g3, (rd _ (by omega) (by omega) (by omega)).trans g4, (rd _ (by omega) (by omega) (by omega)).trans g5⟩
    · rw [rd_e]
      show _ = nI A.m - nI (fb_ct (fun x => A.T x && !decide (x = p)) 24)
      rw [hct.2]
    · have hx' : x < A.m := hx
      obtain ⟨g3, g4, g5⟩ := h8 x hx
      refine ⟨(rd _ (by omega) (by omega) (by omega)).trans g3, ?_, ?_⟩
      · show _ = bI01 (A.T x && !decide (x = p))
        by_cases q : x = p
        · subst q
          rw [rd_n _ _ _ _ _ _ _ _ (by omega), rd_n _ _ _ _ _ _ _ _ (by omega), rd_e]
          simp; rfl
        · rw [decide_eq_false q, Bool.not_false, Bool.and_true]
          exact (rd _ (by omega) (by omega) (by omega)).trans g4
      · show _ = bI01 (A.P x && !decide (x = p))
        by_cases q : x = p
        · subst q
          rw [rd_n _ _ _ _ _ _ _ _ (by omega), rd_e]
          simp; rfl
        · rw [decide_eq_false q, Bool.not_false, Bool.and_true]
          exact (rd _ (by omega) (by omega) (by omega)).trans g5
    · obtain ⟨k1, k2, k3⟩ := h9 hG
      refine ⟨(rd _ (by omega) (by omega) (by omega)).trans k1, fun e he => (rd _ (by omega) (by omega) (by omega)).trans (k2 e he), fun x hx hTx => ?_⟩
      have hx' : x < A.m := hx
      have hTx' : (A.T x && !decide (x = p)) = true := hTx
      rw [Bool.and_eq_true] at hTx'
      exact (rd _ (by omega) (by omega) (by omega)).trans (k3 x hx hTx'.1)
  have f6 : Fr (pRw k) M (sx_set (sx_set (sx_set M k 0 (7 + 4 * p + 1) (0 : Int32)) k 0 (7 + 4 * p + 2) (0 : Int32)) k 0 ((1 : Int32)).toNatClampNeg (nI A.m - nI (fb_ct A.T 24 - 1))) := ((Fr.rf.set (pRw_i k)).set (pRw_i k)).set (pRw_i k)
  generalize sx_set (sx_set (sx_set M k 0 (7 + 4 * p + 1) (0 : Int32)) k 0 (7 + 4 * p + 2) (0 : Int32)) k 0 ((1 : Int32)).toNatClampNeg (nI A.m - nI (fb_ct A.T 24 - 1)) = M6 at d6 f6 ⊢
  refine wp_mono (w8_swL hk (by omega) h40 d6) (fun M' q => ?_)
  obtain ⟨g', q1, q2, q3⟩ := q
  exact ⟨g', q1, q2, f6.trans q3⟩
