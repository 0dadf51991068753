/-! THE REFERENCE'S WIDENING -/
def XQ (Q : List Nat) (t : Nat) : Bool := decide (t < 4) || decide (t - 4 ∈ Q)
theorem XQ_p (Q : List Nat) (p : Nat) : XQ Q (p + 4) = decide (p ∈ Q) := by
  unfold XQ
  rw [decide_eq_false (by omega), Nat.add_sub_cancel]; rfl
theorem XQ_h (Q : List Nat) {t : Nat} (h : t < 4) : XQ Q t = true := by unfold XQ; rw [decide_eq_true h]; rfl
theorem XQ_add (Q : List Nat) (q : Nat) : XQ (Q ++ [q]) = fx1 (XQ Q) (q + 4) true := by
  funext t
  by_cases z : t = q + 4
  · subst z; rw [fx1_s, XQ_p]; simp
  · rw [fx1_n _ _ z]
    unfold XQ
    by_cases h : t < 4
    · simp [h]
    · have : t - 4 ≠ q := by omega
      simp [h, this]
theorem XQ_part {Q : List Nat} {t : Nat} (h : XQ Q t = true) (h4 : 4 ≤ t) : t - 4 ∈ Q := by
  have := XQ_p Q (t - 4)
  rw [show t - 4 + 4 = t by omega, h] at this
  exact decide_eq_true_eq.mp this.symm
def frm (P U : Nat → Bool) (via : Nat → Nat) (Q : List Nat) (p : Nat) : Int32 := if p ∈ Q then (if P p then nI 40 else if U (via (p + 4)) then nI (100 + via (p + 4)) else nI (via (p + 4))) else -9
def WI (g : GT) (P U : Nat → Bool) (M0 M1 : sx_M) (Q : List Nat) (via d : Nat → Nat) : Prop := Fr pBF M0 M1 ∧ Q.Nodup ∧ (∀ q ∈ Q, q < 24) ∧ (∀ e, e < Q.length → M1.1 29 0 e = nI (Q.getD e 0)) ∧ (∀ p, p < 24 → M1.1 28 0 p = frm P U via Q p) ∧ (∀ p, p < 24 → P p = true → p ∈ Q) ∧ g.rs P U (XQ Q) via d
def HC (g : GT) (U : Nat → Bool) (Q : List Nat) (j : Nat) : Prop := ∀ i, i < j → g.Z i = true → U i = false → g.A i < 4 → g.B i ∈ Q
def PC (g : GT) (U : Nat → Bool) (Q : List Nat) (k j : Nat) : Prop := ∀ k' i, k' < Q.length → i < g.n → (k' < k ∨ (k' = k ∧ i < j)) → g.Z i = true → (U i = false → g.A i = Q.getD k' 0 + 4 → g.B i ∈ Q) ∧ (U i = true → g.B i = Q.getD k' 0 → 4 ≤ g.A i → g.A i - 4 ∈ Q)
section
variable {g : GT} {P U : Nat → Bool}
theorem WI.len {M0 M1 : sx_M} {Q : List Nat} {via d : Nat → Nat} (h : WI g P U M0 M1 Q via d) : Q.length ≤ 24 := nd_len h.2.1 h.2.2.1
theorem hol_p (P : Nat → Bool) {p : Nat} (hp : p < 24) : hol P (p + 4) = P p := by
  unfold hol
  rw [decide_eq_false (by omega), decide_eq_true (by omega), Nat.add_sub_cancel]; simp
theorem WI.cell {M0 M1 : sx_M} {Q : List Nat} {via d : Nat → Nat} (hg : g.ok) (h : WI g P U M0 M1 Q via d) {p : Nat} (hp : p < 24) (hq : p ∈ Q) (hP : P p = false) : via (p + 4) < g.n ∧ M1.1 28 0 p = if U (via (p + 4)) then nI (100 + via (p + 4)) else nI (via (p + 4)) := by
  obtain ⟨f1, nd, hlt, h29, h28, hPQ, hr⟩ := h
  have := hr (p + 4) (by omega) (by rw [hol_p P hp]; exact hP) (by rw [XQ_p, decide_eq_true hq])
  refine ⟨this.2.1, ?_⟩
  rw [h28 p hp]
  unfold frm
  rw [if_pos hq, hP, if_neg (by decide)]
theorem WI.m9 {M0 M1 : sx_M} {Q : List Nat} {via d : Nat → Nat} (hg : g.ok) (h : WI g P U M0 M1 Q via d) {p : Nat} (hp : p < 24) : M1.1 28 0 p = -9 ↔ p ∉ Q := by
  have h40 := hg.1
  by_cases hq : p ∈ Q
  · refine ⟨fun e => ?_, fun e => absurd hq e⟩
    cases hP : P p with
    | true =>
      rw [h.2.2.2.2.1 p hp] at e
      unfold frm at e
      rw [if_pos hq, hP, if_pos rfl] at e
      exact absurd e (by decide)
    | false =>
      obtain ⟨c1, c2⟩ := h.cell hg hp hq hP
      rw [c2] at e
      split at e
      · exact absurd e (nI_ne_m9 (by omega))
      · exact absurd e (nI_ne_m9 (by omega))
  · refine ⟨fun _ => hq, fun _ => ?_⟩
    rw [h.2.2.2.2.1 p hp]
    unfold frm
    rw [if_neg hq]
theorem WI.add (hg : g.ok) {M0 M1 : sx_M} {Q : List Nat} {via d : Nat → Nat} (h : WI g P U M0 M1 Q via d) {q i : Nat} (hq : q < 24) (hx : q ∉ Q) (hi : i < g.n) (hz : g.Z i = true)
    (hd : (U i = false ∧ g.B i = q ∧ XQ Q (g.A i) = true) ∨ (U i = true ∧ g.A i = q + 4 ∧ XQ Q (g.B i + 4) = true)) {v : Int32} (hv : v = if U i then nI (100 + i) else nI i) :
    WI g P U M0 (sx_set (sx_set M1 28 0 q v) 29 0 Q.length (nI q)) (Q ++ [q]) (fx1 via (q + 4) i) (fx1 d (q + 4) (fb_ct (fun p => XQ Q (p + 4)) 24)) ∧ Q.length < 24 := by
  obtain ⟨f1, nd, hlt, h29, h28, hP, hr⟩ := h
  have hPq : P q = false := by
    cases e : P q with
    | false => rfl
    | true => exact absurd (hP q hq e) hx
  have hlt24 : Q.length < 24 := by
    have : (q :: Q).length ≤ 24 := nd_len (List.nodup_cons.mpr ⟨hx, nd⟩) (fun x hx => by
      rcases List.mem_cons.mp hx with rfl | hx
      · exact hq
      · exact hlt x hx)
    exact this
  have el : (Q ++ [q]).length = Q.length + 1 := by rw [List.length_append]; rfl
  refine ⟨⟨(f1.set ⟨Or.inl rfl, rfl⟩).set ⟨Or.inr rfl, rfl⟩, ?_, fun x hxx => ?_, fun e he => ?_, fun p hp => ?_, fun p hp hh => List.mem_append_left _ (hP p hp hh), ?_⟩, hlt24⟩
  · rw [List.nodup_append]
    exact ⟨nd, by simp, fun a ha b hb e => by rw [List.mem_singleton.mp hb] at e; rw [e] at ha; exact hx ha⟩
  · rcases List.mem_append.mp hxx with hxx | hxx
    · exact hlt x hxx
    · rw [List.mem_singleton.mp hxx]; exact hq
  · rw [el] at he
    by_cases z : e = Q.length
    · subst z
      rw [rd_e, getD_last]
    · rw [rd_n _ _ _ _ _ _ _ _ z, st_at, if_neg (by omega), getD_app (by omega)]
      exact h29 e (by omega)
  · rw [st_at, if_neg (by omega), st_at]
    by_cases z : p = q
    · subst z
      rw [if_pos ⟨rfl, rfl, rfl⟩]
      unfold frm
      rw [if_pos (by simp), hPq, if_neg (by decide), fx1_s]
      exact hv
    · rw [if_neg (fun y => z y.2.2), h28 p hp]
      unfold frm
      rw [fx1_n _ _ (by omega)]
      have : p ∈ Q ↔ p ∈ Q ++ [q] := by simp [z]
      by_cases y : p ∈ Q
      · rw [if_pos y, if_pos (this.mp y)]
      · rw [if_neg y, if_neg (fun w => y (this.mpr w))]
  · rw [XQ_add]
    exact GT.rs_add hr hq (by rw [XQ_p, decide_eq_false hx]) hi hz hg (hd.imp (fun z => ⟨z.1, by rw [z.2.1], z.2.2⟩) id)
theorem HC.app {Q : List Nat} {q j : Nat} (h : HC g U Q j) : HC g U (Q ++ [q]) j := fun i hi hz hu ha => List.mem_append_left _ (h i hi hz hu ha)
theorem PC.app {Q : List Nat} {q k j : Nat} (hk : k < Q.length) (h : PC g U Q k j) : PC g U (Q ++ [q]) k j := fun k' i hk' hi hc hz => by
  have hk2 : k' < Q.length := by omega
  obtain ⟨z1, z2⟩ := h k' i hk2 hi hc hz
  rw [getD_app hk2]
  exact ⟨fun a b => List.mem_append_left _ (z1 a b), fun a b c => List.mem_append_left _ (z2 a b c)⟩
theorem mem_place {Q : List Nat} {q : Nat} (h : q ∈ Q) : ∃ k, k < Q.length ∧ Q.getD k 0 = q := by
  obtain ⟨k, hk, e⟩ := List.getElem_of_mem h
  exact ⟨k, hk, by rw [List.getD_eq_getElem?_getD, List.getElem?_eq_getElem hk]; exact e⟩
theorem shut_of {Q : List Nat} {k : Nat} (hC : HC g U Q g.n) (hP : PC g U Q k 0) (hk : Q.length ≤ k) : g.shut U (XQ Q) := by
  intro i hi hz
  refine ⟨fun hu hb => ?_, fun hu ha => ?_⟩
  · rw [XQ_p, decide_eq_true_eq] at hb
    by_cases h4 : g.A i < 4
    · exact XQ_h Q h4
    · obtain ⟨k', hk', e⟩ := mem_place hb
      have := (hP k' i hk' hi (Or.inl (by omega)) hz).2 hu e.symm (by omega)
      have e2 := XQ_p Q (g.A i - 4)
      rw [show g.A i - 4 + 4 = g.A i by omega] at e2
      rw [e2, decide_eq_true this]
  · rw [XQ_p, decide_eq_true_eq]
    by_cases h4 : g.A i < 4
    · exact hC i hi hz hu h4
    · obtain ⟨k', hk', e⟩ := mem_place (XQ_part ha (by omega))
      exact (hP k' i hk' hi (Or.inl (by omega)) hz).1 hu (by omega)
end
/-- whether a part is pinned, of the reference's row -/
theorem wd_pick {M1 : sx_M} {A : SH} (d1 : DS M1 20 A) (hI : IS A) {j : Nat} (hj : j < 24) {α : Type} {J : Int32 → Option α} {R : α → Prop} (hX : A.P j = false → wp (J (-9)) R) (hY : A.P j = true → wp (J 40) R) :
    wp ((f8_isPart 20 (nI j) M1).bind fun v2 =>
      sx_bd J fun j47 =>
      sx_bd (fun (_ : Unit) => j47 (-9 : Int32)) fun j45 =>
      if v2 = 0 then
        j45 ()
      else
        (f8_partAt (nI j) (2 : Int32) M1).bind fun v13 =>
        if sx_in v13 247 then
        sx_bd (M1.1 20 0 (v13).toNatClampNeg) fun v14 =>
        if v14 = (1 : Int32) then
          j47 (40 : Int32)
        else
          j45 ()
        else none) R := by
  obtain ⟨r1, e1, hr1⟩ := w8_isPart row20 d1 (fun p _ => hI.2.2.2.1 p) (nI j)
  refine wp_call e1 ?_
  with_reducible refine wp_bd ?_
  with_reducible refine wp_bd ?_
  rcases hr1 with ⟨rfl, p', hp', ep', hTp⟩ | ⟨rfl, hno⟩
  · rw [iI_eq (by omega) (by omega)] at ep'
    subst ep'
    refine wp_ifn (by decide) ?_
    refine wp_call (w8_pa2 _ _) ?_
    refine wp_ifp (in3 row20 (by omega)) ?_
    have e5 : M1.1 20 0 (nI (7 + 4 * j + 2)).toNatClampNeg = bI01 (A.P j) := by rw [nI_cl (by omega)]; exact (d1.2.2.2.2.2.2.2.1 j (hI.2.2.2.1 j hTp)).2.2
    with_reducible refine wp_bd ?_
    rw [e5]
    with_reducible refine wp_if (fun c => ?_) (fun c => ?_) <;> rw [bI01_1] at c
    · exact hY c
    · rw [Bool.not_eq_true] at c
      exact hX c
  · refine wp_ifp rfl ?_
    refine hX ?_
    cases e : A.P j with
    | false => rfl
    | true => exact absurd ⟨j, hj, rfl, hI.2.2.2.2.1 j e⟩ hno
theorem w8_wd4 {M : sx_M} {A : SH} (U : Nat → Bool) (h : DS M 20 A) (hI : IS A) {a1 : Int32} {K : Int32 → sx_M → Option (Int32 × sx_M)} {R : Int32 × sx_M → Prop} (hK : ∀ Q M1, WI A.g A.P U M M1 Q (fun _ => 0) (fun _ => 0) → wp (K (nI Q.length) M1) R) : wp (f8_widen_L4 a1 K 5000 0 0 M) R := by
  refine wp_up (F := fun m x3 (a : List Nat × sx_M) => f8_widen_L4 a1 K m (nI a.1.length) x3 a.2) 24 (fun j a => a.1 = (List.range j).filter A.P ∧ Fr pBF M a.2 ∧ (∀ e, e < a.1.length → a.2.1 29 0 e = nI (a.1.getD e 0)) ∧ ∀ p, p < j → a.2.1 28 0 p = if A.P p then nI 40 else -9) (fun m j a hj hI2 kk => ?_) (fun m a hI2 => ?_) 5000 0 ([], M) (by omega) (by omega) ⟨rfl, Fr.rf, fun e he => absurd he (Nat.not_lt_zero _), fun p hp => absurd hp (Nat.not_lt_zero _)⟩
  · obtain ⟨Q, M1⟩ := a
    obtain ⟨i1, f1, i29, i28⟩ := hI2
    dsimp only at i1 f1 i29 i28
    have hlen : Q.length ≤ j := by
      rw [i1]
      exact Nat.le_trans (List.length_filter_le _ _) (by rw [List.length_range]; exact Nat.le_refl _)
    have d1 : DS M1 20 A := h.fr f1 (fun q => by have := q.1; omega)
    have rs1 : (List.range (j + 1)).filter A.P = if A.P j then Q ++ [j] else Q := by
      rw [List.range_succ, List.filter_append, ← i1]
      cases e : A.P j <;> simp [e]
    show wp (f8_widen_L4 a1 K (m + 1) (nI Q.length) (nI j) M1) _
    rw [f8_widen_L4]
    refine wp_ifn (by rw [show (24 : Int32) = nI 24 from rfl, iI_le (by omega) (by omega)]; omega) ?_
    refine wd_pick d1 hI hj (fun hPj => ?_) (fun hPj => ?_)
    · refine wp_ifp (sx_in_n hj (by omega)) ?_
      with_reducible refine wp_bd ?_
      refine wp_ifp (sx_in_n hj (by omega)) ?_
      with_reducible refine wp_bd ?_
      with_reducible refine wp_bd ?_
      rw [nI_cl (by omega), rd_e]
      refine wp_ifn (by decide) ?_
      refine kk (Q, _) ⟨by rw [rs1, hPj]; rfl, f1.set ⟨Or.inl rfl, rfl⟩, fun e he => ?_, fun p hp => ?_⟩
      · show (sx_set M1 28 0 j (-9 : Int32)).1 29 0 e = _
        rw [st_at, if_neg (by omega)]; exact i29 e he
      · show (sx_set M1 28 0 j (-9 : Int32)).1 28 0 p = _
        by_cases q : p = j
        · subst q; rw [rd_e, hPj]; rfl
        · rw [rd_n _ _ _ _ _ _ _ _ q]; exact i28 p (by omega)
    · refine wp_ifp (sx_in_n hj (by omega)) ?_
      with_reducible refine wp_bd ?_
      refine wp_ifp (sx_in_n hj (by omega)) ?_
      with_reducible refine wp_bd ?_
      with_reducible refine wp_bd ?_
      rw [nI_cl (by omega), rd_e]
      refine wp_ifp rfl ?_
      refine wp_ifp (sx_in_n (a := Q.length) (by omega) (by omega)) ?_
      with_reducible refine wp_bd ?_
      with_reducible refine wp_bd ?_
      rw [nI_cl (a := Q.length) (by omega)]
      have el : (Q ++ [j]).length = Q.length + 1 := by rw [List.length_append]; rfl
      have K' := kk (Q ++ [j], sx_set (sx_set M1 28 0 j (40 : Int32)) 29 0 Q.length (nI j)) ⟨by rw [rs1, hPj]; rfl, (f1.set ⟨Or.inl rfl, rfl⟩).set ⟨Or.inr rfl, rfl⟩, fun e he => ?_, fun p hp => ?_⟩
      · have e9 : nI Q.length + (1 : Int32) = nI (Q ++ [j]).length := by rw [el]; exact iI_succ _
        rw [e9]; exact K'
      · rw [el] at he
        show (sx_set (sx_set M1 28 0 j (40 : Int32)) 29 0 Q.length (nI j)).1 29 0 e = _
        by_cases z : e = Q.length
        · subst z
          rw [rd_e, getD_last]
        · rw [rd_n _ _ _ _ _ _ _ _ z, st_at, if_neg (by omega), getD_app (by omega)]
          exact i29 e (by omega)
      · show (sx_set (sx_set M1 28 0 j (40 : Int32)) 29 0 Q.length (nI j)).1 28 0 p = _
        rw [st_at, if_neg (by omega)]
        by_cases q : p = j
        · subst q; rw [rd_e, hPj]; rfl
        · rw [rd_n _ _ _ _ _ _ _ _ q]; exact i28 p (by omega)
  · obtain ⟨Q, M1⟩ := a
    obtain ⟨i1, f1, i29, i28⟩ := hI2
    dsimp only at i1 f1 i29 i28
    show wp (f8_widen_L4 a1 K (m + 1) (nI Q.length) (nI 24) M1) _
    rw [f8_widen_L4]
    refine wp_ifp (by decide) ?_
    have hmem : ∀ p, p ∈ Q ↔ p < 24 ∧ A.P p = true := fun p => by rw [i1, List.mem_filter, List.mem_range]
    refine hK Q M1 ⟨f1, by rw [i1]; exact List.nodup_range.filter _, fun q hq => ((hmem q).mp hq).1, i29, fun p hp => ?_, fun p hp hh => (hmem p).mpr ⟨hp, hh⟩, fun t ht hh hX => ?_⟩
    · rw [i28 p hp]
      unfold frm
      cases hPp : A.P p with
      | true => rw [if_pos ((hmem p).mpr ⟨hp, hPp⟩), if_pos rfl, if_pos rfl]
      | false => rw [if_neg (by decide : ¬ false = true), if_neg (fun (z : p ∈ Q) => by have := ((hmem p).mp z).2; rw [hPp] at this; cases this)]
    · exfalso
      by_cases h4 : t < 4
      · have : hol A.P t = true := by unfold hol; rw [decide_eq_true h4]; rfl
        rw [this] at hh; cases hh
      · have h1 := (hmem _).mp (XQ_part hX (by omega))
        have h2 := hol_p A.P (p := t - 4) h1.1
        rw [show t - 4 + 4 = t by omega, hh, h1.2] at h2
        cases h2
section
variable {A : SH} {U : Nat → Bool} {M0 : sx_M}
theorem w8_wd77 {M : sx_M} (h : DS M0 20 A) (hok : A.g.ok) (hU : ∀ i, i < A.g.n → M0.1 27 0 i = bI01 (U i)) {Q0 : List Nat} {via0 d0 : Nat → Nat} (hW : WI A.g A.P U M0 M Q0 via0 d0) {a1 : Int32} {K : Int32 → sx_M → Option (Int32 × sx_M)} {R : Int32 × sx_M → Prop} (hK : ∀ Q via d M1, WI A.g A.P U M0 M1 Q via d → HC A.g U Q A.g.n → wp (K (nI Q.length) M1) R) : wp (f8_widen_L77 a1 K 5000 (nI Q0.length) 0 M) R := by
  have h40 := hok.1
  refine wp_up (F := fun m x3 (a : List Nat × (Nat → Nat) × (Nat → Nat) × sx_M) => f8_widen_L77 a1 K m (nI a.1.length) x3 a.2.2.2) A.g.n (fun j a => WI A.g A.P U M0 a.2.2.2 a.1 a.2.1 a.2.2.1 ∧ HC A.g U a.1 j) (fun m j a hj hI2 kk => ?_) (fun m a hI2 => ?_) 5000 0 (Q0, via0, d0, M) (by omega) (by omega) ⟨hW, fun i hi => absurd hi (Nat.not_lt_zero _)⟩
  · obtain ⟨Q, via, d, M1⟩ := a
    obtain ⟨hW1, hC⟩ := hI2
    dsimp only at hW1 hC
    have f1 := hW1.1
    have d1 : DS M1 20 A := h.fr f1 (fun q => by have := q.1; omega)
    obtain ⟨g1, g2, g3, g4, g5⟩ := d1.1.2.2 j hj
    have e2 : M1.1 20 0 ((2 : Int32)).toNatClampNeg = nI A.g.n := d1.1.2.1
    have e10 : M1.1 20 0 (nI (103 + 3 * j + 1)).toNatClampNeg = nI (A.g.B j) := by rw [nI_cl (by omega)]; exact g4
    have e12 : M1.1 20 0 (nI (103 + 3 * j + 0)).toNatClampNeg = tI (A.g.A j) := by rw [nI_cl (by omega)]; exact g3
    have e5 : M1.1 20 0 (nI (103 + 3 * j + 2)).toNatClampNeg = bI01 (A.g.Z j) := by rw [nI_cl (by omega)]; exact g5
    have e27 : M1.1 27 0 (nI j).toNatClampNeg = bI01 (U j) := by rw [nI_cl (by omega), f1.1 27 0 (fun q => by have := q.1; omega)]; exact hU j hj
    have keep : (A.g.Z j = true → U j = false → A.g.A j < 4 → A.g.B j ∈ Q) → wp (f8_widen_L77 a1 K m (nI Q.length) (nI j + 1) M1) R := fun hn => kk (Q, via, d, M1) ⟨hW1, fun i hi => if e : i = j then e ▸ hn else hC i (by omega)⟩
    show wp (f8_widen_L77 a1 K (m + 1) (nI Q.length) (nI j) M1) _
    rw [f8_widen_L77]
    refine wp_ifp (in3 row20 (a := 2) (by omega)) ?_
    with_reducible refine wp_bd ?_
    rw [e2]
    refine wp_ifn (by rw [iI_le (by omega) (by omega)]; omega) ?_
    refine wp_call (w8_co1 _ _) ?_
    refine wp_ifp (in3 row20 (by omega)) ?_
    with_reducible refine wp_bd ?_
    refine wp_call (w8_co0 _ _) ?_
    refine wp_ifp (in3 row20 (by omega)) ?_
    with_reducible refine wp_bd ?_
    with_reducible refine wp_bd ?_
    rw [e10, e12]
    with_reducible refine wp_if (fun c => ?_) (fun c => ?_) <;> rw [tI_pos (by omega)] at c
    · exact keep (fun _ _ z => by omega)
    · refine wp_call (w8_co2 _ _) ?_
      refine wp_ifp (in3 row20 (by omega)) ?_
      with_reducible refine wp_bd ?_
      rw [e5]
      with_reducible refine wp_if (fun c2 => ?_) (fun c2 => ?_) <;> rw [bI01_1] at c2
      · refine wp_ifp (sx_in_n (a := j) (by omega) (by omega)) ?_
        with_reducible refine wp_bd ?_
        rw [e27]
        with_reducible refine wp_if (fun c3 => ?_) (fun c3 => ?_) <;> rw [bI01_0] at c3
        · refine wp_ifp (sx_in_n g2 (by omega)) ?_
          with_reducible refine wp_bd ?_
          with_reducible refine wp_if (fun c4 => ?_) (fun c4 => ?_) <;> rw [nI_cl (by omega), hW1.m9 hok g2] at c4
          · obtain ⟨hW2, hlt⟩ := hW1.add hok g2 c4 hj c2 (Or.inl ⟨c3, rfl, XQ_h Q (by omega)⟩) (v := nI j) (by rw [c3]; rfl)
            refine wp_ifp (sx_in_n g2 (by omega)) ?_
            with_reducible refine wp_bd ?_
            refine wp_ifp (sx_in_n hlt (by omega)) ?_
            with_reducible refine wp_bd ?_
            with_reducible refine wp_bd ?_
            rw [nI_cl (a := Q.length) (by omega), nI_cl (a := A.g.B j) (by omega)]
            have el : (Q ++ [A.g.B j]).length = Q.length + 1 := by rw [List.length_append]; rfl
            have K' := kk (Q ++ [A.g.B j], _, _, _) ⟨hW2, fun i hi => if e : i = j then (by subst e; intro _ _ _; simp) else hC.app i (by omega)⟩
            have e9 : nI Q.length + (1 : Int32) = nI (Q ++ [A.g.B j]).length := by rw [el]; exact iI_succ _
            rw [e9]; exact K'
          · rw [Classical.not_not] at c4
            exact keep (fun _ _ _ => c4)
        · exact keep (fun _ z _ => absurd z c3)
      · exact keep (fun z _ _ => absurd z c2)
  · obtain ⟨Q, via, d, M1⟩ := a
    obtain ⟨hW1, hC⟩ := hI2
    dsimp only at hW1 hC
    have d1 : DS M1 20 A := h.fr hW1.1 (fun q => by have := q.1; omega)
    have e2 : M1.1 20 0 ((2 : Int32)).toNatClampNeg = nI A.g.n := d1.1.2.1
    show wp (f8_widen_L77 a1 K (m + 1) (nI Q.length) (nI A.g.n) M1) _
    rw [f8_widen_L77]
    refine wp_ifp (in3 row20 (a := 2) (by omega)) ?_
    with_reducible refine wp_bd ?_
    rw [e2]
    refine wp_ifp (by rw [iI_le (by omega) (by omega)]; omega) ?_
    exact hK Q via d M1 hW1 hC
theorem w8_wd201 {M : sx_M} (h : DS M0 20 A) (hok : A.g.ok) (hU : ∀ i, i < A.g.n → M0.1 27 0 i = bI01 (U i)) {Q0 : List Nat} {via0 d0 : Nat → Nat} {k : Nat} (hk : k < Q0.length) {v : Nat} (hv : Q0.getD k 0 = v) (hW : WI A.g A.P U M0 M Q0 via0 d0) (hC : HC A.g U Q0 A.g.n) (hP : PC A.g U Q0 k 0) {a1 w3 : Int32} {K : Int32 → sx_M → Option (Int32 × sx_M)} {R : Int32 × sx_M → Prop} (hK : ∀ Q via d M1, k < Q.length → WI A.g A.P U M0 M1 Q via d → HC A.g U Q A.g.n → PC A.g U Q (k + 1) 0 → wp (K (nI Q.length) M1) R) : wp (f8_widen_L201 a1 w3 (nI v) K 5000 (nI Q0.length) 0 M) R := by
  have h40 := hok.1
  have hv24 : v < 24 := by rw [← hv]; exact hW.2.2.1 _ (getD_mem hk)
  refine wp_up (F := fun m x5 (a : List Nat × (Nat → Nat) × (Nat → Nat) × sx_M) => f8_widen_L201 a1 w3 (nI v) K m (nI a.1.length) x5 a.2.2.2) A.g.n (fun j a => (k < a.1.length ∧ a.1.getD k 0 = v) ∧ WI A.g A.P U M0 a.2.2.2 a.1 a.2.1 a.2.2.1 ∧ HC A.g U a.1 A.g.n ∧ PC A.g U a.1 k j) (fun m j a hj hI2 kk => ?_) (fun m a hI2 => ?_) 5000 0 (Q0, via0, d0, M) (by omega) (by omega) ⟨⟨hk, hv⟩, hW, hC, hP⟩
  · -- the second half: back along a string that flows
    have second : ∀ (Q : List Nat) (via d : Nat → Nat) (M1 : sx_M), k < Q.length → Q.getD k 0 = v → WI A.g A.P U M0 M1 Q via d → HC A.g U Q A.g.n → PC A.g U Q k j → (A.g.Z j = true → U j = false → A.g.A j = v + 4 → A.g.B j ∈ Q) → wp ((f8_cordAt (nI j) (2 : Int32) M1).bind fun v54 =>
        if sx_in v54 247 then
        sx_bd (M1.1 20 0 (v54).toNatClampNeg) fun v55 =>
        sx_bd (fun (v56 : Int32) (M57 : sx_M) =>
          sx_bd (nI j + (1 : Int32)) fun v58 =>
          f8_widen_L201 a1 w3 (nI v) K m v56 v58 M57) fun j374 =>
        if v55 = (1 : Int32) then
          if tI (A.g.A j) < 0 then
            j374 (nI Q.length) M1
          else
            if nI (A.g.B j) = nI v then
              if sx_in (nI j) 40 then
              sx_bd (M1.1 27 0 (nI j).toNatClampNeg) fun v62 =>
              if v62 = 0 then
                j374 (nI Q.length) M1
              else
                if sx_in (tI (A.g.A j)) 24 then
                sx_bd (M1.1 28 0 (tI (A.g.A j)).toNatClampNeg) fun v64 =>
                if v64 = (-9 : Int32) then
                  if sx_in (tI (A.g.A j)) 24 then
                  sx_bd (sx_set M1 28 0 (tI (A.g.A j)).toNatClampNeg ((100 : Int32) + nI j)) fun M66 =>
                  if sx_in (nI Q.length) 24 then
                  sx_bd (sx_set M66 29 0 (nI Q.length).toNatClampNeg (tI (A.g.A j))) fun M67 =>
                  sx_bd (nI Q.length + (1 : Int32)) fun v68 =>
                  j374 v68 M67
                  else none
                  else none
                else
                  j374 (nI Q.length) M1
                else none
              else none
            else
              j374 (nI Q.length) M1
        else
          j374 (nI Q.length) M1
        else none) R := fun Q via d M1 hk1 hv1 hW1 hC1 hP1 hf => by
      have f1 := hW1.1
      have d1 : DS M1 20 A := h.fr f1 (fun q => by have := q.1; omega)
      obtain ⟨g1, g2, g3, g4, g5⟩ := d1.1.2.2 j hj
      have e5 : M1.1 20 0 (nI (103 + 3 * j + 2)).toNatClampNeg = bI01 (A.g.Z j) := by rw [nI_cl (by omega)]; exact g5
      have e27 : M1.1 27 0 (nI j).toNatClampNeg = bI01 (U j) := by rw [nI_cl (by omega), f1.1 27 0 (fun q => by have := q.1; omega)]; exact hU j hj
      have keep : (A.g.Z j = true → U j = true → A.g.B j = v → 4 ≤ A.g.A j → A.g.A j - 4 ∈ Q) → wp (f8_widen_L201 a1 w3 (nI v) K m (nI Q.length) (nI j + 1) M1) R := fun hn => kk (Q, via, d, M1) ⟨⟨hk1, hv1⟩, hW1, hC1, fun k' i hk' hi hc hz => by
        by_cases e : k' = k ∧ i = j
        · obtain ⟨rfl, rfl⟩ := e
          show (_ → _ = Q.getD k' 0 + 4 → _ ∈ Q) ∧ (_ → _ = Q.getD k' 0 → _ → _ ∈ Q)
          rw [hv1]
          exact ⟨fun a b => hf hz a b, fun a b c => hn hz a b c⟩
        · exact hP1 k' i hk' hi (by omega) hz⟩
      refine wp_call (w8_co2 _ _) ?_
      refine wp_ifp (in3 row20 (by omega)) ?_
      with_reducible refine wp_bd ?_
      with_reducible refine wp_bd ?_
      rw [e5]
      with_reducible refine wp_if (fun c => ?_) (fun c => ?_) <;> rw [bI01_1] at c
      · with_reducible refine wp_if (fun c2 => ?_) (fun c2 => ?_) <;> rw [tI_neg (by omega)] at c2
        · exact keep (fun _ _ _ z => by omega)
        · obtain ⟨p, hp⟩ : ∃ p, A.g.A j = p + 4 := ⟨A.g.A j - 4, by omega⟩
          with_reducible refine wp_if (fun c3 => ?_) (fun c3 => ?_) <;> rw [iI_eq (by omega) (by omega)] at c3
          · refine wp_ifp (sx_in_n (a := j) (by omega) (by omega)) ?_
            with_reducible refine wp_bd ?_
            rw [e27]
            with_reducible refine wp_if (fun c4 => ?_) (fun c4 => ?_) <;> rw [bI01_0] at c4
            · exact keep (fun _ z => by rw [c4] at z; cases z)
            · rw [Bool.not_eq_false] at c4
              rw [hp, tI_part]
              refine wp_ifp (sx_in_n (a := p) (by omega) (by omega)) ?_
              with_reducible refine wp_bd ?_
              with_reducible refine wp_if (fun c5 => ?_) (fun c5 => ?_) <;> rw [nI_cl (by omega), hW1.m9 hok (by omega)] at c5
              · have hvQ : v ∈ Q := by rw [← hv1]; exact getD_mem hk1
                obtain ⟨hW2, hlt⟩ := hW1.add hok (q := p) (by omega) c5 hj c (Or.inr ⟨c4, hp, by rw [XQ_p, c3, decide_eq_true hvQ]⟩) (v := (100 : Int32) + nI j) (by rw [c4, if_pos rfl, show (100 : Int32) = nI 100 from rfl, nI_add])
                refine wp_ifp (sx_in_n (a := p) (by omega) (by omega)) ?_
                with_reducible refine wp_bd ?_
                refine wp_ifp (sx_in_n hlt (by omega)) ?_
                with_reducible refine wp_bd ?_
                with_reducible refine wp_bd ?_
                rw [nI_cl (a := Q.length) (by omega), nI_cl (a := p) (by omega)]
                have el : (Q ++ [p]).length = Q.length + 1 := by rw [List.length_append]; rfl
                have K' := kk (Q ++ [p], _, _, _) ⟨⟨by show k < (Q ++ [p]).length; omega, by show (Q ++ [p]).getD k 0 = v; rw [getD_app hk1]; exact hv1⟩, hW2, hC1.app, fun k' i hk' hi hc hz => by
                  by_cases e : k' = k ∧ i = j
                  · obtain ⟨rfl, rfl⟩ := e
                    exact ⟨fun a _ => absurd a (by rw [c4]; decide), fun _ _ _ => by
                      show A.g.A i - 4 ∈ Q ++ [p]
                      rw [hp, Nat.add_sub_cancel]; simp⟩
                  · exact hP1.app hk1 k' i hk' hi (by omega) hz⟩
                have e9 : nI Q.length + (1 : Int32) = nI (Q ++ [p]).length := by rw [el]; exact iI_succ _
                rw [e9]; exact K'
              · rw [Classical.not_not] at c5
                exact keep (fun _ _ _ _ => by rw [hp, Nat.add_sub_cancel]; exact c5)
          · exact keep (fun _ _ z => absurd z c3)
      · exact keep (fun z => absurd z c)
    obtain ⟨Q, via, d, M1⟩ := a
    obtain ⟨⟨hk1, hv1⟩, hW1, hC1, hP1⟩ := hI2
    dsimp only at hk1 hv1 hW1 hC1 hP1
    have f1 := hW1.1
    have d1 : DS M1 20 A := h.fr f1 (fun q => by have := q.1; omega)
    obtain ⟨g1, g2, g3, g4, g5⟩ := d1.1.2.2 j hj
    have e2 : M1.1 20 0 ((2 : Int32)).toNatClampNeg = nI A.g.n := d1.1.2.1
    have e10 : M1.1 20 0 (nI (103 + 3 * j + 1)).toNatClampNeg = nI (A.g.B j) := by rw [nI_cl (by omega)]; exact g4
    have e12 : M1.1 20 0 (nI (103 + 3 * j + 0)).toNatClampNeg = tI (A.g.A j) := by rw [nI_cl (by omega)]; exact g3
    have e5 : M1.1 20 0 (nI (103 + 3 * j + 2)).toNatClampNeg = bI01 (A.g.Z j) := by rw [nI_cl (by omega)]; exact g5
    have e27 : M1.1 27 0 (nI j).toNatClampNeg = bI01 (U j) := by rw [nI_cl (by omega), f1.1 27 0 (fun q => by have := q.1; omega)]; exact hU j hj
    have same := fun hn => second Q via d M1 hk1 hv1 hW1 hC1 hP1 hn
    show wp (f8_widen_L201 a1 w3 (nI v) K (m + 1) (nI Q.length) (nI j) M1) _
    rw [f8_widen_L201]
    refine wp_ifp (in3 row20 (a := 2) (by omega)) ?_
    with_reducible refine wp_bd ?_
    rw [e2]
    refine wp_ifn (by rw [iI_le (by omega) (by omega)]; omega) ?_
    refine wp_call (w8_co0 _ _) ?_
    refine wp_ifp (in3 row20 (by omega)) ?_
    with_reducible refine wp_bd ?_
    refine wp_call (w8_co1 _ _) ?_
    refine wp_ifp (in3 row20 (by omega)) ?_
    with_reducible refine wp_bd ?_
    refine wp_call (w8_co2 _ _) ?_
    refine wp_ifp (in3 row20 (by omega)) ?_
    with_reducible refine wp_bd ?_
    with_reducible refine wp_bd ?_
    rw [e5, e10, e12]
    with_reducible refine wp_if (fun c => ?_) (fun c => ?_) <;> rw [bI01_1] at c
    · with_reducible refine wp_if (fun c2 => ?_) (fun c2 => ?_) <;> rw [tI_nI (by omega) (by omega)] at c2
      · refine wp_ifp (sx_in_n (a := j) (by omega) (by omega)) ?_
        with_reducible refine wp_bd ?_
        rw [e27]
        with_reducible refine wp_if (fun c3 => ?_) (fun c3 => ?_) <;> rw [bI01_0] at c3
        · refine wp_ifp (sx_in_n g2 (by omega)) ?_
          with_reducible refine wp_bd ?_
          with_reducible refine wp_if (fun c4 => ?_) (fun c4 => ?_) <;> rw [nI_cl (by omega), hW1.m9 hok g2] at c4
          · have hvQ : v ∈ Q := by rw [← hv1]; exact getD_mem hk1
            obtain ⟨hW2, hlt⟩ := hW1.add hok g2 c4 hj c (Or.inl ⟨c3, rfl, by rw [c2, XQ_p, decide_eq_true hvQ]⟩) (v := nI j) (by rw [c3]; rfl)
            refine wp_ifp (sx_in_n g2 (by omega)) ?_
            with_reducible refine wp_bd ?_
            refine wp_ifp (sx_in_n hlt (by omega)) ?_
            with_reducible refine wp_bd ?_
            with_reducible refine wp_bd ?_
            rw [nI_cl (a := Q.length) (by omega), nI_cl (a := A.g.B j) (by omega)]
            have el : (Q ++ [A.g.B j]).length = Q.length + 1 := by rw [List.length_append]; rfl
            have S' := second (Q ++ [A.g.B j]) _ _ _ (by omega) (by rw [getD_app hk1]; exact hv1) hW2 hC1.app (hP1.app hk1) (fun _ _ _ => by simp)
            have e9 : nI Q.length + (1 : Int32) = nI (Q ++ [A.g.B j]).length := by rw [el]; exact iI_succ _
            rw [e9]; exact S'
          · rw [Classical.not_not] at c4
            exact same (fun _ _ _ => c4)
        · exact same (fun _ z => absurd z c3)
      · exact same (fun _ _ z => absurd z c2)
    · exact same (fun z => absurd z c)
  · obtain ⟨Q, via, d, M1⟩ := a
    obtain ⟨⟨hk1, hv1⟩, hW1, hC1, hP1⟩ := hI2
    dsimp only at hk1 hv1 hW1 hC1 hP1
    have d1 : DS M1 20 A := h.fr hW1.1 (fun q => by have := q.1; omega)
    have e2 : M1.1 20 0 ((2 : Int32)).toNatClampNeg = nI A.g.n := d1.1.2.1
    show wp (f8_widen_L201 a1 w3 (nI v) K (m + 1) (nI Q.length) (nI A.g.n) M1) _
    rw [f8_widen_L201]
    refine wp_ifp (in3 row20 (a := 2) (by omega)) ?_
    with_reducible refine wp_bd ?_
    rw [e2]
    refine wp_ifp (by rw [iI_le (by omega) (by omega)]; omega) ?_
    exact hK Q via d M1 hk1 hW1 hC1 (fun k' i hk' hi hc hz => hP1 k' i hk' hi (by omega) hz)
theorem w8_wd174 {M : sx_M} (h : DS M0 20 A) (hok : A.g.ok) (hU : ∀ i, i < A.g.n → M0.1 27 0 i = bI01 (U i)) {Q0 : List Nat} {via0 d0 : Nat → Nat} (hW : WI A.g A.P U M0 M Q0 via0 d0) (hC : HC A.g U Q0 A.g.n) {q : Nat} (hq : q < 24) {K : sx_M → Option (Int32 × sx_M)} {R : Int32 × sx_M → Prop} (hK : ∀ Q via d M1, WI A.g A.P U M0 M1 Q via d → (q ∈ Q ∨ A.g.shut U (XQ Q)) → wp (K M1) R) : wp (f8_widen_L174 (nI q) K 5000 (nI Q0.length) 0 M) R := by
  refine wp_wh (F := fun n (a : Nat × List Nat × (Nat → Nat) × (Nat → Nat) × sx_M) => f8_widen_L174 (nI q) K n (nI a.2.1.length) (nI a.1) a.2.2.2.2) (fun a => 24 - a.1) (fun a => a.1 ≤ a.2.1.length ∧ WI A.g A.P U M0 a.2.2.2.2 a.2.1 a.2.2.1 a.2.2.2.1 ∧ HC A.g U a.2.1 A.g.n ∧ PC A.g U a.2.1 a.1 0) (fun n a hI kk => ?_) 5000 (0, Q0, via0, d0, M) (by show 24 - 0 < 5000; omega) ⟨Nat.zero_le _, hW, hC, fun k' i hk' hi hc _ => by have : k' < 0 ∨ (k' = 0 ∧ i < 0) := hc; omega⟩
  obtain ⟨k, Q, via, d, M1⟩ := a
  obtain ⟨hkl, hW1, hC1, hP1⟩ := hI
  dsimp only at hkl hW1 hC1 hP1
  have hlen := hW1.len
  show wp (f8_widen_L174 (nI q) K (n + 1) (nI Q.length) (nI k) M1) _
  rw [f8_widen_L174]
  with_reducible refine wp_if (fun c => ?_) (fun c => ?_) <;> rw [iI_le (by omega) (by omega)] at c
  · exact hK Q via d M1 hW1 (Or.inr (shut_of hC1 hP1 c))
  · refine wp_ifp (sx_in_n hq (by omega)) ?_
    with_reducible refine wp_bd ?_
    with_reducible refine wp_if (fun c2 => ?_) (fun c2 => ?_) <;> rw [nI_cl (by omega), hW1.m9 hok hq] at c2
    · refine wp_ifp (sx_in_n (a := k) (by omega) (by omega)) ?_
      with_reducible refine wp_bd ?_
      rw [nI_cl (a := k) (by omega), hW1.2.2.2.1 k (by omega)]
      refine w8_wd201 h hok hU (k := k) (by omega) rfl hW1 hC1 hP1 (fun Q' via' d' M' hk' hW' hC' hP' => ?_)
      with_reducible refine wp_bd ?_
      rw [iI_succ]
      have hlen' := hW'.len
      exact kk (k + 1, Q', via', d', M') ⟨hk', hW', hC', hP'⟩ (by show 24 - (k + 1) < 24 - k; omega)
    · rw [Classical.not_not] at c2
      exact hK Q via d M1 hW1 (Or.inl c2)
def pFl : Nat → Nat → Prop := fun k s => k = 27 ∧ s = 0
theorem dr_lo : ∀ a, a < 40 → nI a - nI a / (100 : Int32) * (100 : Int32) = nI a ∧ nI (100 + a) - nI (100 + a) / (100 : Int32) * (100 : Int32) = nI a ∧ nI a < (100 : Int32) ∧ ¬ nI (100 + a) < (100 : Int32) ∧ nI a ≠ (40 : Int32) ∧ nI (100 + a) ≠ (40 : Int32) := by decide +kernel
theorem w8_wd401 {M : sx_M} (h : DS M0 20 A) (hok : A.g.ok) {Q : List Nat} {via d : Nat → Nat} (hW : WI A.g A.P U M0 M Q via d) {q w : Nat} (hq : q < 24) (hf : A.g.flow A.P U (q + 4) w) (hU : ∀ i, i < A.g.n → M0.1 27 0 i = bI01 (U i)) (hqQ : q ∈ Q) {K : sx_M → Option (Int32 × sx_M)} {R : Int32 × sx_M → Prop} (hK : ∀ V M1, Fr pFl M M1 → (∀ i, i < A.g.n → M1.1 27 0 i = bI01 (V i)) → A.g.flow A.P V (q + 4) (w + 1) → wp (K M1) R) : wp (f8_widen_L401 K 5000 (nI q) M) R := by
  have h40 := hok.1
  have hr := hW.2.2.2.2.2.2
  have d0 : DS M 20 A := h.fr hW.1 (fun q => by have := q.1; omega)
  have fin : ∀ m t V Mc, t < 28 → hol A.P t = true → XQ Q t = true → Fr pFl M Mc → (∀ i, i < A.g.n → Mc.1 27 0 i = bI01 (V i)) → A.g.flow A.P V (q + 4) (w + 1) → wp (f8_widen_L401 K (m + 1) (tI t) Mc) R := fun m t V Mc ht hh hX f1 hV hF => by
    rw [f8_widen_L401]
    by_cases h4 : t < 4
    · exact wp_ifp ((tI_neg (by omega)).mpr h4) (hK V Mc f1 hV hF)
    · obtain ⟨p, rfl⟩ : ∃ p, t = p + 4 := ⟨t - 4, by omega⟩
      refine wp_ifn (fun z => h4 ((tI_neg (by omega)).mp z)) ?_
      rw [tI_part]
      refine wp_ifp (sx_in_n (a := p) (by omega) (by omega)) ?_
      with_reducible refine wp_bd ?_
      have hpQ : p ∈ Q := by rw [XQ_p, decide_eq_true_eq] at hX; exact hX
      rw [hol_p _ (by omega)] at hh
      have e28 : Mc.1 28 0 (nI p).toNatClampNeg = 40 := by
        rw [nI_cl (by omega), f1.1 28 0 (fun z => by have := z.1; omega), hW.2.2.2.2.1 p (by omega)]
        unfold frm
        rw [if_pos hpQ, hh, if_pos rfl]; rfl
      exact wp_ifp e28 (hK V Mc f1 hV hF)
  have go : ∀ (k m t : Nat) (V : Nat → Bool) (Mc : sx_M), k < m → (hol A.P t = true ∨ d t + 1 ≤ k) → Fr pFl M Mc → (∀ i, i < A.g.n → Mc.1 27 0 i = bI01 (V i)) → A.g.wk A.P U (XQ Q) via d (q + 4) V t → wp (f8_widen_L401 K m (tI t) Mc) R := by
    intro k
    induction k with
    | zero =>
      intro m t V Mc hm hd f1 hV hw
      have ht : hol A.P t = true := hd.resolve_right (by omega)
      obtain ⟨m, rfl⟩ : ∃ m', m = m' + 1 := ⟨m - 1, by omega⟩
      exact fin m t V Mc hw.1 ht hw.2.1 f1 hV (GT.wk_end hf hw ht)
    | succ k ih =>
      intro m t V Mc hm hd f1 hV hw
      obtain ⟨m, rfl⟩ : ∃ m', m = m' + 1 := ⟨m - 1, by omega⟩
      cases ht : hol A.P t with
      | true => exact fin m t V Mc hw.1 ht hw.2.1 f1 hV (GT.wk_end hf hw ht)
      | false =>
        have t4 : 4 ≤ t := by
          refine Classical.byContradiction fun z => ?_
          have : hol A.P t = true := by unfold hol; rw [decide_eq_true (by omega)]; rfl
          rw [this] at ht; cases ht
        have hw1 := hw.1
        obtain ⟨p, rfl⟩ : ∃ p, t = p + 4 := ⟨t - 4, by omega⟩
        have hp : p < 24 := by omega
        have hpQ : p ∈ Q := by have := hw.2.1; rw [XQ_p, decide_eq_true_eq] at this; exact this
        have hPp : A.P p = false := by rw [← hol_p A.P hp]; exact ht
        obtain ⟨hi, c28⟩ := hW.cell hok hp hpQ hPp
        obtain ⟨s1, s2, s3⟩ := GT.wk_step hok hr hw ht
        have e28 : Mc.1 28 0 (nI p).toNatClampNeg = if U (via (p + 4)) then nI (100 + via (p + 4)) else nI (via (p + 4)) := by
          rw [nI_cl (by omega), f1.1 28 0 (fun z => by have := z.1; omega)]; exact c28
        obtain ⟨a1, a2, a3, a4, a5, a6⟩ := dr_lo (via (p + 4)) (by omega)
        rw [f8_widen_L401]
        refine wp_ifn (fun z => by have := (tI_neg (by omega)).mp z; omega) ?_
        rw [tI_part]
        have hin : sx_in (nI p) 24 := sx_in_n hp (by omega)
        refine wp_ifp hin ?_
        with_reducible refine wp_bd ?_
        -- the string that comes next
        have next : ∀ z : Bool, z = (!U (via (p + 4))) → (tI (if U (via (p + 4)) then A.g.B (via (p + 4)) + 4 else A.g.A (via (p + 4))) = tI (if U (via (p + 4)) then A.g.B (via (p + 4)) + 4 else A.g.A (via (p + 4)))) → wp (f8_widen_L401 K m (tI (if U (via (p + 4)) then A.g.B (via (p + 4)) + 4 else A.g.A (via (p + 4)))) (sx_set Mc 27 0 (via (p + 4)) (bI01 z))) R := fun z hz _ => by
          subst hz
          refine ih m _ _ _ (by omega) ?_ (f1.set ⟨rfl, rfl⟩) (fun i hii => ?_) s2
          · rcases s3 with z | z
            · exact Or.inl z
            · rcases hd with y | y
              · rw [y] at ht; cases ht
              · exact Or.inr (by omega)
          · by_cases z : i = via (p + 4)
            · rw [z, rd_e, fx1_s]
            · rw [rd_n _ _ _ _ _ _ _ _ z, fx1_n _ _ z]; exact hV i hii
        have d1 : DS (sx_set Mc 27 0 (via (p + 4)) (bI01 (!U (via (p + 4))))) 20 A := d0.fr (f1.set (i := via (p + 4)) (v := bI01 (!U (via (p + 4)))) ⟨rfl, rfl⟩) (fun z => by have := z.1; omega)
        obtain ⟨g1, g2, g3, g4, g5⟩ := d1.1.2.2 _ hi
        cases hUi : U (via (p + 4)) with
        | false =>
          rw [hUi] at next e28 d1 g3
          have e28 : Mc.1 28 0 (nI p).toNatClampNeg = nI (via (p + 4)) := e28
          rw [e28]
          refine wp_ifn a5 ?_
          refine wp_ifp hin ?_
          with_reducible refine wp_bd ?_
          rw [a1]
          with_reducible refine wp_bd ?_
          refine wp_ifp hin ?_
          with_reducible refine wp_bd ?_
          with_reducible refine wp_bd ?_
          refine wp_ifp a3 ?_
          with_reducible refine wp_bd ?_
          refine wp_ifp rfl ?_
          refine wp_ifp ⟨sx_in_n (a := via (p + 4)) (by omega) (by omega), Or.inr rfl⟩ ?_
          with_reducible refine wp_bd ?_
          with_reducible refine wp_bd ?_
          refine wp_ifp rfl ?_
          refine wp_call (w8_co0 _ _) ?_
          refine wp_ifp (in3 row20 (by omega)) ?_
          with_reducible refine wp_bd ?_
          rw [nI_cl (a := via (p + 4)) (by omega), nI_cl (a := 103 + 3 * via (p + 4) + 0) (by omega)]
          have g3' : (sx_set Mc 27 0 (via (p + 4)) (1 : Int32)).1 20 0 (103 + 3 * via (p + 4) + 0) = tI (A.g.A (via (p + 4))) := g3
          rw [g3']
          exact next true rfl rfl
        | true =>
          rw [hUi] at next e28 d1 g4
          have e28 : Mc.1 28 0 (nI p).toNatClampNeg = nI (100 + via (p + 4)) := e28
          rw [e28]
          refine wp_ifn a6 ?_
          refine wp_ifp hin ?_
          with_reducible refine wp_bd ?_
          rw [a2]
          with_reducible refine wp_bd ?_
          refine wp_ifp hin ?_
          with_reducible refine wp_bd ?_
          with_reducible refine wp_bd ?_
          refine wp_ifn a4 ?_
          with_reducible refine wp_bd ?_
          refine wp_ifn (by decide) ?_
          refine wp_ifp ⟨sx_in_n (a := via (p + 4)) (by omega) (by omega), Or.inl rfl⟩ ?_
          with_reducible refine wp_bd ?_
          with_reducible refine wp_bd ?_
          refine wp_ifn (by decide) ?_
          refine wp_call (w8_co1 _ _) ?_
          refine wp_ifp (in3 row20 (by omega)) ?_
          with_reducible refine wp_bd ?_
          rw [nI_cl (a := via (p + 4)) (by omega), nI_cl (a := 103 + 3 * via (p + 4) + 1) (by omega)]
          have g4' : (sx_set Mc 27 0 (via (p + 4)) (0 : Int32)).1 20 0 (103 + 3 * via (p + 4) + 1) = nI (A.g.B (via (p + 4))) := g4
          rw [g4', ← tI_part]
          exact next false rfl rfl
  rw [← tI_part]
  have hh : hol A.P (q + 4) = true ∨ d (q + 4) + 1 ≤ 24 := by
    cases z : hol A.P (q + 4) with
    | true => exact Or.inl rfl
    | false =>
      right
      have a := (hr (q + 4) (by omega) z (by rw [XQ_p, decide_eq_true hqQ])).1
      have b := fb_ct_le (fun p => XQ Q (p + 4)) 24
      omega
  exact go 24 5000 (q + 4) U M (by omega) hh Fr.rf (fun i hi => by rw [hW.1.1 27 0 (fun z => by have := z.1; omega)]; exact hU i hi) (GT.wk_0 hf (by omega) (by rw [XQ_p, decide_eq_true hqQ]))
end
def pCu : Nat → Nat → Prop := fun k s => (27 ≤ k ∧ k ≤ 29) ∧ s = 0
theorem w8_widen {M : sx_M} {A : SH} {U : Nat → Bool} (h : DS M 20 A) (hI : IS A) (hU : ∀ i, i < A.g.n → M.1 27 0 i = bI01 (U i)) {q w : Nat} (hq : q < 24) (hf : A.g.flow A.P U (q + 4) w) : wp (f8_widen (nI q) M) (fun r => Fr pCu M r.2 ∧ ((r.1 = 1 ∧ ∃ V, (∀ i, i < A.g.n → r.2.1 27 0 i = bI01 (V i)) ∧ A.g.flow A.P V (q + 4) (w + 1)) ∨ (r.1 = 0 ∧ A.g.maxf A.P (q + 4) w))) := by
  have hok := hI.1
  have m1 : ∀ k s, pBF k s → pCu k s := fun k s z => ⟨by have := z.1; omega, z.2⟩
  have m2 : ∀ k s, pFl k s → pCu k s := fun k s z => ⟨by have := z.1; omega, z.2⟩
  rw [f8_widen]
  refine w8_wd4 U h hI (fun Q M1 hW => ?_)
  refine w8_wd77 h hok hU hW (fun Q via d M1 hW hC => ?_)
  refine w8_wd174 h hok hU hW hC hq (fun Q via d M1 hW he => ?_)
  refine wp_ifp (sx_in_n hq (by omega)) ?_
  with_reducible refine wp_bd ?_
  rw [nI_cl (a := q) (by omega)]
  with_reducible refine wp_if (fun c => ?_) (fun c => ?_) <;> rw [hW.m9 hok hq] at c
  · refine wp_some ⟨hW.1.mono m1, Or.inr ⟨rfl, ⟨U, hf⟩, fun V v hv => GT.most hok hf hv (X := XQ Q) (fun t ht hh => ?_) (by omega) (by rw [XQ_p, decide_eq_false c]) (he.resolve_left c)⟩⟩
    by_cases h4 : t < 4
    · exact XQ_h Q h4
    · have e1 := hol_p A.P (p := t - 4) (by omega)
      have e2 := XQ_p Q (t - 4)
      rw [show t - 4 + 4 = t by omega] at e1 e2
      rw [e2, decide_eq_true (hW.2.2.2.2.2.1 (t - 4) (by omega) (by rw [← e1]; exact hh))]
  · rw [Classical.not_not] at c
    refine w8_wd401 h hok hW hq hf hU c (fun V M2 f2 hV hF => ?_)
    exact wp_some ⟨(hW.1.mono m1).trans (f2.mono m2), Or.inl ⟨rfl, V, hV, hF⟩⟩
