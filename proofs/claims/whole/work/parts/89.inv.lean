/-! WHAT ALWAYS HOLDS, KEPT -/
theorem IS.ok {A : SH} (h : IS A) : A.g.ok := h.1
theorem IS.ws {A : SH} (h : IS A) : WS A := h.2.2.2.2.2.1
theorem IS.nil : IS SH.nil := ⟨⟨Nat.zero_le _, fun i hi => absurd hi (Nat.not_lt_zero _)⟩, fun i _ hi => absurd hi (Nat.not_lt_zero _), fun i hi => absurd hi (Nat.not_lt_zero _), fun _ h => (by cases h), fun _ h => (by cases h), ⟨Nat.zero_le _, List.nodup_nil, fun x hx => absurd hx List.not_mem_nil, fun _ h => (by cases h)⟩, fun _ h => (by cases h)⟩
theorem IS.shade {A : SH} (h : IS A) (p : Nat) : IS (A.shade p) := by
  obtain ⟨h1, h2, h3, h4, h5, h6, h7⟩ := h
  refine ⟨h1, h2, h3, h4, h5, h6.shade p, fun x hx => h7 x ?_⟩
  have hx' : (A.w x && !decide (x = p)) = true := hx
  rw [Bool.and_eq_true] at hx'
  exact hx'.1
theorem IS.shadeIf {A : SH} (h : IS A) (c : Bool) (p : Nat) : IS (A.shadeIf c p) := by
  cases c with
  | false => exact h
  | true => exact h.shade p
theorem IS.shadeN {A : SH} (h : IS A) (c : Nat → Bool) (pt : Nat → Nat) : ∀ n, IS (A.shadeN c pt n)
  | 0 => h
  | n + 1 => IS.shadeIf (IS.shadeN h c pt n) (c n) (pt n)
theorem IS.setG {A : SH} (h : IS A) {g : GT} (h1 : g.ok) (h2 : ∀ i j, i < g.n → j < g.n → g.A i = g.A j → g.B i = g.B j → i = j) (h3 : ∀ i, i < g.n → (g.A i < 4 ∨ A.T (g.A i - 4) = true) ∧ A.T (g.B i) = true) : IS (A.setG g) := ⟨h1, h2, h3, h.2.2.2⟩
theorem IS.cut {A : SH} (h : IS A) {i : Nat} (hi : i < A.g.n) : IS (A.cut i) := by
  obtain ⟨h1, h2, h3, -⟩ := id h
  have hn : ∀ x, x < (A.g.rm i).n → (if x < i then x else x + 1) < A.g.n := fun x hx => by
    have hx' : x < A.g.n - 1 := hx
    split <;> omega
  refine h.setG ⟨by show A.g.n - 1 ≤ 40; have := h1.1; omega, fun x hx => h1.2 _ (hn x hx)⟩ (fun x y hx hy ea eb => ?_) (fun x hx => h3 _ (hn x hx))
  have := h2 _ _ (hn x hx) (hn y hy) ea eb
  revert this
  split <;> split <;> intro this <;> omega
theorem IS.snd {A : SH} (h : IS A) (i : Nat) (z : Bool) : IS (A.snd i z) := by
  obtain ⟨h1, h2, h3, -⟩ := id h
  exact IS.shadeIf (h.setG (g := A.g.snd i z) ⟨h1.1, fun x hx => h1.2 x hx⟩ (fun x y hx hy => h2 x y hx hy) (fun x hx => h3 x hx)) _ _
theorem IS.tie {A : SH} (h : IS A) (hn : A.g.n < 40) {t p : Nat} (ht : t < 28) (htt : t < 4 ∨ A.T (t - 4) = true) (hp : A.T p = true) (hno : ∀ i, i < A.g.n → ¬ (A.g.A i = t ∧ A.g.B i = p)) (z : Bool) : IS (A.tie t p z) := by
  obtain ⟨h1, h2, h3, h4, h5, h6, h7⟩ := id h
  refine IS.shadeIf (h.setG (g := A.g.put t p z) ⟨hn, fun x hx => ?_⟩ (fun x y hx hy => ?_) (fun x hx => ?_)) _ _
  · have hx' : x < A.g.n + 1 := hx
    rw [put_A, put_B]
    by_cases q : x = A.g.n
    · rw [if_pos q, if_pos q]
      exact ⟨ht, by have := h4 p hp; have := h6.1; omega⟩
    · rw [if_neg q, if_neg q]
      exact h1.2 x (by omega)
  · have hx' : x < A.g.n + 1 := hx
    have hy' : y < A.g.n + 1 := hy
    rw [put_A, put_B, put_A, put_B]
    by_cases q : x = A.g.n
    · by_cases q2 : y = A.g.n
      · intro _ _; omega
      · rw [if_pos q, if_pos q, if_neg q2, if_neg q2]
        intro ea eb
        exact absurd ⟨ea.symm, eb.symm⟩ (hno y (by omega))
    · by_cases q2 : y = A.g.n
      · rw [if_neg q, if_neg q, if_pos q2, if_pos q2]
        intro ea eb
        exact absurd ⟨ea, eb⟩ (hno x (by omega))
      · rw [if_neg q, if_neg q, if_neg q2, if_neg q2]
        exact h2 x y (by omega) (by omega)
  · have hx' : x < A.g.n + 1 := hx
    rw [put_A, put_B]
    by_cases q : x = A.g.n
    · rw [if_pos q, if_pos q]
      exact ⟨htt, hp⟩
    · rw [if_neg q, if_neg q]
      exact h3 x (by omega)
theorem IS.make {A : SH} (h : IS A) (hm : A.m < 24) (v : Int32) : IS (A.make v) := by
  obtain ⟨h1, h2, h3, h4, h5, h6, h7⟩ := id h
  have hT : ∀ x, A.T x = true → (A.make v).T x = true := fun x q => by
    show (A.T x || decide (x = A.m)) = true
    rw [q]; rfl
  refine ⟨h1, h2, fun i hi => ?_, fun x hx => ?_, fun x hx => hT x (h5 x hx), ⟨hm, h6.2.1, fun x hx => ?_, fun x hx => ?_⟩, fun x hx => ⟨hT x (h7 x hx).1, (h7 x hx).2⟩⟩
  · obtain ⟨q1, q2⟩ := h3 i hi
    exact ⟨q1.imp id (hT _), hT _ q2⟩
  · have hx' : (A.T x || decide (x = A.m)) = true := hx
    show x < A.m + 1
    rw [Bool.or_eq_true, decide_eq_true_eq] at hx'
    rcases hx' with q | q
    · have := h4 x q; omega
    · omega
  · have := h6.2.2.1 x hx
    exact ⟨by show x < A.m + 1; omega, this.2⟩
  · have hx' : A.w x = true := hx
    have := h6.2.2.2 x hx'
    refine ⟨by show x < A.m + 1; omega, ?_⟩
    show (if A.G then fun k => A.b k || decide (k = A.m) else A.b) x = false
    cases A.G with
    | false => exact this.2
    | true =>
      show (A.b x || decide (x = A.m)) = false
      rw [this.2, Bool.false_or, decide_eq_false (by omega)]
theorem IS.pin {A : SH} (h : IS A) {p : Nat} (hp : A.T p = true) (is : Bool) : IS (A.pin p is) := by
  obtain ⟨h1, h2, h3, h4, h5, h6, h7⟩ := id h
  cases is with
  | false =>
    refine ⟨h1, h2, h3, h4, fun x hx => ?_, h6, fun x hx => ⟨(h7 x hx).1, ?_⟩⟩
    · have hx' : (A.P x && !decide (x = p)) = true := hx
      rw [Bool.and_eq_true] at hx'
      exact h5 x hx'.1
    · show (A.P x && !decide (x = p)) = false
      rw [(h7 x hx).2]; rfl
  | true =>
    refine ⟨h1, h2, h3, h4, fun x hx => ?_, WS.shade (A := A.setP (fun k => A.P k || decide (k = p))) h6 p, fun x hx => ?_⟩
    · have hx' : (A.P x || decide (x = p)) = true := hx
      rw [Bool.or_eq_true, decide_eq_true_eq] at hx'
      rcases hx' with q | rfl
      · exact h5 x q
      · exact hp
    · have hx' : (A.w x && !decide (x = p)) = true := hx
      rw [Bool.and_eq_true, Bool.not_eq_true', decide_eq_false_iff_not] at hx'
      refine ⟨(h7 x hx'.1).1, ?_⟩
      show (A.P x || decide (x = p)) = false
      rw [(h7 x hx'.1).2, decide_eq_false hx'.2]; rfl
theorem shadeN_not {A : SH} {c : Nat → Bool} {x : Nat} : ∀ {n : Nat}, x < n → (A.shadeN c (fun p => p) n).w x = true → c x = false := by
  intro n
  induction n with
  | zero => intro h; exact absurd h (Nat.not_lt_zero _)
  | succ n ih =>
    intro hx hw
    by_cases q : x = n
    · subst q
      cases e : c x with
      | false => rfl
      | true =>
        have hw' : ((A.shadeN c (fun p => p) x).shadeIf (c x) x).w x = true := hw
        rw [e] at hw'
        have h2 : ((A.shadeN c (fun p => p) x).w x && !decide (x = x)) = true := hw'
        simp at h2
    · exact ih (by omega) (shadeIf_w _ _ _ _ hw)
theorem IS.begin {A : SH} (h : IS A) : IS A.begin := by
  obtain ⟨h1, h2, h3, h4, h5, h6, h7⟩ := id h
  obtain ⟨s1, s2, s3, s4, s5⟩ := shadeN_same A.begun A.first (fun p => p) 24
  have sT : A.begin.T = A.T := congrArg (fun z => z.2.1) s2
  have sP : A.begin.P = A.P := congrArg (fun z => z.2.2.1) s2
  have sm : A.begin.m = A.m := congrArg (fun z => z.1) s2
  have sg : A.begin.g = A.g := s1
  have wB : WS A.begin := (begun_WS h6.1 h4).shadeN _ _ 24
  unfold IS
  rw [sT, sP, sg, sm]
  refine ⟨h1, h2, h3, h4, h5, wB, fun x hx => ?_⟩
  have hT := shadeN_w A.begun A.first _ x 24 hx
  have hT' : A.T x = true := hT
  refine ⟨hT', ?_⟩
  have := shadeN_not (by have := h4 x hT'; have := h6.1; omega) hx
  have this' : (A.P x || A.g.nx (fun t => decide (t < 4)) (x + 4)) = false := this
  rw [Bool.or_eq_false_iff] at this'
  exact this'.1
theorem GT.mem_ls {g : GT} {x : Nat × Nat × Bool} : x ∈ g.ls ↔ ∃ i, i < g.n ∧ x = (g.A i, g.B i, g.Z i) := by
  unfold GT.ls
  rw [List.mem_map]
  constructor
  · rintro ⟨i, hi, e⟩
    exact ⟨i, List.mem_range.mp hi, e.symm⟩
  · rintro ⟨i, hi, e⟩
    exact ⟨i, List.mem_range.mpr hi, e.symm⟩
theorem GT.ls_get {g : GT} {i : Nat} (h : i < g.ls.length) : g.ls[i] = (g.A i, g.B i, g.Z i) := by
  have e := GT.ls_at (g := g) (i := i) (by rw [g.ls_len] at h; exact h)
  rw [List.getElem?_eq_getElem h] at e
  exact Option.some.inj e
theorem GT.dist_iff {g : GT} : (∀ i j, i < g.n → j < g.n → g.A i = g.A j → g.B i = g.B j → i = j) ↔ g.ls.Pairwise (fun x y => ¬ (x.1 = y.1 ∧ x.2.1 = y.2.1)) := by
  rw [List.pairwise_iff_getElem]
  constructor
  · intro h i j hi hj hij
    rw [GT.ls_get hi, GT.ls_get hj]
    rintro ⟨e1, e2⟩
    rw [g.ls_len] at hi hj
    have := h i j hi hj e1 e2
    omega
  · intro h i j hi hj e1 e2
    have hi' : i < g.ls.length := by rw [g.ls_len]; exact hi
    have hj' : j < g.ls.length := by rw [g.ls_len]; exact hj
    by_cases q : i < j
    · have := h i j hi' hj' q
      rw [GT.ls_get hi', GT.ls_get hj'] at this
      exact absurd ⟨e1, e2⟩ this
    · by_cases q2 : j < i
      · have := h j i hj' hi' q2
        rw [GT.ls_get hi', GT.ls_get hj'] at this
        exact absurd ⟨e1.symm, e2.symm⟩ this
      · omega
theorem thin_mem {A : SH} {i : Nat} (hi : i < A.thin.n) : ∃ j, j < A.g.n ∧ A.thin.A i = A.g.A j ∧ A.thin.B i = A.g.B j ∧ A.thin.Z i = A.g.Z j ∧ (4 ≤ A.g.A j → A.w (A.g.A j - 4) = false) ∧ A.w (A.g.B j) = false := by
  have hm : (A.thin.A i, A.thin.B i, A.thin.Z i) ∈ A.thin.ls := GT.mem_ls.mpr ⟨i, hi, rfl⟩
  have he : A.thin.ls = A.g.ls.filter (keepX A.w) := by unfold SH.thin; rw [GT.ofL_ls]
  rw [he, List.mem_filter] at hm
  obtain ⟨j, hj, e⟩ := GT.mem_ls.mp hm.1
  have hk := hm.2
  rw [e] at hk
  have hk' : (!(decide (4 ≤ A.g.A j) && A.w (A.g.A j - 4)) && !A.w (A.g.B j)) = true := hk
  rw [Bool.and_eq_true, Bool.not_eq_true', Bool.not_eq_true', Bool.and_eq_false_iff, decide_eq_false_iff_not] at hk'
  refine ⟨j, hj, congrArg (fun z => z.1) e, congrArg (fun z => z.2.1) e, congrArg (fun z => z.2.2) e, fun h4 => hk'.1.resolve_left (fun q => q h4), hk'.2⟩
theorem IS.ended {A : SH} (h : IS A) : IS A.ended := by
  obtain ⟨h1, h2, h3, h4, h5, h6, h7⟩ := id h
  have he : A.thin.ls = A.g.ls.filter (keepX A.w) := by unfold SH.thin; rw [GT.ofL_ls]
  have hn : A.thin.n ≤ A.g.n := by rw [← GT.ls_len, he, ← A.g.ls_len]; exact List.length_filter_le _ _
  refine ⟨⟨Nat.le_trans hn h1.1, fun i hi => ?_⟩, ?_, fun i hi => ?_, fun x hx => ?_, fun x hx => ?_, ⟨h6.1, List.nodup_nil, fun x hx => absurd hx List.not_mem_nil, fun _ q => (by cases q)⟩, fun _ q => (by cases q)⟩
  · obtain ⟨j, hj, e1, e2, -⟩ := thin_mem hi
    show A.thin.A i < 28 ∧ A.thin.B i < 24
    rw [e1, e2]; exact h1.2 j hj
  · refine GT.dist_iff.mpr ?_
    show A.thin.ls.Pairwise _
    rw [he]
    exact (GT.dist_iff.mp h2).filter _
  · obtain ⟨j, hj, e1, e2, -, e3, e4⟩ := thin_mem hi
    show (A.thin.A i < 4 ∨ (A.T (A.thin.A i - 4) && !A.w (A.thin.A i - 4)) = true) ∧ (A.T (A.thin.B i) && !A.w (A.thin.B i)) = true
    rw [e1, e2]
    obtain ⟨q1, q2⟩ := h3 j hj
    refine ⟨?_, by rw [q2, e4]; rfl⟩
    by_cases q : A.g.A j < 4
    · exact Or.inl q
    · right
      rw [q1.resolve_left q, e3 (by omega)]; rfl
  · have hx' : (A.T x && !A.w x) = true := hx
    rw [Bool.and_eq_true] at hx'
    exact h4 x hx'.1
  · show (A.T x && !A.w x) = true
    have hP : A.P x = true := hx
    have hw : A.w x = false := by
      cases e : A.w x with
      | false => rfl
      | true => have := (h7 x e).2; rw [hP] at this; cases this
    rw [h5 x hP, hw]; rfl
theorem IS.step {A : SH} (h : IS A) : IS A.step := by
  unfold SH.step
  cases hq : A.q with
  | nil => exact h.ended
  | cons p q =>
    have hb : IS (A.blk p q) := ⟨h.1, h.2.1, h.2.2.1, h.2.2.2.1, h.2.2.2.2.1, blk_WS h.ws hq, h.2.2.2.2.2.2⟩
    exact hb.shadeN _ _ _
theorem IS.steps {A : SH} (h : IS A) : ∀ k, IS (A.steps k)
  | 0 => h
  | k + 1 => by
    have hk := IS.steps h k
    show IS (if (A.steps k).G then (A.steps k).step else A.steps k)
    split
    · exact hk.step
    · exact hk
/-- more sound strings, more held -/
theorem GT.held_sub {g g' : GT} {H : Nat → Bool} (hg : g.ok) (hg' : g'.ok) (h : ∀ i, i < g.n → g.Z i = true → ∃ j, j < g'.n ∧ g'.Z j = true ∧ g'.A j = g.A i ∧ g'.B j = g.B i) {t : Nat} (ht : t < 32) (q : g.held H t = true) : g'.held H t = true :=
  GT.lev_least (g := g) (Y := fun t => g'.held H t = true) (fun _ _ q => GT.held_H q) (fun i hi hz q => by
    obtain ⟨j, hj, z, ea, eb⟩ := h i hi hz
    have q' : g'.held H (g'.A j) = true := by rw [ea]; exact q
    have := GT.held_closed hg' hj z q'
    rw [eb] at this
    exact this) hg 24 t ht q
theorem IS.heldT {A : SH} (h : IS A) {p : Nat} (hp : p < 24) (q : A.H p = true) : A.T p = true := by
  have := GT.lev_least (g := A.g) (H := hol A.P) (Y := fun t => t < 4 ∨ A.T (t - 4) = true) (fun t _ q => by
    unfold hol at q
    rw [Bool.or_eq_true, Bool.and_eq_true, decide_eq_true_eq, decide_eq_true_eq] at q
    exact q.imp id (fun q => h.2.2.2.2.1 _ q.2)) (fun i hi _ _ => Or.inr (by rw [Nat.add_sub_cancel]; exact (h.2.2.1 i hi).2)) h.1 24 (p + 4) (by omega) q
  rcases this with q | q
  · omega
  · rw [Nat.add_sub_cancel] at q; exact q
