/-! THE CLASS'S SHED -/
/-- a shed: strings; made, there, pinned, weights; the sweep: going, white, black, gray row; sweeps ended, strings gone -/
abbrev SH : Type := GT × (Nat × (Nat → Bool) × (Nat → Bool) × (Nat → Int32)) × (Bool × (Nat → Bool) × (Nat → Bool) × List Nat) × Int32 × Int32
abbrev SH.g (A : SH) : GT := A.1
abbrev SH.m (A : SH) : Nat := A.2.1.1
abbrev SH.T (A : SH) : Nat → Bool := A.2.1.2.1
abbrev SH.P (A : SH) : Nat → Bool := A.2.1.2.2.1
abbrev SH.W (A : SH) : Nat → Int32 := A.2.1.2.2.2
abbrev SH.G (A : SH) : Bool := A.2.2.1.1
abbrev SH.w (A : SH) : Nat → Bool := A.2.2.1.2.1
abbrev SH.b (A : SH) : Nat → Bool := A.2.2.1.2.2.1
abbrev SH.q (A : SH) : List Nat := A.2.2.1.2.2.2
abbrev SH.E (A : SH) : Int32 := A.2.2.2.1
abbrev SH.N (A : SH) : Int32 := A.2.2.2.2
/-- the class's shed s holds A -/
def CS (M : sx_M) (s : Nat) (A : SH) : Prop := GS M s A.g ∧ SS M s A.G A.w A.b A.q ∧ A.m ≤ 24 ∧ M.1 1 s 3 = nI A.m ∧ Wd (M.1 1 s 4) A.T ∧ Wd (M.1 1 s 5) A.P ∧ M.1 1 s 6 = A.E ∧ M.1 1 s 7 = A.N ∧ ∀ p, p < A.m → M.1 8 s p = A.W p
def pSh (s : Nat) : Nat → Nat → Prop := fun k s' => (1 ≤ k ∧ k ≤ 8) ∧ s' = s
theorem pStr_sh {s : Nat} : ∀ k s', pStr s k s' → pSh s k s' := fun k s' h => ⟨by rcases h.1 with rfl | rfl | rfl | rfl <;> omega, h.2⟩
theorem pSw_sh {s : Nat} : ∀ k s', pSw s k s' → pSh s k s' := fun k s' h => ⟨by rcases h.1 with rfl | rfl <;> omega, h.2⟩
theorem pSh_k {s k : Nat} (h1 : 1 ≤ k) (h2 : k ≤ 8) : pSh s k s := ⟨⟨h1, h2⟩, rfl⟩
theorem CS.fr {P : Nat → Nat → Prop} {M M' : sx_M} {s : Nat} {A : SH} (h : CS M s A) (hf : Fr P M M') (hp : ∀ k, 1 ≤ k → k ≤ 8 → ¬ P k s) : CS M' s A := by
  obtain ⟨h1, h2, h3, h4, h5, h6, h7, h8, h9⟩ := h
  refine ⟨h1.fr hf (hp 2 (by omega) (by omega)) (hp 3 (by omega) (by omega)) (hp 4 (by omega) (by omega)) (hp 5 (by omega) (by omega)), h2.fr hf (hp 6 (by omega) (by omega)) (hp 7 (by omega) (by omega)), h3, ?_⟩
  rw [hf.1 1 s (hp 1 (by omega) (by omega)), hf.1 8 s (hp 8 (by omega) (by omega))]
  exact ⟨h4, h5, h6, h7, h8, h9⟩
theorem CS.other {M M' : sx_M} {s s1 : Nat} {A : SH} (h : CS M s A) (hf : Fr (pSh s1) M M') (hs : s ≠ s1) : CS M' s A := h.fr hf (fun _ _ _ q => hs q.2)
/-- where a way down begins: hooks and pinned parts -/
def hol (P : Nat → Bool) (t : Nat) : Bool := decide (t < 4) || (decide (t < 28) && P (t - 4))
theorem w3_holders {M : sx_M} {s : Nat} {A : SH} (h : CS M s A) : wp (f3_holders s M) (fun r => ∀ t, t < 32 → bt r t = hol A.P t) := by
  rw [f3_holders]
  refine wp_some (fun t ht => ?_)
  rw [bt_or, bt_15 t ht, h.2.2.2.2.2.1 t ht]
  unfold hol
  by_cases h4 : t < 4
  · simp [h4]
  · have : 4 ≤ t := by omega
    simp [h4, this]
theorem GT.held_wo {g : GT} (hok : g.ok) {v : Int32} (hne : ∀ i, i < g.n → nI i ≠ v) (H : Nat → Bool) {t : Nat} (ht : t < 32) : (g.wo v).held H t = g.held H t := by
  have hz : ∀ i, i < g.n → (g.wo v).Z i = g.Z i := fun i hi => by
    show (g.Z i && !decide (nI i = v)) = g.Z i
    rw [decide_eq_false (hne i hi)]; simp
  rw [Bool.eq_iff_iff]
  constructor
  · exact fun q => GT.lev_least (g := g.wo v) (Y := fun t => g.held H t = true) (fun t _ q => GT.held_H q) (fun i hi hz' q => GT.held_closed hok hi ((hz i hi) ▸ hz') q) hok 24 _ ht q
  · exact fun q => GT.lev_least (g := g) (Y := fun t => (g.wo v).held H t = true) (fun t _ q => GT.held_H q) (fun i hi hz' q => GT.held_closed (g := g.wo v) hok hi ((hz i hi).trans hz') q) hok 24 _ ht q
theorem nI_ne_m1 {i : Nat} (h : i < 1000) : nI i ≠ (-1 : Int32) := by
  intro e
  rw [fa_eq, nI_toInt (by omega)] at e
  have : ((-1 : Int32).toInt) = -1 := by decide
  omega
theorem nI_ne_m9 {i : Nat} (h : i < 1000) : nI i ≠ (-9 : Int32) := by
  intro e
  rw [fa_eq, nI_toInt (by omega)] at e
  have : ((-9 : Int32).toInt) = -9 := by decide
  omega
theorem bt_m16 : ∀ i, i < 32 → bt (-16) i = decide (4 ≤ i) := by decide +kernel
/-- the held parts -/
def SH.H (A : SH) (p : Nat) : Bool := A.g.held (hol A.P) (p + 4)
theorem GT.held_top {g : GT} (hg : g.ok) {P : Nat → Bool} {t : Nat} (h1 : 28 ≤ t) (h2 : t < 32) : g.held (hol P) t = false := by
  cases e : g.held (hol P) t with
  | false => rfl
  | true =>
    have := GT.lev_least (Y := fun t => t < 28) (fun t _ q => by
      unfold hol at q
      rw [Bool.or_eq_true, Bool.and_eq_true, decide_eq_true_eq, decide_eq_true_eq] at q
      omega) (fun i hi _ _ => by have := (hg.2 i hi).2; omega) hg 24 t h2 e
    have : t < 28 := this
    omega
theorem w3_held {M : sx_M} {s : Nat} {A : SH} (h : CS M s A) : wp (f3_held s M) (fun r => Wd r A.H) := by
  rw [f3_held]
  obtain ⟨x, e, hx⟩ := w3_holders h
  refine wp_call e ?_
  obtain ⟨r, e2, hr⟩ := w4_reach h.1 x (-1)
  refine wp_call e2 ?_
  have hok := h.1.ok
  refine wp_some (fun t ht => ?_)
  rw [b_and, bt_m16 t ht, hr t ht, GT.held_wo hok (fun i hi => nI_ne_m1 (by have := hok.1; omega)) _ ht]
  have e3 : A.g.held (bt x) t = A.g.held (hol A.P) t := GT.lev_cong hok hx 24 t ht
  rw [e3]
  unfold SH.H
  by_cases h4 : 4 ≤ t
  · rw [show t - 4 + 4 = t by omega]
    by_cases h28 : t < 28
    · simp [h4, h28]
    · rw [GT.held_top hok (by omega) ht]; simp
  · simp [h4]
/-- whether v is a part -/
theorem w3_isPart_p {M : sx_M} {s : Nat} {A : SH} (h : CS M s A) {p : Nat} (hp : p < 24) : f3_isPart s (nI p) M = some (bI01 (A.T p)) := by
  refine wp_get ?_
  rw [f3_isPart]
  with_reducible refine wp_bd ?_
  refine wp_call (w7_bitOf_p hp M) ?_
  have tw := h.2.2.2.2.1.tst hp
  with_reducible refine wp_bd ?_
  with_reducible refine wp_if (fun c => ?_) (fun c => ?_)
  · rw [tw] at c
    repeat' (first | with_reducible refine wp_some ?_ | with_reducible refine wp_bd ?_ | (with_reducible refine wp_ifp ?_ ?_; · (first | exact ⟨by decide, by decide⟩ | exact sx_in_n (by omega) (by omega) | assumption | exact ⟨sx_in_n (by omega) (by omega), bI01_01 _⟩ | exact Or.inl rfl | exact Or.inr rfl | (simp (disch := omega) only [nI_lit, iI_le, iI_lt, iI_eq, nI_cl, nI_add, tI_4N, bt_shrN, bI01_0N, bI01_1N, Nat.not_le, Nat.not_lt, not_true_eq_false, not_false_eq_true, true_or, or_true, false_or, or_false, Bool.not_eq_false, Bool.not_eq_true] <;> omega))) | (with_reducible refine wp_ifn ?_ ?_; · (first | exact ⟨by decide, by decide⟩ | exact sx_in_n (by omega) (by omega) | assumption | exact ⟨sx_in_n (by omega) (by omega), bI01_01 _⟩ | exact Or.inl rfl | exact Or.inr rfl | (simp (disch := omega) only [nI_lit, iI_le, iI_lt, iI_eq, nI_cl, nI_add, tI_4N, bt_shrN, bI01_0N, bI01_1N, Nat.not_le, Nat.not_lt, not_true_eq_false, not_false_eq_true, true_or, or_true, false_or, or_false, Bool.not_eq_false, Bool.not_eq_true] <;> omega))) | fail)
    rw [c]; rfl
  · rw [tw, Bool.not_eq_false] at c
    repeat' (first | with_reducible refine wp_some ?_ | with_reducible refine wp_bd ?_ | (with_reducible refine wp_ifp ?_ ?_; · (first | exact ⟨by decide, by decide⟩ | exact sx_in_n (by omega) (by omega) | assumption | exact ⟨sx_in_n (by omega) (by omega), bI01_01 _⟩ | exact Or.inl rfl | exact Or.inr rfl | (simp (disch := omega) only [nI_lit, iI_le, iI_lt, iI_eq, nI_cl, nI_add, tI_4N, bt_shrN, bI01_0N, bI01_1N, Nat.not_le, Nat.not_lt, not_true_eq_false, not_false_eq_true, true_or, or_true, false_or, or_false, Bool.not_eq_false, Bool.not_eq_true] <;> omega))) | (with_reducible refine wp_ifn ?_ ?_; · (first | exact ⟨by decide, by decide⟩ | exact sx_in_n (by omega) (by omega) | assumption | exact ⟨sx_in_n (by omega) (by omega), bI01_01 _⟩ | exact Or.inl rfl | exact Or.inr rfl | (simp (disch := omega) only [nI_lit, iI_le, iI_lt, iI_eq, nI_cl, nI_add, tI_4N, bt_shrN, bI01_0N, bI01_1N, Nat.not_le, Nat.not_lt, not_true_eq_false, not_false_eq_true, true_or, or_true, false_or, or_false, Bool.not_eq_false, Bool.not_eq_true] <;> omega))) | fail)
    rw [c]; rfl
/-- no part -/
theorem w3_isPart_o {M : sx_M} {s : Nat} {A : SH} (h : CS M s A) {v : Int32} (hv : ∀ p, p < 24 → v = nI p → A.T p = false) : f3_isPart s v M = some 0 := by
  refine wp_get ?_
  rw [f3_isPart]
  with_reducible refine wp_bd ?_
  have hz : ∃ x, f7_bitOf v M = some x ∧ M.1 1 s 4 &&& x = 0 := by
    rcases thing_or v with ⟨t, ht, rfl⟩ | ho
    · refine ⟨_, w7_bitOf_t ht M, ?_⟩
      rw [bt_and (by omega), h.2.2.2.2.1 t (by omega)]
      by_cases h4 : 4 ≤ t
      · rw [hv (t - 4) (by omega) (tI_ge h4), Bool.and_false]
      · simp [h4]
    · exact ⟨_, w7_bitOf_o ho M, by rw [bt_eq0]; intro i hi; rw [b_and, bt_zero, Bool.and_false]⟩
  obtain ⟨x, e, hx⟩ := hz
  refine wp_call e ?_
  with_reducible refine wp_bd ?_
  refine wp_ifp hx ?_
  repeat' (first | with_reducible refine wp_some ?_ | with_reducible refine wp_bd ?_ | (with_reducible refine wp_ifp ?_ ?_; · (first | exact ⟨by decide, by decide⟩ | exact sx_in_n (by omega) (by omega) | assumption | exact ⟨sx_in_n (by omega) (by omega), bI01_01 _⟩ | exact Or.inl rfl | exact Or.inr rfl | (simp (disch := omega) only [nI_lit, iI_le, iI_lt, iI_eq, nI_cl, nI_add, tI_4N, bt_shrN, bI01_0N, bI01_1N, Nat.not_le, Nat.not_lt, not_true_eq_false, not_false_eq_true, true_or, or_true, false_or, or_false, Bool.not_eq_false, Bool.not_eq_true] <;> omega))) | (with_reducible refine wp_ifn ?_ ?_; · (first | exact ⟨by decide, by decide⟩ | exact sx_in_n (by omega) (by omega) | assumption | exact ⟨sx_in_n (by omega) (by omega), bI01_01 _⟩ | exact Or.inl rfl | exact Or.inr rfl | (simp (disch := omega) only [nI_lit, iI_le, iI_lt, iI_eq, nI_cl, nI_add, tI_4N, bt_shrN, bI01_0N, bI01_1N, Nat.not_le, Nat.not_lt, not_true_eq_false, not_false_eq_true, true_or, or_true, false_or, or_false, Bool.not_eq_false, Bool.not_eq_true] <;> omega))) | fail)
  rfl
