/-! THE CLASS'S FIGURES -/
theorem Wd.eq0 {r : Int32} {X : Nat → Bool} (h : Wd r X) : r = 0 ↔ ∀ p, p < 24 → X p = false := by
  rw [bt_eq0]
  constructor
  · intro q p hp
    rw [← h.at hp]; exact q _ (by omega)
  · intro q i hi
    rw [h i hi]
    by_cases h4 : 4 ≤ i ∧ i < 28
    · rw [q (i - 4) (by omega), Bool.and_false]
    · by_cases h5 : 4 ≤ i
      · have : ¬ i < 28 := fun q2 => h4 ⟨h5, q2⟩
        simp [this]
      · simp [h5]
theorem Wd.one {p : Nat} (hp : p < 24) : Wd (bI (p + 4)) (fun k => decide (k = p)) := by
  have := Wd.zero.add hp
  rw [show (0 : Int32) ||| bI (p + 4) = bI (p + 4) from Int32.zero_or] at this
  exact this.ext (fun k _ => by simp)
/-- a number of the shed, below 11 -/
def SH.fig (A : SH) : Nat → Int32
  | 0 => nI (fb_ct A.T 24)
  | 1 => nI A.m
  | 2 => nI A.m - nI (fb_ct A.T 24)
  | 3 => nI A.g.n
  | 4 => nI (fb_ct (fun i => !A.g.Z i) A.g.n)
  | 5 => nI (fb_ct A.P 24)
  | 6 => nI (fb_ct A.H 24)
  | 7 => sw A.H A.W A.m
  | 8 => bI01 A.G
  | 9 => A.E
  | _ => A.N
/-- the greatest depth -/
def SH.deep (A : SH) (r : Int32) : Prop := (r = -9 ∧ ∀ p, p < 24 → A.H p = false) ∨ ∃ d, d ≤ 24 ∧ r = nI d ∧ (∃ p, p < 24 ∧ A.H p = true) ∧ (∀ t, t < 32 → ∀ e, A.g.lev (hol A.P) e t = true → A.g.lev (hol A.P) d t = true) ∧ ∀ e, e < d → ∃ t, t < 32 ∧ A.g.lev (hol A.P) (e + 1) t = true ∧ A.g.lev (hol A.P) e t = false
theorem w3_figure {M : sx_M} {s : Nat} {A : SH} (h : CS M s A) {k : Nat} (hk : k < 11) : f3_figure s (nI k) M = some (A.fig k) := by
  obtain ⟨h1, h2, h3, h4, h5, h6, h7, h8, h9⟩ := id h
  refine wp_get ?_
  rw [f3_figure]
  match k, hk with
  | 0, _ =>
    refine wp_ifp rfl ?_
    with_reducible refine wp_bd ?_
    refine wp_call (wJ_count h5 _) ?_
    exact wp_some rfl
  | 1, _ =>
    refine wp_ifn (by decide) ?_
    refine wp_ifp rfl ?_
    exact wp_some h4
  | 2, _ =>
    refine wp_ifn (by decide) ?_
    refine wp_ifn (by decide) ?_
    refine wp_ifp rfl ?_
    refine wp_call (w3_swept h) ?_
    exact wp_some rfl
  | 3, _ =>
    refine wp_ifn (by decide) ?_
    refine wp_ifn (by decide) ?_
    refine wp_ifn (by decide) ?_
    refine wp_ifp rfl ?_
    have hsz : f4_size s M = some (nI A.g.n) := by rw [f4_size]; exact congrArg some h1.2.1
    refine wp_call hsz ?_
    exact wp_some rfl
  | 4, _ =>
    refine wp_ifn (by decide) ?_
    refine wp_ifn (by decide) ?_
    refine wp_ifn (by decide) ?_
    refine wp_ifn (by decide) ?_
    refine wp_ifp rfl ?_
    refine wp_call (w4_frayed h1) ?_
    exact wp_some rfl
  | 5, _ =>
    refine wp_ifn (by decide) ?_
    refine wp_ifn (by decide) ?_
    refine wp_ifn (by decide) ?_
    refine wp_ifn (by decide) ?_
    refine wp_ifn (by decide) ?_
    refine wp_ifp rfl ?_
    with_reducible refine wp_bd ?_
    refine wp_call (wJ_count h6 _) ?_
    exact wp_some rfl
  | 6, _ =>
    refine wp_ifn (by decide) ?_
    refine wp_ifn (by decide) ?_
    refine wp_ifn (by decide) ?_
    refine wp_ifn (by decide) ?_
    refine wp_ifn (by decide) ?_
    refine wp_ifn (by decide) ?_
    refine wp_ifp rfl ?_
    obtain ⟨r, e, hr⟩ := w3_held h
    refine wp_call e ?_
    refine wp_call (wJ_count hr _) ?_
    exact wp_some rfl
  | 7, _ =>
    refine wp_ifn (by decide) ?_
    refine wp_ifn (by decide) ?_
    refine wp_ifn (by decide) ?_
    refine wp_ifn (by decide) ?_
    refine wp_ifn (by decide) ?_
    refine wp_ifn (by decide) ?_
    refine wp_ifn (by decide) ?_
    refine wp_ifp rfl ?_
    obtain ⟨r, e, hr⟩ := w3_held h
    refine wp_call e ?_
    refine wp_call (w3_weightOf h hr) ?_
    exact wp_some rfl
  | 8, _ =>
    refine wp_ifn (by decide) ?_
    refine wp_ifn (by decide) ?_
    refine wp_ifn (by decide) ?_
    refine wp_ifn (by decide) ?_
    refine wp_ifn (by decide) ?_
    refine wp_ifn (by decide) ?_
    refine wp_ifn (by decide) ?_
    refine wp_ifn (by decide) ?_
    refine wp_ifp rfl ?_
    refine wp_call (w5_isGoing h2) ?_
    with_reducible refine wp_bd ?_
    show wp _ (fun a => a = bI01 A.G)
    cases A.G with
    | false => exact wp_ifp rfl (wp_some rfl)
    | true => exact wp_ifn (by decide) (wp_some rfl)
  | 9, _ =>
    refine wp_ifn (by decide) ?_
    refine wp_ifn (by decide) ?_
    refine wp_ifn (by decide) ?_
    refine wp_ifn (by decide) ?_
    refine wp_ifn (by decide) ?_
    refine wp_ifn (by decide) ?_
    refine wp_ifn (by decide) ?_
    refine wp_ifn (by decide) ?_
    refine wp_ifn (by decide) ?_
    refine wp_ifp rfl ?_
    exact wp_some h7
  | 10, _ =>
    refine wp_ifn (by decide) ?_
    refine wp_ifn (by decide) ?_
    refine wp_ifn (by decide) ?_
    refine wp_ifn (by decide) ?_
    refine wp_ifn (by decide) ?_
    refine wp_ifn (by decide) ?_
    refine wp_ifn (by decide) ?_
    refine wp_ifn (by decide) ?_
    refine wp_ifn (by decide) ?_
    refine wp_ifn (by decide) ?_
    refine wp_ifp rfl ?_
    exact wp_some h8
  | k + 11, hk => exact absurd hk (by omega)
theorem w3_figure_deep {M : sx_M} {s : Nat} {A : SH} (h : CS M s A) : wp (f3_figure s (nI 11) M) A.deep := by
  rw [f3_figure]
  refine wp_ifn (by decide) ?_
  refine wp_ifn (by decide) ?_
  refine wp_ifn (by decide) ?_
  refine wp_ifn (by decide) ?_
  refine wp_ifn (by decide) ?_
  refine wp_ifn (by decide) ?_
  refine wp_ifn (by decide) ?_
  refine wp_ifn (by decide) ?_
  refine wp_ifn (by decide) ?_
  refine wp_ifn (by decide) ?_
  refine wp_ifn (by decide) ?_
  obtain ⟨r, e, hr⟩ := w3_held h
  refine wp_call e ?_
  with_reducible refine wp_bd ?_
  have ez := hr.eq0
  with_reducible refine wp_if (fun c => ?_) (fun c => ?_)
  · exact wp_some (Or.inl ⟨rfl, ez.mp c⟩)
  · obtain ⟨x, e1, hx⟩ := w3_holders h
    refine wp_call e1 ?_
    obtain ⟨y, e2, d, hd1, hd2, hd3, hd4⟩ := w4_greatestDepth h.1 x
    refine wp_call e2 ?_
    have hl : ∀ e t, t < 32 → A.g.lev (bt x) e t = A.g.lev (hol A.P) e t := fun e t ht => GT.lev_cong h.1.ok hx e t ht
    refine wp_some (Or.inr ⟨d, hd1, hd2, ?_, fun t ht e he => ?_, fun e he => ?_⟩)
    · refine Classical.byContradiction fun hc => c (ez.mpr fun p hp => ?_)
      cases q : A.H p with
      | false => rfl
      | true => exact absurd ⟨p, hp, q⟩ hc
    · rw [← hl _ t ht] at he ⊢
      exact hd3 t ht e he
    · obtain ⟨t, ht, q1, q2⟩ := hd4 e he
      exact ⟨t, ht, by rw [← hl _ t ht]; exact q1, by rw [← hl _ t ht]; exact q2⟩
/-- a number of a part; 3 is its depth -/
def SH.figP (A : SH) (p : Nat) : Nat → Int32
  | 0 => sw (fun k => decide (k = p)) A.W A.m
  | 1 => bI01 (A.P p)
  | 2 => bI01 (A.H p)
  | 4 => nI (fb_ct (fun i => A.g.Z i && decide (A.g.B i = p)) A.g.n)
  | 5 => nI (fb_ct (fun i => decide (A.g.A i = p + 4)) A.g.n)
  | _ => if A.G then (if A.w p then 0 else if A.b p then 2 else 1) else -9
theorem w3_figureOf {M : sx_M} {s : Nat} {A : SH} (h : CS M s A) {p : Nat} (hp : p < 24) {k : Nat} (hk : k < 7) (h3 : k ≠ 3) : f3_figureOf s (nI p) (nI k) M = some (A.figP p k) := by
  refine wp_get ?_
  rw [f3_figureOf]
  match k, hk, h3 with
  | 0, _, _ =>
    refine wp_ifp rfl ?_
    refine wp_call (w7_bitOf_p hp _) ?_
    refine wp_call (w3_weightOf h (Wd.one hp)) ?_
    exact wp_some rfl
  | 1, _, _ =>
    refine wp_ifn (by decide) ?_
    refine wp_ifp rfl ?_
    refine wp_call (w3_isPinned h hp) ?_
    with_reducible refine wp_bd ?_
    show wp _ (fun a => a = bI01 (A.P p))
    cases A.P p with
    | false => exact wp_ifp rfl (wp_some rfl)
    | true => exact wp_ifn (by decide) (wp_some rfl)
  | 2, _, _ =>
    refine wp_ifn (by decide) ?_
    refine wp_ifn (by decide) ?_
    refine wp_ifp rfl ?_
    obtain ⟨r, e, hr⟩ := w3_held h
    refine wp_call e ?_
    refine wp_call (w7_bitOf_p hp _) ?_
    have tw := hr.tst hp
    with_reducible refine wp_bd ?_
    show wp _ (fun a => a = bI01 (A.H p))
    with_reducible refine wp_if (fun c => ?_) (fun c => ?_)
    · rw [tw] at c
      rw [c]; exact wp_some rfl
    · rw [tw, Bool.not_eq_false] at c
      rw [c]; exact wp_some rfl
  | 3, _, h3 => exact absurd rfl h3
  | 4, _, _ =>
    refine wp_ifn (by decide) ?_
    refine wp_ifn (by decide) ?_
    refine wp_ifn (by decide) ?_
    refine wp_ifn (by decide) ?_
    refine wp_ifp rfl ?_
    refine wp_call (w4_soundTo h.1 hp) ?_
    exact wp_some rfl
  | 5, _, _ =>
    refine wp_ifn (by decide) ?_
    refine wp_ifn (by decide) ?_
    refine wp_ifn (by decide) ?_
    refine wp_ifn (by decide) ?_
    refine wp_ifn (by decide) ?_
    refine wp_ifp rfl ?_
    refine wp_call (w4_under h.1 hp) ?_
    exact wp_some rfl
  | 6, _, _ =>
    refine wp_ifn (by decide) ?_
    refine wp_ifn (by decide) ?_
    refine wp_ifn (by decide) ?_
    refine wp_ifn (by decide) ?_
    refine wp_ifn (by decide) ?_
    refine wp_ifn (by decide) ?_
    refine wp_call (w5_colourOf h.2.1 hp) ?_
    exact wp_some rfl
  | k + 7, hk, _ => exact absurd hk (by omega)
theorem w3_figureOf_depth {M : sx_M} {s : Nat} {A : SH} (h : CS M s A) {p : Nat} (hp : p < 24) : wp (f3_figureOf s (nI p) (nI 3) M) (fun r => (∃ d, d ≤ 24 ∧ r = nI d ∧ A.g.dp (hol A.P) (p + 4) d) ∨ (r = -9 ∧ A.H p = false)) := by
  rw [f3_figureOf]
  refine wp_ifn (by decide) ?_
  refine wp_ifn (by decide) ?_
  refine wp_ifn (by decide) ?_
  refine wp_ifp rfl ?_
  obtain ⟨r, e, hr⟩ := w3_depthOf h (v := p + 4) (by omega)
  rw [tI_part] at e
  refine wp_call e ?_
  exact wp_some hr
