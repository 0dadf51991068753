/-! STRING TABLES AND LEVELS -/
/-- a string table: n strings, thing above, part below, whether sound -/
abbrev GT : Type := Nat × (Nat → Nat) × (Nat → Nat) × (Nat → Bool)
abbrev GT.n (g : GT) : Nat := g.1
abbrev GT.A (g : GT) : Nat → Nat := g.2.1
abbrev GT.B (g : GT) : Nat → Nat := g.2.2.1
abbrev GT.Z (g : GT) : Nat → Bool := g.2.2.2
def anyN (f : Nat → Bool) : Nat → Bool
  | 0 => false
  | n + 1 => anyN f n || f n
theorem anyN_iff {f : Nat → Bool} : ∀ {n : Nat}, anyN f n = true ↔ ∃ i, i < n ∧ f i = true := by
  intro n
  induction n with
  | zero => exact ⟨fun h => (by cases h), fun ⟨i, h, _⟩ => absurd h (Nat.not_lt_zero _)⟩
  | succ n ih =>
    rw [anyN, Bool.or_eq_true, ih]
    constructor
    · rintro (⟨i, h, e⟩ | e)
      · exact ⟨i, by omega, e⟩
      · exact ⟨n, by omega, e⟩
    · rintro ⟨i, h, e⟩
      by_cases q : i = n
      · subst q; exact Or.inr e
      · exact Or.inl ⟨i, by omega, e⟩
theorem anyN_cong {f f' : Nat → Bool} {n : Nat} (h : ∀ i, i < n → f i = f' i) : anyN f n = anyN f' n := by
  rw [Bool.eq_iff_iff, anyN_iff, anyN_iff]
  exact ⟨fun ⟨i, hi, e⟩ => ⟨i, hi, (h i hi) ▸ e⟩, fun ⟨i, hi, e⟩ => ⟨i, hi, (h i hi).symm ▸ e⟩⟩
/-- what hangs by one more string -/
def GT.nx (g : GT) (X : Nat → Bool) (t : Nat) : Bool := anyN (fun i => g.Z i && X (g.A i) && decide (t = g.B i + 4)) g.n
def GT.lev (g : GT) (H : Nat → Bool) : Nat → Nat → Bool
  | 0 => H
  | d + 1 => fun t => g.lev H d t || g.nx (g.lev H d) t
theorem GT.nx_iff {g : GT} {X : Nat → Bool} {t : Nat} : g.nx X t = true ↔ ∃ i, i < g.n ∧ g.Z i = true ∧ X (g.A i) = true ∧ t = g.B i + 4 := by
  unfold GT.nx
  rw [anyN_iff]
  simp only [Bool.and_eq_true, decide_eq_true_eq, and_assoc]
/-- ends inside -/
def GT.ok (g : GT) : Prop := g.n ≤ 40 ∧ ∀ i, i < g.n → g.A i < 28 ∧ g.B i < 24
theorem GT.nx_cong {g : GT} (hg : g.ok) {X Y : Nat → Bool} (h : ∀ t, t < 28 → X t = Y t) (t : Nat) : g.nx X t = g.nx Y t :=
  anyN_cong (fun i hi => by rw [h (g.A i) (hg.2 i hi).1])
theorem GT.lev_cong {g : GT} (hg : g.ok) {X Y : Nat → Bool} (h : ∀ t, t < 32 → X t = Y t) : ∀ (d t : Nat), t < 32 → g.lev X d t = g.lev Y d t := by
  intro d
  induction d with
  | zero => exact h
  | succ d ih => intro t ht; show (g.lev X d t || g.nx (g.lev X d) t) = (g.lev Y d t || g.nx (g.lev Y d) t); rw [ih t ht, g.nx_cong hg (fun t ht => ih t (by omega)) t]
theorem GT.lev_up {g : GT} {H : Nat → Bool} {d t : Nat} (h : g.lev H d t = true) : g.lev H (d + 1) t = true := by
  show (g.lev H d t || g.nx (g.lev H d) t) = true
  rw [h]; rfl
theorem GT.lev_le {g : GT} {H : Nat → Bool} {d e t : Nat} (hde : d ≤ e) (h : g.lev H d t = true) : g.lev H e t = true := by
  induction e with
  | zero => rw [show d = 0 by omega] at h; exact h
  | succ e ih =>
    by_cases q : d = e + 1
    · subst q; exact h
    · exact GT.lev_up (ih (by omega))
/-- once still, still for good -/
theorem GT.lev_still {g : GT} {H : Nat → Bool} (hg : g.ok) {d : Nat} (h : ∀ t, t < 32 → g.lev H (d + 1) t = g.lev H d t) : ∀ (e : Nat), d ≤ e → ∀ t, t < 32 → g.lev H e t = g.lev H d t := by
  intro e
  induction e with
  | zero => intro hd t _; rw [show d = 0 by omega]
  | succ e ih =>
    intro hd t ht
    by_cases q : d = e + 1
    · subst q; rfl
    · have hih := ih (by omega)
      show (g.lev H e t || g.nx (g.lev H e) t) = g.lev H d t
      rw [hih t ht, g.nx_cong hg (fun t ht => hih t (by omega)) t]
      exact h t ht
theorem GT.nx_part {g : GT} (hg : g.ok) {X : Nat → Bool} {t : Nat} (h : g.nx X t = true) : 4 ≤ t ∧ t < 28 := by
  obtain ⟨i, hi, -, -, e⟩ := GT.nx_iff.mp h
  have := (hg.2 i hi).2
  omega
/-- as long as it moves, it grows -/
theorem GT.lev_count {g : GT} {H : Nat → Bool} (hg : g.ok) : ∀ (d : Nat), (∃ e, e < d ∧ ∀ t, t < 32 → g.lev H (e + 1) t = g.lev H e t) ∨ d ≤ fb_ct (fun p => g.lev H d (p + 4)) 24 := by
  intro d
  induction d with
  | zero => exact Or.inr (Nat.zero_le _)
  | succ d ih =>
    rcases ih with ⟨e, he, h⟩ | h
    · exact Or.inl ⟨e, by omega, h⟩
    · by_cases q : ∀ t, t < 32 → g.lev H (d + 1) t = g.lev H d t
      · exact Or.inl ⟨d, by omega, q⟩
      · refine Or.inr ?_
        obtain ⟨t, ht, hne⟩ : ∃ t, t < 32 ∧ g.lev H (d + 1) t ≠ g.lev H d t := by
          refine Classical.byContradiction fun hc => q fun t ht => Classical.byContradiction fun hn => hc ⟨t, ht, hn⟩
        have h0 : g.lev H d t = false := by
          cases e : g.lev H d t with
          | false => rfl
          | true => exact absurd ((GT.lev_up e).trans e.symm) hne
        have h1 : g.nx (g.lev H d) t = true := by
          have : g.lev H (d + 1) t = true := by
            cases e : g.lev H (d + 1) t with
            | true => rfl
            | false => exact absurd (e.trans h0.symm) hne
          have e2 : (g.lev H d t || g.nx (g.lev H d) t) = true := this
          rw [h0] at e2
          exact e2
        obtain ⟨h4, h28⟩ := GT.nx_part hg h1
        have hlt : fb_ct (fun p => g.lev H d (p + 4)) 24 + 1 ≤ fb_ct (fun p => g.lev H (d + 1) (p + 4)) 24 := by
          have e1 : fb_ct (fun k => if k = t - 4 then true else g.lev H d (k + 4)) 24 + (if g.lev H d (t - 4 + 4) = true then 1 else 0) = fb_ct (fun p => g.lev H d (p + 4)) 24 + (if true = true then 1 else 0) := fb_ct_upd (fun p => g.lev H d (p + 4)) true (i := t - 4) (n := 24) (by omega)
          have e2 : fb_ct (fun k => if k = t - 4 then true else g.lev H d (k + 4)) 24 ≤ fb_ct (fun p => g.lev H (d + 1) (p + 4)) 24 := by
            refine fb_ct_sub (fun k hk hq => ?_)
            by_cases e : k = t - 4
            · subst e
              rw [show t - 4 + 4 = t by omega]
              show (g.lev H d t || g.nx (g.lev H d) t) = true
              rw [h1, Bool.or_true]
            · rw [if_neg e] at hq
              exact GT.lev_up hq
          rw [show t - 4 + 4 = t by omega, h0, if_neg (by decide), if_pos rfl] at e1
          omega
        omega
/-- after 24 levels nothing new comes -/
theorem GT.lev_24 {g : GT} {H : Nat → Bool} (hg : g.ok) (e t : Nat) (ht : t < 32) (he : 24 ≤ e) : g.lev H e t = g.lev H 24 t := by
  rcases GT.lev_count (g := g) (H := H) hg 24 with ⟨d, hd, h⟩ | h
  · rw [GT.lev_still hg h e (by omega) t ht, GT.lev_still hg h 24 (by omega) t ht]
  · refine GT.lev_still hg (d := 24) (fun t ht => ?_) e he t ht
    show (g.lev H 24 t || g.nx (g.lev H 24) t) = g.lev H 24 t
    cases e : g.nx (g.lev H 24) t with
    | false => rw [Bool.or_false]
    | true =>
      obtain ⟨h4, h28⟩ := GT.nx_part hg e
      have := (fb_ct_all (p := fun p => g.lev H 24 (p + 4)) (n := 24)).mp (by have := fb_ct_le (fun p => g.lev H 24 (p + 4)) 24; omega) (t - 4) (by omega)
      rw [show t - 4 + 4 = t by omega] at this
      rw [this]; rfl
/-- what hangs from H at all -/
def GT.held (g : GT) (H : Nat → Bool) : Nat → Bool := g.lev H 24
theorem GT.held_of {g : GT} {H : Nat → Bool} (hg : g.ok) {d t : Nat} (ht : t < 32) (h : g.lev H d t = true) : g.held H t = true := by
  by_cases q : d ≤ 24
  · exact GT.lev_le q h
  · rw [← h, GT.lev_24 hg d t ht (by omega)]; rfl
theorem GT.held_closed {g : GT} {H : Nat → Bool} (hg : g.ok) {i : Nat} (hi : i < g.n) (hz : g.Z i = true) (h : g.held H (g.A i) = true) : g.held H (g.B i + 4) = true := by
  have hb := (hg.2 i hi).2
  refine GT.held_of hg (d := 25) (by omega) ?_
  have h2 : g.nx (g.lev H 24) (g.B i + 4) = true := GT.nx_iff.mpr ⟨i, hi, hz, h, rfl⟩
  show (g.lev H 24 (g.B i + 4) || g.nx (g.lev H 24) (g.B i + 4)) = true
  rw [h2, Bool.or_true]
theorem GT.held_H {g : GT} {H : Nat → Bool} {t : Nat} (h : H t = true) : g.held H t = true := GT.lev_le (d := 0) (Nat.zero_le _) h
theorem GT.lev_least {g : GT} {H : Nat → Bool} {Y : Nat → Prop} (h0 : ∀ t, t < 32 → H t = true → Y t) (hc : ∀ i, i < g.n → g.Z i = true → Y (g.A i) → Y (g.B i + 4)) (hg : g.ok) : ∀ d t, t < 32 → g.lev H d t = true → Y t := by
  intro d
  induction d with
  | zero => exact h0
  | succ d ih =>
    intro t ht h
    have h' : (g.lev H d t || g.nx (g.lev H d) t) = true := h
    rw [Bool.or_eq_true] at h'
    rcases h' with h' | h'
    · exact ih t ht h'
    · obtain ⟨i, hi, hz, hx, rfl⟩ := GT.nx_iff.mp h'
      exact hc i hi hz (ih _ (by have := (hg.2 i hi).1; omega) hx)
/-- the table without one string -/
def GT.wo (g : GT) (v : Int32) : GT := (g.n, g.A, g.B, fun i => g.Z i && !decide (nI i = v))
theorem GT.wo_ok {g : GT} (hg : g.ok) (v : Int32) : (g.wo v).ok := hg
