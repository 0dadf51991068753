/-! NO METHOD OF THE REFERENCE TOUCHES THE LONGS (nl.py) -/
def nl {γ : Type} (g : γ → sx_M) (x : Option γ) (m : Nat → Nat → Nat → Int64) : Prop := ∀ r, x = some r → (g r).2 = m
section
variable {γ : Type} {g : γ → sx_M} {m : Nat → Nat → Nat → Int64}
theorem nl_none : nl g none m := fun _ e => by cases e
theorem nl_some {r : γ} (h : (g r).2 = m) : nl g (some r) m := fun _ e => by cases e; exact h
theorem nl_bd {α : Type} {x : α} {f : α → Option γ} (h : nl g (f x) m) : nl g (sx_bd x f) m := h
theorem nl_if {c : Prop} {_ : Decidable c} {x y : Option γ} (h1 : nl g x m) (h2 : nl g y m) : nl g (if c then x else y) m := by
  by_cases h : c
  · rw [if_pos h]; exact h1
  · rw [if_neg h]; exact h2
theorem nl_bv {α : Type} {x : Option α} {f : α → Option γ} (h : ∀ a, nl g (f a) m) : nl g (x.bind f) m := fun r e => by
  cases hx : x with
  | none => rw [hx] at e; cases e
  | some a => rw [hx] at e; exact h a r e
theorem nl_b0 {x : Option sx_M} {f : sx_M → Option γ} (hx : nl id x m) (h : ∀ M : sx_M, M.2 = m → nl g (f M) m) : nl g (x.bind f) m := fun r e => by
  cases ex : x with
  | none => rw [ex] at e; cases e
  | some a => rw [ex] at e; exact h a (hx a ex) r e
theorem nl_b2 {x : Option (Int32 × sx_M)} {f : Int32 → sx_M → Option γ} (hx : nl Prod.snd x m) (h : ∀ (v : Int32) (M : sx_M), M.2 = m → nl g (f v M) m) : nl g (sx_b2 x f) m := fun r e => by
  cases ex : x with
  | none => rw [ex] at e; cases e
  | some a => rw [ex] at e; exact h a.1 a.2 (hx a ex) r e
end
theorem nl_f8_refused {m : Nat → Nat → Nat → Int64} (a1 : Int32) (M0 : sx_M) (h_M0 : M0.2 = m) : nl Prod.snd (f8_refused a1 M0) m := by
  rw [f8_refused]
  repeat' (first | with_reducible exact nl_none | ((with_reducible refine nl_some ?_); with_unfolding_all assumption) | with_reducible refine nl_bd ?_ | with_reducible refine nl_if ?_ ?_ | ((with_reducible refine nl_bv ?_); intro _) | fail)
theorem nl_f8_copy_L3 {m : Nat → Nat → Nat → Int64} (r0 : Nat) (w1 : Int32) (r2 : Nat) (w3 : Int32) (w4 : Int32)  : ∀ (n : Nat) (x0 : Int32) (x1 : sx_M), x1.2 = m → nl id (f8_copy_L3 r0 w1 r2 w3 w4 n x0 x1) m := by
  intro n
  induction n with
  | zero =>
    intros
    rw [f8_copy_L3]
    exact nl_none
  | succ n ih =>
    intro x0 x1 h_x1
    rw [f8_copy_L3]
    repeat' (first | with_reducible exact nl_none | ((with_reducible refine nl_some ?_); with_unfolding_all assumption) | with_reducible refine nl_bd ?_ | with_reducible refine nl_if ?_ ?_ | with_reducible exact ih _ _ (by with_unfolding_all assumption) | ((with_reducible refine nl_bv ?_); intro _) | fail)
theorem nl_f8_copy {m : Nat → Nat → Nat → Int64} (r0 : Nat) (a1 : Int32) (r2 : Nat) (a3 : Int32) (a4 : Int32) (M0 : sx_M) (h_M0 : M0.2 = m) : nl id (f8_copy r0 a1 r2 a3 a4 M0) m := by
  rw [f8_copy]
  repeat' (first | with_reducible exact nl_none | ((with_reducible refine nl_some ?_); with_unfolding_all assumption) | with_reducible refine nl_bd ?_ | with_reducible refine nl_if ?_ ?_ | with_reducible exact nl_f8_copy_L3 _ _ _ _ _ _ _ _ (by with_unfolding_all assumption) | ((with_reducible refine nl_b0 (nl_f8_copy_L3 _ _ _ _ _ _ _ _ (by with_unfolding_all assumption)) ?_); intro _ _) | ((with_reducible refine nl_bv ?_); intro _) | fail)
theorem nl_f8_remember {m : Nat → Nat → Nat → Int64} (M0 : sx_M) (h_M0 : M0.2 = m) : nl id (f8_remember M0) m := by
  rw [f8_remember]
  repeat' (first | with_reducible exact nl_none | ((with_reducible refine nl_some ?_); with_unfolding_all assumption) | with_reducible refine nl_bd ?_ | with_reducible refine nl_if ?_ ?_ | with_reducible exact nl_f8_copy _ _ _ _ _ _ (by with_unfolding_all assumption) | ((with_reducible refine nl_b0 (nl_f8_copy _ _ _ _ _ _ (by with_unfolding_all assumption)) ?_); intro _ _) | ((with_reducible refine nl_bv ?_); intro _) | fail)
theorem nl_f8_tryIt {m : Nat → Nat → Nat → Int64} (M0 : sx_M) (h_M0 : M0.2 = m) : nl id (f8_tryIt M0) m := by
  rw [f8_tryIt]
  repeat' (first | with_reducible exact nl_none | ((with_reducible refine nl_some ?_); with_unfolding_all assumption) | with_reducible refine nl_bd ?_ | with_reducible refine nl_if ?_ ?_ | with_reducible exact nl_f8_copy _ _ _ _ _ _ (by with_unfolding_all assumption) | ((with_reducible refine nl_b0 (nl_f8_copy _ _ _ _ _ _ (by with_unfolding_all assumption)) ?_); intro _ _) | ((with_reducible refine nl_bv ?_); intro _) | fail)
theorem nl_f8_lay_L2 {m : Nat → Nat → Nat → Int64} (r1 : Nat) (k45 : (sx_M → Option (sx_M))) (h_k45 : ∀ (y0 : sx_M), y0.2 = m → nl id (k45 y0) m) : ∀ (n : Nat) (x0 : Int32) (x1 : sx_M), x1.2 = m → nl id (f8_lay_L2 r1 k45 n x0 x1) m := by
  intro n
  induction n with
  | zero =>
    intros
    rw [f8_lay_L2]
    exact nl_none
  | succ n ih =>
    intro x0 x1 h_x1
    rw [f8_lay_L2]
    repeat' (first | with_reducible exact nl_none | ((with_reducible refine nl_some ?_); with_unfolding_all assumption) | with_reducible refine nl_bd ?_ | with_reducible refine nl_if ?_ ?_ | with_reducible exact h_k45 _ (by with_unfolding_all assumption) | with_reducible exact ih _ _ (by with_unfolding_all assumption) | ((with_reducible refine nl_bv ?_); intro _) | fail)
theorem nl_f8_lay_L55 {m : Nat → Nat → Nat → Int64} (r1 : Nat) (k140 : (Int32 → sx_M → Option (sx_M))) (h_k140 : ∀ (y0 : Int32) (y1 : sx_M), y1.2 = m → nl id (k140 y0 y1) m) : ∀ (n : Nat) (x0 : Int32) (x1 : Int32) (x2 : sx_M), x2.2 = m → nl id (f8_lay_L55 r1 k140 n x0 x1 x2) m := by
  intro n
  induction n with
  | zero =>
    intros
    rw [f8_lay_L55]
    exact nl_none
  | succ n ih =>
    intro x0 x1 x2 h_x2
    rw [f8_lay_L55]
    repeat' (first | with_reducible exact nl_none | ((with_reducible refine nl_some ?_); with_unfolding_all assumption) | with_reducible refine nl_bd ?_ | with_reducible refine nl_if ?_ ?_ | with_reducible exact h_k140 _ _ (by with_unfolding_all assumption) | with_reducible exact ih _ _ _ (by with_unfolding_all assumption) | ((with_reducible refine nl_bv ?_); intro _) | fail)
theorem nl_f8_lay_L47 {m : Nat → Nat → Nat → Int64} (r1 : Nat)  : ∀ (n : Nat) (x0 : Int32) (x1 : sx_M), x1.2 = m → nl id (f8_lay_L47 r1 n x0 x1) m := by
  intro n
  induction n with
  | zero =>
    intros
    rw [f8_lay_L47]
    exact nl_none
  | succ n ih =>
    intro x0 x1 h_x1
    rw [f8_lay_L47]
    repeat' (first | with_reducible exact nl_none | ((with_reducible refine nl_some ?_); with_unfolding_all assumption) | with_reducible refine nl_bd ?_ | with_reducible refine nl_if ?_ ?_ | with_reducible exact ih _ _ (by with_unfolding_all assumption) | ((with_reducible refine nl_f8_lay_L55 _ _ ?_ _ _ _ _ (by with_unfolding_all assumption)); intros) | ((with_reducible refine nl_bv ?_); intro _) | fail)
theorem nl_f8_lay {m : Nat → Nat → Nat → Int64} (r1 : Nat) (M0 : sx_M) (h_M0 : M0.2 = m) : nl id (f8_lay r1 M0) m := by
  rw [f8_lay]
  repeat' (first | with_reducible exact nl_none | ((with_reducible refine nl_some ?_); with_unfolding_all assumption) | with_reducible refine nl_bd ?_ | with_reducible refine nl_if ?_ ?_ | ((with_reducible refine nl_f8_lay_L2 _ _ ?_ _ _ _ (by with_unfolding_all assumption)); intros) | with_reducible exact nl_f8_lay_L47 _ _ _ _ (by with_unfolding_all assumption) | ((with_reducible refine nl_b0 (nl_f8_lay_L47 _ _ _ _ (by with_unfolding_all assumption)) ?_); intro _ _) | ((with_reducible refine nl_bv ?_); intro _) | fail)
theorem nl_f8_heldMany_L9 {m : Nat → Nat → Nat → Int64} (M : sx_M) (h_M : M.2 = m) : ∀ (n : Nat) (x0 : Int32) (x1 : Int32), nl Prod.snd (f8_heldMany_L9 M n x0 x1) m := by
  intro n
  induction n with
  | zero =>
    intros
    rw [f8_heldMany_L9]
    exact nl_none
  | succ n ih =>
    intro x0 x1 
    rw [f8_heldMany_L9]
    repeat' (first | with_reducible exact nl_none | ((with_reducible refine nl_some ?_); with_unfolding_all assumption) | with_reducible refine nl_bd ?_ | with_reducible refine nl_if ?_ ?_ | with_reducible exact ih _ _ | ((with_reducible refine nl_bv ?_); intro _) | fail)
theorem nl_f8_heldMany {m : Nat → Nat → Nat → Int64} (r1 : Nat) (M0 : sx_M) (h_M0 : M0.2 = m) : nl Prod.snd (f8_heldMany r1 M0) m := by
  rw [f8_heldMany]
  repeat' (first | with_reducible exact nl_none | ((with_reducible refine nl_some ?_); with_unfolding_all assumption) | with_reducible refine nl_bd ?_ | with_reducible refine nl_if ?_ ?_ | with_reducible exact nl_f8_lay _ _ (by with_unfolding_all assumption) | ((with_reducible refine nl_b0 (nl_f8_lay _ _ (by with_unfolding_all assumption)) ?_); intro _ _) | with_reducible exact nl_f8_heldMany_L9 _ (by with_unfolding_all assumption) _ _ _ | ((with_reducible refine nl_b2 (nl_f8_heldMany_L9 _ (by with_unfolding_all assumption) _ _ _) ?_); intro _ _ _) | ((with_reducible refine nl_bv ?_); intro _) | fail)
theorem nl_f8_heldWeight_L9 {m : Nat → Nat → Nat → Int64} (r1 : Nat) (M : sx_M) (h_M : M.2 = m) : ∀ (n : Nat) (x0 : Int32) (x1 : Int32), nl Prod.snd (f8_heldWeight_L9 r1 M n x0 x1) m := by
  intro n
  induction n with
  | zero =>
    intros
    rw [f8_heldWeight_L9]
    exact nl_none
  | succ n ih =>
    intro x0 x1 
    rw [f8_heldWeight_L9]
    repeat' (first | with_reducible exact nl_none | ((with_reducible refine nl_some ?_); with_unfolding_all assumption) | with_reducible refine nl_bd ?_ | with_reducible refine nl_if ?_ ?_ | with_reducible exact ih _ _ | ((with_reducible refine nl_bv ?_); intro _) | fail)
theorem nl_f8_heldWeight {m : Nat → Nat → Nat → Int64} (r1 : Nat) (M0 : sx_M) (h_M0 : M0.2 = m) : nl Prod.snd (f8_heldWeight r1 M0) m := by
  rw [f8_heldWeight]
  repeat' (first | with_reducible exact nl_none | ((with_reducible refine nl_some ?_); with_unfolding_all assumption) | with_reducible refine nl_bd ?_ | with_reducible refine nl_if ?_ ?_ | with_reducible exact nl_f8_lay _ _ (by with_unfolding_all assumption) | ((with_reducible refine nl_b0 (nl_f8_lay _ _ (by with_unfolding_all assumption)) ?_); intro _ _) | with_reducible exact nl_f8_heldWeight_L9 _ _ (by with_unfolding_all assumption) _ _ _ | ((with_reducible refine nl_b2 (nl_f8_heldWeight_L9 _ _ (by with_unfolding_all assumption) _ _ _) ?_); intro _ _ _) | ((with_reducible refine nl_bv ?_); intro _) | fail)
theorem nl_f8_redden {m : Nat → Nat → Nat → Int64} (r0 : Nat) (a1 : Int32) (M0 : sx_M) (h_M0 : M0.2 = m) : nl id (f8_redden r0 a1 M0) m := by
  rw [f8_redden]
  repeat' (first | with_reducible exact nl_none | ((with_reducible refine nl_some ?_); with_unfolding_all assumption) | with_reducible refine nl_bd ?_ | with_reducible refine nl_if ?_ ?_ | ((with_reducible refine nl_bv ?_); intro _) | fail)
theorem nl_f8_beginIn_L11 {m : Nat → Nat → Nat → Int64} (r0 : Nat) (k32 : (sx_M → Option (Int32 × sx_M))) (h_k32 : ∀ (y0 : sx_M), y0.2 = m → nl Prod.snd (k32 y0) m) : ∀ (n : Nat) (x0 : Int32) (x1 : sx_M), x1.2 = m → nl Prod.snd (f8_beginIn_L11 r0 k32 n x0 x1) m := by
  intro n
  induction n with
  | zero =>
    intros
    rw [f8_beginIn_L11]
    exact nl_none
  | succ n ih =>
    intro x0 x1 h_x1
    rw [f8_beginIn_L11]
    repeat' (first | with_reducible exact nl_none | ((with_reducible refine nl_some ?_); with_unfolding_all assumption) | with_reducible refine nl_bd ?_ | with_reducible refine nl_if ?_ ?_ | with_reducible exact h_k32 _ (by with_unfolding_all assumption) | with_reducible exact ih _ _ (by with_unfolding_all assumption) | ((with_reducible refine nl_bv ?_); intro _) | fail)
theorem nl_f8_beginIn_L60 {m : Nat → Nat → Nat → Int64} (r0 : Nat) (w1 : Int32) (M : sx_M) (k115 : (Int32 → Option (Int32 × sx_M))) (h_M : M.2 = m) (h_k115 : ∀ (y0 : Int32), nl Prod.snd (k115 y0) m) : ∀ (n : Nat) (x0 : Int32) (x1 : Int32), nl Prod.snd (f8_beginIn_L60 r0 w1 M k115 n x0 x1) m := by
  intro n
  induction n with
  | zero =>
    intros
    rw [f8_beginIn_L60]
    exact nl_none
  | succ n ih =>
    intro x0 x1 
    rw [f8_beginIn_L60]
    repeat' (first | with_reducible exact nl_none | ((with_reducible refine nl_some ?_); with_unfolding_all assumption) | with_reducible refine nl_bd ?_ | with_reducible refine nl_if ?_ ?_ | with_reducible exact h_k115 _ | with_reducible exact ih _ _ | ((with_reducible refine nl_bv ?_); intro _) | fail)
theorem nl_f8_beginIn_L34 {m : Nat → Nat → Nat → Int64} (r0 : Nat)  : ∀ (n : Nat) (x0 : Int32) (x1 : sx_M), x1.2 = m → nl Prod.snd (f8_beginIn_L34 r0 n x0 x1) m := by
  intro n
  induction n with
  | zero =>
    intros
    rw [f8_beginIn_L34]
    exact nl_none
  | succ n ih =>
    intro x0 x1 h_x1
    rw [f8_beginIn_L34]
    repeat' (first | with_reducible exact nl_none | ((with_reducible refine nl_some ?_); with_unfolding_all assumption) | with_reducible refine nl_bd ?_ | with_reducible refine nl_if ?_ ?_ | with_reducible exact ih _ _ (by with_unfolding_all assumption) | ((with_reducible refine nl_f8_beginIn_L60 _ _ _ _ (by with_unfolding_all assumption) ?_ _ _ _); intros) | with_reducible exact nl_f8_redden _ _ _ (by with_unfolding_all assumption) | ((with_reducible refine nl_b0 (nl_f8_redden _ _ _ (by with_unfolding_all assumption)) ?_); intro _ _) | ((with_reducible refine nl_bv ?_); intro _) | fail)
theorem nl_f8_beginIn {m : Nat → Nat → Nat → Int64} (r0 : Nat) (M0 : sx_M) (h_M0 : M0.2 = m) : nl Prod.snd (f8_beginIn r0 M0) m := by
  rw [f8_beginIn]
  repeat' (first | with_reducible exact nl_none | ((with_reducible refine nl_some ?_); with_unfolding_all assumption) | with_reducible refine nl_bd ?_ | with_reducible refine nl_if ?_ ?_ | ((with_reducible refine nl_f8_beginIn_L11 _ _ ?_ _ _ _ (by with_unfolding_all assumption)); intros) | with_reducible exact nl_f8_beginIn_L34 _ _ _ _ (by with_unfolding_all assumption) | ((with_reducible refine nl_b2 (nl_f8_beginIn_L34 _ _ _ _ (by with_unfolding_all assumption)) ?_); intro _ _ _) | ((with_reducible refine nl_bv ?_); intro _) | fail)
theorem nl_f8_removeString {m : Nat → Nat → Nat → Int64} (r0 : Nat) (a1 : Int32) (M0 : sx_M) (h_M0 : M0.2 = m) : nl id (f8_removeString r0 a1 M0) m := by
  rw [f8_removeString]
  repeat' (first | with_reducible exact nl_none | ((with_reducible refine nl_some ?_); with_unfolding_all assumption) | with_reducible refine nl_bd ?_ | with_reducible refine nl_if ?_ ?_ | with_reducible exact nl_f8_copy _ _ _ _ _ _ (by with_unfolding_all assumption) | ((with_reducible refine nl_b0 (nl_f8_copy _ _ _ _ _ _ (by with_unfolding_all assumption)) ?_); intro _ _) | ((with_reducible refine nl_bv ?_); intro _) | fail)
theorem nl_f8_sweepPart_L25 {m : Nat → Nat → Nat → Int64} (r0 : Nat) (w1 : Int32)  : ∀ (n : Nat) (x0 : Int32) (x1 : sx_M), x1.2 = m → nl id (f8_sweepPart_L25 r0 w1 n x0 x1) m := by
  intro n
  induction n with
  | zero =>
    intros
    rw [f8_sweepPart_L25]
    exact nl_none
  | succ n ih =>
    intro x0 x1 h_x1
    rw [f8_sweepPart_L25]
    repeat' (first | with_reducible exact nl_none | ((with_reducible refine nl_some ?_); with_unfolding_all assumption) | with_reducible refine nl_bd ?_ | with_reducible refine nl_if ?_ ?_ | with_reducible exact ih _ _ (by with_unfolding_all assumption) | with_reducible exact nl_f8_removeString _ _ _ (by with_unfolding_all assumption) | ((with_reducible refine nl_b0 (nl_f8_removeString _ _ _ (by with_unfolding_all assumption)) ?_); intro _ _) | ((with_reducible refine nl_bv ?_); intro _) | fail)
theorem nl_f8_sweepPart {m : Nat → Nat → Nat → Int64} (r0 : Nat) (a1 : Int32) (M0 : sx_M) (h_M0 : M0.2 = m) : nl id (f8_sweepPart r0 a1 M0) m := by
  rw [f8_sweepPart]
  repeat' (first | with_reducible exact nl_none | ((with_reducible refine nl_some ?_); with_unfolding_all assumption) | with_reducible refine nl_bd ?_ | with_reducible refine nl_if ?_ ?_ | with_reducible exact nl_f8_sweepPart_L25 _ _ _ _ _ (by with_unfolding_all assumption) | ((with_reducible refine nl_b0 (nl_f8_sweepPart_L25 _ _ _ _ _ (by with_unfolding_all assumption)) ?_); intro _ _) | ((with_reducible refine nl_bv ?_); intro _) | fail)
theorem nl_f8_endIn_L4 {m : Nat → Nat → Nat → Int64} (r0 : Nat)  : ∀ (n : Nat) (x0 : Int32) (x1 : Int32) (x2 : sx_M), x2.2 = m → nl Prod.snd (f8_endIn_L4 r0 n x0 x1 x2) m := by
  intro n
  induction n with
  | zero =>
    intros
    rw [f8_endIn_L4]
    exact nl_none
  | succ n ih =>
    intro x0 x1 x2 h_x2
    rw [f8_endIn_L4]
    repeat' (first | with_reducible exact nl_none | ((with_reducible refine nl_some ?_); with_unfolding_all assumption) | with_reducible refine nl_bd ?_ | with_reducible refine nl_if ?_ ?_ | with_reducible exact ih _ _ _ (by with_unfolding_all assumption) | with_reducible exact nl_f8_sweepPart _ _ _ (by with_unfolding_all assumption) | ((with_reducible refine nl_b0 (nl_f8_sweepPart _ _ _ (by with_unfolding_all assumption)) ?_); intro _ _) | ((with_reducible refine nl_bv ?_); intro _) | fail)
theorem nl_f8_endIn {m : Nat → Nat → Nat → Int64} (r0 : Nat) (M0 : sx_M) (h_M0 : M0.2 = m) : nl Prod.snd (f8_endIn r0 M0) m := by
  rw [f8_endIn]
  repeat' (first | with_reducible exact nl_none | ((with_reducible refine nl_some ?_); with_unfolding_all assumption) | with_reducible refine nl_bd ?_ | with_reducible refine nl_if ?_ ?_ | with_reducible exact nl_f8_endIn_L4 _ _ _ _ _ (by with_unfolding_all assumption) | ((with_reducible refine nl_b2 (nl_f8_endIn_L4 _ _ _ _ _ (by with_unfolding_all assumption)) ?_); intro _ _ _) | ((with_reducible refine nl_bv ?_); intro _) | fail)
theorem nl_f8_stepIn_L54 {m : Nat → Nat → Nat → Int64} (r0 : Nat) (w1 : Int32)  : ∀ (n : Nat) (x0 : Int32) (x1 : sx_M), x1.2 = m → nl Prod.snd (f8_stepIn_L54 r0 w1 n x0 x1) m := by
  intro n
  induction n with
  | zero =>
    intros
    rw [f8_stepIn_L54]
    exact nl_none
  | succ n ih =>
    intro x0 x1 h_x1
    rw [f8_stepIn_L54]
    repeat' (first | with_reducible exact nl_none | ((with_reducible refine nl_some ?_); with_unfolding_all assumption) | with_reducible refine nl_bd ?_ | with_reducible refine nl_if ?_ ?_ | with_reducible exact ih _ _ (by with_unfolding_all assumption) | with_reducible exact nl_f8_redden _ _ _ (by with_unfolding_all assumption) | ((with_reducible refine nl_b0 (nl_f8_redden _ _ _ (by with_unfolding_all assumption)) ?_); intro _ _) | ((with_reducible refine nl_bv ?_); intro _) | fail)
theorem nl_f8_stepIn {m : Nat → Nat → Nat → Int64} (r0 : Nat) (M0 : sx_M) (h_M0 : M0.2 = m) : nl Prod.snd (f8_stepIn r0 M0) m := by
  rw [f8_stepIn]
  repeat' (first | with_reducible exact nl_none | ((with_reducible refine nl_some ?_); with_unfolding_all assumption) | with_reducible refine nl_bd ?_ | with_reducible refine nl_if ?_ ?_ | with_reducible exact nl_f8_endIn _ _ (by with_unfolding_all assumption) | ((with_reducible refine nl_b2 (nl_f8_endIn _ _ (by with_unfolding_all assumption)) ?_); intro _ _ _) | with_reducible exact nl_f8_copy _ _ _ _ _ _ (by with_unfolding_all assumption) | ((with_reducible refine nl_b0 (nl_f8_copy _ _ _ _ _ _ (by with_unfolding_all assumption)) ?_); intro _ _) | with_reducible exact nl_f8_stepIn_L54 _ _ _ _ _ (by with_unfolding_all assumption) | ((with_reducible refine nl_b2 (nl_f8_stepIn_L54 _ _ _ _ _ (by with_unfolding_all assumption)) ?_); intro _ _ _) | ((with_reducible refine nl_bv ?_); intro _) | fail)
theorem nl_f8_makeIn {m : Nat → Nat → Nat → Int64} (r0 : Nat) (a1 : Int32) (M0 : sx_M) (h_M0 : M0.2 = m) : nl Prod.snd (f8_makeIn r0 a1 M0) m := by
  rw [f8_makeIn]
  repeat' (first | with_reducible exact nl_none | ((with_reducible refine nl_some ?_); with_unfolding_all assumption) | with_reducible refine nl_bd ?_ | with_reducible refine nl_if ?_ ?_ | ((with_reducible refine nl_bv ?_); intro _) | fail)
theorem nl_f8_tieIn {m : Nat → Nat → Nat → Int64} (r0 : Nat) (a1 : Int32) (a2 : Int32) (a3 : Int32) (M0 : sx_M) (h_M0 : M0.2 = m) : nl id (f8_tieIn r0 a1 a2 a3 M0) m := by
  rw [f8_tieIn]
  repeat' (first | with_reducible exact nl_none | ((with_reducible refine nl_some ?_); with_unfolding_all assumption) | with_reducible refine nl_bd ?_ | with_reducible refine nl_if ?_ ?_ | with_reducible exact nl_f8_redden _ _ _ (by with_unfolding_all assumption) | ((with_reducible refine nl_b0 (nl_f8_redden _ _ _ (by with_unfolding_all assumption)) ?_); intro _ _) | ((with_reducible refine nl_bv ?_); intro _) | fail)
theorem nl_f8_mendIn {m : Nat → Nat → Nat → Int64} (r0 : Nat) (a1 : Int32) (M0 : sx_M) (h_M0 : M0.2 = m) : nl id (f8_mendIn r0 a1 M0) m := by
  rw [f8_mendIn]
  repeat' (first | with_reducible exact nl_none | ((with_reducible refine nl_some ?_); with_unfolding_all assumption) | with_reducible refine nl_bd ?_ | with_reducible refine nl_if ?_ ?_ | with_reducible exact nl_f8_redden _ _ _ (by with_unfolding_all assumption) | ((with_reducible refine nl_b0 (nl_f8_redden _ _ _ (by with_unfolding_all assumption)) ?_); intro _ _) | ((with_reducible refine nl_bv ?_); intro _) | fail)
theorem nl_f8_pinIn {m : Nat → Nat → Nat → Int64} (r0 : Nat) (a1 : Int32) (a2 : Int32) (M0 : sx_M) (h_M0 : M0.2 = m) : nl id (f8_pinIn r0 a1 a2 M0) m := by
  rw [f8_pinIn]
  repeat' (first | with_reducible exact nl_none | ((with_reducible refine nl_some ?_); with_unfolding_all assumption) | with_reducible refine nl_bd ?_ | with_reducible refine nl_if ?_ ?_ | with_reducible exact nl_f8_redden _ _ _ (by with_unfolding_all assumption) | ((with_reducible refine nl_b0 (nl_f8_redden _ _ _ (by with_unfolding_all assumption)) ?_); intro _ _) | ((with_reducible refine nl_bv ?_); intro _) | fail)
theorem nl_f8_append {m : Nat → Nat → Nat → Int64} (a1 : Int32) (M0 : sx_M) (h_M0 : M0.2 = m) : nl Prod.snd (f8_append a1 M0) m := by
  rw [f8_append]
  repeat' (first | with_reducible exact nl_none | ((with_reducible refine nl_some ?_); with_unfolding_all assumption) | with_reducible refine nl_bd ?_ | with_reducible refine nl_if ?_ ?_ | with_reducible exact nl_f8_refused _ _ (by with_unfolding_all assumption) | ((with_reducible refine nl_b2 (nl_f8_refused _ _ (by with_unfolding_all assumption)) ?_); intro _ _ _) | ((with_reducible refine nl_bv ?_); intro _) | fail)
theorem nl_f8_clearText {m : Nat → Nat → Nat → Int64} (M0 : sx_M) (h_M0 : M0.2 = m) : nl Prod.snd (f8_clearText M0) m := by
  rw [f8_clearText]
  repeat' (first | with_reducible exact nl_none | ((with_reducible refine nl_some ?_); with_unfolding_all assumption) | with_reducible refine nl_bd ?_ | with_reducible refine nl_if ?_ ?_ | ((with_reducible refine nl_bv ?_); intro _) | fail)
theorem nl_f8_accept {m : Nat → Nat → Nat → Int64} (a1 : Int32) (M0 : sx_M) (h_M0 : M0.2 = m) : nl id (f8_accept a1 M0) m := by
  rw [f8_accept]
  repeat' (first | with_reducible exact nl_none | ((with_reducible refine nl_some ?_); with_unfolding_all assumption) | with_reducible refine nl_bd ?_ | with_reducible refine nl_if ?_ ?_ | ((with_reducible refine nl_bv ?_); intro _) | fail)
theorem nl_f8_digit {m : Nat → Nat → Nat → Int64} (a1 : Int32) (a2 : Int32) (M0 : sx_M) (h_M0 : M0.2 = m) : nl Prod.snd (f8_digit a1 a2 M0) m := by
  rw [f8_digit]
  repeat' (first | with_reducible exact nl_none | ((with_reducible refine nl_some ?_); with_unfolding_all assumption) | with_reducible refine nl_bd ?_ | with_reducible refine nl_if ?_ ?_ | with_reducible exact nl_f8_accept _ _ (by with_unfolding_all assumption) | ((with_reducible refine nl_b0 (nl_f8_accept _ _ (by with_unfolding_all assumption)) ?_); intro _ _) | ((with_reducible refine nl_bv ?_); intro _) | fail)
theorem nl_f8_partRead {m : Nat → Nat → Nat → Int64} (M0 : sx_M) (h_M0 : M0.2 = m) : nl Prod.snd (f8_partRead M0) m := by
  rw [f8_partRead]
  repeat' (first | with_reducible exact nl_none | ((with_reducible refine nl_some ?_); with_unfolding_all assumption) | with_reducible refine nl_bd ?_ | with_reducible refine nl_if ?_ ?_ | with_reducible exact nl_f8_digit _ _ _ (by with_unfolding_all assumption) | ((with_reducible refine nl_b2 (nl_f8_digit _ _ _ (by with_unfolding_all assumption)) ?_); intro _ _ _) | ((with_reducible refine nl_bv ?_); intro _) | fail)
theorem nl_f8_thingRead {m : Nat → Nat → Nat → Int64} (M0 : sx_M) (h_M0 : M0.2 = m) : nl Prod.snd (f8_thingRead M0) m := by
  rw [f8_thingRead]
  repeat' (first | with_reducible exact nl_none | ((with_reducible refine nl_some ?_); with_unfolding_all assumption) | with_reducible refine nl_bd ?_ | with_reducible refine nl_if ?_ ?_ | with_reducible exact nl_f8_partRead _ (by with_unfolding_all assumption) | ((with_reducible refine nl_b2 (nl_f8_partRead _ (by with_unfolding_all assumption)) ?_); intro _ _ _) | with_reducible exact nl_f8_accept _ _ (by with_unfolding_all assumption) | ((with_reducible refine nl_b0 (nl_f8_accept _ _ (by with_unfolding_all assumption)) ?_); intro _ _) | with_reducible exact nl_f8_digit _ _ _ (by with_unfolding_all assumption) | ((with_reducible refine nl_b2 (nl_f8_digit _ _ _ (by with_unfolding_all assumption)) ?_); intro _ _ _) | ((with_reducible refine nl_bv ?_); intro _) | fail)
theorem nl_f8_count {m : Nat → Nat → Nat → Int64} (a1 : Int32) (M0 : sx_M) (h_M0 : M0.2 = m) : nl id (f8_count a1 M0) m := by
  rw [f8_count]
  repeat' (first | with_reducible exact nl_none | ((with_reducible refine nl_some ?_); with_unfolding_all assumption) | with_reducible refine nl_bd ?_ | with_reducible refine nl_if ?_ ?_ | ((with_reducible refine nl_bv ?_); intro _) | fail)
theorem nl_f8_readString {m : Nat → Nat → Nat → Int64} (a1 : Int32) (M0 : sx_M) (h_M0 : M0.2 = m) : nl id (f8_readString a1 M0) m := by
  rw [f8_readString]
  repeat' (first | with_reducible exact nl_none | ((with_reducible refine nl_some ?_); with_unfolding_all assumption) | with_reducible refine nl_bd ?_ | with_reducible refine nl_if ?_ ?_ | with_reducible exact nl_f8_accept _ _ (by with_unfolding_all assumption) | ((with_reducible refine nl_b0 (nl_f8_accept _ _ (by with_unfolding_all assumption)) ?_); intro _ _) | with_reducible exact nl_f8_thingRead _ (by with_unfolding_all assumption) | ((with_reducible refine nl_b2 (nl_f8_thingRead _ (by with_unfolding_all assumption)) ?_); intro _ _ _) | with_reducible exact nl_f8_partRead _ (by with_unfolding_all assumption) | ((with_reducible refine nl_b2 (nl_f8_partRead _ (by with_unfolding_all assumption)) ?_); intro _ _ _) | with_reducible exact nl_f8_count _ _ (by with_unfolding_all assumption) | ((with_reducible refine nl_b0 (nl_f8_count _ _ (by with_unfolding_all assumption)) ?_); intro _ _) | with_reducible exact nl_f8_tieIn _ _ _ _ _ (by with_unfolding_all assumption) | ((with_reducible refine nl_b0 (nl_f8_tieIn _ _ _ _ _ (by with_unfolding_all assumption)) ?_); intro _ _) | with_reducible exact nl_f8_removeString _ _ _ (by with_unfolding_all assumption) | ((with_reducible refine nl_b0 (nl_f8_removeString _ _ _ (by with_unfolding_all assumption)) ?_); intro _ _) | with_reducible exact nl_f8_mendIn _ _ _ (by with_unfolding_all assumption) | ((with_reducible refine nl_b0 (nl_f8_mendIn _ _ _ (by with_unfolding_all assumption)) ?_); intro _ _) | ((with_reducible refine nl_bv ?_); intro _) | fail)
theorem nl_f8_readMake {m : Nat → Nat → Nat → Int64} (M0 : sx_M) (h_M0 : M0.2 = m) : nl id (f8_readMake M0) m := by
  rw [f8_readMake]
  repeat' (first | with_reducible exact nl_none | ((with_reducible refine nl_some ?_); with_unfolding_all assumption) | with_reducible refine nl_bd ?_ | with_reducible refine nl_if ?_ ?_ | with_reducible exact nl_f8_accept _ _ (by with_unfolding_all assumption) | ((with_reducible refine nl_b0 (nl_f8_accept _ _ (by with_unfolding_all assumption)) ?_); intro _ _) | with_reducible exact nl_f8_digit _ _ _ (by with_unfolding_all assumption) | ((with_reducible refine nl_b2 (nl_f8_digit _ _ _ (by with_unfolding_all assumption)) ?_); intro _ _ _) | with_reducible exact nl_f8_count _ _ (by with_unfolding_all assumption) | ((with_reducible refine nl_b0 (nl_f8_count _ _ (by with_unfolding_all assumption)) ?_); intro _ _) | with_reducible exact nl_f8_makeIn _ _ _ (by with_unfolding_all assumption) | ((with_reducible refine nl_b2 (nl_f8_makeIn _ _ _ (by with_unfolding_all assumption)) ?_); intro _ _ _) | ((with_reducible refine nl_bv ?_); intro _) | fail)
theorem nl_f8_readPin {m : Nat → Nat → Nat → Int64} (M0 : sx_M) (h_M0 : M0.2 = m) : nl id (f8_readPin M0) m := by
  rw [f8_readPin]
  repeat' (first | with_reducible exact nl_none | ((with_reducible refine nl_some ?_); with_unfolding_all assumption) | with_reducible refine nl_bd ?_ | with_reducible refine nl_if ?_ ?_ | with_reducible exact nl_f8_accept _ _ (by with_unfolding_all assumption) | ((with_reducible refine nl_b0 (nl_f8_accept _ _ (by with_unfolding_all assumption)) ?_); intro _ _) | with_reducible exact nl_f8_partRead _ (by with_unfolding_all assumption) | ((with_reducible refine nl_b2 (nl_f8_partRead _ (by with_unfolding_all assumption)) ?_); intro _ _ _) | with_reducible exact nl_f8_count _ _ (by with_unfolding_all assumption) | ((with_reducible refine nl_b0 (nl_f8_count _ _ (by with_unfolding_all assumption)) ?_); intro _ _) | with_reducible exact nl_f8_pinIn _ _ _ _ (by with_unfolding_all assumption) | ((with_reducible refine nl_b0 (nl_f8_pinIn _ _ _ _ (by with_unfolding_all assumption)) ?_); intro _ _) | ((with_reducible refine nl_bv ?_); intro _) | fail)
theorem nl_f8_readSweep {m : Nat → Nat → Nat → Int64} (a1 : Int32) (M0 : sx_M) (h_M0 : M0.2 = m) : nl id (f8_readSweep a1 M0) m := by
  rw [f8_readSweep]
  repeat' (first | with_reducible exact nl_none | ((with_reducible refine nl_some ?_); with_unfolding_all assumption) | with_reducible refine nl_bd ?_ | with_reducible refine nl_if ?_ ?_ | with_reducible exact nl_f8_accept _ _ (by with_unfolding_all assumption) | ((with_reducible refine nl_b0 (nl_f8_accept _ _ (by with_unfolding_all assumption)) ?_); intro _ _) | with_reducible exact nl_f8_count _ _ (by with_unfolding_all assumption) | ((with_reducible refine nl_b0 (nl_f8_count _ _ (by with_unfolding_all assumption)) ?_); intro _ _) | with_reducible exact nl_f8_stepIn _ _ (by with_unfolding_all assumption) | ((with_reducible refine nl_b2 (nl_f8_stepIn _ _ (by with_unfolding_all assumption)) ?_); intro _ _ _) | with_reducible exact nl_f8_beginIn _ _ (by with_unfolding_all assumption) | ((with_reducible refine nl_b2 (nl_f8_beginIn _ _ (by with_unfolding_all assumption)) ?_); intro _ _ _) | ((with_reducible refine nl_bv ?_); intro _) | fail)
theorem nl_f8_readCommand {m : Nat → Nat → Nat → Int64} (M0 : sx_M) (h_M0 : M0.2 = m) : nl id (f8_readCommand M0) m := by
  rw [f8_readCommand]
  repeat' (first | with_reducible exact nl_none | ((with_reducible refine nl_some ?_); with_unfolding_all assumption) | with_reducible refine nl_bd ?_ | with_reducible refine nl_if ?_ ?_ | with_reducible exact nl_f8_readString _ _ (by with_unfolding_all assumption) | ((with_reducible refine nl_b0 (nl_f8_readString _ _ (by with_unfolding_all assumption)) ?_); intro _ _) | with_reducible exact nl_f8_readSweep _ _ (by with_unfolding_all assumption) | ((with_reducible refine nl_b0 (nl_f8_readSweep _ _ (by with_unfolding_all assumption)) ?_); intro _ _) | with_reducible exact nl_f8_accept _ _ (by with_unfolding_all assumption) | ((with_reducible refine nl_b0 (nl_f8_accept _ _ (by with_unfolding_all assumption)) ?_); intro _ _) | with_reducible exact nl_f8_readPin _ (by with_unfolding_all assumption) | ((with_reducible refine nl_b0 (nl_f8_readPin _ (by with_unfolding_all assumption)) ?_); intro _ _) | with_reducible exact nl_f8_readMake _ (by with_unfolding_all assumption) | ((with_reducible refine nl_b0 (nl_f8_readMake _ (by with_unfolding_all assumption)) ?_); intro _ _) | ((with_reducible refine nl_bv ?_); intro _) | fail)
theorem nl_f8_readText_L17 {m : Nat → Nat → Nat → Int64} (k37 : (sx_M → Option (Int32 × sx_M))) (h_k37 : ∀ (y0 : sx_M), y0.2 = m → nl Prod.snd (k37 y0) m) : ∀ (n : Nat) (x0 : Int32) (x1 : sx_M), x1.2 = m → nl Prod.snd (f8_readText_L17 k37 n x0 x1) m := by
  intro n
  induction n with
  | zero =>
    intros
    rw [f8_readText_L17]
    exact nl_none
  | succ n ih =>
    intro x0 x1 h_x1
    rw [f8_readText_L17]
    repeat' (first | with_reducible exact nl_none | ((with_reducible refine nl_some ?_); with_unfolding_all assumption) | with_reducible refine nl_bd ?_ | with_reducible refine nl_if ?_ ?_ | with_reducible exact h_k37 _ (by with_unfolding_all assumption) | with_reducible exact ih _ _ (by with_unfolding_all assumption) | ((with_reducible refine nl_bv ?_); intro _) | fail)
theorem nl_f8_readText_L47 {m : Nat → Nat → Nat → Int64} (k72 : (sx_M → Option (Int32 × sx_M))) (h_k72 : ∀ (y0 : sx_M), y0.2 = m → nl Prod.snd (k72 y0) m) : ∀ (n : Nat) (x0 : sx_M), x0.2 = m → nl Prod.snd (f8_readText_L47 k72 n x0) m := by
  intro n
  induction n with
  | zero =>
    intros
    rw [f8_readText_L47]
    exact nl_none
  | succ n ih =>
    intro x0 h_x0
    rw [f8_readText_L47]
    repeat' (first | with_reducible exact nl_none | ((with_reducible refine nl_some ?_); with_unfolding_all assumption) | with_reducible refine nl_bd ?_ | with_reducible refine nl_if ?_ ?_ | with_reducible exact h_k72 _ (by with_unfolding_all assumption) | with_reducible exact ih _ (by with_unfolding_all assumption) | with_reducible exact nl_f8_readCommand _ (by with_unfolding_all assumption) | ((with_reducible refine nl_b0 (nl_f8_readCommand _ (by with_unfolding_all assumption)) ?_); intro _ _) | ((with_reducible refine nl_bv ?_); intro _) | fail)
theorem nl_f8_readText {m : Nat → Nat → Nat → Int64} (M0 : sx_M) (h_M0 : M0.2 = m) : nl Prod.snd (f8_readText M0) m := by
  rw [f8_readText]
  repeat' (first | with_reducible exact nl_none | ((with_reducible refine nl_some ?_); with_unfolding_all assumption) | with_reducible refine nl_bd ?_ | with_reducible refine nl_if ?_ ?_ | ((with_reducible refine nl_f8_readText_L17 _ ?_ _ _ _ (by with_unfolding_all assumption)); intros) | with_reducible exact nl_f8_accept _ _ (by with_unfolding_all assumption) | ((with_reducible refine nl_b0 (nl_f8_accept _ _ (by with_unfolding_all assumption)) ?_); intro _ _) | ((with_reducible refine nl_f8_readText_L47 _ ?_ _ _ (by with_unfolding_all assumption)); intros) | ((with_reducible refine nl_bv ?_); intro _) | fail)
theorem nl_f8_errorPosition {m : Nat → Nat → Nat → Int64} (M0 : sx_M) (h_M0 : M0.2 = m) : nl Prod.snd (f8_errorPosition M0) m := by
  rw [f8_errorPosition]
  repeat' (first | with_reducible exact nl_none | ((with_reducible refine nl_some ?_); with_unfolding_all assumption) | with_reducible refine nl_bd ?_ | with_reducible refine nl_if ?_ ?_ | with_reducible exact nl_f8_readText _ (by with_unfolding_all assumption) | ((with_reducible refine nl_b2 (nl_f8_readText _ (by with_unfolding_all assumption)) ?_); intro _ _ _) | ((with_reducible refine nl_bv ?_); intro _) | fail)
theorem nl_f8_load {m : Nat → Nat → Nat → Int64} (M0 : sx_M) (h_M0 : M0.2 = m) : nl Prod.snd (f8_load M0) m := by
  rw [f8_load]
  repeat' (first | with_reducible exact nl_none | ((with_reducible refine nl_some ?_); with_unfolding_all assumption) | with_reducible refine nl_bd ?_ | with_reducible refine nl_if ?_ ?_ | with_reducible exact nl_f8_readText _ (by with_unfolding_all assumption) | ((with_reducible refine nl_b2 (nl_f8_readText _ (by with_unfolding_all assumption)) ?_); intro _ _ _) | with_reducible exact nl_f8_refused _ _ (by with_unfolding_all assumption) | ((with_reducible refine nl_b2 (nl_f8_refused _ _ (by with_unfolding_all assumption)) ?_); intro _ _ _) | with_reducible exact nl_f8_copy _ _ _ _ _ _ (by with_unfolding_all assumption) | ((with_reducible refine nl_b0 (nl_f8_copy _ _ _ _ _ _ (by with_unfolding_all assumption)) ?_); intro _ _) | ((with_reducible refine nl_bv ?_); intro _) | fail)
theorem nl_f8_deepest_L13 {m : Nat → Nat → Nat → Int64} (M : sx_M) (h_M : M.2 = m) : ∀ (n : Nat) (x0 : Int32) (x1 : Int32), nl Prod.snd (f8_deepest_L13 M n x0 x1) m := by
  intro n
  induction n with
  | zero =>
    intros
    rw [f8_deepest_L13]
    exact nl_none
  | succ n ih =>
    intro x0 x1 
    rw [f8_deepest_L13]
    repeat' (first | with_reducible exact nl_none | ((with_reducible refine nl_some ?_); with_unfolding_all assumption) | with_reducible refine nl_bd ?_ | with_reducible refine nl_if ?_ ?_ | with_reducible exact ih _ _ | ((with_reducible refine nl_bv ?_); intro _) | fail)
theorem nl_f8_deepest {m : Nat → Nat → Nat → Int64} (M0 : sx_M) (h_M0 : M0.2 = m) : nl Prod.snd (f8_deepest M0) m := by
  rw [f8_deepest]
  repeat' (first | with_reducible exact nl_none | ((with_reducible refine nl_some ?_); with_unfolding_all assumption) | with_reducible refine nl_bd ?_ | with_reducible refine nl_if ?_ ?_ | with_reducible exact nl_f8_lay _ _ (by with_unfolding_all assumption) | ((with_reducible refine nl_b0 (nl_f8_lay _ _ (by with_unfolding_all assumption)) ?_); intro _ _) | with_reducible exact nl_f8_deepest_L13 _ (by with_unfolding_all assumption) _ _ _ | ((with_reducible refine nl_b2 (nl_f8_deepest_L13 _ (by with_unfolding_all assumption) _ _ _) ?_); intro _ _ _) | ((with_reducible refine nl_bv ?_); intro _) | fail)
theorem nl_f8_about {m : Nat → Nat → Nat → Int64} (a1 : Int32) (M0 : sx_M) (h_M0 : M0.2 = m) : nl Prod.snd (f8_about a1 M0) m := by
  rw [f8_about]
  repeat' (first | with_reducible exact nl_none | ((with_reducible refine nl_some ?_); with_unfolding_all assumption) | with_reducible refine nl_bd ?_ | with_reducible refine nl_if ?_ ?_ | with_reducible exact nl_f8_refused _ _ (by with_unfolding_all assumption) | ((with_reducible refine nl_b2 (nl_f8_refused _ _ (by with_unfolding_all assumption)) ?_); intro _ _ _) | with_reducible exact nl_f8_heldMany _ _ (by with_unfolding_all assumption) | ((with_reducible refine nl_b2 (nl_f8_heldMany _ _ (by with_unfolding_all assumption)) ?_); intro _ _ _) | with_reducible exact nl_f8_heldWeight _ _ (by with_unfolding_all assumption) | ((with_reducible refine nl_b2 (nl_f8_heldWeight _ _ (by with_unfolding_all assumption)) ?_); intro _ _ _) | with_reducible exact nl_f8_deepest _ (by with_unfolding_all assumption) | ((with_reducible refine nl_b2 (nl_f8_deepest _ (by with_unfolding_all assumption)) ?_); intro _ _ _) | ((with_reducible refine nl_bv ?_); intro _) | fail)
theorem nl_f8_part {m : Nat → Nat → Nat → Int64} (a1 : Int32) (a2 : Int32) (M0 : sx_M) (h_M0 : M0.2 = m) : nl Prod.snd (f8_part a1 a2 M0) m := by
  rw [f8_part]
  repeat' (first | with_reducible exact nl_none | ((with_reducible refine nl_some ?_); with_unfolding_all assumption) | with_reducible refine nl_bd ?_ | with_reducible refine nl_if ?_ ?_ | with_reducible exact nl_f8_refused _ _ (by with_unfolding_all assumption) | ((with_reducible refine nl_b2 (nl_f8_refused _ _ (by with_unfolding_all assumption)) ?_); intro _ _ _) | with_reducible exact nl_f8_lay _ _ (by with_unfolding_all assumption) | ((with_reducible refine nl_b0 (nl_f8_lay _ _ (by with_unfolding_all assumption)) ?_); intro _ _) | ((with_reducible refine nl_bv ?_); intro _) | fail)
theorem nl_f8_string {m : Nat → Nat → Nat → Int64} (a1 : Int32) (a2 : Int32) (M0 : sx_M) (h_M0 : M0.2 = m) : nl Prod.snd (f8_string a1 a2 M0) m := by
  rw [f8_string]
  repeat' (first | with_reducible exact nl_none | ((with_reducible refine nl_some ?_); with_unfolding_all assumption) | with_reducible refine nl_bd ?_ | with_reducible refine nl_if ?_ ?_ | with_reducible exact nl_f8_refused _ _ (by with_unfolding_all assumption) | ((with_reducible refine nl_b2 (nl_f8_refused _ _ (by with_unfolding_all assumption)) ?_); intro _ _ _) | ((with_reducible refine nl_bv ?_); intro _) | fail)
theorem nl_f8_stringAt {m : Nat → Nat → Nat → Int64} (a1 : Int32) (M0 : sx_M) (h_M0 : M0.2 = m) : nl Prod.snd (f8_stringAt a1 M0) m := by
  rw [f8_stringAt]
  repeat' (first | with_reducible exact nl_none | ((with_reducible refine nl_some ?_); with_unfolding_all assumption) | with_reducible refine nl_bd ?_ | with_reducible refine nl_if ?_ ?_ | with_reducible exact nl_f8_refused _ _ (by with_unfolding_all assumption) | ((with_reducible refine nl_b2 (nl_f8_refused _ _ (by with_unfolding_all assumption)) ?_); intro _ _ _) | ((with_reducible refine nl_bv ?_); intro _) | fail)
theorem nl_f8_make {m : Nat → Nat → Nat → Int64} (a1 : Int32) (M0 : sx_M) (h_M0 : M0.2 = m) : nl Prod.snd (f8_make a1 M0) m := by
  rw [f8_make]
  repeat' (first | with_reducible exact nl_none | ((with_reducible refine nl_some ?_); with_unfolding_all assumption) | with_reducible refine nl_bd ?_ | with_reducible refine nl_if ?_ ?_ | with_reducible exact nl_f8_refused _ _ (by with_unfolding_all assumption) | ((with_reducible refine nl_b2 (nl_f8_refused _ _ (by with_unfolding_all assumption)) ?_); intro _ _ _) | with_reducible exact nl_f8_remember _ (by with_unfolding_all assumption) | ((with_reducible refine nl_b0 (nl_f8_remember _ (by with_unfolding_all assumption)) ?_); intro _ _) | with_reducible exact nl_f8_makeIn _ _ _ (by with_unfolding_all assumption) | ((with_reducible refine nl_b2 (nl_f8_makeIn _ _ _ (by with_unfolding_all assumption)) ?_); intro _ _ _) | ((with_reducible refine nl_bv ?_); intro _) | fail)
theorem nl_f8_tie {m : Nat → Nat → Nat → Int64} (a1 : Int32) (a2 : Int32) (a3 : Int32) (M0 : sx_M) (h_M0 : M0.2 = m) : nl Prod.snd (f8_tie a1 a2 a3 M0) m := by
  rw [f8_tie]
  repeat' (first | with_reducible exact nl_none | ((with_reducible refine nl_some ?_); with_unfolding_all assumption) | with_reducible refine nl_bd ?_ | with_reducible refine nl_if ?_ ?_ | with_reducible exact nl_f8_refused _ _ (by with_unfolding_all assumption) | ((with_reducible refine nl_b2 (nl_f8_refused _ _ (by with_unfolding_all assumption)) ?_); intro _ _ _) | with_reducible exact nl_f8_remember _ (by with_unfolding_all assumption) | ((with_reducible refine nl_b0 (nl_f8_remember _ (by with_unfolding_all assumption)) ?_); intro _ _) | with_reducible exact nl_f8_tieIn _ _ _ _ _ (by with_unfolding_all assumption) | ((with_reducible refine nl_b0 (nl_f8_tieIn _ _ _ _ _ (by with_unfolding_all assumption)) ?_); intro _ _) | ((with_reducible refine nl_bv ?_); intro _) | fail)
theorem nl_f8_cut {m : Nat → Nat → Nat → Int64} (a1 : Int32) (a2 : Int32) (M0 : sx_M) (h_M0 : M0.2 = m) : nl Prod.snd (f8_cut a1 a2 M0) m := by
  rw [f8_cut]
  repeat' (first | with_reducible exact nl_none | ((with_reducible refine nl_some ?_); with_unfolding_all assumption) | with_reducible refine nl_bd ?_ | with_reducible refine nl_if ?_ ?_ | with_reducible exact nl_f8_refused _ _ (by with_unfolding_all assumption) | ((with_reducible refine nl_b2 (nl_f8_refused _ _ (by with_unfolding_all assumption)) ?_); intro _ _ _) | with_reducible exact nl_f8_remember _ (by with_unfolding_all assumption) | ((with_reducible refine nl_b0 (nl_f8_remember _ (by with_unfolding_all assumption)) ?_); intro _ _) | with_reducible exact nl_f8_heldMany _ _ (by with_unfolding_all assumption) | ((with_reducible refine nl_b2 (nl_f8_heldMany _ _ (by with_unfolding_all assumption)) ?_); intro _ _ _) | with_reducible exact nl_f8_removeString _ _ _ (by with_unfolding_all assumption) | ((with_reducible refine nl_b0 (nl_f8_removeString _ _ _ (by with_unfolding_all assumption)) ?_); intro _ _) | ((with_reducible refine nl_bv ?_); intro _) | fail)
theorem nl_f8_fray {m : Nat → Nat → Nat → Int64} (a1 : Int32) (a2 : Int32) (M0 : sx_M) (h_M0 : M0.2 = m) : nl Prod.snd (f8_fray a1 a2 M0) m := by
  rw [f8_fray]
  repeat' (first | with_reducible exact nl_none | ((with_reducible refine nl_some ?_); with_unfolding_all assumption) | with_reducible refine nl_bd ?_ | with_reducible refine nl_if ?_ ?_ | with_reducible exact nl_f8_refused _ _ (by with_unfolding_all assumption) | ((with_reducible refine nl_b2 (nl_f8_refused _ _ (by with_unfolding_all assumption)) ?_); intro _ _ _) | with_reducible exact nl_f8_remember _ (by with_unfolding_all assumption) | ((with_reducible refine nl_b0 (nl_f8_remember _ (by with_unfolding_all assumption)) ?_); intro _ _) | with_reducible exact nl_f8_heldMany _ _ (by with_unfolding_all assumption) | ((with_reducible refine nl_b2 (nl_f8_heldMany _ _ (by with_unfolding_all assumption)) ?_); intro _ _ _) | ((with_reducible refine nl_bv ?_); intro _) | fail)
theorem nl_f8_mend {m : Nat → Nat → Nat → Int64} (a1 : Int32) (a2 : Int32) (M0 : sx_M) (h_M0 : M0.2 = m) : nl Prod.snd (f8_mend a1 a2 M0) m := by
  rw [f8_mend]
  repeat' (first | with_reducible exact nl_none | ((with_reducible refine nl_some ?_); with_unfolding_all assumption) | with_reducible refine nl_bd ?_ | with_reducible refine nl_if ?_ ?_ | with_reducible exact nl_f8_refused _ _ (by with_unfolding_all assumption) | ((with_reducible refine nl_b2 (nl_f8_refused _ _ (by with_unfolding_all assumption)) ?_); intro _ _ _) | with_reducible exact nl_f8_remember _ (by with_unfolding_all assumption) | ((with_reducible refine nl_b0 (nl_f8_remember _ (by with_unfolding_all assumption)) ?_); intro _ _) | with_reducible exact nl_f8_heldMany _ _ (by with_unfolding_all assumption) | ((with_reducible refine nl_b2 (nl_f8_heldMany _ _ (by with_unfolding_all assumption)) ?_); intro _ _ _) | with_reducible exact nl_f8_mendIn _ _ _ (by with_unfolding_all assumption) | ((with_reducible refine nl_b0 (nl_f8_mendIn _ _ _ (by with_unfolding_all assumption)) ?_); intro _ _) | ((with_reducible refine nl_bv ?_); intro _) | fail)
theorem nl_f8_pin {m : Nat → Nat → Nat → Int64} (a1 : Int32) (a2 : Int32) (M0 : sx_M) (h_M0 : M0.2 = m) : nl Prod.snd (f8_pin a1 a2 M0) m := by
  rw [f8_pin]
  repeat' (first | with_reducible exact nl_none | ((with_reducible refine nl_some ?_); with_unfolding_all assumption) | with_reducible refine nl_bd ?_ | with_reducible refine nl_if ?_ ?_ | with_reducible exact nl_f8_refused _ _ (by with_unfolding_all assumption) | ((with_reducible refine nl_b2 (nl_f8_refused _ _ (by with_unfolding_all assumption)) ?_); intro _ _ _) | with_reducible exact nl_f8_remember _ (by with_unfolding_all assumption) | ((with_reducible refine nl_b0 (nl_f8_remember _ (by with_unfolding_all assumption)) ?_); intro _ _) | with_reducible exact nl_f8_pinIn _ _ _ _ (by with_unfolding_all assumption) | ((with_reducible refine nl_b0 (nl_f8_pinIn _ _ _ _ (by with_unfolding_all assumption)) ?_); intro _ _) | with_reducible exact nl_f8_heldMany _ _ (by with_unfolding_all assumption) | ((with_reducible refine nl_b2 (nl_f8_heldMany _ _ (by with_unfolding_all assumption)) ?_); intro _ _ _) | ((with_reducible refine nl_bv ?_); intro _) | fail)
theorem nl_f8_begin {m : Nat → Nat → Nat → Int64} (M0 : sx_M) (h_M0 : M0.2 = m) : nl Prod.snd (f8_begin M0) m := by
  rw [f8_begin]
  repeat' (first | with_reducible exact nl_none | ((with_reducible refine nl_some ?_); with_unfolding_all assumption) | with_reducible refine nl_bd ?_ | with_reducible refine nl_if ?_ ?_ | with_reducible exact nl_f8_refused _ _ (by with_unfolding_all assumption) | ((with_reducible refine nl_b2 (nl_f8_refused _ _ (by with_unfolding_all assumption)) ?_); intro _ _ _) | with_reducible exact nl_f8_remember _ (by with_unfolding_all assumption) | ((with_reducible refine nl_b0 (nl_f8_remember _ (by with_unfolding_all assumption)) ?_); intro _ _) | with_reducible exact nl_f8_beginIn _ _ (by with_unfolding_all assumption) | ((with_reducible refine nl_b2 (nl_f8_beginIn _ _ (by with_unfolding_all assumption)) ?_); intro _ _ _) | ((with_reducible refine nl_bv ?_); intro _) | fail)
theorem nl_f8_step {m : Nat → Nat → Nat → Int64} (M0 : sx_M) (h_M0 : M0.2 = m) : nl Prod.snd (f8_step M0) m := by
  rw [f8_step]
  repeat' (first | with_reducible exact nl_none | ((with_reducible refine nl_some ?_); with_unfolding_all assumption) | with_reducible refine nl_bd ?_ | with_reducible refine nl_if ?_ ?_ | with_reducible exact nl_f8_refused _ _ (by with_unfolding_all assumption) | ((with_reducible refine nl_b2 (nl_f8_refused _ _ (by with_unfolding_all assumption)) ?_); intro _ _ _) | with_reducible exact nl_f8_remember _ (by with_unfolding_all assumption) | ((with_reducible refine nl_b0 (nl_f8_remember _ (by with_unfolding_all assumption)) ?_); intro _ _) | with_reducible exact nl_f8_stepIn _ _ (by with_unfolding_all assumption) | ((with_reducible refine nl_b2 (nl_f8_stepIn _ _ (by with_unfolding_all assumption)) ?_); intro _ _ _) | ((with_reducible refine nl_bv ?_); intro _) | fail)
theorem nl_f8_undo {m : Nat → Nat → Nat → Int64} (M0 : sx_M) (h_M0 : M0.2 = m) : nl Prod.snd (f8_undo M0) m := by
  rw [f8_undo]
  repeat' (first | with_reducible exact nl_none | ((with_reducible refine nl_some ?_); with_unfolding_all assumption) | with_reducible refine nl_bd ?_ | with_reducible refine nl_if ?_ ?_ | with_reducible exact nl_f8_refused _ _ (by with_unfolding_all assumption) | ((with_reducible refine nl_b2 (nl_f8_refused _ _ (by with_unfolding_all assumption)) ?_); intro _ _ _) | with_reducible exact nl_f8_copy _ _ _ _ _ _ (by with_unfolding_all assumption) | ((with_reducible refine nl_b0 (nl_f8_copy _ _ _ _ _ _ (by with_unfolding_all assumption)) ?_); intro _ _) | ((with_reducible refine nl_bv ?_); intro _) | fail)
theorem nl_f8_fallsBy {m : Nat → Nat → Nat → Int64} (a1 : Int32) (M0 : sx_M) (h_M0 : M0.2 = m) : nl Prod.snd (f8_fallsBy a1 M0) m := by
  rw [f8_fallsBy]
  repeat' (first | with_reducible exact nl_none | ((with_reducible refine nl_some ?_); with_unfolding_all assumption) | with_reducible refine nl_bd ?_ | with_reducible refine nl_if ?_ ?_ | with_reducible exact nl_f8_heldWeight _ _ (by with_unfolding_all assumption) | ((with_reducible refine nl_b2 (nl_f8_heldWeight _ _ (by with_unfolding_all assumption)) ?_); intro _ _ _) | with_reducible exact nl_f8_tryIt _ (by with_unfolding_all assumption) | ((with_reducible refine nl_b0 (nl_f8_tryIt _ (by with_unfolding_all assumption)) ?_); intro _ _) | with_reducible exact nl_f8_removeString _ _ _ (by with_unfolding_all assumption) | ((with_reducible refine nl_b0 (nl_f8_removeString _ _ _ (by with_unfolding_all assumption)) ?_); intro _ _) | ((with_reducible refine nl_bv ?_); intro _) | fail)
theorem nl_f8_falls {m : Nat → Nat → Nat → Int64} (a1 : Int32) (a2 : Int32) (M0 : sx_M) (h_M0 : M0.2 = m) : nl Prod.snd (f8_falls a1 a2 M0) m := by
  rw [f8_falls]
  repeat' (first | with_reducible exact nl_none | ((with_reducible refine nl_some ?_); with_unfolding_all assumption) | with_reducible refine nl_bd ?_ | with_reducible refine nl_if ?_ ?_ | with_reducible exact nl_f8_refused _ _ (by with_unfolding_all assumption) | ((with_reducible refine nl_b2 (nl_f8_refused _ _ (by with_unfolding_all assumption)) ?_); intro _ _ _) | with_reducible exact nl_f8_fallsBy _ _ (by with_unfolding_all assumption) | ((with_reducible refine nl_b2 (nl_f8_fallsBy _ _ (by with_unfolding_all assumption)) ?_); intro _ _ _) | ((with_reducible refine nl_bv ?_); intro _) | fail)
theorem nl_f8_widen_L4 {m : Nat → Nat → Nat → Int64} (w1 : Int32) (k75 : (Int32 → sx_M → Option (Int32 × sx_M))) (h_k75 : ∀ (y0 : Int32) (y1 : sx_M), y1.2 = m → nl Prod.snd (k75 y0 y1) m) : ∀ (n : Nat) (x0 : Int32) (x1 : Int32) (x2 : sx_M), x2.2 = m → nl Prod.snd (f8_widen_L4 w1 k75 n x0 x1 x2) m := by
  intro n
  induction n with
  | zero =>
    intros
    rw [f8_widen_L4]
    exact nl_none
  | succ n ih =>
    intro x0 x1 x2 h_x2
    rw [f8_widen_L4]
    repeat' (first | with_reducible exact nl_none | ((with_reducible refine nl_some ?_); with_unfolding_all assumption) | with_reducible refine nl_bd ?_ | with_reducible refine nl_if ?_ ?_ | with_reducible exact h_k75 _ _ (by with_unfolding_all assumption) | with_reducible exact ih _ _ _ (by with_unfolding_all assumption) | ((with_reducible refine nl_bv ?_); intro _) | fail)
theorem nl_f8_widen_L77 {m : Nat → Nat → Nat → Int64} (w1 : Int32) (k172 : (Int32 → sx_M → Option (Int32 × sx_M))) (h_k172 : ∀ (y0 : Int32) (y1 : sx_M), y1.2 = m → nl Prod.snd (k172 y0 y1) m) : ∀ (n : Nat) (x0 : Int32) (x1 : Int32) (x2 : sx_M), x2.2 = m → nl Prod.snd (f8_widen_L77 w1 k172 n x0 x1 x2) m := by
  intro n
  induction n with
  | zero =>
    intros
    rw [f8_widen_L77]
    exact nl_none
  | succ n ih =>
    intro x0 x1 x2 h_x2
    rw [f8_widen_L77]
    repeat' (first | with_reducible exact nl_none | ((with_reducible refine nl_some ?_); with_unfolding_all assumption) | with_reducible refine nl_bd ?_ | with_reducible refine nl_if ?_ ?_ | with_reducible exact h_k172 _ _ (by with_unfolding_all assumption) | with_reducible exact ih _ _ _ (by with_unfolding_all assumption) | ((with_reducible refine nl_bv ?_); intro _) | fail)
theorem nl_f8_widen_L201 {m : Nat → Nat → Nat → Int64} (w1 : Int32) (w3 : Int32) (w4 : Int32) (k380 : (Int32 → sx_M → Option (Int32 × sx_M))) (h_k380 : ∀ (y0 : Int32) (y1 : sx_M), y1.2 = m → nl Prod.snd (k380 y0 y1) m) : ∀ (n : Nat) (x0 : Int32) (x1 : Int32) (x2 : sx_M), x2.2 = m → nl Prod.snd (f8_widen_L201 w1 w3 w4 k380 n x0 x1 x2) m := by
  intro n
  induction n with
  | zero =>
    intros
    rw [f8_widen_L201]
    exact nl_none
  | succ n ih =>
    intro x0 x1 x2 h_x2
    rw [f8_widen_L201]
    repeat' (first | with_reducible exact nl_none | ((with_reducible refine nl_some ?_); with_unfolding_all assumption) | with_reducible refine nl_bd ?_ | with_reducible refine nl_if ?_ ?_ | with_reducible exact h_k380 _ _ (by with_unfolding_all assumption) | with_reducible exact ih _ _ _ (by with_unfolding_all assumption) | ((with_reducible refine nl_bv ?_); intro _) | fail)
theorem nl_f8_widen_L174 {m : Nat → Nat → Nat → Int64} (w1 : Int32) (k386 : (sx_M → Option (Int32 × sx_M))) (h_k386 : ∀ (y0 : sx_M), y0.2 = m → nl Prod.snd (k386 y0) m) : ∀ (n : Nat) (x0 : Int32) (x1 : Int32) (x2 : sx_M), x2.2 = m → nl Prod.snd (f8_widen_L174 w1 k386 n x0 x1 x2) m := by
  intro n
  induction n with
  | zero =>
    intros
    rw [f8_widen_L174]
    exact nl_none
  | succ n ih =>
    intro x0 x1 x2 h_x2
    rw [f8_widen_L174]
    repeat' (first | with_reducible exact nl_none | ((with_reducible refine nl_some ?_); with_unfolding_all assumption) | with_reducible refine nl_bd ?_ | with_reducible refine nl_if ?_ ?_ | with_reducible exact h_k386 _ (by with_unfolding_all assumption) | with_reducible exact ih _ _ _ (by with_unfolding_all assumption) | ((with_reducible refine nl_f8_widen_L201 _ _ _ _ ?_ _ _ _ _ (by with_unfolding_all assumption)); intros) | ((with_reducible refine nl_bv ?_); intro _) | fail)
theorem nl_f8_widen_L401 {m : Nat → Nat → Nat → Int64} (k486 : (sx_M → Option (Int32 × sx_M))) (h_k486 : ∀ (y0 : sx_M), y0.2 = m → nl Prod.snd (k486 y0) m) : ∀ (n : Nat) (x0 : Int32) (x1 : sx_M), x1.2 = m → nl Prod.snd (f8_widen_L401 k486 n x0 x1) m := by
  intro n
  induction n with
  | zero =>
    intros
    rw [f8_widen_L401]
    exact nl_none
  | succ n ih =>
    intro x0 x1 h_x1
    rw [f8_widen_L401]
    repeat' (first | with_reducible exact nl_none | ((with_reducible refine nl_some ?_); with_unfolding_all assumption) | with_reducible refine nl_bd ?_ | with_reducible refine nl_if ?_ ?_ | with_reducible exact h_k486 _ (by with_unfolding_all assumption) | with_reducible exact ih _ _ (by with_unfolding_all assumption) | ((with_reducible refine nl_bv ?_); intro _) | fail)
theorem nl_f8_widen {m : Nat → Nat → Nat → Int64} (a1 : Int32) (M0 : sx_M) (h_M0 : M0.2 = m) : nl Prod.snd (f8_widen a1 M0) m := by
  rw [f8_widen]
  repeat' (first | with_reducible exact nl_none | ((with_reducible refine nl_some ?_); with_unfolding_all assumption) | with_reducible refine nl_bd ?_ | with_reducible refine nl_if ?_ ?_ | ((with_reducible refine nl_f8_widen_L4 _ _ ?_ _ _ _ _ (by with_unfolding_all assumption)); intros) | ((with_reducible refine nl_f8_widen_L77 _ _ ?_ _ _ _ _ (by with_unfolding_all assumption)); intros) | ((with_reducible refine nl_f8_widen_L174 _ _ ?_ _ _ _ _ (by with_unfolding_all assumption)); intros) | ((with_reducible refine nl_f8_widen_L401 _ ?_ _ _ _ (by with_unfolding_all assumption)); intros) | ((with_reducible refine nl_bv ?_); intro _) | fail)
theorem nl_f8_cuts_L44 {m : Nat → Nat → Nat → Int64} (w1 : Int32) (k63 : (sx_M → Option (Int32 × sx_M))) (h_k63 : ∀ (y0 : sx_M), y0.2 = m → nl Prod.snd (k63 y0) m) : ∀ (n : Nat) (x0 : Int32) (x1 : sx_M), x1.2 = m → nl Prod.snd (f8_cuts_L44 w1 k63 n x0 x1) m := by
  intro n
  induction n with
  | zero =>
    intros
    rw [f8_cuts_L44]
    exact nl_none
  | succ n ih =>
    intro x0 x1 h_x1
    rw [f8_cuts_L44]
    repeat' (first | with_reducible exact nl_none | ((with_reducible refine nl_some ?_); with_unfolding_all assumption) | with_reducible refine nl_bd ?_ | with_reducible refine nl_if ?_ ?_ | with_reducible exact h_k63 _ (by with_unfolding_all assumption) | with_reducible exact ih _ _ (by with_unfolding_all assumption) | ((with_reducible refine nl_bv ?_); intro _) | fail)
theorem nl_f8_cuts_L65 {m : Nat → Nat → Nat → Int64} (w1 : Int32)  : ∀ (n : Nat) (x0 : Int32) (x1 : sx_M), x1.2 = m → nl Prod.snd (f8_cuts_L65 w1 n x0 x1) m := by
  intro n
  induction n with
  | zero =>
    intros
    rw [f8_cuts_L65]
    exact nl_none
  | succ n ih =>
    intro x0 x1 h_x1
    rw [f8_cuts_L65]
    repeat' (first | with_reducible exact nl_none | ((with_reducible refine nl_some ?_); with_unfolding_all assumption) | with_reducible refine nl_bd ?_ | with_reducible refine nl_if ?_ ?_ | with_reducible exact ih _ _ (by with_unfolding_all assumption) | with_reducible exact nl_f8_widen _ _ (by with_unfolding_all assumption) | ((with_reducible refine nl_b2 (nl_f8_widen _ _ (by with_unfolding_all assumption)) ?_); intro _ _ _) | ((with_reducible refine nl_bv ?_); intro _) | fail)
theorem nl_f8_cuts {m : Nat → Nat → Nat → Int64} (a1 : Int32) (M0 : sx_M) (h_M0 : M0.2 = m) : nl Prod.snd (f8_cuts a1 M0) m := by
  rw [f8_cuts]
  repeat' (first | with_reducible exact nl_none | ((with_reducible refine nl_some ?_); with_unfolding_all assumption) | with_reducible refine nl_bd ?_ | with_reducible refine nl_if ?_ ?_ | with_reducible exact nl_f8_refused _ _ (by with_unfolding_all assumption) | ((with_reducible refine nl_b2 (nl_f8_refused _ _ (by with_unfolding_all assumption)) ?_); intro _ _ _) | ((with_reducible refine nl_f8_cuts_L44 _ _ ?_ _ _ _ (by with_unfolding_all assumption)); intros) | with_reducible exact nl_f8_cuts_L65 _ _ _ _ (by with_unfolding_all assumption) | ((with_reducible refine nl_b2 (nl_f8_cuts_L65 _ _ _ _ (by with_unfolding_all assumption)) ?_); intro _ _ _) | ((with_reducible refine nl_bv ?_); intro _) | fail)
theorem nl_f8_heaviest_L12 {m : Nat → Nat → Nat → Int64}   : ∀ (n : Nat) (x0 : Int32) (x1 : Int32) (x2 : Int32) (x3 : sx_M), x3.2 = m → nl Prod.snd (f8_heaviest_L12  n x0 x1 x2 x3) m := by
  intro n
  induction n with
  | zero =>
    intros
    rw [f8_heaviest_L12]
    exact nl_none
  | succ n ih =>
    intro x0 x1 x2 x3 h_x3
    rw [f8_heaviest_L12]
    repeat' (first | with_reducible exact nl_none | ((with_reducible refine nl_some ?_); with_unfolding_all assumption) | with_reducible refine nl_bd ?_ | with_reducible refine nl_if ?_ ?_ | with_reducible exact ih _ _ _ _ (by with_unfolding_all assumption) | with_reducible exact nl_f8_fallsBy _ _ (by with_unfolding_all assumption) | ((with_reducible refine nl_b2 (nl_f8_fallsBy _ _ (by with_unfolding_all assumption)) ?_); intro _ _ _) | ((with_reducible refine nl_bv ?_); intro _) | fail)
theorem nl_f8_heaviest {m : Nat → Nat → Nat → Int64} (M0 : sx_M) (h_M0 : M0.2 = m) : nl Prod.snd (f8_heaviest M0) m := by
  rw [f8_heaviest]
  repeat' (first | with_reducible exact nl_none | ((with_reducible refine nl_some ?_); with_unfolding_all assumption) | with_reducible refine nl_bd ?_ | with_reducible refine nl_if ?_ ?_ | with_reducible exact nl_f8_heaviest_L12  _ _ _ _ _ (by with_unfolding_all assumption) | ((with_reducible refine nl_b2 (nl_f8_heaviest_L12  _ _ _ _ _ (by with_unfolding_all assumption)) ?_); intro _ _ _) | ((with_reducible refine nl_bv ?_); intro _) | fail)
theorem nl_f8_isOnRing_L7 {m : Nat → Nat → Nat → Int64} (w1 : Int32) (w2 : Int32) (w3 : Int32) (k29 : (sx_M → Option (Int32 × sx_M))) (h_k29 : ∀ (y0 : sx_M), y0.2 = m → nl Prod.snd (k29 y0) m) : ∀ (n : Nat) (x0 : Int32) (x1 : sx_M), x1.2 = m → nl Prod.snd (f8_isOnRing_L7 w1 w2 w3 k29 n x0 x1) m := by
  intro n
  induction n with
  | zero =>
    intros
    rw [f8_isOnRing_L7]
    exact nl_none
  | succ n ih =>
    intro x0 x1 h_x1
    rw [f8_isOnRing_L7]
    repeat' (first | with_reducible exact nl_none | ((with_reducible refine nl_some ?_); with_unfolding_all assumption) | with_reducible refine nl_bd ?_ | with_reducible refine nl_if ?_ ?_ | with_reducible exact h_k29 _ (by with_unfolding_all assumption) | with_reducible exact ih _ _ (by with_unfolding_all assumption) | ((with_reducible refine nl_bv ?_); intro _) | fail)
theorem nl_f8_isOnRing_L48 {m : Nat → Nat → Nat → Int64} (w1 : Int32) (w4 : Int32) (k184 : (Int32 → Int32 → sx_M → Option (Int32 × sx_M))) (h_k184 : ∀ (y0 : Int32) (y1 : Int32) (y2 : sx_M), y2.2 = m → nl Prod.snd (k184 y0 y1 y2) m) : ∀ (n : Nat) (x0 : Int32) (x1 : Int32) (x2 : Int32) (x3 : sx_M), x3.2 = m → nl Prod.snd (f8_isOnRing_L48 w1 w4 k184 n x0 x1 x2 x3) m := by
  intro n
  induction n with
  | zero =>
    intros
    rw [f8_isOnRing_L48]
    exact nl_none
  | succ n ih =>
    intro x0 x1 x2 x3 h_x3
    rw [f8_isOnRing_L48]
    repeat' (first | with_reducible exact nl_none | ((with_reducible refine nl_some ?_); with_unfolding_all assumption) | with_reducible refine nl_bd ?_ | with_reducible refine nl_if ?_ ?_ | with_reducible exact h_k184 _ _ _ (by with_unfolding_all assumption) | with_reducible exact ih _ _ _ _ (by with_unfolding_all assumption) | ((with_reducible refine nl_bv ?_); intro _) | fail)
theorem nl_f8_isOnRing_L39 {m : Nat → Nat → Nat → Int64} (w1 : Int32)  : ∀ (n : Nat) (x0 : Int32) (x1 : Int32) (x2 : Int32) (x3 : sx_M), x3.2 = m → nl Prod.snd (f8_isOnRing_L39 w1 n x0 x1 x2 x3) m := by
  intro n
  induction n with
  | zero =>
    intros
    rw [f8_isOnRing_L39]
    exact nl_none
  | succ n ih =>
    intro x0 x1 x2 x3 h_x3
    rw [f8_isOnRing_L39]
    repeat' (first | with_reducible exact nl_none | ((with_reducible refine nl_some ?_); with_unfolding_all assumption) | with_reducible refine nl_bd ?_ | with_reducible refine nl_if ?_ ?_ | with_reducible exact ih _ _ _ _ (by with_unfolding_all assumption) | ((with_reducible refine nl_f8_isOnRing_L48 _ _ _ ?_ _ _ _ _ _ (by with_unfolding_all assumption)); intros) | ((with_reducible refine nl_bv ?_); intro _) | fail)
theorem nl_f8_isOnRing {m : Nat → Nat → Nat → Int64} (a1 : Int32) (M0 : sx_M) (h_M0 : M0.2 = m) : nl Prod.snd (f8_isOnRing a1 M0) m := by
  rw [f8_isOnRing]
  repeat' (first | with_reducible exact nl_none | ((with_reducible refine nl_some ?_); with_unfolding_all assumption) | with_reducible refine nl_bd ?_ | with_reducible refine nl_if ?_ ?_ | ((with_reducible refine nl_f8_isOnRing_L7 _ _ _ _ ?_ _ _ _ (by with_unfolding_all assumption)); intros) | with_reducible exact nl_f8_isOnRing_L39 _ _ _ _ _ _ (by with_unfolding_all assumption) | ((with_reducible refine nl_b2 (nl_f8_isOnRing_L39 _ _ _ _ _ _ (by with_unfolding_all assumption)) ?_); intro _ _ _) | ((with_reducible refine nl_bv ?_); intro _) | fail)
theorem nl_f8_rings_L17 {m : Nat → Nat → Nat → Int64}   : ∀ (n : Nat) (x0 : Int32) (x1 : Int32) (x2 : sx_M), x2.2 = m → nl Prod.snd (f8_rings_L17  n x0 x1 x2) m := by
  intro n
  induction n with
  | zero =>
    intros
    rw [f8_rings_L17]
    exact nl_none
  | succ n ih =>
    intro x0 x1 x2 h_x2
    rw [f8_rings_L17]
    repeat' (first | with_reducible exact nl_none | ((with_reducible refine nl_some ?_); with_unfolding_all assumption) | with_reducible refine nl_bd ?_ | with_reducible refine nl_if ?_ ?_ | with_reducible exact ih _ _ _ (by with_unfolding_all assumption) | with_reducible exact nl_f8_isOnRing _ _ (by with_unfolding_all assumption) | ((with_reducible refine nl_b2 (nl_f8_isOnRing _ _ (by with_unfolding_all assumption)) ?_); intro _ _ _) | ((with_reducible refine nl_bv ?_); intro _) | fail)
theorem nl_f8_rings {m : Nat → Nat → Nat → Int64} (M0 : sx_M) (h_M0 : M0.2 = m) : nl Prod.snd (f8_rings M0) m := by
  rw [f8_rings]
  repeat' (first | with_reducible exact nl_none | ((with_reducible refine nl_some ?_); with_unfolding_all assumption) | with_reducible refine nl_bd ?_ | with_reducible refine nl_if ?_ ?_ | with_reducible exact nl_f8_lay _ _ (by with_unfolding_all assumption) | ((with_reducible refine nl_b0 (nl_f8_lay _ _ (by with_unfolding_all assumption)) ?_); intro _ _) | with_reducible exact nl_f8_rings_L17  _ _ _ _ (by with_unfolding_all assumption) | ((with_reducible refine nl_b2 (nl_f8_rings_L17  _ _ _ _ (by with_unfolding_all assumption)) ?_); intro _ _ _) | ((with_reducible refine nl_bv ?_); intro _) | fail)
theorem nl_f8_endTrial_L2 {m : Nat → Nat → Nat → Int64}   : ∀ (n : Nat) (x0 : Int32) (x1 : sx_M), x1.2 = m → nl Prod.snd (f8_endTrial_L2  n x0 x1) m := by
  intro n
  induction n with
  | zero =>
    intros
    rw [f8_endTrial_L2]
    exact nl_none
  | succ n ih =>
    intro x0 x1 h_x1
    rw [f8_endTrial_L2]
    repeat' (first | with_reducible exact nl_none | ((with_reducible refine nl_some ?_); with_unfolding_all assumption) | with_reducible refine nl_bd ?_ | with_reducible refine nl_if ?_ ?_ | with_reducible exact ih _ _ (by with_unfolding_all assumption) | with_reducible exact nl_f8_stepIn _ _ (by with_unfolding_all assumption) | ((with_reducible refine nl_b2 (nl_f8_stepIn _ _ (by with_unfolding_all assumption)) ?_); intro _ _ _) | ((with_reducible refine nl_bv ?_); intro _) | fail)
theorem nl_f8_endTrial {m : Nat → Nat → Nat → Int64} (M0 : sx_M) (h_M0 : M0.2 = m) : nl Prod.snd (f8_endTrial M0) m := by
  rw [f8_endTrial]
  repeat' (first | with_reducible exact nl_none | ((with_reducible refine nl_some ?_); with_unfolding_all assumption) | with_reducible refine nl_bd ?_ | with_reducible refine nl_if ?_ ?_ | with_reducible exact nl_f8_endTrial_L2  _ _ _ (by with_unfolding_all assumption) | ((with_reducible refine nl_b2 (nl_f8_endTrial_L2  _ _ _ (by with_unfolding_all assumption)) ?_); intro _ _ _) | ((with_reducible refine nl_bv ?_); intro _) | fail)
theorem nl_f8_takes {m : Nat → Nat → Nat → Int64} (M0 : sx_M) (h_M0 : M0.2 = m) : nl Prod.snd (f8_takes M0) m := by
  rw [f8_takes]
  repeat' (first | with_reducible exact nl_none | ((with_reducible refine nl_some ?_); with_unfolding_all assumption) | with_reducible refine nl_bd ?_ | with_reducible refine nl_if ?_ ?_ | with_reducible exact nl_f8_tryIt _ (by with_unfolding_all assumption) | ((with_reducible refine nl_b0 (nl_f8_tryIt _ (by with_unfolding_all assumption)) ?_); intro _ _) | with_reducible exact nl_f8_endTrial _ (by with_unfolding_all assumption) | ((with_reducible refine nl_b2 (nl_f8_endTrial _ (by with_unfolding_all assumption)) ?_); intro _ _ _) | with_reducible exact nl_f8_beginIn _ _ (by with_unfolding_all assumption) | ((with_reducible refine nl_b2 (nl_f8_beginIn _ _ (by with_unfolding_all assumption)) ?_); intro _ _ _) | ((with_reducible refine nl_bv ?_); intro _) | fail)
theorem nl_f8_spares_L37 {m : Nat → Nat → Nat → Int64} (M : sx_M) (h_M : M.2 = m) : ∀ (n : Nat) (x0 : Int32) (x1 : Int32), nl Prod.snd (f8_spares_L37 M n x0 x1) m := by
  intro n
  induction n with
  | zero =>
    intros
    rw [f8_spares_L37]
    exact nl_none
  | succ n ih =>
    intro x0 x1 
    rw [f8_spares_L37]
    repeat' (first | with_reducible exact nl_none | ((with_reducible refine nl_some ?_); with_unfolding_all assumption) | with_reducible refine nl_bd ?_ | with_reducible refine nl_if ?_ ?_ | with_reducible exact ih _ _ | ((with_reducible refine nl_bv ?_); intro _) | fail)
theorem nl_f8_spares {m : Nat → Nat → Nat → Int64} (M0 : sx_M) (h_M0 : M0.2 = m) : nl Prod.snd (f8_spares M0) m := by
  rw [f8_spares]
  repeat' (first | with_reducible exact nl_none | ((with_reducible refine nl_some ?_); with_unfolding_all assumption) | with_reducible refine nl_bd ?_ | with_reducible refine nl_if ?_ ?_ | with_reducible exact nl_f8_tryIt _ (by with_unfolding_all assumption) | ((with_reducible refine nl_b0 (nl_f8_tryIt _ (by with_unfolding_all assumption)) ?_); intro _ _) | with_reducible exact nl_f8_endTrial _ (by with_unfolding_all assumption) | ((with_reducible refine nl_b2 (nl_f8_endTrial _ (by with_unfolding_all assumption)) ?_); intro _ _ _) | with_reducible exact nl_f8_lay _ _ (by with_unfolding_all assumption) | ((with_reducible refine nl_b0 (nl_f8_lay _ _ (by with_unfolding_all assumption)) ?_); intro _ _) | with_reducible exact nl_f8_spares_L37 _ (by with_unfolding_all assumption) _ _ _ | ((with_reducible refine nl_b2 (nl_f8_spares_L37 _ (by with_unfolding_all assumption) _ _ _) ?_); intro _ _ _) | ((with_reducible refine nl_bv ?_); intro _) | fail)
theorem nl_f8_way_L75 {m : Nat → Nat → Nat → Int64} (w2 : Int32) (M : sx_M) (h_M : M.2 = m) : ∀ (n : Nat) (x0 : Int32) (x1 : Int32), nl Prod.snd (f8_way_L75 w2 M n x0 x1) m := by
  intro n
  induction n with
  | zero =>
    intros
    rw [f8_way_L75]
    exact nl_none
  | succ n ih =>
    intro x0 x1 
    rw [f8_way_L75]
    repeat' (first | with_reducible exact nl_none | ((with_reducible refine nl_some ?_); with_unfolding_all assumption) | with_reducible refine nl_bd ?_ | with_reducible refine nl_if ?_ ?_ | with_reducible exact ih _ _ | ((with_reducible refine nl_bv ?_); intro _) | fail)
theorem nl_f8_way {m : Nat → Nat → Nat → Int64} (a1 : Int32) (a2 : Int32) (M0 : sx_M) (h_M0 : M0.2 = m) : nl Prod.snd (f8_way a1 a2 M0) m := by
  rw [f8_way]
  repeat' (first | with_reducible exact nl_none | ((with_reducible refine nl_some ?_); with_unfolding_all assumption) | with_reducible refine nl_bd ?_ | with_reducible refine nl_if ?_ ?_ | with_reducible exact nl_f8_refused _ _ (by with_unfolding_all assumption) | ((with_reducible refine nl_b2 (nl_f8_refused _ _ (by with_unfolding_all assumption)) ?_); intro _ _ _) | with_reducible exact nl_f8_lay _ _ (by with_unfolding_all assumption) | ((with_reducible refine nl_b0 (nl_f8_lay _ _ (by with_unfolding_all assumption)) ?_); intro _ _) | with_reducible exact nl_f8_way_L75 _ _ (by with_unfolding_all assumption) _ _ _ | ((with_reducible refine nl_b2 (nl_f8_way_L75 _ _ (by with_unfolding_all assumption) _ _ _) ?_); intro _ _ _) | ((with_reducible refine nl_bv ?_); intro _) | fail)
theorem nl_f8_ties {m : Nat → Nat → Nat → Int64} (a1 : Int32) (a2 : Int32) (M0 : sx_M) (h_M0 : M0.2 = m) : nl Prod.snd (f8_ties a1 a2 M0) m := by
  rw [f8_ties]
  repeat' (first | with_reducible exact nl_none | ((with_reducible refine nl_some ?_); with_unfolding_all assumption) | with_reducible refine nl_bd ?_ | with_reducible refine nl_if ?_ ?_ | with_reducible exact nl_f8_tieIn _ _ _ _ _ (by with_unfolding_all assumption) | ((with_reducible refine nl_b0 (nl_f8_tieIn _ _ _ _ _ (by with_unfolding_all assumption)) ?_); intro _ _) | ((with_reducible refine nl_bv ?_); intro _) | fail)
theorem nl_f8_cutsString {m : Nat → Nat → Nat → Int64} (a1 : Int32) (a2 : Int32) (M0 : sx_M) (h_M0 : M0.2 = m) : nl Prod.snd (f8_cutsString a1 a2 M0) m := by
  rw [f8_cutsString]
  repeat' (first | with_reducible exact nl_none | ((with_reducible refine nl_some ?_); with_unfolding_all assumption) | with_reducible refine nl_bd ?_ | with_reducible refine nl_if ?_ ?_ | with_reducible exact nl_f8_removeString _ _ _ (by with_unfolding_all assumption) | ((with_reducible refine nl_b0 (nl_f8_removeString _ _ _ (by with_unfolding_all assumption)) ?_); intro _ _) | ((with_reducible refine nl_bv ?_); intro _) | fail)
theorem nl_f8_pins {m : Nat → Nat → Nat → Int64} (a1 : Int32) (a2 : Int32) (M0 : sx_M) (h_M0 : M0.2 = m) : nl Prod.snd (f8_pins a1 a2 M0) m := by
  rw [f8_pins]
  repeat' (first | with_reducible exact nl_none | ((with_reducible refine nl_some ?_); with_unfolding_all assumption) | with_reducible refine nl_bd ?_ | with_reducible refine nl_if ?_ ?_ | with_reducible exact nl_f8_pinIn _ _ _ _ (by with_unfolding_all assumption) | ((with_reducible refine nl_b0 (nl_f8_pinIn _ _ _ _ (by with_unfolding_all assumption)) ?_); intro _ _) | ((with_reducible refine nl_bv ?_); intro _) | fail)
theorem nl_f8_makes {m : Nat → Nat → Nat → Int64} (a1 : Int32) (M0 : sx_M) (h_M0 : M0.2 = m) : nl Prod.snd (f8_makes a1 M0) m := by
  rw [f8_makes]
  repeat' (first | with_reducible exact nl_none | ((with_reducible refine nl_some ?_); with_unfolding_all assumption) | with_reducible refine nl_bd ?_ | with_reducible refine nl_if ?_ ?_ | with_reducible exact nl_f8_makeIn _ _ _ (by with_unfolding_all assumption) | ((with_reducible refine nl_b2 (nl_f8_makeIn _ _ _ (by with_unfolding_all assumption)) ?_); intro _ _ _) | ((with_reducible refine nl_bv ?_); intro _) | fail)
theorem nl_f8_begins {m : Nat → Nat → Nat → Int64} (M0 : sx_M) (h_M0 : M0.2 = m) : nl Prod.snd (f8_begins M0) m := by
  rw [f8_begins]
  repeat' (first | with_reducible exact nl_none | ((with_reducible refine nl_some ?_); with_unfolding_all assumption) | with_reducible refine nl_bd ?_ | with_reducible refine nl_if ?_ ?_ | with_reducible exact nl_f8_beginIn _ _ (by with_unfolding_all assumption) | ((with_reducible refine nl_b2 (nl_f8_beginIn _ _ (by with_unfolding_all assumption)) ?_); intro _ _ _) | ((with_reducible refine nl_bv ?_); intro _) | fail)
theorem nl_f8_steps_L17 {m : Nat → Nat → Nat → Int64} (w1 : Int32) (k46 : (sx_M → Option (Int32 × sx_M))) (h_k46 : ∀ (y0 : sx_M), y0.2 = m → nl Prod.snd (k46 y0) m) : ∀ (n : Nat) (x0 : Int32) (x1 : sx_M), x1.2 = m → nl Prod.snd (f8_steps_L17 w1 k46 n x0 x1) m := by
  intro n
  induction n with
  | zero =>
    intros
    rw [f8_steps_L17]
    exact nl_none
  | succ n ih =>
    intro x0 x1 h_x1
    rw [f8_steps_L17]
    repeat' (first | with_reducible exact nl_none | ((with_reducible refine nl_some ?_); with_unfolding_all assumption) | with_reducible refine nl_bd ?_ | with_reducible refine nl_if ?_ ?_ | with_reducible exact h_k46 _ (by with_unfolding_all assumption) | with_reducible exact ih _ _ (by with_unfolding_all assumption) | with_reducible exact nl_f8_stepIn _ _ (by with_unfolding_all assumption) | ((with_reducible refine nl_b2 (nl_f8_stepIn _ _ (by with_unfolding_all assumption)) ?_); intro _ _ _) | ((with_reducible refine nl_bv ?_); intro _) | fail)
theorem nl_f8_steps {m : Nat → Nat → Nat → Int64} (a1 : Int32) (M0 : sx_M) (h_M0 : M0.2 = m) : nl Prod.snd (f8_steps a1 M0) m := by
  rw [f8_steps]
  repeat' (first | with_reducible exact nl_none | ((with_reducible refine nl_some ?_); with_unfolding_all assumption) | with_reducible refine nl_bd ?_ | with_reducible refine nl_if ?_ ?_ | ((with_reducible refine nl_f8_steps_L17 _ _ ?_ _ _ _ (by with_unfolding_all assumption)); intros) | ((with_reducible refine nl_bv ?_); intro _) | fail)
theorem nl_f8_isHeld {m : Nat → Nat → Nat → Int64} (a1 : Int32) (M0 : sx_M) (h_M0 : M0.2 = m) : nl Prod.snd (f8_isHeld a1 M0) m := by
  rw [f8_isHeld]
  repeat' (first | with_reducible exact nl_none | ((with_reducible refine nl_some ?_); with_unfolding_all assumption) | with_reducible refine nl_bd ?_ | with_reducible refine nl_if ?_ ?_ | with_reducible exact nl_f8_lay _ _ (by with_unfolding_all assumption) | ((with_reducible refine nl_b0 (nl_f8_lay _ _ (by with_unfolding_all assumption)) ?_); intro _ _) | ((with_reducible refine nl_bv ?_); intro _) | fail)
theorem nl_f8_does {m : Nat → Nat → Nat → Int64} (a1 : Int32) (M0 : sx_M) (h_M0 : M0.2 = m) : nl Prod.snd (f8_does a1 M0) m := by
  rw [f8_does]
  repeat' (first | with_reducible exact nl_none | ((with_reducible refine nl_some ?_); with_unfolding_all assumption) | with_reducible refine nl_bd ?_ | with_reducible refine nl_if ?_ ?_ | with_reducible exact nl_f8_makes _ _ (by with_unfolding_all assumption) | ((with_reducible refine nl_b2 (nl_f8_makes _ _ (by with_unfolding_all assumption)) ?_); intro _ _ _) | with_reducible exact nl_f8_ties _ _ _ (by with_unfolding_all assumption) | ((with_reducible refine nl_b2 (nl_f8_ties _ _ _ (by with_unfolding_all assumption)) ?_); intro _ _ _) | with_reducible exact nl_f8_cutsString _ _ _ (by with_unfolding_all assumption) | ((with_reducible refine nl_b2 (nl_f8_cutsString _ _ _ (by with_unfolding_all assumption)) ?_); intro _ _ _) | with_reducible exact nl_f8_pins _ _ _ (by with_unfolding_all assumption) | ((with_reducible refine nl_b2 (nl_f8_pins _ _ _ (by with_unfolding_all assumption)) ?_); intro _ _ _) | with_reducible exact nl_f8_begins _ (by with_unfolding_all assumption) | ((with_reducible refine nl_b2 (nl_f8_begins _ (by with_unfolding_all assumption)) ?_); intro _ _ _) | with_reducible exact nl_f8_steps _ _ (by with_unfolding_all assumption) | ((with_reducible refine nl_b2 (nl_f8_steps _ _ (by with_unfolding_all assumption)) ?_); intro _ _ _) | with_reducible exact nl_f8_isHeld _ _ (by with_unfolding_all assumption) | ((with_reducible refine nl_b2 (nl_f8_isHeld _ _ (by with_unfolding_all assumption)) ?_); intro _ _ _) | with_reducible exact nl_f8_heldWeight _ _ (by with_unfolding_all assumption) | ((with_reducible refine nl_b2 (nl_f8_heldWeight _ _ (by with_unfolding_all assumption)) ?_); intro _ _ _) | ((with_reducible refine nl_bv ?_); intro _) | fail)
theorem nl_f8_runScript_L62 {m : Nat → Nat → Nat → Int64} (w1 : Int32) (w2 : Int64)  : ∀ (n : Nat) (x0 : Int32) (x1 : sx_M), x1.2 = m → nl Prod.snd (f8_runScript_L62 w1 w2 n x0 x1) m := by
  intro n
  induction n with
  | zero =>
    intros
    rw [f8_runScript_L62]
    exact nl_none
  | succ n ih =>
    intro x0 x1 h_x1
    rw [f8_runScript_L62]
    repeat' (first | with_reducible exact nl_none | ((with_reducible refine nl_some ?_); with_unfolding_all assumption) | with_reducible refine nl_bd ?_ | with_reducible refine nl_if ?_ ?_ | with_reducible exact ih _ _ (by with_unfolding_all assumption) | with_reducible exact nl_f8_does _ _ (by with_unfolding_all assumption) | ((with_reducible refine nl_b2 (nl_f8_does _ _ (by with_unfolding_all assumption)) ?_); intro _ _ _) | ((with_reducible refine nl_bv ?_); intro _) | fail)
theorem nl_f8_runScript {m : Nat → Nat → Nat → Int64} (a1 : Int32) (a2 : Int64) (M0 : sx_M) (h_M0 : M0.2 = m) : nl Prod.snd (f8_runScript a1 a2 M0) m := by
  rw [f8_runScript]
  repeat' (first | with_reducible exact nl_none | ((with_reducible refine nl_some ?_); with_unfolding_all assumption) | with_reducible refine nl_bd ?_ | with_reducible refine nl_if ?_ ?_ | with_reducible exact nl_f8_refused _ _ (by with_unfolding_all assumption) | ((with_reducible refine nl_b2 (nl_f8_refused _ _ (by with_unfolding_all assumption)) ?_); intro _ _ _) | with_reducible exact nl_f8_tryIt _ (by with_unfolding_all assumption) | ((with_reducible refine nl_b0 (nl_f8_tryIt _ (by with_unfolding_all assumption)) ?_); intro _ _) | with_reducible exact nl_f8_runScript_L62 _ _ _ _ _ (by with_unfolding_all assumption) | ((with_reducible refine nl_b2 (nl_f8_runScript_L62 _ _ _ _ _ (by with_unfolding_all assumption)) ?_); intro _ _ _) | ((with_reducible refine nl_bv ?_); intro _) | fail)
theorem nl_f8_stir {m : Nat → Nat → Nat → Int64} (a1 : Int32) (M0 : sx_M) (h_M0 : M0.2 = m) : nl id (f8_stir a1 M0) m := by
  rw [f8_stir]
  repeat' (first | with_reducible exact nl_none | ((with_reducible refine nl_some ?_); with_unfolding_all assumption) | with_reducible refine nl_bd ?_ | with_reducible refine nl_if ?_ ?_ | with_reducible exact nl_f8_ties _ _ _ (by with_unfolding_all assumption) | ((with_reducible refine nl_b2 (nl_f8_ties _ _ _ (by with_unfolding_all assumption)) ?_); intro _ _ _) | with_reducible exact nl_f8_cutsString _ _ _ (by with_unfolding_all assumption) | ((with_reducible refine nl_b2 (nl_f8_cutsString _ _ _ (by with_unfolding_all assumption)) ?_); intro _ _ _) | with_reducible exact nl_f8_mendIn _ _ _ (by with_unfolding_all assumption) | ((with_reducible refine nl_b0 (nl_f8_mendIn _ _ _ (by with_unfolding_all assumption)) ?_); intro _ _) | with_reducible exact nl_f8_pins _ _ _ (by with_unfolding_all assumption) | ((with_reducible refine nl_b2 (nl_f8_pins _ _ _ (by with_unfolding_all assumption)) ?_); intro _ _ _) | with_reducible exact nl_f8_stepIn _ _ (by with_unfolding_all assumption) | ((with_reducible refine nl_b2 (nl_f8_stepIn _ _ (by with_unfolding_all assumption)) ?_); intro _ _ _) | with_reducible exact nl_f8_beginIn _ _ (by with_unfolding_all assumption) | ((with_reducible refine nl_b2 (nl_f8_beginIn _ _ (by with_unfolding_all assumption)) ?_); intro _ _ _) | ((with_reducible refine nl_bv ?_); intro _) | fail)
theorem nl_f8_simulate_L36 {m : Nat → Nat → Nat → Int64} (w3 : Int32)  : ∀ (n : Nat) (x0 : Int64) (x1 : Int32) (x2 : sx_M), x2.2 = m → nl Prod.snd (f8_simulate_L36 w3 n x0 x1 x2) m := by
  intro n
  induction n with
  | zero =>
    intros
    rw [f8_simulate_L36]
    exact nl_none
  | succ n ih =>
    intro x0 x1 x2 h_x2
    rw [f8_simulate_L36]
    repeat' (first | with_reducible exact nl_none | ((with_reducible refine nl_some ?_); with_unfolding_all assumption) | with_reducible refine nl_bd ?_ | with_reducible refine nl_if ?_ ?_ | with_reducible exact ih _ _ _ (by with_unfolding_all assumption) | with_reducible exact nl_f8_heldWeight _ _ (by with_unfolding_all assumption) | ((with_reducible refine nl_b2 (nl_f8_heldWeight _ _ (by with_unfolding_all assumption)) ?_); intro _ _ _) | with_reducible exact nl_f8_stir _ _ (by with_unfolding_all assumption) | ((with_reducible refine nl_b0 (nl_f8_stir _ _ (by with_unfolding_all assumption)) ?_); intro _ _) | ((with_reducible refine nl_bv ?_); intro _) | fail)
theorem nl_f8_simulate {m : Nat → Nat → Nat → Int64} (a1 : Int64) (a3 : Int32) (M0 : sx_M) (h_M0 : M0.2 = m) : nl Prod.snd (f8_simulate a1 a3 M0) m := by
  rw [f8_simulate]
  repeat' (first | with_reducible exact nl_none | ((with_reducible refine nl_some ?_); with_unfolding_all assumption) | with_reducible refine nl_bd ?_ | with_reducible refine nl_if ?_ ?_ | with_reducible exact nl_f8_refused _ _ (by with_unfolding_all assumption) | ((with_reducible refine nl_b2 (nl_f8_refused _ _ (by with_unfolding_all assumption)) ?_); intro _ _ _) | with_reducible exact nl_f8_tryIt _ (by with_unfolding_all assumption) | ((with_reducible refine nl_b0 (nl_f8_tryIt _ (by with_unfolding_all assumption)) ?_); intro _ _) | with_reducible exact nl_f8_simulate_L36 _ _ _ _ _ (by with_unfolding_all assumption) | ((with_reducible refine nl_b2 (nl_f8_simulate_L36 _ _ _ _ _ (by with_unfolding_all assumption)) ?_); intro _ _ _) | ((with_reducible refine nl_bv ?_); intro _) | fail)
theorem nl_f8_save {m : Nat → Nat → Nat → Int64} (a1 : Int32) (M0 : sx_M) (h_M0 : M0.2 = m) : nl Prod.snd (f8_save a1 M0) m := by
  rw [f8_save]
  repeat' (first | with_reducible exact nl_none | ((with_reducible refine nl_some ?_); with_unfolding_all assumption) | with_reducible refine nl_bd ?_ | with_reducible refine nl_if ?_ ?_ | with_reducible exact nl_f8_refused _ _ (by with_unfolding_all assumption) | ((with_reducible refine nl_b2 (nl_f8_refused _ _ (by with_unfolding_all assumption)) ?_); intro _ _ _) | with_reducible exact nl_f8_copy _ _ _ _ _ _ (by with_unfolding_all assumption) | ((with_reducible refine nl_b0 (nl_f8_copy _ _ _ _ _ _ (by with_unfolding_all assumption)) ?_); intro _ _) | ((with_reducible refine nl_bv ?_); intro _) | fail)
theorem nl_f8_restore {m : Nat → Nat → Nat → Int64} (a1 : Int32) (M0 : sx_M) (h_M0 : M0.2 = m) : nl Prod.snd (f8_restore a1 M0) m := by
  rw [f8_restore]
  repeat' (first | with_reducible exact nl_none | ((with_reducible refine nl_some ?_); with_unfolding_all assumption) | with_reducible refine nl_bd ?_ | with_reducible refine nl_if ?_ ?_ | with_reducible exact nl_f8_refused _ _ (by with_unfolding_all assumption) | ((with_reducible refine nl_b2 (nl_f8_refused _ _ (by with_unfolding_all assumption)) ?_); intro _ _ _) | with_reducible exact nl_f8_copy _ _ _ _ _ _ (by with_unfolding_all assumption) | ((with_reducible refine nl_b0 (nl_f8_copy _ _ _ _ _ _ (by with_unfolding_all assumption)) ?_); intro _ _) | ((with_reducible refine nl_bv ?_); intro _) | fail)
