/-! THE PURE PART: what a program answers (wp), its loops; numbers, things and sets of things as words -/
def wp {α : Type} (x : Option α) (Q : α → Prop) : Prop := ∃ a, x = some a ∧ Q a
theorem wp_some {α : Type} {a : α} {Q : α → Prop} (h : Q a) : wp (some a) Q := ⟨a, rfl, h⟩
theorem wp_bind {α β : Type} {x : Option α} {f : α → Option β} {Q : β → Prop} (h : wp x (fun a => wp (f a) Q)) : wp (x.bind f) Q := by
  obtain ⟨a, e, b, e2, hq⟩ := h
  exact ⟨b, by rw [e]; exact e2, hq⟩
theorem wp_mono {α : Type} {x : Option α} {P Q : α → Prop} (h : wp x P) (hq : ∀ a, P a → Q a) : wp x Q := by
  obtain ⟨a, e, hp⟩ := h
  exact ⟨a, e, hq a hp⟩
theorem wp_get {α : Type} {x : Option α} {b : α} (h : wp x (fun a => a = b)) : x = some b := by
  obtain ⟨a, e, rfl⟩ := h
  exact e
theorem wp_eq {α : Type} {x : Option α} {Q : α → Prop} {a : α} (e : x = some a) (h : Q a) : wp x Q := ⟨a, e, h⟩
/-- a call of which the answer is known -/
theorem wp_call {α β : Type} {x : Option α} {f : α → Option β} {Q : β → Prop} {a : α} (e : x = some a) (h : wp (f a) Q) : wp (x.bind f) Q := wp_bind ⟨a, e, h⟩
theorem wp_if {α : Type} {c : Prop} {_ : Decidable c} {x y : Option α} {Q : α → Prop} (h1 : c → wp x Q) (h2 : ¬ c → wp y Q) : wp (if c then x else y) Q := by
  by_cases h : c
  · rw [if_pos h]; exact h1 h
  · rw [if_neg h]; exact h2 h
theorem wp_bd {α β : Type} {x : α} {f : α → Option β} {Q : β → Prop} (h : wp (f x) Q) : wp (sx_bd x f) Q := h
theorem wp_ifp {α : Type} {c : Prop} {_ : Decidable c} {x y : Option α} {Q : α → Prop} (h : c) (h1 : wp x Q) : wp (if c then x else y) Q := by rw [if_pos h]; exact h1
theorem wp_ifn {α : Type} {c : Prop} {_ : Decidable c} {x y : Option α} {Q : α → Prop} (h : ¬ c) (h1 : wp y Q) : wp (if c then x else y) Q := by rw [if_neg h]; exact h1
/-- a loop with a measure -/
theorem wp_wh {σ β : Type} {F : Nat → σ → Option β} {Q : β → Prop} (μ : σ → Nat) (Inv : σ → Prop)
    (hs : ∀ m a, Inv a → (∀ a', Inv a' → μ a' < μ a → wp (F m a') Q) → wp (F (m + 1) a) Q) : ∀ (N : Nat) (a : σ), μ a < N → Inv a → wp (F N a) Q := by
  intro N
  induction N with
  | zero => intro a h; exact absurd h (Nat.not_lt_zero _)
  | succ N ih => exact fun a h hI => hs N a hI (fun a' hI' h' => ih a' (by omega) hI')
/-- a loop that counts up to n -/
theorem wp_up {σ β : Type} {F : Nat → Int32 → σ → Option β} {Q : β → Prop} (n : Nat) (Inv : Nat → σ → Prop)
    (hs : ∀ m j a, j < n → Inv j a → (∀ a', Inv (j + 1) a' → wp (F m (nI j + 1) a') Q) → wp (F (m + 1) (nI j) a) Q)
    (he : ∀ m a, Inv n a → wp (F (m + 1) (nI n) a) Q) : ∀ (N j : Nat) (a : σ), j ≤ n → n - j < N → Inv j a → wp (F N (nI j) a) Q := by
  intro N
  induction N with
  | zero => intro j a _ h; exact absurd h (Nat.not_lt_zero _)
  | succ N ih =>
    intro j a hj h hI
    by_cases hjn : j = n
    · subst hjn; exact he N a hI
    · exact hs N j a (by omega) hI (fun a' hI' => by rw [show nI j + 1 = nI (j + 1) from nI_add j 1]; exact ih (j + 1) a' (by omega) (by omega) hI')
/-- the same with nothing carried -/
theorem wp_up0 {β : Type} {F : Nat → Int32 → Option β} {Q : β → Prop} (n : Nat) (Inv : Nat → Prop)
    (hs : ∀ m j, j < n → Inv j → (Inv (j + 1) → wp (F m (nI j + 1)) Q) → wp (F (m + 1) (nI j)) Q)
    (he : ∀ m, Inv n → wp (F (m + 1) (nI n)) Q) (N j : Nat) (hj : j ≤ n) (hN : n - j < N) (h0 : Inv j) : wp (F N (nI j)) Q :=
  wp_up (F := fun m x (_ : Unit) => F m x) n (fun j _ => Inv j) (fun m j _ h hI k => hs m j h hI (k ())) (fun m _ h => he m h) N j () hj hN h0
/-! numbers -/
theorem nI_lit (n : Nat) : (OfNat.ofNat n : Int32) = nI n := rfl
theorem iI_le {a b : Nat} (ha : a < 2147483648) (hb : b < 2147483648) : nI a ≤ nI b ↔ a ≤ b := by
  rw [fa_le, nI_toInt ha, nI_toInt hb]; omega
theorem iI_lt {a b : Nat} (ha : a < 2147483648) (hb : b < 2147483648) : nI a < nI b ↔ a < b := by
  rw [fa_lt, nI_toInt ha, nI_toInt hb]; omega
theorem iI_eq {a b : Nat} (ha : a < 2147483648) (hb : b < 2147483648) : nI a = nI b ↔ a = b := by
  rw [fa_eq, nI_toInt ha, nI_toInt hb]; omega
theorem nI_cl {a : Nat} (ha : a < 2147483648) : (nI a).toNatClampNeg = a := nI_clamp ha
theorem sx_in_n {a N : Nat} (h : a < N) (hN : N < 2147483648) : sx_in (nI a) N := by
  refine ⟨?_, ?_⟩
  · rw [fa_lt, nI_toInt (by omega)]; show ¬ ((a : Int) < 0); omega
  · rw [nI_cl (by omega)]; exact h
theorem nI_sub {a b : Nat} (h : b ≤ a) : nI a - nI b = nI (a - b) := by
  have e : nI a = nI (a - b) + nI b := by rw [nI_add]; congr 1; omega
  rw [e]
  exact Int32.add_sub_cancel _ _
theorem nI_mul (a b : Nat) : nI a * nI b = nI (a * b) := (Int32.ofNat_mul a b).symm
theorem nI_add_sub (a : Int32) (b : Int32) : a - b + b = a := Int32.sub_add_cancel a b
/-- things: 0 to 3 are the hooks -4 to -1, 4 to 27 the parts -/
def tI (t : Nat) : Int32 := nI t - 4
theorem tI_4 (t : Nat) : tI t + 4 = nI t := Int32.sub_add_cancel _ _
theorem tI_part (p : Nat) : tI (p + 4) = nI p := by
  show nI (p + 4) - nI 4 = nI p
  rw [nI_sub (by omega)]; rfl
theorem tI_ge {t : Nat} (h : 4 ≤ t) : tI t = nI (t - 4) := by
  have := tI_part (t - 4)
  rwa [show t - 4 + 4 = t by omega] at this
theorem tI_int {t : Nat} (h : t < 1000) : (tI t).toInt = (t : Int) - 4 := by
  by_cases h4 : 4 ≤ t
  · rw [tI_ge h4, nI_toInt (by omega)]; omega
  · have : ∀ t, t < 4 → (tI t).toInt = (t : Int) - 4 := by decide +kernel
    exact this t (by omega)
theorem tI_inj {a b : Nat} (ha : a < 1000) (hb : b < 1000) : tI a = tI b ↔ a = b := by
  rw [fa_eq, tI_int ha, tI_int hb]; omega
theorem tI_neg {t : Nat} (h : t < 1000) : tI t < 0 ↔ t < 4 := by
  rw [fa_lt, tI_int h]; show (t : Int) - 4 < 0 ↔ _; omega
theorem tI_pos {t : Nat} (h : t < 1000) : 0 ≤ tI t ↔ 4 ≤ t := by
  rw [fa_le, tI_int h]; show 0 ≤ (t : Int) - 4 ↔ _; omega
theorem tI_of {v : Int32} (h1 : -4 ≤ v) (h2 : v < 24) : ∃ t, t < 28 ∧ v = tI t := by
  rw [fa_le] at h1; rw [fa_lt] at h2
  have e1 : (-4 : Int32).toInt = -4 := by decide
  have e2 : (24 : Int32).toInt = 24 := by decide
  rw [e1] at h1; rw [e2] at h2
  refine ⟨(v.toInt + 4).toNat, by omega, ?_⟩
  rw [fa_eq, tI_int (by omega)]; omega
/-- the word of one thing -/
def bI (t : Nat) : Int32 := (1 : Int32) <<< (nI t &&& 31)
theorem bt_bI_k : ∀ t, t < 32 → ∀ i, i < 32 → bt (bI t) i = decide (i = t) := by decide +kernel
theorem bt_bI {t i : Nat} (ht : t < 32) (hi : i < 32) : bt (bI t) i = decide (i = t) := bt_bI_k t ht i hi
theorem bt_zero (i : Nat) : bt 0 i = false := b_0 i
theorem bt_eq0 {x : Int32} : x = 0 ↔ ∀ i, i < 32 → bt x i = false := by
  constructor
  · intro h i _; rw [h]; exact b_0 i
  · intro h; exact b_ext (fun i hi => by rw [h i hi, b_0])
/-- one thing of a word -/
theorem bt_and {x : Int32} {t : Nat} (ht : t < 32) : x &&& bI t = 0 ↔ bt x t = false := by
  rw [bt_eq0]
  constructor
  · intro h
    have := h t ht
    rw [b_and, bt_bI ht ht] at this
    simpa using this
  · intro h i hi
    rw [b_and, bt_bI ht hi]
    by_cases e : i = t
    · subst e; simp [h]
    · simp [e]
theorem bt_1 : ∀ i, i < 32 → bt 1 i = decide (i = 0) := by decide +kernel
theorem bt_shr {x : Int32} {t : Nat} (ht : t < 32) : (x >>> (nI t &&& 31)) &&& 1 = 0 ↔ bt x t = false := by
  rw [bt_eq0]
  constructor
  · intro h
    have := h 0 (by omega)
    rw [b_and, bt_1 0 (by omega), b_sshr t ht x (by omega)] at this
    simpa [ht] using this
  · intro h i hi
    rw [b_and, bt_1 i hi]
    by_cases e : i = 0
    · subst e; rw [b_sshr t ht x (by omega)]; simp [ht, h]
    · simp [e]
theorem bt_or (x y : Int32) (i : Nat) : bt (x ||| y) i = (bt x i || bt y i) := b_or x y i
theorem bt_not {x : Int32} {i : Nat} (hi : i < 32) : bt (x ^^^ (-1)) i = !bt x i := by rw [b_xor, b_m1 i hi]; simp
/-- a set of parts in a word -/
def Wd (m : Int32) (X : Nat → Bool) : Prop := ∀ i, i < 32 → bt m i = (decide (4 ≤ i) && decide (i < 28) && X (i - 4))
theorem Wd.at {m : Int32} {X : Nat → Bool} (h : Wd m X) {p : Nat} (hp : p < 24) : bt m (p + 4) = X p := by
  rw [h (p + 4) (by omega)]; simp; omega
theorem Wd.hook {m : Int32} {X : Nat → Bool} (h : Wd m X) {t : Nat} (ht : t < 4) : bt m t = false := by
  rw [h t (by omega)]; simp; omega
theorem Wd.ext {m : Int32} {X Y : Nat → Bool} (h : Wd m X) (e : ∀ p, p < 24 → X p = Y p) : Wd m Y := fun i hi => by
  rw [h i hi]
  by_cases h4 : 4 ≤ i
  · by_cases h28 : i < 28
    · rw [e (i - 4) (by omega)]
    · simp [h28]
  · simp [h4]
theorem Wd.uniq {m m' : Int32} {X : Nat → Bool} (h : Wd m X) (h' : Wd m' X) : m = m' := b_ext (fun i hi => by rw [h i hi, h' i hi])
theorem tI_4N (t : Nat) : tI t + nI 4 = nI t := tI_4 t
theorem bt_shrN {x : Int32} {t : Nat} (ht : t < 32) : (x >>> (nI t &&& nI 31)) &&& nI 1 = nI 0 ↔ bt x t = false := bt_shr ht
theorem bt_andN {x : Int32} {t : Nat} (ht : t < 32) : x &&& bI t = nI 0 ↔ bt x t = false := bt_and ht
def bI01 (b : Bool) : Int32 := if b then 1 else 0
theorem bI01_0 {b : Bool} : bI01 b = 0 ↔ b = false := by cases b <;> decide
theorem bI01_1 {b : Bool} : bI01 b = 1 ↔ b = true := by cases b <;> decide
theorem bI01_0N {b : Bool} : bI01 b = nI 0 ↔ b = false := bI01_0
theorem bI01_1N {b : Bool} : bI01 b = nI 1 ↔ b = true := bI01_1
theorem bI01_01 (b : Bool) : bI01 b = 0 ∨ bI01 b = 1 := by cases b <;> decide
theorem iI_pred {a : Nat} (h : 0 < a) : nI a - (1 : Int32) = nI (a - 1) := nI_sub (b := 1) h
theorem iI_succ (a : Nat) : nI a + (1 : Int32) = nI (a + 1) := nI_add a 1
