/-! FLOWS ALONG SOUND STRINGS -/
def sI (f : Nat → Int) : Nat → Int
  | 0 => 0
  | n + 1 => sI f n + f n
theorem sI_cong {f h : Nat → Int} : ∀ {n : Nat}, (∀ i, i < n → f i = h i) → sI f n = sI h n
  | 0, _ => rfl
  | n + 1, e => by rw [sI, sI, sI_cong (fun i hi => e i (by omega)), e n (by omega)]
theorem sI_le {f h : Nat → Int} : ∀ {n : Nat}, (∀ i, i < n → f i ≤ h i) → sI f n ≤ sI h n
  | 0, _ => Int.le_refl _
  | n + 1, e => by
    have a := sI_le (n := n) (fun i hi => e i (by omega))
    have b := e n (by omega)
    rw [sI, sI]; omega
theorem sI_zero : ∀ n : Nat, sI (fun _ => 0) n = 0
  | 0 => rfl
  | n + 1 => by rw [sI, sI_zero n]; rfl
theorem sI_one : ∀ n : Nat, sI (fun _ => 1) n = n
  | 0 => rfl
  | n + 1 => by rw [sI, sI_one n]; omega
theorem sI_add (f h : Nat → Int) : ∀ n : Nat, sI (fun i => f i + h i) n = sI f n + sI h n
  | 0 => rfl
  | n + 1 => by rw [sI, sI, sI, sI_add f h n]; omega
theorem sI_sub (f h : Nat → Int) : ∀ n : Nat, sI (fun i => f i - h i) n = sI f n - sI h n
  | 0 => rfl
  | n + 1 => by rw [sI, sI, sI, sI_sub f h n]; omega
theorem sI_swap (f : Nat → Nat → Int) (n : Nat) : ∀ m : Nat, sI (fun t => sI (fun i => f t i) n) m = sI (fun i => sI (fun t => f t i) m) n
  | 0 => (sI_zero n).symm
  | m + 1 => by
    rw [sI, sI_swap f n m]
    exact (sI_add (fun i => sI (fun t => f t i) m) (fun i => f m i) n).symm
theorem sI_pick (c : Nat → Int) (a : Nat) : ∀ m : Nat, sI (fun t => if a = t then c t else 0) m = if a < m then c a else 0
  | 0 => rfl
  | m + 1 => by
    rw [sI, sI_pick c a m]
    by_cases q : a = m
    · subst q
      rw [if_neg (Nat.lt_irrefl _), if_pos rfl, if_pos (Nat.lt_succ_self _)]; omega
    · rw [if_neg q]
      by_cases z : a < m
      · rw [if_pos z, if_pos (by omega)]; omega
      · rw [if_neg z, if_neg (by omega)]; omega
theorem sI_upd (f h : Nat → Int) {j : Nat} {n : Nat} (hj : j < n) (e : ∀ i, i < n → i ≠ j → h i = f i) : sI h n = sI f n + (h j - f j) := by
  have : sI (fun i => h i - f i) n = sI (fun t => if j = t then h t - f t else 0) n := sI_cong (fun i hi => by
    by_cases q : j = i
    · rw [if_pos q]
    · rw [if_neg q, e i hi (fun z => q z.symm)]; omega)
  rw [sI_sub, sI_pick, if_pos hj] at this
  omega
/-- what a thing gets less what it gives -/
def GT.nt (g : GT) (U : Nat → Bool) (t i : Nat) : Int := if U i then (if g.B i + 4 = t then 1 else 0) - (if g.A i = t then 1 else 0) else 0
def GT.net (g : GT) (U : Nat → Bool) (t : Nat) : Int := sI (fun i => g.nt U t i) g.n
def GT.flow (g : GT) (P U : Nat → Bool) (q w : Nat) : Prop := (∀ i, i < g.n → U i = true → g.Z i = true) ∧ ∀ t, t < 28 → hol P t = false → g.net U t = if t = q then (w : Int) else 0
def GT.shut (g : GT) (U X : Nat → Bool) : Prop := ∀ i, i < g.n → g.Z i = true → (U i = true → X (g.B i + 4) = true → X (g.A i) = true) ∧ (U i = false → X (g.A i) = true → X (g.B i + 4) = true)
theorem GT.out {g : GT} (hg : g.ok) (U X : Nat → Bool) : sI (fun t => if X t then 0 else g.net U t) 28 = sI (fun i => if U i then (if X (g.B i + 4) then 0 else 1) - (if X (g.A i) then 0 else 1) else 0) g.n := by
  have e1 : sI (fun t => if X t then 0 else g.net U t) 28 = sI (fun t => sI (fun i => if X t then 0 else g.nt U t i) g.n) 28 := sI_cong (fun t _ => by
    cases X t with
    | false => rfl
    | true => exact (sI_zero g.n).symm)
  rw [e1, sI_swap]
  refine sI_cong (fun i hi => ?_)
  cases hU : U i with
  | false =>
    refine (sI_cong (fun t _ => ?_)).trans (sI_zero 28)
    unfold GT.nt
    rw [hU]; simp
  | true =>
    have e2 : sI (fun t => if X t then 0 else g.nt U t i) 28 = sI (fun t => (if g.B i + 4 = t then (if X t then 0 else 1) else 0) - (if g.A i = t then (if X t then 0 else 1) else 0)) 28 := sI_cong (fun t _ => by
      unfold GT.nt
      rw [hU]
      cases X t <;> simp)
    rw [e2, sI_sub, sI_pick (fun t => if X t then 0 else 1), sI_pick (fun t => if X t then 0 else 1)]
    have := hg.2 i hi
    rw [if_pos (c := g.B i + 4 < 28) (by omega), if_pos (c := g.A i < 28) (by omega), if_pos rfl]
theorem GT.flow_out {g : GT} {P U X : Nat → Bool} {q w : Nat} (h : g.flow P U q w) (hX : ∀ t, t < 28 → hol P t = true → X t = true) (hq : q < 28) (hx : X q = false) : sI (fun t => if X t then 0 else g.net U t) 28 = w := by
  have e : sI (fun t => if X t then 0 else g.net U t) 28 = sI (fun t => if q = t then (w : Int) else 0) 28 := sI_cong (fun t ht => by
    cases e : X t with
    | true => rw [if_pos rfl, if_neg (fun z => by rw [z, e] at hx; cases hx)]
    | false =>
      rw [if_neg (by decide)]
      have hh : hol P t = false := by
        cases z : hol P t with
        | false => rfl
        | true => rw [hX t ht z] at e; cases e
      rw [h.2 t ht hh]
      by_cases z : t = q
      · rw [if_pos z, if_pos z.symm]
      · rw [if_neg z, if_neg (fun y => z y.symm)])
  rw [e, sI_pick (fun _ => (w : Int)), if_pos hq]
/-- no flow is greater than one whose search ends outside -/
theorem GT.most {g : GT} (hg : g.ok) {P U V X : Nat → Bool} {q w v : Nat} (h : g.flow P U q w) (hv : g.flow P V q v) (hX : ∀ t, t < 28 → hol P t = true → X t = true) (hq : q < 28) (hx : X q = false) (hs : g.shut U X) : v ≤ w := by
  have a := (GT.out hg U X).symm.trans (GT.flow_out h hX hq hx)
  have b := (GT.out hg V X).symm.trans (GT.flow_out hv hX hq hx)
  have c : sI (fun i => if V i then (if X (g.B i + 4) then (0 : Int) else 1) - (if X (g.A i) then 0 else 1) else 0) g.n ≤ sI (fun i => if U i then (if X (g.B i + 4) then 0 else 1) - (if X (g.A i) then 0 else 1) else 0) g.n := by
    refine sI_le (fun i hi => ?_)
    have k1 := h.1 i hi
    have k2 := hv.1 i hi
    cases hU : U i <;> cases hV : V i <;> cases hA : X (g.A i) <;> cases hB : X (g.B i + 4) <;> simp
    · exact absurd ((hs i hi (k2 hV)).2 hU hA) (by rw [hB]; decide)
    · exact absurd ((hs i hi (k1 hU)).1 hU hB) (by rw [hA]; decide)
  omega
theorem GT.flow_n {g : GT} (hg : g.ok) {P U : Nat → Bool} {q w : Nat} (h : g.flow P U q w) (hq : q < 28) (hx : hol P q = false) : w ≤ g.n := by
  have a := h.2 q hq hx
  rw [if_pos rfl] at a
  have b : g.net U q ≤ sI (fun _ => 1) g.n := sI_le (fun i hi => by
    show g.nt U q i ≤ 1
    unfold GT.nt
    cases U i with
    | false => exact (by decide : (0 : Int) ≤ 1)
    | true =>
      rw [if_pos rfl]
      split <;> split <;> omega)
  rw [sI_one] at b
  omega
def GT.maxf (g : GT) (P : Nat → Bool) (q w : Nat) : Prop := (∃ U, g.flow P U q w) ∧ ∀ V v, g.flow P V q v → v ≤ w
theorem GT.maxf_uniq {g : GT} {P : Nat → Bool} {q w v : Nat} (h : g.maxf P q w) (k : g.maxf P q v) : w = v := by
  obtain ⟨⟨U, hU⟩, h2⟩ := h
  obtain ⟨⟨V, hV⟩, k2⟩ := k
  exact Nat.le_antisymm (k2 U w hU) (h2 V v hV)
theorem GT.flow_0 {g : GT} {P U : Nat → Bool} {q : Nat} (h : ∀ i, i < g.n → U i = false) : g.flow P U q 0 := by
  refine ⟨fun i hi e => absurd e (by rw [h i hi]; decide), fun t _ _ => ?_⟩
  have : g.net U t = sI (fun _ => 0) g.n := sI_cong (fun i hi => by unfold GT.nt; rw [h i hi]; rfl)
  rw [this, sI_zero]
  split <;> rfl
theorem GT.flow_cong {g : GT} {P U V : Nat → Bool} {q w : Nat} (h : g.flow P U q w) (e : ∀ i, i < g.n → V i = U i) : g.flow P V q w := by
  refine ⟨fun i hi => by rw [e i hi]; exact h.1 i hi, fun t ht hh => ?_⟩
  rw [← h.2 t ht hh]
  exact sI_cong (fun i hi => by unfold GT.nt; rw [e i hi])
/-- what a search has reached, by which string, after how many -/
def GT.rs (g : GT) (P U X : Nat → Bool) (via d : Nat → Nat) : Prop := ∀ t, t < 28 → hol P t = false → X t = true → d t < fb_ct (fun p => X (p + 4)) 24 ∧ via t < g.n ∧ g.Z (via t) = true ∧ ((U (via t) = false ∧ g.B (via t) + 4 = t ∧ X (g.A (via t)) = true ∧ (hol P (g.A (via t)) = true ∨ d (g.A (via t)) < d t)) ∨ (U (via t) = true ∧ g.A (via t) = t ∧ X (g.B (via t) + 4) = true ∧ (hol P (g.B (via t) + 4) = true ∨ d (g.B (via t) + 4) < d t)))
def fx1 {α : Type} (f : Nat → α) (t : Nat) (a : α) : Nat → α := fun u => if u = t then a else f u
theorem fx1_s {α : Type} (f : Nat → α) (t : Nat) (a : α) : fx1 f t a t = a := if_pos rfl
theorem fx1_n {α : Type} (f : Nat → α) (a : α) {t u : Nat} (h : u ≠ t) : fx1 f t a u = f u := if_neg h
theorem ct_add {X : Nat → Bool} {q : Nat} (hq : q < 24) (h : X (q + 4) = false) : fb_ct (fun p => fx1 X (q + 4) true (p + 4)) 24 = fb_ct (fun p => X (p + 4)) 24 + 1 := by
  have e : (fun p => fx1 X (q + 4) true (p + 4)) = fun k => if k = q then true else X (k + 4) := by
    funext p
    unfold fx1
    by_cases z : p = q
    · rw [if_pos (by omega), if_pos z]
    · rw [if_neg (by omega), if_neg z]
  rw [e]
  have := fb_ct_upd (fun p => X (p + 4)) true hq
  simp only [h] at this
  simpa using this
theorem ct_room {X : Nat → Bool} {q : Nat} (hq : q < 24) (h : X (q + 4) = false) : fb_ct (fun p => X (p + 4)) 24 < 24 := by
  have := ct_add hq h
  have := fb_ct_le (fun p => fx1 X (q + 4) true (p + 4)) 24
  omega
theorem GT.rs_add {g : GT} {P U X : Nat → Bool} {via d : Nat → Nat} (h : g.rs P U X via d) {q i : Nat} (hq : q < 24) (hx : X (q + 4) = false) (hi : i < g.n) (hz : g.Z i = true) (hg : g.ok)
    (hd : (U i = false ∧ g.B i + 4 = q + 4 ∧ X (g.A i) = true) ∨ (U i = true ∧ g.A i = q + 4 ∧ X (g.B i + 4) = true)) :
    g.rs P U (fx1 X (q + 4) true) (fx1 via (q + 4) i) (fx1 d (q + 4) (fb_ct (fun p => X (p + 4)) 24)) := by
  intro t ht hh hX
  have hc := ct_add hq hx
  rw [hc]
  have far : ∀ u, u < 28 → X u = true → fx1 X (q + 4) true u = true ∧ (hol P u = true ∨ fx1 d (q + 4) (fb_ct (fun p => X (p + 4)) 24) u < fb_ct (fun p => X (p + 4)) 24) := fun u hu e => by
    have ne : u ≠ q + 4 := fun z => by rw [z, hx] at e; cases e
    rw [fx1_n _ _ ne, fx1_n _ _ ne]
    refine ⟨e, ?_⟩
    cases z : hol P u with
    | true => exact Or.inl rfl
    | false => exact Or.inr (h u hu z e).1
  have hb := hg.2
  by_cases z : t = q + 4
  · subst z
    rw [fx1_s, fx1_s]
    refine ⟨by omega, hi, hz, ?_⟩
    rcases hd with ⟨a, b, c⟩ | ⟨a, b, c⟩
    · have := far _ (hb i hi).1 c
      exact Or.inl ⟨a, b, this.1, this.2⟩
    · have := far (g.B i + 4) (by have := (hb i hi).2; omega) c
      exact Or.inr ⟨a, b, this.1, this.2⟩
  · rw [fx1_n _ _ z] at hX
    rw [fx1_n _ _ z, fx1_n _ _ z]
    obtain ⟨k1, k2, k3, k4⟩ := h t ht hh hX
    have keep : ∀ u, X u = true → (hol P u = true ∨ d u < d t) → fx1 X (q + 4) true u = true ∧ (hol P u = true ∨ fx1 d (q + 4) (fb_ct (fun p => X (p + 4)) 24) u < d t) := fun u e w => by
      have ne : u ≠ q + 4 := fun z => by rw [z, hx] at e; cases e
      rw [fx1_n _ _ ne, fx1_n _ _ ne]
      exact ⟨e, w⟩
    refine ⟨by omega, k2, k3, ?_⟩
    rcases k4 with ⟨a, b, c, e⟩ | ⟨a, b, c, e⟩
    · exact Or.inl ⟨a, b, (keep _ c e).1, (keep _ c e).2⟩
    · exact Or.inr ⟨a, b, (keep _ c e).1, (keep _ c e).2⟩
/-- on the way back along a search -/
def GT.wk (g : GT) (P U X : Nat → Bool) (via d : Nat → Nat) (q : Nat) (V : Nat → Bool) (t : Nat) : Prop := t < 28 ∧ X t = true ∧ (∀ u, u < 28 → X u = true → hol P u = false → (hol P t = true ∨ d u ≤ d t) → hol P t = false → V (via u) = U (via u)) ∧ (∀ i, i < g.n → V i = true → g.Z i = true) ∧ ∀ v, v < 28 → hol P v = false → g.net V v = g.net U v + (if v = q then 1 else 0) - (if v = t then 1 else 0)
theorem GT.wk_0 {g : GT} {P U X : Nat → Bool} {via d : Nat → Nat} {q w : Nat} (hf : g.flow P U q w) (hq : q < 28) (hx : X q = true) : g.wk P U X via d q U q :=
  ⟨hq, hx, fun _ _ _ _ _ _ => rfl, hf.1, fun v _ _ => by omega⟩
theorem GT.wk_end {g : GT} {P U X : Nat → Bool} {via d : Nat → Nat} {q w : Nat} {V : Nat → Bool} {t : Nat} (hf : g.flow P U q w) (h : g.wk P U X via d q V t) (ht : hol P t = true) : g.flow P V q (w + 1) := by
  obtain ⟨k1, k2, k3, k4, k5⟩ := h
  refine ⟨k4, fun v hv hh => ?_⟩
  rw [k5 v hv hh, hf.2 v hv hh, if_neg (c := v = t) (fun z => by rw [z, ht] at hh; cases hh)]
  split <;> omega
theorem GT.wk_step {g : GT} (hg : g.ok) {P U X : Nat → Bool} {via d : Nat → Nat} {q : Nat} {V : Nat → Bool} {t : Nat} (hr : g.rs P U X via d) (h : g.wk P U X via d q V t) (ht : hol P t = false) :
    V (via t) = U (via t) ∧ g.wk P U X via d q (fx1 V (via t) (!U (via t))) (if U (via t) then g.B (via t) + 4 else g.A (via t)) ∧ (hol P (if U (via t) then g.B (via t) + 4 else g.A (via t)) = true ∨ d (if U (via t) then g.B (via t) + 4 else g.A (via t)) < d t) := by
  obtain ⟨k1, k2, k3, k4, k5⟩ := h
  obtain ⟨r1, r2, r3, r4⟩ := hr t k1 ht k2
  have hV := k3 t k1 k2 ht (Or.inr (Nat.le_refl _)) ht
  have hb := hg.2 _ r2
  -- the end that comes next
  have nx : (if U (via t) then g.B (via t) + 4 else g.A (via t)) < 28 ∧ X (if U (via t) then g.B (via t) + 4 else g.A (via t)) = true ∧ (hol P (if U (via t) then g.B (via t) + 4 else g.A (via t)) = true ∨ d (if U (via t) then g.B (via t) + 4 else g.A (via t)) < d t) ∧ (if U (via t) then g.A (via t) else g.B (via t) + 4) = t := by
    rcases r4 with ⟨a, b, c, e⟩ | ⟨a, b, c, e⟩
    · rw [a]; exact ⟨hb.1, c, e, b⟩
    · rw [a]; exact ⟨by have := hb.2; show g.B (via t) + 4 < 28; omega, c, e, b⟩
  refine ⟨hV, ⟨nx.1, nx.2.1, fun u hu hxu hhu hd hh => ?_, fun i hi e => ?_, fun v hv hh => ?_⟩, nx.2.2.1⟩
  · have hdu : d u < d t := by
      rcases nx.2.2.1 with z | z
      · rw [hh] at z; cases z
      · rcases hd with y | y
        · rw [hh] at y; cases y
        · omega
    have ne : via u ≠ via t := fun z => by
      have hut : u ≠ t := fun y => by rw [y] at hdu; omega
      obtain ⟨-, -, -, s4⟩ := hr u hu hhu hxu
      rw [z] at s4
      rcases s4 with ⟨a, b, -⟩ | ⟨a, b, -⟩
      · rw [a] at nx; exact hut (b.symm.trans nx.2.2.2)
      · rw [a] at nx; exact hut (b.symm.trans nx.2.2.2)
    rw [fx1_n _ _ ne]
    exact k3 u hu hxu hhu (Or.inr (by omega)) ht
  · by_cases z : i = via t
    · rw [z]; exact r3
    · rw [fx1_n _ _ z] at e; exact k4 i hi e
  · have e1 : g.net (fx1 V (via t) (!U (via t))) v = g.net V v + (g.nt (fx1 V (via t) (!U (via t))) v (via t) - g.nt V v (via t)) := sI_upd (fun i => g.nt V v i) (fun i => g.nt (fx1 V (via t) (!U (via t))) v i) r2 (fun i _ ne => by
      show g.nt _ v i = g.nt _ v i
      unfold GT.nt; rw [fx1_n _ _ ne])
    rw [e1, k5 v hv hh]
    unfold GT.nt
    rw [fx1_s, hV]
    have n4 := nx.2.2.2
    have sy : ∀ a : Nat, (if a = v then (1 : Int) else 0) = if v = a then 1 else 0 := fun a => by
      by_cases y : a = v
      · rw [if_pos y, if_pos y.symm]
      · rw [if_neg y, if_neg (fun x => y x.symm)]
    rw [sy, sy]
    cases hU : U (via t) with
    | false =>
      rw [hU] at n4
      have n4 : g.B (via t) + 4 = t := n4
      rw [n4]
      simp only [Bool.not_false, if_true, Bool.false_eq_true, if_false]
      omega
    | true =>
      rw [hU] at n4
      have n4 : g.A (via t) = t := n4
      rw [n4]
      simp only [Bool.not_true, if_true, Bool.false_eq_true, if_false]
      omega
