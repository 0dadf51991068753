/-! FAULTS AND ACTS BY THEIR KIND -/
theorem w3_fault1 {M : sx_M} {s : Nat} {A : SH} (h : CS M s A) (a v : Int32) : wp (f3_faultOf s 1 a v M) (fun r => (r = 2 ∧ ¬ (1 ≤ v ∧ v ≤ 9)) ∨ (1 ≤ v ∧ v ≤ 9 ∧ ((r = 0 ∧ A.m < 24) ∨ (r = 3 ∧ A.m = 24)))) := by
  rw [f3_faultOf]
  refine wp_ifp rfl ?_
  obtain ⟨r, e, hr⟩ := w3_makeFault h v
  exact wp_call e (wp_some hr)
theorem w3_fault2 {M : sx_M} {s : Nat} {A : SH} (h : CS M s A) (a p : Int32) : wp (f3_faultOf s 2 a p M) (fun r => (r = 1 ∧ ¬ (A.isTh a ∧ A.isP p)) ∨ (A.isTh a ∧ A.isP p ∧ ((r = 2 ∧ a = p) ∨ (a ≠ p ∧ ((r = 3 ∧ (A.g.n = 40 ∨ ∃ i, A.g.at a p i)) ∨ (r = 0 ∧ A.g.n < 40 ∧ ∀ i, ¬ A.g.at a p i)))))) := by
  rw [f3_faultOf]
  refine wp_ifn (by decide) ?_
  refine wp_ifp rfl ?_
  obtain ⟨r, e, hr⟩ := w3_tieFault h a p
  exact wp_call e (wp_some hr)
theorem w3_fault3 {M : sx_M} {s : Nat} {A : SH} (h : CS M s A) (a p : Int32) : wp (f3_faultOf s 3 a p M) (fun r => (r = 1 ∧ ∀ i, ¬ A.g.at a p i) ∨ (r = 0 ∧ ∃ i, A.g.at a p i ∧ ∀ j, j < i → ¬ A.g.at a p j)) := by
  rw [f3_faultOf]
  refine wp_ifn (by decide) ?_
  refine wp_ifn (by decide) ?_
  refine wp_ifp rfl ?_
  obtain ⟨r, e, hr⟩ := w4_find h.1 a p
  refine wp_call e ?_
  have h40 := h.1.1
  with_reducible refine wp_bd ?_
  rcases hr with ⟨rfl, hno⟩ | ⟨i, rfl, hi, hf⟩
  · exact wp_ifp rfl (wp_some (Or.inl ⟨rfl, hno⟩))
  · exact wp_ifn (nI_ne_m1 (by have := hi.1; omega)) (wp_some (Or.inr ⟨rfl, i, hi, hf⟩))
theorem w3_fault4 {M : sx_M} {s : Nat} {A : SH} (h : CS M s A) (a p : Int32) : wp (f3_faultOf s 4 a p M) (fun r => (r = 1 ∧ ∀ i, ¬ A.g.at a p i) ∨ ∃ i, A.g.at a p i ∧ (∀ j, j < i → ¬ A.g.at a p j) ∧ r = if A.g.Z i = true then 0 else 3) := by
  rw [f3_faultOf]
  refine wp_ifn (by decide) ?_
  refine wp_ifn (by decide) ?_
  refine wp_ifn (by decide) ?_
  refine wp_ifp rfl ?_
  obtain ⟨r, e, hr⟩ := w3_stringFault h a p true
  exact wp_call e (wp_some hr)
theorem w3_fault5 {M : sx_M} {s : Nat} {A : SH} (h : CS M s A) (a p : Int32) : wp (f3_faultOf s 5 a p M) (fun r => (r = 1 ∧ ∀ i, ¬ A.g.at a p i) ∨ ∃ i, A.g.at a p i ∧ (∀ j, j < i → ¬ A.g.at a p j) ∧ r = if A.g.Z i = false then 0 else 3) := by
  rw [f3_faultOf]
  refine wp_ifn (by decide) ?_
  refine wp_ifn (by decide) ?_
  refine wp_ifn (by decide) ?_
  refine wp_ifn (by decide) ?_
  refine wp_ifp rfl ?_
  obtain ⟨r, e, hr⟩ := w3_stringFault h a p false
  exact wp_call e (wp_some hr)
theorem w3_fault6 {M : sx_M} {s : Nat} {A : SH} (h : CS M s A) (a p : Int32) : wp (f3_faultOf s 6 a p M) (fun r => (r = 0 ∧ A.isP p) ∨ (r = 1 ∧ ¬ A.isP p)) := by
  rw [f3_faultOf]
  refine wp_ifn (by decide) ?_
  refine wp_ifn (by decide) ?_
  refine wp_ifn (by decide) ?_
  refine wp_ifn (by decide) ?_
  refine wp_ifn (by decide) ?_
  refine wp_ifp rfl ?_
  obtain ⟨r, e, hr⟩ := w3_partFault h p
  exact wp_call e (wp_some hr)
theorem w3_fault7 {M : sx_M} {s : Nat} {A : SH} (h : CS M s A) (a p : Int32) : f3_faultOf s 7 a p M = some (if A.G then 3 else 0) := by
  refine wp_get ?_
  rw [f3_faultOf]
  refine wp_ifn (by decide) ?_
  refine wp_ifn (by decide) ?_
  refine wp_ifn (by decide) ?_
  refine wp_ifn (by decide) ?_
  refine wp_ifn (by decide) ?_
  refine wp_ifn (by decide) ?_
  refine wp_ifp rfl ?_
  refine wp_call (w5_isGoing h.2.1) ?_
  with_reducible refine wp_bd ?_
  cases A.G with
  | false => exact wp_ifp rfl (wp_some rfl)
  | true => exact wp_ifn (by decide) (wp_some rfl)
theorem w3_fault8 {M : sx_M} {s : Nat} {A : SH} (h : CS M s A) (a p : Int32) : f3_faultOf s 8 a p M = some (if A.G then 0 else 3) := by
  refine wp_get ?_
  rw [f3_faultOf]
  refine wp_ifn (by decide) ?_
  refine wp_ifn (by decide) ?_
  refine wp_ifn (by decide) ?_
  refine wp_ifn (by decide) ?_
  refine wp_ifn (by decide) ?_
  refine wp_ifn (by decide) ?_
  refine wp_ifn (by decide) ?_
  refine wp_call (w5_isGoing h.2.1) ?_
  with_reducible refine wp_bd ?_
  cases A.G with
  | false => exact wp_ifp rfl (wp_some rfl)
  | true => exact wp_ifn (by decide) (wp_some rfl)
theorem w3_do1 {M : sx_M} {s : Nat} {A : SH} (h : CS M s A) (hm : A.m < 24) (a v z : Int32) : wp (f3_perform s 1 a v z M) (fun r => r.1 = nI A.m ∧ CS r.2 s (A.make v) ∧ Fr (pSh s) M r.2) := by
  rw [f3_perform]
  refine wp_ifp rfl ?_
  obtain ⟨⟨r, M1⟩, e, hr⟩ := w3_addPart h hm v
  exact wp_b2 e (wp_some hr)
theorem w3_do2 {M : sx_M} {s : Nat} {A : SH} (h : CS M s A) (hn : A.g.n < 40) {t p : Nat} (ht : t < 28) (hp : p < 24) (z : Bool) : wp (f3_perform s 2 (tI t) (nI p) (bI01 z) M) (fun r => r.1 = nI (A.g.n + 1) ∧ CS r.2 s (A.tie t p z) ∧ Fr (pSh s) M r.2) := by
  rw [f3_perform]
  refine wp_ifn (by decide) ?_
  refine wp_ifp rfl ?_
  obtain ⟨⟨r, M1⟩, e, hr⟩ := w3_addString h hn ht hp z
  exact wp_b2 e (wp_some hr)
theorem w3_do3 {M : sx_M} {s : Nat} {A : SH} (h : CS M s A) {a p : Int32} {i : Nat} (hi : A.g.at a p i) (hf : ∀ j, j < i → ¬ A.g.at a p j) (z : Int32) : wp (f3_perform s 3 a p z M) (fun r => r.1 = nI (fb_ct (fun p => A.H p && !(A.cut i).H p) 24) ∧ CS r.2 s (A.cut i) ∧ Fr (pSh s) M r.2) := by
  rw [f3_perform]
  refine wp_ifn (by decide) ?_
  refine wp_ifn (by decide) ?_
  refine wp_ifp rfl ?_
  obtain ⟨⟨r, M1⟩, e, hr⟩ := w3_removeString h hi hf
  exact wp_b2 e (wp_some hr)
theorem w3_do4 {M : sx_M} {s : Nat} {A : SH} (h : CS M s A) {a p : Nat} (hp : p < 24) (ha : a < 28) {i : Nat} (hi : A.g.at (tI a) (nI p) i) (hf : ∀ j, j < i → ¬ A.g.at (tI a) (nI p) j) (z : Int32) : wp (f3_perform s 4 (tI a) (nI p) z M) (fun r => r.1 = nI (fb_ct (fun p => A.H p ^^ (A.snd i false).H p) 24) ∧ CS r.2 s (A.snd i false) ∧ Fr (pSh s) M r.2) := by
  rw [f3_perform]
  refine wp_ifn (by decide) ?_
  refine wp_ifn (by decide) ?_
  refine wp_ifn (by decide) ?_
  refine wp_ifp rfl ?_
  obtain ⟨⟨r, M1⟩, e, hr⟩ := w3_setSound h hp ha hi hf false
  exact wp_b2 e (wp_some hr)
theorem w3_do5 {M : sx_M} {s : Nat} {A : SH} (h : CS M s A) {a p : Nat} (hp : p < 24) (ha : a < 28) {i : Nat} (hi : A.g.at (tI a) (nI p) i) (hf : ∀ j, j < i → ¬ A.g.at (tI a) (nI p) j) (z : Int32) : wp (f3_perform s 5 (tI a) (nI p) z M) (fun r => r.1 = nI (fb_ct (fun p => A.H p ^^ (A.snd i true).H p) 24) ∧ CS r.2 s (A.snd i true) ∧ Fr (pSh s) M r.2) := by
  rw [f3_perform]
  refine wp_ifn (by decide) ?_
  refine wp_ifn (by decide) ?_
  refine wp_ifn (by decide) ?_
  refine wp_ifn (by decide) ?_
  refine wp_ifp rfl ?_
  obtain ⟨⟨r, M1⟩, e, hr⟩ := w3_setSound h hp ha hi hf true
  exact wp_b2 e (wp_some hr)
theorem w3_do6 {M : sx_M} {s : Nat} {A : SH} (h : CS M s A) {p : Nat} (hp : p < 24) (a : Int32) (is : Bool) : wp (f3_perform s 6 a (nI p) (bI01 is) M) (fun r => r.1 = nI (fb_ct (A.pin p is).H 24) ∧ CS r.2 s (A.pin p is) ∧ Fr (pSh s) M r.2) := by
  rw [f3_perform]
  refine wp_ifn (by decide) ?_
  refine wp_ifn (by decide) ?_
  refine wp_ifn (by decide) ?_
  refine wp_ifn (by decide) ?_
  refine wp_ifn (by decide) ?_
  refine wp_ifp rfl ?_
  obtain ⟨⟨r, M1⟩, e, hr⟩ := w3_setPinned h hp is
  exact wp_b2 e (wp_some hr)
theorem w3_do7 {M : sx_M} {s : Nat} {A : SH} (h : CS M s A) (a p z : Int32) : wp (f3_perform s 7 a p z M) (fun r => r.1 = nI A.begin.q.length ∧ CS r.2 s A.begin ∧ Fr (pSh s) M r.2) := by
  rw [f3_perform]
  refine wp_ifn (by decide) ?_
  refine wp_ifn (by decide) ?_
  refine wp_ifn (by decide) ?_
  refine wp_ifn (by decide) ?_
  refine wp_ifn (by decide) ?_
  refine wp_ifn (by decide) ?_
  refine wp_ifp rfl ?_
  obtain ⟨⟨r, M1⟩, e, hr⟩ := w3_beginSweep h
  exact wp_b2 e (wp_some hr)
theorem w3_do8 {M : sx_M} {s : Nat} {A : SH} (h : CS M s A) (hG : A.G = true) (a p z : Int32) : wp (f3_perform s 8 a p z M) (fun r => r.1 = A.told ∧ CS r.2 s A.step ∧ Fr (pSh s) M r.2) := by
  rw [f3_perform]
  refine wp_ifn (by decide) ?_
  refine wp_ifn (by decide) ?_
  refine wp_ifn (by decide) ?_
  refine wp_ifn (by decide) ?_
  refine wp_ifn (by decide) ?_
  refine wp_ifn (by decide) ?_
  refine wp_ifn (by decide) ?_
  obtain ⟨⟨r, M1⟩, e, hr⟩ := w3_takeStep h hG
  exact wp_b2 e (wp_some hr)
theorem w3_try_no {M : sx_M} {s : Nat} {k a p z f : Int32} (hf : f3_faultOf s k a p M = some f) (h0 : f ≠ 0) : f3_attempt s k a p z M = some (0, M) := by
  refine wp_get ?_
  rw [f3_attempt]
  refine wp_call hf ?_
  exact wp_ifn h0 (wp_some rfl)
theorem w3_try {M : sx_M} {s : Nat} {k a p z : Int32} {Q : Int32 × sx_M → Prop} (hf : f3_faultOf s k a p M = some 0) (hd : wp (f3_perform s k a p z M) (fun r => Q (1, r.2))) : wp (f3_attempt s k a p z M) Q := by
  rw [f3_attempt]
  refine wp_call hf ?_
  refine wp_ifp rfl ?_
  obtain ⟨⟨r, M1⟩, e, hr⟩ := hd
  exact wp_b2 e (wp_some hr)
