/-! CLASS AND REFERENCE SIDE BY SIDE -/
/-- now, the past, the slots, the text -/
abbrev ST : Type := SH × List SH × (Option SH × Option SH) × List Nat
abbrev ST.A (st : ST) : SH := st.1
abbrev ST.L (st : ST) : List SH := st.2.1
abbrev ST.s (st : ST) : Option SH × Option SH := st.2.2.1
abbrev ST.l (st : ST) : List Nat := st.2.2.2
def INV (st : ST) : Prop := IS st.A ∧ (∀ B ∈ st.L, IS B) ∧ (∀ B, st.s.1 = some B → IS B) ∧ (∀ B, st.s.2 = some B → IS B)
def RC (M : sx_M) (st : ST) : Prop := CS M 0 st.A ∧ PS M st.L ∧ (M.1 12 0 0 = bI01 st.s.1.isSome ∧ ∀ B, st.s.1 = some B → CS M 2 B) ∧ (M.1 12 0 1 = bI01 st.s.2.isSome ∧ ∀ B, st.s.2 = some B → CS M 3 B) ∧ TS M st.l
/-- a shed in a row of numbers -/
def DAt (f : Nat → Int32) (A : SH) : Prop := DS (fun _ _ i => f i, fun _ _ _ => 0) 19 A
theorem DAt_iff {M : sx_M} {k : Nat} {A : SH} : DS M k A ↔ DAt (M.1 k 0) A := Iff.rfl
theorem DAt.cong {f f' : Nat → Int32} {A : SH} (h : DAt f A) (hI : IS A) (e : ∀ i, i < 247 → f' i = f i) : DAt f' A := by
  obtain ⟨h1, h2, h3, h4, h5, h6, h7, h8, h9⟩ := id h
  have hw := hI.ws
  have hlen : A.q.length ≤ 24 := nd_len hw.2.1 (fun x hx => by have := (hw.2.2.1 x hx).1; omega)
  have h40 := h1.1
  refine ⟨⟨h1.1, (e 2 (by omega)).trans h1.2.1, fun i hi => ?_⟩, h2, (e 0 (by omega)).trans h3, (e 1 (by omega)).trans h4, (e 3 (by omega)).trans h5, (e 4 (by omega)).trans h6, (e 5 (by omega)).trans h7, fun p hp => ?_, fun hG => ?_⟩
  · have hi' : i < A.g.n := hi
    obtain ⟨g1, g2, g3, g4, g5⟩ := h1.2.2 i hi
    exact ⟨g1, g2, (e _ (by omega)).trans g3, (e _ (by omega)).trans g4, (e _ (by omega)).trans g5⟩
  · have hp' : p < A.m := hp
    obtain ⟨g3, g4, g5⟩ := h8 p hp
    exact ⟨(e _ (by omega)).trans g3, (e _ (by omega)).trans g4, (e _ (by omega)).trans g5⟩
  · obtain ⟨k1, k2, k3⟩ := h9 hG
    refine ⟨(e 6 (by omega)).trans k1, fun x hx => (e _ (by omega)).trans (k2 x hx), fun p hp hTp => (e _ (by omega)).trans (k3 p hp hTp)⟩
def RM (M : sx_M) (st : ST) : Prop := DS M 20 st.A ∧ M.1 17 0 10 = nI st.L.length ∧ st.L.length ≤ 14 ∧ (∀ i, i < st.L.length → ∃ B, st.L[i]? = some B ∧ DAt (fun j => M.1 22 0 (247 * i + j)) B) ∧ (M.1 24 0 0 = bI01 st.s.1.isSome ∧ ∀ B, st.s.1 = some B → DAt (fun j => M.1 23 0 (0 + j)) B) ∧ (M.1 24 0 1 = bI01 st.s.2.isSome ∧ ∀ B, st.s.2 = some B → DAt (fun j => M.1 23 0 (247 + j)) B) ∧ st.l.length ≤ 120 ∧ (∀ c ∈ st.l, c < 256) ∧ M.1 17 0 2 = nI st.l.length ∧ ∀ i, i < st.l.length → M.1 18 0 i = nI (st.l.getD i 0)
theorem CS.cong {M M' : sx_M} {s : Nat} {A : SH} (h : CS M s A) (e : ∀ k, 1 ≤ k → k ≤ 8 → M'.1 k s = M.1 k s) : CS M' s A := by
  have hf : Fr (fun k s' => ¬ (1 ≤ k ∧ k ≤ 8 ∧ s' = s)) M (M'.1, M.2) := ⟨fun k s' hk => by
    have := Classical.not_not.mp hk
    obtain ⟨k1, k2, rfl⟩ := this
    exact e k k1 k2, rfl⟩
  have := CS.fr (M' := (M'.1, M.2)) h hf (fun k k1 k2 q => q ⟨k1, k2, rfl⟩)
  exact this
theorem PS.cong {M M' : sx_M} {L : List SH} (h : PS M L) (e : ∀ k s, k ≤ 9 → (k = 9 ∨ 4 ≤ s) → M'.1 k s = M.1 k s) : PS M' L := by
  obtain ⟨h1, h2, o, h3, h4, h5⟩ := h
  unfold PS
  rw [e 9 0 (by omega) (by omega)]
  refine ⟨h1, h2, o, h3, h4, fun i hi => ?_⟩
  obtain ⟨A, eA, c⟩ := h5 i hi
  exact ⟨A, eA, c.cong (fun k k1 k2 => e k _ (by omega) (by omega))⟩
theorem TS.cong {M M' : sx_M} {l : List Nat} (h : TS M l) (e13 : M'.1 13 0 = M.1 13 0) (e14 : M'.1 14 0 = M.1 14 0) : TS M' l := by
  unfold TS
  rw [e13, e14]
  exact h
theorem RC.cong {M M' : sx_M} {st : ST} (h : RC M st) (e : ∀ k s, k ≤ 14 → ¬ (k ≤ 8 ∧ s = 1) → M'.1 k s = M.1 k s) : RC M' st := by
  obtain ⟨h1, h2, ⟨h3, h4⟩, ⟨h5, h6⟩, h7⟩ := h
  refine ⟨h1.cong (fun k _ _ => e k 0 (by omega) (by omega)), h2.cong (fun k s hk hs => e k s (by omega) (by omega)), ⟨?_, fun B hB => (h4 B hB).cong (fun k _ _ => e k 2 (by omega) (by omega))⟩, ⟨?_, fun B hB => (h6 B hB).cong (fun k _ _ => e k 3 (by omega) (by omega))⟩, h7.cong (e 13 0 (by omega) (by omega)) (e 14 0 (by omega) (by omega))⟩
  · rw [e 12 0 (by omega) (by omega)]; exact h3
  · rw [e 12 0 (by omega) (by omega)]; exact h5
theorem RM.cong {M M' : sx_M} {st : ST} (h : RM M st) (e : ∀ k, k = 18 ∨ k = 20 ∨ k = 22 ∨ k = 23 ∨ k = 24 → M'.1 k 0 = M.1 k 0) (e10 : M'.1 17 0 10 = M.1 17 0 10) (e2 : M'.1 17 0 2 = M.1 17 0 2) : RM M' st := by
  unfold RM
  rw [e10, e2, e 18 (by omega), e 22 (by omega), e 23 (by omega), e 24 (by omega)]
  refine ⟨?_, h.2⟩
  have := h.1
  rw [DAt_iff] at this ⊢
  rw [e 20 (by omega)]; exact this
theorem RM.act {M M' : sx_M} {st : ST} {A' : SH} (h : RM M st) (d : DS M' 20 A') (e : ∀ k, k ≠ 20 → k ≠ 21 → k ≠ 25 → M'.1 k 0 = M.1 k 0) : RM M' (A', st.2) := by
  unfold RM
  rw [e 18 (by omega) (by omega) (by omega), e 22 (by omega) (by omega) (by omega), e 23 (by omega) (by omega) (by omega), e 24 (by omega) (by omega) (by omega), e 17 (by omega) (by omega) (by omega)]
  exact ⟨d, h.2⟩
/-- what a call of the class and of the reference do: the same -/
def PAIR (c : sx_M → Option ((Nat ⊕ Int32) × sx_M)) (m : sx_M → Option (Int32 × sx_M)) (ex : Nat → Int32) : Prop :=
  ∀ (st : ST) (M : sx_M), INV st → RC M st → ∃ (o : Nat ⊕ Int32) (st' : ST), INV st' ∧ wp (c M) (fun r => r.1 = o ∧ RC r.2 st' ∧ ∀ k s, 17 ≤ k → r.2.1 k s = M.1 k s) ∧ ∀ M2, RM M2 st → wp (m M2) (fun q => RM q.2 st' ∧ (∀ k s, k ≤ 16 → q.2.1 k s = M2.1 k s) ∧ q.2.1 17 0 0 = o.elim ex (fun _ => 0) ∧ ∀ v, o = .inr v → q.1 = v)
theorem m_refused {n : Nat} (hn : n ≤ 3) (M : sx_M) : f8_refused (nI n) M = some (bI01 (decide (0 < n)), sx_set M 17 0 0 (nI n)) := by
  refine wp_get ?_
  rw [f8_refused]
  with_reducible refine wp_bd ?_
  with_reducible refine wp_bd ?_
  with_reducible refine wp_if (fun c => ?_) (fun c => ?_) <;> rw [show (0 : Int32) = nI 0 from rfl, iI_le (by omega) (by omega)] at c
  · refine wp_ifp (Or.inl rfl) (wp_some ?_)
    rw [decide_eq_false (by omega)]; rfl
  · refine wp_ifp (Or.inr rfl) (wp_some ?_)
    rw [decide_eq_true (by omega)]; rfl
theorem RM.ref {M : sx_M} {st : ST} (h : RM M st) (v : Int32) : RM (sx_set M 17 0 0 v) st := by
  refine h.cong (fun k hk => ?_) (rd_n _ _ _ _ _ _ _ _ (by omega)) (rd_n _ _ _ _ _ _ _ _ (by omega))
  funext i
  rw [st_at, if_neg (by omega)]
theorem m_no {M : sx_M} {st : ST} (h : RM M st) {n : Nat} (h1 : 1 ≤ n) (hn : n ≤ 3) {X : sx_M → Option (Int32 × sx_M)} {k : Nat} {ex : Nat → Int32} (hex : ex k = nI n) : wp (sx_b2 (f8_refused (nI n) M) fun v3 M4 => if v3 = 0 then X M4 else some ((0 : Int32), M4)) (fun q => RM q.2 st ∧ (∀ k s, k ≤ 16 → q.2.1 k s = M.1 k s) ∧ q.2.1 17 0 0 = (.inl k : Nat ⊕ Int32).elim ex (fun _ => 0) ∧ ∀ v, (.inl k : Nat ⊕ Int32) = .inr v → q.1 = v) := by
  refine wp_b2 (m_refused hn M) ?_
  rw [decide_eq_true (by omega)]
  refine wp_ifn (by decide) ?_
  refine wp_some ⟨h.ref _, fun k s hk => ?_, ?_, fun v q => by cases q⟩
  · funext i
    show (sx_set M 17 0 0 _).1 k s i = _
    rw [st_at, if_neg (by omega)]
  · show (sx_set M 17 0 0 (nI n)).1 17 0 0 = ex k
    rw [rd_e, hex]
theorem m_yes {M : sx_M} {X Y : sx_M → Option (Int32 × sx_M)} {Q : Int32 × sx_M → Prop} (h : wp (X (sx_set M 17 0 0 0)) Q) : wp (sx_b2 (f8_refused (0 : Int32) M) fun v3 M4 => if v3 = 0 then X M4 else Y M4) Q := by
  refine wp_b2 (m_refused (n := 0) (by omega) M) ?_
  exact wp_ifp (by decide) h
/-- the frame and the answer of a call that goes through -/
def GOOD (M2 : sx_M) (st' : ST) (v : Int32) (q : Int32 × sx_M) : Prop := RM q.2 st' ∧ (∀ k s, k ≤ 16 → q.2.1 k s = M2.1 k s) ∧ q.2.1 17 0 0 = 0 ∧ q.1 = v
theorem GOOD.to {M2 : sx_M} {st' : ST} {v : Int32} {ex : Nat → Int32} {q : Int32 × sx_M} (h : GOOD M2 st' v q) : RM q.2 st' ∧ (∀ k s, k ≤ 16 → q.2.1 k s = M2.1 k s) ∧ q.2.1 17 0 0 = (.inr v : Nat ⊕ Int32).elim ex (fun _ => 0) ∧ ∀ w, (.inr v : Nat ⊕ Int32) = .inr w → q.1 = w := ⟨h.1, h.2.1, h.2.2.1, fun w e => by cases e; exact h.2.2.2⟩
theorem INV.push {st : ST} (h : INV st) : ∀ B ∈ push14 st.L st.A, IS B := by
  intro B hB
  unfold push14 at hB
  rcases List.mem_append.mp hB with hB | hB
  · split at hB
    · exact h.2.1 B (List.mem_of_mem_drop hB)
    · exact h.2.1 B hB
  · rw [List.mem_singleton.mp hB]; exact h.1
theorem push14_len (L : List SH) (A : SH) (h : L.length ≤ 14) : (push14 L A).length ≤ 14 := by
  unfold push14
  rw [List.length_append]
  split
  · rw [List.length_drop]; show L.length - 1 + 1 ≤ 14; omega
  · show L.length + 1 ≤ 14; omega
theorem w8_remember {M : sx_M} {st : ST} (h : RM M st) (hI : INV st) : wp (f8_remember M) (fun M' => RM M' (st.A, push14 st.L st.A, st.2.2) ∧ (∀ k s, k ≤ 16 → M'.1 k s = M.1 k s) ∧ M'.1 17 0 0 = M.1 17 0 0) := by
  obtain ⟨h1, h2, h3, h4, h5, h6, h7, h8, h9, h10⟩ := id h
  rw [f8_remember]
  with_reducible refine wp_bd ?_
  with_reducible refine wp_bd ?_
  have main : ∀ (M2 : sx_M) (L2 : List SH), (∀ B ∈ L2, IS B) → RM M2 (st.A, L2, st.2.2) → L2.length < 14 → (∀ k s, k ≤ 16 → M2.1 k s = M.1 k s) → M2.1 17 0 0 = M.1 17 0 0 → wp (sx_bd (M2.1 17 0 10) fun v3 =>
    (f8_copy 20 (0 : Int32) 22 ((247 : Int32) * v3) (247 : Int32) M2).bind fun M4 =>
    sx_bd (M4.1 17 0 10) fun v5 =>
    sx_bd (sx_set M4 17 0 10 (v5 + (1 : Int32))) fun M6 =>
    some M6) (fun M' => RM M' (st.A, L2 ++ [st.A], st.2.2) ∧ (∀ k s, k ≤ 16 → M'.1 k s = M.1 k s) ∧ M'.1 17 0 0 = M.1 17 0 0) := fun M2 L2 hL2 r2 hlt fr2 e0 => by
    obtain ⟨k1, k2, k3, k4, k5, k6, k7, k8, k9, k10⟩ := id r2
    with_reducible refine wp_bd ?_
    rw [k2, show (247 : Int32) = nI 247 from rfl, nI_mul]
    obtain ⟨M4, e4, c1, c2, f4⟩ := w8_copy (M := M2) (ka := 20) (kb := 22) (a := 0) (b := 247 * L2.length) (n := 247) (by omega) (by show 0 + 247 ≤ 247; omega) (by show _ ≤ 3458; omega) (Or.inl (by omega))
    refine wp_call e4 ?_
    have o4 : ∀ k s, k ≠ 22 → M4.1 k s = M2.1 k s := fun k s hk => f4.1 k s (fun q => hk q.1)
    have e10 : M4.1 17 0 10 = nI L2.length := by rw [o4 17 0 (by omega)]; exact k2
    with_reducible refine wp_bd ?_
    with_reducible refine wp_bd ?_
    rw [e10, iI_succ]
    have r6 : ∀ k s i, ¬ (k = 17 ∧ s = 0 ∧ i = 10) → (sx_set M4 17 0 10 (nI (L2.length + 1))).1 k s i = M4.1 k s i := fun k s i hk => by rw [st_at, if_neg hk]
    have r6k : ∀ k s, k ≠ 17 → (sx_set M4 17 0 10 (nI (L2.length + 1))).1 k s = M4.1 k s := fun k s hk => by funext i; exact r6 k s i (fun q => hk q.1)
    refine wp_some ⟨⟨?_, ?_, ?_, fun i hi => ?_, ⟨?_, fun B hB => ?_⟩, ⟨?_, fun B hB => ?_⟩, k7, k8, ?_, fun i hi => ?_⟩, fun k s hk => ?_, ?_⟩
    · rw [DAt_iff, r6k 20 0 (by omega), o4 20 0 (by omega)]; exact k1
    · show (sx_set M4 17 0 10 _).1 17 0 10 = nI (L2 ++ [st.A]).length
      rw [rd_e, List.length_append]; rfl
    · show (L2 ++ [st.A]).length ≤ 14
      rw [List.length_append]; exact hlt
    · have hi' : i < (L2 ++ [st.A]).length := hi
      rw [List.length_append] at hi'
      have hi2 : i < L2.length + 1 := hi'
      show ∃ B, (L2 ++ [st.A])[i]? = some B ∧ DAt (fun j => (sx_set M4 17 0 10 (nI (L2.length + 1))).1 22 0 (247 * i + j)) B
      rw [r6k 22 0 (by omega)]
      by_cases q : i = L2.length
      · subst q
        refine ⟨st.A, by simp, DAt.cong (f := M2.1 20 0) (DAt_iff.mp k1) hI.1 (fun j hj => ?_)⟩
        have := c1 j hj
        rw [Nat.zero_add] at this
        exact this
      · obtain ⟨B, eB, dB⟩ := k4 i (by show i < L2.length; omega)
        refine ⟨B, by rw [List.getElem?_append_left (by omega)]; exact eB, ?_⟩
        exact DAt.cong dB (hL2 B (List.mem_of_getElem? eB)) (fun j hj => c2 _ (Or.inl (by omega)))
    · rw [r6k 24 0 (by omega), o4 24 0 (by omega)]; exact k5.1
    · rw [r6k 23 0 (by omega), o4 23 0 (by omega)]; exact k5.2 B hB
    · rw [r6k 24 0 (by omega), o4 24 0 (by omega)]; exact k6.1
    · rw [r6k 23 0 (by omega), o4 23 0 (by omega)]; exact k6.2 B hB
    · rw [r6 17 0 2 (by omega), o4 17 0 (by omega)]; exact k9
    · rw [r6k 18 0 (by omega), o4 18 0 (by omega)]; exact k10 i hi
    · rw [r6k k s (by omega), o4 k s (by omega)]; exact fr2 k s hk
    · rw [r6 17 0 0 (by omega), o4 17 0 (by omega)]; exact e0
  unfold push14
  have hlit : (14 : Int32) = nI 14 := rfl
  with_reducible refine wp_if (fun c => ?_) (fun c => ?_) <;> rw [h2, hlit, iI_eq (by omega) (by omega)] at c
  · have hc14 : st.L.length = 14 := c
    rw [if_pos hc14]
    obtain ⟨M8, e8, c1, c2, f8⟩ := w8_copy (M := M) (ka := 22) (kb := 22) (a := 247) (b := 0) (n := 3211) (by omega) (by show 247 + 3211 ≤ 3458; omega) (by show 0 + 3211 ≤ 3458; omega) (Or.inr (Or.inl (by omega)))
    refine wp_call e8 ?_
    have o8 : ∀ k s, k ≠ 22 → M8.1 k s = M.1 k s := fun k s hk => f8.1 k s (fun q => hk q.1)
    have e10 : M8.1 17 0 10 = nI 14 := by rw [o8 17 0 (by omega), h2, hc14]
    with_reducible refine wp_bd ?_
    with_reducible refine wp_bd ?_
    rw [e10, iI_pred (by omega)]
    have r6 : ∀ k s i, ¬ (k = 17 ∧ s = 0 ∧ i = 10) → (sx_set M8 17 0 10 (nI (14 - 1))).1 k s i = M8.1 k s i := fun k s i hk => by rw [st_at, if_neg hk]
    have r6k : ∀ k s, k ≠ 17 → (sx_set M8 17 0 10 (nI (14 - 1))).1 k s = M8.1 k s := fun k s hk => by funext i; exact r6 k s i (fun q => hk q.1)
    refine main _ (st.L.drop 1) (fun B hB => hI.2.1 B (List.mem_of_mem_drop hB)) ⟨?_, ?_, ?_, fun i hi => ?_, ⟨?_, fun B hB => ?_⟩, ⟨?_, fun B hB => ?_⟩, h7, h8, ?_, fun i hi => ?_⟩ (by rw [List.length_drop]; omega) (fun k s hk => ?_) ?_
    · rw [DAt_iff, r6k 20 0 (by omega), o8 20 0 (by omega)]; exact h1
    · show (sx_set M8 17 0 10 _).1 17 0 10 = nI (st.L.drop 1).length
      rw [rd_e, List.length_drop, hc14]
    · show (st.L.drop 1).length ≤ 14
      rw [List.length_drop]; omega
    · have hi' : i < (st.L.drop 1).length := hi
      rw [List.length_drop] at hi'
      obtain ⟨B, eB, dB⟩ := h4 (1 + i) (by omega)
      refine ⟨B, by show (st.L.drop 1)[i]? = some B; rw [List.getElem?_drop]; exact eB, ?_⟩
      rw [r6k 22 0 (by omega)]
      refine DAt.cong dB (hI.2.1 B (List.mem_of_getElem? eB)) (fun j hj => ?_)
      have := c1 (247 * i + j) (by omega)
      rw [show 0 + (247 * i + j) = 247 * i + j by omega, show 247 + (247 * i + j) = 247 * (1 + i) + j by omega] at this
      exact this
    · rw [r6k 24 0 (by omega), o8 24 0 (by omega)]; exact h5.1
    · rw [r6k 23 0 (by omega), o8 23 0 (by omega)]; exact h5.2 B hB
    · rw [r6k 24 0 (by omega), o8 24 0 (by omega)]; exact h6.1
    · rw [r6k 23 0 (by omega), o8 23 0 (by omega)]; exact h6.2 B hB
    · rw [r6 17 0 2 (by omega), o8 17 0 (by omega)]; exact h9
    · rw [r6k 18 0 (by omega), o8 18 0 (by omega)]; exact h10 i hi
    · rw [r6k k s (by omega), o8 k s (by omega)]
    · rw [r6 17 0 0 (by omega), o8 17 0 (by omega)]
  · have hc14 : ¬ st.L.length = 14 := c
    rw [if_neg hc14]
    exact main M st.L hI.2.1 h (by omega) (fun _ _ _ => rfl) rfl
