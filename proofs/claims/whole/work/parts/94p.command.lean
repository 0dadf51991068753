/-! COMMANDS OF A TEXT -/
theorem sp1_of (c : Nat) : sp 1 c = (if c = 110 then 2 else if c = 116 ∨ c = 120 ∨ c = 102 ∨ c = 109 then 3 else if c = 112 then 7 else if c = 98 ∨ c = 115 then 1 else 99) := rfl
theorem sp2_of (c : Nat) : sp 2 c = (if 49 ≤ c ∧ c ≤ 57 then 1 else 99) := rfl
theorem sp3_of (c : Nat) : sp 3 c = (if c = 104 then 4 else if c = 50 then 6 else if c = 48 ∨ c = 49 then 5 else 99) := rfl
theorem sp4_of (c : Nat) : sp 4 c = (if 48 ≤ c ∧ c ≤ 51 then 7 else 99) := rfl
theorem sp5_of (c : Nat) : sp 5 c = (if 48 ≤ c ∧ c ≤ 57 then 7 else 99) := rfl
theorem sp6_of (c : Nat) : sp 6 c = (if 48 ≤ c ∧ c ≤ 51 then 7 else 99) := rfl
theorem sp7_of (c : Nat) : sp 7 c = (if c = 50 then 9 else if c = 48 ∨ c = 49 then 8 else 99) := rfl
theorem sp8_of (c : Nat) : sp 8 c = (if 48 ≤ c ∧ c ≤ 57 then 1 else 99) := rfl
theorem sp9_of (c : Nat) : sp 9 c = (if 48 ≤ c ∧ c ≤ 51 then 1 else 99) := rfl
/-- after two digits of a part: s is 7 or 3 -/
theorem rn_two {l : List Nat} {p : Nat} (h : rn l p = 7 ∨ (rn l p = 3 ∧ l.getD p 0 ≠ 104)) (hp : PO l p) : rn l (p + 2) = (if rn l p = 7 then 1 else 7) := by
  obtain ⟨-, h1, h2, h3, h4⟩ := hp
  have e1 : rn l (p + 1) = sp (rn l p) (l.getD p 0) := rfl
  have e2 : rn l (p + 2) = sp (rn l (p + 1)) (l.getD (p + 1) 0) := rfl
  rcases h with h | ⟨h, hne⟩
  · rw [if_pos h]
    rw [h, sp7_of] at e1
    by_cases q : l.getD p 0 = 50
    · rw [if_pos q] at e1 h4
      rw [e2, e1, sp9_of, if_pos ⟨h3, h4⟩]
    · rw [if_neg q] at e1 h4
      rw [if_pos (by omega)] at e1
      rw [e2, e1, sp8_of, if_pos ⟨h3, h4⟩]
  · rw [if_neg (by omega)]
    rw [h, sp3_of, if_neg hne] at e1
    by_cases q : l.getD p 0 = 50
    · rw [if_pos q] at e1 h4
      rw [e2, e1, sp6_of, if_pos ⟨h3, h4⟩]
    · rw [if_neg q] at e1 h4
      rw [if_pos (by omega)] at e1
      rw [e2, e1, sp5_of, if_pos ⟨h3, h4⟩]
theorem ERR_two {l : List Nat} {p p' : Nat} (hpl : p ≤ l.length) (h : rn l p = 7 ∨ (rn l p = 3 ∧ (p < l.length → l.getD p 0 ≠ 104))) (hp : (p' = p ∧ ¬ (p < l.length ∧ 48 ≤ l.getD p 0 ∧ l.getD p 0 ≤ 50)) ∨ (p' = p + 1 ∧ p < l.length ∧ 48 ≤ l.getD p 0 ∧ l.getD p 0 ≤ 50 ∧ ¬ (p + 1 < l.length ∧ 48 ≤ l.getD (p + 1) 0 ∧ l.getD (p + 1) 0 ≤ (if l.getD p 0 = 50 then 51 else 57)))) : ERR l p' := by
  have e1 : rn l (p + 1) = sp (rn l p) (l.getD p 0) := rfl
  have e2 : rn l (p + 2) = sp (rn l (p + 1)) (l.getD (p + 1) 0) := rfl
  rcases hp with ⟨rfl, hno⟩ | ⟨rfl, h1, h2, h3, hno⟩
  · by_cases q : p' < l.length
    · refine Or.inl ⟨q, by rcases h with h | ⟨h, -⟩ <;> omega, ?_⟩
      rcases h with h | ⟨h, hne⟩
      · rw [e1, h, sp7_of, if_neg (by omega), if_neg (by omega)]
      · rw [e1, h, sp3_of, if_neg (hne q), if_neg (by omega), if_neg (by omega)]
    · exact Or.inr ⟨by omega, by rcases h with h | ⟨h, -⟩ <;> omega, by rcases h with h | ⟨h, -⟩ <;> omega⟩
  · have hs : rn l (p + 1) = (if rn l p = 7 then (if l.getD p 0 = 50 then 9 else 8) else (if l.getD p 0 = 50 then 6 else 5)) := by
      rcases h with h | ⟨h, hne⟩
      · rw [if_pos h, e1, h, sp7_of]
        by_cases q : l.getD p 0 = 50
        · rw [if_pos q, if_pos q]
        · rw [if_neg q, if_neg q, if_pos (by omega)]
      · rw [if_neg (by omega), e1, h, sp3_of, if_neg (hne h1)]
        by_cases q : l.getD p 0 = 50
        · rw [if_pos q, if_pos q]
        · rw [if_neg q, if_neg q, if_pos (by omega)]
    have hne : rn l (p + 1) ≠ 99 ∧ rn l (p + 1) ≠ 1 := by rw [hs]; constructor <;> (repeat' split) <;> omega
    by_cases q : p + 1 < l.length
    · refine Or.inl ⟨q, hne.1, ?_⟩
      show rn l (p + 2) = 99
      rw [e2, hs]
      by_cases q7 : rn l p = 7 <;> by_cases q50 : l.getD p 0 = 50
      · rw [if_pos q7, if_pos q50, sp9_of, if_neg (by rw [if_pos q50] at hno; omega)]
      · rw [if_pos q7, if_neg q50, sp8_of, if_neg (by rw [if_neg q50] at hno; omega)]
      · rw [if_neg q7, if_pos q50, sp6_of, if_neg (by rw [if_pos q50] at hno; omega)]
      · rw [if_neg q7, if_neg q50, sp5_of, if_neg (by rw [if_neg q50] at hno; omega)]
    · exact Or.inr ⟨by omega, hne⟩
/-- a thing above, told at p -/
def TO (l : List Nat) (p : Nat) : Prop := (l.getD p 0 = 104 ∧ p + 1 < l.length ∧ 48 ≤ l.getD (p + 1) 0 ∧ l.getD (p + 1) 0 ≤ 51) ∨ (l.getD p 0 ≠ 104 ∧ PO l p)
def tv (l : List Nat) (p : Nat) : Int32 := if l.getD p 0 = 104 then (-1 : Int32) - nI (l.getD (p + 1) 0 - 48) else nI (pv l p)
theorem TO_lt {l : List Nat} {p : Nat} (h : TO l p) : p + 1 < l.length := by rcases h with ⟨-, q, -⟩ | ⟨-, q, -⟩ <;> exact q
theorem rn_thing {l : List Nat} {p : Nat} (h : rn l p = 3) (hp : TO l p) : rn l (p + 2) = 7 := by
  rcases hp with ⟨h1, h2, h3, h4⟩ | ⟨h1, h2⟩
  · show sp (sp (rn l p) (l.getD p 0)) (l.getD (p + 1) 0) = 7
    rw [h, sp3_of, if_pos h1, sp4_of, if_pos ⟨h3, h4⟩]
  · rw [rn_two (Or.inr ⟨h, h1⟩) h2, if_neg (by omega)]
theorem r_thing {M : sx_M} {l : List Nat} {p : Nat} (h : TX M l true p) (hr : rn l p = 3) : wp (f8_thingRead M) (fun q => FRT M q.2 ∧ ((TO l p ∧ TX q.2 l true (p + 2) ∧ q.1 = tv l p) ∨ (¬ TO l p ∧ ∃ p', TX q.2 l false p' ∧ ERR l p'))) := by
  have hl := h.1
  have hpl := h.2.2.2.2.2.2
  rw [f8_thingRead]
  refine wp_call (r_isNext h (c := 104) (by omega)) ?_
  by_cases q : p < l.length ∧ l.getD p 0 = 104
  · rw [decide_eq_true q]
    refine wp_ifn (by decide) ?_
    obtain ⟨M5, e5, t5, f5⟩ := r_accept h true (fun _ _ => q.1)
    refine wp_call e5 ?_
    have t5' : TX M5 l true (p + 1) := t5
    obtain ⟨⟨v6, M7⟩, e7, f7, h7⟩ := r_digit t5' (lo := 0) (hi := 3) (by omega) (by omega)
    dsimp only at f7 h7
    refine wp_b2 e7 ?_
    rcases h7 with ⟨-, a1, a2, a3, t7, rfl⟩ | ⟨t7, rfl, hno⟩
    · refine wp_some ⟨f5.trans f7, Or.inl ⟨Or.inl ⟨q.2, a1, by omega, by omega⟩, t7, ?_⟩⟩
      unfold tv
      rw [if_pos q.2]
    · have hno' := hno.resolve_left (by decide)
      refine wp_some ⟨f5.trans f7, Or.inr ⟨?_, p + 1, t7, ?_⟩⟩
      · rintro (⟨-, z1, z2, z3⟩ | ⟨z, -⟩)
        · exact hno' ⟨z1, by omega, by omega⟩
        · exact z q.2
      · have e1 : rn l (p + 1) = 4 := by show sp (rn l p) (l.getD p 0) = 4; rw [hr, sp3_of, if_pos q.2]
        by_cases z : p + 1 < l.length
        · refine Or.inl ⟨z, by omega, ?_⟩
          show sp (rn l (p + 1)) (l.getD (p + 1) 0) = 99
          rw [e1, sp4_of, if_neg (by omega)]
        · exact Or.inr ⟨by omega, by omega, by omega⟩
  · rw [decide_eq_false q]
    refine wp_ifp rfl ?_
    obtain ⟨⟨v3, M4⟩, e4, f4, h4⟩ := r_part h
    dsimp only at f4 h4
    refine wp_b2 e4 ?_
    rcases h4 with ⟨hpo, t4, rfl⟩ | ⟨hno, p', t4, hp'⟩
    · have hne : l.getD p 0 ≠ 104 := fun z => q ⟨by have := hpo.1; omega, z⟩
      refine wp_some ⟨f4, Or.inl ⟨Or.inr ⟨hne, hpo⟩, t4, ?_⟩⟩
      unfold tv
      rw [if_neg hne]
    · refine wp_some ⟨f4, Or.inr ⟨?_, p', t4, ERR_two hpl (Or.inr ⟨hr, fun z1 z2 => q ⟨z1, z2⟩⟩) hp'⟩⟩
      rintro (⟨z1, z2, -⟩ | ⟨-, z⟩)
      · exact q ⟨by omega, z1⟩
      · exact hno z
theorem FRT.lo {M M' : sx_M} (h : FRT M M') : M'.1 17 0 5 = M.1 17 0 5 := h 17 0 5 (by omega)
/-! the class reads -/
theorem c_codeAt {M : sx_M} {l : List Nat} (h : TS M l) {i : Nat} (hi : i < l.length) : f6_codeAt (nI i) M = some (nI (l.getD i 0)) := by
  have hl := h.1
  refine wp_get ?_
  rw [f6_codeAt]
  with_reducible refine wp_bd ?_
  with_reducible refine wp_bd ?_
  refine wp_ifn (by rw [show (0 : Int32) = nI 0 from rfl, iI_lt (by omega) (by omega)]; omega) ?_
  have e13 : M.1 13 0 1 = nI l.length := h.2.2.1
  with_reducible refine wp_bd ?_
  refine wp_ifn (by rw [e13, iI_le (by omega) (by omega)]; omega) ?_
  refine wp_ifn (by rw [show (120 : Int32) = nI 120 from rfl, iI_le (by omega) (by omega)]; omega) ?_
  refine wp_ifp (sx_in_n (by omega) (by omega)) ?_
  with_reducible refine wp_bd ?_
  refine wp_some ?_
  rw [nI_cl (by omega)]; exact h.2.2.2 i hi
theorem c_numberAt {M : sx_M} {l : List Nat} (h : TS M l) {i : Nat} (hi : PO l i) : f6_numberAt (nI i) M = some (nI (pv l i)) := by
  have hl := h.1
  obtain ⟨h0, h1, h2, h3, h4⟩ := hi
  refine wp_get ?_
  rw [f6_numberAt]
  refine wp_call (c_codeAt h (by omega)) ?_
  rw [iI_succ]
  refine wp_call (c_codeAt h h0) ?_
  refine wp_some ?_
  rw [show (48 : Int32) = nI 48 from rfl, show (10 : Int32) = nI 10 from rfl, nI_sub h1, nI_mul, nI_add, nI_sub (by omega)]
  unfold pv
  congr 1; omega
theorem c_thingAt {M : sx_M} {l : List Nat} (h : TS M l) {i : Nat} (hi : TO l i) : f6_thingAt (nI i) M = some (tv l i) := by
  have hl := h.1
  have hlt := TO_lt hi
  have hc := h.code (i := i) (by omega)
  refine wp_get ?_
  rw [f6_thingAt]
  refine wp_call (c_codeAt h (by omega)) ?_
  with_reducible refine wp_bd ?_
  unfold tv
  rcases hi with ⟨h1, h2, h3, h4⟩ | ⟨h1, h2⟩
  · rw [h1, if_pos rfl]
    refine wp_ifp rfl ?_
    rw [iI_succ]
    refine wp_call (c_codeAt h h2) ?_
    refine wp_some ?_
    have : ∀ c, c < 4 → ((48 : Int32) - nI (48 + c)) - (1 : Int32) = (-1 : Int32) - nI c := by decide +kernel
    have := this (l.getD (i + 1) 0 - 48) (by omega)
    rw [show 48 + (l.getD (i + 1) 0 - 48) = l.getD (i + 1) 0 by omega] at this
    exact this
  · rw [if_neg h1]
    refine wp_ifn (by rw [show (104 : Int32) = nI 104 from rfl, iI_eq (by omega) (by omega)]; exact h1) ?_
    refine wp_call (c_numberAt h h2) ?_
    exact wp_some rfl
theorem c_isCommand {M : sx_M} {l : List Nat} (h : TS M l) {i : Nat} (hi : i < l.length) : f6_isCommandAt (nI i) M = some (bI01 (decide (sp 1 (l.getD i 0) ≠ 99))) := by
  have hc := h.code hi
  refine wp_get ?_
  rw [f6_isCommandAt]
  refine wp_call (c_codeAt h hi) ?_
  refine wp_call (w6_paL hc M) ?_
  with_reducible refine wp_bd ?_
  unfold eS
  by_cases q : sp 1 (l.getD i 0) = 99
  · rw [if_pos q, decide_eq_false (fun z => z q)]
    exact wp_ifp rfl (wp_ifp (Or.inl rfl) (wp_some rfl))
  · have := (sp_lt 1 (l.getD i 0)).resolve_left q
    rw [if_neg q, decide_eq_true q]
    exact wp_ifn (nI_ne_m1 (by omega)) (wp_ifp (Or.inr rfl) (wp_some rfl))
/-- a command at p, of k characters, done to A -/
def CMD (l : List Nat) (p k : Nat) (A : SH) (ok : Bool) (A' : SH) : Prop := 1 ≤ k ∧ p + k ≤ l.length ∧ rn l (p + k) = 1 ∧ IS A' ∧ sp 1 (l.getD p 0) ≠ 99 ∧ (∀ j, p < j → j < p + k → sp 1 (l.getD j 0) = 99) ∧ (∀ M, TS M l → CS M 0 A → wp (f6_obeyAt (nI p) 0 M) (fun r => r.1 = bI01 ok ∧ CS r.2 0 A' ∧ Fr (pSh 0) M r.2)) ∧ (∀ M lo, TX M l true p → DS M 19 A → M.1 17 0 5 = nI lo → wp (f8_readCommand M) (DONE M l (p + k) lo ok A'))
/-- no command at p -/
def NOC (l : List Nat) (p : Nat) (A : SH) : Prop := ∃ p', ERR l p' ∧ ∀ M lo, TX M l true p → DS M 19 A → M.1 17 0 5 = nI lo → wp (f8_readCommand M) (fun M' => TX M' l false p' ∧ FRC M M')
