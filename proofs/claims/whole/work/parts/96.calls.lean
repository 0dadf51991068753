/-! THE LAW'S CALLS, CLASS AND REFERENCE ON ONE MEMORY (calls.py) -/
def BOTH (M : sx_M) (st : ST) : Prop := INV st ∧ RC M st ∧ RM M st
def exS (S : List Nat) (d k : Nat) : Int32 := nI (if S.getD k 0 = 0 then d else S.getD k 0)
def lWr (G : Nat → sx_M → Option (Int32 × sx_M)) (x : Option ((Nat ⊕ Int32) × sx_M)) : Option (Int32 × sx_M) :=
  sx_b2 x fun o M1 => o.elim (fun k => G k M1) (fun v => if sx_in (0 : Int32) 1 then sx_bd (sx_setL M1 30 0 ((0 : Int32)).toNatClampNeg v.toInt64) fun M2 => some ((0 : Int32), M2) else none)
theorem RM.same {M M' : sx_M} {st : ST} (h : RM M st) (e : ∀ k s, 17 ≤ k → M'.1 k s = M.1 k s) : RM M' st :=
  h.cong (fun k hk => e k 0 (by omega)) (by rw [e 17 0 (by omega)]) (by rw [e 17 0 (by omega)])
theorem RC.low {M M' : sx_M} {st : ST} (h : RC M st) (e : ∀ k s, k ≤ 16 → M'.1 k s = M.1 k s) : RC M' st :=
  h.cong (fun k s hk _ => e k s (by omega))
theorem law_call (c : sx_M → Option ((Nat ⊕ Int32) × sx_M)) (m W : sx_M → Option (Int32 × sx_M)) (S : List Nat) (hl : S.length ≤ 3) (hle : ∀ k, S.getD k 0 < 4) (h : ∀ d, PAIR c m (exS S d)) (hn : ∀ M, nl Prod.snd (m M) M.2) (G : Nat → sx_M → Option (Int32 × sx_M))
    (hG : ∀ k, k < 3 → S.getD k 0 ≠ 0 → ∀ M1, G k M1 = some (nI (S.getD k 0), M1)) (hW : ∀ M, W M = lWr G (c M)) {M : sx_M} {st : ST} (hB : BOTH M st) :
    ∃ v7 M8 v10 M11 st', W M = some (v7, M8) ∧ m M8 = some (v10, M11) ∧ BOTH M11 st' ∧ f8_thrown M11 = some v7 ∧ (v7 = 0 → lg_cmp (M11.2 30 0 ((0 : Int32)).toNatClampNeg) v10.toInt64 = 0) := by
  obtain ⟨hI, hR, hM⟩ := hB
  obtain ⟨o, st', hI', ⟨⟨o1, M1⟩, ec, e1, rc, fr⟩, hm⟩ := h 1000 st M hI hR
  dsimp only at e1 rc fr
  subst e1
  have hlist : ∀ k, o1 = .inl k → S.getD k 0 ≠ 0 := fun k ek hk => by
    obtain ⟨o2, st2, -, ⟨⟨o3, M3⟩, ec2, e2, -, -⟩, hm2⟩ := h 1001 st M hI hR
    have e3 : o1 = o3 := congrArg Prod.fst (Option.some.inj (ec.symm.trans ec2))
    obtain ⟨q, eq, -, -, z1, -⟩ := hm M hM
    obtain ⟨q', eq', -, -, z2, -⟩ := hm2 M hM
    have eqq : q = q' := Option.some.inj (eq.symm.trans eq')
    have e2' : o3 = o2 := e2
    have eo : o2 = .inl k := e2'.symm.trans (e3.symm.trans ek)
    rw [ek] at z1
    rw [eo, ← eqq] at z2
    have z3 : exS S 1000 k = exS S 1001 k := z1.symm.trans z2
    unfold exS at z3
    rw [if_pos hk, if_pos hk, iI_eq (by omega) (by omega)] at z3
    omega
  cases o1 with
  | inl k =>
    have hk := hlist k rfl
    have hk3 : k < 3 := by
      refine Classical.byContradiction fun z => hk ?_
      rw [List.getD_eq_getElem?_getD, List.getElem?_eq_none (by omega)]; rfl
    obtain ⟨⟨v10, M11⟩, em, r11, f11, t11, -⟩ := hm M1 (hM.same fr)
    dsimp only at r11 f11 t11
    refine ⟨nI (S.getD k 0), M1, v10, M11, st', ?_, em, ⟨hI', rc.low f11, r11⟩, ?_, fun z => ?_⟩
    · rw [hW, ec]
      exact hG k hk3 hk M1
    · show some (M11.1 17 0 0) = _
      rw [t11]
      show some (exS S 1000 k) = _
      unfold exS
      rw [if_neg hk]
    · have := hle k
      rw [show (0 : Int32) = nI 0 from rfl, iI_eq (by omega) (by omega)] at z
      exact absurd z hk
  | inr v =>
    have hM8 : RM (sx_setL M1 30 0 ((0 : Int32)).toNatClampNeg v.toInt64) st := hM.same fr
    obtain ⟨⟨v10, M11⟩, em, r11, f11, t11, hv⟩ := hm _ hM8
    dsimp only at r11 f11 t11 hv
    have hlong : M11.2 = (sx_setL M1 30 0 ((0 : Int32)).toNatClampNeg v.toInt64).2 := hn _ _ em
    refine ⟨0, _, v10, M11, st', ?_, em, ⟨hI', rc.low f11, r11⟩, ?_, fun _ => ?_⟩
    · rw [hW, ec]
      show (if sx_in (0 : Int32) 1 then _ else none) = _
      rw [if_pos ⟨by decide, by decide⟩]; rfl
    · show some (M11.1 17 0 0) = _
      rw [t11]; rfl
    · rw [hlong, rdL_e, hv v rfl]
      exact (lcmp_0 _ _).mpr rfl
theorem law_call0 (c m : sx_M → Option (Int32 × sx_M)) (h : PAIR0 c m) {M : sx_M} {st : ST} (hB : BOTH M st) : ∃ v M8 M11 st', c M = some (v, M8) ∧ m M8 = some (v, M11) ∧ BOTH M11 st' := by
  obtain ⟨hI, hR, hM⟩ := hB
  obtain ⟨v, st', hI', ⟨⟨v1, M1⟩, ec, e1, rc, fr⟩, hm⟩ := h st M hI hR
  dsimp only at e1 rc fr
  subst e1
  obtain ⟨⟨v2, M11⟩, em, r11, f11, t11, e2⟩ := hm M1 (hM.same fr)
  dsimp only at r11 f11 t11 e2
  subst e2
  exact ⟨_, M1, M11, st', ec, em, hI', rc.low f11, r11⟩
theorem law_look (f : sx_M → Option Int32) (m : sx_M → Option (Int32 × sx_M)) (h : PAIR0 (fun M => (f M).bind fun v => some (v, M)) m) {M : sx_M} {st : ST} (hB : BOTH M st) : ∃ v M11 st', f M = some v ∧ m M = some (v, M11) ∧ BOTH M11 st' := by
  obtain ⟨v, M8, M11, st', ec, em, hB'⟩ := law_call0 _ m h hB
  have ec : (f M).bind (fun v => some (v, M)) = some (v, M8) := ec
  cases ef : f M with
  | none => rw [ef] at ec; cases ec
  | some w =>
    rw [ef] at ec
    have e := Option.some.inj ec
    have e1 : w = v := congrArg Prod.fst e
    have e2 : M = M8 := congrArg Prod.snd e
    subst e1
    rw [← e2] at em
    exact ⟨_, M11, st', rfl, em, hB'⟩
theorem law_tail {M11 : sx_M} {v7 v10 : Int32} {X Y : Option Int32} {Q : Int32 → Prop} (e3 : f8_thrown M11 = some v7) (e4 : v7 = 0 → lg_cmp (M11.2 30 0 ((0 : Int32)).toNatClampNeg) v10.toInt64 = 0) (hX : wp X Q) :
    wp ((f8_thrown M11).bind fun v12 =>
        if v12 = v7 then
          sx_bd (fun (_ : Unit) =>
            X) fun j217 =>
          if v7 = 0 then
            if sx_in (0 : Int32) 1 then
            sx_bd (M11.2 30 0 ((0 : Int32)).toNatClampNeg) fun v15 =>
            if (lg_cmp v15 v10.toInt64) = 0 then
              j217 ()
            else
              Y
            else none
          else
            j217 ()
        else
          Y) Q := by
  refine wp_call e3 ?_
  refine wp_ifp rfl ?_
  with_reducible refine wp_bd ?_
  with_reducible refine wp_if (fun c => ?_) (fun c => ?_)
  · refine wp_ifp ⟨by decide, by decide⟩ ?_
    with_reducible refine wp_bd ?_
    exact wp_ifp (e4 c) hX
  · exact hX
theorem law_append (a1 : Int32) {M : sx_M} {st : ST} (hB : BOTH M st) : ∃ v7 M8 v10 M11 st', fL_append a1 M = some (v7, M8) ∧ f8_append a1 M8 = some (v10, M11) ∧ BOTH M11 st' ∧ f8_thrown M11 = some v7 ∧ (v7 = 0 → lg_cmp (M11.2 30 0 ((0 : Int32)).toNatClampNeg) v10.toInt64 = 0) :=
  law_call (fun M => f7_append a1 M) (fun M => f8_append a1 M) (fun M => fL_append a1 M) [0, 1, 2] (by decide) (fun k => by rcases (show k = 0 ∨ k = 1 ∨ k = 2 ∨ ∃ j, k = j + 3 by rcases k with _ | _ | _ | j <;> simp) with rfl | rfl | rfl | ⟨j, rfl⟩ <;> exact Nat.le_of_ble_eq_true rfl) (fun d => pair_append a1 (ex := exS [0, 1, 2] d) (h1 := rfl) (h2 := rfl)) (fun M => nl_f8_append a1 M rfl) (fun k M1 => if k = 1 then some ((1 : Int32), M1) else if k = 2 then some ((2 : Int32), M1) else none)
    (fun k hk h M1 => by rcases (show k = 0 ∨ k = 1 ∨ k = 2 by omega) with rfl | rfl | rfl <;> first | rfl | exact absurd rfl h) (fun _ => rfl) hB
theorem law_load  {M : sx_M} {st : ST} (hB : BOTH M st) : ∃ v7 M8 v10 M11 st', fL_load  M = some (v7, M8) ∧ f8_load  M8 = some (v10, M11) ∧ BOTH M11 st' ∧ f8_thrown M11 = some v7 ∧ (v7 = 0 → lg_cmp (M11.2 30 0 ((0 : Int32)).toNatClampNeg) v10.toInt64 = 0) :=
  law_call (fun M => f7_load  M) (fun M => f8_load  M) (fun M => fL_load  M) [0, 0, 1] (by decide) (fun k => by rcases (show k = 0 ∨ k = 1 ∨ k = 2 ∨ ∃ j, k = j + 3 by rcases k with _ | _ | _ | j <;> simp) with rfl | rfl | rfl | ⟨j, rfl⟩ <;> exact Nat.le_of_ble_eq_true rfl) (fun d => pair_load  (ex := exS [0, 0, 1] d) (h2 := rfl)) (fun M => nl_f8_load M rfl) (fun k M1 => if k = 2 then some ((1 : Int32), M1) else none)
    (fun k hk h M1 => by rcases (show k = 0 ∨ k = 1 ∨ k = 2 by omega) with rfl | rfl | rfl <;> first | rfl | exact absurd rfl h) (fun _ => rfl) hB
theorem law_about (a1 : Int32) {M : sx_M} {st : ST} (hB : BOTH M st) : ∃ v7 M8 v10 M11 st', fL_about a1 M = some (v7, M8) ∧ f8_about a1 M8 = some (v10, M11) ∧ BOTH M11 st' ∧ f8_thrown M11 = some v7 ∧ (v7 = 0 → lg_cmp (M11.2 30 0 ((0 : Int32)).toNatClampNeg) v10.toInt64 = 0) :=
  law_call (fun M => f7_about a1 M) (fun M => f8_about a1 M) (fun M => fL_about a1 M) [0, 1, 0] (by decide) (fun k => by rcases (show k = 0 ∨ k = 1 ∨ k = 2 ∨ ∃ j, k = j + 3 by rcases k with _ | _ | _ | j <;> simp) with rfl | rfl | rfl | ⟨j, rfl⟩ <;> exact Nat.le_of_ble_eq_true rfl) (fun d => pair_about a1 (ex := exS [0, 1, 0] d) (h1 := rfl)) (fun M => nl_f8_about a1 M rfl) (fun k M1 => if k = 1 then some ((1 : Int32), M1) else none)
    (fun k hk h M1 => by rcases (show k = 0 ∨ k = 1 ∨ k = 2 by omega) with rfl | rfl | rfl <;> first | rfl | exact absurd rfl h) (fun _ => rfl) hB
theorem law_part (a1 : Int32) (a2 : Int32) {M : sx_M} {st : ST} (hB : BOTH M st) : ∃ v7 M8 v10 M11 st', fL_part a1 a2 M = some (v7, M8) ∧ f8_part a1 a2 M8 = some (v10, M11) ∧ BOTH M11 st' ∧ f8_thrown M11 = some v7 ∧ (v7 = 0 → lg_cmp (M11.2 30 0 ((0 : Int32)).toNatClampNeg) v10.toInt64 = 0) :=
  law_call (fun M => f7_part a1 a2 M) (fun M => f8_part a1 a2 M) (fun M => fL_part a1 a2 M) [1, 2, 0] (by decide) (fun k => by rcases (show k = 0 ∨ k = 1 ∨ k = 2 ∨ ∃ j, k = j + 3 by rcases k with _ | _ | _ | j <;> simp) with rfl | rfl | rfl | ⟨j, rfl⟩ <;> exact Nat.le_of_ble_eq_true rfl) (fun d => pair_part a1 a2 (ex := exS [1, 2, 0] d) (h0 := rfl) (h1 := rfl)) (fun M => nl_f8_part a1 a2 M rfl) (fun k M1 => if k = 0 then some ((1 : Int32), M1) else if k = 1 then some ((2 : Int32), M1) else none)
    (fun k hk h M1 => by rcases (show k = 0 ∨ k = 1 ∨ k = 2 by omega) with rfl | rfl | rfl <;> first | rfl | exact absurd rfl h) (fun _ => rfl) hB
theorem law_string (a1 : Int32) (a2 : Int32) {M : sx_M} {st : ST} (hB : BOTH M st) : ∃ v7 M8 v10 M11 st', fL_string a1 a2 M = some (v7, M8) ∧ f8_string a1 a2 M8 = some (v10, M11) ∧ BOTH M11 st' ∧ f8_thrown M11 = some v7 ∧ (v7 = 0 → lg_cmp (M11.2 30 0 ((0 : Int32)).toNatClampNeg) v10.toInt64 = 0) :=
  law_call (fun M => f7_string a1 a2 M) (fun M => f8_string a1 a2 M) (fun M => fL_string a1 a2 M) [1, 0, 0] (by decide) (fun k => by rcases (show k = 0 ∨ k = 1 ∨ k = 2 ∨ ∃ j, k = j + 3 by rcases k with _ | _ | _ | j <;> simp) with rfl | rfl | rfl | ⟨j, rfl⟩ <;> exact Nat.le_of_ble_eq_true rfl) (fun d => pair_string a1 a2 (ex := exS [1, 0, 0] d) (h0 := rfl)) (fun M => nl_f8_string a1 a2 M rfl) (fun k M1 => if k = 0 then some ((1 : Int32), M1) else none)
    (fun k hk h M1 => by rcases (show k = 0 ∨ k = 1 ∨ k = 2 by omega) with rfl | rfl | rfl <;> first | rfl | exact absurd rfl h) (fun _ => rfl) hB
theorem law_stringAt (a1 : Int32) {M : sx_M} {st : ST} (hB : BOTH M st) : ∃ v7 M8 v10 M11 st', fL_stringAt a1 M = some (v7, M8) ∧ f8_stringAt a1 M8 = some (v10, M11) ∧ BOTH M11 st' ∧ f8_thrown M11 = some v7 ∧ (v7 = 0 → lg_cmp (M11.2 30 0 ((0 : Int32)).toNatClampNeg) v10.toInt64 = 0) :=
  law_call (fun M => f7_stringAt a1 M) (fun M => f8_stringAt a1 M) (fun M => fL_stringAt a1 M) [0, 1, 0] (by decide) (fun k => by rcases (show k = 0 ∨ k = 1 ∨ k = 2 ∨ ∃ j, k = j + 3 by rcases k with _ | _ | _ | j <;> simp) with rfl | rfl | rfl | ⟨j, rfl⟩ <;> exact Nat.le_of_ble_eq_true rfl) (fun d => pair_stringAt a1 (ex := exS [0, 1, 0] d) (h1 := rfl)) (fun M => nl_f8_stringAt a1 M rfl) (fun k M1 => if k = 1 then some ((1 : Int32), M1) else none)
    (fun k hk h M1 => by rcases (show k = 0 ∨ k = 1 ∨ k = 2 by omega) with rfl | rfl | rfl <;> first | rfl | exact absurd rfl h) (fun _ => rfl) hB
theorem law_make (a1 : Int32) {M : sx_M} {st : ST} (hB : BOTH M st) : ∃ v7 M8 v10 M11 st', fL_make a1 M = some (v7, M8) ∧ f8_make a1 M8 = some (v10, M11) ∧ BOTH M11 st' ∧ f8_thrown M11 = some v7 ∧ (v7 = 0 → lg_cmp (M11.2 30 0 ((0 : Int32)).toNatClampNeg) v10.toInt64 = 0) :=
  law_call (fun M => f7_make a1 M) (fun M => f8_make a1 M) (fun M => fL_make a1 M) [0, 1, 2] (by decide) (fun k => by rcases (show k = 0 ∨ k = 1 ∨ k = 2 ∨ ∃ j, k = j + 3 by rcases k with _ | _ | _ | j <;> simp) with rfl | rfl | rfl | ⟨j, rfl⟩ <;> exact Nat.le_of_ble_eq_true rfl) (fun d => pair_make a1 (ex := exS [0, 1, 2] d) (h1 := rfl) (h2 := rfl)) (fun M => nl_f8_make a1 M rfl) (fun k M1 => if k = 1 then some ((1 : Int32), M1) else if k = 2 then some ((2 : Int32), M1) else none)
    (fun k hk h M1 => by rcases (show k = 0 ∨ k = 1 ∨ k = 2 by omega) with rfl | rfl | rfl <;> first | rfl | exact absurd rfl h) (fun _ => rfl) hB
theorem law_tie (a1 : Int32) (a2 : Int32) (a3 : Int32) (hz : a3 = 0 ∨ a3 = 1) {M : sx_M} {st : ST} (hB : BOTH M st) : ∃ v7 M8 v10 M11 st', fL_tie a1 a2 a3 M = some (v7, M8) ∧ f8_tie a1 a2 a3 M8 = some (v10, M11) ∧ BOTH M11 st' ∧ f8_thrown M11 = some v7 ∧ (v7 = 0 → lg_cmp (M11.2 30 0 ((0 : Int32)).toNatClampNeg) v10.toInt64 = 0) :=
  law_call (fun M => f7_tie a1 a2 a3 M) (fun M => f8_tie a1 a2 a3 M) (fun M => fL_tie a1 a2 a3 M) [1, 2, 3] (by decide) (fun k => by rcases (show k = 0 ∨ k = 1 ∨ k = 2 ∨ ∃ j, k = j + 3 by rcases k with _ | _ | _ | j <;> simp) with rfl | rfl | rfl | ⟨j, rfl⟩ <;> exact Nat.le_of_ble_eq_true rfl) (fun d => pair_tie a1 a2 a3 hz (ex := exS [1, 2, 3] d) (h0 := rfl) (h1 := rfl) (h2 := rfl)) (fun M => nl_f8_tie a1 a2 a3 M rfl) (fun k M1 => if k = 0 then some ((1 : Int32), M1) else if k = 1 then some ((2 : Int32), M1) else if k = 2 then some ((3 : Int32), M1) else none)
    (fun k hk h M1 => by rcases (show k = 0 ∨ k = 1 ∨ k = 2 by omega) with rfl | rfl | rfl <;> first | rfl | exact absurd rfl h) (fun _ => rfl) hB
theorem law_cut (a1 : Int32) (a2 : Int32) {M : sx_M} {st : ST} (hB : BOTH M st) : ∃ v7 M8 v10 M11 st', fL_cut a1 a2 M = some (v7, M8) ∧ f8_cut a1 a2 M8 = some (v10, M11) ∧ BOTH M11 st' ∧ f8_thrown M11 = some v7 ∧ (v7 = 0 → lg_cmp (M11.2 30 0 ((0 : Int32)).toNatClampNeg) v10.toInt64 = 0) :=
  law_call (fun M => f7_cut a1 a2 M) (fun M => f8_cut a1 a2 M) (fun M => fL_cut a1 a2 M) [1, 0, 0] (by decide) (fun k => by rcases (show k = 0 ∨ k = 1 ∨ k = 2 ∨ ∃ j, k = j + 3 by rcases k with _ | _ | _ | j <;> simp) with rfl | rfl | rfl | ⟨j, rfl⟩ <;> exact Nat.le_of_ble_eq_true rfl) (fun d => pair_cut a1 a2 (ex := exS [1, 0, 0] d) (h0 := rfl)) (fun M => nl_f8_cut a1 a2 M rfl) (fun k M1 => if k = 0 then some ((1 : Int32), M1) else none)
    (fun k hk h M1 => by rcases (show k = 0 ∨ k = 1 ∨ k = 2 by omega) with rfl | rfl | rfl <;> first | rfl | exact absurd rfl h) (fun _ => rfl) hB
theorem law_fray (a1 : Int32) (a2 : Int32) {M : sx_M} {st : ST} (hB : BOTH M st) : ∃ v7 M8 v10 M11 st', fL_fray a1 a2 M = some (v7, M8) ∧ f8_fray a1 a2 M8 = some (v10, M11) ∧ BOTH M11 st' ∧ f8_thrown M11 = some v7 ∧ (v7 = 0 → lg_cmp (M11.2 30 0 ((0 : Int32)).toNatClampNeg) v10.toInt64 = 0) :=
  law_call (fun M => f7_fray a1 a2 M) (fun M => f8_fray a1 a2 M) (fun M => fL_fray a1 a2 M) [1, 0, 2] (by decide) (fun k => by rcases (show k = 0 ∨ k = 1 ∨ k = 2 ∨ ∃ j, k = j + 3 by rcases k with _ | _ | _ | j <;> simp) with rfl | rfl | rfl | ⟨j, rfl⟩ <;> exact Nat.le_of_ble_eq_true rfl) (fun d => pair_fray a1 a2 (ex := exS [1, 0, 2] d) (h0 := rfl) (h2 := rfl)) (fun M => nl_f8_fray a1 a2 M rfl) (fun k M1 => if k = 0 then some ((1 : Int32), M1) else if k = 2 then some ((2 : Int32), M1) else none)
    (fun k hk h M1 => by rcases (show k = 0 ∨ k = 1 ∨ k = 2 by omega) with rfl | rfl | rfl <;> first | rfl | exact absurd rfl h) (fun _ => rfl) hB
theorem law_mend (a1 : Int32) (a2 : Int32) {M : sx_M} {st : ST} (hB : BOTH M st) : ∃ v7 M8 v10 M11 st', fL_mend a1 a2 M = some (v7, M8) ∧ f8_mend a1 a2 M8 = some (v10, M11) ∧ BOTH M11 st' ∧ f8_thrown M11 = some v7 ∧ (v7 = 0 → lg_cmp (M11.2 30 0 ((0 : Int32)).toNatClampNeg) v10.toInt64 = 0) :=
  law_call (fun M => f7_mend a1 a2 M) (fun M => f8_mend a1 a2 M) (fun M => fL_mend a1 a2 M) [1, 0, 2] (by decide) (fun k => by rcases (show k = 0 ∨ k = 1 ∨ k = 2 ∨ ∃ j, k = j + 3 by rcases k with _ | _ | _ | j <;> simp) with rfl | rfl | rfl | ⟨j, rfl⟩ <;> exact Nat.le_of_ble_eq_true rfl) (fun d => pair_mend a1 a2 (ex := exS [1, 0, 2] d) (h0 := rfl) (h2 := rfl)) (fun M => nl_f8_mend a1 a2 M rfl) (fun k M1 => if k = 0 then some ((1 : Int32), M1) else if k = 2 then some ((2 : Int32), M1) else none)
    (fun k hk h M1 => by rcases (show k = 0 ∨ k = 1 ∨ k = 2 by omega) with rfl | rfl | rfl <;> first | rfl | exact absurd rfl h) (fun _ => rfl) hB
theorem law_pin (a1 : Int32) (a2 : Int32) (hz : a2 = 0 ∨ a2 = 1) {M : sx_M} {st : ST} (hB : BOTH M st) : ∃ v7 M8 v10 M11 st', fL_pin a1 a2 M = some (v7, M8) ∧ f8_pin a1 a2 M8 = some (v10, M11) ∧ BOTH M11 st' ∧ f8_thrown M11 = some v7 ∧ (v7 = 0 → lg_cmp (M11.2 30 0 ((0 : Int32)).toNatClampNeg) v10.toInt64 = 0) :=
  law_call (fun M => f7_pin a1 a2 M) (fun M => f8_pin a1 a2 M) (fun M => fL_pin a1 a2 M) [1, 0, 0] (by decide) (fun k => by rcases (show k = 0 ∨ k = 1 ∨ k = 2 ∨ ∃ j, k = j + 3 by rcases k with _ | _ | _ | j <;> simp) with rfl | rfl | rfl | ⟨j, rfl⟩ <;> exact Nat.le_of_ble_eq_true rfl) (fun d => pair_pin a1 a2 hz (ex := exS [1, 0, 0] d) (h0 := rfl)) (fun M => nl_f8_pin a1 a2 M rfl) (fun k M1 => if k = 0 then some ((1 : Int32), M1) else none)
    (fun k hk h M1 => by rcases (show k = 0 ∨ k = 1 ∨ k = 2 by omega) with rfl | rfl | rfl <;> first | rfl | exact absurd rfl h) (fun _ => rfl) hB
theorem law_begin  {M : sx_M} {st : ST} (hB : BOTH M st) : ∃ v7 M8 v10 M11 st', fL_begin  M = some (v7, M8) ∧ f8_begin  M8 = some (v10, M11) ∧ BOTH M11 st' ∧ f8_thrown M11 = some v7 ∧ (v7 = 0 → lg_cmp (M11.2 30 0 ((0 : Int32)).toNatClampNeg) v10.toInt64 = 0) :=
  law_call (fun M => f7_begin  M) (fun M => f8_begin  M) (fun M => fL_begin  M) [0, 0, 1] (by decide) (fun k => by rcases (show k = 0 ∨ k = 1 ∨ k = 2 ∨ ∃ j, k = j + 3 by rcases k with _ | _ | _ | j <;> simp) with rfl | rfl | rfl | ⟨j, rfl⟩ <;> exact Nat.le_of_ble_eq_true rfl) (fun d => pair_begin  (ex := exS [0, 0, 1] d) (h2 := rfl)) (fun M => nl_f8_begin M rfl) (fun k M1 => if k = 2 then some ((1 : Int32), M1) else none)
    (fun k hk h M1 => by rcases (show k = 0 ∨ k = 1 ∨ k = 2 by omega) with rfl | rfl | rfl <;> first | rfl | exact absurd rfl h) (fun _ => rfl) hB
theorem law_step  {M : sx_M} {st : ST} (hB : BOTH M st) : ∃ v7 M8 v10 M11 st', fL_step  M = some (v7, M8) ∧ f8_step  M8 = some (v10, M11) ∧ BOTH M11 st' ∧ f8_thrown M11 = some v7 ∧ (v7 = 0 → lg_cmp (M11.2 30 0 ((0 : Int32)).toNatClampNeg) v10.toInt64 = 0) :=
  law_call (fun M => f7_step  M) (fun M => f8_step  M) (fun M => fL_step  M) [0, 0, 1] (by decide) (fun k => by rcases (show k = 0 ∨ k = 1 ∨ k = 2 ∨ ∃ j, k = j + 3 by rcases k with _ | _ | _ | j <;> simp) with rfl | rfl | rfl | ⟨j, rfl⟩ <;> exact Nat.le_of_ble_eq_true rfl) (fun d => pair_step  (ex := exS [0, 0, 1] d) (h2 := rfl)) (fun M => nl_f8_step M rfl) (fun k M1 => if k = 2 then some ((1 : Int32), M1) else none)
    (fun k hk h M1 => by rcases (show k = 0 ∨ k = 1 ∨ k = 2 by omega) with rfl | rfl | rfl <;> first | rfl | exact absurd rfl h) (fun _ => rfl) hB
theorem law_undo  {M : sx_M} {st : ST} (hB : BOTH M st) : ∃ v7 M8 v10 M11 st', fL_undo  M = some (v7, M8) ∧ f8_undo  M8 = some (v10, M11) ∧ BOTH M11 st' ∧ f8_thrown M11 = some v7 ∧ (v7 = 0 → lg_cmp (M11.2 30 0 ((0 : Int32)).toNatClampNeg) v10.toInt64 = 0) :=
  law_call (fun M => f7_undo  M) (fun M => f8_undo  M) (fun M => fL_undo  M) [0, 0, 1] (by decide) (fun k => by rcases (show k = 0 ∨ k = 1 ∨ k = 2 ∨ ∃ j, k = j + 3 by rcases k with _ | _ | _ | j <;> simp) with rfl | rfl | rfl | ⟨j, rfl⟩ <;> exact Nat.le_of_ble_eq_true rfl) (fun d => pair_undo  (ex := exS [0, 0, 1] d) (h2 := rfl)) (fun M => nl_f8_undo M rfl) (fun k M1 => if k = 2 then some ((1 : Int32), M1) else none)
    (fun k hk h M1 => by rcases (show k = 0 ∨ k = 1 ∨ k = 2 by omega) with rfl | rfl | rfl <;> first | rfl | exact absurd rfl h) (fun _ => rfl) hB
theorem law_falls (a1 : Int32) (a2 : Int32) {M : sx_M} {st : ST} (hB : BOTH M st) : ∃ v7 M8 v10 M11 st', fL_falls a1 a2 M = some (v7, M8) ∧ f8_falls a1 a2 M8 = some (v10, M11) ∧ BOTH M11 st' ∧ f8_thrown M11 = some v7 ∧ (v7 = 0 → lg_cmp (M11.2 30 0 ((0 : Int32)).toNatClampNeg) v10.toInt64 = 0) :=
  law_call (fun M => f7_falls a1 a2 M) (fun M => f8_falls a1 a2 M) (fun M => fL_falls a1 a2 M) [1, 0, 0] (by decide) (fun k => by rcases (show k = 0 ∨ k = 1 ∨ k = 2 ∨ ∃ j, k = j + 3 by rcases k with _ | _ | _ | j <;> simp) with rfl | rfl | rfl | ⟨j, rfl⟩ <;> exact Nat.le_of_ble_eq_true rfl) (fun d => pair_falls a1 a2 (ex := exS [1, 0, 0] d) (h0 := rfl)) (fun M => nl_f8_falls a1 a2 M rfl) (fun k M1 => if k = 0 then some ((1 : Int32), M1) else none)
    (fun k hk h M1 => by rcases (show k = 0 ∨ k = 1 ∨ k = 2 by omega) with rfl | rfl | rfl <;> first | rfl | exact absurd rfl h) (fun _ => rfl) hB
theorem law_cuts (a1 : Int32) {M : sx_M} {st : ST} (hB : BOTH M st) : ∃ v7 M8 v10 M11 st', fL_cuts a1 M = some (v7, M8) ∧ f8_cuts a1 M8 = some (v10, M11) ∧ BOTH M11 st' ∧ f8_thrown M11 = some v7 ∧ (v7 = 0 → lg_cmp (M11.2 30 0 ((0 : Int32)).toNatClampNeg) v10.toInt64 = 0) :=
  law_call (fun M => f7_cuts a1 M) (fun M => f8_cuts a1 M) (fun M => fL_cuts a1 M) [1, 0, 0] (by decide) (fun k => by rcases (show k = 0 ∨ k = 1 ∨ k = 2 ∨ ∃ j, k = j + 3 by rcases k with _ | _ | _ | j <;> simp) with rfl | rfl | rfl | ⟨j, rfl⟩ <;> exact Nat.le_of_ble_eq_true rfl) (fun d => pair_cuts a1 (ex := exS [1, 0, 0] d) (h0 := rfl)) (fun M => nl_f8_cuts a1 M rfl) (fun k M1 => if k = 0 then some ((1 : Int32), M1) else none)
    (fun k hk h M1 => by rcases (show k = 0 ∨ k = 1 ∨ k = 2 by omega) with rfl | rfl | rfl <;> first | rfl | exact absurd rfl h) (fun _ => rfl) hB
theorem law_way (a1 : Int32) (a2 : Int32) {M : sx_M} {st : ST} (hB : BOTH M st) : ∃ v7 M8 v10 M11 st', fL_way a1 a2 M = some (v7, M8) ∧ f8_way a1 a2 M8 = some (v10, M11) ∧ BOTH M11 st' ∧ f8_thrown M11 = some v7 ∧ (v7 = 0 → lg_cmp (M11.2 30 0 ((0 : Int32)).toNatClampNeg) v10.toInt64 = 0) :=
  law_call (fun M => f7_way a1 a2 M) (fun M => f8_way a1 a2 M) (fun M => fL_way a1 a2 M) [1, 2, 0] (by decide) (fun k => by rcases (show k = 0 ∨ k = 1 ∨ k = 2 ∨ ∃ j, k = j + 3 by rcases k with _ | _ | _ | j <;> simp) with rfl | rfl | rfl | ⟨j, rfl⟩ <;> exact Nat.le_of_ble_eq_true rfl) (fun d => pair_way a1 a2 (ex := exS [1, 2, 0] d) (h0 := rfl) (h1 := rfl)) (fun M => nl_f8_way a1 a2 M rfl) (fun k M1 => if k = 0 then some ((1 : Int32), M1) else if k = 1 then some ((2 : Int32), M1) else none)
    (fun k hk h M1 => by rcases (show k = 0 ∨ k = 1 ∨ k = 2 by omega) with rfl | rfl | rfl <;> first | rfl | exact absurd rfl h) (fun _ => rfl) hB
theorem law_runScript (a1 : Int32) (a2 : Int64) {M : sx_M} {st : ST} (hB : BOTH M st) : ∃ v7 M8 v10 M11 st', fL_runScript a1 a2 M = some (v7, M8) ∧ f8_runScript a1 a2 M8 = some (v10, M11) ∧ BOTH M11 st' ∧ f8_thrown M11 = some v7 ∧ (v7 = 0 → lg_cmp (M11.2 30 0 ((0 : Int32)).toNatClampNeg) v10.toInt64 = 0) :=
  law_call (fun M => f7_runScript a1 a2 M) (fun M => f8_runScript a1 a2 M) (fun M => fL_runScript a1 a2 M) [0, 1, 0] (by decide) (fun k => by rcases (show k = 0 ∨ k = 1 ∨ k = 2 ∨ ∃ j, k = j + 3 by rcases k with _ | _ | _ | j <;> simp) with rfl | rfl | rfl | ⟨j, rfl⟩ <;> exact Nat.le_of_ble_eq_true rfl) (fun d => pair_runScript a1 a2 (ex := exS [0, 1, 0] d) (h1 := rfl)) (fun M => nl_f8_runScript a1 a2 M rfl) (fun k M1 => if k = 1 then some ((1 : Int32), M1) else none)
    (fun k hk h M1 => by rcases (show k = 0 ∨ k = 1 ∨ k = 2 by omega) with rfl | rfl | rfl <;> first | rfl | exact absurd rfl h) (fun _ => rfl) hB
theorem law_simulate (a1 : Int64) (a3 : Int32) {M : sx_M} {st : ST} (hB : BOTH M st) : ∃ v7 M8 v10 M11 st', fL_simulate a1 a3 M = some (v7, M8) ∧ f8_simulate a1 a3 M8 = some (v10, M11) ∧ BOTH M11 st' ∧ f8_thrown M11 = some v7 ∧ (v7 = 0 → lg_cmp (M11.2 30 0 ((0 : Int32)).toNatClampNeg) v10.toInt64 = 0) :=
  law_call (fun M => f7_simulate a1 a3 M) (fun M => f8_simulate a1 a3 M) (fun M => fL_simulate a1 a3 M) [0, 1, 0] (by decide) (fun k => by rcases (show k = 0 ∨ k = 1 ∨ k = 2 ∨ ∃ j, k = j + 3 by rcases k with _ | _ | _ | j <;> simp) with rfl | rfl | rfl | ⟨j, rfl⟩ <;> exact Nat.le_of_ble_eq_true rfl) (fun d => pair_simulate a1 a3 (ex := exS [0, 1, 0] d) (h1 := rfl)) (fun M => nl_f8_simulate a1 a3 M rfl) (fun k M1 => if k = 1 then some ((1 : Int32), M1) else none)
    (fun k hk h M1 => by rcases (show k = 0 ∨ k = 1 ∨ k = 2 by omega) with rfl | rfl | rfl <;> first | rfl | exact absurd rfl h) (fun _ => rfl) hB
theorem law_save (a1 : Int32) {M : sx_M} {st : ST} (hB : BOTH M st) : ∃ v7 M8 v10 M11 st', fL_save a1 M = some (v7, M8) ∧ f8_save a1 M8 = some (v10, M11) ∧ BOTH M11 st' ∧ f8_thrown M11 = some v7 ∧ (v7 = 0 → lg_cmp (M11.2 30 0 ((0 : Int32)).toNatClampNeg) v10.toInt64 = 0) :=
  law_call (fun M => f7_save a1 M) (fun M => f8_save a1 M) (fun M => fL_save a1 M) [1, 0, 0] (by decide) (fun k => by rcases (show k = 0 ∨ k = 1 ∨ k = 2 ∨ ∃ j, k = j + 3 by rcases k with _ | _ | _ | j <;> simp) with rfl | rfl | rfl | ⟨j, rfl⟩ <;> exact Nat.le_of_ble_eq_true rfl) (fun d => pair_save a1 (ex := exS [1, 0, 0] d) (h0 := rfl)) (fun M => nl_f8_save a1 M rfl) (fun k M1 => if k = 0 then some ((1 : Int32), M1) else none)
    (fun k hk h M1 => by rcases (show k = 0 ∨ k = 1 ∨ k = 2 by omega) with rfl | rfl | rfl <;> first | rfl | exact absurd rfl h) (fun _ => rfl) hB
theorem law_restore (a1 : Int32) {M : sx_M} {st : ST} (hB : BOTH M st) : ∃ v7 M8 v10 M11 st', fL_restore a1 M = some (v7, M8) ∧ f8_restore a1 M8 = some (v10, M11) ∧ BOTH M11 st' ∧ f8_thrown M11 = some v7 ∧ (v7 = 0 → lg_cmp (M11.2 30 0 ((0 : Int32)).toNatClampNeg) v10.toInt64 = 0) :=
  law_call (fun M => f7_restore a1 M) (fun M => f8_restore a1 M) (fun M => fL_restore a1 M) [1, 0, 2] (by decide) (fun k => by rcases (show k = 0 ∨ k = 1 ∨ k = 2 ∨ ∃ j, k = j + 3 by rcases k with _ | _ | _ | j <;> simp) with rfl | rfl | rfl | ⟨j, rfl⟩ <;> exact Nat.le_of_ble_eq_true rfl) (fun d => pair_restore a1 (ex := exS [1, 0, 2] d) (h0 := rfl) (h2 := rfl)) (fun M => nl_f8_restore a1 M rfl) (fun k M1 => if k = 0 then some ((1 : Int32), M1) else if k = 2 then some ((2 : Int32), M1) else none)
    (fun k hk h M1 => by rcases (show k = 0 ∨ k = 1 ∨ k = 2 by omega) with rfl | rfl | rfl <;> first | rfl | exact absurd rfl h) (fun _ => rfl) hB
