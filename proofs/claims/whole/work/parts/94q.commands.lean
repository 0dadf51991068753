/-! EVERY COMMAND OF A TEXT, SIDE BY SIDE -/
theorem sp1_dig {x : Nat} (h : (48 ≤ x ∧ x ≤ 57) ∨ x = 104) : sp 1 x = 99 := by
  rw [sp1_of, if_neg (by omega), if_neg (by omega), if_neg (by omega), if_neg (by omega)]
theorem pv_lt {l : List Nat} {p : Nat} (h : PO l p) : pv l p < 24 := by
  obtain ⟨-, h1, h2, h3, h4⟩ := h
  unfold pv
  by_cases q : l.getD p 0 = 50
  · rw [if_pos q] at h4; omega
  · rw [if_neg q] at h4; omega
theorem PO_dig {l : List Nat} {p : Nat} (h : PO l p) : sp 1 (l.getD p 0) = 99 ∧ sp 1 (l.getD (p + 1) 0) = 99 := by
  obtain ⟨-, h1, h2, h3, h4⟩ := h
  have : l.getD (p + 1) 0 ≤ 57 := by revert h4; split <;> intro h4 <;> omega
  exact ⟨sp1_dig (Or.inl ⟨by omega, by omega⟩), sp1_dig (Or.inl ⟨by omega, by omega⟩)⟩
theorem TO_dig {l : List Nat} {p : Nat} (h : TO l p) : sp 1 (l.getD p 0) = 99 ∧ sp 1 (l.getD (p + 1) 0) = 99 := by
  rcases h with ⟨h1, h2, h3, h4⟩ | ⟨-, h⟩
  · exact ⟨sp1_dig (Or.inr h1), sp1_dig (Or.inl ⟨by omega, by omega⟩)⟩
  · exact PO_dig h
section
variable {l : List Nat} {p : Nat} {A : SH}
theorem some_bind {α : Type} {x : Option α} {Q : α → Prop} (h : wp x Q) : wp (x.bind fun M => some M) Q := by
  obtain ⟨a, e, hq⟩ := h
  exact wp_call e (wp_some hq)
theorem rc_make {M : sx_M} (h : TX M l true p) (hp : p < l.length) (hc : l.getD p 0 = 110) {Q : sx_M → Prop} (hQ : wp (f8_readMake M) Q) : wp (f8_readCommand M) Q := by
  rw [f8_readCommand]
  refine wp_call (r_isNext h (c := 110) (by omega)) ?_
  rw [decide_eq_true ⟨hp, hc⟩]
  with_reducible refine wp_bd ?_
  refine wp_ifn (by decide) ?_
  exact some_bind hQ
theorem nx_no {M : sx_M} (h : TX M l true p) {x : Nat} (hx : x < 256) (hc : l.getD p 0 ≠ x) : f8_isNext (nI x) M = some 0 := by
  rw [r_isNext h hx, decide_eq_false (fun q => hc q.2)]; rfl
theorem nx_yes {M : sx_M} (h : TX M l true p) (hp : p < l.length) {x : Nat} (hx : x < 256) (hc : l.getD p 0 = x) : f8_isNext (nI x) M = some 1 := by
  rw [r_isNext h hx, decide_eq_true ⟨hp, hc⟩]; rfl
theorem rc_string {M : sx_M} (h : TX M l true p) (hp : p < l.length) (hc : l.getD p 0 = 116 ∨ l.getD p 0 = 120 ∨ l.getD p 0 = 102 ∨ l.getD p 0 = 109) {Q : sx_M → Prop} (hQ : wp (f8_readString (nI (l.getD p 0)) M) Q) : wp (f8_readCommand M) Q := by
  have hl := h.1
  rw [f8_readCommand]
  refine wp_call (nx_no h (x := 110) (by omega) (by omega)) ?_
  with_reducible refine wp_bd ?_
  refine wp_ifp rfl ?_
  have fin : wp (sx_bd (M.1 17 0 3) fun v5 =>
      if sx_in v5 120 then
      sx_bd (M.1 18 0 (v5).toNatClampNeg) fun v6 =>
      (f8_readString v6 M).bind fun M7 =>
      some M7
      else none) Q := by
    have e3 : M.1 17 0 3 = nI p := h.2.2.2.2.1
    with_reducible refine wp_bd ?_
    rw [e3]
    refine wp_ifp (sx_in_n (by omega) (by omega)) ?_
    have e18 : M.1 18 0 (nI p).toNatClampNeg = nI (l.getD p 0) := by rw [nI_cl (by omega)]; exact h.2.2.2.1 p hp
    with_reducible refine wp_bd ?_
    rw [e18]
    exact some_bind hQ
  by_cases h1 : l.getD p 0 = 116
  · refine wp_call (nx_yes h hp (x := 116) (by omega) h1) ?_
    with_reducible refine wp_bd ?_
    exact wp_ifn (by decide) fin
  · refine wp_call (nx_no h (x := 116) (by omega) h1) ?_
    with_reducible refine wp_bd ?_
    refine wp_ifp rfl ?_
    by_cases h2 : l.getD p 0 = 120
    · refine wp_call (nx_yes h hp (x := 120) (by omega) h2) ?_
      exact wp_ifn (by decide) fin
    · refine wp_call (nx_no h (x := 120) (by omega) h2) ?_
      refine wp_ifp rfl ?_
      by_cases h3 : l.getD p 0 = 102
      · refine wp_call (nx_yes h hp (x := 102) (by omega) h3) ?_
        exact wp_ifn (by decide) fin
      · refine wp_call (nx_no h (x := 102) (by omega) h3) ?_
        refine wp_ifp rfl ?_
        refine wp_call (nx_yes h hp (x := 109) (by omega) (by omega)) ?_
        exact wp_ifn (by decide) fin
theorem rc_rest {M : sx_M} (h : TX M l true p) (h1 : l.getD p 0 ≠ 110) (h2 : ¬ (l.getD p 0 = 116 ∨ l.getD p 0 = 120 ∨ l.getD p 0 = 102 ∨ l.getD p 0 = 109)) {Q : sx_M → Prop} (hQ : wp ((f8_isNext (112 : Int32) M).bind fun v15 =>
            if v15 = 0 then
              (f8_isNext (98 : Int32) M).bind fun v17 =>
              sx_bd (fun (_ : Unit) =>
                (f8_isNext (98 : Int32) M).bind fun v18 =>
                (f8_readSweep v18 M).bind fun M19 =>
                some M19) fun j102 =>
              if v17 = 0 then
                (f8_isNext (115 : Int32) M).bind fun v21 =>
                if v21 = 0 then
                  (f8_accept (0 : Int32) M).bind fun M23 =>
                  some M23
                else
                  j102 ()
              else
                j102 ()
            else
              (f8_readPin M).bind fun M24 =>
              some M24) Q) : wp (f8_readCommand M) Q := by
  rw [f8_readCommand]
  refine wp_call (nx_no h (x := 110) (by omega) h1) ?_
  with_reducible refine wp_bd ?_
  refine wp_ifp rfl ?_
  refine wp_call (nx_no h (x := 116) (by omega) (fun q => h2 (by omega))) ?_
  with_reducible refine wp_bd ?_
  refine wp_ifp rfl ?_
  refine wp_call (nx_no h (x := 120) (by omega) (fun q => h2 (by omega))) ?_
  refine wp_ifp rfl ?_
  refine wp_call (nx_no h (x := 102) (by omega) (fun q => h2 (by omega))) ?_
  refine wp_ifp rfl ?_
  refine wp_call (nx_no h (x := 109) (by omega) (fun q => h2 (by omega))) ?_
  refine wp_ifp rfl ?_
  exact hQ
theorem ob_bind {x : Option (Int32 × sx_M)} {ok : Bool} {A' : SH} {M : sx_M} (h : wp x (fun r => r.1 = bI01 ok ∧ CS r.2 0 A' ∧ Fr (pSh 0) M r.2)) : wp (sx_b2 x fun v M4 => if v = 0 ∨ v = 1 then some (v, M4) else none) (fun r => r.1 = bI01 ok ∧ CS r.2 0 A' ∧ Fr (pSh 0) M r.2) := by
  obtain ⟨⟨v, M4⟩, e, q1, q2, q3⟩ := h
  dsimp only at q1 q2 q3
  subst q1
  exact wp_b2 e (hit01 ok M4 ⟨rfl, q2, q3⟩)
theorem cmd_make (hlen : l.length ≤ 120) (hcs : ∀ c ∈ l, c < 256) (hr : rn l p = 1) (hp : p < l.length) (hI : IS A) (hc : l.getD p 0 = 110) : (∃ k ok A', CMD l p k A ok A') ∨ NOC l p A := by
  have e1 : rn l (p + 1) = 2 := by show sp (rn l p) (l.getD p 0) = 2; rw [hr, hc]; rfl
  have h24 := hI.ws.1
  by_cases hd : p + 1 < l.length ∧ 49 ≤ l.getD (p + 1) 0 ∧ l.getD (p + 1) 0 ≤ 57
  · left
    obtain ⟨w, hw⟩ : ∃ w, w = l.getD (p + 1) 0 - 48 := ⟨_, rfl⟩
    have hw19 : 1 ≤ w ∧ w ≤ 9 := by omega
    have key : ∀ ok A', CT A 1 (-9) (nI w) 0 ok A' → ((ok = false ∧ A' = A ∧ A.m = 24) ∨ (ok = true ∧ A' = A.make (nI w) ∧ A.m < 24)) → CMD l p 2 A ok A' := fun ok A' ht hok => by
      refine ⟨by omega, by omega, ?_, ht.1, by rw [hc]; decide, fun j hj1 hj2 => ?_, fun M hT hC => ?_, fun M lo h d h5 => ?_⟩
      · show sp (rn l (p + 1)) (l.getD (p + 1) 0) = 1
        rw [e1, sp2_of, if_pos ⟨hd.2.1, hd.2.2⟩]
      · have : j = p + 1 := by omega
        rw [this]
        exact sp1_dig (Or.inl ⟨by omega, by omega⟩)
      · rw [f6_obeyAt]
        refine wp_call (c_codeAt hT hp) ?_
        rw [hc]
        iterate 12 refine wp_ifn (by decide) ?_
        refine wp_ifp rfl ?_
        rw [iI_succ]
        refine wp_call (c_codeAt hT hd.1) ?_
        rw [show (48 : Int32) = nI 48 from rfl, nI_sub (by omega), ← hw]
        exact ob_bind (ht.2 0 M hC)
      · refine rc_make h hp hc ?_
        rw [f8_readMake]
        obtain ⟨M1, e1', t1, f1⟩ := r_accept h true (fun _ _ => hp)
        refine wp_call e1' ?_
        have t1' : TX M1 l true (p + 1) := t1
        obtain ⟨⟨v2, M3⟩, e3, f3, h3⟩ := r_digit t1' (lo := 1) (hi := 9) (by omega) (by omega)
        dsimp only at f3 h3
        refine wp_b2 e3 ?_
        rcases h3 with ⟨-, -, -, -, t3, rfl⟩ | ⟨-, -, q⟩
        · have f13 := f1.trans f3
          have d3 := f13.ds d
          have e4 : M3.1 17 0 4 = bI01 true := t3.2.2.2.2.2.1
          have h53 : M3.1 17 0 5 = nI lo := f13.lo.trans h5
          with_reducible refine wp_bd ?_
          with_reducible refine wp_bd ?_
          rw [e4]
          refine wp_ifn (by decide) ?_
          refine wp_ifp (in3 row19 (a := 0) (by omega)) ?_
          have e0 : M3.1 19 0 ((0 : Int32)).toNatClampNeg = nI A.m := d3.2.2.1
          with_reducible refine wp_bd ?_
          with_reducible refine wp_bd ?_
          rw [e0, ← hw]
          rcases hok with ⟨rfl, rfl, hm⟩ | ⟨rfl, rfl, hm⟩
          · refine wp_ifp (by rw [hm]; decide) ?_
            obtain ⟨M9, e9, q1, q2, q3, q4⟩ := r_count t3 d3 h53 false
            refine wp_call e9 ?_
            refine wp_ifp (in3 row19 (a := 0) (by omega)) ?_
            have e09 : M9.1 19 0 ((0 : Int32)).toNatClampNeg = nI A'.m := q2.2.2.1
            with_reducible refine wp_bd ?_
            rw [e09]
            refine wp_ifp (by rw [hm]; decide) ?_
            exact wp_some ⟨q1, q2, q3, f13.frc.trans q4⟩
          · have hn24 : ¬ (24 : Int32) ≤ nI A.m := by rw [show (24 : Int32) = nI 24 from rfl, iI_le (by omega) (by omega)]; omega
            refine wp_ifn hn24 ?_
            obtain ⟨M9, e9, q1, q2, q3, q4⟩ := r_count t3 d3 h53 true
            refine wp_call e9 ?_
            refine wp_ifp (in3 row19 (a := 0) (by omega)) ?_
            have e09 : M9.1 19 0 ((0 : Int32)).toNatClampNeg = nI A.m := q2.2.2.1
            with_reducible refine wp_bd ?_
            rw [e09]
            refine wp_ifn hn24 ?_
            obtain ⟨⟨v12, M13⟩, e13, -, d13, f13'⟩ := w8_makeIn row19 q2 hI.ws hI.2.2.2.1 hI.2.2.2.2.1 hm (nI w)
            refine wp_b2 e13 ?_
            refine wp_some ⟨q1.fr f13', d13, ?_, (f13.frc.trans q4).trans (fr19 f13')⟩
            show M13.1 17 0 5 = _
            rw [f13'.1 17 0 (fun q => by have := q.1; omega)]; exact q3
        · exact absurd ⟨hd.1, by omega, by omega⟩ (q.resolve_left (by decide))
    rcases try_make hI (-9) (nI w) 0 with ⟨hno, ht⟩ | ⟨h19, hm, ht⟩
    · refine ⟨2, false, A, key _ _ ht (Or.inl ⟨rfl, rfl, ?_⟩)⟩
      refine Classical.byContradiction fun q => hno ⟨⟨(iI_le (a := 1) (by omega) (by omega)).mpr hw19.1, (iI_le (b := 9) (by omega) (by omega)).mpr hw19.2⟩, by omega⟩
    · exact ⟨2, true, _, key _ _ ht (Or.inr ⟨rfl, rfl, hm⟩)⟩
  · right
    refine ⟨p + 1, ?_, fun M lo h d h5 => ?_⟩
    · by_cases z : p + 1 < l.length
      · refine Or.inl ⟨z, by omega, ?_⟩
        show sp (rn l (p + 1)) (l.getD (p + 1) 0) = 99
        rw [e1, sp2_of, if_neg (fun q => hd ⟨z, q⟩)]
      · exact Or.inr ⟨by omega, by omega, by omega⟩
    · refine rc_make h hp hc ?_
      rw [f8_readMake]
      obtain ⟨M1, e1', t1, f1⟩ := r_accept h true (fun _ _ => hp)
      refine wp_call e1' ?_
      have t1' : TX M1 l true (p + 1) := t1
      obtain ⟨⟨v2, M3⟩, e3, f3, h3⟩ := r_digit t1' (lo := 1) (hi := 9) (by omega) (by omega)
      dsimp only at f3 h3
      refine wp_b2 e3 ?_
      rcases h3 with ⟨-, z1, z2, z3, -⟩ | ⟨t3, -, -⟩
      · exact absurd ⟨z1, by omega, by omega⟩ hd
      · have e4 : M3.1 17 0 4 = bI01 false := t3.2.2.2.2.2.1
        with_reducible refine wp_bd ?_
        with_reducible refine wp_bd ?_
        rw [e4]
        refine wp_ifp rfl ?_
        exact wp_some ⟨t3, (f1.trans f3).frc⟩
theorem cmd_pin (hlen : l.length ≤ 120) (hcs : ∀ c ∈ l, c < 256) (hr : rn l p = 1) (hp : p < l.length) (hI : IS A) (hc : l.getD p 0 = 112) : (∃ k ok A', CMD l p k A ok A') ∨ NOC l p A := by
  have e1 : rn l (p + 1) = 7 := by show sp (rn l p) (l.getD p 0) = 7; rw [hr, hc]; rfl
  have rest : ∀ {M : sx_M} {Q : sx_M → Prop}, TX M l true p → wp (f8_readPin M) Q → wp (f8_readCommand M) Q := fun {M Q} h hQ => by
    refine rc_rest h (by omega) (by omega) ?_
    refine wp_call (nx_yes h hp (x := 112) (by omega) hc) ?_
    refine wp_ifn (by decide) ?_
    exact some_bind hQ
  by_cases hd : PO l (p + 1)
  · left
    have hq24 := pv_lt hd
    obtain ⟨z1, z2⟩ := PO_dig hd
    have hlt : p + 1 + 1 < l.length := hd.1
    have key : ∀ ok A', CT A 6 (-9) (nI (pv l (p + 1))) (bI01 (!A.P (pv l (p + 1)))) ok A' → ((ok = false ∧ A' = A ∧ ¬ A.isP (nI (pv l (p + 1)))) ∨ (ok = true ∧ A' = A.pin (pv l (p + 1)) (!A.P (pv l (p + 1))) ∧ A.T (pv l (p + 1)) = true)) → CMD l p 3 A ok A' := fun ok A' ht hok => by
      refine ⟨by omega, by omega, ?_, ht.1, by rw [hc]; decide, fun j hj1 hj2 => ?_, fun M hT hC => ?_, fun M lo h d h5 => ?_⟩
      · rw [show p + 3 = p + 1 + 2 by omega, rn_two (Or.inl e1) hd, if_pos e1]
      · have : j = p + 1 ∨ j = p + 1 + 1 := by omega
        rcases this with rfl | rfl
        · exact z1
        · exact z2
      · rw [f6_obeyAt]
        refine wp_call (c_codeAt hT hp) ?_
        rw [hc]
        iterate 14 refine wp_ifn (by decide) ?_
        refine wp_ifp rfl ?_
        rw [iI_succ]
        refine wp_call (c_numberAt hT hd) ?_
        refine wp_call (c_numberAt hT hd) ?_
        refine wp_call (w3_isPinned hC hq24) ?_
        have fin := ob_bind (ht.2 0 M hC)
        with_reducible refine wp_bd ?_
        cases hP : A.P (pv l (p + 1)) with
        | false => rw [hP] at fin; exact wp_ifp rfl fin
        | true => rw [hP] at fin; exact wp_ifn (by decide) fin
      · refine rest h ?_
        rw [f8_readPin]
        obtain ⟨M1, e1', t1, f1⟩ := r_accept h true (fun _ _ => hp)
        refine wp_call e1' ?_
        have t1' : TX M1 l true (p + 1) := t1
        obtain ⟨⟨v2, M3⟩, e3, f3, h3⟩ := r_part t1'
        dsimp only at f3 h3
        refine wp_b2 e3 ?_
        rcases h3 with ⟨-, t3, rfl⟩ | ⟨q, -⟩
        · have f13 := f1.trans f3
          have d3 := f13.ds d
          have e4 : M3.1 17 0 4 = bI01 true := t3.2.2.2.2.2.1
          have h53 : M3.1 17 0 5 = nI lo := f13.lo.trans h5
          have hT0 : ∀ p, p < 24 → A.T p = true → p < A.m := fun p _ => hI.2.2.2.1 p
          with_reducible refine wp_bd ?_
          with_reducible refine wp_bd ?_
          rw [e4]
          refine wp_ifn (by decide) ?_
          obtain ⟨v7, e7, h7⟩ := w8_isPart row19 d3 hT0 (nI (pv l (p + 1)))
          refine wp_call e7 ?_
          rcases hok with ⟨rfl, rfl, hno⟩ | ⟨rfl, rfl, hTp⟩
          · rcases h7 with ⟨-, q⟩ | ⟨rfl, -⟩
            · exact absurd q hno
            · obtain ⟨M8, e8, q1, q2, q3, q4⟩ := r_count t3 d3 h53 false
              refine wp_call e8 ?_
              obtain ⟨v9, e9, h9⟩ := w8_isPart row19 q2 hT0 (nI (pv l (p + 1)))
              refine wp_call e9 ?_
              rcases h9 with ⟨-, q⟩ | ⟨rfl, -⟩
              · exact absurd q hno
              · refine wp_ifp rfl ?_
                exact wp_some ⟨q1, q2, q3, f13.frc.trans q4⟩
          · have hyes : A.isP (nI (pv l (p + 1))) := ⟨_, hq24, rfl, hTp⟩
            have hpm := hI.2.2.2.1 _ hTp
            rcases h7 with ⟨rfl, -⟩ | ⟨-, q⟩
            · obtain ⟨M8, e8, q1, q2, q3, q4⟩ := r_count t3 d3 h53 true
              refine wp_call e8 ?_
              obtain ⟨v9, e9, h9⟩ := w8_isPart row19 q2 hT0 (nI (pv l (p + 1)))
              refine wp_call e9 ?_
              rcases h9 with ⟨rfl, -⟩ | ⟨-, q⟩
              · refine wp_ifn (by decide) ?_
                refine wp_call (w8_pa2 _ _) ?_
                refine wp_ifp (in3 row19 (by omega)) ?_
                have eP : M8.1 19 0 (nI (7 + 4 * pv l (p + 1) + 2)).toNatClampNeg = bI01 (A.P (pv l (p + 1))) := by rw [nI_cl (by omega)]; exact (q2.2.2.2.2.2.2.2.1 _ hpm).2.2
                with_reducible refine wp_bd ?_
                with_reducible refine wp_bd ?_
                rw [eP]
                have fin : ∀ z : Bool, z = !A.P (pv l (p + 1)) → wp ((f8_pinIn 19 (nI (pv l (p + 1))) (bI01 z) M8).bind fun M14 => some M14) (DONE M l (p + 3) lo true (A.pin (pv l (p + 1)) (!A.P (pv l (p + 1))))) := fun z hz => by
                  subst hz
                  obtain ⟨M14, e14, d14, f14⟩ := w8_pinIn row19 q2 hI.ws hpm hTp (v := bI01 (!A.P (pv l (p + 1)))) (is := !A.P (pv l (p + 1))) bI01_0
                  refine wp_call e14 ?_
                  refine wp_some ⟨q1.fr f14, d14, ?_, (f13.frc.trans q4).trans (fr19 f14)⟩
                  rw [f14.1 17 0 (fun q => by have := q.1; omega)]; exact q3
                cases hP : A.P (pv l (p + 1)) with
                | false =>
                  rw [hP] at fin
                  exact wp_ifp rfl (fin true rfl)
                | true =>
                  rw [hP] at fin
                  exact wp_ifn (by decide) (fin false rfl)
              · exact absurd hyes q
            · exact absurd hyes q
        · exact absurd hd q
    rcases try_pin hI (-9) (nI (pv l (p + 1))) (!A.P (pv l (p + 1))) with ⟨hno, ht⟩ | ⟨p', hp', ep, hTp, ht⟩
    · exact ⟨3, false, A, key _ _ ht (Or.inl ⟨rfl, rfl, hno⟩)⟩
    · rw [iI_eq (by omega) (by omega)] at ep
      subst ep
      exact ⟨3, true, _, key _ _ ht (Or.inr ⟨rfl, rfl, hTp⟩)⟩
  · right
    -- the place of the error, found once
    have pos : ∃ p', ((p' = p + 1 ∧ ¬ (p + 1 < l.length ∧ 48 ≤ l.getD (p + 1) 0 ∧ l.getD (p + 1) 0 ≤ 50)) ∨ (p' = p + 1 + 1 ∧ p + 1 < l.length ∧ 48 ≤ l.getD (p + 1) 0 ∧ l.getD (p + 1) 0 ≤ 50 ∧ ¬ (p + 1 + 1 < l.length ∧ 48 ≤ l.getD (p + 1 + 1) 0 ∧ l.getD (p + 1 + 1) 0 ≤ (if l.getD (p + 1) 0 = 50 then 51 else 57)))) := by
      by_cases z : p + 1 < l.length ∧ 48 ≤ l.getD (p + 1) 0 ∧ l.getD (p + 1) 0 ≤ 50
      · exact ⟨p + 1 + 1, Or.inr ⟨rfl, z.1, z.2.1, z.2.2, fun q => hd ⟨q.1, z.2.1, z.2.2, q.2.1, q.2.2⟩⟩⟩
      · exact ⟨p + 1, Or.inl ⟨rfl, z⟩⟩
    obtain ⟨p', hp'⟩ := pos
    have herr := ERR_two (by omega) (Or.inl e1) hp'
    refine ⟨p', herr, fun M lo h d h5 => ?_⟩
    refine rest h ?_
    rw [f8_readPin]
    obtain ⟨M1, e1', t1, f1⟩ := r_accept h true (fun _ _ => hp)
    refine wp_call e1' ?_
    have t1' : TX M1 l true (p + 1) := t1
    obtain ⟨⟨v2, M3⟩, e3, f3, h3⟩ := r_part t1'
    dsimp only at f3 h3
    refine wp_b2 e3 ?_
    rcases h3 with ⟨q, -⟩ | ⟨-, p'', t3, hp''⟩
    · exact absurd q hd
    · have ep := ERR_uniq (ERR_two (by omega) (Or.inl e1) hp'') herr
      subst ep
      have e4 : M3.1 17 0 4 = bI01 false := t3.2.2.2.2.2.1
      with_reducible refine wp_bd ?_
      with_reducible refine wp_bd ?_
      rw [e4]
      refine wp_ifp rfl ?_
      exact wp_some ⟨t3, (f1.trans f3).frc⟩
theorem cmd_sweep (hlen : l.length ≤ 120) (hcs : ∀ c ∈ l, c < 256) (hr : rn l p = 1) (hp : p < l.length) (hI : IS A) (hc : l.getD p 0 = 98 ∨ l.getD p 0 = 115) : (∃ k ok A', CMD l p k A ok A') ∨ NOC l p A := by
  left
  have e1 : rn l (p + 1) = 1 := by
    show sp (rn l p) (l.getD p 0) = 1
    rw [hr]
    rcases hc with hc | hc <;> rw [hc] <;> rfl
  have rest : ∀ {M : sx_M} {Q : sx_M → Prop}, TX M l true p → wp (f8_readSweep (bI01 (decide (l.getD p 0 = 98))) M) Q → wp (f8_readCommand M) Q := fun {M Q} h hQ => by
    refine rc_rest h (by omega) (by omega) ?_
    refine wp_call (nx_no h (x := 112) (by omega) (by omega)) ?_
    refine wp_ifp rfl ?_
    have nx98 : f8_isNext (98 : Int32) M = some (bI01 (decide (l.getD p 0 = 98))) := by
      rw [show (98 : Int32) = nI 98 from rfl, r_isNext h (by omega)]
      by_cases z : l.getD p 0 = 98
      · rw [decide_eq_true z, decide_eq_true ⟨hp, z⟩]
      · rw [decide_eq_false z, decide_eq_false (fun q => z q.2)]
    refine wp_call nx98 ?_
    have fin : wp ((f8_isNext (98 : Int32) M).bind fun v18 => (f8_readSweep v18 M).bind fun M19 => some M19) Q := wp_call nx98 (some_bind hQ)
    with_reducible refine wp_bd ?_
    rcases hc with hc | hc
    · rw [decide_eq_true hc]
      exact wp_ifn (by decide) fin
    · rw [decide_eq_false (by omega)]
      refine wp_ifp rfl ?_
      refine wp_call (nx_yes h hp (x := 115) (by omega) hc) ?_
      exact wp_ifn (by decide) fin
  have key : ∀ ok A' (kd : Int32), CT A kd (-9) (-9) 0 ok A' → ((l.getD p 0 = 98 ∧ kd = 7 ∧ ((ok = false ∧ A' = A ∧ A.G = true) ∨ (ok = true ∧ A' = A.begin ∧ A.G = false))) ∨ (l.getD p 0 = 115 ∧ kd = 8 ∧ ((ok = false ∧ A' = A ∧ A.G = false) ∨ (ok = true ∧ A' = A.step ∧ A.G = true)))) → CMD l p 1 A ok A' := fun ok A' kd ht hok => by
    refine ⟨by omega, by omega, e1, ht.1, by rcases hc with hc | hc <;> rw [hc] <;> decide, fun j hj1 hj2 => by omega, fun M hT hC => ?_, fun M lo h d h5 => ?_⟩
    · rw [f6_obeyAt]
      refine wp_call (c_codeAt hT hp) ?_
      rcases hok with ⟨hc, rfl, -⟩ | ⟨hc, rfl, -⟩
      · rw [hc]
        refine wp_ifp rfl ?_
        exact ob_bind (ht.2 0 M hC)
      · rw [hc]
        iterate 17 refine wp_ifn (by decide) ?_
        refine wp_ifp rfl ?_
        exact ob_bind (ht.2 0 M hC)
    · refine rest h ?_
      rw [f8_readSweep]
      obtain ⟨M1, e1', t1, f1⟩ := r_accept h true (fun _ _ => hp)
      refine wp_call e1' ?_
      have t1' : TX M1 l true (p + 1) := t1
      have d1 := f1.ds d
      have h51 : M1.1 17 0 5 = nI lo := f1.lo.trans h5
      refine wp_ifp (in3 row19 (a := 3) (by omega)) ?_
      have e3 : M1.1 19 0 ((3 : Int32)).toNatClampNeg = bI01 A.G := d1.2.2.2.2.1
      with_reducible refine wp_bd ?_
      with_reducible refine wp_bd ?_
      rw [e3]
      have no : ok = false → A' = A → ∃ M5, f8_count 0 M1 = some M5 ∧ DONE M l (p + 1) lo ok A' M5 := fun z1 z2 => by
        subst z1 z2
        obtain ⟨M5, e5, q1, q2, q3, q4⟩ := r_count t1' d1 h51 false
        exact ⟨M5, e5, q1, q2, q3, f1.frc.trans q4⟩
      have ye : ok = true → ∃ M5, f8_count 1 M1 = some M5 ∧ DS M5 19 A ∧ ∀ M', DS M' 19 A' → Fr (pRw 19) M5 M' → DONE M l (p + 1) lo ok A' M' := fun z1 => by
        subst z1
        obtain ⟨M5, e5, q1, q2, q3, q4⟩ := r_count t1' d1 h51 true
        refine ⟨M5, e5, q2, fun M' d' f' => ⟨q1.fr f', d', ?_, (f1.frc.trans q4).trans (fr19 f')⟩⟩
        rw [f'.1 17 0 (fun q => by have := q.1; omega)]; exact q3
      rcases hok with ⟨hc, -, ⟨z1, z2, hG⟩ | ⟨z1, rfl, hG⟩⟩ | ⟨hc, -, ⟨z1, z2, hG⟩ | ⟨z1, rfl, hG⟩⟩
      · rw [hG, decide_eq_true hc]
        refine wp_ifn (by decide) ?_
        with_reducible refine wp_bd ?_
        refine wp_ifn (by decide) ?_
        obtain ⟨M5, e5, hd⟩ := no z1 z2
        refine wp_call e5 ?_
        with_reducible refine wp_bd ?_
        with_reducible refine wp_bd ?_
        refine wp_ifp rfl ?_
        refine wp_ifp rfl ?_
        exact wp_some hd
      · rw [hG, decide_eq_true hc]
        refine wp_ifp rfl ?_
        with_reducible refine wp_bd ?_
        refine wp_ifp rfl ?_
        obtain ⟨M5, e5, d5, hd⟩ := ye z1
        refine wp_call e5 ?_
        with_reducible refine wp_bd ?_
        with_reducible refine wp_bd ?_
        refine wp_ifn (by decide) ?_
        refine wp_ifn (by decide) ?_
        obtain ⟨⟨v, M13⟩, e13, -, d13, f13⟩ := w8_beginIn row19 d5 hI.2.2.2.1
        refine wp_b2 e13 ?_
        exact wp_some (hd M13 d13 f13)
      · rw [hG, decide_eq_false (by omega)]
        refine wp_ifp rfl ?_
        with_reducible refine wp_bd ?_
        refine wp_ifn (by decide) ?_
        obtain ⟨M5, e5, hd⟩ := no z1 z2
        refine wp_call e5 ?_
        with_reducible refine wp_bd ?_
        with_reducible refine wp_bd ?_
        refine wp_ifp rfl ?_
        refine wp_ifp rfl ?_
        exact wp_some hd
      · rw [hG, decide_eq_false (by omega)]
        refine wp_ifn (by decide) ?_
        with_reducible refine wp_bd ?_
        refine wp_ifp rfl ?_
        obtain ⟨M5, e5, d5, hd⟩ := ye z1
        refine wp_call e5 ?_
        with_reducible refine wp_bd ?_
        with_reducible refine wp_bd ?_
        refine wp_ifn (by decide) ?_
        refine wp_ifp rfl ?_
        refine wp_ifn (by decide) ?_
        obtain ⟨⟨v, M13⟩, e13, -, d13, f13⟩ := w8_stepIn row19 d5 hG hI
        refine wp_b2 e13 ?_
        exact wp_some (hd M13 d13 f13)
  rcases hc with hc | hc
  · rcases try_begin hI (-9) (-9) 0 with ⟨hG, ht⟩ | ⟨hG, ht⟩
    · exact ⟨1, false, A, key _ _ 7 ht (Or.inl ⟨hc, rfl, Or.inl ⟨rfl, rfl, hG⟩⟩)⟩
    · exact ⟨1, true, _, key _ _ 7 ht (Or.inl ⟨hc, rfl, Or.inr ⟨rfl, rfl, hG⟩⟩)⟩
  · rcases try_step hI (-9) (-9) 0 with ⟨hG, ht⟩ | ⟨hG, ht⟩
    · exact ⟨1, false, A, key _ _ 8 ht (Or.inr ⟨hc, rfl, Or.inl ⟨rfl, rfl, hG⟩⟩)⟩
    · exact ⟨1, true, _, key _ _ 8 ht (Or.inr ⟨hc, rfl, Or.inr ⟨rfl, rfl, hG⟩⟩)⟩
theorem cmd_none (hr : rn l p = 1) (hp : p < l.length) (h1 : l.getD p 0 ≠ 110) (h2 : ¬ (l.getD p 0 = 116 ∨ l.getD p 0 = 120 ∨ l.getD p 0 = 102 ∨ l.getD p 0 = 109)) (h3 : l.getD p 0 ≠ 112) (h4 : ¬ (l.getD p 0 = 98 ∨ l.getD p 0 = 115)) : NOC l p A := by
  refine ⟨p, Or.inl ⟨hp, by omega, ?_⟩, fun M lo h d h5 => ?_⟩
  · show sp (rn l p) (l.getD p 0) = 99
    rw [hr, sp1_of, if_neg h1, if_neg h2, if_neg h3, if_neg h4]
  · refine rc_rest h h1 h2 ?_
    refine wp_call (nx_no h (x := 112) (by omega) h3) ?_
    refine wp_ifp rfl ?_
    refine wp_call (nx_no h (x := 98) (by omega) (fun q => h4 (Or.inl q))) ?_
    with_reducible refine wp_bd ?_
    refine wp_ifp rfl ?_
    refine wp_call (nx_no h (x := 115) (by omega) (fun q => h4 (Or.inr q))) ?_
    refine wp_ifp rfl ?_
    obtain ⟨M1, e1', t1, f1⟩ := r_accept h false (fun _ q => by cases q)
    refine wp_call e1' ?_
    exact wp_some ⟨t1, f1.frc⟩
theorem cmd_string (hlen : l.length ≤ 120) (hcs : ∀ c ∈ l, c < 256) (hr : rn l p = 1) (hp : p < l.length) (hI : IS A) (hc : l.getD p 0 = 116 ∨ l.getD p 0 = 120 ∨ l.getD p 0 = 102 ∨ l.getD p 0 = 109) : (∃ k ok A', CMD l p k A ok A') ∨ NOC l p A := by
  have e1 : rn l (p + 1) = 3 := by
    show sp (rn l p) (l.getD p 0) = 3
    rw [hr]
    rcases hc with hc | hc | hc | hc <;> rw [hc] <;> rfl
  have hT0 : ∀ p, p < 24 → A.T p = true → p < A.m := fun p _ => hI.2.2.2.1 p
  by_cases hd : TO l (p + 1) ∧ PO l (p + 3)
  · left
    obtain ⟨hto, hpo⟩ := hd
    have hlt : p + 3 + 1 < l.length := hpo.1
    obtain ⟨z1, z2⟩ := TO_dig hto
    obtain ⟨z3, z4⟩ := PO_dig hpo
    have e3 : rn l (p + 3) = 7 := by rw [show p + 3 = p + 1 + 2 by omega]; exact rn_thing e1 hto
    obtain ⟨a, ha⟩ : ∃ a, a = tv l (p + 1) := ⟨_, rfl⟩
    obtain ⟨b, hb⟩ : ∃ b, b = nI (pv l (p + 3)) := ⟨_, rfl⟩
    have key : ∀ ok A' (kd z : Int32), CT A kd a b z ok A' → ((l.getD p 0 = 116 ∧ kd = 2 ∧ z = 1) ∨ (l.getD p 0 = 120 ∧ kd = 3 ∧ z = 0) ∨ (l.getD p 0 = 102 ∧ kd = 4 ∧ z = 0) ∨ (l.getD p 0 = 109 ∧ kd = 5 ∧ z = 0)) → ((l.getD p 0 = 116 ∧ ((ok = false ∧ A' = A ∧ ¬ (A.isTh a ∧ A.isP b ∧ a ≠ b ∧ A.g.n < 40 ∧ ∀ i, ¬ A.g.at a b i)) ∨ (ok = true ∧ ∃ t p', t < 28 ∧ a = tI t ∧ (t < 4 ∨ A.T (t - 4) = true) ∧ p' < 24 ∧ b = nI p' ∧ A.T p' = true ∧ a ≠ b ∧ A.g.n < 40 ∧ (∀ i, ¬ A.g.at a b i) ∧ A' = A.tie t p' true)))
      ∨ (l.getD p 0 = 120 ∧ ((ok = false ∧ A' = A ∧ ∀ i, ¬ A.g.at a b i) ∨ (ok = true ∧ ∃ i, A.g.at a b i ∧ A' = A.cut i)))
      ∨ (l.getD p 0 = 102 ∧ ((ok = false ∧ A' = A ∧ ∀ i, A.g.at a b i → A.g.Z i = false) ∨ (ok = true ∧ ∃ i, A.g.at a b i ∧ A.g.Z i = true ∧ A' = A.snd i false)))
      ∨ (l.getD p 0 = 109 ∧ ((ok = false ∧ A' = A ∧ ∀ i, A.g.at a b i → A.g.Z i = true) ∨ (ok = true ∧ ∃ i, A.g.at a b i ∧ A.g.Z i = false ∧ A' = A.snd i true)))) → CMD l p 5 A ok A' := fun ok A' kd z ht hkd hok => by
      refine ⟨by omega, by omega, ?_, ht.1, by rcases hc with hc | hc | hc | hc <;> rw [hc] <;> decide, fun j hj1 hj2 => ?_, fun M hT hC => ?_, fun M lo h d h5 => ?_⟩
      · rw [show p + 5 = p + 3 + 2 by omega, rn_two (Or.inl e3) hpo, if_pos e3]
      · have : j = p + 1 ∨ j = p + 1 + 1 ∨ j = p + 3 ∨ j = p + 3 + 1 := by omega
        rcases this with rfl | rfl | rfl | rfl
        · exact z1
        · exact z2
        · exact z3
        · exact z4
      · rw [f6_obeyAt]
        refine wp_call (c_codeAt hT hp) ?_
        have fin := ob_bind (ht.2 0 M hC)
        rw [ha, hb] at fin
        have e13 : nI p + (3 : Int32) = nI (p + 3) := nI_add p 3
        rcases hkd with ⟨hc, rfl, rfl⟩ | ⟨hc, rfl, rfl⟩ | ⟨hc, rfl, rfl⟩ | ⟨hc, rfl, rfl⟩
        · rw [hc]
          iterate 18 refine wp_ifn (by decide) ?_
          refine wp_ifp rfl ?_
          rw [iI_succ, e13]
          refine wp_call (c_thingAt hT hto) ?_
          refine wp_call (c_numberAt hT hpo) ?_
          exact fin
        · rw [hc]
          iterate 22 refine wp_ifn (by decide) ?_
          refine wp_ifp rfl ?_
          rw [iI_succ, e13]
          refine wp_call (c_thingAt hT hto) ?_
          refine wp_call (c_numberAt hT hpo) ?_
          exact fin
        · rw [hc]
          iterate 4 refine wp_ifn (by decide) ?_
          refine wp_ifp rfl ?_
          rw [iI_succ, e13]
          refine wp_call (c_thingAt hT hto) ?_
          refine wp_call (c_numberAt hT hpo) ?_
          exact fin
        · rw [hc]
          iterate 11 refine wp_ifn (by decide) ?_
          refine wp_ifp rfl ?_
          rw [iI_succ, e13]
          refine wp_call (c_thingAt hT hto) ?_
          refine wp_call (c_numberAt hT hpo) ?_
          exact fin
      · refine rc_string h hp hc ?_
        rw [f8_readString]
        obtain ⟨M1, e1', t1, f1⟩ := r_accept h true (fun _ _ => hp)
        refine wp_call e1' ?_
        have t1' : TX M1 l true (p + 1) := t1
        obtain ⟨⟨v2, M3⟩, e3', f3, h3⟩ := r_thing t1' e1
        dsimp only at f3 h3
        refine wp_b2 e3' ?_
        rcases h3 with ⟨-, t3, rfl⟩ | ⟨q, -⟩
        · have t3' : TX M3 l true (p + 3) := t3
          obtain ⟨⟨v4, M5⟩, e5', f5, h5'⟩ := r_part t3'
          dsimp only at f5 h5'
          refine wp_b2 e5' ?_
          rcases h5' with ⟨-, t5, rfl⟩ | ⟨q, -⟩
          · have f15 := (f1.trans f3).trans f5
            have d5 := f15.ds d
            have e4 : M5.1 17 0 4 = bI01 true := t5.2.2.2.2.2.1
            have h55 : M5.1 17 0 5 = nI lo := f15.lo.trans h5
            rw [← ha, ← hb]
            with_reducible refine wp_bd ?_
            rw [e4]
            refine wp_ifn (by decide) ?_
            have fin : ∀ V9 V10 : Int32, ((V9 = 0 ∧ ¬ (A.isTh a ∧ A.isP b) ∧ V10 = -9 ∧ ∀ i, ¬ A.g.at a b i) ∨ (V9 = 1 ∧ A.isTh a ∧ A.isP b ∧ ((V10 = -9 ∧ ∀ i, ¬ A.g.at a b i) ∨ ∃ i, V10 = nI i ∧ A.g.at a b i))) → wp (sx_bd (fun (v11 : Int32) =>
          (f8_count v11 M5).bind fun M12 =>
          if v11 = 0 then
            some M12
          else
            sx_bd (fun (M14 : sx_M) =>
              some M14) fun j242 =>
            if nI (l.getD p 0) = (116 : Int32) then
              (f8_tieIn 19 a b (1 : Int32) M12).bind fun M22 =>
              j242 M22
            else
              if nI (l.getD p 0) = (120 : Int32) then
                (f8_removeString 19 V10 M12).bind fun M21 =>
                j242 M21
              else
                if nI (l.getD p 0) = (102 : Int32) then
                  (f8_cordAt V10 (2 : Int32) M12).bind fun v19 =>
                  if sx_in v19 247 then
                  sx_bd (sx_set M12 19 0 (v19).toNatClampNeg (0 : Int32)) fun M20 =>
                  j242 M20
                  else none
                else
                  (f8_mendIn 19 V10 M12).bind fun M18 =>
                  j242 M18) fun j161 =>
        if nI (l.getD p 0) = (116 : Int32) then
          sx_bd (fun (_ : Unit) =>
            j161 (0 : Int32)) fun j105 =>
          if V9 = 0 then
            j105 ()
          else
            if a = b then
              j105 ()
            else
              (f8_canTie 19 a b M5).bind fun v35 =>
              if v35 = 0 then
                j105 ()
              else
                j161 (1 : Int32)
        else
          sx_bd (fun (_ : Unit) =>
            j161 (0 : Int32)) fun j160 =>
          if V10 = (-9 : Int32) then
            j160 ()
          else
            sx_bd (fun (_ : Unit) =>
              j161 (1 : Int32)) fun j156 =>
            if nI (l.getD p 0) = (120 : Int32) then
              j156 ()
            else
              (f8_cordAt V10 (2 : Int32) M5).bind fun v26 =>
              if sx_in v26 247 then
              sx_bd (M5.1 19 0 (v26).toNatClampNeg) fun v27 =>
              sx_bd (fun (v28 : Int32) =>
                sx_bd (fun (v29 : Int32) =>
                  if v28 = v29 then
                    j156 ()
                  else
                    j160 ()) fun j153 =>
                if nI (l.getD p 0) = (102 : Int32) then
                  j153 (1 : Int32)
                else
                  j153 (0 : Int32)) fun j142 =>
              if v27 = (1 : Int32) then
                j142 (1 : Int32)
              else
                j142 (0 : Int32)
              else none) (DONE M l (p + 5) lo ok A') := fun V9 V10 hv => by
              refine wp_mono (r_tail (letter := l.getD p 0) hI t5 d5 h55 hv hok) (fun M' q => ⟨q.1, q.2.1, q.2.2.1, f15.frc.trans q.2.2.2⟩)
            have nothere : ¬ (A.isTh a ∧ A.isP b) → ∀ i, ¬ A.g.at a b i := fun hz i hi => hz (at_ends hI hi)
            obtain ⟨v8, e8, h8⟩ := w8_isThing row19 d5 hT0 a
            refine wp_call e8 ?_
            with_reducible refine wp_bd ?_
            with_reducible refine wp_bd ?_
            rcases h8 with ⟨rfl, hth⟩ | ⟨rfl, hth⟩
            · refine wp_ifn (by decide) ?_
              obtain ⟨v40, e40, h40⟩ := w8_isPart row19 d5 hT0 b
              refine wp_call e40 ?_
              rcases h40 with ⟨rfl, hpb⟩ | ⟨rfl, hpb⟩
              · refine wp_ifn (by decide) ?_
                with_reducible refine wp_bd ?_
                refine wp_ifn (by decide) ?_
                obtain ⟨v38, e38, h38⟩ := w8_find row19 d5.1 a b
                refine wp_call e38 ?_
                refine fin 1 v38 (Or.inr ⟨rfl, hth, hpb, ?_⟩)
                rcases h38 with q | ⟨i, q1, q2, -⟩
                · exact Or.inl q
                · exact Or.inr ⟨i, q1, q2⟩
              · refine wp_ifp rfl ?_
                with_reducible refine wp_bd ?_
                refine wp_ifp rfl ?_
                exact fin 0 (-9) (Or.inl ⟨rfl, fun q => hpb q.2, rfl, nothere (fun q => hpb q.2)⟩)
            · refine wp_ifp rfl ?_
              with_reducible refine wp_bd ?_
              refine wp_ifp rfl ?_
              exact fin 0 (-9) (Or.inl ⟨rfl, fun q => hth q.1, rfl, nothere (fun q => hth q.1)⟩)
          · exact absurd hpo q
        · exact absurd hto q
    rcases hc with hc | hc | hc | hc
    · rcases try_tie hI a b with ⟨hno, ht⟩ | ⟨t, p', y1, y2, y3, y4, y5, y6, y7, y8, y9, ht⟩
      · exact ⟨5, false, A, key _ _ 2 1 ht (Or.inl ⟨hc, rfl, rfl⟩) (Or.inl ⟨hc, Or.inl ⟨rfl, rfl, hno⟩⟩)⟩
      · exact ⟨5, true, _, key _ _ 2 1 ht (Or.inl ⟨hc, rfl, rfl⟩) (Or.inl ⟨hc, Or.inr ⟨rfl, t, p', y1, y2, y3, y4, y5, y6, y7, y8, y9, rfl⟩⟩)⟩
    · rcases try_cut hI a b 0 with ⟨hno, ht⟩ | ⟨i, hi, ht⟩
      · exact ⟨5, false, A, key _ _ 3 0 ht (Or.inr (Or.inl ⟨hc, rfl, rfl⟩)) (Or.inr (Or.inl ⟨hc, Or.inl ⟨rfl, rfl, hno⟩⟩))⟩
      · exact ⟨5, true, _, key _ _ 3 0 ht (Or.inr (Or.inl ⟨hc, rfl, rfl⟩)) (Or.inr (Or.inl ⟨hc, Or.inr ⟨rfl, i, hi, rfl⟩⟩))⟩
    · rcases try_fray hI a b 0 with ⟨hno, ht⟩ | ⟨i, hi, hz, ht⟩
      · exact ⟨5, false, A, key _ _ 4 0 ht (Or.inr (Or.inr (Or.inl ⟨hc, rfl, rfl⟩))) (Or.inr (Or.inr (Or.inl ⟨hc, Or.inl ⟨rfl, rfl, hno⟩⟩)))⟩
      · exact ⟨5, true, _, key _ _ 4 0 ht (Or.inr (Or.inr (Or.inl ⟨hc, rfl, rfl⟩))) (Or.inr (Or.inr (Or.inl ⟨hc, Or.inr ⟨rfl, i, hi, hz, rfl⟩⟩)))⟩
    · rcases try_mend hI a b 0 with ⟨hno, ht⟩ | ⟨i, hi, hz, ht⟩
      · exact ⟨5, false, A, key _ _ 5 0 ht (Or.inr (Or.inr (Or.inr ⟨hc, rfl, rfl⟩))) (Or.inr (Or.inr (Or.inr ⟨hc, Or.inl ⟨rfl, rfl, hno⟩⟩)))⟩
      · exact ⟨5, true, _, key _ _ 5 0 ht (Or.inr (Or.inr (Or.inr ⟨hc, rfl, rfl⟩))) (Or.inr (Or.inr (Or.inr ⟨hc, Or.inr ⟨rfl, i, hi, hz, rfl⟩⟩)))⟩
  · right
    -- the reference stops at an error
    have run : ∀ M, TX M l true p → wp (f8_readString (nI (l.getD p 0)) M) (fun M' => ∃ p', ERR l p' ∧ TX M' l false p' ∧ FRC M M') := fun M h => by
      rw [f8_readString]
      obtain ⟨M1, e1', t1, f1⟩ := r_accept h true (fun _ _ => hp)
      refine wp_call e1' ?_
      have t1' : TX M1 l true (p + 1) := t1
      obtain ⟨⟨v2, M3⟩, e3', f3, h3⟩ := r_thing t1' e1
      dsimp only at f3 h3
      refine wp_b2 e3' ?_
      rcases h3 with ⟨hto, t3, rfl⟩ | ⟨-, p', t3, herr⟩
      · have t3' : TX M3 l true (p + 3) := t3
        have e3 : rn l (p + 3) = 7 := by rw [show p + 3 = p + 1 + 2 by omega]; exact rn_thing e1 hto
        obtain ⟨⟨v4, M5⟩, e5', f5, h5'⟩ := r_part t3'
        dsimp only at f5 h5'
        refine wp_b2 e5' ?_
        rcases h5' with ⟨hpo, -⟩ | ⟨-, p', t5, hp'⟩
        · exact absurd ⟨hto, hpo⟩ hd
        · have e4 : M5.1 17 0 4 = bI01 false := t5.2.2.2.2.2.1
          with_reducible refine wp_bd ?_
          rw [e4]
          refine wp_ifp rfl ?_
          exact wp_some ⟨p', ERR_two (by have := TO_lt hto; omega) (Or.inl e3) hp', t5, ((f1.trans f3).trans f5).frc⟩
      · obtain ⟨⟨v4, M5⟩, e5', f5, t5⟩ := r_part_id t3
        dsimp only at f5 t5
        refine wp_b2 e5' ?_
        have e4 : M5.1 17 0 4 = bI01 false := t5.2.2.2.2.2.1
        with_reducible refine wp_bd ?_
        rw [e4]
        refine wp_ifp rfl ?_
        exact wp_some ⟨p', herr, t5, ((f1.trans f3).trans f5).frc⟩
    -- some memory holds such a text, so the place is there
    have mem : TX (fun k _ i => if k = 18 then nI (l.getD i 0) else if i = 2 then nI l.length else if i = 3 then nI p else 1, fun _ _ _ => 0) l true p := by
      refine ⟨hlen, hcs, rfl, fun i _ => rfl, rfl, rfl, by omega⟩
    obtain ⟨-, -, p', herr, -⟩ := run _ mem
    refine ⟨p', herr, fun M lo h d h5 => rc_string h hp hc (wp_mono (run M h) (fun M' q => ?_))⟩
    obtain ⟨p'', z1, z2, z3⟩ := q
    rw [ERR_uniq z1 herr] at z2
    exact ⟨z2, z3⟩
theorem cmd_ex (hlen : l.length ≤ 120) (hcs : ∀ c ∈ l, c < 256) (hr : rn l p = 1) (hp : p < l.length) (hI : IS A) : (∃ k ok A', CMD l p k A ok A') ∨ NOC l p A := by
  by_cases h1 : l.getD p 0 = 110
  · exact cmd_make hlen hcs hr hp hI h1
  · by_cases h2 : l.getD p 0 = 116 ∨ l.getD p 0 = 120 ∨ l.getD p 0 = 102 ∨ l.getD p 0 = 109
    · exact cmd_string hlen hcs hr hp hI h2
    · by_cases h3 : l.getD p 0 = 112
      · exact cmd_pin hlen hcs hr hp hI h3
      · by_cases h4 : l.getD p 0 = 98 ∨ l.getD p 0 = 115
        · exact cmd_sweep hlen hcs hr hp hI h4
        · exact Or.inr (cmd_none hr hp h1 h2 h3 h4)
end
