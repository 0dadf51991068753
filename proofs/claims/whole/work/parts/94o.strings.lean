/-! THE REFERENCE READS A COMMAND OF STRINGS -/
/-- the row, the place, the good and the count have changed -/
def FRC (M M' : sx_M) : Prop := ∀ k s i, ¬ (k = 19 ∧ s = 0) → ¬ (k = 17 ∧ s = 0 ∧ (i = 3 ∨ i = 4 ∨ i = 5)) → M'.1 k s i = M.1 k s i
theorem FRT.frc {M M' : sx_M} (h : FRT M M') : FRC M M' := fun k s i _ h2 => h k s i (fun q => h2 (by omega))
theorem FRC.trans {M M1 M2 : sx_M} (h : FRC M M1) (h' : FRC M1 M2) : FRC M M2 := fun k s i h1 h2 => (h' k s i h1 h2).trans (h k s i h1 h2)
theorem fr19 {M M' : sx_M} (h : Fr (pRw 19) M M') : FRC M M' := fun k s i h1 _ => congrFun (h.1 k s (fun q => h1 q)) i
theorem FRC.tx {M M' : sx_M} {l : List Nat} {g : Bool} {p : Nat} (h : TX M l g p) (e2 : M'.1 17 0 2 = M.1 17 0 2) (e3 : M'.1 17 0 3 = M.1 17 0 3) (e4 : M'.1 17 0 4 = M.1 17 0 4) (e18 : M'.1 18 0 = M.1 18 0) : TX M' l g p := by
  unfold TX
  rw [e2, e3, e4, e18]
  exact h
theorem TX.fr {M M' : sx_M} {l : List Nat} {g : Bool} {p : Nat} (h : TX M l g p) (hf : Fr (pRw 19) M M') : TX M' l g p := by
  have e : ∀ k, k ≠ 19 → M'.1 k 0 = M.1 k 0 := fun k hk => hf.1 k 0 (fun q => hk q.1)
  exact FRC.tx h (by rw [e 17 (by omega)]) (by rw [e 17 (by omega)]) (by rw [e 17 (by omega)]) (e 18 (by omega))
theorem r_count {M : sx_M} {l : List Nat} {g : Bool} {p lo : Nat} {A : SH} (h : TX M l g p) (d : DS M 19 A) (h5 : M.1 17 0 5 = nI lo) (can : Bool) : wp (f8_count (bI01 can) M) (fun M' => TX M' l g p ∧ DS M' 19 A ∧ M'.1 17 0 5 = nI (lo + if can then 0 else 1) ∧ FRC M M') := by
  rw [f8_count]
  with_reducible refine wp_bd ?_
  with_reducible refine wp_bd ?_
  rw [h5]
  have fin : ∀ w : Nat, wp (sx_bd (nI w) fun v2 => sx_bd (sx_set M 17 0 5 (nI lo + v2)) fun M3 => some M3) (fun M' => TX M' l g p ∧ DS M' 19 A ∧ M'.1 17 0 5 = nI (lo + w) ∧ FRC M M') := fun w => by
    with_reducible refine wp_bd ?_
    with_reducible refine wp_bd ?_
    rw [nI_add]
    refine wp_some ⟨FRC.tx h (rd_n _ _ _ _ _ _ _ _ (by omega)) (rd_n _ _ _ _ _ _ _ _ (by omega)) (rd_n _ _ _ _ _ _ _ _ (by omega)) ?_, ?_, rd_e _ _ _ _ _, fun k s i h1 h2 => ?_⟩
    · funext i; rw [st_at, if_neg (by omega)]
    · have e : (sx_set M 17 0 5 (nI (lo + w))).1 19 0 = M.1 19 0 := by funext i; rw [st_at, if_neg (by omega)]
      rw [DAt_iff, e]; exact d
    · rw [st_at, if_neg (by omega)]
  cases can with
  | true => exact wp_ifn (by decide) (fin 0)
  | false => exact wp_ifp rfl (fin 1)
/-- the result of a command of the reference -/
def DONE (M : sx_M) (l : List Nat) (p lo : Nat) (ok : Bool) (A' : SH) (M' : sx_M) : Prop := TX M' l true p ∧ DS M' 19 A' ∧ M'.1 17 0 5 = nI (lo + if ok then 0 else 1) ∧ FRC M M'
section
variable {A : SH} {l : List Nat} {p lo letter : Nat} {a b : Int32} {M5 : sx_M}
theorem r_tail (hI : IS A) (h : TX M5 l true p) (d : DS M5 19 A) (h5 : M5.1 17 0 5 = nI lo) {V9 V10 : Int32} (hv : (V9 = 0 ∧ ¬ (A.isTh a ∧ A.isP b) ∧ V10 = -9 ∧ ∀ i, ¬ A.g.at a b i) ∨ (V9 = 1 ∧ A.isTh a ∧ A.isP b ∧ ((V10 = -9 ∧ ∀ i, ¬ A.g.at a b i) ∨ ∃ i, V10 = nI i ∧ A.g.at a b i)))
    {ok : Bool} {A' : SH} (hl : (letter = 116 ∧ ((ok = false ∧ A' = A ∧ ¬ (A.isTh a ∧ A.isP b ∧ a ≠ b ∧ A.g.n < 40 ∧ ∀ i, ¬ A.g.at a b i)) ∨ (ok = true ∧ ∃ t p', t < 28 ∧ a = tI t ∧ (t < 4 ∨ A.T (t - 4) = true) ∧ p' < 24 ∧ b = nI p' ∧ A.T p' = true ∧ a ≠ b ∧ A.g.n < 40 ∧ (∀ i, ¬ A.g.at a b i) ∧ A' = A.tie t p' true)))
      ∨ (letter = 120 ∧ ((ok = false ∧ A' = A ∧ ∀ i, ¬ A.g.at a b i) ∨ (ok = true ∧ ∃ i, A.g.at a b i ∧ A' = A.cut i)))
      ∨ (letter = 102 ∧ ((ok = false ∧ A' = A ∧ ∀ i, A.g.at a b i → A.g.Z i = false) ∨ (ok = true ∧ ∃ i, A.g.at a b i ∧ A.g.Z i = true ∧ A' = A.snd i false)))
      ∨ (letter = 109 ∧ ((ok = false ∧ A' = A ∧ ∀ i, A.g.at a b i → A.g.Z i = true) ∨ (ok = true ∧ ∃ i, A.g.at a b i ∧ A.g.Z i = false ∧ A' = A.snd i true)))) : wp (sx_bd (fun (v11 : Int32) =>
          (f8_count v11 M5).bind fun M12 =>
          if v11 = 0 then
            some M12
          else
            sx_bd (fun (M14 : sx_M) =>
              some M14) fun j242 =>
            if nI letter = (116 : Int32) then
              (f8_tieIn 19 a b (1 : Int32) M12).bind fun M22 =>
              j242 M22
            else
              if nI letter = (120 : Int32) then
                (f8_removeString 19 V10 M12).bind fun M21 =>
                j242 M21
              else
                if nI letter = (102 : Int32) then
                  (f8_cordAt V10 (2 : Int32) M12).bind fun v19 =>
                  if sx_in v19 247 then
                  sx_bd (sx_set M12 19 0 (v19).toNatClampNeg (0 : Int32)) fun M20 =>
                  j242 M20
                  else none
                else
                  (f8_mendIn 19 V10 M12).bind fun M18 =>
                  j242 M18) fun j161 =>
        if nI letter = (116 : Int32) then
          sx_bd (fun (_ : Unit) =>
            j161 (0 : Int32)) fun j105 =>
          if V9 = 0 then
            j105 ()
          else
            if a = b then
              j105 ()
            else
              (f8_canTie 19 a b M5).bind fun v35 =>
              if v35 = 0 then
                j105 ()
              else
                j161 (1 : Int32)
        else
          sx_bd (fun (_ : Unit) =>
            j161 (0 : Int32)) fun j160 =>
          if V10 = (-9 : Int32) then
            j160 ()
          else
            sx_bd (fun (_ : Unit) =>
              j161 (1 : Int32)) fun j156 =>
            if nI letter = (120 : Int32) then
              j156 ()
            else
              (f8_cordAt V10 (2 : Int32) M5).bind fun v26 =>
              if sx_in v26 247 then
              sx_bd (M5.1 19 0 (v26).toNatClampNeg) fun v27 =>
              sx_bd (fun (v28 : Int32) =>
                sx_bd (fun (v29 : Int32) =>
                  if v28 = v29 then
                    j156 ()
                  else
                    j160 ()) fun j153 =>
                if nI letter = (102 : Int32) then
                  j153 (1 : Int32)
                else
                  j153 (0 : Int32)) fun j142 =>
              if v27 = (1 : Int32) then
                j142 (1 : Int32)
              else
                j142 (0 : Int32)
              else none) (DONE M5 l p lo ok A') := by
  have h40 := hI.1.1
  have no : ok = false → A' = A → wp ((f8_count (0 : Int32) M5).bind fun M12 => some M12) (DONE M5 l p lo ok A') := fun e1 e2 => by
    subst e1 e2
    obtain ⟨M12, e12, q1, q2, q3, q4⟩ := r_count h d h5 false
    refine wp_call e12 ?_
    exact wp_some ⟨q1, q2, q3, q4⟩
  have ye : ∀ (X : sx_M → Option sx_M), ok = true → (∀ M12, DS M12 19 A → wp (X M12) (fun M' => DS M' 19 A' ∧ Fr (pRw 19) M12 M')) → wp ((f8_count (1 : Int32) M5).bind X) (DONE M5 l p lo ok A') := fun X e1 hX => by
    subst e1
    obtain ⟨M12, e12, q1, q2, q3, q4⟩ := r_count h d h5 true
    refine wp_call e12 ?_
    obtain ⟨M', e', x1, x2⟩ := hX M12 q2
    refine ⟨M', e', q1.fr x2, x1, ?_, q4.trans (fr19 x2)⟩
    rw [x2.1 17 0 (fun q => by have := q.1; omega)]; exact q3
  have nl : ∀ x y : Nat, x < 1000 → y < 1000 → x ≠ y → ¬ nI x = nI y := fun x y hx hy hxy => by rw [iI_eq (by omega) (by omega)]; exact hxy
  with_reducible refine wp_bd ?_
  rcases hl with ⟨rfl, hl⟩ | ⟨rfl, hl⟩ | ⟨rfl, hl⟩ | ⟨rfl, hl⟩
  · refine wp_ifp rfl ?_
    with_reducible refine wp_bd ?_
    rcases hl with ⟨e1, e2, hno⟩ | ⟨e1, t, p', h1, rfl, h3, h4, rfl, h6, h7, h8, h9, rfl⟩
    · have fin := no e1 e2
      rcases hv with ⟨rfl, -⟩ | ⟨rfl, ha, hb, -⟩
      · exact wp_ifp rfl fin
      · refine wp_ifn (by decide) ?_
        with_reducible refine wp_if (fun c => ?_) (fun c => ?_)
        · exact fin
        · obtain ⟨r3, e3, hr3⟩ := w8_canTie row19 d a b
          refine wp_call e3 ?_
          rcases hr3 with ⟨-, q3⟩ | ⟨rfl, -⟩
          · exact absurd ⟨ha, hb, c, q3⟩ hno
          · exact wp_ifp rfl fin
    · rcases hv with ⟨-, hz, -⟩ | ⟨rfl, ha, hb, -⟩
      · exact absurd ⟨⟨t, h1, rfl, h3⟩, ⟨p', h4, rfl, h6⟩⟩ hz
      · refine wp_ifn (by decide) ?_
        refine wp_ifn h7 ?_
        obtain ⟨r3, e3, hr3⟩ := w8_canTie row19 d (tI t) (nI p')
        refine wp_call e3 ?_
        rcases hr3 with ⟨rfl, -⟩ | ⟨-, q⟩
        · refine wp_ifn (by decide) ?_
          refine ye _ e1 (fun M12 d12 => ?_)
          refine wp_ifn (by decide) ?_
          with_reducible refine wp_bd ?_
          refine wp_ifp rfl ?_
          obtain ⟨M22, e22, d22, f22⟩ := w8_tieIn row19 d12 hI.ws h8 h1 (h3.imp id (fun q => ⟨hI.2.2.2.1 _ q, q⟩)) (hI.2.2.2.1 _ h6) h6 true
          refine wp_call e22 ?_
          exact wp_some ⟨d22, f22⟩
        · exact absurd ⟨h8, h9⟩ q
  all_goals
    have fnd : (V10 = -9 ∧ ∀ i, ¬ A.g.at a b i) ∨ ∃ i, V10 = nI i ∧ A.g.at a b i := by
      rcases hv with ⟨-, -, q1, q2⟩ | ⟨-, -, -, q⟩
      · exact Or.inl ⟨q1, q2⟩
      · exact q
  · refine wp_ifn (nl 120 116 (by omega) (by omega) (by omega)) ?_
    with_reducible refine wp_bd ?_
    rcases hl with ⟨e1, e2, hno⟩ | ⟨e1, i, hi, rfl⟩
    · rcases fnd with ⟨rfl, -⟩ | ⟨i, -, hi⟩
      · exact wp_ifp rfl (no e1 e2)
      · exact absurd hi (hno i)
    · rcases fnd with ⟨-, q⟩ | ⟨j, rfl, hj⟩
      · exact absurd hi (q i)
      · have eij := at_uniq hI hj hi
        subst eij
        have hjn := hj.1
        refine wp_ifn (nI_ne_m9 (by omega)) ?_
        with_reducible refine wp_bd ?_
        refine wp_ifp rfl ?_
        refine ye _ e1 (fun M12 d12 => ?_)
        refine wp_ifn (by decide) ?_
        with_reducible refine wp_bd ?_
        refine wp_ifn (nl 120 116 (by omega) (by omega) (by omega)) ?_
        refine wp_ifp rfl ?_
        obtain ⟨M21, e21, d21, f21⟩ := w8_removeString row19 d12 hjn
        refine wp_call e21 ?_
        exact wp_some ⟨d21, f21⟩
  · refine wp_ifn (nl 102 116 (by omega) (by omega) (by omega)) ?_
    with_reducible refine wp_bd ?_
    rcases fnd with ⟨rfl, hno⟩ | ⟨j, rfl, hj⟩
    · rcases hl with ⟨e1, e2, -⟩ | ⟨-, i, hi, -⟩
      · exact wp_ifp rfl (no e1 e2)
      · exact absurd hi (hno i)
    · have hjn := hj.1
      refine wp_ifn (nI_ne_m9 (by omega)) ?_
      with_reducible refine wp_bd ?_
      refine wp_ifn (nl 102 120 (by omega) (by omega) (by omega)) ?_
      refine wp_call (w8_co2 _ _) ?_
      refine wp_ifp (in3 row19 (by omega)) ?_
      have ez : M5.1 19 0 (nI (103 + 3 * j + 2)).toNatClampNeg = bI01 (A.g.Z j) := by rw [nI_cl (by omega)]; exact (d.1.2.2 j hjn).2.2.2.2
      with_reducible refine wp_bd ?_
      with_reducible refine wp_bd ?_
      rw [ez]
      rcases hl with ⟨e1, e2, hno⟩ | ⟨e1, i, hi, hz, rfl⟩
      · rw [hno j hj]
        refine wp_ifn (by decide) ?_
        with_reducible refine wp_bd ?_
        refine wp_ifp rfl ?_
        refine wp_ifn (by decide) ?_
        exact no e1 e2
      · have eij := at_uniq hI hj hi
        subst eij
        rw [hz]
        refine wp_ifp rfl ?_
        with_reducible refine wp_bd ?_
        refine wp_ifp rfl ?_
        refine wp_ifp rfl ?_
        refine ye _ e1 (fun M12 d12 => ?_)
        refine wp_ifn (by decide) ?_
        with_reducible refine wp_bd ?_
        refine wp_ifn (nl 102 116 (by omega) (by omega) (by omega)) ?_
        refine wp_ifn (nl 102 120 (by omega) (by omega) (by omega)) ?_
        refine wp_ifp rfl ?_
        refine wp_call (w8_co2 _ _) ?_
        refine wp_ifp (in3 row19 (by omega)) ?_
        with_reducible refine wp_bd ?_
        rw [nI_cl (by omega)]
        exact wp_some ⟨d12.snd hjn false, Fr.rf.set (pRw_i 19)⟩
  · refine wp_ifn (nl 109 116 (by omega) (by omega) (by omega)) ?_
    with_reducible refine wp_bd ?_
    rcases fnd with ⟨rfl, hno⟩ | ⟨j, rfl, hj⟩
    · rcases hl with ⟨e1, e2, -⟩ | ⟨-, i, hi, -⟩
      · exact wp_ifp rfl (no e1 e2)
      · exact absurd hi (hno i)
    · have hjn := hj.1
      refine wp_ifn (nI_ne_m9 (by omega)) ?_
      with_reducible refine wp_bd ?_
      refine wp_ifn (nl 109 120 (by omega) (by omega) (by omega)) ?_
      refine wp_call (w8_co2 _ _) ?_
      refine wp_ifp (in3 row19 (by omega)) ?_
      have ez : M5.1 19 0 (nI (103 + 3 * j + 2)).toNatClampNeg = bI01 (A.g.Z j) := by rw [nI_cl (by omega)]; exact (d.1.2.2 j hjn).2.2.2.2
      with_reducible refine wp_bd ?_
      with_reducible refine wp_bd ?_
      rw [ez]
      rcases hl with ⟨e1, e2, hno⟩ | ⟨e1, i, hi, hz, rfl⟩
      · rw [hno j hj]
        refine wp_ifp rfl ?_
        with_reducible refine wp_bd ?_
        refine wp_ifn (nl 109 102 (by omega) (by omega) (by omega)) ?_
        refine wp_ifn (by decide) ?_
        exact no e1 e2
      · have eij := at_uniq hI hj hi
        subst eij
        rw [hz]
        refine wp_ifn (by decide) ?_
        with_reducible refine wp_bd ?_
        refine wp_ifn (nl 109 102 (by omega) (by omega) (by omega)) ?_
        refine wp_ifp rfl ?_
        refine ye _ e1 (fun M12 d12 => ?_)
        refine wp_ifn (by decide) ?_
        with_reducible refine wp_bd ?_
        refine wp_ifn (nl 109 116 (by omega) (by omega) (by omega)) ?_
        refine wp_ifn (nl 109 120 (by omega) (by omega) (by omega)) ?_
        refine wp_ifn (nl 109 102 (by omega) (by omega) (by omega)) ?_
        have hend := hI.2.2.1 j hjn
        have hTm := hI.2.2.2.1
        obtain ⟨M9, e9, d9, f9⟩ := w8_mendIn row19 d12 hI.ws hjn (hend.1.imp id (fun q => ⟨hTm _ q, q⟩)) (hTm _ hend.2) hend.2
        refine wp_call e9 ?_
        exact wp_some ⟨d9, f9⟩
end
