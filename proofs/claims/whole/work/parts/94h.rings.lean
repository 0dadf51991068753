/-! RINGS, SIDE BY SIDE -/
/-- below part t0 hangs t -/
def GT.und (g : GT) (t0 t : Nat) : Bool := g.held (g.nx (fun x => decide (x = t0 + 4))) (t + 4)
def pBF : Nat → Nat → Prop := fun k s => (k = 28 ∨ k = 29) ∧ s = 0
def BI (g : GT) (t0 : Nat) (M0 M1 : sx_M) (Q : List Nat) (is : Bool) : Prop := Fr pBF M0 M1 ∧ Q.Nodup ∧ (∀ q ∈ Q, q < 24) ∧ (0 < Q.length ∧ Q.getD 0 0 = t0) ∧ (∀ e, e < Q.length → M1.1 29 0 e = nI (Q.getD e 0)) ∧ (∀ p, p < 24 → M1.1 28 0 p = if p ∈ Q ∧ p ≠ t0 then 0 else -9) ∧ (∀ q ∈ Q, q = t0 ∨ g.und t0 q = true) ∧ (is = true → g.und t0 t0 = true)
def BP (g : GT) (t0 : Nat) (Q : List Nat) (is : Bool) (k j : Nat) : Prop := ∀ k' i, k' < Q.length → i < g.n → (k' < k ∨ (k' = k ∧ i < j)) → g.Z i = true → g.A i = Q.getD k' 0 + 4 → g.B i ∈ Q ∧ (g.B i = t0 → is = true)
theorem getD_mem {l : List Nat} {e : Nat} (h : e < l.length) : l.getD e 0 ∈ l := by
  rw [List.getD_eq_getElem?_getD, List.getElem?_eq_getElem h]
  exact List.getElem_mem h
theorem getD_app {l : List Nat} {x e : Nat} (h : e < l.length) : (l ++ [x]).getD e 0 = l.getD e 0 := by
  rw [List.getD_eq_getElem?_getD, List.getD_eq_getElem?_getD, List.getElem?_append_left h]
theorem getD_last {l : List Nat} {x : Nat} : (l ++ [x]).getD l.length 0 = x := by
  simp [List.getD_eq_getElem?_getD]
theorem BI.len {g : GT} {t0 : Nat} {M0 M1 : sx_M} {Q : List Nat} {is : Bool} (h : BI g t0 M0 M1 Q is) : Q.length ≤ 24 := nd_len h.2.1 h.2.2.1
theorem und_next {g : GT} (hg : g.ok) {t0 v i : Nat} (hi : i < g.n) (hz : g.Z i = true) (ha : g.A i = v + 4) (hv : v = t0 ∨ g.und t0 v = true) : g.und t0 (g.B i) = true := by
  rcases hv with rfl | hv
  · refine GT.held_H (GT.nx_iff.mpr ⟨i, hi, hz, ?_, rfl⟩)
    rw [ha, decide_eq_true rfl]
  · exact GT.held_closed hg hi hz (by rw [ha]; exact hv)
theorem w8_rgL {M0 M : sx_M} {A : SH} {t0 k N : Nat} {Q0 : List Nat} {is0 : Bool} {K : Int32 → Int32 → sx_M → Option (Int32 × sx_M)} {R : Int32 × sx_M → Prop} (h : DS M0 20 A) (hok : A.g.ok) (ht0 : t0 < 24) (hN : 40 < N) (hk : k < Q0.length) (hB : BI A.g t0 M0 M Q0 is0) (hP : BP A.g t0 Q0 is0 k 0)
    (hK : ∀ Q is M1, k < Q.length → BI A.g t0 M0 M1 Q is → BP A.g t0 Q is (k + 1) 0 → wp (K (nI Q.length) (bI01 is) M1) R) : wp (f8_isOnRing_L48 (nI t0) (nI k) K N (nI Q0.length) (bI01 is0) 0 M) R := by
  have h40 := hok.1
  refine wp_up (F := fun m x5 (a : List Nat × Bool × sx_M) => f8_isOnRing_L48 (nI t0) (nI k) K m (nI a.1.length) (bI01 a.2.1) x5 a.2.2) A.g.n (fun j a => k < a.1.length ∧ BI A.g t0 M0 a.2.2 a.1 a.2.1 ∧ BP A.g t0 a.1 a.2.1 k j) (fun m j a hj hI kk => ?_) (fun m a hI => ?_) N 0 (Q0, is0, M) (by omega) (by omega) ⟨hk, hB, hP⟩
  · obtain ⟨Q, is, M1⟩ := a
    obtain ⟨hkQ, hB1, hP1⟩ := hI
    dsimp only at hkQ hB1 hP1
    obtain ⟨f1, nd, hlt, ⟨hl0, hh0⟩, h29, h28, hund, his⟩ := id hB1
    have hlen := hB1.len
    have d1 : DS M1 20 A := h.fr f1 (fun q => by have := q.1; omega)
    obtain ⟨g1, g2, g3, g4, g5⟩ := d1.1.2.2 j hj
    have e2 : M1.1 20 0 ((2 : Int32)).toNatClampNeg = nI A.g.n := d1.1.2.1
    have hvQ := getD_mem hkQ
    have hv24 := hlt _ hvQ
    have hvu := hund _ hvQ
    have ev : M1.1 29 0 (nI k).toNatClampNeg = nI (Q.getD k 0) := by rw [nI_cl (by omega)]; exact h29 k hkQ
    generalize hv : Q.getD k 0 = v at hvQ hv24 hvu ev
    have body : ∀ lead : Bool, lead = (A.g.Z j && decide (A.g.A j = v + 4)) → wp (sx_bd (fun (v15 : Int32) =>
        sx_bd (fun (v16 : Int32) (M17 : sx_M) =>
          sx_bd (nI j + (1 : Int32)) fun v18 =>
          f8_isOnRing_L48 (nI t0) (nI k) K m v16 v15 v18 M17) fun j178 =>
        if bI01 lead = 0 then
          j178 (nI Q.length) M1
        else
          if nI (A.g.B j) = nI t0 then
            j178 (nI Q.length) M1
          else
            if sx_in (nI (A.g.B j)) 24 then
            sx_bd (M1.1 28 0 (nI (A.g.B j)).toNatClampNeg) fun v21 =>
            if v21 = (-9 : Int32) then
              if sx_in (nI (A.g.B j)) 24 then
              sx_bd (sx_set M1 28 0 (nI (A.g.B j)).toNatClampNeg (0 : Int32)) fun M23 =>
              if sx_in (nI Q.length) 24 then
              sx_bd (sx_set M23 29 0 (nI Q.length).toNatClampNeg (nI (A.g.B j))) fun M24 =>
              sx_bd (nI Q.length + (1 : Int32)) fun v25 =>
              j178 v25 M24
              else none
              else none
            else
              j178 (nI Q.length) M1
            else none) fun j135 =>
      sx_bd (fun (_ : Unit) =>
        j135 (1 : Int32)) fun j130 =>
      if bI01 is = 0 then
        sx_bd (fun (_ : Unit) =>
          j135 (0 : Int32)) fun j134 =>
        if bI01 lead = 0 then
          j134 ()
        else
          if nI (A.g.B j) = nI t0 then
            j130 ()
          else
            j134 ()
      else
        j130 ()) R := fun lead hlead => by
      with_reducible refine wp_bd ?_
      with_reducible refine wp_bd ?_
      cases lead with
      | false =>
        have keep : wp (f8_isOnRing_L48 (nI t0) (nI k) K m (nI Q.length) (bI01 is) (nI j + 1) M1) R := kk (Q, is, M1) ⟨hkQ, hB1, fun k' i hk' hi hc hz ha => by
          by_cases e : k' = k ∧ i = j
          · obtain ⟨rfl, rfl⟩ := e
            have hz' : A.g.Z i = true := hz
            have ha' : A.g.A i = Q.getD k' 0 + 4 := ha
            rw [hv] at ha'
            rw [hz', decide_eq_true ha'] at hlead
            cases hlead
          · exact hP1 k' i hk' hi (by omega) hz ha⟩
        cases is with
        | false =>
          refine wp_ifp rfl ?_
          with_reducible refine wp_bd ?_
          refine wp_ifp rfl ?_
          with_reducible refine wp_bd ?_
          refine wp_ifp rfl ?_
          exact keep
        | true =>
          refine wp_ifn (by decide) ?_
          with_reducible refine wp_bd ?_
          refine wp_ifp rfl ?_
          exact keep
      | true =>
        have hlead' := hlead.symm
        rw [Bool.and_eq_true, decide_eq_true_eq] at hlead'
        obtain ⟨hz, ha⟩ := hlead'
        have hub := und_next hok hj hz ha hvu
        -- the string leads to the target itself
        by_cases hbt : A.g.B j = t0
        · have keep : wp (f8_isOnRing_L48 (nI t0) (nI k) K m (nI Q.length) (bI01 true) (nI j + 1) M1) R := kk (Q, true, M1) ⟨hkQ, ⟨f1, nd, hlt, ⟨hl0, hh0⟩, h29, h28, hund, fun _ => by rw [← hbt]; rw [hbt] at hub ⊢; exact hub⟩, fun k' i hk' hi hc hz2 ha2 => by
            by_cases e : k' = k ∧ i = j
            · obtain ⟨rfl, rfl⟩ := e
              refine ⟨?_, fun _ => rfl⟩
              rw [hbt, ← hh0]
              exact getD_mem hl0
            · exact ⟨(hP1 k' i hk' hi (by omega) hz2 ha2).1, fun _ => rfl⟩⟩
          have ebt : nI (A.g.B j) = nI t0 := by rw [hbt]
          cases is with
          | false =>
            refine wp_ifp rfl ?_
            with_reducible refine wp_bd ?_
            refine wp_ifn (by decide) ?_
            refine wp_ifp ebt ?_
            with_reducible refine wp_bd ?_
            refine wp_ifn (by decide) ?_
            refine wp_ifp ebt ?_
            exact keep
          | true =>
            refine wp_ifn (by decide) ?_
            with_reducible refine wp_bd ?_
            refine wp_ifn (by decide) ?_
            refine wp_ifp ebt ?_
            exact keep
        · have nbt : ¬ nI (A.g.B j) = nI t0 := by rw [iI_eq (by omega) (by omega)]; exact hbt
          have tail : ∀ b : Bool, b = is → wp (if sx_in (nI (A.g.B j)) 24 then
            sx_bd (M1.1 28 0 (nI (A.g.B j)).toNatClampNeg) fun v21 =>
            if v21 = (-9 : Int32) then
              if sx_in (nI (A.g.B j)) 24 then
              sx_bd (sx_set M1 28 0 (nI (A.g.B j)).toNatClampNeg (0 : Int32)) fun M23 =>
              if sx_in (nI Q.length) 24 then
              sx_bd (sx_set M23 29 0 (nI Q.length).toNatClampNeg (nI (A.g.B j))) fun M24 =>
              sx_bd (nI Q.length + (1 : Int32)) fun v25 =>
              (fun (v16 : Int32) (M17 : sx_M) =>
                sx_bd (nI j + (1 : Int32)) fun v18 =>
                f8_isOnRing_L48 (nI t0) (nI k) K m v16 (bI01 b) v18 M17) v25 M24
              else none
              else none
            else
              (fun (v16 : Int32) (M17 : sx_M) =>
                sx_bd (nI j + (1 : Int32)) fun v18 =>
                f8_isOnRing_L48 (nI t0) (nI k) K m v16 (bI01 b) v18 M17) (nI Q.length) M1
            else none) R := fun b hb => by
            subst hb
            have e28 : M1.1 28 0 (nI (A.g.B j)).toNatClampNeg = if A.g.B j ∈ Q ∧ A.g.B j ≠ t0 then 0 else -9 := by rw [nI_cl (by omega)]; exact h28 _ g2
            refine wp_ifp (sx_in_n g2 (by omega)) ?_
            with_reducible refine wp_bd ?_
            by_cases hbQ : A.g.B j ∈ Q
            · rw [e28.trans (if_pos ⟨hbQ, hbt⟩)]
              refine wp_ifn (by decide) ?_
              exact kk (Q, b, M1) ⟨hkQ, hB1, fun k' i hk' hi hc hz2 ha2 => by
                by_cases e : k' = k ∧ i = j
                · obtain ⟨rfl, rfl⟩ := e
                  exact ⟨hbQ, fun q => absurd q hbt⟩
                · exact hP1 k' i hk' hi (by omega) hz2 ha2⟩
            · rw [e28.trans (if_neg (fun q => hbQ q.1))]
              refine wp_ifp rfl ?_
              refine wp_ifp (sx_in_n g2 (by omega)) ?_
              with_reducible refine wp_bd ?_
              have hlt24 : Q.length < 24 := by
                have : (A.g.B j :: Q).length ≤ 24 := nd_len (List.nodup_cons.mpr ⟨hbQ, nd⟩) (fun x hx => by
                  rcases List.mem_cons.mp hx with rfl | hx
                  · exact g2
                  · exact hlt x hx)
                exact this
              refine wp_ifp (sx_in_n hlt24 (by omega)) ?_
              with_reducible refine wp_bd ?_
              with_reducible refine wp_bd ?_
              rw [nI_cl (a := A.g.B j) (by omega), nI_cl (a := Q.length) (by omega)]
              have el : (Q ++ [A.g.B j]).length = Q.length + 1 := by rw [List.length_append]; rfl
              have hK' := kk (Q ++ [A.g.B j], b, sx_set (sx_set M1 28 0 (A.g.B j) (0 : Int32)) 29 0 Q.length (nI (A.g.B j))) ⟨by show k < (Q ++ [A.g.B j]).length; omega, ⟨(f1.set ⟨Or.inl rfl, rfl⟩).set ⟨Or.inr rfl, rfl⟩, ?_, fun q hq => ?_, ⟨by show 0 < (Q ++ [A.g.B j]).length; omega, by rw [getD_app hl0]; exact hh0⟩, fun e he => ?_, fun p hp => ?_, fun q hq => ?_, his⟩, fun k' i hk' hi hc hz2 ha2 => ?_⟩
              · have e9 : nI Q.length + (1 : Int32) = nI (Q ++ [A.g.B j]).length := by rw [el]; exact iI_succ _
                rw [e9]; exact hK'
              · rw [List.nodup_append]
                exact ⟨nd, by simp, fun a ha b hb e => by rw [List.mem_singleton.mp hb] at e; rw [e] at ha; exact hbQ ha⟩
              · rcases List.mem_append.mp hq with hq | hq
                · exact hlt q hq
                · rw [List.mem_singleton.mp hq]; exact g2
              · rw [el] at he
                show (sx_set (sx_set M1 28 0 (A.g.B j) (0 : Int32)) 29 0 Q.length (nI (A.g.B j))).1 29 0 e = _
                by_cases q : e = Q.length
                · subst q
                  rw [rd_e, getD_last]
                · rw [rd_n _ _ _ _ _ _ _ _ q, st_at, if_neg (by omega), getD_app (by omega)]
                  exact h29 e (by omega)
              · show (sx_set (sx_set M1 28 0 (A.g.B j) (0 : Int32)) 29 0 Q.length (nI (A.g.B j))).1 28 0 p = _
                rw [st_at, if_neg (by omega), st_at]
                by_cases q : p = A.g.B j
                · subst q
                  rw [if_pos ⟨rfl, rfl, rfl⟩, if_pos ⟨by simp, hbt⟩]
                · rw [if_neg (fun z => q z.2.2), h28 p hp]
                  have : (p ∈ Q ∧ p ≠ t0) ↔ (p ∈ Q ++ [A.g.B j] ∧ p ≠ t0) := by simp [q]
                  by_cases z : p ∈ Q ∧ p ≠ t0
                  · rw [if_pos z, if_pos (this.mp z)]
                  · rw [if_neg z, if_neg (fun y => z (this.mpr y))]
              · rcases List.mem_append.mp hq with hq | hq
                · exact hund q hq
                · rw [List.mem_singleton.mp hq]; exact Or.inr hub
              · have hk2 : k' < (Q ++ [A.g.B j]).length := hk'
                rw [el] at hk2
                have ha3 : A.g.A i = (Q ++ [A.g.B j]).getD k' 0 + 4 := ha2
                rw [getD_app (by omega)] at ha3
                show A.g.B i ∈ Q ++ [A.g.B j] ∧ (A.g.B i = t0 → b = true)
                by_cases e : k' = k ∧ i = j
                · obtain ⟨rfl, rfl⟩ := e
                  exact ⟨by simp, fun q => absurd q hbt⟩
                · obtain ⟨z1, z2⟩ := hP1 k' i (by omega) hi (by omega) hz2 ha3
                  exact ⟨List.mem_append_left _ z1, z2⟩
          cases is with
          | false =>
            refine wp_ifp rfl ?_
            with_reducible refine wp_bd ?_
            refine wp_ifn (by decide) ?_
            refine wp_ifn nbt ?_
            with_reducible refine wp_bd ?_
            refine wp_ifn (by decide) ?_
            refine wp_ifn nbt ?_
            exact tail false rfl
          | true =>
            refine wp_ifn (by decide) ?_
            with_reducible refine wp_bd ?_
            refine wp_ifn (by decide) ?_
            refine wp_ifn nbt ?_
            exact tail true rfl
    show wp (f8_isOnRing_L48 (nI t0) (nI k) K (m + 1) (nI Q.length) (bI01 is) (nI j) M1) _
    rw [f8_isOnRing_L48]
    refine wp_ifp (in3 row20 (a := 2) (by omega)) ?_
    with_reducible refine wp_bd ?_
    rw [e2]
    refine wp_ifn (by rw [iI_le (by omega) (by omega)]; omega) ?_
    refine wp_call (w8_co1 _ _) ?_
    refine wp_ifp (in3 row20 (by omega)) ?_
    with_reducible refine wp_bd ?_
    refine wp_call (w8_co0 _ _) ?_
    refine wp_ifp (in3 row20 (by omega)) ?_
    with_reducible refine wp_bd ?_
    refine wp_ifp (sx_in_n (by omega) (by omega)) ?_
    with_reducible refine wp_bd ?_
    have e10 : M1.1 20 0 (nI (103 + 3 * j + 1)).toNatClampNeg = nI (A.g.B j) := by rw [nI_cl (by omega)]; exact g4
    have e12 : M1.1 20 0 (nI (103 + 3 * j + 0)).toNatClampNeg = tI (A.g.A j) := by rw [nI_cl (by omega)]; exact g3
    rw [ev, e10, e12]
    with_reducible refine wp_bd ?_
    with_reducible refine wp_bd ?_
    with_reducible refine wp_if (fun c => ?_) (fun c => ?_) <;> rw [tI_nI (by omega) (by omega)] at c
    · refine wp_call (w8_co2 _ _) ?_
      refine wp_ifp (in3 row20 (by omega)) ?_
      have e5 : M1.1 20 0 (nI (103 + 3 * j + 2)).toNatClampNeg = bI01 (A.g.Z j) := by rw [nI_cl (by omega)]; exact g5
      with_reducible refine wp_bd ?_
      rw [e5]
      with_reducible refine wp_if (fun c2 => ?_) (fun c2 => ?_) <;> rw [bI01_1] at c2
      · exact body true (by rw [c2, decide_eq_true c]; rfl)
      · rw [Bool.not_eq_true] at c2
        exact body false (by rw [c2]; rfl)
    · exact body false (by rw [decide_eq_false c, Bool.and_false])
  · obtain ⟨Q, is, M1⟩ := a
    obtain ⟨hkQ, hB1, hP1⟩ := hI
    dsimp only at hkQ hB1 hP1
    have d1 : DS M1 20 A := h.fr hB1.1 (fun q => by have := q.1; omega)
    have e2 : M1.1 20 0 ((2 : Int32)).toNatClampNeg = nI A.g.n := d1.1.2.1
    show wp (f8_isOnRing_L48 (nI t0) (nI k) K (m + 1) (nI Q.length) (bI01 is) (nI A.g.n) M1) _
    rw [f8_isOnRing_L48]
    refine wp_ifp (in3 row20 (a := 2) (by omega)) ?_
    with_reducible refine wp_bd ?_
    rw [e2]
    refine wp_ifp (by rw [iI_le (by omega) (by omega)]; omega) ?_
    exact hK Q is M1 hkQ hB1 (fun k' i hk' hi hc hz ha => hP1 k' i hk' hi (by omega) hz ha)
theorem w8_isOnRing {M : sx_M} {A : SH} (h : DS M 20 A) (hok : A.g.ok) {t0 : Nat} (ht0 : t0 < 24) : wp (f8_isOnRing (nI t0) M) (fun q => q.1 = bI01 (A.g.ring t0) ∧ Fr pBF M q.2) := by
  rw [f8_isOnRing]
  refine wp_up (F := fun m x4 M1 => f8_isOnRing_L7 (nI t0) 1 0 _ m x4 M1) 24 (fun j M1 => Fr pBF M M1 ∧ ∀ p, p < j → M1.1 28 0 p = -9) (fun m j M1 hj hI kk => ?_) (fun m M1 hI => ?_) 5000 0 M (by omega) (by omega) ⟨Fr.rf, fun p hp => absurd hp (Nat.not_lt_zero _)⟩
  · obtain ⟨f1, h1⟩ := hI
    show wp (f8_isOnRing_L7 (nI t0) 1 0 _ (m + 1) (nI j) M1) _
    rw [f8_isOnRing_L7]
    refine wp_ifn (by rw [show (24 : Int32) = nI 24 from rfl, iI_le (by omega) (by omega)]; omega) ?_
    refine wp_ifp (sx_in_n hj (by omega)) ?_
    with_reducible refine wp_bd ?_
    with_reducible refine wp_bd ?_
    rw [nI_cl (by omega)]
    refine kk _ ⟨f1.set ⟨Or.inl rfl, rfl⟩, fun p hp => ?_⟩
    by_cases q : p = j
    · subst q; rw [rd_e]
    · rw [rd_n _ _ _ _ _ _ _ _ q]; exact h1 p (by omega)
  · obtain ⟨f1, h1⟩ := hI
    show wp (f8_isOnRing_L7 (nI t0) 1 0 _ (m + 1) (nI 24) M1) _
    rw [f8_isOnRing_L7]
    refine wp_ifp (by decide) ?_
    refine wp_ifp ⟨by decide, by decide⟩ ?_
    with_reducible refine wp_bd ?_
    have hB0 : BI A.g t0 M (sx_set M1 29 0 ((0 : Int32)).toNatClampNeg (nI t0)) [t0] false := by
      refine ⟨f1.set ⟨Or.inr rfl, rfl⟩, by simp, fun q hq => by rw [List.mem_singleton.mp hq]; exact ht0, ⟨Nat.zero_lt_one, rfl⟩, fun e he => ?_, fun p hp => ?_, fun q hq => Or.inl (List.mem_singleton.mp hq), fun q => by cases q⟩
      · have he' : e < 1 := he
        have e0 : e = 0 := by omega
        subst e0
        exact rd_e _ _ _ _ _
      · rw [st_at, if_neg (by omega), h1 p hp, if_neg (fun q => q.2 (List.mem_singleton.mp q.1))]
    generalize sx_set M1 29 0 ((0 : Int32)).toNatClampNeg (nI t0) = M5 at hB0
    -- the outer loop
    refine wp_wh (F := fun n (a : Nat × List Nat × Bool × sx_M) => f8_isOnRing_L39 (nI t0) n (nI a.2.1.length) (bI01 a.2.2.1) (nI a.1) a.2.2.2) (fun a => 24 - a.1) (fun a => a.1 ≤ 24 ∧ BI A.g t0 M a.2.2.2 a.2.1 a.2.2.1 ∧ BP A.g t0 a.2.1 a.2.2.1 a.1 0 ∧ a.1 ≤ a.2.1.length) (fun n a hI kk => ?_) 5000 (0, [t0], false, M5) (by show 24 - 0 < 5000; omega) ⟨by show 0 ≤ 24; omega, hB0, fun k' i hk' hi hc _ _ => by have : k' < 0 ∨ (k' = 0 ∧ i < 0) := hc; omega, Nat.zero_le _⟩
    obtain ⟨k, Q, is, M6⟩ := a
    obtain ⟨hk24, hB, hP, hkl⟩ := hI
    dsimp only at hk24 hB hP hkl
    have hlen := hB.len
    show wp (f8_isOnRing_L39 (nI t0) (n + 1) (nI Q.length) (bI01 is) (nI k) M6) _
    rw [f8_isOnRing_L39]
    with_reducible refine wp_if (fun c => ?_) (fun c => ?_) <;> rw [iI_le (by omega) (by omega)] at c
    · refine wp_ifp (bI01_01 is) ?_
      refine wp_some ⟨?_, hB.1⟩
      show bI01 is = bI01 (A.g.ring t0)
      have key : is = A.g.ring t0 := by
        obtain ⟨-, nd, hlt, ⟨hl0, hh0⟩, -, -, hund, his⟩ := hB
        cases e : is with
        | true => exact (his e).symm
        | false =>
          symm
          cases er : A.g.ring t0 with
          | false => rfl
          | true =>
            have er' : A.g.held (A.g.nx (fun x => decide (x = t0 + 4))) (t0 + 4) = true := er
            have := GT.lev_least (g := A.g) (Y := fun t => ∃ q ∈ Q, q ≠ t0 ∧ t = q + 4) (fun t _ hx => by
              obtain ⟨i, hi, hz, ha, et⟩ := GT.nx_iff.mp hx
              rw [decide_eq_true_eq] at ha
              obtain ⟨z1, z2⟩ := hP 0 i hl0 hi (by omega) hz (by rw [hh0]; exact ha)
              exact ⟨A.g.B i, z1, fun q => (by have := z2 q; rw [e] at this; cases this), et⟩) (fun i hi hz hy => by
              obtain ⟨q, hq, -, hqa⟩ := hy
              obtain ⟨k', hk', ek'⟩ : ∃ k', k' < Q.length ∧ Q.getD k' 0 = q := by
                obtain ⟨k', hk', e⟩ := List.getElem_of_mem hq
                exact ⟨k', hk', by rw [List.getD_eq_getElem?_getD, List.getElem?_eq_getElem hk']; exact e⟩
              obtain ⟨z1, z2⟩ := hP k' i hk' hi (by omega) hz (by rw [ek']; exact hqa)
              exact ⟨A.g.B i, z1, fun q => (by have := z2 q; rw [e] at this; cases this), rfl⟩) hok 24 (t0 + 4) (by omega) er'
            obtain ⟨q, -, hq, e4⟩ := this
            exact absurd (by omega) hq
      rw [key]
    · refine w8_rgL h hok ht0 (by omega) (by omega) hB hP (fun Q' is' M' hkl' hB' hP' => ?_)
      with_reducible refine wp_bd ?_
      rw [iI_succ]
      have hlen' := hB'.len
      exact kk (k + 1, Q', is', M') ⟨by show k + 1 ≤ 24; omega, hB', hP', hkl'⟩ (by show 24 - (k + 1) < 24 - k; omega)
theorem pair_rings : PAIR0 (fun M => (f7_rings M).bind fun v => some (v, M)) (fun M => f8_rings M) := by
  intro st M hI hR
  have hok := hI.1.1
  have hT := hI.1.2.2.2.1
  have h24 := hI.1.ws.1
  refine ⟨nI (fb_ct (fun p => st.A.T p && !st.A.H p && st.A.g.ring p) 24), st, hI, ?_, fun M2 hM => ?_⟩
  · show wp ((f7_rings M).bind fun v => some (v, M)) _
    rw [f7_rings]
    refine wp_call (a := nI (fb_ct (fun p => st.A.T p && !st.A.H p && st.A.g.ring p) 24)) (by rw [w3_partsOnRings hR.1]; rfl) ?_
    exact wp_some ⟨rfl, hR, fun _ _ _ => rfl⟩
  · show wp (f8_rings M2) _
    rw [f8_rings]
    with_reducible refine wp_bd ?_
    have r4 := hM.ref 0
    have lk : ∀ (M' : sx_M) (w : Int32), (∀ k s, (k ≤ 20 ∨ 22 ≤ k ∧ k ≤ 24) → M'.1 k s = (sx_set M2 17 0 0 0).1 k s) → w = nI (fb_ct (fun p => st.A.T p && !st.A.H p && st.A.g.ring p) 24) → GOOD M2 st (nI (fb_ct (fun p => st.A.T p && !st.A.H p && st.A.g.ring p) 24)) (w, M') := fun M' w f e => good_look hM f e
    generalize sx_set M2 17 0 0 0 = M4 at r4 lk ⊢
    obtain ⟨M6, e6, hl, f6⟩ := w8_lay row20 r4.1 hI.1
    refine wp_call e6 ?_
    have d6 := r4.1.fr f6 (row3_25 row20)
    refine wp_up (F := fun m x2 (a : Int32 × sx_M) => f8_rings_L17 m a.1 x2 a.2) st.A.m (fun j a => a.1 = nI (fb_ct (fun p => st.A.T p && !st.A.H p && st.A.g.ring p) j) ∧ Fr pBF M6 a.2) (fun m j a hj hI2 kk => ?_) (fun m a hI2 => ?_) 5000 0 (0, M6) (by omega) (by omega) ⟨rfl, Fr.rf⟩
    · obtain ⟨x1, M7⟩ := a
      obtain ⟨i1, f7⟩ := hI2
      dsimp only at i1 f7
      subst i1
      have d7 := d6.fr f7 (fun q => by have := q.1; omega)
      have e0 : M7.1 20 0 ((0 : Int32)).toNatClampNeg = nI st.A.m := d7.2.2.1
      have eb := fb_ct_bI (fun p => st.A.T p && !st.A.H p && st.A.g.ring p) j
      have e25 : M7.1 25 0 = M6.1 25 0 := f7.1 25 0 (fun q => by have := q.1; omega)
      have no : ∀ M8, Fr pBF M6 M8 → (st.A.T j && !st.A.H j && st.A.g.ring j) = false → wp (f8_rings_L17 m (nI (fb_ct (fun p => st.A.T p && !st.A.H p && st.A.g.ring p) j) + 0) (nI j + 1) M8) (fun q => GOOD M2 st (nI (fb_ct (fun p => st.A.T p && !st.A.H p && st.A.g.ring p) 24)) q) := fun M8 f8 hc => kk (_, M8) ⟨by rw [← eb, hc]; rfl, f8⟩
      show wp (f8_rings_L17 (m + 1) _ (nI j) M7) _
      rw [f8_rings_L17]
      refine wp_ifp (in3 row20 (a := 0) (by omega)) ?_
      with_reducible refine wp_bd ?_
      rw [e0]
      refine wp_ifn (by rw [iI_le (by omega) (by omega)]; omega) ?_
      obtain ⟨r1, e1, hr1⟩ := w8_isPart row20 d7 (fun p _ => hT p) (nI j)
      refine wp_call e1 ?_
      with_reducible refine wp_bd ?_
      with_reducible refine wp_bd ?_
      rcases hr1 with ⟨rfl, p', hp', ep', hTp⟩ | ⟨rfl, hno⟩
      · rw [iI_eq (by omega) (by omega)] at ep'
        subst ep'
        refine wp_ifn (by decide) ?_
        refine wp_ifp (sx_in_n (by omega) (by omega)) ?_
        with_reducible refine wp_bd ?_
        rw [nI_cl (by omega), e25]
        with_reducible refine wp_if (fun c => ?_) (fun c => ?_) <;> rw [hl.cell99 (by omega)] at c
        · obtain ⟨⟨v14, M8⟩, e8, q1, f8⟩ := w8_isOnRing d7 hok (t0 := j) (by omega)
          dsimp only at q1 f8
          subst q1
          refine wp_b2 e8 ?_
          with_reducible refine wp_if (fun c2 => ?_) (fun c2 => ?_) <;> rw [bI01_0] at c2
          · with_reducible refine wp_bd ?_
            exact no M8 (f7.trans f8) (by rw [c2]; simp)
          · rw [Bool.not_eq_false] at c2
            exact kk (_, M8) ⟨by rw [← eb, hTp, c, c2]; rfl, f7.trans f8⟩
        · rw [Bool.not_eq_false] at c
          exact no M7 f7 (by rw [c]; simp)
      · refine wp_ifp rfl ?_
        refine no M7 f7 ?_
        cases e : st.A.T j with
        | false => rfl
        | true => exact absurd ⟨j, by omega, rfl, e⟩ hno
    · obtain ⟨x1, M7⟩ := a
      obtain ⟨i1, f7⟩ := hI2
      dsimp only at i1 f7
      subst i1
      have d7 := d6.fr f7 (fun q => by have := q.1; omega)
      have e0 : M7.1 20 0 ((0 : Int32)).toNatClampNeg = nI st.A.m := d7.2.2.1
      show wp (f8_rings_L17 (m + 1) _ (nI st.A.m) M7) _
      rw [f8_rings_L17]
      refine wp_ifp (in3 row20 (a := 0) (by omega)) ?_
      with_reducible refine wp_bd ?_
      rw [e0]
      refine wp_ifp (by rw [iI_le (by omega) (by omega)]; omega) ?_
      refine wp_some (lk _ _ (fun k s hk => (f7.1 k s (fun q => by have := q.1; omega)).trans (hits1 f6 (by omega) s)) ?_)
      rw [ct_m h24 (fun p q => by
        rw [Bool.and_eq_true, Bool.and_eq_true] at q
        exact hT p q.1.1)]
