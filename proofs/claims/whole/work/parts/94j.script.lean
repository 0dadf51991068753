/-! A SCRIPT'S COMMAND, SIDE BY SIDE -/
theorem hit01 (b : Bool) (M : sx_M) {Q : Int32 × sx_M → Prop} (h : Q (bI01 b, M)) : wp (if bI01 b = 0 ∨ bI01 b = 1 then some (bI01 b, M) else none) Q := wp_ifp (bI01_01 b) (wp_some h)
theorem w21_makes_no {A : SH} {w : Nat} (hw : w < 1000) (hc : w = 0 ∨ A.m = 24) (h24 : A.m ≤ 24) : MT A (f8_makes (nI w)) false A := by
  intro M h
  have fin : wp (some ((0 : Int32), M)) (fun q => q.1 = bI01 false ∧ DS q.2 21 A ∧ ∀ k s, k ≠ 21 → k ≠ 25 → q.2.1 k s = M.1 k s) := wp_some ⟨rfl, h, fun _ _ _ _ => rfl⟩
  rw [f8_makes]
  with_reducible refine wp_bd ?_
  with_reducible refine wp_if (fun c => ?_) (fun c => ?_) <;> rw [show (0 : Int32) = nI 0 from rfl, iI_eq (by omega) (by omega)] at c
  · exact fin
  · refine wp_ifp (in3 row21 (a := 0) (by omega)) ?_
    have e0 : M.1 21 0 ((0 : Int32)).toNatClampNeg = nI A.m := h.2.2.1
    with_reducible refine wp_bd ?_
    rw [e0, hc.resolve_left c]
    exact wp_ifp rfl fin
theorem w21_makes_yes {A : SH} (hI : IS A) {w : Nat} (hw : w < 1000) (h0 : w ≠ 0) (hm : A.m < 24) : MT A (f8_makes (nI w)) true (A.make (nI w)) := by
  intro M h
  rw [f8_makes]
  with_reducible refine wp_bd ?_
  refine wp_ifn (by rw [show (0 : Int32) = nI 0 from rfl, iI_eq (by omega) (by omega)]; exact h0) ?_
  refine wp_ifp (in3 row21 (a := 0) (by omega)) ?_
  have e0 : M.1 21 0 ((0 : Int32)).toNatClampNeg = nI A.m := h.2.2.1
  with_reducible refine wp_bd ?_
  rw [e0]
  refine wp_ifn (by rw [show (24 : Int32) = nI 24 from rfl, iI_eq (by omega) (by omega)]; omega) ?_
  obtain ⟨⟨v, M5⟩, e5, -, d5, f5⟩ := w8_makeIn row21 h hI.ws hI.2.2.2.1 hI.2.2.2.2.1 hm (nI w)
  refine wp_b2 e5 ?_
  exact wp_some ⟨rfl, d5, fr21 f5⟩
theorem w21_begins_no {A : SH} (hG : A.G = true) : MT A f8_begins false A := by
  intro M h
  rw [f8_begins]
  refine wp_ifp (in3 row21 (a := 3) (by omega)) ?_
  have e3 : M.1 21 0 ((3 : Int32)).toNatClampNeg = bI01 A.G := h.2.2.2.2.1
  with_reducible refine wp_bd ?_
  rw [e3, hG]
  exact wp_ifp rfl (wp_some ⟨rfl, h, fun _ _ _ _ => rfl⟩)
theorem w21_begins_yes {A : SH} (hI : IS A) (hG : A.G = false) : MT A f8_begins true A.begin := by
  intro M h
  rw [f8_begins]
  refine wp_ifp (in3 row21 (a := 3) (by omega)) ?_
  have e3 : M.1 21 0 ((3 : Int32)).toNatClampNeg = bI01 A.G := h.2.2.2.2.1
  with_reducible refine wp_bd ?_
  rw [e3, hG]
  refine wp_ifn (by decide) ?_
  obtain ⟨⟨v, M4⟩, e4, -, d4, f4⟩ := w8_beginIn row21 h hI.2.2.2.1
  refine wp_b2 e4 ?_
  exact wp_some ⟨rfl, d4, fr21 f4⟩
theorem w21_steps_no {A : SH} {w : Nat} (hw : w < 1000) (hc : w = 0 ∨ A.G = false) : MT A (f8_steps (nI w)) false A := by
  intro M h
  have fin : wp (some ((0 : Int32), M)) (fun q => q.1 = bI01 false ∧ DS q.2 21 A ∧ ∀ k s, k ≠ 21 → k ≠ 25 → q.2.1 k s = M.1 k s) := wp_some ⟨rfl, h, fun _ _ _ _ => rfl⟩
  rw [f8_steps]
  with_reducible refine wp_bd ?_
  with_reducible refine wp_if (fun c => ?_) (fun c => ?_) <;> rw [show (0 : Int32) = nI 0 from rfl, iI_eq (by omega) (by omega)] at c
  · exact fin
  · refine wp_ifp (in3 row21 (a := 3) (by omega)) ?_
    have e3 : M.1 21 0 ((3 : Int32)).toNatClampNeg = bI01 A.G := h.2.2.2.2.1
    with_reducible refine wp_bd ?_
    rw [e3, hc.resolve_left c]
    exact wp_ifp rfl fin
theorem w21_steps_yes {A : SH} (hI : IS A) {w : Nat} (hw : w < 1000) (h0 : w ≠ 0) (hG : A.G = true) : MT A (f8_steps (nI w)) true (A.steps w) := by
  intro M h
  rw [f8_steps]
  with_reducible refine wp_bd ?_
  refine wp_ifn (by rw [show (0 : Int32) = nI 0 from rfl, iI_eq (by omega) (by omega)]; exact h0) ?_
  refine wp_ifp (in3 row21 (a := 3) (by omega)) ?_
  have e3 : M.1 21 0 ((3 : Int32)).toNatClampNeg = bI01 A.G := h.2.2.2.2.1
  with_reducible refine wp_bd ?_
  rw [e3, hG]
  refine wp_ifn (by decide) ?_
  refine wp_up (F := fun m x2 M1 => f8_steps_L17 (nI w) (fun (M10 : sx_M) => some ((1 : Int32), M10)) m x2 M1) w (fun j M1 => DS M1 21 (A.steps j) ∧ Fr (pRw 21) M M1) (fun m j M1 hj hI2 kk => ?_) (fun m M1 hI2 => ?_) 5000 0 M (by omega) (by omega) ⟨h, Fr.rf⟩
  · obtain ⟨d1, f1⟩ := hI2
    show wp (f8_steps_L17 (nI w) _ (m + 1) (nI j) M1) _
    rw [f8_steps_L17]
    refine wp_ifn (by rw [iI_le (by omega) (by omega)]; omega) ?_
    refine wp_ifp (in3 row21 (a := 3) (by omega)) ?_
    have e3 : M1.1 21 0 ((3 : Int32)).toNatClampNeg = bI01 (A.steps j).G := d1.2.2.2.2.1
    with_reducible refine wp_bd ?_
    rw [e3]
    cases hGj : (A.steps j).G with
    | false =>
      refine wp_ifn (by decide) ?_
      refine wp_some ⟨rfl, ?_, fr21 f1⟩
      rw [SH.steps_stop hGj w (by omega)]
      exact d1
    | true =>
      refine wp_ifp rfl ?_
      obtain ⟨⟨v, M8⟩, e8, -, d8, f8⟩ := w8_stepIn row21 d1 hGj (hI.steps j)
      refine wp_b2 e8 ?_
      with_reducible refine wp_bd ?_
      refine kk M8 ⟨?_, f1.trans f8⟩
      show DS M8 21 (if (A.steps j).G then (A.steps j).step else A.steps j)
      rw [if_pos hGj]
      exact d8
  · obtain ⟨d1, f1⟩ := hI2
    show wp (f8_steps_L17 (nI w) _ (m + 1) (nI w) M1) _
    rw [f8_steps_L17]
    refine wp_ifp (by rw [iI_le (by omega) (by omega)]; omega) ?_
    exact wp_some ⟨rfl, d1, fr21 f1⟩
/-- a thing told by two digits -/
def thI (d : Nat) : Int32 := if 90 ≤ d ∧ d ≤ 93 then 89 - nI d else nI d
theorem c_thingOf {d : Nat} (hd : d < 1000) (M : sx_M) : f2_thingOf (nI d) M = some (thI d) := by
  refine wp_get ?_
  rw [f2_thingOf]
  with_reducible refine wp_bd ?_
  with_reducible refine wp_bd ?_
  unfold thI
  with_reducible refine wp_if (fun c => ?_) (fun c => ?_) <;> rw [show (90 : Int32) = nI 90 from rfl, iI_lt (by omega) (by omega)] at c
  · rw [if_neg (by omega)]; exact wp_some rfl
  · with_reducible refine wp_if (fun c2 => ?_) (fun c2 => ?_) <;> rw [show (94 : Int32) = nI 94 from rfl, iI_le (by omega) (by omega)] at c2
    · rw [if_neg (by omega)]; exact wp_some rfl
    · rw [if_pos (by omega)]; exact wp_some rfl
theorem m_thingOf {d : Nat} (hd : d < 1000) (M : sx_M) : f8_thingOf (nI d) M = some (thI d) := by
  refine wp_get ?_
  rw [f8_thingOf]
  obtain ⟨r, e, hr⟩ := w8_in (nI d).toInt64 90 93 M
  have hin : ((90 : Int64) ≤ (nI d).toInt64 ∧ (nI d).toInt64 ≤ 93) ↔ (90 ≤ d ∧ d ≤ 93) := by
    rw [in_iff (nI d) 90 93 90 93 (by decide) (by decide), show (90 : Int32) = nI 90 from rfl, show (93 : Int32) = nI 93 from rfl, iI_le (by omega) (by omega), iI_le (by omega) (by omega)]
  refine wp_call e ?_
  with_reducible refine wp_bd ?_
  unfold thI
  rcases hr with ⟨rfl, q⟩ | ⟨rfl, q⟩
  · rw [if_pos (hin.mp q)]
    exact wp_ifn (by decide) (wp_some rfl)
  · rw [if_neg (fun z => q (hin.mpr z))]
    exact wp_ifp rfl (wp_some rfl)
theorem w21_isHeld {A : SH} (hI : IS A) {p : Nat} (hp : p < 24) {M : sx_M} (h : DS M 21 A) : wp (f8_isHeld (nI p) M) (fun q => q.1 = bI01 (A.H p) ∧ DL q.2 A ∧ DS q.2 21 A ∧ Fr (pRw 25) M q.2) := by
  rw [f8_isHeld]
  obtain ⟨M1, e1, hl, f1⟩ := w8_lay row21 h hI
  refine wp_call e1 ?_
  refine wp_ifp (sx_in_n hp (by omega)) ?_
  with_reducible refine wp_bd ?_
  with_reducible refine wp_bd ?_
  rw [nI_cl (by omega)]
  with_reducible refine wp_if (fun c => ?_) (fun c => ?_) <;> rw [hl.cell hp] at c
  · exact wp_ifp (Or.inl rfl) (wp_some ⟨by rw [c]; rfl, hl, h.fr f1 (row3_25 row21), f1⟩)
  · rw [Bool.not_eq_false] at c
    exact wp_ifp (Or.inr rfl) (wp_some ⟨by rw [c]; rfl, hl, h.fr f1 (row3_25 row21), f1⟩)
theorem fr25 {M M' : sx_M} (h : Fr (pRw 25) M M') : ∀ k s, k ≠ 21 → k ≠ 25 → M'.1 k s = M.1 k s := fun _ s _ k2 => hits1 h k2 s
/-- both do the same with a group of five digits -/
def DO (A : SH) (n : Nat) : Prop := ∃ (ok : Bool) (A' : SH), IS A' ∧ (∀ M, CS M 1 A → wp (f2_succeeds 1 (nI n) M) (fun r => r.1 = bI01 ok ∧ CS r.2 1 A' ∧ Fr (pSh 1) M r.2)) ∧ MT A (f8_does (nI n)) ok A'
theorem ar_div {a d : Nat} (ha : a < 2147483648) (h0 : 0 < d) (hd : d < 2147483648) : nI a / nI d = nI (a / d) := pk_div ha h0 hd
theorem ar_rem {a d : Nat} (ha : a < 2147483648) (h0 : 0 < d) (hd : d < 2147483648) : nI a - nI a / nI d * nI d = nI (a % d) := pk_rem ha h0 hd
section
variable {A : SH} {n : Nat}
theorem su_pre (hn : n < 100000) {c : Nat} (hc : n / 10000 = c) {M : sx_M} {Q : Int32 × sx_M → Prop} {B : Int32 → Int32 → Int32 → Int32 → Option (Int32 × sx_M)} (hB : f2_succeeds 1 (nI n) M = B (nI n / (10000 : Int32)) (nI n - nI n / (10000 : Int32) * (10000 : Int32)) ((nI n - nI n / (10000 : Int32) * (10000 : Int32)) / (100 : Int32)) ((nI n - nI n / (10000 : Int32) * (10000 : Int32)) - (nI n - nI n / (10000 : Int32) * (10000 : Int32)) / (100 : Int32) * (100 : Int32))) (h : wp (B (nI c) (nI (n % 10000)) (nI (n % 10000 / 100)) (nI (n % 10000 % 100))) Q) : wp (f2_succeeds 1 (nI n) M) Q := by
  have a1 : nI n / (10000 : Int32) = nI (n / 10000) := ar_div (d := 10000) (by omega) (by omega) (by omega)
  have a2 : nI n - nI n / (10000 : Int32) * (10000 : Int32) = nI (n % 10000) := ar_rem (d := 10000) (by omega) (by omega) (by omega)
  have a3 : nI (n % 10000) / (100 : Int32) = nI (n % 10000 / 100) := ar_div (d := 100) (by omega) (by omega) (by omega)
  have a4 : nI (n % 10000) - nI (n % 10000) / (100 : Int32) * (100 : Int32) = nI (n % 10000 % 100) := ar_rem (d := 100) (by omega) (by omega) (by omega)
  rw [hB, a2, a4, a3, a1, hc]
  exact h
theorem do_pre (hn : n < 100000) {c : Nat} (hc : n / 10000 = c) {M : sx_M} {Q : Int32 × sx_M → Prop} {B : Int32 → Int32 → Int32 → Option (Int32 × sx_M)} (hB : f8_does (nI n) M = B (nI n / (10000 : Int32)) ((nI n / (100 : Int32)) - (nI n / (100 : Int32)) / (100 : Int32) * (100 : Int32)) (nI n - nI n / (100 : Int32) * (100 : Int32))) (h : wp (B (nI c) (nI (n % 10000 / 100)) (nI (n % 10000 % 100))) Q) : wp (f8_does (nI n) M) Q := by
  have a1 : nI n / (10000 : Int32) = nI (n / 10000) := ar_div (d := 10000) (by omega) (by omega) (by omega)
  have a2 : nI n / (100 : Int32) = nI (n / 100) := ar_div (d := 100) (by omega) (by omega) (by omega)
  have a3 : nI (n / 100) - nI (n / 100) / (100 : Int32) * (100 : Int32) = nI (n / 100 % 100) := ar_rem (d := 100) (by omega) (by omega) (by omega)
  have a4 : nI n - nI n / (100 : Int32) * (100 : Int32) = nI (n % 100) := ar_rem (d := 100) (by omega) (by omega) (by omega)
  rw [hB, a4, a2, a3, a1, hc, show n / 100 % 100 = n % 10000 / 100 by omega, show n % 100 = n % 10000 % 100 by omega]
  exact h
theorem do_1 (hI : IS A) (hn : n < 100000) (hc : n / 10000 = 1) : DO A n := by
  have hr : n % 10000 < 10000 := Nat.mod_lt _ (by omega)
  have b1 : nI n / (10 : Int32) = nI (n / 10) := ar_div (d := 10) (by omega) (by omega) (by omega)
  have b2 : nI (n / 10) - nI (n / 10) / (1000 : Int32) * (1000 : Int32) = nI (n / 10 % 1000) := ar_rem (d := 1000) (by omega) (by omega) (by omega)
  have b3 : nI n - nI n / (10 : Int32) * (10 : Int32) = nI (n % 10) := ar_rem (d := 10) (by omega) (by omega) (by omega)
  have hle : ((1 : Int32) ≤ nI (n % 10000) ∧ nI (n % 10000) ≤ 9) ↔ (1 ≤ n % 10000 ∧ n % 10000 ≤ 9) := by
    rw [show (1 : Int32) = nI 1 from rfl, show (9 : Int32) = nI 9 from rfl, iI_le (by omega) (by omega), iI_le (by omega) (by omega)]
  have mpre : ∀ (M : sx_M) (Q : Int32 × sx_M → Prop), wp (if nI (n / 10 % 1000) = 0 then
      sx_b2 (f8_makes (nI (n % 10)) M) fun v9 M10 =>
      if v9 = 0 then
        (if (0 : Int32) = 0 ∨ (0 : Int32) = 1 then some ((0 : Int32), M10) else none)
      else
        (if (1 : Int32) = 0 ∨ (1 : Int32) = 1 then some ((1 : Int32), M10) else none)
    else
      (if (0 : Int32) = 0 ∨ (0 : Int32) = 1 then some ((0 : Int32), M) else none)) Q → wp (f8_does (nI n) M) Q := fun M Q hQ => by
    rw [f8_does]
    with_reducible refine wp_bd ?_
    with_reducible refine wp_bd ?_
    with_reducible refine wp_bd ?_
    refine wp_ifp (by rw [show (10000 : Int32) = nI 10000 from rfl, ar_div (by omega) (by omega) (by omega), hc]; rfl) ?_
    with_reducible refine wp_bd ?_
    with_reducible refine wp_bd ?_
    rw [b3, b1, b2]
    exact hQ
  have cpre : ∀ (M : sx_M) (ok : Bool) (A' : SH), CT A 1 (-9) (nI (n % 10000)) 0 ok A' → CS M 1 A → wp (f2_succeeds 1 (nI n) M) (fun r => r.1 = bI01 ok ∧ CS r.2 1 A' ∧ Fr (pSh 1) M r.2) := fun M ok A' ht h => by
    rw [f2_succeeds]
    with_reducible refine wp_bd ?_
    with_reducible refine wp_bd ?_
    with_reducible refine wp_bd ?_
    refine wp_ifp (by rw [show (10000 : Int32) = nI 10000 from rfl, ar_div (by omega) (by omega) (by omega), hc]; rfl) ?_
    rw [show (10000 : Int32) = nI 10000 from rfl, ar_rem (by omega) (by omega) (by omega)]
    obtain ⟨⟨v, M6⟩, e6, q1, q2, q3⟩ := ht.2 1 M h
    dsimp only at q1 q2 q3
    subst q1
    refine wp_b2 e6 ?_
    exact hit01 ok M6 ⟨rfl, q2, q3⟩
  rcases try_make hI (-9) (nI (n % 10000)) 0 with ⟨hno, ht⟩ | ⟨h19, hm, ht⟩
  · refine ⟨false, A, hI, fun M h => cpre M _ _ ht h, fun M h => mpre M _ ?_⟩
    have fin : ∀ M', DS M' 21 A → (∀ k s, k ≠ 21 → k ≠ 25 → M'.1 k s = M.1 k s) → wp (if (0 : Int32) = 0 ∨ (0 : Int32) = 1 then some ((0 : Int32), M') else none) (fun q => q.1 = bI01 false ∧ DS q.2 21 A ∧ ∀ k s, k ≠ 21 → k ≠ 25 → q.2.1 k s = M.1 k s) := fun M' d f => wp_ifp (Or.inl rfl) (wp_some ⟨rfl, d, f⟩)
    with_reducible refine wp_if (fun c => ?_) (fun c => ?_) <;> rw [show (0 : Int32) = nI 0 from rfl, iI_eq (by omega) (by omega)] at c
    · have h24 := hI.ws.1
      obtain ⟨⟨v, M9⟩, e9, q1, q2, q3⟩ := w21_makes_no (A := A) (w := n % 10) (by omega) (by
        by_cases q : A.m < 24
        · left
          refine Classical.byContradiction fun z => hno ⟨hle.mpr ⟨by omega, by omega⟩, q⟩
        · right; omega) h24 M h
      dsimp only at q1 q2 q3
      subst q1
      refine wp_b2 e9 ?_
      exact wp_ifp rfl (fin M9 q2 q3)
    · exact fin M h (fun _ _ _ _ => rfl)
  · have h19' := hle.mp h19
    refine ⟨true, _, ht.1, fun M h => cpre M _ _ ht h, fun M h => mpre M _ ?_⟩
    refine wp_ifp (by rw [show (0 : Int32) = nI 0 from rfl, iI_eq (by omega) (by omega)]; omega) ?_
    obtain ⟨⟨v, M9⟩, e9, q1, q2, q3⟩ := w21_makes_yes hI (w := n % 10) (by omega) (by omega) hm M h
    dsimp only at q1 q2 q3
    subst q1
    rw [show n % 10 = n % 10000 by omega] at q2
    refine wp_b2 e9 ?_
    exact wp_ifn (by decide) (wp_ifp (Or.inr rfl) (wp_some ⟨rfl, q2, q3⟩))
/-- the other commands begin so -/
theorem su_open (hn : n < 100000) {c : Nat} (hc : n / 10000 = c) {M : sx_M} : (nI n / (10000 : Int32) = nI c) ∧ (nI n - nI n / (10000 : Int32) * (10000 : Int32) = nI (n % 10000)) ∧ (nI (n % 10000) / (100 : Int32) = nI (n % 10000 / 100)) ∧ (nI (n % 10000) - nI (n % 10000) / (100 : Int32) * (100 : Int32) = nI (n % 10000 % 100)) ∧ (nI n / (100 : Int32) - nI n / (100 : Int32) / (100 : Int32) * (100 : Int32) = nI (n % 10000 / 100)) ∧ (nI n - nI n / (100 : Int32) * (100 : Int32) = nI (n % 10000 % 100)) := by
  have a2 : nI n / (100 : Int32) = nI (n / 100) := ar_div (d := 100) (by omega) (by omega) (by omega)
  refine ⟨by rw [← hc]; exact ar_div (d := 10000) (by omega) (by omega) (by omega), ar_rem (d := 10000) (by omega) (by omega) (by omega), ar_div (d := 100) (by omega) (by omega) (by omega), ar_rem (d := 100) (by omega) (by omega) (by omega), ?_, ?_⟩
  · rw [a2, show n % 10000 / 100 = n / 100 % 100 by omega]
    exact ar_rem (d := 100) (by omega) (by omega) (by omega)
  · rw [show n % 10000 % 100 = n % 100 by omega]
    exact ar_rem (d := 100) (by omega) (by omega) (by omega)
theorem do_23 (hI : IS A) (hn : n < 100000) {kd z : Int32} {ok : Bool} {A' : SH} {c : Nat} (hc : n / 10000 = c) (hcc : (c = 2 ∧ kd = 2 ∧ z = 1) ∨ (c = 3 ∧ kd = 3 ∧ z = 0)) (ht : CT A kd (thI (n % 10000 / 100)) (nI (n % 10000 % 100)) z ok A') (hm : if c = 2 then MT A (f8_ties (thI (n % 10000 / 100)) (nI (n % 10000 % 100))) ok A' else MT A (f8_cutsString (thI (n % 10000 / 100)) (nI (n % 10000 % 100))) ok A') : DO A n := by
  obtain ⟨a1, a2, a3, a4, a5, a6⟩ := su_open hn hc (M := (fun _ _ _ => 0, fun _ _ _ => 0))
  refine ⟨ok, A', ht.1, fun M h => ?_, fun M h => ?_⟩
  · rw [f2_succeeds]
    with_reducible refine wp_bd ?_
    with_reducible refine wp_bd ?_
    with_reducible refine wp_bd ?_
    rw [a2, a4, a3, a1]
    obtain ⟨⟨v, M6⟩, e6, q1, q2, q3⟩ := ht.2 1 M h
    dsimp only at q1 q2 q3
    subst q1
    rcases hcc with ⟨rfl, rfl, rfl⟩ | ⟨rfl, rfl, rfl⟩
    · refine wp_ifn (by decide) ?_
      refine wp_ifp rfl ?_
      refine wp_call (c_thingOf (by omega) M) ?_
      refine wp_b2 e6 ?_
      exact hit01 ok M6 ⟨rfl, q2, q3⟩
    · refine wp_ifn (by decide) ?_
      refine wp_ifn (by decide) ?_
      refine wp_ifp rfl ?_
      refine wp_call (c_thingOf (by omega) M) ?_
      refine wp_b2 e6 ?_
      exact hit01 ok M6 ⟨rfl, q2, q3⟩
  · rw [f8_does]
    with_reducible refine wp_bd ?_
    with_reducible refine wp_bd ?_
    with_reducible refine wp_bd ?_
    rw [a5, a6, a1]
    rcases hcc with ⟨rfl, rfl, rfl⟩ | ⟨rfl, rfl, rfl⟩
    · rw [if_pos rfl] at hm
      obtain ⟨⟨v, M6⟩, e6, q1, q2, q3⟩ := hm M h
      dsimp only at q1 q2 q3
      subst q1
      refine wp_ifn (by decide) ?_
      refine wp_ifp rfl ?_
      refine wp_call (m_thingOf (by omega) M) ?_
      refine wp_b2 e6 ?_
      exact hit01 ok M6 ⟨rfl, q2, q3⟩
    · rw [if_neg (by decide)] at hm
      obtain ⟨⟨v, M6⟩, e6, q1, q2, q3⟩ := hm M h
      dsimp only at q1 q2 q3
      subst q1
      refine wp_ifn (by decide) ?_
      refine wp_ifn (by decide) ?_
      refine wp_ifp rfl ?_
      refine wp_call (m_thingOf (by omega) M) ?_
      refine wp_b2 e6 ?_
      exact hit01 ok M6 ⟨rfl, q2, q3⟩
theorem do_2 (hI : IS A) (hn : n < 100000) (hc : n / 10000 = 2) : DO A n := by
  rcases try_tie hI (thI (n % 10000 / 100)) (nI (n % 10000 % 100)) with ⟨hno, ht⟩ | ⟨t, p', h1, h2, h3, h4, h5, h6, h7, h8, h9, ht⟩
  · exact do_23 hI hn hc (Or.inl ⟨rfl, rfl, rfl⟩) ht (by rw [if_pos rfl]; exact m_ties_no hI hno)
  · refine do_23 hI hn hc (Or.inl ⟨rfl, rfl, rfl⟩) ht ?_
    rw [if_pos rfl]
    rw [h2, h5] at h7 h9 ⊢
    exact m_ties_yes hI h1 h3 h4 h6 h7 h8 h9
theorem do_3 (hI : IS A) (hn : n < 100000) (hc : n / 10000 = 3) : DO A n := by
  rcases try_cut hI (thI (n % 10000 / 100)) (nI (n % 10000 % 100)) 0 with ⟨hno, ht⟩ | ⟨i, hi, ht⟩
  · exact do_23 hI hn hc (Or.inr ⟨rfl, rfl, rfl⟩) ht (by rw [if_neg (by decide)]; exact m_cuts_no hI hno)
  · exact do_23 hI hn hc (Or.inr ⟨rfl, rfl, rfl⟩) ht (by rw [if_neg (by decide)]; exact m_cuts_yes hI hi)
end
