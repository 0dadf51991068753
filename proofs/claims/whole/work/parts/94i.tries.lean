/-! AN ACTION TRIED, by the class -/
def CT (A : SH) (kd a p z : Int32) (ok : Bool) (A' : SH) : Prop := IS A' ∧ ∀ (s : Nat) (M : sx_M), CS M s A → wp (f3_attempt s kd a p z M) (fun r => r.1 = bI01 ok ∧ CS r.2 s A' ∧ Fr (pSh s) M r.2)
theorem ct_no {M : sx_M} {s : Nat} {A : SH} {kd a p z f : Int32} (h : CS M s A) (e : f3_faultOf s kd a p M = some f) (h0 : f ≠ 0) : wp (f3_attempt s kd a p z M) (fun r => r.1 = bI01 false ∧ CS r.2 s A ∧ Fr (pSh s) M r.2) := wp_eq (w3_try_no e h0) ⟨rfl, h, Fr.rf⟩
theorem ct_yes {M : sx_M} {s : Nat} {A' : SH} {kd a p z ans : Int32} (e : f3_faultOf s kd a p M = some 0) (hd : wp (f3_perform s kd a p z M) (fun r => r.1 = ans ∧ CS r.2 s A' ∧ Fr (pSh s) M r.2)) : wp (f3_attempt s kd a p z M) (fun r => r.1 = bI01 true ∧ CS r.2 s A' ∧ Fr (pSh s) M r.2) :=
  w3_try e (wp_mono hd (fun _ q => ⟨rfl, q.2⟩))
theorem try_tie {A : SH} (hI : IS A) (a p : Int32) : (¬ (A.isTh a ∧ A.isP p ∧ a ≠ p ∧ A.g.n < 40 ∧ ∀ i, ¬ A.g.at a p i) ∧ CT A 2 a p 1 false A) ∨ (∃ t p', t < 28 ∧ a = tI t ∧ (t < 4 ∨ A.T (t - 4) = true) ∧ p' < 24 ∧ p = nI p' ∧ A.T p' = true ∧ a ≠ p ∧ A.g.n < 40 ∧ (∀ i, ¬ A.g.at a p i) ∧ CT A 2 a p 1 true (A.tie t p' true)) := by
  by_cases hc : A.isTh a ∧ A.isP p ∧ a ≠ p ∧ A.g.n < 40 ∧ ∀ i, ¬ A.g.at a p i
  · obtain ⟨⟨t, ht, rfl, htt⟩, ⟨p', hp', rfl, hTp⟩, hap, hn, hno⟩ := id hc
    refine Or.inr ⟨t, p', ht, rfl, htt, hp', rfl, hTp, hap, hn, hno, hI.tie hn ht htt hTp (fun i hi q => hno i ⟨hi, by rw [q.1], by rw [q.2]⟩) true, fun s M h => ?_⟩
    obtain ⟨r, e, hr⟩ := w3_fault2 h (tI t) (nI p')
    have er : r = 0 := by
      rcases hr with ⟨-, q⟩ | ⟨-, -, ⟨-, q⟩ | ⟨-, ⟨-, q⟩ | ⟨q, -⟩⟩⟩
      · exact absurd ⟨hc.1, hc.2.1⟩ q
      · exact absurd q hap
      · rcases q with q | ⟨i, q⟩
        · omega
        · exact absurd q (hno i)
      · exact q
    subst er
    exact ct_yes e (w3_do2 h hn ht hp' true)
  · refine Or.inl ⟨hc, hI, fun s M h => ?_⟩
    obtain ⟨r, e, hr⟩ := w3_fault2 h a p
    have er : r ≠ 0 := by
      rcases hr with ⟨q, -⟩ | ⟨q1, q2, ⟨q, -⟩ | ⟨q3, ⟨q, -⟩ | ⟨-, q4, q5⟩⟩⟩
      · rw [q]; decide
      · rw [q]; decide
      · rw [q]; decide
      · exact absurd ⟨q1, q2, q3, q4, q5⟩ hc
    exact ct_no h e er
theorem try_cut {A : SH} (hI : IS A) (a p z : Int32) : ((∀ i, ¬ A.g.at a p i) ∧ CT A 3 a p z false A) ∨ (∃ i, A.g.at a p i ∧ CT A 3 a p z true (A.cut i)) := by
  by_cases hc : ∃ i, A.g.at a p i
  · obtain ⟨i, hi⟩ := hc
    refine Or.inr ⟨i, hi, hI.cut hi.1, fun s M h => ?_⟩
    obtain ⟨r, e, hr⟩ := w3_fault3 h a p
    rcases hr with ⟨-, q⟩ | ⟨rfl, i', q1, q2⟩
    · exact absurd hi (q i)
    · rw [at_uniq hI hi q1]
      exact ct_yes e (w3_do3 h q1 q2 z)
  · refine Or.inl ⟨fun i hi => hc ⟨i, hi⟩, hI, fun s M h => ?_⟩
    obtain ⟨r, e, hr⟩ := w3_fault3 h a p
    rcases hr with ⟨rfl, -⟩ | ⟨-, i', q1, -⟩
    · exact ct_no h e (by decide)
    · exact absurd ⟨i', q1⟩ hc
theorem try_fray {A : SH} (hI : IS A) (a p z : Int32) : ((∀ i, A.g.at a p i → A.g.Z i = false) ∧ CT A 4 a p z false A) ∨ (∃ i, A.g.at a p i ∧ A.g.Z i = true ∧ CT A 4 a p z true (A.snd i false)) := by
  by_cases hc : ∃ i, A.g.at a p i ∧ A.g.Z i = true
  · obtain ⟨i, hi, hz⟩ := hc
    refine Or.inr ⟨i, hi, hz, hI.snd i false, fun s M h => ?_⟩
    obtain ⟨r, e, hr⟩ := w3_fault4 h a p
    rcases hr with ⟨-, q⟩ | ⟨i', q1, q2, q3⟩
    · exact absurd hi (q i)
    · have ei := at_uniq hI hi q1
      subst ei
      rw [if_pos hz] at q3
      subst q3
      obtain ⟨ea, ep, ha, hp⟩ := at_abs hI hi
      subst ea ep
      exact ct_yes e (w3_do4 h hp ha hi q2 z)
  · refine Or.inl ⟨fun i hi => ?_, hI, fun s M h => ?_⟩
    · cases q : A.g.Z i with
      | false => rfl
      | true => exact absurd ⟨i, hi, q⟩ hc
    · obtain ⟨r, e, hr⟩ := w3_fault4 h a p
      rcases hr with ⟨rfl, -⟩ | ⟨i', q1, -, q3⟩
      · exact ct_no h e (by decide)
      · have : A.g.Z i' ≠ true := fun q => hc ⟨i', q1, q⟩
        rw [if_neg this] at q3
        subst q3
        exact ct_no h e (by decide)
theorem try_mend {A : SH} (hI : IS A) (a p z : Int32) : ((∀ i, A.g.at a p i → A.g.Z i = true) ∧ CT A 5 a p z false A) ∨ (∃ i, A.g.at a p i ∧ A.g.Z i = false ∧ CT A 5 a p z true (A.snd i true)) := by
  by_cases hc : ∃ i, A.g.at a p i ∧ A.g.Z i = false
  · obtain ⟨i, hi, hz⟩ := hc
    refine Or.inr ⟨i, hi, hz, hI.snd i true, fun s M h => ?_⟩
    obtain ⟨r, e, hr⟩ := w3_fault5 h a p
    rcases hr with ⟨-, q⟩ | ⟨i', q1, q2, q3⟩
    · exact absurd hi (q i)
    · have ei := at_uniq hI hi q1
      subst ei
      rw [if_pos hz] at q3
      subst q3
      obtain ⟨ea, ep, ha, hp⟩ := at_abs hI hi
      subst ea ep
      exact ct_yes e (w3_do5 h hp ha hi q2 z)
  · refine Or.inl ⟨fun i hi => ?_, hI, fun s M h => ?_⟩
    · cases q : A.g.Z i with
      | true => rfl
      | false => exact absurd ⟨i, hi, q⟩ hc
    · obtain ⟨r, e, hr⟩ := w3_fault5 h a p
      rcases hr with ⟨rfl, -⟩ | ⟨i', q1, -, q3⟩
      · exact ct_no h e (by decide)
      · have : A.g.Z i' ≠ false := fun q => hc ⟨i', q1, q⟩
        rw [if_neg this] at q3
        subst q3
        exact ct_no h e (by decide)
theorem try_pin {A : SH} (hI : IS A) (a p : Int32) (is : Bool) : (¬ A.isP p ∧ CT A 6 a p (bI01 is) false A) ∨ (∃ p', p' < 24 ∧ p = nI p' ∧ A.T p' = true ∧ CT A 6 a p (bI01 is) true (A.pin p' is)) := by
  by_cases hc : A.isP p
  · obtain ⟨p', hp', rfl, hTp⟩ := id hc
    refine Or.inr ⟨p', hp', rfl, hTp, hI.pin hTp is, fun s M h => ?_⟩
    obtain ⟨r, e, hr⟩ := w3_fault6 h a (nI p')
    rcases hr with ⟨rfl, -⟩ | ⟨-, q⟩
    · exact ct_yes e (w3_do6 h hp' a is)
    · exact absurd hc q
  · refine Or.inl ⟨hc, hI, fun s M h => ?_⟩
    obtain ⟨r, e, hr⟩ := w3_fault6 h a p
    rcases hr with ⟨-, q⟩ | ⟨rfl, -⟩
    · exact absurd q hc
    · exact ct_no h e (by decide)
theorem try_make {A : SH} (hI : IS A) (a v z : Int32) : (¬ ((1 ≤ v ∧ v ≤ 9) ∧ A.m < 24) ∧ CT A 1 a v z false A) ∨ ((1 ≤ v ∧ v ≤ 9) ∧ A.m < 24 ∧ CT A 1 a v z true (A.make v)) := by
  by_cases hc : (1 ≤ v ∧ v ≤ 9) ∧ A.m < 24
  · refine Or.inr ⟨hc.1, hc.2, hI.make hc.2 v, fun s M h => ?_⟩
    obtain ⟨r, e, hr⟩ := w3_fault1 h a v
    rcases hr with ⟨-, q⟩ | ⟨-, -, ⟨rfl, -⟩ | ⟨-, q⟩⟩
    · exact absurd hc.1 q
    · exact ct_yes e (w3_do1 h hc.2 a v z)
    · omega
  · refine Or.inl ⟨hc, hI, fun s M h => ?_⟩
    obtain ⟨r, e, hr⟩ := w3_fault1 h a v
    rcases hr with ⟨rfl, -⟩ | ⟨q1, q2, ⟨-, q⟩ | ⟨rfl, -⟩⟩
    · exact ct_no h e (by decide)
    · exact absurd ⟨⟨q1, q2⟩, q⟩ hc
    · exact ct_no h e (by decide)
theorem try_begin {A : SH} (hI : IS A) (a p z : Int32) : (A.G = true ∧ CT A 7 a p z false A) ∨ (A.G = false ∧ CT A 7 a p z true A.begin) := by
  cases hG : A.G with
  | true =>
    refine Or.inl ⟨rfl, hI, fun s M h => ?_⟩
    have e := w3_fault7 h a p
    rw [hG] at e
    exact ct_no h e (by decide)
  | false =>
    refine Or.inr ⟨rfl, hI.begin, fun s M h => ?_⟩
    have e := w3_fault7 h a p
    rw [hG] at e
    exact ct_yes e (w3_do7 h a p z)
theorem try_step {A : SH} (hI : IS A) (a p z : Int32) : (A.G = false ∧ CT A 8 a p z false A) ∨ (A.G = true ∧ CT A 8 a p z true A.step) := by
  cases hG : A.G with
  | false =>
    refine Or.inl ⟨rfl, hI, fun s M h => ?_⟩
    have e := w3_fault8 h a p
    rw [hG] at e
    exact ct_no h e (by decide)
  | true =>
    refine Or.inr ⟨rfl, hI.step, fun s M h => ?_⟩
    have e := w3_fault8 h a p
    rw [hG] at e
    exact ct_yes e (w3_do8 h hG a p z)
/-! THE REFERENCE TRIES IT ON A ROW -/
/-- the reference's row 21 goes from A to A', answer ok -/
def MT (A : SH) (m : sx_M → Option (Int32 × sx_M)) (ok : Bool) (A' : SH) : Prop := ∀ M, DS M 21 A → wp (m M) (fun q => q.1 = bI01 ok ∧ DS q.2 21 A' ∧ ∀ k s, k ≠ 21 → k ≠ 25 → q.2.1 k s = M.1 k s)
theorem w8_canTie {M : sx_M} {k : Nat} {A : SH} (hk : row3 k) (h : DS M k A) (a p : Int32) : wp (f8_canTie k a p M) (fun r => (r = 1 ∧ A.g.n < 40 ∧ ∀ i, ¬ A.g.at a p i) ∨ (r = 0 ∧ ¬ (A.g.n < 40 ∧ ∀ i, ¬ A.g.at a p i))) := by
  have h40 := h.1.1
  rw [f8_canTie]
  obtain ⟨r3, e3, hr3⟩ := w8_find hk h.1 a p
  refine wp_call e3 ?_
  with_reducible refine wp_bd ?_
  with_reducible refine wp_bd ?_
  rcases hr3 with ⟨rfl, hno⟩ | ⟨i, rfl, hi, -⟩
  · refine wp_ifp rfl ?_
    refine wp_ifp (in3 hk (a := 2) (by omega)) ?_
    have e4 : M.1 k 0 ((2 : Int32)).toNatClampNeg = nI A.g.n := h.1.2.1
    with_reducible refine wp_bd ?_
    rw [e4]
    with_reducible refine wp_if (fun c => ?_) (fun c => ?_) <;> rw [show (40 : Int32) = nI 40 from rfl, iI_le (by omega) (by omega)] at c
    · exact wp_ifp (Or.inl rfl) (wp_some (Or.inr ⟨rfl, fun q => by omega⟩))
    · exact wp_ifp (Or.inr rfl) (wp_some (Or.inl ⟨rfl, by omega, hno⟩))
  · refine wp_ifn (nI_ne_m9 (by have := hi.1; omega)) ?_
    exact wp_ifp (Or.inl rfl) (wp_some (Or.inr ⟨rfl, fun q => q.2 i hi⟩))
theorem fr21 {M M' : sx_M} (h : Fr (pRw 21) M M') : ∀ k s, k ≠ 21 → k ≠ 25 → M'.1 k s = M.1 k s := fun _ s k1 _ => hits1 h k1 s
theorem m_ties_no {A : SH} (hI : IS A) {a p : Int32} (hc : ¬ (A.isTh a ∧ A.isP p ∧ a ≠ p ∧ A.g.n < 40 ∧ ∀ i, ¬ A.g.at a p i)) : MT A (f8_ties a p) false A := by
  intro M h
  have hT0 : ∀ p, p < 24 → A.T p = true → p < A.m := fun p _ => hI.2.2.2.1 p
  have fin : wp (some ((0 : Int32), M)) (fun q => q.1 = bI01 false ∧ DS q.2 21 A ∧ ∀ k s, k ≠ 21 → k ≠ 25 → q.2.1 k s = M.1 k s) := wp_some ⟨rfl, h, fun _ _ _ _ => rfl⟩
  rw [f8_ties]
  obtain ⟨r1, e1, hr1⟩ := w8_isThing row21 h hT0 a
  refine wp_call e1 ?_
  with_reducible refine wp_bd ?_
  rcases hr1 with ⟨rfl, q1⟩ | ⟨rfl, -⟩
  · refine wp_ifn (by decide) ?_
    obtain ⟨r2, e2, hr2⟩ := w8_isPart row21 h hT0 p
    refine wp_call e2 ?_
    rcases hr2 with ⟨rfl, q2⟩ | ⟨rfl, -⟩
    · refine wp_ifn (by decide) ?_
      with_reducible refine wp_if (fun c => ?_) (fun c => ?_)
      · exact fin
      · obtain ⟨r3, e3, hr3⟩ := w8_canTie row21 h a p
        refine wp_call e3 ?_
        rcases hr3 with ⟨-, q3⟩ | ⟨rfl, -⟩
        · exact absurd ⟨q1, q2, c, q3⟩ hc
        · exact wp_ifp rfl fin
    · exact wp_ifp rfl fin
  · exact wp_ifp rfl fin
theorem m_ties_yes {A : SH} (hI : IS A) {t p : Nat} (ht : t < 28) (htt : t < 4 ∨ A.T (t - 4) = true) (hp : p < 24) (hTp : A.T p = true) (hap : tI t ≠ nI p) (hn : A.g.n < 40) (hno : ∀ i, ¬ A.g.at (tI t) (nI p) i) : MT A (f8_ties (tI t) (nI p)) true (A.tie t p true) := by
  intro M h
  have hT0 : ∀ p, p < 24 → A.T p = true → p < A.m := fun p _ => hI.2.2.2.1 p
  rw [f8_ties]
  obtain ⟨r1, e1, hr1⟩ := w8_isThing row21 h hT0 (tI t)
  refine wp_call e1 ?_
  with_reducible refine wp_bd ?_
  rcases hr1 with ⟨rfl, q1⟩ | ⟨rfl, q⟩
  · refine wp_ifn (by decide) ?_
    obtain ⟨r2, e2, hr2⟩ := w8_isPart row21 h hT0 (nI p)
    refine wp_call e2 ?_
    rcases hr2 with ⟨rfl, q2⟩ | ⟨rfl, q⟩
    · refine wp_ifn (by decide) ?_
      refine wp_ifn hap ?_
      obtain ⟨r3, e3, hr3⟩ := w8_canTie row21 h (tI t) (nI p)
      refine wp_call e3 ?_
      rcases hr3 with ⟨rfl, q3⟩ | ⟨rfl, q⟩
      · refine wp_ifn (by decide) ?_
        obtain ⟨M8, e8, d8, f8⟩ := w8_tieIn row21 h hI.ws hn ht (htt.imp id (fun q => ⟨hI.2.2.2.1 _ q, q⟩)) (hI.2.2.2.1 _ hTp) hTp true
        refine wp_call e8 ?_
        exact wp_some ⟨rfl, d8, fr21 f8⟩
      · exact absurd ⟨hn, hno⟩ q
    · exact absurd ⟨p, hp, rfl, hTp⟩ q
  · exact absurd ⟨t, ht, rfl, htt⟩ q
theorem w8_stringOf {M : sx_M} {A : SH} (h : DS M 21 A) (hI : IS A) (a p : Int32) : wp (f8_stringOf a p M) (fun r => (r = -9 ∧ ∀ i, ¬ A.g.at a p i) ∨ ∃ i, r = nI i ∧ A.g.at a p i) := by
  rw [f8_stringOf]
  obtain ⟨r, e, hr⟩ := w8_isThing row21 h (fun p _ => hI.2.2.2.1 p) a
  refine wp_call e ?_
  with_reducible refine wp_bd ?_
  with_reducible refine wp_bd ?_
  rcases hr with ⟨rfl, ha⟩ | ⟨rfl, ha⟩
  · refine wp_ifn (by decide) ?_
    obtain ⟨r2, e2, hr2⟩ := w8_isPart row21 h (fun p _ => hI.2.2.2.1 p) p
    refine wp_call e2 ?_
    rcases hr2 with ⟨rfl, hp⟩ | ⟨rfl, hp⟩
    · refine wp_ifn (by decide) ?_
      obtain ⟨r3, e3, hr3⟩ := w8_find row21 h.1 a p
      refine wp_call e3 ?_
      with_reducible refine wp_some ?_
      rcases hr3 with q | ⟨i, q1, q2, -⟩
      · exact Or.inl q
      · exact Or.inr ⟨i, q1, q2⟩
    · refine wp_ifp rfl ?_
      exact wp_some (Or.inl ⟨rfl, fun i hi => hp (at_ends hI hi).2⟩)
  · refine wp_ifp rfl ?_
    exact wp_some (Or.inl ⟨rfl, fun i hi => ha (at_ends hI hi).1⟩)
theorem m_cuts_no {A : SH} (hI : IS A) {a p : Int32} (hc : ∀ i, ¬ A.g.at a p i) : MT A (f8_cutsString a p) false A := by
  intro M h
  rw [f8_cutsString]
  obtain ⟨r, e, hr⟩ := w8_stringOf h hI a p
  refine wp_call e ?_
  rcases hr with ⟨rfl, -⟩ | ⟨i, -, hi⟩
  · exact wp_ifp rfl (wp_some ⟨rfl, h, fun _ _ _ _ => rfl⟩)
  · exact absurd hi (hc i)
theorem m_cuts_yes {A : SH} (hI : IS A) {a p : Int32} {i : Nat} (hi : A.g.at a p i) : MT A (f8_cutsString a p) true (A.cut i) := by
  intro M h
  have h40 := hI.1.1
  rw [f8_cutsString]
  obtain ⟨r, e, hr⟩ := w8_stringOf h hI a p
  refine wp_call e ?_
  rcases hr with ⟨-, hno⟩ | ⟨j, rfl, hj⟩
  · exact absurd hi (hno i)
  · have eij := at_uniq hI hj hi
    subst eij
    have hjn := hj.1
    refine wp_ifn (nI_ne_m9 (by omega)) ?_
    obtain ⟨M3, e3, d3, f3⟩ := w8_removeString row21 h hjn
    refine wp_call e3 ?_
    exact wp_some ⟨rfl, d3, fr21 f3⟩
/-- pins(0, p) pins, pins(1, p) does not; any other number fails -/
theorem m_pins_no {A : SH} (hI : IS A) {k : Nat} (hk : k < 1000) {p : Int32} (hc : 1 < k ∨ ¬ A.isP p) : MT A (f8_pins (nI k) p) false A := by
  intro M h
  have fin : wp (some ((0 : Int32), M)) (fun q => q.1 = bI01 false ∧ DS q.2 21 A ∧ ∀ k s, k ≠ 21 → k ≠ 25 → q.2.1 k s = M.1 k s) := wp_some ⟨rfl, h, fun _ _ _ _ => rfl⟩
  rw [f8_pins]
  with_reducible refine wp_bd ?_
  with_reducible refine wp_if (fun c => ?_) (fun c => ?_) <;> rw [show (1 : Int32) = nI 1 from rfl, iI_lt (by omega) (by omega)] at c
  · exact fin
  · obtain ⟨r2, e2, hr2⟩ := w8_isPart row21 h (fun p _ => hI.2.2.2.1 p) p
    refine wp_call e2 ?_
    rcases hr2 with ⟨rfl, q⟩ | ⟨rfl, -⟩
    · exact absurd q (hc.resolve_left c)
    · exact wp_ifp rfl fin
theorem m_pins_yes {A : SH} (hI : IS A) {p : Nat} (hp : p < 24) (hTp : A.T p = true) (is : Bool) : MT A (f8_pins (if is then 0 else 1) (nI p)) true (A.pin p is) := by
  intro M h
  rw [f8_pins]
  with_reducible refine wp_bd ?_
  refine wp_ifn (by cases is <;> decide) ?_
  obtain ⟨r2, e2, hr2⟩ := w8_isPart row21 h (fun p _ => hI.2.2.2.1 p) (nI p)
  refine wp_call e2 ?_
  rcases hr2 with ⟨rfl, -⟩ | ⟨rfl, q⟩
  · refine wp_ifn (by decide) ?_
    have fin : wp ((f8_pinIn 21 (nI p) (bI01 is) M).bind fun M5 => some ((1 : Int32), M5)) (fun q => q.1 = bI01 true ∧ DS q.2 21 (A.pin p is) ∧ ∀ k s, k ≠ 21 → k ≠ 25 → q.2.1 k s = M.1 k s) := by
      obtain ⟨M5, e5, d5, f5⟩ := w8_pinIn row21 h hI.ws (hI.2.2.2.1 _ hTp) hTp (v := bI01 is) (is := is) bI01_0
      refine wp_call e5 ?_
      exact wp_some ⟨rfl, d5, fr21 f5⟩
    with_reducible refine wp_bd ?_
    cases is with
    | true => exact wp_ifp rfl fin
    | false => exact wp_ifn (by decide) fin
  · exact absurd ⟨p, hp, rfl, hTp⟩ q
