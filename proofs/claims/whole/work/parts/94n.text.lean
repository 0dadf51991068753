/-! THE TEXT'S RULES -/
def sp (s c : Nat) : Nat :=
  if s = 0 then (if c = 83 then 1 else 99)
  else if s = 1 then (if c = 110 then 2 else if c = 116 ∨ c = 120 ∨ c = 102 ∨ c = 109 then 3 else if c = 112 then 7 else if c = 98 ∨ c = 115 then 1 else 99)
  else if s = 2 then (if 49 ≤ c ∧ c ≤ 57 then 1 else 99)
  else if s = 3 then (if c = 104 then 4 else if c = 50 then 6 else if c = 48 ∨ c = 49 then 5 else 99)
  else if s = 4 then (if 48 ≤ c ∧ c ≤ 51 then 7 else 99)
  else if s = 5 then (if 48 ≤ c ∧ c ≤ 57 then 7 else 99)
  else if s = 6 then (if 48 ≤ c ∧ c ≤ 51 then 7 else 99)
  else if s = 7 then (if c = 50 then 9 else if c = 48 ∨ c = 49 then 8 else 99)
  else if s = 8 then (if 48 ≤ c ∧ c ≤ 57 then 1 else 99)
  else if s = 9 then (if 48 ≤ c ∧ c ≤ 51 then 1 else 99)
  else 99
theorem sp_lt (s c : Nat) : sp s c = 99 ∨ sp s c < 10 := by
  unfold sp
  repeat' split
  all_goals omega
def rn (l : List Nat) : Nat → Nat
  | 0 => 0
  | j + 1 => sp (rn l j) (l.getD j 0)
theorem rn_succ (l : List Nat) (j : Nat) : rn l (j + 1) = sp (rn l j) (l.getD j 0) := rfl
theorem rn_lt (l : List Nat) : ∀ j, rn l j = 99 ∨ rn l j < 10
  | 0 => Or.inr (show (0 : Nat) < 10 by decide)
  | j + 1 => sp_lt _ _
theorem rn_dead (l : List Nat) {j : Nat} (h : rn l j = 99) : ∀ k, rn l (j + k) = 99
  | 0 => h
  | k + 1 => by
    show sp (rn l (j + k)) _ = 99
    rw [rn_dead l h k]; rfl
/-- the text has its first error at i -/
def ERR (l : List Nat) (i : Nat) : Prop := (i < l.length ∧ rn l i ≠ 99 ∧ rn l (i + 1) = 99) ∨ (i = l.length ∧ rn l i ≠ 99 ∧ rn l i ≠ 1)
theorem ERR_uniq {l : List Nat} {i j : Nat} (hi : ERR l i) (hj : ERR l j) : i = j := by
  have key : ∀ i j, ERR l i → ERR l j → i < j → False := fun i j hi hj hij => by
    have hjn : rn l j ≠ 99 := by rcases hj with ⟨-, q, -⟩ | ⟨-, q, -⟩ <;> exact q
    have hjl : j ≤ l.length := by rcases hj with ⟨q, -, -⟩ | ⟨q, -, -⟩ <;> omega
    rcases hi with ⟨-, -, q⟩ | ⟨q, -, -⟩
    · have := rn_dead l q (j - (i + 1))
      rw [show i + 1 + (j - (i + 1)) = j by omega] at this
      exact hjn this
    · omega
  by_cases h1 : i < j
  · exact (key i j hi hj h1).elim
  · by_cases h2 : j < i
    · exact (key j i hj hi h2).elim
    · omega
theorem ERR_good {l : List Nat} {i : Nat} (hi : ERR l i) : rn l l.length ≠ 1 := by
  intro hg
  rcases hi with ⟨h1, -, q⟩ | ⟨q, -, q2⟩
  · have := rn_dead l q (l.length - (i + 1))
    rw [show i + 1 + (l.length - (i + 1)) = l.length by omega, hg] at this
    cases this
  · rw [q] at q2; exact q2 hg
def eS (x : Nat) : Int32 := if x = 99 then -1 else nI x
theorem placeAfter_M (s c : Int32) (M M' : sx_M) : f6_placeAfter s c M = f6_placeAfter s c M' := rfl
theorem paL_M (c : Int32) (M M' : sx_M) : f6_placeAfterLetter c M = f6_placeAfterLetter c M' := rfl
def sx_M0 : sx_M := (fun _ _ _ => 0, fun _ _ _ => 0)
theorem placeAfter_k : ∀ s, s < 10 → ∀ c, c < 256 → f6_placeAfter (nI s) (nI c) sx_M0 = some (eS (sp s c)) := by decide +kernel
theorem w6_placeAfter {s c : Nat} (hs : s < 10) (hc : c < 256) (M : sx_M) : f6_placeAfter (nI s) (nI c) M = some (eS (sp s c)) := by
  rw [placeAfter_M _ _ M sx_M0]; exact placeAfter_k s hs c hc
theorem paL_k : ∀ c, c < 256 → f6_placeAfterLetter (nI c) sx_M0 = some (eS (sp 1 c)) := by decide +kernel
theorem w6_paL {c : Nat} (hc : c < 256) (M : sx_M) : f6_placeAfterLetter (nI c) M = some (eS (sp 1 c)) := by
  rw [paL_M _ M sx_M0]; exact paL_k c hc
theorem TS.code {M : sx_M} {l : List Nat} (h : TS M l) {i : Nat} (hi : i < l.length) : l.getD i 0 < 256 := h.2.1 _ (getD_mem hi)
theorem nI_ne_m1' {i : Nat} (h : i < 1000) : nI i ≠ (-1 : Int32) := nI_ne_m1 h
theorem w6_firstError {M : sx_M} {l : List Nat} (h : TS M l) : wp (f6_firstError M) (fun r => (∃ i, ERR l i ∧ r = nI i) ∨ (rn l l.length = 1 ∧ r = -9)) := by
  have hl := h.1
  have e13 : M.1 13 0 1 = nI l.length := h.2.2.1
  rw [f6_firstError]
  refine wp_up (F := fun m x2 x1 => f6_firstError_L4 M _ m x1 x2) l.length (fun j x => rn l j ≠ 99 ∧ x = nI (rn l j)) (fun m j x hj hI kk => ?_) (fun m x hI => ?_) 5000 0 0 (by omega) (by omega) ⟨(show (0 : Nat) ≠ 99 by decide), rfl⟩
  · obtain ⟨i1, rfl⟩ := hI
    have hs : rn l j < 10 := (rn_lt l j).resolve_left i1
    have hc := h.code hj
    show wp (f6_firstError_L4 M _ (m + 1) _ (nI j)) _
    rw [f6_firstError_L4]
    with_reducible refine wp_bd ?_
    refine wp_ifn (by rw [e13, iI_le (by omega) (by omega)]; omega) ?_
    refine wp_ifn (by rw [show (120 : Int32) = nI 120 from rfl, iI_le (by omega) (by omega)]; omega) ?_
    refine wp_ifp (sx_in_n (by omega) (by omega)) ?_
    have e14 : M.1 14 0 (nI j).toNatClampNeg = nI (l.getD j 0) := by rw [nI_cl (by omega)]; exact h.2.2.2 j hj
    with_reducible refine wp_bd ?_
    rw [e14]
    refine wp_call (w6_placeAfter hs hc M) ?_
    have er := rn_succ l j
    unfold eS
    by_cases q : sp (rn l j) (l.getD j 0) = 99
    · rw [if_pos q]
      refine wp_ifp rfl ?_
      exact wp_some (Or.inl ⟨j, Or.inl ⟨hj, i1, er.trans q⟩, rfl⟩)
    · rw [if_neg q]
      have := (sp_lt (rn l j) (l.getD j 0)).resolve_left q
      refine wp_ifn (nI_ne_m1 (by omega)) ?_
      with_reducible refine wp_bd ?_
      exact kk _ ⟨by rw [er]; exact q, by rw [er]⟩
  · obtain ⟨i1, rfl⟩ := hI
    have hs : rn l l.length < 10 := (rn_lt l l.length).resolve_left i1
    show wp (f6_firstError_L4 M _ (m + 1) _ (nI l.length)) _
    rw [f6_firstError_L4]
    with_reducible refine wp_bd ?_
    refine wp_ifp (by rw [e13, iI_le (by omega) (by omega)]; omega) ?_
    with_reducible refine wp_bd ?_
    with_reducible refine wp_if (fun c => ?_) (fun c => ?_) <;> rw [show (1 : Int32) = nI 1 from rfl, iI_eq (by omega) (by omega)] at c
    · exact wp_some (Or.inr ⟨c, rfl⟩)
    · with_reducible refine wp_bd ?_
      rw [e13]
      exact wp_some (Or.inl ⟨l.length, Or.inr ⟨rfl, i1, c⟩, rfl⟩)
/-! THE REFERENCE READS -/
/-- the reference's text, whether all was good, the place -/
def TX (M : sx_M) (l : List Nat) (g : Bool) (p : Nat) : Prop := l.length ≤ 120 ∧ (∀ c ∈ l, c < 256) ∧ M.1 17 0 2 = nI l.length ∧ (∀ i, i < l.length → M.1 18 0 i = nI (l.getD i 0)) ∧ M.1 17 0 3 = nI p ∧ M.1 17 0 4 = bI01 g ∧ p ≤ l.length
/-- only the place and the good have changed -/
def FRT (M M' : sx_M) : Prop := ∀ k s i, ¬ (k = 17 ∧ s = 0 ∧ (i = 3 ∨ i = 4)) → M'.1 k s i = M.1 k s i
theorem FRT.rf {M : sx_M} : FRT M M := fun _ _ _ _ => rfl
theorem FRT.trans {M M1 M2 : sx_M} (h : FRT M M1) (h' : FRT M1 M2) : FRT M M2 := fun k s i hk => (h' k s i hk).trans (h k s i hk)
theorem FRT.row {M M' : sx_M} (h : FRT M M') {k : Nat} (hk : k ≠ 17) (s : Nat) : M'.1 k s = M.1 k s := by funext i; exact h k s i (fun q => hk q.1)
theorem FRT.ds {M M' : sx_M} {A : SH} (h : FRT M M') (d : DS M 19 A) : DS M' 19 A := by
  rw [DAt_iff, h.row (by omega)]; exact d
theorem TX.code {M : sx_M} {l : List Nat} {g : Bool} {p : Nat} (h : TX M l g p) {i : Nat} (hi : i < l.length) : l.getD i 0 < 256 := h.2.1 _ (getD_mem hi)
theorem r_accept {M : sx_M} {l : List Nat} {g : Bool} {p : Nat} (h : TX M l g p) (b : Bool) (hb : g = true → b = true → p < l.length) : wp (f8_accept (bI01 b) M) (fun M' => TX M' l (g && b) (if g && b then p + 1 else p) ∧ FRT M M') := by
  obtain ⟨h1, h2, h3, h4, h5, h6, h7⟩ := id h
  rw [f8_accept]
  have set2 : ∀ v : Bool, v = (g && b) → wp (if bI01 v = 0 ∨ bI01 v = 1 then
    sx_bd (sx_set M 17 0 4 (bI01 v)) fun M3 =>
    sx_bd (M3.1 17 0 3) fun v4 =>
    sx_bd (M3.1 17 0 4) fun v5 =>
    sx_bd (fun (v6 : Int32) =>
      sx_bd (sx_set M3 17 0 3 (v4 + v6)) fun M7 =>
      some M7) fun j37 =>
    if v5 = 0 then
      j37 (0 : Int32)
    else
      j37 (1 : Int32)
    else none) (fun M' => TX M' l (g && b) (if g && b then p + 1 else p) ∧ FRT M M') := fun v hv => by
    refine wp_ifp (bI01_01 v) ?_
    with_reducible refine wp_bd ?_
    with_reducible refine wp_bd ?_
    with_reducible refine wp_bd ?_
    with_reducible refine wp_bd ?_
    have e3 : (sx_set M 17 0 4 (bI01 v)).1 17 0 3 = nI p := by rw [rd_n _ _ _ _ _ _ _ _ (by omega)]; exact h5
    have e4 : (sx_set M 17 0 4 (bI01 v)).1 17 0 4 = bI01 v := rd_e _ _ _ _ _
    rw [e3, e4, ← hv]
    have fin : ∀ w : Nat, w ≤ l.length → TX (sx_set (sx_set M 17 0 4 (bI01 v)) 17 0 3 (nI w)) l v w ∧ FRT M (sx_set (sx_set M 17 0 4 (bI01 v)) 17 0 3 (nI w)) := fun w hw => by
      have o : ∀ k s i, ¬ (k = 17 ∧ s = 0 ∧ (i = 3 ∨ i = 4)) → (sx_set (sx_set M 17 0 4 (bI01 v)) 17 0 3 (nI w)).1 k s i = M.1 k s i := fun k s i hk => by
        rw [st_at, if_neg (by omega), st_at, if_neg (by omega)]
      refine ⟨⟨h1, h2, (o 17 0 2 (by omega)).trans h3, fun i hi => (o 18 0 i (by omega)).trans (h4 i hi), rd_e _ _ _ _ _, ?_, hw⟩, o⟩
      rw [rd_n _ _ _ _ _ _ _ _ (by omega), rd_e]
    cases v with
    | false =>
      refine wp_ifp rfl ?_
      with_reducible refine wp_bd ?_
      rw [Int32.add_zero]
      exact wp_some (fin p h7)
    | true =>
      have hgb := hv.symm
      rw [Bool.and_eq_true] at hgb
      refine wp_ifn (by decide) ?_
      with_reducible refine wp_bd ?_
      rw [iI_succ]
      exact wp_some (fin (p + 1) (hb hgb.1 hgb.2))
  with_reducible refine wp_bd ?_
  with_reducible refine wp_bd ?_
  with_reducible refine wp_bd ?_
  rw [h6]
  cases g with
  | false =>
    refine wp_ifp rfl ?_
    exact set2 false rfl
  | true =>
    refine wp_ifn (by decide) ?_
    cases b with
    | false =>
      refine wp_ifp rfl ?_
      exact set2 false rfl
    | true =>
      refine wp_ifn (by decide) ?_
      exact set2 true rfl
theorem r_isNext {M : sx_M} {l : List Nat} {g : Bool} {p : Nat} (h : TX M l g p) {c : Nat} (hc : c < 256) : f8_isNext (nI c) M = some (bI01 (decide (p < l.length ∧ l.getD p 0 = c))) := by
  obtain ⟨h1, h2, h3, h4, h5, h6, h7⟩ := id h
  refine wp_get ?_
  rw [f8_isNext]
  with_reducible refine wp_bd ?_
  with_reducible refine wp_bd ?_
  with_reducible refine wp_bd ?_
  with_reducible refine wp_bd ?_
  rw [h5, h3]
  with_reducible refine wp_if (fun q => ?_) (fun q => ?_) <;> rw [iI_le (by omega) (by omega)] at q
  · rw [decide_eq_false (fun z => by omega)]
    exact wp_ifp (Or.inl rfl) (wp_some rfl)
  · have hp : p < l.length := by omega
    have hcp := h.code hp
    refine wp_ifp (sx_in_n (by omega) (by omega)) ?_
    have e18 : M.1 18 0 (nI p).toNatClampNeg = nI (l.getD p 0) := by rw [nI_cl (by omega)]; exact h4 p hp
    with_reducible refine wp_bd ?_
    rw [e18]
    with_reducible refine wp_if (fun q2 => ?_) (fun q2 => ?_) <;> rw [iI_eq (by omega) (by omega)] at q2
    · rw [decide_eq_true ⟨hp, q2⟩]
      exact wp_ifp (Or.inr rfl) (wp_some rfl)
    · rw [decide_eq_false (fun z => q2 z.2)]
      exact wp_ifp (Or.inl rfl) (wp_some rfl)
/-- a digit from lo to hi -/
theorem r_digit {M : sx_M} {l : List Nat} {g : Bool} {p : Nat} (h : TX M l g p) {lo hi : Nat} (hlh : lo ≤ hi) (hi9 : hi ≤ 9) : wp (f8_digit (nI lo) (nI hi) M) (fun q => FRT M q.2 ∧ ((g = true ∧ p < l.length ∧ 48 + lo ≤ l.getD p 0 ∧ l.getD p 0 ≤ 48 + hi ∧ TX q.2 l true (p + 1) ∧ q.1 = nI (l.getD p 0 - 48)) ∨ (TX q.2 l false p ∧ q.1 = nI lo ∧ (g = false ∨ ¬ (p < l.length ∧ 48 + lo ≤ l.getD p 0 ∧ l.getD p 0 ≤ 48 + hi))))) := by
  obtain ⟨h1, h2, h3, h4, h5, h6, h7⟩ := id h
  -- with the number of the character known
  have main : ∀ (v : Int32) (ok : Bool), (ok = true → v = nI (l.getD p 0 - 48)) → (ok = true ↔ (p < l.length ∧ 48 + lo ≤ l.getD p 0 ∧ l.getD p 0 ≤ 48 + hi)) → ((0 ≤ v ∧ v ≤ 9 ∧ nI lo ≤ v ∧ v ≤ nI hi) ↔ ok = true) → wp ((f8_in v.toInt64 (0 : Int64) (9 : Int64) M).bind fun v4 =>
    sx_bd (fun (v5 : Int32) =>
      (f8_accept v5 M).bind fun M6 =>
      sx_bd (M6.1 17 0 4) fun v7 =>
      sx_bd (fun (v8 : Int32) =>
        some (v8, M6)) fun j74 =>
      if v7 = 0 then
        j74 (nI lo)
      else
        j74 v) fun j59 =>
    sx_bd (fun (_ : Unit) =>
      j59 (0 : Int32)) fun j58 =>
    if v4 = 0 then
      j58 ()
    else
      (f8_in v.toInt64 (nI lo).toInt64 (nI hi).toInt64 M).bind fun v11 =>
      if v11 = 0 then
        j58 ()
      else
        j59 (1 : Int32)) (fun q => FRT M q.2 ∧ ((g = true ∧ p < l.length ∧ 48 + lo ≤ l.getD p 0 ∧ l.getD p 0 ≤ 48 + hi ∧ TX q.2 l true (p + 1) ∧ q.1 = nI (l.getD p 0 - 48)) ∨ (TX q.2 l false p ∧ q.1 = nI lo ∧ (g = false ∨ ¬ (p < l.length ∧ 48 + lo ≤ l.getD p 0 ∧ l.getD p 0 ≤ 48 + hi))))) := fun v ok hv hok hvk => by
    have acc : wp ((f8_accept (bI01 ok) M).bind fun M6 =>
      sx_bd (M6.1 17 0 4) fun v7 =>
      sx_bd (fun (v8 : Int32) =>
        some (v8, M6)) fun j74 =>
      if v7 = 0 then
        j74 (nI lo)
      else
        j74 v) (fun q => FRT M q.2 ∧ ((g = true ∧ p < l.length ∧ 48 + lo ≤ l.getD p 0 ∧ l.getD p 0 ≤ 48 + hi ∧ TX q.2 l true (p + 1) ∧ q.1 = nI (l.getD p 0 - 48)) ∨ (TX q.2 l false p ∧ q.1 = nI lo ∧ (g = false ∨ ¬ (p < l.length ∧ 48 + lo ≤ l.getD p 0 ∧ l.getD p 0 ≤ 48 + hi))))) := by
      obtain ⟨M6, e6, t6, f6⟩ := r_accept h ok (fun _ q => (hok.mp q).1)
      refine wp_call e6 ?_
      with_reducible refine wp_bd ?_
      with_reducible refine wp_bd ?_
      have e4 : M6.1 17 0 4 = bI01 (g && ok) := t6.2.2.2.2.2.1
      rw [e4]
      cases hgo : (g && ok) with
      | false =>
        rw [hgo] at t6
        refine wp_ifp rfl ?_
        refine wp_some ⟨f6, Or.inr ⟨t6, rfl, ?_⟩⟩
        cases g with
        | false => exact Or.inl rfl
        | true =>
          rw [Bool.true_and] at hgo
          exact Or.inr (fun q => by rw [hok.mpr q] at hgo; cases hgo)
      | true =>
        rw [hgo] at t6
        rw [Bool.and_eq_true] at hgo
        refine wp_ifn (by decide) ?_
        obtain ⟨z1, z2, z3⟩ := hok.mp hgo.2
        exact wp_some ⟨f6, Or.inl ⟨hgo.1, z1, z2, z3, t6, hv hgo.2⟩⟩
    obtain ⟨r1, e1, hr1⟩ := w8_in v.toInt64 0 9 M
    have i1 : ((0 : Int64) ≤ v.toInt64 ∧ v.toInt64 ≤ 9) ↔ (0 ≤ v ∧ v ≤ 9) := in_iff v 0 9 0 9 (by decide) (by decide)
    have i2 : ((nI lo).toInt64 ≤ v.toInt64 ∧ v.toInt64 ≤ (nI hi).toInt64) ↔ (nI lo ≤ v ∧ v ≤ nI hi) := in_iff v (nI lo) (nI hi) _ _ (to64_int _) (to64_int _)
    refine wp_call e1 ?_
    with_reducible refine wp_bd ?_
    with_reducible refine wp_bd ?_
    have no : ok = false → _ := fun q : ok = false => acc
    rcases hr1 with ⟨rfl, q1⟩ | ⟨rfl, q1⟩
    · refine wp_ifn (by decide) ?_
      obtain ⟨r2, e2, hr2⟩ := w8_in v.toInt64 (nI lo).toInt64 (nI hi).toInt64 M
      refine wp_call e2 ?_
      rcases hr2 with ⟨rfl, q2⟩ | ⟨rfl, q2⟩
      · refine wp_ifn (by decide) ?_
        have : ok = true := hvk.mp ⟨(i1.mp q1).1, (i1.mp q1).2, (i2.mp q2).1, (i2.mp q2).2⟩
        rw [this] at acc
        exact acc
      · refine wp_ifp rfl ?_
        have : ok = false := by
          cases e : ok with
          | false => rfl
          | true => have z := hvk.mpr e; exact absurd (i2.mpr ⟨z.2.2.1, z.2.2.2⟩) q2
        rw [this] at acc
        exact acc
    · refine wp_ifp rfl ?_
      have : ok = false := by
        cases e : ok with
        | false => rfl
        | true => have z := hvk.mpr e; exact absurd (i1.mpr ⟨z.1, z.2.1⟩) q1
      rw [this] at acc
      exact acc
  rw [f8_digit]
  with_reducible refine wp_bd ?_
  with_reducible refine wp_bd ?_
  with_reducible refine wp_bd ?_
  rw [h5, h3]
  with_reducible refine wp_if (fun q => ?_) (fun q => ?_) <;> rw [iI_le (by omega) (by omega)] at q
  · refine main (-9) false (fun z => (by cases z)) ⟨fun z => (by cases z), fun z => (by omega)⟩ ⟨fun z => ?_, fun z => (by cases z)⟩
    exact absurd z.1 (by decide)
  · have hp : p < l.length := by omega
    have hcp := h.code hp
    refine wp_ifp (sx_in_n (by omega) (by omega)) ?_
    have e18 : M.1 18 0 (nI p).toNatClampNeg = nI (l.getD p 0) := by rw [nI_cl (by omega)]; exact h4 p hp
    with_reducible refine wp_bd ?_
    rw [e18]
    have ev : (nI (l.getD p 0) - (48 : Int32)).toInt = (l.getD p 0 : Int) - 48 := by
      by_cases z : 48 ≤ l.getD p 0
      · rw [show (48 : Int32) = nI 48 from rfl, nI_sub z, nI_toInt (by omega)]; omega
      · have : ∀ c, c < 48 → (nI c - (48 : Int32)).toInt = (c : Int) - 48 := by decide +kernel
        exact this _ (by omega)
    refine main _ (decide (48 + lo ≤ l.getD p 0 ∧ l.getD p 0 ≤ 48 + hi)) (fun z => ?_) ?_ ?_
    · rw [decide_eq_true_eq] at z
      rw [show (48 : Int32) = nI 48 from rfl, nI_sub (by omega)]
    · rw [decide_eq_true_eq]
      exact ⟨fun z => ⟨hp, z⟩, fun z => z.2⟩
    · rw [decide_eq_true_eq, fa_le, fa_le, fa_le, fa_le, ev, nI_toInt (by omega), nI_toInt (by omega)]
      have z0 : (0 : Int32).toInt = 0 := by decide
      have z9 : (9 : Int32).toInt = 9 := by decide
      rw [z0, z9]
      omega
/-- two digits that may tell a part -/
def PO (l : List Nat) (p : Nat) : Prop := p + 1 < l.length ∧ 48 ≤ l.getD p 0 ∧ l.getD p 0 ≤ 50 ∧ 48 ≤ l.getD (p + 1) 0 ∧ l.getD (p + 1) 0 ≤ (if l.getD p 0 = 50 then 51 else 57)
def pv (l : List Nat) (p : Nat) : Nat := 10 * (l.getD p 0 - 48) + (l.getD (p + 1) 0 - 48)
theorem r_part {M : sx_M} {l : List Nat} {p : Nat} (h : TX M l true p) : wp (f8_partRead M) (fun q => FRT M q.2 ∧ ((PO l p ∧ TX q.2 l true (p + 2) ∧ q.1 = nI (pv l p)) ∨ (¬ PO l p ∧ ∃ p', TX q.2 l false p' ∧ ((p' = p ∧ ¬ (p < l.length ∧ 48 ≤ l.getD p 0 ∧ l.getD p 0 ≤ 50)) ∨ (p' = p + 1 ∧ p < l.length ∧ 48 ≤ l.getD p 0 ∧ l.getD p 0 ≤ 50 ∧ ¬ (p + 1 < l.length ∧ 48 ≤ l.getD (p + 1) 0 ∧ l.getD (p + 1) 0 ≤ (if l.getD p 0 = 50 then 51 else 57))))))) := by
  have hl := h.1
  rw [f8_partRead]
  obtain ⟨⟨v1, M2⟩, e1, f1, h1⟩ := r_digit h (lo := 0) (hi := 2) (by omega) (by omega)
  dsimp only at f1 h1
  refine wp_b2 e1 ?_
  rcases h1 with ⟨-, a1, a2, a3, t2, rfl⟩ | ⟨t2, rfl, hno⟩
  · have hcp := h.code a1
    have fin : ∀ hi : Nat, hi = (if l.getD p 0 = 50 then 3 else 9) → wp (sx_b2 (f8_digit (0 : Int32) (nI hi) M2) fun v4 M5 => some (((10 : Int32) * nI (l.getD p 0 - 48)) + v4, M5)) (fun q => FRT M q.2 ∧ ((PO l p ∧ TX q.2 l true (p + 2) ∧ q.1 = nI (pv l p)) ∨ (¬ PO l p ∧ ∃ p', TX q.2 l false p' ∧ ((p' = p ∧ ¬ (p < l.length ∧ 48 ≤ l.getD p 0 ∧ l.getD p 0 ≤ 50)) ∨ (p' = p + 1 ∧ p < l.length ∧ 48 ≤ l.getD p 0 ∧ l.getD p 0 ≤ 50 ∧ ¬ (p + 1 < l.length ∧ 48 ≤ l.getD (p + 1) 0 ∧ l.getD (p + 1) 0 ≤ (if l.getD p 0 = 50 then 51 else 57))))))) := fun hi ehi => by
      have hi9 : hi ≤ 9 := by rw [ehi]; split <;> omega
      have e48 : 48 + hi = (if l.getD p 0 = 50 then 51 else 57) := by rw [ehi]; split <;> rfl
      obtain ⟨⟨v4, M5⟩, e5, f5, h5⟩ := r_digit t2 (lo := 0) (hi := hi) (by omega) hi9
      dsimp only at f5 h5
      refine wp_b2 e5 ?_
      rw [e48] at h5
      rcases h5 with ⟨-, b1, b2, b3, t5, rfl⟩ | ⟨t5, rfl, hno⟩
      · refine wp_some ⟨f1.trans f5, Or.inl ⟨⟨b1, by omega, by omega, by omega, b3⟩, t5, ?_⟩⟩
        show (10 : Int32) * nI (l.getD p 0 - 48) + nI (l.getD (p + 1) 0 - 48) = nI (pv l p)
        rw [show (10 : Int32) = nI 10 from rfl, nI_mul, nI_add]; rfl
      · have hno' : ¬ (p + 1 < l.length ∧ 48 ≤ l.getD (p + 1) 0 ∧ l.getD (p + 1) 0 ≤ (if l.getD p 0 = 50 then 51 else 57)) := hno.resolve_left (by decide)
        exact wp_some ⟨f1.trans f5, Or.inr ⟨fun q => hno' ⟨q.1, q.2.2.2.1, q.2.2.2.2⟩, p + 1, t5, Or.inr ⟨rfl, a1, by omega, by omega, hno'⟩⟩⟩
    with_reducible refine wp_bd ?_
    with_reducible refine wp_if (fun c => ?_) (fun c => ?_) <;> rw [show (2 : Int32) = nI 2 from rfl, iI_eq (by omega) (by omega)] at c
    · exact fin 3 (by rw [if_pos (by omega)])
    · exact fin 9 (by rw [if_neg (by omega)])
  · have hno' : ¬ (p < l.length ∧ 48 ≤ l.getD p 0 ∧ l.getD p 0 ≤ 50) := by
      have := hno.resolve_left (by decide)
      exact this
    have fin : ∀ hi : Nat, hi ≤ 9 → wp (sx_b2 (f8_digit (0 : Int32) (nI hi) M2) fun v4 M5 => some (((10 : Int32) * nI 0) + v4, M5)) (fun q => FRT M q.2 ∧ ((PO l p ∧ TX q.2 l true (p + 2) ∧ q.1 = nI (pv l p)) ∨ (¬ PO l p ∧ ∃ p', TX q.2 l false p' ∧ ((p' = p ∧ ¬ (p < l.length ∧ 48 ≤ l.getD p 0 ∧ l.getD p 0 ≤ 50)) ∨ (p' = p + 1 ∧ p < l.length ∧ 48 ≤ l.getD p 0 ∧ l.getD p 0 ≤ 50 ∧ ¬ (p + 1 < l.length ∧ 48 ≤ l.getD (p + 1) 0 ∧ l.getD (p + 1) 0 ≤ (if l.getD p 0 = 50 then 51 else 57))))))) := fun hi hi9 => by
      obtain ⟨⟨v4, M5⟩, e5, f5, h5⟩ := r_digit t2 (lo := 0) (hi := hi) (by omega) hi9
      dsimp only at f5 h5
      refine wp_b2 e5 ?_
      rcases h5 with ⟨z, -⟩ | ⟨t5, -, -⟩
      · cases z
      · exact wp_some ⟨f1.trans f5, Or.inr ⟨fun q => hno' ⟨by have := q.1; omega, q.2.1, q.2.2.1⟩, p, t5, Or.inl ⟨rfl, hno'⟩⟩⟩
    with_reducible refine wp_bd ?_
    refine wp_ifn (by decide) ?_
    exact fin 9 (by omega)
theorem r_part_id {M : sx_M} {l : List Nat} {p : Nat} (h : TX M l false p) : wp (f8_partRead M) (fun q => FRT M q.2 ∧ TX q.2 l false p) := by
  rw [f8_partRead]
  obtain ⟨⟨v1, M2⟩, e1, f1, h1⟩ := r_digit h (lo := 0) (hi := 2) (by omega) (by omega)
  dsimp only at f1 h1
  refine wp_b2 e1 ?_
  rcases h1 with ⟨z, -⟩ | ⟨t2, rfl, -⟩
  · cases z
  · with_reducible refine wp_bd ?_
    refine wp_ifn (by decide) ?_
    obtain ⟨⟨v4, M5⟩, e5, f5, h5⟩ := r_digit t2 (lo := 0) (hi := 9) (by omega) (by omega)
    dsimp only at f5 h5
    refine wp_b2 e5 ?_
    rcases h5 with ⟨z, -⟩ | ⟨t5, -, -⟩
    · cases z
    · exact wp_some ⟨f1.trans f5, t5⟩
