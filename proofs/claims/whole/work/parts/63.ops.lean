/-! WHAT IS DONE TO A SHED, and the class does it -/
def SH.setG (A : SH) (g : GT) : SH := (g, A.2)
def SH.shade (A : SH) (p : Nat) : SH := (A.1, A.2.1, (A.G, shW A.w p, A.b, shQ A.w A.q p), A.2.2.2)
def SH.passes (A : SH) (t : Nat) : Bool := decide (t < 4) || A.b (t - 4)
def SH.make (A : SH) (v : Int32) : SH := (A.1, (A.m + 1, fun k => A.T k || decide (k = A.m), A.P, fun k => if k = A.m then v else A.W k), (A.G, A.w, (if A.G then fun k => A.b k || decide (k = A.m) else A.b), A.q), A.2.2.2)
def SH.shadeIf (A : SH) (c : Bool) (p : Nat) : SH := if c then A.shade p else A
def SH.tie (A : SH) (t p : Nat) (z : Bool) : SH := (A.setG (A.g.put t p z)).shadeIf (z && A.passes t) p
def SH.cut (A : SH) (i : Nat) : SH := A.setG (A.g.rm i)
def SH.snd (A : SH) (i : Nat) (z : Bool) : SH := (A.setG (A.g.snd i z)).shadeIf (z && A.passes (A.g.A i)) (A.g.B i)
def SH.setP (A : SH) (P : Nat → Bool) : SH := (A.1, (A.m, A.T, P, A.W), A.2.2)
def SH.pin (A : SH) (p : Nat) (is : Bool) : SH := if is then (A.setP (fun k => A.P k || decide (k = p))).shade p else A.setP (fun k => A.P k && !decide (k = p))
theorem CS.setG {M M' : sx_M} {s : Nat} {A : SH} {g : GT} (h : CS M s A) (hg : GS M' s g) (hf : Fr (pStr s) M M') : CS M' s (A.setG g) ∧ Fr (pSh s) M M' := by
  obtain ⟨h1, h2, h3, h4, h5, h6, h7, h8, h9⟩ := h
  have no : ∀ k, ¬ (k = 2 ∨ k = 3 ∨ k = 4 ∨ k = 5) → ¬ pStr s k s := fun k hk q => hk q.1
  refine ⟨⟨hg, h2.fr hf (no 6 (by omega)) (no 7 (by omega)), h3, ?_⟩, hf.mono pStr_sh⟩
  rw [hf.1 1 s (no 1 (by omega)), hf.1 8 s (no 8 (by omega))]
  exact ⟨h4, h5, h6, h7, h8, h9⟩
theorem CS.setS {M M' : sx_M} {s : Nat} {A : SH} {G : Bool} {w b : Nat → Bool} {q : List Nat} (h : CS M s A) (hs : SS M' s G w b q) (hf : Fr (pSw s) M M') : CS M' s (A.1, A.2.1, (G, w, b, q), A.2.2.2) ∧ Fr (pSh s) M M' := by
  obtain ⟨h1, h2, h3, h4, h5, h6, h7, h8, h9⟩ := h
  have no : ∀ k, ¬ (k = 6 ∨ k = 7) → ¬ pSw s k s := fun k hk q => hk q.1
  refine ⟨⟨h1.fr hf (no 2 (by omega)) (no 3 (by omega)) (no 4 (by omega)) (no 5 (by omega)), hs, h3, ?_⟩, hf.mono pSw_sh⟩
  rw [hf.1 1 s (no 1 (by omega)), hf.1 8 s (no 8 (by omega))]
  exact ⟨h4, h5, h6, h7, h8, h9⟩
theorem w3_shade {M : sx_M} {s : Nat} {A : SH} (h : CS M s A) {p : Nat} (hp : p < 24) : wp (f5_shade s (nI p) M) (fun M' => CS M' s (A.shade p) ∧ Fr (pSh s) M M') := by
  obtain ⟨M', e, hs, hf⟩ := w5_shade h.2.1 hp
  exact ⟨M', e, h.setS hs hf⟩
theorem w3_addString {M : sx_M} {s : Nat} {A : SH} (h : CS M s A) (hn : A.g.n < 40) {t p : Nat} (ht : t < 28) (hp : p < 24) (z : Bool) : wp (f3_addString s (tI t) (nI p) (bI01 z) M) (fun r => r.1 = nI (A.g.n + 1) ∧ CS r.2 s (A.tie t p z) ∧ Fr (pSh s) M r.2) := by
  rw [f3_addString]
  obtain ⟨M1, e1, g1, r1⟩ := w4_add h.1 hn ht hp z
  refine wp_call e1 ?_
  obtain ⟨c1, f1⟩ := h.setG g1 r1
  have hsz : ∀ M2 (B : SH), CS M2 s B → B.g = A.g.put t p z → f4_size s M2 = some (nI (A.g.n + 1)) := fun M2 B hB e => by
    rw [f4_size]
    have := hB.1.2.1
    rw [e] at this
    exact congrArg some this
  with_reducible refine wp_bd ?_
  cases z with
  | false =>
    refine wp_ifp rfl ?_
    refine wp_call (hsz M1 _ c1 rfl) ?_
    exact wp_some ⟨rfl, c1, f1⟩
  | true =>
    refine wp_ifn (by decide) ?_
    refine wp_call (w5_passesBelow c1.2.1 ht) ?_
    have ep : (decide (t < 4) || (A.setG (A.g.put t p true)).b (t - 4)) = A.passes t := rfl
    rw [ep]
    with_reducible refine wp_if (fun c => ?_) (fun c => ?_) <;> (try simp (disch := omega) only [nI_lit, iI_le, iI_lt, iI_eq, nI_cl, nI_add, tI_4N, bt_shrN, bI01_0N, bI01_1N, Nat.not_le, Nat.not_lt, not_true_eq_false, not_false_eq_true, true_or, or_true, false_or, or_false, Bool.not_eq_false, Bool.not_eq_true] at c)
    · refine wp_call (hsz M1 _ c1 rfl) ?_
      refine wp_some ⟨rfl, ?_, f1⟩
      unfold SH.tie
      rw [c]
      exact c1
    · obtain ⟨M2, e2, c2, f2⟩ := w3_shade c1 hp
      refine wp_call e2 ?_
      refine wp_call (hsz M2 _ c2 rfl) ?_
      refine wp_some ⟨rfl, ?_, f1.trans f2⟩
      unfold SH.tie
      rw [c]
      exact c2
theorem w3_removeString {M : sx_M} {s : Nat} {A : SH} (h : CS M s A) {a p : Int32} {i : Nat} (hi : A.g.at a p i) (hf : ∀ j, j < i → ¬ A.g.at a p j) : wp (f3_removeString s a p M) (fun r => r.1 = nI (fb_ct (fun p => A.H p && !(A.cut i).H p) 24) ∧ CS r.2 s (A.cut i) ∧ Fr (pSh s) M r.2) := by
  rw [f3_removeString]
  obtain ⟨r, e, hr⟩ := w3_held h
  refine wp_call e ?_
  obtain ⟨j, e1, hj⟩ := w4_find h.1 a p
  refine wp_call e1 ?_
  have ej : j = nI i := by
    rcases hj with ⟨-, hno⟩ | ⟨i', rfl, h1, h2⟩
    · exact absurd hi (hno i)
    · by_cases q : i' < i
      · exact absurd h1 (hf i' q)
      · by_cases q2 : i < i'
        · exact absurd hi (h2 i q2)
        · rw [show i' = i by omega]
  subst ej
  obtain ⟨M1, e2, g1, r1⟩ := w4_removeAt h.1 hi.1
  refine wp_call e2 ?_
  obtain ⟨c1, f1⟩ := h.setG g1 r1
  obtain ⟨r', e3, hr'⟩ := w3_held c1
  refine wp_call e3 ?_
  refine wp_call (wJ_count (hr.minus hr'.atp) _) ?_
  exact wp_some ⟨rfl, c1, f1⟩
theorem w3_setSound {M : sx_M} {s : Nat} {A : SH} (h : CS M s A) {a p : Nat} (hp : p < 24) (ha : a < 28) {i : Nat} (hi : A.g.at (tI a) (nI p) i) (hf : ∀ j, j < i → ¬ A.g.at (tI a) (nI p) j) (z : Bool) : wp (f3_setSound s (tI a) (nI p) (bI01 z) M) (fun r => r.1 = nI (fb_ct (fun p => A.H p ^^ (A.snd i z).H p) 24) ∧ CS r.2 s (A.snd i z) ∧ Fr (pSh s) M r.2) := by
  rw [f3_setSound]
  obtain ⟨r, e, hr⟩ := w3_held h
  refine wp_call e ?_
  obtain ⟨j, e1, hj⟩ := w4_find h.1 (tI a) (nI p)
  refine wp_call e1 ?_
  have ej : j = nI i := by
    rcases hj with ⟨-, hno⟩ | ⟨i', rfl, h1, h2⟩
    · exact absurd hi (hno i)
    · by_cases q : i' < i
      · exact absurd h1 (hf i' q)
      · by_cases q2 : i < i'
        · exact absurd hi (h2 i q2)
        · rw [show i' = i by omega]
  subst ej
  have hgi := h.1.2.2 i hi.1
  have ea : A.g.A i = a := (tI_inj (by omega) (by omega)).mp hi.2.1
  have ep : A.g.B i = p := (iI_eq (by omega) (by omega)).mp hi.2.2
  obtain ⟨M1, e2, g1, r1⟩ := w4_setSound h.1 hi.1 z
  refine wp_call e2 ?_
  obtain ⟨c1, f1⟩ := h.setG g1 r1
  have fin : ∀ M2, CS M2 s (A.snd i z) → Fr (pSh s) M M2 → wp ((f3_held s M2).bind fun v5 => (fJ6_bitCount_0f7a4 (r ^^^ v5) M2).bind fun v6 => some (v6, M2)) (fun r => r.1 = nI (fb_ct (fun p => A.H p ^^ (A.snd i z).H p) 24) ∧ CS r.2 s (A.snd i z) ∧ Fr (pSh s) M r.2) := fun M2 c2 f2 => by
    obtain ⟨r', e3, hr'⟩ := w3_held c2
    refine wp_call e3 ?_
    refine wp_call (wJ_count (hr.xor hr') _) ?_
    exact wp_some ⟨rfl, c2, f2⟩
  with_reducible refine wp_bd ?_
  cases z with
  | false =>
    refine wp_ifp rfl ?_
    exact fin M1 c1 f1
  | true =>
    refine wp_ifn (by decide) ?_
    refine wp_call (w5_passesBelow c1.2.1 ha) ?_
    have ep2 : (decide (a < 4) || (A.setG (A.g.snd i true)).b (a - 4)) = A.passes (A.g.A i) := by rw [ea]; rfl
    rw [ep2]
    with_reducible refine wp_if (fun c => ?_) (fun c => ?_) <;> (try simp (disch := omega) only [nI_lit, iI_le, iI_lt, iI_eq, nI_cl, nI_add, tI_4N, bt_shrN, bI01_0N, bI01_1N, Nat.not_le, Nat.not_lt, not_true_eq_false, not_false_eq_true, true_or, or_true, false_or, or_false, Bool.not_eq_false, Bool.not_eq_true] at c)
    · refine fin M1 ?_ f1
      unfold SH.snd
      rw [c]
      exact c1
    · obtain ⟨M2, e3, c2, f2⟩ := w3_shade c1 hp
      refine wp_call e3 ?_
      refine fin M2 ?_ (f1.trans f2)
      unfold SH.snd
      rw [c, ep]
      exact c2
