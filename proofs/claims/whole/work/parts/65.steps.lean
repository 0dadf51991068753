/-! THE CLASS'S STEPS -/
theorem wp_b2 {α β γ : Type} {x : Option (α × β)} {f : α → β → Option γ} {Q : γ → Prop} {a : α} {M : β} (e : x = some (a, M)) (h : wp (f a M) Q) : wp (sx_b2 x f) Q := by
  subst e
  exact h
def GT.ofL (l : List (Nat × Nat × Bool)) : GT := (l.length, fun i => (l.getD i (0, 0, false)).1, fun i => (l.getD i (0, 0, false)).2.1, fun i => (l.getD i (0, 0, false)).2.2)
theorem GT.ofL_ls (l : List (Nat × Nat × Bool)) : (GT.ofL l).ls = l := by
  apply List.ext_getElem?
  intro i
  by_cases h : i < l.length
  · rw [GT.ls_at (show i < (GT.ofL l).n from h), List.getElem?_eq_getElem h]
    show some ((l.getD i (0, 0, false)).1, (l.getD i (0, 0, false)).2.1, (l.getD i (0, 0, false)).2.2) = _
    rw [List.getD_eq_getElem?_getD, List.getElem?_eq_getElem h]
    rfl
  · rw [List.getElem?_eq_none (by rw [GT.ls_len]; exact Nat.not_lt.mp h), List.getElem?_eq_none (Nat.not_lt.mp h)]
def keepX (w : Nat → Bool) (x : Nat × Nat × Bool) : Bool := !(decide (4 ≤ x.1) && w (x.1 - 4)) && !w x.2.1
def SH.thin (A : SH) : GT := GT.ofL (A.g.ls.filter (keepX A.w))
def SH.ended (A : SH) : SH := (A.thin, (A.m, (fun p => A.T p && !A.w p), A.P, A.W), (false, (fun _ => false), (fun _ => false), []), A.E + 1, A.N + (nI A.g.n - nI A.thin.n))
theorem w3_endSweep {M : sx_M} {s : Nat} {A : SH} (h : CS M s A) : wp (f3_endSweep s M) (fun r => r.1 = -9 - nI (fb_ct A.w 24) ∧ CS r.2 s A.ended ∧ Fr (pSh s) M r.2) := by
  obtain ⟨h1, h2, h3, h4, h5, h6, h7, h8, h9⟩ := id h
  have hww : Wd (M.1 6 s 2) A.w := h2.2.1
  rw [f3_endSweep]
  refine wp_call w5_whites ?_
  obtain ⟨⟨r1, M4⟩, e4, g', k1, k2, k3, k4⟩ := w4_removeAll h1 (M.1 6 s 2)
  dsimp only at k1 k3 k4
  have hfil : A.g.ls.filter (keepW (M.1 6 s 2)) = A.g.ls.filter (keepX A.w) := by
    refine List.filter_congr (fun x hx => ?_)
    obtain ⟨i, hi, rfl⟩ : ∃ i, i < A.g.n ∧ (A.g.A i, A.g.B i, A.g.Z i) = x := by
      unfold GT.ls at hx
      obtain ⟨i, hi, e⟩ := List.mem_map.mp hx
      exact ⟨i, List.mem_range.mp hi, e⟩
    obtain ⟨q1, q2, -⟩ := h1.2.2 i hi
    show (!bt (M.1 6 s 2) (A.g.A i) && !bt (M.1 6 s 2) (A.g.B i + 4)) = (!(decide (4 ≤ A.g.A i) && A.w (A.g.A i - 4)) && !A.w (A.g.B i))
    rw [hww.at q2, hww (A.g.A i) (by omega), decide_eq_true q1, Bool.and_true]
  have hgt : g'.eqv A.thin := GT.eqv_of (by unfold SH.thin; rw [GT.ofL_ls, k2, hfil])
  have g4 : GS M4 s A.thin := k1.eqv hgt
  have en : g'.n = A.thin.n := hgt.1
  with_reducible refine wp_bd ?_
  refine wp_b2 e4 ?_
  with_reducible refine wp_bd ?_
  with_reducible refine wp_bd ?_
  have no : ∀ k, ¬ (k = 2 ∨ k = 3 ∨ k = 4 ∨ k = 5) → ¬ pStr s k s := fun k hk q => hk q.1
  have e14 : M4.1 1 s = M.1 1 s := k4.1 1 s (no 1 (by omega))
  have f7 : Fr (fun k s' => k = 1 ∧ s' = s) M4 (sx_set (sx_set M4 1 s 7 (M.1 1 s 7 + r1)) 1 s 4 ((sx_set M4 1 s 7 (M.1 1 s 7 + r1)).1 1 s 4 &&& (M.1 6 s 2 ^^^ (-1)))) := (Fr.rf.set ⟨rfl, rfl⟩).set ⟨rfl, rfl⟩
  have v3 : ∀ f, f ≠ 4 → f ≠ 7 → (sx_set (sx_set M4 1 s 7 (M.1 1 s 7 + r1)) 1 s 4 ((sx_set M4 1 s 7 (M.1 1 s 7 + r1)).1 1 s 4 &&& (M.1 6 s 2 ^^^ (-1)))).1 1 s f = M.1 1 s f := fun f hf hf7 => by simp [st_at, hf, hf7, e14]
  have v4 : (sx_set (sx_set M4 1 s 7 (M.1 1 s 7 + r1)) 1 s 4 ((sx_set M4 1 s 7 (M.1 1 s 7 + r1)).1 1 s 4 &&& (M.1 6 s 2 ^^^ (-1)))).1 1 s 4 = M.1 1 s 4 &&& (M.1 6 s 2 ^^^ (-1)) := by rw [st_at, if_pos ⟨rfl, rfl, rfl⟩, st_at, if_neg (by omega), e14]
  have v7 : (sx_set (sx_set M4 1 s 7 (M.1 1 s 7 + r1)) 1 s 4 ((sx_set M4 1 s 7 (M.1 1 s 7 + r1)).1 1 s 4 &&& (M.1 6 s 2 ^^^ (-1)))).1 1 s 7 = M.1 1 s 7 + r1 := by rw [st_at, if_neg (by omega), st_at, if_pos ⟨rfl, rfl, rfl⟩]
  with_reducible refine wp_bd ?_
  generalize sx_set (sx_set M4 1 s 7 (M.1 1 s 7 + r1)) 1 s 4 ((sx_set M4 1 s 7 (M.1 1 s 7 + r1)).1 1 s 4 &&& (M.1 6 s 2 ^^^ (-1))) = M7 at f7 v3 v4 v7 ⊢
  have n1 : ∀ k, k ≠ 1 → ¬ (fun k s' => k = 1 ∧ s' = s) k s := fun k hk q => hk q.1
  have g7 := g4.fr f7 (n1 2 (by omega)) (n1 3 (by omega)) (n1 4 (by omega)) (n1 5 (by omega))
  obtain ⟨M8, e8, s8, f8⟩ := w5_stop M7 s
  refine wp_call e8 ?_
  have n6 : ∀ k, ¬ (k = 6 ∨ k = 7) → ¬ pSw s k s := fun k hk q => hk q.1
  have g8 := g7.fr f8 (n6 2 (by omega)) (n6 3 (by omega)) (n6 4 (by omega)) (n6 5 (by omega))
  have e81 : M8.1 1 s = M7.1 1 s := f8.1 1 s (n6 1 (by omega))
  have e88 : M8.1 8 s = M.1 8 s := (f8.1 8 s (n6 8 (by omega))).trans ((f7.1 8 s (n1 8 (by omega))).trans (k4.1 8 s (no 8 (by omega))))
  with_reducible refine wp_bd ?_
  with_reducible refine wp_bd ?_
  refine wp_call (wJ_count hww _) ?_
  have f10 : Fr (fun k s' => k = 1 ∧ s' = s) M8 (sx_set M8 1 s 6 (M8.1 1 s 6 + 1)) := Fr.rf.set ⟨rfl, rfl⟩
  refine wp_some ⟨rfl, ⟨g8.fr f10 (n1 2 (by omega)) (n1 3 (by omega)) (n1 4 (by omega)) (n1 5 (by omega)), s8.fr f10 (n1 6 (by omega)) (n1 7 (by omega)), h3, ?_, ?_, ?_, ?_, ?_, fun p hp => ?_⟩, (((k4.mono pStr_sh).trans (f7.mono (fun k s' q => ⟨by omega, q.2⟩))).trans (f8.mono pSw_sh)).trans (f10.mono (fun k s' q => ⟨by omega, q.2⟩))⟩
  · rw [st_at, if_neg (by omega), e81, v3 3 (by omega) (by omega)]; exact h4
  · rw [st_at, if_neg (by omega), e81, v4]; exact h5.minus hww.atp
  · rw [st_at, if_neg (by omega), e81, v3 5 (by omega) (by omega)]; exact h6
  · rw [st_at, if_pos ⟨rfl, rfl, rfl⟩, e81, v3 6 (by omega) (by omega), h7]; rfl
  · rw [st_at, if_neg (by omega), e81, v7, h8, k3, en]; rfl
  · rw [st_at, if_neg (fun q => by cases q.1), e88]; exact h9 p hp
def SH.blk (A : SH) (p : Nat) (q : List Nat) : SH := (A.1, A.2.1, (A.G, A.w, (fun k => A.b k || decide (k = p)), q), A.2.2.2)
def SH.onward (A : SH) (p : Nat) : SH := A.shadeN (fun i => A.g.Z i && decide (A.g.A i = p + 4)) A.g.B A.g.n
def SH.step (A : SH) : SH := match A.q with
  | [] => A.ended
  | p :: q => (A.blk p q).onward p
def SH.told (A : SH) : Int32 := match A.q with
  | [] => -9 - nI (fb_ct A.w 24)
  | p :: _ => nI p
theorem shadeIf_g (A : SH) (c : Bool) (p : Nat) : (A.shadeIf c p).g = A.g := by unfold SH.shadeIf; cases c <;> rfl
theorem shadeN_g (A : SH) (c : Nat → Bool) (pt : Nat → Nat) : ∀ n, (A.shadeN c pt n).g = A.g
  | 0 => rfl
  | n + 1 => by
    show ((A.shadeN c pt n).shadeIf (c n) (pt n)).g = A.g
    rw [shadeIf_g, shadeN_g A c pt n]
theorem w3_takeStep {M : sx_M} {s : Nat} {A : SH} (h : CS M s A) (hG : A.G = true) : wp (f3_takeStep s M) (fun r => r.1 = A.told ∧ CS r.2 s A.step ∧ Fr (pSh s) M r.2) := by
  have hs := h.2.1
  rw [f3_takeStep]
  unfold SH.told SH.step
  cases hq : A.q with
  | nil =>
    rw [hq] at hs
    refine wp_b2 (w5_blackenFirst_0 hs) ?_
    refine wp_ifp rfl ?_
    obtain ⟨⟨r1, M2⟩, e, k1, k2, k3⟩ := w3_endSweep h
    refine wp_b2 e ?_
    exact wp_some ⟨k1, k2, k3⟩
  | cons p q =>
    rw [hq, hG] at hs
    have hp : p < 24 := (hs.2.2.2.2.2.1 p List.mem_cons_self).1
    obtain ⟨⟨r1, M2⟩, e, k1, k2, k3⟩ := w5_blackenFirst hs
    dsimp only at k1 k2 k3
    subst k1
    refine wp_b2 e ?_
    refine wp_ifn (nI_ne_m9 (by omega)) ?_
    rw [← hG] at k2
    obtain ⟨c2, f2⟩ := h.setS k2 k3
    have c2' : CS M2 s (A.blk p q) := c2
    refine wp_up (F := fun m x2 M1 => f3_takeStep_L21 s (nI p) m x2 M1) A.g.n (fun j M3 => CS M3 s ((A.blk p q).shadeN (fun i => A.g.Z i && decide (A.g.A i = p + 4)) A.g.B j) ∧ Fr (pSh s) M M3) (fun m j M3 hj hI kk => ?_) (fun m M3 hI => ?_) 5000 0 M2 (by omega) (by have := h.1.1; omega) ⟨c2', f2⟩
    · obtain ⟨c3, f3⟩ := hI
      have hg3 : GS M3 s A.g := by have := c3.1; rw [shadeN_g] at this; exact this
      have hsz : f4_size s M3 = some (nI A.g.n) := by rw [f4_size]; exact congrArg some hg3.2.1
      have h40 := h.1.1
      show wp (f3_takeStep_L21 s (nI p) (m + 1) (nI j) M3) _
      rw [f3_takeStep_L21]
      refine wp_call hsz ?_
      repeat' (first | with_reducible refine wp_some ?_ | with_reducible refine wp_bd ?_ | (with_reducible refine wp_ifp ?_ ?_; · (first | exact ⟨by decide, by decide⟩ | exact sx_in_n (by omega) (by omega) | assumption | exact ⟨sx_in_n (by omega) (by omega), bI01_01 _⟩ | exact Or.inl rfl | exact Or.inr rfl | (simp (disch := omega) only [nI_lit, iI_le, iI_lt, iI_eq, nI_cl, nI_add, tI_4N, bt_shrN, bI01_0N, bI01_1N, Nat.not_le, Nat.not_lt, not_true_eq_false, not_false_eq_true, true_or, or_true, false_or, or_false, Bool.not_eq_false, Bool.not_eq_true] <;> omega))) | (with_reducible refine wp_ifn ?_ ?_; · (first | exact ⟨by decide, by decide⟩ | exact sx_in_n (by omega) (by omega) | assumption | exact ⟨sx_in_n (by omega) (by omega), bI01_01 _⟩ | exact Or.inl rfl | exact Or.inr rfl | (simp (disch := omega) only [nI_lit, iI_le, iI_lt, iI_eq, nI_cl, nI_add, tI_4N, bt_shrN, bI01_0N, bI01_1N, Nat.not_le, Nat.not_lt, not_true_eq_false, not_false_eq_true, true_or, or_true, false_or, or_false, Bool.not_eq_false, Bool.not_eq_true] <;> omega))) | fail)
      refine wp_call (w4_isSoundAt hg3 hj) ?_
      with_reducible refine wp_bd ?_
      obtain ⟨a1, a2, -⟩ := hg3.2.2 j hj
      have nokk : (A.g.Z j && decide (A.g.A j = p + 4)) = false → _ := fun hc => kk M3 ⟨by
        show CS M3 s (((A.blk p q).shadeN (fun i => A.g.Z i && decide (A.g.A i = p + 4)) A.g.B j).shadeIf (A.g.Z j && decide (A.g.A j = p + 4)) (A.g.B j))
        rw [hc]; exact c3, f3⟩
      with_reducible refine wp_if (fun c => ?_) (fun c => ?_) <;> (try simp (disch := omega) only [nI_lit, iI_le, iI_lt, iI_eq, nI_cl, nI_add, tI_4N, bt_shrN, bI01_0N, bI01_1N, Nat.not_le, Nat.not_lt, not_true_eq_false, not_false_eq_true, true_or, or_true, false_or, or_false, Bool.not_eq_false, Bool.not_eq_true] at c)
      · exact nokk (by rw [c]; rfl)
      · refine wp_call (w4_aboveAt hg3 hj) ?_
        with_reducible refine wp_if (fun c5 => ?_) (fun c5 => ?_)
        · rw [tI_nI (by omega) (by omega)] at c5
          refine wp_call (w4_belowAt hg3 hj) ?_
          obtain ⟨M4, e4, c4, f4⟩ := w3_shade c3 a2
          refine wp_call e4 ?_
          refine kk M4 ⟨?_, f3.trans f4⟩
          show CS M4 s (((A.blk p q).shadeN (fun i => A.g.Z i && decide (A.g.A i = p + 4)) A.g.B j).shadeIf (A.g.Z j && decide (A.g.A j = p + 4)) (A.g.B j))
          rw [c, decide_eq_true c5]
          exact c4
        · rw [tI_nI (by omega) (by omega)] at c5
          exact nokk (by rw [decide_eq_false c5, Bool.and_false])
    · obtain ⟨c3, f3⟩ := hI
      have hg3 : GS M3 s A.g := by have := c3.1; rw [shadeN_g] at this; exact this
      have hsz : f4_size s M3 = some (nI A.g.n) := by rw [f4_size]; exact congrArg some hg3.2.1
      have h40 := h.1.1
      show wp (f3_takeStep_L21 s (nI p) (m + 1) (nI A.g.n) M3) _
      rw [f3_takeStep_L21]
      refine wp_call hsz ?_
      repeat' (first | with_reducible refine wp_some ?_ | with_reducible refine wp_bd ?_ | (with_reducible refine wp_ifp ?_ ?_; · (first | exact ⟨by decide, by decide⟩ | exact sx_in_n (by omega) (by omega) | assumption | exact ⟨sx_in_n (by omega) (by omega), bI01_01 _⟩ | exact Or.inl rfl | exact Or.inr rfl | (simp (disch := omega) only [nI_lit, iI_le, iI_lt, iI_eq, nI_cl, nI_add, tI_4N, bt_shrN, bI01_0N, bI01_1N, Nat.not_le, Nat.not_lt, not_true_eq_false, not_false_eq_true, true_or, or_true, false_or, or_false, Bool.not_eq_false, Bool.not_eq_true] <;> omega))) | (with_reducible refine wp_ifn ?_ ?_; · (first | exact ⟨by decide, by decide⟩ | exact sx_in_n (by omega) (by omega) | assumption | exact ⟨sx_in_n (by omega) (by omega), bI01_01 _⟩ | exact Or.inl rfl | exact Or.inr rfl | (simp (disch := omega) only [nI_lit, iI_le, iI_lt, iI_eq, nI_cl, nI_add, tI_4N, bt_shrN, bI01_0N, bI01_1N, Nat.not_le, Nat.not_lt, not_true_eq_false, not_false_eq_true, true_or, or_true, false_or, or_false, Bool.not_eq_false, Bool.not_eq_true] <;> omega))) | fail)
      exact ⟨rfl, c3, f3⟩
