/-! FROM THE ENTRY TO THE LOOP. Written by wip/whole/begin.py -/
def sx_TL (C : sx_C) (s0 s1 : Nat → Nat) (q1 q9 q10 q11 q12 q13 q14 q15 q16 q2 q3 r0 r1 r2 r3 r4 r5 r6 r7 r8 r9 r10 r11 : Nat) (sl pl : List (Nat → Nat)) : va_W := ((q1, .inr (6, [.ref (s0 1), .ref (s1 1), .ref q9, .ref q11, .ref q12, .ref q13, .ref q15])) :: ((cw_shed C s0 ++ cw_shed C s1 ++ ((q9, .inr (1, [.ref q10, .int 0, .int 0])) :: (q10, cw_rw C 14 (cw_refs pl)) :: pl.flatMap (cw_shed C))) ++ ((q11, cw_rw C 2 (cw_refs sl)) :: (sl.flatMap (cw_shed C) ++ ([(q12, .inl (sx_cZ C, 2, .inl (fun _ => 0)))] ++ ([(q13, .inr (5, [.ref q14, .int 0])), (q14, .inl (sx_cI C, 120, .inl (fun _ => 0)))] ++ [(q15, .inr (0, [.ref q16, .long 0])), (q16, .inl (sx_cI C, 24, .inl (fun _ => 0)))])))))) ++ (((q2, .inr (7, [.int 0, .ref r0, .int 0, .int 0, .int 0, .int 0, .ref r1, .ref r2, .ref r3, .ref r4, .int 0, .ref r5, .ref r6, .ref r7, .ref r8, .ref r9, .ref r10, .ref r11])) :: [(r0, .inl (sx_cI C, 120, .inl (fun _ => 0))), (r1, .inl (sx_cI C, 247, .inl (fun _ => 0))), (r2, .inl (sx_cI C, 247, .inl (fun _ => 0))), (r3, .inl (sx_cI C, 247, .inl (fun _ => 0))), (r4, .inl (sx_cI C, 3458, .inl (fun _ => 0))), (r5, .inl (sx_cI C, 494, .inl (fun _ => 0))), (r6, .inl (sx_cZ C, 2, .inl (fun _ => 0))), (r7, .inl (sx_cI C, 24, .inl (fun _ => 0))), (r8, .inl (sx_cZ C, 24, .inl (fun _ => 0))), (r9, .inl (sx_cZ C, 40, .inl (fun _ => 0))), (r10, .inl (sx_cI C, 24, .inl (fun _ => 0))), (r11, .inl (sx_cI C, 24, .inl (fun _ => 0)))]) ++ [(q3, .inl (sx_cJ C, 1, .inr (.inl (fun _ => 0))))])
def sx_adr (C : sx_C) (s0 s1 : Nat → Nat) (q1 q9 q10 q11 q12 q13 q14 q15 q16 q2 q3 r0 r1 r2 r3 r4 r5 r6 r7 r8 r9 r10 r11 : Nat) (sl pl : List (Nat → Nat)) : Nat → Nat → Nat := fun k s => match k with
  | 0 => q1
  | 1 => (s0 :: s1 :: (sl ++ pl)).getD s s0 1
  | 2 => (s0 :: s1 :: (sl ++ pl)).getD s s0 2
  | 3 => (s0 :: s1 :: (sl ++ pl)).getD s s0 3
  | 4 => (s0 :: s1 :: (sl ++ pl)).getD s s0 4
  | 5 => (s0 :: s1 :: (sl ++ pl)).getD s s0 5
  | 6 => (s0 :: s1 :: (sl ++ pl)).getD s s0 6
  | 7 => (s0 :: s1 :: (sl ++ pl)).getD s s0 7
  | 8 => (s0 :: s1 :: (sl ++ pl)).getD s s0 8
  | 9 => q9
  | 10 => q10
  | 11 => q11
  | 12 => q12
  | 13 => q13
  | 14 => q14
  | 15 => q15
  | 16 => q16
  | 17 => q2
  | 18 => r0
  | 19 => r1
  | 20 => r2
  | 21 => r3
  | 22 => r4
  | 23 => r5
  | 24 => r6
  | 25 => r7
  | 26 => r8
  | 27 => r9
  | 28 => r10
  | 29 => r11
  | 30 => q3
  | _ => 0
def sx_KS : List (Nat × Nat) := [(0, 0), (1, 0), (2, 0), (3, 0), (4, 0), (5, 0), (6, 0), (7, 0), (8, 0), (1, 1), (2, 1), (3, 1), (4, 1), (5, 1), (6, 1), (7, 1), (8, 1), (9, 0), (10, 0), (1, 4), (2, 4), (3, 4), (4, 4), (5, 4), (6, 4), (7, 4), (8, 4), (1, 5), (2, 5), (3, 5), (4, 5), (5, 5), (6, 5), (7, 5), (8, 5), (1, 6), (2, 6), (3, 6), (4, 6), (5, 6), (6, 6), (7, 6), (8, 6), (1, 7), (2, 7), (3, 7), (4, 7), (5, 7), (6, 7), (7, 7), (8, 7), (1, 8), (2, 8), (3, 8), (4, 8), (5, 8), (6, 8), (7, 8), (8, 8), (1, 9), (2, 9), (3, 9), (4, 9), (5, 9), (6, 9), (7, 9), (8, 9), (1, 10), (2, 10), (3, 10), (4, 10), (5, 10), (6, 10), (7, 10), (8, 10), (1, 11), (2, 11), (3, 11), (4, 11), (5, 11), (6, 11), (7, 11), (8, 11), (1, 12), (2, 12), (3, 12), (4, 12), (5, 12), (6, 12), (7, 12), (8, 12), (1, 13), (2, 13), (3, 13), (4, 13), (5, 13), (6, 13), (7, 13), (8, 13), (1, 14), (2, 14), (3, 14), (4, 14), (5, 14), (6, 14), (7, 14), (8, 14), (1, 15), (2, 15), (3, 15), (4, 15), (5, 15), (6, 15), (7, 15), (8, 15), (1, 16), (2, 16), (3, 16), (4, 16), (5, 16), (6, 16), (7, 16), (8, 16), (1, 17), (2, 17), (3, 17), (4, 17), (5, 17), (6, 17), (7, 17), (8, 17), (11, 0), (1, 2), (2, 2), (3, 2), (4, 2), (5, 2), (6, 2), (7, 2), (8, 2), (1, 3), (2, 3), (3, 3), (4, 3), (5, 3), (6, 3), (7, 3), (8, 3), (12, 0), (13, 0), (14, 0), (15, 0), (16, 0), (17, 0), (18, 0), (19, 0), (20, 0), (21, 0), (22, 0), (23, 0), (24, 0), (25, 0), (26, 0), (27, 0), (28, 0), (29, 0), (30, 0)]
theorem sx_KS_b : ((List.range 31).all fun k => (List.range (sx_cnt k)).all fun s => decide ((k, s) ∈ sx_KS)) = true := by decide +kernel
theorem sx_KS_all (k : Nat) (hk : k < 31) (s : Nat) (_ : s < 18) (h : s < sx_cnt k) : (k, s) ∈ sx_KS := of_decide_eq_true (List.all_eq_true.mp (List.all_eq_true.mp sx_KS_b k (List.mem_range.mpr hk)) s (List.mem_range.mpr h))
theorem sx_cnt_out {k : Nat} (h : ¬ k < 31) : sx_cnt k = 0 := by
  unfold sx_cnt
  rw [List.getD_eq_getElem?_getD, List.getElem?_eq_none (by simpa using h)]
  rfl
theorem sx_cnt_le {k : Nat} (h : k < 31) : sx_cnt k ≤ 18 := (show ∀ k, k < 31 → sx_cnt k ≤ 18 by decide +kernel) k h
theorem sx_inj_of {α β : Type} {f : α → β} : ∀ {l : List α}, (l.map f).Nodup → ∀ x ∈ l, ∀ y ∈ l, f x = f y → x = y
  | [], _, x, hx, _, _, _ => absurd hx List.not_mem_nil
  | a :: l, hn, x, hx, y, hy, he => by
    rw [List.map_cons, List.nodup_cons] at hn
    rcases List.mem_cons.mp hx with rfl | hx2
    · rcases List.mem_cons.mp hy with rfl | hy2
      · rfl
      · exact absurd (he ▸ List.mem_map.mpr ⟨y, hy2, rfl⟩) hn.1
    · rcases List.mem_cons.mp hy with rfl | hy2
      · exact absurd (he ▸ List.mem_map.mpr ⟨x, hx2, rfl⟩) hn.1
      · exact sx_inj_of hn.2 x hx2 y hy2 he
abbrev sx_C1 (C : sx_C) (s0 s1 : Nat → Nat) (q1 q9 q10 q11 q12 q13 q14 q15 q16 q2 q3 r0 r1 r2 r3 r4 r5 r6 r7 r8 r9 r10 r11 : Nat) (sl pl : List (Nat → Nat)) : sx_C := (sx_adr C s0 s1 q1 q9 q10 q11 q12 q13 q14 q15 q16 q2 q3 r0 r1 r2 r3 r4 r5 r6 r7 r8 r9 r10 r11 sl pl, C.2)
set_option maxRecDepth 100000 in
theorem sx_TL_keys (C : sx_C) (s0 s1 : Nat → Nat) (q1 q9 q10 q11 q12 q13 q14 q15 q16 q2 q3 r0 r1 r2 r3 r4 r5 r6 r7 r8 r9 r10 r11 : Nat) (sl pl : List (Nat → Nat)) (h1 : sl.length = 2) (h2 : pl.length = 14) : (sx_TL C s0 s1 q1 q9 q10 q11 q12 q13 q14 q15 q16 q2 q3 r0 r1 r2 r3 r4 r5 r6 r7 r8 r9 r10 r11 sl pl).map Prod.fst = sx_KS.map (fun q => sx_adr C s0 s1 q1 q9 q10 q11 q12 q13 q14 q15 q16 q2 q3 r0 r1 r2 r3 r4 r5 r6 r7 r8 r9 r10 r11 sl pl q.1 q.2) :=
  match sl, h1, pl, h2 with
  | [_, _], _, [_, _, _, _, _, _, _, _, _, _, _, _, _, _], _ => rfl
theorem va_at_q {D : va_G} {Cs : List vw_C} {a n : Nat} {cA : ClassId} {f g : Nat → Option Nat} {H : Heap} (h : va_at D Cs (a, .inl (cA, n, .inr (.inr (.inr (.inr f))))) H) (hfg : ∀ j, j < n → f j = g j) : va_at D Cs (a, .inl (cA, n, .inr (.inr (.inr (.inr g))))) H := by
  have h0 : H[a]? = some (vp_cell cA (n, .inr (.inr (.inr (.inr f))))) := h
  show H[a]? = some (vp_cell cA (n, .inr (.inr (.inr (.inr g)))))
  rw [h0, vp_cell_q, vp_cell_q]
  congr 1
  unfold arrV
  congr 1
  apply Array.ext
  · simp
  · intro i hi1 hi2
    simp at hi1 ⊢
    rw [hfg i hi1]
theorem sx_sub_of {α : Type} {l m : List α} {pre : Nat} (h : (m.drop pre).take l.length = l) : l ⊆ m := fun x hx => by
  rw [← h] at hx
  exact List.mem_of_mem_drop (List.mem_of_mem_take hx)
set_option maxRecDepth 100000 in
theorem sx_mem0 (C : sx_C) (s0 s1 : Nat → Nat) (q1 q9 q10 q11 q12 q13 q14 q15 q16 q2 q3 r0 r1 r2 r3 r4 r5 r6 r7 r8 r9 r10 r11 : Nat) (sl pl : List (Nat → Nat)) : ((sx_adr C s0 s1 q1 q9 q10 q11 q12 q13 q14 q15 q16 q2 q3 r0 r1 r2 r3 r4 r5 r6 r7 r8 r9 r10 r11 sl pl 0 0, sx_E (sx_C1 C s0 s1 q1 q9 q10 q11 q12 q13 q14 q15 q16 q2 q3 r0 r1 r2 r3 r4 r5 r6 r7 r8 r9 r10 r11 sl pl) (fun _ => 0) (fun _ => 0) 0 0) : Nat × va_E) ∈ sx_TL C s0 s1 q1 q9 q10 q11 q12 q13 q14 q15 q16 q2 q3 r0 r1 r2 r3 r4 r5 r6 r7 r8 r9 r10 r11 sl pl := List.mem_append_left _ List.mem_cons_self
set_option maxRecDepth 100000 in
theorem sx_mem9 (C : sx_C) (s0 s1 : Nat → Nat) (q1 q9 q10 q11 q12 q13 q14 q15 q16 q2 q3 r0 r1 r2 r3 r4 r5 r6 r7 r8 r9 r10 r11 : Nat) (sl pl : List (Nat → Nat)) : ((sx_adr C s0 s1 q1 q9 q10 q11 q12 q13 q14 q15 q16 q2 q3 r0 r1 r2 r3 r4 r5 r6 r7 r8 r9 r10 r11 sl pl 9 0, sx_E (sx_C1 C s0 s1 q1 q9 q10 q11 q12 q13 q14 q15 q16 q2 q3 r0 r1 r2 r3 r4 r5 r6 r7 r8 r9 r10 r11 sl pl) (fun _ => 0) (fun _ => 0) 0 9) : Nat × va_E) ∈ sx_TL C s0 s1 q1 q9 q10 q11 q12 q13 q14 q15 q16 q2 q3 r0 r1 r2 r3 r4 r5 r6 r7 r8 r9 r10 r11 sl pl := List.mem_append_left _ (List.mem_cons_of_mem _ (List.mem_append_left _ (List.mem_append_right _ List.mem_cons_self)))
set_option maxRecDepth 100000 in
theorem sx_mem10 (C : sx_C) (s0 s1 : Nat → Nat) (q1 q9 q10 q11 q12 q13 q14 q15 q16 q2 q3 r0 r1 r2 r3 r4 r5 r6 r7 r8 r9 r10 r11 : Nat) (sl pl : List (Nat → Nat)) : ((q10, cw_rw C 14 (cw_refs pl)) : Nat × va_E) ∈ sx_TL C s0 s1 q1 q9 q10 q11 q12 q13 q14 q15 q16 q2 q3 r0 r1 r2 r3 r4 r5 r6 r7 r8 r9 r10 r11 sl pl := List.mem_append_left _ (List.mem_cons_of_mem _ (List.mem_append_left _ (List.mem_append_right _ (List.mem_cons_of_mem _ List.mem_cons_self))))
set_option maxRecDepth 100000 in
theorem sx_mem11 (C : sx_C) (s0 s1 : Nat → Nat) (q1 q9 q10 q11 q12 q13 q14 q15 q16 q2 q3 r0 r1 r2 r3 r4 r5 r6 r7 r8 r9 r10 r11 : Nat) (sl pl : List (Nat → Nat)) : ((q11, cw_rw C 2 (cw_refs sl)) : Nat × va_E) ∈ sx_TL C s0 s1 q1 q9 q10 q11 q12 q13 q14 q15 q16 q2 q3 r0 r1 r2 r3 r4 r5 r6 r7 r8 r9 r10 r11 sl pl := List.mem_append_left _ (List.mem_cons_of_mem _ (List.mem_append_right _ List.mem_cons_self))
set_option maxRecDepth 100000 in
theorem sx_mem12 (C : sx_C) (s0 s1 : Nat → Nat) (q1 q9 q10 q11 q12 q13 q14 q15 q16 q2 q3 r0 r1 r2 r3 r4 r5 r6 r7 r8 r9 r10 r11 : Nat) (sl pl : List (Nat → Nat)) : ((sx_adr C s0 s1 q1 q9 q10 q11 q12 q13 q14 q15 q16 q2 q3 r0 r1 r2 r3 r4 r5 r6 r7 r8 r9 r10 r11 sl pl 12 0, sx_E (sx_C1 C s0 s1 q1 q9 q10 q11 q12 q13 q14 q15 q16 q2 q3 r0 r1 r2 r3 r4 r5 r6 r7 r8 r9 r10 r11 sl pl) (fun _ => 0) (fun _ => 0) 0 12) : Nat × va_E) ∈ sx_TL C s0 s1 q1 q9 q10 q11 q12 q13 q14 q15 q16 q2 q3 r0 r1 r2 r3 r4 r5 r6 r7 r8 r9 r10 r11 sl pl := List.mem_append_left _ (List.mem_cons_of_mem _ (List.mem_append_right _ (List.mem_cons_of_mem _ (List.mem_append_right _ (List.mem_of_getElem? (i := 0) rfl)))))
set_option maxRecDepth 100000 in
theorem sx_mem13 (C : sx_C) (s0 s1 : Nat → Nat) (q1 q9 q10 q11 q12 q13 q14 q15 q16 q2 q3 r0 r1 r2 r3 r4 r5 r6 r7 r8 r9 r10 r11 : Nat) (sl pl : List (Nat → Nat)) : ((sx_adr C s0 s1 q1 q9 q10 q11 q12 q13 q14 q15 q16 q2 q3 r0 r1 r2 r3 r4 r5 r6 r7 r8 r9 r10 r11 sl pl 13 0, sx_E (sx_C1 C s0 s1 q1 q9 q10 q11 q12 q13 q14 q15 q16 q2 q3 r0 r1 r2 r3 r4 r5 r6 r7 r8 r9 r10 r11 sl pl) (fun _ => 0) (fun _ => 0) 0 13) : Nat × va_E) ∈ sx_TL C s0 s1 q1 q9 q10 q11 q12 q13 q14 q15 q16 q2 q3 r0 r1 r2 r3 r4 r5 r6 r7 r8 r9 r10 r11 sl pl := List.mem_append_left _ (List.mem_cons_of_mem _ (List.mem_append_right _ (List.mem_cons_of_mem _ (List.mem_append_right _ (List.mem_of_getElem? (i := 1) rfl)))))
set_option maxRecDepth 100000 in
theorem sx_mem14 (C : sx_C) (s0 s1 : Nat → Nat) (q1 q9 q10 q11 q12 q13 q14 q15 q16 q2 q3 r0 r1 r2 r3 r4 r5 r6 r7 r8 r9 r10 r11 : Nat) (sl pl : List (Nat → Nat)) : ((sx_adr C s0 s1 q1 q9 q10 q11 q12 q13 q14 q15 q16 q2 q3 r0 r1 r2 r3 r4 r5 r6 r7 r8 r9 r10 r11 sl pl 14 0, sx_E (sx_C1 C s0 s1 q1 q9 q10 q11 q12 q13 q14 q15 q16 q2 q3 r0 r1 r2 r3 r4 r5 r6 r7 r8 r9 r10 r11 sl pl) (fun _ => 0) (fun _ => 0) 0 14) : Nat × va_E) ∈ sx_TL C s0 s1 q1 q9 q10 q11 q12 q13 q14 q15 q16 q2 q3 r0 r1 r2 r3 r4 r5 r6 r7 r8 r9 r10 r11 sl pl := List.mem_append_left _ (List.mem_cons_of_mem _ (List.mem_append_right _ (List.mem_cons_of_mem _ (List.mem_append_right _ (List.mem_of_getElem? (i := 2) rfl)))))
set_option maxRecDepth 100000 in
theorem sx_mem15 (C : sx_C) (s0 s1 : Nat → Nat) (q1 q9 q10 q11 q12 q13 q14 q15 q16 q2 q3 r0 r1 r2 r3 r4 r5 r6 r7 r8 r9 r10 r11 : Nat) (sl pl : List (Nat → Nat)) : ((sx_adr C s0 s1 q1 q9 q10 q11 q12 q13 q14 q15 q16 q2 q3 r0 r1 r2 r3 r4 r5 r6 r7 r8 r9 r10 r11 sl pl 15 0, sx_E (sx_C1 C s0 s1 q1 q9 q10 q11 q12 q13 q14 q15 q16 q2 q3 r0 r1 r2 r3 r4 r5 r6 r7 r8 r9 r10 r11 sl pl) (fun _ => 0) (fun _ => 0) 0 15) : Nat × va_E) ∈ sx_TL C s0 s1 q1 q9 q10 q11 q12 q13 q14 q15 q16 q2 q3 r0 r1 r2 r3 r4 r5 r6 r7 r8 r9 r10 r11 sl pl := List.mem_append_left _ (List.mem_cons_of_mem _ (List.mem_append_right _ (List.mem_cons_of_mem _ (List.mem_append_right _ (List.mem_of_getElem? (i := 3) rfl)))))
set_option maxRecDepth 100000 in
theorem sx_mem16 (C : sx_C) (s0 s1 : Nat → Nat) (q1 q9 q10 q11 q12 q13 q14 q15 q16 q2 q3 r0 r1 r2 r3 r4 r5 r6 r7 r8 r9 r10 r11 : Nat) (sl pl : List (Nat → Nat)) : ((sx_adr C s0 s1 q1 q9 q10 q11 q12 q13 q14 q15 q16 q2 q3 r0 r1 r2 r3 r4 r5 r6 r7 r8 r9 r10 r11 sl pl 16 0, sx_E (sx_C1 C s0 s1 q1 q9 q10 q11 q12 q13 q14 q15 q16 q2 q3 r0 r1 r2 r3 r4 r5 r6 r7 r8 r9 r10 r11 sl pl) (fun _ => 0) (fun _ => 0) 0 16) : Nat × va_E) ∈ sx_TL C s0 s1 q1 q9 q10 q11 q12 q13 q14 q15 q16 q2 q3 r0 r1 r2 r3 r4 r5 r6 r7 r8 r9 r10 r11 sl pl := List.mem_append_left _ (List.mem_cons_of_mem _ (List.mem_append_right _ (List.mem_cons_of_mem _ (List.mem_append_right _ (List.mem_of_getElem? (i := 4) rfl)))))
set_option maxRecDepth 100000 in
theorem sx_mem17 (C : sx_C) (s0 s1 : Nat → Nat) (q1 q9 q10 q11 q12 q13 q14 q15 q16 q2 q3 r0 r1 r2 r3 r4 r5 r6 r7 r8 r9 r10 r11 : Nat) (sl pl : List (Nat → Nat)) : ((sx_adr C s0 s1 q1 q9 q10 q11 q12 q13 q14 q15 q16 q2 q3 r0 r1 r2 r3 r4 r5 r6 r7 r8 r9 r10 r11 sl pl 17 0, sx_E (sx_C1 C s0 s1 q1 q9 q10 q11 q12 q13 q14 q15 q16 q2 q3 r0 r1 r2 r3 r4 r5 r6 r7 r8 r9 r10 r11 sl pl) (fun _ => 0) (fun _ => 0) 0 17) : Nat × va_E) ∈ sx_TL C s0 s1 q1 q9 q10 q11 q12 q13 q14 q15 q16 q2 q3 r0 r1 r2 r3 r4 r5 r6 r7 r8 r9 r10 r11 sl pl := List.mem_append_right _ (List.mem_of_getElem? (i := 0) rfl)
set_option maxRecDepth 100000 in
theorem sx_mem18 (C : sx_C) (s0 s1 : Nat → Nat) (q1 q9 q10 q11 q12 q13 q14 q15 q16 q2 q3 r0 r1 r2 r3 r4 r5 r6 r7 r8 r9 r10 r11 : Nat) (sl pl : List (Nat → Nat)) : ((sx_adr C s0 s1 q1 q9 q10 q11 q12 q13 q14 q15 q16 q2 q3 r0 r1 r2 r3 r4 r5 r6 r7 r8 r9 r10 r11 sl pl 18 0, sx_E (sx_C1 C s0 s1 q1 q9 q10 q11 q12 q13 q14 q15 q16 q2 q3 r0 r1 r2 r3 r4 r5 r6 r7 r8 r9 r10 r11 sl pl) (fun _ => 0) (fun _ => 0) 0 18) : Nat × va_E) ∈ sx_TL C s0 s1 q1 q9 q10 q11 q12 q13 q14 q15 q16 q2 q3 r0 r1 r2 r3 r4 r5 r6 r7 r8 r9 r10 r11 sl pl := List.mem_append_right _ (List.mem_of_getElem? (i := 1) rfl)
set_option maxRecDepth 100000 in
theorem sx_mem19 (C : sx_C) (s0 s1 : Nat → Nat) (q1 q9 q10 q11 q12 q13 q14 q15 q16 q2 q3 r0 r1 r2 r3 r4 r5 r6 r7 r8 r9 r10 r11 : Nat) (sl pl : List (Nat → Nat)) : ((sx_adr C s0 s1 q1 q9 q10 q11 q12 q13 q14 q15 q16 q2 q3 r0 r1 r2 r3 r4 r5 r6 r7 r8 r9 r10 r11 sl pl 19 0, sx_E (sx_C1 C s0 s1 q1 q9 q10 q11 q12 q13 q14 q15 q16 q2 q3 r0 r1 r2 r3 r4 r5 r6 r7 r8 r9 r10 r11 sl pl) (fun _ => 0) (fun _ => 0) 0 19) : Nat × va_E) ∈ sx_TL C s0 s1 q1 q9 q10 q11 q12 q13 q14 q15 q16 q2 q3 r0 r1 r2 r3 r4 r5 r6 r7 r8 r9 r10 r11 sl pl := List.mem_append_right _ (List.mem_of_getElem? (i := 2) rfl)
set_option maxRecDepth 100000 in
theorem sx_mem20 (C : sx_C) (s0 s1 : Nat → Nat) (q1 q9 q10 q11 q12 q13 q14 q15 q16 q2 q3 r0 r1 r2 r3 r4 r5 r6 r7 r8 r9 r10 r11 : Nat) (sl pl : List (Nat → Nat)) : ((sx_adr C s0 s1 q1 q9 q10 q11 q12 q13 q14 q15 q16 q2 q3 r0 r1 r2 r3 r4 r5 r6 r7 r8 r9 r10 r11 sl pl 20 0, sx_E (sx_C1 C s0 s1 q1 q9 q10 q11 q12 q13 q14 q15 q16 q2 q3 r0 r1 r2 r3 r4 r5 r6 r7 r8 r9 r10 r11 sl pl) (fun _ => 0) (fun _ => 0) 0 20) : Nat × va_E) ∈ sx_TL C s0 s1 q1 q9 q10 q11 q12 q13 q14 q15 q16 q2 q3 r0 r1 r2 r3 r4 r5 r6 r7 r8 r9 r10 r11 sl pl := List.mem_append_right _ (List.mem_of_getElem? (i := 3) rfl)
set_option maxRecDepth 100000 in
theorem sx_mem21 (C : sx_C) (s0 s1 : Nat → Nat) (q1 q9 q10 q11 q12 q13 q14 q15 q16 q2 q3 r0 r1 r2 r3 r4 r5 r6 r7 r8 r9 r10 r11 : Nat) (sl pl : List (Nat → Nat)) : ((sx_adr C s0 s1 q1 q9 q10 q11 q12 q13 q14 q15 q16 q2 q3 r0 r1 r2 r3 r4 r5 r6 r7 r8 r9 r10 r11 sl pl 21 0, sx_E (sx_C1 C s0 s1 q1 q9 q10 q11 q12 q13 q14 q15 q16 q2 q3 r0 r1 r2 r3 r4 r5 r6 r7 r8 r9 r10 r11 sl pl) (fun _ => 0) (fun _ => 0) 0 21) : Nat × va_E) ∈ sx_TL C s0 s1 q1 q9 q10 q11 q12 q13 q14 q15 q16 q2 q3 r0 r1 r2 r3 r4 r5 r6 r7 r8 r9 r10 r11 sl pl := List.mem_append_right _ (List.mem_of_getElem? (i := 4) rfl)
set_option maxRecDepth 100000 in
theorem sx_mem22 (C : sx_C) (s0 s1 : Nat → Nat) (q1 q9 q10 q11 q12 q13 q14 q15 q16 q2 q3 r0 r1 r2 r3 r4 r5 r6 r7 r8 r9 r10 r11 : Nat) (sl pl : List (Nat → Nat)) : ((sx_adr C s0 s1 q1 q9 q10 q11 q12 q13 q14 q15 q16 q2 q3 r0 r1 r2 r3 r4 r5 r6 r7 r8 r9 r10 r11 sl pl 22 0, sx_E (sx_C1 C s0 s1 q1 q9 q10 q11 q12 q13 q14 q15 q16 q2 q3 r0 r1 r2 r3 r4 r5 r6 r7 r8 r9 r10 r11 sl pl) (fun _ => 0) (fun _ => 0) 0 22) : Nat × va_E) ∈ sx_TL C s0 s1 q1 q9 q10 q11 q12 q13 q14 q15 q16 q2 q3 r0 r1 r2 r3 r4 r5 r6 r7 r8 r9 r10 r11 sl pl := List.mem_append_right _ (List.mem_of_getElem? (i := 5) rfl)
set_option maxRecDepth 100000 in
theorem sx_mem23 (C : sx_C) (s0 s1 : Nat → Nat) (q1 q9 q10 q11 q12 q13 q14 q15 q16 q2 q3 r0 r1 r2 r3 r4 r5 r6 r7 r8 r9 r10 r11 : Nat) (sl pl : List (Nat → Nat)) : ((sx_adr C s0 s1 q1 q9 q10 q11 q12 q13 q14 q15 q16 q2 q3 r0 r1 r2 r3 r4 r5 r6 r7 r8 r9 r10 r11 sl pl 23 0, sx_E (sx_C1 C s0 s1 q1 q9 q10 q11 q12 q13 q14 q15 q16 q2 q3 r0 r1 r2 r3 r4 r5 r6 r7 r8 r9 r10 r11 sl pl) (fun _ => 0) (fun _ => 0) 0 23) : Nat × va_E) ∈ sx_TL C s0 s1 q1 q9 q10 q11 q12 q13 q14 q15 q16 q2 q3 r0 r1 r2 r3 r4 r5 r6 r7 r8 r9 r10 r11 sl pl := List.mem_append_right _ (List.mem_of_getElem? (i := 6) rfl)
set_option maxRecDepth 100000 in
theorem sx_mem24 (C : sx_C) (s0 s1 : Nat → Nat) (q1 q9 q10 q11 q12 q13 q14 q15 q16 q2 q3 r0 r1 r2 r3 r4 r5 r6 r7 r8 r9 r10 r11 : Nat) (sl pl : List (Nat → Nat)) : ((sx_adr C s0 s1 q1 q9 q10 q11 q12 q13 q14 q15 q16 q2 q3 r0 r1 r2 r3 r4 r5 r6 r7 r8 r9 r10 r11 sl pl 24 0, sx_E (sx_C1 C s0 s1 q1 q9 q10 q11 q12 q13 q14 q15 q16 q2 q3 r0 r1 r2 r3 r4 r5 r6 r7 r8 r9 r10 r11 sl pl) (fun _ => 0) (fun _ => 0) 0 24) : Nat × va_E) ∈ sx_TL C s0 s1 q1 q9 q10 q11 q12 q13 q14 q15 q16 q2 q3 r0 r1 r2 r3 r4 r5 r6 r7 r8 r9 r10 r11 sl pl := List.mem_append_right _ (List.mem_of_getElem? (i := 7) rfl)
set_option maxRecDepth 100000 in
theorem sx_mem25 (C : sx_C) (s0 s1 : Nat → Nat) (q1 q9 q10 q11 q12 q13 q14 q15 q16 q2 q3 r0 r1 r2 r3 r4 r5 r6 r7 r8 r9 r10 r11 : Nat) (sl pl : List (Nat → Nat)) : ((sx_adr C s0 s1 q1 q9 q10 q11 q12 q13 q14 q15 q16 q2 q3 r0 r1 r2 r3 r4 r5 r6 r7 r8 r9 r10 r11 sl pl 25 0, sx_E (sx_C1 C s0 s1 q1 q9 q10 q11 q12 q13 q14 q15 q16 q2 q3 r0 r1 r2 r3 r4 r5 r6 r7 r8 r9 r10 r11 sl pl) (fun _ => 0) (fun _ => 0) 0 25) : Nat × va_E) ∈ sx_TL C s0 s1 q1 q9 q10 q11 q12 q13 q14 q15 q16 q2 q3 r0 r1 r2 r3 r4 r5 r6 r7 r8 r9 r10 r11 sl pl := List.mem_append_right _ (List.mem_of_getElem? (i := 8) rfl)
set_option maxRecDepth 100000 in
theorem sx_mem26 (C : sx_C) (s0 s1 : Nat → Nat) (q1 q9 q10 q11 q12 q13 q14 q15 q16 q2 q3 r0 r1 r2 r3 r4 r5 r6 r7 r8 r9 r10 r11 : Nat) (sl pl : List (Nat → Nat)) : ((sx_adr C s0 s1 q1 q9 q10 q11 q12 q13 q14 q15 q16 q2 q3 r0 r1 r2 r3 r4 r5 r6 r7 r8 r9 r10 r11 sl pl 26 0, sx_E (sx_C1 C s0 s1 q1 q9 q10 q11 q12 q13 q14 q15 q16 q2 q3 r0 r1 r2 r3 r4 r5 r6 r7 r8 r9 r10 r11 sl pl) (fun _ => 0) (fun _ => 0) 0 26) : Nat × va_E) ∈ sx_TL C s0 s1 q1 q9 q10 q11 q12 q13 q14 q15 q16 q2 q3 r0 r1 r2 r3 r4 r5 r6 r7 r8 r9 r10 r11 sl pl := List.mem_append_right _ (List.mem_of_getElem? (i := 9) rfl)
set_option maxRecDepth 100000 in
theorem sx_mem27 (C : sx_C) (s0 s1 : Nat → Nat) (q1 q9 q10 q11 q12 q13 q14 q15 q16 q2 q3 r0 r1 r2 r3 r4 r5 r6 r7 r8 r9 r10 r11 : Nat) (sl pl : List (Nat → Nat)) : ((sx_adr C s0 s1 q1 q9 q10 q11 q12 q13 q14 q15 q16 q2 q3 r0 r1 r2 r3 r4 r5 r6 r7 r8 r9 r10 r11 sl pl 27 0, sx_E (sx_C1 C s0 s1 q1 q9 q10 q11 q12 q13 q14 q15 q16 q2 q3 r0 r1 r2 r3 r4 r5 r6 r7 r8 r9 r10 r11 sl pl) (fun _ => 0) (fun _ => 0) 0 27) : Nat × va_E) ∈ sx_TL C s0 s1 q1 q9 q10 q11 q12 q13 q14 q15 q16 q2 q3 r0 r1 r2 r3 r4 r5 r6 r7 r8 r9 r10 r11 sl pl := List.mem_append_right _ (List.mem_of_getElem? (i := 10) rfl)
set_option maxRecDepth 100000 in
theorem sx_mem28 (C : sx_C) (s0 s1 : Nat → Nat) (q1 q9 q10 q11 q12 q13 q14 q15 q16 q2 q3 r0 r1 r2 r3 r4 r5 r6 r7 r8 r9 r10 r11 : Nat) (sl pl : List (Nat → Nat)) : ((sx_adr C s0 s1 q1 q9 q10 q11 q12 q13 q14 q15 q16 q2 q3 r0 r1 r2 r3 r4 r5 r6 r7 r8 r9 r10 r11 sl pl 28 0, sx_E (sx_C1 C s0 s1 q1 q9 q10 q11 q12 q13 q14 q15 q16 q2 q3 r0 r1 r2 r3 r4 r5 r6 r7 r8 r9 r10 r11 sl pl) (fun _ => 0) (fun _ => 0) 0 28) : Nat × va_E) ∈ sx_TL C s0 s1 q1 q9 q10 q11 q12 q13 q14 q15 q16 q2 q3 r0 r1 r2 r3 r4 r5 r6 r7 r8 r9 r10 r11 sl pl := List.mem_append_right _ (List.mem_of_getElem? (i := 11) rfl)
set_option maxRecDepth 100000 in
theorem sx_mem29 (C : sx_C) (s0 s1 : Nat → Nat) (q1 q9 q10 q11 q12 q13 q14 q15 q16 q2 q3 r0 r1 r2 r3 r4 r5 r6 r7 r8 r9 r10 r11 : Nat) (sl pl : List (Nat → Nat)) : ((sx_adr C s0 s1 q1 q9 q10 q11 q12 q13 q14 q15 q16 q2 q3 r0 r1 r2 r3 r4 r5 r6 r7 r8 r9 r10 r11 sl pl 29 0, sx_E (sx_C1 C s0 s1 q1 q9 q10 q11 q12 q13 q14 q15 q16 q2 q3 r0 r1 r2 r3 r4 r5 r6 r7 r8 r9 r10 r11 sl pl) (fun _ => 0) (fun _ => 0) 0 29) : Nat × va_E) ∈ sx_TL C s0 s1 q1 q9 q10 q11 q12 q13 q14 q15 q16 q2 q3 r0 r1 r2 r3 r4 r5 r6 r7 r8 r9 r10 r11 sl pl := List.mem_append_right _ (List.mem_of_getElem? (i := 12) rfl)
set_option maxRecDepth 100000 in
theorem sx_mem30 (C : sx_C) (s0 s1 : Nat → Nat) (q1 q9 q10 q11 q12 q13 q14 q15 q16 q2 q3 r0 r1 r2 r3 r4 r5 r6 r7 r8 r9 r10 r11 : Nat) (sl pl : List (Nat → Nat)) : ((sx_adr C s0 s1 q1 q9 q10 q11 q12 q13 q14 q15 q16 q2 q3 r0 r1 r2 r3 r4 r5 r6 r7 r8 r9 r10 r11 sl pl 30 0, sx_E (sx_C1 C s0 s1 q1 q9 q10 q11 q12 q13 q14 q15 q16 q2 q3 r0 r1 r2 r3 r4 r5 r6 r7 r8 r9 r10 r11 sl pl) (fun _ => 0) (fun _ => 0) 0 30) : Nat × va_E) ∈ sx_TL C s0 s1 q1 q9 q10 q11 q12 q13 q14 q15 q16 q2 q3 r0 r1 r2 r3 r4 r5 r6 r7 r8 r9 r10 r11 sl pl := List.mem_append_right _ (List.mem_of_getElem? (i := 13) rfl)
theorem sx_ref10 (C : sx_C) (s0 s1 : Nat → Nat) (q1 q9 q10 q11 q12 q13 q14 q15 q16 q2 q3 r0 r1 r2 r3 r4 r5 r6 r7 r8 r9 r10 r11 : Nat) (sl pl : List (Nat → Nat)) (h1 : sl.length = 2) (h2 : pl.length = 14) {j : Nat} (hj : j < 14) : cw_refs pl j = some (sx_adr C s0 s1 q1 q9 q10 q11 q12 q13 q14 q15 q16 q2 q3 r0 r1 r2 r3 r4 r5 r6 r7 r8 r9 r10 r11 sl pl 1 (4 + j)) := by
  show (pl[j]?).map (fun q => q 1) = some ((s0 :: s1 :: (sl ++ pl)).getD (4 + j) s0 1)
  have hj2 : j < pl.length := by omega
  rw [List.getElem?_eq_getElem hj2, List.getD_eq_getElem?_getD, show 4 + j = (2 + j) + 1 + 1 by omega, List.getElem?_cons_succ, List.getElem?_cons_succ, List.getElem?_append_right (by omega), show 2 + j - sl.length = j by omega, List.getElem?_eq_getElem hj2]
  rfl
theorem sx_ref11 (C : sx_C) (s0 s1 : Nat → Nat) (q1 q9 q10 q11 q12 q13 q14 q15 q16 q2 q3 r0 r1 r2 r3 r4 r5 r6 r7 r8 r9 r10 r11 : Nat) (sl pl : List (Nat → Nat)) (h1 : sl.length = 2) (h2 : pl.length = 14) {j : Nat} (hj : j < 2) : cw_refs sl j = some (sx_adr C s0 s1 q1 q9 q10 q11 q12 q13 q14 q15 q16 q2 q3 r0 r1 r2 r3 r4 r5 r6 r7 r8 r9 r10 r11 sl pl 1 (2 + j)) := by
  show (sl[j]?).map (fun q => q 1) = some ((s0 :: s1 :: (sl ++ pl)).getD (2 + j) s0 1)
  have hj2 : j < sl.length := by omega
  rw [List.getElem?_eq_getElem hj2, List.getD_eq_getElem?_getD, show 2 + j = j + 1 + 1 by omega, List.getElem?_cons_succ, List.getElem?_cons_succ, List.getElem?_append_left hj2, List.getElem?_eq_getElem hj2]
  rfl
set_option maxRecDepth 100000 in
theorem sx_made (C : sx_C) (s0 s1 : Nat → Nat) (q1 q9 q10 q11 q12 q13 q14 q15 q16 q2 q3 r0 r1 r2 r3 r4 r5 r6 r7 r8 r9 r10 r11 : Nat) (sl pl : List (Nat → Nat)) {w : cw_F} {H : Heap} (h1 : sl.length = 2) (h2 : pl.length = 14) (hw : cw_W C w H) (A : cw_add (fun _ => none) w (sx_TL C s0 s1 q1 q9 q10 q11 q12 q13 q14 q15 q16 q2 q3 r0 r1 r2 r3 r4 r5 r6 r7 r8 r9 r10 r11 sl pl)) : sx_W (sx_C1 C s0 s1 q1 q9 q10 q11 q12 q13 q14 q15 q16 q2 q3 r0 r1 r2 r3 r4 r5 r6 r7 r8 r9 r10 r11 sl pl) (fun _ _ _ => 0, fun _ _ _ => 0) H ∧ sx_G (sx_C1 C s0 s1 q1 q9 q10 q11 q12 q13 q14 q15 q16 q2 q3 r0 r1 r2 r3 r4 r5 r6 r7 r8 r9 r10 r11 sl pl) := by
  have hat : ∀ x ∈ sx_TL C s0 s1 q1 q9 q10 q11 q12 q13 q14 q15 q16 q2 q3 r0 r1 r2 r3 r4 r5 r6 r7 r8 r9 r10 r11 sl pl, va_at (sx_D C) vwCl x H ∧ sx_sz C ≤ x.1 := fun x hx => ⟨(hw _ _ (A.1 x hx).1).2, (hw _ _ (A.1 x hx).1).1⟩
  have hkey := sx_TL_keys C s0 s1 q1 q9 q10 q11 q12 q13 q14 q15 q16 q2 q3 r0 r1 r2 r3 r4 r5 r6 r7 r8 r9 r10 r11 sl pl h1 h2
  have hnod : (sx_KS.map (fun q => sx_adr C s0 s1 q1 q9 q10 q11 q12 q13 q14 q15 q16 q2 q3 r0 r1 r2 r3 r4 r5 r6 r7 r8 r9 r10 r11 sl pl q.1 q.2)).Nodup := hkey ▸ A.2.1
  have hsub : ∀ n, n < 18 → cw_shed C ((s0 :: s1 :: (sl ++ pl)).getD n s0) ⊆ sx_TL C s0 s1 q1 q9 q10 q11 q12 q13 q14 q15 q16 q2 q3 r0 r1 r2 r3 r4 r5 r6 r7 r8 r9 r10 r11 sl pl := by
    match sl, h1, pl, h2 with
    | [_, _], _, [_, _, _, _, _, _, _, _, _, _, _, _, _, _], _ =>
      intro n hn
      have hall : ∀ n, n < 18 → True := fun _ _ => trivial
      match n, hn with

      | 0, _ => exact sx_sub_of (pre := 1) rfl
      | 1, _ => exact sx_sub_of (pre := 9) rfl
      | 2, _ => exact sx_sub_of (pre := 132) rfl
      | 3, _ => exact sx_sub_of (pre := 140) rfl
      | 4, _ => exact sx_sub_of (pre := 19) rfl
      | 5, _ => exact sx_sub_of (pre := 27) rfl
      | 6, _ => exact sx_sub_of (pre := 35) rfl
      | 7, _ => exact sx_sub_of (pre := 43) rfl
      | 8, _ => exact sx_sub_of (pre := 51) rfl
      | 9, _ => exact sx_sub_of (pre := 59) rfl
      | 10, _ => exact sx_sub_of (pre := 67) rfl
      | 11, _ => exact sx_sub_of (pre := 75) rfl
      | 12, _ => exact sx_sub_of (pre := 83) rfl
      | 13, _ => exact sx_sub_of (pre := 91) rfl
      | 14, _ => exact sx_sub_of (pre := 99) rfl
      | 15, _ => exact sx_sub_of (pre := 107) rfl
      | 16, _ => exact sx_sub_of (pre := 115) rfl
      | 17, _ => exact sx_sub_of (pre := 123) rfl
      | n + 18, hn => exact absurd hn (by omega)
  refine ⟨?_, ?_, ?_⟩
  · intro k s hks
    by_cases hk : k < 31
    · have hs : s < 18 := Nat.lt_of_lt_of_le hks (sx_cnt_le hk)
      match k, hk, hks with
      | 0, _, hks => exact (hat _ (sx_mem0 C s0 s1 q1 q9 q10 q11 q12 q13 q14 q15 q16 q2 q3 r0 r1 r2 r3 r4 r5 r6 r7 r8 r9 r10 r11 sl pl)).1
      | 1, _, hks => exact (hat _ (hsub s hs (List.mem_of_getElem? (i := 0) rfl))).1
      | 2, _, hks => exact (hat _ (hsub s hs (List.mem_of_getElem? (i := 1) rfl))).1
      | 3, _, hks => exact (hat _ (hsub s hs (List.mem_of_getElem? (i := 2) rfl))).1
      | 4, _, hks => exact (hat _ (hsub s hs (List.mem_of_getElem? (i := 3) rfl))).1
      | 5, _, hks => exact (hat _ (hsub s hs (List.mem_of_getElem? (i := 4) rfl))).1
      | 6, _, hks => exact (hat _ (hsub s hs (List.mem_of_getElem? (i := 5) rfl))).1
      | 7, _, hks => exact (hat _ (hsub s hs (List.mem_of_getElem? (i := 6) rfl))).1
      | 8, _, hks => exact (hat _ (hsub s hs (List.mem_of_getElem? (i := 7) rfl))).1
      | 9, _, hks => exact (hat _ (sx_mem9 C s0 s1 q1 q9 q10 q11 q12 q13 q14 q15 q16 q2 q3 r0 r1 r2 r3 r4 r5 r6 r7 r8 r9 r10 r11 sl pl)).1
      | 10, _, hks => exact va_at_q (hat (q10, cw_rw C 14 (cw_refs pl)) (sx_mem10 C s0 s1 q1 q9 q10 q11 q12 q13 q14 q15 q16 q2 q3 r0 r1 r2 r3 r4 r5 r6 r7 r8 r9 r10 r11 sl pl)).1 (fun j hj => sx_ref10 C s0 s1 q1 q9 q10 q11 q12 q13 q14 q15 q16 q2 q3 r0 r1 r2 r3 r4 r5 r6 r7 r8 r9 r10 r11 sl pl h1 h2 hj)
      | 11, _, hks => exact va_at_q (hat (q11, cw_rw C 2 (cw_refs sl)) (sx_mem11 C s0 s1 q1 q9 q10 q11 q12 q13 q14 q15 q16 q2 q3 r0 r1 r2 r3 r4 r5 r6 r7 r8 r9 r10 r11 sl pl)).1 (fun j hj => sx_ref11 C s0 s1 q1 q9 q10 q11 q12 q13 q14 q15 q16 q2 q3 r0 r1 r2 r3 r4 r5 r6 r7 r8 r9 r10 r11 sl pl h1 h2 hj)
      | 12, _, hks => exact (hat _ (sx_mem12 C s0 s1 q1 q9 q10 q11 q12 q13 q14 q15 q16 q2 q3 r0 r1 r2 r3 r4 r5 r6 r7 r8 r9 r10 r11 sl pl)).1
      | 13, _, hks => exact (hat _ (sx_mem13 C s0 s1 q1 q9 q10 q11 q12 q13 q14 q15 q16 q2 q3 r0 r1 r2 r3 r4 r5 r6 r7 r8 r9 r10 r11 sl pl)).1
      | 14, _, hks => exact (hat _ (sx_mem14 C s0 s1 q1 q9 q10 q11 q12 q13 q14 q15 q16 q2 q3 r0 r1 r2 r3 r4 r5 r6 r7 r8 r9 r10 r11 sl pl)).1
      | 15, _, hks => exact (hat _ (sx_mem15 C s0 s1 q1 q9 q10 q11 q12 q13 q14 q15 q16 q2 q3 r0 r1 r2 r3 r4 r5 r6 r7 r8 r9 r10 r11 sl pl)).1
      | 16, _, hks => exact (hat _ (sx_mem16 C s0 s1 q1 q9 q10 q11 q12 q13 q14 q15 q16 q2 q3 r0 r1 r2 r3 r4 r5 r6 r7 r8 r9 r10 r11 sl pl)).1
      | 17, _, hks => exact (hat _ (sx_mem17 C s0 s1 q1 q9 q10 q11 q12 q13 q14 q15 q16 q2 q3 r0 r1 r2 r3 r4 r5 r6 r7 r8 r9 r10 r11 sl pl)).1
      | 18, _, hks => exact (hat _ (sx_mem18 C s0 s1 q1 q9 q10 q11 q12 q13 q14 q15 q16 q2 q3 r0 r1 r2 r3 r4 r5 r6 r7 r8 r9 r10 r11 sl pl)).1
      | 19, _, hks => exact (hat _ (sx_mem19 C s0 s1 q1 q9 q10 q11 q12 q13 q14 q15 q16 q2 q3 r0 r1 r2 r3 r4 r5 r6 r7 r8 r9 r10 r11 sl pl)).1
      | 20, _, hks => exact (hat _ (sx_mem20 C s0 s1 q1 q9 q10 q11 q12 q13 q14 q15 q16 q2 q3 r0 r1 r2 r3 r4 r5 r6 r7 r8 r9 r10 r11 sl pl)).1
      | 21, _, hks => exact (hat _ (sx_mem21 C s0 s1 q1 q9 q10 q11 q12 q13 q14 q15 q16 q2 q3 r0 r1 r2 r3 r4 r5 r6 r7 r8 r9 r10 r11 sl pl)).1
      | 22, _, hks => exact (hat _ (sx_mem22 C s0 s1 q1 q9 q10 q11 q12 q13 q14 q15 q16 q2 q3 r0 r1 r2 r3 r4 r5 r6 r7 r8 r9 r10 r11 sl pl)).1
      | 23, _, hks => exact (hat _ (sx_mem23 C s0 s1 q1 q9 q10 q11 q12 q13 q14 q15 q16 q2 q3 r0 r1 r2 r3 r4 r5 r6 r7 r8 r9 r10 r11 sl pl)).1
      | 24, _, hks => exact (hat _ (sx_mem24 C s0 s1 q1 q9 q10 q11 q12 q13 q14 q15 q16 q2 q3 r0 r1 r2 r3 r4 r5 r6 r7 r8 r9 r10 r11 sl pl)).1
      | 25, _, hks => exact (hat _ (sx_mem25 C s0 s1 q1 q9 q10 q11 q12 q13 q14 q15 q16 q2 q3 r0 r1 r2 r3 r4 r5 r6 r7 r8 r9 r10 r11 sl pl)).1
      | 26, _, hks => exact (hat _ (sx_mem26 C s0 s1 q1 q9 q10 q11 q12 q13 q14 q15 q16 q2 q3 r0 r1 r2 r3 r4 r5 r6 r7 r8 r9 r10 r11 sl pl)).1
      | 27, _, hks => exact (hat _ (sx_mem27 C s0 s1 q1 q9 q10 q11 q12 q13 q14 q15 q16 q2 q3 r0 r1 r2 r3 r4 r5 r6 r7 r8 r9 r10 r11 sl pl)).1
      | 28, _, hks => exact (hat _ (sx_mem28 C s0 s1 q1 q9 q10 q11 q12 q13 q14 q15 q16 q2 q3 r0 r1 r2 r3 r4 r5 r6 r7 r8 r9 r10 r11 sl pl)).1
      | 29, _, hks => exact (hat _ (sx_mem29 C s0 s1 q1 q9 q10 q11 q12 q13 q14 q15 q16 q2 q3 r0 r1 r2 r3 r4 r5 r6 r7 r8 r9 r10 r11 sl pl)).1
      | 30, _, hks => exact (hat _ (sx_mem30 C s0 s1 q1 q9 q10 q11 q12 q13 q14 q15 q16 q2 q3 r0 r1 r2 r3 r4 r5 r6 r7 r8 r9 r10 r11 sl pl)).1
      | k + 31, hk, _ => exact absurd hk (by omega)
    · rw [sx_cnt_out hk] at hks
      exact absurd hks (Nat.not_lt_zero _)
  · intro k s k' s' hks hks' he
    have b1 : k < 31 := Decidable.byContradiction fun h => by rw [sx_cnt_out h] at hks; exact absurd hks (Nat.not_lt_zero _)
    have b2 : k' < 31 := Decidable.byContradiction fun h => by rw [sx_cnt_out h] at hks'; exact absurd hks' (Nat.not_lt_zero _)
    have m1 := sx_KS_all k b1 s (Nat.lt_of_lt_of_le hks (sx_cnt_le b1)) hks
    have m2 := sx_KS_all k' b2 s' (Nat.lt_of_lt_of_le hks' (sx_cnt_le b2)) hks'
    have hq := sx_inj_of hnod _ m1 _ m2 he
    exact ⟨congrArg Prod.fst hq, congrArg Prod.snd hq⟩
  · intro k s hks
    have b1 : k < 31 := Decidable.byContradiction fun h => by rw [sx_cnt_out h] at hks; exact absurd hks (Nat.not_lt_zero _)
    have m1 := sx_KS_all k b1 s (Nat.lt_of_lt_of_le hks (sx_cnt_le b1)) hks
    have m2 : sx_adr C s0 s1 q1 q9 q10 q11 q12 q13 q14 q15 q16 q2 q3 r0 r1 r2 r3 r4 r5 r6 r7 r8 r9 r10 r11 sl pl k s ∈ (sx_TL C s0 s1 q1 q9 q10 q11 q12 q13 q14 q15 q16 q2 q3 r0 r1 r2 r3 r4 r5 r6 r7 r8 r9 r10 r11 sl pl).map Prod.fst := hkey ▸ List.mem_map.mpr ⟨(k, s), m1, rfl⟩
    obtain ⟨x, hx, hxe⟩ := List.mem_map.mp m2
    exact Nat.le_trans (hat x hx).2 (Nat.le_of_eq hxe)
set_option maxRecDepth 100000 in
set_option maxHeartbeats 4000000 in
theorem wk_begin {p : Program} {e : Env} {s : State} {m : MethodId} {below : List Frame} {meth : Method} {c : Code} (l : Launch) (hflags : l.flags = flags0) {b L : Nat} {xs : Nat → Int32} (hL : L ≤ 2048) (C0 : lw_At p s m meth c b L xs) (hp0 : fL_law_L23 L xs 5000 0 (fun _ _ _ => 0, fun _ _ _ => 0) = some 1) : W p l e room_1 s m #[Value.ref b] below meth c s.heap [] 0 0 (lw_Z below #[Value.ref b] s) (entryFrame m ([Value.ref b] : List Value).toArray 7) := by
  obtain ⟨hx, hb, hr, hml, hown, hts, hX, hbl, hlocks, hgv⟩ := C0
  obtain ⟨C, hsz, hK, hO, hT, hcJ⟩ := sx_known hts hgv
  have hst : l.stackTraces = false := by
    unfold Launch.stackTraces
    rw [hflags]
    decide +kernel
  have X : sx_X C p m c cL_law 7 s #[Value.ref b] RL := ⟨hx, hb, hml, hown, fun w hw => hts w (sx_T_tbl w hw), hK⟩
  have hz : sx_sz C ≤ s.heap.size := Nat.le_of_eq hsz
  have hw : cw_W C (fun _ => none) s.heap := fun a e h => by cases h
  have hS : va_S (sx_A C) s.heap s.heap [] := va_S.rf
  have hl := lv_entry ([.ref b]) (n := 7) (Nat.le_of_ble_eq_true rfl)
  rw [lg_entry_eq]
  generalize (lg_sl ([.ref b]) ++ List.replicate (7 - (lg_sl ([.ref b])).length) Slot.unset).toArray = ls at hl ⊢
  have hl : lv_has ls 7 [(0, .ref b)] := hl
  refine cw_new (ci := 6) (fs := [.null, .null, .null, .null, .null, .null, .null]) X hz hw hS rfl inX7 tyX7 tyX7_ok tw_81 tw_82 tw_64 (fun j hj => by rcases (show j = 0 ∨ j = 1 ∨ j = 2 ∨ j = 3 ∨ j = 4 ∨ j = 5 ∨ j = 6 by omega) with rfl | rfl | rfl | rfl | rfl | rfl | rfl <;> rfl) (Nat.le_of_ble_eq_true rfl) (Nat.le_of_ble_eq_true rfl) dL_law_0 (fun q1 w1 H n_q1 k_q1 o_q1 hw hS => ?_)
  refine lv_dup hx hb dL_law_3 rfl ?_
  refine cw_callI X hO hz hw hS tw_83 tw_64 tw_84 tw_85 rfl (by decide +kernel) rfl rfl ⟨Nat.le_of_ble_eq_true rfl, Nat.le_of_ble_eq_true rfl⟩ (ci_X7 l C w1 q1 k_q1) (Nat.le_of_ble_eq_true rfl) hl.1 dL_law_4 ⟨Nat.le_of_ble_eq_true rfl, Nat.le_of_ble_eq_true rfl⟩ (fun w2 H locs hw hp hS => ?_)
  obtain ⟨s0, s1, q9, q10, q11, q12, q13, q14, q15, q16, sl, pl, h1, h2, hp⟩ := hp
  have A1 := ca_obj n_q1 k_q1 o_q1 hp
  refine lv_astore_n (lv' := [(1, .ref q1), (0, .ref b)]) hx hb dL_law_7 rfl hl (by decide) rfl (fun ls hl => ?_)
  refine cw_new (ci := 7) (fs := [.int 0, .null, .int 0, .int 0, .int 0, .int 0, .null, .null, .null, .null, .int 0, .null, .null, .null, .null, .null, .null, .null]) X hz hw hS rfl inX8 tyX8 tyX8_ok tw_965 tw_966 tw_71 (fun j hj => by rcases (show j = 0 ∨ j = 1 ∨ j = 2 ∨ j = 3 ∨ j = 4 ∨ j = 5 ∨ j = 6 ∨ j = 7 ∨ j = 8 ∨ j = 9 ∨ j = 10 ∨ j = 11 ∨ j = 12 ∨ j = 13 ∨ j = 14 ∨ j = 15 ∨ j = 16 ∨ j = 17 by omega) with rfl | rfl | rfl | rfl | rfl | rfl | rfl | rfl | rfl | rfl | rfl | rfl | rfl | rfl | rfl | rfl | rfl | rfl <;> rfl) (Nat.le_of_ble_eq_true rfl) (Nat.le_of_ble_eq_true rfl) dL_law_8 (fun q2 w3 H n_q2 k_q2 o_q2 hw hS => ?_)
  refine lv_dup hx hb dL_law_11 rfl ?_
  refine cw_callI X hO hz hw hS tw_967 tw_71 tw_968 tw_969 rfl (by decide +kernel) rfl rfl ⟨Nat.le_of_ble_eq_true rfl, Nat.le_of_ble_eq_true rfl⟩ (ci_X8 l C w3 q2 k_q2) (Nat.le_of_ble_eq_true rfl) hl.1 dL_law_12 ⟨Nat.le_of_ble_eq_true rfl, Nat.le_of_ble_eq_true rfl⟩ (fun w4 H locs hw hp hS => ?_)
  obtain ⟨r0, r1, r2, r3, r4, r5, r6, r7, r8, r9, r10, r11, hp⟩ := hp
  have A2 := ca_trans A1 (ca_obj n_q2 k_q2 o_q2 hp)
  refine lv_astore_n (lv' := [(2, .ref q2), (1, .ref q1), (0, .ref b)]) hx hb dL_law_15 rfl hl (by decide) rfl (fun ls hl => ?_)
  refine lv_iconst (v := 1) hx hb dL_law_16 (by decide) ?_
  refine cw_newa X hz hw hS (ty := .long) rfl tw_1377 (cA := sx_cJ C) hcJ (N' := 1) (a0 := (1, .inr (.inl (fun _ => 0)))) (fun _ => rfl) (by decide) (by decide) (Nat.le_of_ble_eq_true rfl) (Nat.le_of_ble_eq_true rfl) (Nat.le_of_ble_eq_true rfl) dL_law_17 (fun q3 w5 H n_q3 k_q3 o_q3 hw hS => ?_)
  have A3 := ca_trans A2 (ca_one n_q3 k_q3 o_q3)
  refine lv_astore_n (lv' := [(3, .ref q3), (2, .ref q2), (1, .ref q1), (0, .ref b)]) hx hb dL_law_19 rfl hl (by decide) rfl (fun ls hl => ?_)
  refine lv_iconst (v := 0) hx hb dL_law_20 (by decide) ?_
  refine lv_istore (lv' := [(4, .int 0), (3, .ref q3), (2, .ref q2), (1, .ref q1), (0, .ref b)]) hx hb dL_law_21 hl (by decide) rfl (fun ls hl => ?_)
  obtain ⟨hW, hG⟩ := sx_made C s0 s1 q1 q9 q10 q11 q12 q13 q14 q15 q16 q2 q3 r0 r1 r2 r3 r4 r5 r6 r7 r8 r9 r10 r11 sl pl h1 h2 hw (by
    have A4 := A3
    rw [List.append_assoc] at A4
    exact A4)
  have hl := lv_sub hl [4, 3, 2, 1, 0] rfl
  refine W.widen (Nat.le_of_ble_eq_true rfl) (Nat.le_of_ble_eq_true rfl) (wk_law (C := sx_C1 C s0 s1 q1 q9 q10 q11 q12 q13 q14 q15 q16 q2 q3 r0 r1 r2 r3 r4 r5 r6 r7 r8 r9 r10 r11 sl pl) X hr hlocks hG hsz hT hst hL hX hbl 5000 0 0 (fun _ _ _ => 0, fun _ _ _ => 0) H _ ls (by omega) rfl hl hW hS hp0)
