/-! CONSTRUCTORS WITH LOOPS. Written by wip/whole/ctor2.py -/
/-- the eight cells of a new shed -/
def cw_shed (C : sx_C) (q : Nat → Nat) : va_W := [(q 1, .inr (2, [.ref (q 2), .ref (q 6), .ref (q 8), .int 0, .int 0, .int 0, .int 0, .int 0])), (q 2, .inr (3, [.ref (q 3), .ref (q 4), .ref (q 5), .int 0])), (q 3, .inl (sx_cI C, 40, .inl (fun _ => 0))), (q 4, .inl (sx_cI C, 40, .inl (fun _ => 0))), (q 5, .inl (sx_cZ C, 40, .inl (fun _ => 0))), (q 6, .inr (4, [.ref (q 7), .int 0, .int 0, .int 0, .int 0])), (q 7, .inl (sx_cI C, 24, .inl (fun _ => 0))), (q 8, .inl (sx_cI C, 24, .inl (fun _ => 0)))]
def cw_refs (sl : List (Nat → Nat)) : Nat → Option Nat := fun j => (sl[j]?).map (fun q => q 1)
abbrev cw_rw (C : sx_C) (n : Nat) (f : Nat → Option Nat) : va_E := .inl (sx_cQ C, n, .inr (.inr (.inr (.inr f))))
theorem cw_refs_add (sl : List (Nat → Nat)) (q : Nat → Nat) : va_up (cw_refs sl) sl.length (some (q 1)) = cw_refs (sl ++ [q]) := by
  funext j
  unfold cw_refs
  by_cases h : j = sl.length
  · subst h; rw [va_up_self]; simp
  · rw [va_up_ne _ _ h]
    by_cases h2 : j < sl.length
    · rw [List.getElem?_append_left h2]
    · have h3 : sl.length < j := by omega
      rw [List.getElem?_eq_none (by omega), List.getElem?_eq_none (by simp; omega)]
theorem cw_refs_nil : cw_refs [] = fun _ => none := rfl
theorem cw_fm (C : sx_C) (sl : List (Nat → Nat)) (q : Nat → Nat) : (sl ++ [q]).flatMap (cw_shed C) = sl.flatMap (cw_shed C) ++ cw_shed C q := by simp
/-- a new shed's cells, by their kinds -/
def cw_qf (a b c d e f g h : Nat) : Nat → Nat := fun k => match k with
  | 1 => a
  | 2 => b
  | 3 => c
  | 4 => d
  | 5 => e
  | 6 => f
  | 7 => g
  | _ => h
section CWL
variable {p : Program} {l : Launch} {e : Env} {R : Room} {s : State} {m : MethodId} {args : Array Value} {below : List Frame} {meth : Method} {c : Code} {H : Heap} {locs : List Loc} {cells slots : Nat} {Q : State → Prop}
variable {C : sx_C} {w0 w : cw_F} {cc : ByteArray} {nL : Nat} {own : String} {pc : Nat} {ls : Array Slot} {rest : List Value} {h0 : Nat}
def cw_pastPost (C : sx_C) (w0 : cw_F) (h0 : Nat) (w' : cw_F) : Prop := ∃ (qs : Nat) (sl : List (Nat → Nat)), sl.length = 14 ∧ cw_post w0 w' h0 (.inr (1, [.ref qs, .int 0, .int 0])) ((qs, cw_rw C 14 (cw_refs sl)) :: sl.flatMap (cw_shed C))
set_option maxRecDepth 100000 in
set_option maxHeartbeats 4000000 in
theorem wk_X1_loop (X : sx_X C p m c cX1_init 2 s args RX1) (hr : meth.sig.returnType = none) (hlocks : meth.locks = false) (hO : va_AO "StringShed$Shed" s) (hz : sx_sz C ≤ s.heap.size) (hcs : 113 ≤ R.cells ∧ 2604 ≤ R.slots) (hR : 3 ≤ R.frames ∧ 52 ≤ R.locals) (hk0 : w0 h0 = some (.inr (1, [.null, .int 0, .int 0]))) (qs : Nat) :
    ∀ (n : Nat) (sl : List (Nat → Nat)) (w : cw_F) (H : Heap) (locs : List Loc) (ls : Array Slot) (x1 : Int32), sl.length + n = 14 → x1 = nI sl.length → lv_has ls 2 [(0, .ref h0), (1, .int x1)] → cw_W C w H → va_S (sx_A C) s.heap H locs → cw_post w0 w h0 (.inr (1, [.ref qs, .int 0, .int 0])) ((qs, cw_rw C 14 (cw_refs sl)) :: sl.flatMap (cw_shed C)) → W p l e R s m args below meth c H locs (1 + 8 * sl.length) (14 + 185 * sl.length) (MQ below (cw_Q C (cw_pastPost C w0 h0)) args s 113 2604 (sx_A C)) (F0 m 25 ls []) := by
  obtain ⟨hx, hb, -, hown, hts, hK⟩ := id X
  intro n
  induction n with
  | zero =>
    intro sl w H locs ls x1 hn hx1 hl hw hS P
    refine lv_iload_n hx hb dX1_init_25 rfl (lv_at hl 1 rfl) ?_
    refine lv_bipush (v := 14) hx hb dX1_init_26 (by decide) ?_
    refine lv_icmp_ge (tgt := 50) hx hb dX1_init_28 (by decide) (fun c_1 => ?_) (fun c_1 => ?_)
    · exact W.widen (by omega) (by omega) (cw_vret X hr hlocks hw hS ⟨qs, sl, by omega, P⟩ dX1_init_50)
    · exact absurd (by rw [hx1, show sl.length = 14 by omega]; decide) c_1
  | succ n ih =>
    intro sl w H locs ls x1 hn hx1 hl hw hS P
    have hlt : sl.length < 14 := by omega
    refine lv_iload_n hx hb dX1_init_25 rfl (lv_at hl 1 rfl) ?_
    refine lv_bipush (v := 14) hx hb dX1_init_26 (by decide) ?_
    refine lv_icmp_ge (tgt := 50) hx hb dX1_init_28 (by decide) (fun c_1 => ?_) (fun c_1 => ?_)
    · exact absurd c_1 (by rw [hx1]; exact nI_ge (b := 14) hlt (by decide))
    · refine lv_aload_n hx hb dX1_init_31 rfl (lv_at hl 0 rfl) ?_
      refine cw_get (j := 0) X hw P.1 rfl inX1 (by decide) tw_175 rfl dX1_init_32 ?_
      refine lv_iload_n hx hb dX1_init_35 rfl (lv_at hl 1 rfl) ?_
      refine cw_new (ci := 2) (fs := [.null, .null, .null, .int 0, .int 0, .int 0, .int 0, .int 0]) X hz hw hS rfl inX3 tyX3 tyX3_ok tw_172 tw_90 tw_65 (fun j hj => by rcases (show j = 0 ∨ j = 1 ∨ j = 2 ∨ j = 3 ∨ j = 4 ∨ j = 5 ∨ j = 6 ∨ j = 7 by omega) with rfl | rfl | rfl | rfl | rfl | rfl | rfl | rfl <;> rfl) (Nat.le_trans (by omega) hcs.1) (Nat.le_trans (by omega) hcs.2) dX1_init_36 (fun q w1 H n_q k_q o_q hw hS => ?_)
      refine lv_dup hx hb dX1_init_39 rfl ?_
      refine cw_callIN (mc := 7) (ms := 177) (host := "StringShed") X hO hz hw hS (List.mem_of_getElem? (i := 3) rfl) tw_65 tw_92 tw_93 rfl (by decide +kernel) rfl rfl ⟨Nat.le_trans (by decide) hR.1, Nat.le_trans (by decide) hR.2⟩ (ci_X3 l C w1 q k_q) (Nat.le_of_ble_eq_true rfl) hl.1 dX1_init_40 ⟨Nat.le_trans (by omega) hcs.1, Nat.le_trans (by omega) hcs.2⟩ (fun w2 H locs hw hp hS => ?_)
      obtain ⟨z1, z3, z4, z5, z7, z9, z11, hp⟩ := hp
      have A : cw_add _ w2 (cw_shed C (cw_qf q z1 z3 z4 z5 z7 z9 z11)) := ca_obj n_q k_q o_q hp
      generalize hqf : cw_qf q z1 z3 z4 z5 z7 z9 z11 = qf at A
      have hq1 : q = qf 1 := by rw [← hqf]; rfl
      clear hp k_q n_q o_q
      have P2 := cp_add P A
      refine cw_astq X hw hS (cp_at P2 List.mem_cons_self) (v := q) (by rw [hq1]; exact (A.1 _ List.mem_cons_self).1) (by rw [hx1]; exact vp_in_nI hlt (by decide)) dX1_init_43 (fun w3 H locs k_3 o_3 hw hS => ?_)
      have P3 := cp_set (L1 := []) P2 hk0 k_3 o_3
      rw [hx1, nI_clamp (by omega), hq1, cw_refs_add] at P3
      have P4 : cw_post w0 w3 h0 (.inr (1, [.ref qs, .int 0, .int 0])) ((qs, cw_rw C 14 (cw_refs (sl ++ [qf]))) :: (sl ++ [qf]).flatMap (cw_shed C)) := by rw [cw_fm]; exact P3
      obtain ⟨x2, e_x2⟩ : ∃ y : Int32, y = x1 + 1 := ⟨_, rfl⟩
      refine lv_iinc (v := x2) (lv' := [(1, .int x2), (0, .ref h0)]) hx hb dX1_init_44 hl (k := 1) rfl (by rw [e_x2]; rfl) (by decide) rfl (fun ls hl => ?_)
      refine lv_goto (tgt := 25) hx hb dX1_init_47 (by decide) ?_
      have hlen : (sl ++ [qf]).length = sl.length + 1 := by simp
      exact W.widen (by rw [hlen]; omega) (by rw [hlen]; omega) (ih (sl ++ [qf]) w3 _ _ ls x2 (by rw [hlen]; omega) (by rw [hlen, e_x2, hx1]; exact nI_1 _) (lv_sub hl [1, 0] rfl) hw hS P4)
set_option maxRecDepth 100000 in
theorem tw_oRX1 : Cond.methodLink RX1 3 objectInit ∈ sx_T := sx_tin 171 rfl rfl
set_option maxRecDepth 100000 in
set_option maxHeartbeats 4000000 in
theorem ci_X1 (l : Launch) (C : sx_C) (w0 : cw_F) (h0 : Nat) (hk0 : w0 h0 = some (.inr (1, [.null, .int 0, .int 0]))) : Met l yX1_init (.code yX1_init cX1_init 2 none :: sx_T) ({ frames := 3, cells := 113, slots := 2604, locals := 52 } : Room) (cw_Pc C w0 [.ref h0]) (cw_Q C (fun w' => cw_pastPost C w0 h0 w')) 113 2604 (sx_A C) := by
  refine Met.ofW (cc := cX1_init) (maxL := 2) (ret := none) (by decide) rfl ?_
  intro p e s m args below meth c s₁ B hml hv
  obtain ⟨rfl, hz, hw, hK, hO⟩ := hv
  have X : sx_X C p m c cX1_init 2 s #[Value.ref h0] RX1 := ⟨B.exec, B.bytes, hml, findClass_of_methodNamed B.named, fun w hw => atoms_spec B.pre w (List.mem_cons_of_mem _ hw), hK⟩
  obtain ⟨hx, hb, -, hown, hts, -⟩ := id X
  have hr := B.returns
  have hlocks := B.notSynchronized
  have hin : meth.name = "<init>" := (name_of_methodNamed B.named B.method).1
  have hcI := (hK.1.2 0 _ rfl).2
  have hcZ := (hK.1.2 1 _ rfl).2
  have hS : va_S (sx_A C) s.heap s.heap [] := va_S.rf
  have hl := lv_entry ([.ref h0]) (n := 2) (Nat.le_of_ble_eq_true rfl)
  rw [lg_entry_eq]
  generalize (lg_sl ([.ref h0]) ++ List.replicate (2 - (lg_sl ([.ref h0])).length) Slot.unset).toArray = ls at hl ⊢
  have hl : lv_has ls 2 [(0, .ref h0)] := hl
  have P := cp_start hk0
  refine lv_aload_n hx hb dX1_init_0 rfl (lv_at hl 0 rfl) ?_
  refine W.objInit hx hb hown (hts _ tw_oRX1) (hts _ tw_oi) (hts _ tw_oc) rfl (by rw [hml]; exact hl.1) rfl dX1_init_1 (Nat.le_of_ble_eq_true rfl) (Nat.le_of_ble_eq_true rfl) ?_
  refine W.eq (g2 := F0 m 4 ls []) rfl ?_
  refine lv_aload_n hx hb dX1_init_4 rfl (lv_at hl 0 rfl) ?_
  refine lv_bipush (v := 14) hx hb dX1_init_5 (by decide) ?_
  refine cw_newq X hz hw hS hO tw_172 (N' := 14) (by decide) (by decide) (by decide) (Nat.le_of_ble_eq_true rfl) (Nat.le_of_ble_eq_true rfl) dX1_init_7 (fun qs w1 H n_q k_q o_q hw hS => ?_)
  have P : cw_post w0 w1 h0 (.inr (1, [.null, .int 0, .int 0])) [(qs, cw_rw C 14 (cw_refs []))] := cp_add P (ca_one n_q k_q o_q)
  refine cw_put (j := 0) (ty := .array (.object "StringShed$Shed")) X hw hS P.1 rfl inX1 tyX1 tyX1_ok nmX1 (by decide) tw_175 (Or.inr ⟨rfl, hin, rfl⟩) (by decide +kernel) rfl rfl (Nat.le_of_ble_eq_true rfl) dX1_init_10 (fun w2 H locs k_p o_p hw hS => ?_)
  have P : cw_post w0 w2 h0 (.inr (1, [.ref qs, .int 0, .int 0])) [(qs, cw_rw C 14 (cw_refs []))] := cp_put P hk0 k_p o_p
  refine lv_aload_n hx hb dX1_init_13 rfl (lv_at hl 0 rfl) ?_
  refine lv_iconst (v := 0) hx hb dX1_init_14 (by decide) ?_
  refine cw_put (j := 1) (ty := .int) X hw hS P.1 rfl inX1 tyX1 tyX1_ok nmX1 (by decide) tw_176 (Or.inl rfl) (by decide +kernel) (by decide) (by decide) (Nat.le_of_ble_eq_true rfl) dX1_init_15 (fun w3 H locs k_p o_p hw hS => ?_)
  have P : cw_post w0 w3 h0 (.inr (1, [.ref qs, .int 0, .int 0])) [(qs, cw_rw C 14 (cw_refs []))] := cp_put P hk0 k_p o_p
  refine lv_aload_n hx hb dX1_init_18 rfl (lv_at hl 0 rfl) ?_
  refine lv_iconst (v := 0) hx hb dX1_init_19 (by decide) ?_
  refine cw_put (j := 2) (ty := .int) X hw hS P.1 rfl inX1 tyX1 tyX1_ok nmX1 (by decide) tw_177 (Or.inl rfl) (by decide +kernel) (by decide) (by decide) (Nat.le_of_ble_eq_true rfl) dX1_init_20 (fun w4 H locs k_p o_p hw hS => ?_)
  have P : cw_post w0 w4 h0 (.inr (1, [.ref qs, .int 0, .int 0])) [(qs, cw_rw C 14 (cw_refs []))] := cp_put P hk0 k_p o_p
  refine lv_iconst (v := 0) hx hb dX1_init_23 (by decide) ?_
  refine lv_istore_n (lv' := [(1, .int 0), (0, .ref h0)]) hx hb dX1_init_24 rfl hl (by decide) rfl (fun ls hl => ?_)
  exact wk_X1_loop X hr hlocks hO hz ⟨Nat.le_refl _, Nat.le_refl _⟩ ⟨Nat.le_refl _, Nat.le_refl _⟩ hk0 qs 14 [] _ _ _ ls 0 rfl nI_0.symm (lv_sub hl [1, 0] rfl) hw hS P
def cw_ssPost (C : sx_C) (w0 : cw_F) (h0 : Nat) (w' : cw_F) : Prop := ∃ (s0 s1 : Nat → Nat) (q9 q10 q11 q12 q13 q14 q15 q16 : Nat) (sl pl : List (Nat → Nat)), sl.length = 2 ∧ pl.length = 14 ∧ cw_post w0 w' h0 (.inr (6, [.ref (s0 1), .ref (s1 1), .ref q9, .ref q11, .ref q12, .ref q13, .ref q15])) ((cw_shed C s0 ++ cw_shed C s1 ++ ((q9, .inr (1, [.ref q10, .int 0, .int 0])) :: (q10, cw_rw C 14 (cw_refs pl)) :: pl.flatMap (cw_shed C))) ++ ((q11, cw_rw C 2 (cw_refs sl)) :: (sl.flatMap (cw_shed C) ++ ([(q12, .inl (sx_cZ C, 2, .inl (fun _ => 0)))] ++ ([(q13, .inr (5, [.ref q14, .int 0])), (q14, .inl (sx_cI C, 120, .inl (fun _ => 0)))] ++ [(q15, .inr (0, [.ref q16, .long 0])), (q16, .inl (sx_cI C, 24, .inl (fun _ => 0)))])))))
set_option maxRecDepth 100000 in
set_option maxHeartbeats 4000000 in
theorem wk_X7_tail (X : sx_X C p m c cX7_init 2 s args RX7) (hr : meth.sig.returnType = none) (hlocks : meth.locks = false) (hin : meth.name = "<init>") (hO : va_AO "StringShed$Shed" s) (hz : sx_sz C ≤ s.heap.size) (hcs : 152 ≤ R.cells ∧ 3499 ≤ R.slots) (hR : 4 ≤ R.frames ∧ 73 ≤ R.locals) (hk0 : w0 h0 = some (.inr (6, [.null, .null, .null, .null, .null, .null, .null]))) {s0 s1 : Nat → Nat} {q9 q10 q11 : Nat} {sl pl : List (Nat → Nat)} (h1 : sl.length = 2) (h2 : pl.length = 14) (hl : lv_has ls 2 [(0, .ref h0)]) (hw : cw_W C w H) (hS : va_S (sx_A C) s.heap H locs) (P : cw_post w0 w h0 (.inr (6, [.ref (s0 1), .ref (s1 1), .ref q9, .ref q11, .null, .null, .null])) ((cw_shed C s0 ++ cw_shed C s1 ++ ((q9, .inr (1, [.ref q10, .int 0, .int 0])) :: (q10, cw_rw C 14 (cw_refs pl)) :: pl.flatMap (cw_shed C))) ++ ((q11, cw_rw C 2 (cw_refs sl)) :: sl.flatMap (cw_shed C)))) : W p l e R s m args below meth c H locs 147 3349 (MQ below (cw_Q C (cw_ssPost C w0 h0)) args s 152 3499 (sx_A C)) (F0 m 71 ls []) := by
  obtain ⟨hx, hb, -, hown, hts, hK⟩ := id X
  have hcI := (hK.1.2 0 _ rfl).2
  have hcZ := (hK.1.2 1 _ rfl).2
  refine lv_aload_n hx hb dX7_init_71 rfl (lv_at hl 0 rfl) ?_
  refine lv_iconst (v := 2) hx hb dX7_init_72 (by decide) ?_
  refine cw_newa X hz hw hS (ty := .boolean) rfl tw_115 (cA := sx_cZ C) hcZ (N' := 2) (a0 := (2, .inl (fun _ => 0))) (fun _ => rfl) (by decide) (by decide) (Nat.le_of_ble_eq_true rfl) (Nat.le_trans (by decide) hcs.1) (Nat.le_trans (by decide) hcs.2) dX7_init_73 (fun q12 w1 H n_q k_q o_q hw hS => ?_)
  have P := cp_add P (ca_one n_q k_q o_q)
  refine cw_put (j := 4) (ty := .array .boolean) X hw hS P.1 rfl inX7 tyX7 tyX7_ok nmX7 (by decide) tw_215 (Or.inr ⟨rfl, hin, rfl⟩) (by decide +kernel) rfl rfl (Nat.le_of_ble_eq_true rfl) dX7_init_75 (fun w2 H locs k_p o_p hw hS => ?_)
  have P := cp_put P hk0 k_p o_p
  refine lv_aload_n hx hb dX7_init_78 rfl (lv_at hl 0 rfl) ?_
  refine cw_new (ci := 5) (fs := [.null, .int 0]) X hz hw hS rfl inX6 tyX6 tyX6_ok tw_185 tw_186 tw_69 (fun j hj => by rcases (show j = 0 ∨ j = 1 by omega) with rfl | rfl <;> rfl) (Nat.le_trans (by decide) hcs.1) (Nat.le_trans (by decide) hcs.2) dX7_init_79 (fun q13 w3 H n_q k_q o_q hw hS => ?_)
  refine lv_dup hx hb dX7_init_82 rfl ?_
  refine cw_callIN (host := "StringShed") X hO hz hw hS (List.mem_of_getElem? (i := 4) rfl) tw_69 tw_188 tw_189 rfl (by decide +kernel) rfl rfl ⟨Nat.le_trans (by decide) hR.1, Nat.le_trans (by decide) hR.2⟩ (ci_X6 l C w3 q13 k_q) (Nat.le_of_ble_eq_true rfl) hl.1 dX7_init_83 ⟨Nat.le_trans (by decide) hcs.1, Nat.le_trans (by decide) hcs.2⟩ (fun w4 H locs hw hp hS => ?_)
  obtain ⟨q14, hp⟩ := hp
  have P := cp_add P (ca_obj n_q k_q o_q hp)
  refine cw_put (j := 5) (ty := .object "StringShed$Text") X hw hS P.1 rfl inX7 tyX7 tyX7_ok nmX7 (by decide) tw_216 (Or.inr ⟨rfl, hin, rfl⟩) (by decide +kernel) rfl rfl (Nat.le_of_ble_eq_true rfl) dX7_init_86 (fun w5 H locs k_p o_p hw hS => ?_)
  have P := cp_put P hk0 k_p o_p
  refine lv_aload_n hx hb dX7_init_89 rfl (lv_at hl 0 rfl) ?_
  refine cw_new (ci := 0) (fs := [.null, .long 0]) X hz hw hS rfl inX0 tyX0 tyX0_ok tw_198 tw_199 tw_70 (fun j hj => by rcases (show j = 0 ∨ j = 1 by omega) with rfl | rfl <;> rfl) (Nat.le_trans (by decide) hcs.1) (Nat.le_trans (by decide) hcs.2) dX7_init_90 (fun q15 w6 H n_q k_q o_q hw hS => ?_)
  refine lv_dup hx hb dX7_init_93 rfl ?_
  refine cw_callIN (host := "StringShed") X hO hz hw hS (List.mem_of_getElem? (i := 5) rfl) tw_70 tw_201 tw_202 rfl (by decide +kernel) rfl rfl ⟨Nat.le_trans (by decide) hR.1, Nat.le_trans (by decide) hR.2⟩ (ci_X0 l C w6 q15 k_q) (Nat.le_of_ble_eq_true rfl) hl.1 dX7_init_94 ⟨Nat.le_trans (by decide) hcs.1, Nat.le_trans (by decide) hcs.2⟩ (fun w7 H locs hw hp hS => ?_)
  obtain ⟨q16, hp⟩ := hp
  have P := cp_add P (ca_obj n_q k_q o_q hp)
  refine cw_put (j := 6) (ty := .object "StringShed$Cutter") X hw hS P.1 rfl inX7 tyX7 tyX7_ok nmX7 (by decide) tw_217 (Or.inr ⟨rfl, hin, rfl⟩) (by decide +kernel) rfl rfl (Nat.le_of_ble_eq_true rfl) dX7_init_97 (fun w8 H locs k_p o_p hw hS => ?_)
  have P := cp_put P hk0 k_p o_p
  refine W.widen (k := 152) (n := 3499) (by decide) (by decide) (cw_vret X hr hlocks hw hS ⟨s0, s1, q9, q10, q11, q12, q13, q14, q15, q16, sl, pl, h1, h2, ?_⟩ dX7_init_100)
  simp only [List.append_assoc, List.cons_append, List.nil_append] at P ⊢
  exact P
set_option maxRecDepth 100000 in
set_option maxHeartbeats 4000000 in
theorem wk_X7_loop (X : sx_X C p m c cX7_init 2 s args RX7) (hr : meth.sig.returnType = none) (hlocks : meth.locks = false) (hin : meth.name = "<init>") (hO : va_AO "StringShed$Shed" s) (hz : sx_sz C ≤ s.heap.size) (hcs : 152 ≤ R.cells ∧ 3499 ≤ R.slots) (hR : 4 ≤ R.frames ∧ 73 ≤ R.locals) (hk0 : w0 h0 = some (.inr (6, [.null, .null, .null, .null, .null, .null, .null]))) {s0 s1 : Nat → Nat} {q9 q10 q11 : Nat} {pl : List (Nat → Nat)} (h2 : pl.length = 14) :
    ∀ (n : Nat) (sl : List (Nat → Nat)) (w : cw_F) (H : Heap) (locs : List Loc) (ls : Array Slot) (x1 : Int32), sl.length + n = 2 → x1 = nI sl.length → lv_has ls 2 [(0, .ref h0), (1, .int x1)] → cw_W C w H → va_S (sx_A C) s.heap H locs → cw_post w0 w h0 (.inr (6, [.ref (s0 1), .ref (s1 1), .ref q9, .ref q11, .null, .null, .null])) ((cw_shed C s0 ++ cw_shed C s1 ++ ((q9, .inr (1, [.ref q10, .int 0, .int 0])) :: (q10, cw_rw C 14 (cw_refs pl)) :: pl.flatMap (cw_shed C))) ++ ((q11, cw_rw C 2 (cw_refs sl)) :: sl.flatMap (cw_shed C))) → W p l e R s m args below meth c H locs (131 + 8 * sl.length) (2979 + 185 * sl.length) (MQ below (cw_Q C (cw_ssPost C w0 h0)) args s 152 3499 (sx_A C)) (F0 m 47 ls []) := by
  obtain ⟨hx, hb, -, hown, hts, hK⟩ := id X
  intro n
  induction n with
  | zero =>
    intro sl w H locs ls x1 hn hx1 hl hw hS P
    refine lv_iload_n hx hb dX7_init_47 rfl (lv_at hl 1 rfl) ?_
    refine lv_iconst (v := 2) hx hb dX7_init_48 (by decide) ?_
    refine lv_icmp_ge (tgt := 71) hx hb dX7_init_49 (by decide) (fun c_1 => ?_) (fun c_1 => ?_)
    · exact W.widen (by omega) (by omega) (wk_X7_tail X hr hlocks hin hO hz hcs hR hk0 (by omega) h2 (lv_sub hl [0] rfl) hw hS P)
    · exact absurd (by rw [hx1, show sl.length = 2 by omega]; decide) c_1
  | succ n ih =>
    intro sl w H locs ls x1 hn hx1 hl hw hS P
    have hlt : sl.length < 2 := by omega
    refine lv_iload_n hx hb dX7_init_47 rfl (lv_at hl 1 rfl) ?_
    refine lv_iconst (v := 2) hx hb dX7_init_48 (by decide) ?_
    refine lv_icmp_ge (tgt := 71) hx hb dX7_init_49 (by decide) (fun c_1 => ?_) (fun c_1 => ?_)
    · exact absurd c_1 (by rw [hx1]; exact nI_ge (b := 2) hlt (by decide))
    · refine lv_aload_n hx hb dX7_init_52 rfl (lv_at hl 0 rfl) ?_
      refine cw_get (j := 3) X hw P.1 rfl inX7 (by decide) tw_214 rfl dX7_init_53 ?_
      refine lv_iload_n hx hb dX7_init_56 rfl (lv_at hl 1 rfl) ?_
      refine cw_new (ci := 2) (fs := [.null, .null, .null, .int 0, .int 0, .int 0, .int 0, .int 0]) X hz hw hS rfl inX3 tyX3 tyX3_ok tw_89 tw_90 tw_65 (fun j hj => by rcases (show j = 0 ∨ j = 1 ∨ j = 2 ∨ j = 3 ∨ j = 4 ∨ j = 5 ∨ j = 6 ∨ j = 7 by omega) with rfl | rfl | rfl | rfl | rfl | rfl | rfl | rfl <;> rfl) (Nat.le_trans (by omega) hcs.1) (Nat.le_trans (by omega) hcs.2) dX7_init_57 (fun q w1 H n_q k_q o_q hw hS => ?_)
      refine lv_dup hx hb dX7_init_60 rfl ?_
      refine cw_callIN (mc := 7) (ms := 177) (host := "StringShed") X hO hz hw hS (List.mem_of_getElem? (i := 0) rfl) tw_65 tw_92 tw_93 rfl (by decide +kernel) rfl rfl ⟨Nat.le_trans (by decide) hR.1, Nat.le_trans (by decide) hR.2⟩ (ci_X3 l C w1 q k_q) (Nat.le_of_ble_eq_true rfl) hl.1 dX7_init_61 ⟨Nat.le_trans (by omega) hcs.1, Nat.le_trans (by omega) hcs.2⟩ (fun w2 H locs hw hp hS => ?_)
      obtain ⟨z1, z3, z4, z5, z7, z9, z11, hp⟩ := hp
      have A : cw_add _ w2 (cw_shed C (cw_qf q z1 z3 z4 z5 z7 z9 z11)) := ca_obj n_q k_q o_q hp
      generalize hqf : cw_qf q z1 z3 z4 z5 z7 z9 z11 = qf at A
      have hq1 : q = qf 1 := by rw [← hqf]; rfl
      clear hp k_q n_q o_q
      have P2 : cw_post w0 w2 h0 (.inr (6, [.ref (s0 1), .ref (s1 1), .ref q9, .ref q11, .null, .null, .null])) ((cw_shed C s0 ++ cw_shed C s1 ++ ((q9, .inr (1, [.ref q10, .int 0, .int 0])) :: (q10, cw_rw C 14 (cw_refs pl)) :: pl.flatMap (cw_shed C))) ++ ((q11, cw_rw C 2 (cw_refs sl)) :: (sl.flatMap (cw_shed C) ++ cw_shed C qf))) := by
        simpa only [List.append_assoc, List.cons_append, List.nil_append] using cp_add P A
      refine cw_astq X hw hS (cp_at P2 (List.mem_append_right _ List.mem_cons_self)) (v := q) (by rw [hq1]; exact (A.1 _ List.mem_cons_self).1) (by rw [hx1]; exact vp_in_nI hlt (by decide)) dX7_init_64 (fun w3 H locs k_3 o_3 hw hS => ?_)
      have P3 := cp_set P2 hk0 k_3 o_3
      rw [hx1, nI_clamp (by omega), hq1, cw_refs_add, ← cw_fm] at P3
      obtain ⟨x2, e_x2⟩ : ∃ y : Int32, y = x1 + 1 := ⟨_, rfl⟩
      refine lv_iinc (v := x2) (lv' := [(1, .int x2), (0, .ref h0)]) hx hb dX7_init_65 hl (k := 1) rfl (by rw [e_x2]; rfl) (by decide) rfl (fun ls hl => ?_)
      refine lv_goto (tgt := 47) hx hb dX7_init_68 (by decide) ?_
      have hlen : (sl ++ [qf]).length = sl.length + 1 := by simp
      exact W.widen (by rw [hlen]; omega) (by rw [hlen]; omega) (ih (sl ++ [qf]) w3 _ _ ls x2 (by rw [hlen]; omega) (by rw [hlen, e_x2, hx1]; exact nI_1 _) (lv_sub hl [1, 0] rfl) hw hS P3)
set_option maxRecDepth 100000 in
theorem tw_oRX7 : Cond.methodLink RX7 3 objectInit ∈ sx_T := sx_tin 86 rfl rfl
set_option maxRecDepth 100000 in
set_option maxHeartbeats 4000000 in
theorem ci_X7 (l : Launch) (C : sx_C) (w0 : cw_F) (h0 : Nat) (hk0 : w0 h0 = some (.inr (6, [.null, .null, .null, .null, .null, .null, .null]))) : Met l yX7_init (.code yX7_init cX7_init 2 none :: sx_T) ({ frames := 4, cells := 152, slots := 3499, locals := 73 } : Room) (cw_Pc C w0 [.ref h0]) (cw_Q C (fun w' => cw_ssPost C w0 h0 w')) 152 3499 (sx_A C) := by
  refine Met.ofW (cc := cX7_init) (maxL := 2) (ret := none) (by decide) rfl ?_
  intro p e s m args below meth c s₁ B hml hv
  obtain ⟨rfl, hz, hw, hK, hO⟩ := hv
  have X : sx_X C p m c cX7_init 2 s #[Value.ref h0] RX7 := ⟨B.exec, B.bytes, hml, findClass_of_methodNamed B.named, fun w hw => atoms_spec B.pre w (List.mem_cons_of_mem _ hw), hK⟩
  obtain ⟨hx, hb, -, hown, hts, -⟩ := id X
  have hr := B.returns
  have hlocks := B.notSynchronized
  have hin : meth.name = "<init>" := (name_of_methodNamed B.named B.method).1
  have hcI := (hK.1.2 0 _ rfl).2
  have hcZ := (hK.1.2 1 _ rfl).2
  have hS : va_S (sx_A C) s.heap s.heap [] := va_S.rf
  have hl := lv_entry ([.ref h0]) (n := 2) (Nat.le_of_ble_eq_true rfl)
  rw [lg_entry_eq]
  generalize (lg_sl ([.ref h0]) ++ List.replicate (2 - (lg_sl ([.ref h0])).length) Slot.unset).toArray = ls at hl ⊢
  have hl : lv_has ls 2 [(0, .ref h0)] := hl
  have P := cp_start hk0
  have hcs : 152 ≤ (headSpec (.code yX7_init cX7_init 2 none :: sx_T) ({ frames := 4, cells := 152, slots := 3499, locals := 73 } : Room)).room.cells ∧ 3499 ≤ (headSpec (.code yX7_init cX7_init 2 none :: sx_T) ({ frames := 4, cells := 152, slots := 3499, locals := 73 } : Room)).room.slots := ⟨Nat.le_refl _, Nat.le_refl _⟩
  have hR : 4 ≤ (headSpec (.code yX7_init cX7_init 2 none :: sx_T) ({ frames := 4, cells := 152, slots := 3499, locals := 73 } : Room)).room.frames ∧ 73 ≤ (headSpec (.code yX7_init cX7_init 2 none :: sx_T) ({ frames := 4, cells := 152, slots := 3499, locals := 73 } : Room)).room.locals := ⟨Nat.le_refl _, Nat.le_refl _⟩
  refine lv_aload_n hx hb dX7_init_0 rfl (lv_at hl 0 rfl) ?_
  refine W.objInit hx hb hown (hts _ tw_oRX7) (hts _ tw_oi) (hts _ tw_oc) rfl (by rw [hml]; exact hl.1) rfl dX7_init_1 (Nat.le_of_ble_eq_true rfl) (Nat.le_of_ble_eq_true rfl) ?_
  refine W.eq (g2 := F0 m 4 ls []) rfl ?_
  refine lv_aload_n hx hb dX7_init_4 rfl (lv_at hl 0 rfl) ?_
  refine cw_new (ci := 2) (fs := [.null, .null, .null, .int 0, .int 0, .int 0, .int 0, .int 0]) X hz hw hS rfl inX3 tyX3 tyX3_ok tw_89 tw_90 tw_65 (fun j hj => by rcases (show j = 0 ∨ j = 1 ∨ j = 2 ∨ j = 3 ∨ j = 4 ∨ j = 5 ∨ j = 6 ∨ j = 7 by omega) with rfl | rfl | rfl | rfl | rfl | rfl | rfl | rfl <;> rfl) (Nat.le_trans (by omega) hcs.1) (Nat.le_trans (by omega) hcs.2) dX7_init_5 (fun q w1 H n_q k_q o_q hw hS => ?_)
  refine lv_dup hx hb dX7_init_8 rfl ?_
  refine cw_callIN (mc := 7) (ms := 177) (host := "StringShed") X hO hz hw hS (List.mem_of_getElem? (i := 0) rfl) tw_65 tw_92 tw_93 rfl (by decide +kernel) rfl rfl ⟨Nat.le_trans (by decide) hR.1, Nat.le_trans (by decide) hR.2⟩ (ci_X3 l C w1 q k_q) (Nat.le_of_ble_eq_true rfl) hl.1 dX7_init_9 ⟨Nat.le_trans (by omega) hcs.1, Nat.le_trans (by omega) hcs.2⟩ (fun w2 H locs hw hp hS => ?_)
  obtain ⟨z1, z3, z4, z5, z7, z9, z11, hp⟩ := hp
  have A : cw_add _ w2 (cw_shed C (cw_qf q z1 z3 z4 z5 z7 z9 z11)) := ca_obj n_q k_q o_q hp
  generalize hqf : cw_qf q z1 z3 z4 z5 z7 z9 z11 = qf at A
  have hq1 : q = qf 1 := by rw [← hqf]; rfl
  clear hp k_q n_q o_q
  subst hq1
  have P := cp_add P A
  clear A hqf
  refine cw_put (j := 0) (ty := .object "StringShed$Shed") X hw hS P.1 rfl inX7 tyX7 tyX7_ok nmX7 (by decide) tw_211 (Or.inr ⟨rfl, hin, rfl⟩) (by decide +kernel) rfl rfl (Nat.le_of_ble_eq_true rfl) dX7_init_12 (fun wp0 H locs k_p o_p hw hS => ?_)
  have P := cp_put P hk0 k_p o_p
  obtain ⟨s0, rfl⟩ : ∃ z, z = qf := ⟨_, rfl⟩
  refine lv_aload_n hx hb dX7_init_15 rfl (lv_at hl 0 rfl) ?_
  refine cw_new (ci := 2) (fs := [.null, .null, .null, .int 0, .int 0, .int 0, .int 0, .int 0]) X hz hw hS rfl inX3 tyX3 tyX3_ok tw_89 tw_90 tw_65 (fun j hj => by rcases (show j = 0 ∨ j = 1 ∨ j = 2 ∨ j = 3 ∨ j = 4 ∨ j = 5 ∨ j = 6 ∨ j = 7 by omega) with rfl | rfl | rfl | rfl | rfl | rfl | rfl | rfl <;> rfl) (Nat.le_trans (by omega) hcs.1) (Nat.le_trans (by omega) hcs.2) dX7_init_16 (fun q w1 H n_q k_q o_q hw hS => ?_)
  refine lv_dup hx hb dX7_init_19 rfl ?_
  refine cw_callIN (mc := 7) (ms := 177) (host := "StringShed") X hO hz hw hS (List.mem_of_getElem? (i := 0) rfl) tw_65 tw_92 tw_93 rfl (by decide +kernel) rfl rfl ⟨Nat.le_trans (by decide) hR.1, Nat.le_trans (by decide) hR.2⟩ (ci_X3 l C w1 q k_q) (Nat.le_of_ble_eq_true rfl) hl.1 dX7_init_20 ⟨Nat.le_trans (by omega) hcs.1, Nat.le_trans (by omega) hcs.2⟩ (fun w2 H locs hw hp hS => ?_)
  obtain ⟨z1, z3, z4, z5, z7, z9, z11, hp⟩ := hp
  have A : cw_add _ w2 (cw_shed C (cw_qf q z1 z3 z4 z5 z7 z9 z11)) := ca_obj n_q k_q o_q hp
  generalize hqf : cw_qf q z1 z3 z4 z5 z7 z9 z11 = qf at A
  have hq1 : q = qf 1 := by rw [← hqf]; rfl
  clear hp k_q n_q o_q
  subst hq1
  have P := cp_add P A
  clear A hqf
  refine cw_put (j := 1) (ty := .object "StringShed$Shed") X hw hS P.1 rfl inX7 tyX7 tyX7_ok nmX7 (by decide) tw_212 (Or.inr ⟨rfl, hin, rfl⟩) (by decide +kernel) rfl rfl (Nat.le_of_ble_eq_true rfl) dX7_init_23 (fun wp1 H locs k_p o_p hw hS => ?_)
  have P := cp_put P hk0 k_p o_p
  obtain ⟨s1, rfl⟩ : ∃ z, z = qf := ⟨_, rfl⟩
  refine lv_aload_n hx hb dX7_init_26 rfl (lv_at hl 0 rfl) ?_
  refine cw_new (ci := 1) (fs := [.null, .int 0, .int 0]) X hz hw hS rfl inX1 tyX1 tyX1_ok tw_166 tw_167 tw_68 (fun j hj => by rcases (show j = 0 ∨ j = 1 ∨ j = 2 by omega) with rfl | rfl | rfl <;> rfl) (Nat.le_trans (by decide) hcs.1) (Nat.le_trans (by decide) hcs.2) dX7_init_27 (fun q9 w5 H n_q k_q o_q hw hS => ?_)
  refine lv_dup hx hb dX7_init_30 rfl ?_
  refine cw_callI (mc := 113) (ms := 2604) X hO hz hw hS tw_168 tw_68 tw_169 tw_170 rfl (by decide +kernel) rfl rfl ⟨Nat.le_trans (by decide) hR.1, Nat.le_trans (by decide) hR.2⟩ (ci_X1 l C w5 q9 k_q) (Nat.le_of_ble_eq_true rfl) hl.1 dX7_init_31 ⟨Nat.le_trans (by decide) hcs.1, Nat.le_trans (by decide) hcs.2⟩ (fun w6 H locs hw hp hS => ?_)
  obtain ⟨q10, pl, h2, hp⟩ := hp
  have P := cp_add P (ca_obj n_q k_q o_q hp)
  refine cw_put (j := 2) (ty := .object "StringShed$Past") X hw hS P.1 rfl inX7 tyX7 tyX7_ok nmX7 (by decide) tw_213 (Or.inr ⟨rfl, hin, rfl⟩) (by decide +kernel) rfl rfl (Nat.le_of_ble_eq_true rfl) dX7_init_34 (fun w7 H locs k_p o_p hw hS => ?_)
  have P := cp_put P hk0 k_p o_p
  refine lv_aload_n hx hb dX7_init_37 rfl (lv_at hl 0 rfl) ?_
  refine lv_iconst (v := 2) hx hb dX7_init_38 (by decide) ?_
  refine cw_newq X hz hw hS hO tw_89 (N' := 2) (by decide) (by decide) (by decide) (Nat.le_trans (by decide) hcs.1) (Nat.le_trans (by decide) hcs.2) dX7_init_39 (fun q11 w8 H n_q k_q o_q hw hS => ?_)
  have P := cp_add P (ca_one n_q k_q o_q)
  refine cw_put (j := 3) (ty := .array (.object "StringShed$Shed")) X hw hS P.1 rfl inX7 tyX7 tyX7_ok nmX7 (by decide) tw_214 (Or.inr ⟨rfl, hin, rfl⟩) (by decide +kernel) rfl rfl (Nat.le_of_ble_eq_true rfl) dX7_init_42 (fun w9 H locs k_p o_p hw hS => ?_)
  have P := cp_put P hk0 k_p o_p
  refine lv_iconst (v := 0) hx hb dX7_init_45 (by decide) ?_
  refine lv_istore_n (lv' := [(1, .int 0), (0, .ref h0)]) hx hb dX7_init_46 rfl hl (by decide) rfl (fun ls hl => ?_)
  exact W.widen (by decide) (by decide) (wk_X7_loop X hr hlocks hin hO hz hcs hR hk0 h2 2 [] _ _ _ ls 0 rfl nI_0.symm (lv_sub hl [1, 0] rfl) hw hS (by simpa only [List.append_assoc, List.cons_append, List.nil_append, List.flatMap_nil, List.set_cons_zero, List.set_cons_succ, cw_refs_nil] using P))
end CWL
