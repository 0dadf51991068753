section SXM
variable {p : Program} {l : Launch} {e : Env} {R : Room} {s : State} {m : MethodId} {args : Array Value} {below : List Frame} {meth : Method} {c : Code} {H : Heap} {locs : List Loc} {cells slots : Nat} {Q : State → Prop}
variable {O : Type} {out : O} {C : sx_C} {M M0 : sx_M} {cc : ByteArray} {nL : Nat} {own : String} {pc : Nat} {ls : Array Slot} {rest : List Value} {H0 : Heap}
-- StringShed$Script.limit(I)J pure
def f2_limit_L4 (w0 : Int32) (M0 : sx_M) (k26 : (Int64 → Option (Int64))) : Nat → Int64 → Int32 → Option (Int64)
  | 0, _, _ => none
  | n + 1, x1, x3 =>
    if w0 ≤ x3 then
      k26 x1
    else
      if (3 : Int32) ≤ x3 then
        k26 x1
      else
        sx_bd (x1 * (100000 : Int64)) fun v3 =>
        sx_bd (x3 + (1 : Int32)) fun v4 =>
        f2_limit_L4 w0 M0 k26 n v3 v4
def f2_limit (a0 : Int32) (M0 : sx_M) : Option (Int64) :=
  f2_limit_L4 a0 M0
    (fun (v5 : Int64) =>
      some v5)
    5000 (1 : Int64) (0 : Int32)
set_option maxRecDepth 100000 in
set_option maxHeartbeats 4000000 in
theorem wk_2_limit (X : sx_X C p m c cX2_limit 4 s args RX2) (hr : meth.sig.returnType = (some .long)) (hlocks : meth.locks = false) (hG : sx_G C) (hz : sx_sz C ≤ s.heap.size) (hcs : 0 ≤ R.cells ∧ 0 ≤ R.slots) (hR : 0 ≤ R.frames ∧ 0 ≤ R.locals) (a0 : Int32) (M0 : sx_M) (r : Int64) (h : f2_limit a0 M0 = some r) (hl : lv_has ls 4 [(0, .int a0)]) (hP : sx_W C M0 H) (hS : va_S (sx_A C) s.heap H locs) : W p l e R s m args below meth c H locs 0 0 (sx_Z C (some (.long r)) M0 below args s) (F0 m 0 ls []) := by
  obtain ⟨hx, hb, hml, hown, hts, hK⟩ := id X
  rw [f2_limit] at h
  have hf2_limit_L4 : ∀ (w0 : Int32) (k26 : (Int64 → Option (Int64))) (n : Nat) (hk26 : (∀ (y1 : Int64) (H : Heap) (locs : List Loc) (ls : Array Slot), lv_has ls 4 [(1, .long y1)] → sx_W C M0 H → va_S (sx_A C) s.heap H locs → k26 y1 = some r → W p l e R s m args below meth c H locs 0 0 (sx_Z C (some (.long r)) M0 below args s) (F0 m 26 ls []))) (x1 : Int64) (x3 : Int32) (H : Heap) (locs : List Loc) (ls : Array Slot), lv_has ls 4 [(0, .int w0), (1, .long x1), (3, .int x3)] → sx_W C M0 H → va_S (sx_A C) s.heap H locs → f2_limit_L4 w0 M0 k26 n x1 x3 = some r → W p l e R s m args below meth c H locs 0 0 (sx_Z C (some (.long r)) M0 below args s) (F0 m 4 ls []) := by
    intro w0 k26 n hk26
    induction n with
    | zero => intro x1 x3 H locs ls hl hP hS h; exact absurd (show (none : Option (Int64)) = some r from h) (fun q => nomatch q)
    | succ n ih =>
      intro x1 x3 H locs ls hl hP hS h
      rw [f2_limit_L4] at h
      refine lv_iload_n hx hb dX2_limit_4 rfl (lv_at hl 2 rfl) ?_
      refine lv_iload_n hx hb dX2_limit_5 rfl (lv_at hl 0 rfl) ?_
      refine lv_icmp_ge (tgt := 26) hx hb dX2_limit_6 (by decide) (fun c1 => ?_) (fun c1 => ?_)
      · replace h := sx_ifp h c1
        exact hk26 x1 H locs ls (lv_sub hl [1] rfl) hP hS h
      · replace h := sx_ifn h c1
        refine lv_iload_n hx hb dX2_limit_9 rfl (lv_at hl 2 rfl) ?_
        refine lv_iconst (v := (3 : Int32)) hx hb dX2_limit_10 (by decide) ?_
        refine lv_icmp_ge (tgt := 26) hx hb dX2_limit_11 (by decide) (fun c2 => ?_) (fun c2 => ?_)
        · replace h := sx_ifp h c2
          exact hk26 x1 H locs ls (lv_sub hl [1] rfl) hP hS h
        · replace h := sx_ifn h c2
          refine lv_lload_n hx hb dX2_limit_14 rfl (lv_at hl 1 rfl) ?_
          refine lv_ldc2 (v := (100000 : Int64)) hx hb hown (hts _ tw_912) dX2_limit_15 ?_
          refine lv_lmul hx hb dX2_limit_18 ?_
          obtain ⟨v3, e_v3, h⟩ := sx_nm h
          rw [e_v3]
          refine lv_lstore_n (lv' := [(1, .long v3), (0, .int w0), (3, .int x3)]) hx hb dX2_limit_19 rfl hl (by decide) rfl (fun ls hl => ?_)
          obtain ⟨v4, e_v4, h⟩ := sx_nm h
          refine lv_iinc (v := v4) (lv' := [(3, .int v4), (1, .long v3), (0, .int w0)]) hx hb dX2_limit_20 hl (k := 2) rfl (by rw [← e_v4]; rfl) (by decide) rfl (fun ls hl => ?_)
          refine lv_goto (tgt := 4) hx hb dX2_limit_23 (by decide) ?_
          exact ih v3 v4 H locs ls (lv_sub hl [2, 1, 0] rfl) hP hS h
  refine lv_lconst (v := (1 : Int64)) hx hb dX2_limit_0 (by decide) ?_
  refine lv_lstore_n (lv' := [(1, .long (1 : Int64)), (0, .int a0)]) hx hb dX2_limit_1 rfl hl (by decide) rfl (fun ls hl => ?_)
  refine lv_iconst (v := (0 : Int32)) hx hb dX2_limit_2 (by decide) ?_
  refine lv_istore_n (lv' := [(3, .int (0 : Int32)), (1, .long (1 : Int64)), (0, .int a0)]) hx hb dX2_limit_3 rfl hl (by decide) rfl (fun ls hl => ?_)
  refine hf2_limit_L4 a0 _ 5000 ?_ (1 : Int64) (0 : Int32) H locs ls (lv_sub hl [2, 1, 0] rfl) hP hS h
  · intro v5 H locs ls hl hP hS h
    refine lv_lload_n hx hb dX2_limit_26 rfl (lv_at hl 0 rfl) ?_
    exact sx_lret X hr hlocks hS hP h dX2_limit_27
set_option maxRecDepth 100000 in
theorem ct_2_limit (l : Launch) (C : sx_C) (hG : sx_G C) (a0 : Int32) (M0 : sx_M) (r : Int64) (h : f2_limit a0 M0 = some r) : Met l yX2_limit (.code yX2_limit cX2_limit 4 (some .long) :: sx_T) ({ frames := 0, cells := 0, slots := 0, locals := 0 } : Room) (sx_Pc C M0 [.int a0]) (sx_Q C (some (.long r)) M0) 0 0 (sx_A C) := by
  refine Met.ofW (cc := cX2_limit) (maxL := 4) (ret := (some .long)) (by decide) rfl ?_
  intro p e s m args below meth c s₁ B hml hv
  obtain ⟨rfl, hz, hP, hK⟩ := hv
  have hl := lv_entry ([.int a0]) (n := 4) (Nat.le_of_ble_eq_true rfl)
  rw [lg_entry_eq]
  generalize (lg_sl ([.int a0]) ++ List.replicate (4 - (lg_sl ([.int a0])).length) Slot.unset).toArray = ls at hl ⊢
  exact wk_2_limit ⟨B.exec, B.bytes, hml, findClass_of_methodNamed B.named, fun w hw => atoms_spec B.pre w (List.mem_cons_of_mem _ hw), hK⟩ B.returns B.notSynchronized hG hz ⟨Nat.zero_le _, Nat.zero_le _⟩ ⟨Nat.le_refl _, Nat.le_refl _⟩ a0 M0 r h hl hP va_S.rf
theorem cl_X7_216 (X : sx_X C p m c cc nL s args RX7) (hG : sx_G C) (hP : sx_W C M0 H) (hz : sx_sz C ≤ H0.size) (hS : va_S (sx_A C) H0 H locs) {a0 : Int32} {r : Int64} (h : f2_limit a0 M0 = some r) (hsz : ls.size = nL) (hdg : decode cc pc = .ok (.invokestatic 216, 3)) (hcs : cells ≤ R.cells ∧ slots ≤ R.slots) (hR : 0 + 1 ≤ R.frames ∧ 8 + (4 + 11) + 0 ≤ R.locals) (hrest : (rest.map fun v => v.category).sum ≤ 8) (kk : ∀ (H1 : Heap) (locs1 : List Loc), sx_W C M0 H1 → va_S (sx_A C) H0 H1 locs1 → W p l e R s m args below meth c H1 locs1 cells slots Q (F0 m (pc + 3) ls ((.long r) :: rest))) : W p l e R s m args below meth c H locs cells slots Q (F0 m pc ls (.int a0 :: rest)) :=
  sx_callS (n := 1) (As := [.int a0]) X hP hz hS (sx_goodS tw_909 tw_910 tw_80 tw_911) (by decide +kernel) rfl rfl hR (ct_2_limit l C hG a0 M0 r h) rfl rfl hrest hsz hdg hcs kk
-- StringShed$Script.groupAt(JI)I pure
def f2_groupAt_L5 (w2 : Int32) (M0 : sx_M) (k29 : (Int64 → Option (Int32))) : Nat → Int64 → Int32 → Option (Int32)
  | 0, _, _ => none
  | n + 1, x3, x5 =>
    if w2 ≤ x5 then
      k29 x3
    else
      if (3 : Int32) ≤ x5 then
        k29 x3
      else
        sx_bd (x3 / (100000 : Int64)) fun v3 =>
        sx_bd (x5 + (1 : Int32)) fun v4 =>
        f2_groupAt_L5 w2 M0 k29 n v3 v4
def f2_groupAt (a0 : Int64) (a2 : Int32) (M0 : sx_M) : Option (Int32) :=
  f2_groupAt_L5 a2 M0
    (fun (v5 : Int64) =>
      some ((v5 - v5 / (100000 : Int64) * (100000 : Int64)).toInt32))
    5000 a0 (0 : Int32)
set_option maxRecDepth 100000 in
set_option maxHeartbeats 4000000 in
theorem wk_2_groupAt (X : sx_X C p m c cX2_groupAt 6 s args RX2) (hr : meth.sig.returnType = (some .int)) (hlocks : meth.locks = false) (hG : sx_G C) (hz : sx_sz C ≤ s.heap.size) (hcs : 0 ≤ R.cells ∧ 0 ≤ R.slots) (hR : 0 ≤ R.frames ∧ 0 ≤ R.locals) (a0 : Int64) (a2 : Int32) (M0 : sx_M) (r : Int32) (h : f2_groupAt a0 a2 M0 = some r) (hl : lv_has ls 6 [(0, .long a0), (2, .int a2)]) (hP : sx_W C M0 H) (hS : va_S (sx_A C) s.heap H locs) : W p l e R s m args below meth c H locs 0 0 (sx_Z C (some (.int r)) M0 below args s) (F0 m 0 ls []) := by
  obtain ⟨hx, hb, hml, hown, hts, hK⟩ := id X
  rw [f2_groupAt] at h
  have hf2_groupAt_L5 : ∀ (w2 : Int32) (k29 : (Int64 → Option (Int32))) (n : Nat) (hk29 : (∀ (y3 : Int64) (H : Heap) (locs : List Loc) (ls : Array Slot), lv_has ls 6 [(3, .long y3)] → sx_W C M0 H → va_S (sx_A C) s.heap H locs → k29 y3 = some r → W p l e R s m args below meth c H locs 0 0 (sx_Z C (some (.int r)) M0 below args s) (F0 m 29 ls []))) (x3 : Int64) (x5 : Int32) (H : Heap) (locs : List Loc) (ls : Array Slot), lv_has ls 6 [(2, .int w2), (3, .long x3), (5, .int x5)] → sx_W C M0 H → va_S (sx_A C) s.heap H locs → f2_groupAt_L5 w2 M0 k29 n x3 x5 = some r → W p l e R s m args below meth c H locs 0 0 (sx_Z C (some (.int r)) M0 below args s) (F0 m 5 ls []) := by
    intro w2 k29 n hk29
    induction n with
    | zero => intro x3 x5 H locs ls hl hP hS h; exact absurd (show (none : Option (Int32)) = some r from h) (fun q => nomatch q)
    | succ n ih =>
      intro x3 x5 H locs ls hl hP hS h
      rw [f2_groupAt_L5] at h
      refine lv_iload hx hb dX2_groupAt_5 (lv_at hl 2 rfl) ?_
      refine lv_iload_n hx hb dX2_groupAt_7 rfl (lv_at hl 0 rfl) ?_
      refine lv_icmp_ge (tgt := 29) hx hb dX2_groupAt_8 (by decide) (fun c1 => ?_) (fun c1 => ?_)
      · replace h := sx_ifp h c1
        exact hk29 x3 H locs ls (lv_sub hl [1] rfl) hP hS h
      · replace h := sx_ifn h c1
        refine lv_iload hx hb dX2_groupAt_11 (lv_at hl 2 rfl) ?_
        refine lv_iconst (v := (3 : Int32)) hx hb dX2_groupAt_13 (by decide) ?_
        refine lv_icmp_ge (tgt := 29) hx hb dX2_groupAt_14 (by decide) (fun c2 => ?_) (fun c2 => ?_)
        · replace h := sx_ifp h c2
          exact hk29 x3 H locs ls (lv_sub hl [1] rfl) hP hS h
        · replace h := sx_ifn h c2
          refine lv_lload_n hx hb dX2_groupAt_17 rfl (lv_at hl 1 rfl) ?_
          refine lv_ldc2 (v := (100000 : Int64)) hx hb hown (hts _ tw_912) dX2_groupAt_18 ?_
          refine lv_ldiv hx hb dX2_groupAt_21 (by decide) ?_
          obtain ⟨v3, e_v3, h⟩ := sx_nm h
          rw [e_v3]
          refine lv_lstore_n (lv' := [(3, .long v3), (2, .int w2), (5, .int x5)]) hx hb dX2_groupAt_22 rfl hl (by decide) rfl (fun ls hl => ?_)
          obtain ⟨v4, e_v4, h⟩ := sx_nm h
          refine lv_iinc (v := v4) (lv' := [(5, .int v4), (3, .long v3), (2, .int w2)]) hx hb dX2_groupAt_23 hl (k := 2) rfl (by rw [← e_v4]; rfl) (by decide) rfl (fun ls hl => ?_)
          refine lv_goto (tgt := 5) hx hb dX2_groupAt_26 (by decide) ?_
          exact ih v3 v4 H locs ls (lv_sub hl [2, 1, 0] rfl) hP hS h
  refine lv_lload_n hx hb dX2_groupAt_0 rfl (lv_at hl 0 rfl) ?_
  refine lv_lstore_n (lv' := [(3, .long a0), (0, .long a0), (2, .int a2)]) hx hb dX2_groupAt_1 rfl hl (by decide) rfl (fun ls hl => ?_)
  refine lv_iconst (v := (0 : Int32)) hx hb dX2_groupAt_2 (by decide) ?_
  refine lv_istore (lv' := [(5, .int (0 : Int32)), (3, .long a0), (0, .long a0), (2, .int a2)]) hx hb dX2_groupAt_3 hl (by decide) rfl (fun ls hl => ?_)
  refine hf2_groupAt_L5 a2 _ 5000 ?_ a0 (0 : Int32) H locs ls (lv_sub hl [3, 1, 0] rfl) hP hS h
  · intro v5 H locs ls hl hP hS h
    refine lv_lload_n hx hb dX2_groupAt_29 rfl (lv_at hl 0 rfl) ?_
    refine lv_ldc2 (v := (100000 : Int64)) hx hb hown (hts _ tw_912) dX2_groupAt_30 ?_
    refine lv_lrem hx hb dX2_groupAt_33 (by decide) ?_
    refine lv_l2i (v := (v5 - v5 / (100000 : Int64) * (100000 : Int64)).toInt32) hx hb dX2_groupAt_34 rfl ?_
    exact sx_iret X hr hlocks hS hP h dX2_groupAt_35
set_option maxRecDepth 100000 in
theorem ct_2_groupAt (l : Launch) (C : sx_C) (hG : sx_G C) (a0 : Int64) (a2 : Int32) (M0 : sx_M) (r : Int32) (h : f2_groupAt a0 a2 M0 = some r) : Met l yX2_groupAt (.code yX2_groupAt cX2_groupAt 6 (some .int) :: sx_T) ({ frames := 0, cells := 0, slots := 0, locals := 0 } : Room) (sx_Pc C M0 [.long a0, .int a2]) (sx_Q C (some (.int r)) M0) 0 0 (sx_A C) := by
  refine Met.ofW (cc := cX2_groupAt) (maxL := 6) (ret := (some .int)) (by decide) rfl ?_
  intro p e s m args below meth c s₁ B hml hv
  obtain ⟨rfl, hz, hP, hK⟩ := hv
  have hl := lv_entry ([.long a0, .int a2]) (n := 6) (Nat.le_of_ble_eq_true rfl)
  rw [lg_entry_eq]
  generalize (lg_sl ([.long a0, .int a2]) ++ List.replicate (6 - (lg_sl ([.long a0, .int a2])).length) Slot.unset).toArray = ls at hl ⊢
  exact wk_2_groupAt ⟨B.exec, B.bytes, hml, findClass_of_methodNamed B.named, fun w hw => atoms_spec B.pre w (List.mem_cons_of_mem _ hw), hK⟩ B.returns B.notSynchronized hG hz ⟨Nat.zero_le _, Nat.zero_le _⟩ ⟨Nat.le_refl _, Nat.le_refl _⟩ a0 a2 M0 r h hl hP va_S.rf
theorem cl_X7_224 (X : sx_X C p m c cc nL s args RX7) (hG : sx_G C) (hP : sx_W C M0 H) (hz : sx_sz C ≤ H0.size) (hS : va_S (sx_A C) H0 H locs) {a0 : Int64} {a2 : Int32} {r : Int32} (h : f2_groupAt a0 a2 M0 = some r) (hsz : ls.size = nL) (hdg : decode cc pc = .ok (.invokestatic 224, 3)) (hcs : cells ≤ R.cells ∧ slots ≤ R.slots) (hR : 0 + 1 ≤ R.frames ∧ 8 + (6 + 11) + 0 ≤ R.locals) (hrest : (rest.map fun v => v.category).sum ≤ 8) (kk : ∀ (H1 : Heap) (locs1 : List Loc), sx_W C M0 H1 → va_S (sx_A C) H0 H1 locs1 → W p l e R s m args below meth c H1 locs1 cells slots Q (F0 m (pc + 3) ls ((.int r) :: rest))) : W p l e R s m args below meth c H locs cells slots Q (F0 m pc ls (.int a2 :: .long a0 :: rest)) :=
  sx_callS (n := 2) (As := [.long a0, .int a2]) X hP hz hS (sx_goodS tw_914 tw_915 tw_80 tw_916) (by decide +kernel) rfl rfl hR (ct_2_groupAt l C hG a0 a2 M0 r h) rfl rfl hrest hsz hdg hcs kk
-- StringShed$Script.thingOf(I)I pure
def f2_thingOf (a0 : Int32) (M0 : sx_M) : Option (Int32) :=
  sx_bd (fun (v1 : Int32) =>
    some v1) fun j20 =>
  sx_bd (fun (_ : Unit) =>
    j20 a0) fun j19 =>
  if a0 < (90 : Int32) then
    j19 ()
  else
    if (94 : Int32) ≤ a0 then
      j19 ()
    else
      j20 ((89 : Int32) - a0)
set_option maxRecDepth 100000 in
set_option maxHeartbeats 4000000 in
theorem wk_2_thingOf (X : sx_X C p m c cX2_thingOf 1 s args RX2) (hr : meth.sig.returnType = (some .int)) (hlocks : meth.locks = false) (hG : sx_G C) (hz : sx_sz C ≤ s.heap.size) (hcs : 0 ≤ R.cells ∧ 0 ≤ R.slots) (hR : 0 ≤ R.frames ∧ 0 ≤ R.locals) (a0 : Int32) (M0 : sx_M) (r : Int32) (h : f2_thingOf a0 M0 = some r) (hl : lv_has ls 1 [(0, .int a0)]) (hP : sx_W C M0 H) (hS : va_S (sx_A C) s.heap H locs) : W p l e R s m args below meth c H locs 0 0 (sx_Z C (some (.int r)) M0 below args s) (F0 m 0 ls []) := by
  obtain ⟨hx, hb, hml, hown, hts, hK⟩ := id X
  rw [f2_thingOf] at h
  refine lv_iload_n hx hb dX2_thingOf_0 rfl (lv_at hl 0 rfl) ?_
  refine lv_bipush (v := (90 : Int32)) hx hb dX2_thingOf_1 (by decide) ?_
  obtain ⟨j20, e_j20, h⟩ := sx_nm h
  have hj20 : ∀ (v1 : Int32) (H : Heap) (locs : List Loc) (ls : Array Slot), lv_has ls 1 [] → sx_W C M0 H → va_S (sx_A C) s.heap H locs → j20 v1 = some r → W p l e R s m args below meth c H locs 0 0 (sx_Z C (some (.int r)) M0 below args s) (F0 m 20 ls [.int v1]) := by
    intro v1 H locs ls hl hP hS h
    subst e_j20
    exact sx_iret X hr hlocks hS hP h dX2_thingOf_20
  clear e_j20
  obtain ⟨j19, e_j19, h⟩ := sx_nm h
  have hj19 : ∀ (H : Heap) (locs : List Loc) (ls : Array Slot), lv_has ls 1 [(0, .int a0)] → sx_W C M0 H → va_S (sx_A C) s.heap H locs → j19 () = some r → W p l e R s m args below meth c H locs 0 0 (sx_Z C (some (.int r)) M0 below args s) (F0 m 19 ls []) := by
    intro  H locs ls hl hP hS h
    subst e_j19
    refine lv_iload_n hx hb dX2_thingOf_19 rfl (lv_at hl 0 rfl) ?_
    exact hj20 a0 H locs ls (lv_sub hl [] rfl) hP hS h
  clear e_j19
  refine lv_icmp_lt (tgt := 19) hx hb dX2_thingOf_3 (by decide) (fun c2 => ?_) (fun c2 => ?_)
  · replace h := sx_ifp h c2
    exact hj19 H locs ls (lv_sub hl [0] rfl) hP hS h
  · replace h := sx_ifn h c2
    refine lv_iload_n hx hb dX2_thingOf_6 rfl (lv_at hl 0 rfl) ?_
    refine lv_bipush (v := (94 : Int32)) hx hb dX2_thingOf_7 (by decide) ?_
    refine lv_icmp_ge (tgt := 19) hx hb dX2_thingOf_9 (by decide) (fun c3 => ?_) (fun c3 => ?_)
    · replace h := sx_ifp h c3
      exact hj19 H locs ls (lv_sub hl [0] rfl) hP hS h
    · replace h := sx_ifn h c3
      refine lv_bipush (v := (89 : Int32)) hx hb dX2_thingOf_12 (by decide) ?_
      refine lv_iload_n hx hb dX2_thingOf_14 rfl (lv_at hl 0 rfl) ?_
      refine lv_isub hx hb dX2_thingOf_15 ?_
      refine lv_goto (tgt := 20) hx hb dX2_thingOf_16 (by decide) ?_
      exact hj20 ((89 : Int32) - a0) H locs ls (lv_sub hl [] rfl) hP hS h
set_option maxRecDepth 100000 in
theorem ct_2_thingOf (l : Launch) (C : sx_C) (hG : sx_G C) (a0 : Int32) (M0 : sx_M) (r : Int32) (h : f2_thingOf a0 M0 = some r) : Met l yX2_thingOf (.code yX2_thingOf cX2_thingOf 1 (some .int) :: sx_T) ({ frames := 0, cells := 0, slots := 0, locals := 0 } : Room) (sx_Pc C M0 [.int a0]) (sx_Q C (some (.int r)) M0) 0 0 (sx_A C) := by
  refine Met.ofW (cc := cX2_thingOf) (maxL := 1) (ret := (some .int)) (by decide) rfl ?_
  intro p e s m args below meth c s₁ B hml hv
  obtain ⟨rfl, hz, hP, hK⟩ := hv
  have hl := lv_entry ([.int a0]) (n := 1) (Nat.le_of_ble_eq_true rfl)
  rw [lg_entry_eq]
  generalize (lg_sl ([.int a0]) ++ List.replicate (1 - (lg_sl ([.int a0])).length) Slot.unset).toArray = ls at hl ⊢
  exact wk_2_thingOf ⟨B.exec, B.bytes, hml, findClass_of_methodNamed B.named, fun w hw => atoms_spec B.pre w (List.mem_cons_of_mem _ hw), hK⟩ B.returns B.notSynchronized hG hz ⟨Nat.zero_le _, Nat.zero_le _⟩ ⟨Nat.le_refl _, Nat.le_refl _⟩ a0 M0 r h hl hP va_S.rf
theorem cl_X2_19 (X : sx_X C p m c cc nL s args RX2) (hG : sx_G C) (hP : sx_W C M0 H) (hz : sx_sz C ≤ H0.size) (hS : va_S (sx_A C) H0 H locs) {a0 : Int32} {r : Int32} (h : f2_thingOf a0 M0 = some r) (hsz : ls.size = nL) (hdg : decode cc pc = .ok (.invokestatic 19, 3)) (hcs : cells ≤ R.cells ∧ slots ≤ R.slots) (hR : 0 + 1 ≤ R.frames ∧ 8 + (1 + 11) + 0 ≤ R.locals) (hrest : (rest.map fun v => v.category).sum ≤ 8) (kk : ∀ (H1 : Heap) (locs1 : List Loc), sx_W C M0 H1 → va_S (sx_A C) H0 H1 locs1 → W p l e R s m args below meth c H1 locs1 cells slots Q (F0 m (pc + 3) ls ((.int r) :: rest))) : W p l e R s m args below meth c H locs cells slots Q (F0 m pc ls (.int a0 :: rest)) :=
  sx_callS (n := 1) (As := [.int a0]) X hP hz hS (sx_goodS tw_921 tw_922 tw_80 tw_923) (by decide +kernel) rfl rfl hR (ct_2_thingOf l C hG a0 M0 r h) rfl rfl hrest hsz hdg hcs kk
-- StringShed$Script.takeSteps(LStringShed$Shed;I)Z
def f2_takeSteps (s0 : Nat) (a1 : Int32) (M0 : sx_M) : Option (Int32 × sx_M) :=
  (f5_isGoing s0 M0).bind fun v1 =>
  (f3_takeSteps s0 a1 M0).bind fun M2 =>
  if v1 = 0 ∨ v1 = 1 then some (v1, M2) else none
set_option maxRecDepth 100000 in
set_option maxHeartbeats 4000000 in
theorem wk_2_takeSteps (X : sx_X C p m c cX2_takeSteps 3 s args RX2) (hr : meth.sig.returnType = (some .boolean)) (hlocks : meth.locks = false) (hG : sx_G C) (hz : sx_sz C ≤ s.heap.size) (hcs : 0 ≤ R.cells ∧ 0 ≤ R.slots) (hR : 4 ≤ R.frames ∧ 89 ≤ R.locals) (s0 : Nat) (a1 : Int32) (hs_s0 : s0 < 18) (M0 : sx_M) (r : Int32) (M' : sx_M) (h : f2_takeSteps s0 a1 M0 = some (r, M')) (hl : lv_has ls 3 [(0, .ref (sx_ad C 1 s0)), (1, .int a1)]) (hP : sx_W C M0 H) (hS : va_S (sx_A C) s.heap H locs) : W p l e R s m args below meth c H locs 0 0 (sx_Z C (some (.int r)) M' below args s) (F0 m 0 ls []) := by
  obtain ⟨hx, hb, hml, hown, hts, hK⟩ := id X
  rw [f2_takeSteps] at h
  refine lv_aload_n hx hb dX2_takeSteps_0 rfl (lv_at hl 0 rfl) ?_
  refine gf_X2_41 X hP hs_s0 dX2_takeSteps_1 ?_
  obtain ⟨v1, e_v1, h⟩ := sx_bnd h
  refine cl_X2_45 X hG hP hz hS hs_s0 e_v1 hl.1 dX2_takeSteps_4 hcs ⟨Nat.le_trans (by decide) hR.1, Nat.le_trans (by decide) hR.2⟩ (Nat.le_of_ble_eq_true rfl) (fun H locs hP hS => ?_)
  refine lv_istore_n (lv' := [(2, .int v1), (0, .ref (sx_ad C 1 s0)), (1, .int a1)]) hx hb dX2_takeSteps_7 rfl hl (by decide) rfl (fun ls hl => ?_)
  refine lv_aload_n hx hb dX2_takeSteps_8 rfl (lv_at hl 1 rfl) ?_
  refine lv_iload_n hx hb dX2_takeSteps_9 rfl (lv_at hl 2 rfl) ?_
  obtain ⟨M2, e_M2, h⟩ := sx_bnd h
  refine cl_X2_51 X hG hP hz hS hs_s0 e_M2 hl.1 dX2_takeSteps_10 hcs ⟨Nat.le_trans (by decide) hR.1, Nat.le_trans (by decide) hR.2⟩ (Nat.le_of_ble_eq_true rfl) (fun H locs hP hS => ?_)
  refine lv_iload_n hx hb dX2_takeSteps_13 rfl (lv_at hl 0 rfl) ?_
  obtain ⟨hz01, h⟩ := sx_ck h
  exact sx_zretM X hr hlocks hS hP hz01 h dX2_takeSteps_14
set_option maxRecDepth 100000 in
theorem ct_2_takeSteps (l : Launch) (C : sx_C) (hG : sx_G C) (s0 : Nat) (a1 : Int32) (hs_s0 : s0 < 18) (M0 : sx_M) (r : Int32) (M' : sx_M) (h : f2_takeSteps s0 a1 M0 = some (r, M')) : Met l yX2_takeSteps (.code yX2_takeSteps cX2_takeSteps 3 (some .boolean) :: sx_T) ({ frames := 4, cells := 0, slots := 0, locals := 89 } : Room) (sx_Pc C M0 [.ref (sx_ad C 1 s0), .int a1]) (sx_Q C (some (.int r)) M') 0 0 (sx_A C) := by
  refine Met.ofW (cc := cX2_takeSteps) (maxL := 3) (ret := (some .boolean)) (by decide) rfl ?_
  intro p e s m args below meth c s₁ B hml hv
  obtain ⟨rfl, hz, hP, hK⟩ := hv
  have hl := lv_entry ([.ref (sx_ad C 1 s0), .int a1]) (n := 3) (Nat.le_of_ble_eq_true rfl)
  rw [lg_entry_eq]
  generalize (lg_sl ([.ref (sx_ad C 1 s0), .int a1]) ++ List.replicate (3 - (lg_sl ([.ref (sx_ad C 1 s0), .int a1])).length) Slot.unset).toArray = ls at hl ⊢
  exact wk_2_takeSteps ⟨B.exec, B.bytes, hml, findClass_of_methodNamed B.named, fun w hw => atoms_spec B.pre w (List.mem_cons_of_mem _ hw), hK⟩ B.returns B.notSynchronized hG hz ⟨Nat.zero_le _, Nat.zero_le _⟩ ⟨Nat.le_refl _, Nat.le_refl _⟩ s0 a1 hs_s0 M0 r M' h hl hP va_S.rf
theorem cl_X2_23 (X : sx_X C p m c cc nL s args RX2) (hG : sx_G C) (hP : sx_W C M0 H) (hz : sx_sz C ≤ H0.size) (hS : va_S (sx_A C) H0 H locs) {s0 : Nat} {a1 : Int32} (hs_s0 : s0 < 18) {r : Int32} {M' : sx_M} (h : f2_takeSteps s0 a1 M0 = some (r, M')) (hsz : ls.size = nL) (hdg : decode cc pc = .ok (.invokestatic 23, 3)) (hcs : cells ≤ R.cells ∧ slots ≤ R.slots) (hR : 4 + 1 ≤ R.frames ∧ 8 + (3 + 11) + 89 ≤ R.locals) (hrest : (rest.map fun v => v.category).sum ≤ 8) (kk : ∀ (H1 : Heap) (locs1 : List Loc), sx_W C M' H1 → va_S (sx_A C) H0 H1 locs1 → W p l e R s m args below meth c H1 locs1 cells slots Q (F0 m (pc + 3) ls ((.int r) :: rest))) : W p l e R s m args below meth c H locs cells slots Q (F0 m pc ls (.int a1 :: .ref (sx_ad C 1 s0) :: rest)) :=
  sx_callS (n := 2) (As := [.ref (sx_ad C 1 s0), .int a1]) X hP hz hS (sx_goodS tw_924 tw_925 tw_80 tw_926) (by decide +kernel) rfl rfl hR (ct_2_takeSteps l C hG s0 a1 hs_s0 M0 r M' h) rfl rfl hrest hsz hdg hcs kk
-- StringShed$Script.succeeds(LStringShed$Shed;I)Z
def f2_succeeds (s0 : Nat) (a1 : Int32) (M0 : sx_M) : Option (Int32 × sx_M) :=
  sx_bd (a1 - a1 / (10000 : Int32) * (10000 : Int32)) fun v1 =>
  sx_bd (v1 / (100 : Int32)) fun v2 =>
  sx_bd (v1 - v1 / (100 : Int32) * (100 : Int32)) fun v3 =>
  if (a1 / (10000 : Int32)) = (1 : Int32) then
    sx_b2 (f3_attempt s0 (1 : Int32) (-9 : Int32) v1 (0 : Int32) M0) fun v5 M6 =>
    if v5 = 0 ∨ v5 = 1 then some (v5, M6) else none
  else
  if (a1 / (10000 : Int32)) = (2 : Int32) then
    (f2_thingOf v2 M0).bind fun v8 =>
    sx_b2 (f3_attempt s0 (2 : Int32) v8 v3 (1 : Int32) M0) fun v9 M10 =>
    if v9 = 0 ∨ v9 = 1 then some (v9, M10) else none
  else
  if (a1 / (10000 : Int32)) = (3 : Int32) then
    (f2_thingOf v2 M0).bind fun v12 =>
    sx_b2 (f3_attempt s0 (3 : Int32) v12 v3 (0 : Int32) M0) fun v13 M14 =>
    if v13 = 0 ∨ v13 = 1 then some (v13, M14) else none
  else
  if (a1 / (10000 : Int32)) = (4 : Int32) then
    sx_bd (fun (v16 : Int32) (M17 : sx_M) =>
      if v16 = 0 ∨ v16 = 1 then some (v16, M17) else none) fun j140 =>
    sx_bd (fun (M18 : sx_M) =>
      j140 (0 : Int32) M18) fun j139 =>
    if (1 : Int32) < v2 then
      j139 M0
    else
      sx_bd (fun (v20 : Int32) =>
        sx_b2 (f3_attempt s0 (6 : Int32) (-9 : Int32) v3 v20 M0) fun v21 M22 =>
        if v21 = 0 then
          j139 M22
        else
          j140 (1 : Int32) M22) fun j129 =>
      if v2 = 0 then
        j129 (1 : Int32)
      else
        j129 (0 : Int32)
  else
  if (a1 / (10000 : Int32)) = (5 : Int32) then
    sx_bd (fun (v26 : Int32) (M27 : sx_M) =>
      if v26 = 0 ∨ v26 = 1 then some (v26, M27) else none) fun j164 =>
    sx_bd (fun (M28 : sx_M) =>
      j164 (0 : Int32) M28) fun j163 =>
    if v1 = 0 then
      sx_b2 (f3_attempt s0 (7 : Int32) (-9 : Int32) (-9 : Int32) (0 : Int32) M0) fun v30 M31 =>
      if v30 = 0 then
        j163 M31
      else
        j164 (1 : Int32) M31
    else
      j163 M0
  else
  if (a1 / (10000 : Int32)) = (6 : Int32) then
    sx_bd (fun (v34 : Int32) (M35 : sx_M) =>
      if v34 = 0 ∨ v34 = 1 then some (v34, M35) else none) fun j189 =>
    sx_bd (fun (M36 : sx_M) =>
      j189 (0 : Int32) M36) fun j188 =>
    if v2 = 0 then
      if v3 < (1 : Int32) then
        j188 M0
      else
        sx_b2 (f2_takeSteps s0 v3 M0) fun v39 M40 =>
        if v39 = 0 then
          j188 M40
        else
          j189 (1 : Int32) M40
    else
      j188 M0
  else
  if (a1 / (10000 : Int32)) = (7 : Int32) then
    sx_bd (fun (v43 : Int32) =>
      if v43 = 0 ∨ v43 = 1 then some (v43, M0) else none) fun j238 =>
    sx_bd (fun (_ : Unit) =>
      j238 (0 : Int32)) fun j237 =>
    if (1 : Int32) < v3 then
      j237 ()
    else
      (f3_isPart s0 v2 M0).bind fun v45 =>
      if v45 = 0 then
        j237 ()
      else
        (f3_depthOf s0 v2 M0).bind fun v47 =>
        sx_bd (fun (v48 : Int32) =>
          sx_bd (fun (v49 : Int32) =>
            if v48 = v49 then
              j238 (1 : Int32)
            else
              j237 ()) fun j230 =>
          if v3 = (1 : Int32) then
            j230 (1 : Int32)
          else
            j230 (0 : Int32)) fun j219 =>
        if v47 = (-9 : Int32) then
          j219 (0 : Int32)
        else
          j219 (1 : Int32)
  else
  if (a1 / (10000 : Int32)) = (8 : Int32) then
    (f3_isPart s0 v2 M0).bind fun v54 =>
    sx_bd (fun (v55 : Int32) =>
      if v55 = 0 ∨ v55 = 1 then some (v55, M0) else none) fun j272 =>
    sx_bd (fun (_ : Unit) =>
      j272 (0 : Int32)) fun j271 =>
    if v54 = 0 then
      j271 ()
    else
      (f3_depthOf s0 v2 M0).bind fun v57 =>
      if v57 = (-9 : Int32) then
        j271 ()
      else
        (f3_depthOf s0 v2 M0).bind fun v59 =>
        if v3 < v59 then
          j271 ()
        else
          j272 (1 : Int32)
  else
  if (a1 / (10000 : Int32)) = (9 : Int32) then
    sx_bd (fun (v62 : Int32) =>
      if v62 = 0 ∨ v62 = 1 then some (v62, M0) else none) fun j297 =>
    sx_bd (fun (_ : Unit) =>
      j297 (0 : Int32)) fun j296 =>
    if (1000 : Int32) ≤ v1 then
      j296 ()
    else
      (f3_held s0 M0).bind fun v64 =>
      (f3_weightOf s0 v64 M0).bind fun v65 =>
      if v1 < v65 then
        j296 ()
      else
        j297 (1 : Int32)
  else
    some ((0 : Int32), M0)
set_option maxRecDepth 100000 in
set_option maxHeartbeats 4000000 in
theorem wk_2_succeeds (X : sx_X C p m c cX2_succeeds 5 s args RX2) (hr : meth.sig.returnType = (some .boolean)) (hlocks : meth.locks = false) (hG : sx_G C) (hz : sx_sz C ≤ s.heap.size) (hcs : 0 ≤ R.cells ∧ 0 ≤ R.slots) (hR : 5 ≤ R.frames ∧ 118 ≤ R.locals) (s0 : Nat) (a1 : Int32) (hs_s0 : s0 < 18) (M0 : sx_M) (r : Int32) (M' : sx_M) (h : f2_succeeds s0 a1 M0 = some (r, M')) (hl : lv_has ls 5 [(0, .ref (sx_ad C 1 s0)), (1, .int a1)]) (hP : sx_W C M0 H) (hS : va_S (sx_A C) s.heap H locs) : W p l e R s m args below meth c H locs 0 0 (sx_Z C (some (.int r)) M' below args s) (F0 m 0 ls []) := by
  obtain ⟨hx, hb, hml, hown, hts, hK⟩ := id X
  rw [f2_succeeds] at h
  refine lv_iload_n hx hb dX2_succeeds_0 rfl (lv_at hl 1 rfl) ?_
  refine lv_sipush (v := (10000 : Int32)) hx hb dX2_succeeds_1 (by decide) ?_
  refine lv_irem hx hb dX2_succeeds_4 (by decide) ?_
  obtain ⟨v1, e_v1, h⟩ := sx_nm h
  rw [e_v1]
  refine lv_istore_n (lv' := [(2, .int v1), (0, .ref (sx_ad C 1 s0)), (1, .int a1)]) hx hb dX2_succeeds_5 rfl hl (by decide) rfl (fun ls hl => ?_)
  refine lv_iload_n hx hb dX2_succeeds_6 rfl (lv_at hl 0 rfl) ?_
  refine lv_bipush (v := (100 : Int32)) hx hb dX2_succeeds_7 (by decide) ?_
  refine lv_idiv hx hb dX2_succeeds_9 (by decide) ?_
  obtain ⟨v2, e_v2, h⟩ := sx_nm h
  rw [e_v2]
  refine lv_istore_n (lv' := [(3, .int v2), (2, .int v1), (0, .ref (sx_ad C 1 s0)), (1, .int a1)]) hx hb dX2_succeeds_10 rfl hl (by decide) rfl (fun ls hl => ?_)
  refine lv_iload_n hx hb dX2_succeeds_11 rfl (lv_at hl 1 rfl) ?_
  refine lv_bipush (v := (100 : Int32)) hx hb dX2_succeeds_12 (by decide) ?_
  refine lv_irem hx hb dX2_succeeds_14 (by decide) ?_
  obtain ⟨v3, e_v3, h⟩ := sx_nm h
  rw [e_v3]
  refine lv_istore (lv' := [(4, .int v3), (3, .int v2), (2, .int v1), (0, .ref (sx_ad C 1 s0)), (1, .int a1)]) hx hb dX2_succeeds_15 hl (by decide) rfl (fun ls hl => ?_)
  refine lv_iload_n hx hb dX2_succeeds_17 rfl (lv_at hl 4 rfl) ?_
  refine lv_sipush (v := (10000 : Int32)) hx hb dX2_succeeds_18 (by decide) ?_
  refine lv_idiv hx hb dX2_succeeds_21 (by decide) ?_
  by_cases c4 : (a1 / (10000 : Int32)) = (1 : Int32)
  · replace h := sx_ifp h c4
    refine lv_tableIn (tgt := 72) hx hb dX2_succeeds_22 (by rw [c4]; decide) (by rw [c4]; decide) (by rw [c4]; rfl) (by decide) ?_
    refine lv_aload_n hx hb dX2_succeeds_72 rfl (lv_at hl 3 rfl) ?_
    refine lv_iconst (v := (1 : Int32)) hx hb dX2_succeeds_73 (by decide) ?_
    refine lv_bipush (v := (-9 : Int32)) hx hb dX2_succeeds_74 (by decide) ?_
    refine lv_iload_n hx hb dX2_succeeds_76 rfl (lv_at hl 2 rfl) ?_
    refine lv_iconst (v := (0 : Int32)) hx hb dX2_succeeds_77 (by decide) ?_
    obtain ⟨v5, M6, e_v5, h⟩ := sx_bnd2 h
    refine cl_X2_13 X hG hP hz hS hs_s0 e_v5 hl.1 dX2_succeeds_78 hcs ⟨Nat.le_trans (by decide) hR.1, Nat.le_trans (by decide) hR.2⟩ (Nat.le_of_ble_eq_true rfl) (fun H locs hP hS => ?_)
    obtain ⟨hz01, h⟩ := sx_ck h
    exact sx_zretM X hr hlocks hS hP hz01 h dX2_succeeds_81
  replace h := sx_ifn h c4
  by_cases c7 : (a1 / (10000 : Int32)) = (2 : Int32)
  · replace h := sx_ifp h c7
    refine lv_tableIn (tgt := 82) hx hb dX2_succeeds_22 (by rw [c7]; decide) (by rw [c7]; decide) (by rw [c7]; rfl) (by decide) ?_
    refine lv_aload_n hx hb dX2_succeeds_82 rfl (lv_at hl 3 rfl) ?_
    refine lv_iconst (v := (2 : Int32)) hx hb dX2_succeeds_83 (by decide) ?_
    refine lv_iload_n hx hb dX2_succeeds_84 rfl (lv_at hl 1 rfl) ?_
    obtain ⟨v8, e_v8, h⟩ := sx_bnd h
    refine cl_X2_19 X hG hP hz hS  e_v8 hl.1 dX2_succeeds_85 hcs ⟨Nat.le_trans (by decide) hR.1, Nat.le_trans (by decide) hR.2⟩ (Nat.le_of_ble_eq_true rfl) (fun H locs hP hS => ?_)
    refine lv_iload hx hb dX2_succeeds_88 (lv_at hl 0 rfl) ?_
    refine lv_iconst (v := (1 : Int32)) hx hb dX2_succeeds_90 (by decide) ?_
    obtain ⟨v9, M10, e_v9, h⟩ := sx_bnd2 h
    refine cl_X2_13 X hG hP hz hS hs_s0 e_v9 hl.1 dX2_succeeds_91 hcs ⟨Nat.le_trans (by decide) hR.1, Nat.le_trans (by decide) hR.2⟩ (Nat.le_of_ble_eq_true rfl) (fun H locs hP hS => ?_)
    obtain ⟨hz01, h⟩ := sx_ck h
    exact sx_zretM X hr hlocks hS hP hz01 h dX2_succeeds_94
  replace h := sx_ifn h c7
  by_cases c11 : (a1 / (10000 : Int32)) = (3 : Int32)
  · replace h := sx_ifp h c11
    refine lv_tableIn (tgt := 95) hx hb dX2_succeeds_22 (by rw [c11]; decide) (by rw [c11]; decide) (by rw [c11]; rfl) (by decide) ?_
    refine lv_aload_n hx hb dX2_succeeds_95 rfl (lv_at hl 3 rfl) ?_
    refine lv_iconst (v := (3 : Int32)) hx hb dX2_succeeds_96 (by decide) ?_
    refine lv_iload_n hx hb dX2_succeeds_97 rfl (lv_at hl 1 rfl) ?_
    obtain ⟨v12, e_v12, h⟩ := sx_bnd h
    refine cl_X2_19 X hG hP hz hS  e_v12 hl.1 dX2_succeeds_98 hcs ⟨Nat.le_trans (by decide) hR.1, Nat.le_trans (by decide) hR.2⟩ (Nat.le_of_ble_eq_true rfl) (fun H locs hP hS => ?_)
    refine lv_iload hx hb dX2_succeeds_101 (lv_at hl 0 rfl) ?_
    refine lv_iconst (v := (0 : Int32)) hx hb dX2_succeeds_103 (by decide) ?_
    obtain ⟨v13, M14, e_v13, h⟩ := sx_bnd2 h
    refine cl_X2_13 X hG hP hz hS hs_s0 e_v13 hl.1 dX2_succeeds_104 hcs ⟨Nat.le_trans (by decide) hR.1, Nat.le_trans (by decide) hR.2⟩ (Nat.le_of_ble_eq_true rfl) (fun H locs hP hS => ?_)
    obtain ⟨hz01, h⟩ := sx_ck h
    exact sx_zretM X hr hlocks hS hP hz01 h dX2_succeeds_107
  replace h := sx_ifn h c11
  by_cases c15 : (a1 / (10000 : Int32)) = (4 : Int32)
  · replace h := sx_ifp h c15
    refine lv_tableIn (tgt := 108) hx hb dX2_succeeds_22 (by rw [c15]; decide) (by rw [c15]; decide) (by rw [c15]; rfl) (by decide) ?_
    refine lv_iload_n hx hb dX2_succeeds_108 rfl (lv_at hl 1 rfl) ?_
    refine lv_iconst (v := (1 : Int32)) hx hb dX2_succeeds_109 (by decide) ?_
    obtain ⟨j140, e_j140, h⟩ := sx_nm h
    have hj140 : ∀ (v16 : Int32) (M17 : sx_M) (H : Heap) (locs : List Loc) (ls : Array Slot), lv_has ls 5 [] → sx_W C M17 H → va_S (sx_A C) s.heap H locs → j140 v16 M17 = some (r, M') → W p l e R s m args below meth c H locs 0 0 (sx_Z C (some (.int r)) M' below args s) (F0 m 140 ls [.int v16]) := by
      intro v16 M17 H locs ls hl hP hS h
      subst e_j140
      obtain ⟨hz01, h⟩ := sx_ck h
      exact sx_zretM X hr hlocks hS hP hz01 h dX2_succeeds_140
    clear e_j140
    obtain ⟨j139, e_j139, h⟩ := sx_nm h
    have hj139 : ∀ (M18 : sx_M) (H : Heap) (locs : List Loc) (ls : Array Slot), lv_has ls 5 [] → sx_W C M18 H → va_S (sx_A C) s.heap H locs → j139 M18 = some (r, M') → W p l e R s m args below meth c H locs 0 0 (sx_Z C (some (.int r)) M' below args s) (F0 m 139 ls []) := by
      intro M18 H locs ls hl hP hS h
      subst e_j139
      refine lv_iconst (v := (0 : Int32)) hx hb dX2_succeeds_139 (by decide) ?_
      exact hj140 (0 : Int32) M18 H locs ls (lv_sub hl [] rfl) hP hS h
    clear e_j139
    refine lv_icmp_gt (tgt := 139) hx hb dX2_succeeds_110 (by decide) (fun c19 => ?_) (fun c19 => ?_)
    · replace h := sx_ifp h c19
      exact hj139 M0 H locs ls (lv_sub hl [] rfl) hP hS h
    · replace h := sx_ifn h c19
      refine lv_aload_n hx hb dX2_succeeds_113 rfl (lv_at hl 3 rfl) ?_
      refine lv_bipush (v := (6 : Int32)) hx hb dX2_succeeds_114 (by decide) ?_
      refine lv_bipush (v := (-9 : Int32)) hx hb dX2_succeeds_116 (by decide) ?_
      refine lv_iload hx hb dX2_succeeds_118 (lv_at hl 0 rfl) ?_
      refine lv_iload_n hx hb dX2_succeeds_120 rfl (lv_at hl 1 rfl) ?_
      obtain ⟨j129, e_j129, h⟩ := sx_nm h
      have hj129 : ∀ (v20 : Int32) (H : Heap) (locs : List Loc) (ls : Array Slot), lv_has ls 5 [] → sx_W C M0 H → va_S (sx_A C) s.heap H locs → j129 v20 = some (r, M') → W p l e R s m args below meth c H locs 0 0 (sx_Z C (some (.int r)) M' below args s) (F0 m 129 ls [.int v20, .int v3, .int (-9 : Int32), .int (6 : Int32), .ref (sx_ad C 1 s0)]) := by
        intro v20 H locs ls hl hP hS h
        subst e_j129
        obtain ⟨v21, M22, e_v21, h⟩ := sx_bnd2 h
        refine cl_X2_13 X hG hP hz hS hs_s0 e_v21 hl.1 dX2_succeeds_129 hcs ⟨Nat.le_trans (by decide) hR.1, Nat.le_trans (by decide) hR.2⟩ (Nat.le_of_ble_eq_true rfl) (fun H locs hP hS => ?_)
        refine lv_if_eq (tgt := 139) hx hb dX2_succeeds_132 (by decide) (fun c23 => ?_) (fun c23 => ?_)
        · replace h := sx_ifp h c23
          exact hj139 M22 H locs ls (lv_sub hl [] rfl) hP hS h
        · replace h := sx_ifn h c23
          refine lv_iconst (v := (1 : Int32)) hx hb dX2_succeeds_135 (by decide) ?_
          refine lv_goto (tgt := 140) hx hb dX2_succeeds_136 (by decide) ?_
          exact hj140 (1 : Int32) M22 H locs ls (lv_sub hl [] rfl) hP hS h
      clear e_j129
      refine lv_if_ne (tgt := 128) hx hb dX2_succeeds_121 (by decide) (fun c24 => ?_) (fun c24 => ?_)
      · replace h := sx_ifn h c24
        refine lv_iconst (v := (0 : Int32)) hx hb dX2_succeeds_128 (by decide) ?_
        exact hj129 (0 : Int32) H locs ls (lv_sub hl [] rfl) hP hS h
      · replace h := sx_ifp h c24
        refine lv_iconst (v := (1 : Int32)) hx hb dX2_succeeds_124 (by decide) ?_
        refine lv_goto (tgt := 129) hx hb dX2_succeeds_125 (by decide) ?_
        exact hj129 (1 : Int32) H locs ls (lv_sub hl [] rfl) hP hS h
  replace h := sx_ifn h c15
  by_cases c25 : (a1 / (10000 : Int32)) = (5 : Int32)
  · replace h := sx_ifp h c25
    refine lv_tableIn (tgt := 141) hx hb dX2_succeeds_22 (by rw [c25]; decide) (by rw [c25]; decide) (by rw [c25]; rfl) (by decide) ?_
    refine lv_iload_n hx hb dX2_succeeds_141 rfl (lv_at hl 2 rfl) ?_
    obtain ⟨j164, e_j164, h⟩ := sx_nm h
    have hj164 : ∀ (v26 : Int32) (M27 : sx_M) (H : Heap) (locs : List Loc) (ls : Array Slot), lv_has ls 5 [] → sx_W C M27 H → va_S (sx_A C) s.heap H locs → j164 v26 M27 = some (r, M') → W p l e R s m args below meth c H locs 0 0 (sx_Z C (some (.int r)) M' below args s) (F0 m 164 ls [.int v26]) := by
      intro v26 M27 H locs ls hl hP hS h
      subst e_j164
      obtain ⟨hz01, h⟩ := sx_ck h
      exact sx_zretM X hr hlocks hS hP hz01 h dX2_succeeds_164
    clear e_j164
    obtain ⟨j163, e_j163, h⟩ := sx_nm h
    have hj163 : ∀ (M28 : sx_M) (H : Heap) (locs : List Loc) (ls : Array Slot), lv_has ls 5 [] → sx_W C M28 H → va_S (sx_A C) s.heap H locs → j163 M28 = some (r, M') → W p l e R s m args below meth c H locs 0 0 (sx_Z C (some (.int r)) M' below args s) (F0 m 163 ls []) := by
      intro M28 H locs ls hl hP hS h
      subst e_j163
      refine lv_iconst (v := (0 : Int32)) hx hb dX2_succeeds_163 (by decide) ?_
      exact hj164 (0 : Int32) M28 H locs ls (lv_sub hl [] rfl) hP hS h
    clear e_j163
    refine lv_if_ne (tgt := 163) hx hb dX2_succeeds_142 (by decide) (fun c29 => ?_) (fun c29 => ?_)
    · replace h := sx_ifn h c29
      exact hj163 M0 H locs ls (lv_sub hl [] rfl) hP hS h
    · replace h := sx_ifp h c29
      refine lv_aload_n hx hb dX2_succeeds_145 rfl (lv_at hl 3 rfl) ?_
      refine lv_bipush (v := (7 : Int32)) hx hb dX2_succeeds_146 (by decide) ?_
      refine lv_bipush (v := (-9 : Int32)) hx hb dX2_succeeds_148 (by decide) ?_
      refine lv_bipush (v := (-9 : Int32)) hx hb dX2_succeeds_150 (by decide) ?_
      refine lv_iconst (v := (0 : Int32)) hx hb dX2_succeeds_152 (by decide) ?_
      obtain ⟨v30, M31, e_v30, h⟩ := sx_bnd2 h
      refine cl_X2_13 X hG hP hz hS hs_s0 e_v30 hl.1 dX2_succeeds_153 hcs ⟨Nat.le_trans (by decide) hR.1, Nat.le_trans (by decide) hR.2⟩ (Nat.le_of_ble_eq_true rfl) (fun H locs hP hS => ?_)
      refine lv_if_eq (tgt := 163) hx hb dX2_succeeds_156 (by decide) (fun c32 => ?_) (fun c32 => ?_)
      · replace h := sx_ifp h c32
        exact hj163 M31 H locs ls (lv_sub hl [] rfl) hP hS h
      · replace h := sx_ifn h c32
        refine lv_iconst (v := (1 : Int32)) hx hb dX2_succeeds_159 (by decide) ?_
        refine lv_goto (tgt := 164) hx hb dX2_succeeds_160 (by decide) ?_
        exact hj164 (1 : Int32) M31 H locs ls (lv_sub hl [] rfl) hP hS h
  replace h := sx_ifn h c25
  by_cases c33 : (a1 / (10000 : Int32)) = (6 : Int32)
  · replace h := sx_ifp h c33
    refine lv_tableIn (tgt := 165) hx hb dX2_succeeds_22 (by rw [c33]; decide) (by rw [c33]; decide) (by rw [c33]; rfl) (by decide) ?_
    refine lv_iload_n hx hb dX2_succeeds_165 rfl (lv_at hl 1 rfl) ?_
    obtain ⟨j189, e_j189, h⟩ := sx_nm h
    have hj189 : ∀ (v34 : Int32) (M35 : sx_M) (H : Heap) (locs : List Loc) (ls : Array Slot), lv_has ls 5 [] → sx_W C M35 H → va_S (sx_A C) s.heap H locs → j189 v34 M35 = some (r, M') → W p l e R s m args below meth c H locs 0 0 (sx_Z C (some (.int r)) M' below args s) (F0 m 189 ls [.int v34]) := by
      intro v34 M35 H locs ls hl hP hS h
      subst e_j189
      obtain ⟨hz01, h⟩ := sx_ck h
      exact sx_zretM X hr hlocks hS hP hz01 h dX2_succeeds_189
    clear e_j189
    obtain ⟨j188, e_j188, h⟩ := sx_nm h
    have hj188 : ∀ (M36 : sx_M) (H : Heap) (locs : List Loc) (ls : Array Slot), lv_has ls 5 [] → sx_W C M36 H → va_S (sx_A C) s.heap H locs → j188 M36 = some (r, M') → W p l e R s m args below meth c H locs 0 0 (sx_Z C (some (.int r)) M' below args s) (F0 m 188 ls []) := by
      intro M36 H locs ls hl hP hS h
      subst e_j188
      refine lv_iconst (v := (0 : Int32)) hx hb dX2_succeeds_188 (by decide) ?_
      exact hj189 (0 : Int32) M36 H locs ls (lv_sub hl [] rfl) hP hS h
    clear e_j188
    refine lv_if_ne (tgt := 188) hx hb dX2_succeeds_166 (by decide) (fun c37 => ?_) (fun c37 => ?_)
    · replace h := sx_ifn h c37
      exact hj188 M0 H locs ls (lv_sub hl [] rfl) hP hS h
    · replace h := sx_ifp h c37
      refine lv_iload hx hb dX2_succeeds_169 (lv_at hl 0 rfl) ?_
      refine lv_iconst (v := (1 : Int32)) hx hb dX2_succeeds_171 (by decide) ?_
      refine lv_icmp_lt (tgt := 188) hx hb dX2_succeeds_172 (by decide) (fun c38 => ?_) (fun c38 => ?_)
      · replace h := sx_ifp h c38
        exact hj188 M0 H locs ls (lv_sub hl [] rfl) hP hS h
      · replace h := sx_ifn h c38
        refine lv_aload_n hx hb dX2_succeeds_175 rfl (lv_at hl 3 rfl) ?_
        refine lv_iload hx hb dX2_succeeds_176 (lv_at hl 0 rfl) ?_
        obtain ⟨v39, M40, e_v39, h⟩ := sx_bnd2 h
        refine cl_X2_23 X hG hP hz hS hs_s0 e_v39 hl.1 dX2_succeeds_178 hcs ⟨Nat.le_trans (by decide) hR.1, Nat.le_trans (by decide) hR.2⟩ (Nat.le_of_ble_eq_true rfl) (fun H locs hP hS => ?_)
        refine lv_if_eq (tgt := 188) hx hb dX2_succeeds_181 (by decide) (fun c41 => ?_) (fun c41 => ?_)
        · replace h := sx_ifp h c41
          exact hj188 M40 H locs ls (lv_sub hl [] rfl) hP hS h
        · replace h := sx_ifn h c41
          refine lv_iconst (v := (1 : Int32)) hx hb dX2_succeeds_184 (by decide) ?_
          refine lv_goto (tgt := 189) hx hb dX2_succeeds_185 (by decide) ?_
          exact hj189 (1 : Int32) M40 H locs ls (lv_sub hl [] rfl) hP hS h
  replace h := sx_ifn h c33
  by_cases c42 : (a1 / (10000 : Int32)) = (7 : Int32)
  · replace h := sx_ifp h c42
    refine lv_tableIn (tgt := 190) hx hb dX2_succeeds_22 (by rw [c42]; decide) (by rw [c42]; decide) (by rw [c42]; rfl) (by decide) ?_
    refine lv_iload hx hb dX2_succeeds_190 (lv_at hl 0 rfl) ?_
    refine lv_iconst (v := (1 : Int32)) hx hb dX2_succeeds_192 (by decide) ?_
    obtain ⟨j238, e_j238, h⟩ := sx_nm h
    have hj238 : ∀ (v43 : Int32) (H : Heap) (locs : List Loc) (ls : Array Slot), lv_has ls 5 [] → sx_W C M0 H → va_S (sx_A C) s.heap H locs → j238 v43 = some (r, M') → W p l e R s m args below meth c H locs 0 0 (sx_Z C (some (.int r)) M' below args s) (F0 m 238 ls [.int v43]) := by
      intro v43 H locs ls hl hP hS h
      subst e_j238
      obtain ⟨hz01, h⟩ := sx_ck h
      exact sx_zretM X hr hlocks hS hP hz01 h dX2_succeeds_238
    clear e_j238
    obtain ⟨j237, e_j237, h⟩ := sx_nm h
    have hj237 : ∀ (H : Heap) (locs : List Loc) (ls : Array Slot), lv_has ls 5 [] → sx_W C M0 H → va_S (sx_A C) s.heap H locs → j237 () = some (r, M') → W p l e R s m args below meth c H locs 0 0 (sx_Z C (some (.int r)) M' below args s) (F0 m 237 ls []) := by
      intro  H locs ls hl hP hS h
      subst e_j237
      refine lv_iconst (v := (0 : Int32)) hx hb dX2_succeeds_237 (by decide) ?_
      exact hj238 (0 : Int32) H locs ls (lv_sub hl [] rfl) hP hS h
    clear e_j237
    refine lv_icmp_gt (tgt := 237) hx hb dX2_succeeds_193 (by decide) (fun c44 => ?_) (fun c44 => ?_)
    · replace h := sx_ifp h c44
      exact hj237 H locs ls (lv_sub hl [] rfl) hP hS h
    · replace h := sx_ifn h c44
      refine lv_aload_n hx hb dX2_succeeds_196 rfl (lv_at hl 3 rfl) ?_
      refine lv_iload_n hx hb dX2_succeeds_197 rfl (lv_at hl 1 rfl) ?_
      obtain ⟨v45, e_v45, h⟩ := sx_bnd h
      refine cl_X2_27 X hG hP hz hS hs_s0 e_v45 hl.1 dX2_succeeds_198 hcs ⟨Nat.le_trans (by decide) hR.1, Nat.le_trans (by decide) hR.2⟩ (Nat.le_of_ble_eq_true rfl) (fun H locs hP hS => ?_)
      refine lv_if_eq (tgt := 237) hx hb dX2_succeeds_201 (by decide) (fun c46 => ?_) (fun c46 => ?_)
      · replace h := sx_ifp h c46
        exact hj237 H locs ls (lv_sub hl [] rfl) hP hS h
      · replace h := sx_ifn h c46
        refine lv_aload_n hx hb dX2_succeeds_204 rfl (lv_at hl 3 rfl) ?_
        refine lv_iload_n hx hb dX2_succeeds_205 rfl (lv_at hl 1 rfl) ?_
        obtain ⟨v47, e_v47, h⟩ := sx_bnd h
        refine cl_X2_31 X hG hP hz hS hs_s0 e_v47 hl.1 dX2_succeeds_206 hcs ⟨Nat.le_trans (by decide) hR.1, Nat.le_trans (by decide) hR.2⟩ (Nat.le_of_ble_eq_true rfl) (fun H locs hP hS => ?_)
        refine lv_bipush (v := (-9 : Int32)) hx hb dX2_succeeds_209 (by decide) ?_
        obtain ⟨j219, e_j219, h⟩ := sx_nm h
        have hj219 : ∀ (v48 : Int32) (H : Heap) (locs : List Loc) (ls : Array Slot), lv_has ls 5 [(4, .int v3)] → sx_W C M0 H → va_S (sx_A C) s.heap H locs → j219 v48 = some (r, M') → W p l e R s m args below meth c H locs 0 0 (sx_Z C (some (.int r)) M' below args s) (F0 m 219 ls [.int v48]) := by
          intro v48 H locs ls hl hP hS h
          subst e_j219
          refine lv_iload hx hb dX2_succeeds_219 (lv_at hl 0 rfl) ?_
          refine lv_iconst (v := (1 : Int32)) hx hb dX2_succeeds_221 (by decide) ?_
          obtain ⟨j230, e_j230, h⟩ := sx_nm h
          have hj230 : ∀ (v49 : Int32) (H : Heap) (locs : List Loc) (ls : Array Slot), lv_has ls 5 [] → sx_W C M0 H → va_S (sx_A C) s.heap H locs → j230 v49 = some (r, M') → W p l e R s m args below meth c H locs 0 0 (sx_Z C (some (.int r)) M' below args s) (F0 m 230 ls [.int v49, .int v48]) := by
            intro v49 H locs ls hl hP hS h
            subst e_j230
            refine lv_icmp_ne (tgt := 237) hx hb dX2_succeeds_230 (by decide) (fun c50 => ?_) (fun c50 => ?_)
            · replace h := sx_ifn h c50
              exact hj237 H locs ls (lv_sub hl [] rfl) hP hS h
            · replace h := sx_ifp h c50
              refine lv_iconst (v := (1 : Int32)) hx hb dX2_succeeds_233 (by decide) ?_
              refine lv_goto (tgt := 238) hx hb dX2_succeeds_234 (by decide) ?_
              exact hj238 (1 : Int32) H locs ls (lv_sub hl [] rfl) hP hS h
          clear e_j230
          refine lv_icmp_ne (tgt := 229) hx hb dX2_succeeds_222 (by decide) (fun c51 => ?_) (fun c51 => ?_)
          · replace h := sx_ifn h c51
            refine lv_iconst (v := (0 : Int32)) hx hb dX2_succeeds_229 (by decide) ?_
            exact hj230 (0 : Int32) H locs ls (lv_sub hl [] rfl) hP hS h
          · replace h := sx_ifp h c51
            refine lv_iconst (v := (1 : Int32)) hx hb dX2_succeeds_225 (by decide) ?_
            refine lv_goto (tgt := 230) hx hb dX2_succeeds_226 (by decide) ?_
            exact hj230 (1 : Int32) H locs ls (lv_sub hl [] rfl) hP hS h
        clear e_j219
        refine lv_icmp_eq (tgt := 218) hx hb dX2_succeeds_211 (by decide) (fun c52 => ?_) (fun c52 => ?_)
        · replace h := sx_ifp h c52
          refine lv_iconst (v := (0 : Int32)) hx hb dX2_succeeds_218 (by decide) ?_
          exact hj219 (0 : Int32) H locs ls (lv_sub hl [0] rfl) hP hS h
        · replace h := sx_ifn h c52
          refine lv_iconst (v := (1 : Int32)) hx hb dX2_succeeds_214 (by decide) ?_
          refine lv_goto (tgt := 219) hx hb dX2_succeeds_215 (by decide) ?_
          exact hj219 (1 : Int32) H locs ls (lv_sub hl [0] rfl) hP hS h
  replace h := sx_ifn h c42
  by_cases c53 : (a1 / (10000 : Int32)) = (8 : Int32)
  · replace h := sx_ifp h c53
    refine lv_tableIn (tgt := 239) hx hb dX2_succeeds_22 (by rw [c53]; decide) (by rw [c53]; decide) (by rw [c53]; rfl) (by decide) ?_
    refine lv_aload_n hx hb dX2_succeeds_239 rfl (lv_at hl 3 rfl) ?_
    refine lv_iload_n hx hb dX2_succeeds_240 rfl (lv_at hl 1 rfl) ?_
    obtain ⟨v54, e_v54, h⟩ := sx_bnd h
    refine cl_X2_27 X hG hP hz hS hs_s0 e_v54 hl.1 dX2_succeeds_241 hcs ⟨Nat.le_trans (by decide) hR.1, Nat.le_trans (by decide) hR.2⟩ (Nat.le_of_ble_eq_true rfl) (fun H locs hP hS => ?_)
    obtain ⟨j272, e_j272, h⟩ := sx_nm h
    have hj272 : ∀ (v55 : Int32) (H : Heap) (locs : List Loc) (ls : Array Slot), lv_has ls 5 [] → sx_W C M0 H → va_S (sx_A C) s.heap H locs → j272 v55 = some (r, M') → W p l e R s m args below meth c H locs 0 0 (sx_Z C (some (.int r)) M' below args s) (F0 m 272 ls [.int v55]) := by
      intro v55 H locs ls hl hP hS h
      subst e_j272
      obtain ⟨hz01, h⟩ := sx_ck h
      exact sx_zretM X hr hlocks hS hP hz01 h dX2_succeeds_272
    clear e_j272
    obtain ⟨j271, e_j271, h⟩ := sx_nm h
    have hj271 : ∀ (H : Heap) (locs : List Loc) (ls : Array Slot), lv_has ls 5 [] → sx_W C M0 H → va_S (sx_A C) s.heap H locs → j271 () = some (r, M') → W p l e R s m args below meth c H locs 0 0 (sx_Z C (some (.int r)) M' below args s) (F0 m 271 ls []) := by
      intro  H locs ls hl hP hS h
      subst e_j271
      refine lv_iconst (v := (0 : Int32)) hx hb dX2_succeeds_271 (by decide) ?_
      exact hj272 (0 : Int32) H locs ls (lv_sub hl [] rfl) hP hS h
    clear e_j271
    refine lv_if_eq (tgt := 271) hx hb dX2_succeeds_244 (by decide) (fun c56 => ?_) (fun c56 => ?_)
    · replace h := sx_ifp h c56
      exact hj271 H locs ls (lv_sub hl [] rfl) hP hS h
    · replace h := sx_ifn h c56
      refine lv_aload_n hx hb dX2_succeeds_247 rfl (lv_at hl 3 rfl) ?_
      refine lv_iload_n hx hb dX2_succeeds_248 rfl (lv_at hl 1 rfl) ?_
      obtain ⟨v57, e_v57, h⟩ := sx_bnd h
      refine cl_X2_31 X hG hP hz hS hs_s0 e_v57 hl.1 dX2_succeeds_249 hcs ⟨Nat.le_trans (by decide) hR.1, Nat.le_trans (by decide) hR.2⟩ (Nat.le_of_ble_eq_true rfl) (fun H locs hP hS => ?_)
      refine lv_bipush (v := (-9 : Int32)) hx hb dX2_succeeds_252 (by decide) ?_
      refine lv_icmp_eq (tgt := 271) hx hb dX2_succeeds_254 (by decide) (fun c58 => ?_) (fun c58 => ?_)
      · replace h := sx_ifp h c58
        exact hj271 H locs ls (lv_sub hl [] rfl) hP hS h
      · replace h := sx_ifn h c58
        refine lv_aload_n hx hb dX2_succeeds_257 rfl (lv_at hl 3 rfl) ?_
        refine lv_iload_n hx hb dX2_succeeds_258 rfl (lv_at hl 1 rfl) ?_
        obtain ⟨v59, e_v59, h⟩ := sx_bnd h
        refine cl_X2_31 X hG hP hz hS hs_s0 e_v59 hl.1 dX2_succeeds_259 hcs ⟨Nat.le_trans (by decide) hR.1, Nat.le_trans (by decide) hR.2⟩ (Nat.le_of_ble_eq_true rfl) (fun H locs hP hS => ?_)
        refine lv_iload hx hb dX2_succeeds_262 (lv_at hl 0 rfl) ?_
        refine lv_icmp_gt (tgt := 271) hx hb dX2_succeeds_264 (by decide) (fun c60 => ?_) (fun c60 => ?_)
        · replace h := sx_ifp h c60
          exact hj271 H locs ls (lv_sub hl [] rfl) hP hS h
        · replace h := sx_ifn h c60
          refine lv_iconst (v := (1 : Int32)) hx hb dX2_succeeds_267 (by decide) ?_
          refine lv_goto (tgt := 272) hx hb dX2_succeeds_268 (by decide) ?_
          exact hj272 (1 : Int32) H locs ls (lv_sub hl [] rfl) hP hS h
  replace h := sx_ifn h c53
  by_cases c61 : (a1 / (10000 : Int32)) = (9 : Int32)
  · replace h := sx_ifp h c61
    refine lv_tableIn (tgt := 273) hx hb dX2_succeeds_22 (by rw [c61]; decide) (by rw [c61]; decide) (by rw [c61]; rfl) (by decide) ?_
    refine lv_iload_n hx hb dX2_succeeds_273 rfl (lv_at hl 2 rfl) ?_
    refine lv_sipush (v := (1000 : Int32)) hx hb dX2_succeeds_274 (by decide) ?_
    obtain ⟨j297, e_j297, h⟩ := sx_nm h
    have hj297 : ∀ (v62 : Int32) (H : Heap) (locs : List Loc) (ls : Array Slot), lv_has ls 5 [] → sx_W C M0 H → va_S (sx_A C) s.heap H locs → j297 v62 = some (r, M') → W p l e R s m args below meth c H locs 0 0 (sx_Z C (some (.int r)) M' below args s) (F0 m 297 ls [.int v62]) := by
      intro v62 H locs ls hl hP hS h
      subst e_j297
      obtain ⟨hz01, h⟩ := sx_ck h
      exact sx_zretM X hr hlocks hS hP hz01 h dX2_succeeds_297
    clear e_j297
    obtain ⟨j296, e_j296, h⟩ := sx_nm h
    have hj296 : ∀ (H : Heap) (locs : List Loc) (ls : Array Slot), lv_has ls 5 [] → sx_W C M0 H → va_S (sx_A C) s.heap H locs → j296 () = some (r, M') → W p l e R s m args below meth c H locs 0 0 (sx_Z C (some (.int r)) M' below args s) (F0 m 296 ls []) := by
      intro  H locs ls hl hP hS h
      subst e_j296
      refine lv_iconst (v := (0 : Int32)) hx hb dX2_succeeds_296 (by decide) ?_
      exact hj297 (0 : Int32) H locs ls (lv_sub hl [] rfl) hP hS h
    clear e_j296
    refine lv_icmp_ge (tgt := 296) hx hb dX2_succeeds_277 (by decide) (fun c63 => ?_) (fun c63 => ?_)
    · replace h := sx_ifp h c63
      exact hj296 H locs ls (lv_sub hl [] rfl) hP hS h
    · replace h := sx_ifn h c63
      refine lv_aload_n hx hb dX2_succeeds_280 rfl (lv_at hl 3 rfl) ?_
      refine lv_aload_n hx hb dX2_succeeds_281 rfl (lv_at hl 3 rfl) ?_
      obtain ⟨v64, e_v64, h⟩ := sx_bnd h
      refine cl_X2_34 X hG hP hz hS hs_s0 e_v64 hl.1 dX2_succeeds_282 hcs ⟨Nat.le_trans (by decide) hR.1, Nat.le_trans (by decide) hR.2⟩ (Nat.le_of_ble_eq_true rfl) (fun H locs hP hS => ?_)
      obtain ⟨v65, e_v65, h⟩ := sx_bnd h
      refine cl_X2_38 X hG hP hz hS hs_s0 e_v65 hl.1 dX2_succeeds_285 hcs ⟨Nat.le_trans (by decide) hR.1, Nat.le_trans (by decide) hR.2⟩ (Nat.le_of_ble_eq_true rfl) (fun H locs hP hS => ?_)
      refine lv_iload_n hx hb dX2_succeeds_288 rfl (lv_at hl 2 rfl) ?_
      refine lv_icmp_gt (tgt := 296) hx hb dX2_succeeds_289 (by decide) (fun c66 => ?_) (fun c66 => ?_)
      · replace h := sx_ifp h c66
        exact hj296 H locs ls (lv_sub hl [] rfl) hP hS h
      · replace h := sx_ifn h c66
        refine lv_iconst (v := (1 : Int32)) hx hb dX2_succeeds_292 (by decide) ?_
        refine lv_goto (tgt := 297) hx hb dX2_succeeds_293 (by decide) ?_
        exact hj297 (1 : Int32) H locs ls (lv_sub hl [] rfl) hP hS h
  replace h := sx_ifn h c61
  have t_c4 := lv_neT (a := 1) c4 (by decide)
  have t_c7 := lv_neT (a := 2) c7 (by decide)
  have t_c11 := lv_neT (a := 3) c11 (by decide)
  have t_c15 := lv_neT (a := 4) c15 (by decide)
  have t_c25 := lv_neT (a := 5) c25 (by decide)
  have t_c33 := lv_neT (a := 6) c33 (by decide)
  have t_c42 := lv_neT (a := 7) c42 (by decide)
  have t_c53 := lv_neT (a := 8) c53 (by decide)
  have t_c61 := lv_neT (a := 9) c61 (by decide)
  refine lv_tableOut (tgt := 298) hx hb dX2_succeeds_22 (by omega) (by decide) ?_
  refine lv_iconst (v := (0 : Int32)) hx hb dX2_succeeds_298 (by decide) ?_
  exact sx_zretM X hr hlocks hS hP (by decide) h dX2_succeeds_299
set_option maxRecDepth 100000 in
theorem ct_2_succeeds (l : Launch) (C : sx_C) (hG : sx_G C) (s0 : Nat) (a1 : Int32) (hs_s0 : s0 < 18) (M0 : sx_M) (r : Int32) (M' : sx_M) (h : f2_succeeds s0 a1 M0 = some (r, M')) : Met l yX2_succeeds (.code yX2_succeeds cX2_succeeds 5 (some .boolean) :: sx_T) ({ frames := 5, cells := 0, slots := 0, locals := 118 } : Room) (sx_Pc C M0 [.ref (sx_ad C 1 s0), .int a1]) (sx_Q C (some (.int r)) M') 0 0 (sx_A C) := by
  refine Met.ofW (cc := cX2_succeeds) (maxL := 5) (ret := (some .boolean)) (by decide) rfl ?_
  intro p e s m args below meth c s₁ B hml hv
  obtain ⟨rfl, hz, hP, hK⟩ := hv
  have hl := lv_entry ([.ref (sx_ad C 1 s0), .int a1]) (n := 5) (Nat.le_of_ble_eq_true rfl)
  rw [lg_entry_eq]
  generalize (lg_sl ([.ref (sx_ad C 1 s0), .int a1]) ++ List.replicate (5 - (lg_sl ([.ref (sx_ad C 1 s0), .int a1])).length) Slot.unset).toArray = ls at hl ⊢
  exact wk_2_succeeds ⟨B.exec, B.bytes, hml, findClass_of_methodNamed B.named, fun w hw => atoms_spec B.pre w (List.mem_cons_of_mem _ hw), hK⟩ B.returns B.notSynchronized hG hz ⟨Nat.zero_le _, Nat.zero_le _⟩ ⟨Nat.le_refl _, Nat.le_refl _⟩ s0 a1 hs_s0 M0 r M' h hl hP va_S.rf
theorem cl_X7_228 (X : sx_X C p m c cc nL s args RX7) (hG : sx_G C) (hP : sx_W C M0 H) (hz : sx_sz C ≤ H0.size) (hS : va_S (sx_A C) H0 H locs) {s0 : Nat} {a1 : Int32} (hs_s0 : s0 < 18) {r : Int32} {M' : sx_M} (h : f2_succeeds s0 a1 M0 = some (r, M')) (hsz : ls.size = nL) (hdg : decode cc pc = .ok (.invokestatic 228, 3)) (hcs : cells ≤ R.cells ∧ slots ≤ R.slots) (hR : 5 + 1 ≤ R.frames ∧ 8 + (5 + 11) + 118 ≤ R.locals) (hrest : (rest.map fun v => v.category).sum ≤ 8) (kk : ∀ (H1 : Heap) (locs1 : List Loc), sx_W C M' H1 → va_S (sx_A C) H0 H1 locs1 → W p l e R s m args below meth c H1 locs1 cells slots Q (F0 m (pc + 3) ls ((.int r) :: rest))) : W p l e R s m args below meth c H locs cells slots Q (F0 m pc ls (.int a1 :: .ref (sx_ad C 1 s0) :: rest)) :=
  sx_callS (n := 2) (As := [.ref (sx_ad C 1 s0), .int a1]) X hP hz hS (sx_goodS tw_917 tw_918 tw_80 tw_919) (by decide +kernel) rfl rfl hR (ct_2_succeeds l C hG s0 a1 hs_s0 M0 r M' h) rfl rfl hrest hsz hdg hcs kk
end SXM
