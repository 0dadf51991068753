section SXM
variable {p : Program} {l : Launch} {e : Env} {R : Room} {s : State} {m : MethodId} {args : Array Value} {below : List Frame} {meth : Method} {c : Code} {H : Heap} {locs : List Loc} {cells slots : Nat} {Q : State → Prop}
variable {O : Type} {out : O} {C : sx_C} {M M0 : sx_M} {cc : ByteArray} {nL : Nat} {own : String} {pc : Nat} {ls : Array Slot} {rest : List Value} {H0 : Heap}
-- StringShed.bitOf(I)I pure
def f7_bitOf (a0 : Int32) (M0 : sx_M) : Option (Int32) :=
  sx_bd (fun (v1 : Int32) =>
    some v1) fun j21 =>
  sx_bd (fun (_ : Unit) =>
    j21 (0 : Int32)) fun j20 =>
  if a0 < (-4 : Int32) then
    j20 ()
  else
    if (24 : Int32) ≤ a0 then
      j20 ()
    else
      j21 ((1 : Int32) <<< ((a0 + (4 : Int32)) &&& 31))
set_option maxRecDepth 100000 in
set_option maxHeartbeats 4000000 in
theorem wk_7_bitOf (X : sx_X C p m c cX7_bitOf 1 s args RX7) (hr : meth.sig.returnType = (some .int)) (hlocks : meth.locks = false) (hG : sx_G C) (hz : sx_sz C ≤ s.heap.size) (hcs : 0 ≤ R.cells ∧ 0 ≤ R.slots) (hR : 0 ≤ R.frames ∧ 0 ≤ R.locals) (a0 : Int32) (M0 : sx_M) (r : Int32) (h : f7_bitOf a0 M0 = some r) (hl : lv_has ls 1 [(0, .int a0)]) (hP : sx_W C M0 H) (hS : va_S (sx_A C) s.heap H locs) : W p l e R s m args below meth c H locs 0 0 (sx_Z C (some (.int r)) M0 below args s) (F0 m 0 ls []) := by
  obtain ⟨hx, hb, hml, hown, hts, hK⟩ := id X
  rw [f7_bitOf] at h
  refine lv_iload_n hx hb dX7_bitOf_0 rfl (lv_at hl 0 rfl) ?_
  refine lv_bipush (v := (-4 : Int32)) hx hb dX7_bitOf_1 (by decide) ?_
  obtain ⟨j21, e_j21, h⟩ := sx_nm h
  have hj21 : ∀ (v1 : Int32) (H : Heap) (locs : List Loc) (ls : Array Slot), lv_has ls 1 [] → sx_W C M0 H → va_S (sx_A C) s.heap H locs → j21 v1 = some r → W p l e R s m args below meth c H locs 0 0 (sx_Z C (some (.int r)) M0 below args s) (F0 m 21 ls [.int v1]) := by
    intro v1 H locs ls hl hP hS h
    subst e_j21
    exact sx_iret X hr hlocks hS hP h dX7_bitOf_21
  clear e_j21
  obtain ⟨j20, e_j20, h⟩ := sx_nm h
  have hj20 : ∀ (H : Heap) (locs : List Loc) (ls : Array Slot), lv_has ls 1 [] → sx_W C M0 H → va_S (sx_A C) s.heap H locs → j20 () = some r → W p l e R s m args below meth c H locs 0 0 (sx_Z C (some (.int r)) M0 below args s) (F0 m 20 ls []) := by
    intro  H locs ls hl hP hS h
    subst e_j20
    refine lv_iconst (v := (0 : Int32)) hx hb dX7_bitOf_20 (by decide) ?_
    exact hj21 (0 : Int32) H locs ls (lv_sub hl [] rfl) hP hS h
  clear e_j20
  refine lv_icmp_lt (tgt := 20) hx hb dX7_bitOf_3 (by decide) (fun c2 => ?_) (fun c2 => ?_)
  · replace h := sx_ifp h c2
    exact hj20 H locs ls (lv_sub hl [] rfl) hP hS h
  · replace h := sx_ifn h c2
    refine lv_iload_n hx hb dX7_bitOf_6 rfl (lv_at hl 0 rfl) ?_
    refine lv_bipush (v := (24 : Int32)) hx hb dX7_bitOf_7 (by decide) ?_
    refine lv_icmp_ge (tgt := 20) hx hb dX7_bitOf_9 (by decide) (fun c3 => ?_) (fun c3 => ?_)
    · replace h := sx_ifp h c3
      exact hj20 H locs ls (lv_sub hl [] rfl) hP hS h
    · replace h := sx_ifn h c3
      refine lv_iconst (v := (1 : Int32)) hx hb dX7_bitOf_12 (by decide) ?_
      refine lv_iload_n hx hb dX7_bitOf_13 rfl (lv_at hl 0 rfl) ?_
      refine lv_iconst (v := (4 : Int32)) hx hb dX7_bitOf_14 (by decide) ?_
      refine lv_iadd hx hb dX7_bitOf_15 ?_
      refine lv_ishl hx hb dX7_bitOf_16 ?_
      refine lv_goto (tgt := 21) hx hb dX7_bitOf_17 (by decide) ?_
      exact hj21 ((1 : Int32) <<< ((a0 + (4 : Int32)) &&& 31)) H locs ls (lv_sub hl [] rfl) hP hS h
set_option maxRecDepth 100000 in
theorem ct_7_bitOf (l : Launch) (C : sx_C) (hG : sx_G C) (a0 : Int32) (M0 : sx_M) (r : Int32) (h : f7_bitOf a0 M0 = some r) : Met l yX7_bitOf (.code yX7_bitOf cX7_bitOf 1 (some .int) :: sx_T) ({ frames := 0, cells := 0, slots := 0, locals := 0 } : Room) (sx_Pc C M0 [.int a0]) (sx_Q C (some (.int r)) M0) 0 0 (sx_A C) := by
  refine Met.ofW (cc := cX7_bitOf) (maxL := 1) (ret := (some .int)) (by decide) rfl ?_
  intro p e s m args below meth c s₁ B hml hv
  obtain ⟨rfl, hz, hP, hK⟩ := hv
  have hl := lv_entry ([.int a0]) (n := 1) (Nat.le_of_ble_eq_true rfl)
  rw [lg_entry_eq]
  generalize (lg_sl ([.int a0]) ++ List.replicate (1 - (lg_sl ([.int a0])).length) Slot.unset).toArray = ls at hl ⊢
  exact wk_7_bitOf ⟨B.exec, B.bytes, hml, findClass_of_methodNamed B.named, fun w hw => atoms_spec B.pre w (List.mem_cons_of_mem _ hw), hK⟩ B.returns B.notSynchronized hG hz ⟨Nat.zero_le _, Nat.zero_le _⟩ ⟨Nat.le_refl _, Nat.le_refl _⟩ a0 M0 r h hl hP va_S.rf
theorem cl_X0_27 (X : sx_X C p m c cc nL s args RX0) (hG : sx_G C) (hP : sx_W C M0 H) (hz : sx_sz C ≤ H0.size) (hS : va_S (sx_A C) H0 H locs) {a0 : Int32} {r : Int32} (h : f7_bitOf a0 M0 = some r) (hsz : ls.size = nL) (hdg : decode cc pc = .ok (.invokestatic 27, 3)) (hcs : cells ≤ R.cells ∧ slots ≤ R.slots) (hR : 0 + 1 ≤ R.frames ∧ 8 + (1 + 11) + 0 ≤ R.locals) (hrest : (rest.map fun v => v.category).sum ≤ 8) (kk : ∀ (H1 : Heap) (locs1 : List Loc), sx_W C M0 H1 → va_S (sx_A C) H0 H1 locs1 → W p l e R s m args below meth c H1 locs1 cells slots Q (F0 m (pc + 3) ls ((.int r) :: rest))) : W p l e R s m args below meth c H locs cells slots Q (F0 m pc ls (.int a0 :: rest)) :=
  sx_callSN (n := 1) (host := "StringShed") (As := [.int a0]) X hP hz hS (sx_goodN tw_291) (List.mem_of_getElem? (i := 9) rfl) tw_64 tw_290 (by decide +kernel) rfl rfl hR (ct_7_bitOf l C hG a0 M0 r h) rfl rfl hrest hsz hdg hcs kk
theorem cl_X3_64 (X : sx_X C p m c cc nL s args RX3) (hG : sx_G C) (hP : sx_W C M0 H) (hz : sx_sz C ≤ H0.size) (hS : va_S (sx_A C) H0 H locs) {a0 : Int32} {r : Int32} (h : f7_bitOf a0 M0 = some r) (hsz : ls.size = nL) (hdg : decode cc pc = .ok (.invokestatic 64, 3)) (hcs : cells ≤ R.cells ∧ slots ≤ R.slots) (hR : 0 + 1 ≤ R.frames ∧ 8 + (1 + 11) + 0 ≤ R.locals) (hrest : (rest.map fun v => v.category).sum ≤ 8) (kk : ∀ (H1 : Heap) (locs1 : List Loc), sx_W C M0 H1 → va_S (sx_A C) H0 H1 locs1 → W p l e R s m args below meth c H1 locs1 cells slots Q (F0 m (pc + 3) ls ((.int r) :: rest))) : W p l e R s m args below meth c H locs cells slots Q (F0 m pc ls (.int a0 :: rest)) :=
  sx_callSN (n := 1) (host := "StringShed") (As := [.int a0]) X hP hz hS (sx_goodN tw_291) (List.mem_of_getElem? (i := 6) rfl) tw_64 tw_290 (by decide +kernel) rfl rfl hR (ct_7_bitOf l C hG a0 M0 r h) rfl rfl hrest hsz hdg hcs kk
theorem cl_X4_30 (X : sx_X C p m c cc nL s args RX4) (hG : sx_G C) (hP : sx_W C M0 H) (hz : sx_sz C ≤ H0.size) (hS : va_S (sx_A C) H0 H locs) {a0 : Int32} {r : Int32} (h : f7_bitOf a0 M0 = some r) (hsz : ls.size = nL) (hdg : decode cc pc = .ok (.invokestatic 30, 3)) (hcs : cells ≤ R.cells ∧ slots ≤ R.slots) (hR : 0 + 1 ≤ R.frames ∧ 8 + (1 + 11) + 0 ≤ R.locals) (hrest : (rest.map fun v => v.category).sum ≤ 8) (kk : ∀ (H1 : Heap) (locs1 : List Loc), sx_W C M0 H1 → va_S (sx_A C) H0 H1 locs1 → W p l e R s m args below meth c H1 locs1 cells slots Q (F0 m (pc + 3) ls ((.int r) :: rest))) : W p l e R s m args below meth c H locs cells slots Q (F0 m pc ls (.int a0 :: rest)) :=
  sx_callSN (n := 1) (host := "StringShed") (As := [.int a0]) X hP hz hS (sx_goodN tw_291) (List.mem_of_getElem? (i := 7) rfl) tw_64 tw_290 (by decide +kernel) rfl rfl hR (ct_7_bitOf l C hG a0 M0 r h) rfl rfl hrest hsz hdg hcs kk
theorem cl_X5_32 (X : sx_X C p m c cc nL s args RX5) (hG : sx_G C) (hP : sx_W C M0 H) (hz : sx_sz C ≤ H0.size) (hS : va_S (sx_A C) H0 H locs) {a0 : Int32} {r : Int32} (h : f7_bitOf a0 M0 = some r) (hsz : ls.size = nL) (hdg : decode cc pc = .ok (.invokestatic 32, 3)) (hcs : cells ≤ R.cells ∧ slots ≤ R.slots) (hR : 0 + 1 ≤ R.frames ∧ 8 + (1 + 11) + 0 ≤ R.locals) (hrest : (rest.map fun v => v.category).sum ≤ 8) (kk : ∀ (H1 : Heap) (locs1 : List Loc), sx_W C M0 H1 → va_S (sx_A C) H0 H1 locs1 → W p l e R s m args below meth c H1 locs1 cells slots Q (F0 m (pc + 3) ls ((.int r) :: rest))) : W p l e R s m args below meth c H locs cells slots Q (F0 m pc ls (.int a0 :: rest)) :=
  sx_callSN (n := 1) (host := "StringShed") (As := [.int a0]) X hP hz hS (sx_goodN tw_291) (List.mem_of_getElem? (i := 8) rfl) tw_64 tw_290 (by decide +kernel) rfl rfl hR (ct_7_bitOf l C hG a0 M0 r h) rfl rfl hrest hsz hdg hcs kk
-- java/lang/Math.floorMod(II)I pure
def fJ9_floorMod_7cf53 (a0 : Int32) (a1 : Int32) (M0 : sx_M) : Option (Int32) :=
  if a1 = 0 then none else
  sx_bd (a0 - a0 / a1 * a1) fun v1 =>
  sx_bd (fun (_ : Unit) =>
    some v1) fun j18 =>
  if 0 ≤ (a0 ^^^ a1) then
    j18 ()
  else
    if v1 = 0 then
      j18 ()
    else
      some (v1 + a1)
set_option maxRecDepth 100000 in
set_option maxHeartbeats 4000000 in
theorem wk_J9_floorMod_7cf53 (X : sx_X C p m c cJ9_floorMod_7cf53 3 s args RJ9) (hr : meth.sig.returnType = (some .int)) (hlocks : meth.locks = false) (hG : sx_G C) (hz : sx_sz C ≤ s.heap.size) (hcs : 0 ≤ R.cells ∧ 0 ≤ R.slots) (hR : 0 ≤ R.frames ∧ 0 ≤ R.locals) (a0 : Int32) (a1 : Int32) (M0 : sx_M) (r : Int32) (h : fJ9_floorMod_7cf53 a0 a1 M0 = some r) (hl : lv_has ls 3 [(0, .int a0), (1, .int a1)]) (hP : sx_W C M0 H) (hS : va_S (sx_A C) s.heap H locs) : W p l e R s m args below meth c H locs 0 0 (sx_Z C (some (.int r)) M0 below args s) (F0 m 0 ls []) := by
  obtain ⟨hx, hb, hml, hown, hts, hK⟩ := id X
  rw [fJ9_floorMod_7cf53] at h
  refine lv_iload_n hx hb dJ9_floorMod_7cf53_0 rfl (lv_at hl 0 rfl) ?_
  refine lv_iload_n hx hb dJ9_floorMod_7cf53_1 rfl (lv_at hl 1 rfl) ?_
  obtain ⟨h_2, h⟩ := sx_ckn h
  refine lv_irem hx hb dJ9_floorMod_7cf53_2 h_2 ?_
  obtain ⟨v1, e_v1, h⟩ := sx_nm h
  rw [e_v1]
  refine lv_istore_n (lv' := [(2, .int v1), (0, .int a0), (1, .int a1)]) hx hb dJ9_floorMod_7cf53_3 rfl hl (by decide) rfl (fun ls hl => ?_)
  refine lv_iload_n hx hb dJ9_floorMod_7cf53_4 rfl (lv_at hl 1 rfl) ?_
  refine lv_iload_n hx hb dJ9_floorMod_7cf53_5 rfl (lv_at hl 2 rfl) ?_
  refine lv_ixor hx hb dJ9_floorMod_7cf53_6 ?_
  obtain ⟨j18, e_j18, h⟩ := sx_nm h
  have hj18 : ∀ (H : Heap) (locs : List Loc) (ls : Array Slot), lv_has ls 3 [(2, .int v1)] → sx_W C M0 H → va_S (sx_A C) s.heap H locs → j18 () = some r → W p l e R s m args below meth c H locs 0 0 (sx_Z C (some (.int r)) M0 below args s) (F0 m 18 ls []) := by
    intro  H locs ls hl hP hS h
    subst e_j18
    refine lv_iload_n hx hb dJ9_floorMod_7cf53_18 rfl (lv_at hl 0 rfl) ?_
    exact sx_iret X hr hlocks hS hP h dJ9_floorMod_7cf53_19
  clear e_j18
  refine lv_if_ge (tgt := 18) hx hb dJ9_floorMod_7cf53_7 (by decide) (fun c2 => ?_) (fun c2 => ?_)
  · replace h := sx_ifp h c2
    exact hj18 H locs ls (lv_sub hl [0] rfl) hP hS h
  · replace h := sx_ifn h c2
    refine lv_iload_n hx hb dJ9_floorMod_7cf53_10 rfl (lv_at hl 0 rfl) ?_
    refine lv_if_eq (tgt := 18) hx hb dJ9_floorMod_7cf53_11 (by decide) (fun c3 => ?_) (fun c3 => ?_)
    · replace h := sx_ifp h c3
      exact hj18 H locs ls (lv_sub hl [0] rfl) hP hS h
    · replace h := sx_ifn h c3
      refine lv_iload_n hx hb dJ9_floorMod_7cf53_14 rfl (lv_at hl 0 rfl) ?_
      refine lv_iload_n hx hb dJ9_floorMod_7cf53_15 rfl (lv_at hl 2 rfl) ?_
      refine lv_iadd hx hb dJ9_floorMod_7cf53_16 ?_
      exact sx_iret X hr hlocks hS hP h dJ9_floorMod_7cf53_17
set_option maxRecDepth 100000 in
theorem ct_J9_floorMod_7cf53 (l : Launch) (C : sx_C) (hG : sx_G C) (a0 : Int32) (a1 : Int32) (M0 : sx_M) (r : Int32) (h : fJ9_floorMod_7cf53 a0 a1 M0 = some r) : Met l yJ9_floorMod_7cf53 (.code yJ9_floorMod_7cf53 cJ9_floorMod_7cf53 3 (some .int) :: sx_T) ({ frames := 0, cells := 0, slots := 0, locals := 0 } : Room) (sx_Pc C M0 [.int a0, .int a1]) (sx_Q C (some (.int r)) M0) 0 0 (sx_A C) := by
  refine sx_ofWF (cc := cJ9_floorMod_7cf53) (maxL := 3) (ret := (some .int)) (by decide +kernel) rfl ?_
  intro p e s m args below meth c s₁ B hml hv
  obtain ⟨rfl, hz, hP, hK⟩ := hv
  have hl := lv_entry ([.int a0, .int a1]) (n := 3) (Nat.le_of_ble_eq_true rfl)
  rw [lg_entry_eq]
  generalize (lg_sl ([.int a0, .int a1]) ++ List.replicate (3 - (lg_sl ([.int a0, .int a1])).length) Slot.unset).toArray = ls at hl ⊢
  exact wk_J9_floorMod_7cf53 ⟨B.exec, B.bytes, hml, findClass_of_methodNamed B.named, fun w hw => atoms_spec B.pre w (List.mem_cons_of_mem _ hw), hK⟩ B.returns B.notSynchronized hG hz ⟨Nat.zero_le _, Nat.zero_le _⟩ ⟨Nat.le_refl _, Nat.le_refl _⟩ a0 a1 M0 r h hl hP va_S.rf
theorem cl_X1_33 (X : sx_X C p m c cc nL s args RX1) (hG : sx_G C) (hP : sx_W C M0 H) (hz : sx_sz C ≤ H0.size) (hS : va_S (sx_A C) H0 H locs) {a0 : Int32} {a1 : Int32} {r : Int32} (h : fJ9_floorMod_7cf53 a0 a1 M0 = some r) (hsz : ls.size = nL) (hdg : decode cc pc = .ok (.invokestatic 33, 3)) (hcs : cells ≤ R.cells ∧ slots ≤ R.slots) (hR : 0 + 1 ≤ R.frames ∧ 8 + (3 + 11) + 0 ≤ R.locals) (hrest : (rest.map fun v => v.category).sum ≤ 8) (kk : ∀ (H1 : Heap) (locs1 : List Loc), sx_W C M0 H1 → va_S (sx_A C) H0 H1 locs1 → W p l e R s m args below meth c H1 locs1 cells slots Q (F0 m (pc + 3) ls ((.int r) :: rest))) : W p l e R s m args below meth c H locs cells slots Q (F0 m pc ls (.int a1 :: .int a0 :: rest)) :=
  sx_callS (n := 2) (As := [.int a0, .int a1]) X hP hz hS (sx_goodS tw_774 tw_775 tw_79 tw_776) (by decide +kernel) rfl rfl hR (ct_J9_floorMod_7cf53 l C hG a0 a1 M0 r h) rfl rfl hrest hsz hdg hcs kk
-- java/lang/Integer.bitCount(I)I pure
def fJ6_bitCount_0f7a4 (a0 : Int32) (M0 : sx_M) : Option (Int32) :=
  sx_bd (a0 - (((a0.toUInt32 >>> ((1 : Int32).toUInt32 &&& Int32.toUInt32 31)).toInt32) &&& (1431655765 : Int32))) fun v1 =>
  sx_bd ((v1 &&& (858993459 : Int32)) + (((v1.toUInt32 >>> ((2 : Int32).toUInt32 &&& Int32.toUInt32 31)).toInt32) &&& (858993459 : Int32))) fun v2 =>
  sx_bd ((v2 + ((v2.toUInt32 >>> ((4 : Int32).toUInt32 &&& Int32.toUInt32 31)).toInt32)) &&& (252645135 : Int32)) fun v3 =>
  sx_bd (v3 + ((v3.toUInt32 >>> ((8 : Int32).toUInt32 &&& Int32.toUInt32 31)).toInt32)) fun v4 =>
  sx_bd (v4 + ((v4.toUInt32 >>> ((16 : Int32).toUInt32 &&& Int32.toUInt32 31)).toInt32)) fun v5 =>
  some (v5 &&& (63 : Int32))
set_option maxRecDepth 100000 in
set_option maxHeartbeats 4000000 in
theorem wk_J6_bitCount_0f7a4 (X : sx_X C p m c cJ6_bitCount_0f7a4 1 s args RJ6) (hr : meth.sig.returnType = (some .int)) (hlocks : meth.locks = false) (hG : sx_G C) (hz : sx_sz C ≤ s.heap.size) (hcs : 0 ≤ R.cells ∧ 0 ≤ R.slots) (hR : 0 ≤ R.frames ∧ 0 ≤ R.locals) (a0 : Int32) (M0 : sx_M) (r : Int32) (h : fJ6_bitCount_0f7a4 a0 M0 = some r) (hl : lv_has ls 1 [(0, .int a0)]) (hP : sx_W C M0 H) (hS : va_S (sx_A C) s.heap H locs) : W p l e R s m args below meth c H locs 0 0 (sx_Z C (some (.int r)) M0 below args s) (F0 m 0 ls []) := by
  obtain ⟨hx, hb, hml, hown, hts, hK⟩ := id X
  rw [fJ6_bitCount_0f7a4] at h
  refine lv_iload_n hx hb dJ6_bitCount_0f7a4_0 rfl (lv_at hl 0 rfl) ?_
  refine lv_iload_n hx hb dJ6_bitCount_0f7a4_1 rfl (lv_at hl 0 rfl) ?_
  refine lv_iconst (v := (1 : Int32)) hx hb dJ6_bitCount_0f7a4_2 (by decide) ?_
  refine lv_iushr (v := (a0.toUInt32 >>> ((1 : Int32).toUInt32 &&& Int32.toUInt32 31)).toInt32) hx hb dJ6_bitCount_0f7a4_3 rfl ?_
  refine lv_ldcw (v := (1431655765 : Int32)) hx hb hown (hts _ tw_392) dJ6_bitCount_0f7a4_4 ?_
  refine lv_iand hx hb dJ6_bitCount_0f7a4_7 ?_
  refine lv_isub hx hb dJ6_bitCount_0f7a4_8 ?_
  obtain ⟨v1, e_v1, h⟩ := sx_nm h
  rw [e_v1]
  refine lv_istore_n (lv' := [(0, .int v1)]) hx hb dJ6_bitCount_0f7a4_9 rfl hl (by decide) rfl (fun ls hl => ?_)
  refine lv_iload_n hx hb dJ6_bitCount_0f7a4_10 rfl (lv_at hl 0 rfl) ?_
  refine lv_ldcw (v := (858993459 : Int32)) hx hb hown (hts _ tw_393) dJ6_bitCount_0f7a4_11 ?_
  refine lv_iand hx hb dJ6_bitCount_0f7a4_14 ?_
  refine lv_iload_n hx hb dJ6_bitCount_0f7a4_15 rfl (lv_at hl 0 rfl) ?_
  refine lv_iconst (v := (2 : Int32)) hx hb dJ6_bitCount_0f7a4_16 (by decide) ?_
  refine lv_iushr (v := (v1.toUInt32 >>> ((2 : Int32).toUInt32 &&& Int32.toUInt32 31)).toInt32) hx hb dJ6_bitCount_0f7a4_17 rfl ?_
  refine lv_ldcw (v := (858993459 : Int32)) hx hb hown (hts _ tw_393) dJ6_bitCount_0f7a4_18 ?_
  refine lv_iand hx hb dJ6_bitCount_0f7a4_21 ?_
  refine lv_iadd hx hb dJ6_bitCount_0f7a4_22 ?_
  obtain ⟨v2, e_v2, h⟩ := sx_nm h
  rw [e_v2]
  refine lv_istore_n (lv' := [(0, .int v2)]) hx hb dJ6_bitCount_0f7a4_23 rfl hl (by decide) rfl (fun ls hl => ?_)
  refine lv_iload_n hx hb dJ6_bitCount_0f7a4_24 rfl (lv_at hl 0 rfl) ?_
  refine lv_iload_n hx hb dJ6_bitCount_0f7a4_25 rfl (lv_at hl 0 rfl) ?_
  refine lv_iconst (v := (4 : Int32)) hx hb dJ6_bitCount_0f7a4_26 (by decide) ?_
  refine lv_iushr (v := (v2.toUInt32 >>> ((4 : Int32).toUInt32 &&& Int32.toUInt32 31)).toInt32) hx hb dJ6_bitCount_0f7a4_27 rfl ?_
  refine lv_iadd hx hb dJ6_bitCount_0f7a4_28 ?_
  refine lv_ldcw (v := (252645135 : Int32)) hx hb hown (hts _ tw_394) dJ6_bitCount_0f7a4_29 ?_
  refine lv_iand hx hb dJ6_bitCount_0f7a4_32 ?_
  obtain ⟨v3, e_v3, h⟩ := sx_nm h
  rw [e_v3]
  refine lv_istore_n (lv' := [(0, .int v3)]) hx hb dJ6_bitCount_0f7a4_33 rfl hl (by decide) rfl (fun ls hl => ?_)
  refine lv_iload_n hx hb dJ6_bitCount_0f7a4_34 rfl (lv_at hl 0 rfl) ?_
  refine lv_iload_n hx hb dJ6_bitCount_0f7a4_35 rfl (lv_at hl 0 rfl) ?_
  refine lv_bipush (v := (8 : Int32)) hx hb dJ6_bitCount_0f7a4_36 (by decide) ?_
  refine lv_iushr (v := (v3.toUInt32 >>> ((8 : Int32).toUInt32 &&& Int32.toUInt32 31)).toInt32) hx hb dJ6_bitCount_0f7a4_38 rfl ?_
  refine lv_iadd hx hb dJ6_bitCount_0f7a4_39 ?_
  obtain ⟨v4, e_v4, h⟩ := sx_nm h
  rw [e_v4]
  refine lv_istore_n (lv' := [(0, .int v4)]) hx hb dJ6_bitCount_0f7a4_40 rfl hl (by decide) rfl (fun ls hl => ?_)
  refine lv_iload_n hx hb dJ6_bitCount_0f7a4_41 rfl (lv_at hl 0 rfl) ?_
  refine lv_iload_n hx hb dJ6_bitCount_0f7a4_42 rfl (lv_at hl 0 rfl) ?_
  refine lv_bipush (v := (16 : Int32)) hx hb dJ6_bitCount_0f7a4_43 (by decide) ?_
  refine lv_iushr (v := (v4.toUInt32 >>> ((16 : Int32).toUInt32 &&& Int32.toUInt32 31)).toInt32) hx hb dJ6_bitCount_0f7a4_45 rfl ?_
  refine lv_iadd hx hb dJ6_bitCount_0f7a4_46 ?_
  obtain ⟨v5, e_v5, h⟩ := sx_nm h
  rw [e_v5]
  refine lv_istore_n (lv' := [(0, .int v5)]) hx hb dJ6_bitCount_0f7a4_47 rfl hl (by decide) rfl (fun ls hl => ?_)
  refine lv_iload_n hx hb dJ6_bitCount_0f7a4_48 rfl (lv_at hl 0 rfl) ?_
  refine lv_bipush (v := (63 : Int32)) hx hb dJ6_bitCount_0f7a4_49 (by decide) ?_
  refine lv_iand hx hb dJ6_bitCount_0f7a4_51 ?_
  exact sx_iret X hr hlocks hS hP h dJ6_bitCount_0f7a4_52
set_option maxRecDepth 100000 in
theorem ct_J6_bitCount_0f7a4 (l : Launch) (C : sx_C) (hG : sx_G C) (a0 : Int32) (M0 : sx_M) (r : Int32) (h : fJ6_bitCount_0f7a4 a0 M0 = some r) : Met l yJ6_bitCount_0f7a4 (.code yJ6_bitCount_0f7a4 cJ6_bitCount_0f7a4 1 (some .int) :: sx_T) ({ frames := 0, cells := 0, slots := 0, locals := 0 } : Room) (sx_Pc C M0 [.int a0]) (sx_Q C (some (.int r)) M0) 0 0 (sx_A C) := by
  refine sx_ofWF (cc := cJ6_bitCount_0f7a4) (maxL := 1) (ret := (some .int)) (by decide +kernel) rfl ?_
  intro p e s m args below meth c s₁ B hml hv
  obtain ⟨rfl, hz, hP, hK⟩ := hv
  have hl := lv_entry ([.int a0]) (n := 1) (Nat.le_of_ble_eq_true rfl)
  rw [lg_entry_eq]
  generalize (lg_sl ([.int a0]) ++ List.replicate (1 - (lg_sl ([.int a0])).length) Slot.unset).toArray = ls at hl ⊢
  exact wk_J6_bitCount_0f7a4 ⟨B.exec, B.bytes, hml, findClass_of_methodNamed B.named, fun w hw => atoms_spec B.pre w (List.mem_cons_of_mem _ hw), hK⟩ B.returns B.notSynchronized hG hz ⟨Nat.zero_le _, Nat.zero_le _⟩ ⟨Nat.le_refl _, Nat.le_refl _⟩ a0 M0 r h hl hP va_S.rf
theorem cl_X3_58 (X : sx_X C p m c cc nL s args RX3) (hG : sx_G C) (hP : sx_W C M0 H) (hz : sx_sz C ≤ H0.size) (hS : va_S (sx_A C) H0 H locs) {a0 : Int32} {r : Int32} (h : fJ6_bitCount_0f7a4 a0 M0 = some r) (hsz : ls.size = nL) (hdg : decode cc pc = .ok (.invokestatic 58, 3)) (hcs : cells ≤ R.cells ∧ slots ≤ R.slots) (hR : 0 + 1 ≤ R.frames ∧ 8 + (1 + 11) + 0 ≤ R.locals) (hrest : (rest.map fun v => v.category).sum ≤ 8) (kk : ∀ (H1 : Heap) (locs1 : List Loc), sx_W C M0 H1 → va_S (sx_A C) H0 H1 locs1 → W p l e R s m args below meth c H1 locs1 cells slots Q (F0 m (pc + 3) ls ((.int r) :: rest))) : W p l e R s m args below meth c H locs cells slots Q (F0 m pc ls (.int a0 :: rest)) :=
  sx_callS (n := 1) (As := [.int a0]) X hP hz hS (sx_goodS tw_389 tw_390 tw_77 tw_391) (by decide +kernel) rfl rfl hR (ct_J6_bitCount_0f7a4 l C hG a0 M0 r h) rfl rfl hrest hsz hdg hcs kk
theorem cl_X7_206 (X : sx_X C p m c cc nL s args RX7) (hG : sx_G C) (hP : sx_W C M0 H) (hz : sx_sz C ≤ H0.size) (hS : va_S (sx_A C) H0 H locs) {a0 : Int32} {r : Int32} (h : fJ6_bitCount_0f7a4 a0 M0 = some r) (hsz : ls.size = nL) (hdg : decode cc pc = .ok (.invokestatic 206, 3)) (hcs : cells ≤ R.cells ∧ slots ≤ R.slots) (hR : 0 + 1 ≤ R.frames ∧ 8 + (1 + 11) + 0 ≤ R.locals) (hrest : (rest.map fun v => v.category).sum ≤ 8) (kk : ∀ (H1 : Heap) (locs1 : List Loc), sx_W C M0 H1 → va_S (sx_A C) H0 H1 locs1 → W p l e R s m args below meth c H1 locs1 cells slots Q (F0 m (pc + 3) ls ((.int r) :: rest))) : W p l e R s m args below meth c H locs cells slots Q (F0 m pc ls (.int a0 :: rest)) :=
  sx_callS (n := 1) (As := [.int a0]) X hP hz hS (sx_goodS tw_422 tw_390 tw_77 tw_391) (by decide +kernel) rfl rfl hR (ct_J6_bitCount_0f7a4 l C hG a0 M0 r h) rfl rfl hrest hsz hdg hcs kk
end SXM
