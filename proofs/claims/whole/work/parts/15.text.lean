section SXM
variable {p : Program} {l : Launch} {e : Env} {R : Room} {s : State} {m : MethodId} {args : Array Value} {below : List Frame} {meth : Method} {c : Code} {H : Heap} {locs : List Loc} {cells slots : Nat} {Q : State → Prop}
variable {O : Type} {out : O} {C : sx_C} {M M0 : sx_M} {cc : ByteArray} {nL : Nat} {own : String} {pc : Nat} {ls : Array Slot} {rest : List Value} {H0 : Heap}
-- StringShed$Text.isFull()Z pure
def f6_isFull  (M0 : sx_M) : Option (Int32) :=
  sx_bd (M0.1 13 0 1) fun v1 =>
  sx_bd (fun (v2 : Int32) =>
    if v2 = 0 ∨ v2 = 1 then some v2 else none) fun j14 =>
  if v1 < (120 : Int32) then
    j14 (0 : Int32)
  else
    j14 (1 : Int32)
set_option maxRecDepth 100000 in
set_option maxHeartbeats 4000000 in
theorem wk_6_isFull (X : sx_X C p m c cX6_isFull 1 s args RX6) (hr : meth.sig.returnType = (some .boolean)) (hlocks : meth.locks = false) (hG : sx_G C) (hz : sx_sz C ≤ s.heap.size) (hcs : 0 ≤ R.cells ∧ 0 ≤ R.slots) (hR : 0 ≤ R.frames ∧ 0 ≤ R.locals) (M0 : sx_M) (r : Int32) (h : f6_isFull M0 = some r) (hl : lv_has ls 1 [(0, .ref (sx_ad C 13 0))]) (hP : sx_W C M0 H) (hS : va_S (sx_A C) s.heap H locs) : W p l e R s m args below meth c H locs 0 0 (sx_Z C (some (.int r)) M0 below args s) (F0 m 0 ls []) := by
  obtain ⟨hx, hb, hml, hown, hts, hK⟩ := id X
  rw [f6_isFull] at h
  refine lv_aload_n hx hb dX6_isFull_0 rfl (lv_at hl 0 rfl) ?_
  refine gf_X6_15 X hP (by decide) dX6_isFull_1 h (fun v1 h => ?_)
  refine lv_bipush (v := (120 : Int32)) hx hb dX6_isFull_4 (by decide) ?_
  obtain ⟨j14, e_j14, h⟩ := sx_nm h
  have hj14 : ∀ (v2 : Int32) (H : Heap) (locs : List Loc) (ls : Array Slot), lv_has ls 1 [] → sx_W C M0 H → va_S (sx_A C) s.heap H locs → j14 v2 = some r → W p l e R s m args below meth c H locs 0 0 (sx_Z C (some (.int r)) M0 below args s) (F0 m 14 ls [.int v2]) := by
    intro v2 H locs ls hl hP hS h
    subst e_j14
    obtain ⟨hz01, h⟩ := sx_ck h
    exact sx_zret X hr hlocks hS hP hz01 h dX6_isFull_14
  clear e_j14
  refine lv_icmp_lt (tgt := 13) hx hb dX6_isFull_6 (by decide) (fun c3 => ?_) (fun c3 => ?_)
  · replace h := sx_ifp h c3
    refine lv_iconst (v := (0 : Int32)) hx hb dX6_isFull_13 (by decide) ?_
    exact hj14 (0 : Int32) H locs ls (lv_sub hl [] rfl) hP hS h
  · replace h := sx_ifn h c3
    refine lv_iconst (v := (1 : Int32)) hx hb dX6_isFull_9 (by decide) ?_
    refine lv_goto (tgt := 14) hx hb dX6_isFull_10 (by decide) ?_
    exact hj14 (1 : Int32) H locs ls (lv_sub hl [] rfl) hP hS h
set_option maxRecDepth 100000 in
theorem ct_6_isFull (l : Launch) (C : sx_C) (hG : sx_G C) (M0 : sx_M) (r : Int32) (h : f6_isFull M0 = some r) : Met l yX6_isFull (.code yX6_isFull cX6_isFull 1 (some .boolean) :: sx_T) ({ frames := 0, cells := 0, slots := 0, locals := 0 } : Room) (sx_Pc C M0 [.ref (sx_ad C 13 0)]) (sx_Q C (some (.int r)) M0) 0 0 (sx_A C) := by
  refine Met.ofW (cc := cX6_isFull) (maxL := 1) (ret := (some .boolean)) (by decide) rfl ?_
  intro p e s m args below meth c s₁ B hml hv
  obtain ⟨rfl, hz, hP, hK⟩ := hv
  have hl := lv_entry ([.ref (sx_ad C 13 0)]) (n := 1) (Nat.le_of_ble_eq_true rfl)
  rw [lg_entry_eq]
  generalize (lg_sl ([.ref (sx_ad C 13 0)]) ++ List.replicate (1 - (lg_sl ([.ref (sx_ad C 13 0)])).length) Slot.unset).toArray = ls at hl ⊢
  exact wk_6_isFull ⟨B.exec, B.bytes, hml, findClass_of_methodNamed B.named, fun w hw => atoms_spec B.pre w (List.mem_cons_of_mem _ hw), hK⟩ B.returns B.notSynchronized hG hz ⟨Nat.zero_le _, Nat.zero_le _⟩ ⟨Nat.le_refl _, Nat.le_refl _⟩ M0 r h hl hP va_S.rf
theorem cl_X7_55 (X : sx_X C p m c cc nL s args RX7) (hG : sx_G C) (hP : sx_W C M0 H) (hz : sx_sz C ≤ H0.size) (hS : va_S (sx_A C) H0 H locs) {r : Int32} (h : f6_isFull M0 = some r) (hsz : ls.size = nL) (hdg : decode cc pc = .ok (.invokevirtual 55, 3)) (hcs : cells ≤ R.cells ∧ slots ≤ R.slots) (hR : 0 + 1 ≤ R.frames ∧ 8 + (1 + 11) + 0 ≤ R.locals) (hrest : (rest.map fun v => v.category).sum ≤ 8) (kk : ∀ (H1 : Heap) (locs1 : List Loc), sx_W C M0 H1 → va_S (sx_A C) H0 H1 locs1 → W p l e R s m args below meth c H1 locs1 cells slots Q (F0 m (pc + 3) ls ((.int r) :: rest))) : W p l e R s m args below meth c H locs cells slots Q (F0 m pc ls (.ref (sx_ad C 13 0) :: rest)) :=
  sx_callV (n := 0) (As := []) (k0 := 13) (s0 := 0) X hP hz hS (by decide) rfl rfl (sx_goodV tw_500 tw_501 tw_502 tw_69 tw_503) (by decide +kernel) rfl rfl hR (ct_6_isFull l C hG M0 r h) rfl rfl hrest hsz hdg hcs kk
-- StringShed$Text.size()I pure
def f6_size  (M0 : sx_M) : Option (Int32) :=
  sx_bd (M0.1 13 0 1) fun v1 =>
  some v1
set_option maxRecDepth 100000 in
set_option maxHeartbeats 4000000 in
theorem wk_6_size (X : sx_X C p m c cX6_size 1 s args RX6) (hr : meth.sig.returnType = (some .int)) (hlocks : meth.locks = false) (hG : sx_G C) (hz : sx_sz C ≤ s.heap.size) (hcs : 0 ≤ R.cells ∧ 0 ≤ R.slots) (hR : 0 ≤ R.frames ∧ 0 ≤ R.locals) (M0 : sx_M) (r : Int32) (h : f6_size M0 = some r) (hl : lv_has ls 1 [(0, .ref (sx_ad C 13 0))]) (hP : sx_W C M0 H) (hS : va_S (sx_A C) s.heap H locs) : W p l e R s m args below meth c H locs 0 0 (sx_Z C (some (.int r)) M0 below args s) (F0 m 0 ls []) := by
  obtain ⟨hx, hb, hml, hown, hts, hK⟩ := id X
  rw [f6_size] at h
  refine lv_aload_n hx hb dX6_size_0 rfl (lv_at hl 0 rfl) ?_
  refine gf_X6_15 X hP (by decide) dX6_size_1 h (fun v1 h => ?_)
  exact sx_iret X hr hlocks hS hP h dX6_size_4
set_option maxRecDepth 100000 in
theorem ct_6_size (l : Launch) (C : sx_C) (hG : sx_G C) (M0 : sx_M) (r : Int32) (h : f6_size M0 = some r) : Met l yX6_size (.code yX6_size cX6_size 1 (some .int) :: sx_T) ({ frames := 0, cells := 0, slots := 0, locals := 0 } : Room) (sx_Pc C M0 [.ref (sx_ad C 13 0)]) (sx_Q C (some (.int r)) M0) 0 0 (sx_A C) := by
  refine Met.ofW (cc := cX6_size) (maxL := 1) (ret := (some .int)) (by decide) rfl ?_
  intro p e s m args below meth c s₁ B hml hv
  obtain ⟨rfl, hz, hP, hK⟩ := hv
  have hl := lv_entry ([.ref (sx_ad C 13 0)]) (n := 1) (Nat.le_of_ble_eq_true rfl)
  rw [lg_entry_eq]
  generalize (lg_sl ([.ref (sx_ad C 13 0)]) ++ List.replicate (1 - (lg_sl ([.ref (sx_ad C 13 0)])).length) Slot.unset).toArray = ls at hl ⊢
  exact wk_6_size ⟨B.exec, B.bytes, hml, findClass_of_methodNamed B.named, fun w hw => atoms_spec B.pre w (List.mem_cons_of_mem _ hw), hK⟩ B.returns B.notSynchronized hG hz ⟨Nat.zero_le _, Nat.zero_le _⟩ ⟨Nat.le_refl _, Nat.le_refl _⟩ M0 r h hl hP va_S.rf
theorem cl_X7_83 (X : sx_X C p m c cc nL s args RX7) (hG : sx_G C) (hP : sx_W C M0 H) (hz : sx_sz C ≤ H0.size) (hS : va_S (sx_A C) H0 H locs) {r : Int32} (h : f6_size M0 = some r) (hsz : ls.size = nL) (hdg : decode cc pc = .ok (.invokevirtual 83, 3)) (hcs : cells ≤ R.cells ∧ slots ≤ R.slots) (hR : 0 + 1 ≤ R.frames ∧ 8 + (1 + 11) + 0 ≤ R.locals) (hrest : (rest.map fun v => v.category).sum ≤ 8) (kk : ∀ (H1 : Heap) (locs1 : List Loc), sx_W C M0 H1 → va_S (sx_A C) H0 H1 locs1 → W p l e R s m args below meth c H1 locs1 cells slots Q (F0 m (pc + 3) ls ((.int r) :: rest))) : W p l e R s m args below meth c H locs cells slots Q (F0 m pc ls (.ref (sx_ad C 13 0) :: rest)) :=
  sx_callV (n := 0) (As := []) (k0 := 13) (s0 := 0) X hP hz hS (by decide) rfl rfl (sx_goodV tw_544 tw_545 tw_546 tw_69 tw_547) (by decide +kernel) rfl rfl hR (ct_6_size l C hG M0 r h) rfl rfl hrest hsz hdg hcs kk
-- StringShed$Text.add(I)I
def f6_add (a1 : Int32) (M0 : sx_M) : Option (Int32 × sx_M) :=
  sx_bd (M0.1 13 0 1) fun v1 =>
  sx_bd (fun (M2 : sx_M) =>
    sx_bd (M2.1 13 0 1) fun v3 =>
    some (v3, M2)) fun j36 =>
  if v1 < 0 then
    j36 M0
  else
    sx_bd (M0.1 13 0 1) fun v5 =>
    if (120 : Int32) ≤ v5 then
      j36 M0
    else
      sx_bd (M0.1 13 0 1) fun v7 =>
      if sx_in v7 120 then
      sx_bd (sx_set M0 14 0 (v7).toNatClampNeg a1) fun M8 =>
      sx_bd (M8.1 13 0 1) fun v9 =>
      sx_bd (sx_set M8 13 0 1 (v9 + (1 : Int32))) fun M10 =>
      j36 M10
      else none
set_option maxRecDepth 100000 in
set_option maxHeartbeats 4000000 in
theorem wk_6_add (X : sx_X C p m c cX6_add 2 s args RX6) (hr : meth.sig.returnType = (some .int)) (hlocks : meth.locks = false) (hG : sx_G C) (hz : sx_sz C ≤ s.heap.size) (hcs : 0 ≤ R.cells ∧ 0 ≤ R.slots) (hR : 0 ≤ R.frames ∧ 0 ≤ R.locals) (a1 : Int32) (M0 : sx_M) (r : Int32) (M' : sx_M) (h : f6_add a1 M0 = some (r, M')) (hl : lv_has ls 2 [(0, .ref (sx_ad C 13 0)), (1, .int a1)]) (hP : sx_W C M0 H) (hS : va_S (sx_A C) s.heap H locs) : W p l e R s m args below meth c H locs 0 0 (sx_Z C (some (.int r)) M' below args s) (F0 m 0 ls []) := by
  obtain ⟨hx, hb, hml, hown, hts, hK⟩ := id X
  rw [f6_add] at h
  refine lv_aload_n hx hb dX6_add_0 rfl (lv_at hl 0 rfl) ?_
  refine gf_X6_15 X hP (by decide) dX6_add_1 h (fun v1 h => ?_)
  obtain ⟨j36, e_j36, h⟩ := sx_nm h
  have hj36 : ∀ (M2 : sx_M) (H : Heap) (locs : List Loc) (ls : Array Slot), lv_has ls 2 [(0, .ref (sx_ad C 13 0))] → sx_W C M2 H → va_S (sx_A C) s.heap H locs → j36 M2 = some (r, M') → W p l e R s m args below meth c H locs 0 0 (sx_Z C (some (.int r)) M' below args s) (F0 m 36 ls []) := by
    intro M2 H locs ls hl hP hS h
    subst e_j36
    refine lv_aload_n hx hb dX6_add_36 rfl (lv_at hl 0 rfl) ?_
    refine gf_X6_15 X hP (by decide) dX6_add_37 h (fun v3 h => ?_)
    exact sx_iretM X hr hlocks hS hP h dX6_add_40
  clear e_j36
  refine lv_if_lt (tgt := 36) hx hb dX6_add_4 (by decide) (fun c4 => ?_) (fun c4 => ?_)
  · replace h := sx_ifp h c4
    exact hj36 M0 H locs ls (lv_sub hl [0] rfl) hP hS h
  · replace h := sx_ifn h c4
    refine lv_aload_n hx hb dX6_add_7 rfl (lv_at hl 0 rfl) ?_
    refine gf_X6_15 X hP (by decide) dX6_add_8 h (fun v5 h => ?_)
    refine lv_bipush (v := (120 : Int32)) hx hb dX6_add_11 (by decide) ?_
    refine lv_icmp_ge (tgt := 36) hx hb dX6_add_13 (by decide) (fun c6 => ?_) (fun c6 => ?_)
    · replace h := sx_ifp h c6
      exact hj36 M0 H locs ls (lv_sub hl [0] rfl) hP hS h
    · replace h := sx_ifn h c6
      refine lv_aload_n hx hb dX6_add_16 rfl (lv_at hl 0 rfl) ?_
      refine gf_X6_9 X hP (by decide) dX6_add_17 ?_
      refine lv_aload_n hx hb dX6_add_20 rfl (lv_at hl 0 rfl) ?_
      refine gf_X6_15 X hP (by decide) dX6_add_21 h (fun v7 h => ?_)
      refine lv_iload_n hx hb dX6_add_24 rfl (lv_at hl 1 rfl) ?_
      refine sx_iast X hG hP hS 14 0 120 (by decide) (fun _ _ => rfl) dX6_add_25 h (fun M8 H locs h hP hS => ?_)
      refine lv_aload_n hx hb dX6_add_26 rfl (lv_at hl 0 rfl) ?_
      refine lv_dup hx hb dX6_add_27 rfl ?_
      refine gf_X6_15 X hP (by decide) dX6_add_28 h (fun v9 h => ?_)
      refine lv_iconst (v := (1 : Int32)) hx hb dX6_add_31 (by decide) ?_
      refine lv_iadd hx hb dX6_add_32 ?_
      refine pf_X6_15 X hG hP hS (by decide) dX6_add_33 h (fun M10 H locs h hP hS => ?_)
      exact hj36 M10 H locs ls (lv_sub hl [0] rfl) hP hS h
set_option maxRecDepth 100000 in
theorem ct_6_add (l : Launch) (C : sx_C) (hG : sx_G C) (a1 : Int32) (M0 : sx_M) (r : Int32) (M' : sx_M) (h : f6_add a1 M0 = some (r, M')) : Met l yX6_add (.code yX6_add cX6_add 2 (some .int) :: sx_T) ({ frames := 0, cells := 0, slots := 0, locals := 0 } : Room) (sx_Pc C M0 [.ref (sx_ad C 13 0), .int a1]) (sx_Q C (some (.int r)) M') 0 0 (sx_A C) := by
  refine Met.ofW (cc := cX6_add) (maxL := 2) (ret := (some .int)) (by decide) rfl ?_
  intro p e s m args below meth c s₁ B hml hv
  obtain ⟨rfl, hz, hP, hK⟩ := hv
  have hl := lv_entry ([.ref (sx_ad C 13 0), .int a1]) (n := 2) (Nat.le_of_ble_eq_true rfl)
  rw [lg_entry_eq]
  generalize (lg_sl ([.ref (sx_ad C 13 0), .int a1]) ++ List.replicate (2 - (lg_sl ([.ref (sx_ad C 13 0), .int a1])).length) Slot.unset).toArray = ls at hl ⊢
  exact wk_6_add ⟨B.exec, B.bytes, hml, findClass_of_methodNamed B.named, fun w hw => atoms_spec B.pre w (List.mem_cons_of_mem _ hw), hK⟩ B.returns B.notSynchronized hG hz ⟨Nat.zero_le _, Nat.zero_le _⟩ ⟨Nat.le_refl _, Nat.le_refl _⟩ a1 M0 r M' h hl hP va_S.rf
theorem cl_X7_64 (X : sx_X C p m c cc nL s args RX7) (hG : sx_G C) (hP : sx_W C M0 H) (hz : sx_sz C ≤ H0.size) (hS : va_S (sx_A C) H0 H locs) {a1 : Int32} {r : Int32} {M' : sx_M} (h : f6_add a1 M0 = some (r, M')) (hsz : ls.size = nL) (hdg : decode cc pc = .ok (.invokevirtual 64, 3)) (hcs : cells ≤ R.cells ∧ slots ≤ R.slots) (hR : 0 + 1 ≤ R.frames ∧ 8 + (2 + 11) + 0 ≤ R.locals) (hrest : (rest.map fun v => v.category).sum ≤ 8) (kk : ∀ (H1 : Heap) (locs1 : List Loc), sx_W C M' H1 → va_S (sx_A C) H0 H1 locs1 → W p l e R s m args below meth c H1 locs1 cells slots Q (F0 m (pc + 3) ls ((.int r) :: rest))) : W p l e R s m args below meth c H locs cells slots Q (F0 m pc ls (.int a1 :: .ref (sx_ad C 13 0) :: rest)) :=
  sx_callV (n := 1) (As := [.int a1]) (k0 := 13) (s0 := 0) X hP hz hS (by decide) rfl rfl (sx_goodV tw_520 tw_521 tw_522 tw_69 tw_523) (by decide +kernel) rfl rfl hR (ct_6_add l C hG a1 M0 r M' h) rfl rfl hrest hsz hdg hcs kk
-- StringShed$Text.empty()I
def f6_empty  (M0 : sx_M) : Option (Int32 × sx_M) :=
  sx_bd (M0.1 13 0 1) fun v1 =>
  sx_bd (sx_set M0 13 0 1 (0 : Int32)) fun M2 =>
  some (v1, M2)
set_option maxRecDepth 100000 in
set_option maxHeartbeats 4000000 in
theorem wk_6_empty (X : sx_X C p m c cX6_empty 2 s args RX6) (hr : meth.sig.returnType = (some .int)) (hlocks : meth.locks = false) (hG : sx_G C) (hz : sx_sz C ≤ s.heap.size) (hcs : 0 ≤ R.cells ∧ 0 ≤ R.slots) (hR : 0 ≤ R.frames ∧ 0 ≤ R.locals) (M0 : sx_M) (r : Int32) (M' : sx_M) (h : f6_empty M0 = some (r, M')) (hl : lv_has ls 2 [(0, .ref (sx_ad C 13 0))]) (hP : sx_W C M0 H) (hS : va_S (sx_A C) s.heap H locs) : W p l e R s m args below meth c H locs 0 0 (sx_Z C (some (.int r)) M' below args s) (F0 m 0 ls []) := by
  obtain ⟨hx, hb, hml, hown, hts, hK⟩ := id X
  rw [f6_empty] at h
  refine lv_aload_n hx hb dX6_empty_0 rfl (lv_at hl 0 rfl) ?_
  refine gf_X6_15 X hP (by decide) dX6_empty_1 h (fun v1 h => ?_)
  refine lv_istore_n (lv' := [(1, .int v1), (0, .ref (sx_ad C 13 0))]) hx hb dX6_empty_4 rfl hl (by decide) rfl (fun ls hl => ?_)
  refine lv_aload_n hx hb dX6_empty_5 rfl (lv_at hl 1 rfl) ?_
  refine lv_iconst (v := (0 : Int32)) hx hb dX6_empty_6 (by decide) ?_
  refine pf_X6_15 X hG hP hS (by decide) dX6_empty_7 h (fun M2 H locs h hP hS => ?_)
  refine lv_iload_n hx hb dX6_empty_10 rfl (lv_at hl 0 rfl) ?_
  exact sx_iretM X hr hlocks hS hP h dX6_empty_11
set_option maxRecDepth 100000 in
theorem ct_6_empty (l : Launch) (C : sx_C) (hG : sx_G C) (M0 : sx_M) (r : Int32) (M' : sx_M) (h : f6_empty M0 = some (r, M')) : Met l yX6_empty (.code yX6_empty cX6_empty 2 (some .int) :: sx_T) ({ frames := 0, cells := 0, slots := 0, locals := 0 } : Room) (sx_Pc C M0 [.ref (sx_ad C 13 0)]) (sx_Q C (some (.int r)) M') 0 0 (sx_A C) := by
  refine Met.ofW (cc := cX6_empty) (maxL := 2) (ret := (some .int)) (by decide) rfl ?_
  intro p e s m args below meth c s₁ B hml hv
  obtain ⟨rfl, hz, hP, hK⟩ := hv
  have hl := lv_entry ([.ref (sx_ad C 13 0)]) (n := 2) (Nat.le_of_ble_eq_true rfl)
  rw [lg_entry_eq]
  generalize (lg_sl ([.ref (sx_ad C 13 0)]) ++ List.replicate (2 - (lg_sl ([.ref (sx_ad C 13 0)])).length) Slot.unset).toArray = ls at hl ⊢
  exact wk_6_empty ⟨B.exec, B.bytes, hml, findClass_of_methodNamed B.named, fun w hw => atoms_spec B.pre w (List.mem_cons_of_mem _ hw), hK⟩ B.returns B.notSynchronized hG hz ⟨Nat.zero_le _, Nat.zero_le _⟩ ⟨Nat.le_refl _, Nat.le_refl _⟩ M0 r M' h hl hP va_S.rf
theorem cl_X7_68 (X : sx_X C p m c cc nL s args RX7) (hG : sx_G C) (hP : sx_W C M0 H) (hz : sx_sz C ≤ H0.size) (hS : va_S (sx_A C) H0 H locs) {r : Int32} {M' : sx_M} (h : f6_empty M0 = some (r, M')) (hsz : ls.size = nL) (hdg : decode cc pc = .ok (.invokevirtual 68, 3)) (hcs : cells ≤ R.cells ∧ slots ≤ R.slots) (hR : 0 + 1 ≤ R.frames ∧ 8 + (2 + 11) + 0 ≤ R.locals) (hrest : (rest.map fun v => v.category).sum ≤ 8) (kk : ∀ (H1 : Heap) (locs1 : List Loc), sx_W C M' H1 → va_S (sx_A C) H0 H1 locs1 → W p l e R s m args below meth c H1 locs1 cells slots Q (F0 m (pc + 3) ls ((.int r) :: rest))) : W p l e R s m args below meth c H locs cells slots Q (F0 m pc ls (.ref (sx_ad C 13 0) :: rest)) :=
  sx_callV (n := 0) (As := []) (k0 := 13) (s0 := 0) X hP hz hS (by decide) rfl rfl (sx_goodV tw_237 tw_238 tw_239 tw_69 tw_240) (by decide +kernel) rfl rfl hR (ct_6_empty l C hG M0 r M' h) rfl rfl hrest hsz hdg hcs kk
-- StringShed$Text.placeAfterLetter(I)I pure
def f6_placeAfterLetter (a0 : Int32) (M0 : sx_M) : Option (Int32) :=
  if a0 = (98 : Int32) then
    some (1 : Int32)
  else
  if a0 = (99 : Int32) then
    some (-1 : Int32)
  else
  if a0 = (100 : Int32) then
    some (-1 : Int32)
  else
  if a0 = (101 : Int32) then
    some (-1 : Int32)
  else
  if a0 = (102 : Int32) then
    some (3 : Int32)
  else
  if a0 = (103 : Int32) then
    some (-1 : Int32)
  else
  if a0 = (104 : Int32) then
    some (-1 : Int32)
  else
  if a0 = (105 : Int32) then
    some (-1 : Int32)
  else
  if a0 = (106 : Int32) then
    some (-1 : Int32)
  else
  if a0 = (107 : Int32) then
    some (-1 : Int32)
  else
  if a0 = (108 : Int32) then
    some (-1 : Int32)
  else
  if a0 = (109 : Int32) then
    some (3 : Int32)
  else
  if a0 = (110 : Int32) then
    some (2 : Int32)
  else
  if a0 = (111 : Int32) then
    some (-1 : Int32)
  else
  if a0 = (112 : Int32) then
    some (7 : Int32)
  else
  if a0 = (113 : Int32) then
    some (-1 : Int32)
  else
  if a0 = (114 : Int32) then
    some (-1 : Int32)
  else
  if a0 = (115 : Int32) then
    some (1 : Int32)
  else
  if a0 = (116 : Int32) then
    some (3 : Int32)
  else
  if a0 = (117 : Int32) then
    some (-1 : Int32)
  else
  if a0 = (118 : Int32) then
    some (-1 : Int32)
  else
  if a0 = (119 : Int32) then
    some (-1 : Int32)
  else
  if a0 = (120 : Int32) then
    some (3 : Int32)
  else
    some (-1 : Int32)
set_option maxRecDepth 100000 in
set_option maxHeartbeats 4000000 in
theorem wk_6_placeAfterLetter (X : sx_X C p m c cX6_placeAfterLetter 1 s args RX6) (hr : meth.sig.returnType = (some .int)) (hlocks : meth.locks = false) (hG : sx_G C) (hz : sx_sz C ≤ s.heap.size) (hcs : 0 ≤ R.cells ∧ 0 ≤ R.slots) (hR : 0 ≤ R.frames ∧ 0 ≤ R.locals) (a0 : Int32) (M0 : sx_M) (r : Int32) (h : f6_placeAfterLetter a0 M0 = some r) (hl : lv_has ls 1 [(0, .int a0)]) (hP : sx_W C M0 H) (hS : va_S (sx_A C) s.heap H locs) : W p l e R s m args below meth c H locs 0 0 (sx_Z C (some (.int r)) M0 below args s) (F0 m 0 ls []) := by
  obtain ⟨hx, hb, hml, hown, hts, hK⟩ := id X
  rw [f6_placeAfterLetter] at h
  refine lv_iload_n hx hb dX6_placeAfterLetter_0 rfl (lv_at hl 0 rfl) ?_
  by_cases c1 : a0 = (98 : Int32)
  · replace h := sx_ifp h c1
    refine lv_tableIn (tgt := 115) hx hb dX6_placeAfterLetter_1 (by rw [c1]; decide) (by rw [c1]; decide) (by rw [c1]; rfl) (by decide) ?_
    refine lv_iconst (v := (1 : Int32)) hx hb dX6_placeAfterLetter_115 (by decide) ?_
    exact sx_iret X hr hlocks hS hP h dX6_placeAfterLetter_116
  replace h := sx_ifn h c1
  by_cases c2 : a0 = (99 : Int32)
  · replace h := sx_ifp h c2
    refine lv_tableIn (tgt := 117) hx hb dX6_placeAfterLetter_1 (by rw [c2]; decide) (by rw [c2]; decide) (by rw [c2]; rfl) (by decide) ?_
    refine lv_iconst (v := (-1 : Int32)) hx hb dX6_placeAfterLetter_117 (by decide) ?_
    exact sx_iret X hr hlocks hS hP h dX6_placeAfterLetter_118
  replace h := sx_ifn h c2
  by_cases c3 : a0 = (100 : Int32)
  · replace h := sx_ifp h c3
    refine lv_tableIn (tgt := 117) hx hb dX6_placeAfterLetter_1 (by rw [c3]; decide) (by rw [c3]; decide) (by rw [c3]; rfl) (by decide) ?_
    refine lv_iconst (v := (-1 : Int32)) hx hb dX6_placeAfterLetter_117 (by decide) ?_
    exact sx_iret X hr hlocks hS hP h dX6_placeAfterLetter_118
  replace h := sx_ifn h c3
  by_cases c4 : a0 = (101 : Int32)
  · replace h := sx_ifp h c4
    refine lv_tableIn (tgt := 117) hx hb dX6_placeAfterLetter_1 (by rw [c4]; decide) (by rw [c4]; decide) (by rw [c4]; rfl) (by decide) ?_
    refine lv_iconst (v := (-1 : Int32)) hx hb dX6_placeAfterLetter_117 (by decide) ?_
    exact sx_iret X hr hlocks hS hP h dX6_placeAfterLetter_118
  replace h := sx_ifn h c4
  by_cases c5 : a0 = (102 : Int32)
  · replace h := sx_ifp h c5
    refine lv_tableIn (tgt := 110) hx hb dX6_placeAfterLetter_1 (by rw [c5]; decide) (by rw [c5]; decide) (by rw [c5]; rfl) (by decide) ?_
    refine lv_iconst (v := (3 : Int32)) hx hb dX6_placeAfterLetter_110 (by decide) ?_
    exact sx_iret X hr hlocks hS hP h dX6_placeAfterLetter_111
  replace h := sx_ifn h c5
  by_cases c6 : a0 = (103 : Int32)
  · replace h := sx_ifp h c6
    refine lv_tableIn (tgt := 117) hx hb dX6_placeAfterLetter_1 (by rw [c6]; decide) (by rw [c6]; decide) (by rw [c6]; rfl) (by decide) ?_
    refine lv_iconst (v := (-1 : Int32)) hx hb dX6_placeAfterLetter_117 (by decide) ?_
    exact sx_iret X hr hlocks hS hP h dX6_placeAfterLetter_118
  replace h := sx_ifn h c6
  by_cases c7 : a0 = (104 : Int32)
  · replace h := sx_ifp h c7
    refine lv_tableIn (tgt := 117) hx hb dX6_placeAfterLetter_1 (by rw [c7]; decide) (by rw [c7]; decide) (by rw [c7]; rfl) (by decide) ?_
    refine lv_iconst (v := (-1 : Int32)) hx hb dX6_placeAfterLetter_117 (by decide) ?_
    exact sx_iret X hr hlocks hS hP h dX6_placeAfterLetter_118
  replace h := sx_ifn h c7
  by_cases c8 : a0 = (105 : Int32)
  · replace h := sx_ifp h c8
    refine lv_tableIn (tgt := 117) hx hb dX6_placeAfterLetter_1 (by rw [c8]; decide) (by rw [c8]; decide) (by rw [c8]; rfl) (by decide) ?_
    refine lv_iconst (v := (-1 : Int32)) hx hb dX6_placeAfterLetter_117 (by decide) ?_
    exact sx_iret X hr hlocks hS hP h dX6_placeAfterLetter_118
  replace h := sx_ifn h c8
  by_cases c9 : a0 = (106 : Int32)
  · replace h := sx_ifp h c9
    refine lv_tableIn (tgt := 117) hx hb dX6_placeAfterLetter_1 (by rw [c9]; decide) (by rw [c9]; decide) (by rw [c9]; rfl) (by decide) ?_
    refine lv_iconst (v := (-1 : Int32)) hx hb dX6_placeAfterLetter_117 (by decide) ?_
    exact sx_iret X hr hlocks hS hP h dX6_placeAfterLetter_118
  replace h := sx_ifn h c9
  by_cases c10 : a0 = (107 : Int32)
  · replace h := sx_ifp h c10
    refine lv_tableIn (tgt := 117) hx hb dX6_placeAfterLetter_1 (by rw [c10]; decide) (by rw [c10]; decide) (by rw [c10]; rfl) (by decide) ?_
    refine lv_iconst (v := (-1 : Int32)) hx hb dX6_placeAfterLetter_117 (by decide) ?_
    exact sx_iret X hr hlocks hS hP h dX6_placeAfterLetter_118
  replace h := sx_ifn h c10
  by_cases c11 : a0 = (108 : Int32)
  · replace h := sx_ifp h c11
    refine lv_tableIn (tgt := 117) hx hb dX6_placeAfterLetter_1 (by rw [c11]; decide) (by rw [c11]; decide) (by rw [c11]; rfl) (by decide) ?_
    refine lv_iconst (v := (-1 : Int32)) hx hb dX6_placeAfterLetter_117 (by decide) ?_
    exact sx_iret X hr hlocks hS hP h dX6_placeAfterLetter_118
  replace h := sx_ifn h c11
  by_cases c12 : a0 = (109 : Int32)
  · replace h := sx_ifp h c12
    refine lv_tableIn (tgt := 110) hx hb dX6_placeAfterLetter_1 (by rw [c12]; decide) (by rw [c12]; decide) (by rw [c12]; rfl) (by decide) ?_
    refine lv_iconst (v := (3 : Int32)) hx hb dX6_placeAfterLetter_110 (by decide) ?_
    exact sx_iret X hr hlocks hS hP h dX6_placeAfterLetter_111
  replace h := sx_ifn h c12
  by_cases c13 : a0 = (110 : Int32)
  · replace h := sx_ifp h c13
    refine lv_tableIn (tgt := 108) hx hb dX6_placeAfterLetter_1 (by rw [c13]; decide) (by rw [c13]; decide) (by rw [c13]; rfl) (by decide) ?_
    refine lv_iconst (v := (2 : Int32)) hx hb dX6_placeAfterLetter_108 (by decide) ?_
    exact sx_iret X hr hlocks hS hP h dX6_placeAfterLetter_109
  replace h := sx_ifn h c13
  by_cases c14 : a0 = (111 : Int32)
  · replace h := sx_ifp h c14
    refine lv_tableIn (tgt := 117) hx hb dX6_placeAfterLetter_1 (by rw [c14]; decide) (by rw [c14]; decide) (by rw [c14]; rfl) (by decide) ?_
    refine lv_iconst (v := (-1 : Int32)) hx hb dX6_placeAfterLetter_117 (by decide) ?_
    exact sx_iret X hr hlocks hS hP h dX6_placeAfterLetter_118
  replace h := sx_ifn h c14
  by_cases c15 : a0 = (112 : Int32)
  · replace h := sx_ifp h c15
    refine lv_tableIn (tgt := 112) hx hb dX6_placeAfterLetter_1 (by rw [c15]; decide) (by rw [c15]; decide) (by rw [c15]; rfl) (by decide) ?_
    refine lv_bipush (v := (7 : Int32)) hx hb dX6_placeAfterLetter_112 (by decide) ?_
    exact sx_iret X hr hlocks hS hP h dX6_placeAfterLetter_114
  replace h := sx_ifn h c15
  by_cases c16 : a0 = (113 : Int32)
  · replace h := sx_ifp h c16
    refine lv_tableIn (tgt := 117) hx hb dX6_placeAfterLetter_1 (by rw [c16]; decide) (by rw [c16]; decide) (by rw [c16]; rfl) (by decide) ?_
    refine lv_iconst (v := (-1 : Int32)) hx hb dX6_placeAfterLetter_117 (by decide) ?_
    exact sx_iret X hr hlocks hS hP h dX6_placeAfterLetter_118
  replace h := sx_ifn h c16
  by_cases c17 : a0 = (114 : Int32)
  · replace h := sx_ifp h c17
    refine lv_tableIn (tgt := 117) hx hb dX6_placeAfterLetter_1 (by rw [c17]; decide) (by rw [c17]; decide) (by rw [c17]; rfl) (by decide) ?_
    refine lv_iconst (v := (-1 : Int32)) hx hb dX6_placeAfterLetter_117 (by decide) ?_
    exact sx_iret X hr hlocks hS hP h dX6_placeAfterLetter_118
  replace h := sx_ifn h c17
  by_cases c18 : a0 = (115 : Int32)
  · replace h := sx_ifp h c18
    refine lv_tableIn (tgt := 115) hx hb dX6_placeAfterLetter_1 (by rw [c18]; decide) (by rw [c18]; decide) (by rw [c18]; rfl) (by decide) ?_
    refine lv_iconst (v := (1 : Int32)) hx hb dX6_placeAfterLetter_115 (by decide) ?_
    exact sx_iret X hr hlocks hS hP h dX6_placeAfterLetter_116
  replace h := sx_ifn h c18
  by_cases c19 : a0 = (116 : Int32)
  · replace h := sx_ifp h c19
    refine lv_tableIn (tgt := 110) hx hb dX6_placeAfterLetter_1 (by rw [c19]; decide) (by rw [c19]; decide) (by rw [c19]; rfl) (by decide) ?_
    refine lv_iconst (v := (3 : Int32)) hx hb dX6_placeAfterLetter_110 (by decide) ?_
    exact sx_iret X hr hlocks hS hP h dX6_placeAfterLetter_111
  replace h := sx_ifn h c19
  by_cases c20 : a0 = (117 : Int32)
  · replace h := sx_ifp h c20
    refine lv_tableIn (tgt := 117) hx hb dX6_placeAfterLetter_1 (by rw [c20]; decide) (by rw [c20]; decide) (by rw [c20]; rfl) (by decide) ?_
    refine lv_iconst (v := (-1 : Int32)) hx hb dX6_placeAfterLetter_117 (by decide) ?_
    exact sx_iret X hr hlocks hS hP h dX6_placeAfterLetter_118
  replace h := sx_ifn h c20
  by_cases c21 : a0 = (118 : Int32)
  · replace h := sx_ifp h c21
    refine lv_tableIn (tgt := 117) hx hb dX6_placeAfterLetter_1 (by rw [c21]; decide) (by rw [c21]; decide) (by rw [c21]; rfl) (by decide) ?_
    refine lv_iconst (v := (-1 : Int32)) hx hb dX6_placeAfterLetter_117 (by decide) ?_
    exact sx_iret X hr hlocks hS hP h dX6_placeAfterLetter_118
  replace h := sx_ifn h c21
  by_cases c22 : a0 = (119 : Int32)
  · replace h := sx_ifp h c22
    refine lv_tableIn (tgt := 117) hx hb dX6_placeAfterLetter_1 (by rw [c22]; decide) (by rw [c22]; decide) (by rw [c22]; rfl) (by decide) ?_
    refine lv_iconst (v := (-1 : Int32)) hx hb dX6_placeAfterLetter_117 (by decide) ?_
    exact sx_iret X hr hlocks hS hP h dX6_placeAfterLetter_118
  replace h := sx_ifn h c22
  by_cases c23 : a0 = (120 : Int32)
  · replace h := sx_ifp h c23
    refine lv_tableIn (tgt := 110) hx hb dX6_placeAfterLetter_1 (by rw [c23]; decide) (by rw [c23]; decide) (by rw [c23]; rfl) (by decide) ?_
    refine lv_iconst (v := (3 : Int32)) hx hb dX6_placeAfterLetter_110 (by decide) ?_
    exact sx_iret X hr hlocks hS hP h dX6_placeAfterLetter_111
  replace h := sx_ifn h c23
  have t_c1 := lv_neT (a := 98) c1 (by decide)
  have t_c2 := lv_neT (a := 99) c2 (by decide)
  have t_c3 := lv_neT (a := 100) c3 (by decide)
  have t_c4 := lv_neT (a := 101) c4 (by decide)
  have t_c5 := lv_neT (a := 102) c5 (by decide)
  have t_c6 := lv_neT (a := 103) c6 (by decide)
  have t_c7 := lv_neT (a := 104) c7 (by decide)
  have t_c8 := lv_neT (a := 105) c8 (by decide)
  have t_c9 := lv_neT (a := 106) c9 (by decide)
  have t_c10 := lv_neT (a := 107) c10 (by decide)
  have t_c11 := lv_neT (a := 108) c11 (by decide)
  have t_c12 := lv_neT (a := 109) c12 (by decide)
  have t_c13 := lv_neT (a := 110) c13 (by decide)
  have t_c14 := lv_neT (a := 111) c14 (by decide)
  have t_c15 := lv_neT (a := 112) c15 (by decide)
  have t_c16 := lv_neT (a := 113) c16 (by decide)
  have t_c17 := lv_neT (a := 114) c17 (by decide)
  have t_c18 := lv_neT (a := 115) c18 (by decide)
  have t_c19 := lv_neT (a := 116) c19 (by decide)
  have t_c20 := lv_neT (a := 117) c20 (by decide)
  have t_c21 := lv_neT (a := 118) c21 (by decide)
  have t_c22 := lv_neT (a := 119) c22 (by decide)
  have t_c23 := lv_neT (a := 120) c23 (by decide)
  refine lv_tableOut (tgt := 117) hx hb dX6_placeAfterLetter_1 (by omega) (by decide) ?_
  refine lv_iconst (v := (-1 : Int32)) hx hb dX6_placeAfterLetter_117 (by decide) ?_
  exact sx_iret X hr hlocks hS hP h dX6_placeAfterLetter_118
set_option maxRecDepth 100000 in
theorem ct_6_placeAfterLetter (l : Launch) (C : sx_C) (hG : sx_G C) (a0 : Int32) (M0 : sx_M) (r : Int32) (h : f6_placeAfterLetter a0 M0 = some r) : Met l yX6_placeAfterLetter (.code yX6_placeAfterLetter cX6_placeAfterLetter 1 (some .int) :: sx_T) ({ frames := 0, cells := 0, slots := 0, locals := 0 } : Room) (sx_Pc C M0 [.int a0]) (sx_Q C (some (.int r)) M0) 0 0 (sx_A C) := by
  refine Met.ofW (cc := cX6_placeAfterLetter) (maxL := 1) (ret := (some .int)) (by decide) rfl ?_
  intro p e s m args below meth c s₁ B hml hv
  obtain ⟨rfl, hz, hP, hK⟩ := hv
  have hl := lv_entry ([.int a0]) (n := 1) (Nat.le_of_ble_eq_true rfl)
  rw [lg_entry_eq]
  generalize (lg_sl ([.int a0]) ++ List.replicate (1 - (lg_sl ([.int a0])).length) Slot.unset).toArray = ls at hl ⊢
  exact wk_6_placeAfterLetter ⟨B.exec, B.bytes, hml, findClass_of_methodNamed B.named, fun w hw => atoms_spec B.pre w (List.mem_cons_of_mem _ hw), hK⟩ B.returns B.notSynchronized hG hz ⟨Nat.zero_le _, Nat.zero_le _⟩ ⟨Nat.le_refl _, Nat.le_refl _⟩ a0 M0 r h hl hP va_S.rf
theorem cl_X6_23 (X : sx_X C p m c cc nL s args RX6) (hG : sx_G C) (hP : sx_W C M0 H) (hz : sx_sz C ≤ H0.size) (hS : va_S (sx_A C) H0 H locs) {a0 : Int32} {r : Int32} (h : f6_placeAfterLetter a0 M0 = some r) (hsz : ls.size = nL) (hdg : decode cc pc = .ok (.invokestatic 23, 3)) (hcs : cells ≤ R.cells ∧ slots ≤ R.slots) (hR : 0 + 1 ≤ R.frames ∧ 8 + (1 + 11) + 0 ≤ R.locals) (hrest : (rest.map fun v => v.category).sum ≤ 8) (kk : ∀ (H1 : Heap) (locs1 : List Loc), sx_W C M0 H1 → va_S (sx_A C) H0 H1 locs1 → W p l e R s m args below meth c H1 locs1 cells slots Q (F0 m (pc + 3) ls ((.int r) :: rest))) : W p l e R s m args below meth c H locs cells slots Q (F0 m pc ls (.int a0 :: rest)) :=
  sx_callS (n := 1) (As := [.int a0]) X hP hz hS (sx_goodS tw_252 tw_253 tw_69 tw_254) (by decide +kernel) rfl rfl hR (ct_6_placeAfterLetter l C hG a0 M0 r h) rfl rfl hrest hsz hdg hcs kk
-- StringShed$Text.ifBetween(IIII)I pure
def f6_ifBetween (a0 : Int32) (a1 : Int32) (a2 : Int32) (a3 : Int32) (M0 : sx_M) : Option (Int32) :=
  sx_bd (fun (v1 : Int32) =>
    some v1) fun j15 =>
  sx_bd (fun (_ : Unit) =>
    j15 (-1 : Int32)) fun j14 =>
  if a1 < a0 then
    j14 ()
  else
    if a2 < a1 then
      j14 ()
    else
      j15 a3
set_option maxRecDepth 100000 in
set_option maxHeartbeats 4000000 in
theorem wk_6_ifBetween (X : sx_X C p m c cX6_ifBetween 4 s args RX6) (hr : meth.sig.returnType = (some .int)) (hlocks : meth.locks = false) (hG : sx_G C) (hz : sx_sz C ≤ s.heap.size) (hcs : 0 ≤ R.cells ∧ 0 ≤ R.slots) (hR : 0 ≤ R.frames ∧ 0 ≤ R.locals) (a0 : Int32) (a1 : Int32) (a2 : Int32) (a3 : Int32) (M0 : sx_M) (r : Int32) (h : f6_ifBetween a0 a1 a2 a3 M0 = some r) (hl : lv_has ls 4 [(0, .int a0), (1, .int a1), (2, .int a2), (3, .int a3)]) (hP : sx_W C M0 H) (hS : va_S (sx_A C) s.heap H locs) : W p l e R s m args below meth c H locs 0 0 (sx_Z C (some (.int r)) M0 below args s) (F0 m 0 ls []) := by
  obtain ⟨hx, hb, hml, hown, hts, hK⟩ := id X
  rw [f6_ifBetween] at h
  refine lv_iload_n hx hb dX6_ifBetween_0 rfl (lv_at hl 0 rfl) ?_
  refine lv_iload_n hx hb dX6_ifBetween_1 rfl (lv_at hl 1 rfl) ?_
  obtain ⟨j15, e_j15, h⟩ := sx_nm h
  have hj15 : ∀ (v1 : Int32) (H : Heap) (locs : List Loc) (ls : Array Slot), lv_has ls 4 [] → sx_W C M0 H → va_S (sx_A C) s.heap H locs → j15 v1 = some r → W p l e R s m args below meth c H locs 0 0 (sx_Z C (some (.int r)) M0 below args s) (F0 m 15 ls [.int v1]) := by
    intro v1 H locs ls hl hP hS h
    subst e_j15
    exact sx_iret X hr hlocks hS hP h dX6_ifBetween_15
  clear e_j15
  obtain ⟨j14, e_j14, h⟩ := sx_nm h
  have hj14 : ∀ (H : Heap) (locs : List Loc) (ls : Array Slot), lv_has ls 4 [] → sx_W C M0 H → va_S (sx_A C) s.heap H locs → j14 () = some r → W p l e R s m args below meth c H locs 0 0 (sx_Z C (some (.int r)) M0 below args s) (F0 m 14 ls []) := by
    intro  H locs ls hl hP hS h
    subst e_j14
    refine lv_iconst (v := (-1 : Int32)) hx hb dX6_ifBetween_14 (by decide) ?_
    exact hj15 (-1 : Int32) H locs ls (lv_sub hl [] rfl) hP hS h
  clear e_j14
  refine lv_icmp_gt (tgt := 14) hx hb dX6_ifBetween_2 (by decide) (fun c2 => ?_) (fun c2 => ?_)
  · replace h := sx_ifp h c2
    exact hj14 H locs ls (lv_sub hl [] rfl) hP hS h
  · replace h := sx_ifn h c2
    refine lv_iload_n hx hb dX6_ifBetween_5 rfl (lv_at hl 1 rfl) ?_
    refine lv_iload_n hx hb dX6_ifBetween_6 rfl (lv_at hl 2 rfl) ?_
    refine lv_icmp_gt (tgt := 14) hx hb dX6_ifBetween_7 (by decide) (fun c3 => ?_) (fun c3 => ?_)
    · replace h := sx_ifp h c3
      exact hj14 H locs ls (lv_sub hl [] rfl) hP hS h
    · replace h := sx_ifn h c3
      refine lv_iload_n hx hb dX6_ifBetween_10 rfl (lv_at hl 3 rfl) ?_
      refine lv_goto (tgt := 15) hx hb dX6_ifBetween_11 (by decide) ?_
      exact hj15 a3 H locs ls (lv_sub hl [] rfl) hP hS h
set_option maxRecDepth 100000 in
theorem ct_6_ifBetween (l : Launch) (C : sx_C) (hG : sx_G C) (a0 : Int32) (a1 : Int32) (a2 : Int32) (a3 : Int32) (M0 : sx_M) (r : Int32) (h : f6_ifBetween a0 a1 a2 a3 M0 = some r) : Met l yX6_ifBetween (.code yX6_ifBetween cX6_ifBetween 4 (some .int) :: sx_T) ({ frames := 0, cells := 0, slots := 0, locals := 0 } : Room) (sx_Pc C M0 [.int a0, .int a1, .int a2, .int a3]) (sx_Q C (some (.int r)) M0) 0 0 (sx_A C) := by
  refine Met.ofW (cc := cX6_ifBetween) (maxL := 4) (ret := (some .int)) (by decide) rfl ?_
  intro p e s m args below meth c s₁ B hml hv
  obtain ⟨rfl, hz, hP, hK⟩ := hv
  have hl := lv_entry ([.int a0, .int a1, .int a2, .int a3]) (n := 4) (Nat.le_of_ble_eq_true rfl)
  rw [lg_entry_eq]
  generalize (lg_sl ([.int a0, .int a1, .int a2, .int a3]) ++ List.replicate (4 - (lg_sl ([.int a0, .int a1, .int a2, .int a3])).length) Slot.unset).toArray = ls at hl ⊢
  exact wk_6_ifBetween ⟨B.exec, B.bytes, hml, findClass_of_methodNamed B.named, fun w hw => atoms_spec B.pre w (List.mem_cons_of_mem _ hw), hK⟩ B.returns B.notSynchronized hG hz ⟨Nat.zero_le _, Nat.zero_le _⟩ ⟨Nat.le_refl _, Nat.le_refl _⟩ a0 a1 a2 a3 M0 r h hl hP va_S.rf
theorem cl_X6_27 (X : sx_X C p m c cc nL s args RX6) (hG : sx_G C) (hP : sx_W C M0 H) (hz : sx_sz C ≤ H0.size) (hS : va_S (sx_A C) H0 H locs) {a0 : Int32} {a1 : Int32} {a2 : Int32} {a3 : Int32} {r : Int32} (h : f6_ifBetween a0 a1 a2 a3 M0 = some r) (hsz : ls.size = nL) (hdg : decode cc pc = .ok (.invokestatic 27, 3)) (hcs : cells ≤ R.cells ∧ slots ≤ R.slots) (hR : 0 + 1 ≤ R.frames ∧ 8 + (4 + 11) + 0 ≤ R.locals) (hrest : (rest.map fun v => v.category).sum ≤ 8) (kk : ∀ (H1 : Heap) (locs1 : List Loc), sx_W C M0 H1 → va_S (sx_A C) H0 H1 locs1 → W p l e R s m args below meth c H1 locs1 cells slots Q (F0 m (pc + 3) ls ((.int r) :: rest))) : W p l e R s m args below meth c H locs cells slots Q (F0 m pc ls (.int a3 :: .int a2 :: .int a1 :: .int a0 :: rest)) :=
  sx_callS (n := 4) (As := [.int a0, .int a1, .int a2, .int a3]) X hP hz hS (sx_goodS tw_255 tw_256 tw_69 tw_257) (by decide +kernel) rfl rfl hR (ct_6_ifBetween l C hG a0 a1 a2 a3 M0 r h) rfl rfl hrest hsz hdg hcs kk
-- StringShed$Text.placeAfterTens(III)I pure
def f6_placeAfterTens (a0 : Int32) (a1 : Int32) (a2 : Int32) (M0 : sx_M) : Option (Int32) :=
  sx_bd (fun (v1 : Int32) =>
    some v1) fun j19 =>
  if a0 = (50 : Int32) then
    j19 a2
  else
    (f6_ifBetween (48 : Int32) a0 (49 : Int32) a1 M0).bind fun v3 =>
    j19 v3
set_option maxRecDepth 100000 in
set_option maxHeartbeats 4000000 in
theorem wk_6_placeAfterTens (X : sx_X C p m c cX6_placeAfterTens 3 s args RX6) (hr : meth.sig.returnType = (some .int)) (hlocks : meth.locks = false) (hG : sx_G C) (hz : sx_sz C ≤ s.heap.size) (hcs : 0 ≤ R.cells ∧ 0 ≤ R.slots) (hR : 1 ≤ R.frames ∧ 23 ≤ R.locals) (a0 : Int32) (a1 : Int32) (a2 : Int32) (M0 : sx_M) (r : Int32) (h : f6_placeAfterTens a0 a1 a2 M0 = some r) (hl : lv_has ls 3 [(0, .int a0), (1, .int a1), (2, .int a2)]) (hP : sx_W C M0 H) (hS : va_S (sx_A C) s.heap H locs) : W p l e R s m args below meth c H locs 0 0 (sx_Z C (some (.int r)) M0 below args s) (F0 m 0 ls []) := by
  obtain ⟨hx, hb, hml, hown, hts, hK⟩ := id X
  rw [f6_placeAfterTens] at h
  refine lv_iload_n hx hb dX6_placeAfterTens_0 rfl (lv_at hl 0 rfl) ?_
  refine lv_bipush (v := (50 : Int32)) hx hb dX6_placeAfterTens_1 (by decide) ?_
  obtain ⟨j19, e_j19, h⟩ := sx_nm h
  have hj19 : ∀ (v1 : Int32) (H : Heap) (locs : List Loc) (ls : Array Slot), lv_has ls 3 [] → sx_W C M0 H → va_S (sx_A C) s.heap H locs → j19 v1 = some r → W p l e R s m args below meth c H locs 0 0 (sx_Z C (some (.int r)) M0 below args s) (F0 m 19 ls [.int v1]) := by
    intro v1 H locs ls hl hP hS h
    subst e_j19
    exact sx_iret X hr hlocks hS hP h dX6_placeAfterTens_19
  clear e_j19
  refine lv_icmp_ne (tgt := 10) hx hb dX6_placeAfterTens_3 (by decide) (fun c2 => ?_) (fun c2 => ?_)
  · replace h := sx_ifn h c2
    refine lv_bipush (v := (48 : Int32)) hx hb dX6_placeAfterTens_10 (by decide) ?_
    refine lv_iload_n hx hb dX6_placeAfterTens_12 rfl (lv_at hl 0 rfl) ?_
    refine lv_bipush (v := (49 : Int32)) hx hb dX6_placeAfterTens_13 (by decide) ?_
    refine lv_iload_n hx hb dX6_placeAfterTens_15 rfl (lv_at hl 1 rfl) ?_
    obtain ⟨v3, e_v3, h⟩ := sx_bnd h
    refine cl_X6_27 X hG hP hz hS  e_v3 hl.1 dX6_placeAfterTens_16 hcs ⟨Nat.le_trans (by decide) hR.1, Nat.le_trans (by decide) hR.2⟩ (Nat.le_of_ble_eq_true rfl) (fun H locs hP hS => ?_)
    exact hj19 v3 H locs ls (lv_sub hl [] rfl) hP hS h
  · replace h := sx_ifp h c2
    refine lv_iload_n hx hb dX6_placeAfterTens_6 rfl (lv_at hl 2 rfl) ?_
    refine lv_goto (tgt := 19) hx hb dX6_placeAfterTens_7 (by decide) ?_
    exact hj19 a2 H locs ls (lv_sub hl [] rfl) hP hS h
set_option maxRecDepth 100000 in
theorem ct_6_placeAfterTens (l : Launch) (C : sx_C) (hG : sx_G C) (a0 : Int32) (a1 : Int32) (a2 : Int32) (M0 : sx_M) (r : Int32) (h : f6_placeAfterTens a0 a1 a2 M0 = some r) : Met l yX6_placeAfterTens (.code yX6_placeAfterTens cX6_placeAfterTens 3 (some .int) :: sx_T) ({ frames := 1, cells := 0, slots := 0, locals := 23 } : Room) (sx_Pc C M0 [.int a0, .int a1, .int a2]) (sx_Q C (some (.int r)) M0) 0 0 (sx_A C) := by
  refine Met.ofW (cc := cX6_placeAfterTens) (maxL := 3) (ret := (some .int)) (by decide) rfl ?_
  intro p e s m args below meth c s₁ B hml hv
  obtain ⟨rfl, hz, hP, hK⟩ := hv
  have hl := lv_entry ([.int a0, .int a1, .int a2]) (n := 3) (Nat.le_of_ble_eq_true rfl)
  rw [lg_entry_eq]
  generalize (lg_sl ([.int a0, .int a1, .int a2]) ++ List.replicate (3 - (lg_sl ([.int a0, .int a1, .int a2])).length) Slot.unset).toArray = ls at hl ⊢
  exact wk_6_placeAfterTens ⟨B.exec, B.bytes, hml, findClass_of_methodNamed B.named, fun w hw => atoms_spec B.pre w (List.mem_cons_of_mem _ hw), hK⟩ B.returns B.notSynchronized hG hz ⟨Nat.zero_le _, Nat.zero_le _⟩ ⟨Nat.le_refl _, Nat.le_refl _⟩ a0 a1 a2 M0 r h hl hP va_S.rf
theorem cl_X6_31 (X : sx_X C p m c cc nL s args RX6) (hG : sx_G C) (hP : sx_W C M0 H) (hz : sx_sz C ≤ H0.size) (hS : va_S (sx_A C) H0 H locs) {a0 : Int32} {a1 : Int32} {a2 : Int32} {r : Int32} (h : f6_placeAfterTens a0 a1 a2 M0 = some r) (hsz : ls.size = nL) (hdg : decode cc pc = .ok (.invokestatic 31, 3)) (hcs : cells ≤ R.cells ∧ slots ≤ R.slots) (hR : 1 + 1 ≤ R.frames ∧ 8 + (3 + 11) + 23 ≤ R.locals) (hrest : (rest.map fun v => v.category).sum ≤ 8) (kk : ∀ (H1 : Heap) (locs1 : List Loc), sx_W C M0 H1 → va_S (sx_A C) H0 H1 locs1 → W p l e R s m args below meth c H1 locs1 cells slots Q (F0 m (pc + 3) ls ((.int r) :: rest))) : W p l e R s m args below meth c H locs cells slots Q (F0 m pc ls (.int a2 :: .int a1 :: .int a0 :: rest)) :=
  sx_callS (n := 3) (As := [.int a0, .int a1, .int a2]) X hP hz hS (sx_goodS tw_258 tw_259 tw_69 tw_260) (by decide +kernel) rfl rfl hR (ct_6_placeAfterTens l C hG a0 a1 a2 M0 r h) rfl rfl hrest hsz hdg hcs kk
-- StringShed$Text.placeAfter(II)I pure
def f6_placeAfter (a0 : Int32) (a1 : Int32) (M0 : sx_M) : Option (Int32) :=
  if a0 = (0 : Int32) then
    sx_bd (fun (v2 : Int32) =>
      some v2) fun j67 =>
    if a1 = (83 : Int32) then
      j67 (1 : Int32)
    else
      j67 (-1 : Int32)
  else
  if a0 = (1 : Int32) then
    (f6_placeAfterLetter a1 M0).bind fun v5 =>
    some v5
  else
  if a0 = (2 : Int32) then
    (f6_ifBetween (49 : Int32) a1 (57 : Int32) (1 : Int32) M0).bind fun v7 =>
    some v7
  else
  if a0 = (3 : Int32) then
    sx_bd (fun (v9 : Int32) =>
      some v9) fun j100 =>
    if a1 = (104 : Int32) then
      j100 (4 : Int32)
    else
      (f6_placeAfterTens a1 (5 : Int32) (6 : Int32) M0).bind fun v11 =>
      j100 v11
  else
  if a0 = (4 : Int32) then
    (f6_ifBetween (48 : Int32) a1 (51 : Int32) (7 : Int32) M0).bind fun v13 =>
    some v13
  else
  if a0 = (5 : Int32) then
    (f6_ifBetween (48 : Int32) a1 (57 : Int32) (7 : Int32) M0).bind fun v15 =>
    some v15
  else
  if a0 = (6 : Int32) then
    (f6_ifBetween (48 : Int32) a1 (51 : Int32) (7 : Int32) M0).bind fun v17 =>
    some v17
  else
  if a0 = (7 : Int32) then
    (f6_placeAfterTens a1 (8 : Int32) (9 : Int32) M0).bind fun v19 =>
    some v19
  else
  if a0 = (8 : Int32) then
    (f6_ifBetween (48 : Int32) a1 (57 : Int32) (1 : Int32) M0).bind fun v21 =>
    some v21
  else
  if a0 = (9 : Int32) then
    (f6_ifBetween (48 : Int32) a1 (51 : Int32) (1 : Int32) M0).bind fun v23 =>
    some v23
  else
    some (-1 : Int32)
set_option maxRecDepth 100000 in
set_option maxHeartbeats 4000000 in
theorem wk_6_placeAfter (X : sx_X C p m c cX6_placeAfter 2 s args RX6) (hr : meth.sig.returnType = (some .int)) (hlocks : meth.locks = false) (hG : sx_G C) (hz : sx_sz C ≤ s.heap.size) (hcs : 0 ≤ R.cells ∧ 0 ≤ R.slots) (hR : 2 ≤ R.frames ∧ 45 ≤ R.locals) (a0 : Int32) (a1 : Int32) (M0 : sx_M) (r : Int32) (h : f6_placeAfter a0 a1 M0 = some r) (hl : lv_has ls 2 [(0, .int a0), (1, .int a1)]) (hP : sx_W C M0 H) (hS : va_S (sx_A C) s.heap H locs) : W p l e R s m args below meth c H locs 0 0 (sx_Z C (some (.int r)) M0 below args s) (F0 m 0 ls []) := by
  obtain ⟨hx, hb, hml, hown, hts, hK⟩ := id X
  rw [f6_placeAfter] at h
  refine lv_iload_n hx hb dX6_placeAfter_0 rfl (lv_at hl 0 rfl) ?_
  by_cases c1 : a0 = (0 : Int32)
  · replace h := sx_ifp h c1
    refine lv_tableIn (tgt := 56) hx hb dX6_placeAfter_1 (by rw [c1]; decide) (by rw [c1]; decide) (by rw [c1]; rfl) (by decide) ?_
    refine lv_iload_n hx hb dX6_placeAfter_56 rfl (lv_at hl 1 rfl) ?_
    refine lv_bipush (v := (83 : Int32)) hx hb dX6_placeAfter_57 (by decide) ?_
    obtain ⟨j67, e_j67, h⟩ := sx_nm h
    have hj67 : ∀ (v2 : Int32) (H : Heap) (locs : List Loc) (ls : Array Slot), lv_has ls 2 [] → sx_W C M0 H → va_S (sx_A C) s.heap H locs → j67 v2 = some r → W p l e R s m args below meth c H locs 0 0 (sx_Z C (some (.int r)) M0 below args s) (F0 m 67 ls [.int v2]) := by
      intro v2 H locs ls hl hP hS h
      subst e_j67
      exact sx_iret X hr hlocks hS hP h dX6_placeAfter_67
    clear e_j67
    refine lv_icmp_ne (tgt := 66) hx hb dX6_placeAfter_59 (by decide) (fun c3 => ?_) (fun c3 => ?_)
    · replace h := sx_ifn h c3
      refine lv_iconst (v := (-1 : Int32)) hx hb dX6_placeAfter_66 (by decide) ?_
      exact hj67 (-1 : Int32) H locs ls (lv_sub hl [] rfl) hP hS h
    · replace h := sx_ifp h c3
      refine lv_iconst (v := (1 : Int32)) hx hb dX6_placeAfter_62 (by decide) ?_
      refine lv_goto (tgt := 67) hx hb dX6_placeAfter_63 (by decide) ?_
      exact hj67 (1 : Int32) H locs ls (lv_sub hl [] rfl) hP hS h
  replace h := sx_ifn h c1
  by_cases c4 : a0 = (1 : Int32)
  · replace h := sx_ifp h c4
    refine lv_tableIn (tgt := 68) hx hb dX6_placeAfter_1 (by rw [c4]; decide) (by rw [c4]; decide) (by rw [c4]; rfl) (by decide) ?_
    refine lv_iload_n hx hb dX6_placeAfter_68 rfl (lv_at hl 1 rfl) ?_
    obtain ⟨v5, e_v5, h⟩ := sx_bnd h
    refine cl_X6_23 X hG hP hz hS  e_v5 hl.1 dX6_placeAfter_69 hcs ⟨Nat.le_trans (by decide) hR.1, Nat.le_trans (by decide) hR.2⟩ (Nat.le_of_ble_eq_true rfl) (fun H locs hP hS => ?_)
    exact sx_iret X hr hlocks hS hP h dX6_placeAfter_72
  replace h := sx_ifn h c4
  by_cases c6 : a0 = (2 : Int32)
  · replace h := sx_ifp h c6
    refine lv_tableIn (tgt := 73) hx hb dX6_placeAfter_1 (by rw [c6]; decide) (by rw [c6]; decide) (by rw [c6]; rfl) (by decide) ?_
    refine lv_bipush (v := (49 : Int32)) hx hb dX6_placeAfter_73 (by decide) ?_
    refine lv_iload_n hx hb dX6_placeAfter_75 rfl (lv_at hl 1 rfl) ?_
    refine lv_bipush (v := (57 : Int32)) hx hb dX6_placeAfter_76 (by decide) ?_
    refine lv_iconst (v := (1 : Int32)) hx hb dX6_placeAfter_78 (by decide) ?_
    obtain ⟨v7, e_v7, h⟩ := sx_bnd h
    refine cl_X6_27 X hG hP hz hS  e_v7 hl.1 dX6_placeAfter_79 hcs ⟨Nat.le_trans (by decide) hR.1, Nat.le_trans (by decide) hR.2⟩ (Nat.le_of_ble_eq_true rfl) (fun H locs hP hS => ?_)
    exact sx_iret X hr hlocks hS hP h dX6_placeAfter_82
  replace h := sx_ifn h c6
  by_cases c8 : a0 = (3 : Int32)
  · replace h := sx_ifp h c8
    refine lv_tableIn (tgt := 83) hx hb dX6_placeAfter_1 (by rw [c8]; decide) (by rw [c8]; decide) (by rw [c8]; rfl) (by decide) ?_
    refine lv_iload_n hx hb dX6_placeAfter_83 rfl (lv_at hl 1 rfl) ?_
    refine lv_bipush (v := (104 : Int32)) hx hb dX6_placeAfter_84 (by decide) ?_
    obtain ⟨j100, e_j100, h⟩ := sx_nm h
    have hj100 : ∀ (v9 : Int32) (H : Heap) (locs : List Loc) (ls : Array Slot), lv_has ls 2 [] → sx_W C M0 H → va_S (sx_A C) s.heap H locs → j100 v9 = some r → W p l e R s m args below meth c H locs 0 0 (sx_Z C (some (.int r)) M0 below args s) (F0 m 100 ls [.int v9]) := by
      intro v9 H locs ls hl hP hS h
      subst e_j100
      exact sx_iret X hr hlocks hS hP h dX6_placeAfter_100
    clear e_j100
    refine lv_icmp_ne (tgt := 93) hx hb dX6_placeAfter_86 (by decide) (fun c10 => ?_) (fun c10 => ?_)
    · replace h := sx_ifn h c10
      refine lv_iload_n hx hb dX6_placeAfter_93 rfl (lv_at hl 1 rfl) ?_
      refine lv_iconst (v := (5 : Int32)) hx hb dX6_placeAfter_94 (by decide) ?_
      refine lv_bipush (v := (6 : Int32)) hx hb dX6_placeAfter_95 (by decide) ?_
      obtain ⟨v11, e_v11, h⟩ := sx_bnd h
      refine cl_X6_31 X hG hP hz hS  e_v11 hl.1 dX6_placeAfter_97 hcs ⟨Nat.le_trans (by decide) hR.1, Nat.le_trans (by decide) hR.2⟩ (Nat.le_of_ble_eq_true rfl) (fun H locs hP hS => ?_)
      exact hj100 v11 H locs ls (lv_sub hl [] rfl) hP hS h
    · replace h := sx_ifp h c10
      refine lv_iconst (v := (4 : Int32)) hx hb dX6_placeAfter_89 (by decide) ?_
      refine lv_goto (tgt := 100) hx hb dX6_placeAfter_90 (by decide) ?_
      exact hj100 (4 : Int32) H locs ls (lv_sub hl [] rfl) hP hS h
  replace h := sx_ifn h c8
  by_cases c12 : a0 = (4 : Int32)
  · replace h := sx_ifp h c12
    refine lv_tableIn (tgt := 101) hx hb dX6_placeAfter_1 (by rw [c12]; decide) (by rw [c12]; decide) (by rw [c12]; rfl) (by decide) ?_
    refine lv_bipush (v := (48 : Int32)) hx hb dX6_placeAfter_101 (by decide) ?_
    refine lv_iload_n hx hb dX6_placeAfter_103 rfl (lv_at hl 1 rfl) ?_
    refine lv_bipush (v := (51 : Int32)) hx hb dX6_placeAfter_104 (by decide) ?_
    refine lv_bipush (v := (7 : Int32)) hx hb dX6_placeAfter_106 (by decide) ?_
    obtain ⟨v13, e_v13, h⟩ := sx_bnd h
    refine cl_X6_27 X hG hP hz hS  e_v13 hl.1 dX6_placeAfter_108 hcs ⟨Nat.le_trans (by decide) hR.1, Nat.le_trans (by decide) hR.2⟩ (Nat.le_of_ble_eq_true rfl) (fun H locs hP hS => ?_)
    exact sx_iret X hr hlocks hS hP h dX6_placeAfter_111
  replace h := sx_ifn h c12
  by_cases c14 : a0 = (5 : Int32)
  · replace h := sx_ifp h c14
    refine lv_tableIn (tgt := 112) hx hb dX6_placeAfter_1 (by rw [c14]; decide) (by rw [c14]; decide) (by rw [c14]; rfl) (by decide) ?_
    refine lv_bipush (v := (48 : Int32)) hx hb dX6_placeAfter_112 (by decide) ?_
    refine lv_iload_n hx hb dX6_placeAfter_114 rfl (lv_at hl 1 rfl) ?_
    refine lv_bipush (v := (57 : Int32)) hx hb dX6_placeAfter_115 (by decide) ?_
    refine lv_bipush (v := (7 : Int32)) hx hb dX6_placeAfter_117 (by decide) ?_
    obtain ⟨v15, e_v15, h⟩ := sx_bnd h
    refine cl_X6_27 X hG hP hz hS  e_v15 hl.1 dX6_placeAfter_119 hcs ⟨Nat.le_trans (by decide) hR.1, Nat.le_trans (by decide) hR.2⟩ (Nat.le_of_ble_eq_true rfl) (fun H locs hP hS => ?_)
    exact sx_iret X hr hlocks hS hP h dX6_placeAfter_122
  replace h := sx_ifn h c14
  by_cases c16 : a0 = (6 : Int32)
  · replace h := sx_ifp h c16
    refine lv_tableIn (tgt := 101) hx hb dX6_placeAfter_1 (by rw [c16]; decide) (by rw [c16]; decide) (by rw [c16]; rfl) (by decide) ?_
    refine lv_bipush (v := (48 : Int32)) hx hb dX6_placeAfter_101 (by decide) ?_
    refine lv_iload_n hx hb dX6_placeAfter_103 rfl (lv_at hl 1 rfl) ?_
    refine lv_bipush (v := (51 : Int32)) hx hb dX6_placeAfter_104 (by decide) ?_
    refine lv_bipush (v := (7 : Int32)) hx hb dX6_placeAfter_106 (by decide) ?_
    obtain ⟨v17, e_v17, h⟩ := sx_bnd h
    refine cl_X6_27 X hG hP hz hS  e_v17 hl.1 dX6_placeAfter_108 hcs ⟨Nat.le_trans (by decide) hR.1, Nat.le_trans (by decide) hR.2⟩ (Nat.le_of_ble_eq_true rfl) (fun H locs hP hS => ?_)
    exact sx_iret X hr hlocks hS hP h dX6_placeAfter_111
  replace h := sx_ifn h c16
  by_cases c18 : a0 = (7 : Int32)
  · replace h := sx_ifp h c18
    refine lv_tableIn (tgt := 123) hx hb dX6_placeAfter_1 (by rw [c18]; decide) (by rw [c18]; decide) (by rw [c18]; rfl) (by decide) ?_
    refine lv_iload_n hx hb dX6_placeAfter_123 rfl (lv_at hl 1 rfl) ?_
    refine lv_bipush (v := (8 : Int32)) hx hb dX6_placeAfter_124 (by decide) ?_
    refine lv_bipush (v := (9 : Int32)) hx hb dX6_placeAfter_126 (by decide) ?_
    obtain ⟨v19, e_v19, h⟩ := sx_bnd h
    refine cl_X6_31 X hG hP hz hS  e_v19 hl.1 dX6_placeAfter_128 hcs ⟨Nat.le_trans (by decide) hR.1, Nat.le_trans (by decide) hR.2⟩ (Nat.le_of_ble_eq_true rfl) (fun H locs hP hS => ?_)
    exact sx_iret X hr hlocks hS hP h dX6_placeAfter_131
  replace h := sx_ifn h c18
  by_cases c20 : a0 = (8 : Int32)
  · replace h := sx_ifp h c20
    refine lv_tableIn (tgt := 132) hx hb dX6_placeAfter_1 (by rw [c20]; decide) (by rw [c20]; decide) (by rw [c20]; rfl) (by decide) ?_
    refine lv_bipush (v := (48 : Int32)) hx hb dX6_placeAfter_132 (by decide) ?_
    refine lv_iload_n hx hb dX6_placeAfter_134 rfl (lv_at hl 1 rfl) ?_
    refine lv_bipush (v := (57 : Int32)) hx hb dX6_placeAfter_135 (by decide) ?_
    refine lv_iconst (v := (1 : Int32)) hx hb dX6_placeAfter_137 (by decide) ?_
    obtain ⟨v21, e_v21, h⟩ := sx_bnd h
    refine cl_X6_27 X hG hP hz hS  e_v21 hl.1 dX6_placeAfter_138 hcs ⟨Nat.le_trans (by decide) hR.1, Nat.le_trans (by decide) hR.2⟩ (Nat.le_of_ble_eq_true rfl) (fun H locs hP hS => ?_)
    exact sx_iret X hr hlocks hS hP h dX6_placeAfter_141
  replace h := sx_ifn h c20
  by_cases c22 : a0 = (9 : Int32)
  · replace h := sx_ifp h c22
    refine lv_tableIn (tgt := 142) hx hb dX6_placeAfter_1 (by rw [c22]; decide) (by rw [c22]; decide) (by rw [c22]; rfl) (by decide) ?_
    refine lv_bipush (v := (48 : Int32)) hx hb dX6_placeAfter_142 (by decide) ?_
    refine lv_iload_n hx hb dX6_placeAfter_144 rfl (lv_at hl 1 rfl) ?_
    refine lv_bipush (v := (51 : Int32)) hx hb dX6_placeAfter_145 (by decide) ?_
    refine lv_iconst (v := (1 : Int32)) hx hb dX6_placeAfter_147 (by decide) ?_
    obtain ⟨v23, e_v23, h⟩ := sx_bnd h
    refine cl_X6_27 X hG hP hz hS  e_v23 hl.1 dX6_placeAfter_148 hcs ⟨Nat.le_trans (by decide) hR.1, Nat.le_trans (by decide) hR.2⟩ (Nat.le_of_ble_eq_true rfl) (fun H locs hP hS => ?_)
    exact sx_iret X hr hlocks hS hP h dX6_placeAfter_151
  replace h := sx_ifn h c22
  have t_c1 := lv_neT (a := 0) c1 (by decide)
  have t_c4 := lv_neT (a := 1) c4 (by decide)
  have t_c6 := lv_neT (a := 2) c6 (by decide)
  have t_c8 := lv_neT (a := 3) c8 (by decide)
  have t_c12 := lv_neT (a := 4) c12 (by decide)
  have t_c14 := lv_neT (a := 5) c14 (by decide)
  have t_c16 := lv_neT (a := 6) c16 (by decide)
  have t_c18 := lv_neT (a := 7) c18 (by decide)
  have t_c20 := lv_neT (a := 8) c20 (by decide)
  have t_c22 := lv_neT (a := 9) c22 (by decide)
  refine lv_tableOut (tgt := 152) hx hb dX6_placeAfter_1 (by omega) (by decide) ?_
  refine lv_iconst (v := (-1 : Int32)) hx hb dX6_placeAfter_152 (by decide) ?_
  exact sx_iret X hr hlocks hS hP h dX6_placeAfter_153
set_option maxRecDepth 100000 in
theorem ct_6_placeAfter (l : Launch) (C : sx_C) (hG : sx_G C) (a0 : Int32) (a1 : Int32) (M0 : sx_M) (r : Int32) (h : f6_placeAfter a0 a1 M0 = some r) : Met l yX6_placeAfter (.code yX6_placeAfter cX6_placeAfter 2 (some .int) :: sx_T) ({ frames := 2, cells := 0, slots := 0, locals := 45 } : Room) (sx_Pc C M0 [.int a0, .int a1]) (sx_Q C (some (.int r)) M0) 0 0 (sx_A C) := by
  refine Met.ofW (cc := cX6_placeAfter) (maxL := 2) (ret := (some .int)) (by decide) rfl ?_
  intro p e s m args below meth c s₁ B hml hv
  obtain ⟨rfl, hz, hP, hK⟩ := hv
  have hl := lv_entry ([.int a0, .int a1]) (n := 2) (Nat.le_of_ble_eq_true rfl)
  rw [lg_entry_eq]
  generalize (lg_sl ([.int a0, .int a1]) ++ List.replicate (2 - (lg_sl ([.int a0, .int a1])).length) Slot.unset).toArray = ls at hl ⊢
  exact wk_6_placeAfter ⟨B.exec, B.bytes, hml, findClass_of_methodNamed B.named, fun w hw => atoms_spec B.pre w (List.mem_cons_of_mem _ hw), hK⟩ B.returns B.notSynchronized hG hz ⟨Nat.zero_le _, Nat.zero_le _⟩ ⟨Nat.le_refl _, Nat.le_refl _⟩ a0 a1 M0 r h hl hP va_S.rf
theorem cl_X6_19 (X : sx_X C p m c cc nL s args RX6) (hG : sx_G C) (hP : sx_W C M0 H) (hz : sx_sz C ≤ H0.size) (hS : va_S (sx_A C) H0 H locs) {a0 : Int32} {a1 : Int32} {r : Int32} (h : f6_placeAfter a0 a1 M0 = some r) (hsz : ls.size = nL) (hdg : decode cc pc = .ok (.invokestatic 19, 3)) (hcs : cells ≤ R.cells ∧ slots ≤ R.slots) (hR : 2 + 1 ≤ R.frames ∧ 8 + (2 + 11) + 45 ≤ R.locals) (hrest : (rest.map fun v => v.category).sum ≤ 8) (kk : ∀ (H1 : Heap) (locs1 : List Loc), sx_W C M0 H1 → va_S (sx_A C) H0 H1 locs1 → W p l e R s m args below meth c H1 locs1 cells slots Q (F0 m (pc + 3) ls ((.int r) :: rest))) : W p l e R s m args below meth c H locs cells slots Q (F0 m pc ls (.int a1 :: .int a0 :: rest)) :=
  sx_callS (n := 2) (As := [.int a0, .int a1]) X hP hz hS (sx_goodS tw_249 tw_250 tw_69 tw_251) (by decide +kernel) rfl rfl hR (ct_6_placeAfter l C hG a0 a1 M0 r h) rfl rfl hrest hsz hdg hcs kk
-- StringShed$Text.firstError()I pure
def f6_firstError_L4 (M0 : sx_M) (k42 : (Int32 → Option (Int32))) : Nat → Int32 → Int32 → Option (Int32)
  | 0, _, _ => none
  | n + 1, x1, x2 =>
    sx_bd (M0.1 13 0 1) fun v1 =>
    if v1 ≤ x2 then
      k42 x1
    else
      if (120 : Int32) ≤ x2 then
        k42 x1
      else
        if sx_in x2 120 then
        sx_bd (M0.1 14 0 (x2).toNatClampNeg) fun v4 =>
        (f6_placeAfter x1 v4 M0).bind fun v5 =>
        if v5 = (-1 : Int32) then
          some x2
        else
          sx_bd (x2 + (1 : Int32)) fun v7 =>
          f6_firstError_L4 M0 k42 n v5 v7
        else none
def f6_firstError  (M0 : sx_M) : Option (Int32) :=
  f6_firstError_L4 M0
    (fun (v8 : Int32) =>
      sx_bd (fun (v9 : Int32) =>
        some v9) fun j56 =>
      if v8 = (1 : Int32) then
        j56 (-9 : Int32)
      else
        sx_bd (M0.1 13 0 1) fun v11 =>
        j56 v11)
    5000 (0 : Int32) (0 : Int32)
set_option maxRecDepth 100000 in
set_option maxHeartbeats 4000000 in
theorem wk_6_firstError (X : sx_X C p m c cX6_firstError 3 s args RX6) (hr : meth.sig.returnType = (some .int)) (hlocks : meth.locks = false) (hG : sx_G C) (hz : sx_sz C ≤ s.heap.size) (hcs : 0 ≤ R.cells ∧ 0 ≤ R.slots) (hR : 3 ≤ R.frames ∧ 66 ≤ R.locals) (M0 : sx_M) (r : Int32) (h : f6_firstError M0 = some r) (hl : lv_has ls 3 [(0, .ref (sx_ad C 13 0))]) (hP : sx_W C M0 H) (hS : va_S (sx_A C) s.heap H locs) : W p l e R s m args below meth c H locs 0 0 (sx_Z C (some (.int r)) M0 below args s) (F0 m 0 ls []) := by
  obtain ⟨hx, hb, hml, hown, hts, hK⟩ := id X
  rw [f6_firstError] at h
  have hf6_firstError_L4 : ∀ (k42 : (Int32 → Option (Int32))) (n : Nat) (hk42 : (∀ (y1 : Int32) (H : Heap) (locs : List Loc) (ls : Array Slot), lv_has ls 3 [(0, .ref (sx_ad C 13 0)), (1, .int y1)] → sx_W C M0 H → va_S (sx_A C) s.heap H locs → k42 y1 = some r → W p l e R s m args below meth c H locs 0 0 (sx_Z C (some (.int r)) M0 below args s) (F0 m 42 ls []))) (x1 : Int32) (x2 : Int32) (H : Heap) (locs : List Loc) (ls : Array Slot), lv_has ls 3 [(0, .ref (sx_ad C 13 0)), (1, .int x1), (2, .int x2)] → sx_W C M0 H → va_S (sx_A C) s.heap H locs → f6_firstError_L4 M0 k42 n x1 x2 = some r → W p l e R s m args below meth c H locs 0 0 (sx_Z C (some (.int r)) M0 below args s) (F0 m 4 ls []) := by
    intro k42 n hk42
    induction n with
    | zero => intro x1 x2 H locs ls hl hP hS h; exact absurd (show (none : Option (Int32)) = some r from h) (fun q => nomatch q)
    | succ n ih =>
      intro x1 x2 H locs ls hl hP hS h
      rw [f6_firstError_L4] at h
      refine lv_iload_n hx hb dX6_firstError_4 rfl (lv_at hl 2 rfl) ?_
      refine lv_aload_n hx hb dX6_firstError_5 rfl (lv_at hl 0 rfl) ?_
      refine gf_X6_15 X hP (by decide) dX6_firstError_6 h (fun v1 h => ?_)
      refine lv_icmp_ge (tgt := 42) hx hb dX6_firstError_9 (by decide) (fun c2 => ?_) (fun c2 => ?_)
      · replace h := sx_ifp h c2
        exact hk42 x1 H locs ls (lv_sub hl [0, 1] rfl) hP hS h
      · replace h := sx_ifn h c2
        refine lv_iload_n hx hb dX6_firstError_12 rfl (lv_at hl 2 rfl) ?_
        refine lv_bipush (v := (120 : Int32)) hx hb dX6_firstError_13 (by decide) ?_
        refine lv_icmp_ge (tgt := 42) hx hb dX6_firstError_15 (by decide) (fun c3 => ?_) (fun c3 => ?_)
        · replace h := sx_ifp h c3
          exact hk42 x1 H locs ls (lv_sub hl [0, 1] rfl) hP hS h
        · replace h := sx_ifn h c3
          refine lv_iload_n hx hb dX6_firstError_18 rfl (lv_at hl 1 rfl) ?_
          refine lv_aload_n hx hb dX6_firstError_19 rfl (lv_at hl 0 rfl) ?_
          refine gf_X6_9 X hP (by decide) dX6_firstError_20 ?_
          refine lv_iload_n hx hb dX6_firstError_23 rfl (lv_at hl 2 rfl) ?_
          refine sx_iald X hP 14 0 120 (by decide) (fun _ _ => rfl) dX6_firstError_24 h (fun v4 h => ?_)
          obtain ⟨v5, e_v5, h⟩ := sx_bnd h
          refine cl_X6_19 X hG hP hz hS  e_v5 hl.1 dX6_firstError_25 hcs ⟨Nat.le_trans (by decide) hR.1, Nat.le_trans (by decide) hR.2⟩ (Nat.le_of_ble_eq_true rfl) (fun H locs hP hS => ?_)
          refine lv_istore_n (lv' := [(1, .int v5), (0, .ref (sx_ad C 13 0)), (2, .int x2)]) hx hb dX6_firstError_28 rfl hl (by decide) rfl (fun ls hl => ?_)
          refine lv_iload_n hx hb dX6_firstError_29 rfl (lv_at hl 0 rfl) ?_
          refine lv_iconst (v := (-1 : Int32)) hx hb dX6_firstError_30 (by decide) ?_
          refine lv_icmp_ne (tgt := 36) hx hb dX6_firstError_31 (by decide) (fun c6 => ?_) (fun c6 => ?_)
          · replace h := sx_ifn h c6
            obtain ⟨v7, e_v7, h⟩ := sx_nm h
            refine lv_iinc (v := v7) (lv' := [(2, .int v7), (1, .int v5), (0, .ref (sx_ad C 13 0))]) hx hb dX6_firstError_36 hl (k := 2) rfl (by rw [← e_v7]; rfl) (by decide) rfl (fun ls hl => ?_)
            refine lv_goto (tgt := 4) hx hb dX6_firstError_39 (by decide) ?_
            exact ih v5 v7 H locs ls (lv_sub hl [2, 1, 0] rfl) hP hS h
          · replace h := sx_ifp h c6
            refine lv_iload_n hx hb dX6_firstError_34 rfl (lv_at hl 2 rfl) ?_
            exact sx_iret X hr hlocks hS hP h dX6_firstError_35
  refine lv_iconst (v := (0 : Int32)) hx hb dX6_firstError_0 (by decide) ?_
  refine lv_istore_n (lv' := [(1, .int (0 : Int32)), (0, .ref (sx_ad C 13 0))]) hx hb dX6_firstError_1 rfl hl (by decide) rfl (fun ls hl => ?_)
  refine lv_iconst (v := (0 : Int32)) hx hb dX6_firstError_2 (by decide) ?_
  refine lv_istore_n (lv' := [(2, .int (0 : Int32)), (1, .int (0 : Int32)), (0, .ref (sx_ad C 13 0))]) hx hb dX6_firstError_3 rfl hl (by decide) rfl (fun ls hl => ?_)
  refine hf6_firstError_L4 _ 5000 ?_ (0 : Int32) (0 : Int32) H locs ls (lv_sub hl [2, 1, 0] rfl) hP hS h
  · intro v8 H locs ls hl hP hS h
    refine lv_iload_n hx hb dX6_firstError_42 rfl (lv_at hl 1 rfl) ?_
    refine lv_iconst (v := (1 : Int32)) hx hb dX6_firstError_43 (by decide) ?_
    obtain ⟨j56, e_j56, h⟩ := sx_nm h
    have hj56 : ∀ (v9 : Int32) (H : Heap) (locs : List Loc) (ls : Array Slot), lv_has ls 3 [] → sx_W C M0 H → va_S (sx_A C) s.heap H locs → j56 v9 = some r → W p l e R s m args below meth c H locs 0 0 (sx_Z C (some (.int r)) M0 below args s) (F0 m 56 ls [.int v9]) := by
      intro v9 H locs ls hl hP hS h
      subst e_j56
      exact sx_iret X hr hlocks hS hP h dX6_firstError_56
    clear e_j56
    refine lv_icmp_ne (tgt := 52) hx hb dX6_firstError_44 (by decide) (fun c10 => ?_) (fun c10 => ?_)
    · replace h := sx_ifn h c10
      refine lv_aload_n hx hb dX6_firstError_52 rfl (lv_at hl 0 rfl) ?_
      refine gf_X6_15 X hP (by decide) dX6_firstError_53 h (fun v11 h => ?_)
      exact hj56 v11 H locs ls (lv_sub hl [] rfl) hP hS h
    · replace h := sx_ifp h c10
      refine lv_bipush (v := (-9 : Int32)) hx hb dX6_firstError_47 (by decide) ?_
      refine lv_goto (tgt := 56) hx hb dX6_firstError_49 (by decide) ?_
      exact hj56 (-9 : Int32) H locs ls (lv_sub hl [] rfl) hP hS h
set_option maxRecDepth 100000 in
theorem ct_6_firstError (l : Launch) (C : sx_C) (hG : sx_G C) (M0 : sx_M) (r : Int32) (h : f6_firstError M0 = some r) : Met l yX6_firstError (.code yX6_firstError cX6_firstError 3 (some .int) :: sx_T) ({ frames := 3, cells := 0, slots := 0, locals := 66 } : Room) (sx_Pc C M0 [.ref (sx_ad C 13 0)]) (sx_Q C (some (.int r)) M0) 0 0 (sx_A C) := by
  refine Met.ofW (cc := cX6_firstError) (maxL := 3) (ret := (some .int)) (by decide) rfl ?_
  intro p e s m args below meth c s₁ B hml hv
  obtain ⟨rfl, hz, hP, hK⟩ := hv
  have hl := lv_entry ([.ref (sx_ad C 13 0)]) (n := 3) (Nat.le_of_ble_eq_true rfl)
  rw [lg_entry_eq]
  generalize (lg_sl ([.ref (sx_ad C 13 0)]) ++ List.replicate (3 - (lg_sl ([.ref (sx_ad C 13 0)])).length) Slot.unset).toArray = ls at hl ⊢
  exact wk_6_firstError ⟨B.exec, B.bytes, hml, findClass_of_methodNamed B.named, fun w hw => atoms_spec B.pre w (List.mem_cons_of_mem _ hw), hK⟩ B.returns B.notSynchronized hG hz ⟨Nat.zero_le _, Nat.zero_le _⟩ ⟨Nat.le_refl _, Nat.le_refl _⟩ M0 r h hl hP va_S.rf
theorem cl_X7_72 (X : sx_X C p m c cc nL s args RX7) (hG : sx_G C) (hP : sx_W C M0 H) (hz : sx_sz C ≤ H0.size) (hS : va_S (sx_A C) H0 H locs) {r : Int32} (h : f6_firstError M0 = some r) (hsz : ls.size = nL) (hdg : decode cc pc = .ok (.invokevirtual 72, 3)) (hcs : cells ≤ R.cells ∧ slots ≤ R.slots) (hR : 3 + 1 ≤ R.frames ∧ 8 + (3 + 11) + 66 ≤ R.locals) (hrest : (rest.map fun v => v.category).sum ≤ 8) (kk : ∀ (H1 : Heap) (locs1 : List Loc), sx_W C M0 H1 → va_S (sx_A C) H0 H1 locs1 → W p l e R s m args below meth c H1 locs1 cells slots Q (F0 m (pc + 3) ls ((.int r) :: rest))) : W p l e R s m args below meth c H locs cells slots Q (F0 m pc ls (.ref (sx_ad C 13 0) :: rest)) :=
  sx_callV (n := 0) (As := []) (k0 := 13) (s0 := 0) X hP hz hS (by decide) rfl rfl (sx_goodV tw_245 tw_246 tw_247 tw_69 tw_248) (by decide +kernel) rfl rfl hR (ct_6_firstError l C hG M0 r h) rfl rfl hrest hsz hdg hcs kk
-- StringShed$Text.codeAt(I)I pure
def f6_codeAt (a1 : Int32) (M0 : sx_M) : Option (Int32) :=
  sx_bd (fun (v1 : Int32) =>
    some v1) fun j28 =>
  sx_bd (fun (_ : Unit) =>
    j28 (0 : Int32)) fun j27 =>
  if a1 < 0 then
    j27 ()
  else
    sx_bd (M0.1 13 0 1) fun v3 =>
    if v3 ≤ a1 then
      j27 ()
    else
      if (120 : Int32) ≤ a1 then
        j27 ()
      else
        if sx_in a1 120 then
        sx_bd (M0.1 14 0 (a1).toNatClampNeg) fun v6 =>
        j28 v6
        else none
set_option maxRecDepth 100000 in
set_option maxHeartbeats 4000000 in
theorem wk_6_codeAt (X : sx_X C p m c cX6_codeAt 2 s args RX6) (hr : meth.sig.returnType = (some .int)) (hlocks : meth.locks = false) (hG : sx_G C) (hz : sx_sz C ≤ s.heap.size) (hcs : 0 ≤ R.cells ∧ 0 ≤ R.slots) (hR : 0 ≤ R.frames ∧ 0 ≤ R.locals) (a1 : Int32) (M0 : sx_M) (r : Int32) (h : f6_codeAt a1 M0 = some r) (hl : lv_has ls 2 [(0, .ref (sx_ad C 13 0)), (1, .int a1)]) (hP : sx_W C M0 H) (hS : va_S (sx_A C) s.heap H locs) : W p l e R s m args below meth c H locs 0 0 (sx_Z C (some (.int r)) M0 below args s) (F0 m 0 ls []) := by
  obtain ⟨hx, hb, hml, hown, hts, hK⟩ := id X
  rw [f6_codeAt] at h
  refine lv_iload_n hx hb dX6_codeAt_0 rfl (lv_at hl 1 rfl) ?_
  obtain ⟨j28, e_j28, h⟩ := sx_nm h
  have hj28 : ∀ (v1 : Int32) (H : Heap) (locs : List Loc) (ls : Array Slot), lv_has ls 2 [] → sx_W C M0 H → va_S (sx_A C) s.heap H locs → j28 v1 = some r → W p l e R s m args below meth c H locs 0 0 (sx_Z C (some (.int r)) M0 below args s) (F0 m 28 ls [.int v1]) := by
    intro v1 H locs ls hl hP hS h
    subst e_j28
    exact sx_iret X hr hlocks hS hP h dX6_codeAt_28
  clear e_j28
  obtain ⟨j27, e_j27, h⟩ := sx_nm h
  have hj27 : ∀ (H : Heap) (locs : List Loc) (ls : Array Slot), lv_has ls 2 [] → sx_W C M0 H → va_S (sx_A C) s.heap H locs → j27 () = some r → W p l e R s m args below meth c H locs 0 0 (sx_Z C (some (.int r)) M0 below args s) (F0 m 27 ls []) := by
    intro  H locs ls hl hP hS h
    subst e_j27
    refine lv_iconst (v := (0 : Int32)) hx hb dX6_codeAt_27 (by decide) ?_
    exact hj28 (0 : Int32) H locs ls (lv_sub hl [] rfl) hP hS h
  clear e_j27
  refine lv_if_lt (tgt := 27) hx hb dX6_codeAt_1 (by decide) (fun c2 => ?_) (fun c2 => ?_)
  · replace h := sx_ifp h c2
    exact hj27 H locs ls (lv_sub hl [] rfl) hP hS h
  · replace h := sx_ifn h c2
    refine lv_iload_n hx hb dX6_codeAt_4 rfl (lv_at hl 1 rfl) ?_
    refine lv_aload_n hx hb dX6_codeAt_5 rfl (lv_at hl 0 rfl) ?_
    refine gf_X6_15 X hP (by decide) dX6_codeAt_6 h (fun v3 h => ?_)
    refine lv_icmp_ge (tgt := 27) hx hb dX6_codeAt_9 (by decide) (fun c4 => ?_) (fun c4 => ?_)
    · replace h := sx_ifp h c4
      exact hj27 H locs ls (lv_sub hl [] rfl) hP hS h
    · replace h := sx_ifn h c4
      refine lv_iload_n hx hb dX6_codeAt_12 rfl (lv_at hl 1 rfl) ?_
      refine lv_bipush (v := (120 : Int32)) hx hb dX6_codeAt_13 (by decide) ?_
      refine lv_icmp_ge (tgt := 27) hx hb dX6_codeAt_15 (by decide) (fun c5 => ?_) (fun c5 => ?_)
      · replace h := sx_ifp h c5
        exact hj27 H locs ls (lv_sub hl [] rfl) hP hS h
      · replace h := sx_ifn h c5
        refine lv_aload_n hx hb dX6_codeAt_18 rfl (lv_at hl 0 rfl) ?_
        refine gf_X6_9 X hP (by decide) dX6_codeAt_19 ?_
        refine lv_iload_n hx hb dX6_codeAt_22 rfl (lv_at hl 1 rfl) ?_
        refine sx_iald X hP 14 0 120 (by decide) (fun _ _ => rfl) dX6_codeAt_23 h (fun v6 h => ?_)
        refine lv_goto (tgt := 28) hx hb dX6_codeAt_24 (by decide) ?_
        exact hj28 v6 H locs ls (lv_sub hl [] rfl) hP hS h
set_option maxRecDepth 100000 in
theorem ct_6_codeAt (l : Launch) (C : sx_C) (hG : sx_G C) (a1 : Int32) (M0 : sx_M) (r : Int32) (h : f6_codeAt a1 M0 = some r) : Met l yX6_codeAt (.code yX6_codeAt cX6_codeAt 2 (some .int) :: sx_T) ({ frames := 0, cells := 0, slots := 0, locals := 0 } : Room) (sx_Pc C M0 [.ref (sx_ad C 13 0), .int a1]) (sx_Q C (some (.int r)) M0) 0 0 (sx_A C) := by
  refine Met.ofW (cc := cX6_codeAt) (maxL := 2) (ret := (some .int)) (by decide) rfl ?_
  intro p e s m args below meth c s₁ B hml hv
  obtain ⟨rfl, hz, hP, hK⟩ := hv
  have hl := lv_entry ([.ref (sx_ad C 13 0), .int a1]) (n := 2) (Nat.le_of_ble_eq_true rfl)
  rw [lg_entry_eq]
  generalize (lg_sl ([.ref (sx_ad C 13 0), .int a1]) ++ List.replicate (2 - (lg_sl ([.ref (sx_ad C 13 0), .int a1])).length) Slot.unset).toArray = ls at hl ⊢
  exact wk_6_codeAt ⟨B.exec, B.bytes, hml, findClass_of_methodNamed B.named, fun w hw => atoms_spec B.pre w (List.mem_cons_of_mem _ hw), hK⟩ B.returns B.notSynchronized hG hz ⟨Nat.zero_le _, Nat.zero_le _⟩ ⟨Nat.le_refl _, Nat.le_refl _⟩ a1 M0 r h hl hP va_S.rf
theorem cl_X6_35 (X : sx_X C p m c cc nL s args RX6) (hG : sx_G C) (hP : sx_W C M0 H) (hz : sx_sz C ≤ H0.size) (hS : va_S (sx_A C) H0 H locs) {a1 : Int32} {r : Int32} (h : f6_codeAt a1 M0 = some r) (hsz : ls.size = nL) (hdg : decode cc pc = .ok (.invokevirtual 35, 3)) (hcs : cells ≤ R.cells ∧ slots ≤ R.slots) (hR : 0 + 1 ≤ R.frames ∧ 8 + (2 + 11) + 0 ≤ R.locals) (hrest : (rest.map fun v => v.category).sum ≤ 8) (kk : ∀ (H1 : Heap) (locs1 : List Loc), sx_W C M0 H1 → va_S (sx_A C) H0 H1 locs1 → W p l e R s m args below meth c H1 locs1 cells slots Q (F0 m (pc + 3) ls ((.int r) :: rest))) : W p l e R s m args below meth c H locs cells slots Q (F0 m pc ls (.int a1 :: .ref (sx_ad C 13 0) :: rest)) :=
  sx_callV (n := 1) (As := [.int a1]) (k0 := 13) (s0 := 0) X hP hz hS (by decide) rfl rfl (sx_goodV tw_552 tw_554 tw_5 tw_69 tw_555) (by decide +kernel) rfl rfl hR (ct_6_codeAt l C hG a1 M0 r h) rfl rfl hrest hsz hdg hcs kk
-- StringShed$Text.isCommandAt(I)Z pure
def f6_isCommandAt (a1 : Int32) (M0 : sx_M) : Option (Int32) :=
  (f6_codeAt a1 M0).bind fun v1 =>
  (f6_placeAfterLetter v1 M0).bind fun v2 =>
  sx_bd (fun (v3 : Int32) =>
    if v3 = 0 ∨ v3 = 1 then some v3 else none) fun j17 =>
  if v2 = (-1 : Int32) then
    j17 (0 : Int32)
  else
    j17 (1 : Int32)
set_option maxRecDepth 100000 in
set_option maxHeartbeats 4000000 in
theorem wk_6_isCommandAt (X : sx_X C p m c cX6_isCommandAt 2 s args RX6) (hr : meth.sig.returnType = (some .boolean)) (hlocks : meth.locks = false) (hG : sx_G C) (hz : sx_sz C ≤ s.heap.size) (hcs : 0 ≤ R.cells ∧ 0 ≤ R.slots) (hR : 1 ≤ R.frames ∧ 21 ≤ R.locals) (a1 : Int32) (M0 : sx_M) (r : Int32) (h : f6_isCommandAt a1 M0 = some r) (hl : lv_has ls 2 [(0, .ref (sx_ad C 13 0)), (1, .int a1)]) (hP : sx_W C M0 H) (hS : va_S (sx_A C) s.heap H locs) : W p l e R s m args below meth c H locs 0 0 (sx_Z C (some (.int r)) M0 below args s) (F0 m 0 ls []) := by
  obtain ⟨hx, hb, hml, hown, hts, hK⟩ := id X
  rw [f6_isCommandAt] at h
  refine lv_aload_n hx hb dX6_isCommandAt_0 rfl (lv_at hl 0 rfl) ?_
  refine lv_iload_n hx hb dX6_isCommandAt_1 rfl (lv_at hl 1 rfl) ?_
  obtain ⟨v1, e_v1, h⟩ := sx_bnd h
  refine cl_X6_35 X hG hP hz hS  e_v1 hl.1 dX6_isCommandAt_2 hcs ⟨Nat.le_trans (by decide) hR.1, Nat.le_trans (by decide) hR.2⟩ (Nat.le_of_ble_eq_true rfl) (fun H locs hP hS => ?_)
  obtain ⟨v2, e_v2, h⟩ := sx_bnd h
  refine cl_X6_23 X hG hP hz hS  e_v2 hl.1 dX6_isCommandAt_5 hcs ⟨Nat.le_trans (by decide) hR.1, Nat.le_trans (by decide) hR.2⟩ (Nat.le_of_ble_eq_true rfl) (fun H locs hP hS => ?_)
  refine lv_iconst (v := (-1 : Int32)) hx hb dX6_isCommandAt_8 (by decide) ?_
  obtain ⟨j17, e_j17, h⟩ := sx_nm h
  have hj17 : ∀ (v3 : Int32) (H : Heap) (locs : List Loc) (ls : Array Slot), lv_has ls 2 [] → sx_W C M0 H → va_S (sx_A C) s.heap H locs → j17 v3 = some r → W p l e R s m args below meth c H locs 0 0 (sx_Z C (some (.int r)) M0 below args s) (F0 m 17 ls [.int v3]) := by
    intro v3 H locs ls hl hP hS h
    subst e_j17
    obtain ⟨hz01, h⟩ := sx_ck h
    exact sx_zret X hr hlocks hS hP hz01 h dX6_isCommandAt_17
  clear e_j17
  refine lv_icmp_eq (tgt := 16) hx hb dX6_isCommandAt_9 (by decide) (fun c4 => ?_) (fun c4 => ?_)
  · replace h := sx_ifp h c4
    refine lv_iconst (v := (0 : Int32)) hx hb dX6_isCommandAt_16 (by decide) ?_
    exact hj17 (0 : Int32) H locs ls (lv_sub hl [] rfl) hP hS h
  · replace h := sx_ifn h c4
    refine lv_iconst (v := (1 : Int32)) hx hb dX6_isCommandAt_12 (by decide) ?_
    refine lv_goto (tgt := 17) hx hb dX6_isCommandAt_13 (by decide) ?_
    exact hj17 (1 : Int32) H locs ls (lv_sub hl [] rfl) hP hS h
set_option maxRecDepth 100000 in
theorem ct_6_isCommandAt (l : Launch) (C : sx_C) (hG : sx_G C) (a1 : Int32) (M0 : sx_M) (r : Int32) (h : f6_isCommandAt a1 M0 = some r) : Met l yX6_isCommandAt (.code yX6_isCommandAt cX6_isCommandAt 2 (some .boolean) :: sx_T) ({ frames := 1, cells := 0, slots := 0, locals := 21 } : Room) (sx_Pc C M0 [.ref (sx_ad C 13 0), .int a1]) (sx_Q C (some (.int r)) M0) 0 0 (sx_A C) := by
  refine Met.ofW (cc := cX6_isCommandAt) (maxL := 2) (ret := (some .boolean)) (by decide) rfl ?_
  intro p e s m args below meth c s₁ B hml hv
  obtain ⟨rfl, hz, hP, hK⟩ := hv
  have hl := lv_entry ([.ref (sx_ad C 13 0), .int a1]) (n := 2) (Nat.le_of_ble_eq_true rfl)
  rw [lg_entry_eq]
  generalize (lg_sl ([.ref (sx_ad C 13 0), .int a1]) ++ List.replicate (2 - (lg_sl ([.ref (sx_ad C 13 0), .int a1])).length) Slot.unset).toArray = ls at hl ⊢
  exact wk_6_isCommandAt ⟨B.exec, B.bytes, hml, findClass_of_methodNamed B.named, fun w hw => atoms_spec B.pre w (List.mem_cons_of_mem _ hw), hK⟩ B.returns B.notSynchronized hG hz ⟨Nat.zero_le _, Nat.zero_le _⟩ ⟨Nat.le_refl _, Nat.le_refl _⟩ a1 M0 r h hl hP va_S.rf
theorem cl_X7_86 (X : sx_X C p m c cc nL s args RX7) (hG : sx_G C) (hP : sx_W C M0 H) (hz : sx_sz C ≤ H0.size) (hS : va_S (sx_A C) H0 H locs) {a1 : Int32} {r : Int32} (h : f6_isCommandAt a1 M0 = some r) (hsz : ls.size = nL) (hdg : decode cc pc = .ok (.invokevirtual 86, 3)) (hcs : cells ≤ R.cells ∧ slots ≤ R.slots) (hR : 1 + 1 ≤ R.frames ∧ 8 + (2 + 11) + 21 ≤ R.locals) (hrest : (rest.map fun v => v.category).sum ≤ 8) (kk : ∀ (H1 : Heap) (locs1 : List Loc), sx_W C M0 H1 → va_S (sx_A C) H0 H1 locs1 → W p l e R s m args below meth c H1 locs1 cells slots Q (F0 m (pc + 3) ls ((.int r) :: rest))) : W p l e R s m args below meth c H locs cells slots Q (F0 m pc ls (.int a1 :: .ref (sx_ad C 13 0) :: rest)) :=
  sx_callV (n := 1) (As := [.int a1]) (k0 := 13) (s0 := 0) X hP hz hS (by decide) rfl rfl (sx_goodV tw_548 tw_549 tw_550 tw_69 tw_551) (by decide +kernel) rfl rfl hR (ct_6_isCommandAt l C hG a1 M0 r h) rfl rfl hrest hsz hdg hcs kk
-- StringShed$Text.numberAt(I)I pure
def f6_numberAt (a1 : Int32) (M0 : sx_M) : Option (Int32) :=
  (f6_codeAt a1 M0).bind fun v1 =>
  (f6_codeAt (a1 + (1 : Int32)) M0).bind fun v2 =>
  some ((((10 : Int32) * (v1 - (48 : Int32))) + v2) - (48 : Int32))
set_option maxRecDepth 100000 in
set_option maxHeartbeats 4000000 in
theorem wk_6_numberAt (X : sx_X C p m c cX6_numberAt 2 s args RX6) (hr : meth.sig.returnType = (some .int)) (hlocks : meth.locks = false) (hG : sx_G C) (hz : sx_sz C ≤ s.heap.size) (hcs : 0 ≤ R.cells ∧ 0 ≤ R.slots) (hR : 1 ≤ R.frames ∧ 21 ≤ R.locals) (a1 : Int32) (M0 : sx_M) (r : Int32) (h : f6_numberAt a1 M0 = some r) (hl : lv_has ls 2 [(0, .ref (sx_ad C 13 0)), (1, .int a1)]) (hP : sx_W C M0 H) (hS : va_S (sx_A C) s.heap H locs) : W p l e R s m args below meth c H locs 0 0 (sx_Z C (some (.int r)) M0 below args s) (F0 m 0 ls []) := by
  obtain ⟨hx, hb, hml, hown, hts, hK⟩ := id X
  rw [f6_numberAt] at h
  refine lv_bipush (v := (10 : Int32)) hx hb dX6_numberAt_0 (by decide) ?_
  refine lv_aload_n hx hb dX6_numberAt_2 rfl (lv_at hl 0 rfl) ?_
  refine lv_iload_n hx hb dX6_numberAt_3 rfl (lv_at hl 1 rfl) ?_
  obtain ⟨v1, e_v1, h⟩ := sx_bnd h
  refine cl_X6_35 X hG hP hz hS  e_v1 hl.1 dX6_numberAt_4 hcs ⟨Nat.le_trans (by decide) hR.1, Nat.le_trans (by decide) hR.2⟩ (Nat.le_of_ble_eq_true rfl) (fun H locs hP hS => ?_)
  refine lv_bipush (v := (48 : Int32)) hx hb dX6_numberAt_7 (by decide) ?_
  refine lv_isub hx hb dX6_numberAt_9 ?_
  refine lv_imul hx hb dX6_numberAt_10 ?_
  refine lv_aload_n hx hb dX6_numberAt_11 rfl (lv_at hl 0 rfl) ?_
  refine lv_iload_n hx hb dX6_numberAt_12 rfl (lv_at hl 1 rfl) ?_
  refine lv_iconst (v := (1 : Int32)) hx hb dX6_numberAt_13 (by decide) ?_
  refine lv_iadd hx hb dX6_numberAt_14 ?_
  obtain ⟨v2, e_v2, h⟩ := sx_bnd h
  refine cl_X6_35 X hG hP hz hS  e_v2 hl.1 dX6_numberAt_15 hcs ⟨Nat.le_trans (by decide) hR.1, Nat.le_trans (by decide) hR.2⟩ (Nat.le_of_ble_eq_true rfl) (fun H locs hP hS => ?_)
  refine lv_iadd hx hb dX6_numberAt_18 ?_
  refine lv_bipush (v := (48 : Int32)) hx hb dX6_numberAt_19 (by decide) ?_
  refine lv_isub hx hb dX6_numberAt_21 ?_
  exact sx_iret X hr hlocks hS hP h dX6_numberAt_22
set_option maxRecDepth 100000 in
theorem ct_6_numberAt (l : Launch) (C : sx_C) (hG : sx_G C) (a1 : Int32) (M0 : sx_M) (r : Int32) (h : f6_numberAt a1 M0 = some r) : Met l yX6_numberAt (.code yX6_numberAt cX6_numberAt 2 (some .int) :: sx_T) ({ frames := 1, cells := 0, slots := 0, locals := 21 } : Room) (sx_Pc C M0 [.ref (sx_ad C 13 0), .int a1]) (sx_Q C (some (.int r)) M0) 0 0 (sx_A C) := by
  refine Met.ofW (cc := cX6_numberAt) (maxL := 2) (ret := (some .int)) (by decide) rfl ?_
  intro p e s m args below meth c s₁ B hml hv
  obtain ⟨rfl, hz, hP, hK⟩ := hv
  have hl := lv_entry ([.ref (sx_ad C 13 0), .int a1]) (n := 2) (Nat.le_of_ble_eq_true rfl)
  rw [lg_entry_eq]
  generalize (lg_sl ([.ref (sx_ad C 13 0), .int a1]) ++ List.replicate (2 - (lg_sl ([.ref (sx_ad C 13 0), .int a1])).length) Slot.unset).toArray = ls at hl ⊢
  exact wk_6_numberAt ⟨B.exec, B.bytes, hml, findClass_of_methodNamed B.named, fun w hw => atoms_spec B.pre w (List.mem_cons_of_mem _ hw), hK⟩ B.returns B.notSynchronized hG hz ⟨Nat.zero_le _, Nat.zero_le _⟩ ⟨Nat.le_refl _, Nat.le_refl _⟩ a1 M0 r h hl hP va_S.rf
theorem cl_X6_47 (X : sx_X C p m c cc nL s args RX6) (hG : sx_G C) (hP : sx_W C M0 H) (hz : sx_sz C ≤ H0.size) (hS : va_S (sx_A C) H0 H locs) {a1 : Int32} {r : Int32} (h : f6_numberAt a1 M0 = some r) (hsz : ls.size = nL) (hdg : decode cc pc = .ok (.invokevirtual 47, 3)) (hcs : cells ≤ R.cells ∧ slots ≤ R.slots) (hR : 1 + 1 ≤ R.frames ∧ 8 + (2 + 11) + 21 ≤ R.locals) (hrest : (rest.map fun v => v.category).sum ≤ 8) (kk : ∀ (H1 : Heap) (locs1 : List Loc), sx_W C M0 H1 → va_S (sx_A C) H0 H1 locs1 → W p l e R s m args below meth c H1 locs1 cells slots Q (F0 m (pc + 3) ls ((.int r) :: rest))) : W p l e R s m args below meth c H locs cells slots Q (F0 m pc ls (.int a1 :: .ref (sx_ad C 13 0) :: rest)) :=
  sx_callV (n := 1) (As := [.int a1]) (k0 := 13) (s0 := 0) X hP hz hS (by decide) rfl rfl (sx_goodV tw_648 tw_650 tw_15 tw_69 tw_651) (by decide +kernel) rfl rfl hR (ct_6_numberAt l C hG a1 M0 r h) rfl rfl hrest hsz hdg hcs kk
-- StringShed$Text.thingAt(I)I pure
def f6_thingAt (a1 : Int32) (M0 : sx_M) : Option (Int32) :=
  (f6_codeAt a1 M0).bind fun v1 =>
  sx_bd (fun (v2 : Int32) =>
    some v2) fun j30 =>
  if v1 = (104 : Int32) then
    (f6_codeAt (a1 + (1 : Int32)) M0).bind fun v5 =>
    j30 (((48 : Int32) - v5) - (1 : Int32))
  else
    (f6_numberAt a1 M0).bind fun v4 =>
    j30 v4
set_option maxRecDepth 100000 in
set_option maxHeartbeats 4000000 in
theorem wk_6_thingAt (X : sx_X C p m c cX6_thingAt 2 s args RX6) (hr : meth.sig.returnType = (some .int)) (hlocks : meth.locks = false) (hG : sx_G C) (hz : sx_sz C ≤ s.heap.size) (hcs : 0 ≤ R.cells ∧ 0 ≤ R.slots) (hR : 2 ≤ R.frames ∧ 42 ≤ R.locals) (a1 : Int32) (M0 : sx_M) (r : Int32) (h : f6_thingAt a1 M0 = some r) (hl : lv_has ls 2 [(0, .ref (sx_ad C 13 0)), (1, .int a1)]) (hP : sx_W C M0 H) (hS : va_S (sx_A C) s.heap H locs) : W p l e R s m args below meth c H locs 0 0 (sx_Z C (some (.int r)) M0 below args s) (F0 m 0 ls []) := by
  obtain ⟨hx, hb, hml, hown, hts, hK⟩ := id X
  rw [f6_thingAt] at h
  refine lv_aload_n hx hb dX6_thingAt_0 rfl (lv_at hl 0 rfl) ?_
  refine lv_iload_n hx hb dX6_thingAt_1 rfl (lv_at hl 1 rfl) ?_
  obtain ⟨v1, e_v1, h⟩ := sx_bnd h
  refine cl_X6_35 X hG hP hz hS  e_v1 hl.1 dX6_thingAt_2 hcs ⟨Nat.le_trans (by decide) hR.1, Nat.le_trans (by decide) hR.2⟩ (Nat.le_of_ble_eq_true rfl) (fun H locs hP hS => ?_)
  refine lv_bipush (v := (104 : Int32)) hx hb dX6_thingAt_5 (by decide) ?_
  obtain ⟨j30, e_j30, h⟩ := sx_nm h
  have hj30 : ∀ (v2 : Int32) (H : Heap) (locs : List Loc) (ls : Array Slot), lv_has ls 2 [] → sx_W C M0 H → va_S (sx_A C) s.heap H locs → j30 v2 = some r → W p l e R s m args below meth c H locs 0 0 (sx_Z C (some (.int r)) M0 below args s) (F0 m 30 ls [.int v2]) := by
    intro v2 H locs ls hl hP hS h
    subst e_j30
    exact sx_iret X hr hlocks hS hP h dX6_thingAt_30
  clear e_j30
  refine lv_icmp_ne (tgt := 25) hx hb dX6_thingAt_7 (by decide) (fun c3 => ?_) (fun c3 => ?_)
  · replace h := sx_ifn h c3
    refine lv_aload_n hx hb dX6_thingAt_25 rfl (lv_at hl 0 rfl) ?_
    refine lv_iload_n hx hb dX6_thingAt_26 rfl (lv_at hl 1 rfl) ?_
    obtain ⟨v4, e_v4, h⟩ := sx_bnd h
    refine cl_X6_47 X hG hP hz hS  e_v4 hl.1 dX6_thingAt_27 hcs ⟨Nat.le_trans (by decide) hR.1, Nat.le_trans (by decide) hR.2⟩ (Nat.le_of_ble_eq_true rfl) (fun H locs hP hS => ?_)
    exact hj30 v4 H locs ls (lv_sub hl [] rfl) hP hS h
  · replace h := sx_ifp h c3
    refine lv_bipush (v := (48 : Int32)) hx hb dX6_thingAt_10 (by decide) ?_
    refine lv_aload_n hx hb dX6_thingAt_12 rfl (lv_at hl 0 rfl) ?_
    refine lv_iload_n hx hb dX6_thingAt_13 rfl (lv_at hl 1 rfl) ?_
    refine lv_iconst (v := (1 : Int32)) hx hb dX6_thingAt_14 (by decide) ?_
    refine lv_iadd hx hb dX6_thingAt_15 ?_
    obtain ⟨v5, e_v5, h⟩ := sx_bnd h
    refine cl_X6_35 X hG hP hz hS  e_v5 hl.1 dX6_thingAt_16 hcs ⟨Nat.le_trans (by decide) hR.1, Nat.le_trans (by decide) hR.2⟩ (Nat.le_of_ble_eq_true rfl) (fun H locs hP hS => ?_)
    refine lv_isub hx hb dX6_thingAt_19 ?_
    refine lv_iconst (v := (1 : Int32)) hx hb dX6_thingAt_20 (by decide) ?_
    refine lv_isub hx hb dX6_thingAt_21 ?_
    refine lv_goto (tgt := 30) hx hb dX6_thingAt_22 (by decide) ?_
    exact hj30 (((48 : Int32) - v5) - (1 : Int32)) H locs ls (lv_sub hl [] rfl) hP hS h
set_option maxRecDepth 100000 in
theorem ct_6_thingAt (l : Launch) (C : sx_C) (hG : sx_G C) (a1 : Int32) (M0 : sx_M) (r : Int32) (h : f6_thingAt a1 M0 = some r) : Met l yX6_thingAt (.code yX6_thingAt cX6_thingAt 2 (some .int) :: sx_T) ({ frames := 2, cells := 0, slots := 0, locals := 42 } : Room) (sx_Pc C M0 [.ref (sx_ad C 13 0), .int a1]) (sx_Q C (some (.int r)) M0) 0 0 (sx_A C) := by
  refine Met.ofW (cc := cX6_thingAt) (maxL := 2) (ret := (some .int)) (by decide) rfl ?_
  intro p e s m args below meth c s₁ B hml hv
  obtain ⟨rfl, hz, hP, hK⟩ := hv
  have hl := lv_entry ([.ref (sx_ad C 13 0), .int a1]) (n := 2) (Nat.le_of_ble_eq_true rfl)
  rw [lg_entry_eq]
  generalize (lg_sl ([.ref (sx_ad C 13 0), .int a1]) ++ List.replicate (2 - (lg_sl ([.ref (sx_ad C 13 0), .int a1])).length) Slot.unset).toArray = ls at hl ⊢
  exact wk_6_thingAt ⟨B.exec, B.bytes, hml, findClass_of_methodNamed B.named, fun w hw => atoms_spec B.pre w (List.mem_cons_of_mem _ hw), hK⟩ B.returns B.notSynchronized hG hz ⟨Nat.zero_le _, Nat.zero_le _⟩ ⟨Nat.le_refl _, Nat.le_refl _⟩ a1 M0 r h hl hP va_S.rf
theorem cl_X6_44 (X : sx_X C p m c cc nL s args RX6) (hG : sx_G C) (hP : sx_W C M0 H) (hz : sx_sz C ≤ H0.size) (hS : va_S (sx_A C) H0 H locs) {a1 : Int32} {r : Int32} (h : f6_thingAt a1 M0 = some r) (hsz : ls.size = nL) (hdg : decode cc pc = .ok (.invokevirtual 44, 3)) (hcs : cells ≤ R.cells ∧ slots ≤ R.slots) (hR : 2 + 1 ≤ R.frames ∧ 8 + (2 + 11) + 42 ≤ R.locals) (hrest : (rest.map fun v => v.category).sum ≤ 8) (kk : ∀ (H1 : Heap) (locs1 : List Loc), sx_W C M0 H1 → va_S (sx_A C) H0 H1 locs1 → W p l e R s m args below meth c H1 locs1 cells slots Q (F0 m (pc + 3) ls ((.int r) :: rest))) : W p l e R s m args below meth c H locs cells slots Q (F0 m pc ls (.int a1 :: .ref (sx_ad C 13 0) :: rest)) :=
  sx_callV (n := 1) (As := [.int a1]) (k0 := 13) (s0 := 0) X hP hz hS (by decide) rfl rfl (sx_goodV tw_644 tw_646 tw_14 tw_69 tw_647) (by decide +kernel) rfl rfl hR (ct_6_thingAt l C hG a1 M0 r h) rfl rfl hrest hsz hdg hcs kk
-- StringShed$Text.obeyAt(ILStringShed$Shed;)Z
def f6_obeyAt (a1 : Int32) (s2 : Nat) (M0 : sx_M) : Option (Int32 × sx_M) :=
  (f6_codeAt a1 M0).bind fun v1 =>
  if v1 = (98 : Int32) then
    sx_b2 (f3_attempt s2 (7 : Int32) (-9 : Int32) (-9 : Int32) (0 : Int32) M0) fun v3 M4 =>
    if v3 = 0 ∨ v3 = 1 then some (v3, M4) else none
  else
  if v1 = (99 : Int32) then
    sx_b2 (f3_attempt s2 (8 : Int32) (-9 : Int32) (-9 : Int32) (0 : Int32) M0) fun v6 M7 =>
    if v6 = 0 ∨ v6 = 1 then some (v6, M7) else none
  else
  if v1 = (100 : Int32) then
    sx_b2 (f3_attempt s2 (8 : Int32) (-9 : Int32) (-9 : Int32) (0 : Int32) M0) fun v9 M10 =>
    if v9 = 0 ∨ v9 = 1 then some (v9, M10) else none
  else
  if v1 = (101 : Int32) then
    sx_b2 (f3_attempt s2 (8 : Int32) (-9 : Int32) (-9 : Int32) (0 : Int32) M0) fun v12 M13 =>
    if v12 = 0 ∨ v12 = 1 then some (v12, M13) else none
  else
  if v1 = (102 : Int32) then
    (f6_thingAt (a1 + (1 : Int32)) M0).bind fun v15 =>
    (f6_numberAt (a1 + (3 : Int32)) M0).bind fun v16 =>
    sx_b2 (f3_attempt s2 (4 : Int32) v15 v16 (0 : Int32) M0) fun v17 M18 =>
    if v17 = 0 ∨ v17 = 1 then some (v17, M18) else none
  else
  if v1 = (103 : Int32) then
    sx_b2 (f3_attempt s2 (8 : Int32) (-9 : Int32) (-9 : Int32) (0 : Int32) M0) fun v20 M21 =>
    if v20 = 0 ∨ v20 = 1 then some (v20, M21) else none
  else
  if v1 = (104 : Int32) then
    sx_b2 (f3_attempt s2 (8 : Int32) (-9 : Int32) (-9 : Int32) (0 : Int32) M0) fun v23 M24 =>
    if v23 = 0 ∨ v23 = 1 then some (v23, M24) else none
  else
  if v1 = (105 : Int32) then
    sx_b2 (f3_attempt s2 (8 : Int32) (-9 : Int32) (-9 : Int32) (0 : Int32) M0) fun v26 M27 =>
    if v26 = 0 ∨ v26 = 1 then some (v26, M27) else none
  else
  if v1 = (106 : Int32) then
    sx_b2 (f3_attempt s2 (8 : Int32) (-9 : Int32) (-9 : Int32) (0 : Int32) M0) fun v29 M30 =>
    if v29 = 0 ∨ v29 = 1 then some (v29, M30) else none
  else
  if v1 = (107 : Int32) then
    sx_b2 (f3_attempt s2 (8 : Int32) (-9 : Int32) (-9 : Int32) (0 : Int32) M0) fun v32 M33 =>
    if v32 = 0 ∨ v32 = 1 then some (v32, M33) else none
  else
  if v1 = (108 : Int32) then
    sx_b2 (f3_attempt s2 (8 : Int32) (-9 : Int32) (-9 : Int32) (0 : Int32) M0) fun v35 M36 =>
    if v35 = 0 ∨ v35 = 1 then some (v35, M36) else none
  else
  if v1 = (109 : Int32) then
    (f6_thingAt (a1 + (1 : Int32)) M0).bind fun v38 =>
    (f6_numberAt (a1 + (3 : Int32)) M0).bind fun v39 =>
    sx_b2 (f3_attempt s2 (5 : Int32) v38 v39 (0 : Int32) M0) fun v40 M41 =>
    if v40 = 0 ∨ v40 = 1 then some (v40, M41) else none
  else
  if v1 = (110 : Int32) then
    (f6_codeAt (a1 + (1 : Int32)) M0).bind fun v43 =>
    sx_b2 (f3_attempt s2 (1 : Int32) (-9 : Int32) (v43 - (48 : Int32)) (0 : Int32) M0) fun v44 M45 =>
    if v44 = 0 ∨ v44 = 1 then some (v44, M45) else none
  else
  if v1 = (111 : Int32) then
    sx_b2 (f3_attempt s2 (8 : Int32) (-9 : Int32) (-9 : Int32) (0 : Int32) M0) fun v47 M48 =>
    if v47 = 0 ∨ v47 = 1 then some (v47, M48) else none
  else
  if v1 = (112 : Int32) then
    (f6_numberAt (a1 + (1 : Int32)) M0).bind fun v50 =>
    (f6_numberAt (a1 + (1 : Int32)) M0).bind fun v51 =>
    (f3_isPinned s2 v51 M0).bind fun v52 =>
    sx_bd (fun (v53 : Int32) =>
      sx_b2 (f3_attempt s2 (6 : Int32) (-9 : Int32) v50 v53 M0) fun v54 M55 =>
      if v54 = 0 ∨ v54 = 1 then some (v54, M55) else none) fun j246 =>
    if v52 = 0 then
      j246 (1 : Int32)
    else
      j246 (0 : Int32)
  else
  if v1 = (113 : Int32) then
    sx_b2 (f3_attempt s2 (8 : Int32) (-9 : Int32) (-9 : Int32) (0 : Int32) M0) fun v58 M59 =>
    if v58 = 0 ∨ v58 = 1 then some (v58, M59) else none
  else
  if v1 = (114 : Int32) then
    sx_b2 (f3_attempt s2 (8 : Int32) (-9 : Int32) (-9 : Int32) (0 : Int32) M0) fun v61 M62 =>
    if v61 = 0 ∨ v61 = 1 then some (v61, M62) else none
  else
  if v1 = (115 : Int32) then
    sx_b2 (f3_attempt s2 (8 : Int32) (-9 : Int32) (-9 : Int32) (0 : Int32) M0) fun v64 M65 =>
    if v64 = 0 ∨ v64 = 1 then some (v64, M65) else none
  else
  if v1 = (116 : Int32) then
    (f6_thingAt (a1 + (1 : Int32)) M0).bind fun v67 =>
    (f6_numberAt (a1 + (3 : Int32)) M0).bind fun v68 =>
    sx_b2 (f3_attempt s2 (2 : Int32) v67 v68 (1 : Int32) M0) fun v69 M70 =>
    if v69 = 0 ∨ v69 = 1 then some (v69, M70) else none
  else
  if v1 = (117 : Int32) then
    sx_b2 (f3_attempt s2 (8 : Int32) (-9 : Int32) (-9 : Int32) (0 : Int32) M0) fun v72 M73 =>
    if v72 = 0 ∨ v72 = 1 then some (v72, M73) else none
  else
  if v1 = (118 : Int32) then
    sx_b2 (f3_attempt s2 (8 : Int32) (-9 : Int32) (-9 : Int32) (0 : Int32) M0) fun v75 M76 =>
    if v75 = 0 ∨ v75 = 1 then some (v75, M76) else none
  else
  if v1 = (119 : Int32) then
    sx_b2 (f3_attempt s2 (8 : Int32) (-9 : Int32) (-9 : Int32) (0 : Int32) M0) fun v78 M79 =>
    if v78 = 0 ∨ v78 = 1 then some (v78, M79) else none
  else
  if v1 = (120 : Int32) then
    (f6_thingAt (a1 + (1 : Int32)) M0).bind fun v81 =>
    (f6_numberAt (a1 + (3 : Int32)) M0).bind fun v82 =>
    sx_b2 (f3_attempt s2 (3 : Int32) v81 v82 (0 : Int32) M0) fun v83 M84 =>
    if v83 = 0 ∨ v83 = 1 then some (v83, M84) else none
  else
    sx_b2 (f3_attempt s2 (8 : Int32) (-9 : Int32) (-9 : Int32) (0 : Int32) M0) fun v85 M86 =>
    if v85 = 0 ∨ v85 = 1 then some (v85, M86) else none
set_option maxRecDepth 100000 in
set_option maxHeartbeats 4000000 in
theorem wk_6_obeyAt (X : sx_X C p m c cX6_obeyAt 3 s args RX6) (hr : meth.sig.returnType = (some .boolean)) (hlocks : meth.locks = false) (hG : sx_G C) (hz : sx_sz C ≤ s.heap.size) (hcs : 0 ≤ R.cells ∧ 0 ≤ R.slots) (hR : 5 ≤ R.frames ∧ 118 ≤ R.locals) (a1 : Int32) (s2 : Nat) (hs_s2 : s2 < 18) (M0 : sx_M) (r : Int32) (M' : sx_M) (h : f6_obeyAt a1 s2 M0 = some (r, M')) (hl : lv_has ls 3 [(0, .ref (sx_ad C 13 0)), (1, .int a1), (2, .ref (sx_ad C 1 s2))]) (hP : sx_W C M0 H) (hS : va_S (sx_A C) s.heap H locs) : W p l e R s m args below meth c H locs 0 0 (sx_Z C (some (.int r)) M' below args s) (F0 m 0 ls []) := by
  obtain ⟨hx, hb, hml, hown, hts, hK⟩ := id X
  rw [f6_obeyAt] at h
  refine lv_aload_n hx hb dX6_obeyAt_0 rfl (lv_at hl 0 rfl) ?_
  refine lv_iload_n hx hb dX6_obeyAt_1 rfl (lv_at hl 1 rfl) ?_
  obtain ⟨v1, e_v1, h⟩ := sx_bnd h
  refine cl_X6_35 X hG hP hz hS  e_v1 hl.1 dX6_obeyAt_2 hcs ⟨Nat.le_trans (by decide) hR.1, Nat.le_trans (by decide) hR.2⟩ (Nat.le_of_ble_eq_true rfl) (fun H locs hP hS => ?_)
  by_cases c2 : v1 = (98 : Int32)
  · replace h := sx_ifp h c2
    refine lv_tableIn (tgt := 250) hx hb dX6_obeyAt_5 (by rw [c2]; decide) (by rw [c2]; decide) (by rw [c2]; rfl) (by decide) ?_
    refine lv_aload_n hx hb dX6_obeyAt_250 rfl (lv_at hl 2 rfl) ?_
    refine lv_bipush (v := (7 : Int32)) hx hb dX6_obeyAt_251 (by decide) ?_
    refine lv_bipush (v := (-9 : Int32)) hx hb dX6_obeyAt_253 (by decide) ?_
    refine lv_bipush (v := (-9 : Int32)) hx hb dX6_obeyAt_255 (by decide) ?_
    refine lv_iconst (v := (0 : Int32)) hx hb dX6_obeyAt_257 (by decide) ?_
    obtain ⟨v3, M4, e_v3, h⟩ := sx_bnd2 h
    refine cl_X6_38 X hG hP hz hS hs_s2 e_v3 hl.1 dX6_obeyAt_258 hcs ⟨Nat.le_trans (by decide) hR.1, Nat.le_trans (by decide) hR.2⟩ (Nat.le_of_ble_eq_true rfl) (fun H locs hP hS => ?_)
    obtain ⟨hz01, h⟩ := sx_ck h
    exact sx_zretM X hr hlocks hS hP hz01 h dX6_obeyAt_261
  replace h := sx_ifn h c2
  by_cases c5 : v1 = (99 : Int32)
  · replace h := sx_ifp h c5
    refine lv_tableIn (tgt := 262) hx hb dX6_obeyAt_5 (by rw [c5]; decide) (by rw [c5]; decide) (by rw [c5]; rfl) (by decide) ?_
    refine lv_aload_n hx hb dX6_obeyAt_262 rfl (lv_at hl 2 rfl) ?_
    refine lv_bipush (v := (8 : Int32)) hx hb dX6_obeyAt_263 (by decide) ?_
    refine lv_bipush (v := (-9 : Int32)) hx hb dX6_obeyAt_265 (by decide) ?_
    refine lv_bipush (v := (-9 : Int32)) hx hb dX6_obeyAt_267 (by decide) ?_
    refine lv_iconst (v := (0 : Int32)) hx hb dX6_obeyAt_269 (by decide) ?_
    obtain ⟨v6, M7, e_v6, h⟩ := sx_bnd2 h
    refine cl_X6_38 X hG hP hz hS hs_s2 e_v6 hl.1 dX6_obeyAt_270 hcs ⟨Nat.le_trans (by decide) hR.1, Nat.le_trans (by decide) hR.2⟩ (Nat.le_of_ble_eq_true rfl) (fun H locs hP hS => ?_)
    obtain ⟨hz01, h⟩ := sx_ck h
    exact sx_zretM X hr hlocks hS hP hz01 h dX6_obeyAt_273
  replace h := sx_ifn h c5
  by_cases c8 : v1 = (100 : Int32)
  · replace h := sx_ifp h c8
    refine lv_tableIn (tgt := 262) hx hb dX6_obeyAt_5 (by rw [c8]; decide) (by rw [c8]; decide) (by rw [c8]; rfl) (by decide) ?_
    refine lv_aload_n hx hb dX6_obeyAt_262 rfl (lv_at hl 2 rfl) ?_
    refine lv_bipush (v := (8 : Int32)) hx hb dX6_obeyAt_263 (by decide) ?_
    refine lv_bipush (v := (-9 : Int32)) hx hb dX6_obeyAt_265 (by decide) ?_
    refine lv_bipush (v := (-9 : Int32)) hx hb dX6_obeyAt_267 (by decide) ?_
    refine lv_iconst (v := (0 : Int32)) hx hb dX6_obeyAt_269 (by decide) ?_
    obtain ⟨v9, M10, e_v9, h⟩ := sx_bnd2 h
    refine cl_X6_38 X hG hP hz hS hs_s2 e_v9 hl.1 dX6_obeyAt_270 hcs ⟨Nat.le_trans (by decide) hR.1, Nat.le_trans (by decide) hR.2⟩ (Nat.le_of_ble_eq_true rfl) (fun H locs hP hS => ?_)
    obtain ⟨hz01, h⟩ := sx_ck h
    exact sx_zretM X hr hlocks hS hP hz01 h dX6_obeyAt_273
  replace h := sx_ifn h c8
  by_cases c11 : v1 = (101 : Int32)
  · replace h := sx_ifp h c11
    refine lv_tableIn (tgt := 262) hx hb dX6_obeyAt_5 (by rw [c11]; decide) (by rw [c11]; decide) (by rw [c11]; rfl) (by decide) ?_
    refine lv_aload_n hx hb dX6_obeyAt_262 rfl (lv_at hl 2 rfl) ?_
    refine lv_bipush (v := (8 : Int32)) hx hb dX6_obeyAt_263 (by decide) ?_
    refine lv_bipush (v := (-9 : Int32)) hx hb dX6_obeyAt_265 (by decide) ?_
    refine lv_bipush (v := (-9 : Int32)) hx hb dX6_obeyAt_267 (by decide) ?_
    refine lv_iconst (v := (0 : Int32)) hx hb dX6_obeyAt_269 (by decide) ?_
    obtain ⟨v12, M13, e_v12, h⟩ := sx_bnd2 h
    refine cl_X6_38 X hG hP hz hS hs_s2 e_v12 hl.1 dX6_obeyAt_270 hcs ⟨Nat.le_trans (by decide) hR.1, Nat.le_trans (by decide) hR.2⟩ (Nat.le_of_ble_eq_true rfl) (fun H locs hP hS => ?_)
    obtain ⟨hz01, h⟩ := sx_ck h
    exact sx_zretM X hr hlocks hS hP hz01 h dX6_obeyAt_273
  replace h := sx_ifn h c11
  by_cases c14 : v1 = (102 : Int32)
  · replace h := sx_ifp h c14
    refine lv_tableIn (tgt := 173) hx hb dX6_obeyAt_5 (by rw [c14]; decide) (by rw [c14]; decide) (by rw [c14]; rfl) (by decide) ?_
    refine lv_aload_n hx hb dX6_obeyAt_173 rfl (lv_at hl 2 rfl) ?_
    refine lv_iconst (v := (4 : Int32)) hx hb dX6_obeyAt_174 (by decide) ?_
    refine lv_aload_n hx hb dX6_obeyAt_175 rfl (lv_at hl 0 rfl) ?_
    refine lv_iload_n hx hb dX6_obeyAt_176 rfl (lv_at hl 1 rfl) ?_
    refine lv_iconst (v := (1 : Int32)) hx hb dX6_obeyAt_177 (by decide) ?_
    refine lv_iadd hx hb dX6_obeyAt_178 ?_
    obtain ⟨v15, e_v15, h⟩ := sx_bnd h
    refine cl_X6_44 X hG hP hz hS  e_v15 hl.1 dX6_obeyAt_179 hcs ⟨Nat.le_trans (by decide) hR.1, Nat.le_trans (by decide) hR.2⟩ (Nat.le_of_ble_eq_true rfl) (fun H locs hP hS => ?_)
    refine lv_aload_n hx hb dX6_obeyAt_182 rfl (lv_at hl 0 rfl) ?_
    refine lv_iload_n hx hb dX6_obeyAt_183 rfl (lv_at hl 1 rfl) ?_
    refine lv_iconst (v := (3 : Int32)) hx hb dX6_obeyAt_184 (by decide) ?_
    refine lv_iadd hx hb dX6_obeyAt_185 ?_
    obtain ⟨v16, e_v16, h⟩ := sx_bnd h
    refine cl_X6_47 X hG hP hz hS  e_v16 hl.1 dX6_obeyAt_186 hcs ⟨Nat.le_trans (by decide) hR.1, Nat.le_trans (by decide) hR.2⟩ (Nat.le_of_ble_eq_true rfl) (fun H locs hP hS => ?_)
    refine lv_iconst (v := (0 : Int32)) hx hb dX6_obeyAt_189 (by decide) ?_
    obtain ⟨v17, M18, e_v17, h⟩ := sx_bnd2 h
    refine cl_X6_38 X hG hP hz hS hs_s2 e_v17 hl.1 dX6_obeyAt_190 hcs ⟨Nat.le_trans (by decide) hR.1, Nat.le_trans (by decide) hR.2⟩ (Nat.le_of_ble_eq_true rfl) (fun H locs hP hS => ?_)
    obtain ⟨hz01, h⟩ := sx_ck h
    exact sx_zretM X hr hlocks hS hP hz01 h dX6_obeyAt_193
  replace h := sx_ifn h c14
  by_cases c19 : v1 = (103 : Int32)
  · replace h := sx_ifp h c19
    refine lv_tableIn (tgt := 262) hx hb dX6_obeyAt_5 (by rw [c19]; decide) (by rw [c19]; decide) (by rw [c19]; rfl) (by decide) ?_
    refine lv_aload_n hx hb dX6_obeyAt_262 rfl (lv_at hl 2 rfl) ?_
    refine lv_bipush (v := (8 : Int32)) hx hb dX6_obeyAt_263 (by decide) ?_
    refine lv_bipush (v := (-9 : Int32)) hx hb dX6_obeyAt_265 (by decide) ?_
    refine lv_bipush (v := (-9 : Int32)) hx hb dX6_obeyAt_267 (by decide) ?_
    refine lv_iconst (v := (0 : Int32)) hx hb dX6_obeyAt_269 (by decide) ?_
    obtain ⟨v20, M21, e_v20, h⟩ := sx_bnd2 h
    refine cl_X6_38 X hG hP hz hS hs_s2 e_v20 hl.1 dX6_obeyAt_270 hcs ⟨Nat.le_trans (by decide) hR.1, Nat.le_trans (by decide) hR.2⟩ (Nat.le_of_ble_eq_true rfl) (fun H locs hP hS => ?_)
    obtain ⟨hz01, h⟩ := sx_ck h
    exact sx_zretM X hr hlocks hS hP hz01 h dX6_obeyAt_273
  replace h := sx_ifn h c19
  by_cases c22 : v1 = (104 : Int32)
  · replace h := sx_ifp h c22
    refine lv_tableIn (tgt := 262) hx hb dX6_obeyAt_5 (by rw [c22]; decide) (by rw [c22]; decide) (by rw [c22]; rfl) (by decide) ?_
    refine lv_aload_n hx hb dX6_obeyAt_262 rfl (lv_at hl 2 rfl) ?_
    refine lv_bipush (v := (8 : Int32)) hx hb dX6_obeyAt_263 (by decide) ?_
    refine lv_bipush (v := (-9 : Int32)) hx hb dX6_obeyAt_265 (by decide) ?_
    refine lv_bipush (v := (-9 : Int32)) hx hb dX6_obeyAt_267 (by decide) ?_
    refine lv_iconst (v := (0 : Int32)) hx hb dX6_obeyAt_269 (by decide) ?_
    obtain ⟨v23, M24, e_v23, h⟩ := sx_bnd2 h
    refine cl_X6_38 X hG hP hz hS hs_s2 e_v23 hl.1 dX6_obeyAt_270 hcs ⟨Nat.le_trans (by decide) hR.1, Nat.le_trans (by decide) hR.2⟩ (Nat.le_of_ble_eq_true rfl) (fun H locs hP hS => ?_)
    obtain ⟨hz01, h⟩ := sx_ck h
    exact sx_zretM X hr hlocks hS hP hz01 h dX6_obeyAt_273
  replace h := sx_ifn h c22
  by_cases c25 : v1 = (105 : Int32)
  · replace h := sx_ifp h c25
    refine lv_tableIn (tgt := 262) hx hb dX6_obeyAt_5 (by rw [c25]; decide) (by rw [c25]; decide) (by rw [c25]; rfl) (by decide) ?_
    refine lv_aload_n hx hb dX6_obeyAt_262 rfl (lv_at hl 2 rfl) ?_
    refine lv_bipush (v := (8 : Int32)) hx hb dX6_obeyAt_263 (by decide) ?_
    refine lv_bipush (v := (-9 : Int32)) hx hb dX6_obeyAt_265 (by decide) ?_
    refine lv_bipush (v := (-9 : Int32)) hx hb dX6_obeyAt_267 (by decide) ?_
    refine lv_iconst (v := (0 : Int32)) hx hb dX6_obeyAt_269 (by decide) ?_
    obtain ⟨v26, M27, e_v26, h⟩ := sx_bnd2 h
    refine cl_X6_38 X hG hP hz hS hs_s2 e_v26 hl.1 dX6_obeyAt_270 hcs ⟨Nat.le_trans (by decide) hR.1, Nat.le_trans (by decide) hR.2⟩ (Nat.le_of_ble_eq_true rfl) (fun H locs hP hS => ?_)
    obtain ⟨hz01, h⟩ := sx_ck h
    exact sx_zretM X hr hlocks hS hP hz01 h dX6_obeyAt_273
  replace h := sx_ifn h c25
  by_cases c28 : v1 = (106 : Int32)
  · replace h := sx_ifp h c28
    refine lv_tableIn (tgt := 262) hx hb dX6_obeyAt_5 (by rw [c28]; decide) (by rw [c28]; decide) (by rw [c28]; rfl) (by decide) ?_
    refine lv_aload_n hx hb dX6_obeyAt_262 rfl (lv_at hl 2 rfl) ?_
    refine lv_bipush (v := (8 : Int32)) hx hb dX6_obeyAt_263 (by decide) ?_
    refine lv_bipush (v := (-9 : Int32)) hx hb dX6_obeyAt_265 (by decide) ?_
    refine lv_bipush (v := (-9 : Int32)) hx hb dX6_obeyAt_267 (by decide) ?_
    refine lv_iconst (v := (0 : Int32)) hx hb dX6_obeyAt_269 (by decide) ?_
    obtain ⟨v29, M30, e_v29, h⟩ := sx_bnd2 h
    refine cl_X6_38 X hG hP hz hS hs_s2 e_v29 hl.1 dX6_obeyAt_270 hcs ⟨Nat.le_trans (by decide) hR.1, Nat.le_trans (by decide) hR.2⟩ (Nat.le_of_ble_eq_true rfl) (fun H locs hP hS => ?_)
    obtain ⟨hz01, h⟩ := sx_ck h
    exact sx_zretM X hr hlocks hS hP hz01 h dX6_obeyAt_273
  replace h := sx_ifn h c28
  by_cases c31 : v1 = (107 : Int32)
  · replace h := sx_ifp h c31
    refine lv_tableIn (tgt := 262) hx hb dX6_obeyAt_5 (by rw [c31]; decide) (by rw [c31]; decide) (by rw [c31]; rfl) (by decide) ?_
    refine lv_aload_n hx hb dX6_obeyAt_262 rfl (lv_at hl 2 rfl) ?_
    refine lv_bipush (v := (8 : Int32)) hx hb dX6_obeyAt_263 (by decide) ?_
    refine lv_bipush (v := (-9 : Int32)) hx hb dX6_obeyAt_265 (by decide) ?_
    refine lv_bipush (v := (-9 : Int32)) hx hb dX6_obeyAt_267 (by decide) ?_
    refine lv_iconst (v := (0 : Int32)) hx hb dX6_obeyAt_269 (by decide) ?_
    obtain ⟨v32, M33, e_v32, h⟩ := sx_bnd2 h
    refine cl_X6_38 X hG hP hz hS hs_s2 e_v32 hl.1 dX6_obeyAt_270 hcs ⟨Nat.le_trans (by decide) hR.1, Nat.le_trans (by decide) hR.2⟩ (Nat.le_of_ble_eq_true rfl) (fun H locs hP hS => ?_)
    obtain ⟨hz01, h⟩ := sx_ck h
    exact sx_zretM X hr hlocks hS hP hz01 h dX6_obeyAt_273
  replace h := sx_ifn h c31
  by_cases c34 : v1 = (108 : Int32)
  · replace h := sx_ifp h c34
    refine lv_tableIn (tgt := 262) hx hb dX6_obeyAt_5 (by rw [c34]; decide) (by rw [c34]; decide) (by rw [c34]; rfl) (by decide) ?_
    refine lv_aload_n hx hb dX6_obeyAt_262 rfl (lv_at hl 2 rfl) ?_
    refine lv_bipush (v := (8 : Int32)) hx hb dX6_obeyAt_263 (by decide) ?_
    refine lv_bipush (v := (-9 : Int32)) hx hb dX6_obeyAt_265 (by decide) ?_
    refine lv_bipush (v := (-9 : Int32)) hx hb dX6_obeyAt_267 (by decide) ?_
    refine lv_iconst (v := (0 : Int32)) hx hb dX6_obeyAt_269 (by decide) ?_
    obtain ⟨v35, M36, e_v35, h⟩ := sx_bnd2 h
    refine cl_X6_38 X hG hP hz hS hs_s2 e_v35 hl.1 dX6_obeyAt_270 hcs ⟨Nat.le_trans (by decide) hR.1, Nat.le_trans (by decide) hR.2⟩ (Nat.le_of_ble_eq_true rfl) (fun H locs hP hS => ?_)
    obtain ⟨hz01, h⟩ := sx_ck h
    exact sx_zretM X hr hlocks hS hP hz01 h dX6_obeyAt_273
  replace h := sx_ifn h c34
  by_cases c37 : v1 = (109 : Int32)
  · replace h := sx_ifp h c37
    refine lv_tableIn (tgt := 194) hx hb dX6_obeyAt_5 (by rw [c37]; decide) (by rw [c37]; decide) (by rw [c37]; rfl) (by decide) ?_
    refine lv_aload_n hx hb dX6_obeyAt_194 rfl (lv_at hl 2 rfl) ?_
    refine lv_iconst (v := (5 : Int32)) hx hb dX6_obeyAt_195 (by decide) ?_
    refine lv_aload_n hx hb dX6_obeyAt_196 rfl (lv_at hl 0 rfl) ?_
    refine lv_iload_n hx hb dX6_obeyAt_197 rfl (lv_at hl 1 rfl) ?_
    refine lv_iconst (v := (1 : Int32)) hx hb dX6_obeyAt_198 (by decide) ?_
    refine lv_iadd hx hb dX6_obeyAt_199 ?_
    obtain ⟨v38, e_v38, h⟩ := sx_bnd h
    refine cl_X6_44 X hG hP hz hS  e_v38 hl.1 dX6_obeyAt_200 hcs ⟨Nat.le_trans (by decide) hR.1, Nat.le_trans (by decide) hR.2⟩ (Nat.le_of_ble_eq_true rfl) (fun H locs hP hS => ?_)
    refine lv_aload_n hx hb dX6_obeyAt_203 rfl (lv_at hl 0 rfl) ?_
    refine lv_iload_n hx hb dX6_obeyAt_204 rfl (lv_at hl 1 rfl) ?_
    refine lv_iconst (v := (3 : Int32)) hx hb dX6_obeyAt_205 (by decide) ?_
    refine lv_iadd hx hb dX6_obeyAt_206 ?_
    obtain ⟨v39, e_v39, h⟩ := sx_bnd h
    refine cl_X6_47 X hG hP hz hS  e_v39 hl.1 dX6_obeyAt_207 hcs ⟨Nat.le_trans (by decide) hR.1, Nat.le_trans (by decide) hR.2⟩ (Nat.le_of_ble_eq_true rfl) (fun H locs hP hS => ?_)
    refine lv_iconst (v := (0 : Int32)) hx hb dX6_obeyAt_210 (by decide) ?_
    obtain ⟨v40, M41, e_v40, h⟩ := sx_bnd2 h
    refine cl_X6_38 X hG hP hz hS hs_s2 e_v40 hl.1 dX6_obeyAt_211 hcs ⟨Nat.le_trans (by decide) hR.1, Nat.le_trans (by decide) hR.2⟩ (Nat.le_of_ble_eq_true rfl) (fun H locs hP hS => ?_)
    obtain ⟨hz01, h⟩ := sx_ck h
    exact sx_zretM X hr hlocks hS hP hz01 h dX6_obeyAt_214
  replace h := sx_ifn h c37
  by_cases c42 : v1 = (110 : Int32)
  · replace h := sx_ifp h c42
    refine lv_tableIn (tgt := 112) hx hb dX6_obeyAt_5 (by rw [c42]; decide) (by rw [c42]; decide) (by rw [c42]; rfl) (by decide) ?_
    refine lv_aload_n hx hb dX6_obeyAt_112 rfl (lv_at hl 2 rfl) ?_
    refine lv_iconst (v := (1 : Int32)) hx hb dX6_obeyAt_113 (by decide) ?_
    refine lv_bipush (v := (-9 : Int32)) hx hb dX6_obeyAt_114 (by decide) ?_
    refine lv_aload_n hx hb dX6_obeyAt_116 rfl (lv_at hl 0 rfl) ?_
    refine lv_iload_n hx hb dX6_obeyAt_117 rfl (lv_at hl 1 rfl) ?_
    refine lv_iconst (v := (1 : Int32)) hx hb dX6_obeyAt_118 (by decide) ?_
    refine lv_iadd hx hb dX6_obeyAt_119 ?_
    obtain ⟨v43, e_v43, h⟩ := sx_bnd h
    refine cl_X6_35 X hG hP hz hS  e_v43 hl.1 dX6_obeyAt_120 hcs ⟨Nat.le_trans (by decide) hR.1, Nat.le_trans (by decide) hR.2⟩ (Nat.le_of_ble_eq_true rfl) (fun H locs hP hS => ?_)
    refine lv_bipush (v := (48 : Int32)) hx hb dX6_obeyAt_123 (by decide) ?_
    refine lv_isub hx hb dX6_obeyAt_125 ?_
    refine lv_iconst (v := (0 : Int32)) hx hb dX6_obeyAt_126 (by decide) ?_
    obtain ⟨v44, M45, e_v44, h⟩ := sx_bnd2 h
    refine cl_X6_38 X hG hP hz hS hs_s2 e_v44 hl.1 dX6_obeyAt_127 hcs ⟨Nat.le_trans (by decide) hR.1, Nat.le_trans (by decide) hR.2⟩ (Nat.le_of_ble_eq_true rfl) (fun H locs hP hS => ?_)
    obtain ⟨hz01, h⟩ := sx_ck h
    exact sx_zretM X hr hlocks hS hP hz01 h dX6_obeyAt_130
  replace h := sx_ifn h c42
  by_cases c46 : v1 = (111 : Int32)
  · replace h := sx_ifp h c46
    refine lv_tableIn (tgt := 262) hx hb dX6_obeyAt_5 (by rw [c46]; decide) (by rw [c46]; decide) (by rw [c46]; rfl) (by decide) ?_
    refine lv_aload_n hx hb dX6_obeyAt_262 rfl (lv_at hl 2 rfl) ?_
    refine lv_bipush (v := (8 : Int32)) hx hb dX6_obeyAt_263 (by decide) ?_
    refine lv_bipush (v := (-9 : Int32)) hx hb dX6_obeyAt_265 (by decide) ?_
    refine lv_bipush (v := (-9 : Int32)) hx hb dX6_obeyAt_267 (by decide) ?_
    refine lv_iconst (v := (0 : Int32)) hx hb dX6_obeyAt_269 (by decide) ?_
    obtain ⟨v47, M48, e_v47, h⟩ := sx_bnd2 h
    refine cl_X6_38 X hG hP hz hS hs_s2 e_v47 hl.1 dX6_obeyAt_270 hcs ⟨Nat.le_trans (by decide) hR.1, Nat.le_trans (by decide) hR.2⟩ (Nat.le_of_ble_eq_true rfl) (fun H locs hP hS => ?_)
    obtain ⟨hz01, h⟩ := sx_ck h
    exact sx_zretM X hr hlocks hS hP hz01 h dX6_obeyAt_273
  replace h := sx_ifn h c46
  by_cases c49 : v1 = (112 : Int32)
  · replace h := sx_ifp h c49
    refine lv_tableIn (tgt := 215) hx hb dX6_obeyAt_5 (by rw [c49]; decide) (by rw [c49]; decide) (by rw [c49]; rfl) (by decide) ?_
    refine lv_aload_n hx hb dX6_obeyAt_215 rfl (lv_at hl 2 rfl) ?_
    refine lv_bipush (v := (6 : Int32)) hx hb dX6_obeyAt_216 (by decide) ?_
    refine lv_bipush (v := (-9 : Int32)) hx hb dX6_obeyAt_218 (by decide) ?_
    refine lv_aload_n hx hb dX6_obeyAt_220 rfl (lv_at hl 0 rfl) ?_
    refine lv_iload_n hx hb dX6_obeyAt_221 rfl (lv_at hl 1 rfl) ?_
    refine lv_iconst (v := (1 : Int32)) hx hb dX6_obeyAt_222 (by decide) ?_
    refine lv_iadd hx hb dX6_obeyAt_223 ?_
    obtain ⟨v50, e_v50, h⟩ := sx_bnd h
    refine cl_X6_47 X hG hP hz hS  e_v50 hl.1 dX6_obeyAt_224 hcs ⟨Nat.le_trans (by decide) hR.1, Nat.le_trans (by decide) hR.2⟩ (Nat.le_of_ble_eq_true rfl) (fun H locs hP hS => ?_)
    refine lv_aload_n hx hb dX6_obeyAt_227 rfl (lv_at hl 2 rfl) ?_
    refine lv_aload_n hx hb dX6_obeyAt_228 rfl (lv_at hl 0 rfl) ?_
    refine lv_iload_n hx hb dX6_obeyAt_229 rfl (lv_at hl 1 rfl) ?_
    refine lv_iconst (v := (1 : Int32)) hx hb dX6_obeyAt_230 (by decide) ?_
    refine lv_iadd hx hb dX6_obeyAt_231 ?_
    obtain ⟨v51, e_v51, h⟩ := sx_bnd h
    refine cl_X6_47 X hG hP hz hS  e_v51 hl.1 dX6_obeyAt_232 hcs ⟨Nat.le_trans (by decide) hR.1, Nat.le_trans (by decide) hR.2⟩ (Nat.le_of_ble_eq_true rfl) (fun H locs hP hS => ?_)
    obtain ⟨v52, e_v52, h⟩ := sx_bnd h
    refine cl_X6_50 X hG hP hz hS hs_s2 e_v52 hl.1 dX6_obeyAt_235 hcs ⟨Nat.le_trans (by decide) hR.1, Nat.le_trans (by decide) hR.2⟩ (Nat.le_of_ble_eq_true rfl) (fun H locs hP hS => ?_)
    obtain ⟨j246, e_j246, h⟩ := sx_nm h
    have hj246 : ∀ (v53 : Int32) (H : Heap) (locs : List Loc) (ls : Array Slot), lv_has ls 3 [] → sx_W C M0 H → va_S (sx_A C) s.heap H locs → j246 v53 = some (r, M') → W p l e R s m args below meth c H locs 0 0 (sx_Z C (some (.int r)) M' below args s) (F0 m 246 ls [.int v53, .int v50, .int (-9 : Int32), .int (6 : Int32), .ref (sx_ad C 1 s2)]) := by
      intro v53 H locs ls hl hP hS h
      subst e_j246
      obtain ⟨v54, M55, e_v54, h⟩ := sx_bnd2 h
      refine cl_X6_38 X hG hP hz hS hs_s2 e_v54 hl.1 dX6_obeyAt_246 hcs ⟨Nat.le_trans (by decide) hR.1, Nat.le_trans (by decide) hR.2⟩ (Nat.le_of_ble_eq_true rfl) (fun H locs hP hS => ?_)
      obtain ⟨hz01, h⟩ := sx_ck h
      exact sx_zretM X hr hlocks hS hP hz01 h dX6_obeyAt_249
    clear e_j246
    refine lv_if_ne (tgt := 245) hx hb dX6_obeyAt_238 (by decide) (fun c56 => ?_) (fun c56 => ?_)
    · replace h := sx_ifn h c56
      refine lv_iconst (v := (0 : Int32)) hx hb dX6_obeyAt_245 (by decide) ?_
      exact hj246 (0 : Int32) H locs ls (lv_sub hl [] rfl) hP hS h
    · replace h := sx_ifp h c56
      refine lv_iconst (v := (1 : Int32)) hx hb dX6_obeyAt_241 (by decide) ?_
      refine lv_goto (tgt := 246) hx hb dX6_obeyAt_242 (by decide) ?_
      exact hj246 (1 : Int32) H locs ls (lv_sub hl [] rfl) hP hS h
  replace h := sx_ifn h c49
  by_cases c57 : v1 = (113 : Int32)
  · replace h := sx_ifp h c57
    refine lv_tableIn (tgt := 262) hx hb dX6_obeyAt_5 (by rw [c57]; decide) (by rw [c57]; decide) (by rw [c57]; rfl) (by decide) ?_
    refine lv_aload_n hx hb dX6_obeyAt_262 rfl (lv_at hl 2 rfl) ?_
    refine lv_bipush (v := (8 : Int32)) hx hb dX6_obeyAt_263 (by decide) ?_
    refine lv_bipush (v := (-9 : Int32)) hx hb dX6_obeyAt_265 (by decide) ?_
    refine lv_bipush (v := (-9 : Int32)) hx hb dX6_obeyAt_267 (by decide) ?_
    refine lv_iconst (v := (0 : Int32)) hx hb dX6_obeyAt_269 (by decide) ?_
    obtain ⟨v58, M59, e_v58, h⟩ := sx_bnd2 h
    refine cl_X6_38 X hG hP hz hS hs_s2 e_v58 hl.1 dX6_obeyAt_270 hcs ⟨Nat.le_trans (by decide) hR.1, Nat.le_trans (by decide) hR.2⟩ (Nat.le_of_ble_eq_true rfl) (fun H locs hP hS => ?_)
    obtain ⟨hz01, h⟩ := sx_ck h
    exact sx_zretM X hr hlocks hS hP hz01 h dX6_obeyAt_273
  replace h := sx_ifn h c57
  by_cases c60 : v1 = (114 : Int32)
  · replace h := sx_ifp h c60
    refine lv_tableIn (tgt := 262) hx hb dX6_obeyAt_5 (by rw [c60]; decide) (by rw [c60]; decide) (by rw [c60]; rfl) (by decide) ?_
    refine lv_aload_n hx hb dX6_obeyAt_262 rfl (lv_at hl 2 rfl) ?_
    refine lv_bipush (v := (8 : Int32)) hx hb dX6_obeyAt_263 (by decide) ?_
    refine lv_bipush (v := (-9 : Int32)) hx hb dX6_obeyAt_265 (by decide) ?_
    refine lv_bipush (v := (-9 : Int32)) hx hb dX6_obeyAt_267 (by decide) ?_
    refine lv_iconst (v := (0 : Int32)) hx hb dX6_obeyAt_269 (by decide) ?_
    obtain ⟨v61, M62, e_v61, h⟩ := sx_bnd2 h
    refine cl_X6_38 X hG hP hz hS hs_s2 e_v61 hl.1 dX6_obeyAt_270 hcs ⟨Nat.le_trans (by decide) hR.1, Nat.le_trans (by decide) hR.2⟩ (Nat.le_of_ble_eq_true rfl) (fun H locs hP hS => ?_)
    obtain ⟨hz01, h⟩ := sx_ck h
    exact sx_zretM X hr hlocks hS hP hz01 h dX6_obeyAt_273
  replace h := sx_ifn h c60
  by_cases c63 : v1 = (115 : Int32)
  · replace h := sx_ifp h c63
    refine lv_tableIn (tgt := 262) hx hb dX6_obeyAt_5 (by rw [c63]; decide) (by rw [c63]; decide) (by rw [c63]; rfl) (by decide) ?_
    refine lv_aload_n hx hb dX6_obeyAt_262 rfl (lv_at hl 2 rfl) ?_
    refine lv_bipush (v := (8 : Int32)) hx hb dX6_obeyAt_263 (by decide) ?_
    refine lv_bipush (v := (-9 : Int32)) hx hb dX6_obeyAt_265 (by decide) ?_
    refine lv_bipush (v := (-9 : Int32)) hx hb dX6_obeyAt_267 (by decide) ?_
    refine lv_iconst (v := (0 : Int32)) hx hb dX6_obeyAt_269 (by decide) ?_
    obtain ⟨v64, M65, e_v64, h⟩ := sx_bnd2 h
    refine cl_X6_38 X hG hP hz hS hs_s2 e_v64 hl.1 dX6_obeyAt_270 hcs ⟨Nat.le_trans (by decide) hR.1, Nat.le_trans (by decide) hR.2⟩ (Nat.le_of_ble_eq_true rfl) (fun H locs hP hS => ?_)
    obtain ⟨hz01, h⟩ := sx_ck h
    exact sx_zretM X hr hlocks hS hP hz01 h dX6_obeyAt_273
  replace h := sx_ifn h c63
  by_cases c66 : v1 = (116 : Int32)
  · replace h := sx_ifp h c66
    refine lv_tableIn (tgt := 131) hx hb dX6_obeyAt_5 (by rw [c66]; decide) (by rw [c66]; decide) (by rw [c66]; rfl) (by decide) ?_
    refine lv_aload_n hx hb dX6_obeyAt_131 rfl (lv_at hl 2 rfl) ?_
    refine lv_iconst (v := (2 : Int32)) hx hb dX6_obeyAt_132 (by decide) ?_
    refine lv_aload_n hx hb dX6_obeyAt_133 rfl (lv_at hl 0 rfl) ?_
    refine lv_iload_n hx hb dX6_obeyAt_134 rfl (lv_at hl 1 rfl) ?_
    refine lv_iconst (v := (1 : Int32)) hx hb dX6_obeyAt_135 (by decide) ?_
    refine lv_iadd hx hb dX6_obeyAt_136 ?_
    obtain ⟨v67, e_v67, h⟩ := sx_bnd h
    refine cl_X6_44 X hG hP hz hS  e_v67 hl.1 dX6_obeyAt_137 hcs ⟨Nat.le_trans (by decide) hR.1, Nat.le_trans (by decide) hR.2⟩ (Nat.le_of_ble_eq_true rfl) (fun H locs hP hS => ?_)
    refine lv_aload_n hx hb dX6_obeyAt_140 rfl (lv_at hl 0 rfl) ?_
    refine lv_iload_n hx hb dX6_obeyAt_141 rfl (lv_at hl 1 rfl) ?_
    refine lv_iconst (v := (3 : Int32)) hx hb dX6_obeyAt_142 (by decide) ?_
    refine lv_iadd hx hb dX6_obeyAt_143 ?_
    obtain ⟨v68, e_v68, h⟩ := sx_bnd h
    refine cl_X6_47 X hG hP hz hS  e_v68 hl.1 dX6_obeyAt_144 hcs ⟨Nat.le_trans (by decide) hR.1, Nat.le_trans (by decide) hR.2⟩ (Nat.le_of_ble_eq_true rfl) (fun H locs hP hS => ?_)
    refine lv_iconst (v := (1 : Int32)) hx hb dX6_obeyAt_147 (by decide) ?_
    obtain ⟨v69, M70, e_v69, h⟩ := sx_bnd2 h
    refine cl_X6_38 X hG hP hz hS hs_s2 e_v69 hl.1 dX6_obeyAt_148 hcs ⟨Nat.le_trans (by decide) hR.1, Nat.le_trans (by decide) hR.2⟩ (Nat.le_of_ble_eq_true rfl) (fun H locs hP hS => ?_)
    obtain ⟨hz01, h⟩ := sx_ck h
    exact sx_zretM X hr hlocks hS hP hz01 h dX6_obeyAt_151
  replace h := sx_ifn h c66
  by_cases c71 : v1 = (117 : Int32)
  · replace h := sx_ifp h c71
    refine lv_tableIn (tgt := 262) hx hb dX6_obeyAt_5 (by rw [c71]; decide) (by rw [c71]; decide) (by rw [c71]; rfl) (by decide) ?_
    refine lv_aload_n hx hb dX6_obeyAt_262 rfl (lv_at hl 2 rfl) ?_
    refine lv_bipush (v := (8 : Int32)) hx hb dX6_obeyAt_263 (by decide) ?_
    refine lv_bipush (v := (-9 : Int32)) hx hb dX6_obeyAt_265 (by decide) ?_
    refine lv_bipush (v := (-9 : Int32)) hx hb dX6_obeyAt_267 (by decide) ?_
    refine lv_iconst (v := (0 : Int32)) hx hb dX6_obeyAt_269 (by decide) ?_
    obtain ⟨v72, M73, e_v72, h⟩ := sx_bnd2 h
    refine cl_X6_38 X hG hP hz hS hs_s2 e_v72 hl.1 dX6_obeyAt_270 hcs ⟨Nat.le_trans (by decide) hR.1, Nat.le_trans (by decide) hR.2⟩ (Nat.le_of_ble_eq_true rfl) (fun H locs hP hS => ?_)
    obtain ⟨hz01, h⟩ := sx_ck h
    exact sx_zretM X hr hlocks hS hP hz01 h dX6_obeyAt_273
  replace h := sx_ifn h c71
  by_cases c74 : v1 = (118 : Int32)
  · replace h := sx_ifp h c74
    refine lv_tableIn (tgt := 262) hx hb dX6_obeyAt_5 (by rw [c74]; decide) (by rw [c74]; decide) (by rw [c74]; rfl) (by decide) ?_
    refine lv_aload_n hx hb dX6_obeyAt_262 rfl (lv_at hl 2 rfl) ?_
    refine lv_bipush (v := (8 : Int32)) hx hb dX6_obeyAt_263 (by decide) ?_
    refine lv_bipush (v := (-9 : Int32)) hx hb dX6_obeyAt_265 (by decide) ?_
    refine lv_bipush (v := (-9 : Int32)) hx hb dX6_obeyAt_267 (by decide) ?_
    refine lv_iconst (v := (0 : Int32)) hx hb dX6_obeyAt_269 (by decide) ?_
    obtain ⟨v75, M76, e_v75, h⟩ := sx_bnd2 h
    refine cl_X6_38 X hG hP hz hS hs_s2 e_v75 hl.1 dX6_obeyAt_270 hcs ⟨Nat.le_trans (by decide) hR.1, Nat.le_trans (by decide) hR.2⟩ (Nat.le_of_ble_eq_true rfl) (fun H locs hP hS => ?_)
    obtain ⟨hz01, h⟩ := sx_ck h
    exact sx_zretM X hr hlocks hS hP hz01 h dX6_obeyAt_273
  replace h := sx_ifn h c74
  by_cases c77 : v1 = (119 : Int32)
  · replace h := sx_ifp h c77
    refine lv_tableIn (tgt := 262) hx hb dX6_obeyAt_5 (by rw [c77]; decide) (by rw [c77]; decide) (by rw [c77]; rfl) (by decide) ?_
    refine lv_aload_n hx hb dX6_obeyAt_262 rfl (lv_at hl 2 rfl) ?_
    refine lv_bipush (v := (8 : Int32)) hx hb dX6_obeyAt_263 (by decide) ?_
    refine lv_bipush (v := (-9 : Int32)) hx hb dX6_obeyAt_265 (by decide) ?_
    refine lv_bipush (v := (-9 : Int32)) hx hb dX6_obeyAt_267 (by decide) ?_
    refine lv_iconst (v := (0 : Int32)) hx hb dX6_obeyAt_269 (by decide) ?_
    obtain ⟨v78, M79, e_v78, h⟩ := sx_bnd2 h
    refine cl_X6_38 X hG hP hz hS hs_s2 e_v78 hl.1 dX6_obeyAt_270 hcs ⟨Nat.le_trans (by decide) hR.1, Nat.le_trans (by decide) hR.2⟩ (Nat.le_of_ble_eq_true rfl) (fun H locs hP hS => ?_)
    obtain ⟨hz01, h⟩ := sx_ck h
    exact sx_zretM X hr hlocks hS hP hz01 h dX6_obeyAt_273
  replace h := sx_ifn h c77
  by_cases c80 : v1 = (120 : Int32)
  · replace h := sx_ifp h c80
    refine lv_tableIn (tgt := 152) hx hb dX6_obeyAt_5 (by rw [c80]; decide) (by rw [c80]; decide) (by rw [c80]; rfl) (by decide) ?_
    refine lv_aload_n hx hb dX6_obeyAt_152 rfl (lv_at hl 2 rfl) ?_
    refine lv_iconst (v := (3 : Int32)) hx hb dX6_obeyAt_153 (by decide) ?_
    refine lv_aload_n hx hb dX6_obeyAt_154 rfl (lv_at hl 0 rfl) ?_
    refine lv_iload_n hx hb dX6_obeyAt_155 rfl (lv_at hl 1 rfl) ?_
    refine lv_iconst (v := (1 : Int32)) hx hb dX6_obeyAt_156 (by decide) ?_
    refine lv_iadd hx hb dX6_obeyAt_157 ?_
    obtain ⟨v81, e_v81, h⟩ := sx_bnd h
    refine cl_X6_44 X hG hP hz hS  e_v81 hl.1 dX6_obeyAt_158 hcs ⟨Nat.le_trans (by decide) hR.1, Nat.le_trans (by decide) hR.2⟩ (Nat.le_of_ble_eq_true rfl) (fun H locs hP hS => ?_)
    refine lv_aload_n hx hb dX6_obeyAt_161 rfl (lv_at hl 0 rfl) ?_
    refine lv_iload_n hx hb dX6_obeyAt_162 rfl (lv_at hl 1 rfl) ?_
    refine lv_iconst (v := (3 : Int32)) hx hb dX6_obeyAt_163 (by decide) ?_
    refine lv_iadd hx hb dX6_obeyAt_164 ?_
    obtain ⟨v82, e_v82, h⟩ := sx_bnd h
    refine cl_X6_47 X hG hP hz hS  e_v82 hl.1 dX6_obeyAt_165 hcs ⟨Nat.le_trans (by decide) hR.1, Nat.le_trans (by decide) hR.2⟩ (Nat.le_of_ble_eq_true rfl) (fun H locs hP hS => ?_)
    refine lv_iconst (v := (0 : Int32)) hx hb dX6_obeyAt_168 (by decide) ?_
    obtain ⟨v83, M84, e_v83, h⟩ := sx_bnd2 h
    refine cl_X6_38 X hG hP hz hS hs_s2 e_v83 hl.1 dX6_obeyAt_169 hcs ⟨Nat.le_trans (by decide) hR.1, Nat.le_trans (by decide) hR.2⟩ (Nat.le_of_ble_eq_true rfl) (fun H locs hP hS => ?_)
    obtain ⟨hz01, h⟩ := sx_ck h
    exact sx_zretM X hr hlocks hS hP hz01 h dX6_obeyAt_172
  replace h := sx_ifn h c80
  have t_c2 := lv_neT (a := 98) c2 (by decide)
  have t_c5 := lv_neT (a := 99) c5 (by decide)
  have t_c8 := lv_neT (a := 100) c8 (by decide)
  have t_c11 := lv_neT (a := 101) c11 (by decide)
  have t_c14 := lv_neT (a := 102) c14 (by decide)
  have t_c19 := lv_neT (a := 103) c19 (by decide)
  have t_c22 := lv_neT (a := 104) c22 (by decide)
  have t_c25 := lv_neT (a := 105) c25 (by decide)
  have t_c28 := lv_neT (a := 106) c28 (by decide)
  have t_c31 := lv_neT (a := 107) c31 (by decide)
  have t_c34 := lv_neT (a := 108) c34 (by decide)
  have t_c37 := lv_neT (a := 109) c37 (by decide)
  have t_c42 := lv_neT (a := 110) c42 (by decide)
  have t_c46 := lv_neT (a := 111) c46 (by decide)
  have t_c49 := lv_neT (a := 112) c49 (by decide)
  have t_c57 := lv_neT (a := 113) c57 (by decide)
  have t_c60 := lv_neT (a := 114) c60 (by decide)
  have t_c63 := lv_neT (a := 115) c63 (by decide)
  have t_c66 := lv_neT (a := 116) c66 (by decide)
  have t_c71 := lv_neT (a := 117) c71 (by decide)
  have t_c74 := lv_neT (a := 118) c74 (by decide)
  have t_c77 := lv_neT (a := 119) c77 (by decide)
  have t_c80 := lv_neT (a := 120) c80 (by decide)
  refine lv_tableOut (tgt := 262) hx hb dX6_obeyAt_5 (by omega) (by decide) ?_
  refine lv_aload_n hx hb dX6_obeyAt_262 rfl (lv_at hl 2 rfl) ?_
  refine lv_bipush (v := (8 : Int32)) hx hb dX6_obeyAt_263 (by decide) ?_
  refine lv_bipush (v := (-9 : Int32)) hx hb dX6_obeyAt_265 (by decide) ?_
  refine lv_bipush (v := (-9 : Int32)) hx hb dX6_obeyAt_267 (by decide) ?_
  refine lv_iconst (v := (0 : Int32)) hx hb dX6_obeyAt_269 (by decide) ?_
  obtain ⟨v85, M86, e_v85, h⟩ := sx_bnd2 h
  refine cl_X6_38 X hG hP hz hS hs_s2 e_v85 hl.1 dX6_obeyAt_270 hcs ⟨Nat.le_trans (by decide) hR.1, Nat.le_trans (by decide) hR.2⟩ (Nat.le_of_ble_eq_true rfl) (fun H locs hP hS => ?_)
  obtain ⟨hz01, h⟩ := sx_ck h
  exact sx_zretM X hr hlocks hS hP hz01 h dX6_obeyAt_273
set_option maxRecDepth 100000 in
theorem ct_6_obeyAt (l : Launch) (C : sx_C) (hG : sx_G C) (a1 : Int32) (s2 : Nat) (hs_s2 : s2 < 18) (M0 : sx_M) (r : Int32) (M' : sx_M) (h : f6_obeyAt a1 s2 M0 = some (r, M')) : Met l yX6_obeyAt (.code yX6_obeyAt cX6_obeyAt 3 (some .boolean) :: sx_T) ({ frames := 5, cells := 0, slots := 0, locals := 118 } : Room) (sx_Pc C M0 [.ref (sx_ad C 13 0), .int a1, .ref (sx_ad C 1 s2)]) (sx_Q C (some (.int r)) M') 0 0 (sx_A C) := by
  refine Met.ofW (cc := cX6_obeyAt) (maxL := 3) (ret := (some .boolean)) (by decide) rfl ?_
  intro p e s m args below meth c s₁ B hml hv
  obtain ⟨rfl, hz, hP, hK⟩ := hv
  have hl := lv_entry ([.ref (sx_ad C 13 0), .int a1, .ref (sx_ad C 1 s2)]) (n := 3) (Nat.le_of_ble_eq_true rfl)
  rw [lg_entry_eq]
  generalize (lg_sl ([.ref (sx_ad C 13 0), .int a1, .ref (sx_ad C 1 s2)]) ++ List.replicate (3 - (lg_sl ([.ref (sx_ad C 13 0), .int a1, .ref (sx_ad C 1 s2)])).length) Slot.unset).toArray = ls at hl ⊢
  exact wk_6_obeyAt ⟨B.exec, B.bytes, hml, findClass_of_methodNamed B.named, fun w hw => atoms_spec B.pre w (List.mem_cons_of_mem _ hw), hK⟩ B.returns B.notSynchronized hG hz ⟨Nat.zero_le _, Nat.zero_le _⟩ ⟨Nat.le_refl _, Nat.le_refl _⟩ a1 s2 hs_s2 M0 r M' h hl hP va_S.rf
theorem cl_X7_90 (X : sx_X C p m c cc nL s args RX7) (hG : sx_G C) (hP : sx_W C M0 H) (hz : sx_sz C ≤ H0.size) (hS : va_S (sx_A C) H0 H locs) {a1 : Int32} {s2 : Nat} (hs_s2 : s2 < 18) {r : Int32} {M' : sx_M} (h : f6_obeyAt a1 s2 M0 = some (r, M')) (hsz : ls.size = nL) (hdg : decode cc pc = .ok (.invokevirtual 90, 3)) (hcs : cells ≤ R.cells ∧ slots ≤ R.slots) (hR : 5 + 1 ≤ R.frames ∧ 8 + (3 + 11) + 118 ≤ R.locals) (hrest : (rest.map fun v => v.category).sum ≤ 8) (kk : ∀ (H1 : Heap) (locs1 : List Loc), sx_W C M' H1 → va_S (sx_A C) H0 H1 locs1 → W p l e R s m args below meth c H1 locs1 cells slots Q (F0 m (pc + 3) ls ((.int r) :: rest))) : W p l e R s m args below meth c H locs cells slots Q (F0 m pc ls (.ref (sx_ad C 1 s2) :: .int a1 :: .ref (sx_ad C 13 0) :: rest)) :=
  sx_callV (n := 2) (As := [.int a1, .ref (sx_ad C 1 s2)]) (k0 := 13) (s0 := 0) X hP hz hS (by decide) rfl rfl (sx_goodV tw_556 tw_557 tw_558 tw_69 tw_559) (by decide +kernel) rfl rfl hR (ct_6_obeyAt l C hG a1 s2 hs_s2 M0 r M' h) rfl rfl hrest hsz hdg hcs kk
end SXM
