section SXM
variable {p : Program} {l : Launch} {e : Env} {R : Room} {s : State} {m : MethodId} {args : Array Value} {below : List Frame} {meth : Method} {c : Code} {H : Heap} {locs : List Loc} {cells slots : Nat} {Q : State → Prop}
variable {O : Type} {out : O} {C : sx_C} {M M0 : sx_M} {cc : ByteArray} {nL : Nat} {own : String} {pc : Nat} {ls : Array Slot} {rest : List Value} {H0 : Heap}
-- StringShed$Past.isEmpty()Z pure
def f1_isEmpty  (M0 : sx_M) : Option (Int32) :=
  sx_bd (M0.1 9 0 2) fun v1 =>
  sx_bd (fun (v2 : Int32) =>
    if v2 = 0 ∨ v2 = 1 then some v2 else none) fun j12 =>
  if 0 < v1 then
    j12 (0 : Int32)
  else
    j12 (1 : Int32)
set_option maxRecDepth 100000 in
set_option maxHeartbeats 4000000 in
theorem wk_1_isEmpty (X : sx_X C p m c cX1_isEmpty 1 s args RX1) (hr : meth.sig.returnType = (some .boolean)) (hlocks : meth.locks = false) (hG : sx_G C) (hz : sx_sz C ≤ s.heap.size) (hcs : 0 ≤ R.cells ∧ 0 ≤ R.slots) (hR : 0 ≤ R.frames ∧ 0 ≤ R.locals) (M0 : sx_M) (r : Int32) (h : f1_isEmpty M0 = some r) (hl : lv_has ls 1 [(0, .ref (sx_ad C 9 0))]) (hP : sx_W C M0 H) (hS : va_S (sx_A C) s.heap H locs) : W p l e R s m args below meth c H locs 0 0 (sx_Z C (some (.int r)) M0 below args s) (F0 m 0 ls []) := by
  obtain ⟨hx, hb, hml, hown, hts, hK⟩ := id X
  rw [f1_isEmpty] at h
  refine lv_aload_n hx hb dX1_isEmpty_0 rfl (lv_at hl 0 rfl) ?_
  refine gf_X1_21 X hP (by decide) dX1_isEmpty_1 h (fun v1 h => ?_)
  obtain ⟨j12, e_j12, h⟩ := sx_nm h
  have hj12 : ∀ (v2 : Int32) (H : Heap) (locs : List Loc) (ls : Array Slot), lv_has ls 1 [] → sx_W C M0 H → va_S (sx_A C) s.heap H locs → j12 v2 = some r → W p l e R s m args below meth c H locs 0 0 (sx_Z C (some (.int r)) M0 below args s) (F0 m 12 ls [.int v2]) := by
    intro v2 H locs ls hl hP hS h
    subst e_j12
    obtain ⟨hz01, h⟩ := sx_ck h
    exact sx_zret X hr hlocks hS hP hz01 h dX1_isEmpty_12
  clear e_j12
  refine lv_if_gt (tgt := 11) hx hb dX1_isEmpty_4 (by decide) (fun c3 => ?_) (fun c3 => ?_)
  · replace h := sx_ifp h c3
    refine lv_iconst (v := (0 : Int32)) hx hb dX1_isEmpty_11 (by decide) ?_
    exact hj12 (0 : Int32) H locs ls (lv_sub hl [] rfl) hP hS h
  · replace h := sx_ifn h c3
    refine lv_iconst (v := (1 : Int32)) hx hb dX1_isEmpty_7 (by decide) ?_
    refine lv_goto (tgt := 12) hx hb dX1_isEmpty_8 (by decide) ?_
    exact hj12 (1 : Int32) H locs ls (lv_sub hl [] rfl) hP hS h
set_option maxRecDepth 100000 in
theorem ct_1_isEmpty (l : Launch) (C : sx_C) (hG : sx_G C) (M0 : sx_M) (r : Int32) (h : f1_isEmpty M0 = some r) : Met l yX1_isEmpty (.code yX1_isEmpty cX1_isEmpty 1 (some .boolean) :: sx_T) ({ frames := 0, cells := 0, slots := 0, locals := 0 } : Room) (sx_Pc C M0 [.ref (sx_ad C 9 0)]) (sx_Q C (some (.int r)) M0) 0 0 (sx_A C) := by
  refine Met.ofW (cc := cX1_isEmpty) (maxL := 1) (ret := (some .boolean)) (by decide) rfl ?_
  intro p e s m args below meth c s₁ B hml hv
  obtain ⟨rfl, hz, hP, hK⟩ := hv
  have hl := lv_entry ([.ref (sx_ad C 9 0)]) (n := 1) (Nat.le_of_ble_eq_true rfl)
  rw [lg_entry_eq]
  generalize (lg_sl ([.ref (sx_ad C 9 0)]) ++ List.replicate (1 - (lg_sl ([.ref (sx_ad C 9 0)])).length) Slot.unset).toArray = ls at hl ⊢
  exact wk_1_isEmpty ⟨B.exec, B.bytes, hml, findClass_of_methodNamed B.named, fun w hw => atoms_spec B.pre w (List.mem_cons_of_mem _ hw), hK⟩ B.returns B.notSynchronized hG hz ⟨Nat.zero_le _, Nat.zero_le _⟩ ⟨Nat.le_refl _, Nat.le_refl _⟩ M0 r h hl hP va_S.rf
theorem cl_X7_136 (X : sx_X C p m c cc nL s args RX7) (hG : sx_G C) (hP : sx_W C M0 H) (hz : sx_sz C ≤ H0.size) (hS : va_S (sx_A C) H0 H locs) {r : Int32} (h : f1_isEmpty M0 = some r) (hsz : ls.size = nL) (hdg : decode cc pc = .ok (.invokevirtual 136, 3)) (hcs : cells ≤ R.cells ∧ slots ≤ R.slots) (hR : 0 + 1 ≤ R.frames ∧ 8 + (1 + 11) + 0 ≤ R.locals) (hrest : (rest.map fun v => v.category).sum ≤ 8) (kk : ∀ (H1 : Heap) (locs1 : List Loc), sx_W C M0 H1 → va_S (sx_A C) H0 H1 locs1 → W p l e R s m args below meth c H1 locs1 cells slots Q (F0 m (pc + 3) ls ((.int r) :: rest))) : W p l e R s m args below meth c H locs cells slots Q (F0 m pc ls (.ref (sx_ad C 9 0) :: rest)) :=
  sx_callV (n := 0) (As := []) (k0 := 9) (s0 := 0) X hP hz hS (by decide) rfl rfl (sx_goodV tw_835 tw_836 tw_837 tw_68 tw_838) (by decide +kernel) rfl rfl hR (ct_1_isEmpty l C hG M0 r h) rfl rfl hrest hsz hdg hcs kk
-- StringShed$Past.forget()V
def f1_forget  (M0 : sx_M) : Option (sx_M) :=
  sx_bd (sx_set M0 9 0 2 (0 : Int32)) fun M1 =>
  some M1
set_option maxRecDepth 100000 in
set_option maxHeartbeats 4000000 in
theorem wk_1_forget (X : sx_X C p m c cX1_forget 1 s args RX1) (hr : meth.sig.returnType = none) (hlocks : meth.locks = false) (hG : sx_G C) (hz : sx_sz C ≤ s.heap.size) (hcs : 0 ≤ R.cells ∧ 0 ≤ R.slots) (hR : 0 ≤ R.frames ∧ 0 ≤ R.locals) (M0 : sx_M) (M' : sx_M) (h : f1_forget M0 = some M') (hl : lv_has ls 1 [(0, .ref (sx_ad C 9 0))]) (hP : sx_W C M0 H) (hS : va_S (sx_A C) s.heap H locs) : W p l e R s m args below meth c H locs 0 0 (sx_Z C none M' below args s) (F0 m 0 ls []) := by
  obtain ⟨hx, hb, hml, hown, hts, hK⟩ := id X
  rw [f1_forget] at h
  refine lv_aload_n hx hb dX1_forget_0 rfl (lv_at hl 0 rfl) ?_
  refine lv_iconst (v := (0 : Int32)) hx hb dX1_forget_1 (by decide) ?_
  refine pf_X1_21 X hG hP hS (by decide) dX1_forget_2 h (fun M1 H locs h hP hS => ?_)
  exact sx_vret X hr hlocks hS hP h dX1_forget_5
set_option maxRecDepth 100000 in
theorem ct_1_forget (l : Launch) (C : sx_C) (hG : sx_G C) (M0 : sx_M) (M' : sx_M) (h : f1_forget M0 = some M') : Met l yX1_forget (.code yX1_forget cX1_forget 1 none :: sx_T) ({ frames := 0, cells := 0, slots := 0, locals := 0 } : Room) (sx_Pc C M0 [.ref (sx_ad C 9 0)]) (sx_Q C none M') 0 0 (sx_A C) := by
  refine Met.ofW (cc := cX1_forget) (maxL := 1) (ret := none) (by decide) rfl ?_
  intro p e s m args below meth c s₁ B hml hv
  obtain ⟨rfl, hz, hP, hK⟩ := hv
  have hl := lv_entry ([.ref (sx_ad C 9 0)]) (n := 1) (Nat.le_of_ble_eq_true rfl)
  rw [lg_entry_eq]
  generalize (lg_sl ([.ref (sx_ad C 9 0)]) ++ List.replicate (1 - (lg_sl ([.ref (sx_ad C 9 0)])).length) Slot.unset).toArray = ls at hl ⊢
  exact wk_1_forget ⟨B.exec, B.bytes, hml, findClass_of_methodNamed B.named, fun w hw => atoms_spec B.pre w (List.mem_cons_of_mem _ hw), hK⟩ B.returns B.notSynchronized hG hz ⟨Nat.zero_le _, Nat.zero_le _⟩ ⟨Nat.le_refl _, Nat.le_refl _⟩ M0 M' h hl hP va_S.rf
theorem cl_X7_80 (X : sx_X C p m c cc nL s args RX7) (hG : sx_G C) (hP : sx_W C M0 H) (hz : sx_sz C ≤ H0.size) (hS : va_S (sx_A C) H0 H locs) {M' : sx_M} (h : f1_forget M0 = some M') (hsz : ls.size = nL) (hdg : decode cc pc = .ok (.invokevirtual 80, 3)) (hcs : cells ≤ R.cells ∧ slots ≤ R.slots) (hR : 0 + 1 ≤ R.frames ∧ 8 + (1 + 11) + 0 ≤ R.locals) (hrest : (rest.map fun v => v.category).sum ≤ 8) (kk : ∀ (H1 : Heap) (locs1 : List Loc), sx_W C M' H1 → va_S (sx_A C) H0 H1 locs1 → W p l e R s m args below meth c H1 locs1 cells slots Q (F0 m (pc + 3) ls (rest))) : W p l e R s m args below meth c H locs cells slots Q (F0 m pc ls (.ref (sx_ad C 9 0) :: rest)) :=
  sx_callV (n := 0) (As := []) (k0 := 9) (s0 := 0) X hP hz hS (by decide) rfl rfl (sx_goodV tw_540 tw_541 tw_542 tw_68 tw_543) (by decide +kernel) rfl rfl hR (ct_1_forget l C hG M0 M' h) rfl rfl hrest hsz hdg hcs kk
-- StringShed$Past.stateAt(I)LStringShed$Shed; pure
def f1_stateAt (a1 : Int32) (M0 : sx_M) : Option (Nat) :=
  sx_bd (M0.1 9 0 1) fun v1 =>
  (fJ9_floorMod_7cf53 (v1 + a1) (14 : Int32) M0).bind fun v2 =>
  if sx_in v2 14 then
  sx_bd (4 + (v2).toNatClampNeg) fun v3 =>
  some v3
  else none
set_option maxRecDepth 100000 in
set_option maxHeartbeats 4000000 in
theorem wk_1_stateAt (X : sx_X C p m c cX1_stateAt 2 s args RX1) (hr : meth.sig.returnType = (some (.object "StringShed$Shed"))) (hlocks : meth.locks = false) (hG : sx_G C) (hz : sx_sz C ≤ s.heap.size) (hcs : 0 ≤ R.cells ∧ 0 ≤ R.slots) (hR : 1 ≤ R.frames ∧ 22 ≤ R.locals) (a1 : Int32) (M0 : sx_M) (r : Nat) (h : f1_stateAt a1 M0 = some r) (hl : lv_has ls 2 [(0, .ref (sx_ad C 9 0)), (1, .int a1)]) (hP : sx_W C M0 H) (hS : va_S (sx_A C) s.heap H locs) : W p l e R s m args below meth c H locs 0 0 (sx_Z C (some (.ref (sx_ad C 1 r))) M0 below args s) (F0 m 0 ls []) := by
  obtain ⟨hx, hb, hml, hown, hts, hK⟩ := id X
  rw [f1_stateAt] at h
  refine lv_aload_n hx hb dX1_stateAt_0 rfl (lv_at hl 0 rfl) ?_
  refine gf_X1_11 X hP (by decide) dX1_stateAt_1 ?_
  refine lv_aload_n hx hb dX1_stateAt_4 rfl (lv_at hl 0 rfl) ?_
  refine gf_X1_17 X hP (by decide) dX1_stateAt_5 h (fun v1 h => ?_)
  refine lv_iload_n hx hb dX1_stateAt_8 rfl (lv_at hl 1 rfl) ?_
  refine lv_iadd hx hb dX1_stateAt_9 ?_
  refine lv_bipush (v := (14 : Int32)) hx hb dX1_stateAt_10 (by decide) ?_
  obtain ⟨v2, e_v2, h⟩ := sx_bnd h
  refine cl_X1_33 X hG hP hz hS  e_v2 hl.1 dX1_stateAt_12 hcs ⟨Nat.le_trans (by decide) hR.1, Nat.le_trans (by decide) hR.2⟩ (Nat.le_of_ble_eq_true rfl) (fun H locs hP hS => ?_)
  refine sx_aald X hP 10 0 14 1 4 (by decide) (fun _ _ => rfl) dX1_stateAt_15 h (fun v3 hs_v3 h => ?_)
  have hs_v3 : v3 < 18 := by omega
  exact sx_aret X hr hlocks hS hP h dX1_stateAt_16
set_option maxRecDepth 100000 in
theorem ct_1_stateAt (l : Launch) (C : sx_C) (hG : sx_G C) (a1 : Int32) (M0 : sx_M) (r : Nat) (h : f1_stateAt a1 M0 = some r) : Met l yX1_stateAt (.code yX1_stateAt cX1_stateAt 2 (some (.object "StringShed$Shed")) :: sx_T) ({ frames := 1, cells := 0, slots := 0, locals := 22 } : Room) (sx_Pc C M0 [.ref (sx_ad C 9 0), .int a1]) (sx_Q C (some (.ref (sx_ad C 1 r))) M0) 0 0 (sx_A C) := by
  refine Met.ofW (cc := cX1_stateAt) (maxL := 2) (ret := (some (.object "StringShed$Shed"))) (by decide) rfl ?_
  intro p e s m args below meth c s₁ B hml hv
  obtain ⟨rfl, hz, hP, hK⟩ := hv
  have hl := lv_entry ([.ref (sx_ad C 9 0), .int a1]) (n := 2) (Nat.le_of_ble_eq_true rfl)
  rw [lg_entry_eq]
  generalize (lg_sl ([.ref (sx_ad C 9 0), .int a1]) ++ List.replicate (2 - (lg_sl ([.ref (sx_ad C 9 0), .int a1])).length) Slot.unset).toArray = ls at hl ⊢
  exact wk_1_stateAt ⟨B.exec, B.bytes, hml, findClass_of_methodNamed B.named, fun w hw => atoms_spec B.pre w (List.mem_cons_of_mem _ hw), hK⟩ B.returns B.notSynchronized hG hz ⟨Nat.zero_le _, Nat.zero_le _⟩ ⟨Nat.le_refl _, Nat.le_refl _⟩ a1 M0 r h hl hP va_S.rf
theorem cl_X1_25 (X : sx_X C p m c cc nL s args RX1) (hG : sx_G C) (hP : sx_W C M0 H) (hz : sx_sz C ≤ H0.size) (hS : va_S (sx_A C) H0 H locs) {a1 : Int32} {r : Nat} (h : f1_stateAt a1 M0 = some r) (hsz : ls.size = nL) (hdg : decode cc pc = .ok (.invokevirtual 25, 3)) (hcs : cells ≤ R.cells ∧ slots ≤ R.slots) (hR : 1 + 1 ≤ R.frames ∧ 8 + (2 + 11) + 22 ≤ R.locals) (hrest : (rest.map fun v => v.category).sum ≤ 8) (kk : ∀ (H1 : Heap) (locs1 : List Loc), sx_W C M0 H1 → va_S (sx_A C) H0 H1 locs1 → W p l e R s m args below meth c H1 locs1 cells slots Q (F0 m (pc + 3) ls ((.ref (sx_ad C 1 r)) :: rest))) : W p l e R s m args below meth c H locs cells slots Q (F0 m pc ls (.int a1 :: .ref (sx_ad C 9 0) :: rest)) :=
  sx_callV (n := 1) (As := [.int a1]) (k0 := 9) (s0 := 0) X hP hz hS (by decide) rfl rfl (sx_goodV tw_770 tw_772 tw_17 tw_68 tw_773) (by decide +kernel) rfl rfl hR (ct_1_stateAt l C hG a1 M0 r h) rfl rfl hrest hsz hdg hcs kk
-- StringShed$Past.remember(LStringShed$Shed;)V
def f1_remember (s1 : Nat) (M0 : sx_M) : Option (sx_M) :=
  sx_bd (M0.1 9 0 2) fun v1 =>
  sx_bd (fun (M2 : sx_M) =>
    sx_bd (M2.1 9 0 2) fun v3 =>
    (f1_stateAt v3 M2).bind fun v4 =>
    if v4 < 18 then
    (f3_copyFrom v4 s1 M2).bind fun M5 =>
    sx_bd (M5.1 9 0 2) fun v6 =>
    sx_bd (sx_set M5 9 0 2 (v6 + (1 : Int32))) fun M7 =>
    some M7
    else none) fun j32 =>
  if v1 < (14 : Int32) then
    j32 M0
  else
    sx_bd (M0.1 9 0 1) fun v9 =>
    sx_bd (sx_set M0 9 0 1 ((v9 + (1 : Int32)) - (v9 + (1 : Int32)) / (14 : Int32) * (14 : Int32))) fun M10 =>
    sx_bd (M10.1 9 0 2) fun v11 =>
    sx_bd (sx_set M10 9 0 2 (v11 - (1 : Int32))) fun M12 =>
    j32 M12
set_option maxRecDepth 100000 in
set_option maxHeartbeats 4000000 in
theorem wk_1_remember (X : sx_X C p m c cX1_remember 3 s args RX1) (hr : meth.sig.returnType = none) (hlocks : meth.locks = false) (hG : sx_G C) (hz : sx_sz C ≤ s.heap.size) (hcs : 0 ≤ R.cells ∧ 0 ≤ R.slots) (hR : 2 ≤ R.frames ∧ 44 ≤ R.locals) (s1 : Nat) (hs_s1 : s1 < 18) (M0 : sx_M) (M' : sx_M) (h : f1_remember s1 M0 = some M') (hl : lv_has ls 3 [(0, .ref (sx_ad C 9 0)), (1, .ref (sx_ad C 1 s1))]) (hP : sx_W C M0 H) (hS : va_S (sx_A C) s.heap H locs) : W p l e R s m args below meth c H locs 0 0 (sx_Z C none M' below args s) (F0 m 0 ls []) := by
  obtain ⟨hx, hb, hml, hown, hts, hK⟩ := id X
  rw [f1_remember] at h
  refine lv_aload_n hx hb dX1_remember_0 rfl (lv_at hl 0 rfl) ?_
  refine gf_X1_21 X hP (by decide) dX1_remember_1 h (fun v1 h => ?_)
  refine lv_bipush (v := (14 : Int32)) hx hb dX1_remember_4 (by decide) ?_
  obtain ⟨j32, e_j32, h⟩ := sx_nm h
  have hj32 : ∀ (M2 : sx_M) (H : Heap) (locs : List Loc) (ls : Array Slot), lv_has ls 3 [(0, .ref (sx_ad C 9 0)), (1, .ref (sx_ad C 1 s1))] → sx_W C M2 H → va_S (sx_A C) s.heap H locs → j32 M2 = some M' → W p l e R s m args below meth c H locs 0 0 (sx_Z C none M' below args s) (F0 m 32 ls []) := by
    intro M2 H locs ls hl hP hS h
    subst e_j32
    refine lv_aload_n hx hb dX1_remember_32 rfl (lv_at hl 0 rfl) ?_
    refine lv_aload_n hx hb dX1_remember_33 rfl (lv_at hl 0 rfl) ?_
    refine gf_X1_21 X hP (by decide) dX1_remember_34 h (fun v3 h => ?_)
    obtain ⟨v4, e_v4, h⟩ := sx_bnd h
    refine cl_X1_25 X hG hP hz hS  e_v4 hl.1 dX1_remember_37 hcs ⟨Nat.le_trans (by decide) hR.1, Nat.le_trans (by decide) hR.2⟩ (Nat.le_of_ble_eq_true rfl) (fun H locs hP hS => ?_)
    obtain ⟨hs_v4, h⟩ := sx_ck h
    refine lv_astore_n (lv' := [(2, .ref (sx_ad C 1 v4)), (0, .ref (sx_ad C 9 0)), (1, .ref (sx_ad C 1 s1))]) hx hb dX1_remember_40 rfl hl (by decide) rfl (fun ls hl => ?_)
    refine lv_aload_n hx hb dX1_remember_41 rfl (lv_at hl 0 rfl) ?_
    refine lv_ifnull hx hb dX1_remember_42 ?_
    refine lv_aload_n hx hb dX1_remember_45 rfl (lv_at hl 0 rfl) ?_
    refine lv_aload_n hx hb dX1_remember_46 rfl (lv_at hl 2 rfl) ?_
    obtain ⟨M5, e_M5, h⟩ := sx_bnd h
    refine cl_X1_29 X hG hP hz hS hs_v4 hs_s1 e_M5 hl.1 dX1_remember_47 hcs ⟨Nat.le_trans (by decide) hR.1, Nat.le_trans (by decide) hR.2⟩ (Nat.le_of_ble_eq_true rfl) (fun H locs hP hS => ?_)
    refine lv_aload_n hx hb dX1_remember_50 rfl (lv_at hl 1 rfl) ?_
    refine lv_dup hx hb dX1_remember_51 rfl ?_
    refine gf_X1_21 X hP (by decide) dX1_remember_52 h (fun v6 h => ?_)
    refine lv_iconst (v := (1 : Int32)) hx hb dX1_remember_55 (by decide) ?_
    refine lv_iadd hx hb dX1_remember_56 ?_
    refine pf_X1_21 X hG hP hS (by decide) dX1_remember_57 h (fun M7 H locs h hP hS => ?_)
    exact sx_vret X hr hlocks hS hP h dX1_remember_60
  clear e_j32
  refine lv_icmp_lt (tgt := 32) hx hb dX1_remember_6 (by decide) (fun c8 => ?_) (fun c8 => ?_)
  · replace h := sx_ifp h c8
    exact hj32 M0 H locs ls (lv_sub hl [0, 1] rfl) hP hS h
  · replace h := sx_ifn h c8
    refine lv_aload_n hx hb dX1_remember_9 rfl (lv_at hl 0 rfl) ?_
    refine lv_aload_n hx hb dX1_remember_10 rfl (lv_at hl 0 rfl) ?_
    refine gf_X1_17 X hP (by decide) dX1_remember_11 h (fun v9 h => ?_)
    refine lv_iconst (v := (1 : Int32)) hx hb dX1_remember_14 (by decide) ?_
    refine lv_iadd hx hb dX1_remember_15 ?_
    refine lv_bipush (v := (14 : Int32)) hx hb dX1_remember_16 (by decide) ?_
    refine lv_irem hx hb dX1_remember_18 (by decide) ?_
    refine pf_X1_17 X hG hP hS (by decide) dX1_remember_19 h (fun M10 H locs h hP hS => ?_)
    refine lv_aload_n hx hb dX1_remember_22 rfl (lv_at hl 0 rfl) ?_
    refine lv_dup hx hb dX1_remember_23 rfl ?_
    refine gf_X1_21 X hP (by decide) dX1_remember_24 h (fun v11 h => ?_)
    refine lv_iconst (v := (1 : Int32)) hx hb dX1_remember_27 (by decide) ?_
    refine lv_isub hx hb dX1_remember_28 ?_
    refine pf_X1_21 X hG hP hS (by decide) dX1_remember_29 h (fun M12 H locs h hP hS => ?_)
    exact hj32 M12 H locs ls (lv_sub hl [0, 1] rfl) hP hS h
set_option maxRecDepth 100000 in
theorem ct_1_remember (l : Launch) (C : sx_C) (hG : sx_G C) (s1 : Nat) (hs_s1 : s1 < 18) (M0 : sx_M) (M' : sx_M) (h : f1_remember s1 M0 = some M') : Met l yX1_remember (.code yX1_remember cX1_remember 3 none :: sx_T) ({ frames := 2, cells := 0, slots := 0, locals := 44 } : Room) (sx_Pc C M0 [.ref (sx_ad C 9 0), .ref (sx_ad C 1 s1)]) (sx_Q C none M') 0 0 (sx_A C) := by
  refine Met.ofW (cc := cX1_remember) (maxL := 3) (ret := none) (by decide) rfl ?_
  intro p e s m args below meth c s₁ B hml hv
  obtain ⟨rfl, hz, hP, hK⟩ := hv
  have hl := lv_entry ([.ref (sx_ad C 9 0), .ref (sx_ad C 1 s1)]) (n := 3) (Nat.le_of_ble_eq_true rfl)
  rw [lg_entry_eq]
  generalize (lg_sl ([.ref (sx_ad C 9 0), .ref (sx_ad C 1 s1)]) ++ List.replicate (3 - (lg_sl ([.ref (sx_ad C 9 0), .ref (sx_ad C 1 s1)])).length) Slot.unset).toArray = ls at hl ⊢
  exact wk_1_remember ⟨B.exec, B.bytes, hml, findClass_of_methodNamed B.named, fun w hw => atoms_spec B.pre w (List.mem_cons_of_mem _ hw), hK⟩ B.returns B.notSynchronized hG hz ⟨Nat.zero_le _, Nat.zero_le _⟩ ⟨Nat.le_refl _, Nat.le_refl _⟩ s1 hs_s1 M0 M' h hl hP va_S.rf
theorem cl_X7_149 (X : sx_X C p m c cc nL s args RX7) (hG : sx_G C) (hP : sx_W C M0 H) (hz : sx_sz C ≤ H0.size) (hS : va_S (sx_A C) H0 H locs) {s1 : Nat} (hs_s1 : s1 < 18) {M' : sx_M} (h : f1_remember s1 M0 = some M') (hsz : ls.size = nL) (hdg : decode cc pc = .ok (.invokevirtual 149, 3)) (hcs : cells ≤ R.cells ∧ slots ≤ R.slots) (hR : 2 + 1 ≤ R.frames ∧ 8 + (3 + 11) + 44 ≤ R.locals) (hrest : (rest.map fun v => v.category).sum ≤ 8) (kk : ∀ (H1 : Heap) (locs1 : List Loc), sx_W C M' H1 → va_S (sx_A C) H0 H1 locs1 → W p l e R s m args below meth c H1 locs1 cells slots Q (F0 m (pc + 3) ls (rest))) : W p l e R s m args below meth c H locs cells slots Q (F0 m pc ls (.ref (sx_ad C 1 s1) :: .ref (sx_ad C 9 0) :: rest)) :=
  sx_callV (n := 1) (As := [.ref (sx_ad C 1 s1)]) (k0 := 9) (s0 := 0) X hP hz hS (by decide) rfl rfl (sx_goodV tw_766 tw_767 tw_768 tw_68 tw_769) (by decide +kernel) rfl rfl hR (ct_1_remember l C hG s1 hs_s1 M0 M' h) rfl rfl hrest hsz hdg hcs kk
-- StringShed$Past.takeBack(LStringShed$Shed;)I
def f1_takeBack (s1 : Nat) (M0 : sx_M) : Option (Int32 × sx_M) :=
  sx_bd (M0.1 9 0 2) fun v1 =>
  sx_bd (fun (M2 : sx_M) =>
    sx_bd (M2.1 9 0 2) fun v3 =>
    some (v3, M2)) fun j29 =>
  if v1 ≤ 0 then
    j29 M0
  else
    sx_bd (M0.1 9 0 2) fun v5 =>
    sx_bd (sx_set M0 9 0 2 (v5 - (1 : Int32))) fun M6 =>
    sx_bd (M6.1 9 0 2) fun v7 =>
    (f1_stateAt v7 M6).bind fun v8 =>
    if v8 < 18 then
    (f3_copyFrom s1 v8 M6).bind fun M9 =>
    j29 M9
    else none
set_option maxRecDepth 100000 in
set_option maxHeartbeats 4000000 in
theorem wk_1_takeBack (X : sx_X C p m c cX1_takeBack 2 s args RX1) (hr : meth.sig.returnType = (some .int)) (hlocks : meth.locks = false) (hG : sx_G C) (hz : sx_sz C ≤ s.heap.size) (hcs : 0 ≤ R.cells ∧ 0 ≤ R.slots) (hR : 2 ≤ R.frames ∧ 44 ≤ R.locals) (s1 : Nat) (hs_s1 : s1 < 18) (M0 : sx_M) (r : Int32) (M' : sx_M) (h : f1_takeBack s1 M0 = some (r, M')) (hl : lv_has ls 2 [(0, .ref (sx_ad C 9 0)), (1, .ref (sx_ad C 1 s1))]) (hP : sx_W C M0 H) (hS : va_S (sx_A C) s.heap H locs) : W p l e R s m args below meth c H locs 0 0 (sx_Z C (some (.int r)) M' below args s) (F0 m 0 ls []) := by
  obtain ⟨hx, hb, hml, hown, hts, hK⟩ := id X
  rw [f1_takeBack] at h
  refine lv_aload_n hx hb dX1_takeBack_0 rfl (lv_at hl 0 rfl) ?_
  refine gf_X1_21 X hP (by decide) dX1_takeBack_1 h (fun v1 h => ?_)
  obtain ⟨j29, e_j29, h⟩ := sx_nm h
  have hj29 : ∀ (M2 : sx_M) (H : Heap) (locs : List Loc) (ls : Array Slot), lv_has ls 2 [(0, .ref (sx_ad C 9 0))] → sx_W C M2 H → va_S (sx_A C) s.heap H locs → j29 M2 = some (r, M') → W p l e R s m args below meth c H locs 0 0 (sx_Z C (some (.int r)) M' below args s) (F0 m 29 ls []) := by
    intro M2 H locs ls hl hP hS h
    subst e_j29
    refine lv_aload_n hx hb dX1_takeBack_29 rfl (lv_at hl 0 rfl) ?_
    refine gf_X1_21 X hP (by decide) dX1_takeBack_30 h (fun v3 h => ?_)
    exact sx_iretM X hr hlocks hS hP h dX1_takeBack_33
  clear e_j29
  refine lv_if_le (tgt := 29) hx hb dX1_takeBack_4 (by decide) (fun c4 => ?_) (fun c4 => ?_)
  · replace h := sx_ifp h c4
    exact hj29 M0 H locs ls (lv_sub hl [0] rfl) hP hS h
  · replace h := sx_ifn h c4
    refine lv_aload_n hx hb dX1_takeBack_7 rfl (lv_at hl 0 rfl) ?_
    refine lv_dup hx hb dX1_takeBack_8 rfl ?_
    refine gf_X1_21 X hP (by decide) dX1_takeBack_9 h (fun v5 h => ?_)
    refine lv_iconst (v := (1 : Int32)) hx hb dX1_takeBack_12 (by decide) ?_
    refine lv_isub hx hb dX1_takeBack_13 ?_
    refine pf_X1_21 X hG hP hS (by decide) dX1_takeBack_14 h (fun M6 H locs h hP hS => ?_)
    refine lv_aload_n hx hb dX1_takeBack_17 rfl (lv_at hl 1 rfl) ?_
    refine lv_aload_n hx hb dX1_takeBack_18 rfl (lv_at hl 0 rfl) ?_
    refine lv_aload_n hx hb dX1_takeBack_19 rfl (lv_at hl 0 rfl) ?_
    refine gf_X1_21 X hP (by decide) dX1_takeBack_20 h (fun v7 h => ?_)
    obtain ⟨v8, e_v8, h⟩ := sx_bnd h
    refine cl_X1_25 X hG hP hz hS  e_v8 hl.1 dX1_takeBack_23 hcs ⟨Nat.le_trans (by decide) hR.1, Nat.le_trans (by decide) hR.2⟩ (Nat.le_of_ble_eq_true rfl) (fun H locs hP hS => ?_)
    obtain ⟨hs_v8, h⟩ := sx_ck h
    obtain ⟨M9, e_M9, h⟩ := sx_bnd h
    refine cl_X1_29 X hG hP hz hS hs_s1 hs_v8 e_M9 hl.1 dX1_takeBack_26 hcs ⟨Nat.le_trans (by decide) hR.1, Nat.le_trans (by decide) hR.2⟩ (Nat.le_of_ble_eq_true rfl) (fun H locs hP hS => ?_)
    exact hj29 M9 H locs ls (lv_sub hl [0] rfl) hP hS h
set_option maxRecDepth 100000 in
theorem ct_1_takeBack (l : Launch) (C : sx_C) (hG : sx_G C) (s1 : Nat) (hs_s1 : s1 < 18) (M0 : sx_M) (r : Int32) (M' : sx_M) (h : f1_takeBack s1 M0 = some (r, M')) : Met l yX1_takeBack (.code yX1_takeBack cX1_takeBack 2 (some .int) :: sx_T) ({ frames := 2, cells := 0, slots := 0, locals := 44 } : Room) (sx_Pc C M0 [.ref (sx_ad C 9 0), .ref (sx_ad C 1 s1)]) (sx_Q C (some (.int r)) M') 0 0 (sx_A C) := by
  refine Met.ofW (cc := cX1_takeBack) (maxL := 2) (ret := (some .int)) (by decide) rfl ?_
  intro p e s m args below meth c s₁ B hml hv
  obtain ⟨rfl, hz, hP, hK⟩ := hv
  have hl := lv_entry ([.ref (sx_ad C 9 0), .ref (sx_ad C 1 s1)]) (n := 2) (Nat.le_of_ble_eq_true rfl)
  rw [lg_entry_eq]
  generalize (lg_sl ([.ref (sx_ad C 9 0), .ref (sx_ad C 1 s1)]) ++ List.replicate (2 - (lg_sl ([.ref (sx_ad C 9 0), .ref (sx_ad C 1 s1)])).length) Slot.unset).toArray = ls at hl ⊢
  exact wk_1_takeBack ⟨B.exec, B.bytes, hml, findClass_of_methodNamed B.named, fun w hw => atoms_spec B.pre w (List.mem_cons_of_mem _ hw), hK⟩ B.returns B.notSynchronized hG hz ⟨Nat.zero_le _, Nat.zero_le _⟩ ⟨Nat.le_refl _, Nat.le_refl _⟩ s1 hs_s1 M0 r M' h hl hP va_S.rf
theorem cl_X7_141 (X : sx_X C p m c cc nL s args RX7) (hG : sx_G C) (hP : sx_W C M0 H) (hz : sx_sz C ≤ H0.size) (hS : va_S (sx_A C) H0 H locs) {s1 : Nat} (hs_s1 : s1 < 18) {r : Int32} {M' : sx_M} (h : f1_takeBack s1 M0 = some (r, M')) (hsz : ls.size = nL) (hdg : decode cc pc = .ok (.invokevirtual 141, 3)) (hcs : cells ≤ R.cells ∧ slots ≤ R.slots) (hR : 2 + 1 ≤ R.frames ∧ 8 + (2 + 11) + 44 ≤ R.locals) (hrest : (rest.map fun v => v.category).sum ≤ 8) (kk : ∀ (H1 : Heap) (locs1 : List Loc), sx_W C M' H1 → va_S (sx_A C) H0 H1 locs1 → W p l e R s m args below meth c H1 locs1 cells slots Q (F0 m (pc + 3) ls ((.int r) :: rest))) : W p l e R s m args below meth c H locs cells slots Q (F0 m pc ls (.ref (sx_ad C 1 s1) :: .ref (sx_ad C 9 0) :: rest)) :=
  sx_callV (n := 1) (As := [.ref (sx_ad C 1 s1)]) (k0 := 9) (s0 := 0) X hP hz hS (by decide) rfl rfl (sx_goodV tw_840 tw_841 tw_842 tw_68 tw_843) (by decide +kernel) rfl rfl hR (ct_1_takeBack l C hG s1 hs_s1 M0 r M' h) rfl rfl hrest hsz hdg hcs kk
end SXM
