section SXM
variable {p : Program} {l : Launch} {e : Env} {R : Room} {s : State} {m : MethodId} {args : Array Value} {below : List Frame} {meth : Method} {c : Code} {H : Heap} {locs : List Loc} {cells slots : Nat} {Q : State → Prop}
variable {O : Type} {out : O} {C : sx_C} {M M0 : sx_M} {cc : ByteArray} {nL : Nat} {own : String} {pc : Nat} {ls : Array Slot} {rest : List Value} {H0 : Heap}
-- StringShed$Strings.size()I pure
def f4_size (s0 : Nat) (M0 : sx_M) : Option (Int32) :=
  sx_bd (M0.1 2 s0 3) fun v1 =>
  some v1
set_option maxRecDepth 100000 in
set_option maxHeartbeats 4000000 in
theorem wk_4_size (X : sx_X C p m c cX4_size 1 s args RX4) (hr : meth.sig.returnType = (some .int)) (hlocks : meth.locks = false) (hG : sx_G C) (hz : sx_sz C ≤ s.heap.size) (hcs : 0 ≤ R.cells ∧ 0 ≤ R.slots) (hR : 0 ≤ R.frames ∧ 0 ≤ R.locals) (s0 : Nat) (hs_s0 : s0 < 18) (M0 : sx_M) (r : Int32) (h : f4_size s0 M0 = some r) (hl : lv_has ls 1 [(0, .ref (sx_ad C 2 s0))]) (hP : sx_W C M0 H) (hS : va_S (sx_A C) s.heap H locs) : W p l e R s m args below meth c H locs 0 0 (sx_Z C (some (.int r)) M0 below args s) (F0 m 0 ls []) := by
  obtain ⟨hx, hb, hml, hown, hts, hK⟩ := id X
  rw [f4_size] at h
  refine lv_aload_n hx hb dX4_size_0 rfl (lv_at hl 0 rfl) ?_
  refine gf_X4_22 X hP hs_s0 dX4_size_1 h (fun v1 h => ?_)
  exact sx_iret X hr hlocks hS hP h dX4_size_4
set_option maxRecDepth 100000 in
theorem ct_4_size (l : Launch) (C : sx_C) (hG : sx_G C) (s0 : Nat) (hs_s0 : s0 < 18) (M0 : sx_M) (r : Int32) (h : f4_size s0 M0 = some r) : Met l yX4_size (.code yX4_size cX4_size 1 (some .int) :: sx_T) ({ frames := 0, cells := 0, slots := 0, locals := 0 } : Room) (sx_Pc C M0 [.ref (sx_ad C 2 s0)]) (sx_Q C (some (.int r)) M0) 0 0 (sx_A C) := by
  refine Met.ofW (cc := cX4_size) (maxL := 1) (ret := (some .int)) (by decide) rfl ?_
  intro p e s m args below meth c s₁ B hml hv
  obtain ⟨rfl, hz, hP, hK⟩ := hv
  have hl := lv_entry ([.ref (sx_ad C 2 s0)]) (n := 1) (Nat.le_of_ble_eq_true rfl)
  rw [lg_entry_eq]
  generalize (lg_sl ([.ref (sx_ad C 2 s0)]) ++ List.replicate (1 - (lg_sl ([.ref (sx_ad C 2 s0)])).length) Slot.unset).toArray = ls at hl ⊢
  exact wk_4_size ⟨B.exec, B.bytes, hml, findClass_of_methodNamed B.named, fun w hw => atoms_spec B.pre w (List.mem_cons_of_mem _ hw), hK⟩ B.returns B.notSynchronized hG hz ⟨Nat.zero_le _, Nat.zero_le _⟩ ⟨Nat.le_refl _, Nat.le_refl _⟩ s0 hs_s0 M0 r h hl hP va_S.rf
theorem cl_X0_35 (X : sx_X C p m c cc nL s args RX0) (hG : sx_G C) (hP : sx_W C M0 H) (hz : sx_sz C ≤ H0.size) (hS : va_S (sx_A C) H0 H locs) {s0 : Nat} (hs_s0 : s0 < 18) {r : Int32} (h : f4_size s0 M0 = some r) (hsz : ls.size = nL) (hdg : decode cc pc = .ok (.invokevirtual 35, 3)) (hcs : cells ≤ R.cells ∧ slots ≤ R.slots) (hR : 0 + 1 ≤ R.frames ∧ 8 + (1 + 11) + 0 ≤ R.locals) (hrest : (rest.map fun v => v.category).sum ≤ 8) (kk : ∀ (H1 : Heap) (locs1 : List Loc), sx_W C M0 H1 → va_S (sx_A C) H0 H1 locs1 → W p l e R s m args below meth c H1 locs1 cells slots Q (F0 m (pc + 3) ls ((.int r) :: rest))) : W p l e R s m args below meth c H locs cells slots Q (F0 m pc ls (.ref (sx_ad C 2 s0) :: rest)) :=
  sx_callV (n := 0) (As := []) (k0 := 2) (s0 := s0) X hP hz hS hs_s0 rfl rfl (sx_goodV tw_873 tw_266 tw_267 tw_66 tw_268) (by decide +kernel) rfl rfl hR (ct_4_size l C hG s0 hs_s0 M0 r h) rfl rfl hrest hsz hdg hcs kk
theorem cl_X3_91 (X : sx_X C p m c cc nL s args RX3) (hG : sx_G C) (hP : sx_W C M0 H) (hz : sx_sz C ≤ H0.size) (hS : va_S (sx_A C) H0 H locs) {s0 : Nat} (hs_s0 : s0 < 18) {r : Int32} (h : f4_size s0 M0 = some r) (hsz : ls.size = nL) (hdg : decode cc pc = .ok (.invokevirtual 91, 3)) (hcs : cells ≤ R.cells ∧ slots ≤ R.slots) (hR : 0 + 1 ≤ R.frames ∧ 8 + (1 + 11) + 0 ≤ R.locals) (hrest : (rest.map fun v => v.category).sum ≤ 8) (kk : ∀ (H1 : Heap) (locs1 : List Loc), sx_W C M0 H1 → va_S (sx_A C) H0 H1 locs1 → W p l e R s m args below meth c H1 locs1 cells slots Q (F0 m (pc + 3) ls ((.int r) :: rest))) : W p l e R s m args below meth c H locs cells slots Q (F0 m pc ls (.ref (sx_ad C 2 s0) :: rest)) :=
  sx_callV (n := 0) (As := []) (k0 := 2) (s0 := s0) X hP hz hS hs_s0 rfl rfl (sx_goodV tw_395 tw_266 tw_267 tw_66 tw_268) (by decide +kernel) rfl rfl hR (ct_4_size l C hG s0 hs_s0 M0 r h) rfl rfl hrest hsz hdg hcs kk
theorem cl_X7_178 (X : sx_X C p m c cc nL s args RX7) (hG : sx_G C) (hP : sx_W C M0 H) (hz : sx_sz C ≤ H0.size) (hS : va_S (sx_A C) H0 H locs) {s0 : Nat} (hs_s0 : s0 < 18) {r : Int32} (h : f4_size s0 M0 = some r) (hsz : ls.size = nL) (hdg : decode cc pc = .ok (.invokevirtual 178, 3)) (hcs : cells ≤ R.cells ∧ slots ≤ R.slots) (hR : 0 + 1 ≤ R.frames ∧ 8 + (1 + 11) + 0 ≤ R.locals) (hrest : (rest.map fun v => v.category).sum ≤ 8) (kk : ∀ (H1 : Heap) (locs1 : List Loc), sx_W C M0 H1 → va_S (sx_A C) H0 H1 locs1 → W p l e R s m args below meth c H1 locs1 cells slots Q (F0 m (pc + 3) ls ((.int r) :: rest))) : W p l e R s m args below meth c H locs cells slots Q (F0 m pc ls (.ref (sx_ad C 2 s0) :: rest)) :=
  sx_callV (n := 0) (As := []) (k0 := 2) (s0 := s0) X hP hz hS hs_s0 rfl rfl (sx_goodV tw_265 tw_266 tw_267 tw_66 tw_268) (by decide +kernel) rfl rfl hR (ct_4_size l C hG s0 hs_s0 M0 r h) rfl rfl hrest hsz hdg hcs kk
-- StringShed$Strings.isAt(I)Z pure
def f4_isAt (s0 : Nat) (a1 : Int32) (M0 : sx_M) : Option (Int32) :=
  sx_bd (fun (v1 : Int32) =>
    if v1 = 0 ∨ v1 = 1 then some v1 else none) fun j23 =>
  sx_bd (fun (_ : Unit) =>
    j23 (0 : Int32)) fun j22 =>
  if a1 < 0 then
    j22 ()
  else
    sx_bd (M0.1 2 s0 3) fun v3 =>
    if v3 ≤ a1 then
      j22 ()
    else
      if (40 : Int32) ≤ a1 then
        j22 ()
      else
        j23 (1 : Int32)
set_option maxRecDepth 100000 in
set_option maxHeartbeats 4000000 in
theorem wk_4_isAt (X : sx_X C p m c cX4_isAt 2 s args RX4) (hr : meth.sig.returnType = (some .boolean)) (hlocks : meth.locks = false) (hG : sx_G C) (hz : sx_sz C ≤ s.heap.size) (hcs : 0 ≤ R.cells ∧ 0 ≤ R.slots) (hR : 0 ≤ R.frames ∧ 0 ≤ R.locals) (s0 : Nat) (a1 : Int32) (hs_s0 : s0 < 18) (M0 : sx_M) (r : Int32) (h : f4_isAt s0 a1 M0 = some r) (hl : lv_has ls 2 [(0, .ref (sx_ad C 2 s0)), (1, .int a1)]) (hP : sx_W C M0 H) (hS : va_S (sx_A C) s.heap H locs) : W p l e R s m args below meth c H locs 0 0 (sx_Z C (some (.int r)) M0 below args s) (F0 m 0 ls []) := by
  obtain ⟨hx, hb, hml, hown, hts, hK⟩ := id X
  rw [f4_isAt] at h
  refine lv_iload_n hx hb dX4_isAt_0 rfl (lv_at hl 1 rfl) ?_
  obtain ⟨j23, e_j23, h⟩ := sx_nm h
  have hj23 : ∀ (v1 : Int32) (H : Heap) (locs : List Loc) (ls : Array Slot), lv_has ls 2 [] → sx_W C M0 H → va_S (sx_A C) s.heap H locs → j23 v1 = some r → W p l e R s m args below meth c H locs 0 0 (sx_Z C (some (.int r)) M0 below args s) (F0 m 23 ls [.int v1]) := by
    intro v1 H locs ls hl hP hS h
    subst e_j23
    obtain ⟨hz01, h⟩ := sx_ck h
    exact sx_zret X hr hlocks hS hP hz01 h dX4_isAt_23
  clear e_j23
  obtain ⟨j22, e_j22, h⟩ := sx_nm h
  have hj22 : ∀ (H : Heap) (locs : List Loc) (ls : Array Slot), lv_has ls 2 [] → sx_W C M0 H → va_S (sx_A C) s.heap H locs → j22 () = some r → W p l e R s m args below meth c H locs 0 0 (sx_Z C (some (.int r)) M0 below args s) (F0 m 22 ls []) := by
    intro  H locs ls hl hP hS h
    subst e_j22
    refine lv_iconst (v := (0 : Int32)) hx hb dX4_isAt_22 (by decide) ?_
    exact hj23 (0 : Int32) H locs ls (lv_sub hl [] rfl) hP hS h
  clear e_j22
  refine lv_if_lt (tgt := 22) hx hb dX4_isAt_1 (by decide) (fun c2 => ?_) (fun c2 => ?_)
  · replace h := sx_ifp h c2
    exact hj22 H locs ls (lv_sub hl [] rfl) hP hS h
  · replace h := sx_ifn h c2
    refine lv_iload_n hx hb dX4_isAt_4 rfl (lv_at hl 1 rfl) ?_
    refine lv_aload_n hx hb dX4_isAt_5 rfl (lv_at hl 0 rfl) ?_
    refine gf_X4_22 X hP hs_s0 dX4_isAt_6 h (fun v3 h => ?_)
    refine lv_icmp_ge (tgt := 22) hx hb dX4_isAt_9 (by decide) (fun c4 => ?_) (fun c4 => ?_)
    · replace h := sx_ifp h c4
      exact hj22 H locs ls (lv_sub hl [] rfl) hP hS h
    · replace h := sx_ifn h c4
      refine lv_iload_n hx hb dX4_isAt_12 rfl (lv_at hl 1 rfl) ?_
      refine lv_bipush (v := (40 : Int32)) hx hb dX4_isAt_13 (by decide) ?_
      refine lv_icmp_ge (tgt := 22) hx hb dX4_isAt_15 (by decide) (fun c5 => ?_) (fun c5 => ?_)
      · replace h := sx_ifp h c5
        exact hj22 H locs ls (lv_sub hl [] rfl) hP hS h
      · replace h := sx_ifn h c5
        refine lv_iconst (v := (1 : Int32)) hx hb dX4_isAt_18 (by decide) ?_
        refine lv_goto (tgt := 23) hx hb dX4_isAt_19 (by decide) ?_
        exact hj23 (1 : Int32) H locs ls (lv_sub hl [] rfl) hP hS h
set_option maxRecDepth 100000 in
theorem ct_4_isAt (l : Launch) (C : sx_C) (hG : sx_G C) (s0 : Nat) (a1 : Int32) (hs_s0 : s0 < 18) (M0 : sx_M) (r : Int32) (h : f4_isAt s0 a1 M0 = some r) : Met l yX4_isAt (.code yX4_isAt cX4_isAt 2 (some .boolean) :: sx_T) ({ frames := 0, cells := 0, slots := 0, locals := 0 } : Room) (sx_Pc C M0 [.ref (sx_ad C 2 s0), .int a1]) (sx_Q C (some (.int r)) M0) 0 0 (sx_A C) := by
  refine Met.ofW (cc := cX4_isAt) (maxL := 2) (ret := (some .boolean)) (by decide) rfl ?_
  intro p e s m args below meth c s₁ B hml hv
  obtain ⟨rfl, hz, hP, hK⟩ := hv
  have hl := lv_entry ([.ref (sx_ad C 2 s0), .int a1]) (n := 2) (Nat.le_of_ble_eq_true rfl)
  rw [lg_entry_eq]
  generalize (lg_sl ([.ref (sx_ad C 2 s0), .int a1]) ++ List.replicate (2 - (lg_sl ([.ref (sx_ad C 2 s0), .int a1])).length) Slot.unset).toArray = ls at hl ⊢
  exact wk_4_isAt ⟨B.exec, B.bytes, hml, findClass_of_methodNamed B.named, fun w hw => atoms_spec B.pre w (List.mem_cons_of_mem _ hw), hK⟩ B.returns B.notSynchronized hG hz ⟨Nat.zero_le _, Nat.zero_le _⟩ ⟨Nat.le_refl _, Nat.le_refl _⟩ s0 a1 hs_s0 M0 r h hl hP va_S.rf
theorem cl_X4_26 (X : sx_X C p m c cc nL s args RX4) (hG : sx_G C) (hP : sx_W C M0 H) (hz : sx_sz C ≤ H0.size) (hS : va_S (sx_A C) H0 H locs) {s0 : Nat} {a1 : Int32} (hs_s0 : s0 < 18) {r : Int32} (h : f4_isAt s0 a1 M0 = some r) (hsz : ls.size = nL) (hdg : decode cc pc = .ok (.invokevirtual 26, 3)) (hcs : cells ≤ R.cells ∧ slots ≤ R.slots) (hR : 0 + 1 ≤ R.frames ∧ 8 + (2 + 11) + 0 ≤ R.locals) (hrest : (rest.map fun v => v.category).sum ≤ 8) (kk : ∀ (H1 : Heap) (locs1 : List Loc), sx_W C M0 H1 → va_S (sx_A C) H0 H1 locs1 → W p l e R s m args below meth c H1 locs1 cells slots Q (F0 m (pc + 3) ls ((.int r) :: rest))) : W p l e R s m args below meth c H locs cells slots Q (F0 m pc ls (.int a1 :: .ref (sx_ad C 2 s0) :: rest)) :=
  sx_callV (n := 1) (As := [.int a1]) (k0 := 2) (s0 := s0) X hP hz hS hs_s0 rfl rfl (sx_goodV tw_296 tw_298 tw_0 tw_66 tw_299) (by decide +kernel) rfl rfl hR (ct_4_isAt l C hG s0 a1 hs_s0 M0 r h) rfl rfl hrest hsz hdg hcs kk
-- StringShed$Strings.belowAt(I)I pure
def f4_belowAt (s0 : Nat) (a1 : Int32) (M0 : sx_M) : Option (Int32) :=
  (f4_isAt s0 a1 M0).bind fun v1 =>
  sx_bd (fun (v2 : Int32) =>
    some v2) fun j19 =>
  if v1 = 0 then
    j19 (-9 : Int32)
  else
    if sx_in a1 40 then
    sx_bd (M0.1 4 s0 (a1).toNatClampNeg) fun v4 =>
    j19 v4
    else none
set_option maxRecDepth 100000 in
set_option maxHeartbeats 4000000 in
theorem wk_4_belowAt (X : sx_X C p m c cX4_belowAt 2 s args RX4) (hr : meth.sig.returnType = (some .int)) (hlocks : meth.locks = false) (hG : sx_G C) (hz : sx_sz C ≤ s.heap.size) (hcs : 0 ≤ R.cells ∧ 0 ≤ R.slots) (hR : 1 ≤ R.frames ∧ 21 ≤ R.locals) (s0 : Nat) (a1 : Int32) (hs_s0 : s0 < 18) (M0 : sx_M) (r : Int32) (h : f4_belowAt s0 a1 M0 = some r) (hl : lv_has ls 2 [(0, .ref (sx_ad C 2 s0)), (1, .int a1)]) (hP : sx_W C M0 H) (hS : va_S (sx_A C) s.heap H locs) : W p l e R s m args below meth c H locs 0 0 (sx_Z C (some (.int r)) M0 below args s) (F0 m 0 ls []) := by
  obtain ⟨hx, hb, hml, hown, hts, hK⟩ := id X
  rw [f4_belowAt] at h
  refine lv_aload_n hx hb dX4_belowAt_0 rfl (lv_at hl 0 rfl) ?_
  refine lv_iload_n hx hb dX4_belowAt_1 rfl (lv_at hl 1 rfl) ?_
  obtain ⟨v1, e_v1, h⟩ := sx_bnd h
  refine cl_X4_26 X hG hP hz hS hs_s0 e_v1 hl.1 dX4_belowAt_2 hcs ⟨Nat.le_trans (by decide) hR.1, Nat.le_trans (by decide) hR.2⟩ (Nat.le_of_ble_eq_true rfl) (fun H locs hP hS => ?_)
  obtain ⟨j19, e_j19, h⟩ := sx_nm h
  have hj19 : ∀ (v2 : Int32) (H : Heap) (locs : List Loc) (ls : Array Slot), lv_has ls 2 [] → sx_W C M0 H → va_S (sx_A C) s.heap H locs → j19 v2 = some r → W p l e R s m args below meth c H locs 0 0 (sx_Z C (some (.int r)) M0 below args s) (F0 m 19 ls [.int v2]) := by
    intro v2 H locs ls hl hP hS h
    subst e_j19
    exact sx_iret X hr hlocks hS hP h dX4_belowAt_19
  clear e_j19
  refine lv_if_eq (tgt := 17) hx hb dX4_belowAt_5 (by decide) (fun c3 => ?_) (fun c3 => ?_)
  · replace h := sx_ifp h c3
    refine lv_bipush (v := (-9 : Int32)) hx hb dX4_belowAt_17 (by decide) ?_
    exact hj19 (-9 : Int32) H locs ls (lv_sub hl [] rfl) hP hS h
  · replace h := sx_ifn h c3
    refine lv_aload_n hx hb dX4_belowAt_8 rfl (lv_at hl 0 rfl) ?_
    refine gf_X4_15 X hP hs_s0 dX4_belowAt_9 ?_
    refine lv_iload_n hx hb dX4_belowAt_12 rfl (lv_at hl 1 rfl) ?_
    refine sx_iald X hP 4 s0 40 hs_s0 (fun _ _ => rfl) dX4_belowAt_13 h (fun v4 h => ?_)
    refine lv_goto (tgt := 19) hx hb dX4_belowAt_14 (by decide) ?_
    exact hj19 v4 H locs ls (lv_sub hl [] rfl) hP hS h
set_option maxRecDepth 100000 in
theorem ct_4_belowAt (l : Launch) (C : sx_C) (hG : sx_G C) (s0 : Nat) (a1 : Int32) (hs_s0 : s0 < 18) (M0 : sx_M) (r : Int32) (h : f4_belowAt s0 a1 M0 = some r) : Met l yX4_belowAt (.code yX4_belowAt cX4_belowAt 2 (some .int) :: sx_T) ({ frames := 1, cells := 0, slots := 0, locals := 21 } : Room) (sx_Pc C M0 [.ref (sx_ad C 2 s0), .int a1]) (sx_Q C (some (.int r)) M0) 0 0 (sx_A C) := by
  refine Met.ofW (cc := cX4_belowAt) (maxL := 2) (ret := (some .int)) (by decide) rfl ?_
  intro p e s m args below meth c s₁ B hml hv
  obtain ⟨rfl, hz, hP, hK⟩ := hv
  have hl := lv_entry ([.ref (sx_ad C 2 s0), .int a1]) (n := 2) (Nat.le_of_ble_eq_true rfl)
  rw [lg_entry_eq]
  generalize (lg_sl ([.ref (sx_ad C 2 s0), .int a1]) ++ List.replicate (2 - (lg_sl ([.ref (sx_ad C 2 s0), .int a1])).length) Slot.unset).toArray = ls at hl ⊢
  exact wk_4_belowAt ⟨B.exec, B.bytes, hml, findClass_of_methodNamed B.named, fun w hw => atoms_spec B.pre w (List.mem_cons_of_mem _ hw), hK⟩ B.returns B.notSynchronized hG hz ⟨Nat.zero_le _, Nat.zero_le _⟩ ⟨Nat.le_refl _, Nat.le_refl _⟩ s0 a1 hs_s0 M0 r h hl hP va_S.rf
theorem cl_X0_45 (X : sx_X C p m c cc nL s args RX0) (hG : sx_G C) (hP : sx_W C M0 H) (hz : sx_sz C ≤ H0.size) (hS : va_S (sx_A C) H0 H locs) {s0 : Nat} {a1 : Int32} (hs_s0 : s0 < 18) {r : Int32} (h : f4_belowAt s0 a1 M0 = some r) (hsz : ls.size = nL) (hdg : decode cc pc = .ok (.invokevirtual 45, 3)) (hcs : cells ≤ R.cells ∧ slots ≤ R.slots) (hR : 1 + 1 ≤ R.frames ∧ 8 + (2 + 11) + 21 ≤ R.locals) (hrest : (rest.map fun v => v.category).sum ≤ 8) (kk : ∀ (H1 : Heap) (locs1 : List Loc), sx_W C M0 H1 → va_S (sx_A C) H0 H1 locs1 → W p l e R s m args below meth c H1 locs1 cells slots Q (F0 m (pc + 3) ls ((.int r) :: rest))) : W p l e R s m args below meth c H locs cells slots Q (F0 m pc ls (.int a1 :: .ref (sx_ad C 2 s0) :: rest)) :=
  sx_callV (n := 1) (As := [.int a1]) (k0 := 2) (s0 := s0) X hP hz hS hs_s0 rfl rfl (sx_goodV tw_878 tw_405 tw_406 tw_66 tw_407) (by decide +kernel) rfl rfl hR (ct_4_belowAt l C hG s0 a1 hs_s0 M0 r h) rfl rfl hrest hsz hdg hcs kk
theorem cl_X3_214 (X : sx_X C p m c cc nL s args RX3) (hG : sx_G C) (hP : sx_W C M0 H) (hz : sx_sz C ≤ H0.size) (hS : va_S (sx_A C) H0 H locs) {s0 : Nat} {a1 : Int32} (hs_s0 : s0 < 18) {r : Int32} (h : f4_belowAt s0 a1 M0 = some r) (hsz : ls.size = nL) (hdg : decode cc pc = .ok (.invokevirtual 214, 3)) (hcs : cells ≤ R.cells ∧ slots ≤ R.slots) (hR : 1 + 1 ≤ R.frames ∧ 8 + (2 + 11) + 21 ≤ R.locals) (hrest : (rest.map fun v => v.category).sum ≤ 8) (kk : ∀ (H1 : Heap) (locs1 : List Loc), sx_W C M0 H1 → va_S (sx_A C) H0 H1 locs1 → W p l e R s m args below meth c H1 locs1 cells slots Q (F0 m (pc + 3) ls ((.int r) :: rest))) : W p l e R s m args below meth c H locs cells slots Q (F0 m pc ls (.int a1 :: .ref (sx_ad C 2 s0) :: rest)) :=
  sx_callV (n := 1) (As := [.int a1]) (k0 := 2) (s0 := s0) X hP hz hS hs_s0 rfl rfl (sx_goodV tw_404 tw_405 tw_406 tw_66 tw_407) (by decide +kernel) rfl rfl hR (ct_4_belowAt l C hG s0 a1 hs_s0 M0 r h) rfl rfl hrest hsz hdg hcs kk
-- StringShed$Strings.aboveAt(I)I pure
def f4_aboveAt (s0 : Nat) (a1 : Int32) (M0 : sx_M) : Option (Int32) :=
  (f4_isAt s0 a1 M0).bind fun v1 =>
  sx_bd (fun (v2 : Int32) =>
    some v2) fun j19 =>
  if v1 = 0 then
    j19 (-9 : Int32)
  else
    if sx_in a1 40 then
    sx_bd (M0.1 3 s0 (a1).toNatClampNeg) fun v4 =>
    j19 v4
    else none
set_option maxRecDepth 100000 in
set_option maxHeartbeats 4000000 in
theorem wk_4_aboveAt (X : sx_X C p m c cX4_aboveAt 2 s args RX4) (hr : meth.sig.returnType = (some .int)) (hlocks : meth.locks = false) (hG : sx_G C) (hz : sx_sz C ≤ s.heap.size) (hcs : 0 ≤ R.cells ∧ 0 ≤ R.slots) (hR : 1 ≤ R.frames ∧ 21 ≤ R.locals) (s0 : Nat) (a1 : Int32) (hs_s0 : s0 < 18) (M0 : sx_M) (r : Int32) (h : f4_aboveAt s0 a1 M0 = some r) (hl : lv_has ls 2 [(0, .ref (sx_ad C 2 s0)), (1, .int a1)]) (hP : sx_W C M0 H) (hS : va_S (sx_A C) s.heap H locs) : W p l e R s m args below meth c H locs 0 0 (sx_Z C (some (.int r)) M0 below args s) (F0 m 0 ls []) := by
  obtain ⟨hx, hb, hml, hown, hts, hK⟩ := id X
  rw [f4_aboveAt] at h
  refine lv_aload_n hx hb dX4_aboveAt_0 rfl (lv_at hl 0 rfl) ?_
  refine lv_iload_n hx hb dX4_aboveAt_1 rfl (lv_at hl 1 rfl) ?_
  obtain ⟨v1, e_v1, h⟩ := sx_bnd h
  refine cl_X4_26 X hG hP hz hS hs_s0 e_v1 hl.1 dX4_aboveAt_2 hcs ⟨Nat.le_trans (by decide) hR.1, Nat.le_trans (by decide) hR.2⟩ (Nat.le_of_ble_eq_true rfl) (fun H locs hP hS => ?_)
  obtain ⟨j19, e_j19, h⟩ := sx_nm h
  have hj19 : ∀ (v2 : Int32) (H : Heap) (locs : List Loc) (ls : Array Slot), lv_has ls 2 [] → sx_W C M0 H → va_S (sx_A C) s.heap H locs → j19 v2 = some r → W p l e R s m args below meth c H locs 0 0 (sx_Z C (some (.int r)) M0 below args s) (F0 m 19 ls [.int v2]) := by
    intro v2 H locs ls hl hP hS h
    subst e_j19
    exact sx_iret X hr hlocks hS hP h dX4_aboveAt_19
  clear e_j19
  refine lv_if_eq (tgt := 17) hx hb dX4_aboveAt_5 (by decide) (fun c3 => ?_) (fun c3 => ?_)
  · replace h := sx_ifp h c3
    refine lv_bipush (v := (-9 : Int32)) hx hb dX4_aboveAt_17 (by decide) ?_
    exact hj19 (-9 : Int32) H locs ls (lv_sub hl [] rfl) hP hS h
  · replace h := sx_ifn h c3
    refine lv_aload_n hx hb dX4_aboveAt_8 rfl (lv_at hl 0 rfl) ?_
    refine gf_X4_9 X hP hs_s0 dX4_aboveAt_9 ?_
    refine lv_iload_n hx hb dX4_aboveAt_12 rfl (lv_at hl 1 rfl) ?_
    refine sx_iald X hP 3 s0 40 hs_s0 (fun _ _ => rfl) dX4_aboveAt_13 h (fun v4 h => ?_)
    refine lv_goto (tgt := 19) hx hb dX4_aboveAt_14 (by decide) ?_
    exact hj19 v4 H locs ls (lv_sub hl [] rfl) hP hS h
set_option maxRecDepth 100000 in
theorem ct_4_aboveAt (l : Launch) (C : sx_C) (hG : sx_G C) (s0 : Nat) (a1 : Int32) (hs_s0 : s0 < 18) (M0 : sx_M) (r : Int32) (h : f4_aboveAt s0 a1 M0 = some r) : Met l yX4_aboveAt (.code yX4_aboveAt cX4_aboveAt 2 (some .int) :: sx_T) ({ frames := 1, cells := 0, slots := 0, locals := 21 } : Room) (sx_Pc C M0 [.ref (sx_ad C 2 s0), .int a1]) (sx_Q C (some (.int r)) M0) 0 0 (sx_A C) := by
  refine Met.ofW (cc := cX4_aboveAt) (maxL := 2) (ret := (some .int)) (by decide) rfl ?_
  intro p e s m args below meth c s₁ B hml hv
  obtain ⟨rfl, hz, hP, hK⟩ := hv
  have hl := lv_entry ([.ref (sx_ad C 2 s0), .int a1]) (n := 2) (Nat.le_of_ble_eq_true rfl)
  rw [lg_entry_eq]
  generalize (lg_sl ([.ref (sx_ad C 2 s0), .int a1]) ++ List.replicate (2 - (lg_sl ([.ref (sx_ad C 2 s0), .int a1])).length) Slot.unset).toArray = ls at hl ⊢
  exact wk_4_aboveAt ⟨B.exec, B.bytes, hml, findClass_of_methodNamed B.named, fun w hw => atoms_spec B.pre w (List.mem_cons_of_mem _ hw), hK⟩ B.returns B.notSynchronized hG hz ⟨Nat.zero_le _, Nat.zero_le _⟩ ⟨Nat.le_refl _, Nat.le_refl _⟩ s0 a1 hs_s0 M0 r h hl hP va_S.rf
theorem cl_X0_48 (X : sx_X C p m c cc nL s args RX0) (hG : sx_G C) (hP : sx_W C M0 H) (hz : sx_sz C ≤ H0.size) (hS : va_S (sx_A C) H0 H locs) {s0 : Nat} {a1 : Int32} (hs_s0 : s0 < 18) {r : Int32} (h : f4_aboveAt s0 a1 M0 = some r) (hsz : ls.size = nL) (hdg : decode cc pc = .ok (.invokevirtual 48, 3)) (hcs : cells ≤ R.cells ∧ slots ≤ R.slots) (hR : 1 + 1 ≤ R.frames ∧ 8 + (2 + 11) + 21 ≤ R.locals) (hrest : (rest.map fun v => v.category).sum ≤ 8) (kk : ∀ (H1 : Heap) (locs1 : List Loc), sx_W C M0 H1 → va_S (sx_A C) H0 H1 locs1 → W p l e R s m args below meth c H1 locs1 cells slots Q (F0 m (pc + 3) ls ((.int r) :: rest))) : W p l e R s m args below meth c H locs cells slots Q (F0 m pc ls (.int a1 :: .ref (sx_ad C 2 s0) :: rest)) :=
  sx_callV (n := 1) (As := [.int a1]) (k0 := 2) (s0 := s0) X hP hz hS hs_s0 rfl rfl (sx_goodV tw_879 tw_401 tw_402 tw_66 tw_403) (by decide +kernel) rfl rfl hR (ct_4_aboveAt l C hG s0 a1 hs_s0 M0 r h) rfl rfl hrest hsz hdg hcs kk
theorem cl_X3_211 (X : sx_X C p m c cc nL s args RX3) (hG : sx_G C) (hP : sx_W C M0 H) (hz : sx_sz C ≤ H0.size) (hS : va_S (sx_A C) H0 H locs) {s0 : Nat} {a1 : Int32} (hs_s0 : s0 < 18) {r : Int32} (h : f4_aboveAt s0 a1 M0 = some r) (hsz : ls.size = nL) (hdg : decode cc pc = .ok (.invokevirtual 211, 3)) (hcs : cells ≤ R.cells ∧ slots ≤ R.slots) (hR : 1 + 1 ≤ R.frames ∧ 8 + (2 + 11) + 21 ≤ R.locals) (hrest : (rest.map fun v => v.category).sum ≤ 8) (kk : ∀ (H1 : Heap) (locs1 : List Loc), sx_W C M0 H1 → va_S (sx_A C) H0 H1 locs1 → W p l e R s m args below meth c H1 locs1 cells slots Q (F0 m (pc + 3) ls ((.int r) :: rest))) : W p l e R s m args below meth c H locs cells slots Q (F0 m pc ls (.int a1 :: .ref (sx_ad C 2 s0) :: rest)) :=
  sx_callV (n := 1) (As := [.int a1]) (k0 := 2) (s0 := s0) X hP hz hS hs_s0 rfl rfl (sx_goodV tw_400 tw_401 tw_402 tw_66 tw_403) (by decide +kernel) rfl rfl hR (ct_4_aboveAt l C hG s0 a1 hs_s0 M0 r h) rfl rfl hrest hsz hdg hcs kk
-- StringShed$Strings.isSoundAt(I)Z pure
def f4_isSoundAt (s0 : Nat) (a1 : Int32) (M0 : sx_M) : Option (Int32) :=
  (f4_isAt s0 a1 M0).bind fun v1 =>
  sx_bd (fun (v2 : Int32) =>
    if v2 = 0 ∨ v2 = 1 then some v2 else none) fun j22 =>
  sx_bd (fun (_ : Unit) =>
    j22 (0 : Int32)) fun j21 =>
  if v1 = 0 then
    j21 ()
  else
    if sx_in a1 40 then
    sx_bd (M0.1 5 s0 (a1).toNatClampNeg) fun v4 =>
    if v4 = 0 then
      j21 ()
    else
      j22 (1 : Int32)
    else none
set_option maxRecDepth 100000 in
set_option maxHeartbeats 4000000 in
theorem wk_4_isSoundAt (X : sx_X C p m c cX4_isSoundAt 2 s args RX4) (hr : meth.sig.returnType = (some .boolean)) (hlocks : meth.locks = false) (hG : sx_G C) (hz : sx_sz C ≤ s.heap.size) (hcs : 0 ≤ R.cells ∧ 0 ≤ R.slots) (hR : 1 ≤ R.frames ∧ 21 ≤ R.locals) (s0 : Nat) (a1 : Int32) (hs_s0 : s0 < 18) (M0 : sx_M) (r : Int32) (h : f4_isSoundAt s0 a1 M0 = some r) (hl : lv_has ls 2 [(0, .ref (sx_ad C 2 s0)), (1, .int a1)]) (hP : sx_W C M0 H) (hS : va_S (sx_A C) s.heap H locs) : W p l e R s m args below meth c H locs 0 0 (sx_Z C (some (.int r)) M0 below args s) (F0 m 0 ls []) := by
  obtain ⟨hx, hb, hml, hown, hts, hK⟩ := id X
  rw [f4_isSoundAt] at h
  refine lv_aload_n hx hb dX4_isSoundAt_0 rfl (lv_at hl 0 rfl) ?_
  refine lv_iload_n hx hb dX4_isSoundAt_1 rfl (lv_at hl 1 rfl) ?_
  obtain ⟨v1, e_v1, h⟩ := sx_bnd h
  refine cl_X4_26 X hG hP hz hS hs_s0 e_v1 hl.1 dX4_isSoundAt_2 hcs ⟨Nat.le_trans (by decide) hR.1, Nat.le_trans (by decide) hR.2⟩ (Nat.le_of_ble_eq_true rfl) (fun H locs hP hS => ?_)
  obtain ⟨j22, e_j22, h⟩ := sx_nm h
  have hj22 : ∀ (v2 : Int32) (H : Heap) (locs : List Loc) (ls : Array Slot), lv_has ls 2 [] → sx_W C M0 H → va_S (sx_A C) s.heap H locs → j22 v2 = some r → W p l e R s m args below meth c H locs 0 0 (sx_Z C (some (.int r)) M0 below args s) (F0 m 22 ls [.int v2]) := by
    intro v2 H locs ls hl hP hS h
    subst e_j22
    obtain ⟨hz01, h⟩ := sx_ck h
    exact sx_zret X hr hlocks hS hP hz01 h dX4_isSoundAt_22
  clear e_j22
  obtain ⟨j21, e_j21, h⟩ := sx_nm h
  have hj21 : ∀ (H : Heap) (locs : List Loc) (ls : Array Slot), lv_has ls 2 [] → sx_W C M0 H → va_S (sx_A C) s.heap H locs → j21 () = some r → W p l e R s m args below meth c H locs 0 0 (sx_Z C (some (.int r)) M0 below args s) (F0 m 21 ls []) := by
    intro  H locs ls hl hP hS h
    subst e_j21
    refine lv_iconst (v := (0 : Int32)) hx hb dX4_isSoundAt_21 (by decide) ?_
    exact hj22 (0 : Int32) H locs ls (lv_sub hl [] rfl) hP hS h
  clear e_j21
  refine lv_if_eq (tgt := 21) hx hb dX4_isSoundAt_5 (by decide) (fun c3 => ?_) (fun c3 => ?_)
  · replace h := sx_ifp h c3
    exact hj21 H locs ls (lv_sub hl [] rfl) hP hS h
  · replace h := sx_ifn h c3
    refine lv_aload_n hx hb dX4_isSoundAt_8 rfl (lv_at hl 0 rfl) ?_
    refine gf_X4_18 X hP hs_s0 dX4_isSoundAt_9 ?_
    refine lv_iload_n hx hb dX4_isSoundAt_12 rfl (lv_at hl 1 rfl) ?_
    refine sx_zald X hP 5 s0 40 hs_s0 (fun _ _ => rfl) dX4_isSoundAt_13 h (fun v4 h => ?_)
    refine lv_if_eq (tgt := 21) hx hb dX4_isSoundAt_14 (by decide) (fun c5 => ?_) (fun c5 => ?_)
    · replace h := sx_ifp h c5
      exact hj21 H locs ls (lv_sub hl [] rfl) hP hS h
    · replace h := sx_ifn h c5
      refine lv_iconst (v := (1 : Int32)) hx hb dX4_isSoundAt_17 (by decide) ?_
      refine lv_goto (tgt := 22) hx hb dX4_isSoundAt_18 (by decide) ?_
      exact hj22 (1 : Int32) H locs ls (lv_sub hl [] rfl) hP hS h
set_option maxRecDepth 100000 in
theorem ct_4_isSoundAt (l : Launch) (C : sx_C) (hG : sx_G C) (s0 : Nat) (a1 : Int32) (hs_s0 : s0 < 18) (M0 : sx_M) (r : Int32) (h : f4_isSoundAt s0 a1 M0 = some r) : Met l yX4_isSoundAt (.code yX4_isSoundAt cX4_isSoundAt 2 (some .boolean) :: sx_T) ({ frames := 1, cells := 0, slots := 0, locals := 21 } : Room) (sx_Pc C M0 [.ref (sx_ad C 2 s0), .int a1]) (sx_Q C (some (.int r)) M0) 0 0 (sx_A C) := by
  refine Met.ofW (cc := cX4_isSoundAt) (maxL := 2) (ret := (some .boolean)) (by decide) rfl ?_
  intro p e s m args below meth c s₁ B hml hv
  obtain ⟨rfl, hz, hP, hK⟩ := hv
  have hl := lv_entry ([.ref (sx_ad C 2 s0), .int a1]) (n := 2) (Nat.le_of_ble_eq_true rfl)
  rw [lg_entry_eq]
  generalize (lg_sl ([.ref (sx_ad C 2 s0), .int a1]) ++ List.replicate (2 - (lg_sl ([.ref (sx_ad C 2 s0), .int a1])).length) Slot.unset).toArray = ls at hl ⊢
  exact wk_4_isSoundAt ⟨B.exec, B.bytes, hml, findClass_of_methodNamed B.named, fun w hw => atoms_spec B.pre w (List.mem_cons_of_mem _ hw), hK⟩ B.returns B.notSynchronized hG hz ⟨Nat.zero_le _, Nat.zero_le _⟩ ⟨Nat.le_refl _, Nat.le_refl _⟩ s0 a1 hs_s0 M0 r h hl hP va_S.rf
theorem cl_X0_51 (X : sx_X C p m c cc nL s args RX0) (hG : sx_G C) (hP : sx_W C M0 H) (hz : sx_sz C ≤ H0.size) (hS : va_S (sx_A C) H0 H locs) {s0 : Nat} {a1 : Int32} (hs_s0 : s0 < 18) {r : Int32} (h : f4_isSoundAt s0 a1 M0 = some r) (hsz : ls.size = nL) (hdg : decode cc pc = .ok (.invokevirtual 51, 3)) (hcs : cells ≤ R.cells ∧ slots ≤ R.slots) (hR : 1 + 1 ≤ R.frames ∧ 8 + (2 + 11) + 21 ≤ R.locals) (hrest : (rest.map fun v => v.category).sum ≤ 8) (kk : ∀ (H1 : Heap) (locs1 : List Loc), sx_W C M0 H1 → va_S (sx_A C) H0 H1 locs1 → W p l e R s m args below meth c H1 locs1 cells slots Q (F0 m (pc + 3) ls ((.int r) :: rest))) : W p l e R s m args below meth c H locs cells slots Q (F0 m pc ls (.int a1 :: .ref (sx_ad C 2 s0) :: rest)) :=
  sx_callV (n := 1) (As := [.int a1]) (k0 := 2) (s0 := s0) X hP hz hS hs_s0 rfl rfl (sx_goodV tw_880 tw_397 tw_398 tw_66 tw_399) (by decide +kernel) rfl rfl hR (ct_4_isSoundAt l C hG s0 a1 hs_s0 M0 r h) rfl rfl hrest hsz hdg hcs kk
theorem cl_X3_148 (X : sx_X C p m c cc nL s args RX3) (hG : sx_G C) (hP : sx_W C M0 H) (hz : sx_sz C ≤ H0.size) (hS : va_S (sx_A C) H0 H locs) {s0 : Nat} {a1 : Int32} (hs_s0 : s0 < 18) {r : Int32} (h : f4_isSoundAt s0 a1 M0 = some r) (hsz : ls.size = nL) (hdg : decode cc pc = .ok (.invokevirtual 148, 3)) (hcs : cells ≤ R.cells ∧ slots ≤ R.slots) (hR : 1 + 1 ≤ R.frames ∧ 8 + (2 + 11) + 21 ≤ R.locals) (hrest : (rest.map fun v => v.category).sum ≤ 8) (kk : ∀ (H1 : Heap) (locs1 : List Loc), sx_W C M0 H1 → va_S (sx_A C) H0 H1 locs1 → W p l e R s m args below meth c H1 locs1 cells slots Q (F0 m (pc + 3) ls ((.int r) :: rest))) : W p l e R s m args below meth c H locs cells slots Q (F0 m pc ls (.int a1 :: .ref (sx_ad C 2 s0) :: rest)) :=
  sx_callV (n := 1) (As := [.int a1]) (k0 := 2) (s0 := s0) X hP hz hS hs_s0 rfl rfl (sx_goodV tw_396 tw_397 tw_398 tw_66 tw_399) (by decide +kernel) rfl rfl hR (ct_4_isSoundAt l C hG s0 a1 hs_s0 M0 r h) rfl rfl hrest hsz hdg hcs kk
-- StringShed$Strings.copyFrom(LStringShed$Strings;)V
def f4_copyFrom_L10 (s0 : Nat) (s1 : Nat) (k66 : (sx_M → Option (sx_M))) : Nat → Int32 → sx_M → Option (sx_M)
  | 0, _, _ => none
  | n + 1, x2, M =>
    sx_bd (M.1 2 s0 3) fun v3 =>
    if v3 ≤ x2 then
      k66 M
    else
      if (40 : Int32) ≤ x2 then
        k66 M
      else
        if sx_in x2 40 then
        sx_bd (M.1 3 s1 (x2).toNatClampNeg) fun v6 =>
        if sx_in x2 40 then
        sx_bd (sx_set M 3 s0 (x2).toNatClampNeg v6) fun M7 =>
        if sx_in x2 40 then
        sx_bd (M7.1 4 s1 (x2).toNatClampNeg) fun v8 =>
        if sx_in x2 40 then
        sx_bd (sx_set M7 4 s0 (x2).toNatClampNeg v8) fun M9 =>
        if sx_in x2 40 then
        sx_bd (M9.1 5 s1 (x2).toNatClampNeg) fun v10 =>
        if sx_in x2 40 ∧ (v10 = 0 ∨ v10 = 1) then
        sx_bd (sx_set M9 5 s0 (x2).toNatClampNeg v10) fun M11 =>
        sx_bd (x2 + (1 : Int32)) fun v12 =>
        f4_copyFrom_L10 s0 s1 k66 n v12 M11
        else none
        else none
        else none
        else none
        else none
        else none
def f4_copyFrom (s0 : Nat) (s1 : Nat) (M0 : sx_M) : Option (sx_M) :=
  sx_bd (M0.1 2 s1 3) fun v1 =>
  sx_bd (sx_set M0 2 s0 3 v1) fun M2 =>
  f4_copyFrom_L10 s0 s1
    (fun (M13 : sx_M) =>
      some M13)
    5000 (0 : Int32) M2
set_option maxRecDepth 100000 in
set_option maxHeartbeats 4000000 in
theorem wk_4_copyFrom (X : sx_X C p m c cX4_copyFrom 3 s args RX4) (hr : meth.sig.returnType = none) (hlocks : meth.locks = false) (hG : sx_G C) (hz : sx_sz C ≤ s.heap.size) (hcs : 0 ≤ R.cells ∧ 0 ≤ R.slots) (hR : 0 ≤ R.frames ∧ 0 ≤ R.locals) (s0 : Nat) (s1 : Nat) (hs_s0 : s0 < 18) (hs_s1 : s1 < 18) (M0 : sx_M) (M' : sx_M) (h : f4_copyFrom s0 s1 M0 = some M') (hl : lv_has ls 3 [(0, .ref (sx_ad C 2 s0)), (1, .ref (sx_ad C 2 s1))]) (hP : sx_W C M0 H) (hS : va_S (sx_A C) s.heap H locs) : W p l e R s m args below meth c H locs 0 0 (sx_Z C none M' below args s) (F0 m 0 ls []) := by
  obtain ⟨hx, hb, hml, hown, hts, hK⟩ := id X
  rw [f4_copyFrom] at h
  have hf4_copyFrom_L10 : ∀ (s0 : Nat) (s1 : Nat) (hs_s0 : s0 < 18) (hs_s1 : s1 < 18) (k66 : (sx_M → Option (sx_M))) (n : Nat) (hk66 : (∀ (M : sx_M) (H : Heap) (locs : List Loc) (ls : Array Slot), lv_has ls 3 [] → sx_W C M H → va_S (sx_A C) s.heap H locs → k66 M = some M' → W p l e R s m args below meth c H locs 0 0 (sx_Z C none M' below args s) (F0 m 66 ls []))) (x2 : Int32) (M : sx_M) (H : Heap) (locs : List Loc) (ls : Array Slot), lv_has ls 3 [(0, .ref (sx_ad C 2 s0)), (1, .ref (sx_ad C 2 s1)), (2, .int x2)] → sx_W C M H → va_S (sx_A C) s.heap H locs → f4_copyFrom_L10 s0 s1 k66 n x2 M = some M' → W p l e R s m args below meth c H locs 0 0 (sx_Z C none M' below args s) (F0 m 10 ls []) := by
    intro s0 s1 hs_s0 hs_s1 k66 n hk66
    induction n with
    | zero => intro x2 M H locs ls hl hP hS h; exact absurd (show (none : Option (sx_M)) = some M' from h) (fun q => nomatch q)
    | succ n ih =>
      intro x2 M H locs ls hl hP hS h
      rw [f4_copyFrom_L10] at h
      refine lv_iload_n hx hb dX4_copyFrom_10 rfl (lv_at hl 2 rfl) ?_
      refine lv_aload_n hx hb dX4_copyFrom_11 rfl (lv_at hl 0 rfl) ?_
      refine gf_X4_22 X hP hs_s0 dX4_copyFrom_12 h (fun v3 h => ?_)
      refine lv_icmp_ge (tgt := 66) hx hb dX4_copyFrom_15 (by decide) (fun c4 => ?_) (fun c4 => ?_)
      · replace h := sx_ifp h c4
        exact hk66 M H locs ls (lv_sub hl [] rfl) hP hS h
      · replace h := sx_ifn h c4
        refine lv_iload_n hx hb dX4_copyFrom_18 rfl (lv_at hl 2 rfl) ?_
        refine lv_bipush (v := (40 : Int32)) hx hb dX4_copyFrom_19 (by decide) ?_
        refine lv_icmp_ge (tgt := 66) hx hb dX4_copyFrom_21 (by decide) (fun c5 => ?_) (fun c5 => ?_)
        · replace h := sx_ifp h c5
          exact hk66 M H locs ls (lv_sub hl [] rfl) hP hS h
        · replace h := sx_ifn h c5
          refine lv_aload_n hx hb dX4_copyFrom_24 rfl (lv_at hl 0 rfl) ?_
          refine gf_X4_9 X hP hs_s0 dX4_copyFrom_25 ?_
          refine lv_iload_n hx hb dX4_copyFrom_28 rfl (lv_at hl 2 rfl) ?_
          refine lv_aload_n hx hb dX4_copyFrom_29 rfl (lv_at hl 1 rfl) ?_
          refine gf_X4_9 X hP hs_s1 dX4_copyFrom_30 ?_
          refine lv_iload_n hx hb dX4_copyFrom_33 rfl (lv_at hl 2 rfl) ?_
          refine sx_iald X hP 3 s1 40 hs_s1 (fun _ _ => rfl) dX4_copyFrom_34 h (fun v6 h => ?_)
          refine sx_iast X hG hP hS 3 s0 40 hs_s0 (fun _ _ => rfl) dX4_copyFrom_35 h (fun M7 H locs h hP hS => ?_)
          refine lv_aload_n hx hb dX4_copyFrom_36 rfl (lv_at hl 0 rfl) ?_
          refine gf_X4_15 X hP hs_s0 dX4_copyFrom_37 ?_
          refine lv_iload_n hx hb dX4_copyFrom_40 rfl (lv_at hl 2 rfl) ?_
          refine lv_aload_n hx hb dX4_copyFrom_41 rfl (lv_at hl 1 rfl) ?_
          refine gf_X4_15 X hP hs_s1 dX4_copyFrom_42 ?_
          refine lv_iload_n hx hb dX4_copyFrom_45 rfl (lv_at hl 2 rfl) ?_
          refine sx_iald X hP 4 s1 40 hs_s1 (fun _ _ => rfl) dX4_copyFrom_46 h (fun v8 h => ?_)
          refine sx_iast X hG hP hS 4 s0 40 hs_s0 (fun _ _ => rfl) dX4_copyFrom_47 h (fun M9 H locs h hP hS => ?_)
          refine lv_aload_n hx hb dX4_copyFrom_48 rfl (lv_at hl 0 rfl) ?_
          refine gf_X4_18 X hP hs_s0 dX4_copyFrom_49 ?_
          refine lv_iload_n hx hb dX4_copyFrom_52 rfl (lv_at hl 2 rfl) ?_
          refine lv_aload_n hx hb dX4_copyFrom_53 rfl (lv_at hl 1 rfl) ?_
          refine gf_X4_18 X hP hs_s1 dX4_copyFrom_54 ?_
          refine lv_iload_n hx hb dX4_copyFrom_57 rfl (lv_at hl 2 rfl) ?_
          refine sx_zald X hP 5 s1 40 hs_s1 (fun _ _ => rfl) dX4_copyFrom_58 h (fun v10 h => ?_)
          refine sx_zast X hG hP hS 5 s0 40 hs_s0 (fun _ _ => rfl) dX4_copyFrom_59 h (fun M11 H locs h hP hS => ?_)
          obtain ⟨v12, e_v12, h⟩ := sx_nm h
          refine lv_iinc (v := v12) (lv' := [(2, .int v12), (0, .ref (sx_ad C 2 s0)), (1, .ref (sx_ad C 2 s1))]) hx hb dX4_copyFrom_60 hl (k := 2) rfl (by rw [← e_v12]; rfl) (by decide) rfl (fun ls hl => ?_)
          refine lv_goto (tgt := 10) hx hb dX4_copyFrom_63 (by decide) ?_
          exact ih v12 M11 H locs ls (lv_sub hl [1, 2, 0] rfl) hP hS h
  refine lv_aload_n hx hb dX4_copyFrom_0 rfl (lv_at hl 0 rfl) ?_
  refine lv_aload_n hx hb dX4_copyFrom_1 rfl (lv_at hl 1 rfl) ?_
  refine gf_X4_22 X hP hs_s1 dX4_copyFrom_2 h (fun v1 h => ?_)
  refine pf_X4_22 X hG hP hS hs_s0 dX4_copyFrom_5 h (fun M2 H locs h hP hS => ?_)
  refine lv_iconst (v := (0 : Int32)) hx hb dX4_copyFrom_8 (by decide) ?_
  refine lv_istore_n (lv' := [(2, .int (0 : Int32)), (0, .ref (sx_ad C 2 s0)), (1, .ref (sx_ad C 2 s1))]) hx hb dX4_copyFrom_9 rfl hl (by decide) rfl (fun ls hl => ?_)
  refine hf4_copyFrom_L10 s0 s1 hs_s0 hs_s1 _ 5000 ?_ (0 : Int32) M2 H locs ls (lv_sub hl [1, 2, 0] rfl) hP hS h
  · intro M13 H locs ls hl hP hS h
    exact sx_vret X hr hlocks hS hP h dX4_copyFrom_66
set_option maxRecDepth 100000 in
theorem ct_4_copyFrom (l : Launch) (C : sx_C) (hG : sx_G C) (s0 : Nat) (s1 : Nat) (hs_s0 : s0 < 18) (hs_s1 : s1 < 18) (M0 : sx_M) (M' : sx_M) (h : f4_copyFrom s0 s1 M0 = some M') : Met l yX4_copyFrom (.code yX4_copyFrom cX4_copyFrom 3 none :: sx_T) ({ frames := 0, cells := 0, slots := 0, locals := 0 } : Room) (sx_Pc C M0 [.ref (sx_ad C 2 s0), .ref (sx_ad C 2 s1)]) (sx_Q C none M') 0 0 (sx_A C) := by
  refine Met.ofW (cc := cX4_copyFrom) (maxL := 3) (ret := none) (by decide) rfl ?_
  intro p e s m args below meth c s₁ B hml hv
  obtain ⟨rfl, hz, hP, hK⟩ := hv
  have hl := lv_entry ([.ref (sx_ad C 2 s0), .ref (sx_ad C 2 s1)]) (n := 3) (Nat.le_of_ble_eq_true rfl)
  rw [lg_entry_eq]
  generalize (lg_sl ([.ref (sx_ad C 2 s0), .ref (sx_ad C 2 s1)]) ++ List.replicate (3 - (lg_sl ([.ref (sx_ad C 2 s0), .ref (sx_ad C 2 s1)])).length) Slot.unset).toArray = ls at hl ⊢
  exact wk_4_copyFrom ⟨B.exec, B.bytes, hml, findClass_of_methodNamed B.named, fun w hw => atoms_spec B.pre w (List.mem_cons_of_mem _ hw), hK⟩ B.returns B.notSynchronized hG hz ⟨Nat.zero_le _, Nat.zero_le _⟩ ⟨Nat.le_refl _, Nat.le_refl _⟩ s0 s1 hs_s0 hs_s1 M0 M' h hl hP va_S.rf
theorem cl_X3_45 (X : sx_X C p m c cc nL s args RX3) (hG : sx_G C) (hP : sx_W C M0 H) (hz : sx_sz C ≤ H0.size) (hS : va_S (sx_A C) H0 H locs) {s0 : Nat} {s1 : Nat} (hs_s0 : s0 < 18) (hs_s1 : s1 < 18) {M' : sx_M} (h : f4_copyFrom s0 s1 M0 = some M') (hsz : ls.size = nL) (hdg : decode cc pc = .ok (.invokevirtual 45, 3)) (hcs : cells ≤ R.cells ∧ slots ≤ R.slots) (hR : 0 + 1 ≤ R.frames ∧ 8 + (3 + 11) + 0 ≤ R.locals) (hrest : (rest.map fun v => v.category).sum ≤ 8) (kk : ∀ (H1 : Heap) (locs1 : List Loc), sx_W C M' H1 → va_S (sx_A C) H0 H1 locs1 → W p l e R s m args below meth c H1 locs1 cells slots Q (F0 m (pc + 3) ls (rest))) : W p l e R s m args below meth c H locs cells slots Q (F0 m pc ls (.ref (sx_ad C 2 s1) :: .ref (sx_ad C 2 s0) :: rest)) :=
  sx_callV (n := 1) (As := [.ref (sx_ad C 2 s1)]) (k0 := 2) (s0 := s0) X hP hz hS hs_s0 rfl rfl (sx_goodV tw_326 tw_327 tw_328 tw_66 tw_329) (by decide +kernel) rfl rfl hR (ct_4_copyFrom l C hG s0 s1 hs_s0 hs_s1 M0 M' h) rfl rfl hrest hsz hdg hcs kk
-- StringShed$Strings.isFull()Z pure
def f4_isFull (s0 : Nat) (M0 : sx_M) : Option (Int32) :=
  sx_bd (M0.1 2 s0 3) fun v1 =>
  sx_bd (fun (v2 : Int32) =>
    if v2 = 0 ∨ v2 = 1 then some v2 else none) fun j14 =>
  if v1 < (40 : Int32) then
    j14 (0 : Int32)
  else
    j14 (1 : Int32)
set_option maxRecDepth 100000 in
set_option maxHeartbeats 4000000 in
theorem wk_4_isFull (X : sx_X C p m c cX4_isFull 1 s args RX4) (hr : meth.sig.returnType = (some .boolean)) (hlocks : meth.locks = false) (hG : sx_G C) (hz : sx_sz C ≤ s.heap.size) (hcs : 0 ≤ R.cells ∧ 0 ≤ R.slots) (hR : 0 ≤ R.frames ∧ 0 ≤ R.locals) (s0 : Nat) (hs_s0 : s0 < 18) (M0 : sx_M) (r : Int32) (h : f4_isFull s0 M0 = some r) (hl : lv_has ls 1 [(0, .ref (sx_ad C 2 s0))]) (hP : sx_W C M0 H) (hS : va_S (sx_A C) s.heap H locs) : W p l e R s m args below meth c H locs 0 0 (sx_Z C (some (.int r)) M0 below args s) (F0 m 0 ls []) := by
  obtain ⟨hx, hb, hml, hown, hts, hK⟩ := id X
  rw [f4_isFull] at h
  refine lv_aload_n hx hb dX4_isFull_0 rfl (lv_at hl 0 rfl) ?_
  refine gf_X4_22 X hP hs_s0 dX4_isFull_1 h (fun v1 h => ?_)
  refine lv_bipush (v := (40 : Int32)) hx hb dX4_isFull_4 (by decide) ?_
  obtain ⟨j14, e_j14, h⟩ := sx_nm h
  have hj14 : ∀ (v2 : Int32) (H : Heap) (locs : List Loc) (ls : Array Slot), lv_has ls 1 [] → sx_W C M0 H → va_S (sx_A C) s.heap H locs → j14 v2 = some r → W p l e R s m args below meth c H locs 0 0 (sx_Z C (some (.int r)) M0 below args s) (F0 m 14 ls [.int v2]) := by
    intro v2 H locs ls hl hP hS h
    subst e_j14
    obtain ⟨hz01, h⟩ := sx_ck h
    exact sx_zret X hr hlocks hS hP hz01 h dX4_isFull_14
  clear e_j14
  refine lv_icmp_lt (tgt := 13) hx hb dX4_isFull_6 (by decide) (fun c3 => ?_) (fun c3 => ?_)
  · replace h := sx_ifp h c3
    refine lv_iconst (v := (0 : Int32)) hx hb dX4_isFull_13 (by decide) ?_
    exact hj14 (0 : Int32) H locs ls (lv_sub hl [] rfl) hP hS h
  · replace h := sx_ifn h c3
    refine lv_iconst (v := (1 : Int32)) hx hb dX4_isFull_9 (by decide) ?_
    refine lv_goto (tgt := 14) hx hb dX4_isFull_10 (by decide) ?_
    exact hj14 (1 : Int32) H locs ls (lv_sub hl [] rfl) hP hS h
set_option maxRecDepth 100000 in
theorem ct_4_isFull (l : Launch) (C : sx_C) (hG : sx_G C) (s0 : Nat) (hs_s0 : s0 < 18) (M0 : sx_M) (r : Int32) (h : f4_isFull s0 M0 = some r) : Met l yX4_isFull (.code yX4_isFull cX4_isFull 1 (some .boolean) :: sx_T) ({ frames := 0, cells := 0, slots := 0, locals := 0 } : Room) (sx_Pc C M0 [.ref (sx_ad C 2 s0)]) (sx_Q C (some (.int r)) M0) 0 0 (sx_A C) := by
  refine Met.ofW (cc := cX4_isFull) (maxL := 1) (ret := (some .boolean)) (by decide) rfl ?_
  intro p e s m args below meth c s₁ B hml hv
  obtain ⟨rfl, hz, hP, hK⟩ := hv
  have hl := lv_entry ([.ref (sx_ad C 2 s0)]) (n := 1) (Nat.le_of_ble_eq_true rfl)
  rw [lg_entry_eq]
  generalize (lg_sl ([.ref (sx_ad C 2 s0)]) ++ List.replicate (1 - (lg_sl ([.ref (sx_ad C 2 s0)])).length) Slot.unset).toArray = ls at hl ⊢
  exact wk_4_isFull ⟨B.exec, B.bytes, hml, findClass_of_methodNamed B.named, fun w hw => atoms_spec B.pre w (List.mem_cons_of_mem _ hw), hK⟩ B.returns B.notSynchronized hG hz ⟨Nat.zero_le _, Nat.zero_le _⟩ ⟨Nat.le_refl _, Nat.le_refl _⟩ s0 hs_s0 M0 r h hl hP va_S.rf
theorem cl_X3_145 (X : sx_X C p m c cc nL s args RX3) (hG : sx_G C) (hP : sx_W C M0 H) (hz : sx_sz C ≤ H0.size) (hS : va_S (sx_A C) H0 H locs) {s0 : Nat} (hs_s0 : s0 < 18) {r : Int32} (h : f4_isFull s0 M0 = some r) (hsz : ls.size = nL) (hdg : decode cc pc = .ok (.invokevirtual 145, 3)) (hcs : cells ≤ R.cells ∧ slots ≤ R.slots) (hR : 0 + 1 ≤ R.frames ∧ 8 + (1 + 11) + 0 ≤ R.locals) (hrest : (rest.map fun v => v.category).sum ≤ 8) (kk : ∀ (H1 : Heap) (locs1 : List Loc), sx_W C M0 H1 → va_S (sx_A C) H0 H1 locs1 → W p l e R s m args below meth c H1 locs1 cells slots Q (F0 m (pc + 3) ls ((.int r) :: rest))) : W p l e R s m args below meth c H locs cells slots Q (F0 m pc ls (.ref (sx_ad C 2 s0) :: rest)) :=
  sx_callV (n := 0) (As := []) (k0 := 2) (s0 := s0) X hP hz hS hs_s0 rfl rfl (sx_goodV tw_580 tw_581 tw_582 tw_66 tw_583) (by decide +kernel) rfl rfl hR (ct_4_isFull l C hG s0 hs_s0 M0 r h) rfl rfl hrest hsz hdg hcs kk
-- StringShed$Strings.find(II)I pure
def f4_find_L2 (s0 : Nat) (w1 : Int32) (w2 : Int32) (M0 : sx_M) (k44 : (Unit → Option (Int32))) : Nat → Int32 → Option (Int32)
  | 0, _ => none
  | n + 1, x3 =>
    sx_bd (M0.1 2 s0 3) fun v1 =>
    if v1 ≤ x3 then
      k44 ()
    else
      if (40 : Int32) ≤ x3 then
        k44 ()
      else
        if sx_in x3 40 then
        sx_bd (M0.1 3 s0 (x3).toNatClampNeg) fun v4 =>
        sx_bd (fun (_ : Unit) =>
          sx_bd (x3 + (1 : Int32)) fun v5 =>
          f4_find_L2 s0 w1 w2 M0 k44 n v5) fun j38 =>
        if v4 = w1 then
          if sx_in x3 40 then
          sx_bd (M0.1 4 s0 (x3).toNatClampNeg) fun v7 =>
          if v7 = w2 then
            some x3
          else
            j38 ()
          else none
        else
          j38 ()
        else none
def f4_find (s0 : Nat) (a1 : Int32) (a2 : Int32) (M0 : sx_M) : Option (Int32) :=
  f4_find_L2 s0 a1 a2 M0
    (fun (_ : Unit) =>
      some (-1 : Int32))
    5000 (0 : Int32)
set_option maxRecDepth 100000 in
set_option maxHeartbeats 4000000 in
theorem wk_4_find (X : sx_X C p m c cX4_find 4 s args RX4) (hr : meth.sig.returnType = (some .int)) (hlocks : meth.locks = false) (hG : sx_G C) (hz : sx_sz C ≤ s.heap.size) (hcs : 0 ≤ R.cells ∧ 0 ≤ R.slots) (hR : 0 ≤ R.frames ∧ 0 ≤ R.locals) (s0 : Nat) (a1 : Int32) (a2 : Int32) (hs_s0 : s0 < 18) (M0 : sx_M) (r : Int32) (h : f4_find s0 a1 a2 M0 = some r) (hl : lv_has ls 4 [(0, .ref (sx_ad C 2 s0)), (1, .int a1), (2, .int a2)]) (hP : sx_W C M0 H) (hS : va_S (sx_A C) s.heap H locs) : W p l e R s m args below meth c H locs 0 0 (sx_Z C (some (.int r)) M0 below args s) (F0 m 0 ls []) := by
  obtain ⟨hx, hb, hml, hown, hts, hK⟩ := id X
  rw [f4_find] at h
  have hf4_find_L2 : ∀ (s0 : Nat) (w1 : Int32) (w2 : Int32) (hs_s0 : s0 < 18) (k44 : (Unit → Option (Int32))) (n : Nat) (hk44 : (∀ (H : Heap) (locs : List Loc) (ls : Array Slot), lv_has ls 4 [] → sx_W C M0 H → va_S (sx_A C) s.heap H locs → k44 () = some r → W p l e R s m args below meth c H locs 0 0 (sx_Z C (some (.int r)) M0 below args s) (F0 m 44 ls []))) (x3 : Int32) (H : Heap) (locs : List Loc) (ls : Array Slot), lv_has ls 4 [(0, .ref (sx_ad C 2 s0)), (1, .int w1), (2, .int w2), (3, .int x3)] → sx_W C M0 H → va_S (sx_A C) s.heap H locs → f4_find_L2 s0 w1 w2 M0 k44 n x3 = some r → W p l e R s m args below meth c H locs 0 0 (sx_Z C (some (.int r)) M0 below args s) (F0 m 2 ls []) := by
    intro s0 w1 w2 hs_s0 k44 n hk44
    induction n with
    | zero => intro x3 H locs ls hl hP hS h; exact absurd (show (none : Option (Int32)) = some r from h) (fun q => nomatch q)
    | succ n ih =>
      intro x3 H locs ls hl hP hS h
      rw [f4_find_L2] at h
      refine lv_iload_n hx hb dX4_find_2 rfl (lv_at hl 3 rfl) ?_
      refine lv_aload_n hx hb dX4_find_3 rfl (lv_at hl 0 rfl) ?_
      refine gf_X4_22 X hP hs_s0 dX4_find_4 h (fun v1 h => ?_)
      refine lv_icmp_ge (tgt := 44) hx hb dX4_find_7 (by decide) (fun c2 => ?_) (fun c2 => ?_)
      · replace h := sx_ifp h c2
        exact hk44 H locs ls (lv_sub hl [] rfl) hP hS h
      · replace h := sx_ifn h c2
        refine lv_iload_n hx hb dX4_find_10 rfl (lv_at hl 3 rfl) ?_
        refine lv_bipush (v := (40 : Int32)) hx hb dX4_find_11 (by decide) ?_
        refine lv_icmp_ge (tgt := 44) hx hb dX4_find_13 (by decide) (fun c3 => ?_) (fun c3 => ?_)
        · replace h := sx_ifp h c3
          exact hk44 H locs ls (lv_sub hl [] rfl) hP hS h
        · replace h := sx_ifn h c3
          refine lv_aload_n hx hb dX4_find_16 rfl (lv_at hl 0 rfl) ?_
          refine gf_X4_9 X hP hs_s0 dX4_find_17 ?_
          refine lv_iload_n hx hb dX4_find_20 rfl (lv_at hl 3 rfl) ?_
          refine sx_iald X hP 3 s0 40 hs_s0 (fun _ _ => rfl) dX4_find_21 h (fun v4 h => ?_)
          refine lv_iload_n hx hb dX4_find_22 rfl (lv_at hl 1 rfl) ?_
          obtain ⟨j38, e_j38, h⟩ := sx_nm h
          have hj38 : ∀ (H : Heap) (locs : List Loc) (ls : Array Slot), lv_has ls 4 [(0, .ref (sx_ad C 2 s0)), (1, .int w1), (2, .int w2), (3, .int x3)] → sx_W C M0 H → va_S (sx_A C) s.heap H locs → j38 () = some r → W p l e R s m args below meth c H locs 0 0 (sx_Z C (some (.int r)) M0 below args s) (F0 m 38 ls []) := by
            intro  H locs ls hl hP hS h
            subst e_j38
            obtain ⟨v5, e_v5, h⟩ := sx_nm h
            refine lv_iinc (v := v5) (lv' := [(3, .int v5), (0, .ref (sx_ad C 2 s0)), (1, .int w1), (2, .int w2)]) hx hb dX4_find_38 hl (k := 3) rfl (by rw [← e_v5]; rfl) (by decide) rfl (fun ls hl => ?_)
            refine lv_goto (tgt := 2) hx hb dX4_find_41 (by decide) ?_
            exact ih v5 H locs ls (lv_sub hl [1, 2, 3, 0] rfl) hP hS h
          clear e_j38
          refine lv_icmp_ne (tgt := 38) hx hb dX4_find_23 (by decide) (fun c6 => ?_) (fun c6 => ?_)
          · replace h := sx_ifn h c6
            exact hj38 H locs ls (lv_sub hl [0, 1, 2, 3] rfl) hP hS h
          · replace h := sx_ifp h c6
            refine lv_aload_n hx hb dX4_find_26 rfl (lv_at hl 0 rfl) ?_
            refine gf_X4_15 X hP hs_s0 dX4_find_27 ?_
            refine lv_iload_n hx hb dX4_find_30 rfl (lv_at hl 3 rfl) ?_
            refine sx_iald X hP 4 s0 40 hs_s0 (fun _ _ => rfl) dX4_find_31 h (fun v7 h => ?_)
            refine lv_iload_n hx hb dX4_find_32 rfl (lv_at hl 2 rfl) ?_
            refine lv_icmp_ne (tgt := 38) hx hb dX4_find_33 (by decide) (fun c8 => ?_) (fun c8 => ?_)
            · replace h := sx_ifn h c8
              exact hj38 H locs ls (lv_sub hl [0, 1, 2, 3] rfl) hP hS h
            · replace h := sx_ifp h c8
              refine lv_iload_n hx hb dX4_find_36 rfl (lv_at hl 3 rfl) ?_
              exact sx_iret X hr hlocks hS hP h dX4_find_37
  refine lv_iconst (v := (0 : Int32)) hx hb dX4_find_0 (by decide) ?_
  refine lv_istore_n (lv' := [(3, .int (0 : Int32)), (0, .ref (sx_ad C 2 s0)), (1, .int a1), (2, .int a2)]) hx hb dX4_find_1 rfl hl (by decide) rfl (fun ls hl => ?_)
  refine hf4_find_L2 s0 a1 a2 hs_s0 _ 5000 ?_ (0 : Int32) H locs ls (lv_sub hl [1, 2, 3, 0] rfl) hP hS h
  · intro  H locs ls hl hP hS h
    refine lv_iconst (v := (-1 : Int32)) hx hb dX4_find_44 (by decide) ?_
    exact sx_iret X hr hlocks hS hP h dX4_find_45
set_option maxRecDepth 100000 in
theorem ct_4_find (l : Launch) (C : sx_C) (hG : sx_G C) (s0 : Nat) (a1 : Int32) (a2 : Int32) (hs_s0 : s0 < 18) (M0 : sx_M) (r : Int32) (h : f4_find s0 a1 a2 M0 = some r) : Met l yX4_find (.code yX4_find cX4_find 4 (some .int) :: sx_T) ({ frames := 0, cells := 0, slots := 0, locals := 0 } : Room) (sx_Pc C M0 [.ref (sx_ad C 2 s0), .int a1, .int a2]) (sx_Q C (some (.int r)) M0) 0 0 (sx_A C) := by
  refine Met.ofW (cc := cX4_find) (maxL := 4) (ret := (some .int)) (by decide) rfl ?_
  intro p e s m args below meth c s₁ B hml hv
  obtain ⟨rfl, hz, hP, hK⟩ := hv
  have hl := lv_entry ([.ref (sx_ad C 2 s0), .int a1, .int a2]) (n := 4) (Nat.le_of_ble_eq_true rfl)
  rw [lg_entry_eq]
  generalize (lg_sl ([.ref (sx_ad C 2 s0), .int a1, .int a2]) ++ List.replicate (4 - (lg_sl ([.ref (sx_ad C 2 s0), .int a1, .int a2])).length) Slot.unset).toArray = ls at hl ⊢
  exact wk_4_find ⟨B.exec, B.bytes, hml, findClass_of_methodNamed B.named, fun w hw => atoms_spec B.pre w (List.mem_cons_of_mem _ hw), hK⟩ B.returns B.notSynchronized hG hz ⟨Nat.zero_le _, Nat.zero_le _⟩ ⟨Nat.le_refl _, Nat.le_refl _⟩ s0 a1 a2 hs_s0 M0 r h hl hP va_S.rf
theorem cl_X3_132 (X : sx_X C p m c cc nL s args RX3) (hG : sx_G C) (hP : sx_W C M0 H) (hz : sx_sz C ≤ H0.size) (hS : va_S (sx_A C) H0 H locs) {s0 : Nat} {a1 : Int32} {a2 : Int32} (hs_s0 : s0 < 18) {r : Int32} (h : f4_find s0 a1 a2 M0 = some r) (hsz : ls.size = nL) (hdg : decode cc pc = .ok (.invokevirtual 132, 3)) (hcs : cells ≤ R.cells ∧ slots ≤ R.slots) (hR : 0 + 1 ≤ R.frames ∧ 8 + (4 + 11) + 0 ≤ R.locals) (hrest : (rest.map fun v => v.category).sum ≤ 8) (kk : ∀ (H1 : Heap) (locs1 : List Loc), sx_W C M0 H1 → va_S (sx_A C) H0 H1 locs1 → W p l e R s m args below meth c H1 locs1 cells slots Q (F0 m (pc + 3) ls ((.int r) :: rest))) : W p l e R s m args below meth c H locs cells slots Q (F0 m pc ls (.int a2 :: .int a1 :: .ref (sx_ad C 2 s0) :: rest)) :=
  sx_callV (n := 2) (As := [.int a1, .int a2]) (k0 := 2) (s0 := s0) X hP hz hS hs_s0 rfl rfl (sx_goodV tw_584 tw_585 tw_586 tw_66 tw_587) (by decide +kernel) rfl rfl hR (ct_4_find l C hG s0 a1 a2 hs_s0 M0 r h) rfl rfl hrest hsz hdg hcs kk
theorem cl_X7_119 (X : sx_X C p m c cc nL s args RX7) (hG : sx_G C) (hP : sx_W C M0 H) (hz : sx_sz C ≤ H0.size) (hS : va_S (sx_A C) H0 H locs) {s0 : Nat} {a1 : Int32} {a2 : Int32} (hs_s0 : s0 < 18) {r : Int32} (h : f4_find s0 a1 a2 M0 = some r) (hsz : ls.size = nL) (hdg : decode cc pc = .ok (.invokevirtual 119, 3)) (hcs : cells ≤ R.cells ∧ slots ≤ R.slots) (hR : 0 + 1 ≤ R.frames ∧ 8 + (4 + 11) + 0 ≤ R.locals) (hrest : (rest.map fun v => v.category).sum ≤ 8) (kk : ∀ (H1 : Heap) (locs1 : List Loc), sx_W C M0 H1 → va_S (sx_A C) H0 H1 locs1 → W p l e R s m args below meth c H1 locs1 cells slots Q (F0 m (pc + 3) ls ((.int r) :: rest))) : W p l e R s m args below meth c H locs cells slots Q (F0 m pc ls (.int a2 :: .int a1 :: .ref (sx_ad C 2 s0) :: rest)) :=
  sx_callV (n := 2) (As := [.int a1, .int a2]) (k0 := 2) (s0 := s0) X hP hz hS hs_s0 rfl rfl (sx_goodV tw_741 tw_585 tw_586 tw_66 tw_587) (by decide +kernel) rfl rfl hR (ct_4_find l C hG s0 a1 a2 hs_s0 M0 r h) rfl rfl hrest hsz hdg hcs kk
-- StringShed$Strings.add(IIZ)V
def f4_add (s0 : Nat) (a1 : Int32) (a2 : Int32) (a3 : Int32) (M0 : sx_M) : Option (sx_M) :=
  sx_bd (M0.1 2 s0 3) fun v1 =>
  sx_bd (fun (M2 : sx_M) =>
    some M2) fun j56 =>
  if v1 < 0 then
    j56 M0
  else
    sx_bd (M0.1 2 s0 3) fun v4 =>
    if (40 : Int32) ≤ v4 then
      j56 M0
    else
      sx_bd (M0.1 2 s0 3) fun v6 =>
      if sx_in v6 40 then
      sx_bd (sx_set M0 3 s0 (v6).toNatClampNeg a1) fun M7 =>
      sx_bd (M7.1 2 s0 3) fun v8 =>
      if sx_in v8 40 then
      sx_bd (sx_set M7 4 s0 (v8).toNatClampNeg a2) fun M9 =>
      sx_bd (M9.1 2 s0 3) fun v10 =>
      if sx_in v10 40 ∧ (a3 = 0 ∨ a3 = 1) then
      sx_bd (sx_set M9 5 s0 (v10).toNatClampNeg a3) fun M11 =>
      sx_bd (M11.1 2 s0 3) fun v12 =>
      sx_bd (sx_set M11 2 s0 3 (v12 + (1 : Int32))) fun M13 =>
      j56 M13
      else none
      else none
      else none
set_option maxRecDepth 100000 in
set_option maxHeartbeats 4000000 in
theorem wk_4_add (X : sx_X C p m c cX4_add 4 s args RX4) (hr : meth.sig.returnType = none) (hlocks : meth.locks = false) (hG : sx_G C) (hz : sx_sz C ≤ s.heap.size) (hcs : 0 ≤ R.cells ∧ 0 ≤ R.slots) (hR : 0 ≤ R.frames ∧ 0 ≤ R.locals) (s0 : Nat) (a1 : Int32) (a2 : Int32) (a3 : Int32) (hs_s0 : s0 < 18) (M0 : sx_M) (M' : sx_M) (h : f4_add s0 a1 a2 a3 M0 = some M') (hl : lv_has ls 4 [(0, .ref (sx_ad C 2 s0)), (1, .int a1), (2, .int a2), (3, .int a3)]) (hP : sx_W C M0 H) (hS : va_S (sx_A C) s.heap H locs) : W p l e R s m args below meth c H locs 0 0 (sx_Z C none M' below args s) (F0 m 0 ls []) := by
  obtain ⟨hx, hb, hml, hown, hts, hK⟩ := id X
  rw [f4_add] at h
  refine lv_aload_n hx hb dX4_add_0 rfl (lv_at hl 0 rfl) ?_
  refine gf_X4_22 X hP hs_s0 dX4_add_1 h (fun v1 h => ?_)
  obtain ⟨j56, e_j56, h⟩ := sx_nm h
  have hj56 : ∀ (M2 : sx_M) (H : Heap) (locs : List Loc) (ls : Array Slot), lv_has ls 4 [] → sx_W C M2 H → va_S (sx_A C) s.heap H locs → j56 M2 = some M' → W p l e R s m args below meth c H locs 0 0 (sx_Z C none M' below args s) (F0 m 56 ls []) := by
    intro M2 H locs ls hl hP hS h
    subst e_j56
    exact sx_vret X hr hlocks hS hP h dX4_add_56
  clear e_j56
  refine lv_if_lt (tgt := 56) hx hb dX4_add_4 (by decide) (fun c3 => ?_) (fun c3 => ?_)
  · replace h := sx_ifp h c3
    exact hj56 M0 H locs ls (lv_sub hl [] rfl) hP hS h
  · replace h := sx_ifn h c3
    refine lv_aload_n hx hb dX4_add_7 rfl (lv_at hl 0 rfl) ?_
    refine gf_X4_22 X hP hs_s0 dX4_add_8 h (fun v4 h => ?_)
    refine lv_bipush (v := (40 : Int32)) hx hb dX4_add_11 (by decide) ?_
    refine lv_icmp_ge (tgt := 56) hx hb dX4_add_13 (by decide) (fun c5 => ?_) (fun c5 => ?_)
    · replace h := sx_ifp h c5
      exact hj56 M0 H locs ls (lv_sub hl [] rfl) hP hS h
    · replace h := sx_ifn h c5
      refine lv_aload_n hx hb dX4_add_16 rfl (lv_at hl 0 rfl) ?_
      refine gf_X4_9 X hP hs_s0 dX4_add_17 ?_
      refine lv_aload_n hx hb dX4_add_20 rfl (lv_at hl 0 rfl) ?_
      refine gf_X4_22 X hP hs_s0 dX4_add_21 h (fun v6 h => ?_)
      refine lv_iload_n hx hb dX4_add_24 rfl (lv_at hl 1 rfl) ?_
      refine sx_iast X hG hP hS 3 s0 40 hs_s0 (fun _ _ => rfl) dX4_add_25 h (fun M7 H locs h hP hS => ?_)
      refine lv_aload_n hx hb dX4_add_26 rfl (lv_at hl 0 rfl) ?_
      refine gf_X4_15 X hP hs_s0 dX4_add_27 ?_
      refine lv_aload_n hx hb dX4_add_30 rfl (lv_at hl 0 rfl) ?_
      refine gf_X4_22 X hP hs_s0 dX4_add_31 h (fun v8 h => ?_)
      refine lv_iload_n hx hb dX4_add_34 rfl (lv_at hl 2 rfl) ?_
      refine sx_iast X hG hP hS 4 s0 40 hs_s0 (fun _ _ => rfl) dX4_add_35 h (fun M9 H locs h hP hS => ?_)
      refine lv_aload_n hx hb dX4_add_36 rfl (lv_at hl 0 rfl) ?_
      refine gf_X4_18 X hP hs_s0 dX4_add_37 ?_
      refine lv_aload_n hx hb dX4_add_40 rfl (lv_at hl 0 rfl) ?_
      refine gf_X4_22 X hP hs_s0 dX4_add_41 h (fun v10 h => ?_)
      refine lv_iload_n hx hb dX4_add_44 rfl (lv_at hl 3 rfl) ?_
      refine sx_zast X hG hP hS 5 s0 40 hs_s0 (fun _ _ => rfl) dX4_add_45 h (fun M11 H locs h hP hS => ?_)
      refine lv_aload_n hx hb dX4_add_46 rfl (lv_at hl 0 rfl) ?_
      refine lv_dup hx hb dX4_add_47 rfl ?_
      refine gf_X4_22 X hP hs_s0 dX4_add_48 h (fun v12 h => ?_)
      refine lv_iconst (v := (1 : Int32)) hx hb dX4_add_51 (by decide) ?_
      refine lv_iadd hx hb dX4_add_52 ?_
      refine pf_X4_22 X hG hP hS hs_s0 dX4_add_53 h (fun M13 H locs h hP hS => ?_)
      exact hj56 M13 H locs ls (lv_sub hl [] rfl) hP hS h
set_option maxRecDepth 100000 in
theorem ct_4_add (l : Launch) (C : sx_C) (hG : sx_G C) (s0 : Nat) (a1 : Int32) (a2 : Int32) (a3 : Int32) (hs_s0 : s0 < 18) (M0 : sx_M) (M' : sx_M) (h : f4_add s0 a1 a2 a3 M0 = some M') : Met l yX4_add (.code yX4_add cX4_add 4 none :: sx_T) ({ frames := 0, cells := 0, slots := 0, locals := 0 } : Room) (sx_Pc C M0 [.ref (sx_ad C 2 s0), .int a1, .int a2, .int a3]) (sx_Q C none M') 0 0 (sx_A C) := by
  refine Met.ofW (cc := cX4_add) (maxL := 4) (ret := none) (by decide) rfl ?_
  intro p e s m args below meth c s₁ B hml hv
  obtain ⟨rfl, hz, hP, hK⟩ := hv
  have hl := lv_entry ([.ref (sx_ad C 2 s0), .int a1, .int a2, .int a3]) (n := 4) (Nat.le_of_ble_eq_true rfl)
  rw [lg_entry_eq]
  generalize (lg_sl ([.ref (sx_ad C 2 s0), .int a1, .int a2, .int a3]) ++ List.replicate (4 - (lg_sl ([.ref (sx_ad C 2 s0), .int a1, .int a2, .int a3])).length) Slot.unset).toArray = ls at hl ⊢
  exact wk_4_add ⟨B.exec, B.bytes, hml, findClass_of_methodNamed B.named, fun w hw => atoms_spec B.pre w (List.mem_cons_of_mem _ hw), hK⟩ B.returns B.notSynchronized hG hz ⟨Nat.zero_le _, Nat.zero_le _⟩ ⟨Nat.le_refl _, Nat.le_refl _⟩ s0 a1 a2 a3 hs_s0 M0 M' h hl hP va_S.rf
theorem cl_X3_180 (X : sx_X C p m c cc nL s args RX3) (hG : sx_G C) (hP : sx_W C M0 H) (hz : sx_sz C ≤ H0.size) (hS : va_S (sx_A C) H0 H locs) {s0 : Nat} {a1 : Int32} {a2 : Int32} {a3 : Int32} (hs_s0 : s0 < 18) {M' : sx_M} (h : f4_add s0 a1 a2 a3 M0 = some M') (hsz : ls.size = nL) (hdg : decode cc pc = .ok (.invokevirtual 180, 3)) (hcs : cells ≤ R.cells ∧ slots ≤ R.slots) (hR : 0 + 1 ≤ R.frames ∧ 8 + (4 + 11) + 0 ≤ R.locals) (hrest : (rest.map fun v => v.category).sum ≤ 8) (kk : ∀ (H1 : Heap) (locs1 : List Loc), sx_W C M' H1 → va_S (sx_A C) H0 H1 locs1 → W p l e R s m args below meth c H1 locs1 cells slots Q (F0 m (pc + 3) ls (rest))) : W p l e R s m args below meth c H locs cells slots Q (F0 m pc ls (.int a3 :: .int a2 :: .int a1 :: .ref (sx_ad C 2 s0) :: rest)) :=
  sx_callV (n := 3) (As := [.int a1, .int a2, .int a3]) (k0 := 2) (s0 := s0) X hP hz hS hs_s0 rfl rfl (sx_goodV tw_616 tw_617 tw_618 tw_66 tw_619) (by decide +kernel) rfl rfl hR (ct_4_add l C hG s0 a1 a2 a3 hs_s0 M0 M' h) rfl rfl hrest hsz hdg hcs kk
-- StringShed$Strings.reach(II)I pure
def f4_reach_L18 (s0 : Nat) (w2 : Int32) (w4 : Int32) (w5 : Int32) (M0 : sx_M) (k86 : (Int32 → Option (Int32))) : Nat → Int32 → Int32 → Option (Int32)
  | 0, _, _ => none
  | n + 1, x3, x6 =>
    sx_bd (M0.1 2 s0 3) fun v2 =>
    if v2 ≤ x6 then
      k86 x3
    else
      if (40 : Int32) ≤ x6 then
        k86 x3
      else
        if sx_in x6 40 then
        sx_bd (M0.1 5 s0 (x6).toNatClampNeg) fun v5 =>
        sx_bd (fun (v6 : Int32) =>
          sx_bd (x6 + (1 : Int32)) fun v7 =>
          f4_reach_L18 s0 w2 w4 w5 M0 k86 n v6 v7) fun j80 =>
        if v5 = 0 then
          j80 x3
        else
          if x6 = w2 then
            j80 x3
          else
            if sx_in x6 40 then
            sx_bd (M0.1 3 s0 (x6).toNatClampNeg) fun v10 =>
            if ((x3 >>> ((v10 + (4 : Int32)) &&& 31)) &&& (1 : Int32)) = 0 then
              j80 x3
            else
              if sx_in x6 40 then
              sx_bd (M0.1 4 s0 (x6).toNatClampNeg) fun v12 =>
              sx_bd (x3 ||| ((1 : Int32) <<< ((v12 + (4 : Int32)) &&& 31))) fun v13 =>
              j80 v13
              else none
            else none
        else none
def f4_reach_L5 (s0 : Nat) (w2 : Int32) (M0 : sx_M) : Nat → Int32 → Int32 → Option (Int32)
  | 0, _, _ => none
  | n + 1, x3, x4 =>
    if (24 : Int32) ≤ x4 then
      some x3
    else
      f4_reach_L18 s0 w2 x4 x3 M0
        (fun (v14 : Int32) =>
          if v14 = x3 then
            some v14
          else
            sx_bd (x4 + (1 : Int32)) fun v16 =>
            f4_reach_L5 s0 w2 M0 n v14 v16)
        5000 x3 (0 : Int32)
def f4_reach (s0 : Nat) (a1 : Int32) (a2 : Int32) (M0 : sx_M) : Option (Int32) :=
  f4_reach_L5 s0 a2 M0
    5000 a1 (0 : Int32)
set_option maxRecDepth 100000 in
set_option maxHeartbeats 4000000 in
theorem wk_4_reach (X : sx_X C p m c cX4_reach 7 s args RX4) (hr : meth.sig.returnType = (some .int)) (hlocks : meth.locks = false) (hG : sx_G C) (hz : sx_sz C ≤ s.heap.size) (hcs : 0 ≤ R.cells ∧ 0 ≤ R.slots) (hR : 0 ≤ R.frames ∧ 0 ≤ R.locals) (s0 : Nat) (a1 : Int32) (a2 : Int32) (hs_s0 : s0 < 18) (M0 : sx_M) (r : Int32) (h : f4_reach s0 a1 a2 M0 = some r) (hl : lv_has ls 7 [(0, .ref (sx_ad C 2 s0)), (1, .int a1), (2, .int a2)]) (hP : sx_W C M0 H) (hS : va_S (sx_A C) s.heap H locs) : W p l e R s m args below meth c H locs 0 0 (sx_Z C (some (.int r)) M0 below args s) (F0 m 0 ls []) := by
  obtain ⟨hx, hb, hml, hown, hts, hK⟩ := id X
  rw [f4_reach] at h
  have hf4_reach_L18 : ∀ (s0 : Nat) (w2 : Int32) (w4 : Int32) (w5 : Int32) (hs_s0 : s0 < 18) (k86 : (Int32 → Option (Int32))) (n : Nat) (hk86 : (∀ (y3 : Int32) (H : Heap) (locs : List Loc) (ls : Array Slot), lv_has ls 7 [(0, .ref (sx_ad C 2 s0)), (2, .int w2), (3, .int y3), (4, .int w4), (5, .int w5)] → sx_W C M0 H → va_S (sx_A C) s.heap H locs → k86 y3 = some r → W p l e R s m args below meth c H locs 0 0 (sx_Z C (some (.int r)) M0 below args s) (F0 m 86 ls []))) (x3 : Int32) (x6 : Int32) (H : Heap) (locs : List Loc) (ls : Array Slot), lv_has ls 7 [(0, .ref (sx_ad C 2 s0)), (2, .int w2), (3, .int x3), (4, .int w4), (5, .int w5), (6, .int x6)] → sx_W C M0 H → va_S (sx_A C) s.heap H locs → f4_reach_L18 s0 w2 w4 w5 M0 k86 n x3 x6 = some r → W p l e R s m args below meth c H locs 0 0 (sx_Z C (some (.int r)) M0 below args s) (F0 m 18 ls []) := by
    intro s0 w2 w4 w5 hs_s0 k86 n hk86
    induction n with
    | zero => intro x3 x6 H locs ls hl hP hS h; exact absurd (show (none : Option (Int32)) = some r from h) (fun q => nomatch q)
    | succ n ih =>
      intro x3 x6 H locs ls hl hP hS h
      rw [f4_reach_L18] at h
      refine lv_iload hx hb dX4_reach_18 (lv_at hl 5 rfl) ?_
      refine lv_aload_n hx hb dX4_reach_20 rfl (lv_at hl 0 rfl) ?_
      refine gf_X4_22 X hP hs_s0 dX4_reach_21 h (fun v2 h => ?_)
      refine lv_icmp_ge (tgt := 86) hx hb dX4_reach_24 (by decide) (fun c3 => ?_) (fun c3 => ?_)
      · replace h := sx_ifp h c3
        exact hk86 x3 H locs ls (lv_sub hl [0, 1, 2, 3, 4] rfl) hP hS h
      · replace h := sx_ifn h c3
        refine lv_iload hx hb dX4_reach_27 (lv_at hl 5 rfl) ?_
        refine lv_bipush (v := (40 : Int32)) hx hb dX4_reach_29 (by decide) ?_
        refine lv_icmp_ge (tgt := 86) hx hb dX4_reach_31 (by decide) (fun c4 => ?_) (fun c4 => ?_)
        · replace h := sx_ifp h c4
          exact hk86 x3 H locs ls (lv_sub hl [0, 1, 2, 3, 4] rfl) hP hS h
        · replace h := sx_ifn h c4
          refine lv_aload_n hx hb dX4_reach_34 rfl (lv_at hl 0 rfl) ?_
          refine gf_X4_18 X hP hs_s0 dX4_reach_35 ?_
          refine lv_iload hx hb dX4_reach_38 (lv_at hl 5 rfl) ?_
          refine sx_zald X hP 5 s0 40 hs_s0 (fun _ _ => rfl) dX4_reach_40 h (fun v5 h => ?_)
          obtain ⟨j80, e_j80, h⟩ := sx_nm h
          have hj80 : ∀ (v6 : Int32) (H : Heap) (locs : List Loc) (ls : Array Slot), lv_has ls 7 [(0, .ref (sx_ad C 2 s0)), (2, .int w2), (3, .int v6), (4, .int w4), (5, .int w5), (6, .int x6)] → sx_W C M0 H → va_S (sx_A C) s.heap H locs → j80 v6 = some r → W p l e R s m args below meth c H locs 0 0 (sx_Z C (some (.int r)) M0 below args s) (F0 m 80 ls []) := by
            intro v6 H locs ls hl hP hS h
            subst e_j80
            obtain ⟨v7, e_v7, h⟩ := sx_nm h
            refine lv_iinc (v := v7) (lv' := [(6, .int v7), (0, .ref (sx_ad C 2 s0)), (2, .int w2), (3, .int v6), (4, .int w4), (5, .int w5)]) hx hb dX4_reach_80 hl (k := 5) rfl (by rw [← e_v7]; rfl) (by decide) rfl (fun ls hl => ?_)
            refine lv_goto (tgt := 18) hx hb dX4_reach_83 (by decide) ?_
            exact ih v6 v7 H locs ls (lv_sub hl [1, 2, 3, 4, 5, 0] rfl) hP hS h
          clear e_j80
          refine lv_if_eq (tgt := 80) hx hb dX4_reach_41 (by decide) (fun c8 => ?_) (fun c8 => ?_)
          · replace h := sx_ifp h c8
            exact hj80 x3 H locs ls (lv_sub hl [0, 1, 2, 3, 4, 5] rfl) hP hS h
          · replace h := sx_ifn h c8
            refine lv_iload hx hb dX4_reach_44 (lv_at hl 5 rfl) ?_
            refine lv_iload_n hx hb dX4_reach_46 rfl (lv_at hl 1 rfl) ?_
            refine lv_icmp_eq (tgt := 80) hx hb dX4_reach_47 (by decide) (fun c9 => ?_) (fun c9 => ?_)
            · replace h := sx_ifp h c9
              exact hj80 x3 H locs ls (lv_sub hl [0, 1, 2, 3, 4, 5] rfl) hP hS h
            · replace h := sx_ifn h c9
              refine lv_iload_n hx hb dX4_reach_50 rfl (lv_at hl 2 rfl) ?_
              refine lv_aload_n hx hb dX4_reach_51 rfl (lv_at hl 0 rfl) ?_
              refine gf_X4_9 X hP hs_s0 dX4_reach_52 ?_
              refine lv_iload hx hb dX4_reach_55 (lv_at hl 5 rfl) ?_
              refine sx_iald X hP 3 s0 40 hs_s0 (fun _ _ => rfl) dX4_reach_57 h (fun v10 h => ?_)
              refine lv_iconst (v := (4 : Int32)) hx hb dX4_reach_58 (by decide) ?_
              refine lv_iadd hx hb dX4_reach_59 ?_
              refine lv_ishr hx hb dX4_reach_60 ?_
              refine lv_iconst (v := (1 : Int32)) hx hb dX4_reach_61 (by decide) ?_
              refine lv_iand hx hb dX4_reach_62 ?_
              refine lv_if_eq (tgt := 80) hx hb dX4_reach_63 (by decide) (fun c11 => ?_) (fun c11 => ?_)
              · replace h := sx_ifp h c11
                exact hj80 x3 H locs ls (lv_sub hl [0, 1, 2, 3, 4, 5] rfl) hP hS h
              · replace h := sx_ifn h c11
                refine lv_iload_n hx hb dX4_reach_66 rfl (lv_at hl 2 rfl) ?_
                refine lv_iconst (v := (1 : Int32)) hx hb dX4_reach_67 (by decide) ?_
                refine lv_aload_n hx hb dX4_reach_68 rfl (lv_at hl 0 rfl) ?_
                refine gf_X4_15 X hP hs_s0 dX4_reach_69 ?_
                refine lv_iload hx hb dX4_reach_72 (lv_at hl 5 rfl) ?_
                refine sx_iald X hP 4 s0 40 hs_s0 (fun _ _ => rfl) dX4_reach_74 h (fun v12 h => ?_)
                refine lv_iconst (v := (4 : Int32)) hx hb dX4_reach_75 (by decide) ?_
                refine lv_iadd hx hb dX4_reach_76 ?_
                refine lv_ishl hx hb dX4_reach_77 ?_
                refine lv_ior hx hb dX4_reach_78 ?_
                obtain ⟨v13, e_v13, h⟩ := sx_nm h
                rw [e_v13]
                refine lv_istore_n (lv' := [(3, .int v13), (0, .ref (sx_ad C 2 s0)), (2, .int w2), (4, .int w4), (5, .int w5), (6, .int x6)]) hx hb dX4_reach_79 rfl hl (by decide) rfl (fun ls hl => ?_)
                exact hj80 v13 H locs ls (lv_sub hl [1, 2, 0, 3, 4, 5] rfl) hP hS h
  have hf4_reach_L5 : ∀ (s0 : Nat) (w2 : Int32) (hs_s0 : s0 < 18) (n : Nat) (x3 : Int32) (x4 : Int32) (H : Heap) (locs : List Loc) (ls : Array Slot), lv_has ls 7 [(0, .ref (sx_ad C 2 s0)), (2, .int w2), (3, .int x3), (4, .int x4)] → sx_W C M0 H → va_S (sx_A C) s.heap H locs → f4_reach_L5 s0 w2 M0 n x3 x4 = some r → W p l e R s m args below meth c H locs 0 0 (sx_Z C (some (.int r)) M0 below args s) (F0 m 5 ls []) := by
    intro s0 w2 hs_s0 n
    induction n with
    | zero => intro x3 x4 H locs ls hl hP hS h; exact absurd (show (none : Option (Int32)) = some r from h) (fun q => nomatch q)
    | succ n ih =>
      intro x3 x4 H locs ls hl hP hS h
      rw [f4_reach_L5] at h
      refine lv_iload hx hb dX4_reach_5 (lv_at hl 3 rfl) ?_
      refine lv_bipush (v := (24 : Int32)) hx hb dX4_reach_7 (by decide) ?_
      refine lv_icmp_ge (tgt := 100) hx hb dX4_reach_9 (by decide) (fun c1 => ?_) (fun c1 => ?_)
      · replace h := sx_ifp h c1
        refine lv_iload_n hx hb dX4_reach_100 rfl (lv_at hl 2 rfl) ?_
        exact sx_iret X hr hlocks hS hP h dX4_reach_101
      · replace h := sx_ifn h c1
        refine lv_iload_n hx hb dX4_reach_12 rfl (lv_at hl 2 rfl) ?_
        refine lv_istore (lv' := [(5, .int x3), (0, .ref (sx_ad C 2 s0)), (2, .int w2), (3, .int x3), (4, .int x4)]) hx hb dX4_reach_13 hl (by decide) rfl (fun ls hl => ?_)
        refine lv_iconst (v := (0 : Int32)) hx hb dX4_reach_15 (by decide) ?_
        refine lv_istore (lv' := [(6, .int (0 : Int32)), (5, .int x3), (0, .ref (sx_ad C 2 s0)), (2, .int w2), (3, .int x3), (4, .int x4)]) hx hb dX4_reach_16 hl (by decide) rfl (fun ls hl => ?_)
        refine hf4_reach_L18 s0 w2 x4 x3 hs_s0 _ 5000 ?_ x3 (0 : Int32) H locs ls (lv_sub hl [2, 3, 4, 5, 1, 0] rfl) hP hS h
        · intro v14 H locs ls hl hP hS h
          refine lv_iload_n hx hb dX4_reach_86 rfl (lv_at hl 2 rfl) ?_
          refine lv_iload hx hb dX4_reach_87 (lv_at hl 4 rfl) ?_
          refine lv_icmp_ne (tgt := 94) hx hb dX4_reach_89 (by decide) (fun c15 => ?_) (fun c15 => ?_)
          · replace h := sx_ifn h c15
            obtain ⟨v16, e_v16, h⟩ := sx_nm h
            refine lv_iinc (v := v16) (lv' := [(4, .int v16), (0, .ref (sx_ad C 2 s0)), (2, .int w2), (3, .int v14), (5, .int x3)]) hx hb dX4_reach_94 hl (k := 3) rfl (by rw [← e_v16]; rfl) (by decide) rfl (fun ls hl => ?_)
            refine lv_goto (tgt := 5) hx hb dX4_reach_97 (by decide) ?_
            exact ih v14 v16 H locs ls (lv_sub hl [1, 2, 3, 0] rfl) hP hS h
          · replace h := sx_ifp h c15
            refine lv_iload_n hx hb dX4_reach_92 rfl (lv_at hl 2 rfl) ?_
            exact sx_iret X hr hlocks hS hP h dX4_reach_93
  refine lv_iload_n hx hb dX4_reach_0 rfl (lv_at hl 1 rfl) ?_
  refine lv_istore_n (lv' := [(3, .int a1), (0, .ref (sx_ad C 2 s0)), (1, .int a1), (2, .int a2)]) hx hb dX4_reach_1 rfl hl (by decide) rfl (fun ls hl => ?_)
  refine lv_iconst (v := (0 : Int32)) hx hb dX4_reach_2 (by decide) ?_
  refine lv_istore (lv' := [(4, .int (0 : Int32)), (3, .int a1), (0, .ref (sx_ad C 2 s0)), (1, .int a1), (2, .int a2)]) hx hb dX4_reach_3 hl (by decide) rfl (fun ls hl => ?_)
  exact hf4_reach_L5 s0 a2 hs_s0 5000 a1 (0 : Int32) H locs ls (lv_sub hl [2, 4, 1, 0] rfl) hP hS h
set_option maxRecDepth 100000 in
theorem ct_4_reach (l : Launch) (C : sx_C) (hG : sx_G C) (s0 : Nat) (a1 : Int32) (a2 : Int32) (hs_s0 : s0 < 18) (M0 : sx_M) (r : Int32) (h : f4_reach s0 a1 a2 M0 = some r) : Met l yX4_reach (.code yX4_reach cX4_reach 7 (some .int) :: sx_T) ({ frames := 0, cells := 0, slots := 0, locals := 0 } : Room) (sx_Pc C M0 [.ref (sx_ad C 2 s0), .int a1, .int a2]) (sx_Q C (some (.int r)) M0) 0 0 (sx_A C) := by
  refine Met.ofW (cc := cX4_reach) (maxL := 7) (ret := (some .int)) (by decide) rfl ?_
  intro p e s m args below meth c s₁ B hml hv
  obtain ⟨rfl, hz, hP, hK⟩ := hv
  have hl := lv_entry ([.ref (sx_ad C 2 s0), .int a1, .int a2]) (n := 7) (Nat.le_of_ble_eq_true rfl)
  rw [lg_entry_eq]
  generalize (lg_sl ([.ref (sx_ad C 2 s0), .int a1, .int a2]) ++ List.replicate (7 - (lg_sl ([.ref (sx_ad C 2 s0), .int a1, .int a2])).length) Slot.unset).toArray = ls at hl ⊢
  exact wk_4_reach ⟨B.exec, B.bytes, hml, findClass_of_methodNamed B.named, fun w hw => atoms_spec B.pre w (List.mem_cons_of_mem _ hw), hK⟩ B.returns B.notSynchronized hG hz ⟨Nat.zero_le _, Nat.zero_le _⟩ ⟨Nat.le_refl _, Nat.le_refl _⟩ s0 a1 a2 hs_s0 M0 r h hl hP va_S.rf
theorem cl_X3_71 (X : sx_X C p m c cc nL s args RX3) (hG : sx_G C) (hP : sx_W C M0 H) (hz : sx_sz C ≤ H0.size) (hS : va_S (sx_A C) H0 H locs) {s0 : Nat} {a1 : Int32} {a2 : Int32} (hs_s0 : s0 < 18) {r : Int32} (h : f4_reach s0 a1 a2 M0 = some r) (hsz : ls.size = nL) (hdg : decode cc pc = .ok (.invokevirtual 71, 3)) (hcs : cells ≤ R.cells ∧ slots ≤ R.slots) (hR : 0 + 1 ≤ R.frames ∧ 8 + (7 + 11) + 0 ≤ R.locals) (hrest : (rest.map fun v => v.category).sum ≤ 8) (kk : ∀ (H1 : Heap) (locs1 : List Loc), sx_W C M0 H1 → va_S (sx_A C) H0 H1 locs1 → W p l e R s m args below meth c H1 locs1 cells slots Q (F0 m (pc + 3) ls ((.int r) :: rest))) : W p l e R s m args below meth c H locs cells slots Q (F0 m pc ls (.int a2 :: .int a1 :: .ref (sx_ad C 2 s0) :: rest)) :=
  sx_callV (n := 2) (As := [.int a1, .int a2]) (k0 := 2) (s0 := s0) X hP hz hS hs_s0 rfl rfl (sx_goodV tw_281 tw_282 tw_283 tw_66 tw_284) (by decide +kernel) rfl rfl hR (ct_4_reach l C hG s0 a1 a2 hs_s0 M0 r h) rfl rfl hrest hsz hdg hcs kk
theorem cl_X4_45 (X : sx_X C p m c cc nL s args RX4) (hG : sx_G C) (hP : sx_W C M0 H) (hz : sx_sz C ≤ H0.size) (hS : va_S (sx_A C) H0 H locs) {s0 : Nat} {a1 : Int32} {a2 : Int32} (hs_s0 : s0 < 18) {r : Int32} (h : f4_reach s0 a1 a2 M0 = some r) (hsz : ls.size = nL) (hdg : decode cc pc = .ok (.invokevirtual 45, 3)) (hcs : cells ≤ R.cells ∧ slots ≤ R.slots) (hR : 0 + 1 ≤ R.frames ∧ 8 + (7 + 11) + 0 ≤ R.locals) (hrest : (rest.map fun v => v.category).sum ≤ 8) (kk : ∀ (H1 : Heap) (locs1 : List Loc), sx_W C M0 H1 → va_S (sx_A C) H0 H1 locs1 → W p l e R s m args below meth c H1 locs1 cells slots Q (F0 m (pc + 3) ls ((.int r) :: rest))) : W p l e R s m args below meth c H locs cells slots Q (F0 m pc ls (.int a2 :: .int a1 :: .ref (sx_ad C 2 s0) :: rest)) :=
  sx_callV (n := 2) (As := [.int a1, .int a2]) (k0 := 2) (s0 := s0) X hP hz hS hs_s0 rfl rfl (sx_goodV tw_317 tw_282 tw_283 tw_66 tw_284) (by decide +kernel) rfl rfl hR (ct_4_reach l C hG s0 a1 a2 hs_s0 M0 r h) rfl rfl hrest hsz hdg hcs kk
-- StringShed$Strings.removeAt(I)V
def f4_removeAt_L13 (s0 : Nat) (k75 : (sx_M → Option (sx_M))) : Nat → Int32 → sx_M → Option (sx_M)
  | 0, _, _ => none
  | n + 1, x2, M =>
    sx_bd (M.1 2 s0 3) fun v4 =>
    if v4 ≤ x2 then
      k75 M
    else
      if (40 : Int32) ≤ x2 then
        k75 M
      else
        if sx_in x2 40 then
        sx_bd (M.1 3 s0 (x2).toNatClampNeg) fun v7 =>
        if sx_in (x2 - (1 : Int32)) 40 then
        sx_bd (sx_set M 3 s0 (x2 - (1 : Int32)).toNatClampNeg v7) fun M8 =>
        if sx_in x2 40 then
        sx_bd (M8.1 4 s0 (x2).toNatClampNeg) fun v9 =>
        if sx_in (x2 - (1 : Int32)) 40 then
        sx_bd (sx_set M8 4 s0 (x2 - (1 : Int32)).toNatClampNeg v9) fun M10 =>
        if sx_in x2 40 then
        sx_bd (M10.1 5 s0 (x2).toNatClampNeg) fun v11 =>
        if sx_in (x2 - (1 : Int32)) 40 ∧ (v11 = 0 ∨ v11 = 1) then
        sx_bd (sx_set M10 5 s0 (x2 - (1 : Int32)).toNatClampNeg v11) fun M12 =>
        sx_bd (x2 + (1 : Int32)) fun v13 =>
        f4_removeAt_L13 s0 k75 n v13 M12
        else none
        else none
        else none
        else none
        else none
        else none
def f4_removeAt (s0 : Nat) (a1 : Int32) (M0 : sx_M) : Option (sx_M) :=
  (f4_isAt s0 a1 M0).bind fun v1 =>
  if v1 = 0 then
    some M0
  else
    sx_bd (a1 + (1 : Int32)) fun v3 =>
    f4_removeAt_L13 s0
      (fun (M14 : sx_M) =>
        sx_bd (M14.1 2 s0 3) fun v15 =>
        sx_bd (sx_set M14 2 s0 3 (v15 - (1 : Int32))) fun M16 =>
        some M16)
      5000 v3 M0
set_option maxRecDepth 100000 in
set_option maxHeartbeats 4000000 in
theorem wk_4_removeAt (X : sx_X C p m c cX4_removeAt 3 s args RX4) (hr : meth.sig.returnType = none) (hlocks : meth.locks = false) (hG : sx_G C) (hz : sx_sz C ≤ s.heap.size) (hcs : 0 ≤ R.cells ∧ 0 ≤ R.slots) (hR : 1 ≤ R.frames ∧ 21 ≤ R.locals) (s0 : Nat) (a1 : Int32) (hs_s0 : s0 < 18) (M0 : sx_M) (M' : sx_M) (h : f4_removeAt s0 a1 M0 = some M') (hl : lv_has ls 3 [(0, .ref (sx_ad C 2 s0)), (1, .int a1)]) (hP : sx_W C M0 H) (hS : va_S (sx_A C) s.heap H locs) : W p l e R s m args below meth c H locs 0 0 (sx_Z C none M' below args s) (F0 m 0 ls []) := by
  obtain ⟨hx, hb, hml, hown, hts, hK⟩ := id X
  rw [f4_removeAt] at h
  have hf4_removeAt_L13 : ∀ (s0 : Nat) (hs_s0 : s0 < 18) (k75 : (sx_M → Option (sx_M))) (n : Nat) (hk75 : (∀ (M : sx_M) (H : Heap) (locs : List Loc) (ls : Array Slot), lv_has ls 3 [(0, .ref (sx_ad C 2 s0))] → sx_W C M H → va_S (sx_A C) s.heap H locs → k75 M = some M' → W p l e R s m args below meth c H locs 0 0 (sx_Z C none M' below args s) (F0 m 75 ls []))) (x2 : Int32) (M : sx_M) (H : Heap) (locs : List Loc) (ls : Array Slot), lv_has ls 3 [(0, .ref (sx_ad C 2 s0)), (2, .int x2)] → sx_W C M H → va_S (sx_A C) s.heap H locs → f4_removeAt_L13 s0 k75 n x2 M = some M' → W p l e R s m args below meth c H locs 0 0 (sx_Z C none M' below args s) (F0 m 13 ls []) := by
    intro s0 hs_s0 k75 n hk75
    induction n with
    | zero => intro x2 M H locs ls hl hP hS h; exact absurd (show (none : Option (sx_M)) = some M' from h) (fun q => nomatch q)
    | succ n ih =>
      intro x2 M H locs ls hl hP hS h
      rw [f4_removeAt_L13] at h
      refine lv_iload_n hx hb dX4_removeAt_13 rfl (lv_at hl 1 rfl) ?_
      refine lv_aload_n hx hb dX4_removeAt_14 rfl (lv_at hl 0 rfl) ?_
      refine gf_X4_22 X hP hs_s0 dX4_removeAt_15 h (fun v4 h => ?_)
      refine lv_icmp_ge (tgt := 75) hx hb dX4_removeAt_18 (by decide) (fun c5 => ?_) (fun c5 => ?_)
      · replace h := sx_ifp h c5
        exact hk75 M H locs ls (lv_sub hl [0] rfl) hP hS h
      · replace h := sx_ifn h c5
        refine lv_iload_n hx hb dX4_removeAt_21 rfl (lv_at hl 1 rfl) ?_
        refine lv_bipush (v := (40 : Int32)) hx hb dX4_removeAt_22 (by decide) ?_
        refine lv_icmp_ge (tgt := 75) hx hb dX4_removeAt_24 (by decide) (fun c6 => ?_) (fun c6 => ?_)
        · replace h := sx_ifp h c6
          exact hk75 M H locs ls (lv_sub hl [0] rfl) hP hS h
        · replace h := sx_ifn h c6
          refine lv_aload_n hx hb dX4_removeAt_27 rfl (lv_at hl 0 rfl) ?_
          refine gf_X4_9 X hP hs_s0 dX4_removeAt_28 ?_
          refine lv_iload_n hx hb dX4_removeAt_31 rfl (lv_at hl 1 rfl) ?_
          refine lv_iconst (v := (1 : Int32)) hx hb dX4_removeAt_32 (by decide) ?_
          refine lv_isub hx hb dX4_removeAt_33 ?_
          refine lv_aload_n hx hb dX4_removeAt_34 rfl (lv_at hl 0 rfl) ?_
          refine gf_X4_9 X hP hs_s0 dX4_removeAt_35 ?_
          refine lv_iload_n hx hb dX4_removeAt_38 rfl (lv_at hl 1 rfl) ?_
          refine sx_iald X hP 3 s0 40 hs_s0 (fun _ _ => rfl) dX4_removeAt_39 h (fun v7 h => ?_)
          refine sx_iast X hG hP hS 3 s0 40 hs_s0 (fun _ _ => rfl) dX4_removeAt_40 h (fun M8 H locs h hP hS => ?_)
          refine lv_aload_n hx hb dX4_removeAt_41 rfl (lv_at hl 0 rfl) ?_
          refine gf_X4_15 X hP hs_s0 dX4_removeAt_42 ?_
          refine lv_iload_n hx hb dX4_removeAt_45 rfl (lv_at hl 1 rfl) ?_
          refine lv_iconst (v := (1 : Int32)) hx hb dX4_removeAt_46 (by decide) ?_
          refine lv_isub hx hb dX4_removeAt_47 ?_
          refine lv_aload_n hx hb dX4_removeAt_48 rfl (lv_at hl 0 rfl) ?_
          refine gf_X4_15 X hP hs_s0 dX4_removeAt_49 ?_
          refine lv_iload_n hx hb dX4_removeAt_52 rfl (lv_at hl 1 rfl) ?_
          refine sx_iald X hP 4 s0 40 hs_s0 (fun _ _ => rfl) dX4_removeAt_53 h (fun v9 h => ?_)
          refine sx_iast X hG hP hS 4 s0 40 hs_s0 (fun _ _ => rfl) dX4_removeAt_54 h (fun M10 H locs h hP hS => ?_)
          refine lv_aload_n hx hb dX4_removeAt_55 rfl (lv_at hl 0 rfl) ?_
          refine gf_X4_18 X hP hs_s0 dX4_removeAt_56 ?_
          refine lv_iload_n hx hb dX4_removeAt_59 rfl (lv_at hl 1 rfl) ?_
          refine lv_iconst (v := (1 : Int32)) hx hb dX4_removeAt_60 (by decide) ?_
          refine lv_isub hx hb dX4_removeAt_61 ?_
          refine lv_aload_n hx hb dX4_removeAt_62 rfl (lv_at hl 0 rfl) ?_
          refine gf_X4_18 X hP hs_s0 dX4_removeAt_63 ?_
          refine lv_iload_n hx hb dX4_removeAt_66 rfl (lv_at hl 1 rfl) ?_
          refine sx_zald X hP 5 s0 40 hs_s0 (fun _ _ => rfl) dX4_removeAt_67 h (fun v11 h => ?_)
          refine sx_zast X hG hP hS 5 s0 40 hs_s0 (fun _ _ => rfl) dX4_removeAt_68 h (fun M12 H locs h hP hS => ?_)
          obtain ⟨v13, e_v13, h⟩ := sx_nm h
          refine lv_iinc (v := v13) (lv' := [(2, .int v13), (0, .ref (sx_ad C 2 s0))]) hx hb dX4_removeAt_69 hl (k := 1) rfl (by rw [← e_v13]; rfl) (by decide) rfl (fun ls hl => ?_)
          refine lv_goto (tgt := 13) hx hb dX4_removeAt_72 (by decide) ?_
          exact ih v13 M12 H locs ls (lv_sub hl [1, 0] rfl) hP hS h
  refine lv_aload_n hx hb dX4_removeAt_0 rfl (lv_at hl 0 rfl) ?_
  refine lv_iload_n hx hb dX4_removeAt_1 rfl (lv_at hl 1 rfl) ?_
  obtain ⟨v1, e_v1, h⟩ := sx_bnd h
  refine cl_X4_26 X hG hP hz hS hs_s0 e_v1 hl.1 dX4_removeAt_2 hcs ⟨Nat.le_trans (by decide) hR.1, Nat.le_trans (by decide) hR.2⟩ (Nat.le_of_ble_eq_true rfl) (fun H locs hP hS => ?_)
  refine lv_if_ne (tgt := 9) hx hb dX4_removeAt_5 (by decide) (fun c2 => ?_) (fun c2 => ?_)
  · replace h := sx_ifn h c2
    refine lv_iload_n hx hb dX4_removeAt_9 rfl (lv_at hl 1 rfl) ?_
    refine lv_iconst (v := (1 : Int32)) hx hb dX4_removeAt_10 (by decide) ?_
    refine lv_iadd hx hb dX4_removeAt_11 ?_
    obtain ⟨v3, e_v3, h⟩ := sx_nm h
    rw [e_v3]
    refine lv_istore_n (lv' := [(2, .int v3), (0, .ref (sx_ad C 2 s0)), (1, .int a1)]) hx hb dX4_removeAt_12 rfl hl (by decide) rfl (fun ls hl => ?_)
    refine hf4_removeAt_L13 s0 hs_s0 _ 5000 ?_ v3 M0 H locs ls (lv_sub hl [1, 0] rfl) hP hS h
    · intro M14 H locs ls hl hP hS h
      refine lv_aload_n hx hb dX4_removeAt_75 rfl (lv_at hl 0 rfl) ?_
      refine lv_dup hx hb dX4_removeAt_76 rfl ?_
      refine gf_X4_22 X hP hs_s0 dX4_removeAt_77 h (fun v15 h => ?_)
      refine lv_iconst (v := (1 : Int32)) hx hb dX4_removeAt_80 (by decide) ?_
      refine lv_isub hx hb dX4_removeAt_81 ?_
      refine pf_X4_22 X hG hP hS hs_s0 dX4_removeAt_82 h (fun M16 H locs h hP hS => ?_)
      exact sx_vret X hr hlocks hS hP h dX4_removeAt_85
  · replace h := sx_ifp h c2
    exact sx_vret X hr hlocks hS hP h dX4_removeAt_8
set_option maxRecDepth 100000 in
theorem ct_4_removeAt (l : Launch) (C : sx_C) (hG : sx_G C) (s0 : Nat) (a1 : Int32) (hs_s0 : s0 < 18) (M0 : sx_M) (M' : sx_M) (h : f4_removeAt s0 a1 M0 = some M') : Met l yX4_removeAt (.code yX4_removeAt cX4_removeAt 3 none :: sx_T) ({ frames := 1, cells := 0, slots := 0, locals := 21 } : Room) (sx_Pc C M0 [.ref (sx_ad C 2 s0), .int a1]) (sx_Q C none M') 0 0 (sx_A C) := by
  refine Met.ofW (cc := cX4_removeAt) (maxL := 3) (ret := none) (by decide) rfl ?_
  intro p e s m args below meth c s₁ B hml hv
  obtain ⟨rfl, hz, hP, hK⟩ := hv
  have hl := lv_entry ([.ref (sx_ad C 2 s0), .int a1]) (n := 3) (Nat.le_of_ble_eq_true rfl)
  rw [lg_entry_eq]
  generalize (lg_sl ([.ref (sx_ad C 2 s0), .int a1]) ++ List.replicate (3 - (lg_sl ([.ref (sx_ad C 2 s0), .int a1])).length) Slot.unset).toArray = ls at hl ⊢
  exact wk_4_removeAt ⟨B.exec, B.bytes, hml, findClass_of_methodNamed B.named, fun w hw => atoms_spec B.pre w (List.mem_cons_of_mem _ hw), hK⟩ B.returns B.notSynchronized hG hz ⟨Nat.zero_le _, Nat.zero_le _⟩ ⟨Nat.le_refl _, Nat.le_refl _⟩ s0 a1 hs_s0 M0 M' h hl hP va_S.rf
theorem cl_X3_190 (X : sx_X C p m c cc nL s args RX3) (hG : sx_G C) (hP : sx_W C M0 H) (hz : sx_sz C ≤ H0.size) (hS : va_S (sx_A C) H0 H locs) {s0 : Nat} {a1 : Int32} (hs_s0 : s0 < 18) {M' : sx_M} (h : f4_removeAt s0 a1 M0 = some M') (hsz : ls.size = nL) (hdg : decode cc pc = .ok (.invokevirtual 190, 3)) (hcs : cells ≤ R.cells ∧ slots ≤ R.slots) (hR : 1 + 1 ≤ R.frames ∧ 8 + (3 + 11) + 21 ≤ R.locals) (hrest : (rest.map fun v => v.category).sum ≤ 8) (kk : ∀ (H1 : Heap) (locs1 : List Loc), sx_W C M' H1 → va_S (sx_A C) H0 H1 locs1 → W p l e R s m args below meth c H1 locs1 cells slots Q (F0 m (pc + 3) ls (rest))) : W p l e R s m args below meth c H locs cells slots Q (F0 m pc ls (.int a1 :: .ref (sx_ad C 2 s0) :: rest)) :=
  sx_callV (n := 1) (As := [.int a1]) (k0 := 2) (s0 := s0) X hP hz hS hs_s0 rfl rfl (sx_goodV tw_628 tw_629 tw_630 tw_66 tw_631) (by decide +kernel) rfl rfl hR (ct_4_removeAt l C hG s0 a1 hs_s0 M0 M' h) rfl rfl hrest hsz hdg hcs kk
-- StringShed$Strings.setSound(IZ)V
def f4_setSound (s0 : Nat) (a1 : Int32) (a2 : Int32) (M0 : sx_M) : Option (sx_M) :=
  (f4_isAt s0 a1 M0).bind fun v1 =>
  sx_bd (fun (M2 : sx_M) =>
    some M2) fun j15 =>
  if v1 = 0 then
    j15 M0
  else
    if sx_in a1 40 ∧ (a2 = 0 ∨ a2 = 1) then
    sx_bd (sx_set M0 5 s0 (a1).toNatClampNeg a2) fun M4 =>
    j15 M4
    else none
set_option maxRecDepth 100000 in
set_option maxHeartbeats 4000000 in
theorem wk_4_setSound (X : sx_X C p m c cX4_setSound 3 s args RX4) (hr : meth.sig.returnType = none) (hlocks : meth.locks = false) (hG : sx_G C) (hz : sx_sz C ≤ s.heap.size) (hcs : 0 ≤ R.cells ∧ 0 ≤ R.slots) (hR : 1 ≤ R.frames ∧ 21 ≤ R.locals) (s0 : Nat) (a1 : Int32) (a2 : Int32) (hs_s0 : s0 < 18) (M0 : sx_M) (M' : sx_M) (h : f4_setSound s0 a1 a2 M0 = some M') (hl : lv_has ls 3 [(0, .ref (sx_ad C 2 s0)), (1, .int a1), (2, .int a2)]) (hP : sx_W C M0 H) (hS : va_S (sx_A C) s.heap H locs) : W p l e R s m args below meth c H locs 0 0 (sx_Z C none M' below args s) (F0 m 0 ls []) := by
  obtain ⟨hx, hb, hml, hown, hts, hK⟩ := id X
  rw [f4_setSound] at h
  refine lv_aload_n hx hb dX4_setSound_0 rfl (lv_at hl 0 rfl) ?_
  refine lv_iload_n hx hb dX4_setSound_1 rfl (lv_at hl 1 rfl) ?_
  obtain ⟨v1, e_v1, h⟩ := sx_bnd h
  refine cl_X4_26 X hG hP hz hS hs_s0 e_v1 hl.1 dX4_setSound_2 hcs ⟨Nat.le_trans (by decide) hR.1, Nat.le_trans (by decide) hR.2⟩ (Nat.le_of_ble_eq_true rfl) (fun H locs hP hS => ?_)
  obtain ⟨j15, e_j15, h⟩ := sx_nm h
  have hj15 : ∀ (M2 : sx_M) (H : Heap) (locs : List Loc) (ls : Array Slot), lv_has ls 3 [] → sx_W C M2 H → va_S (sx_A C) s.heap H locs → j15 M2 = some M' → W p l e R s m args below meth c H locs 0 0 (sx_Z C none M' below args s) (F0 m 15 ls []) := by
    intro M2 H locs ls hl hP hS h
    subst e_j15
    exact sx_vret X hr hlocks hS hP h dX4_setSound_15
  clear e_j15
  refine lv_if_eq (tgt := 15) hx hb dX4_setSound_5 (by decide) (fun c3 => ?_) (fun c3 => ?_)
  · replace h := sx_ifp h c3
    exact hj15 M0 H locs ls (lv_sub hl [] rfl) hP hS h
  · replace h := sx_ifn h c3
    refine lv_aload_n hx hb dX4_setSound_8 rfl (lv_at hl 0 rfl) ?_
    refine gf_X4_18 X hP hs_s0 dX4_setSound_9 ?_
    refine lv_iload_n hx hb dX4_setSound_12 rfl (lv_at hl 1 rfl) ?_
    refine lv_iload_n hx hb dX4_setSound_13 rfl (lv_at hl 2 rfl) ?_
    refine sx_zast X hG hP hS 5 s0 40 hs_s0 (fun _ _ => rfl) dX4_setSound_14 h (fun M4 H locs h hP hS => ?_)
    exact hj15 M4 H locs ls (lv_sub hl [] rfl) hP hS h
set_option maxRecDepth 100000 in
theorem ct_4_setSound (l : Launch) (C : sx_C) (hG : sx_G C) (s0 : Nat) (a1 : Int32) (a2 : Int32) (hs_s0 : s0 < 18) (M0 : sx_M) (M' : sx_M) (h : f4_setSound s0 a1 a2 M0 = some M') : Met l yX4_setSound (.code yX4_setSound cX4_setSound 3 none :: sx_T) ({ frames := 1, cells := 0, slots := 0, locals := 21 } : Room) (sx_Pc C M0 [.ref (sx_ad C 2 s0), .int a1, .int a2]) (sx_Q C none M') 0 0 (sx_A C) := by
  refine Met.ofW (cc := cX4_setSound) (maxL := 3) (ret := none) (by decide) rfl ?_
  intro p e s m args below meth c s₁ B hml hv
  obtain ⟨rfl, hz, hP, hK⟩ := hv
  have hl := lv_entry ([.ref (sx_ad C 2 s0), .int a1, .int a2]) (n := 3) (Nat.le_of_ble_eq_true rfl)
  rw [lg_entry_eq]
  generalize (lg_sl ([.ref (sx_ad C 2 s0), .int a1, .int a2]) ++ List.replicate (3 - (lg_sl ([.ref (sx_ad C 2 s0), .int a1, .int a2])).length) Slot.unset).toArray = ls at hl ⊢
  exact wk_4_setSound ⟨B.exec, B.bytes, hml, findClass_of_methodNamed B.named, fun w hw => atoms_spec B.pre w (List.mem_cons_of_mem _ hw), hK⟩ B.returns B.notSynchronized hG hz ⟨Nat.zero_le _, Nat.zero_le _⟩ ⟨Nat.le_refl _, Nat.le_refl _⟩ s0 a1 a2 hs_s0 M0 M' h hl hP va_S.rf
theorem cl_X3_193 (X : sx_X C p m c cc nL s args RX3) (hG : sx_G C) (hP : sx_W C M0 H) (hz : sx_sz C ≤ H0.size) (hS : va_S (sx_A C) H0 H locs) {s0 : Nat} {a1 : Int32} {a2 : Int32} (hs_s0 : s0 < 18) {M' : sx_M} (h : f4_setSound s0 a1 a2 M0 = some M') (hsz : ls.size = nL) (hdg : decode cc pc = .ok (.invokevirtual 193, 3)) (hcs : cells ≤ R.cells ∧ slots ≤ R.slots) (hR : 1 + 1 ≤ R.frames ∧ 8 + (3 + 11) + 21 ≤ R.locals) (hrest : (rest.map fun v => v.category).sum ≤ 8) (kk : ∀ (H1 : Heap) (locs1 : List Loc), sx_W C M' H1 → va_S (sx_A C) H0 H1 locs1 → W p l e R s m args below meth c H1 locs1 cells slots Q (F0 m (pc + 3) ls (rest))) : W p l e R s m args below meth c H locs cells slots Q (F0 m pc ls (.int a2 :: .int a1 :: .ref (sx_ad C 2 s0) :: rest)) :=
  sx_callV (n := 2) (As := [.int a1, .int a2]) (k0 := 2) (s0 := s0) X hP hz hS hs_s0 rfl rfl (sx_goodV tw_636 tw_637 tw_638 tw_66 tw_639) (by decide +kernel) rfl rfl hR (ct_4_setSound l C hG s0 a1 a2 hs_s0 M0 M' h) rfl rfl hrest hsz hdg hcs kk
-- StringShed$Strings.nextBelow(I)I pure
def f4_nextBelow_L4 (s0 : Nat) (w1 : Int32) (M0 : sx_M) (k61 : (Int32 → Option (Int32))) : Nat → Int32 → Int32 → Option (Int32)
  | 0, _, _ => none
  | n + 1, x2, x3 =>
    sx_bd (M0.1 2 s0 3) fun v1 =>
    if v1 ≤ x3 then
      k61 x2
    else
      if (40 : Int32) ≤ x3 then
        k61 x2
      else
        if sx_in x3 40 then
        sx_bd (M0.1 5 s0 (x3).toNatClampNeg) fun v4 =>
        sx_bd (fun (v5 : Int32) =>
          sx_bd (x3 + (1 : Int32)) fun v6 =>
          f4_nextBelow_L4 s0 w1 M0 k61 n v5 v6) fun j55 =>
        if v4 = 0 then
          j55 x2
        else
          if sx_in x3 40 then
          sx_bd (M0.1 3 s0 (x3).toNatClampNeg) fun v8 =>
          if ((w1 >>> ((v8 + (4 : Int32)) &&& 31)) &&& (1 : Int32)) = 0 then
            j55 x2
          else
            if sx_in x3 40 then
            sx_bd (M0.1 4 s0 (x3).toNatClampNeg) fun v10 =>
            sx_bd (x2 ||| ((1 : Int32) <<< ((v10 + (4 : Int32)) &&& 31))) fun v11 =>
            j55 v11
            else none
          else none
        else none
def f4_nextBelow (s0 : Nat) (a1 : Int32) (M0 : sx_M) : Option (Int32) :=
  f4_nextBelow_L4 s0 a1 M0
    (fun (v12 : Int32) =>
      some v12)
    5000 (0 : Int32) (0 : Int32)
set_option maxRecDepth 100000 in
set_option maxHeartbeats 4000000 in
theorem wk_4_nextBelow (X : sx_X C p m c cX4_nextBelow 4 s args RX4) (hr : meth.sig.returnType = (some .int)) (hlocks : meth.locks = false) (hG : sx_G C) (hz : sx_sz C ≤ s.heap.size) (hcs : 0 ≤ R.cells ∧ 0 ≤ R.slots) (hR : 0 ≤ R.frames ∧ 0 ≤ R.locals) (s0 : Nat) (a1 : Int32) (hs_s0 : s0 < 18) (M0 : sx_M) (r : Int32) (h : f4_nextBelow s0 a1 M0 = some r) (hl : lv_has ls 4 [(0, .ref (sx_ad C 2 s0)), (1, .int a1)]) (hP : sx_W C M0 H) (hS : va_S (sx_A C) s.heap H locs) : W p l e R s m args below meth c H locs 0 0 (sx_Z C (some (.int r)) M0 below args s) (F0 m 0 ls []) := by
  obtain ⟨hx, hb, hml, hown, hts, hK⟩ := id X
  rw [f4_nextBelow] at h
  have hf4_nextBelow_L4 : ∀ (s0 : Nat) (w1 : Int32) (hs_s0 : s0 < 18) (k61 : (Int32 → Option (Int32))) (n : Nat) (hk61 : (∀ (y2 : Int32) (H : Heap) (locs : List Loc) (ls : Array Slot), lv_has ls 4 [(2, .int y2)] → sx_W C M0 H → va_S (sx_A C) s.heap H locs → k61 y2 = some r → W p l e R s m args below meth c H locs 0 0 (sx_Z C (some (.int r)) M0 below args s) (F0 m 61 ls []))) (x2 : Int32) (x3 : Int32) (H : Heap) (locs : List Loc) (ls : Array Slot), lv_has ls 4 [(0, .ref (sx_ad C 2 s0)), (1, .int w1), (2, .int x2), (3, .int x3)] → sx_W C M0 H → va_S (sx_A C) s.heap H locs → f4_nextBelow_L4 s0 w1 M0 k61 n x2 x3 = some r → W p l e R s m args below meth c H locs 0 0 (sx_Z C (some (.int r)) M0 below args s) (F0 m 4 ls []) := by
    intro s0 w1 hs_s0 k61 n hk61
    induction n with
    | zero => intro x2 x3 H locs ls hl hP hS h; exact absurd (show (none : Option (Int32)) = some r from h) (fun q => nomatch q)
    | succ n ih =>
      intro x2 x3 H locs ls hl hP hS h
      rw [f4_nextBelow_L4] at h
      refine lv_iload_n hx hb dX4_nextBelow_4 rfl (lv_at hl 3 rfl) ?_
      refine lv_aload_n hx hb dX4_nextBelow_5 rfl (lv_at hl 0 rfl) ?_
      refine gf_X4_22 X hP hs_s0 dX4_nextBelow_6 h (fun v1 h => ?_)
      refine lv_icmp_ge (tgt := 61) hx hb dX4_nextBelow_9 (by decide) (fun c2 => ?_) (fun c2 => ?_)
      · replace h := sx_ifp h c2
        exact hk61 x2 H locs ls (lv_sub hl [2] rfl) hP hS h
      · replace h := sx_ifn h c2
        refine lv_iload_n hx hb dX4_nextBelow_12 rfl (lv_at hl 3 rfl) ?_
        refine lv_bipush (v := (40 : Int32)) hx hb dX4_nextBelow_13 (by decide) ?_
        refine lv_icmp_ge (tgt := 61) hx hb dX4_nextBelow_15 (by decide) (fun c3 => ?_) (fun c3 => ?_)
        · replace h := sx_ifp h c3
          exact hk61 x2 H locs ls (lv_sub hl [2] rfl) hP hS h
        · replace h := sx_ifn h c3
          refine lv_aload_n hx hb dX4_nextBelow_18 rfl (lv_at hl 0 rfl) ?_
          refine gf_X4_18 X hP hs_s0 dX4_nextBelow_19 ?_
          refine lv_iload_n hx hb dX4_nextBelow_22 rfl (lv_at hl 3 rfl) ?_
          refine sx_zald X hP 5 s0 40 hs_s0 (fun _ _ => rfl) dX4_nextBelow_23 h (fun v4 h => ?_)
          obtain ⟨j55, e_j55, h⟩ := sx_nm h
          have hj55 : ∀ (v5 : Int32) (H : Heap) (locs : List Loc) (ls : Array Slot), lv_has ls 4 [(0, .ref (sx_ad C 2 s0)), (1, .int w1), (2, .int v5), (3, .int x3)] → sx_W C M0 H → va_S (sx_A C) s.heap H locs → j55 v5 = some r → W p l e R s m args below meth c H locs 0 0 (sx_Z C (some (.int r)) M0 below args s) (F0 m 55 ls []) := by
            intro v5 H locs ls hl hP hS h
            subst e_j55
            obtain ⟨v6, e_v6, h⟩ := sx_nm h
            refine lv_iinc (v := v6) (lv' := [(3, .int v6), (0, .ref (sx_ad C 2 s0)), (1, .int w1), (2, .int v5)]) hx hb dX4_nextBelow_55 hl (k := 3) rfl (by rw [← e_v6]; rfl) (by decide) rfl (fun ls hl => ?_)
            refine lv_goto (tgt := 4) hx hb dX4_nextBelow_58 (by decide) ?_
            exact ih v5 v6 H locs ls (lv_sub hl [1, 2, 3, 0] rfl) hP hS h
          clear e_j55
          refine lv_if_eq (tgt := 55) hx hb dX4_nextBelow_24 (by decide) (fun c7 => ?_) (fun c7 => ?_)
          · replace h := sx_ifp h c7
            exact hj55 x2 H locs ls (lv_sub hl [0, 1, 2, 3] rfl) hP hS h
          · replace h := sx_ifn h c7
            refine lv_iload_n hx hb dX4_nextBelow_27 rfl (lv_at hl 1 rfl) ?_
            refine lv_aload_n hx hb dX4_nextBelow_28 rfl (lv_at hl 0 rfl) ?_
            refine gf_X4_9 X hP hs_s0 dX4_nextBelow_29 ?_
            refine lv_iload_n hx hb dX4_nextBelow_32 rfl (lv_at hl 3 rfl) ?_
            refine sx_iald X hP 3 s0 40 hs_s0 (fun _ _ => rfl) dX4_nextBelow_33 h (fun v8 h => ?_)
            refine lv_iconst (v := (4 : Int32)) hx hb dX4_nextBelow_34 (by decide) ?_
            refine lv_iadd hx hb dX4_nextBelow_35 ?_
            refine lv_ishr hx hb dX4_nextBelow_36 ?_
            refine lv_iconst (v := (1 : Int32)) hx hb dX4_nextBelow_37 (by decide) ?_
            refine lv_iand hx hb dX4_nextBelow_38 ?_
            refine lv_if_eq (tgt := 55) hx hb dX4_nextBelow_39 (by decide) (fun c9 => ?_) (fun c9 => ?_)
            · replace h := sx_ifp h c9
              exact hj55 x2 H locs ls (lv_sub hl [0, 1, 2, 3] rfl) hP hS h
            · replace h := sx_ifn h c9
              refine lv_iload_n hx hb dX4_nextBelow_42 rfl (lv_at hl 2 rfl) ?_
              refine lv_iconst (v := (1 : Int32)) hx hb dX4_nextBelow_43 (by decide) ?_
              refine lv_aload_n hx hb dX4_nextBelow_44 rfl (lv_at hl 0 rfl) ?_
              refine gf_X4_15 X hP hs_s0 dX4_nextBelow_45 ?_
              refine lv_iload_n hx hb dX4_nextBelow_48 rfl (lv_at hl 3 rfl) ?_
              refine sx_iald X hP 4 s0 40 hs_s0 (fun _ _ => rfl) dX4_nextBelow_49 h (fun v10 h => ?_)
              refine lv_iconst (v := (4 : Int32)) hx hb dX4_nextBelow_50 (by decide) ?_
              refine lv_iadd hx hb dX4_nextBelow_51 ?_
              refine lv_ishl hx hb dX4_nextBelow_52 ?_
              refine lv_ior hx hb dX4_nextBelow_53 ?_
              obtain ⟨v11, e_v11, h⟩ := sx_nm h
              rw [e_v11]
              refine lv_istore_n (lv' := [(2, .int v11), (0, .ref (sx_ad C 2 s0)), (1, .int w1), (3, .int x3)]) hx hb dX4_nextBelow_54 rfl hl (by decide) rfl (fun ls hl => ?_)
              exact hj55 v11 H locs ls (lv_sub hl [1, 2, 0, 3] rfl) hP hS h
  refine lv_iconst (v := (0 : Int32)) hx hb dX4_nextBelow_0 (by decide) ?_
  refine lv_istore_n (lv' := [(2, .int (0 : Int32)), (0, .ref (sx_ad C 2 s0)), (1, .int a1)]) hx hb dX4_nextBelow_1 rfl hl (by decide) rfl (fun ls hl => ?_)
  refine lv_iconst (v := (0 : Int32)) hx hb dX4_nextBelow_2 (by decide) ?_
  refine lv_istore_n (lv' := [(3, .int (0 : Int32)), (2, .int (0 : Int32)), (0, .ref (sx_ad C 2 s0)), (1, .int a1)]) hx hb dX4_nextBelow_3 rfl hl (by decide) rfl (fun ls hl => ?_)
  refine hf4_nextBelow_L4 s0 a1 hs_s0 _ 5000 ?_ (0 : Int32) (0 : Int32) H locs ls (lv_sub hl [2, 3, 1, 0] rfl) hP hS h
  · intro v12 H locs ls hl hP hS h
    refine lv_iload_n hx hb dX4_nextBelow_61 rfl (lv_at hl 0 rfl) ?_
    exact sx_iret X hr hlocks hS hP h dX4_nextBelow_62
set_option maxRecDepth 100000 in
theorem ct_4_nextBelow (l : Launch) (C : sx_C) (hG : sx_G C) (s0 : Nat) (a1 : Int32) (hs_s0 : s0 < 18) (M0 : sx_M) (r : Int32) (h : f4_nextBelow s0 a1 M0 = some r) : Met l yX4_nextBelow (.code yX4_nextBelow cX4_nextBelow 4 (some .int) :: sx_T) ({ frames := 0, cells := 0, slots := 0, locals := 0 } : Room) (sx_Pc C M0 [.ref (sx_ad C 2 s0), .int a1]) (sx_Q C (some (.int r)) M0) 0 0 (sx_A C) := by
  refine Met.ofW (cc := cX4_nextBelow) (maxL := 4) (ret := (some .int)) (by decide) rfl ?_
  intro p e s m args below meth c s₁ B hml hv
  obtain ⟨rfl, hz, hP, hK⟩ := hv
  have hl := lv_entry ([.ref (sx_ad C 2 s0), .int a1]) (n := 4) (Nat.le_of_ble_eq_true rfl)
  rw [lg_entry_eq]
  generalize (lg_sl ([.ref (sx_ad C 2 s0), .int a1]) ++ List.replicate (4 - (lg_sl ([.ref (sx_ad C 2 s0), .int a1])).length) Slot.unset).toArray = ls at hl ⊢
  exact wk_4_nextBelow ⟨B.exec, B.bytes, hml, findClass_of_methodNamed B.named, fun w hw => atoms_spec B.pre w (List.mem_cons_of_mem _ hw), hK⟩ B.returns B.notSynchronized hG hz ⟨Nat.zero_le _, Nat.zero_le _⟩ ⟨Nat.le_refl _, Nat.le_refl _⟩ s0 a1 hs_s0 M0 r h hl hP va_S.rf
theorem cl_X3_199 (X : sx_X C p m c cc nL s args RX3) (hG : sx_G C) (hP : sx_W C M0 H) (hz : sx_sz C ≤ H0.size) (hS : va_S (sx_A C) H0 H locs) {s0 : Nat} {a1 : Int32} (hs_s0 : s0 < 18) {r : Int32} (h : f4_nextBelow s0 a1 M0 = some r) (hsz : ls.size = nL) (hdg : decode cc pc = .ok (.invokevirtual 199, 3)) (hcs : cells ≤ R.cells ∧ slots ≤ R.slots) (hR : 0 + 1 ≤ R.frames ∧ 8 + (4 + 11) + 0 ≤ R.locals) (hrest : (rest.map fun v => v.category).sum ≤ 8) (kk : ∀ (H1 : Heap) (locs1 : List Loc), sx_W C M0 H1 → va_S (sx_A C) H0 H1 locs1 → W p l e R s m args below meth c H1 locs1 cells slots Q (F0 m (pc + 3) ls ((.int r) :: rest))) : W p l e R s m args below meth c H locs cells slots Q (F0 m pc ls (.int a1 :: .ref (sx_ad C 2 s0) :: rest)) :=
  sx_callV (n := 1) (As := [.int a1]) (k0 := 2) (s0 := s0) X hP hz hS hs_s0 rfl rfl (sx_goodV tw_354 tw_314 tw_315 tw_66 tw_316) (by decide +kernel) rfl rfl hR (ct_4_nextBelow l C hG s0 a1 hs_s0 M0 r h) rfl rfl hrest hsz hdg hcs kk
theorem cl_X4_34 (X : sx_X C p m c cc nL s args RX4) (hG : sx_G C) (hP : sx_W C M0 H) (hz : sx_sz C ≤ H0.size) (hS : va_S (sx_A C) H0 H locs) {s0 : Nat} {a1 : Int32} (hs_s0 : s0 < 18) {r : Int32} (h : f4_nextBelow s0 a1 M0 = some r) (hsz : ls.size = nL) (hdg : decode cc pc = .ok (.invokevirtual 34, 3)) (hcs : cells ≤ R.cells ∧ slots ≤ R.slots) (hR : 0 + 1 ≤ R.frames ∧ 8 + (4 + 11) + 0 ≤ R.locals) (hrest : (rest.map fun v => v.category).sum ≤ 8) (kk : ∀ (H1 : Heap) (locs1 : List Loc), sx_W C M0 H1 → va_S (sx_A C) H0 H1 locs1 → W p l e R s m args below meth c H1 locs1 cells slots Q (F0 m (pc + 3) ls ((.int r) :: rest))) : W p l e R s m args below meth c H locs cells slots Q (F0 m pc ls (.int a1 :: .ref (sx_ad C 2 s0) :: rest)) :=
  sx_callV (n := 1) (As := [.int a1]) (k0 := 2) (s0 := s0) X hP hz hS hs_s0 rfl rfl (sx_goodV tw_313 tw_314 tw_315 tw_66 tw_316) (by decide +kernel) rfl rfl hR (ct_4_nextBelow l C hG s0 a1 hs_s0 M0 r h) rfl rfl hrest hsz hdg hcs kk
-- StringShed$Strings.removeAll(I)I
def f4_removeAll_L4 (s0 : Nat) (w1 : Int32) (k93 : (Int32 → sx_M → Option (Int32 × sx_M))) : Nat → Int32 → Int32 → sx_M → Option (Int32 × sx_M)
  | 0, _, _, _ => none
  | n + 1, x2, x3, M =>
    sx_bd (M.1 2 s0 3) fun v1 =>
    if v1 ≤ x3 then
      k93 x2 M
    else
      if (40 : Int32) ≤ x3 then
        k93 x2 M
      else
        if sx_in x3 40 then
        sx_bd (M.1 3 s0 (x3).toNatClampNeg) fun v4 =>
        if sx_in x3 40 then
        sx_bd (M.1 4 s0 (x3).toNatClampNeg) fun v5 =>
        sx_bd (((1 : Int32) <<< ((v4 + (4 : Int32)) &&& 31)) ||| ((1 : Int32) <<< ((v5 + (4 : Int32)) &&& 31))) fun v6 =>
        sx_bd (fun (v7 : Int32) (M8 : sx_M) =>
          sx_bd (x3 + (1 : Int32)) fun v9 =>
          f4_removeAll_L4 s0 w1 k93 n v7 v9 M8) fun j87 =>
        if (v6 &&& w1) = 0 then
          if sx_in x3 40 then
          sx_bd (M.1 3 s0 (x3).toNatClampNeg) fun v11 =>
          if sx_in x2 40 then
          sx_bd (sx_set M 3 s0 (x2).toNatClampNeg v11) fun M12 =>
          if sx_in x3 40 then
          sx_bd (M12.1 4 s0 (x3).toNatClampNeg) fun v13 =>
          if sx_in x2 40 then
          sx_bd (sx_set M12 4 s0 (x2).toNatClampNeg v13) fun M14 =>
          if sx_in x3 40 then
          sx_bd (M14.1 5 s0 (x3).toNatClampNeg) fun v15 =>
          if sx_in x2 40 ∧ (v15 = 0 ∨ v15 = 1) then
          sx_bd (sx_set M14 5 s0 (x2).toNatClampNeg v15) fun M16 =>
          sx_bd (x2 + (1 : Int32)) fun v17 =>
          j87 v17 M16
          else none
          else none
          else none
          else none
          else none
          else none
        else
          j87 x2 M
        else none
        else none
def f4_removeAll (s0 : Nat) (a1 : Int32) (M0 : sx_M) : Option (Int32 × sx_M) :=
  f4_removeAll_L4 s0 a1
    (fun (v18 : Int32) (M19 : sx_M) =>
      sx_bd (M19.1 2 s0 3) fun v20 =>
      sx_bd (v20 - v18) fun v21 =>
      sx_bd (sx_set M19 2 s0 3 v18) fun M22 =>
      some (v21, M22))
    5000 (0 : Int32) (0 : Int32) M0
set_option maxRecDepth 100000 in
set_option maxHeartbeats 4000000 in
theorem wk_4_removeAll (X : sx_X C p m c cX4_removeAll 5 s args RX4) (hr : meth.sig.returnType = (some .int)) (hlocks : meth.locks = false) (hG : sx_G C) (hz : sx_sz C ≤ s.heap.size) (hcs : 0 ≤ R.cells ∧ 0 ≤ R.slots) (hR : 0 ≤ R.frames ∧ 0 ≤ R.locals) (s0 : Nat) (a1 : Int32) (hs_s0 : s0 < 18) (M0 : sx_M) (r : Int32) (M' : sx_M) (h : f4_removeAll s0 a1 M0 = some (r, M')) (hl : lv_has ls 5 [(0, .ref (sx_ad C 2 s0)), (1, .int a1)]) (hP : sx_W C M0 H) (hS : va_S (sx_A C) s.heap H locs) : W p l e R s m args below meth c H locs 0 0 (sx_Z C (some (.int r)) M' below args s) (F0 m 0 ls []) := by
  obtain ⟨hx, hb, hml, hown, hts, hK⟩ := id X
  rw [f4_removeAll] at h
  have hf4_removeAll_L4 : ∀ (s0 : Nat) (w1 : Int32) (hs_s0 : s0 < 18) (k93 : (Int32 → sx_M → Option (Int32 × sx_M))) (n : Nat) (hk93 : (∀ (y2 : Int32) (M : sx_M) (H : Heap) (locs : List Loc) (ls : Array Slot), lv_has ls 5 [(0, .ref (sx_ad C 2 s0)), (2, .int y2)] → sx_W C M H → va_S (sx_A C) s.heap H locs → k93 y2 M = some (r, M') → W p l e R s m args below meth c H locs 0 0 (sx_Z C (some (.int r)) M' below args s) (F0 m 93 ls []))) (x2 : Int32) (x3 : Int32) (M : sx_M) (H : Heap) (locs : List Loc) (ls : Array Slot), lv_has ls 5 [(0, .ref (sx_ad C 2 s0)), (1, .int w1), (2, .int x2), (3, .int x3)] → sx_W C M H → va_S (sx_A C) s.heap H locs → f4_removeAll_L4 s0 w1 k93 n x2 x3 M = some (r, M') → W p l e R s m args below meth c H locs 0 0 (sx_Z C (some (.int r)) M' below args s) (F0 m 4 ls []) := by
    intro s0 w1 hs_s0 k93 n hk93
    induction n with
    | zero => intro x2 x3 M H locs ls hl hP hS h; exact absurd (show (none : Option (Int32 × sx_M)) = some (r, M') from h) (fun q => nomatch q)
    | succ n ih =>
      intro x2 x3 M H locs ls hl hP hS h
      rw [f4_removeAll_L4] at h
      refine lv_iload_n hx hb dX4_removeAll_4 rfl (lv_at hl 3 rfl) ?_
      refine lv_aload_n hx hb dX4_removeAll_5 rfl (lv_at hl 0 rfl) ?_
      refine gf_X4_22 X hP hs_s0 dX4_removeAll_6 h (fun v1 h => ?_)
      refine lv_icmp_ge (tgt := 93) hx hb dX4_removeAll_9 (by decide) (fun c2 => ?_) (fun c2 => ?_)
      · replace h := sx_ifp h c2
        exact hk93 x2 M H locs ls (lv_sub hl [0, 2] rfl) hP hS h
      · replace h := sx_ifn h c2
        refine lv_iload_n hx hb dX4_removeAll_12 rfl (lv_at hl 3 rfl) ?_
        refine lv_bipush (v := (40 : Int32)) hx hb dX4_removeAll_13 (by decide) ?_
        refine lv_icmp_ge (tgt := 93) hx hb dX4_removeAll_15 (by decide) (fun c3 => ?_) (fun c3 => ?_)
        · replace h := sx_ifp h c3
          exact hk93 x2 M H locs ls (lv_sub hl [0, 2] rfl) hP hS h
        · replace h := sx_ifn h c3
          refine lv_iconst (v := (1 : Int32)) hx hb dX4_removeAll_18 (by decide) ?_
          refine lv_aload_n hx hb dX4_removeAll_19 rfl (lv_at hl 0 rfl) ?_
          refine gf_X4_9 X hP hs_s0 dX4_removeAll_20 ?_
          refine lv_iload_n hx hb dX4_removeAll_23 rfl (lv_at hl 3 rfl) ?_
          refine sx_iald X hP 3 s0 40 hs_s0 (fun _ _ => rfl) dX4_removeAll_24 h (fun v4 h => ?_)
          refine lv_iconst (v := (4 : Int32)) hx hb dX4_removeAll_25 (by decide) ?_
          refine lv_iadd hx hb dX4_removeAll_26 ?_
          refine lv_ishl hx hb dX4_removeAll_27 ?_
          refine lv_iconst (v := (1 : Int32)) hx hb dX4_removeAll_28 (by decide) ?_
          refine lv_aload_n hx hb dX4_removeAll_29 rfl (lv_at hl 0 rfl) ?_
          refine gf_X4_15 X hP hs_s0 dX4_removeAll_30 ?_
          refine lv_iload_n hx hb dX4_removeAll_33 rfl (lv_at hl 3 rfl) ?_
          refine sx_iald X hP 4 s0 40 hs_s0 (fun _ _ => rfl) dX4_removeAll_34 h (fun v5 h => ?_)
          refine lv_iconst (v := (4 : Int32)) hx hb dX4_removeAll_35 (by decide) ?_
          refine lv_iadd hx hb dX4_removeAll_36 ?_
          refine lv_ishl hx hb dX4_removeAll_37 ?_
          refine lv_ior hx hb dX4_removeAll_38 ?_
          obtain ⟨v6, e_v6, h⟩ := sx_nm h
          rw [e_v6]
          refine lv_istore (lv' := [(4, .int v6), (0, .ref (sx_ad C 2 s0)), (1, .int w1), (2, .int x2), (3, .int x3)]) hx hb dX4_removeAll_39 hl (by decide) rfl (fun ls hl => ?_)
          refine lv_iload hx hb dX4_removeAll_41 (lv_at hl 0 rfl) ?_
          refine lv_iload_n hx hb dX4_removeAll_43 rfl (lv_at hl 2 rfl) ?_
          refine lv_iand hx hb dX4_removeAll_44 ?_
          obtain ⟨j87, e_j87, h⟩ := sx_nm h
          have hj87 : ∀ (v7 : Int32) (M8 : sx_M) (H : Heap) (locs : List Loc) (ls : Array Slot), lv_has ls 5 [(0, .ref (sx_ad C 2 s0)), (1, .int w1), (2, .int v7), (3, .int x3)] → sx_W C M8 H → va_S (sx_A C) s.heap H locs → j87 v7 M8 = some (r, M') → W p l e R s m args below meth c H locs 0 0 (sx_Z C (some (.int r)) M' below args s) (F0 m 87 ls []) := by
            intro v7 M8 H locs ls hl hP hS h
            subst e_j87
            obtain ⟨v9, e_v9, h⟩ := sx_nm h
            refine lv_iinc (v := v9) (lv' := [(3, .int v9), (0, .ref (sx_ad C 2 s0)), (1, .int w1), (2, .int v7)]) hx hb dX4_removeAll_87 hl (k := 3) rfl (by rw [← e_v9]; rfl) (by decide) rfl (fun ls hl => ?_)
            refine lv_goto (tgt := 4) hx hb dX4_removeAll_90 (by decide) ?_
            exact ih v7 v9 M8 H locs ls (lv_sub hl [1, 2, 3, 0] rfl) hP hS h
          clear e_j87
          refine lv_if_ne (tgt := 87) hx hb dX4_removeAll_45 (by decide) (fun c10 => ?_) (fun c10 => ?_)
          · replace h := sx_ifn h c10
            exact hj87 x2 M H locs ls (lv_sub hl [1, 2, 3, 4] rfl) hP hS h
          · replace h := sx_ifp h c10
            refine lv_aload_n hx hb dX4_removeAll_48 rfl (lv_at hl 1 rfl) ?_
            refine gf_X4_9 X hP hs_s0 dX4_removeAll_49 ?_
            refine lv_iload_n hx hb dX4_removeAll_52 rfl (lv_at hl 3 rfl) ?_
            refine lv_aload_n hx hb dX4_removeAll_53 rfl (lv_at hl 1 rfl) ?_
            refine gf_X4_9 X hP hs_s0 dX4_removeAll_54 ?_
            refine lv_iload_n hx hb dX4_removeAll_57 rfl (lv_at hl 4 rfl) ?_
            refine sx_iald X hP 3 s0 40 hs_s0 (fun _ _ => rfl) dX4_removeAll_58 h (fun v11 h => ?_)
            refine sx_iast X hG hP hS 3 s0 40 hs_s0 (fun _ _ => rfl) dX4_removeAll_59 h (fun M12 H locs h hP hS => ?_)
            refine lv_aload_n hx hb dX4_removeAll_60 rfl (lv_at hl 1 rfl) ?_
            refine gf_X4_15 X hP hs_s0 dX4_removeAll_61 ?_
            refine lv_iload_n hx hb dX4_removeAll_64 rfl (lv_at hl 3 rfl) ?_
            refine lv_aload_n hx hb dX4_removeAll_65 rfl (lv_at hl 1 rfl) ?_
            refine gf_X4_15 X hP hs_s0 dX4_removeAll_66 ?_
            refine lv_iload_n hx hb dX4_removeAll_69 rfl (lv_at hl 4 rfl) ?_
            refine sx_iald X hP 4 s0 40 hs_s0 (fun _ _ => rfl) dX4_removeAll_70 h (fun v13 h => ?_)
            refine sx_iast X hG hP hS 4 s0 40 hs_s0 (fun _ _ => rfl) dX4_removeAll_71 h (fun M14 H locs h hP hS => ?_)
            refine lv_aload_n hx hb dX4_removeAll_72 rfl (lv_at hl 1 rfl) ?_
            refine gf_X4_18 X hP hs_s0 dX4_removeAll_73 ?_
            refine lv_iload_n hx hb dX4_removeAll_76 rfl (lv_at hl 3 rfl) ?_
            refine lv_aload_n hx hb dX4_removeAll_77 rfl (lv_at hl 1 rfl) ?_
            refine gf_X4_18 X hP hs_s0 dX4_removeAll_78 ?_
            refine lv_iload_n hx hb dX4_removeAll_81 rfl (lv_at hl 4 rfl) ?_
            refine sx_zald X hP 5 s0 40 hs_s0 (fun _ _ => rfl) dX4_removeAll_82 h (fun v15 h => ?_)
            refine sx_zast X hG hP hS 5 s0 40 hs_s0 (fun _ _ => rfl) dX4_removeAll_83 h (fun M16 H locs h hP hS => ?_)
            obtain ⟨v17, e_v17, h⟩ := sx_nm h
            refine lv_iinc (v := v17) (lv' := [(2, .int v17), (4, .int v6), (0, .ref (sx_ad C 2 s0)), (1, .int w1), (3, .int x3)]) hx hb dX4_removeAll_84 hl (k := 3) rfl (by rw [← e_v17]; rfl) (by decide) rfl (fun ls hl => ?_)
            exact hj87 v17 M16 H locs ls (lv_sub hl [2, 3, 0, 4] rfl) hP hS h
  refine lv_iconst (v := (0 : Int32)) hx hb dX4_removeAll_0 (by decide) ?_
  refine lv_istore_n (lv' := [(2, .int (0 : Int32)), (0, .ref (sx_ad C 2 s0)), (1, .int a1)]) hx hb dX4_removeAll_1 rfl hl (by decide) rfl (fun ls hl => ?_)
  refine lv_iconst (v := (0 : Int32)) hx hb dX4_removeAll_2 (by decide) ?_
  refine lv_istore_n (lv' := [(3, .int (0 : Int32)), (2, .int (0 : Int32)), (0, .ref (sx_ad C 2 s0)), (1, .int a1)]) hx hb dX4_removeAll_3 rfl hl (by decide) rfl (fun ls hl => ?_)
  refine hf4_removeAll_L4 s0 a1 hs_s0 _ 5000 ?_ (0 : Int32) (0 : Int32) M0 H locs ls (lv_sub hl [2, 3, 1, 0] rfl) hP hS h
  · intro v18 M19 H locs ls hl hP hS h
    refine lv_aload_n hx hb dX4_removeAll_93 rfl (lv_at hl 0 rfl) ?_
    refine gf_X4_22 X hP hs_s0 dX4_removeAll_94 h (fun v20 h => ?_)
    refine lv_iload_n hx hb dX4_removeAll_97 rfl (lv_at hl 1 rfl) ?_
    refine lv_isub hx hb dX4_removeAll_98 ?_
    obtain ⟨v21, e_v21, h⟩ := sx_nm h
    rw [e_v21]
    refine lv_istore_n (lv' := [(3, .int v21), (0, .ref (sx_ad C 2 s0)), (2, .int v18)]) hx hb dX4_removeAll_99 rfl hl (by decide) rfl (fun ls hl => ?_)
    refine lv_aload_n hx hb dX4_removeAll_100 rfl (lv_at hl 1 rfl) ?_
    refine lv_iload_n hx hb dX4_removeAll_101 rfl (lv_at hl 2 rfl) ?_
    refine pf_X4_22 X hG hP hS hs_s0 dX4_removeAll_102 h (fun M22 H locs h hP hS => ?_)
    refine lv_iload_n hx hb dX4_removeAll_105 rfl (lv_at hl 0 rfl) ?_
    exact sx_iretM X hr hlocks hS hP h dX4_removeAll_106
set_option maxRecDepth 100000 in
theorem ct_4_removeAll (l : Launch) (C : sx_C) (hG : sx_G C) (s0 : Nat) (a1 : Int32) (hs_s0 : s0 < 18) (M0 : sx_M) (r : Int32) (M' : sx_M) (h : f4_removeAll s0 a1 M0 = some (r, M')) : Met l yX4_removeAll (.code yX4_removeAll cX4_removeAll 5 (some .int) :: sx_T) ({ frames := 0, cells := 0, slots := 0, locals := 0 } : Room) (sx_Pc C M0 [.ref (sx_ad C 2 s0), .int a1]) (sx_Q C (some (.int r)) M') 0 0 (sx_A C) := by
  refine Met.ofW (cc := cX4_removeAll) (maxL := 5) (ret := (some .int)) (by decide) rfl ?_
  intro p e s m args below meth c s₁ B hml hv
  obtain ⟨rfl, hz, hP, hK⟩ := hv
  have hl := lv_entry ([.ref (sx_ad C 2 s0), .int a1]) (n := 5) (Nat.le_of_ble_eq_true rfl)
  rw [lg_entry_eq]
  generalize (lg_sl ([.ref (sx_ad C 2 s0), .int a1]) ++ List.replicate (5 - (lg_sl ([.ref (sx_ad C 2 s0), .int a1])).length) Slot.unset).toArray = ls at hl ⊢
  exact wk_4_removeAll ⟨B.exec, B.bytes, hml, findClass_of_methodNamed B.named, fun w hw => atoms_spec B.pre w (List.mem_cons_of_mem _ hw), hK⟩ B.returns B.notSynchronized hG hz ⟨Nat.zero_le _, Nat.zero_le _⟩ ⟨Nat.le_refl _, Nat.le_refl _⟩ s0 a1 hs_s0 M0 r M' h hl hP va_S.rf
theorem cl_X3_220 (X : sx_X C p m c cc nL s args RX3) (hG : sx_G C) (hP : sx_W C M0 H) (hz : sx_sz C ≤ H0.size) (hS : va_S (sx_A C) H0 H locs) {s0 : Nat} {a1 : Int32} (hs_s0 : s0 < 18) {r : Int32} {M' : sx_M} (h : f4_removeAll s0 a1 M0 = some (r, M')) (hsz : ls.size = nL) (hdg : decode cc pc = .ok (.invokevirtual 220, 3)) (hcs : cells ≤ R.cells ∧ slots ≤ R.slots) (hR : 0 + 1 ≤ R.frames ∧ 8 + (5 + 11) + 0 ≤ R.locals) (hrest : (rest.map fun v => v.category).sum ≤ 8) (kk : ∀ (H1 : Heap) (locs1 : List Loc), sx_W C M' H1 → va_S (sx_A C) H0 H1 locs1 → W p l e R s m args below meth c H1 locs1 cells slots Q (F0 m (pc + 3) ls ((.int r) :: rest))) : W p l e R s m args below meth c H locs cells slots Q (F0 m pc ls (.int a1 :: .ref (sx_ad C 2 s0) :: rest)) :=
  sx_callV (n := 1) (As := [.int a1]) (k0 := 2) (s0 := s0) X hP hz hS hs_s0 rfl rfl (sx_goodV tw_384 tw_385 tw_386 tw_66 tw_387) (by decide +kernel) rfl rfl hR (ct_4_removeAll l C hG s0 a1 hs_s0 M0 r M' h) rfl rfl hrest hsz hdg hcs kk
-- StringShed$Strings.depthOf(II)I pure
def f4_depthOf_L5 (s0 : Nat) (w2 : Int32) (M0 : sx_M) : Nat → Int32 → Int32 → Option (Int32)
  | 0, _, _ => none
  | n + 1, x3, x4 =>
    if (24 : Int32) < x4 then
      some (-9 : Int32)
    else
      (f7_bitOf w2 M0).bind fun v2 =>
      if (x3 &&& v2) = 0 then
        (f4_nextBelow s0 x3 M0).bind fun v4 =>
        sx_bd (x3 ||| v4) fun v5 =>
        sx_bd (x4 + (1 : Int32)) fun v6 =>
        f4_depthOf_L5 s0 w2 M0 n v5 v6
      else
        some x4
def f4_depthOf (s0 : Nat) (a1 : Int32) (a2 : Int32) (M0 : sx_M) : Option (Int32) :=
  f4_depthOf_L5 s0 a2 M0
    5000 a1 (0 : Int32)
set_option maxRecDepth 100000 in
set_option maxHeartbeats 4000000 in
theorem wk_4_depthOf (X : sx_X C p m c cX4_depthOf 5 s args RX4) (hr : meth.sig.returnType = (some .int)) (hlocks : meth.locks = false) (hG : sx_G C) (hz : sx_sz C ≤ s.heap.size) (hcs : 0 ≤ R.cells ∧ 0 ≤ R.slots) (hR : 1 ≤ R.frames ∧ 23 ≤ R.locals) (s0 : Nat) (a1 : Int32) (a2 : Int32) (hs_s0 : s0 < 18) (M0 : sx_M) (r : Int32) (h : f4_depthOf s0 a1 a2 M0 = some r) (hl : lv_has ls 5 [(0, .ref (sx_ad C 2 s0)), (1, .int a1), (2, .int a2)]) (hP : sx_W C M0 H) (hS : va_S (sx_A C) s.heap H locs) : W p l e R s m args below meth c H locs 0 0 (sx_Z C (some (.int r)) M0 below args s) (F0 m 0 ls []) := by
  obtain ⟨hx, hb, hml, hown, hts, hK⟩ := id X
  rw [f4_depthOf] at h
  have hf4_depthOf_L5 : ∀ (s0 : Nat) (w2 : Int32) (hs_s0 : s0 < 18) (n : Nat) (x3 : Int32) (x4 : Int32) (H : Heap) (locs : List Loc) (ls : Array Slot), lv_has ls 5 [(0, .ref (sx_ad C 2 s0)), (2, .int w2), (3, .int x3), (4, .int x4)] → sx_W C M0 H → va_S (sx_A C) s.heap H locs → f4_depthOf_L5 s0 w2 M0 n x3 x4 = some r → W p l e R s m args below meth c H locs 0 0 (sx_Z C (some (.int r)) M0 below args s) (F0 m 5 ls []) := by
    intro s0 w2 hs_s0 n
    induction n with
    | zero => intro x3 x4 H locs ls hl hP hS h; exact absurd (show (none : Option (Int32)) = some r from h) (fun q => nomatch q)
    | succ n ih =>
      intro x3 x4 H locs ls hl hP hS h
      rw [f4_depthOf_L5] at h
      refine lv_iload hx hb dX4_depthOf_5 (lv_at hl 3 rfl) ?_
      refine lv_bipush (v := (24 : Int32)) hx hb dX4_depthOf_7 (by decide) ?_
      refine lv_icmp_gt (tgt := 38) hx hb dX4_depthOf_9 (by decide) (fun c1 => ?_) (fun c1 => ?_)
      · replace h := sx_ifp h c1
        refine lv_bipush (v := (-9 : Int32)) hx hb dX4_depthOf_38 (by decide) ?_
        exact sx_iret X hr hlocks hS hP h dX4_depthOf_40
      · replace h := sx_ifn h c1
        refine lv_iload_n hx hb dX4_depthOf_12 rfl (lv_at hl 2 rfl) ?_
        refine lv_iload_n hx hb dX4_depthOf_13 rfl (lv_at hl 1 rfl) ?_
        obtain ⟨v2, e_v2, h⟩ := sx_bnd h
        refine cl_X4_30 X hG hP hz hS  e_v2 hl.1 dX4_depthOf_14 hcs ⟨Nat.le_trans (by decide) hR.1, Nat.le_trans (by decide) hR.2⟩ (Nat.le_of_ble_eq_true rfl) (fun H locs hP hS => ?_)
        refine lv_iand hx hb dX4_depthOf_17 ?_
        refine lv_if_eq (tgt := 24) hx hb dX4_depthOf_18 (by decide) (fun c3 => ?_) (fun c3 => ?_)
        · replace h := sx_ifp h c3
          refine lv_iload_n hx hb dX4_depthOf_24 rfl (lv_at hl 2 rfl) ?_
          refine lv_aload_n hx hb dX4_depthOf_25 rfl (lv_at hl 0 rfl) ?_
          refine lv_iload_n hx hb dX4_depthOf_26 rfl (lv_at hl 2 rfl) ?_
          obtain ⟨v4, e_v4, h⟩ := sx_bnd h
          refine cl_X4_34 X hG hP hz hS hs_s0 e_v4 hl.1 dX4_depthOf_27 hcs ⟨Nat.le_trans (by decide) hR.1, Nat.le_trans (by decide) hR.2⟩ (Nat.le_of_ble_eq_true rfl) (fun H locs hP hS => ?_)
          refine lv_ior hx hb dX4_depthOf_30 ?_
          obtain ⟨v5, e_v5, h⟩ := sx_nm h
          rw [e_v5]
          refine lv_istore_n (lv' := [(3, .int v5), (0, .ref (sx_ad C 2 s0)), (2, .int w2), (4, .int x4)]) hx hb dX4_depthOf_31 rfl hl (by decide) rfl (fun ls hl => ?_)
          obtain ⟨v6, e_v6, h⟩ := sx_nm h
          refine lv_iinc (v := v6) (lv' := [(4, .int v6), (3, .int v5), (0, .ref (sx_ad C 2 s0)), (2, .int w2)]) hx hb dX4_depthOf_32 hl (k := 3) rfl (by rw [← e_v6]; rfl) (by decide) rfl (fun ls hl => ?_)
          refine lv_goto (tgt := 5) hx hb dX4_depthOf_35 (by decide) ?_
          exact ih v5 v6 H locs ls (lv_sub hl [2, 3, 1, 0] rfl) hP hS h
        · replace h := sx_ifn h c3
          refine lv_iload hx hb dX4_depthOf_21 (lv_at hl 3 rfl) ?_
          exact sx_iret X hr hlocks hS hP h dX4_depthOf_23
  refine lv_iload_n hx hb dX4_depthOf_0 rfl (lv_at hl 1 rfl) ?_
  refine lv_istore_n (lv' := [(3, .int a1), (0, .ref (sx_ad C 2 s0)), (1, .int a1), (2, .int a2)]) hx hb dX4_depthOf_1 rfl hl (by decide) rfl (fun ls hl => ?_)
  refine lv_iconst (v := (0 : Int32)) hx hb dX4_depthOf_2 (by decide) ?_
  refine lv_istore (lv' := [(4, .int (0 : Int32)), (3, .int a1), (0, .ref (sx_ad C 2 s0)), (1, .int a1), (2, .int a2)]) hx hb dX4_depthOf_3 hl (by decide) rfl (fun ls hl => ?_)
  exact hf4_depthOf_L5 s0 a2 hs_s0 5000 a1 (0 : Int32) H locs ls (lv_sub hl [2, 4, 1, 0] rfl) hP hS h
set_option maxRecDepth 100000 in
theorem ct_4_depthOf (l : Launch) (C : sx_C) (hG : sx_G C) (s0 : Nat) (a1 : Int32) (a2 : Int32) (hs_s0 : s0 < 18) (M0 : sx_M) (r : Int32) (h : f4_depthOf s0 a1 a2 M0 = some r) : Met l yX4_depthOf (.code yX4_depthOf cX4_depthOf 5 (some .int) :: sx_T) ({ frames := 1, cells := 0, slots := 0, locals := 23 } : Room) (sx_Pc C M0 [.ref (sx_ad C 2 s0), .int a1, .int a2]) (sx_Q C (some (.int r)) M0) 0 0 (sx_A C) := by
  refine Met.ofW (cc := cX4_depthOf) (maxL := 5) (ret := (some .int)) (by decide) rfl ?_
  intro p e s m args below meth c s₁ B hml hv
  obtain ⟨rfl, hz, hP, hK⟩ := hv
  have hl := lv_entry ([.ref (sx_ad C 2 s0), .int a1, .int a2]) (n := 5) (Nat.le_of_ble_eq_true rfl)
  rw [lg_entry_eq]
  generalize (lg_sl ([.ref (sx_ad C 2 s0), .int a1, .int a2]) ++ List.replicate (5 - (lg_sl ([.ref (sx_ad C 2 s0), .int a1, .int a2])).length) Slot.unset).toArray = ls at hl ⊢
  exact wk_4_depthOf ⟨B.exec, B.bytes, hml, findClass_of_methodNamed B.named, fun w hw => atoms_spec B.pre w (List.mem_cons_of_mem _ hw), hK⟩ B.returns B.notSynchronized hG hz ⟨Nat.zero_le _, Nat.zero_le _⟩ ⟨Nat.le_refl _, Nat.le_refl _⟩ s0 a1 a2 hs_s0 M0 r h hl hP va_S.rf
theorem cl_X3_75 (X : sx_X C p m c cc nL s args RX3) (hG : sx_G C) (hP : sx_W C M0 H) (hz : sx_sz C ≤ H0.size) (hS : va_S (sx_A C) H0 H locs) {s0 : Nat} {a1 : Int32} {a2 : Int32} (hs_s0 : s0 < 18) {r : Int32} (h : f4_depthOf s0 a1 a2 M0 = some r) (hsz : ls.size = nL) (hdg : decode cc pc = .ok (.invokevirtual 75, 3)) (hcs : cells ≤ R.cells ∧ slots ≤ R.slots) (hR : 1 + 1 ≤ R.frames ∧ 8 + (5 + 11) + 23 ≤ R.locals) (hrest : (rest.map fun v => v.category).sum ≤ 8) (kk : ∀ (H1 : Heap) (locs1 : List Loc), sx_W C M0 H1 → va_S (sx_A C) H0 H1 locs1 → W p l e R s m args below meth c H1 locs1 cells slots Q (F0 m (pc + 3) ls ((.int r) :: rest))) : W p l e R s m args below meth c H locs cells slots Q (F0 m pc ls (.int a2 :: .int a1 :: .ref (sx_ad C 2 s0) :: rest)) :=
  sx_callV (n := 2) (As := [.int a1, .int a2]) (k0 := 2) (s0 := s0) X hP hz hS hs_s0 rfl rfl (sx_goodV tw_717 tw_718 tw_719 tw_66 tw_720) (by decide +kernel) rfl rfl hR (ct_4_depthOf l C hG s0 a1 a2 hs_s0 M0 r h) rfl rfl hrest hsz hdg hcs kk
theorem cl_X4_37 (X : sx_X C p m c cc nL s args RX4) (hG : sx_G C) (hP : sx_W C M0 H) (hz : sx_sz C ≤ H0.size) (hS : va_S (sx_A C) H0 H locs) {s0 : Nat} {a1 : Int32} {a2 : Int32} (hs_s0 : s0 < 18) {r : Int32} (h : f4_depthOf s0 a1 a2 M0 = some r) (hsz : ls.size = nL) (hdg : decode cc pc = .ok (.invokevirtual 37, 3)) (hcs : cells ≤ R.cells ∧ slots ≤ R.slots) (hR : 1 + 1 ≤ R.frames ∧ 8 + (5 + 11) + 23 ≤ R.locals) (hrest : (rest.map fun v => v.category).sum ≤ 8) (kk : ∀ (H1 : Heap) (locs1 : List Loc), sx_W C M0 H1 → va_S (sx_A C) H0 H1 locs1 → W p l e R s m args below meth c H1 locs1 cells slots Q (F0 m (pc + 3) ls ((.int r) :: rest))) : W p l e R s m args below meth c H locs cells slots Q (F0 m pc ls (.int a2 :: .int a1 :: .ref (sx_ad C 2 s0) :: rest)) :=
  sx_callV (n := 2) (As := [.int a1, .int a2]) (k0 := 2) (s0 := s0) X hP hz hS hs_s0 rfl rfl (sx_goodV tw_896 tw_718 tw_719 tw_66 tw_720) (by decide +kernel) rfl rfl hR (ct_4_depthOf l C hG s0 a1 a2 hs_s0 M0 r h) rfl rfl hrest hsz hdg hcs kk
-- StringShed$Strings.clear()V
def f4_clear (s0 : Nat) (M0 : sx_M) : Option (sx_M) :=
  sx_bd (sx_set M0 2 s0 3 (0 : Int32)) fun M1 =>
  some M1
set_option maxRecDepth 100000 in
set_option maxHeartbeats 4000000 in
theorem wk_4_clear (X : sx_X C p m c cX4_clear 1 s args RX4) (hr : meth.sig.returnType = none) (hlocks : meth.locks = false) (hG : sx_G C) (hz : sx_sz C ≤ s.heap.size) (hcs : 0 ≤ R.cells ∧ 0 ≤ R.slots) (hR : 0 ≤ R.frames ∧ 0 ≤ R.locals) (s0 : Nat) (hs_s0 : s0 < 18) (M0 : sx_M) (M' : sx_M) (h : f4_clear s0 M0 = some M') (hl : lv_has ls 1 [(0, .ref (sx_ad C 2 s0))]) (hP : sx_W C M0 H) (hS : va_S (sx_A C) s.heap H locs) : W p l e R s m args below meth c H locs 0 0 (sx_Z C none M' below args s) (F0 m 0 ls []) := by
  obtain ⟨hx, hb, hml, hown, hts, hK⟩ := id X
  rw [f4_clear] at h
  refine lv_aload_n hx hb dX4_clear_0 rfl (lv_at hl 0 rfl) ?_
  refine lv_iconst (v := (0 : Int32)) hx hb dX4_clear_1 (by decide) ?_
  refine pf_X4_22 X hG hP hS hs_s0 dX4_clear_2 h (fun M1 H locs h hP hS => ?_)
  exact sx_vret X hr hlocks hS hP h dX4_clear_5
set_option maxRecDepth 100000 in
theorem ct_4_clear (l : Launch) (C : sx_C) (hG : sx_G C) (s0 : Nat) (hs_s0 : s0 < 18) (M0 : sx_M) (M' : sx_M) (h : f4_clear s0 M0 = some M') : Met l yX4_clear (.code yX4_clear cX4_clear 1 none :: sx_T) ({ frames := 0, cells := 0, slots := 0, locals := 0 } : Room) (sx_Pc C M0 [.ref (sx_ad C 2 s0)]) (sx_Q C none M') 0 0 (sx_A C) := by
  refine Met.ofW (cc := cX4_clear) (maxL := 1) (ret := none) (by decide) rfl ?_
  intro p e s m args below meth c s₁ B hml hv
  obtain ⟨rfl, hz, hP, hK⟩ := hv
  have hl := lv_entry ([.ref (sx_ad C 2 s0)]) (n := 1) (Nat.le_of_ble_eq_true rfl)
  rw [lg_entry_eq]
  generalize (lg_sl ([.ref (sx_ad C 2 s0)]) ++ List.replicate (1 - (lg_sl ([.ref (sx_ad C 2 s0)])).length) Slot.unset).toArray = ls at hl ⊢
  exact wk_4_clear ⟨B.exec, B.bytes, hml, findClass_of_methodNamed B.named, fun w hw => atoms_spec B.pre w (List.mem_cons_of_mem _ hw), hK⟩ B.returns B.notSynchronized hG hz ⟨Nat.zero_le _, Nat.zero_le _⟩ ⟨Nat.le_refl _, Nat.le_refl _⟩ s0 hs_s0 M0 M' h hl hP va_S.rf
theorem cl_X3_52 (X : sx_X C p m c cc nL s args RX3) (hG : sx_G C) (hP : sx_W C M0 H) (hz : sx_sz C ≤ H0.size) (hS : va_S (sx_A C) H0 H locs) {s0 : Nat} (hs_s0 : s0 < 18) {M' : sx_M} (h : f4_clear s0 M0 = some M') (hsz : ls.size = nL) (hdg : decode cc pc = .ok (.invokevirtual 52, 3)) (hcs : cells ≤ R.cells ∧ slots ≤ R.slots) (hR : 0 + 1 ≤ R.frames ∧ 8 + (1 + 11) + 0 ≤ R.locals) (hrest : (rest.map fun v => v.category).sum ≤ 8) (kk : ∀ (H1 : Heap) (locs1 : List Loc), sx_W C M' H1 → va_S (sx_A C) H0 H1 locs1 → W p l e R s m args below meth c H1 locs1 cells slots Q (F0 m (pc + 3) ls (rest))) : W p l e R s m args below meth c H locs cells slots Q (F0 m pc ls (.ref (sx_ad C 2 s0) :: rest)) :=
  sx_callV (n := 0) (As := []) (k0 := 2) (s0 := s0) X hP hz hS hs_s0 rfl rfl (sx_goodV tw_536 tw_537 tw_538 tw_66 tw_539) (by decide +kernel) rfl rfl hR (ct_4_clear l C hG s0 hs_s0 M0 M' h) rfl rfl hrest hsz hdg hcs kk
-- StringShed$Strings.isOnRing(I)Z pure
def f4_isOnRing (s0 : Nat) (a1 : Int32) (M0 : sx_M) : Option (Int32) :=
  (f7_bitOf a1 M0).bind fun v1 =>
  (f4_nextBelow s0 v1 M0).bind fun v2 =>
  (f4_reach s0 v2 (-1 : Int32) M0).bind fun v3 =>
  (f7_bitOf a1 M0).bind fun v4 =>
  sx_bd (fun (v5 : Int32) =>
    if v5 = 0 ∨ v5 = 1 then some v5 else none) fun j28 =>
  if (v3 &&& v4) = 0 then
    j28 (0 : Int32)
  else
    j28 (1 : Int32)
set_option maxRecDepth 100000 in
set_option maxHeartbeats 4000000 in
theorem wk_4_isOnRing (X : sx_X C p m c cX4_isOnRing 3 s args RX4) (hr : meth.sig.returnType = (some .boolean)) (hlocks : meth.locks = false) (hG : sx_G C) (hz : sx_sz C ≤ s.heap.size) (hcs : 0 ≤ R.cells ∧ 0 ≤ R.slots) (hR : 1 ≤ R.frames ∧ 26 ≤ R.locals) (s0 : Nat) (a1 : Int32) (hs_s0 : s0 < 18) (M0 : sx_M) (r : Int32) (h : f4_isOnRing s0 a1 M0 = some r) (hl : lv_has ls 3 [(0, .ref (sx_ad C 2 s0)), (1, .int a1)]) (hP : sx_W C M0 H) (hS : va_S (sx_A C) s.heap H locs) : W p l e R s m args below meth c H locs 0 0 (sx_Z C (some (.int r)) M0 below args s) (F0 m 0 ls []) := by
  obtain ⟨hx, hb, hml, hown, hts, hK⟩ := id X
  rw [f4_isOnRing] at h
  refine lv_aload_n hx hb dX4_isOnRing_0 rfl (lv_at hl 0 rfl) ?_
  refine lv_iload_n hx hb dX4_isOnRing_1 rfl (lv_at hl 1 rfl) ?_
  obtain ⟨v1, e_v1, h⟩ := sx_bnd h
  refine cl_X4_30 X hG hP hz hS  e_v1 hl.1 dX4_isOnRing_2 hcs ⟨Nat.le_trans (by decide) hR.1, Nat.le_trans (by decide) hR.2⟩ (Nat.le_of_ble_eq_true rfl) (fun H locs hP hS => ?_)
  obtain ⟨v2, e_v2, h⟩ := sx_bnd h
  refine cl_X4_34 X hG hP hz hS hs_s0 e_v2 hl.1 dX4_isOnRing_5 hcs ⟨Nat.le_trans (by decide) hR.1, Nat.le_trans (by decide) hR.2⟩ (Nat.le_of_ble_eq_true rfl) (fun H locs hP hS => ?_)
  refine lv_istore_n (lv' := [(2, .int v2), (0, .ref (sx_ad C 2 s0)), (1, .int a1)]) hx hb dX4_isOnRing_8 rfl hl (by decide) rfl (fun ls hl => ?_)
  refine lv_aload_n hx hb dX4_isOnRing_9 rfl (lv_at hl 1 rfl) ?_
  refine lv_iload_n hx hb dX4_isOnRing_10 rfl (lv_at hl 0 rfl) ?_
  refine lv_iconst (v := (-1 : Int32)) hx hb dX4_isOnRing_11 (by decide) ?_
  obtain ⟨v3, e_v3, h⟩ := sx_bnd h
  refine cl_X4_45 X hG hP hz hS hs_s0 e_v3 hl.1 dX4_isOnRing_12 hcs ⟨Nat.le_trans (by decide) hR.1, Nat.le_trans (by decide) hR.2⟩ (Nat.le_of_ble_eq_true rfl) (fun H locs hP hS => ?_)
  refine lv_iload_n hx hb dX4_isOnRing_15 rfl (lv_at hl 2 rfl) ?_
  obtain ⟨v4, e_v4, h⟩ := sx_bnd h
  refine cl_X4_30 X hG hP hz hS  e_v4 hl.1 dX4_isOnRing_16 hcs ⟨Nat.le_trans (by decide) hR.1, Nat.le_trans (by decide) hR.2⟩ (Nat.le_of_ble_eq_true rfl) (fun H locs hP hS => ?_)
  refine lv_iand hx hb dX4_isOnRing_19 ?_
  obtain ⟨j28, e_j28, h⟩ := sx_nm h
  have hj28 : ∀ (v5 : Int32) (H : Heap) (locs : List Loc) (ls : Array Slot), lv_has ls 3 [] → sx_W C M0 H → va_S (sx_A C) s.heap H locs → j28 v5 = some r → W p l e R s m args below meth c H locs 0 0 (sx_Z C (some (.int r)) M0 below args s) (F0 m 28 ls [.int v5]) := by
    intro v5 H locs ls hl hP hS h
    subst e_j28
    obtain ⟨hz01, h⟩ := sx_ck h
    exact sx_zret X hr hlocks hS hP hz01 h dX4_isOnRing_28
  clear e_j28
  refine lv_if_eq (tgt := 27) hx hb dX4_isOnRing_20 (by decide) (fun c6 => ?_) (fun c6 => ?_)
  · replace h := sx_ifp h c6
    refine lv_iconst (v := (0 : Int32)) hx hb dX4_isOnRing_27 (by decide) ?_
    exact hj28 (0 : Int32) H locs ls (lv_sub hl [] rfl) hP hS h
  · replace h := sx_ifn h c6
    refine lv_iconst (v := (1 : Int32)) hx hb dX4_isOnRing_23 (by decide) ?_
    refine lv_goto (tgt := 28) hx hb dX4_isOnRing_24 (by decide) ?_
    exact hj28 (1 : Int32) H locs ls (lv_sub hl [] rfl) hP hS h
set_option maxRecDepth 100000 in
theorem ct_4_isOnRing (l : Launch) (C : sx_C) (hG : sx_G C) (s0 : Nat) (a1 : Int32) (hs_s0 : s0 < 18) (M0 : sx_M) (r : Int32) (h : f4_isOnRing s0 a1 M0 = some r) : Met l yX4_isOnRing (.code yX4_isOnRing cX4_isOnRing 3 (some .boolean) :: sx_T) ({ frames := 1, cells := 0, slots := 0, locals := 26 } : Room) (sx_Pc C M0 [.ref (sx_ad C 2 s0), .int a1]) (sx_Q C (some (.int r)) M0) 0 0 (sx_A C) := by
  refine Met.ofW (cc := cX4_isOnRing) (maxL := 3) (ret := (some .boolean)) (by decide) rfl ?_
  intro p e s m args below meth c s₁ B hml hv
  obtain ⟨rfl, hz, hP, hK⟩ := hv
  have hl := lv_entry ([.ref (sx_ad C 2 s0), .int a1]) (n := 3) (Nat.le_of_ble_eq_true rfl)
  rw [lg_entry_eq]
  generalize (lg_sl ([.ref (sx_ad C 2 s0), .int a1]) ++ List.replicate (3 - (lg_sl ([.ref (sx_ad C 2 s0), .int a1])).length) Slot.unset).toArray = ls at hl ⊢
  exact wk_4_isOnRing ⟨B.exec, B.bytes, hml, findClass_of_methodNamed B.named, fun w hw => atoms_spec B.pre w (List.mem_cons_of_mem _ hw), hK⟩ B.returns B.notSynchronized hG hz ⟨Nat.zero_le _, Nat.zero_le _⟩ ⟨Nat.le_refl _, Nat.le_refl _⟩ s0 a1 hs_s0 M0 r h hl hP va_S.rf
theorem cl_X3_84 (X : sx_X C p m c cc nL s args RX3) (hG : sx_G C) (hP : sx_W C M0 H) (hz : sx_sz C ≤ H0.size) (hS : va_S (sx_A C) H0 H locs) {s0 : Nat} {a1 : Int32} (hs_s0 : s0 < 18) {r : Int32} (h : f4_isOnRing s0 a1 M0 = some r) (hsz : ls.size = nL) (hdg : decode cc pc = .ok (.invokevirtual 84, 3)) (hcs : cells ≤ R.cells ∧ slots ≤ R.slots) (hR : 1 + 1 ≤ R.frames ∧ 8 + (3 + 11) + 26 ≤ R.locals) (hrest : (rest.map fun v => v.category).sum ≤ 8) (kk : ∀ (H1 : Heap) (locs1 : List Loc), sx_W C M0 H1 → va_S (sx_A C) H0 H1 locs1 → W p l e R s m args below meth c H1 locs1 cells slots Q (F0 m (pc + 3) ls ((.int r) :: rest))) : W p l e R s m args below meth c H locs cells slots Q (F0 m pc ls (.int a1 :: .ref (sx_ad C 2 s0) :: rest)) :=
  sx_callV (n := 1) (As := [.int a1]) (k0 := 2) (s0 := s0) X hP hz hS hs_s0 rfl rfl (sx_goodV tw_308 tw_309 tw_310 tw_66 tw_311) (by decide +kernel) rfl rfl hR (ct_4_isOnRing l C hG s0 a1 hs_s0 M0 r h) rfl rfl hrest hsz hdg hcs kk
-- StringShed$Strings.frayed()I pure
def f4_frayed_L4 (s0 : Nat) (M0 : sx_M) (k41 : (Int32 → Option (Int32))) : Nat → Int32 → Int32 → Option (Int32)
  | 0, _, _ => none
  | n + 1, x1, x2 =>
    sx_bd (M0.1 2 s0 3) fun v1 =>
    if v1 ≤ x2 then
      k41 x1
    else
      if (40 : Int32) ≤ x2 then
        k41 x1
      else
        if sx_in x2 40 then
        sx_bd (M0.1 5 s0 (x2).toNatClampNeg) fun v4 =>
        sx_bd (fun (v5 : Int32) =>
          sx_bd (x1 + v5) fun v6 =>
          sx_bd (x2 + (1 : Int32)) fun v7 =>
          f4_frayed_L4 s0 M0 k41 n v6 v7) fun j33 =>
        if v4 = 0 then
          j33 (1 : Int32)
        else
          j33 (0 : Int32)
        else none
def f4_frayed (s0 : Nat) (M0 : sx_M) : Option (Int32) :=
  f4_frayed_L4 s0 M0
    (fun (v9 : Int32) =>
      some v9)
    5000 (0 : Int32) (0 : Int32)
set_option maxRecDepth 100000 in
set_option maxHeartbeats 4000000 in
theorem wk_4_frayed (X : sx_X C p m c cX4_frayed 3 s args RX4) (hr : meth.sig.returnType = (some .int)) (hlocks : meth.locks = false) (hG : sx_G C) (hz : sx_sz C ≤ s.heap.size) (hcs : 0 ≤ R.cells ∧ 0 ≤ R.slots) (hR : 0 ≤ R.frames ∧ 0 ≤ R.locals) (s0 : Nat) (hs_s0 : s0 < 18) (M0 : sx_M) (r : Int32) (h : f4_frayed s0 M0 = some r) (hl : lv_has ls 3 [(0, .ref (sx_ad C 2 s0))]) (hP : sx_W C M0 H) (hS : va_S (sx_A C) s.heap H locs) : W p l e R s m args below meth c H locs 0 0 (sx_Z C (some (.int r)) M0 below args s) (F0 m 0 ls []) := by
  obtain ⟨hx, hb, hml, hown, hts, hK⟩ := id X
  rw [f4_frayed] at h
  have hf4_frayed_L4 : ∀ (s0 : Nat) (hs_s0 : s0 < 18) (k41 : (Int32 → Option (Int32))) (n : Nat) (hk41 : (∀ (y1 : Int32) (H : Heap) (locs : List Loc) (ls : Array Slot), lv_has ls 3 [(1, .int y1)] → sx_W C M0 H → va_S (sx_A C) s.heap H locs → k41 y1 = some r → W p l e R s m args below meth c H locs 0 0 (sx_Z C (some (.int r)) M0 below args s) (F0 m 41 ls []))) (x1 : Int32) (x2 : Int32) (H : Heap) (locs : List Loc) (ls : Array Slot), lv_has ls 3 [(0, .ref (sx_ad C 2 s0)), (1, .int x1), (2, .int x2)] → sx_W C M0 H → va_S (sx_A C) s.heap H locs → f4_frayed_L4 s0 M0 k41 n x1 x2 = some r → W p l e R s m args below meth c H locs 0 0 (sx_Z C (some (.int r)) M0 below args s) (F0 m 4 ls []) := by
    intro s0 hs_s0 k41 n hk41
    induction n with
    | zero => intro x1 x2 H locs ls hl hP hS h; exact absurd (show (none : Option (Int32)) = some r from h) (fun q => nomatch q)
    | succ n ih =>
      intro x1 x2 H locs ls hl hP hS h
      rw [f4_frayed_L4] at h
      refine lv_iload_n hx hb dX4_frayed_4 rfl (lv_at hl 2 rfl) ?_
      refine lv_aload_n hx hb dX4_frayed_5 rfl (lv_at hl 0 rfl) ?_
      refine gf_X4_22 X hP hs_s0 dX4_frayed_6 h (fun v1 h => ?_)
      refine lv_icmp_ge (tgt := 41) hx hb dX4_frayed_9 (by decide) (fun c2 => ?_) (fun c2 => ?_)
      · replace h := sx_ifp h c2
        exact hk41 x1 H locs ls (lv_sub hl [1] rfl) hP hS h
      · replace h := sx_ifn h c2
        refine lv_iload_n hx hb dX4_frayed_12 rfl (lv_at hl 2 rfl) ?_
        refine lv_bipush (v := (40 : Int32)) hx hb dX4_frayed_13 (by decide) ?_
        refine lv_icmp_ge (tgt := 41) hx hb dX4_frayed_15 (by decide) (fun c3 => ?_) (fun c3 => ?_)
        · replace h := sx_ifp h c3
          exact hk41 x1 H locs ls (lv_sub hl [1] rfl) hP hS h
        · replace h := sx_ifn h c3
          refine lv_iload_n hx hb dX4_frayed_18 rfl (lv_at hl 1 rfl) ?_
          refine lv_aload_n hx hb dX4_frayed_19 rfl (lv_at hl 0 rfl) ?_
          refine gf_X4_18 X hP hs_s0 dX4_frayed_20 ?_
          refine lv_iload_n hx hb dX4_frayed_23 rfl (lv_at hl 2 rfl) ?_
          refine sx_zald X hP 5 s0 40 hs_s0 (fun _ _ => rfl) dX4_frayed_24 h (fun v4 h => ?_)
          obtain ⟨j33, e_j33, h⟩ := sx_nm h
          have hj33 : ∀ (v5 : Int32) (H : Heap) (locs : List Loc) (ls : Array Slot), lv_has ls 3 [(0, .ref (sx_ad C 2 s0)), (2, .int x2)] → sx_W C M0 H → va_S (sx_A C) s.heap H locs → j33 v5 = some r → W p l e R s m args below meth c H locs 0 0 (sx_Z C (some (.int r)) M0 below args s) (F0 m 33 ls [.int v5, .int x1]) := by
            intro v5 H locs ls hl hP hS h
            subst e_j33
            refine lv_iadd hx hb dX4_frayed_33 ?_
            obtain ⟨v6, e_v6, h⟩ := sx_nm h
            rw [e_v6]
            refine lv_istore_n (lv' := [(1, .int v6), (0, .ref (sx_ad C 2 s0)), (2, .int x2)]) hx hb dX4_frayed_34 rfl hl (by decide) rfl (fun ls hl => ?_)
            obtain ⟨v7, e_v7, h⟩ := sx_nm h
            refine lv_iinc (v := v7) (lv' := [(2, .int v7), (1, .int v6), (0, .ref (sx_ad C 2 s0))]) hx hb dX4_frayed_35 hl (k := 2) rfl (by rw [← e_v7]; rfl) (by decide) rfl (fun ls hl => ?_)
            refine lv_goto (tgt := 4) hx hb dX4_frayed_38 (by decide) ?_
            exact ih v6 v7 H locs ls (lv_sub hl [2, 1, 0] rfl) hP hS h
          clear e_j33
          refine lv_if_eq (tgt := 32) hx hb dX4_frayed_25 (by decide) (fun c8 => ?_) (fun c8 => ?_)
          · replace h := sx_ifp h c8
            refine lv_iconst (v := (1 : Int32)) hx hb dX4_frayed_32 (by decide) ?_
            exact hj33 (1 : Int32) H locs ls (lv_sub hl [0, 2] rfl) hP hS h
          · replace h := sx_ifn h c8
            refine lv_iconst (v := (0 : Int32)) hx hb dX4_frayed_28 (by decide) ?_
            refine lv_goto (tgt := 33) hx hb dX4_frayed_29 (by decide) ?_
            exact hj33 (0 : Int32) H locs ls (lv_sub hl [0, 2] rfl) hP hS h
  refine lv_iconst (v := (0 : Int32)) hx hb dX4_frayed_0 (by decide) ?_
  refine lv_istore_n (lv' := [(1, .int (0 : Int32)), (0, .ref (sx_ad C 2 s0))]) hx hb dX4_frayed_1 rfl hl (by decide) rfl (fun ls hl => ?_)
  refine lv_iconst (v := (0 : Int32)) hx hb dX4_frayed_2 (by decide) ?_
  refine lv_istore_n (lv' := [(2, .int (0 : Int32)), (1, .int (0 : Int32)), (0, .ref (sx_ad C 2 s0))]) hx hb dX4_frayed_3 rfl hl (by decide) rfl (fun ls hl => ?_)
  refine hf4_frayed_L4 s0 hs_s0 _ 5000 ?_ (0 : Int32) (0 : Int32) H locs ls (lv_sub hl [2, 1, 0] rfl) hP hS h
  · intro v9 H locs ls hl hP hS h
    refine lv_iload_n hx hb dX4_frayed_41 rfl (lv_at hl 0 rfl) ?_
    exact sx_iret X hr hlocks hS hP h dX4_frayed_42
set_option maxRecDepth 100000 in
theorem ct_4_frayed (l : Launch) (C : sx_C) (hG : sx_G C) (s0 : Nat) (hs_s0 : s0 < 18) (M0 : sx_M) (r : Int32) (h : f4_frayed s0 M0 = some r) : Met l yX4_frayed (.code yX4_frayed cX4_frayed 3 (some .int) :: sx_T) ({ frames := 0, cells := 0, slots := 0, locals := 0 } : Room) (sx_Pc C M0 [.ref (sx_ad C 2 s0)]) (sx_Q C (some (.int r)) M0) 0 0 (sx_A C) := by
  refine Met.ofW (cc := cX4_frayed) (maxL := 3) (ret := (some .int)) (by decide) rfl ?_
  intro p e s m args below meth c s₁ B hml hv
  obtain ⟨rfl, hz, hP, hK⟩ := hv
  have hl := lv_entry ([.ref (sx_ad C 2 s0)]) (n := 3) (Nat.le_of_ble_eq_true rfl)
  rw [lg_entry_eq]
  generalize (lg_sl ([.ref (sx_ad C 2 s0)]) ++ List.replicate (3 - (lg_sl ([.ref (sx_ad C 2 s0)])).length) Slot.unset).toArray = ls at hl ⊢
  exact wk_4_frayed ⟨B.exec, B.bytes, hml, findClass_of_methodNamed B.named, fun w hw => atoms_spec B.pre w (List.mem_cons_of_mem _ hw), hK⟩ B.returns B.notSynchronized hG hz ⟨Nat.zero_le _, Nat.zero_le _⟩ ⟨Nat.le_refl _, Nat.le_refl _⟩ s0 hs_s0 M0 r h hl hP va_S.rf
theorem cl_X3_94 (X : sx_X C p m c cc nL s args RX3) (hG : sx_G C) (hP : sx_W C M0 H) (hz : sx_sz C ≤ H0.size) (hS : va_S (sx_A C) H0 H locs) {s0 : Nat} (hs_s0 : s0 < 18) {r : Int32} (h : f4_frayed s0 M0 = some r) (hsz : ls.size = nL) (hdg : decode cc pc = .ok (.invokevirtual 94, 3)) (hcs : cells ≤ R.cells ∧ slots ≤ R.slots) (hR : 0 + 1 ≤ R.frames ∧ 8 + (3 + 11) + 0 ≤ R.locals) (hrest : (rest.map fun v => v.category).sum ≤ 8) (kk : ∀ (H1 : Heap) (locs1 : List Loc), sx_W C M0 H1 → va_S (sx_A C) H0 H1 locs1 → W p l e R s m args below meth c H1 locs1 cells slots Q (F0 m (pc + 3) ls ((.int r) :: rest))) : W p l e R s m args below meth c H locs cells slots Q (F0 m pc ls (.ref (sx_ad C 2 s0) :: rest)) :=
  sx_callV (n := 0) (As := []) (k0 := 2) (s0 := s0) X hP hz hS hs_s0 rfl rfl (sx_goodV tw_669 tw_670 tw_671 tw_66 tw_672) (by decide +kernel) rfl rfl hR (ct_4_frayed l C hG s0 hs_s0 M0 r h) rfl rfl hrest hsz hdg hcs kk
-- StringShed$Strings.greatestDepth(I)I pure
def f4_greatestDepth_L4 (s0 : Nat) (M0 : sx_M) : Nat → Int32 → Int32 → Option (Int32)
  | 0, _, _ => none
  | n + 1, x2, x3 =>
    if (24 : Int32) ≤ x3 then
      some (24 : Int32)
    else
      (f4_nextBelow s0 x2 M0).bind fun v2 =>
      sx_bd (x2 ||| v2) fun v3 =>
      if v3 = x2 then
        some x3
      else
        sx_bd (x3 + (1 : Int32)) fun v5 =>
        f4_greatestDepth_L4 s0 M0 n v3 v5
def f4_greatestDepth (s0 : Nat) (a1 : Int32) (M0 : sx_M) : Option (Int32) :=
  f4_greatestDepth_L4 s0 M0
    5000 a1 (0 : Int32)
set_option maxRecDepth 100000 in
set_option maxHeartbeats 4000000 in
theorem wk_4_greatestDepth (X : sx_X C p m c cX4_greatestDepth 5 s args RX4) (hr : meth.sig.returnType = (some .int)) (hlocks : meth.locks = false) (hG : sx_G C) (hz : sx_sz C ≤ s.heap.size) (hcs : 0 ≤ R.cells ∧ 0 ≤ R.slots) (hR : 1 ≤ R.frames ∧ 23 ≤ R.locals) (s0 : Nat) (a1 : Int32) (hs_s0 : s0 < 18) (M0 : sx_M) (r : Int32) (h : f4_greatestDepth s0 a1 M0 = some r) (hl : lv_has ls 5 [(0, .ref (sx_ad C 2 s0)), (1, .int a1)]) (hP : sx_W C M0 H) (hS : va_S (sx_A C) s.heap H locs) : W p l e R s m args below meth c H locs 0 0 (sx_Z C (some (.int r)) M0 below args s) (F0 m 0 ls []) := by
  obtain ⟨hx, hb, hml, hown, hts, hK⟩ := id X
  rw [f4_greatestDepth] at h
  have hf4_greatestDepth_L4 : ∀ (s0 : Nat) (hs_s0 : s0 < 18) (n : Nat) (x2 : Int32) (x3 : Int32) (H : Heap) (locs : List Loc) (ls : Array Slot), lv_has ls 5 [(0, .ref (sx_ad C 2 s0)), (2, .int x2), (3, .int x3)] → sx_W C M0 H → va_S (sx_A C) s.heap H locs → f4_greatestDepth_L4 s0 M0 n x2 x3 = some r → W p l e R s m args below meth c H locs 0 0 (sx_Z C (some (.int r)) M0 below args s) (F0 m 4 ls []) := by
    intro s0 hs_s0 n
    induction n with
    | zero => intro x2 x3 H locs ls hl hP hS h; exact absurd (show (none : Option (Int32)) = some r from h) (fun q => nomatch q)
    | succ n ih =>
      intro x2 x3 H locs ls hl hP hS h
      rw [f4_greatestDepth_L4] at h
      refine lv_iload_n hx hb dX4_greatestDepth_4 rfl (lv_at hl 2 rfl) ?_
      refine lv_bipush (v := (24 : Int32)) hx hb dX4_greatestDepth_5 (by decide) ?_
      refine lv_icmp_ge (tgt := 36) hx hb dX4_greatestDepth_7 (by decide) (fun c1 => ?_) (fun c1 => ?_)
      · replace h := sx_ifp h c1
        refine lv_bipush (v := (24 : Int32)) hx hb dX4_greatestDepth_36 (by decide) ?_
        exact sx_iret X hr hlocks hS hP h dX4_greatestDepth_38
      · replace h := sx_ifn h c1
        refine lv_iload_n hx hb dX4_greatestDepth_10 rfl (lv_at hl 1 rfl) ?_
        refine lv_aload_n hx hb dX4_greatestDepth_11 rfl (lv_at hl 0 rfl) ?_
        refine lv_iload_n hx hb dX4_greatestDepth_12 rfl (lv_at hl 1 rfl) ?_
        obtain ⟨v2, e_v2, h⟩ := sx_bnd h
        refine cl_X4_34 X hG hP hz hS hs_s0 e_v2 hl.1 dX4_greatestDepth_13 hcs ⟨Nat.le_trans (by decide) hR.1, Nat.le_trans (by decide) hR.2⟩ (Nat.le_of_ble_eq_true rfl) (fun H locs hP hS => ?_)
        refine lv_ior hx hb dX4_greatestDepth_16 ?_
        obtain ⟨v3, e_v3, h⟩ := sx_nm h
        rw [e_v3]
        refine lv_istore (lv' := [(4, .int v3), (0, .ref (sx_ad C 2 s0)), (2, .int x2), (3, .int x3)]) hx hb dX4_greatestDepth_17 hl (by decide) rfl (fun ls hl => ?_)
        refine lv_iload hx hb dX4_greatestDepth_19 (lv_at hl 0 rfl) ?_
        refine lv_iload_n hx hb dX4_greatestDepth_21 rfl (lv_at hl 2 rfl) ?_
        refine lv_icmp_ne (tgt := 27) hx hb dX4_greatestDepth_22 (by decide) (fun c4 => ?_) (fun c4 => ?_)
        · replace h := sx_ifn h c4
          refine lv_iload hx hb dX4_greatestDepth_27 (lv_at hl 0 rfl) ?_
          refine lv_istore_n (lv' := [(2, .int v3), (4, .int v3), (0, .ref (sx_ad C 2 s0)), (3, .int x3)]) hx hb dX4_greatestDepth_29 rfl hl (by decide) rfl (fun ls hl => ?_)
          obtain ⟨v5, e_v5, h⟩ := sx_nm h
          refine lv_iinc (v := v5) (lv' := [(3, .int v5), (2, .int v3), (4, .int v3), (0, .ref (sx_ad C 2 s0))]) hx hb dX4_greatestDepth_30 hl (k := 3) rfl (by rw [← e_v5]; rfl) (by decide) rfl (fun ls hl => ?_)
          refine lv_goto (tgt := 4) hx hb dX4_greatestDepth_33 (by decide) ?_
          exact ih v3 v5 H locs ls (lv_sub hl [3, 1, 0] rfl) hP hS h
        · replace h := sx_ifp h c4
          refine lv_iload_n hx hb dX4_greatestDepth_25 rfl (lv_at hl 3 rfl) ?_
          exact sx_iret X hr hlocks hS hP h dX4_greatestDepth_26
  refine lv_iload_n hx hb dX4_greatestDepth_0 rfl (lv_at hl 1 rfl) ?_
  refine lv_istore_n (lv' := [(2, .int a1), (0, .ref (sx_ad C 2 s0)), (1, .int a1)]) hx hb dX4_greatestDepth_1 rfl hl (by decide) rfl (fun ls hl => ?_)
  refine lv_iconst (v := (0 : Int32)) hx hb dX4_greatestDepth_2 (by decide) ?_
  refine lv_istore_n (lv' := [(3, .int (0 : Int32)), (2, .int a1), (0, .ref (sx_ad C 2 s0)), (1, .int a1)]) hx hb dX4_greatestDepth_3 rfl hl (by decide) rfl (fun ls hl => ?_)
  exact hf4_greatestDepth_L4 s0 hs_s0 5000 a1 (0 : Int32) H locs ls (lv_sub hl [2, 1, 0] rfl) hP hS h
set_option maxRecDepth 100000 in
theorem ct_4_greatestDepth (l : Launch) (C : sx_C) (hG : sx_G C) (s0 : Nat) (a1 : Int32) (hs_s0 : s0 < 18) (M0 : sx_M) (r : Int32) (h : f4_greatestDepth s0 a1 M0 = some r) : Met l yX4_greatestDepth (.code yX4_greatestDepth cX4_greatestDepth 5 (some .int) :: sx_T) ({ frames := 1, cells := 0, slots := 0, locals := 23 } : Room) (sx_Pc C M0 [.ref (sx_ad C 2 s0), .int a1]) (sx_Q C (some (.int r)) M0) 0 0 (sx_A C) := by
  refine Met.ofW (cc := cX4_greatestDepth) (maxL := 5) (ret := (some .int)) (by decide) rfl ?_
  intro p e s m args below meth c s₁ B hml hv
  obtain ⟨rfl, hz, hP, hK⟩ := hv
  have hl := lv_entry ([.ref (sx_ad C 2 s0), .int a1]) (n := 5) (Nat.le_of_ble_eq_true rfl)
  rw [lg_entry_eq]
  generalize (lg_sl ([.ref (sx_ad C 2 s0), .int a1]) ++ List.replicate (5 - (lg_sl ([.ref (sx_ad C 2 s0), .int a1])).length) Slot.unset).toArray = ls at hl ⊢
  exact wk_4_greatestDepth ⟨B.exec, B.bytes, hml, findClass_of_methodNamed B.named, fun w hw => atoms_spec B.pre w (List.mem_cons_of_mem _ hw), hK⟩ B.returns B.notSynchronized hG hz ⟨Nat.zero_le _, Nat.zero_le _⟩ ⟨Nat.le_refl _, Nat.le_refl _⟩ s0 a1 hs_s0 M0 r h hl hP va_S.rf
theorem cl_X3_101 (X : sx_X C p m c cc nL s args RX3) (hG : sx_G C) (hP : sx_W C M0 H) (hz : sx_sz C ≤ H0.size) (hS : va_S (sx_A C) H0 H locs) {s0 : Nat} {a1 : Int32} (hs_s0 : s0 < 18) {r : Int32} (h : f4_greatestDepth s0 a1 M0 = some r) (hsz : ls.size = nL) (hdg : decode cc pc = .ok (.invokevirtual 101, 3)) (hcs : cells ≤ R.cells ∧ slots ≤ R.slots) (hR : 1 + 1 ≤ R.frames ∧ 8 + (5 + 11) + 23 ≤ R.locals) (hrest : (rest.map fun v => v.category).sum ≤ 8) (kk : ∀ (H1 : Heap) (locs1 : List Loc), sx_W C M0 H1 → va_S (sx_A C) H0 H1 locs1 → W p l e R s m args below meth c H1 locs1 cells slots Q (F0 m (pc + 3) ls ((.int r) :: rest))) : W p l e R s m args below meth c H locs cells slots Q (F0 m pc ls (.int a1 :: .ref (sx_ad C 2 s0) :: rest)) :=
  sx_callV (n := 1) (As := [.int a1]) (k0 := 2) (s0 := s0) X hP hz hS hs_s0 rfl rfl (sx_goodV tw_673 tw_674 tw_675 tw_66 tw_676) (by decide +kernel) rfl rfl hR (ct_4_greatestDepth l C hG s0 a1 hs_s0 M0 r h) rfl rfl hrest hsz hdg hcs kk
-- StringShed$Strings.soundTo(I)I pure
def f4_soundTo_L4 (s0 : Nat) (w1 : Int32) (M0 : sx_M) (k51 : (Int32 → Option (Int32))) : Nat → Int32 → Int32 → Option (Int32)
  | 0, _, _ => none
  | n + 1, x2, x3 =>
    sx_bd (M0.1 2 s0 3) fun v1 =>
    if v1 ≤ x3 then
      k51 x2
    else
      if (40 : Int32) ≤ x3 then
        k51 x2
      else
        if sx_in x3 40 then
        sx_bd (M0.1 5 s0 (x3).toNatClampNeg) fun v4 =>
        sx_bd (fun (v5 : Int32) =>
          sx_bd (x2 + v5) fun v6 =>
          sx_bd (x3 + (1 : Int32)) fun v7 =>
          f4_soundTo_L4 s0 w1 M0 k51 n v6 v7) fun j43 =>
        sx_bd (fun (_ : Unit) =>
          j43 (0 : Int32)) fun j42 =>
        if v4 = 0 then
          j42 ()
        else
          if sx_in x3 40 then
          sx_bd (M0.1 4 s0 (x3).toNatClampNeg) fun v9 =>
          if v9 = w1 then
            j43 (1 : Int32)
          else
            j42 ()
          else none
        else none
def f4_soundTo (s0 : Nat) (a1 : Int32) (M0 : sx_M) : Option (Int32) :=
  f4_soundTo_L4 s0 a1 M0
    (fun (v11 : Int32) =>
      some v11)
    5000 (0 : Int32) (0 : Int32)
set_option maxRecDepth 100000 in
set_option maxHeartbeats 4000000 in
theorem wk_4_soundTo (X : sx_X C p m c cX4_soundTo 4 s args RX4) (hr : meth.sig.returnType = (some .int)) (hlocks : meth.locks = false) (hG : sx_G C) (hz : sx_sz C ≤ s.heap.size) (hcs : 0 ≤ R.cells ∧ 0 ≤ R.slots) (hR : 0 ≤ R.frames ∧ 0 ≤ R.locals) (s0 : Nat) (a1 : Int32) (hs_s0 : s0 < 18) (M0 : sx_M) (r : Int32) (h : f4_soundTo s0 a1 M0 = some r) (hl : lv_has ls 4 [(0, .ref (sx_ad C 2 s0)), (1, .int a1)]) (hP : sx_W C M0 H) (hS : va_S (sx_A C) s.heap H locs) : W p l e R s m args below meth c H locs 0 0 (sx_Z C (some (.int r)) M0 below args s) (F0 m 0 ls []) := by
  obtain ⟨hx, hb, hml, hown, hts, hK⟩ := id X
  rw [f4_soundTo] at h
  have hf4_soundTo_L4 : ∀ (s0 : Nat) (w1 : Int32) (hs_s0 : s0 < 18) (k51 : (Int32 → Option (Int32))) (n : Nat) (hk51 : (∀ (y2 : Int32) (H : Heap) (locs : List Loc) (ls : Array Slot), lv_has ls 4 [(2, .int y2)] → sx_W C M0 H → va_S (sx_A C) s.heap H locs → k51 y2 = some r → W p l e R s m args below meth c H locs 0 0 (sx_Z C (some (.int r)) M0 below args s) (F0 m 51 ls []))) (x2 : Int32) (x3 : Int32) (H : Heap) (locs : List Loc) (ls : Array Slot), lv_has ls 4 [(0, .ref (sx_ad C 2 s0)), (1, .int w1), (2, .int x2), (3, .int x3)] → sx_W C M0 H → va_S (sx_A C) s.heap H locs → f4_soundTo_L4 s0 w1 M0 k51 n x2 x3 = some r → W p l e R s m args below meth c H locs 0 0 (sx_Z C (some (.int r)) M0 below args s) (F0 m 4 ls []) := by
    intro s0 w1 hs_s0 k51 n hk51
    induction n with
    | zero => intro x2 x3 H locs ls hl hP hS h; exact absurd (show (none : Option (Int32)) = some r from h) (fun q => nomatch q)
    | succ n ih =>
      intro x2 x3 H locs ls hl hP hS h
      rw [f4_soundTo_L4] at h
      refine lv_iload_n hx hb dX4_soundTo_4 rfl (lv_at hl 3 rfl) ?_
      refine lv_aload_n hx hb dX4_soundTo_5 rfl (lv_at hl 0 rfl) ?_
      refine gf_X4_22 X hP hs_s0 dX4_soundTo_6 h (fun v1 h => ?_)
      refine lv_icmp_ge (tgt := 51) hx hb dX4_soundTo_9 (by decide) (fun c2 => ?_) (fun c2 => ?_)
      · replace h := sx_ifp h c2
        exact hk51 x2 H locs ls (lv_sub hl [2] rfl) hP hS h
      · replace h := sx_ifn h c2
        refine lv_iload_n hx hb dX4_soundTo_12 rfl (lv_at hl 3 rfl) ?_
        refine lv_bipush (v := (40 : Int32)) hx hb dX4_soundTo_13 (by decide) ?_
        refine lv_icmp_ge (tgt := 51) hx hb dX4_soundTo_15 (by decide) (fun c3 => ?_) (fun c3 => ?_)
        · replace h := sx_ifp h c3
          exact hk51 x2 H locs ls (lv_sub hl [2] rfl) hP hS h
        · replace h := sx_ifn h c3
          refine lv_iload_n hx hb dX4_soundTo_18 rfl (lv_at hl 2 rfl) ?_
          refine lv_aload_n hx hb dX4_soundTo_19 rfl (lv_at hl 0 rfl) ?_
          refine gf_X4_18 X hP hs_s0 dX4_soundTo_20 ?_
          refine lv_iload_n hx hb dX4_soundTo_23 rfl (lv_at hl 3 rfl) ?_
          refine sx_zald X hP 5 s0 40 hs_s0 (fun _ _ => rfl) dX4_soundTo_24 h (fun v4 h => ?_)
          obtain ⟨j43, e_j43, h⟩ := sx_nm h
          have hj43 : ∀ (v5 : Int32) (H : Heap) (locs : List Loc) (ls : Array Slot), lv_has ls 4 [(0, .ref (sx_ad C 2 s0)), (1, .int w1), (3, .int x3)] → sx_W C M0 H → va_S (sx_A C) s.heap H locs → j43 v5 = some r → W p l e R s m args below meth c H locs 0 0 (sx_Z C (some (.int r)) M0 below args s) (F0 m 43 ls [.int v5, .int x2]) := by
            intro v5 H locs ls hl hP hS h
            subst e_j43
            refine lv_iadd hx hb dX4_soundTo_43 ?_
            obtain ⟨v6, e_v6, h⟩ := sx_nm h
            rw [e_v6]
            refine lv_istore_n (lv' := [(2, .int v6), (0, .ref (sx_ad C 2 s0)), (1, .int w1), (3, .int x3)]) hx hb dX4_soundTo_44 rfl hl (by decide) rfl (fun ls hl => ?_)
            obtain ⟨v7, e_v7, h⟩ := sx_nm h
            refine lv_iinc (v := v7) (lv' := [(3, .int v7), (2, .int v6), (0, .ref (sx_ad C 2 s0)), (1, .int w1)]) hx hb dX4_soundTo_45 hl (k := 3) rfl (by rw [← e_v7]; rfl) (by decide) rfl (fun ls hl => ?_)
            refine lv_goto (tgt := 4) hx hb dX4_soundTo_48 (by decide) ?_
            exact ih v6 v7 H locs ls (lv_sub hl [2, 3, 1, 0] rfl) hP hS h
          clear e_j43
          obtain ⟨j42, e_j42, h⟩ := sx_nm h
          have hj42 : ∀ (H : Heap) (locs : List Loc) (ls : Array Slot), lv_has ls 4 [(0, .ref (sx_ad C 2 s0)), (1, .int w1), (3, .int x3)] → sx_W C M0 H → va_S (sx_A C) s.heap H locs → j42 () = some r → W p l e R s m args below meth c H locs 0 0 (sx_Z C (some (.int r)) M0 below args s) (F0 m 42 ls [.int x2]) := by
            intro  H locs ls hl hP hS h
            subst e_j42
            refine lv_iconst (v := (0 : Int32)) hx hb dX4_soundTo_42 (by decide) ?_
            exact hj43 (0 : Int32) H locs ls (lv_sub hl [0, 1, 2] rfl) hP hS h
          clear e_j42
          refine lv_if_eq (tgt := 42) hx hb dX4_soundTo_25 (by decide) (fun c8 => ?_) (fun c8 => ?_)
          · replace h := sx_ifp h c8
            exact hj42 H locs ls (lv_sub hl [0, 1, 3] rfl) hP hS h
          · replace h := sx_ifn h c8
            refine lv_aload_n hx hb dX4_soundTo_28 rfl (lv_at hl 0 rfl) ?_
            refine gf_X4_15 X hP hs_s0 dX4_soundTo_29 ?_
            refine lv_iload_n hx hb dX4_soundTo_32 rfl (lv_at hl 3 rfl) ?_
            refine sx_iald X hP 4 s0 40 hs_s0 (fun _ _ => rfl) dX4_soundTo_33 h (fun v9 h => ?_)
            refine lv_iload_n hx hb dX4_soundTo_34 rfl (lv_at hl 1 rfl) ?_
            refine lv_icmp_ne (tgt := 42) hx hb dX4_soundTo_35 (by decide) (fun c10 => ?_) (fun c10 => ?_)
            · replace h := sx_ifn h c10
              exact hj42 H locs ls (lv_sub hl [0, 1, 3] rfl) hP hS h
            · replace h := sx_ifp h c10
              refine lv_iconst (v := (1 : Int32)) hx hb dX4_soundTo_38 (by decide) ?_
              refine lv_goto (tgt := 43) hx hb dX4_soundTo_39 (by decide) ?_
              exact hj43 (1 : Int32) H locs ls (lv_sub hl [0, 1, 3] rfl) hP hS h
  refine lv_iconst (v := (0 : Int32)) hx hb dX4_soundTo_0 (by decide) ?_
  refine lv_istore_n (lv' := [(2, .int (0 : Int32)), (0, .ref (sx_ad C 2 s0)), (1, .int a1)]) hx hb dX4_soundTo_1 rfl hl (by decide) rfl (fun ls hl => ?_)
  refine lv_iconst (v := (0 : Int32)) hx hb dX4_soundTo_2 (by decide) ?_
  refine lv_istore_n (lv' := [(3, .int (0 : Int32)), (2, .int (0 : Int32)), (0, .ref (sx_ad C 2 s0)), (1, .int a1)]) hx hb dX4_soundTo_3 rfl hl (by decide) rfl (fun ls hl => ?_)
  refine hf4_soundTo_L4 s0 a1 hs_s0 _ 5000 ?_ (0 : Int32) (0 : Int32) H locs ls (lv_sub hl [2, 3, 1, 0] rfl) hP hS h
  · intro v11 H locs ls hl hP hS h
    refine lv_iload_n hx hb dX4_soundTo_51 rfl (lv_at hl 0 rfl) ?_
    exact sx_iret X hr hlocks hS hP h dX4_soundTo_52
set_option maxRecDepth 100000 in
theorem ct_4_soundTo (l : Launch) (C : sx_C) (hG : sx_G C) (s0 : Nat) (a1 : Int32) (hs_s0 : s0 < 18) (M0 : sx_M) (r : Int32) (h : f4_soundTo s0 a1 M0 = some r) : Met l yX4_soundTo (.code yX4_soundTo cX4_soundTo 4 (some .int) :: sx_T) ({ frames := 0, cells := 0, slots := 0, locals := 0 } : Room) (sx_Pc C M0 [.ref (sx_ad C 2 s0), .int a1]) (sx_Q C (some (.int r)) M0) 0 0 (sx_A C) := by
  refine Met.ofW (cc := cX4_soundTo) (maxL := 4) (ret := (some .int)) (by decide) rfl ?_
  intro p e s m args below meth c s₁ B hml hv
  obtain ⟨rfl, hz, hP, hK⟩ := hv
  have hl := lv_entry ([.ref (sx_ad C 2 s0), .int a1]) (n := 4) (Nat.le_of_ble_eq_true rfl)
  rw [lg_entry_eq]
  generalize (lg_sl ([.ref (sx_ad C 2 s0), .int a1]) ++ List.replicate (4 - (lg_sl ([.ref (sx_ad C 2 s0), .int a1])).length) Slot.unset).toArray = ls at hl ⊢
  exact wk_4_soundTo ⟨B.exec, B.bytes, hml, findClass_of_methodNamed B.named, fun w hw => atoms_spec B.pre w (List.mem_cons_of_mem _ hw), hK⟩ B.returns B.notSynchronized hG hz ⟨Nat.zero_le _, Nat.zero_le _⟩ ⟨Nat.le_refl _, Nat.le_refl _⟩ s0 a1 hs_s0 M0 r h hl hP va_S.rf
theorem cl_X3_109 (X : sx_X C p m c cc nL s args RX3) (hG : sx_G C) (hP : sx_W C M0 H) (hz : sx_sz C ≤ H0.size) (hS : va_S (sx_A C) H0 H locs) {s0 : Nat} {a1 : Int32} (hs_s0 : s0 < 18) {r : Int32} (h : f4_soundTo s0 a1 M0 = some r) (hsz : ls.size = nL) (hdg : decode cc pc = .ok (.invokevirtual 109, 3)) (hcs : cells ≤ R.cells ∧ slots ≤ R.slots) (hR : 0 + 1 ≤ R.frames ∧ 8 + (4 + 11) + 0 ≤ R.locals) (hrest : (rest.map fun v => v.category).sum ≤ 8) (kk : ∀ (H1 : Heap) (locs1 : List Loc), sx_W C M0 H1 → va_S (sx_A C) H0 H1 locs1 → W p l e R s m args below meth c H1 locs1 cells slots Q (F0 m (pc + 3) ls ((.int r) :: rest))) : W p l e R s m args below meth c H locs cells slots Q (F0 m pc ls (.int a1 :: .ref (sx_ad C 2 s0) :: rest)) :=
  sx_callV (n := 1) (As := [.int a1]) (k0 := 2) (s0 := s0) X hP hz hS hs_s0 rfl rfl (sx_goodV tw_721 tw_722 tw_723 tw_66 tw_724) (by decide +kernel) rfl rfl hR (ct_4_soundTo l C hG s0 a1 hs_s0 M0 r h) rfl rfl hrest hsz hdg hcs kk
-- StringShed$Strings.under(I)I pure
def f4_under_L4 (s0 : Nat) (w1 : Int32) (M0 : sx_M) (k42 : (Int32 → Option (Int32))) : Nat → Int32 → Int32 → Option (Int32)
  | 0, _, _ => none
  | n + 1, x2, x3 =>
    sx_bd (M0.1 2 s0 3) fun v1 =>
    if v1 ≤ x3 then
      k42 x2
    else
      if (40 : Int32) ≤ x3 then
        k42 x2
      else
        if sx_in x3 40 then
        sx_bd (M0.1 3 s0 (x3).toNatClampNeg) fun v4 =>
        sx_bd (fun (v5 : Int32) =>
          sx_bd (x2 + v5) fun v6 =>
          sx_bd (x3 + (1 : Int32)) fun v7 =>
          f4_under_L4 s0 w1 M0 k42 n v6 v7) fun j34 =>
        if v4 = w1 then
          j34 (1 : Int32)
        else
          j34 (0 : Int32)
        else none
def f4_under (s0 : Nat) (a1 : Int32) (M0 : sx_M) : Option (Int32) :=
  f4_under_L4 s0 a1 M0
    (fun (v9 : Int32) =>
      some v9)
    5000 (0 : Int32) (0 : Int32)
set_option maxRecDepth 100000 in
set_option maxHeartbeats 4000000 in
theorem wk_4_under (X : sx_X C p m c cX4_under 4 s args RX4) (hr : meth.sig.returnType = (some .int)) (hlocks : meth.locks = false) (hG : sx_G C) (hz : sx_sz C ≤ s.heap.size) (hcs : 0 ≤ R.cells ∧ 0 ≤ R.slots) (hR : 0 ≤ R.frames ∧ 0 ≤ R.locals) (s0 : Nat) (a1 : Int32) (hs_s0 : s0 < 18) (M0 : sx_M) (r : Int32) (h : f4_under s0 a1 M0 = some r) (hl : lv_has ls 4 [(0, .ref (sx_ad C 2 s0)), (1, .int a1)]) (hP : sx_W C M0 H) (hS : va_S (sx_A C) s.heap H locs) : W p l e R s m args below meth c H locs 0 0 (sx_Z C (some (.int r)) M0 below args s) (F0 m 0 ls []) := by
  obtain ⟨hx, hb, hml, hown, hts, hK⟩ := id X
  rw [f4_under] at h
  have hf4_under_L4 : ∀ (s0 : Nat) (w1 : Int32) (hs_s0 : s0 < 18) (k42 : (Int32 → Option (Int32))) (n : Nat) (hk42 : (∀ (y2 : Int32) (H : Heap) (locs : List Loc) (ls : Array Slot), lv_has ls 4 [(2, .int y2)] → sx_W C M0 H → va_S (sx_A C) s.heap H locs → k42 y2 = some r → W p l e R s m args below meth c H locs 0 0 (sx_Z C (some (.int r)) M0 below args s) (F0 m 42 ls []))) (x2 : Int32) (x3 : Int32) (H : Heap) (locs : List Loc) (ls : Array Slot), lv_has ls 4 [(0, .ref (sx_ad C 2 s0)), (1, .int w1), (2, .int x2), (3, .int x3)] → sx_W C M0 H → va_S (sx_A C) s.heap H locs → f4_under_L4 s0 w1 M0 k42 n x2 x3 = some r → W p l e R s m args below meth c H locs 0 0 (sx_Z C (some (.int r)) M0 below args s) (F0 m 4 ls []) := by
    intro s0 w1 hs_s0 k42 n hk42
    induction n with
    | zero => intro x2 x3 H locs ls hl hP hS h; exact absurd (show (none : Option (Int32)) = some r from h) (fun q => nomatch q)
    | succ n ih =>
      intro x2 x3 H locs ls hl hP hS h
      rw [f4_under_L4] at h
      refine lv_iload_n hx hb dX4_under_4 rfl (lv_at hl 3 rfl) ?_
      refine lv_aload_n hx hb dX4_under_5 rfl (lv_at hl 0 rfl) ?_
      refine gf_X4_22 X hP hs_s0 dX4_under_6 h (fun v1 h => ?_)
      refine lv_icmp_ge (tgt := 42) hx hb dX4_under_9 (by decide) (fun c2 => ?_) (fun c2 => ?_)
      · replace h := sx_ifp h c2
        exact hk42 x2 H locs ls (lv_sub hl [2] rfl) hP hS h
      · replace h := sx_ifn h c2
        refine lv_iload_n hx hb dX4_under_12 rfl (lv_at hl 3 rfl) ?_
        refine lv_bipush (v := (40 : Int32)) hx hb dX4_under_13 (by decide) ?_
        refine lv_icmp_ge (tgt := 42) hx hb dX4_under_15 (by decide) (fun c3 => ?_) (fun c3 => ?_)
        · replace h := sx_ifp h c3
          exact hk42 x2 H locs ls (lv_sub hl [2] rfl) hP hS h
        · replace h := sx_ifn h c3
          refine lv_iload_n hx hb dX4_under_18 rfl (lv_at hl 2 rfl) ?_
          refine lv_aload_n hx hb dX4_under_19 rfl (lv_at hl 0 rfl) ?_
          refine gf_X4_9 X hP hs_s0 dX4_under_20 ?_
          refine lv_iload_n hx hb dX4_under_23 rfl (lv_at hl 3 rfl) ?_
          refine sx_iald X hP 3 s0 40 hs_s0 (fun _ _ => rfl) dX4_under_24 h (fun v4 h => ?_)
          refine lv_iload_n hx hb dX4_under_25 rfl (lv_at hl 1 rfl) ?_
          obtain ⟨j34, e_j34, h⟩ := sx_nm h
          have hj34 : ∀ (v5 : Int32) (H : Heap) (locs : List Loc) (ls : Array Slot), lv_has ls 4 [(0, .ref (sx_ad C 2 s0)), (1, .int w1), (3, .int x3)] → sx_W C M0 H → va_S (sx_A C) s.heap H locs → j34 v5 = some r → W p l e R s m args below meth c H locs 0 0 (sx_Z C (some (.int r)) M0 below args s) (F0 m 34 ls [.int v5, .int x2]) := by
            intro v5 H locs ls hl hP hS h
            subst e_j34
            refine lv_iadd hx hb dX4_under_34 ?_
            obtain ⟨v6, e_v6, h⟩ := sx_nm h
            rw [e_v6]
            refine lv_istore_n (lv' := [(2, .int v6), (0, .ref (sx_ad C 2 s0)), (1, .int w1), (3, .int x3)]) hx hb dX4_under_35 rfl hl (by decide) rfl (fun ls hl => ?_)
            obtain ⟨v7, e_v7, h⟩ := sx_nm h
            refine lv_iinc (v := v7) (lv' := [(3, .int v7), (2, .int v6), (0, .ref (sx_ad C 2 s0)), (1, .int w1)]) hx hb dX4_under_36 hl (k := 3) rfl (by rw [← e_v7]; rfl) (by decide) rfl (fun ls hl => ?_)
            refine lv_goto (tgt := 4) hx hb dX4_under_39 (by decide) ?_
            exact ih v6 v7 H locs ls (lv_sub hl [2, 3, 1, 0] rfl) hP hS h
          clear e_j34
          refine lv_icmp_ne (tgt := 33) hx hb dX4_under_26 (by decide) (fun c8 => ?_) (fun c8 => ?_)
          · replace h := sx_ifn h c8
            refine lv_iconst (v := (0 : Int32)) hx hb dX4_under_33 (by decide) ?_
            exact hj34 (0 : Int32) H locs ls (lv_sub hl [0, 1, 3] rfl) hP hS h
          · replace h := sx_ifp h c8
            refine lv_iconst (v := (1 : Int32)) hx hb dX4_under_29 (by decide) ?_
            refine lv_goto (tgt := 34) hx hb dX4_under_30 (by decide) ?_
            exact hj34 (1 : Int32) H locs ls (lv_sub hl [0, 1, 3] rfl) hP hS h
  refine lv_iconst (v := (0 : Int32)) hx hb dX4_under_0 (by decide) ?_
  refine lv_istore_n (lv' := [(2, .int (0 : Int32)), (0, .ref (sx_ad C 2 s0)), (1, .int a1)]) hx hb dX4_under_1 rfl hl (by decide) rfl (fun ls hl => ?_)
  refine lv_iconst (v := (0 : Int32)) hx hb dX4_under_2 (by decide) ?_
  refine lv_istore_n (lv' := [(3, .int (0 : Int32)), (2, .int (0 : Int32)), (0, .ref (sx_ad C 2 s0)), (1, .int a1)]) hx hb dX4_under_3 rfl hl (by decide) rfl (fun ls hl => ?_)
  refine hf4_under_L4 s0 a1 hs_s0 _ 5000 ?_ (0 : Int32) (0 : Int32) H locs ls (lv_sub hl [2, 3, 1, 0] rfl) hP hS h
  · intro v9 H locs ls hl hP hS h
    refine lv_iload_n hx hb dX4_under_42 rfl (lv_at hl 0 rfl) ?_
    exact sx_iret X hr hlocks hS hP h dX4_under_43
set_option maxRecDepth 100000 in
theorem ct_4_under (l : Launch) (C : sx_C) (hG : sx_G C) (s0 : Nat) (a1 : Int32) (hs_s0 : s0 < 18) (M0 : sx_M) (r : Int32) (h : f4_under s0 a1 M0 = some r) : Met l yX4_under (.code yX4_under cX4_under 4 (some .int) :: sx_T) ({ frames := 0, cells := 0, slots := 0, locals := 0 } : Room) (sx_Pc C M0 [.ref (sx_ad C 2 s0), .int a1]) (sx_Q C (some (.int r)) M0) 0 0 (sx_A C) := by
  refine Met.ofW (cc := cX4_under) (maxL := 4) (ret := (some .int)) (by decide) rfl ?_
  intro p e s m args below meth c s₁ B hml hv
  obtain ⟨rfl, hz, hP, hK⟩ := hv
  have hl := lv_entry ([.ref (sx_ad C 2 s0), .int a1]) (n := 4) (Nat.le_of_ble_eq_true rfl)
  rw [lg_entry_eq]
  generalize (lg_sl ([.ref (sx_ad C 2 s0), .int a1]) ++ List.replicate (4 - (lg_sl ([.ref (sx_ad C 2 s0), .int a1])).length) Slot.unset).toArray = ls at hl ⊢
  exact wk_4_under ⟨B.exec, B.bytes, hml, findClass_of_methodNamed B.named, fun w hw => atoms_spec B.pre w (List.mem_cons_of_mem _ hw), hK⟩ B.returns B.notSynchronized hG hz ⟨Nat.zero_le _, Nat.zero_le _⟩ ⟨Nat.le_refl _, Nat.le_refl _⟩ s0 a1 hs_s0 M0 r h hl hP va_S.rf
theorem cl_X3_112 (X : sx_X C p m c cc nL s args RX3) (hG : sx_G C) (hP : sx_W C M0 H) (hz : sx_sz C ≤ H0.size) (hS : va_S (sx_A C) H0 H locs) {s0 : Nat} {a1 : Int32} (hs_s0 : s0 < 18) {r : Int32} (h : f4_under s0 a1 M0 = some r) (hsz : ls.size = nL) (hdg : decode cc pc = .ok (.invokevirtual 112, 3)) (hcs : cells ≤ R.cells ∧ slots ≤ R.slots) (hR : 0 + 1 ≤ R.frames ∧ 8 + (4 + 11) + 0 ≤ R.locals) (hrest : (rest.map fun v => v.category).sum ≤ 8) (kk : ∀ (H1 : Heap) (locs1 : List Loc), sx_W C M0 H1 → va_S (sx_A C) H0 H1 locs1 → W p l e R s m args below meth c H1 locs1 cells slots Q (F0 m (pc + 3) ls ((.int r) :: rest))) : W p l e R s m args below meth c H locs cells slots Q (F0 m pc ls (.int a1 :: .ref (sx_ad C 2 s0) :: rest)) :=
  sx_callV (n := 1) (As := [.int a1]) (k0 := 2) (s0 := s0) X hP hz hS hs_s0 rfl rfl (sx_goodV tw_725 tw_726 tw_727 tw_66 tw_728) (by decide +kernel) rfl rfl hR (ct_4_under l C hG s0 a1 hs_s0 M0 r h) rfl rfl hrest hsz hdg hcs kk
-- StringShed$Strings.kindAt(I)I pure
def f4_kindAt (s0 : Nat) (a1 : Int32) (M0 : sx_M) : Option (Int32) :=
  (f4_isAt s0 a1 M0).bind fun v1 =>
  if v1 = 0 then
    some (0 : Int32)
  else
    if sx_in a1 40 then
    sx_bd (M0.1 5 s0 (a1).toNatClampNeg) fun v3 =>
    sx_bd (fun (v4 : Int32) =>
      some v4) fun j24 =>
    if v3 = 0 then
      j24 (2 : Int32)
    else
      j24 (1 : Int32)
    else none
set_option maxRecDepth 100000 in
set_option maxHeartbeats 4000000 in
theorem wk_4_kindAt (X : sx_X C p m c cX4_kindAt 2 s args RX4) (hr : meth.sig.returnType = (some .int)) (hlocks : meth.locks = false) (hG : sx_G C) (hz : sx_sz C ≤ s.heap.size) (hcs : 0 ≤ R.cells ∧ 0 ≤ R.slots) (hR : 1 ≤ R.frames ∧ 21 ≤ R.locals) (s0 : Nat) (a1 : Int32) (hs_s0 : s0 < 18) (M0 : sx_M) (r : Int32) (h : f4_kindAt s0 a1 M0 = some r) (hl : lv_has ls 2 [(0, .ref (sx_ad C 2 s0)), (1, .int a1)]) (hP : sx_W C M0 H) (hS : va_S (sx_A C) s.heap H locs) : W p l e R s m args below meth c H locs 0 0 (sx_Z C (some (.int r)) M0 below args s) (F0 m 0 ls []) := by
  obtain ⟨hx, hb, hml, hown, hts, hK⟩ := id X
  rw [f4_kindAt] at h
  refine lv_aload_n hx hb dX4_kindAt_0 rfl (lv_at hl 0 rfl) ?_
  refine lv_iload_n hx hb dX4_kindAt_1 rfl (lv_at hl 1 rfl) ?_
  obtain ⟨v1, e_v1, h⟩ := sx_bnd h
  refine cl_X4_26 X hG hP hz hS hs_s0 e_v1 hl.1 dX4_kindAt_2 hcs ⟨Nat.le_trans (by decide) hR.1, Nat.le_trans (by decide) hR.2⟩ (Nat.le_of_ble_eq_true rfl) (fun H locs hP hS => ?_)
  refine lv_if_ne (tgt := 10) hx hb dX4_kindAt_5 (by decide) (fun c2 => ?_) (fun c2 => ?_)
  · replace h := sx_ifn h c2
    refine lv_aload_n hx hb dX4_kindAt_10 rfl (lv_at hl 0 rfl) ?_
    refine gf_X4_18 X hP hs_s0 dX4_kindAt_11 ?_
    refine lv_iload_n hx hb dX4_kindAt_14 rfl (lv_at hl 1 rfl) ?_
    refine sx_zald X hP 5 s0 40 hs_s0 (fun _ _ => rfl) dX4_kindAt_15 h (fun v3 h => ?_)
    obtain ⟨j24, e_j24, h⟩ := sx_nm h
    have hj24 : ∀ (v4 : Int32) (H : Heap) (locs : List Loc) (ls : Array Slot), lv_has ls 2 [] → sx_W C M0 H → va_S (sx_A C) s.heap H locs → j24 v4 = some r → W p l e R s m args below meth c H locs 0 0 (sx_Z C (some (.int r)) M0 below args s) (F0 m 24 ls [.int v4]) := by
      intro v4 H locs ls hl hP hS h
      subst e_j24
      exact sx_iret X hr hlocks hS hP h dX4_kindAt_24
    clear e_j24
    refine lv_if_eq (tgt := 23) hx hb dX4_kindAt_16 (by decide) (fun c5 => ?_) (fun c5 => ?_)
    · replace h := sx_ifp h c5
      refine lv_iconst (v := (2 : Int32)) hx hb dX4_kindAt_23 (by decide) ?_
      exact hj24 (2 : Int32) H locs ls (lv_sub hl [] rfl) hP hS h
    · replace h := sx_ifn h c5
      refine lv_iconst (v := (1 : Int32)) hx hb dX4_kindAt_19 (by decide) ?_
      refine lv_goto (tgt := 24) hx hb dX4_kindAt_20 (by decide) ?_
      exact hj24 (1 : Int32) H locs ls (lv_sub hl [] rfl) hP hS h
  · replace h := sx_ifp h c2
    refine lv_iconst (v := (0 : Int32)) hx hb dX4_kindAt_8 (by decide) ?_
    exact sx_iret X hr hlocks hS hP h dX4_kindAt_9
set_option maxRecDepth 100000 in
theorem ct_4_kindAt (l : Launch) (C : sx_C) (hG : sx_G C) (s0 : Nat) (a1 : Int32) (hs_s0 : s0 < 18) (M0 : sx_M) (r : Int32) (h : f4_kindAt s0 a1 M0 = some r) : Met l yX4_kindAt (.code yX4_kindAt cX4_kindAt 2 (some .int) :: sx_T) ({ frames := 1, cells := 0, slots := 0, locals := 21 } : Room) (sx_Pc C M0 [.ref (sx_ad C 2 s0), .int a1]) (sx_Q C (some (.int r)) M0) 0 0 (sx_A C) := by
  refine Met.ofW (cc := cX4_kindAt) (maxL := 2) (ret := (some .int)) (by decide) rfl ?_
  intro p e s m args below meth c s₁ B hml hv
  obtain ⟨rfl, hz, hP, hK⟩ := hv
  have hl := lv_entry ([.ref (sx_ad C 2 s0), .int a1]) (n := 2) (Nat.le_of_ble_eq_true rfl)
  rw [lg_entry_eq]
  generalize (lg_sl ([.ref (sx_ad C 2 s0), .int a1]) ++ List.replicate (2 - (lg_sl ([.ref (sx_ad C 2 s0), .int a1])).length) Slot.unset).toArray = ls at hl ⊢
  exact wk_4_kindAt ⟨B.exec, B.bytes, hml, findClass_of_methodNamed B.named, fun w hw => atoms_spec B.pre w (List.mem_cons_of_mem _ hw), hK⟩ B.returns B.notSynchronized hG hz ⟨Nat.zero_le _, Nat.zero_le _⟩ ⟨Nat.le_refl _, Nat.le_refl _⟩ s0 a1 hs_s0 M0 r h hl hP va_S.rf
theorem cl_X7_124 (X : sx_X C p m c cc nL s args RX7) (hG : sx_G C) (hP : sx_W C M0 H) (hz : sx_sz C ≤ H0.size) (hS : va_S (sx_A C) H0 H locs) {s0 : Nat} {a1 : Int32} (hs_s0 : s0 < 18) {r : Int32} (h : f4_kindAt s0 a1 M0 = some r) (hsz : ls.size = nL) (hdg : decode cc pc = .ok (.invokevirtual 124, 3)) (hcs : cells ≤ R.cells ∧ slots ≤ R.slots) (hR : 1 + 1 ≤ R.frames ∧ 8 + (2 + 11) + 21 ≤ R.locals) (hrest : (rest.map fun v => v.category).sum ≤ 8) (kk : ∀ (H1 : Heap) (locs1 : List Loc), sx_W C M0 H1 → va_S (sx_A C) H0 H1 locs1 → W p l e R s m args below meth c H1 locs1 cells slots Q (F0 m (pc + 3) ls ((.int r) :: rest))) : W p l e R s m args below meth c H locs cells slots Q (F0 m pc ls (.int a1 :: .ref (sx_ad C 2 s0) :: rest)) :=
  sx_callV (n := 1) (As := [.int a1]) (k0 := 2) (s0 := s0) X hP hz hS hs_s0 rfl rfl (sx_goodV tw_742 tw_743 tw_744 tw_66 tw_745) (by decide +kernel) rfl rfl hR (ct_4_kindAt l C hG s0 a1 hs_s0 M0 r h) rfl rfl hrest hsz hdg hcs kk
-- StringShed$Strings.codeAt(I)I pure
def f4_codeAt (s0 : Nat) (a1 : Int32) (M0 : sx_M) : Option (Int32) :=
  (f4_isAt s0 a1 M0).bind fun v1 =>
  sx_bd (fun (v2 : Int32) =>
    some v2) fun j31 =>
  if v1 = 0 then
    j31 (-9 : Int32)
  else
    if sx_in a1 40 then
    sx_bd (M0.1 3 s0 (a1).toNatClampNeg) fun v4 =>
    if sx_in a1 40 then
    sx_bd (M0.1 4 s0 (a1).toNatClampNeg) fun v5 =>
    j31 (((100 : Int32) * ((4 : Int32) + v4)) + v5)
    else none
    else none
set_option maxRecDepth 100000 in
set_option maxHeartbeats 4000000 in
theorem wk_4_codeAt (X : sx_X C p m c cX4_codeAt 2 s args RX4) (hr : meth.sig.returnType = (some .int)) (hlocks : meth.locks = false) (hG : sx_G C) (hz : sx_sz C ≤ s.heap.size) (hcs : 0 ≤ R.cells ∧ 0 ≤ R.slots) (hR : 1 ≤ R.frames ∧ 21 ≤ R.locals) (s0 : Nat) (a1 : Int32) (hs_s0 : s0 < 18) (M0 : sx_M) (r : Int32) (h : f4_codeAt s0 a1 M0 = some r) (hl : lv_has ls 2 [(0, .ref (sx_ad C 2 s0)), (1, .int a1)]) (hP : sx_W C M0 H) (hS : va_S (sx_A C) s.heap H locs) : W p l e R s m args below meth c H locs 0 0 (sx_Z C (some (.int r)) M0 below args s) (F0 m 0 ls []) := by
  obtain ⟨hx, hb, hml, hown, hts, hK⟩ := id X
  rw [f4_codeAt] at h
  refine lv_aload_n hx hb dX4_codeAt_0 rfl (lv_at hl 0 rfl) ?_
  refine lv_iload_n hx hb dX4_codeAt_1 rfl (lv_at hl 1 rfl) ?_
  obtain ⟨v1, e_v1, h⟩ := sx_bnd h
  refine cl_X4_26 X hG hP hz hS hs_s0 e_v1 hl.1 dX4_codeAt_2 hcs ⟨Nat.le_trans (by decide) hR.1, Nat.le_trans (by decide) hR.2⟩ (Nat.le_of_ble_eq_true rfl) (fun H locs hP hS => ?_)
  obtain ⟨j31, e_j31, h⟩ := sx_nm h
  have hj31 : ∀ (v2 : Int32) (H : Heap) (locs : List Loc) (ls : Array Slot), lv_has ls 2 [] → sx_W C M0 H → va_S (sx_A C) s.heap H locs → j31 v2 = some r → W p l e R s m args below meth c H locs 0 0 (sx_Z C (some (.int r)) M0 below args s) (F0 m 31 ls [.int v2]) := by
    intro v2 H locs ls hl hP hS h
    subst e_j31
    exact sx_iret X hr hlocks hS hP h dX4_codeAt_31
  clear e_j31
  refine lv_if_eq (tgt := 29) hx hb dX4_codeAt_5 (by decide) (fun c3 => ?_) (fun c3 => ?_)
  · replace h := sx_ifp h c3
    refine lv_bipush (v := (-9 : Int32)) hx hb dX4_codeAt_29 (by decide) ?_
    exact hj31 (-9 : Int32) H locs ls (lv_sub hl [] rfl) hP hS h
  · replace h := sx_ifn h c3
    refine lv_bipush (v := (100 : Int32)) hx hb dX4_codeAt_8 (by decide) ?_
    refine lv_iconst (v := (4 : Int32)) hx hb dX4_codeAt_10 (by decide) ?_
    refine lv_aload_n hx hb dX4_codeAt_11 rfl (lv_at hl 0 rfl) ?_
    refine gf_X4_9 X hP hs_s0 dX4_codeAt_12 ?_
    refine lv_iload_n hx hb dX4_codeAt_15 rfl (lv_at hl 1 rfl) ?_
    refine sx_iald X hP 3 s0 40 hs_s0 (fun _ _ => rfl) dX4_codeAt_16 h (fun v4 h => ?_)
    refine lv_iadd hx hb dX4_codeAt_17 ?_
    refine lv_imul hx hb dX4_codeAt_18 ?_
    refine lv_aload_n hx hb dX4_codeAt_19 rfl (lv_at hl 0 rfl) ?_
    refine gf_X4_15 X hP hs_s0 dX4_codeAt_20 ?_
    refine lv_iload_n hx hb dX4_codeAt_23 rfl (lv_at hl 1 rfl) ?_
    refine sx_iald X hP 4 s0 40 hs_s0 (fun _ _ => rfl) dX4_codeAt_24 h (fun v5 h => ?_)
    refine lv_iadd hx hb dX4_codeAt_25 ?_
    refine lv_goto (tgt := 31) hx hb dX4_codeAt_26 (by decide) ?_
    exact hj31 (((100 : Int32) * ((4 : Int32) + v4)) + v5) H locs ls (lv_sub hl [] rfl) hP hS h
set_option maxRecDepth 100000 in
theorem ct_4_codeAt (l : Launch) (C : sx_C) (hG : sx_G C) (s0 : Nat) (a1 : Int32) (hs_s0 : s0 < 18) (M0 : sx_M) (r : Int32) (h : f4_codeAt s0 a1 M0 = some r) : Met l yX4_codeAt (.code yX4_codeAt cX4_codeAt 2 (some .int) :: sx_T) ({ frames := 1, cells := 0, slots := 0, locals := 21 } : Room) (sx_Pc C M0 [.ref (sx_ad C 2 s0), .int a1]) (sx_Q C (some (.int r)) M0) 0 0 (sx_A C) := by
  refine Met.ofW (cc := cX4_codeAt) (maxL := 2) (ret := (some .int)) (by decide) rfl ?_
  intro p e s m args below meth c s₁ B hml hv
  obtain ⟨rfl, hz, hP, hK⟩ := hv
  have hl := lv_entry ([.ref (sx_ad C 2 s0), .int a1]) (n := 2) (Nat.le_of_ble_eq_true rfl)
  rw [lg_entry_eq]
  generalize (lg_sl ([.ref (sx_ad C 2 s0), .int a1]) ++ List.replicate (2 - (lg_sl ([.ref (sx_ad C 2 s0), .int a1])).length) Slot.unset).toArray = ls at hl ⊢
  exact wk_4_codeAt ⟨B.exec, B.bytes, hml, findClass_of_methodNamed B.named, fun w hw => atoms_spec B.pre w (List.mem_cons_of_mem _ hw), hK⟩ B.returns B.notSynchronized hG hz ⟨Nat.zero_le _, Nat.zero_le _⟩ ⟨Nat.le_refl _, Nat.le_refl _⟩ s0 a1 hs_s0 M0 r h hl hP va_S.rf
theorem cl_X7_129 (X : sx_X C p m c cc nL s args RX7) (hG : sx_G C) (hP : sx_W C M0 H) (hz : sx_sz C ≤ H0.size) (hS : va_S (sx_A C) H0 H locs) {s0 : Nat} {a1 : Int32} (hs_s0 : s0 < 18) {r : Int32} (h : f4_codeAt s0 a1 M0 = some r) (hsz : ls.size = nL) (hdg : decode cc pc = .ok (.invokevirtual 129, 3)) (hcs : cells ≤ R.cells ∧ slots ≤ R.slots) (hR : 1 + 1 ≤ R.frames ∧ 8 + (2 + 11) + 21 ≤ R.locals) (hrest : (rest.map fun v => v.category).sum ≤ 8) (kk : ∀ (H1 : Heap) (locs1 : List Loc), sx_W C M0 H1 → va_S (sx_A C) H0 H1 locs1 → W p l e R s m args below meth c H1 locs1 cells slots Q (F0 m (pc + 3) ls ((.int r) :: rest))) : W p l e R s m args below meth c H locs cells slots Q (F0 m pc ls (.int a1 :: .ref (sx_ad C 2 s0) :: rest)) :=
  sx_callV (n := 1) (As := [.int a1]) (k0 := 2) (s0 := s0) X hP hz hS hs_s0 rfl rfl (sx_goodV tw_292 tw_293 tw_294 tw_66 tw_295) (by decide +kernel) rfl rfl hR (ct_4_codeAt l C hG s0 a1 hs_s0 M0 r h) rfl rfl hrest hsz hdg hcs kk
-- StringShed$Strings.firstAbove(III)I pure
def f4_firstAbove_L3 (s0 : Nat) (w1 : Int32) (w2 : Int32) (w3 : Int32) (M0 : sx_M) (k70 : (Unit → Option (Int32))) : Nat → Int32 → Option (Int32)
  | 0, _ => none
  | n + 1, x4 =>
    sx_bd (M0.1 2 s0 3) fun v1 =>
    if v1 ≤ x4 then
      k70 ()
    else
      if (40 : Int32) ≤ x4 then
        k70 ()
      else
        if sx_in x4 40 then
        sx_bd (M0.1 5 s0 (x4).toNatClampNeg) fun v4 =>
        sx_bd (fun (_ : Unit) =>
          sx_bd (x4 + (1 : Int32)) fun v5 =>
          f4_firstAbove_L3 s0 w1 w2 w3 M0 k70 n v5) fun j64 =>
        if v4 = 0 then
          j64 ()
        else
          if sx_in x4 40 then
          sx_bd (M0.1 4 s0 (x4).toNatClampNeg) fun v7 =>
          if v7 = w2 then
            if sx_in x4 40 then
            sx_bd (M0.1 3 s0 (x4).toNatClampNeg) fun v9 =>
            (f4_depthOf s0 w1 v9 M0).bind fun v10 =>
            if v10 = w3 then
              if sx_in x4 40 then
              sx_bd (M0.1 3 s0 (x4).toNatClampNeg) fun v12 =>
              some v12
              else none
            else
              j64 ()
            else none
          else
            j64 ()
          else none
        else none
def f4_firstAbove (s0 : Nat) (a1 : Int32) (a2 : Int32) (a3 : Int32) (M0 : sx_M) : Option (Int32) :=
  f4_firstAbove_L3 s0 a1 a2 a3 M0
    (fun (_ : Unit) =>
      some (-9 : Int32))
    5000 (0 : Int32)
set_option maxRecDepth 100000 in
set_option maxHeartbeats 4000000 in
theorem wk_4_firstAbove (X : sx_X C p m c cX4_firstAbove 5 s args RX4) (hr : meth.sig.returnType = (some .int)) (hlocks : meth.locks = false) (hG : sx_G C) (hz : sx_sz C ≤ s.heap.size) (hcs : 0 ≤ R.cells ∧ 0 ≤ R.slots) (hR : 2 ≤ R.frames ∧ 47 ≤ R.locals) (s0 : Nat) (a1 : Int32) (a2 : Int32) (a3 : Int32) (hs_s0 : s0 < 18) (M0 : sx_M) (r : Int32) (h : f4_firstAbove s0 a1 a2 a3 M0 = some r) (hl : lv_has ls 5 [(0, .ref (sx_ad C 2 s0)), (1, .int a1), (2, .int a2), (3, .int a3)]) (hP : sx_W C M0 H) (hS : va_S (sx_A C) s.heap H locs) : W p l e R s m args below meth c H locs 0 0 (sx_Z C (some (.int r)) M0 below args s) (F0 m 0 ls []) := by
  obtain ⟨hx, hb, hml, hown, hts, hK⟩ := id X
  rw [f4_firstAbove] at h
  have hf4_firstAbove_L3 : ∀ (s0 : Nat) (w1 : Int32) (w2 : Int32) (w3 : Int32) (hs_s0 : s0 < 18) (k70 : (Unit → Option (Int32))) (n : Nat) (hk70 : (∀ (H : Heap) (locs : List Loc) (ls : Array Slot), lv_has ls 5 [] → sx_W C M0 H → va_S (sx_A C) s.heap H locs → k70 () = some r → W p l e R s m args below meth c H locs 0 0 (sx_Z C (some (.int r)) M0 below args s) (F0 m 70 ls []))) (x4 : Int32) (H : Heap) (locs : List Loc) (ls : Array Slot), lv_has ls 5 [(0, .ref (sx_ad C 2 s0)), (1, .int w1), (2, .int w2), (3, .int w3), (4, .int x4)] → sx_W C M0 H → va_S (sx_A C) s.heap H locs → f4_firstAbove_L3 s0 w1 w2 w3 M0 k70 n x4 = some r → W p l e R s m args below meth c H locs 0 0 (sx_Z C (some (.int r)) M0 below args s) (F0 m 3 ls []) := by
    intro s0 w1 w2 w3 hs_s0 k70 n hk70
    induction n with
    | zero => intro x4 H locs ls hl hP hS h; exact absurd (show (none : Option (Int32)) = some r from h) (fun q => nomatch q)
    | succ n ih =>
      intro x4 H locs ls hl hP hS h
      rw [f4_firstAbove_L3] at h
      refine lv_iload hx hb dX4_firstAbove_3 (lv_at hl 4 rfl) ?_
      refine lv_aload_n hx hb dX4_firstAbove_5 rfl (lv_at hl 0 rfl) ?_
      refine gf_X4_22 X hP hs_s0 dX4_firstAbove_6 h (fun v1 h => ?_)
      refine lv_icmp_ge (tgt := 70) hx hb dX4_firstAbove_9 (by decide) (fun c2 => ?_) (fun c2 => ?_)
      · replace h := sx_ifp h c2
        exact hk70 H locs ls (lv_sub hl [] rfl) hP hS h
      · replace h := sx_ifn h c2
        refine lv_iload hx hb dX4_firstAbove_12 (lv_at hl 4 rfl) ?_
        refine lv_bipush (v := (40 : Int32)) hx hb dX4_firstAbove_14 (by decide) ?_
        refine lv_icmp_ge (tgt := 70) hx hb dX4_firstAbove_16 (by decide) (fun c3 => ?_) (fun c3 => ?_)
        · replace h := sx_ifp h c3
          exact hk70 H locs ls (lv_sub hl [] rfl) hP hS h
        · replace h := sx_ifn h c3
          refine lv_aload_n hx hb dX4_firstAbove_19 rfl (lv_at hl 0 rfl) ?_
          refine gf_X4_18 X hP hs_s0 dX4_firstAbove_20 ?_
          refine lv_iload hx hb dX4_firstAbove_23 (lv_at hl 4 rfl) ?_
          refine sx_zald X hP 5 s0 40 hs_s0 (fun _ _ => rfl) dX4_firstAbove_25 h (fun v4 h => ?_)
          obtain ⟨j64, e_j64, h⟩ := sx_nm h
          have hj64 : ∀ (H : Heap) (locs : List Loc) (ls : Array Slot), lv_has ls 5 [(0, .ref (sx_ad C 2 s0)), (1, .int w1), (2, .int w2), (3, .int w3), (4, .int x4)] → sx_W C M0 H → va_S (sx_A C) s.heap H locs → j64 () = some r → W p l e R s m args below meth c H locs 0 0 (sx_Z C (some (.int r)) M0 below args s) (F0 m 64 ls []) := by
            intro  H locs ls hl hP hS h
            subst e_j64
            obtain ⟨v5, e_v5, h⟩ := sx_nm h
            refine lv_iinc (v := v5) (lv' := [(4, .int v5), (0, .ref (sx_ad C 2 s0)), (1, .int w1), (2, .int w2), (3, .int w3)]) hx hb dX4_firstAbove_64 hl (k := 4) rfl (by rw [← e_v5]; rfl) (by decide) rfl (fun ls hl => ?_)
            refine lv_goto (tgt := 3) hx hb dX4_firstAbove_67 (by decide) ?_
            exact ih v5 H locs ls (lv_sub hl [1, 2, 3, 4, 0] rfl) hP hS h
          clear e_j64
          refine lv_if_eq (tgt := 64) hx hb dX4_firstAbove_26 (by decide) (fun c6 => ?_) (fun c6 => ?_)
          · replace h := sx_ifp h c6
            exact hj64 H locs ls (lv_sub hl [0, 1, 2, 3, 4] rfl) hP hS h
          · replace h := sx_ifn h c6
            refine lv_aload_n hx hb dX4_firstAbove_29 rfl (lv_at hl 0 rfl) ?_
            refine gf_X4_15 X hP hs_s0 dX4_firstAbove_30 ?_
            refine lv_iload hx hb dX4_firstAbove_33 (lv_at hl 4 rfl) ?_
            refine sx_iald X hP 4 s0 40 hs_s0 (fun _ _ => rfl) dX4_firstAbove_35 h (fun v7 h => ?_)
            refine lv_iload_n hx hb dX4_firstAbove_36 rfl (lv_at hl 2 rfl) ?_
            refine lv_icmp_ne (tgt := 64) hx hb dX4_firstAbove_37 (by decide) (fun c8 => ?_) (fun c8 => ?_)
            · replace h := sx_ifn h c8
              exact hj64 H locs ls (lv_sub hl [0, 1, 2, 3, 4] rfl) hP hS h
            · replace h := sx_ifp h c8
              refine lv_aload_n hx hb dX4_firstAbove_40 rfl (lv_at hl 0 rfl) ?_
              refine lv_iload_n hx hb dX4_firstAbove_41 rfl (lv_at hl 1 rfl) ?_
              refine lv_aload_n hx hb dX4_firstAbove_42 rfl (lv_at hl 0 rfl) ?_
              refine gf_X4_9 X hP hs_s0 dX4_firstAbove_43 ?_
              refine lv_iload hx hb dX4_firstAbove_46 (lv_at hl 4 rfl) ?_
              refine sx_iald X hP 3 s0 40 hs_s0 (fun _ _ => rfl) dX4_firstAbove_48 h (fun v9 h => ?_)
              obtain ⟨v10, e_v10, h⟩ := sx_bnd h
              refine cl_X4_37 X hG hP hz hS hs_s0 e_v10 hl.1 dX4_firstAbove_49 hcs ⟨Nat.le_trans (by decide) hR.1, Nat.le_trans (by decide) hR.2⟩ (Nat.le_of_ble_eq_true rfl) (fun H locs hP hS => ?_)
              refine lv_iload_n hx hb dX4_firstAbove_52 rfl (lv_at hl 3 rfl) ?_
              refine lv_icmp_ne (tgt := 64) hx hb dX4_firstAbove_53 (by decide) (fun c11 => ?_) (fun c11 => ?_)
              · replace h := sx_ifn h c11
                exact hj64 H locs ls (lv_sub hl [0, 1, 2, 3, 4] rfl) hP hS h
              · replace h := sx_ifp h c11
                refine lv_aload_n hx hb dX4_firstAbove_56 rfl (lv_at hl 0 rfl) ?_
                refine gf_X4_9 X hP hs_s0 dX4_firstAbove_57 ?_
                refine lv_iload hx hb dX4_firstAbove_60 (lv_at hl 4 rfl) ?_
                refine sx_iald X hP 3 s0 40 hs_s0 (fun _ _ => rfl) dX4_firstAbove_62 h (fun v12 h => ?_)
                exact sx_iret X hr hlocks hS hP h dX4_firstAbove_63
  refine lv_iconst (v := (0 : Int32)) hx hb dX4_firstAbove_0 (by decide) ?_
  refine lv_istore (lv' := [(4, .int (0 : Int32)), (0, .ref (sx_ad C 2 s0)), (1, .int a1), (2, .int a2), (3, .int a3)]) hx hb dX4_firstAbove_1 hl (by decide) rfl (fun ls hl => ?_)
  refine hf4_firstAbove_L3 s0 a1 a2 a3 hs_s0 _ 5000 ?_ (0 : Int32) H locs ls (lv_sub hl [1, 2, 3, 4, 0] rfl) hP hS h
  · intro  H locs ls hl hP hS h
    refine lv_bipush (v := (-9 : Int32)) hx hb dX4_firstAbove_70 (by decide) ?_
    exact sx_iret X hr hlocks hS hP h dX4_firstAbove_72
set_option maxRecDepth 100000 in
theorem ct_4_firstAbove (l : Launch) (C : sx_C) (hG : sx_G C) (s0 : Nat) (a1 : Int32) (a2 : Int32) (a3 : Int32) (hs_s0 : s0 < 18) (M0 : sx_M) (r : Int32) (h : f4_firstAbove s0 a1 a2 a3 M0 = some r) : Met l yX4_firstAbove (.code yX4_firstAbove cX4_firstAbove 5 (some .int) :: sx_T) ({ frames := 2, cells := 0, slots := 0, locals := 47 } : Room) (sx_Pc C M0 [.ref (sx_ad C 2 s0), .int a1, .int a2, .int a3]) (sx_Q C (some (.int r)) M0) 0 0 (sx_A C) := by
  refine Met.ofW (cc := cX4_firstAbove) (maxL := 5) (ret := (some .int)) (by decide) rfl ?_
  intro p e s m args below meth c s₁ B hml hv
  obtain ⟨rfl, hz, hP, hK⟩ := hv
  have hl := lv_entry ([.ref (sx_ad C 2 s0), .int a1, .int a2, .int a3]) (n := 5) (Nat.le_of_ble_eq_true rfl)
  rw [lg_entry_eq]
  generalize (lg_sl ([.ref (sx_ad C 2 s0), .int a1, .int a2, .int a3]) ++ List.replicate (5 - (lg_sl ([.ref (sx_ad C 2 s0), .int a1, .int a2, .int a3])).length) Slot.unset).toArray = ls at hl ⊢
  exact wk_4_firstAbove ⟨B.exec, B.bytes, hml, findClass_of_methodNamed B.named, fun w hw => atoms_spec B.pre w (List.mem_cons_of_mem _ hw), hK⟩ B.returns B.notSynchronized hG hz ⟨Nat.zero_le _, Nat.zero_le _⟩ ⟨Nat.le_refl _, Nat.le_refl _⟩ s0 a1 a2 a3 hs_s0 M0 r h hl hP va_S.rf
theorem cl_X4_41 (X : sx_X C p m c cc nL s args RX4) (hG : sx_G C) (hP : sx_W C M0 H) (hz : sx_sz C ≤ H0.size) (hS : va_S (sx_A C) H0 H locs) {s0 : Nat} {a1 : Int32} {a2 : Int32} {a3 : Int32} (hs_s0 : s0 < 18) {r : Int32} (h : f4_firstAbove s0 a1 a2 a3 M0 = some r) (hsz : ls.size = nL) (hdg : decode cc pc = .ok (.invokevirtual 41, 3)) (hcs : cells ≤ R.cells ∧ slots ≤ R.slots) (hR : 2 + 1 ≤ R.frames ∧ 8 + (5 + 11) + 47 ≤ R.locals) (hrest : (rest.map fun v => v.category).sum ≤ 8) (kk : ∀ (H1 : Heap) (locs1 : List Loc), sx_W C M0 H1 → va_S (sx_A C) H0 H1 locs1 → W p l e R s m args below meth c H1 locs1 cells slots Q (F0 m (pc + 3) ls ((.int r) :: rest))) : W p l e R s m args below meth c H locs cells slots Q (F0 m pc ls (.int a3 :: .int a2 :: .int a1 :: .ref (sx_ad C 2 s0) :: rest)) :=
  sx_callV (n := 3) (As := [.int a1, .int a2, .int a3]) (k0 := 2) (s0 := s0) X hP hz hS hs_s0 rfl rfl (sx_goodV tw_897 tw_899 tw_22 tw_66 tw_900) (by decide +kernel) rfl rfl hR (ct_4_firstAbove l C hG s0 a1 a2 a3 hs_s0 M0 r h) rfl rfl hrest hsz hdg hcs kk
-- StringShed$Strings.onWay(III)I pure
def f4_onWay_L33 (s0 : Nat) (w1 : Int32) (w3 : Int32) (M0 : sx_M) : Nat → Int32 → Int32 → Option (Int32)
  | 0, _, _ => none
  | n + 1, x5, x6 =>
    if x6 < w3 then
      some x5
    else
      (f4_firstAbove s0 w1 x5 x6 M0).bind fun v6 =>
      sx_bd (x6 + (-1 : Int32)) fun v7 =>
      f4_onWay_L33 s0 w1 w3 M0 n v6 v7
def f4_onWay (s0 : Nat) (a1 : Int32) (a2 : Int32) (a3 : Int32) (M0 : sx_M) : Option (Int32) :=
  (f4_depthOf s0 a1 a2 M0).bind fun v1 =>
  sx_bd (fun (_ : Unit) =>
    some (-9 : Int32)) fun j21 =>
  if v1 = (-9 : Int32) then
    j21 ()
  else
    if a3 ≤ v1 then
      sx_bd (v1 - (1 : Int32)) fun v4 =>
      f4_onWay_L33 s0 a1 a3 M0
        5000 a2 v4
    else
      j21 ()
set_option maxRecDepth 100000 in
set_option maxHeartbeats 4000000 in
theorem wk_4_onWay (X : sx_X C p m c cX4_onWay 7 s args RX4) (hr : meth.sig.returnType = (some .int)) (hlocks : meth.locks = false) (hG : sx_G C) (hz : sx_sz C ≤ s.heap.size) (hcs : 0 ≤ R.cells ∧ 0 ≤ R.slots) (hR : 3 ≤ R.frames ∧ 71 ≤ R.locals) (s0 : Nat) (a1 : Int32) (a2 : Int32) (a3 : Int32) (hs_s0 : s0 < 18) (M0 : sx_M) (r : Int32) (h : f4_onWay s0 a1 a2 a3 M0 = some r) (hl : lv_has ls 7 [(0, .ref (sx_ad C 2 s0)), (1, .int a1), (2, .int a2), (3, .int a3)]) (hP : sx_W C M0 H) (hS : va_S (sx_A C) s.heap H locs) : W p l e R s m args below meth c H locs 0 0 (sx_Z C (some (.int r)) M0 below args s) (F0 m 0 ls []) := by
  obtain ⟨hx, hb, hml, hown, hts, hK⟩ := id X
  rw [f4_onWay] at h
  have hf4_onWay_L33 : ∀ (s0 : Nat) (w1 : Int32) (w3 : Int32) (hs_s0 : s0 < 18) (n : Nat) (x5 : Int32) (x6 : Int32) (H : Heap) (locs : List Loc) (ls : Array Slot), lv_has ls 7 [(0, .ref (sx_ad C 2 s0)), (1, .int w1), (3, .int w3), (5, .int x5), (6, .int x6)] → sx_W C M0 H → va_S (sx_A C) s.heap H locs → f4_onWay_L33 s0 w1 w3 M0 n x5 x6 = some r → W p l e R s m args below meth c H locs 0 0 (sx_Z C (some (.int r)) M0 below args s) (F0 m 33 ls []) := by
    intro s0 w1 w3 hs_s0 n
    induction n with
    | zero => intro x5 x6 H locs ls hl hP hS h; exact absurd (show (none : Option (Int32)) = some r from h) (fun q => nomatch q)
    | succ n ih =>
      intro x5 x6 H locs ls hl hP hS h
      rw [f4_onWay_L33] at h
      refine lv_iload hx hb dX4_onWay_33 (lv_at hl 4 rfl) ?_
      refine lv_iload_n hx hb dX4_onWay_35 rfl (lv_at hl 2 rfl) ?_
      refine lv_icmp_lt (tgt := 56) hx hb dX4_onWay_36 (by decide) (fun c5 => ?_) (fun c5 => ?_)
      · replace h := sx_ifp h c5
        refine lv_iload hx hb dX4_onWay_56 (lv_at hl 3 rfl) ?_
        exact sx_iret X hr hlocks hS hP h dX4_onWay_58
      · replace h := sx_ifn h c5
        refine lv_aload_n hx hb dX4_onWay_39 rfl (lv_at hl 0 rfl) ?_
        refine lv_iload_n hx hb dX4_onWay_40 rfl (lv_at hl 1 rfl) ?_
        refine lv_iload hx hb dX4_onWay_41 (lv_at hl 3 rfl) ?_
        refine lv_iload hx hb dX4_onWay_43 (lv_at hl 4 rfl) ?_
        obtain ⟨v6, e_v6, h⟩ := sx_bnd h
        refine cl_X4_41 X hG hP hz hS hs_s0 e_v6 hl.1 dX4_onWay_45 hcs ⟨Nat.le_trans (by decide) hR.1, Nat.le_trans (by decide) hR.2⟩ (Nat.le_of_ble_eq_true rfl) (fun H locs hP hS => ?_)
        refine lv_istore (lv' := [(5, .int v6), (0, .ref (sx_ad C 2 s0)), (1, .int w1), (3, .int w3), (6, .int x6)]) hx hb dX4_onWay_48 hl (by decide) rfl (fun ls hl => ?_)
        obtain ⟨v7, e_v7, h⟩ := sx_nm h
        refine lv_iinc (v := v7) (lv' := [(6, .int v7), (5, .int v6), (0, .ref (sx_ad C 2 s0)), (1, .int w1), (3, .int w3)]) hx hb dX4_onWay_50 hl (k := 4) rfl (by rw [← e_v7]; rfl) (by decide) rfl (fun ls hl => ?_)
        refine lv_goto (tgt := 33) hx hb dX4_onWay_53 (by decide) ?_
        exact ih v6 v7 H locs ls (lv_sub hl [2, 3, 4, 1, 0] rfl) hP hS h
  refine lv_aload_n hx hb dX4_onWay_0 rfl (lv_at hl 0 rfl) ?_
  refine lv_iload_n hx hb dX4_onWay_1 rfl (lv_at hl 1 rfl) ?_
  refine lv_iload_n hx hb dX4_onWay_2 rfl (lv_at hl 2 rfl) ?_
  obtain ⟨v1, e_v1, h⟩ := sx_bnd h
  refine cl_X4_37 X hG hP hz hS hs_s0 e_v1 hl.1 dX4_onWay_3 hcs ⟨Nat.le_trans (by decide) hR.1, Nat.le_trans (by decide) hR.2⟩ (Nat.le_of_ble_eq_true rfl) (fun H locs hP hS => ?_)
  refine lv_istore (lv' := [(4, .int v1), (0, .ref (sx_ad C 2 s0)), (1, .int a1), (2, .int a2), (3, .int a3)]) hx hb dX4_onWay_6 hl (by decide) rfl (fun ls hl => ?_)
  refine lv_iload hx hb dX4_onWay_8 (lv_at hl 0 rfl) ?_
  refine lv_bipush (v := (-9 : Int32)) hx hb dX4_onWay_10 (by decide) ?_
  obtain ⟨j21, e_j21, h⟩ := sx_nm h
  have hj21 : ∀ (H : Heap) (locs : List Loc) (ls : Array Slot), lv_has ls 7 [] → sx_W C M0 H → va_S (sx_A C) s.heap H locs → j21 () = some r → W p l e R s m args below meth c H locs 0 0 (sx_Z C (some (.int r)) M0 below args s) (F0 m 21 ls []) := by
    intro  H locs ls hl hP hS h
    subst e_j21
    refine lv_bipush (v := (-9 : Int32)) hx hb dX4_onWay_21 (by decide) ?_
    exact sx_iret X hr hlocks hS hP h dX4_onWay_23
  clear e_j21
  refine lv_icmp_eq (tgt := 21) hx hb dX4_onWay_12 (by decide) (fun c2 => ?_) (fun c2 => ?_)
  · replace h := sx_ifp h c2
    exact hj21 H locs ls (lv_sub hl [] rfl) hP hS h
  · replace h := sx_ifn h c2
    refine lv_iload_n hx hb dX4_onWay_15 rfl (lv_at hl 4 rfl) ?_
    refine lv_iload hx hb dX4_onWay_16 (lv_at hl 0 rfl) ?_
    refine lv_icmp_le (tgt := 24) hx hb dX4_onWay_18 (by decide) (fun c3 => ?_) (fun c3 => ?_)
    · replace h := sx_ifp h c3
      refine lv_iload_n hx hb dX4_onWay_24 rfl (lv_at hl 3 rfl) ?_
      refine lv_istore (lv' := [(5, .int a2), (4, .int v1), (0, .ref (sx_ad C 2 s0)), (1, .int a1), (2, .int a2), (3, .int a3)]) hx hb dX4_onWay_25 hl (by decide) rfl (fun ls hl => ?_)
      refine lv_iload hx hb dX4_onWay_27 (lv_at hl 1 rfl) ?_
      refine lv_iconst (v := (1 : Int32)) hx hb dX4_onWay_29 (by decide) ?_
      refine lv_isub hx hb dX4_onWay_30 ?_
      obtain ⟨v4, e_v4, h⟩ := sx_nm h
      rw [e_v4]
      refine lv_istore (lv' := [(6, .int v4), (5, .int a2), (4, .int v1), (0, .ref (sx_ad C 2 s0)), (1, .int a1), (2, .int a2), (3, .int a3)]) hx hb dX4_onWay_31 hl (by decide) rfl (fun ls hl => ?_)
      exact hf4_onWay_L33 s0 a1 a3 hs_s0 5000 a2 v4 H locs ls (lv_sub hl [3, 4, 6, 1, 0] rfl) hP hS h
    · replace h := sx_ifn h c3
      exact hj21 H locs ls (lv_sub hl [] rfl) hP hS h
set_option maxRecDepth 100000 in
theorem ct_4_onWay (l : Launch) (C : sx_C) (hG : sx_G C) (s0 : Nat) (a1 : Int32) (a2 : Int32) (a3 : Int32) (hs_s0 : s0 < 18) (M0 : sx_M) (r : Int32) (h : f4_onWay s0 a1 a2 a3 M0 = some r) : Met l yX4_onWay (.code yX4_onWay cX4_onWay 7 (some .int) :: sx_T) ({ frames := 3, cells := 0, slots := 0, locals := 71 } : Room) (sx_Pc C M0 [.ref (sx_ad C 2 s0), .int a1, .int a2, .int a3]) (sx_Q C (some (.int r)) M0) 0 0 (sx_A C) := by
  refine Met.ofW (cc := cX4_onWay) (maxL := 7) (ret := (some .int)) (by decide) rfl ?_
  intro p e s m args below meth c s₁ B hml hv
  obtain ⟨rfl, hz, hP, hK⟩ := hv
  have hl := lv_entry ([.ref (sx_ad C 2 s0), .int a1, .int a2, .int a3]) (n := 7) (Nat.le_of_ble_eq_true rfl)
  rw [lg_entry_eq]
  generalize (lg_sl ([.ref (sx_ad C 2 s0), .int a1, .int a2, .int a3]) ++ List.replicate (7 - (lg_sl ([.ref (sx_ad C 2 s0), .int a1, .int a2, .int a3])).length) Slot.unset).toArray = ls at hl ⊢
  exact wk_4_onWay ⟨B.exec, B.bytes, hml, findClass_of_methodNamed B.named, fun w hw => atoms_spec B.pre w (List.mem_cons_of_mem _ hw), hK⟩ B.returns B.notSynchronized hG hz ⟨Nat.zero_le _, Nat.zero_le _⟩ ⟨Nat.le_refl _, Nat.le_refl _⟩ s0 a1 a2 a3 hs_s0 M0 r h hl hP va_S.rf
theorem cl_X7_211 (X : sx_X C p m c cc nL s args RX7) (hG : sx_G C) (hP : sx_W C M0 H) (hz : sx_sz C ≤ H0.size) (hS : va_S (sx_A C) H0 H locs) {s0 : Nat} {a1 : Int32} {a2 : Int32} {a3 : Int32} (hs_s0 : s0 < 18) {r : Int32} (h : f4_onWay s0 a1 a2 a3 M0 = some r) (hsz : ls.size = nL) (hdg : decode cc pc = .ok (.invokevirtual 211, 3)) (hcs : cells ≤ R.cells ∧ slots ≤ R.slots) (hR : 3 + 1 ≤ R.frames ∧ 8 + (7 + 11) + 71 ≤ R.locals) (hrest : (rest.map fun v => v.category).sum ≤ 8) (kk : ∀ (H1 : Heap) (locs1 : List Loc), sx_W C M0 H1 → va_S (sx_A C) H0 H1 locs1 → W p l e R s m args below meth c H1 locs1 cells slots Q (F0 m (pc + 3) ls ((.int r) :: rest))) : W p l e R s m args below meth c H locs cells slots Q (F0 m pc ls (.int a3 :: .int a2 :: .int a1 :: .ref (sx_ad C 2 s0) :: rest)) :=
  sx_callV (n := 3) (As := [.int a1, .int a2, .int a3]) (k0 := 2) (s0 := s0) X hP hz hS hs_s0 rfl rfl (sx_goodV tw_892 tw_893 tw_894 tw_66 tw_895) (by decide +kernel) rfl rfl hR (ct_4_onWay l C hG s0 a1 a2 a3 hs_s0 M0 r h) rfl rfl hrest hsz hdg hcs kk
end SXM
