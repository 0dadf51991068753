theorem sx_row19 : sx_row 19 := Or.inl rfl
theorem sx_row20 : sx_row 20 := Or.inr (Or.inl rfl)
theorem sx_row21 : sx_row 21 := Or.inr (Or.inr (Or.inl rfl))
theorem sx_row22 : sx_row 22 := Or.inr (Or.inr (Or.inr (Or.inl rfl)))
theorem sx_row23 : sx_row 23 := Or.inr (Or.inr (Or.inr (Or.inr rfl)))
section SXM
variable {p : Program} {l : Launch} {e : Env} {R : Room} {s : State} {m : MethodId} {args : Array Value} {below : List Frame} {meth : Method} {c : Code} {H : Heap} {locs : List Loc} {cells slots : Nat} {Q : State → Prop}
variable {O : Type} {out : O} {C : sx_C} {M M0 : sx_M} {cc : ByteArray} {nL : Nat} {own : String} {pc : Nat} {ls : Array Slot} {rest : List Value} {H0 : Heap}
-- StringShedModel.thrown()I pure
def f8_thrown  (M0 : sx_M) : Option (Int32) :=
  sx_bd (M0.1 17 0 0) fun v1 =>
  some v1
set_option maxRecDepth 100000 in
set_option maxHeartbeats 4000000 in
theorem wk_8_thrown (X : sx_X C p m c cX8_thrown 1 s args RX8) (hr : meth.sig.returnType = (some .int)) (hlocks : meth.locks = false) (hG : sx_G C) (hz : sx_sz C ≤ s.heap.size) (hcs : 0 ≤ R.cells ∧ 0 ≤ R.slots) (hR : 0 ≤ R.frames ∧ 0 ≤ R.locals) (M0 : sx_M) (r : Int32) (h : f8_thrown M0 = some r) (hl : lv_has ls 1 [(0, .ref (sx_ad C 17 0))]) (hP : sx_W C M0 H) (hS : va_S (sx_A C) s.heap H locs) : W p l e R s m args below meth c H locs 0 0 (sx_Z C (some (.int r)) M0 below args s) (F0 m 0 ls []) := by
  obtain ⟨hx, hb, hml, hown, hts, hK⟩ := id X
  rw [f8_thrown] at h
  refine lv_aload_n hx hb dX8_thrown_0 rfl (lv_at hl 0 rfl) ?_
  refine gf_X8_47 X hP (by decide) dX8_thrown_1 h (fun v1 h => ?_)
  exact sx_iret X hr hlocks hS hP h dX8_thrown_4
set_option maxRecDepth 100000 in
theorem ct_8_thrown (l : Launch) (C : sx_C) (hG : sx_G C) (M0 : sx_M) (r : Int32) (h : f8_thrown M0 = some r) : Met l yX8_thrown (.code yX8_thrown cX8_thrown 1 (some .int) :: sx_T) ({ frames := 0, cells := 0, slots := 0, locals := 0 } : Room) (sx_Pc C M0 [.ref (sx_ad C 17 0)]) (sx_Q C (some (.int r)) M0) 0 0 (sx_A C) := by
  refine Met.ofW (cc := cX8_thrown) (maxL := 1) (ret := (some .int)) (by decide) rfl ?_
  intro p e s m args below meth c s₁ B hml hv
  obtain ⟨rfl, hz, hP, hK⟩ := hv
  have hl := lv_entry ([.ref (sx_ad C 17 0)]) (n := 1) (Nat.le_of_ble_eq_true rfl)
  rw [lg_entry_eq]
  generalize (lg_sl ([.ref (sx_ad C 17 0)]) ++ List.replicate (1 - (lg_sl ([.ref (sx_ad C 17 0)])).length) Slot.unset).toArray = ls at hl ⊢
  exact wk_8_thrown ⟨B.exec, B.bytes, hml, findClass_of_methodNamed B.named, fun w hw => atoms_spec B.pre w (List.mem_cons_of_mem _ hw), hK⟩ B.returns B.notSynchronized hG hz ⟨Nat.zero_le _, Nat.zero_le _⟩ ⟨Nat.le_refl _, Nat.le_refl _⟩ M0 r h hl hP va_S.rf
theorem cl_L_98 (X : sx_X C p m c cc nL s args RL) (hG : sx_G C) (hP : sx_W C M0 H) (hz : sx_sz C ≤ H0.size) (hS : va_S (sx_A C) H0 H locs) {r : Int32} (h : f8_thrown M0 = some r) (hsz : ls.size = nL) (hdg : decode cc pc = .ok (.invokevirtual 98, 3)) (hcs : cells ≤ R.cells ∧ slots ≤ R.slots) (hR : 0 + 1 ≤ R.frames ∧ 8 + (1 + 11) + 0 ≤ R.locals) (hrest : (rest.map fun v => v.category).sum ≤ 8) (kk : ∀ (H1 : Heap) (locs1 : List Loc), sx_W C M0 H1 → va_S (sx_A C) H0 H1 locs1 → W p l e R s m args below meth c H1 locs1 cells slots Q (F0 m (pc + 3) ls ((.int r) :: rest))) : W p l e R s m args below meth c H locs cells slots Q (F0 m pc ls (.ref (sx_ad C 17 0) :: rest)) :=
  sx_callV (n := 0) (As := []) (k0 := 17) (s0 := 0) X hP hz hS (by decide) rfl rfl (sx_goodV tw_1026 tw_1027 tw_1028 tw_71 tw_1029) (by decide +kernel) rfl rfl hR (ct_8_thrown l C hG M0 r h) rfl rfl hrest hsz hdg hcs kk
-- StringShedModel.refused(I)Z
def f8_refused (a1 : Int32) (M0 : sx_M) : Option (Int32 × sx_M) :=
  sx_bd (sx_set M0 17 0 0 a1) fun M1 =>
  sx_bd (fun (v2 : Int32) =>
    if v2 = 0 ∨ v2 = 1 then some (v2, M1) else none) fun j14 =>
  if a1 ≤ 0 then
    j14 (0 : Int32)
  else
    j14 (1 : Int32)
set_option maxRecDepth 100000 in
set_option maxHeartbeats 4000000 in
theorem wk_8_refused (X : sx_X C p m c cX8_refused 2 s args RX8) (hr : meth.sig.returnType = (some .boolean)) (hlocks : meth.locks = false) (hG : sx_G C) (hz : sx_sz C ≤ s.heap.size) (hcs : 0 ≤ R.cells ∧ 0 ≤ R.slots) (hR : 0 ≤ R.frames ∧ 0 ≤ R.locals) (a1 : Int32) (M0 : sx_M) (r : Int32) (M' : sx_M) (h : f8_refused a1 M0 = some (r, M')) (hl : lv_has ls 2 [(0, .ref (sx_ad C 17 0)), (1, .int a1)]) (hP : sx_W C M0 H) (hS : va_S (sx_A C) s.heap H locs) : W p l e R s m args below meth c H locs 0 0 (sx_Z C (some (.int r)) M' below args s) (F0 m 0 ls []) := by
  obtain ⟨hx, hb, hml, hown, hts, hK⟩ := id X
  rw [f8_refused] at h
  refine lv_aload_n hx hb dX8_refused_0 rfl (lv_at hl 0 rfl) ?_
  refine lv_iload_n hx hb dX8_refused_1 rfl (lv_at hl 1 rfl) ?_
  refine pf_X8_47 X hG hP hS (by decide) dX8_refused_2 h (fun M1 H locs h hP hS => ?_)
  refine lv_iload_n hx hb dX8_refused_5 rfl (lv_at hl 1 rfl) ?_
  obtain ⟨j14, e_j14, h⟩ := sx_nm h
  have hj14 : ∀ (v2 : Int32) (H : Heap) (locs : List Loc) (ls : Array Slot), lv_has ls 2 [] → sx_W C M1 H → va_S (sx_A C) s.heap H locs → j14 v2 = some (r, M') → W p l e R s m args below meth c H locs 0 0 (sx_Z C (some (.int r)) M' below args s) (F0 m 14 ls [.int v2]) := by
    intro v2 H locs ls hl hP hS h
    subst e_j14
    obtain ⟨hz01, h⟩ := sx_ck h
    exact sx_zretM X hr hlocks hS hP hz01 h dX8_refused_14
  clear e_j14
  refine lv_if_le (tgt := 13) hx hb dX8_refused_6 (by decide) (fun c3 => ?_) (fun c3 => ?_)
  · replace h := sx_ifp h c3
    refine lv_iconst (v := (0 : Int32)) hx hb dX8_refused_13 (by decide) ?_
    exact hj14 (0 : Int32) H locs ls (lv_sub hl [] rfl) hP hS h
  · replace h := sx_ifn h c3
    refine lv_iconst (v := (1 : Int32)) hx hb dX8_refused_9 (by decide) ?_
    refine lv_goto (tgt := 14) hx hb dX8_refused_10 (by decide) ?_
    exact hj14 (1 : Int32) H locs ls (lv_sub hl [] rfl) hP hS h
set_option maxRecDepth 100000 in
theorem ct_8_refused (l : Launch) (C : sx_C) (hG : sx_G C) (a1 : Int32) (M0 : sx_M) (r : Int32) (M' : sx_M) (h : f8_refused a1 M0 = some (r, M')) : Met l yX8_refused (.code yX8_refused cX8_refused 2 (some .boolean) :: sx_T) ({ frames := 0, cells := 0, slots := 0, locals := 0 } : Room) (sx_Pc C M0 [.ref (sx_ad C 17 0), .int a1]) (sx_Q C (some (.int r)) M') 0 0 (sx_A C) := by
  refine Met.ofW (cc := cX8_refused) (maxL := 2) (ret := (some .boolean)) (by decide) rfl ?_
  intro p e s m args below meth c s₁ B hml hv
  obtain ⟨rfl, hz, hP, hK⟩ := hv
  have hl := lv_entry ([.ref (sx_ad C 17 0), .int a1]) (n := 2) (Nat.le_of_ble_eq_true rfl)
  rw [lg_entry_eq]
  generalize (lg_sl ([.ref (sx_ad C 17 0), .int a1]) ++ List.replicate (2 - (lg_sl ([.ref (sx_ad C 17 0), .int a1])).length) Slot.unset).toArray = ls at hl ⊢
  exact wk_8_refused ⟨B.exec, B.bytes, hml, findClass_of_methodNamed B.named, fun w hw => atoms_spec B.pre w (List.mem_cons_of_mem _ hw), hK⟩ B.returns B.notSynchronized hG hz ⟨Nat.zero_le _, Nat.zero_le _⟩ ⟨Nat.le_refl _, Nat.le_refl _⟩ a1 M0 r M' h hl hP va_S.rf
theorem cl_X8_111 (X : sx_X C p m c cc nL s args RX8) (hG : sx_G C) (hP : sx_W C M0 H) (hz : sx_sz C ≤ H0.size) (hS : va_S (sx_A C) H0 H locs) {a1 : Int32} {r : Int32} {M' : sx_M} (h : f8_refused a1 M0 = some (r, M')) (hsz : ls.size = nL) (hdg : decode cc pc = .ok (.invokevirtual 111, 3)) (hcs : cells ≤ R.cells ∧ slots ≤ R.slots) (hR : 0 + 1 ≤ R.frames ∧ 8 + (2 + 11) + 0 ≤ R.locals) (hrest : (rest.map fun v => v.category).sum ≤ 8) (kk : ∀ (H1 : Heap) (locs1 : List Loc), sx_W C M' H1 → va_S (sx_A C) H0 H1 locs1 → W p l e R s m args below meth c H1 locs1 cells slots Q (F0 m (pc + 3) ls ((.int r) :: rest))) : W p l e R s m args below meth c H locs cells slots Q (F0 m pc ls (.int a1 :: .ref (sx_ad C 17 0) :: rest)) :=
  sx_callV (n := 1) (As := [.int a1]) (k0 := 17) (s0 := 0) X hP hz hS (by decide) rfl rfl (sx_goodV tw_1038 tw_1040 tw_24 tw_71 tw_1041) (by decide +kernel) rfl rfl hR (ct_8_refused l C hG a1 M0 r M' h) rfl rfl hrest hsz hdg hcs kk
-- StringShedModel.in(JJJ)Z pure
def f8_in (a0 : Int64) (a2 : Int64) (a4 : Int64) (M0 : sx_M) : Option (Int32) :=
  sx_bd (fun (v1 : Int32) =>
    if v1 = 0 ∨ v1 = 1 then some v1 else none) fun j18 =>
  sx_bd (fun (_ : Unit) =>
    j18 (0 : Int32)) fun j17 =>
  if (lg_cmp a0 a2) < 0 then
    j17 ()
  else
    if 0 < (lg_cmp a0 a4) then
      j17 ()
    else
      j18 (1 : Int32)
set_option maxRecDepth 100000 in
set_option maxHeartbeats 4000000 in
theorem wk_8_in (X : sx_X C p m c cX8_in 6 s args RX8) (hr : meth.sig.returnType = (some .boolean)) (hlocks : meth.locks = false) (hG : sx_G C) (hz : sx_sz C ≤ s.heap.size) (hcs : 0 ≤ R.cells ∧ 0 ≤ R.slots) (hR : 0 ≤ R.frames ∧ 0 ≤ R.locals) (a0 : Int64) (a2 : Int64) (a4 : Int64) (M0 : sx_M) (r : Int32) (h : f8_in a0 a2 a4 M0 = some r) (hl : lv_has ls 6 [(0, .long a0), (2, .long a2), (4, .long a4)]) (hP : sx_W C M0 H) (hS : va_S (sx_A C) s.heap H locs) : W p l e R s m args below meth c H locs 0 0 (sx_Z C (some (.int r)) M0 below args s) (F0 m 0 ls []) := by
  obtain ⟨hx, hb, hml, hown, hts, hK⟩ := id X
  rw [f8_in] at h
  refine lv_lload_n hx hb dX8_in_0 rfl (lv_at hl 0 rfl) ?_
  refine lv_lload_n hx hb dX8_in_1 rfl (lv_at hl 1 rfl) ?_
  refine W.lcmp hx hb dX8_in_2 ?_
  obtain ⟨j18, e_j18, h⟩ := sx_nm h
  have hj18 : ∀ (v1 : Int32) (H : Heap) (locs : List Loc) (ls : Array Slot), lv_has ls 6 [] → sx_W C M0 H → va_S (sx_A C) s.heap H locs → j18 v1 = some r → W p l e R s m args below meth c H locs 0 0 (sx_Z C (some (.int r)) M0 below args s) (F0 m 18 ls [.int v1]) := by
    intro v1 H locs ls hl hP hS h
    subst e_j18
    obtain ⟨hz01, h⟩ := sx_ck h
    exact sx_zret X hr hlocks hS hP hz01 h dX8_in_18
  clear e_j18
  obtain ⟨j17, e_j17, h⟩ := sx_nm h
  have hj17 : ∀ (H : Heap) (locs : List Loc) (ls : Array Slot), lv_has ls 6 [] → sx_W C M0 H → va_S (sx_A C) s.heap H locs → j17 () = some r → W p l e R s m args below meth c H locs 0 0 (sx_Z C (some (.int r)) M0 below args s) (F0 m 17 ls []) := by
    intro  H locs ls hl hP hS h
    subst e_j17
    refine lv_iconst (v := (0 : Int32)) hx hb dX8_in_17 (by decide) ?_
    exact hj18 (0 : Int32) H locs ls (lv_sub hl [] rfl) hP hS h
  clear e_j17
  refine lv_if_lt (tgt := 17) hx hb dX8_in_3 (by decide) (fun c2 => ?_) (fun c2 => ?_)
  · replace h := sx_ifp h c2
    exact hj17 H locs ls (lv_sub hl [] rfl) hP hS h
  · replace h := sx_ifn h c2
    refine lv_lload_n hx hb dX8_in_6 rfl (lv_at hl 0 rfl) ?_
    refine lv_lload hx hb dX8_in_7 (lv_at hl 2 rfl) ?_
    refine W.lcmp hx hb dX8_in_9 ?_
    refine lv_if_gt (tgt := 17) hx hb dX8_in_10 (by decide) (fun c3 => ?_) (fun c3 => ?_)
    · replace h := sx_ifp h c3
      exact hj17 H locs ls (lv_sub hl [] rfl) hP hS h
    · replace h := sx_ifn h c3
      refine lv_iconst (v := (1 : Int32)) hx hb dX8_in_13 (by decide) ?_
      refine lv_goto (tgt := 18) hx hb dX8_in_14 (by decide) ?_
      exact hj18 (1 : Int32) H locs ls (lv_sub hl [] rfl) hP hS h
set_option maxRecDepth 100000 in
theorem ct_8_in (l : Launch) (C : sx_C) (hG : sx_G C) (a0 : Int64) (a2 : Int64) (a4 : Int64) (M0 : sx_M) (r : Int32) (h : f8_in a0 a2 a4 M0 = some r) : Met l yX8_in (.code yX8_in cX8_in 6 (some .boolean) :: sx_T) ({ frames := 0, cells := 0, slots := 0, locals := 0 } : Room) (sx_Pc C M0 [.long a0, .long a2, .long a4]) (sx_Q C (some (.int r)) M0) 0 0 (sx_A C) := by
  refine Met.ofW (cc := cX8_in) (maxL := 6) (ret := (some .boolean)) (by decide) rfl ?_
  intro p e s m args below meth c s₁ B hml hv
  obtain ⟨rfl, hz, hP, hK⟩ := hv
  have hl := lv_entry ([.long a0, .long a2, .long a4]) (n := 6) (Nat.le_of_ble_eq_true rfl)
  rw [lg_entry_eq]
  generalize (lg_sl ([.long a0, .long a2, .long a4]) ++ List.replicate (6 - (lg_sl ([.long a0, .long a2, .long a4])).length) Slot.unset).toArray = ls at hl ⊢
  exact wk_8_in ⟨B.exec, B.bytes, hml, findClass_of_methodNamed B.named, fun w hw => atoms_spec B.pre w (List.mem_cons_of_mem _ hw), hK⟩ B.returns B.notSynchronized hG hz ⟨Nat.zero_le _, Nat.zero_le _⟩ ⟨Nat.le_refl _, Nat.le_refl _⟩ a0 a2 a4 M0 r h hl hP va_S.rf
theorem cl_X8_60 (X : sx_X C p m c cc nL s args RX8) (hG : sx_G C) (hP : sx_W C M0 H) (hz : sx_sz C ≤ H0.size) (hS : va_S (sx_A C) H0 H locs) {a0 : Int64} {a2 : Int64} {a4 : Int64} {r : Int32} (h : f8_in a0 a2 a4 M0 = some r) (hsz : ls.size = nL) (hdg : decode cc pc = .ok (.invokestatic 60, 3)) (hcs : cells ≤ R.cells ∧ slots ≤ R.slots) (hR : 0 + 1 ≤ R.frames ∧ 8 + (6 + 11) + 0 ≤ R.locals) (hrest : (rest.map fun v => v.category).sum ≤ 8) (kk : ∀ (H1 : Heap) (locs1 : List Loc), sx_W C M0 H1 → va_S (sx_A C) H0 H1 locs1 → W p l e R s m args below meth c H1 locs1 cells slots Q (F0 m (pc + 3) ls ((.int r) :: rest))) : W p l e R s m args below meth c H locs cells slots Q (F0 m pc ls (.long a4 :: .long a2 :: .long a0 :: rest)) :=
  sx_callS (n := 3) (As := [.long a0, .long a2, .long a4]) X hP hz hS (sx_goodS tw_1035 tw_1036 tw_71 tw_1037) (by decide +kernel) rfl rfl hR (ct_8_in l C hG a0 a2 a4 M0 r h) rfl rfl hrest hsz hdg hcs kk
-- StringShedModel.copy([II[III)V
def f8_copy_L3 (r0 : Nat) (w1 : Int32) (r2 : Nat) (w3 : Int32) (w4 : Int32) : Nat → Int32 → sx_M → Option (sx_M)
  | 0, _, _ => none
  | n + 1, x5, M =>
    if w4 ≤ x5 then
      some M
    else
      if sx_in (w1 + x5) (sx_len r0) then
      sx_bd (M.1 r0 0 (w1 + x5).toNatClampNeg) fun v2 =>
      if sx_in (w3 + x5) (sx_len r2) then
      sx_bd (sx_set M r2 0 (w3 + x5).toNatClampNeg v2) fun M3 =>
      sx_bd (x5 + (1 : Int32)) fun v4 =>
      f8_copy_L3 r0 w1 r2 w3 w4 n v4 M3
      else none
      else none
def f8_copy (r0 : Nat) (a1 : Int32) (r2 : Nat) (a3 : Int32) (a4 : Int32) (M0 : sx_M) : Option (sx_M) :=
  f8_copy_L3 r0 a1 r2 a3 a4
    5000 (0 : Int32) M0
set_option maxRecDepth 100000 in
set_option maxHeartbeats 4000000 in
theorem wk_8_copy (X : sx_X C p m c cX8_copy 6 s args RX8) (hr : meth.sig.returnType = none) (hlocks : meth.locks = false) (hG : sx_G C) (hz : sx_sz C ≤ s.heap.size) (hcs : 0 ≤ R.cells ∧ 0 ≤ R.slots) (hR : 0 ≤ R.frames ∧ 0 ≤ R.locals) (r0 : Nat) (a1 : Int32) (r2 : Nat) (a3 : Int32) (a4 : Int32) (hk_r0 : sx_row r0) (hk_r2 : sx_row r2) (M0 : sx_M) (M' : sx_M) (h : f8_copy r0 a1 r2 a3 a4 M0 = some M') (hl : lv_has ls 6 [(0, .ref (sx_ad C r0 0)), (1, .int a1), (2, .ref (sx_ad C r2 0)), (3, .int a3), (4, .int a4)]) (hP : sx_W C M0 H) (hS : va_S (sx_A C) s.heap H locs) : W p l e R s m args below meth c H locs 0 0 (sx_Z C none M' below args s) (F0 m 0 ls []) := by
  obtain ⟨hx, hb, hml, hown, hts, hK⟩ := id X
  rw [f8_copy] at h
  have hf8_copy_L3 : ∀ (r0 : Nat) (w1 : Int32) (r2 : Nat) (w3 : Int32) (w4 : Int32) (hk_r0 : sx_row r0) (hk_r2 : sx_row r2) (n : Nat) (x5 : Int32) (M : sx_M) (H : Heap) (locs : List Loc) (ls : Array Slot), lv_has ls 6 [(0, .ref (sx_ad C r0 0)), (1, .int w1), (2, .ref (sx_ad C r2 0)), (3, .int w3), (4, .int w4), (5, .int x5)] → sx_W C M H → va_S (sx_A C) s.heap H locs → f8_copy_L3 r0 w1 r2 w3 w4 n x5 M = some M' → W p l e R s m args below meth c H locs 0 0 (sx_Z C none M' below args s) (F0 m 3 ls []) := by
    intro r0 w1 r2 w3 w4 hk_r0 hk_r2 n
    induction n with
    | zero => intro x5 M H locs ls hl hP hS h; exact absurd (show (none : Option (sx_M)) = some M' from h) (fun q => nomatch q)
    | succ n ih =>
      intro x5 M H locs ls hl hP hS h
      rw [f8_copy_L3] at h
      refine lv_iload hx hb dX8_copy_3 (lv_at hl 5 rfl) ?_
      refine lv_iload hx hb dX8_copy_5 (lv_at hl 4 rfl) ?_
      refine lv_icmp_ge (tgt := 28) hx hb dX8_copy_7 (by decide) (fun c1 => ?_) (fun c1 => ?_)
      · replace h := sx_ifp h c1
        exact sx_vret X hr hlocks hS hP h dX8_copy_28
      · replace h := sx_ifn h c1
        refine lv_aload_n hx hb dX8_copy_10 rfl (lv_at hl 2 rfl) ?_
        refine lv_iload_n hx hb dX8_copy_11 rfl (lv_at hl 3 rfl) ?_
        refine lv_iload hx hb dX8_copy_12 (lv_at hl 5 rfl) ?_
        refine lv_iadd hx hb dX8_copy_14 ?_
        refine lv_aload_n hx hb dX8_copy_15 rfl (lv_at hl 0 rfl) ?_
        refine lv_iload_n hx hb dX8_copy_16 rfl (lv_at hl 1 rfl) ?_
        refine lv_iload hx hb dX8_copy_17 (lv_at hl 5 rfl) ?_
        refine lv_iadd hx hb dX8_copy_19 ?_
        refine sx_iald X hP r0 0 (sx_len r0) (sx_row_cnt hk_r0) (fun _ _ => sx_row_E hk_r0) dX8_copy_20 h (fun v2 h => ?_)
        refine sx_iast X hG hP hS r2 0 (sx_len r2) (sx_row_cnt hk_r2) (fun _ _ => sx_row_E hk_r2) dX8_copy_21 h (fun M3 H locs h hP hS => ?_)
        obtain ⟨v4, e_v4, h⟩ := sx_nm h
        refine lv_iinc (v := v4) (lv' := [(5, .int v4), (0, .ref (sx_ad C r0 0)), (1, .int w1), (2, .ref (sx_ad C r2 0)), (3, .int w3), (4, .int w4)]) hx hb dX8_copy_22 hl (k := 5) rfl (by rw [← e_v4]; rfl) (by decide) rfl (fun ls hl => ?_)
        refine lv_goto (tgt := 3) hx hb dX8_copy_25 (by decide) ?_
        exact ih v4 M3 H locs ls (lv_sub hl [1, 2, 3, 4, 5, 0] rfl) hP hS h
  refine lv_iconst (v := (0 : Int32)) hx hb dX8_copy_0 (by decide) ?_
  refine lv_istore (lv' := [(5, .int (0 : Int32)), (0, .ref (sx_ad C r0 0)), (1, .int a1), (2, .ref (sx_ad C r2 0)), (3, .int a3), (4, .int a4)]) hx hb dX8_copy_1 hl (by decide) rfl (fun ls hl => ?_)
  exact hf8_copy_L3 r0 a1 r2 a3 a4 hk_r0 hk_r2 5000 (0 : Int32) M0 H locs ls (lv_sub hl [1, 2, 3, 4, 5, 0] rfl) hP hS h
set_option maxRecDepth 100000 in
theorem ct_8_copy (l : Launch) (C : sx_C) (hG : sx_G C) (r0 : Nat) (a1 : Int32) (r2 : Nat) (a3 : Int32) (a4 : Int32) (hk_r0 : sx_row r0) (hk_r2 : sx_row r2) (M0 : sx_M) (M' : sx_M) (h : f8_copy r0 a1 r2 a3 a4 M0 = some M') : Met l yX8_copy (.code yX8_copy cX8_copy 6 none :: sx_T) ({ frames := 0, cells := 0, slots := 0, locals := 0 } : Room) (sx_Pc C M0 [.ref (sx_ad C r0 0), .int a1, .ref (sx_ad C r2 0), .int a3, .int a4]) (sx_Q C none M') 0 0 (sx_A C) := by
  refine Met.ofW (cc := cX8_copy) (maxL := 6) (ret := none) (by decide) rfl ?_
  intro p e s m args below meth c s₁ B hml hv
  obtain ⟨rfl, hz, hP, hK⟩ := hv
  have hl := lv_entry ([.ref (sx_ad C r0 0), .int a1, .ref (sx_ad C r2 0), .int a3, .int a4]) (n := 6) (Nat.le_of_ble_eq_true rfl)
  rw [lg_entry_eq]
  generalize (lg_sl ([.ref (sx_ad C r0 0), .int a1, .ref (sx_ad C r2 0), .int a3, .int a4]) ++ List.replicate (6 - (lg_sl ([.ref (sx_ad C r0 0), .int a1, .ref (sx_ad C r2 0), .int a3, .int a4])).length) Slot.unset).toArray = ls at hl ⊢
  exact wk_8_copy ⟨B.exec, B.bytes, hml, findClass_of_methodNamed B.named, fun w hw => atoms_spec B.pre w (List.mem_cons_of_mem _ hw), hK⟩ B.returns B.notSynchronized hG hz ⟨Nat.zero_le _, Nat.zero_le _⟩ ⟨Nat.le_refl _, Nat.le_refl _⟩ r0 a1 r2 a3 a4 hk_r0 hk_r2 M0 M' h hl hP va_S.rf
theorem cl_X8_56 (X : sx_X C p m c cc nL s args RX8) (hG : sx_G C) (hP : sx_W C M0 H) (hz : sx_sz C ≤ H0.size) (hS : va_S (sx_A C) H0 H locs) {r0 : Nat} {a1 : Int32} {r2 : Nat} {a3 : Int32} {a4 : Int32} (hk_r0 : sx_row r0) (hk_r2 : sx_row r2) {M' : sx_M} (h : f8_copy r0 a1 r2 a3 a4 M0 = some M') (hsz : ls.size = nL) (hdg : decode cc pc = .ok (.invokestatic 56, 3)) (hcs : cells ≤ R.cells ∧ slots ≤ R.slots) (hR : 0 + 1 ≤ R.frames ∧ 8 + (6 + 11) + 0 ≤ R.locals) (hrest : (rest.map fun v => v.category).sum ≤ 8) (kk : ∀ (H1 : Heap) (locs1 : List Loc), sx_W C M' H1 → va_S (sx_A C) H0 H1 locs1 → W p l e R s m args below meth c H1 locs1 cells slots Q (F0 m (pc + 3) ls (rest))) : W p l e R s m args below meth c H locs cells slots Q (F0 m pc ls (.int a4 :: .int a3 :: .ref (sx_ad C r2 0) :: .int a1 :: .ref (sx_ad C r0 0) :: rest)) :=
  sx_callS (n := 5) (As := [.ref (sx_ad C r0 0), .int a1, .ref (sx_ad C r2 0), .int a3, .int a4]) X hP hz hS (sx_goodS tw_1127 tw_1128 tw_71 tw_1129) (by decide +kernel) rfl rfl hR (ct_8_copy l C hG r0 a1 r2 a3 a4 hk_r0 hk_r2 M0 M' h) rfl rfl hrest hsz hdg hcs kk
-- StringShedModel.tenTo(I)J pure
def f8_tenTo_L4 (w0 : Int32) (M0 : sx_M) : Nat → Int64 → Int32 → Option (Int64)
  | 0, _, _ => none
  | n + 1, x1, x3 =>
    if w0 ≤ x3 then
      some x1
    else
      sx_bd (x1 * (10 : Int64)) fun v2 =>
      sx_bd (x3 + (1 : Int32)) fun v3 =>
      f8_tenTo_L4 w0 M0 n v2 v3
def f8_tenTo (a0 : Int32) (M0 : sx_M) : Option (Int64) :=
  f8_tenTo_L4 a0 M0
    5000 (1 : Int64) (0 : Int32)
set_option maxRecDepth 100000 in
set_option maxHeartbeats 4000000 in
theorem wk_8_tenTo (X : sx_X C p m c cX8_tenTo 4 s args RX8) (hr : meth.sig.returnType = (some .long)) (hlocks : meth.locks = false) (hG : sx_G C) (hz : sx_sz C ≤ s.heap.size) (hcs : 0 ≤ R.cells ∧ 0 ≤ R.slots) (hR : 0 ≤ R.frames ∧ 0 ≤ R.locals) (a0 : Int32) (M0 : sx_M) (r : Int64) (h : f8_tenTo a0 M0 = some r) (hl : lv_has ls 4 [(0, .int a0)]) (hP : sx_W C M0 H) (hS : va_S (sx_A C) s.heap H locs) : W p l e R s m args below meth c H locs 0 0 (sx_Z C (some (.long r)) M0 below args s) (F0 m 0 ls []) := by
  obtain ⟨hx, hb, hml, hown, hts, hK⟩ := id X
  rw [f8_tenTo] at h
  have hf8_tenTo_L4 : ∀ (w0 : Int32) (n : Nat) (x1 : Int64) (x3 : Int32) (H : Heap) (locs : List Loc) (ls : Array Slot), lv_has ls 4 [(0, .int w0), (1, .long x1), (3, .int x3)] → sx_W C M0 H → va_S (sx_A C) s.heap H locs → f8_tenTo_L4 w0 M0 n x1 x3 = some r → W p l e R s m args below meth c H locs 0 0 (sx_Z C (some (.long r)) M0 below args s) (F0 m 4 ls []) := by
    intro w0 n
    induction n with
    | zero => intro x1 x3 H locs ls hl hP hS h; exact absurd (show (none : Option (Int64)) = some r from h) (fun q => nomatch q)
    | succ n ih =>
      intro x1 x3 H locs ls hl hP hS h
      rw [f8_tenTo_L4] at h
      refine lv_iload_n hx hb dX8_tenTo_4 rfl (lv_at hl 2 rfl) ?_
      refine lv_iload_n hx hb dX8_tenTo_5 rfl (lv_at hl 0 rfl) ?_
      refine lv_icmp_ge (tgt := 21) hx hb dX8_tenTo_6 (by decide) (fun c1 => ?_) (fun c1 => ?_)
      · replace h := sx_ifp h c1
        refine lv_lload_n hx hb dX8_tenTo_21 rfl (lv_at hl 1 rfl) ?_
        exact sx_lret X hr hlocks hS hP h dX8_tenTo_22
      · replace h := sx_ifn h c1
        refine lv_lload_n hx hb dX8_tenTo_9 rfl (lv_at hl 1 rfl) ?_
        refine lv_ldc2 (v := (10 : Int64)) hx hb hown (hts _ tw_1314) dX8_tenTo_10 ?_
        refine lv_lmul hx hb dX8_tenTo_13 ?_
        obtain ⟨v2, e_v2, h⟩ := sx_nm h
        rw [e_v2]
        refine lv_lstore_n (lv' := [(1, .long v2), (0, .int w0), (3, .int x3)]) hx hb dX8_tenTo_14 rfl hl (by decide) rfl (fun ls hl => ?_)
        obtain ⟨v3, e_v3, h⟩ := sx_nm h
        refine lv_iinc (v := v3) (lv' := [(3, .int v3), (1, .long v2), (0, .int w0)]) hx hb dX8_tenTo_15 hl (k := 2) rfl (by rw [← e_v3]; rfl) (by decide) rfl (fun ls hl => ?_)
        refine lv_goto (tgt := 4) hx hb dX8_tenTo_18 (by decide) ?_
        exact ih v2 v3 H locs ls (lv_sub hl [2, 1, 0] rfl) hP hS h
  refine lv_lconst (v := (1 : Int64)) hx hb dX8_tenTo_0 (by decide) ?_
  refine lv_lstore_n (lv' := [(1, .long (1 : Int64)), (0, .int a0)]) hx hb dX8_tenTo_1 rfl hl (by decide) rfl (fun ls hl => ?_)
  refine lv_iconst (v := (0 : Int32)) hx hb dX8_tenTo_2 (by decide) ?_
  refine lv_istore_n (lv' := [(3, .int (0 : Int32)), (1, .long (1 : Int64)), (0, .int a0)]) hx hb dX8_tenTo_3 rfl hl (by decide) rfl (fun ls hl => ?_)
  exact hf8_tenTo_L4 a0 5000 (1 : Int64) (0 : Int32) H locs ls (lv_sub hl [2, 1, 0] rfl) hP hS h
set_option maxRecDepth 100000 in
theorem ct_8_tenTo (l : Launch) (C : sx_C) (hG : sx_G C) (a0 : Int32) (M0 : sx_M) (r : Int64) (h : f8_tenTo a0 M0 = some r) : Met l yX8_tenTo (.code yX8_tenTo cX8_tenTo 4 (some .long) :: sx_T) ({ frames := 0, cells := 0, slots := 0, locals := 0 } : Room) (sx_Pc C M0 [.int a0]) (sx_Q C (some (.long r)) M0) 0 0 (sx_A C) := by
  refine Met.ofW (cc := cX8_tenTo) (maxL := 4) (ret := (some .long)) (by decide) rfl ?_
  intro p e s m args below meth c s₁ B hml hv
  obtain ⟨rfl, hz, hP, hK⟩ := hv
  have hl := lv_entry ([.int a0]) (n := 4) (Nat.le_of_ble_eq_true rfl)
  rw [lg_entry_eq]
  generalize (lg_sl ([.int a0]) ++ List.replicate (4 - (lg_sl ([.int a0])).length) Slot.unset).toArray = ls at hl ⊢
  exact wk_8_tenTo ⟨B.exec, B.bytes, hml, findClass_of_methodNamed B.named, fun w hw => atoms_spec B.pre w (List.mem_cons_of_mem _ hw), hK⟩ B.returns B.notSynchronized hG hz ⟨Nat.zero_le _, Nat.zero_le _⟩ ⟨Nat.le_refl _, Nat.le_refl _⟩ a0 M0 r h hl hP va_S.rf
theorem cl_X8_280 (X : sx_X C p m c cc nL s args RX8) (hG : sx_G C) (hP : sx_W C M0 H) (hz : sx_sz C ≤ H0.size) (hS : va_S (sx_A C) H0 H locs) {a0 : Int32} {r : Int64} (h : f8_tenTo a0 M0 = some r) (hsz : ls.size = nL) (hdg : decode cc pc = .ok (.invokestatic 280, 3)) (hcs : cells ≤ R.cells ∧ slots ≤ R.slots) (hR : 0 + 1 ≤ R.frames ∧ 8 + (4 + 11) + 0 ≤ R.locals) (hrest : (rest.map fun v => v.category).sum ≤ 8) (kk : ∀ (H1 : Heap) (locs1 : List Loc), sx_W C M0 H1 → va_S (sx_A C) H0 H1 locs1 → W p l e R s m args below meth c H1 locs1 cells slots Q (F0 m (pc + 3) ls ((.long r) :: rest))) : W p l e R s m args below meth c H locs cells slots Q (F0 m pc ls (.int a0 :: rest)) :=
  sx_callS (n := 1) (As := [.int a0]) X hP hz hS (sx_goodS tw_1311 tw_1312 tw_71 tw_1313) (by decide +kernel) rfl rfl hR (ct_8_tenTo l C hG a0 M0 r h) rfl rfl hrest hsz hdg hcs kk
-- StringShedModel.remember()V
def f8_remember  (M0 : sx_M) : Option (sx_M) :=
  sx_bd (M0.1 17 0 10) fun v1 =>
  sx_bd (fun (M2 : sx_M) =>
    sx_bd (M2.1 17 0 10) fun v3 =>
    (f8_copy 20 (0 : Int32) 22 ((247 : Int32) * v3) (247 : Int32) M2).bind fun M4 =>
    sx_bd (M4.1 17 0 10) fun v5 =>
    sx_bd (sx_set M4 17 0 10 (v5 + (1 : Int32))) fun M6 =>
    some M6) fun j37 =>
  if v1 = (14 : Int32) then
    (f8_copy 22 (247 : Int32) 22 (0 : Int32) (3211 : Int32) M0).bind fun M8 =>
    sx_bd (M8.1 17 0 10) fun v9 =>
    sx_bd (sx_set M8 17 0 10 (v9 - (1 : Int32))) fun M10 =>
    j37 M10
  else
    j37 M0
set_option maxRecDepth 100000 in
set_option maxHeartbeats 4000000 in
theorem wk_8_remember (X : sx_X C p m c cX8_remember 1 s args RX8) (hr : meth.sig.returnType = none) (hlocks : meth.locks = false) (hG : sx_G C) (hz : sx_sz C ≤ s.heap.size) (hcs : 0 ≤ R.cells ∧ 0 ≤ R.slots) (hR : 1 ≤ R.frames ∧ 25 ≤ R.locals) (M0 : sx_M) (M' : sx_M) (h : f8_remember M0 = some M') (hl : lv_has ls 1 [(0, .ref (sx_ad C 17 0))]) (hP : sx_W C M0 H) (hS : va_S (sx_A C) s.heap H locs) : W p l e R s m args below meth c H locs 0 0 (sx_Z C none M' below args s) (F0 m 0 ls []) := by
  obtain ⟨hx, hb, hml, hown, hts, hK⟩ := id X
  rw [f8_remember] at h
  refine lv_aload_n hx hb dX8_remember_0 rfl (lv_at hl 0 rfl) ?_
  refine gf_X8_53 X hP (by decide) dX8_remember_1 h (fun v1 h => ?_)
  refine lv_bipush (v := (14 : Int32)) hx hb dX8_remember_4 (by decide) ?_
  obtain ⟨j37, e_j37, h⟩ := sx_nm h
  have hj37 : ∀ (M2 : sx_M) (H : Heap) (locs : List Loc) (ls : Array Slot), lv_has ls 1 [(0, .ref (sx_ad C 17 0))] → sx_W C M2 H → va_S (sx_A C) s.heap H locs → j37 M2 = some M' → W p l e R s m args below meth c H locs 0 0 (sx_Z C none M' below args s) (F0 m 37 ls []) := by
    intro M2 H locs ls hl hP hS h
    subst e_j37
    refine lv_aload_n hx hb dX8_remember_37 rfl (lv_at hl 0 rfl) ?_
    refine gf_X8_16 X hP (by decide) dX8_remember_38 ?_
    refine lv_iconst (v := (0 : Int32)) hx hb dX8_remember_41 (by decide) ?_
    refine lv_aload_n hx hb dX8_remember_42 rfl (lv_at hl 0 rfl) ?_
    refine gf_X8_22 X hP (by decide) dX8_remember_43 ?_
    refine lv_sipush (v := (247 : Int32)) hx hb dX8_remember_46 (by decide) ?_
    refine lv_aload_n hx hb dX8_remember_49 rfl (lv_at hl 0 rfl) ?_
    refine gf_X8_53 X hP (by decide) dX8_remember_50 h (fun v3 h => ?_)
    refine lv_imul hx hb dX8_remember_53 ?_
    refine lv_sipush (v := (247 : Int32)) hx hb dX8_remember_54 (by decide) ?_
    obtain ⟨M4, e_M4, h⟩ := sx_bnd h
    refine cl_X8_56 X hG hP hz hS sx_row20 sx_row22 e_M4 hl.1 dX8_remember_57 hcs ⟨Nat.le_trans (by decide) hR.1, Nat.le_trans (by decide) hR.2⟩ (Nat.le_of_ble_eq_true rfl) (fun H locs hP hS => ?_)
    refine lv_aload_n hx hb dX8_remember_60 rfl (lv_at hl 0 rfl) ?_
    refine lv_dup hx hb dX8_remember_61 rfl ?_
    refine gf_X8_53 X hP (by decide) dX8_remember_62 h (fun v5 h => ?_)
    refine lv_iconst (v := (1 : Int32)) hx hb dX8_remember_65 (by decide) ?_
    refine lv_iadd hx hb dX8_remember_66 ?_
    refine pf_X8_53 X hG hP hS (by decide) dX8_remember_67 h (fun M6 H locs h hP hS => ?_)
    exact sx_vret X hr hlocks hS hP h dX8_remember_70
  clear e_j37
  refine lv_icmp_ne (tgt := 37) hx hb dX8_remember_6 (by decide) (fun c7 => ?_) (fun c7 => ?_)
  · replace h := sx_ifn h c7
    exact hj37 M0 H locs ls (lv_sub hl [0] rfl) hP hS h
  · replace h := sx_ifp h c7
    refine lv_aload_n hx hb dX8_remember_9 rfl (lv_at hl 0 rfl) ?_
    refine gf_X8_22 X hP (by decide) dX8_remember_10 ?_
    refine lv_sipush (v := (247 : Int32)) hx hb dX8_remember_13 (by decide) ?_
    refine lv_aload_n hx hb dX8_remember_16 rfl (lv_at hl 0 rfl) ?_
    refine gf_X8_22 X hP (by decide) dX8_remember_17 ?_
    refine lv_iconst (v := (0 : Int32)) hx hb dX8_remember_20 (by decide) ?_
    refine lv_sipush (v := (3211 : Int32)) hx hb dX8_remember_21 (by decide) ?_
    obtain ⟨M8, e_M8, h⟩ := sx_bnd h
    refine cl_X8_56 X hG hP hz hS sx_row22 sx_row22 e_M8 hl.1 dX8_remember_24 hcs ⟨Nat.le_trans (by decide) hR.1, Nat.le_trans (by decide) hR.2⟩ (Nat.le_of_ble_eq_true rfl) (fun H locs hP hS => ?_)
    refine lv_aload_n hx hb dX8_remember_27 rfl (lv_at hl 0 rfl) ?_
    refine lv_dup hx hb dX8_remember_28 rfl ?_
    refine gf_X8_53 X hP (by decide) dX8_remember_29 h (fun v9 h => ?_)
    refine lv_iconst (v := (1 : Int32)) hx hb dX8_remember_32 (by decide) ?_
    refine lv_isub hx hb dX8_remember_33 ?_
    refine pf_X8_53 X hG hP hS (by decide) dX8_remember_34 h (fun M10 H locs h hP hS => ?_)
    exact hj37 M10 H locs ls (lv_sub hl [0] rfl) hP hS h
set_option maxRecDepth 100000 in
theorem ct_8_remember (l : Launch) (C : sx_C) (hG : sx_G C) (M0 : sx_M) (M' : sx_M) (h : f8_remember M0 = some M') : Met l yX8_remember (.code yX8_remember cX8_remember 1 none :: sx_T) ({ frames := 1, cells := 0, slots := 0, locals := 25 } : Room) (sx_Pc C M0 [.ref (sx_ad C 17 0)]) (sx_Q C none M') 0 0 (sx_A C) := by
  refine Met.ofW (cc := cX8_remember) (maxL := 1) (ret := none) (by decide) rfl ?_
  intro p e s m args below meth c s₁ B hml hv
  obtain ⟨rfl, hz, hP, hK⟩ := hv
  have hl := lv_entry ([.ref (sx_ad C 17 0)]) (n := 1) (Nat.le_of_ble_eq_true rfl)
  rw [lg_entry_eq]
  generalize (lg_sl ([.ref (sx_ad C 17 0)]) ++ List.replicate (1 - (lg_sl ([.ref (sx_ad C 17 0)])).length) Slot.unset).toArray = ls at hl ⊢
  exact wk_8_remember ⟨B.exec, B.bytes, hml, findClass_of_methodNamed B.named, fun w hw => atoms_spec B.pre w (List.mem_cons_of_mem _ hw), hK⟩ B.returns B.notSynchronized hG hz ⟨Nat.zero_le _, Nat.zero_le _⟩ ⟨Nat.le_refl _, Nat.le_refl _⟩ M0 M' h hl hP va_S.rf
theorem cl_X8_221 (X : sx_X C p m c cc nL s args RX8) (hG : sx_G C) (hP : sx_W C M0 H) (hz : sx_sz C ≤ H0.size) (hS : va_S (sx_A C) H0 H locs) {M' : sx_M} (h : f8_remember M0 = some M') (hsz : ls.size = nL) (hdg : decode cc pc = .ok (.invokevirtual 221, 3)) (hcs : cells ≤ R.cells ∧ slots ≤ R.slots) (hR : 1 + 1 ≤ R.frames ∧ 8 + (1 + 11) + 25 ≤ R.locals) (hrest : (rest.map fun v => v.category).sum ≤ 8) (kk : ∀ (H1 : Heap) (locs1 : List Loc), sx_W C M' H1 → va_S (sx_A C) H0 H1 locs1 → W p l e R s m args below meth c H1 locs1 cells slots Q (F0 m (pc + 3) ls (rest))) : W p l e R s m args below meth c H locs cells slots Q (F0 m pc ls (.ref (sx_ad C 17 0) :: rest)) :=
  sx_callV (n := 0) (As := []) (k0 := 17) (s0 := 0) X hP hz hS (by decide) rfl rfl (sx_goodV tw_1214 tw_1216 tw_45 tw_71 tw_1217) (by decide +kernel) rfl rfl hR (ct_8_remember l C hG M0 M' h) rfl rfl hrest hsz hdg hcs kk
-- StringShedModel.tryIt()V
def f8_tryIt  (M0 : sx_M) : Option (sx_M) :=
  (f8_copy 20 (0 : Int32) 21 (0 : Int32) (247 : Int32) M0).bind fun M1 =>
  some M1
set_option maxRecDepth 100000 in
set_option maxHeartbeats 4000000 in
theorem wk_8_tryIt (X : sx_X C p m c cX8_tryIt 1 s args RX8) (hr : meth.sig.returnType = none) (hlocks : meth.locks = false) (hG : sx_G C) (hz : sx_sz C ≤ s.heap.size) (hcs : 0 ≤ R.cells ∧ 0 ≤ R.slots) (hR : 1 ≤ R.frames ∧ 25 ≤ R.locals) (M0 : sx_M) (M' : sx_M) (h : f8_tryIt M0 = some M') (hl : lv_has ls 1 [(0, .ref (sx_ad C 17 0))]) (hP : sx_W C M0 H) (hS : va_S (sx_A C) s.heap H locs) : W p l e R s m args below meth c H locs 0 0 (sx_Z C none M' below args s) (F0 m 0 ls []) := by
  obtain ⟨hx, hb, hml, hown, hts, hK⟩ := id X
  rw [f8_tryIt] at h
  refine lv_aload_n hx hb dX8_tryIt_0 rfl (lv_at hl 0 rfl) ?_
  refine gf_X8_16 X hP (by decide) dX8_tryIt_1 ?_
  refine lv_iconst (v := (0 : Int32)) hx hb dX8_tryIt_4 (by decide) ?_
  refine lv_aload_n hx hb dX8_tryIt_5 rfl (lv_at hl 0 rfl) ?_
  refine gf_X8_19 X hP (by decide) dX8_tryIt_6 ?_
  refine lv_iconst (v := (0 : Int32)) hx hb dX8_tryIt_9 (by decide) ?_
  refine lv_sipush (v := (247 : Int32)) hx hb dX8_tryIt_10 (by decide) ?_
  obtain ⟨M1, e_M1, h⟩ := sx_bnd h
  refine cl_X8_56 X hG hP hz hS sx_row20 sx_row21 e_M1 hl.1 dX8_tryIt_13 hcs ⟨Nat.le_trans (by decide) hR.1, Nat.le_trans (by decide) hR.2⟩ (Nat.le_of_ble_eq_true rfl) (fun H locs hP hS => ?_)
  exact sx_vret X hr hlocks hS hP h dX8_tryIt_16
set_option maxRecDepth 100000 in
theorem ct_8_tryIt (l : Launch) (C : sx_C) (hG : sx_G C) (M0 : sx_M) (M' : sx_M) (h : f8_tryIt M0 = some M') : Met l yX8_tryIt (.code yX8_tryIt cX8_tryIt 1 none :: sx_T) ({ frames := 1, cells := 0, slots := 0, locals := 25 } : Room) (sx_Pc C M0 [.ref (sx_ad C 17 0)]) (sx_Q C none M') 0 0 (sx_A C) := by
  refine Met.ofW (cc := cX8_tryIt) (maxL := 1) (ret := none) (by decide) rfl ?_
  intro p e s m args below meth c s₁ B hml hv
  obtain ⟨rfl, hz, hP, hK⟩ := hv
  have hl := lv_entry ([.ref (sx_ad C 17 0)]) (n := 1) (Nat.le_of_ble_eq_true rfl)
  rw [lg_entry_eq]
  generalize (lg_sl ([.ref (sx_ad C 17 0)]) ++ List.replicate (1 - (lg_sl ([.ref (sx_ad C 17 0)])).length) Slot.unset).toArray = ls at hl ⊢
  exact wk_8_tryIt ⟨B.exec, B.bytes, hml, findClass_of_methodNamed B.named, fun w hw => atoms_spec B.pre w (List.mem_cons_of_mem _ hw), hK⟩ B.returns B.notSynchronized hG hz ⟨Nat.zero_le _, Nat.zero_le _⟩ ⟨Nat.le_refl _, Nat.le_refl _⟩ M0 M' h hl hP va_S.rf
theorem cl_X8_227 (X : sx_X C p m c cc nL s args RX8) (hG : sx_G C) (hP : sx_W C M0 H) (hz : sx_sz C ≤ H0.size) (hS : va_S (sx_A C) H0 H locs) {M' : sx_M} (h : f8_tryIt M0 = some M') (hsz : ls.size = nL) (hdg : decode cc pc = .ok (.invokevirtual 227, 3)) (hcs : cells ≤ R.cells ∧ slots ≤ R.slots) (hR : 1 + 1 ≤ R.frames ∧ 8 + (1 + 11) + 25 ≤ R.locals) (hrest : (rest.map fun v => v.category).sum ≤ 8) (kk : ∀ (H1 : Heap) (locs1 : List Loc), sx_W C M' H1 → va_S (sx_A C) H0 H1 locs1 → W p l e R s m args below meth c H1 locs1 cells slots Q (F0 m (pc + 3) ls (rest))) : W p l e R s m args below meth c H locs cells slots Q (F0 m pc ls (.ref (sx_ad C 17 0) :: rest)) :=
  sx_callV (n := 0) (As := []) (k0 := 17) (s0 := 0) X hP hz hS (by decide) rfl rfl (sx_goodV tw_1262 tw_1264 tw_48 tw_71 tw_1265) (by decide +kernel) rfl rfl hR (ct_8_tryIt l C hG M0 M' h) rfl rfl hrest hsz hdg hcs kk
-- StringShedModel.partAt(II)I pure
def f8_partAt (a0 : Int32) (a1 : Int32) (M0 : sx_M) : Option (Int32) :=
  some (((7 : Int32) + ((4 : Int32) * a0)) + a1)
set_option maxRecDepth 100000 in
set_option maxHeartbeats 4000000 in
theorem wk_8_partAt (X : sx_X C p m c cX8_partAt 2 s args RX8) (hr : meth.sig.returnType = (some .int)) (hlocks : meth.locks = false) (hG : sx_G C) (hz : sx_sz C ≤ s.heap.size) (hcs : 0 ≤ R.cells ∧ 0 ≤ R.slots) (hR : 0 ≤ R.frames ∧ 0 ≤ R.locals) (a0 : Int32) (a1 : Int32) (M0 : sx_M) (r : Int32) (h : f8_partAt a0 a1 M0 = some r) (hl : lv_has ls 2 [(0, .int a0), (1, .int a1)]) (hP : sx_W C M0 H) (hS : va_S (sx_A C) s.heap H locs) : W p l e R s m args below meth c H locs 0 0 (sx_Z C (some (.int r)) M0 below args s) (F0 m 0 ls []) := by
  obtain ⟨hx, hb, hml, hown, hts, hK⟩ := id X
  rw [f8_partAt] at h
  refine lv_bipush (v := (7 : Int32)) hx hb dX8_partAt_0 (by decide) ?_
  refine lv_iconst (v := (4 : Int32)) hx hb dX8_partAt_2 (by decide) ?_
  refine lv_iload_n hx hb dX8_partAt_3 rfl (lv_at hl 0 rfl) ?_
  refine lv_imul hx hb dX8_partAt_4 ?_
  refine lv_iadd hx hb dX8_partAt_5 ?_
  refine lv_iload_n hx hb dX8_partAt_6 rfl (lv_at hl 1 rfl) ?_
  refine lv_iadd hx hb dX8_partAt_7 ?_
  exact sx_iret X hr hlocks hS hP h dX8_partAt_8
set_option maxRecDepth 100000 in
theorem ct_8_partAt (l : Launch) (C : sx_C) (hG : sx_G C) (a0 : Int32) (a1 : Int32) (M0 : sx_M) (r : Int32) (h : f8_partAt a0 a1 M0 = some r) : Met l yX8_partAt (.code yX8_partAt cX8_partAt 2 (some .int) :: sx_T) ({ frames := 0, cells := 0, slots := 0, locals := 0 } : Room) (sx_Pc C M0 [.int a0, .int a1]) (sx_Q C (some (.int r)) M0) 0 0 (sx_A C) := by
  refine Met.ofW (cc := cX8_partAt) (maxL := 2) (ret := (some .int)) (by decide) rfl ?_
  intro p e s m args below meth c s₁ B hml hv
  obtain ⟨rfl, hz, hP, hK⟩ := hv
  have hl := lv_entry ([.int a0, .int a1]) (n := 2) (Nat.le_of_ble_eq_true rfl)
  rw [lg_entry_eq]
  generalize (lg_sl ([.int a0, .int a1]) ++ List.replicate (2 - (lg_sl ([.int a0, .int a1])).length) Slot.unset).toArray = ls at hl ⊢
  exact wk_8_partAt ⟨B.exec, B.bytes, hml, findClass_of_methodNamed B.named, fun w hw => atoms_spec B.pre w (List.mem_cons_of_mem _ hw), hK⟩ B.returns B.notSynchronized hG hz ⟨Nat.zero_le _, Nat.zero_le _⟩ ⟨Nat.le_refl _, Nat.le_refl _⟩ a0 a1 M0 r h hl hP va_S.rf
theorem cl_X8_66 (X : sx_X C p m c cc nL s args RX8) (hG : sx_G C) (hP : sx_W C M0 H) (hz : sx_sz C ≤ H0.size) (hS : va_S (sx_A C) H0 H locs) {a0 : Int32} {a1 : Int32} {r : Int32} (h : f8_partAt a0 a1 M0 = some r) (hsz : ls.size = nL) (hdg : decode cc pc = .ok (.invokestatic 66, 3)) (hcs : cells ≤ R.cells ∧ slots ≤ R.slots) (hR : 0 + 1 ≤ R.frames ∧ 8 + (2 + 11) + 0 ≤ R.locals) (hrest : (rest.map fun v => v.category).sum ≤ 8) (kk : ∀ (H1 : Heap) (locs1 : List Loc), sx_W C M0 H1 → va_S (sx_A C) H0 H1 locs1 → W p l e R s m args below meth c H1 locs1 cells slots Q (F0 m (pc + 3) ls ((.int r) :: rest))) : W p l e R s m args below meth c H locs cells slots Q (F0 m pc ls (.int a1 :: .int a0 :: rest)) :=
  sx_callS (n := 2) (As := [.int a0, .int a1]) X hP hz hS (sx_goodS tw_1082 tw_1083 tw_71 tw_1084) (by decide +kernel) rfl rfl hR (ct_8_partAt l C hG a0 a1 M0 r h) rfl rfl hrest hsz hdg hcs kk
-- StringShedModel.cordAt(II)I pure
def f8_cordAt (a0 : Int32) (a1 : Int32) (M0 : sx_M) : Option (Int32) :=
  some (((103 : Int32) + ((3 : Int32) * a0)) + a1)
set_option maxRecDepth 100000 in
set_option maxHeartbeats 4000000 in
theorem wk_8_cordAt (X : sx_X C p m c cX8_cordAt 2 s args RX8) (hr : meth.sig.returnType = (some .int)) (hlocks : meth.locks = false) (hG : sx_G C) (hz : sx_sz C ≤ s.heap.size) (hcs : 0 ≤ R.cells ∧ 0 ≤ R.slots) (hR : 0 ≤ R.frames ∧ 0 ≤ R.locals) (a0 : Int32) (a1 : Int32) (M0 : sx_M) (r : Int32) (h : f8_cordAt a0 a1 M0 = some r) (hl : lv_has ls 2 [(0, .int a0), (1, .int a1)]) (hP : sx_W C M0 H) (hS : va_S (sx_A C) s.heap H locs) : W p l e R s m args below meth c H locs 0 0 (sx_Z C (some (.int r)) M0 below args s) (F0 m 0 ls []) := by
  obtain ⟨hx, hb, hml, hown, hts, hK⟩ := id X
  rw [f8_cordAt] at h
  refine lv_bipush (v := (103 : Int32)) hx hb dX8_cordAt_0 (by decide) ?_
  refine lv_iconst (v := (3 : Int32)) hx hb dX8_cordAt_2 (by decide) ?_
  refine lv_iload_n hx hb dX8_cordAt_3 rfl (lv_at hl 0 rfl) ?_
  refine lv_imul hx hb dX8_cordAt_4 ?_
  refine lv_iadd hx hb dX8_cordAt_5 ?_
  refine lv_iload_n hx hb dX8_cordAt_6 rfl (lv_at hl 1 rfl) ?_
  refine lv_iadd hx hb dX8_cordAt_7 ?_
  exact sx_iret X hr hlocks hS hP h dX8_cordAt_8
set_option maxRecDepth 100000 in
theorem ct_8_cordAt (l : Launch) (C : sx_C) (hG : sx_G C) (a0 : Int32) (a1 : Int32) (M0 : sx_M) (r : Int32) (h : f8_cordAt a0 a1 M0 = some r) : Met l yX8_cordAt (.code yX8_cordAt cX8_cordAt 2 (some .int) :: sx_T) ({ frames := 0, cells := 0, slots := 0, locals := 0 } : Room) (sx_Pc C M0 [.int a0, .int a1]) (sx_Q C (some (.int r)) M0) 0 0 (sx_A C) := by
  refine Met.ofW (cc := cX8_cordAt) (maxL := 2) (ret := (some .int)) (by decide) rfl ?_
  intro p e s m args below meth c s₁ B hml hv
  obtain ⟨rfl, hz, hP, hK⟩ := hv
  have hl := lv_entry ([.int a0, .int a1]) (n := 2) (Nat.le_of_ble_eq_true rfl)
  rw [lg_entry_eq]
  generalize (lg_sl ([.int a0, .int a1]) ++ List.replicate (2 - (lg_sl ([.int a0, .int a1])).length) Slot.unset).toArray = ls at hl ⊢
  exact wk_8_cordAt ⟨B.exec, B.bytes, hml, findClass_of_methodNamed B.named, fun w hw => atoms_spec B.pre w (List.mem_cons_of_mem _ hw), hK⟩ B.returns B.notSynchronized hG hz ⟨Nat.zero_le _, Nat.zero_le _⟩ ⟨Nat.le_refl _, Nat.le_refl _⟩ a0 a1 M0 r h hl hP va_S.rf
theorem cl_X8_78 (X : sx_X C p m c cc nL s args RX8) (hG : sx_G C) (hP : sx_W C M0 H) (hz : sx_sz C ≤ H0.size) (hS : va_S (sx_A C) H0 H locs) {a0 : Int32} {a1 : Int32} {r : Int32} (h : f8_cordAt a0 a1 M0 = some r) (hsz : ls.size = nL) (hdg : decode cc pc = .ok (.invokestatic 78, 3)) (hcs : cells ≤ R.cells ∧ slots ≤ R.slots) (hR : 0 + 1 ≤ R.frames ∧ 8 + (2 + 11) + 0 ≤ R.locals) (hrest : (rest.map fun v => v.category).sum ≤ 8) (kk : ∀ (H1 : Heap) (locs1 : List Loc), sx_W C M0 H1 → va_S (sx_A C) H0 H1 locs1 → W p l e R s m args below meth c H1 locs1 cells slots Q (F0 m (pc + 3) ls ((.int r) :: rest))) : W p l e R s m args below meth c H locs cells slots Q (F0 m pc ls (.int a1 :: .int a0 :: rest)) :=
  sx_callS (n := 2) (As := [.int a0, .int a1]) X hP hz hS (sx_goodS tw_1109 tw_1110 tw_71 tw_1111) (by decide +kernel) rfl rfl hR (ct_8_cordAt l C hG a0 a1 M0 r h) rfl rfl hrest hsz hdg hcs kk
-- StringShedModel.isPart([II)Z pure
def f8_isPart (r0 : Nat) (a1 : Int32) (M0 : sx_M) : Option (Int32) :=
  if sx_in (0 : Int32) (sx_len r0) then
  sx_bd (M0.1 r0 0 ((0 : Int32)).toNatClampNeg) fun v1 =>
  (f8_in a1.toInt64 (0 : Int64) ((v1 - (1 : Int32)).toInt64) M0).bind fun v2 =>
  sx_bd (fun (v3 : Int32) =>
    if v3 = 0 ∨ v3 = 1 then some v3 else none) fun j47 =>
  sx_bd (fun (_ : Unit) =>
    j47 (0 : Int32)) fun j46 =>
  if v2 = 0 then
    j46 ()
  else
    (f8_in a1.toInt64 (0 : Int64) (23 : Int64) M0).bind fun v5 =>
    sx_bd (fun (v6 : Int32) =>
      (f8_partAt v6 (1 : Int32) M0).bind fun v7 =>
      if sx_in v7 (sx_len r0) then
      sx_bd (M0.1 r0 0 (v7).toNatClampNeg) fun v8 =>
      if v8 = (1 : Int32) then
        j47 (1 : Int32)
      else
        j46 ()
      else none) fun j33 =>
    if v5 = 0 then
      j33 (0 : Int32)
    else
      j33 a1
  else none
set_option maxRecDepth 100000 in
set_option maxHeartbeats 4000000 in
theorem wk_8_isPart (X : sx_X C p m c cX8_isPart 2 s args RX8) (hr : meth.sig.returnType = (some .boolean)) (hlocks : meth.locks = false) (hG : sx_G C) (hz : sx_sz C ≤ s.heap.size) (hcs : 0 ≤ R.cells ∧ 0 ≤ R.slots) (hR : 1 ≤ R.frames ∧ 25 ≤ R.locals) (r0 : Nat) (a1 : Int32) (hk_r0 : sx_row r0) (M0 : sx_M) (r : Int32) (h : f8_isPart r0 a1 M0 = some r) (hl : lv_has ls 2 [(0, .ref (sx_ad C r0 0)), (1, .int a1)]) (hP : sx_W C M0 H) (hS : va_S (sx_A C) s.heap H locs) : W p l e R s m args below meth c H locs 0 0 (sx_Z C (some (.int r)) M0 below args s) (F0 m 0 ls []) := by
  obtain ⟨hx, hb, hml, hown, hts, hK⟩ := id X
  rw [f8_isPart] at h
  refine lv_iload_n hx hb dX8_isPart_0 rfl (lv_at hl 1 rfl) ?_
  refine lv_i2l (v := a1.toInt64) hx hb dX8_isPart_1 rfl ?_
  refine lv_lconst (v := (0 : Int64)) hx hb dX8_isPart_2 (by decide) ?_
  refine lv_aload_n hx hb dX8_isPart_3 rfl (lv_at hl 0 rfl) ?_
  refine lv_iconst (v := (0 : Int32)) hx hb dX8_isPart_4 (by decide) ?_
  refine sx_iald X hP r0 0 (sx_len r0) (sx_row_cnt hk_r0) (fun _ _ => sx_row_E hk_r0) dX8_isPart_5 h (fun v1 h => ?_)
  refine lv_iconst (v := (1 : Int32)) hx hb dX8_isPart_6 (by decide) ?_
  refine lv_isub hx hb dX8_isPart_7 ?_
  refine lv_i2l (v := (v1 - (1 : Int32)).toInt64) hx hb dX8_isPart_8 rfl ?_
  obtain ⟨v2, e_v2, h⟩ := sx_bnd h
  refine cl_X8_60 X hG hP hz hS  e_v2 hl.1 dX8_isPart_9 hcs ⟨Nat.le_trans (by decide) hR.1, Nat.le_trans (by decide) hR.2⟩ (Nat.le_of_ble_eq_true rfl) (fun H locs hP hS => ?_)
  obtain ⟨j47, e_j47, h⟩ := sx_nm h
  have hj47 : ∀ (v3 : Int32) (H : Heap) (locs : List Loc) (ls : Array Slot), lv_has ls 2 [] → sx_W C M0 H → va_S (sx_A C) s.heap H locs → j47 v3 = some r → W p l e R s m args below meth c H locs 0 0 (sx_Z C (some (.int r)) M0 below args s) (F0 m 47 ls [.int v3]) := by
    intro v3 H locs ls hl hP hS h
    subst e_j47
    obtain ⟨hz01, h⟩ := sx_ck h
    exact sx_zret X hr hlocks hS hP hz01 h dX8_isPart_47
  clear e_j47
  obtain ⟨j46, e_j46, h⟩ := sx_nm h
  have hj46 : ∀ (H : Heap) (locs : List Loc) (ls : Array Slot), lv_has ls 2 [] → sx_W C M0 H → va_S (sx_A C) s.heap H locs → j46 () = some r → W p l e R s m args below meth c H locs 0 0 (sx_Z C (some (.int r)) M0 below args s) (F0 m 46 ls []) := by
    intro  H locs ls hl hP hS h
    subst e_j46
    refine lv_iconst (v := (0 : Int32)) hx hb dX8_isPart_46 (by decide) ?_
    exact hj47 (0 : Int32) H locs ls (lv_sub hl [] rfl) hP hS h
  clear e_j46
  refine lv_if_eq (tgt := 46) hx hb dX8_isPart_12 (by decide) (fun c4 => ?_) (fun c4 => ?_)
  · replace h := sx_ifp h c4
    exact hj46 H locs ls (lv_sub hl [] rfl) hP hS h
  · replace h := sx_ifn h c4
    refine lv_aload_n hx hb dX8_isPart_15 rfl (lv_at hl 0 rfl) ?_
    refine lv_iload_n hx hb dX8_isPart_16 rfl (lv_at hl 1 rfl) ?_
    refine lv_i2l (v := a1.toInt64) hx hb dX8_isPart_17 rfl ?_
    refine lv_lconst (v := (0 : Int64)) hx hb dX8_isPart_18 (by decide) ?_
    refine lv_ldc2 (v := (23 : Int64)) hx hb hown (hts _ tw_1105) dX8_isPart_19 ?_
    obtain ⟨v5, e_v5, h⟩ := sx_bnd h
    refine cl_X8_60 X hG hP hz hS  e_v5 hl.1 dX8_isPart_22 hcs ⟨Nat.le_trans (by decide) hR.1, Nat.le_trans (by decide) hR.2⟩ (Nat.le_of_ble_eq_true rfl) (fun H locs hP hS => ?_)
    obtain ⟨j33, e_j33, h⟩ := sx_nm h
    have hj33 : ∀ (v6 : Int32) (H : Heap) (locs : List Loc) (ls : Array Slot), lv_has ls 2 [] → sx_W C M0 H → va_S (sx_A C) s.heap H locs → j33 v6 = some r → W p l e R s m args below meth c H locs 0 0 (sx_Z C (some (.int r)) M0 below args s) (F0 m 33 ls [.int v6, .ref (sx_ad C r0 0)]) := by
      intro v6 H locs ls hl hP hS h
      subst e_j33
      refine lv_iconst (v := (1 : Int32)) hx hb dX8_isPart_33 (by decide) ?_
      obtain ⟨v7, e_v7, h⟩ := sx_bnd h
      refine cl_X8_66 X hG hP hz hS  e_v7 hl.1 dX8_isPart_34 hcs ⟨Nat.le_trans (by decide) hR.1, Nat.le_trans (by decide) hR.2⟩ (Nat.le_of_ble_eq_true rfl) (fun H locs hP hS => ?_)
      refine sx_iald X hP r0 0 (sx_len r0) (sx_row_cnt hk_r0) (fun _ _ => sx_row_E hk_r0) dX8_isPart_37 h (fun v8 h => ?_)
      refine lv_iconst (v := (1 : Int32)) hx hb dX8_isPart_38 (by decide) ?_
      refine lv_icmp_ne (tgt := 46) hx hb dX8_isPart_39 (by decide) (fun c9 => ?_) (fun c9 => ?_)
      · replace h := sx_ifn h c9
        exact hj46 H locs ls (lv_sub hl [] rfl) hP hS h
      · replace h := sx_ifp h c9
        refine lv_iconst (v := (1 : Int32)) hx hb dX8_isPart_42 (by decide) ?_
        refine lv_goto (tgt := 47) hx hb dX8_isPart_43 (by decide) ?_
        exact hj47 (1 : Int32) H locs ls (lv_sub hl [] rfl) hP hS h
    clear e_j33
    refine lv_if_eq (tgt := 32) hx hb dX8_isPart_25 (by decide) (fun c10 => ?_) (fun c10 => ?_)
    · replace h := sx_ifp h c10
      refine lv_iconst (v := (0 : Int32)) hx hb dX8_isPart_32 (by decide) ?_
      exact hj33 (0 : Int32) H locs ls (lv_sub hl [] rfl) hP hS h
    · replace h := sx_ifn h c10
      refine lv_iload_n hx hb dX8_isPart_28 rfl (lv_at hl 1 rfl) ?_
      refine lv_goto (tgt := 33) hx hb dX8_isPart_29 (by decide) ?_
      exact hj33 a1 H locs ls (lv_sub hl [] rfl) hP hS h
set_option maxRecDepth 100000 in
theorem ct_8_isPart (l : Launch) (C : sx_C) (hG : sx_G C) (r0 : Nat) (a1 : Int32) (hk_r0 : sx_row r0) (M0 : sx_M) (r : Int32) (h : f8_isPart r0 a1 M0 = some r) : Met l yX8_isPart (.code yX8_isPart cX8_isPart 2 (some .boolean) :: sx_T) ({ frames := 1, cells := 0, slots := 0, locals := 25 } : Room) (sx_Pc C M0 [.ref (sx_ad C r0 0), .int a1]) (sx_Q C (some (.int r)) M0) 0 0 (sx_A C) := by
  refine Met.ofW (cc := cX8_isPart) (maxL := 2) (ret := (some .boolean)) (by decide) rfl ?_
  intro p e s m args below meth c s₁ B hml hv
  obtain ⟨rfl, hz, hP, hK⟩ := hv
  have hl := lv_entry ([.ref (sx_ad C r0 0), .int a1]) (n := 2) (Nat.le_of_ble_eq_true rfl)
  rw [lg_entry_eq]
  generalize (lg_sl ([.ref (sx_ad C r0 0), .int a1]) ++ List.replicate (2 - (lg_sl ([.ref (sx_ad C r0 0), .int a1])).length) Slot.unset).toArray = ls at hl ⊢
  exact wk_8_isPart ⟨B.exec, B.bytes, hml, findClass_of_methodNamed B.named, fun w hw => atoms_spec B.pre w (List.mem_cons_of_mem _ hw), hK⟩ B.returns B.notSynchronized hG hz ⟨Nat.zero_le _, Nat.zero_le _⟩ ⟨Nat.le_refl _, Nat.le_refl _⟩ r0 a1 hk_r0 M0 r h hl hP va_S.rf
theorem cl_X8_74 (X : sx_X C p m c cc nL s args RX8) (hG : sx_G C) (hP : sx_W C M0 H) (hz : sx_sz C ≤ H0.size) (hS : va_S (sx_A C) H0 H locs) {r0 : Nat} {a1 : Int32} (hk_r0 : sx_row r0) {r : Int32} (h : f8_isPart r0 a1 M0 = some r) (hsz : ls.size = nL) (hdg : decode cc pc = .ok (.invokestatic 74, 3)) (hcs : cells ≤ R.cells ∧ slots ≤ R.slots) (hR : 1 + 1 ≤ R.frames ∧ 8 + (2 + 11) + 25 ≤ R.locals) (hrest : (rest.map fun v => v.category).sum ≤ 8) (kk : ∀ (H1 : Heap) (locs1 : List Loc), sx_W C M0 H1 → va_S (sx_A C) H0 H1 locs1 → W p l e R s m args below meth c H1 locs1 cells slots Q (F0 m (pc + 3) ls ((.int r) :: rest))) : W p l e R s m args below meth c H locs cells slots Q (F0 m pc ls (.int a1 :: .ref (sx_ad C r0 0) :: rest)) :=
  sx_callS (n := 2) (As := [.ref (sx_ad C r0 0), .int a1]) X hP hz hS (sx_goodS tw_1102 tw_1103 tw_71 tw_1104) (by decide +kernel) rfl rfl hR (ct_8_isPart l C hG r0 a1 hk_r0 M0 r h) rfl rfl hrest hsz hdg hcs kk
-- StringShedModel.isThing([II)Z pure
def f8_isThing (r0 : Nat) (a1 : Int32) (M0 : sx_M) : Option (Int32) :=
  (f8_in a1.toInt64 (-4 : Int64) (-1 : Int64) M0).bind fun v1 =>
  sx_bd (fun (v2 : Int32) =>
    if v2 = 0 ∨ v2 = 1 then some v2 else none) fun j27 =>
  sx_bd (fun (_ : Unit) =>
    j27 (1 : Int32)) fun j22 =>
  if v1 = 0 then
    (f8_isPart r0 a1 M0).bind fun v4 =>
    if v4 = 0 then
      j27 (0 : Int32)
    else
      j22 ()
  else
    j22 ()
set_option maxRecDepth 100000 in
set_option maxHeartbeats 4000000 in
theorem wk_8_isThing (X : sx_X C p m c cX8_isThing 2 s args RX8) (hr : meth.sig.returnType = (some .boolean)) (hlocks : meth.locks = false) (hG : sx_G C) (hz : sx_sz C ≤ s.heap.size) (hcs : 0 ≤ R.cells ∧ 0 ≤ R.slots) (hR : 2 ≤ R.frames ∧ 46 ≤ R.locals) (r0 : Nat) (a1 : Int32) (hk_r0 : sx_row r0) (M0 : sx_M) (r : Int32) (h : f8_isThing r0 a1 M0 = some r) (hl : lv_has ls 2 [(0, .ref (sx_ad C r0 0)), (1, .int a1)]) (hP : sx_W C M0 H) (hS : va_S (sx_A C) s.heap H locs) : W p l e R s m args below meth c H locs 0 0 (sx_Z C (some (.int r)) M0 below args s) (F0 m 0 ls []) := by
  obtain ⟨hx, hb, hml, hown, hts, hK⟩ := id X
  rw [f8_isThing] at h
  refine lv_iload_n hx hb dX8_isThing_0 rfl (lv_at hl 1 rfl) ?_
  refine lv_i2l (v := a1.toInt64) hx hb dX8_isThing_1 rfl ?_
  refine lv_ldc2 (v := (-4 : Int64)) hx hb hown (hts _ tw_1100) dX8_isThing_2 ?_
  refine lv_ldc2 (v := (-1 : Int64)) hx hb hown (hts _ tw_1101) dX8_isThing_5 ?_
  obtain ⟨v1, e_v1, h⟩ := sx_bnd h
  refine cl_X8_60 X hG hP hz hS  e_v1 hl.1 dX8_isThing_8 hcs ⟨Nat.le_trans (by decide) hR.1, Nat.le_trans (by decide) hR.2⟩ (Nat.le_of_ble_eq_true rfl) (fun H locs hP hS => ?_)
  obtain ⟨j27, e_j27, h⟩ := sx_nm h
  have hj27 : ∀ (v2 : Int32) (H : Heap) (locs : List Loc) (ls : Array Slot), lv_has ls 2 [] → sx_W C M0 H → va_S (sx_A C) s.heap H locs → j27 v2 = some r → W p l e R s m args below meth c H locs 0 0 (sx_Z C (some (.int r)) M0 below args s) (F0 m 27 ls [.int v2]) := by
    intro v2 H locs ls hl hP hS h
    subst e_j27
    obtain ⟨hz01, h⟩ := sx_ck h
    exact sx_zret X hr hlocks hS hP hz01 h dX8_isThing_27
  clear e_j27
  obtain ⟨j22, e_j22, h⟩ := sx_nm h
  have hj22 : ∀ (H : Heap) (locs : List Loc) (ls : Array Slot), lv_has ls 2 [] → sx_W C M0 H → va_S (sx_A C) s.heap H locs → j22 () = some r → W p l e R s m args below meth c H locs 0 0 (sx_Z C (some (.int r)) M0 below args s) (F0 m 22 ls []) := by
    intro  H locs ls hl hP hS h
    subst e_j22
    refine lv_iconst (v := (1 : Int32)) hx hb dX8_isThing_22 (by decide) ?_
    refine lv_goto (tgt := 27) hx hb dX8_isThing_23 (by decide) ?_
    exact hj27 (1 : Int32) H locs ls (lv_sub hl [] rfl) hP hS h
  clear e_j22
  refine lv_if_ne (tgt := 22) hx hb dX8_isThing_11 (by decide) (fun c3 => ?_) (fun c3 => ?_)
  · replace h := sx_ifn h c3
    exact hj22 H locs ls (lv_sub hl [] rfl) hP hS h
  · replace h := sx_ifp h c3
    refine lv_aload_n hx hb dX8_isThing_14 rfl (lv_at hl 0 rfl) ?_
    refine lv_iload_n hx hb dX8_isThing_15 rfl (lv_at hl 1 rfl) ?_
    obtain ⟨v4, e_v4, h⟩ := sx_bnd h
    refine cl_X8_74 X hG hP hz hS hk_r0 e_v4 hl.1 dX8_isThing_16 hcs ⟨Nat.le_trans (by decide) hR.1, Nat.le_trans (by decide) hR.2⟩ (Nat.le_of_ble_eq_true rfl) (fun H locs hP hS => ?_)
    refine lv_if_eq (tgt := 26) hx hb dX8_isThing_19 (by decide) (fun c5 => ?_) (fun c5 => ?_)
    · replace h := sx_ifp h c5
      refine lv_iconst (v := (0 : Int32)) hx hb dX8_isThing_26 (by decide) ?_
      exact hj27 (0 : Int32) H locs ls (lv_sub hl [] rfl) hP hS h
    · replace h := sx_ifn h c5
      exact hj22 H locs ls (lv_sub hl [] rfl) hP hS h
set_option maxRecDepth 100000 in
theorem ct_8_isThing (l : Launch) (C : sx_C) (hG : sx_G C) (r0 : Nat) (a1 : Int32) (hk_r0 : sx_row r0) (M0 : sx_M) (r : Int32) (h : f8_isThing r0 a1 M0 = some r) : Met l yX8_isThing (.code yX8_isThing cX8_isThing 2 (some .boolean) :: sx_T) ({ frames := 2, cells := 0, slots := 0, locals := 46 } : Room) (sx_Pc C M0 [.ref (sx_ad C r0 0), .int a1]) (sx_Q C (some (.int r)) M0) 0 0 (sx_A C) := by
  refine Met.ofW (cc := cX8_isThing) (maxL := 2) (ret := (some .boolean)) (by decide) rfl ?_
  intro p e s m args below meth c s₁ B hml hv
  obtain ⟨rfl, hz, hP, hK⟩ := hv
  have hl := lv_entry ([.ref (sx_ad C r0 0), .int a1]) (n := 2) (Nat.le_of_ble_eq_true rfl)
  rw [lg_entry_eq]
  generalize (lg_sl ([.ref (sx_ad C r0 0), .int a1]) ++ List.replicate (2 - (lg_sl ([.ref (sx_ad C r0 0), .int a1])).length) Slot.unset).toArray = ls at hl ⊢
  exact wk_8_isThing ⟨B.exec, B.bytes, hml, findClass_of_methodNamed B.named, fun w hw => atoms_spec B.pre w (List.mem_cons_of_mem _ hw), hK⟩ B.returns B.notSynchronized hG hz ⟨Nat.zero_le _, Nat.zero_le _⟩ ⟨Nat.le_refl _, Nat.le_refl _⟩ r0 a1 hk_r0 M0 r h hl hP va_S.rf
theorem cl_X8_144 (X : sx_X C p m c cc nL s args RX8) (hG : sx_G C) (hP : sx_W C M0 H) (hz : sx_sz C ≤ H0.size) (hS : va_S (sx_A C) H0 H locs) {r0 : Nat} {a1 : Int32} (hk_r0 : sx_row r0) {r : Int32} (h : f8_isThing r0 a1 M0 = some r) (hsz : ls.size = nL) (hdg : decode cc pc = .ok (.invokestatic 144, 3)) (hcs : cells ≤ R.cells ∧ slots ≤ R.slots) (hR : 2 + 1 ≤ R.frames ∧ 8 + (2 + 11) + 46 ≤ R.locals) (hrest : (rest.map fun v => v.category).sum ≤ 8) (kk : ∀ (H1 : Heap) (locs1 : List Loc), sx_W C M0 H1 → va_S (sx_A C) H0 H1 locs1 → W p l e R s m args below meth c H1 locs1 cells slots Q (F0 m (pc + 3) ls ((.int r) :: rest))) : W p l e R s m args below meth c H locs cells slots Q (F0 m pc ls (.int a1 :: .ref (sx_ad C r0 0) :: rest)) :=
  sx_callS (n := 2) (As := [.ref (sx_ad C r0 0), .int a1]) X hP hz hS (sx_goodS tw_1097 tw_1098 tw_71 tw_1099) (by decide +kernel) rfl rfl hR (ct_8_isThing l C hG r0 a1 hk_r0 M0 r h) rfl rfl hrest hsz hdg hcs kk
-- StringShedModel.find([III)I pure
def f8_find_L6 (r0 : Nat) (w1 : Int32) (w2 : Int32) (M0 : sx_M) : Nat → Int32 → Int32 → Option (Int32)
  | 0, _, _ => none
  | n + 1, x3, x4 =>
    if sx_in (2 : Int32) (sx_len r0) then
    sx_bd (M0.1 r0 0 ((2 : Int32)).toNatClampNeg) fun v1 =>
    if v1 ≤ x4 then
      some x3
    else
      (f8_cordAt x4 (0 : Int32) M0).bind fun v3 =>
      if sx_in v3 (sx_len r0) then
      sx_bd (M0.1 r0 0 (v3).toNatClampNeg) fun v4 =>
      sx_bd (fun (v5 : Int32) =>
        sx_bd (x4 + (1 : Int32)) fun v6 =>
        f8_find_L6 r0 w1 w2 M0 n v5 v6) fun j44 =>
      sx_bd (fun (_ : Unit) =>
        j44 x3) fun j43 =>
      if v4 = w1 then
        (f8_cordAt x4 (1 : Int32) M0).bind fun v8 =>
        if sx_in v8 (sx_len r0) then
        sx_bd (M0.1 r0 0 (v8).toNatClampNeg) fun v9 =>
        if v9 = w2 then
          j44 x4
        else
          j43 ()
        else none
      else
        j43 ()
      else none
    else none
def f8_find (r0 : Nat) (a1 : Int32) (a2 : Int32) (M0 : sx_M) : Option (Int32) :=
  f8_find_L6 r0 a1 a2 M0
    5000 (-9 : Int32) (0 : Int32)
set_option maxRecDepth 100000 in
set_option maxHeartbeats 4000000 in
theorem wk_8_find (X : sx_X C p m c cX8_find 5 s args RX8) (hr : meth.sig.returnType = (some .int)) (hlocks : meth.locks = false) (hG : sx_G C) (hz : sx_sz C ≤ s.heap.size) (hcs : 0 ≤ R.cells ∧ 0 ≤ R.slots) (hR : 1 ≤ R.frames ∧ 21 ≤ R.locals) (r0 : Nat) (a1 : Int32) (a2 : Int32) (hk_r0 : sx_row r0) (M0 : sx_M) (r : Int32) (h : f8_find r0 a1 a2 M0 = some r) (hl : lv_has ls 5 [(0, .ref (sx_ad C r0 0)), (1, .int a1), (2, .int a2)]) (hP : sx_W C M0 H) (hS : va_S (sx_A C) s.heap H locs) : W p l e R s m args below meth c H locs 0 0 (sx_Z C (some (.int r)) M0 below args s) (F0 m 0 ls []) := by
  obtain ⟨hx, hb, hml, hown, hts, hK⟩ := id X
  rw [f8_find] at h
  have hf8_find_L6 : ∀ (r0 : Nat) (w1 : Int32) (w2 : Int32) (hk_r0 : sx_row r0) (n : Nat) (x3 : Int32) (x4 : Int32) (H : Heap) (locs : List Loc) (ls : Array Slot), lv_has ls 5 [(0, .ref (sx_ad C r0 0)), (1, .int w1), (2, .int w2), (3, .int x3), (4, .int x4)] → sx_W C M0 H → va_S (sx_A C) s.heap H locs → f8_find_L6 r0 w1 w2 M0 n x3 x4 = some r → W p l e R s m args below meth c H locs 0 0 (sx_Z C (some (.int r)) M0 below args s) (F0 m 6 ls []) := by
    intro r0 w1 w2 hk_r0 n
    induction n with
    | zero => intro x3 x4 H locs ls hl hP hS h; exact absurd (show (none : Option (Int32)) = some r from h) (fun q => nomatch q)
    | succ n ih =>
      intro x3 x4 H locs ls hl hP hS h
      rw [f8_find_L6] at h
      refine lv_iload hx hb dX8_find_6 (lv_at hl 4 rfl) ?_
      refine lv_aload_n hx hb dX8_find_8 rfl (lv_at hl 0 rfl) ?_
      refine lv_iconst (v := (2 : Int32)) hx hb dX8_find_9 (by decide) ?_
      refine sx_iald X hP r0 0 (sx_len r0) (sx_row_cnt hk_r0) (fun _ _ => sx_row_E hk_r0) dX8_find_10 h (fun v1 h => ?_)
      refine lv_icmp_ge (tgt := 51) hx hb dX8_find_11 (by decide) (fun c2 => ?_) (fun c2 => ?_)
      · replace h := sx_ifp h c2
        refine lv_iload_n hx hb dX8_find_51 rfl (lv_at hl 3 rfl) ?_
        exact sx_iret X hr hlocks hS hP h dX8_find_52
      · replace h := sx_ifn h c2
        refine lv_aload_n hx hb dX8_find_14 rfl (lv_at hl 0 rfl) ?_
        refine lv_iload hx hb dX8_find_15 (lv_at hl 4 rfl) ?_
        refine lv_iconst (v := (0 : Int32)) hx hb dX8_find_17 (by decide) ?_
        obtain ⟨v3, e_v3, h⟩ := sx_bnd h
        refine cl_X8_78 X hG hP hz hS  e_v3 hl.1 dX8_find_18 hcs ⟨Nat.le_trans (by decide) hR.1, Nat.le_trans (by decide) hR.2⟩ (Nat.le_of_ble_eq_true rfl) (fun H locs hP hS => ?_)
        refine sx_iald X hP r0 0 (sx_len r0) (sx_row_cnt hk_r0) (fun _ _ => sx_row_E hk_r0) dX8_find_21 h (fun v4 h => ?_)
        refine lv_iload_n hx hb dX8_find_22 rfl (lv_at hl 1 rfl) ?_
        obtain ⟨j44, e_j44, h⟩ := sx_nm h
        have hj44 : ∀ (v5 : Int32) (H : Heap) (locs : List Loc) (ls : Array Slot), lv_has ls 5 [(0, .ref (sx_ad C r0 0)), (1, .int w1), (2, .int w2), (4, .int x4)] → sx_W C M0 H → va_S (sx_A C) s.heap H locs → j44 v5 = some r → W p l e R s m args below meth c H locs 0 0 (sx_Z C (some (.int r)) M0 below args s) (F0 m 44 ls [.int v5]) := by
          intro v5 H locs ls hl hP hS h
          subst e_j44
          refine lv_istore_n (lv' := [(3, .int v5), (0, .ref (sx_ad C r0 0)), (1, .int w1), (2, .int w2), (4, .int x4)]) hx hb dX8_find_44 rfl hl (by decide) rfl (fun ls hl => ?_)
          obtain ⟨v6, e_v6, h⟩ := sx_nm h
          refine lv_iinc (v := v6) (lv' := [(4, .int v6), (3, .int v5), (0, .ref (sx_ad C r0 0)), (1, .int w1), (2, .int w2)]) hx hb dX8_find_45 hl (k := 4) rfl (by rw [← e_v6]; rfl) (by decide) rfl (fun ls hl => ?_)
          refine lv_goto (tgt := 6) hx hb dX8_find_48 (by decide) ?_
          exact ih v5 v6 H locs ls (lv_sub hl [2, 3, 4, 1, 0] rfl) hP hS h
        clear e_j44
        obtain ⟨j43, e_j43, h⟩ := sx_nm h
        have hj43 : ∀ (H : Heap) (locs : List Loc) (ls : Array Slot), lv_has ls 5 [(0, .ref (sx_ad C r0 0)), (1, .int w1), (2, .int w2), (3, .int x3), (4, .int x4)] → sx_W C M0 H → va_S (sx_A C) s.heap H locs → j43 () = some r → W p l e R s m args below meth c H locs 0 0 (sx_Z C (some (.int r)) M0 below args s) (F0 m 43 ls []) := by
          intro  H locs ls hl hP hS h
          subst e_j43
          refine lv_iload_n hx hb dX8_find_43 rfl (lv_at hl 3 rfl) ?_
          exact hj44 x3 H locs ls (lv_sub hl [0, 1, 2, 4] rfl) hP hS h
        clear e_j43
        refine lv_icmp_ne (tgt := 43) hx hb dX8_find_23 (by decide) (fun c7 => ?_) (fun c7 => ?_)
        · replace h := sx_ifn h c7
          exact hj43 H locs ls (lv_sub hl [0, 1, 2, 3, 4] rfl) hP hS h
        · replace h := sx_ifp h c7
          refine lv_aload_n hx hb dX8_find_26 rfl (lv_at hl 0 rfl) ?_
          refine lv_iload hx hb dX8_find_27 (lv_at hl 4 rfl) ?_
          refine lv_iconst (v := (1 : Int32)) hx hb dX8_find_29 (by decide) ?_
          obtain ⟨v8, e_v8, h⟩ := sx_bnd h
          refine cl_X8_78 X hG hP hz hS  e_v8 hl.1 dX8_find_30 hcs ⟨Nat.le_trans (by decide) hR.1, Nat.le_trans (by decide) hR.2⟩ (Nat.le_of_ble_eq_true rfl) (fun H locs hP hS => ?_)
          refine sx_iald X hP r0 0 (sx_len r0) (sx_row_cnt hk_r0) (fun _ _ => sx_row_E hk_r0) dX8_find_33 h (fun v9 h => ?_)
          refine lv_iload_n hx hb dX8_find_34 rfl (lv_at hl 2 rfl) ?_
          refine lv_icmp_ne (tgt := 43) hx hb dX8_find_35 (by decide) (fun c10 => ?_) (fun c10 => ?_)
          · replace h := sx_ifn h c10
            exact hj43 H locs ls (lv_sub hl [0, 1, 2, 3, 4] rfl) hP hS h
          · replace h := sx_ifp h c10
            refine lv_iload hx hb dX8_find_38 (lv_at hl 4 rfl) ?_
            refine lv_goto (tgt := 44) hx hb dX8_find_40 (by decide) ?_
            exact hj44 x4 H locs ls (lv_sub hl [0, 1, 2, 4] rfl) hP hS h
  refine lv_bipush (v := (-9 : Int32)) hx hb dX8_find_0 (by decide) ?_
  refine lv_istore_n (lv' := [(3, .int (-9 : Int32)), (0, .ref (sx_ad C r0 0)), (1, .int a1), (2, .int a2)]) hx hb dX8_find_2 rfl hl (by decide) rfl (fun ls hl => ?_)
  refine lv_iconst (v := (0 : Int32)) hx hb dX8_find_3 (by decide) ?_
  refine lv_istore (lv' := [(4, .int (0 : Int32)), (3, .int (-9 : Int32)), (0, .ref (sx_ad C r0 0)), (1, .int a1), (2, .int a2)]) hx hb dX8_find_4 hl (by decide) rfl (fun ls hl => ?_)
  exact hf8_find_L6 r0 a1 a2 hk_r0 5000 (-9 : Int32) (0 : Int32) H locs ls (lv_sub hl [2, 3, 4, 1, 0] rfl) hP hS h
set_option maxRecDepth 100000 in
theorem ct_8_find (l : Launch) (C : sx_C) (hG : sx_G C) (r0 : Nat) (a1 : Int32) (a2 : Int32) (hk_r0 : sx_row r0) (M0 : sx_M) (r : Int32) (h : f8_find r0 a1 a2 M0 = some r) : Met l yX8_find (.code yX8_find cX8_find 5 (some .int) :: sx_T) ({ frames := 1, cells := 0, slots := 0, locals := 21 } : Room) (sx_Pc C M0 [.ref (sx_ad C r0 0), .int a1, .int a2]) (sx_Q C (some (.int r)) M0) 0 0 (sx_A C) := by
  refine Met.ofW (cc := cX8_find) (maxL := 5) (ret := (some .int)) (by decide) rfl ?_
  intro p e s m args below meth c s₁ B hml hv
  obtain ⟨rfl, hz, hP, hK⟩ := hv
  have hl := lv_entry ([.ref (sx_ad C r0 0), .int a1, .int a2]) (n := 5) (Nat.le_of_ble_eq_true rfl)
  rw [lg_entry_eq]
  generalize (lg_sl ([.ref (sx_ad C r0 0), .int a1, .int a2]) ++ List.replicate (5 - (lg_sl ([.ref (sx_ad C r0 0), .int a1, .int a2])).length) Slot.unset).toArray = ls at hl ⊢
  exact wk_8_find ⟨B.exec, B.bytes, hml, findClass_of_methodNamed B.named, fun w hw => atoms_spec B.pre w (List.mem_cons_of_mem _ hw), hK⟩ B.returns B.notSynchronized hG hz ⟨Nat.zero_le _, Nat.zero_le _⟩ ⟨Nat.le_refl _, Nat.le_refl _⟩ r0 a1 a2 hk_r0 M0 r h hl hP va_S.rf
theorem cl_X8_99 (X : sx_X C p m c cc nL s args RX8) (hG : sx_G C) (hP : sx_W C M0 H) (hz : sx_sz C ≤ H0.size) (hS : va_S (sx_A C) H0 H locs) {r0 : Nat} {a1 : Int32} {a2 : Int32} (hk_r0 : sx_row r0) {r : Int32} (h : f8_find r0 a1 a2 M0 = some r) (hsz : ls.size = nL) (hdg : decode cc pc = .ok (.invokestatic 99, 3)) (hcs : cells ≤ R.cells ∧ slots ≤ R.slots) (hR : 1 + 1 ≤ R.frames ∧ 8 + (5 + 11) + 21 ≤ R.locals) (hrest : (rest.map fun v => v.category).sum ≤ 8) (kk : ∀ (H1 : Heap) (locs1 : List Loc), sx_W C M0 H1 → va_S (sx_A C) H0 H1 locs1 → W p l e R s m args below meth c H1 locs1 cells slots Q (F0 m (pc + 3) ls ((.int r) :: rest))) : W p l e R s m args below meth c H locs cells slots Q (F0 m pc ls (.int a2 :: .int a1 :: .ref (sx_ad C r0 0) :: rest)) :=
  sx_callS (n := 3) (As := [.ref (sx_ad C r0 0), .int a1, .int a2]) X hP hz hS (sx_goodS tw_1106 tw_1107 tw_71 tw_1108) (by decide +kernel) rfl rfl hR (ct_8_find l C hG r0 a1 a2 hk_r0 M0 r h) rfl rfl hrest hsz hdg hcs kk
-- StringShedModel.lay([I)V
def f8_lay_L2 (r1 : Nat) (k45 : (sx_M → Option (sx_M))) : Nat → Int32 → sx_M → Option (sx_M)
  | 0, _, _ => none
  | n + 1, x2, M =>
    if (24 : Int32) ≤ x2 then
      k45 M
    else
      (f8_isPart r1 x2 M).bind fun v2 =>
      sx_bd (fun (v3 : Int32) =>
        if sx_in x2 24 then
        sx_bd (sx_set M 25 0 (x2).toNatClampNeg v3) fun M4 =>
        sx_bd (x2 + (1 : Int32)) fun v5 =>
        f8_lay_L2 r1 k45 n v5 M4
        else none) fun j38 =>
      sx_bd (fun (_ : Unit) =>
        j38 (99 : Int32)) fun j36 =>
      if v2 = 0 then
        j36 ()
      else
        (f8_partAt x2 (2 : Int32) M).bind fun v7 =>
        if sx_in v7 (sx_len r1) then
        sx_bd (M.1 r1 0 (v7).toNatClampNeg) fun v8 =>
        if v8 = (1 : Int32) then
          j38 (0 : Int32)
        else
          j36 ()
        else none
def f8_lay_L55 (r1 : Nat) (k140 : (Int32 → sx_M → Option (sx_M))) : Nat → Int32 → Int32 → sx_M → Option (sx_M)
  | 0, _, _, _ => none
  | n + 1, x2, x3, M =>
    if sx_in (2 : Int32) (sx_len r1) then
    sx_bd (M.1 r1 0 ((2 : Int32)).toNatClampNeg) fun v12 =>
    if v12 ≤ x3 then
      k140 x2 M
    else
      (f8_cordAt x3 (0 : Int32) M).bind fun v14 =>
      if sx_in v14 (sx_len r1) then
      sx_bd (M.1 r1 0 (v14).toNatClampNeg) fun v15 =>
      (f8_cordAt x3 (1 : Int32) M).bind fun v16 =>
      if sx_in v16 (sx_len r1) then
      sx_bd (M.1 r1 0 (v16).toNatClampNeg) fun v17 =>
      sx_bd (fun (v18 : Int32) =>
        sx_bd (v18 + (1 : Int32)) fun v19 =>
        (f8_cordAt x3 (2 : Int32) M).bind fun v20 =>
        if sx_in v20 (sx_len r1) then
        sx_bd (M.1 r1 0 (v20).toNatClampNeg) fun v21 =>
        sx_bd (fun (v22 : Int32) (M23 : sx_M) =>
          sx_bd (x3 + (1 : Int32)) fun v24 =>
          f8_lay_L55 r1 k140 n v22 v24 M23) fun j134 =>
        if v21 = (1 : Int32) then
          if sx_in v17 24 then
          sx_bd (M.1 25 0 (v17).toNatClampNeg) fun v26 =>
          if v26 ≤ v19 then
            j134 x2 M
          else
            if sx_in v17 24 then
            sx_bd (sx_set M 25 0 (v17).toNatClampNeg v19) fun M28 =>
            j134 (1 : Int32) M28
            else none
          else none
        else
          j134 x2 M
        else none) fun j96 =>
      if 0 ≤ v15 then
        if sx_in v15 24 then
        sx_bd (M.1 25 0 (v15).toNatClampNeg) fun v30 =>
        j96 v30
        else none
      else
        j96 (0 : Int32)
      else none
      else none
    else none
def f8_lay_L47 (r1 : Nat) : Nat → Int32 → sx_M → Option (sx_M)
  | 0, _, _ => none
  | n + 1, x2, M =>
    if x2 = 0 then
      some M
    else
      f8_lay_L55 r1
        (fun (v31 : Int32) (M32 : sx_M) =>
          f8_lay_L47 r1 n v31 M32)
        5000 (0 : Int32) (0 : Int32) M
def f8_lay (r1 : Nat) (M0 : sx_M) : Option (sx_M) :=
  f8_lay_L2 r1
    (fun (M10 : sx_M) =>
      f8_lay_L47 r1
        5000 (1 : Int32) M10)
    5000 (0 : Int32) M0
set_option maxRecDepth 100000 in
set_option maxHeartbeats 4000000 in
theorem wk_8_lay (X : sx_X C p m c cX8_lay 7 s args RX8) (hr : meth.sig.returnType = none) (hlocks : meth.locks = false) (hG : sx_G C) (hz : sx_sz C ≤ s.heap.size) (hcs : 0 ≤ R.cells ∧ 0 ≤ R.slots) (hR : 2 ≤ R.frames ∧ 46 ≤ R.locals) (r1 : Nat) (hk_r1 : sx_row r1) (M0 : sx_M) (M' : sx_M) (h : f8_lay r1 M0 = some M') (hl : lv_has ls 7 [(0, .ref (sx_ad C 17 0)), (1, .ref (sx_ad C r1 0))]) (hP : sx_W C M0 H) (hS : va_S (sx_A C) s.heap H locs) : W p l e R s m args below meth c H locs 0 0 (sx_Z C none M' below args s) (F0 m 0 ls []) := by
  obtain ⟨hx, hb, hml, hown, hts, hK⟩ := id X
  rw [f8_lay] at h
  have hf8_lay_L2 : ∀ (r1 : Nat) (hk_r1 : sx_row r1) (k45 : (sx_M → Option (sx_M))) (n : Nat) (hk45 : (∀ (M : sx_M) (H : Heap) (locs : List Loc) (ls : Array Slot), lv_has ls 7 [(0, .ref (sx_ad C 17 0)), (1, .ref (sx_ad C r1 0))] → sx_W C M H → va_S (sx_A C) s.heap H locs → k45 M = some M' → W p l e R s m args below meth c H locs 0 0 (sx_Z C none M' below args s) (F0 m 45 ls []))) (x2 : Int32) (M : sx_M) (H : Heap) (locs : List Loc) (ls : Array Slot), lv_has ls 7 [(0, .ref (sx_ad C 17 0)), (1, .ref (sx_ad C r1 0)), (2, .int x2)] → sx_W C M H → va_S (sx_A C) s.heap H locs → f8_lay_L2 r1 k45 n x2 M = some M' → W p l e R s m args below meth c H locs 0 0 (sx_Z C none M' below args s) (F0 m 2 ls []) := by
    intro r1 hk_r1 k45 n hk45
    induction n with
    | zero => intro x2 M H locs ls hl hP hS h; exact absurd (show (none : Option (sx_M)) = some M' from h) (fun q => nomatch q)
    | succ n ih =>
      intro x2 M H locs ls hl hP hS h
      rw [f8_lay_L2] at h
      refine lv_iload_n hx hb dX8_lay_2 rfl (lv_at hl 2 rfl) ?_
      refine lv_bipush (v := (24 : Int32)) hx hb dX8_lay_3 (by decide) ?_
      refine lv_icmp_ge (tgt := 45) hx hb dX8_lay_5 (by decide) (fun c1 => ?_) (fun c1 => ?_)
      · replace h := sx_ifp h c1
        exact hk45 M H locs ls (lv_sub hl [0, 1] rfl) hP hS h
      · replace h := sx_ifn h c1
        refine lv_aload_n hx hb dX8_lay_8 rfl (lv_at hl 0 rfl) ?_
        refine gf_X8_32 X hP (by decide) dX8_lay_9 ?_
        refine lv_iload_n hx hb dX8_lay_12 rfl (lv_at hl 2 rfl) ?_
        refine lv_aload_n hx hb dX8_lay_13 rfl (lv_at hl 1 rfl) ?_
        refine lv_iload_n hx hb dX8_lay_14 rfl (lv_at hl 2 rfl) ?_
        obtain ⟨v2, e_v2, h⟩ := sx_bnd h
        refine cl_X8_74 X hG hP hz hS hk_r1 e_v2 hl.1 dX8_lay_15 hcs ⟨Nat.le_trans (by decide) hR.1, Nat.le_trans (by decide) hR.2⟩ (Nat.le_of_ble_eq_true rfl) (fun H locs hP hS => ?_)
        obtain ⟨j38, e_j38, h⟩ := sx_nm h
        have hj38 : ∀ (v3 : Int32) (H : Heap) (locs : List Loc) (ls : Array Slot), lv_has ls 7 [(0, .ref (sx_ad C 17 0)), (1, .ref (sx_ad C r1 0)), (2, .int x2)] → sx_W C M H → va_S (sx_A C) s.heap H locs → j38 v3 = some M' → W p l e R s m args below meth c H locs 0 0 (sx_Z C none M' below args s) (F0 m 38 ls [.int v3, .int x2, .ref (sx_ad C 25 0)]) := by
          intro v3 H locs ls hl hP hS h
          subst e_j38
          refine sx_iast X hG hP hS 25 0 24 (by decide) (fun _ _ => rfl) dX8_lay_38 h (fun M4 H locs h hP hS => ?_)
          obtain ⟨v5, e_v5, h⟩ := sx_nm h
          refine lv_iinc (v := v5) (lv' := [(2, .int v5), (0, .ref (sx_ad C 17 0)), (1, .ref (sx_ad C r1 0))]) hx hb dX8_lay_39 hl (k := 2) rfl (by rw [← e_v5]; rfl) (by decide) rfl (fun ls hl => ?_)
          refine lv_goto (tgt := 2) hx hb dX8_lay_42 (by decide) ?_
          exact ih v5 M4 H locs ls (lv_sub hl [1, 2, 0] rfl) hP hS h
        clear e_j38
        obtain ⟨j36, e_j36, h⟩ := sx_nm h
        have hj36 : ∀ (H : Heap) (locs : List Loc) (ls : Array Slot), lv_has ls 7 [(0, .ref (sx_ad C 17 0)), (1, .ref (sx_ad C r1 0)), (2, .int x2)] → sx_W C M H → va_S (sx_A C) s.heap H locs → j36 () = some M' → W p l e R s m args below meth c H locs 0 0 (sx_Z C none M' below args s) (F0 m 36 ls [.int x2, .ref (sx_ad C 25 0)]) := by
          intro  H locs ls hl hP hS h
          subst e_j36
          refine lv_bipush (v := (99 : Int32)) hx hb dX8_lay_36 (by decide) ?_
          exact hj38 (99 : Int32) H locs ls (lv_sub hl [0, 1, 2] rfl) hP hS h
        clear e_j36
        refine lv_if_eq (tgt := 36) hx hb dX8_lay_18 (by decide) (fun c6 => ?_) (fun c6 => ?_)
        · replace h := sx_ifp h c6
          exact hj36 H locs ls (lv_sub hl [0, 1, 2] rfl) hP hS h
        · replace h := sx_ifn h c6
          refine lv_aload_n hx hb dX8_lay_21 rfl (lv_at hl 1 rfl) ?_
          refine lv_iload_n hx hb dX8_lay_22 rfl (lv_at hl 2 rfl) ?_
          refine lv_iconst (v := (2 : Int32)) hx hb dX8_lay_23 (by decide) ?_
          obtain ⟨v7, e_v7, h⟩ := sx_bnd h
          refine cl_X8_66 X hG hP hz hS  e_v7 hl.1 dX8_lay_24 hcs ⟨Nat.le_trans (by decide) hR.1, Nat.le_trans (by decide) hR.2⟩ (Nat.le_of_ble_eq_true rfl) (fun H locs hP hS => ?_)
          refine sx_iald X hP r1 0 (sx_len r1) (sx_row_cnt hk_r1) (fun _ _ => sx_row_E hk_r1) dX8_lay_27 h (fun v8 h => ?_)
          refine lv_iconst (v := (1 : Int32)) hx hb dX8_lay_28 (by decide) ?_
          refine lv_icmp_ne (tgt := 36) hx hb dX8_lay_29 (by decide) (fun c9 => ?_) (fun c9 => ?_)
          · replace h := sx_ifn h c9
            exact hj36 H locs ls (lv_sub hl [0, 1, 2] rfl) hP hS h
          · replace h := sx_ifp h c9
            refine lv_iconst (v := (0 : Int32)) hx hb dX8_lay_32 (by decide) ?_
            refine lv_goto (tgt := 38) hx hb dX8_lay_33 (by decide) ?_
            exact hj38 (0 : Int32) H locs ls (lv_sub hl [0, 1, 2] rfl) hP hS h
  have hf8_lay_L55 : ∀ (r1 : Nat) (hk_r1 : sx_row r1) (k140 : (Int32 → sx_M → Option (sx_M))) (n : Nat) (hk140 : (∀ (y2 : Int32) (M : sx_M) (H : Heap) (locs : List Loc) (ls : Array Slot), lv_has ls 7 [(0, .ref (sx_ad C 17 0)), (1, .ref (sx_ad C r1 0)), (2, .int y2)] → sx_W C M H → va_S (sx_A C) s.heap H locs → k140 y2 M = some M' → W p l e R s m args below meth c H locs 0 0 (sx_Z C none M' below args s) (F0 m 140 ls []))) (x2 : Int32) (x3 : Int32) (M : sx_M) (H : Heap) (locs : List Loc) (ls : Array Slot), lv_has ls 7 [(0, .ref (sx_ad C 17 0)), (1, .ref (sx_ad C r1 0)), (2, .int x2), (3, .int x3)] → sx_W C M H → va_S (sx_A C) s.heap H locs → f8_lay_L55 r1 k140 n x2 x3 M = some M' → W p l e R s m args below meth c H locs 0 0 (sx_Z C none M' below args s) (F0 m 55 ls []) := by
    intro r1 hk_r1 k140 n hk140
    induction n with
    | zero => intro x2 x3 M H locs ls hl hP hS h; exact absurd (show (none : Option (sx_M)) = some M' from h) (fun q => nomatch q)
    | succ n ih =>
      intro x2 x3 M H locs ls hl hP hS h
      rw [f8_lay_L55] at h
      refine lv_iload_n hx hb dX8_lay_55 rfl (lv_at hl 3 rfl) ?_
      refine lv_aload_n hx hb dX8_lay_56 rfl (lv_at hl 1 rfl) ?_
      refine lv_iconst (v := (2 : Int32)) hx hb dX8_lay_57 (by decide) ?_
      refine sx_iald X hP r1 0 (sx_len r1) (sx_row_cnt hk_r1) (fun _ _ => sx_row_E hk_r1) dX8_lay_58 h (fun v12 h => ?_)
      refine lv_icmp_ge (tgt := 140) hx hb dX8_lay_59 (by decide) (fun c13 => ?_) (fun c13 => ?_)
      · replace h := sx_ifp h c13
        exact hk140 x2 M H locs ls (lv_sub hl [0, 1, 2] rfl) hP hS h
      · replace h := sx_ifn h c13
        refine lv_aload_n hx hb dX8_lay_62 rfl (lv_at hl 1 rfl) ?_
        refine lv_iload_n hx hb dX8_lay_63 rfl (lv_at hl 3 rfl) ?_
        refine lv_iconst (v := (0 : Int32)) hx hb dX8_lay_64 (by decide) ?_
        obtain ⟨v14, e_v14, h⟩ := sx_bnd h
        refine cl_X8_78 X hG hP hz hS  e_v14 hl.1 dX8_lay_65 hcs ⟨Nat.le_trans (by decide) hR.1, Nat.le_trans (by decide) hR.2⟩ (Nat.le_of_ble_eq_true rfl) (fun H locs hP hS => ?_)
        refine sx_iald X hP r1 0 (sx_len r1) (sx_row_cnt hk_r1) (fun _ _ => sx_row_E hk_r1) dX8_lay_68 h (fun v15 h => ?_)
        refine lv_istore (lv' := [(4, .int v15), (0, .ref (sx_ad C 17 0)), (1, .ref (sx_ad C r1 0)), (2, .int x2), (3, .int x3)]) hx hb dX8_lay_69 hl (by decide) rfl (fun ls hl => ?_)
        refine lv_aload_n hx hb dX8_lay_71 rfl (lv_at hl 2 rfl) ?_
        refine lv_iload_n hx hb dX8_lay_72 rfl (lv_at hl 4 rfl) ?_
        refine lv_iconst (v := (1 : Int32)) hx hb dX8_lay_73 (by decide) ?_
        obtain ⟨v16, e_v16, h⟩ := sx_bnd h
        refine cl_X8_78 X hG hP hz hS  e_v16 hl.1 dX8_lay_74 hcs ⟨Nat.le_trans (by decide) hR.1, Nat.le_trans (by decide) hR.2⟩ (Nat.le_of_ble_eq_true rfl) (fun H locs hP hS => ?_)
        refine sx_iald X hP r1 0 (sx_len r1) (sx_row_cnt hk_r1) (fun _ _ => sx_row_E hk_r1) dX8_lay_77 h (fun v17 h => ?_)
        refine lv_istore (lv' := [(5, .int v17), (4, .int v15), (0, .ref (sx_ad C 17 0)), (1, .ref (sx_ad C r1 0)), (2, .int x2), (3, .int x3)]) hx hb dX8_lay_78 hl (by decide) rfl (fun ls hl => ?_)
        refine lv_iload hx hb dX8_lay_80 (lv_at hl 1 rfl) ?_
        obtain ⟨j96, e_j96, h⟩ := sx_nm h
        have hj96 : ∀ (v18 : Int32) (H : Heap) (locs : List Loc) (ls : Array Slot), lv_has ls 7 [(0, .ref (sx_ad C 17 0)), (1, .ref (sx_ad C r1 0)), (2, .int x2), (3, .int x3), (5, .int v17)] → sx_W C M H → va_S (sx_A C) s.heap H locs → j96 v18 = some M' → W p l e R s m args below meth c H locs 0 0 (sx_Z C none M' below args s) (F0 m 96 ls [.int v18]) := by
          intro v18 H locs ls hl hP hS h
          subst e_j96
          refine lv_iconst (v := (1 : Int32)) hx hb dX8_lay_96 (by decide) ?_
          refine lv_iadd hx hb dX8_lay_97 ?_
          obtain ⟨v19, e_v19, h⟩ := sx_nm h
          rw [e_v19]
          refine lv_istore (lv' := [(6, .int v19), (0, .ref (sx_ad C 17 0)), (1, .ref (sx_ad C r1 0)), (2, .int x2), (3, .int x3), (5, .int v17)]) hx hb dX8_lay_98 hl (by decide) rfl (fun ls hl => ?_)
          refine lv_aload_n hx hb dX8_lay_100 rfl (lv_at hl 2 rfl) ?_
          refine lv_iload_n hx hb dX8_lay_101 rfl (lv_at hl 4 rfl) ?_
          refine lv_iconst (v := (2 : Int32)) hx hb dX8_lay_102 (by decide) ?_
          obtain ⟨v20, e_v20, h⟩ := sx_bnd h
          refine cl_X8_78 X hG hP hz hS  e_v20 hl.1 dX8_lay_103 hcs ⟨Nat.le_trans (by decide) hR.1, Nat.le_trans (by decide) hR.2⟩ (Nat.le_of_ble_eq_true rfl) (fun H locs hP hS => ?_)
          refine sx_iald X hP r1 0 (sx_len r1) (sx_row_cnt hk_r1) (fun _ _ => sx_row_E hk_r1) dX8_lay_106 h (fun v21 h => ?_)
          refine lv_iconst (v := (1 : Int32)) hx hb dX8_lay_107 (by decide) ?_
          obtain ⟨j134, e_j134, h⟩ := sx_nm h
          have hj134 : ∀ (v22 : Int32) (M23 : sx_M) (H : Heap) (locs : List Loc) (ls : Array Slot), lv_has ls 7 [(0, .ref (sx_ad C 17 0)), (1, .ref (sx_ad C r1 0)), (2, .int v22), (3, .int x3)] → sx_W C M23 H → va_S (sx_A C) s.heap H locs → j134 v22 M23 = some M' → W p l e R s m args below meth c H locs 0 0 (sx_Z C none M' below args s) (F0 m 134 ls []) := by
            intro v22 M23 H locs ls hl hP hS h
            subst e_j134
            obtain ⟨v24, e_v24, h⟩ := sx_nm h
            refine lv_iinc (v := v24) (lv' := [(3, .int v24), (0, .ref (sx_ad C 17 0)), (1, .ref (sx_ad C r1 0)), (2, .int v22)]) hx hb dX8_lay_134 hl (k := 3) rfl (by rw [← e_v24]; rfl) (by decide) rfl (fun ls hl => ?_)
            refine lv_goto (tgt := 55) hx hb dX8_lay_137 (by decide) ?_
            exact ih v22 v24 M23 H locs ls (lv_sub hl [1, 2, 3, 0] rfl) hP hS h
          clear e_j134
          refine lv_icmp_ne (tgt := 134) hx hb dX8_lay_108 (by decide) (fun c25 => ?_) (fun c25 => ?_)
          · replace h := sx_ifn h c25
            exact hj134 x2 M H locs ls (lv_sub hl [1, 2, 3, 4] rfl) hP hS h
          · replace h := sx_ifp h c25
            refine lv_iload hx hb dX8_lay_111 (lv_at hl 0 rfl) ?_
            refine lv_aload_n hx hb dX8_lay_113 rfl (lv_at hl 1 rfl) ?_
            refine gf_X8_32 X hP (by decide) dX8_lay_114 ?_
            refine lv_iload hx hb dX8_lay_117 (lv_at hl 5 rfl) ?_
            refine sx_iald X hP 25 0 24 (by decide) (fun _ _ => rfl) dX8_lay_119 h (fun v26 h => ?_)
            refine lv_icmp_ge (tgt := 134) hx hb dX8_lay_120 (by decide) (fun c27 => ?_) (fun c27 => ?_)
            · replace h := sx_ifp h c27
              exact hj134 x2 M H locs ls (lv_sub hl [1, 2, 3, 4] rfl) hP hS h
            · replace h := sx_ifn h c27
              refine lv_aload_n hx hb dX8_lay_123 rfl (lv_at hl 1 rfl) ?_
              refine gf_X8_32 X hP (by decide) dX8_lay_124 ?_
              refine lv_iload hx hb dX8_lay_127 (lv_at hl 5 rfl) ?_
              refine lv_iload hx hb dX8_lay_129 (lv_at hl 0 rfl) ?_
              refine sx_iast X hG hP hS 25 0 24 (by decide) (fun _ _ => rfl) dX8_lay_131 h (fun M28 H locs h hP hS => ?_)
              refine lv_iconst (v := (1 : Int32)) hx hb dX8_lay_132 (by decide) ?_
              refine lv_istore_n (lv' := [(2, .int (1 : Int32)), (6, .int v19), (0, .ref (sx_ad C 17 0)), (1, .ref (sx_ad C r1 0)), (3, .int x3), (5, .int v17)]) hx hb dX8_lay_133 rfl hl (by decide) rfl (fun ls hl => ?_)
              exact hj134 (1 : Int32) M28 H locs ls (lv_sub hl [2, 3, 0, 4] rfl) hP hS h
        clear e_j96
        refine lv_if_ge (tgt := 89) hx hb dX8_lay_82 (by decide) (fun c29 => ?_) (fun c29 => ?_)
        · replace h := sx_ifp h c29
          refine lv_aload_n hx hb dX8_lay_89 rfl (lv_at hl 2 rfl) ?_
          refine gf_X8_32 X hP (by decide) dX8_lay_90 ?_
          refine lv_iload hx hb dX8_lay_93 (lv_at hl 1 rfl) ?_
          refine sx_iald X hP 25 0 24 (by decide) (fun _ _ => rfl) dX8_lay_95 h (fun v30 h => ?_)
          exact hj96 v30 H locs ls (lv_sub hl [2, 3, 4, 5, 0] rfl) hP hS h
        · replace h := sx_ifn h c29
          refine lv_iconst (v := (0 : Int32)) hx hb dX8_lay_85 (by decide) ?_
          refine lv_goto (tgt := 96) hx hb dX8_lay_86 (by decide) ?_
          exact hj96 (0 : Int32) H locs ls (lv_sub hl [2, 3, 4, 5, 0] rfl) hP hS h
  have hf8_lay_L47 : ∀ (r1 : Nat) (hk_r1 : sx_row r1) (n : Nat) (x2 : Int32) (M : sx_M) (H : Heap) (locs : List Loc) (ls : Array Slot), lv_has ls 7 [(0, .ref (sx_ad C 17 0)), (1, .ref (sx_ad C r1 0)), (2, .int x2)] → sx_W C M H → va_S (sx_A C) s.heap H locs → f8_lay_L47 r1 n x2 M = some M' → W p l e R s m args below meth c H locs 0 0 (sx_Z C none M' below args s) (F0 m 47 ls []) := by
    intro r1 hk_r1 n
    induction n with
    | zero => intro x2 M H locs ls hl hP hS h; exact absurd (show (none : Option (sx_M)) = some M' from h) (fun q => nomatch q)
    | succ n ih =>
      intro x2 M H locs ls hl hP hS h
      rw [f8_lay_L47] at h
      refine lv_iload_n hx hb dX8_lay_47 rfl (lv_at hl 2 rfl) ?_
      refine lv_if_eq (tgt := 143) hx hb dX8_lay_48 (by decide) (fun c11 => ?_) (fun c11 => ?_)
      · replace h := sx_ifp h c11
        exact sx_vret X hr hlocks hS hP h dX8_lay_143
      · replace h := sx_ifn h c11
        refine lv_iconst (v := (0 : Int32)) hx hb dX8_lay_51 (by decide) ?_
        refine lv_istore_n (lv' := [(2, .int (0 : Int32)), (0, .ref (sx_ad C 17 0)), (1, .ref (sx_ad C r1 0))]) hx hb dX8_lay_52 rfl hl (by decide) rfl (fun ls hl => ?_)
        refine lv_iconst (v := (0 : Int32)) hx hb dX8_lay_53 (by decide) ?_
        refine lv_istore_n (lv' := [(3, .int (0 : Int32)), (2, .int (0 : Int32)), (0, .ref (sx_ad C 17 0)), (1, .ref (sx_ad C r1 0))]) hx hb dX8_lay_54 rfl hl (by decide) rfl (fun ls hl => ?_)
        refine hf8_lay_L55 r1 hk_r1 _ 5000 ?_ (0 : Int32) (0 : Int32) M H locs ls (lv_sub hl [2, 3, 1, 0] rfl) hP hS h
        · intro v31 M32 H locs ls hl hP hS h
          refine lv_goto (tgt := 47) hx hb dX8_lay_140 (by decide) ?_
          exact ih v31 M32 H locs ls (lv_sub hl [0, 1, 2] rfl) hP hS h
  refine lv_iconst (v := (0 : Int32)) hx hb dX8_lay_0 (by decide) ?_
  refine lv_istore_n (lv' := [(2, .int (0 : Int32)), (0, .ref (sx_ad C 17 0)), (1, .ref (sx_ad C r1 0))]) hx hb dX8_lay_1 rfl hl (by decide) rfl (fun ls hl => ?_)
  refine hf8_lay_L2 r1 hk_r1 _ 5000 ?_ (0 : Int32) M0 H locs ls (lv_sub hl [1, 2, 0] rfl) hP hS h
  · intro M10 H locs ls hl hP hS h
    refine lv_iconst (v := (1 : Int32)) hx hb dX8_lay_45 (by decide) ?_
    refine lv_istore_n (lv' := [(2, .int (1 : Int32)), (0, .ref (sx_ad C 17 0)), (1, .ref (sx_ad C r1 0))]) hx hb dX8_lay_46 rfl hl (by decide) rfl (fun ls hl => ?_)
    exact hf8_lay_L47 r1 hk_r1 5000 (1 : Int32) M10 H locs ls (lv_sub hl [1, 2, 0] rfl) hP hS h
set_option maxRecDepth 100000 in
theorem ct_8_lay (l : Launch) (C : sx_C) (hG : sx_G C) (r1 : Nat) (hk_r1 : sx_row r1) (M0 : sx_M) (M' : sx_M) (h : f8_lay r1 M0 = some M') : Met l yX8_lay (.code yX8_lay cX8_lay 7 none :: sx_T) ({ frames := 2, cells := 0, slots := 0, locals := 46 } : Room) (sx_Pc C M0 [.ref (sx_ad C 17 0), .ref (sx_ad C r1 0)]) (sx_Q C none M') 0 0 (sx_A C) := by
  refine Met.ofW (cc := cX8_lay) (maxL := 7) (ret := none) (by decide) rfl ?_
  intro p e s m args below meth c s₁ B hml hv
  obtain ⟨rfl, hz, hP, hK⟩ := hv
  have hl := lv_entry ([.ref (sx_ad C 17 0), .ref (sx_ad C r1 0)]) (n := 7) (Nat.le_of_ble_eq_true rfl)
  rw [lg_entry_eq]
  generalize (lg_sl ([.ref (sx_ad C 17 0), .ref (sx_ad C r1 0)]) ++ List.replicate (7 - (lg_sl ([.ref (sx_ad C 17 0), .ref (sx_ad C r1 0)])).length) Slot.unset).toArray = ls at hl ⊢
  exact wk_8_lay ⟨B.exec, B.bytes, hml, findClass_of_methodNamed B.named, fun w hw => atoms_spec B.pre w (List.mem_cons_of_mem _ hw), hK⟩ B.returns B.notSynchronized hG hz ⟨Nat.zero_le _, Nat.zero_le _⟩ ⟨Nat.le_refl _, Nat.le_refl _⟩ r1 hk_r1 M0 M' h hl hP va_S.rf
theorem cl_X8_81 (X : sx_X C p m c cc nL s args RX8) (hG : sx_G C) (hP : sx_W C M0 H) (hz : sx_sz C ≤ H0.size) (hS : va_S (sx_A C) H0 H locs) {r1 : Nat} (hk_r1 : sx_row r1) {M' : sx_M} (h : f8_lay r1 M0 = some M') (hsz : ls.size = nL) (hdg : decode cc pc = .ok (.invokevirtual 81, 3)) (hcs : cells ≤ R.cells ∧ slots ≤ R.slots) (hR : 2 + 1 ≤ R.frames ∧ 8 + (7 + 11) + 46 ≤ R.locals) (hrest : (rest.map fun v => v.category).sum ≤ 8) (kk : ∀ (H1 : Heap) (locs1 : List Loc), sx_W C M' H1 → va_S (sx_A C) H0 H1 locs1 → W p l e R s m args below meth c H1 locs1 cells slots Q (F0 m (pc + 3) ls (rest))) : W p l e R s m args below meth c H locs cells slots Q (F0 m pc ls (.ref (sx_ad C r1 0) :: .ref (sx_ad C 17 0) :: rest)) :=
  sx_callV (n := 1) (As := [.ref (sx_ad C r1 0)]) (k0 := 17) (s0 := 0) X hP hz hS (by decide) rfl rfl (sx_goodV tw_1177 tw_1179 tw_40 tw_71 tw_1180) (by decide +kernel) rfl rfl hR (ct_8_lay l C hG r1 hk_r1 M0 M' h) rfl rfl hrest hsz hdg hcs kk
-- StringShedModel.heldMany([I)I
def f8_heldMany_L9 (M : sx_M) : Nat → Int32 → Int32 → Option (Int32 × sx_M)
  | 0, _, _ => none
  | n + 1, x2, x3 =>
    if (24 : Int32) ≤ x3 then
      some (x2, M)
    else
      if sx_in x3 24 then
      sx_bd (M.1 25 0 (x3).toNatClampNeg) fun v3 =>
      sx_bd (fun (v4 : Int32) =>
        sx_bd (x2 + v4) fun v5 =>
        sx_bd (x3 + (1 : Int32)) fun v6 =>
        f8_heldMany_L9 M n v5 v6) fun j32 =>
      if (99 : Int32) ≤ v3 then
        j32 (0 : Int32)
      else
        j32 (1 : Int32)
      else none
def f8_heldMany (r1 : Nat) (M0 : sx_M) : Option (Int32 × sx_M) :=
  (f8_lay r1 M0).bind fun M1 =>
  f8_heldMany_L9 M1
    5000 (0 : Int32) (0 : Int32)
set_option maxRecDepth 100000 in
set_option maxHeartbeats 4000000 in
theorem wk_8_heldMany (X : sx_X C p m c cX8_heldMany 4 s args RX8) (hr : meth.sig.returnType = (some .int)) (hlocks : meth.locks = false) (hG : sx_G C) (hz : sx_sz C ≤ s.heap.size) (hcs : 0 ≤ R.cells ∧ 0 ≤ R.slots) (hR : 3 ≤ R.frames ∧ 72 ≤ R.locals) (r1 : Nat) (hk_r1 : sx_row r1) (M0 : sx_M) (r : Int32) (M' : sx_M) (h : f8_heldMany r1 M0 = some (r, M')) (hl : lv_has ls 4 [(0, .ref (sx_ad C 17 0)), (1, .ref (sx_ad C r1 0))]) (hP : sx_W C M0 H) (hS : va_S (sx_A C) s.heap H locs) : W p l e R s m args below meth c H locs 0 0 (sx_Z C (some (.int r)) M' below args s) (F0 m 0 ls []) := by
  obtain ⟨hx, hb, hml, hown, hts, hK⟩ := id X
  rw [f8_heldMany] at h
  have hf8_heldMany_L9 : ∀ (M : sx_M) (n : Nat) (x2 : Int32) (x3 : Int32) (H : Heap) (locs : List Loc) (ls : Array Slot), lv_has ls 4 [(0, .ref (sx_ad C 17 0)), (2, .int x2), (3, .int x3)] → sx_W C M H → va_S (sx_A C) s.heap H locs → f8_heldMany_L9 M n x2 x3 = some (r, M') → W p l e R s m args below meth c H locs 0 0 (sx_Z C (some (.int r)) M' below args s) (F0 m 9 ls []) := by
    intro M n
    induction n with
    | zero => intro x2 x3 H locs ls hl hP hS h; exact absurd (show (none : Option (Int32 × sx_M)) = some (r, M') from h) (fun q => nomatch q)
    | succ n ih =>
      intro x2 x3 H locs ls hl hP hS h
      rw [f8_heldMany_L9] at h
      refine lv_iload_n hx hb dX8_heldMany_9 rfl (lv_at hl 2 rfl) ?_
      refine lv_bipush (v := (24 : Int32)) hx hb dX8_heldMany_10 (by decide) ?_
      refine lv_icmp_ge (tgt := 40) hx hb dX8_heldMany_12 (by decide) (fun c2 => ?_) (fun c2 => ?_)
      · replace h := sx_ifp h c2
        refine lv_iload_n hx hb dX8_heldMany_40 rfl (lv_at hl 1 rfl) ?_
        exact sx_iretM X hr hlocks hS hP h dX8_heldMany_41
      · replace h := sx_ifn h c2
        refine lv_iload_n hx hb dX8_heldMany_15 rfl (lv_at hl 1 rfl) ?_
        refine lv_aload_n hx hb dX8_heldMany_16 rfl (lv_at hl 0 rfl) ?_
        refine gf_X8_32 X hP (by decide) dX8_heldMany_17 ?_
        refine lv_iload_n hx hb dX8_heldMany_20 rfl (lv_at hl 2 rfl) ?_
        refine sx_iald X hP 25 0 24 (by decide) (fun _ _ => rfl) dX8_heldMany_21 h (fun v3 h => ?_)
        refine lv_bipush (v := (99 : Int32)) hx hb dX8_heldMany_22 (by decide) ?_
        obtain ⟨j32, e_j32, h⟩ := sx_nm h
        have hj32 : ∀ (v4 : Int32) (H : Heap) (locs : List Loc) (ls : Array Slot), lv_has ls 4 [(0, .ref (sx_ad C 17 0)), (3, .int x3)] → sx_W C M H → va_S (sx_A C) s.heap H locs → j32 v4 = some (r, M') → W p l e R s m args below meth c H locs 0 0 (sx_Z C (some (.int r)) M' below args s) (F0 m 32 ls [.int v4, .int x2]) := by
          intro v4 H locs ls hl hP hS h
          subst e_j32
          refine lv_iadd hx hb dX8_heldMany_32 ?_
          obtain ⟨v5, e_v5, h⟩ := sx_nm h
          rw [e_v5]
          refine lv_istore_n (lv' := [(2, .int v5), (0, .ref (sx_ad C 17 0)), (3, .int x3)]) hx hb dX8_heldMany_33 rfl hl (by decide) rfl (fun ls hl => ?_)
          obtain ⟨v6, e_v6, h⟩ := sx_nm h
          refine lv_iinc (v := v6) (lv' := [(3, .int v6), (2, .int v5), (0, .ref (sx_ad C 17 0))]) hx hb dX8_heldMany_34 hl (k := 2) rfl (by rw [← e_v6]; rfl) (by decide) rfl (fun ls hl => ?_)
          refine lv_goto (tgt := 9) hx hb dX8_heldMany_37 (by decide) ?_
          exact ih v5 v6 H locs ls (lv_sub hl [2, 1, 0] rfl) hP hS h
        clear e_j32
        refine lv_icmp_ge (tgt := 31) hx hb dX8_heldMany_24 (by decide) (fun c7 => ?_) (fun c7 => ?_)
        · replace h := sx_ifp h c7
          refine lv_iconst (v := (0 : Int32)) hx hb dX8_heldMany_31 (by decide) ?_
          exact hj32 (0 : Int32) H locs ls (lv_sub hl [0, 2] rfl) hP hS h
        · replace h := sx_ifn h c7
          refine lv_iconst (v := (1 : Int32)) hx hb dX8_heldMany_27 (by decide) ?_
          refine lv_goto (tgt := 32) hx hb dX8_heldMany_28 (by decide) ?_
          exact hj32 (1 : Int32) H locs ls (lv_sub hl [0, 2] rfl) hP hS h
  refine lv_aload_n hx hb dX8_heldMany_0 rfl (lv_at hl 0 rfl) ?_
  refine lv_aload_n hx hb dX8_heldMany_1 rfl (lv_at hl 1 rfl) ?_
  obtain ⟨M1, e_M1, h⟩ := sx_bnd h
  refine cl_X8_81 X hG hP hz hS hk_r1 e_M1 hl.1 dX8_heldMany_2 hcs ⟨Nat.le_trans (by decide) hR.1, Nat.le_trans (by decide) hR.2⟩ (Nat.le_of_ble_eq_true rfl) (fun H locs hP hS => ?_)
  refine lv_iconst (v := (0 : Int32)) hx hb dX8_heldMany_5 (by decide) ?_
  refine lv_istore_n (lv' := [(2, .int (0 : Int32)), (0, .ref (sx_ad C 17 0)), (1, .ref (sx_ad C r1 0))]) hx hb dX8_heldMany_6 rfl hl (by decide) rfl (fun ls hl => ?_)
  refine lv_iconst (v := (0 : Int32)) hx hb dX8_heldMany_7 (by decide) ?_
  refine lv_istore_n (lv' := [(3, .int (0 : Int32)), (2, .int (0 : Int32)), (0, .ref (sx_ad C 17 0)), (1, .ref (sx_ad C r1 0))]) hx hb dX8_heldMany_8 rfl hl (by decide) rfl (fun ls hl => ?_)
  exact hf8_heldMany_L9 M1 5000 (0 : Int32) (0 : Int32) H locs ls (lv_sub hl [2, 1, 0] rfl) hP hS h
set_option maxRecDepth 100000 in
theorem ct_8_heldMany (l : Launch) (C : sx_C) (hG : sx_G C) (r1 : Nat) (hk_r1 : sx_row r1) (M0 : sx_M) (r : Int32) (M' : sx_M) (h : f8_heldMany r1 M0 = some (r, M')) : Met l yX8_heldMany (.code yX8_heldMany cX8_heldMany 4 (some .int) :: sx_T) ({ frames := 3, cells := 0, slots := 0, locals := 72 } : Room) (sx_Pc C M0 [.ref (sx_ad C 17 0), .ref (sx_ad C r1 0)]) (sx_Q C (some (.int r)) M') 0 0 (sx_A C) := by
  refine Met.ofW (cc := cX8_heldMany) (maxL := 4) (ret := (some .int)) (by decide) rfl ?_
  intro p e s m args below meth c s₁ B hml hv
  obtain ⟨rfl, hz, hP, hK⟩ := hv
  have hl := lv_entry ([.ref (sx_ad C 17 0), .ref (sx_ad C r1 0)]) (n := 4) (Nat.le_of_ble_eq_true rfl)
  rw [lg_entry_eq]
  generalize (lg_sl ([.ref (sx_ad C 17 0), .ref (sx_ad C r1 0)]) ++ List.replicate (4 - (lg_sl ([.ref (sx_ad C 17 0), .ref (sx_ad C r1 0)])).length) Slot.unset).toArray = ls at hl ⊢
  exact wk_8_heldMany ⟨B.exec, B.bytes, hml, findClass_of_methodNamed B.named, fun w hw => atoms_spec B.pre w (List.mem_cons_of_mem _ hw), hK⟩ B.returns B.notSynchronized hG hz ⟨Nat.zero_le _, Nat.zero_le _⟩ ⟨Nat.le_refl _, Nat.le_refl _⟩ r1 hk_r1 M0 r M' h hl hP va_S.rf
theorem cl_X8_202 (X : sx_X C p m c cc nL s args RX8) (hG : sx_G C) (hP : sx_W C M0 H) (hz : sx_sz C ≤ H0.size) (hS : va_S (sx_A C) H0 H locs) {r1 : Nat} (hk_r1 : sx_row r1) {r : Int32} {M' : sx_M} (h : f8_heldMany r1 M0 = some (r, M')) (hsz : ls.size = nL) (hdg : decode cc pc = .ok (.invokevirtual 202, 3)) (hcs : cells ≤ R.cells ∧ slots ≤ R.slots) (hR : 3 + 1 ≤ R.frames ∧ 8 + (4 + 11) + 72 ≤ R.locals) (hrest : (rest.map fun v => v.category).sum ≤ 8) (kk : ∀ (H1 : Heap) (locs1 : List Loc), sx_W C M' H1 → va_S (sx_A C) H0 H1 locs1 → W p l e R s m args below meth c H1 locs1 cells slots Q (F0 m (pc + 3) ls ((.int r) :: rest))) : W p l e R s m args below meth c H locs cells slots Q (F0 m pc ls (.ref (sx_ad C r1 0) :: .ref (sx_ad C 17 0) :: rest)) :=
  sx_callV (n := 1) (As := [.ref (sx_ad C r1 0)]) (k0 := 17) (s0 := 0) X hP hz hS (by decide) rfl rfl (sx_goodV tw_1173 tw_1175 tw_39 tw_71 tw_1176) (by decide +kernel) rfl rfl hR (ct_8_heldMany l C hG r1 hk_r1 M0 r M' h) rfl rfl hrest hsz hdg hcs kk
-- StringShedModel.heldWeight([I)I
def f8_heldWeight_L9 (r1 : Nat) (M : sx_M) : Nat → Int32 → Int32 → Option (Int32 × sx_M)
  | 0, _, _ => none
  | n + 1, x2, x3 =>
    if (24 : Int32) ≤ x3 then
      some (x2, M)
    else
      if sx_in x3 24 then
      sx_bd (M.1 25 0 (x3).toNatClampNeg) fun v3 =>
      sx_bd (fun (v4 : Int32) =>
        sx_bd (x2 + v4) fun v5 =>
        sx_bd (x3 + (1 : Int32)) fun v6 =>
        f8_heldWeight_L9 r1 M n v5 v6) fun j38 =>
      if (99 : Int32) ≤ v3 then
        j38 (0 : Int32)
      else
        (f8_partAt x3 (0 : Int32) M).bind fun v8 =>
        if sx_in v8 (sx_len r1) then
        sx_bd (M.1 r1 0 (v8).toNatClampNeg) fun v9 =>
        j38 v9
        else none
      else none
def f8_heldWeight (r1 : Nat) (M0 : sx_M) : Option (Int32 × sx_M) :=
  (f8_lay r1 M0).bind fun M1 =>
  f8_heldWeight_L9 r1 M1
    5000 (0 : Int32) (0 : Int32)
set_option maxRecDepth 100000 in
set_option maxHeartbeats 4000000 in
theorem wk_8_heldWeight (X : sx_X C p m c cX8_heldWeight 4 s args RX8) (hr : meth.sig.returnType = (some .int)) (hlocks : meth.locks = false) (hG : sx_G C) (hz : sx_sz C ≤ s.heap.size) (hcs : 0 ≤ R.cells ∧ 0 ≤ R.slots) (hR : 3 ≤ R.frames ∧ 72 ≤ R.locals) (r1 : Nat) (hk_r1 : sx_row r1) (M0 : sx_M) (r : Int32) (M' : sx_M) (h : f8_heldWeight r1 M0 = some (r, M')) (hl : lv_has ls 4 [(0, .ref (sx_ad C 17 0)), (1, .ref (sx_ad C r1 0))]) (hP : sx_W C M0 H) (hS : va_S (sx_A C) s.heap H locs) : W p l e R s m args below meth c H locs 0 0 (sx_Z C (some (.int r)) M' below args s) (F0 m 0 ls []) := by
  obtain ⟨hx, hb, hml, hown, hts, hK⟩ := id X
  rw [f8_heldWeight] at h
  have hf8_heldWeight_L9 : ∀ (r1 : Nat) (M : sx_M) (hk_r1 : sx_row r1) (n : Nat) (x2 : Int32) (x3 : Int32) (H : Heap) (locs : List Loc) (ls : Array Slot), lv_has ls 4 [(0, .ref (sx_ad C 17 0)), (1, .ref (sx_ad C r1 0)), (2, .int x2), (3, .int x3)] → sx_W C M H → va_S (sx_A C) s.heap H locs → f8_heldWeight_L9 r1 M n x2 x3 = some (r, M') → W p l e R s m args below meth c H locs 0 0 (sx_Z C (some (.int r)) M' below args s) (F0 m 9 ls []) := by
    intro r1 M hk_r1 n
    induction n with
    | zero => intro x2 x3 H locs ls hl hP hS h; exact absurd (show (none : Option (Int32 × sx_M)) = some (r, M') from h) (fun q => nomatch q)
    | succ n ih =>
      intro x2 x3 H locs ls hl hP hS h
      rw [f8_heldWeight_L9] at h
      refine lv_iload_n hx hb dX8_heldWeight_9 rfl (lv_at hl 3 rfl) ?_
      refine lv_bipush (v := (24 : Int32)) hx hb dX8_heldWeight_10 (by decide) ?_
      refine lv_icmp_ge (tgt := 46) hx hb dX8_heldWeight_12 (by decide) (fun c2 => ?_) (fun c2 => ?_)
      · replace h := sx_ifp h c2
        refine lv_iload_n hx hb dX8_heldWeight_46 rfl (lv_at hl 2 rfl) ?_
        exact sx_iretM X hr hlocks hS hP h dX8_heldWeight_47
      · replace h := sx_ifn h c2
        refine lv_iload_n hx hb dX8_heldWeight_15 rfl (lv_at hl 2 rfl) ?_
        refine lv_aload_n hx hb dX8_heldWeight_16 rfl (lv_at hl 0 rfl) ?_
        refine gf_X8_32 X hP (by decide) dX8_heldWeight_17 ?_
        refine lv_iload_n hx hb dX8_heldWeight_20 rfl (lv_at hl 3 rfl) ?_
        refine sx_iald X hP 25 0 24 (by decide) (fun _ _ => rfl) dX8_heldWeight_21 h (fun v3 h => ?_)
        refine lv_bipush (v := (99 : Int32)) hx hb dX8_heldWeight_22 (by decide) ?_
        obtain ⟨j38, e_j38, h⟩ := sx_nm h
        have hj38 : ∀ (v4 : Int32) (H : Heap) (locs : List Loc) (ls : Array Slot), lv_has ls 4 [(0, .ref (sx_ad C 17 0)), (1, .ref (sx_ad C r1 0)), (3, .int x3)] → sx_W C M H → va_S (sx_A C) s.heap H locs → j38 v4 = some (r, M') → W p l e R s m args below meth c H locs 0 0 (sx_Z C (some (.int r)) M' below args s) (F0 m 38 ls [.int v4, .int x2]) := by
          intro v4 H locs ls hl hP hS h
          subst e_j38
          refine lv_iadd hx hb dX8_heldWeight_38 ?_
          obtain ⟨v5, e_v5, h⟩ := sx_nm h
          rw [e_v5]
          refine lv_istore_n (lv' := [(2, .int v5), (0, .ref (sx_ad C 17 0)), (1, .ref (sx_ad C r1 0)), (3, .int x3)]) hx hb dX8_heldWeight_39 rfl hl (by decide) rfl (fun ls hl => ?_)
          obtain ⟨v6, e_v6, h⟩ := sx_nm h
          refine lv_iinc (v := v6) (lv' := [(3, .int v6), (2, .int v5), (0, .ref (sx_ad C 17 0)), (1, .ref (sx_ad C r1 0))]) hx hb dX8_heldWeight_40 hl (k := 3) rfl (by rw [← e_v6]; rfl) (by decide) rfl (fun ls hl => ?_)
          refine lv_goto (tgt := 9) hx hb dX8_heldWeight_43 (by decide) ?_
          exact ih v5 v6 H locs ls (lv_sub hl [2, 3, 1, 0] rfl) hP hS h
        clear e_j38
        refine lv_icmp_ge (tgt := 37) hx hb dX8_heldWeight_24 (by decide) (fun c7 => ?_) (fun c7 => ?_)
        · replace h := sx_ifp h c7
          refine lv_iconst (v := (0 : Int32)) hx hb dX8_heldWeight_37 (by decide) ?_
          exact hj38 (0 : Int32) H locs ls (lv_sub hl [0, 1, 3] rfl) hP hS h
        · replace h := sx_ifn h c7
          refine lv_aload_n hx hb dX8_heldWeight_27 rfl (lv_at hl 1 rfl) ?_
          refine lv_iload_n hx hb dX8_heldWeight_28 rfl (lv_at hl 3 rfl) ?_
          refine lv_iconst (v := (0 : Int32)) hx hb dX8_heldWeight_29 (by decide) ?_
          obtain ⟨v8, e_v8, h⟩ := sx_bnd h
          refine cl_X8_66 X hG hP hz hS  e_v8 hl.1 dX8_heldWeight_30 hcs ⟨Nat.le_trans (by decide) hR.1, Nat.le_trans (by decide) hR.2⟩ (Nat.le_of_ble_eq_true rfl) (fun H locs hP hS => ?_)
          refine sx_iald X hP r1 0 (sx_len r1) (sx_row_cnt hk_r1) (fun _ _ => sx_row_E hk_r1) dX8_heldWeight_33 h (fun v9 h => ?_)
          refine lv_goto (tgt := 38) hx hb dX8_heldWeight_34 (by decide) ?_
          exact hj38 v9 H locs ls (lv_sub hl [0, 1, 3] rfl) hP hS h
  refine lv_aload_n hx hb dX8_heldWeight_0 rfl (lv_at hl 0 rfl) ?_
  refine lv_aload_n hx hb dX8_heldWeight_1 rfl (lv_at hl 1 rfl) ?_
  obtain ⟨M1, e_M1, h⟩ := sx_bnd h
  refine cl_X8_81 X hG hP hz hS hk_r1 e_M1 hl.1 dX8_heldWeight_2 hcs ⟨Nat.le_trans (by decide) hR.1, Nat.le_trans (by decide) hR.2⟩ (Nat.le_of_ble_eq_true rfl) (fun H locs hP hS => ?_)
  refine lv_iconst (v := (0 : Int32)) hx hb dX8_heldWeight_5 (by decide) ?_
  refine lv_istore_n (lv' := [(2, .int (0 : Int32)), (0, .ref (sx_ad C 17 0)), (1, .ref (sx_ad C r1 0))]) hx hb dX8_heldWeight_6 rfl hl (by decide) rfl (fun ls hl => ?_)
  refine lv_iconst (v := (0 : Int32)) hx hb dX8_heldWeight_7 (by decide) ?_
  refine lv_istore_n (lv' := [(3, .int (0 : Int32)), (2, .int (0 : Int32)), (0, .ref (sx_ad C 17 0)), (1, .ref (sx_ad C r1 0))]) hx hb dX8_heldWeight_8 rfl hl (by decide) rfl (fun ls hl => ?_)
  exact hf8_heldWeight_L9 r1 M1 hk_r1 5000 (0 : Int32) (0 : Int32) H locs ls (lv_sub hl [2, 3, 1, 0] rfl) hP hS h
set_option maxRecDepth 100000 in
theorem ct_8_heldWeight (l : Launch) (C : sx_C) (hG : sx_G C) (r1 : Nat) (hk_r1 : sx_row r1) (M0 : sx_M) (r : Int32) (M' : sx_M) (h : f8_heldWeight r1 M0 = some (r, M')) : Met l yX8_heldWeight (.code yX8_heldWeight cX8_heldWeight 4 (some .int) :: sx_T) ({ frames := 3, cells := 0, slots := 0, locals := 72 } : Room) (sx_Pc C M0 [.ref (sx_ad C 17 0), .ref (sx_ad C r1 0)]) (sx_Q C (some (.int r)) M') 0 0 (sx_A C) := by
  refine Met.ofW (cc := cX8_heldWeight) (maxL := 4) (ret := (some .int)) (by decide) rfl ?_
  intro p e s m args below meth c s₁ B hml hv
  obtain ⟨rfl, hz, hP, hK⟩ := hv
  have hl := lv_entry ([.ref (sx_ad C 17 0), .ref (sx_ad C r1 0)]) (n := 4) (Nat.le_of_ble_eq_true rfl)
  rw [lg_entry_eq]
  generalize (lg_sl ([.ref (sx_ad C 17 0), .ref (sx_ad C r1 0)]) ++ List.replicate (4 - (lg_sl ([.ref (sx_ad C 17 0), .ref (sx_ad C r1 0)])).length) Slot.unset).toArray = ls at hl ⊢
  exact wk_8_heldWeight ⟨B.exec, B.bytes, hml, findClass_of_methodNamed B.named, fun w hw => atoms_spec B.pre w (List.mem_cons_of_mem _ hw), hK⟩ B.returns B.notSynchronized hG hz ⟨Nat.zero_le _, Nat.zero_le _⟩ ⟨Nat.le_refl _, Nat.le_refl _⟩ r1 hk_r1 M0 r M' h hl hP va_S.rf
theorem cl_X8_205 (X : sx_X C p m c cc nL s args RX8) (hG : sx_G C) (hP : sx_W C M0 H) (hz : sx_sz C ≤ H0.size) (hS : va_S (sx_A C) H0 H locs) {r1 : Nat} (hk_r1 : sx_row r1) {r : Int32} {M' : sx_M} (h : f8_heldWeight r1 M0 = some (r, M')) (hsz : ls.size = nL) (hdg : decode cc pc = .ok (.invokevirtual 205, 3)) (hcs : cells ≤ R.cells ∧ slots ≤ R.slots) (hR : 3 + 1 ≤ R.frames ∧ 8 + (4 + 11) + 72 ≤ R.locals) (hrest : (rest.map fun v => v.category).sum ≤ 8) (kk : ∀ (H1 : Heap) (locs1 : List Loc), sx_W C M' H1 → va_S (sx_A C) H0 H1 locs1 → W p l e R s m args below meth c H1 locs1 cells slots Q (F0 m (pc + 3) ls ((.int r) :: rest))) : W p l e R s m args below meth c H locs cells slots Q (F0 m pc ls (.ref (sx_ad C r1 0) :: .ref (sx_ad C 17 0) :: rest)) :=
  sx_callV (n := 1) (As := [.ref (sx_ad C r1 0)]) (k0 := 17) (s0 := 0) X hP hz hS (by decide) rfl rfl (sx_goodV tw_1181 tw_1183 tw_41 tw_71 tw_1184) (by decide +kernel) rfl rfl hR (ct_8_heldWeight l C hG r1 hk_r1 M0 r M' h) rfl rfl hrest hsz hdg hcs kk
-- StringShedModel.redden([II)V
def f8_redden (r0 : Nat) (a1 : Int32) (M0 : sx_M) : Option (sx_M) :=
  if sx_in (3 : Int32) (sx_len r0) then
  sx_bd (M0.1 r0 0 ((3 : Int32)).toNatClampNeg) fun v1 =>
  sx_bd (fun (M2 : sx_M) =>
    some M2) fun j44 =>
  if v1 = (1 : Int32) then
    (f8_partAt a1 (3 : Int32) M0).bind fun v4 =>
    if sx_in v4 (sx_len r0) then
    sx_bd (M0.1 r0 0 (v4).toNatClampNeg) fun v5 =>
    if v5 = 0 then
      (f8_partAt a1 (3 : Int32) M0).bind fun v7 =>
      if sx_in v7 (sx_len r0) then
      sx_bd (sx_set M0 r0 0 (v7).toNatClampNeg (1 : Int32)) fun M8 =>
      if sx_in (6 : Int32) (sx_len r0) then
      sx_bd (M8.1 r0 0 ((6 : Int32)).toNatClampNeg) fun v9 =>
      if sx_in ((223 : Int32) + v9) (sx_len r0) then
      sx_bd (sx_set M8 r0 0 ((223 : Int32) + v9).toNatClampNeg a1) fun M10 =>
      if sx_in (6 : Int32) (sx_len r0) then
      sx_bd (M10.1 r0 0 ((6 : Int32)).toNatClampNeg) fun v11 =>
      if sx_in (6 : Int32) (sx_len r0) then
      sx_bd (sx_set M10 r0 0 ((6 : Int32)).toNatClampNeg (v11 + (1 : Int32))) fun M12 =>
      j44 M12
      else none
      else none
      else none
      else none
      else none
    else
      j44 M0
    else none
  else
    j44 M0
  else none
set_option maxRecDepth 100000 in
set_option maxHeartbeats 4000000 in
theorem wk_8_redden (X : sx_X C p m c cX8_redden 2 s args RX8) (hr : meth.sig.returnType = none) (hlocks : meth.locks = false) (hG : sx_G C) (hz : sx_sz C ≤ s.heap.size) (hcs : 0 ≤ R.cells ∧ 0 ≤ R.slots) (hR : 1 ≤ R.frames ∧ 21 ≤ R.locals) (r0 : Nat) (a1 : Int32) (hk_r0 : sx_row r0) (M0 : sx_M) (M' : sx_M) (h : f8_redden r0 a1 M0 = some M') (hl : lv_has ls 2 [(0, .ref (sx_ad C r0 0)), (1, .int a1)]) (hP : sx_W C M0 H) (hS : va_S (sx_A C) s.heap H locs) : W p l e R s m args below meth c H locs 0 0 (sx_Z C none M' below args s) (F0 m 0 ls []) := by
  obtain ⟨hx, hb, hml, hown, hts, hK⟩ := id X
  rw [f8_redden] at h
  refine lv_aload_n hx hb dX8_redden_0 rfl (lv_at hl 0 rfl) ?_
  refine lv_iconst (v := (3 : Int32)) hx hb dX8_redden_1 (by decide) ?_
  refine sx_iald X hP r0 0 (sx_len r0) (sx_row_cnt hk_r0) (fun _ _ => sx_row_E hk_r0) dX8_redden_2 h (fun v1 h => ?_)
  refine lv_iconst (v := (1 : Int32)) hx hb dX8_redden_3 (by decide) ?_
  obtain ⟨j44, e_j44, h⟩ := sx_nm h
  have hj44 : ∀ (M2 : sx_M) (H : Heap) (locs : List Loc) (ls : Array Slot), lv_has ls 2 [] → sx_W C M2 H → va_S (sx_A C) s.heap H locs → j44 M2 = some M' → W p l e R s m args below meth c H locs 0 0 (sx_Z C none M' below args s) (F0 m 44 ls []) := by
    intro M2 H locs ls hl hP hS h
    subst e_j44
    exact sx_vret X hr hlocks hS hP h dX8_redden_44
  clear e_j44
  refine lv_icmp_ne (tgt := 44) hx hb dX8_redden_4 (by decide) (fun c3 => ?_) (fun c3 => ?_)
  · replace h := sx_ifn h c3
    exact hj44 M0 H locs ls (lv_sub hl [] rfl) hP hS h
  · replace h := sx_ifp h c3
    refine lv_aload_n hx hb dX8_redden_7 rfl (lv_at hl 0 rfl) ?_
    refine lv_iload_n hx hb dX8_redden_8 rfl (lv_at hl 1 rfl) ?_
    refine lv_iconst (v := (3 : Int32)) hx hb dX8_redden_9 (by decide) ?_
    obtain ⟨v4, e_v4, h⟩ := sx_bnd h
    refine cl_X8_66 X hG hP hz hS  e_v4 hl.1 dX8_redden_10 hcs ⟨Nat.le_trans (by decide) hR.1, Nat.le_trans (by decide) hR.2⟩ (Nat.le_of_ble_eq_true rfl) (fun H locs hP hS => ?_)
    refine sx_iald X hP r0 0 (sx_len r0) (sx_row_cnt hk_r0) (fun _ _ => sx_row_E hk_r0) dX8_redden_13 h (fun v5 h => ?_)
    refine lv_if_ne (tgt := 44) hx hb dX8_redden_14 (by decide) (fun c6 => ?_) (fun c6 => ?_)
    · replace h := sx_ifn h c6
      exact hj44 M0 H locs ls (lv_sub hl [] rfl) hP hS h
    · replace h := sx_ifp h c6
      refine lv_aload_n hx hb dX8_redden_17 rfl (lv_at hl 0 rfl) ?_
      refine lv_iload_n hx hb dX8_redden_18 rfl (lv_at hl 1 rfl) ?_
      refine lv_iconst (v := (3 : Int32)) hx hb dX8_redden_19 (by decide) ?_
      obtain ⟨v7, e_v7, h⟩ := sx_bnd h
      refine cl_X8_66 X hG hP hz hS  e_v7 hl.1 dX8_redden_20 hcs ⟨Nat.le_trans (by decide) hR.1, Nat.le_trans (by decide) hR.2⟩ (Nat.le_of_ble_eq_true rfl) (fun H locs hP hS => ?_)
      refine lv_iconst (v := (1 : Int32)) hx hb dX8_redden_23 (by decide) ?_
      refine sx_iast X hG hP hS r0 0 (sx_len r0) (sx_row_cnt hk_r0) (fun _ _ => sx_row_E hk_r0) dX8_redden_24 h (fun M8 H locs h hP hS => ?_)
      refine lv_aload_n hx hb dX8_redden_25 rfl (lv_at hl 0 rfl) ?_
      refine lv_sipush (v := (223 : Int32)) hx hb dX8_redden_26 (by decide) ?_
      refine lv_aload_n hx hb dX8_redden_29 rfl (lv_at hl 0 rfl) ?_
      refine lv_bipush (v := (6 : Int32)) hx hb dX8_redden_30 (by decide) ?_
      refine sx_iald X hP r0 0 (sx_len r0) (sx_row_cnt hk_r0) (fun _ _ => sx_row_E hk_r0) dX8_redden_32 h (fun v9 h => ?_)
      refine lv_iadd hx hb dX8_redden_33 ?_
      refine lv_iload_n hx hb dX8_redden_34 rfl (lv_at hl 1 rfl) ?_
      refine sx_iast X hG hP hS r0 0 (sx_len r0) (sx_row_cnt hk_r0) (fun _ _ => sx_row_E hk_r0) dX8_redden_35 h (fun M10 H locs h hP hS => ?_)
      refine lv_aload_n hx hb dX8_redden_36 rfl (lv_at hl 0 rfl) ?_
      refine lv_bipush (v := (6 : Int32)) hx hb dX8_redden_37 (by decide) ?_
      refine lv_dup2_11 hx hb dX8_redden_39 rfl rfl ?_
      refine sx_iald X hP r0 0 (sx_len r0) (sx_row_cnt hk_r0) (fun _ _ => sx_row_E hk_r0) dX8_redden_40 h (fun v11 h => ?_)
      refine lv_iconst (v := (1 : Int32)) hx hb dX8_redden_41 (by decide) ?_
      refine lv_iadd hx hb dX8_redden_42 ?_
      refine sx_iast X hG hP hS r0 0 (sx_len r0) (sx_row_cnt hk_r0) (fun _ _ => sx_row_E hk_r0) dX8_redden_43 h (fun M12 H locs h hP hS => ?_)
      exact hj44 M12 H locs ls (lv_sub hl [] rfl) hP hS h
set_option maxRecDepth 100000 in
theorem ct_8_redden (l : Launch) (C : sx_C) (hG : sx_G C) (r0 : Nat) (a1 : Int32) (hk_r0 : sx_row r0) (M0 : sx_M) (M' : sx_M) (h : f8_redden r0 a1 M0 = some M') : Met l yX8_redden (.code yX8_redden cX8_redden 2 none :: sx_T) ({ frames := 1, cells := 0, slots := 0, locals := 21 } : Room) (sx_Pc C M0 [.ref (sx_ad C r0 0), .int a1]) (sx_Q C none M') 0 0 (sx_A C) := by
  refine Met.ofW (cc := cX8_redden) (maxL := 2) (ret := none) (by decide) rfl ?_
  intro p e s m args below meth c s₁ B hml hv
  obtain ⟨rfl, hz, hP, hK⟩ := hv
  have hl := lv_entry ([.ref (sx_ad C r0 0), .int a1]) (n := 2) (Nat.le_of_ble_eq_true rfl)
  rw [lg_entry_eq]
  generalize (lg_sl ([.ref (sx_ad C r0 0), .int a1]) ++ List.replicate (2 - (lg_sl ([.ref (sx_ad C r0 0), .int a1])).length) Slot.unset).toArray = ls at hl ⊢
  exact wk_8_redden ⟨B.exec, B.bytes, hml, findClass_of_methodNamed B.named, fun w hw => atoms_spec B.pre w (List.mem_cons_of_mem _ hw), hK⟩ B.returns B.notSynchronized hG hz ⟨Nat.zero_le _, Nat.zero_le _⟩ ⟨Nat.le_refl _, Nat.le_refl _⟩ r0 a1 hk_r0 M0 M' h hl hP va_S.rf
theorem cl_X8_85 (X : sx_X C p m c cc nL s args RX8) (hG : sx_G C) (hP : sx_W C M0 H) (hz : sx_sz C ≤ H0.size) (hS : va_S (sx_A C) H0 H locs) {r0 : Nat} {a1 : Int32} (hk_r0 : sx_row r0) {M' : sx_M} (h : f8_redden r0 a1 M0 = some M') (hsz : ls.size = nL) (hdg : decode cc pc = .ok (.invokestatic 85, 3)) (hcs : cells ≤ R.cells ∧ slots ≤ R.slots) (hR : 1 + 1 ≤ R.frames ∧ 8 + (2 + 11) + 21 ≤ R.locals) (hrest : (rest.map fun v => v.category).sum ≤ 8) (kk : ∀ (H1 : Heap) (locs1 : List Loc), sx_W C M' H1 → va_S (sx_A C) H0 H1 locs1 → W p l e R s m args below meth c H1 locs1 cells slots Q (F0 m (pc + 3) ls (rest))) : W p l e R s m args below meth c H locs cells slots Q (F0 m pc ls (.int a1 :: .ref (sx_ad C r0 0) :: rest)) :=
  sx_callS (n := 2) (As := [.ref (sx_ad C r0 0), .int a1]) X hP hz hS (sx_goodS tw_1121 tw_1122 tw_71 tw_1123) (by decide +kernel) rfl rfl hR (ct_8_redden l C hG r0 a1 hk_r0 M0 M' h) rfl rfl hrest hsz hdg hcs kk
-- StringShedModel.beginIn([I)I
def f8_beginIn_L11 (r0 : Nat) (k32 : (sx_M → Option (Int32 × sx_M))) : Nat → Int32 → sx_M → Option (Int32 × sx_M)
  | 0, _, _ => none
  | n + 1, x1, M =>
    if sx_in (0 : Int32) (sx_len r0) then
    sx_bd (M.1 r0 0 ((0 : Int32)).toNatClampNeg) fun v3 =>
    if v3 ≤ x1 then
      k32 M
    else
      (f8_partAt x1 (3 : Int32) M).bind fun v5 =>
      if sx_in v5 (sx_len r0) then
      sx_bd (sx_set M r0 0 (v5).toNatClampNeg (0 : Int32)) fun M6 =>
      sx_bd (x1 + (1 : Int32)) fun v7 =>
      f8_beginIn_L11 r0 k32 n v7 M6
      else none
    else none
def f8_beginIn_L60 (r0 : Nat) (w1 : Int32) (M : sx_M) (k115 : (Int32 → Option (Int32 × sx_M))) : Nat → Int32 → Int32 → Option (Int32 × sx_M)
  | 0, _, _ => none
  | n + 1, x2, x3 =>
    if sx_in (2 : Int32) (sx_len r0) then
    sx_bd (M.1 r0 0 ((2 : Int32)).toNatClampNeg) fun v15 =>
    if v15 ≤ x3 then
      k115 x2
    else
      sx_bd (fun (v17 : Int32) =>
        sx_bd (x3 + (1 : Int32)) fun v18 =>
        f8_beginIn_L60 r0 w1 M k115 n v17 v18) fun j108 =>
      sx_bd (fun (_ : Unit) =>
        j108 (1 : Int32)) fun j103 =>
      if x2 = 0 then
        (f8_cordAt x3 (0 : Int32) M).bind fun v20 =>
        if sx_in v20 (sx_len r0) then
        sx_bd (M.1 r0 0 (v20).toNatClampNeg) fun v21 =>
        sx_bd (fun (_ : Unit) =>
          j108 (0 : Int32)) fun j107 =>
        if 0 ≤ v21 then
          j107 ()
        else
          (f8_cordAt x3 (1 : Int32) M).bind fun v23 =>
          if sx_in v23 (sx_len r0) then
          sx_bd (M.1 r0 0 (v23).toNatClampNeg) fun v24 =>
          if v24 = w1 then
            (f8_cordAt x3 (2 : Int32) M).bind fun v26 =>
            if sx_in v26 (sx_len r0) then
            sx_bd (M.1 r0 0 (v26).toNatClampNeg) fun v27 =>
            if v27 = (1 : Int32) then
              j103 ()
            else
              j107 ()
            else none
          else
            j107 ()
          else none
        else none
      else
        j103 ()
    else none
def f8_beginIn_L34 (r0 : Nat) : Nat → Int32 → sx_M → Option (Int32 × sx_M)
  | 0, _, _ => none
  | n + 1, x1, M =>
    if sx_in (0 : Int32) (sx_len r0) then
    sx_bd (M.1 r0 0 ((0 : Int32)).toNatClampNeg) fun v9 =>
    if v9 ≤ x1 then
      if sx_in (6 : Int32) (sx_len r0) then
      sx_bd (M.1 r0 0 ((6 : Int32)).toNatClampNeg) fun v11 =>
      some (v11, M)
      else none
    else
      (f8_partAt x1 (2 : Int32) M).bind fun v12 =>
      if sx_in v12 (sx_len r0) then
      sx_bd (M.1 r0 0 (v12).toNatClampNeg) fun v13 =>
      sx_bd (fun (v14 : Int32) =>
        f8_beginIn_L60 r0 x1 M
          (fun (v29 : Int32) =>
            sx_bd (fun (M30 : sx_M) =>
              sx_bd (x1 + (1 : Int32)) fun v31 =>
              f8_beginIn_L34 r0 n v31 M30) fun j132 =>
            if v29 = 0 then
              j132 M
            else
              (f8_isPart r0 x1 M).bind fun v33 =>
              if v33 = 0 then
                j132 M
              else
                (f8_redden r0 x1 M).bind fun M35 =>
                j132 M35)
          5000 v14 (0 : Int32)) fun j57 =>
      if v13 = (1 : Int32) then
        j57 (1 : Int32)
      else
        j57 (0 : Int32)
      else none
    else none
def f8_beginIn (r0 : Nat) (M0 : sx_M) : Option (Int32 × sx_M) :=
  if sx_in (3 : Int32) (sx_len r0) then
  sx_bd (sx_set M0 r0 0 ((3 : Int32)).toNatClampNeg (1 : Int32)) fun M1 =>
  if sx_in (6 : Int32) (sx_len r0) then
  sx_bd (sx_set M1 r0 0 ((6 : Int32)).toNatClampNeg (0 : Int32)) fun M2 =>
  f8_beginIn_L11 r0
    (fun (M8 : sx_M) =>
      f8_beginIn_L34 r0
        5000 (0 : Int32) M8)
    5000 (0 : Int32) M2
  else none
  else none
set_option maxRecDepth 100000 in
set_option maxHeartbeats 4000000 in
theorem wk_8_beginIn (X : sx_X C p m c cX8_beginIn 4 s args RX8) (hr : meth.sig.returnType = (some .int)) (hlocks : meth.locks = false) (hG : sx_G C) (hz : sx_sz C ≤ s.heap.size) (hcs : 0 ≤ R.cells ∧ 0 ≤ R.slots) (hR : 2 ≤ R.frames ∧ 46 ≤ R.locals) (r0 : Nat) (hk_r0 : sx_row r0) (M0 : sx_M) (r : Int32) (M' : sx_M) (h : f8_beginIn r0 M0 = some (r, M')) (hl : lv_has ls 4 [(0, .ref (sx_ad C r0 0))]) (hP : sx_W C M0 H) (hS : va_S (sx_A C) s.heap H locs) : W p l e R s m args below meth c H locs 0 0 (sx_Z C (some (.int r)) M' below args s) (F0 m 0 ls []) := by
  obtain ⟨hx, hb, hml, hown, hts, hK⟩ := id X
  rw [f8_beginIn] at h
  have hf8_beginIn_L11 : ∀ (r0 : Nat) (hk_r0 : sx_row r0) (k32 : (sx_M → Option (Int32 × sx_M))) (n : Nat) (hk32 : (∀ (M : sx_M) (H : Heap) (locs : List Loc) (ls : Array Slot), lv_has ls 4 [(0, .ref (sx_ad C r0 0))] → sx_W C M H → va_S (sx_A C) s.heap H locs → k32 M = some (r, M') → W p l e R s m args below meth c H locs 0 0 (sx_Z C (some (.int r)) M' below args s) (F0 m 32 ls []))) (x1 : Int32) (M : sx_M) (H : Heap) (locs : List Loc) (ls : Array Slot), lv_has ls 4 [(0, .ref (sx_ad C r0 0)), (1, .int x1)] → sx_W C M H → va_S (sx_A C) s.heap H locs → f8_beginIn_L11 r0 k32 n x1 M = some (r, M') → W p l e R s m args below meth c H locs 0 0 (sx_Z C (some (.int r)) M' below args s) (F0 m 11 ls []) := by
    intro r0 hk_r0 k32 n hk32
    induction n with
    | zero => intro x1 M H locs ls hl hP hS h; exact absurd (show (none : Option (Int32 × sx_M)) = some (r, M') from h) (fun q => nomatch q)
    | succ n ih =>
      intro x1 M H locs ls hl hP hS h
      rw [f8_beginIn_L11] at h
      refine lv_iload_n hx hb dX8_beginIn_11 rfl (lv_at hl 1 rfl) ?_
      refine lv_aload_n hx hb dX8_beginIn_12 rfl (lv_at hl 0 rfl) ?_
      refine lv_iconst (v := (0 : Int32)) hx hb dX8_beginIn_13 (by decide) ?_
      refine sx_iald X hP r0 0 (sx_len r0) (sx_row_cnt hk_r0) (fun _ _ => sx_row_E hk_r0) dX8_beginIn_14 h (fun v3 h => ?_)
      refine lv_icmp_ge (tgt := 32) hx hb dX8_beginIn_15 (by decide) (fun c4 => ?_) (fun c4 => ?_)
      · replace h := sx_ifp h c4
        exact hk32 M H locs ls (lv_sub hl [0] rfl) hP hS h
      · replace h := sx_ifn h c4
        refine lv_aload_n hx hb dX8_beginIn_18 rfl (lv_at hl 0 rfl) ?_
        refine lv_iload_n hx hb dX8_beginIn_19 rfl (lv_at hl 1 rfl) ?_
        refine lv_iconst (v := (3 : Int32)) hx hb dX8_beginIn_20 (by decide) ?_
        obtain ⟨v5, e_v5, h⟩ := sx_bnd h
        refine cl_X8_66 X hG hP hz hS  e_v5 hl.1 dX8_beginIn_21 hcs ⟨Nat.le_trans (by decide) hR.1, Nat.le_trans (by decide) hR.2⟩ (Nat.le_of_ble_eq_true rfl) (fun H locs hP hS => ?_)
        refine lv_iconst (v := (0 : Int32)) hx hb dX8_beginIn_24 (by decide) ?_
        refine sx_iast X hG hP hS r0 0 (sx_len r0) (sx_row_cnt hk_r0) (fun _ _ => sx_row_E hk_r0) dX8_beginIn_25 h (fun M6 H locs h hP hS => ?_)
        obtain ⟨v7, e_v7, h⟩ := sx_nm h
        refine lv_iinc (v := v7) (lv' := [(1, .int v7), (0, .ref (sx_ad C r0 0))]) hx hb dX8_beginIn_26 hl (k := 1) rfl (by rw [← e_v7]; rfl) (by decide) rfl (fun ls hl => ?_)
        refine lv_goto (tgt := 11) hx hb dX8_beginIn_29 (by decide) ?_
        exact ih v7 M6 H locs ls (lv_sub hl [1, 0] rfl) hP hS h
  have hf8_beginIn_L60 : ∀ (r0 : Nat) (w1 : Int32) (M : sx_M) (hk_r0 : sx_row r0) (k115 : (Int32 → Option (Int32 × sx_M))) (n : Nat) (hk115 : (∀ (y2 : Int32) (H : Heap) (locs : List Loc) (ls : Array Slot), lv_has ls 4 [(0, .ref (sx_ad C r0 0)), (1, .int w1), (2, .int y2)] → sx_W C M H → va_S (sx_A C) s.heap H locs → k115 y2 = some (r, M') → W p l e R s m args below meth c H locs 0 0 (sx_Z C (some (.int r)) M' below args s) (F0 m 115 ls []))) (x2 : Int32) (x3 : Int32) (H : Heap) (locs : List Loc) (ls : Array Slot), lv_has ls 4 [(0, .ref (sx_ad C r0 0)), (1, .int w1), (2, .int x2), (3, .int x3)] → sx_W C M H → va_S (sx_A C) s.heap H locs → f8_beginIn_L60 r0 w1 M k115 n x2 x3 = some (r, M') → W p l e R s m args below meth c H locs 0 0 (sx_Z C (some (.int r)) M' below args s) (F0 m 60 ls []) := by
    intro r0 w1 M hk_r0 k115 n hk115
    induction n with
    | zero => intro x2 x3 H locs ls hl hP hS h; exact absurd (show (none : Option (Int32 × sx_M)) = some (r, M') from h) (fun q => nomatch q)
    | succ n ih =>
      intro x2 x3 H locs ls hl hP hS h
      rw [f8_beginIn_L60] at h
      refine lv_iload_n hx hb dX8_beginIn_60 rfl (lv_at hl 3 rfl) ?_
      refine lv_aload_n hx hb dX8_beginIn_61 rfl (lv_at hl 0 rfl) ?_
      refine lv_iconst (v := (2 : Int32)) hx hb dX8_beginIn_62 (by decide) ?_
      refine sx_iald X hP r0 0 (sx_len r0) (sx_row_cnt hk_r0) (fun _ _ => sx_row_E hk_r0) dX8_beginIn_63 h (fun v15 h => ?_)
      refine lv_icmp_ge (tgt := 115) hx hb dX8_beginIn_64 (by decide) (fun c16 => ?_) (fun c16 => ?_)
      · replace h := sx_ifp h c16
        exact hk115 x2 H locs ls (lv_sub hl [0, 1, 2] rfl) hP hS h
      · replace h := sx_ifn h c16
        refine lv_iload_n hx hb dX8_beginIn_67 rfl (lv_at hl 2 rfl) ?_
        obtain ⟨j108, e_j108, h⟩ := sx_nm h
        have hj108 : ∀ (v17 : Int32) (H : Heap) (locs : List Loc) (ls : Array Slot), lv_has ls 4 [(0, .ref (sx_ad C r0 0)), (1, .int w1), (3, .int x3)] → sx_W C M H → va_S (sx_A C) s.heap H locs → j108 v17 = some (r, M') → W p l e R s m args below meth c H locs 0 0 (sx_Z C (some (.int r)) M' below args s) (F0 m 108 ls [.int v17]) := by
          intro v17 H locs ls hl hP hS h
          subst e_j108
          refine lv_istore_n (lv' := [(2, .int v17), (0, .ref (sx_ad C r0 0)), (1, .int w1), (3, .int x3)]) hx hb dX8_beginIn_108 rfl hl (by decide) rfl (fun ls hl => ?_)
          obtain ⟨v18, e_v18, h⟩ := sx_nm h
          refine lv_iinc (v := v18) (lv' := [(3, .int v18), (2, .int v17), (0, .ref (sx_ad C r0 0)), (1, .int w1)]) hx hb dX8_beginIn_109 hl (k := 3) rfl (by rw [← e_v18]; rfl) (by decide) rfl (fun ls hl => ?_)
          refine lv_goto (tgt := 60) hx hb dX8_beginIn_112 (by decide) ?_
          exact ih v17 v18 H locs ls (lv_sub hl [2, 3, 1, 0] rfl) hP hS h
        clear e_j108
        obtain ⟨j103, e_j103, h⟩ := sx_nm h
        have hj103 : ∀ (H : Heap) (locs : List Loc) (ls : Array Slot), lv_has ls 4 [(0, .ref (sx_ad C r0 0)), (1, .int w1), (3, .int x3)] → sx_W C M H → va_S (sx_A C) s.heap H locs → j103 () = some (r, M') → W p l e R s m args below meth c H locs 0 0 (sx_Z C (some (.int r)) M' below args s) (F0 m 103 ls []) := by
          intro  H locs ls hl hP hS h
          subst e_j103
          refine lv_iconst (v := (1 : Int32)) hx hb dX8_beginIn_103 (by decide) ?_
          refine lv_goto (tgt := 108) hx hb dX8_beginIn_104 (by decide) ?_
          exact hj108 (1 : Int32) H locs ls (lv_sub hl [0, 1, 2] rfl) hP hS h
        clear e_j103
        refine lv_if_ne (tgt := 103) hx hb dX8_beginIn_68 (by decide) (fun c19 => ?_) (fun c19 => ?_)
        · replace h := sx_ifn h c19
          exact hj103 H locs ls (lv_sub hl [0, 1, 3] rfl) hP hS h
        · replace h := sx_ifp h c19
          refine lv_aload_n hx hb dX8_beginIn_71 rfl (lv_at hl 0 rfl) ?_
          refine lv_iload_n hx hb dX8_beginIn_72 rfl (lv_at hl 3 rfl) ?_
          refine lv_iconst (v := (0 : Int32)) hx hb dX8_beginIn_73 (by decide) ?_
          obtain ⟨v20, e_v20, h⟩ := sx_bnd h
          refine cl_X8_78 X hG hP hz hS  e_v20 hl.1 dX8_beginIn_74 hcs ⟨Nat.le_trans (by decide) hR.1, Nat.le_trans (by decide) hR.2⟩ (Nat.le_of_ble_eq_true rfl) (fun H locs hP hS => ?_)
          refine sx_iald X hP r0 0 (sx_len r0) (sx_row_cnt hk_r0) (fun _ _ => sx_row_E hk_r0) dX8_beginIn_77 h (fun v21 h => ?_)
          obtain ⟨j107, e_j107, h⟩ := sx_nm h
          have hj107 : ∀ (H : Heap) (locs : List Loc) (ls : Array Slot), lv_has ls 4 [(0, .ref (sx_ad C r0 0)), (1, .int w1), (3, .int x3)] → sx_W C M H → va_S (sx_A C) s.heap H locs → j107 () = some (r, M') → W p l e R s m args below meth c H locs 0 0 (sx_Z C (some (.int r)) M' below args s) (F0 m 107 ls []) := by
            intro  H locs ls hl hP hS h
            subst e_j107
            refine lv_iconst (v := (0 : Int32)) hx hb dX8_beginIn_107 (by decide) ?_
            exact hj108 (0 : Int32) H locs ls (lv_sub hl [0, 1, 2] rfl) hP hS h
          clear e_j107
          refine lv_if_ge (tgt := 107) hx hb dX8_beginIn_78 (by decide) (fun c22 => ?_) (fun c22 => ?_)
          · replace h := sx_ifp h c22
            exact hj107 H locs ls (lv_sub hl [0, 1, 3] rfl) hP hS h
          · replace h := sx_ifn h c22
            refine lv_aload_n hx hb dX8_beginIn_81 rfl (lv_at hl 0 rfl) ?_
            refine lv_iload_n hx hb dX8_beginIn_82 rfl (lv_at hl 3 rfl) ?_
            refine lv_iconst (v := (1 : Int32)) hx hb dX8_beginIn_83 (by decide) ?_
            obtain ⟨v23, e_v23, h⟩ := sx_bnd h
            refine cl_X8_78 X hG hP hz hS  e_v23 hl.1 dX8_beginIn_84 hcs ⟨Nat.le_trans (by decide) hR.1, Nat.le_trans (by decide) hR.2⟩ (Nat.le_of_ble_eq_true rfl) (fun H locs hP hS => ?_)
            refine sx_iald X hP r0 0 (sx_len r0) (sx_row_cnt hk_r0) (fun _ _ => sx_row_E hk_r0) dX8_beginIn_87 h (fun v24 h => ?_)
            refine lv_iload_n hx hb dX8_beginIn_88 rfl (lv_at hl 1 rfl) ?_
            refine lv_icmp_ne (tgt := 107) hx hb dX8_beginIn_89 (by decide) (fun c25 => ?_) (fun c25 => ?_)
            · replace h := sx_ifn h c25
              exact hj107 H locs ls (lv_sub hl [0, 1, 3] rfl) hP hS h
            · replace h := sx_ifp h c25
              refine lv_aload_n hx hb dX8_beginIn_92 rfl (lv_at hl 0 rfl) ?_
              refine lv_iload_n hx hb dX8_beginIn_93 rfl (lv_at hl 3 rfl) ?_
              refine lv_iconst (v := (2 : Int32)) hx hb dX8_beginIn_94 (by decide) ?_
              obtain ⟨v26, e_v26, h⟩ := sx_bnd h
              refine cl_X8_78 X hG hP hz hS  e_v26 hl.1 dX8_beginIn_95 hcs ⟨Nat.le_trans (by decide) hR.1, Nat.le_trans (by decide) hR.2⟩ (Nat.le_of_ble_eq_true rfl) (fun H locs hP hS => ?_)
              refine sx_iald X hP r0 0 (sx_len r0) (sx_row_cnt hk_r0) (fun _ _ => sx_row_E hk_r0) dX8_beginIn_98 h (fun v27 h => ?_)
              refine lv_iconst (v := (1 : Int32)) hx hb dX8_beginIn_99 (by decide) ?_
              refine lv_icmp_ne (tgt := 107) hx hb dX8_beginIn_100 (by decide) (fun c28 => ?_) (fun c28 => ?_)
              · replace h := sx_ifn h c28
                exact hj107 H locs ls (lv_sub hl [0, 1, 3] rfl) hP hS h
              · replace h := sx_ifp h c28
                exact hj103 H locs ls (lv_sub hl [0, 1, 3] rfl) hP hS h
  have hf8_beginIn_L34 : ∀ (r0 : Nat) (hk_r0 : sx_row r0) (n : Nat) (x1 : Int32) (M : sx_M) (H : Heap) (locs : List Loc) (ls : Array Slot), lv_has ls 4 [(0, .ref (sx_ad C r0 0)), (1, .int x1)] → sx_W C M H → va_S (sx_A C) s.heap H locs → f8_beginIn_L34 r0 n x1 M = some (r, M') → W p l e R s m args below meth c H locs 0 0 (sx_Z C (some (.int r)) M' below args s) (F0 m 34 ls []) := by
    intro r0 hk_r0 n
    induction n with
    | zero => intro x1 M H locs ls hl hP hS h; exact absurd (show (none : Option (Int32 × sx_M)) = some (r, M') from h) (fun q => nomatch q)
    | succ n ih =>
      intro x1 M H locs ls hl hP hS h
      rw [f8_beginIn_L34] at h
      refine lv_iload_n hx hb dX8_beginIn_34 rfl (lv_at hl 1 rfl) ?_
      refine lv_aload_n hx hb dX8_beginIn_35 rfl (lv_at hl 0 rfl) ?_
      refine lv_iconst (v := (0 : Int32)) hx hb dX8_beginIn_36 (by decide) ?_
      refine sx_iald X hP r0 0 (sx_len r0) (sx_row_cnt hk_r0) (fun _ _ => sx_row_E hk_r0) dX8_beginIn_37 h (fun v9 h => ?_)
      refine lv_icmp_ge (tgt := 138) hx hb dX8_beginIn_38 (by decide) (fun c10 => ?_) (fun c10 => ?_)
      · replace h := sx_ifp h c10
        refine lv_aload_n hx hb dX8_beginIn_138 rfl (lv_at hl 0 rfl) ?_
        refine lv_bipush (v := (6 : Int32)) hx hb dX8_beginIn_139 (by decide) ?_
        refine sx_iald X hP r0 0 (sx_len r0) (sx_row_cnt hk_r0) (fun _ _ => sx_row_E hk_r0) dX8_beginIn_141 h (fun v11 h => ?_)
        exact sx_iretM X hr hlocks hS hP h dX8_beginIn_142
      · replace h := sx_ifn h c10
        refine lv_aload_n hx hb dX8_beginIn_41 rfl (lv_at hl 0 rfl) ?_
        refine lv_iload_n hx hb dX8_beginIn_42 rfl (lv_at hl 1 rfl) ?_
        refine lv_iconst (v := (2 : Int32)) hx hb dX8_beginIn_43 (by decide) ?_
        obtain ⟨v12, e_v12, h⟩ := sx_bnd h
        refine cl_X8_66 X hG hP hz hS  e_v12 hl.1 dX8_beginIn_44 hcs ⟨Nat.le_trans (by decide) hR.1, Nat.le_trans (by decide) hR.2⟩ (Nat.le_of_ble_eq_true rfl) (fun H locs hP hS => ?_)
        refine sx_iald X hP r0 0 (sx_len r0) (sx_row_cnt hk_r0) (fun _ _ => sx_row_E hk_r0) dX8_beginIn_47 h (fun v13 h => ?_)
        refine lv_iconst (v := (1 : Int32)) hx hb dX8_beginIn_48 (by decide) ?_
        obtain ⟨j57, e_j57, h⟩ := sx_nm h
        have hj57 : ∀ (v14 : Int32) (H : Heap) (locs : List Loc) (ls : Array Slot), lv_has ls 4 [(0, .ref (sx_ad C r0 0)), (1, .int x1)] → sx_W C M H → va_S (sx_A C) s.heap H locs → j57 v14 = some (r, M') → W p l e R s m args below meth c H locs 0 0 (sx_Z C (some (.int r)) M' below args s) (F0 m 57 ls [.int v14]) := by
          intro v14 H locs ls hl hP hS h
          subst e_j57
          refine lv_istore_n (lv' := [(2, .int v14), (0, .ref (sx_ad C r0 0)), (1, .int x1)]) hx hb dX8_beginIn_57 rfl hl (by decide) rfl (fun ls hl => ?_)
          refine lv_iconst (v := (0 : Int32)) hx hb dX8_beginIn_58 (by decide) ?_
          refine lv_istore_n (lv' := [(3, .int (0 : Int32)), (2, .int v14), (0, .ref (sx_ad C r0 0)), (1, .int x1)]) hx hb dX8_beginIn_59 rfl hl (by decide) rfl (fun ls hl => ?_)
          refine hf8_beginIn_L60 r0 x1 M hk_r0 _ 5000 ?_ v14 (0 : Int32) H locs ls (lv_sub hl [2, 3, 1, 0] rfl) hP hS h
          · intro v29 H locs ls hl hP hS h
            refine lv_iload_n hx hb dX8_beginIn_115 rfl (lv_at hl 2 rfl) ?_
            obtain ⟨j132, e_j132, h⟩ := sx_nm h
            have hj132 : ∀ (M30 : sx_M) (H : Heap) (locs : List Loc) (ls : Array Slot), lv_has ls 4 [(0, .ref (sx_ad C r0 0)), (1, .int x1)] → sx_W C M30 H → va_S (sx_A C) s.heap H locs → j132 M30 = some (r, M') → W p l e R s m args below meth c H locs 0 0 (sx_Z C (some (.int r)) M' below args s) (F0 m 132 ls []) := by
              intro M30 H locs ls hl hP hS h
              subst e_j132
              obtain ⟨v31, e_v31, h⟩ := sx_nm h
              refine lv_iinc (v := v31) (lv' := [(1, .int v31), (0, .ref (sx_ad C r0 0))]) hx hb dX8_beginIn_132 hl (k := 1) rfl (by rw [← e_v31]; rfl) (by decide) rfl (fun ls hl => ?_)
              refine lv_goto (tgt := 34) hx hb dX8_beginIn_135 (by decide) ?_
              exact ih v31 M30 H locs ls (lv_sub hl [1, 0] rfl) hP hS h
            clear e_j132
            refine lv_if_eq (tgt := 132) hx hb dX8_beginIn_116 (by decide) (fun c32 => ?_) (fun c32 => ?_)
            · replace h := sx_ifp h c32
              exact hj132 M H locs ls (lv_sub hl [0, 1] rfl) hP hS h
            · replace h := sx_ifn h c32
              refine lv_aload_n hx hb dX8_beginIn_119 rfl (lv_at hl 0 rfl) ?_
              refine lv_iload_n hx hb dX8_beginIn_120 rfl (lv_at hl 1 rfl) ?_
              obtain ⟨v33, e_v33, h⟩ := sx_bnd h
              refine cl_X8_74 X hG hP hz hS hk_r0 e_v33 hl.1 dX8_beginIn_121 hcs ⟨Nat.le_trans (by decide) hR.1, Nat.le_trans (by decide) hR.2⟩ (Nat.le_of_ble_eq_true rfl) (fun H locs hP hS => ?_)
              refine lv_if_eq (tgt := 132) hx hb dX8_beginIn_124 (by decide) (fun c34 => ?_) (fun c34 => ?_)
              · replace h := sx_ifp h c34
                exact hj132 M H locs ls (lv_sub hl [0, 1] rfl) hP hS h
              · replace h := sx_ifn h c34
                refine lv_aload_n hx hb dX8_beginIn_127 rfl (lv_at hl 0 rfl) ?_
                refine lv_iload_n hx hb dX8_beginIn_128 rfl (lv_at hl 1 rfl) ?_
                obtain ⟨M35, e_M35, h⟩ := sx_bnd h
                refine cl_X8_85 X hG hP hz hS hk_r0 e_M35 hl.1 dX8_beginIn_129 hcs ⟨Nat.le_trans (by decide) hR.1, Nat.le_trans (by decide) hR.2⟩ (Nat.le_of_ble_eq_true rfl) (fun H locs hP hS => ?_)
                exact hj132 M35 H locs ls (lv_sub hl [0, 1] rfl) hP hS h
        clear e_j57
        refine lv_icmp_ne (tgt := 56) hx hb dX8_beginIn_49 (by decide) (fun c36 => ?_) (fun c36 => ?_)
        · replace h := sx_ifn h c36
          refine lv_iconst (v := (0 : Int32)) hx hb dX8_beginIn_56 (by decide) ?_
          exact hj57 (0 : Int32) H locs ls (lv_sub hl [0, 1] rfl) hP hS h
        · replace h := sx_ifp h c36
          refine lv_iconst (v := (1 : Int32)) hx hb dX8_beginIn_52 (by decide) ?_
          refine lv_goto (tgt := 57) hx hb dX8_beginIn_53 (by decide) ?_
          exact hj57 (1 : Int32) H locs ls (lv_sub hl [0, 1] rfl) hP hS h
  refine lv_aload_n hx hb dX8_beginIn_0 rfl (lv_at hl 0 rfl) ?_
  refine lv_iconst (v := (3 : Int32)) hx hb dX8_beginIn_1 (by decide) ?_
  refine lv_iconst (v := (1 : Int32)) hx hb dX8_beginIn_2 (by decide) ?_
  refine sx_iast X hG hP hS r0 0 (sx_len r0) (sx_row_cnt hk_r0) (fun _ _ => sx_row_E hk_r0) dX8_beginIn_3 h (fun M1 H locs h hP hS => ?_)
  refine lv_aload_n hx hb dX8_beginIn_4 rfl (lv_at hl 0 rfl) ?_
  refine lv_bipush (v := (6 : Int32)) hx hb dX8_beginIn_5 (by decide) ?_
  refine lv_iconst (v := (0 : Int32)) hx hb dX8_beginIn_7 (by decide) ?_
  refine sx_iast X hG hP hS r0 0 (sx_len r0) (sx_row_cnt hk_r0) (fun _ _ => sx_row_E hk_r0) dX8_beginIn_8 h (fun M2 H locs h hP hS => ?_)
  refine lv_iconst (v := (0 : Int32)) hx hb dX8_beginIn_9 (by decide) ?_
  refine lv_istore_n (lv' := [(1, .int (0 : Int32)), (0, .ref (sx_ad C r0 0))]) hx hb dX8_beginIn_10 rfl hl (by decide) rfl (fun ls hl => ?_)
  refine hf8_beginIn_L11 r0 hk_r0 _ 5000 ?_ (0 : Int32) M2 H locs ls (lv_sub hl [1, 0] rfl) hP hS h
  · intro M8 H locs ls hl hP hS h
    refine lv_iconst (v := (0 : Int32)) hx hb dX8_beginIn_32 (by decide) ?_
    refine lv_istore_n (lv' := [(1, .int (0 : Int32)), (0, .ref (sx_ad C r0 0))]) hx hb dX8_beginIn_33 rfl hl (by decide) rfl (fun ls hl => ?_)
    exact hf8_beginIn_L34 r0 hk_r0 5000 (0 : Int32) M8 H locs ls (lv_sub hl [1, 0] rfl) hP hS h
set_option maxRecDepth 100000 in
theorem ct_8_beginIn (l : Launch) (C : sx_C) (hG : sx_G C) (r0 : Nat) (hk_r0 : sx_row r0) (M0 : sx_M) (r : Int32) (M' : sx_M) (h : f8_beginIn r0 M0 = some (r, M')) : Met l yX8_beginIn (.code yX8_beginIn cX8_beginIn 4 (some .int) :: sx_T) ({ frames := 2, cells := 0, slots := 0, locals := 46 } : Room) (sx_Pc C M0 [.ref (sx_ad C r0 0)]) (sx_Q C (some (.int r)) M') 0 0 (sx_A C) := by
  refine Met.ofW (cc := cX8_beginIn) (maxL := 4) (ret := (some .int)) (by decide) rfl ?_
  intro p e s m args below meth c s₁ B hml hv
  obtain ⟨rfl, hz, hP, hK⟩ := hv
  have hl := lv_entry ([.ref (sx_ad C r0 0)]) (n := 4) (Nat.le_of_ble_eq_true rfl)
  rw [lg_entry_eq]
  generalize (lg_sl ([.ref (sx_ad C r0 0)]) ++ List.replicate (4 - (lg_sl ([.ref (sx_ad C r0 0)])).length) Slot.unset).toArray = ls at hl ⊢
  exact wk_8_beginIn ⟨B.exec, B.bytes, hml, findClass_of_methodNamed B.named, fun w hw => atoms_spec B.pre w (List.mem_cons_of_mem _ hw), hK⟩ B.returns B.notSynchronized hG hz ⟨Nat.zero_le _, Nat.zero_le _⟩ ⟨Nat.le_refl _, Nat.le_refl _⟩ r0 hk_r0 M0 r M' h hl hP va_S.rf
theorem cl_X8_169 (X : sx_X C p m c cc nL s args RX8) (hG : sx_G C) (hP : sx_W C M0 H) (hz : sx_sz C ≤ H0.size) (hS : va_S (sx_A C) H0 H locs) {r0 : Nat} (hk_r0 : sx_row r0) {r : Int32} {M' : sx_M} (h : f8_beginIn r0 M0 = some (r, M')) (hsz : ls.size = nL) (hdg : decode cc pc = .ok (.invokestatic 169, 3)) (hcs : cells ≤ R.cells ∧ slots ≤ R.slots) (hR : 2 + 1 ≤ R.frames ∧ 8 + (4 + 11) + 46 ≤ R.locals) (hrest : (rest.map fun v => v.category).sum ≤ 8) (kk : ∀ (H1 : Heap) (locs1 : List Loc), sx_W C M' H1 → va_S (sx_A C) H0 H1 locs1 → W p l e R s m args below meth c H1 locs1 cells slots Q (F0 m (pc + 3) ls ((.int r) :: rest))) : W p l e R s m args below meth c H locs cells slots Q (F0 m pc ls (.ref (sx_ad C r0 0) :: rest)) :=
  sx_callS (n := 1) (As := [.ref (sx_ad C r0 0)]) X hP hz hS (sx_goodS tw_1144 tw_1145 tw_71 tw_1146) (by decide +kernel) rfl rfl hR (ct_8_beginIn l C hG r0 hk_r0 M0 r M' h) rfl rfl hrest hsz hdg hcs kk
-- StringShedModel.removeString([II)V
def f8_removeString (r0 : Nat) (a1 : Int32) (M0 : sx_M) : Option (sx_M) :=
  (f8_cordAt (a1 + (1 : Int32)) (0 : Int32) M0).bind fun v1 =>
  (f8_cordAt a1 (0 : Int32) M0).bind fun v2 =>
  if sx_in (2 : Int32) (sx_len r0) then
  sx_bd (M0.1 r0 0 ((2 : Int32)).toNatClampNeg) fun v3 =>
  (f8_copy r0 v1 r0 v2 ((3 : Int32) * ((v3 - (1 : Int32)) - a1)) M0).bind fun M4 =>
  if sx_in (2 : Int32) (sx_len r0) then
  sx_bd (M4.1 r0 0 ((2 : Int32)).toNatClampNeg) fun v5 =>
  if sx_in (2 : Int32) (sx_len r0) then
  sx_bd (sx_set M4 r0 0 ((2 : Int32)).toNatClampNeg (v5 - (1 : Int32))) fun M6 =>
  some M6
  else none
  else none
  else none
set_option maxRecDepth 100000 in
set_option maxHeartbeats 4000000 in
theorem wk_8_removeString (X : sx_X C p m c cX8_removeString 2 s args RX8) (hr : meth.sig.returnType = none) (hlocks : meth.locks = false) (hG : sx_G C) (hz : sx_sz C ≤ s.heap.size) (hcs : 0 ≤ R.cells ∧ 0 ≤ R.slots) (hR : 1 ≤ R.frames ∧ 25 ≤ R.locals) (r0 : Nat) (a1 : Int32) (hk_r0 : sx_row r0) (M0 : sx_M) (M' : sx_M) (h : f8_removeString r0 a1 M0 = some M') (hl : lv_has ls 2 [(0, .ref (sx_ad C r0 0)), (1, .int a1)]) (hP : sx_W C M0 H) (hS : va_S (sx_A C) s.heap H locs) : W p l e R s m args below meth c H locs 0 0 (sx_Z C none M' below args s) (F0 m 0 ls []) := by
  obtain ⟨hx, hb, hml, hown, hts, hK⟩ := id X
  rw [f8_removeString] at h
  refine lv_aload_n hx hb dX8_removeString_0 rfl (lv_at hl 0 rfl) ?_
  refine lv_iload_n hx hb dX8_removeString_1 rfl (lv_at hl 1 rfl) ?_
  refine lv_iconst (v := (1 : Int32)) hx hb dX8_removeString_2 (by decide) ?_
  refine lv_iadd hx hb dX8_removeString_3 ?_
  refine lv_iconst (v := (0 : Int32)) hx hb dX8_removeString_4 (by decide) ?_
  obtain ⟨v1, e_v1, h⟩ := sx_bnd h
  refine cl_X8_78 X hG hP hz hS  e_v1 hl.1 dX8_removeString_5 hcs ⟨Nat.le_trans (by decide) hR.1, Nat.le_trans (by decide) hR.2⟩ (Nat.le_of_ble_eq_true rfl) (fun H locs hP hS => ?_)
  refine lv_aload_n hx hb dX8_removeString_8 rfl (lv_at hl 0 rfl) ?_
  refine lv_iload_n hx hb dX8_removeString_9 rfl (lv_at hl 1 rfl) ?_
  refine lv_iconst (v := (0 : Int32)) hx hb dX8_removeString_10 (by decide) ?_
  obtain ⟨v2, e_v2, h⟩ := sx_bnd h
  refine cl_X8_78 X hG hP hz hS  e_v2 hl.1 dX8_removeString_11 hcs ⟨Nat.le_trans (by decide) hR.1, Nat.le_trans (by decide) hR.2⟩ (Nat.le_of_ble_eq_true rfl) (fun H locs hP hS => ?_)
  refine lv_iconst (v := (3 : Int32)) hx hb dX8_removeString_14 (by decide) ?_
  refine lv_aload_n hx hb dX8_removeString_15 rfl (lv_at hl 0 rfl) ?_
  refine lv_iconst (v := (2 : Int32)) hx hb dX8_removeString_16 (by decide) ?_
  refine sx_iald X hP r0 0 (sx_len r0) (sx_row_cnt hk_r0) (fun _ _ => sx_row_E hk_r0) dX8_removeString_17 h (fun v3 h => ?_)
  refine lv_iconst (v := (1 : Int32)) hx hb dX8_removeString_18 (by decide) ?_
  refine lv_isub hx hb dX8_removeString_19 ?_
  refine lv_iload_n hx hb dX8_removeString_20 rfl (lv_at hl 1 rfl) ?_
  refine lv_isub hx hb dX8_removeString_21 ?_
  refine lv_imul hx hb dX8_removeString_22 ?_
  obtain ⟨M4, e_M4, h⟩ := sx_bnd h
  refine cl_X8_56 X hG hP hz hS hk_r0 hk_r0 e_M4 hl.1 dX8_removeString_23 hcs ⟨Nat.le_trans (by decide) hR.1, Nat.le_trans (by decide) hR.2⟩ (Nat.le_of_ble_eq_true rfl) (fun H locs hP hS => ?_)
  refine lv_aload_n hx hb dX8_removeString_26 rfl (lv_at hl 0 rfl) ?_
  refine lv_iconst (v := (2 : Int32)) hx hb dX8_removeString_27 (by decide) ?_
  refine lv_dup2_11 hx hb dX8_removeString_28 rfl rfl ?_
  refine sx_iald X hP r0 0 (sx_len r0) (sx_row_cnt hk_r0) (fun _ _ => sx_row_E hk_r0) dX8_removeString_29 h (fun v5 h => ?_)
  refine lv_iconst (v := (1 : Int32)) hx hb dX8_removeString_30 (by decide) ?_
  refine lv_isub hx hb dX8_removeString_31 ?_
  refine sx_iast X hG hP hS r0 0 (sx_len r0) (sx_row_cnt hk_r0) (fun _ _ => sx_row_E hk_r0) dX8_removeString_32 h (fun M6 H locs h hP hS => ?_)
  exact sx_vret X hr hlocks hS hP h dX8_removeString_33
set_option maxRecDepth 100000 in
theorem ct_8_removeString (l : Launch) (C : sx_C) (hG : sx_G C) (r0 : Nat) (a1 : Int32) (hk_r0 : sx_row r0) (M0 : sx_M) (M' : sx_M) (h : f8_removeString r0 a1 M0 = some M') : Met l yX8_removeString (.code yX8_removeString cX8_removeString 2 none :: sx_T) ({ frames := 1, cells := 0, slots := 0, locals := 25 } : Room) (sx_Pc C M0 [.ref (sx_ad C r0 0), .int a1]) (sx_Q C none M') 0 0 (sx_A C) := by
  refine Met.ofW (cc := cX8_removeString) (maxL := 2) (ret := none) (by decide) rfl ?_
  intro p e s m args below meth c s₁ B hml hv
  obtain ⟨rfl, hz, hP, hK⟩ := hv
  have hl := lv_entry ([.ref (sx_ad C r0 0), .int a1]) (n := 2) (Nat.le_of_ble_eq_true rfl)
  rw [lg_entry_eq]
  generalize (lg_sl ([.ref (sx_ad C r0 0), .int a1]) ++ List.replicate (2 - (lg_sl ([.ref (sx_ad C r0 0), .int a1])).length) Slot.unset).toArray = ls at hl ⊢
  exact wk_8_removeString ⟨B.exec, B.bytes, hml, findClass_of_methodNamed B.named, fun w hw => atoms_spec B.pre w (List.mem_cons_of_mem _ hw), hK⟩ B.returns B.notSynchronized hG hz ⟨Nat.zero_le _, Nat.zero_le _⟩ ⟨Nat.le_refl _, Nat.le_refl _⟩ r0 a1 hk_r0 M0 M' h hl hP va_S.rf
theorem cl_X8_89 (X : sx_X C p m c cc nL s args RX8) (hG : sx_G C) (hP : sx_W C M0 H) (hz : sx_sz C ≤ H0.size) (hS : va_S (sx_A C) H0 H locs) {r0 : Nat} {a1 : Int32} (hk_r0 : sx_row r0) {M' : sx_M} (h : f8_removeString r0 a1 M0 = some M') (hsz : ls.size = nL) (hdg : decode cc pc = .ok (.invokestatic 89, 3)) (hcs : cells ≤ R.cells ∧ slots ≤ R.slots) (hR : 1 + 1 ≤ R.frames ∧ 8 + (2 + 11) + 25 ≤ R.locals) (hrest : (rest.map fun v => v.category).sum ≤ 8) (kk : ∀ (H1 : Heap) (locs1 : List Loc), sx_W C M' H1 → va_S (sx_A C) H0 H1 locs1 → W p l e R s m args below meth c H1 locs1 cells slots Q (F0 m (pc + 3) ls (rest))) : W p l e R s m args below meth c H locs cells slots Q (F0 m pc ls (.int a1 :: .ref (sx_ad C r0 0) :: rest)) :=
  sx_callS (n := 2) (As := [.ref (sx_ad C r0 0), .int a1]) X hP hz hS (sx_goodS tw_1124 tw_1125 tw_71 tw_1126) (by decide +kernel) rfl rfl hR (ct_8_removeString l C hG r0 a1 hk_r0 M0 M' h) rfl rfl hrest hsz hdg hcs kk
-- StringShedModel.sweepPart([II)V
def f8_sweepPart_L25 (r0 : Nat) (w1 : Int32) : Nat → Int32 → sx_M → Option (sx_M)
  | 0, _, _ => none
  | n + 1, x2, M =>
    if sx_in (2 : Int32) (sx_len r0) then
    sx_bd (M.1 r0 0 ((2 : Int32)).toNatClampNeg) fun v7 =>
    if v7 ≤ x2 then
      some M
    else
      (f8_cordAt x2 (0 : Int32) M).bind fun v9 =>
      if sx_in v9 (sx_len r0) then
      sx_bd (M.1 r0 0 (v9).toNatClampNeg) fun v10 =>
      sx_bd (fun (_ : Unit) =>
        (f8_removeString r0 x2 M).bind fun M11 =>
        if sx_in (5 : Int32) (sx_len r0) then
        sx_bd (M11.1 r0 0 ((5 : Int32)).toNatClampNeg) fun v12 =>
        if sx_in (5 : Int32) (sx_len r0) then
        sx_bd (sx_set M11 r0 0 ((5 : Int32)).toNatClampNeg (v12 + (1 : Int32))) fun M13 =>
        f8_sweepPart_L25 r0 w1 n x2 M13
        else none
        else none) fun j54 =>
      if v10 = w1 then
        j54 ()
      else
        (f8_cordAt x2 (1 : Int32) M).bind fun v15 =>
        if sx_in v15 (sx_len r0) then
        sx_bd (M.1 r0 0 (v15).toNatClampNeg) fun v16 =>
        if v16 = w1 then
          j54 ()
        else
          sx_bd (x2 + (1 : Int32)) fun v18 =>
          f8_sweepPart_L25 r0 w1 n v18 M
        else none
      else none
    else none
def f8_sweepPart (r0 : Nat) (a1 : Int32) (M0 : sx_M) : Option (sx_M) :=
  (f8_partAt a1 (1 : Int32) M0).bind fun v1 =>
  if sx_in v1 (sx_len r0) then
  sx_bd (sx_set M0 r0 0 (v1).toNatClampNeg (0 : Int32)) fun M2 =>
  (f8_partAt a1 (2 : Int32) M2).bind fun v3 =>
  if sx_in v3 (sx_len r0) then
  sx_bd (sx_set M2 r0 0 (v3).toNatClampNeg (0 : Int32)) fun M4 =>
  if sx_in (1 : Int32) (sx_len r0) then
  sx_bd (M4.1 r0 0 ((1 : Int32)).toNatClampNeg) fun v5 =>
  if sx_in (1 : Int32) (sx_len r0) then
  sx_bd (sx_set M4 r0 0 ((1 : Int32)).toNatClampNeg (v5 + (1 : Int32))) fun M6 =>
  f8_sweepPart_L25 r0 a1
    5000 (0 : Int32) M6
  else none
  else none
  else none
  else none
set_option maxRecDepth 100000 in
set_option maxHeartbeats 4000000 in
theorem wk_8_sweepPart (X : sx_X C p m c cX8_sweepPart 3 s args RX8) (hr : meth.sig.returnType = none) (hlocks : meth.locks = false) (hG : sx_G C) (hz : sx_sz C ≤ s.heap.size) (hcs : 0 ≤ R.cells ∧ 0 ≤ R.slots) (hR : 2 ≤ R.frames ∧ 46 ≤ R.locals) (r0 : Nat) (a1 : Int32) (hk_r0 : sx_row r0) (M0 : sx_M) (M' : sx_M) (h : f8_sweepPart r0 a1 M0 = some M') (hl : lv_has ls 3 [(0, .ref (sx_ad C r0 0)), (1, .int a1)]) (hP : sx_W C M0 H) (hS : va_S (sx_A C) s.heap H locs) : W p l e R s m args below meth c H locs 0 0 (sx_Z C none M' below args s) (F0 m 0 ls []) := by
  obtain ⟨hx, hb, hml, hown, hts, hK⟩ := id X
  rw [f8_sweepPart] at h
  have hf8_sweepPart_L25 : ∀ (r0 : Nat) (w1 : Int32) (hk_r0 : sx_row r0) (n : Nat) (x2 : Int32) (M : sx_M) (H : Heap) (locs : List Loc) (ls : Array Slot), lv_has ls 3 [(0, .ref (sx_ad C r0 0)), (1, .int w1), (2, .int x2)] → sx_W C M H → va_S (sx_A C) s.heap H locs → f8_sweepPart_L25 r0 w1 n x2 M = some M' → W p l e R s m args below meth c H locs 0 0 (sx_Z C none M' below args s) (F0 m 25 ls []) := by
    intro r0 w1 hk_r0 n
    induction n with
    | zero => intro x2 M H locs ls hl hP hS h; exact absurd (show (none : Option (sx_M)) = some M' from h) (fun q => nomatch q)
    | succ n ih =>
      intro x2 M H locs ls hl hP hS h
      rw [f8_sweepPart_L25] at h
      refine lv_iload_n hx hb dX8_sweepPart_25 rfl (lv_at hl 2 rfl) ?_
      refine lv_aload_n hx hb dX8_sweepPart_26 rfl (lv_at hl 0 rfl) ?_
      refine lv_iconst (v := (2 : Int32)) hx hb dX8_sweepPart_27 (by decide) ?_
      refine sx_iald X hP r0 0 (sx_len r0) (sx_row_cnt hk_r0) (fun _ _ => sx_row_E hk_r0) dX8_sweepPart_28 h (fun v7 h => ?_)
      refine lv_icmp_ge (tgt := 75) hx hb dX8_sweepPart_29 (by decide) (fun c8 => ?_) (fun c8 => ?_)
      · replace h := sx_ifp h c8
        exact sx_vret X hr hlocks hS hP h dX8_sweepPart_75
      · replace h := sx_ifn h c8
        refine lv_aload_n hx hb dX8_sweepPart_32 rfl (lv_at hl 0 rfl) ?_
        refine lv_iload_n hx hb dX8_sweepPart_33 rfl (lv_at hl 2 rfl) ?_
        refine lv_iconst (v := (0 : Int32)) hx hb dX8_sweepPart_34 (by decide) ?_
        obtain ⟨v9, e_v9, h⟩ := sx_bnd h
        refine cl_X8_78 X hG hP hz hS  e_v9 hl.1 dX8_sweepPart_35 hcs ⟨Nat.le_trans (by decide) hR.1, Nat.le_trans (by decide) hR.2⟩ (Nat.le_of_ble_eq_true rfl) (fun H locs hP hS => ?_)
        refine sx_iald X hP r0 0 (sx_len r0) (sx_row_cnt hk_r0) (fun _ _ => sx_row_E hk_r0) dX8_sweepPart_38 h (fun v10 h => ?_)
        refine lv_iload_n hx hb dX8_sweepPart_39 rfl (lv_at hl 1 rfl) ?_
        obtain ⟨j54, e_j54, h⟩ := sx_nm h
        have hj54 : ∀ (H : Heap) (locs : List Loc) (ls : Array Slot), lv_has ls 3 [(0, .ref (sx_ad C r0 0)), (1, .int w1), (2, .int x2)] → sx_W C M H → va_S (sx_A C) s.heap H locs → j54 () = some M' → W p l e R s m args below meth c H locs 0 0 (sx_Z C none M' below args s) (F0 m 54 ls []) := by
          intro  H locs ls hl hP hS h
          subst e_j54
          refine lv_aload_n hx hb dX8_sweepPart_54 rfl (lv_at hl 0 rfl) ?_
          refine lv_iload_n hx hb dX8_sweepPart_55 rfl (lv_at hl 2 rfl) ?_
          obtain ⟨M11, e_M11, h⟩ := sx_bnd h
          refine cl_X8_89 X hG hP hz hS hk_r0 e_M11 hl.1 dX8_sweepPart_56 hcs ⟨Nat.le_trans (by decide) hR.1, Nat.le_trans (by decide) hR.2⟩ (Nat.le_of_ble_eq_true rfl) (fun H locs hP hS => ?_)
          refine lv_aload_n hx hb dX8_sweepPart_59 rfl (lv_at hl 0 rfl) ?_
          refine lv_iconst (v := (5 : Int32)) hx hb dX8_sweepPart_60 (by decide) ?_
          refine lv_dup2_11 hx hb dX8_sweepPart_61 rfl rfl ?_
          refine sx_iald X hP r0 0 (sx_len r0) (sx_row_cnt hk_r0) (fun _ _ => sx_row_E hk_r0) dX8_sweepPart_62 h (fun v12 h => ?_)
          refine lv_iconst (v := (1 : Int32)) hx hb dX8_sweepPart_63 (by decide) ?_
          refine lv_iadd hx hb dX8_sweepPart_64 ?_
          refine sx_iast X hG hP hS r0 0 (sx_len r0) (sx_row_cnt hk_r0) (fun _ _ => sx_row_E hk_r0) dX8_sweepPart_65 h (fun M13 H locs h hP hS => ?_)
          refine lv_goto (tgt := 25) hx hb dX8_sweepPart_66 (by decide) ?_
          exact ih x2 M13 H locs ls (lv_sub hl [0, 1, 2] rfl) hP hS h
        clear e_j54
        refine lv_icmp_eq (tgt := 54) hx hb dX8_sweepPart_40 (by decide) (fun c14 => ?_) (fun c14 => ?_)
        · replace h := sx_ifp h c14
          exact hj54 H locs ls (lv_sub hl [0, 1, 2] rfl) hP hS h
        · replace h := sx_ifn h c14
          refine lv_aload_n hx hb dX8_sweepPart_43 rfl (lv_at hl 0 rfl) ?_
          refine lv_iload_n hx hb dX8_sweepPart_44 rfl (lv_at hl 2 rfl) ?_
          refine lv_iconst (v := (1 : Int32)) hx hb dX8_sweepPart_45 (by decide) ?_
          obtain ⟨v15, e_v15, h⟩ := sx_bnd h
          refine cl_X8_78 X hG hP hz hS  e_v15 hl.1 dX8_sweepPart_46 hcs ⟨Nat.le_trans (by decide) hR.1, Nat.le_trans (by decide) hR.2⟩ (Nat.le_of_ble_eq_true rfl) (fun H locs hP hS => ?_)
          refine sx_iald X hP r0 0 (sx_len r0) (sx_row_cnt hk_r0) (fun _ _ => sx_row_E hk_r0) dX8_sweepPart_49 h (fun v16 h => ?_)
          refine lv_iload_n hx hb dX8_sweepPart_50 rfl (lv_at hl 1 rfl) ?_
          refine lv_icmp_ne (tgt := 69) hx hb dX8_sweepPart_51 (by decide) (fun c17 => ?_) (fun c17 => ?_)
          · replace h := sx_ifn h c17
            obtain ⟨v18, e_v18, h⟩ := sx_nm h
            refine lv_iinc (v := v18) (lv' := [(2, .int v18), (0, .ref (sx_ad C r0 0)), (1, .int w1)]) hx hb dX8_sweepPart_69 hl (k := 2) rfl (by rw [← e_v18]; rfl) (by decide) rfl (fun ls hl => ?_)
            refine lv_goto (tgt := 25) hx hb dX8_sweepPart_72 (by decide) ?_
            exact ih v18 M H locs ls (lv_sub hl [1, 2, 0] rfl) hP hS h
          · replace h := sx_ifp h c17
            exact hj54 H locs ls (lv_sub hl [0, 1, 2] rfl) hP hS h
  refine lv_aload_n hx hb dX8_sweepPart_0 rfl (lv_at hl 0 rfl) ?_
  refine lv_iload_n hx hb dX8_sweepPart_1 rfl (lv_at hl 1 rfl) ?_
  refine lv_iconst (v := (1 : Int32)) hx hb dX8_sweepPart_2 (by decide) ?_
  obtain ⟨v1, e_v1, h⟩ := sx_bnd h
  refine cl_X8_66 X hG hP hz hS  e_v1 hl.1 dX8_sweepPart_3 hcs ⟨Nat.le_trans (by decide) hR.1, Nat.le_trans (by decide) hR.2⟩ (Nat.le_of_ble_eq_true rfl) (fun H locs hP hS => ?_)
  refine lv_iconst (v := (0 : Int32)) hx hb dX8_sweepPart_6 (by decide) ?_
  refine sx_iast X hG hP hS r0 0 (sx_len r0) (sx_row_cnt hk_r0) (fun _ _ => sx_row_E hk_r0) dX8_sweepPart_7 h (fun M2 H locs h hP hS => ?_)
  refine lv_aload_n hx hb dX8_sweepPart_8 rfl (lv_at hl 0 rfl) ?_
  refine lv_iload_n hx hb dX8_sweepPart_9 rfl (lv_at hl 1 rfl) ?_
  refine lv_iconst (v := (2 : Int32)) hx hb dX8_sweepPart_10 (by decide) ?_
  obtain ⟨v3, e_v3, h⟩ := sx_bnd h
  refine cl_X8_66 X hG hP hz hS  e_v3 hl.1 dX8_sweepPart_11 hcs ⟨Nat.le_trans (by decide) hR.1, Nat.le_trans (by decide) hR.2⟩ (Nat.le_of_ble_eq_true rfl) (fun H locs hP hS => ?_)
  refine lv_iconst (v := (0 : Int32)) hx hb dX8_sweepPart_14 (by decide) ?_
  refine sx_iast X hG hP hS r0 0 (sx_len r0) (sx_row_cnt hk_r0) (fun _ _ => sx_row_E hk_r0) dX8_sweepPart_15 h (fun M4 H locs h hP hS => ?_)
  refine lv_aload_n hx hb dX8_sweepPart_16 rfl (lv_at hl 0 rfl) ?_
  refine lv_iconst (v := (1 : Int32)) hx hb dX8_sweepPart_17 (by decide) ?_
  refine lv_dup2_11 hx hb dX8_sweepPart_18 rfl rfl ?_
  refine sx_iald X hP r0 0 (sx_len r0) (sx_row_cnt hk_r0) (fun _ _ => sx_row_E hk_r0) dX8_sweepPart_19 h (fun v5 h => ?_)
  refine lv_iconst (v := (1 : Int32)) hx hb dX8_sweepPart_20 (by decide) ?_
  refine lv_iadd hx hb dX8_sweepPart_21 ?_
  refine sx_iast X hG hP hS r0 0 (sx_len r0) (sx_row_cnt hk_r0) (fun _ _ => sx_row_E hk_r0) dX8_sweepPart_22 h (fun M6 H locs h hP hS => ?_)
  refine lv_iconst (v := (0 : Int32)) hx hb dX8_sweepPart_23 (by decide) ?_
  refine lv_istore_n (lv' := [(2, .int (0 : Int32)), (0, .ref (sx_ad C r0 0)), (1, .int a1)]) hx hb dX8_sweepPart_24 rfl hl (by decide) rfl (fun ls hl => ?_)
  exact hf8_sweepPart_L25 r0 a1 hk_r0 5000 (0 : Int32) M6 H locs ls (lv_sub hl [1, 2, 0] rfl) hP hS h
set_option maxRecDepth 100000 in
theorem ct_8_sweepPart (l : Launch) (C : sx_C) (hG : sx_G C) (r0 : Nat) (a1 : Int32) (hk_r0 : sx_row r0) (M0 : sx_M) (M' : sx_M) (h : f8_sweepPart r0 a1 M0 = some M') : Met l yX8_sweepPart (.code yX8_sweepPart cX8_sweepPart 3 none :: sx_T) ({ frames := 2, cells := 0, slots := 0, locals := 46 } : Room) (sx_Pc C M0 [.ref (sx_ad C r0 0), .int a1]) (sx_Q C none M') 0 0 (sx_A C) := by
  refine Met.ofW (cc := cX8_sweepPart) (maxL := 3) (ret := none) (by decide) rfl ?_
  intro p e s m args below meth c s₁ B hml hv
  obtain ⟨rfl, hz, hP, hK⟩ := hv
  have hl := lv_entry ([.ref (sx_ad C r0 0), .int a1]) (n := 3) (Nat.le_of_ble_eq_true rfl)
  rw [lg_entry_eq]
  generalize (lg_sl ([.ref (sx_ad C r0 0), .int a1]) ++ List.replicate (3 - (lg_sl ([.ref (sx_ad C r0 0), .int a1])).length) Slot.unset).toArray = ls at hl ⊢
  exact wk_8_sweepPart ⟨B.exec, B.bytes, hml, findClass_of_methodNamed B.named, fun w hw => atoms_spec B.pre w (List.mem_cons_of_mem _ hw), hK⟩ B.returns B.notSynchronized hG hz ⟨Nat.zero_le _, Nat.zero_le _⟩ ⟨Nat.le_refl _, Nat.le_refl _⟩ r0 a1 hk_r0 M0 M' h hl hP va_S.rf
theorem cl_X8_92 (X : sx_X C p m c cc nL s args RX8) (hG : sx_G C) (hP : sx_W C M0 H) (hz : sx_sz C ≤ H0.size) (hS : va_S (sx_A C) H0 H locs) {r0 : Nat} {a1 : Int32} (hk_r0 : sx_row r0) {M' : sx_M} (h : f8_sweepPart r0 a1 M0 = some M') (hsz : ls.size = nL) (hdg : decode cc pc = .ok (.invokestatic 92, 3)) (hcs : cells ≤ R.cells ∧ slots ≤ R.slots) (hR : 2 + 1 ≤ R.frames ∧ 8 + (3 + 11) + 46 ≤ R.locals) (hrest : (rest.map fun v => v.category).sum ≤ 8) (kk : ∀ (H1 : Heap) (locs1 : List Loc), sx_W C M' H1 → va_S (sx_A C) H0 H1 locs1 → W p l e R s m args below meth c H1 locs1 cells slots Q (F0 m (pc + 3) ls (rest))) : W p l e R s m args below meth c H locs cells slots Q (F0 m pc ls (.int a1 :: .ref (sx_ad C r0 0) :: rest)) :=
  sx_callS (n := 2) (As := [.ref (sx_ad C r0 0), .int a1]) X hP hz hS (sx_goodS tw_1153 tw_1154 tw_71 tw_1155) (by decide +kernel) rfl rfl hR (ct_8_sweepPart l C hG r0 a1 hk_r0 M0 M' h) rfl rfl hrest hsz hdg hcs kk
-- StringShedModel.endIn([I)I
def f8_endIn_L4 (r0 : Nat) : Nat → Int32 → Int32 → sx_M → Option (Int32 × sx_M)
  | 0, _, _, _ => none
  | n + 1, x1, x2, M =>
    if sx_in (0 : Int32) (sx_len r0) then
    sx_bd (M.1 r0 0 ((0 : Int32)).toNatClampNeg) fun v1 =>
    if v1 ≤ x2 then
      if sx_in (3 : Int32) (sx_len r0) then
      sx_bd (sx_set M r0 0 ((3 : Int32)).toNatClampNeg (0 : Int32)) fun M3 =>
      if sx_in (4 : Int32) (sx_len r0) then
      sx_bd (M3.1 r0 0 ((4 : Int32)).toNatClampNeg) fun v4 =>
      if sx_in (4 : Int32) (sx_len r0) then
      sx_bd (sx_set M3 r0 0 ((4 : Int32)).toNatClampNeg (v4 + (1 : Int32))) fun M5 =>
      some (x1, M5)
      else none
      else none
      else none
    else
      (f8_isPart r0 x2 M).bind fun v6 =>
      sx_bd (fun (v7 : Int32) (M8 : sx_M) =>
        sx_bd (x2 + (1 : Int32)) fun v9 =>
        f8_endIn_L4 r0 n v7 v9 M8) fun j37 =>
      if v6 = 0 then
        j37 x1 M
      else
        (f8_partAt x2 (3 : Int32) M).bind fun v11 =>
        if sx_in v11 (sx_len r0) then
        sx_bd (M.1 r0 0 (v11).toNatClampNeg) fun v12 =>
        if v12 = 0 then
          (f8_sweepPart r0 x2 M).bind fun M14 =>
          sx_bd (x1 + (1 : Int32)) fun v15 =>
          j37 v15 M14
        else
          j37 x1 M
        else none
    else none
def f8_endIn (r0 : Nat) (M0 : sx_M) : Option (Int32 × sx_M) :=
  f8_endIn_L4 r0
    5000 (0 : Int32) (0 : Int32) M0
set_option maxRecDepth 100000 in
set_option maxHeartbeats 4000000 in
theorem wk_8_endIn (X : sx_X C p m c cX8_endIn 3 s args RX8) (hr : meth.sig.returnType = (some .int)) (hlocks : meth.locks = false) (hG : sx_G C) (hz : sx_sz C ≤ s.heap.size) (hcs : 0 ≤ R.cells ∧ 0 ≤ R.slots) (hR : 3 ≤ R.frames ∧ 68 ≤ R.locals) (r0 : Nat) (hk_r0 : sx_row r0) (M0 : sx_M) (r : Int32) (M' : sx_M) (h : f8_endIn r0 M0 = some (r, M')) (hl : lv_has ls 3 [(0, .ref (sx_ad C r0 0))]) (hP : sx_W C M0 H) (hS : va_S (sx_A C) s.heap H locs) : W p l e R s m args below meth c H locs 0 0 (sx_Z C (some (.int r)) M' below args s) (F0 m 0 ls []) := by
  obtain ⟨hx, hb, hml, hown, hts, hK⟩ := id X
  rw [f8_endIn] at h
  have hf8_endIn_L4 : ∀ (r0 : Nat) (hk_r0 : sx_row r0) (n : Nat) (x1 : Int32) (x2 : Int32) (M : sx_M) (H : Heap) (locs : List Loc) (ls : Array Slot), lv_has ls 3 [(0, .ref (sx_ad C r0 0)), (1, .int x1), (2, .int x2)] → sx_W C M H → va_S (sx_A C) s.heap H locs → f8_endIn_L4 r0 n x1 x2 M = some (r, M') → W p l e R s m args below meth c H locs 0 0 (sx_Z C (some (.int r)) M' below args s) (F0 m 4 ls []) := by
    intro r0 hk_r0 n
    induction n with
    | zero => intro x1 x2 M H locs ls hl hP hS h; exact absurd (show (none : Option (Int32 × sx_M)) = some (r, M') from h) (fun q => nomatch q)
    | succ n ih =>
      intro x1 x2 M H locs ls hl hP hS h
      rw [f8_endIn_L4] at h
      refine lv_iload_n hx hb dX8_endIn_4 rfl (lv_at hl 2 rfl) ?_
      refine lv_aload_n hx hb dX8_endIn_5 rfl (lv_at hl 0 rfl) ?_
      refine lv_iconst (v := (0 : Int32)) hx hb dX8_endIn_6 (by decide) ?_
      refine sx_iald X hP r0 0 (sx_len r0) (sx_row_cnt hk_r0) (fun _ _ => sx_row_E hk_r0) dX8_endIn_7 h (fun v1 h => ?_)
      refine lv_icmp_ge (tgt := 43) hx hb dX8_endIn_8 (by decide) (fun c2 => ?_) (fun c2 => ?_)
      · replace h := sx_ifp h c2
        refine lv_aload_n hx hb dX8_endIn_43 rfl (lv_at hl 0 rfl) ?_
        refine lv_iconst (v := (3 : Int32)) hx hb dX8_endIn_44 (by decide) ?_
        refine lv_iconst (v := (0 : Int32)) hx hb dX8_endIn_45 (by decide) ?_
        refine sx_iast X hG hP hS r0 0 (sx_len r0) (sx_row_cnt hk_r0) (fun _ _ => sx_row_E hk_r0) dX8_endIn_46 h (fun M3 H locs h hP hS => ?_)
        refine lv_aload_n hx hb dX8_endIn_47 rfl (lv_at hl 0 rfl) ?_
        refine lv_iconst (v := (4 : Int32)) hx hb dX8_endIn_48 (by decide) ?_
        refine lv_dup2_11 hx hb dX8_endIn_49 rfl rfl ?_
        refine sx_iald X hP r0 0 (sx_len r0) (sx_row_cnt hk_r0) (fun _ _ => sx_row_E hk_r0) dX8_endIn_50 h (fun v4 h => ?_)
        refine lv_iconst (v := (1 : Int32)) hx hb dX8_endIn_51 (by decide) ?_
        refine lv_iadd hx hb dX8_endIn_52 ?_
        refine sx_iast X hG hP hS r0 0 (sx_len r0) (sx_row_cnt hk_r0) (fun _ _ => sx_row_E hk_r0) dX8_endIn_53 h (fun M5 H locs h hP hS => ?_)
        refine lv_iload_n hx hb dX8_endIn_54 rfl (lv_at hl 1 rfl) ?_
        exact sx_iretM X hr hlocks hS hP h dX8_endIn_55
      · replace h := sx_ifn h c2
        refine lv_aload_n hx hb dX8_endIn_11 rfl (lv_at hl 0 rfl) ?_
        refine lv_iload_n hx hb dX8_endIn_12 rfl (lv_at hl 2 rfl) ?_
        obtain ⟨v6, e_v6, h⟩ := sx_bnd h
        refine cl_X8_74 X hG hP hz hS hk_r0 e_v6 hl.1 dX8_endIn_13 hcs ⟨Nat.le_trans (by decide) hR.1, Nat.le_trans (by decide) hR.2⟩ (Nat.le_of_ble_eq_true rfl) (fun H locs hP hS => ?_)
        obtain ⟨j37, e_j37, h⟩ := sx_nm h
        have hj37 : ∀ (v7 : Int32) (M8 : sx_M) (H : Heap) (locs : List Loc) (ls : Array Slot), lv_has ls 3 [(0, .ref (sx_ad C r0 0)), (1, .int v7), (2, .int x2)] → sx_W C M8 H → va_S (sx_A C) s.heap H locs → j37 v7 M8 = some (r, M') → W p l e R s m args below meth c H locs 0 0 (sx_Z C (some (.int r)) M' below args s) (F0 m 37 ls []) := by
          intro v7 M8 H locs ls hl hP hS h
          subst e_j37
          obtain ⟨v9, e_v9, h⟩ := sx_nm h
          refine lv_iinc (v := v9) (lv' := [(2, .int v9), (0, .ref (sx_ad C r0 0)), (1, .int v7)]) hx hb dX8_endIn_37 hl (k := 2) rfl (by rw [← e_v9]; rfl) (by decide) rfl (fun ls hl => ?_)
          refine lv_goto (tgt := 4) hx hb dX8_endIn_40 (by decide) ?_
          exact ih v7 v9 M8 H locs ls (lv_sub hl [1, 2, 0] rfl) hP hS h
        clear e_j37
        refine lv_if_eq (tgt := 37) hx hb dX8_endIn_16 (by decide) (fun c10 => ?_) (fun c10 => ?_)
        · replace h := sx_ifp h c10
          exact hj37 x1 M H locs ls (lv_sub hl [0, 1, 2] rfl) hP hS h
        · replace h := sx_ifn h c10
          refine lv_aload_n hx hb dX8_endIn_19 rfl (lv_at hl 0 rfl) ?_
          refine lv_iload_n hx hb dX8_endIn_20 rfl (lv_at hl 2 rfl) ?_
          refine lv_iconst (v := (3 : Int32)) hx hb dX8_endIn_21 (by decide) ?_
          obtain ⟨v11, e_v11, h⟩ := sx_bnd h
          refine cl_X8_66 X hG hP hz hS  e_v11 hl.1 dX8_endIn_22 hcs ⟨Nat.le_trans (by decide) hR.1, Nat.le_trans (by decide) hR.2⟩ (Nat.le_of_ble_eq_true rfl) (fun H locs hP hS => ?_)
          refine sx_iald X hP r0 0 (sx_len r0) (sx_row_cnt hk_r0) (fun _ _ => sx_row_E hk_r0) dX8_endIn_25 h (fun v12 h => ?_)
          refine lv_if_ne (tgt := 37) hx hb dX8_endIn_26 (by decide) (fun c13 => ?_) (fun c13 => ?_)
          · replace h := sx_ifn h c13
            exact hj37 x1 M H locs ls (lv_sub hl [0, 1, 2] rfl) hP hS h
          · replace h := sx_ifp h c13
            refine lv_aload_n hx hb dX8_endIn_29 rfl (lv_at hl 0 rfl) ?_
            refine lv_iload_n hx hb dX8_endIn_30 rfl (lv_at hl 2 rfl) ?_
            obtain ⟨M14, e_M14, h⟩ := sx_bnd h
            refine cl_X8_92 X hG hP hz hS hk_r0 e_M14 hl.1 dX8_endIn_31 hcs ⟨Nat.le_trans (by decide) hR.1, Nat.le_trans (by decide) hR.2⟩ (Nat.le_of_ble_eq_true rfl) (fun H locs hP hS => ?_)
            obtain ⟨v15, e_v15, h⟩ := sx_nm h
            refine lv_iinc (v := v15) (lv' := [(1, .int v15), (0, .ref (sx_ad C r0 0)), (2, .int x2)]) hx hb dX8_endIn_34 hl (k := 1) rfl (by rw [← e_v15]; rfl) (by decide) rfl (fun ls hl => ?_)
            exact hj37 v15 M14 H locs ls (lv_sub hl [1, 0, 2] rfl) hP hS h
  refine lv_iconst (v := (0 : Int32)) hx hb dX8_endIn_0 (by decide) ?_
  refine lv_istore_n (lv' := [(1, .int (0 : Int32)), (0, .ref (sx_ad C r0 0))]) hx hb dX8_endIn_1 rfl hl (by decide) rfl (fun ls hl => ?_)
  refine lv_iconst (v := (0 : Int32)) hx hb dX8_endIn_2 (by decide) ?_
  refine lv_istore_n (lv' := [(2, .int (0 : Int32)), (1, .int (0 : Int32)), (0, .ref (sx_ad C r0 0))]) hx hb dX8_endIn_3 rfl hl (by decide) rfl (fun ls hl => ?_)
  exact hf8_endIn_L4 r0 hk_r0 5000 (0 : Int32) (0 : Int32) M0 H locs ls (lv_sub hl [2, 1, 0] rfl) hP hS h
set_option maxRecDepth 100000 in
theorem ct_8_endIn (l : Launch) (C : sx_C) (hG : sx_G C) (r0 : Nat) (hk_r0 : sx_row r0) (M0 : sx_M) (r : Int32) (M' : sx_M) (h : f8_endIn r0 M0 = some (r, M')) : Met l yX8_endIn (.code yX8_endIn cX8_endIn 3 (some .int) :: sx_T) ({ frames := 3, cells := 0, slots := 0, locals := 68 } : Room) (sx_Pc C M0 [.ref (sx_ad C r0 0)]) (sx_Q C (some (.int r)) M') 0 0 (sx_A C) := by
  refine Met.ofW (cc := cX8_endIn) (maxL := 3) (ret := (some .int)) (by decide) rfl ?_
  intro p e s m args below meth c s₁ B hml hv
  obtain ⟨rfl, hz, hP, hK⟩ := hv
  have hl := lv_entry ([.ref (sx_ad C r0 0)]) (n := 3) (Nat.le_of_ble_eq_true rfl)
  rw [lg_entry_eq]
  generalize (lg_sl ([.ref (sx_ad C r0 0)]) ++ List.replicate (3 - (lg_sl ([.ref (sx_ad C r0 0)])).length) Slot.unset).toArray = ls at hl ⊢
  exact wk_8_endIn ⟨B.exec, B.bytes, hml, findClass_of_methodNamed B.named, fun w hw => atoms_spec B.pre w (List.mem_cons_of_mem _ hw), hK⟩ B.returns B.notSynchronized hG hz ⟨Nat.zero_le _, Nat.zero_le _⟩ ⟨Nat.le_refl _, Nat.le_refl _⟩ r0 hk_r0 M0 r M' h hl hP va_S.rf
theorem cl_X8_95 (X : sx_X C p m c cc nL s args RX8) (hG : sx_G C) (hP : sx_W C M0 H) (hz : sx_sz C ≤ H0.size) (hS : va_S (sx_A C) H0 H locs) {r0 : Nat} (hk_r0 : sx_row r0) {r : Int32} {M' : sx_M} (h : f8_endIn r0 M0 = some (r, M')) (hsz : ls.size = nL) (hdg : decode cc pc = .ok (.invokestatic 95, 3)) (hcs : cells ≤ R.cells ∧ slots ≤ R.slots) (hR : 3 + 1 ≤ R.frames ∧ 8 + (3 + 11) + 68 ≤ R.locals) (hrest : (rest.map fun v => v.category).sum ≤ 8) (kk : ∀ (H1 : Heap) (locs1 : List Loc), sx_W C M' H1 → va_S (sx_A C) H0 H1 locs1 → W p l e R s m args below meth c H1 locs1 cells slots Q (F0 m (pc + 3) ls ((.int r) :: rest))) : W p l e R s m args below meth c H locs cells slots Q (F0 m pc ls (.ref (sx_ad C r0 0) :: rest)) :=
  sx_callS (n := 1) (As := [.ref (sx_ad C r0 0)]) X hP hz hS (sx_goodS tw_1150 tw_1151 tw_71 tw_1152) (by decide +kernel) rfl rfl hR (ct_8_endIn l C hG r0 hk_r0 M0 r M' h) rfl rfl hrest hsz hdg hcs kk
-- StringShedModel.stepIn([I)I
def f8_stepIn_L54 (r0 : Nat) (w1 : Int32) : Nat → Int32 → sx_M → Option (Int32 × sx_M)
  | 0, _, _ => none
  | n + 1, x2, M =>
    if sx_in (2 : Int32) (sx_len r0) then
    sx_bd (M.1 r0 0 ((2 : Int32)).toNatClampNeg) fun v10 =>
    if v10 ≤ x2 then
      some (w1, M)
    else
      (f8_cordAt x2 (0 : Int32) M).bind fun v12 =>
      if sx_in v12 (sx_len r0) then
      sx_bd (M.1 r0 0 (v12).toNatClampNeg) fun v13 =>
      sx_bd (fun (M14 : sx_M) =>
        sx_bd (x2 + (1 : Int32)) fun v15 =>
        f8_stepIn_L54 r0 w1 n v15 M14) fun j94 =>
      if v13 = w1 then
        (f8_cordAt x2 (2 : Int32) M).bind fun v17 =>
        if sx_in v17 (sx_len r0) then
        sx_bd (M.1 r0 0 (v17).toNatClampNeg) fun v18 =>
        if v18 = (1 : Int32) then
          (f8_cordAt x2 (1 : Int32) M).bind fun v20 =>
          if sx_in v20 (sx_len r0) then
          sx_bd (M.1 r0 0 (v20).toNatClampNeg) fun v21 =>
          (f8_redden r0 v21 M).bind fun M22 =>
          j94 M22
          else none
        else
          j94 M
        else none
      else
        j94 M
      else none
    else none
def f8_stepIn (r0 : Nat) (M0 : sx_M) : Option (Int32 × sx_M) :=
  if sx_in (6 : Int32) (sx_len r0) then
  sx_bd (M0.1 r0 0 ((6 : Int32)).toNatClampNeg) fun v1 =>
  if v1 = 0 then
    sx_b2 (f8_endIn r0 M0) fun v23 M24 =>
    some ((-9 : Int32) - v23, M24)
  else
    if sx_in (223 : Int32) (sx_len r0) then
    sx_bd (M0.1 r0 0 ((223 : Int32)).toNatClampNeg) fun v3 =>
    if sx_in (6 : Int32) (sx_len r0) then
    sx_bd (M0.1 r0 0 ((6 : Int32)).toNatClampNeg) fun v4 =>
    if sx_in (6 : Int32) (sx_len r0) then
    sx_bd (sx_set M0 r0 0 ((6 : Int32)).toNatClampNeg (v4 - (1 : Int32))) fun M5 =>
    if sx_in (6 : Int32) (sx_len r0) then
    sx_bd (M5.1 r0 0 ((6 : Int32)).toNatClampNeg) fun v6 =>
    (f8_copy r0 (224 : Int32) r0 (223 : Int32) v6 M5).bind fun M7 =>
    (f8_partAt v3 (3 : Int32) M7).bind fun v8 =>
    if sx_in v8 (sx_len r0) then
    sx_bd (sx_set M7 r0 0 (v8).toNatClampNeg (2 : Int32)) fun M9 =>
    f8_stepIn_L54 r0 v3
      5000 (0 : Int32) M9
    else none
    else none
    else none
    else none
    else none
  else none
set_option maxRecDepth 100000 in
set_option maxHeartbeats 4000000 in
theorem wk_8_stepIn (X : sx_X C p m c cX8_stepIn 3 s args RX8) (hr : meth.sig.returnType = (some .int)) (hlocks : meth.locks = false) (hG : sx_G C) (hz : sx_sz C ≤ s.heap.size) (hcs : 0 ≤ R.cells ∧ 0 ≤ R.slots) (hR : 4 ≤ R.frames ∧ 90 ≤ R.locals) (r0 : Nat) (hk_r0 : sx_row r0) (M0 : sx_M) (r : Int32) (M' : sx_M) (h : f8_stepIn r0 M0 = some (r, M')) (hl : lv_has ls 3 [(0, .ref (sx_ad C r0 0))]) (hP : sx_W C M0 H) (hS : va_S (sx_A C) s.heap H locs) : W p l e R s m args below meth c H locs 0 0 (sx_Z C (some (.int r)) M' below args s) (F0 m 0 ls []) := by
  obtain ⟨hx, hb, hml, hown, hts, hK⟩ := id X
  rw [f8_stepIn] at h
  have hf8_stepIn_L54 : ∀ (r0 : Nat) (w1 : Int32) (hk_r0 : sx_row r0) (n : Nat) (x2 : Int32) (M : sx_M) (H : Heap) (locs : List Loc) (ls : Array Slot), lv_has ls 3 [(0, .ref (sx_ad C r0 0)), (1, .int w1), (2, .int x2)] → sx_W C M H → va_S (sx_A C) s.heap H locs → f8_stepIn_L54 r0 w1 n x2 M = some (r, M') → W p l e R s m args below meth c H locs 0 0 (sx_Z C (some (.int r)) M' below args s) (F0 m 54 ls []) := by
    intro r0 w1 hk_r0 n
    induction n with
    | zero => intro x2 M H locs ls hl hP hS h; exact absurd (show (none : Option (Int32 × sx_M)) = some (r, M') from h) (fun q => nomatch q)
    | succ n ih =>
      intro x2 M H locs ls hl hP hS h
      rw [f8_stepIn_L54] at h
      refine lv_iload_n hx hb dX8_stepIn_54 rfl (lv_at hl 2 rfl) ?_
      refine lv_aload_n hx hb dX8_stepIn_55 rfl (lv_at hl 0 rfl) ?_
      refine lv_iconst (v := (2 : Int32)) hx hb dX8_stepIn_56 (by decide) ?_
      refine sx_iald X hP r0 0 (sx_len r0) (sx_row_cnt hk_r0) (fun _ _ => sx_row_E hk_r0) dX8_stepIn_57 h (fun v10 h => ?_)
      refine lv_icmp_ge (tgt := 100) hx hb dX8_stepIn_58 (by decide) (fun c11 => ?_) (fun c11 => ?_)
      · replace h := sx_ifp h c11
        refine lv_iload_n hx hb dX8_stepIn_100 rfl (lv_at hl 1 rfl) ?_
        exact sx_iretM X hr hlocks hS hP h dX8_stepIn_101
      · replace h := sx_ifn h c11
        refine lv_aload_n hx hb dX8_stepIn_61 rfl (lv_at hl 0 rfl) ?_
        refine lv_iload_n hx hb dX8_stepIn_62 rfl (lv_at hl 2 rfl) ?_
        refine lv_iconst (v := (0 : Int32)) hx hb dX8_stepIn_63 (by decide) ?_
        obtain ⟨v12, e_v12, h⟩ := sx_bnd h
        refine cl_X8_78 X hG hP hz hS  e_v12 hl.1 dX8_stepIn_64 hcs ⟨Nat.le_trans (by decide) hR.1, Nat.le_trans (by decide) hR.2⟩ (Nat.le_of_ble_eq_true rfl) (fun H locs hP hS => ?_)
        refine sx_iald X hP r0 0 (sx_len r0) (sx_row_cnt hk_r0) (fun _ _ => sx_row_E hk_r0) dX8_stepIn_67 h (fun v13 h => ?_)
        refine lv_iload_n hx hb dX8_stepIn_68 rfl (lv_at hl 1 rfl) ?_
        obtain ⟨j94, e_j94, h⟩ := sx_nm h
        have hj94 : ∀ (M14 : sx_M) (H : Heap) (locs : List Loc) (ls : Array Slot), lv_has ls 3 [(0, .ref (sx_ad C r0 0)), (1, .int w1), (2, .int x2)] → sx_W C M14 H → va_S (sx_A C) s.heap H locs → j94 M14 = some (r, M') → W p l e R s m args below meth c H locs 0 0 (sx_Z C (some (.int r)) M' below args s) (F0 m 94 ls []) := by
          intro M14 H locs ls hl hP hS h
          subst e_j94
          obtain ⟨v15, e_v15, h⟩ := sx_nm h
          refine lv_iinc (v := v15) (lv' := [(2, .int v15), (0, .ref (sx_ad C r0 0)), (1, .int w1)]) hx hb dX8_stepIn_94 hl (k := 2) rfl (by rw [← e_v15]; rfl) (by decide) rfl (fun ls hl => ?_)
          refine lv_goto (tgt := 54) hx hb dX8_stepIn_97 (by decide) ?_
          exact ih v15 M14 H locs ls (lv_sub hl [1, 2, 0] rfl) hP hS h
        clear e_j94
        refine lv_icmp_ne (tgt := 94) hx hb dX8_stepIn_69 (by decide) (fun c16 => ?_) (fun c16 => ?_)
        · replace h := sx_ifn h c16
          exact hj94 M H locs ls (lv_sub hl [0, 1, 2] rfl) hP hS h
        · replace h := sx_ifp h c16
          refine lv_aload_n hx hb dX8_stepIn_72 rfl (lv_at hl 0 rfl) ?_
          refine lv_iload_n hx hb dX8_stepIn_73 rfl (lv_at hl 2 rfl) ?_
          refine lv_iconst (v := (2 : Int32)) hx hb dX8_stepIn_74 (by decide) ?_
          obtain ⟨v17, e_v17, h⟩ := sx_bnd h
          refine cl_X8_78 X hG hP hz hS  e_v17 hl.1 dX8_stepIn_75 hcs ⟨Nat.le_trans (by decide) hR.1, Nat.le_trans (by decide) hR.2⟩ (Nat.le_of_ble_eq_true rfl) (fun H locs hP hS => ?_)
          refine sx_iald X hP r0 0 (sx_len r0) (sx_row_cnt hk_r0) (fun _ _ => sx_row_E hk_r0) dX8_stepIn_78 h (fun v18 h => ?_)
          refine lv_iconst (v := (1 : Int32)) hx hb dX8_stepIn_79 (by decide) ?_
          refine lv_icmp_ne (tgt := 94) hx hb dX8_stepIn_80 (by decide) (fun c19 => ?_) (fun c19 => ?_)
          · replace h := sx_ifn h c19
            exact hj94 M H locs ls (lv_sub hl [0, 1, 2] rfl) hP hS h
          · replace h := sx_ifp h c19
            refine lv_aload_n hx hb dX8_stepIn_83 rfl (lv_at hl 0 rfl) ?_
            refine lv_aload_n hx hb dX8_stepIn_84 rfl (lv_at hl 0 rfl) ?_
            refine lv_iload_n hx hb dX8_stepIn_85 rfl (lv_at hl 2 rfl) ?_
            refine lv_iconst (v := (1 : Int32)) hx hb dX8_stepIn_86 (by decide) ?_
            obtain ⟨v20, e_v20, h⟩ := sx_bnd h
            refine cl_X8_78 X hG hP hz hS  e_v20 hl.1 dX8_stepIn_87 hcs ⟨Nat.le_trans (by decide) hR.1, Nat.le_trans (by decide) hR.2⟩ (Nat.le_of_ble_eq_true rfl) (fun H locs hP hS => ?_)
            refine sx_iald X hP r0 0 (sx_len r0) (sx_row_cnt hk_r0) (fun _ _ => sx_row_E hk_r0) dX8_stepIn_90 h (fun v21 h => ?_)
            obtain ⟨M22, e_M22, h⟩ := sx_bnd h
            refine cl_X8_85 X hG hP hz hS hk_r0 e_M22 hl.1 dX8_stepIn_91 hcs ⟨Nat.le_trans (by decide) hR.1, Nat.le_trans (by decide) hR.2⟩ (Nat.le_of_ble_eq_true rfl) (fun H locs hP hS => ?_)
            exact hj94 M22 H locs ls (lv_sub hl [0, 1, 2] rfl) hP hS h
  refine lv_aload_n hx hb dX8_stepIn_0 rfl (lv_at hl 0 rfl) ?_
  refine lv_bipush (v := (6 : Int32)) hx hb dX8_stepIn_1 (by decide) ?_
  refine sx_iald X hP r0 0 (sx_len r0) (sx_row_cnt hk_r0) (fun _ _ => sx_row_E hk_r0) dX8_stepIn_3 h (fun v1 h => ?_)
  refine lv_if_ne (tgt := 15) hx hb dX8_stepIn_4 (by decide) (fun c2 => ?_) (fun c2 => ?_)
  · replace h := sx_ifn h c2
    refine lv_aload_n hx hb dX8_stepIn_15 rfl (lv_at hl 0 rfl) ?_
    refine lv_sipush (v := (223 : Int32)) hx hb dX8_stepIn_16 (by decide) ?_
    refine sx_iald X hP r0 0 (sx_len r0) (sx_row_cnt hk_r0) (fun _ _ => sx_row_E hk_r0) dX8_stepIn_19 h (fun v3 h => ?_)
    refine lv_istore_n (lv' := [(1, .int v3), (0, .ref (sx_ad C r0 0))]) hx hb dX8_stepIn_20 rfl hl (by decide) rfl (fun ls hl => ?_)
    refine lv_aload_n hx hb dX8_stepIn_21 rfl (lv_at hl 1 rfl) ?_
    refine lv_bipush (v := (6 : Int32)) hx hb dX8_stepIn_22 (by decide) ?_
    refine lv_dup2_11 hx hb dX8_stepIn_24 rfl rfl ?_
    refine sx_iald X hP r0 0 (sx_len r0) (sx_row_cnt hk_r0) (fun _ _ => sx_row_E hk_r0) dX8_stepIn_25 h (fun v4 h => ?_)
    refine lv_iconst (v := (1 : Int32)) hx hb dX8_stepIn_26 (by decide) ?_
    refine lv_isub hx hb dX8_stepIn_27 ?_
    refine sx_iast X hG hP hS r0 0 (sx_len r0) (sx_row_cnt hk_r0) (fun _ _ => sx_row_E hk_r0) dX8_stepIn_28 h (fun M5 H locs h hP hS => ?_)
    refine lv_aload_n hx hb dX8_stepIn_29 rfl (lv_at hl 1 rfl) ?_
    refine lv_sipush (v := (224 : Int32)) hx hb dX8_stepIn_30 (by decide) ?_
    refine lv_aload_n hx hb dX8_stepIn_33 rfl (lv_at hl 1 rfl) ?_
    refine lv_sipush (v := (223 : Int32)) hx hb dX8_stepIn_34 (by decide) ?_
    refine lv_aload_n hx hb dX8_stepIn_37 rfl (lv_at hl 1 rfl) ?_
    refine lv_bipush (v := (6 : Int32)) hx hb dX8_stepIn_38 (by decide) ?_
    refine sx_iald X hP r0 0 (sx_len r0) (sx_row_cnt hk_r0) (fun _ _ => sx_row_E hk_r0) dX8_stepIn_40 h (fun v6 h => ?_)
    obtain ⟨M7, e_M7, h⟩ := sx_bnd h
    refine cl_X8_56 X hG hP hz hS hk_r0 hk_r0 e_M7 hl.1 dX8_stepIn_41 hcs ⟨Nat.le_trans (by decide) hR.1, Nat.le_trans (by decide) hR.2⟩ (Nat.le_of_ble_eq_true rfl) (fun H locs hP hS => ?_)
    refine lv_aload_n hx hb dX8_stepIn_44 rfl (lv_at hl 1 rfl) ?_
    refine lv_iload_n hx hb dX8_stepIn_45 rfl (lv_at hl 0 rfl) ?_
    refine lv_iconst (v := (3 : Int32)) hx hb dX8_stepIn_46 (by decide) ?_
    obtain ⟨v8, e_v8, h⟩ := sx_bnd h
    refine cl_X8_66 X hG hP hz hS  e_v8 hl.1 dX8_stepIn_47 hcs ⟨Nat.le_trans (by decide) hR.1, Nat.le_trans (by decide) hR.2⟩ (Nat.le_of_ble_eq_true rfl) (fun H locs hP hS => ?_)
    refine lv_iconst (v := (2 : Int32)) hx hb dX8_stepIn_50 (by decide) ?_
    refine sx_iast X hG hP hS r0 0 (sx_len r0) (sx_row_cnt hk_r0) (fun _ _ => sx_row_E hk_r0) dX8_stepIn_51 h (fun M9 H locs h hP hS => ?_)
    refine lv_iconst (v := (0 : Int32)) hx hb dX8_stepIn_52 (by decide) ?_
    refine lv_istore_n (lv' := [(2, .int (0 : Int32)), (1, .int v3), (0, .ref (sx_ad C r0 0))]) hx hb dX8_stepIn_53 rfl hl (by decide) rfl (fun ls hl => ?_)
    exact hf8_stepIn_L54 r0 v3 hk_r0 5000 (0 : Int32) M9 H locs ls (lv_sub hl [2, 1, 0] rfl) hP hS h
  · replace h := sx_ifp h c2
    refine lv_bipush (v := (-9 : Int32)) hx hb dX8_stepIn_7 (by decide) ?_
    refine lv_aload_n hx hb dX8_stepIn_9 rfl (lv_at hl 0 rfl) ?_
    obtain ⟨v23, M24, e_v23, h⟩ := sx_bnd2 h
    refine cl_X8_95 X hG hP hz hS hk_r0 e_v23 hl.1 dX8_stepIn_10 hcs ⟨Nat.le_trans (by decide) hR.1, Nat.le_trans (by decide) hR.2⟩ (Nat.le_of_ble_eq_true rfl) (fun H locs hP hS => ?_)
    refine lv_isub hx hb dX8_stepIn_13 ?_
    exact sx_iretM X hr hlocks hS hP h dX8_stepIn_14
set_option maxRecDepth 100000 in
theorem ct_8_stepIn (l : Launch) (C : sx_C) (hG : sx_G C) (r0 : Nat) (hk_r0 : sx_row r0) (M0 : sx_M) (r : Int32) (M' : sx_M) (h : f8_stepIn r0 M0 = some (r, M')) : Met l yX8_stepIn (.code yX8_stepIn cX8_stepIn 3 (some .int) :: sx_T) ({ frames := 4, cells := 0, slots := 0, locals := 90 } : Room) (sx_Pc C M0 [.ref (sx_ad C r0 0)]) (sx_Q C (some (.int r)) M') 0 0 (sx_A C) := by
  refine Met.ofW (cc := cX8_stepIn) (maxL := 3) (ret := (some .int)) (by decide) rfl ?_
  intro p e s m args below meth c s₁ B hml hv
  obtain ⟨rfl, hz, hP, hK⟩ := hv
  have hl := lv_entry ([.ref (sx_ad C r0 0)]) (n := 3) (Nat.le_of_ble_eq_true rfl)
  rw [lg_entry_eq]
  generalize (lg_sl ([.ref (sx_ad C r0 0)]) ++ List.replicate (3 - (lg_sl ([.ref (sx_ad C r0 0)])).length) Slot.unset).toArray = ls at hl ⊢
  exact wk_8_stepIn ⟨B.exec, B.bytes, hml, findClass_of_methodNamed B.named, fun w hw => atoms_spec B.pre w (List.mem_cons_of_mem _ hw), hK⟩ B.returns B.notSynchronized hG hz ⟨Nat.zero_le _, Nat.zero_le _⟩ ⟨Nat.le_refl _, Nat.le_refl _⟩ r0 hk_r0 M0 r M' h hl hP va_S.rf
theorem cl_X8_172 (X : sx_X C p m c cc nL s args RX8) (hG : sx_G C) (hP : sx_W C M0 H) (hz : sx_sz C ≤ H0.size) (hS : va_S (sx_A C) H0 H locs) {r0 : Nat} (hk_r0 : sx_row r0) {r : Int32} {M' : sx_M} (h : f8_stepIn r0 M0 = some (r, M')) (hsz : ls.size = nL) (hdg : decode cc pc = .ok (.invokestatic 172, 3)) (hcs : cells ≤ R.cells ∧ slots ≤ R.slots) (hR : 4 + 1 ≤ R.frames ∧ 8 + (3 + 11) + 90 ≤ R.locals) (hrest : (rest.map fun v => v.category).sum ≤ 8) (kk : ∀ (H1 : Heap) (locs1 : List Loc), sx_W C M' H1 → va_S (sx_A C) H0 H1 locs1 → W p l e R s m args below meth c H1 locs1 cells slots Q (F0 m (pc + 3) ls ((.int r) :: rest))) : W p l e R s m args below meth c H locs cells slots Q (F0 m pc ls (.ref (sx_ad C r0 0) :: rest)) :=
  sx_callS (n := 1) (As := [.ref (sx_ad C r0 0)]) X hP hz hS (sx_goodS tw_1147 tw_1148 tw_71 tw_1149) (by decide +kernel) rfl rfl hR (ct_8_stepIn l C hG r0 hk_r0 M0 r M' h) rfl rfl hrest hsz hdg hcs kk
-- StringShedModel.makeIn([II)I
def f8_makeIn (r0 : Nat) (a1 : Int32) (M0 : sx_M) : Option (Int32 × sx_M) :=
  if sx_in (0 : Int32) (sx_len r0) then
  sx_bd (M0.1 r0 0 ((0 : Int32)).toNatClampNeg) fun v1 =>
  (f8_partAt v1 (0 : Int32) M0).bind fun v2 =>
  if sx_in v2 (sx_len r0) then
  sx_bd (sx_set M0 r0 0 (v2).toNatClampNeg a1) fun M3 =>
  (f8_partAt v1 (1 : Int32) M3).bind fun v4 =>
  if sx_in v4 (sx_len r0) then
  sx_bd (sx_set M3 r0 0 (v4).toNatClampNeg (1 : Int32)) fun M5 =>
  (f8_partAt v1 (2 : Int32) M5).bind fun v6 =>
  if sx_in v6 (sx_len r0) then
  sx_bd (sx_set M5 r0 0 (v6).toNatClampNeg (0 : Int32)) fun M7 =>
  (f8_partAt v1 (3 : Int32) M7).bind fun v8 =>
  if sx_in v8 (sx_len r0) then
  sx_bd (sx_set M7 r0 0 (v8).toNatClampNeg (2 : Int32)) fun M9 =>
  if sx_in (0 : Int32) (sx_len r0) then
  sx_bd (M9.1 r0 0 ((0 : Int32)).toNatClampNeg) fun v10 =>
  if sx_in (0 : Int32) (sx_len r0) then
  sx_bd (sx_set M9 r0 0 ((0 : Int32)).toNatClampNeg (v10 + (1 : Int32))) fun M11 =>
  some (v1, M11)
  else none
  else none
  else none
  else none
  else none
  else none
  else none
set_option maxRecDepth 100000 in
set_option maxHeartbeats 4000000 in
theorem wk_8_makeIn (X : sx_X C p m c cX8_makeIn 3 s args RX8) (hr : meth.sig.returnType = (some .int)) (hlocks : meth.locks = false) (hG : sx_G C) (hz : sx_sz C ≤ s.heap.size) (hcs : 0 ≤ R.cells ∧ 0 ≤ R.slots) (hR : 1 ≤ R.frames ∧ 21 ≤ R.locals) (r0 : Nat) (a1 : Int32) (hk_r0 : sx_row r0) (M0 : sx_M) (r : Int32) (M' : sx_M) (h : f8_makeIn r0 a1 M0 = some (r, M')) (hl : lv_has ls 3 [(0, .ref (sx_ad C r0 0)), (1, .int a1)]) (hP : sx_W C M0 H) (hS : va_S (sx_A C) s.heap H locs) : W p l e R s m args below meth c H locs 0 0 (sx_Z C (some (.int r)) M' below args s) (F0 m 0 ls []) := by
  obtain ⟨hx, hb, hml, hown, hts, hK⟩ := id X
  rw [f8_makeIn] at h
  refine lv_aload_n hx hb dX8_makeIn_0 rfl (lv_at hl 0 rfl) ?_
  refine lv_iconst (v := (0 : Int32)) hx hb dX8_makeIn_1 (by decide) ?_
  refine sx_iald X hP r0 0 (sx_len r0) (sx_row_cnt hk_r0) (fun _ _ => sx_row_E hk_r0) dX8_makeIn_2 h (fun v1 h => ?_)
  refine lv_istore_n (lv' := [(2, .int v1), (0, .ref (sx_ad C r0 0)), (1, .int a1)]) hx hb dX8_makeIn_3 rfl hl (by decide) rfl (fun ls hl => ?_)
  refine lv_aload_n hx hb dX8_makeIn_4 rfl (lv_at hl 1 rfl) ?_
  refine lv_iload_n hx hb dX8_makeIn_5 rfl (lv_at hl 0 rfl) ?_
  refine lv_iconst (v := (0 : Int32)) hx hb dX8_makeIn_6 (by decide) ?_
  obtain ⟨v2, e_v2, h⟩ := sx_bnd h
  refine cl_X8_66 X hG hP hz hS  e_v2 hl.1 dX8_makeIn_7 hcs ⟨Nat.le_trans (by decide) hR.1, Nat.le_trans (by decide) hR.2⟩ (Nat.le_of_ble_eq_true rfl) (fun H locs hP hS => ?_)
  refine lv_iload_n hx hb dX8_makeIn_10 rfl (lv_at hl 2 rfl) ?_
  refine sx_iast X hG hP hS r0 0 (sx_len r0) (sx_row_cnt hk_r0) (fun _ _ => sx_row_E hk_r0) dX8_makeIn_11 h (fun M3 H locs h hP hS => ?_)
  refine lv_aload_n hx hb dX8_makeIn_12 rfl (lv_at hl 1 rfl) ?_
  refine lv_iload_n hx hb dX8_makeIn_13 rfl (lv_at hl 0 rfl) ?_
  refine lv_iconst (v := (1 : Int32)) hx hb dX8_makeIn_14 (by decide) ?_
  obtain ⟨v4, e_v4, h⟩ := sx_bnd h
  refine cl_X8_66 X hG hP hz hS  e_v4 hl.1 dX8_makeIn_15 hcs ⟨Nat.le_trans (by decide) hR.1, Nat.le_trans (by decide) hR.2⟩ (Nat.le_of_ble_eq_true rfl) (fun H locs hP hS => ?_)
  refine lv_iconst (v := (1 : Int32)) hx hb dX8_makeIn_18 (by decide) ?_
  refine sx_iast X hG hP hS r0 0 (sx_len r0) (sx_row_cnt hk_r0) (fun _ _ => sx_row_E hk_r0) dX8_makeIn_19 h (fun M5 H locs h hP hS => ?_)
  refine lv_aload_n hx hb dX8_makeIn_20 rfl (lv_at hl 1 rfl) ?_
  refine lv_iload_n hx hb dX8_makeIn_21 rfl (lv_at hl 0 rfl) ?_
  refine lv_iconst (v := (2 : Int32)) hx hb dX8_makeIn_22 (by decide) ?_
  obtain ⟨v6, e_v6, h⟩ := sx_bnd h
  refine cl_X8_66 X hG hP hz hS  e_v6 hl.1 dX8_makeIn_23 hcs ⟨Nat.le_trans (by decide) hR.1, Nat.le_trans (by decide) hR.2⟩ (Nat.le_of_ble_eq_true rfl) (fun H locs hP hS => ?_)
  refine lv_iconst (v := (0 : Int32)) hx hb dX8_makeIn_26 (by decide) ?_
  refine sx_iast X hG hP hS r0 0 (sx_len r0) (sx_row_cnt hk_r0) (fun _ _ => sx_row_E hk_r0) dX8_makeIn_27 h (fun M7 H locs h hP hS => ?_)
  refine lv_aload_n hx hb dX8_makeIn_28 rfl (lv_at hl 1 rfl) ?_
  refine lv_iload_n hx hb dX8_makeIn_29 rfl (lv_at hl 0 rfl) ?_
  refine lv_iconst (v := (3 : Int32)) hx hb dX8_makeIn_30 (by decide) ?_
  obtain ⟨v8, e_v8, h⟩ := sx_bnd h
  refine cl_X8_66 X hG hP hz hS  e_v8 hl.1 dX8_makeIn_31 hcs ⟨Nat.le_trans (by decide) hR.1, Nat.le_trans (by decide) hR.2⟩ (Nat.le_of_ble_eq_true rfl) (fun H locs hP hS => ?_)
  refine lv_iconst (v := (2 : Int32)) hx hb dX8_makeIn_34 (by decide) ?_
  refine sx_iast X hG hP hS r0 0 (sx_len r0) (sx_row_cnt hk_r0) (fun _ _ => sx_row_E hk_r0) dX8_makeIn_35 h (fun M9 H locs h hP hS => ?_)
  refine lv_aload_n hx hb dX8_makeIn_36 rfl (lv_at hl 1 rfl) ?_
  refine lv_iconst (v := (0 : Int32)) hx hb dX8_makeIn_37 (by decide) ?_
  refine lv_dup2_11 hx hb dX8_makeIn_38 rfl rfl ?_
  refine sx_iald X hP r0 0 (sx_len r0) (sx_row_cnt hk_r0) (fun _ _ => sx_row_E hk_r0) dX8_makeIn_39 h (fun v10 h => ?_)
  refine lv_iconst (v := (1 : Int32)) hx hb dX8_makeIn_40 (by decide) ?_
  refine lv_iadd hx hb dX8_makeIn_41 ?_
  refine sx_iast X hG hP hS r0 0 (sx_len r0) (sx_row_cnt hk_r0) (fun _ _ => sx_row_E hk_r0) dX8_makeIn_42 h (fun M11 H locs h hP hS => ?_)
  refine lv_iload_n hx hb dX8_makeIn_43 rfl (lv_at hl 0 rfl) ?_
  exact sx_iretM X hr hlocks hS hP h dX8_makeIn_44
set_option maxRecDepth 100000 in
theorem ct_8_makeIn (l : Launch) (C : sx_C) (hG : sx_G C) (r0 : Nat) (a1 : Int32) (hk_r0 : sx_row r0) (M0 : sx_M) (r : Int32) (M' : sx_M) (h : f8_makeIn r0 a1 M0 = some (r, M')) : Met l yX8_makeIn (.code yX8_makeIn cX8_makeIn 3 (some .int) :: sx_T) ({ frames := 1, cells := 0, slots := 0, locals := 21 } : Room) (sx_Pc C M0 [.ref (sx_ad C r0 0), .int a1]) (sx_Q C (some (.int r)) M') 0 0 (sx_A C) := by
  refine Met.ofW (cc := cX8_makeIn) (maxL := 3) (ret := (some .int)) (by decide) rfl ?_
  intro p e s m args below meth c s₁ B hml hv
  obtain ⟨rfl, hz, hP, hK⟩ := hv
  have hl := lv_entry ([.ref (sx_ad C r0 0), .int a1]) (n := 3) (Nat.le_of_ble_eq_true rfl)
  rw [lg_entry_eq]
  generalize (lg_sl ([.ref (sx_ad C r0 0), .int a1]) ++ List.replicate (3 - (lg_sl ([.ref (sx_ad C r0 0), .int a1])).length) Slot.unset).toArray = ls at hl ⊢
  exact wk_8_makeIn ⟨B.exec, B.bytes, hml, findClass_of_methodNamed B.named, fun w hw => atoms_spec B.pre w (List.mem_cons_of_mem _ hw), hK⟩ B.returns B.notSynchronized hG hz ⟨Nat.zero_le _, Nat.zero_le _⟩ ⟨Nat.le_refl _, Nat.le_refl _⟩ r0 a1 hk_r0 M0 r M' h hl hP va_S.rf
theorem cl_X8_161 (X : sx_X C p m c cc nL s args RX8) (hG : sx_G C) (hP : sx_W C M0 H) (hz : sx_sz C ≤ H0.size) (hS : va_S (sx_A C) H0 H locs) {r0 : Nat} {a1 : Int32} (hk_r0 : sx_row r0) {r : Int32} {M' : sx_M} (h : f8_makeIn r0 a1 M0 = some (r, M')) (hsz : ls.size = nL) (hdg : decode cc pc = .ok (.invokestatic 161, 3)) (hcs : cells ≤ R.cells ∧ slots ≤ R.slots) (hR : 1 + 1 ≤ R.frames ∧ 8 + (3 + 11) + 21 ≤ R.locals) (hrest : (rest.map fun v => v.category).sum ≤ 8) (kk : ∀ (H1 : Heap) (locs1 : List Loc), sx_W C M' H1 → va_S (sx_A C) H0 H1 locs1 → W p l e R s m args below meth c H1 locs1 cells slots Q (F0 m (pc + 3) ls ((.int r) :: rest))) : W p l e R s m args below meth c H locs cells slots Q (F0 m pc ls (.int a1 :: .ref (sx_ad C r0 0) :: rest)) :=
  sx_callS (n := 2) (As := [.ref (sx_ad C r0 0), .int a1]) X hP hz hS (sx_goodS tw_1079 tw_1080 tw_71 tw_1081) (by decide +kernel) rfl rfl hR (ct_8_makeIn l C hG r0 a1 hk_r0 M0 r M' h) rfl rfl hrest hsz hdg hcs kk
-- StringShedModel.canTie([III)Z pure
def f8_canTie (r0 : Nat) (a1 : Int32) (a2 : Int32) (M0 : sx_M) : Option (Int32) :=
  (f8_find r0 a1 a2 M0).bind fun v1 =>
  sx_bd (fun (v2 : Int32) =>
    if v2 = 0 ∨ v2 = 1 then some v2 else none) fun j24 =>
  sx_bd (fun (_ : Unit) =>
    j24 (0 : Int32)) fun j23 =>
  if v1 = (-9 : Int32) then
    if sx_in (2 : Int32) (sx_len r0) then
    sx_bd (M0.1 r0 0 ((2 : Int32)).toNatClampNeg) fun v4 =>
    if (40 : Int32) ≤ v4 then
      j23 ()
    else
      j24 (1 : Int32)
    else none
  else
    j23 ()
set_option maxRecDepth 100000 in
set_option maxHeartbeats 4000000 in
theorem wk_8_canTie (X : sx_X C p m c cX8_canTie 3 s args RX8) (hr : meth.sig.returnType = (some .boolean)) (hlocks : meth.locks = false) (hG : sx_G C) (hz : sx_sz C ≤ s.heap.size) (hcs : 0 ≤ R.cells ∧ 0 ≤ R.slots) (hR : 2 ≤ R.frames ∧ 45 ≤ R.locals) (r0 : Nat) (a1 : Int32) (a2 : Int32) (hk_r0 : sx_row r0) (M0 : sx_M) (r : Int32) (h : f8_canTie r0 a1 a2 M0 = some r) (hl : lv_has ls 3 [(0, .ref (sx_ad C r0 0)), (1, .int a1), (2, .int a2)]) (hP : sx_W C M0 H) (hS : va_S (sx_A C) s.heap H locs) : W p l e R s m args below meth c H locs 0 0 (sx_Z C (some (.int r)) M0 below args s) (F0 m 0 ls []) := by
  obtain ⟨hx, hb, hml, hown, hts, hK⟩ := id X
  rw [f8_canTie] at h
  refine lv_aload_n hx hb dX8_canTie_0 rfl (lv_at hl 0 rfl) ?_
  refine lv_iload_n hx hb dX8_canTie_1 rfl (lv_at hl 1 rfl) ?_
  refine lv_iload_n hx hb dX8_canTie_2 rfl (lv_at hl 2 rfl) ?_
  obtain ⟨v1, e_v1, h⟩ := sx_bnd h
  refine cl_X8_99 X hG hP hz hS hk_r0 e_v1 hl.1 dX8_canTie_3 hcs ⟨Nat.le_trans (by decide) hR.1, Nat.le_trans (by decide) hR.2⟩ (Nat.le_of_ble_eq_true rfl) (fun H locs hP hS => ?_)
  refine lv_bipush (v := (-9 : Int32)) hx hb dX8_canTie_6 (by decide) ?_
  obtain ⟨j24, e_j24, h⟩ := sx_nm h
  have hj24 : ∀ (v2 : Int32) (H : Heap) (locs : List Loc) (ls : Array Slot), lv_has ls 3 [] → sx_W C M0 H → va_S (sx_A C) s.heap H locs → j24 v2 = some r → W p l e R s m args below meth c H locs 0 0 (sx_Z C (some (.int r)) M0 below args s) (F0 m 24 ls [.int v2]) := by
    intro v2 H locs ls hl hP hS h
    subst e_j24
    obtain ⟨hz01, h⟩ := sx_ck h
    exact sx_zret X hr hlocks hS hP hz01 h dX8_canTie_24
  clear e_j24
  obtain ⟨j23, e_j23, h⟩ := sx_nm h
  have hj23 : ∀ (H : Heap) (locs : List Loc) (ls : Array Slot), lv_has ls 3 [] → sx_W C M0 H → va_S (sx_A C) s.heap H locs → j23 () = some r → W p l e R s m args below meth c H locs 0 0 (sx_Z C (some (.int r)) M0 below args s) (F0 m 23 ls []) := by
    intro  H locs ls hl hP hS h
    subst e_j23
    refine lv_iconst (v := (0 : Int32)) hx hb dX8_canTie_23 (by decide) ?_
    exact hj24 (0 : Int32) H locs ls (lv_sub hl [] rfl) hP hS h
  clear e_j23
  refine lv_icmp_ne (tgt := 23) hx hb dX8_canTie_8 (by decide) (fun c3 => ?_) (fun c3 => ?_)
  · replace h := sx_ifn h c3
    exact hj23 H locs ls (lv_sub hl [] rfl) hP hS h
  · replace h := sx_ifp h c3
    refine lv_aload_n hx hb dX8_canTie_11 rfl (lv_at hl 0 rfl) ?_
    refine lv_iconst (v := (2 : Int32)) hx hb dX8_canTie_12 (by decide) ?_
    refine sx_iald X hP r0 0 (sx_len r0) (sx_row_cnt hk_r0) (fun _ _ => sx_row_E hk_r0) dX8_canTie_13 h (fun v4 h => ?_)
    refine lv_bipush (v := (40 : Int32)) hx hb dX8_canTie_14 (by decide) ?_
    refine lv_icmp_ge (tgt := 23) hx hb dX8_canTie_16 (by decide) (fun c5 => ?_) (fun c5 => ?_)
    · replace h := sx_ifp h c5
      exact hj23 H locs ls (lv_sub hl [] rfl) hP hS h
    · replace h := sx_ifn h c5
      refine lv_iconst (v := (1 : Int32)) hx hb dX8_canTie_19 (by decide) ?_
      refine lv_goto (tgt := 24) hx hb dX8_canTie_20 (by decide) ?_
      exact hj24 (1 : Int32) H locs ls (lv_sub hl [] rfl) hP hS h
set_option maxRecDepth 100000 in
theorem ct_8_canTie (l : Launch) (C : sx_C) (hG : sx_G C) (r0 : Nat) (a1 : Int32) (a2 : Int32) (hk_r0 : sx_row r0) (M0 : sx_M) (r : Int32) (h : f8_canTie r0 a1 a2 M0 = some r) : Met l yX8_canTie (.code yX8_canTie cX8_canTie 3 (some .boolean) :: sx_T) ({ frames := 2, cells := 0, slots := 0, locals := 45 } : Room) (sx_Pc C M0 [.ref (sx_ad C r0 0), .int a1, .int a2]) (sx_Q C (some (.int r)) M0) 0 0 (sx_A C) := by
  refine Met.ofW (cc := cX8_canTie) (maxL := 3) (ret := (some .boolean)) (by decide) rfl ?_
  intro p e s m args below meth c s₁ B hml hv
  obtain ⟨rfl, hz, hP, hK⟩ := hv
  have hl := lv_entry ([.ref (sx_ad C r0 0), .int a1, .int a2]) (n := 3) (Nat.le_of_ble_eq_true rfl)
  rw [lg_entry_eq]
  generalize (lg_sl ([.ref (sx_ad C r0 0), .int a1, .int a2]) ++ List.replicate (3 - (lg_sl ([.ref (sx_ad C r0 0), .int a1, .int a2])).length) Slot.unset).toArray = ls at hl ⊢
  exact wk_8_canTie ⟨B.exec, B.bytes, hml, findClass_of_methodNamed B.named, fun w hw => atoms_spec B.pre w (List.mem_cons_of_mem _ hw), hK⟩ B.returns B.notSynchronized hG hz ⟨Nat.zero_le _, Nat.zero_le _⟩ ⟨Nat.le_refl _, Nat.le_refl _⟩ r0 a1 a2 hk_r0 M0 r h hl hP va_S.rf
theorem cl_X8_147 (X : sx_X C p m c cc nL s args RX8) (hG : sx_G C) (hP : sx_W C M0 H) (hz : sx_sz C ≤ H0.size) (hS : va_S (sx_A C) H0 H locs) {r0 : Nat} {a1 : Int32} {a2 : Int32} (hk_r0 : sx_row r0) {r : Int32} (h : f8_canTie r0 a1 a2 M0 = some r) (hsz : ls.size = nL) (hdg : decode cc pc = .ok (.invokestatic 147, 3)) (hcs : cells ≤ R.cells ∧ slots ≤ R.slots) (hR : 2 + 1 ≤ R.frames ∧ 8 + (3 + 11) + 45 ≤ R.locals) (hrest : (rest.map fun v => v.category).sum ≤ 8) (kk : ∀ (H1 : Heap) (locs1 : List Loc), sx_W C M0 H1 → va_S (sx_A C) H0 H1 locs1 → W p l e R s m args below meth c H1 locs1 cells slots Q (F0 m (pc + 3) ls ((.int r) :: rest))) : W p l e R s m args below meth c H locs cells slots Q (F0 m pc ls (.int a2 :: .int a1 :: .ref (sx_ad C r0 0) :: rest)) :=
  sx_callS (n := 3) (As := [.ref (sx_ad C r0 0), .int a1, .int a2]) X hP hz hS (sx_goodS tw_1112 tw_1113 tw_71 tw_1114) (by decide +kernel) rfl rfl hR (ct_8_canTie l C hG r0 a1 a2 hk_r0 M0 r h) rfl rfl hrest hsz hdg hcs kk
-- StringShedModel.colors([II)Z pure
def f8_colors (r0 : Nat) (a1 : Int32) (M0 : sx_M) : Option (Int32) :=
  sx_bd (fun (v1 : Int32) =>
    if v1 = 0 ∨ v1 = 1 then some v1 else none) fun j20 =>
  sx_bd (fun (_ : Unit) =>
    j20 (1 : Int32)) fun j15 =>
  if a1 < 0 then
    j15 ()
  else
    (f8_partAt a1 (3 : Int32) M0).bind fun v3 =>
    if sx_in v3 (sx_len r0) then
    sx_bd (M0.1 r0 0 (v3).toNatClampNeg) fun v4 =>
    if v4 = (2 : Int32) then
      j15 ()
    else
      j20 (0 : Int32)
    else none
set_option maxRecDepth 100000 in
set_option maxHeartbeats 4000000 in
theorem wk_8_colors (X : sx_X C p m c cX8_colors 2 s args RX8) (hr : meth.sig.returnType = (some .boolean)) (hlocks : meth.locks = false) (hG : sx_G C) (hz : sx_sz C ≤ s.heap.size) (hcs : 0 ≤ R.cells ∧ 0 ≤ R.slots) (hR : 1 ≤ R.frames ∧ 21 ≤ R.locals) (r0 : Nat) (a1 : Int32) (hk_r0 : sx_row r0) (M0 : sx_M) (r : Int32) (h : f8_colors r0 a1 M0 = some r) (hl : lv_has ls 2 [(0, .ref (sx_ad C r0 0)), (1, .int a1)]) (hP : sx_W C M0 H) (hS : va_S (sx_A C) s.heap H locs) : W p l e R s m args below meth c H locs 0 0 (sx_Z C (some (.int r)) M0 below args s) (F0 m 0 ls []) := by
  obtain ⟨hx, hb, hml, hown, hts, hK⟩ := id X
  rw [f8_colors] at h
  refine lv_iload_n hx hb dX8_colors_0 rfl (lv_at hl 1 rfl) ?_
  obtain ⟨j20, e_j20, h⟩ := sx_nm h
  have hj20 : ∀ (v1 : Int32) (H : Heap) (locs : List Loc) (ls : Array Slot), lv_has ls 2 [] → sx_W C M0 H → va_S (sx_A C) s.heap H locs → j20 v1 = some r → W p l e R s m args below meth c H locs 0 0 (sx_Z C (some (.int r)) M0 below args s) (F0 m 20 ls [.int v1]) := by
    intro v1 H locs ls hl hP hS h
    subst e_j20
    obtain ⟨hz01, h⟩ := sx_ck h
    exact sx_zret X hr hlocks hS hP hz01 h dX8_colors_20
  clear e_j20
  obtain ⟨j15, e_j15, h⟩ := sx_nm h
  have hj15 : ∀ (H : Heap) (locs : List Loc) (ls : Array Slot), lv_has ls 2 [] → sx_W C M0 H → va_S (sx_A C) s.heap H locs → j15 () = some r → W p l e R s m args below meth c H locs 0 0 (sx_Z C (some (.int r)) M0 below args s) (F0 m 15 ls []) := by
    intro  H locs ls hl hP hS h
    subst e_j15
    refine lv_iconst (v := (1 : Int32)) hx hb dX8_colors_15 (by decide) ?_
    refine lv_goto (tgt := 20) hx hb dX8_colors_16 (by decide) ?_
    exact hj20 (1 : Int32) H locs ls (lv_sub hl [] rfl) hP hS h
  clear e_j15
  refine lv_if_lt (tgt := 15) hx hb dX8_colors_1 (by decide) (fun c2 => ?_) (fun c2 => ?_)
  · replace h := sx_ifp h c2
    exact hj15 H locs ls (lv_sub hl [] rfl) hP hS h
  · replace h := sx_ifn h c2
    refine lv_aload_n hx hb dX8_colors_4 rfl (lv_at hl 0 rfl) ?_
    refine lv_iload_n hx hb dX8_colors_5 rfl (lv_at hl 1 rfl) ?_
    refine lv_iconst (v := (3 : Int32)) hx hb dX8_colors_6 (by decide) ?_
    obtain ⟨v3, e_v3, h⟩ := sx_bnd h
    refine cl_X8_66 X hG hP hz hS  e_v3 hl.1 dX8_colors_7 hcs ⟨Nat.le_trans (by decide) hR.1, Nat.le_trans (by decide) hR.2⟩ (Nat.le_of_ble_eq_true rfl) (fun H locs hP hS => ?_)
    refine sx_iald X hP r0 0 (sx_len r0) (sx_row_cnt hk_r0) (fun _ _ => sx_row_E hk_r0) dX8_colors_10 h (fun v4 h => ?_)
    refine lv_iconst (v := (2 : Int32)) hx hb dX8_colors_11 (by decide) ?_
    refine lv_icmp_ne (tgt := 19) hx hb dX8_colors_12 (by decide) (fun c5 => ?_) (fun c5 => ?_)
    · replace h := sx_ifn h c5
      refine lv_iconst (v := (0 : Int32)) hx hb dX8_colors_19 (by decide) ?_
      exact hj20 (0 : Int32) H locs ls (lv_sub hl [] rfl) hP hS h
    · replace h := sx_ifp h c5
      exact hj15 H locs ls (lv_sub hl [] rfl) hP hS h
set_option maxRecDepth 100000 in
theorem ct_8_colors (l : Launch) (C : sx_C) (hG : sx_G C) (r0 : Nat) (a1 : Int32) (hk_r0 : sx_row r0) (M0 : sx_M) (r : Int32) (h : f8_colors r0 a1 M0 = some r) : Met l yX8_colors (.code yX8_colors cX8_colors 2 (some .boolean) :: sx_T) ({ frames := 1, cells := 0, slots := 0, locals := 21 } : Room) (sx_Pc C M0 [.ref (sx_ad C r0 0), .int a1]) (sx_Q C (some (.int r)) M0) 0 0 (sx_A C) := by
  refine Met.ofW (cc := cX8_colors) (maxL := 2) (ret := (some .boolean)) (by decide) rfl ?_
  intro p e s m args below meth c s₁ B hml hv
  obtain ⟨rfl, hz, hP, hK⟩ := hv
  have hl := lv_entry ([.ref (sx_ad C r0 0), .int a1]) (n := 2) (Nat.le_of_ble_eq_true rfl)
  rw [lg_entry_eq]
  generalize (lg_sl ([.ref (sx_ad C r0 0), .int a1]) ++ List.replicate (2 - (lg_sl ([.ref (sx_ad C r0 0), .int a1])).length) Slot.unset).toArray = ls at hl ⊢
  exact wk_8_colors ⟨B.exec, B.bytes, hml, findClass_of_methodNamed B.named, fun w hw => atoms_spec B.pre w (List.mem_cons_of_mem _ hw), hK⟩ B.returns B.notSynchronized hG hz ⟨Nat.zero_le _, Nat.zero_le _⟩ ⟨Nat.le_refl _, Nat.le_refl _⟩ r0 a1 hk_r0 M0 r h hl hP va_S.rf
theorem cl_X8_103 (X : sx_X C p m c cc nL s args RX8) (hG : sx_G C) (hP : sx_W C M0 H) (hz : sx_sz C ≤ H0.size) (hS : va_S (sx_A C) H0 H locs) {r0 : Nat} {a1 : Int32} (hk_r0 : sx_row r0) {r : Int32} (h : f8_colors r0 a1 M0 = some r) (hsz : ls.size = nL) (hdg : decode cc pc = .ok (.invokestatic 103, 3)) (hcs : cells ≤ R.cells ∧ slots ≤ R.slots) (hR : 1 + 1 ≤ R.frames ∧ 8 + (2 + 11) + 21 ≤ R.locals) (hrest : (rest.map fun v => v.category).sum ≤ 8) (kk : ∀ (H1 : Heap) (locs1 : List Loc), sx_W C M0 H1 → va_S (sx_A C) H0 H1 locs1 → W p l e R s m args below meth c H1 locs1 cells slots Q (F0 m (pc + 3) ls ((.int r) :: rest))) : W p l e R s m args below meth c H locs cells slots Q (F0 m pc ls (.int a1 :: .ref (sx_ad C r0 0) :: rest)) :=
  sx_callS (n := 2) (As := [.ref (sx_ad C r0 0), .int a1]) X hP hz hS (sx_goodS tw_1118 tw_1119 tw_71 tw_1120) (by decide +kernel) rfl rfl hR (ct_8_colors l C hG r0 a1 hk_r0 M0 r h) rfl rfl hrest hsz hdg hcs kk
-- StringShedModel.tieIn([IIII)V
def f8_tieIn (r0 : Nat) (a1 : Int32) (a2 : Int32) (a3 : Int32) (M0 : sx_M) : Option (sx_M) :=
  if sx_in (2 : Int32) (sx_len r0) then
  sx_bd (M0.1 r0 0 ((2 : Int32)).toNatClampNeg) fun v1 =>
  (f8_cordAt v1 (0 : Int32) M0).bind fun v2 =>
  if sx_in v2 (sx_len r0) then
  sx_bd (sx_set M0 r0 0 (v2).toNatClampNeg a1) fun M3 =>
  (f8_cordAt v1 (1 : Int32) M3).bind fun v4 =>
  if sx_in v4 (sx_len r0) then
  sx_bd (sx_set M3 r0 0 (v4).toNatClampNeg a2) fun M5 =>
  (f8_cordAt v1 (2 : Int32) M5).bind fun v6 =>
  if sx_in v6 (sx_len r0) then
  sx_bd (sx_set M5 r0 0 (v6).toNatClampNeg a3) fun M7 =>
  if sx_in (2 : Int32) (sx_len r0) then
  sx_bd (M7.1 r0 0 ((2 : Int32)).toNatClampNeg) fun v8 =>
  if sx_in (2 : Int32) (sx_len r0) then
  sx_bd (sx_set M7 r0 0 ((2 : Int32)).toNatClampNeg (v8 + (1 : Int32))) fun M9 =>
  sx_bd (fun (M10 : sx_M) =>
    some M10) fun j57 =>
  if a3 = (1 : Int32) then
    (f8_colors r0 a1 M9).bind fun v12 =>
    if v12 = 0 then
      j57 M9
    else
      (f8_redden r0 a2 M9).bind fun M14 =>
      j57 M14
  else
    j57 M9
  else none
  else none
  else none
  else none
  else none
  else none
set_option maxRecDepth 100000 in
set_option maxHeartbeats 4000000 in
theorem wk_8_tieIn (X : sx_X C p m c cX8_tieIn 5 s args RX8) (hr : meth.sig.returnType = none) (hlocks : meth.locks = false) (hG : sx_G C) (hz : sx_sz C ≤ s.heap.size) (hcs : 0 ≤ R.cells ∧ 0 ≤ R.slots) (hR : 2 ≤ R.frames ∧ 42 ≤ R.locals) (r0 : Nat) (a1 : Int32) (a2 : Int32) (a3 : Int32) (hk_r0 : sx_row r0) (M0 : sx_M) (M' : sx_M) (h : f8_tieIn r0 a1 a2 a3 M0 = some M') (hl : lv_has ls 5 [(0, .ref (sx_ad C r0 0)), (1, .int a1), (2, .int a2), (3, .int a3)]) (hP : sx_W C M0 H) (hS : va_S (sx_A C) s.heap H locs) : W p l e R s m args below meth c H locs 0 0 (sx_Z C none M' below args s) (F0 m 0 ls []) := by
  obtain ⟨hx, hb, hml, hown, hts, hK⟩ := id X
  rw [f8_tieIn] at h
  refine lv_aload_n hx hb dX8_tieIn_0 rfl (lv_at hl 0 rfl) ?_
  refine lv_iconst (v := (2 : Int32)) hx hb dX8_tieIn_1 (by decide) ?_
  refine sx_iald X hP r0 0 (sx_len r0) (sx_row_cnt hk_r0) (fun _ _ => sx_row_E hk_r0) dX8_tieIn_2 h (fun v1 h => ?_)
  refine lv_istore (lv' := [(4, .int v1), (0, .ref (sx_ad C r0 0)), (1, .int a1), (2, .int a2), (3, .int a3)]) hx hb dX8_tieIn_3 hl (by decide) rfl (fun ls hl => ?_)
  refine lv_aload_n hx hb dX8_tieIn_5 rfl (lv_at hl 1 rfl) ?_
  refine lv_iload hx hb dX8_tieIn_6 (lv_at hl 0 rfl) ?_
  refine lv_iconst (v := (0 : Int32)) hx hb dX8_tieIn_8 (by decide) ?_
  obtain ⟨v2, e_v2, h⟩ := sx_bnd h
  refine cl_X8_78 X hG hP hz hS  e_v2 hl.1 dX8_tieIn_9 hcs ⟨Nat.le_trans (by decide) hR.1, Nat.le_trans (by decide) hR.2⟩ (Nat.le_of_ble_eq_true rfl) (fun H locs hP hS => ?_)
  refine lv_iload_n hx hb dX8_tieIn_12 rfl (lv_at hl 2 rfl) ?_
  refine sx_iast X hG hP hS r0 0 (sx_len r0) (sx_row_cnt hk_r0) (fun _ _ => sx_row_E hk_r0) dX8_tieIn_13 h (fun M3 H locs h hP hS => ?_)
  refine lv_aload_n hx hb dX8_tieIn_14 rfl (lv_at hl 1 rfl) ?_
  refine lv_iload hx hb dX8_tieIn_15 (lv_at hl 0 rfl) ?_
  refine lv_iconst (v := (1 : Int32)) hx hb dX8_tieIn_17 (by decide) ?_
  obtain ⟨v4, e_v4, h⟩ := sx_bnd h
  refine cl_X8_78 X hG hP hz hS  e_v4 hl.1 dX8_tieIn_18 hcs ⟨Nat.le_trans (by decide) hR.1, Nat.le_trans (by decide) hR.2⟩ (Nat.le_of_ble_eq_true rfl) (fun H locs hP hS => ?_)
  refine lv_iload_n hx hb dX8_tieIn_21 rfl (lv_at hl 3 rfl) ?_
  refine sx_iast X hG hP hS r0 0 (sx_len r0) (sx_row_cnt hk_r0) (fun _ _ => sx_row_E hk_r0) dX8_tieIn_22 h (fun M5 H locs h hP hS => ?_)
  refine lv_aload_n hx hb dX8_tieIn_23 rfl (lv_at hl 1 rfl) ?_
  refine lv_iload hx hb dX8_tieIn_24 (lv_at hl 0 rfl) ?_
  refine lv_iconst (v := (2 : Int32)) hx hb dX8_tieIn_26 (by decide) ?_
  obtain ⟨v6, e_v6, h⟩ := sx_bnd h
  refine cl_X8_78 X hG hP hz hS  e_v6 hl.1 dX8_tieIn_27 hcs ⟨Nat.le_trans (by decide) hR.1, Nat.le_trans (by decide) hR.2⟩ (Nat.le_of_ble_eq_true rfl) (fun H locs hP hS => ?_)
  refine lv_iload_n hx hb dX8_tieIn_30 rfl (lv_at hl 4 rfl) ?_
  refine sx_iast X hG hP hS r0 0 (sx_len r0) (sx_row_cnt hk_r0) (fun _ _ => sx_row_E hk_r0) dX8_tieIn_31 h (fun M7 H locs h hP hS => ?_)
  refine lv_aload_n hx hb dX8_tieIn_32 rfl (lv_at hl 1 rfl) ?_
  refine lv_iconst (v := (2 : Int32)) hx hb dX8_tieIn_33 (by decide) ?_
  refine lv_dup2_11 hx hb dX8_tieIn_34 rfl rfl ?_
  refine sx_iald X hP r0 0 (sx_len r0) (sx_row_cnt hk_r0) (fun _ _ => sx_row_E hk_r0) dX8_tieIn_35 h (fun v8 h => ?_)
  refine lv_iconst (v := (1 : Int32)) hx hb dX8_tieIn_36 (by decide) ?_
  refine lv_iadd hx hb dX8_tieIn_37 ?_
  refine sx_iast X hG hP hS r0 0 (sx_len r0) (sx_row_cnt hk_r0) (fun _ _ => sx_row_E hk_r0) dX8_tieIn_38 h (fun M9 H locs h hP hS => ?_)
  refine lv_iload_n hx hb dX8_tieIn_39 rfl (lv_at hl 4 rfl) ?_
  refine lv_iconst (v := (1 : Int32)) hx hb dX8_tieIn_40 (by decide) ?_
  obtain ⟨j57, e_j57, h⟩ := sx_nm h
  have hj57 : ∀ (M10 : sx_M) (H : Heap) (locs : List Loc) (ls : Array Slot), lv_has ls 5 [] → sx_W C M10 H → va_S (sx_A C) s.heap H locs → j57 M10 = some M' → W p l e R s m args below meth c H locs 0 0 (sx_Z C none M' below args s) (F0 m 57 ls []) := by
    intro M10 H locs ls hl hP hS h
    subst e_j57
    exact sx_vret X hr hlocks hS hP h dX8_tieIn_57
  clear e_j57
  refine lv_icmp_ne (tgt := 57) hx hb dX8_tieIn_41 (by decide) (fun c11 => ?_) (fun c11 => ?_)
  · replace h := sx_ifn h c11
    exact hj57 M9 H locs ls (lv_sub hl [] rfl) hP hS h
  · replace h := sx_ifp h c11
    refine lv_aload_n hx hb dX8_tieIn_44 rfl (lv_at hl 1 rfl) ?_
    refine lv_iload_n hx hb dX8_tieIn_45 rfl (lv_at hl 2 rfl) ?_
    obtain ⟨v12, e_v12, h⟩ := sx_bnd h
    refine cl_X8_103 X hG hP hz hS hk_r0 e_v12 hl.1 dX8_tieIn_46 hcs ⟨Nat.le_trans (by decide) hR.1, Nat.le_trans (by decide) hR.2⟩ (Nat.le_of_ble_eq_true rfl) (fun H locs hP hS => ?_)
    refine lv_if_eq (tgt := 57) hx hb dX8_tieIn_49 (by decide) (fun c13 => ?_) (fun c13 => ?_)
    · replace h := sx_ifp h c13
      exact hj57 M9 H locs ls (lv_sub hl [] rfl) hP hS h
    · replace h := sx_ifn h c13
      refine lv_aload_n hx hb dX8_tieIn_52 rfl (lv_at hl 1 rfl) ?_
      refine lv_iload_n hx hb dX8_tieIn_53 rfl (lv_at hl 3 rfl) ?_
      obtain ⟨M14, e_M14, h⟩ := sx_bnd h
      refine cl_X8_85 X hG hP hz hS hk_r0 e_M14 hl.1 dX8_tieIn_54 hcs ⟨Nat.le_trans (by decide) hR.1, Nat.le_trans (by decide) hR.2⟩ (Nat.le_of_ble_eq_true rfl) (fun H locs hP hS => ?_)
      exact hj57 M14 H locs ls (lv_sub hl [] rfl) hP hS h
set_option maxRecDepth 100000 in
theorem ct_8_tieIn (l : Launch) (C : sx_C) (hG : sx_G C) (r0 : Nat) (a1 : Int32) (a2 : Int32) (a3 : Int32) (hk_r0 : sx_row r0) (M0 : sx_M) (M' : sx_M) (h : f8_tieIn r0 a1 a2 a3 M0 = some M') : Met l yX8_tieIn (.code yX8_tieIn cX8_tieIn 5 none :: sx_T) ({ frames := 2, cells := 0, slots := 0, locals := 42 } : Room) (sx_Pc C M0 [.ref (sx_ad C r0 0), .int a1, .int a2, .int a3]) (sx_Q C none M') 0 0 (sx_A C) := by
  refine Met.ofW (cc := cX8_tieIn) (maxL := 5) (ret := none) (by decide) rfl ?_
  intro p e s m args below meth c s₁ B hml hv
  obtain ⟨rfl, hz, hP, hK⟩ := hv
  have hl := lv_entry ([.ref (sx_ad C r0 0), .int a1, .int a2, .int a3]) (n := 5) (Nat.le_of_ble_eq_true rfl)
  rw [lg_entry_eq]
  generalize (lg_sl ([.ref (sx_ad C r0 0), .int a1, .int a2, .int a3]) ++ List.replicate (5 - (lg_sl ([.ref (sx_ad C r0 0), .int a1, .int a2, .int a3])).length) Slot.unset).toArray = ls at hl ⊢
  exact wk_8_tieIn ⟨B.exec, B.bytes, hml, findClass_of_methodNamed B.named, fun w hw => atoms_spec B.pre w (List.mem_cons_of_mem _ hw), hK⟩ B.returns B.notSynchronized hG hz ⟨Nat.zero_le _, Nat.zero_le _⟩ ⟨Nat.le_refl _, Nat.le_refl _⟩ r0 a1 a2 a3 hk_r0 M0 M' h hl hP va_S.rf
theorem cl_X8_154 (X : sx_X C p m c cc nL s args RX8) (hG : sx_G C) (hP : sx_W C M0 H) (hz : sx_sz C ≤ H0.size) (hS : va_S (sx_A C) H0 H locs) {r0 : Nat} {a1 : Int32} {a2 : Int32} {a3 : Int32} (hk_r0 : sx_row r0) {M' : sx_M} (h : f8_tieIn r0 a1 a2 a3 M0 = some M') (hsz : ls.size = nL) (hdg : decode cc pc = .ok (.invokestatic 154, 3)) (hcs : cells ≤ R.cells ∧ slots ≤ R.slots) (hR : 2 + 1 ≤ R.frames ∧ 8 + (5 + 11) + 42 ≤ R.locals) (hrest : (rest.map fun v => v.category).sum ≤ 8) (kk : ∀ (H1 : Heap) (locs1 : List Loc), sx_W C M' H1 → va_S (sx_A C) H0 H1 locs1 → W p l e R s m args below meth c H1 locs1 cells slots Q (F0 m (pc + 3) ls (rest))) : W p l e R s m args below meth c H locs cells slots Q (F0 m pc ls (.int a3 :: .int a2 :: .int a1 :: .ref (sx_ad C r0 0) :: rest)) :=
  sx_callS (n := 4) (As := [.ref (sx_ad C r0 0), .int a1, .int a2, .int a3]) X hP hz hS (sx_goodS tw_1115 tw_1116 tw_71 tw_1117) (by decide +kernel) rfl rfl hR (ct_8_tieIn l C hG r0 a1 a2 a3 hk_r0 M0 M' h) rfl rfl hrest hsz hdg hcs kk
-- StringShedModel.mendIn([II)V
def f8_mendIn (r0 : Nat) (a1 : Int32) (M0 : sx_M) : Option (sx_M) :=
  (f8_cordAt a1 (2 : Int32) M0).bind fun v1 =>
  if sx_in v1 (sx_len r0) then
  sx_bd (sx_set M0 r0 0 (v1).toNatClampNeg (1 : Int32)) fun M2 =>
  (f8_cordAt a1 (0 : Int32) M2).bind fun v3 =>
  if sx_in v3 (sx_len r0) then
  sx_bd (M2.1 r0 0 (v3).toNatClampNeg) fun v4 =>
  (f8_colors r0 v4 M2).bind fun v5 =>
  sx_bd (fun (M6 : sx_M) =>
    some M6) fun j33 =>
  if v5 = 0 then
    j33 M2
  else
    (f8_cordAt a1 (1 : Int32) M2).bind fun v8 =>
    if sx_in v8 (sx_len r0) then
    sx_bd (M2.1 r0 0 (v8).toNatClampNeg) fun v9 =>
    (f8_redden r0 v9 M2).bind fun M10 =>
    j33 M10
    else none
  else none
  else none
set_option maxRecDepth 100000 in
set_option maxHeartbeats 4000000 in
theorem wk_8_mendIn (X : sx_X C p m c cX8_mendIn 2 s args RX8) (hr : meth.sig.returnType = none) (hlocks : meth.locks = false) (hG : sx_G C) (hz : sx_sz C ≤ s.heap.size) (hcs : 0 ≤ R.cells ∧ 0 ≤ R.slots) (hR : 2 ≤ R.frames ∧ 42 ≤ R.locals) (r0 : Nat) (a1 : Int32) (hk_r0 : sx_row r0) (M0 : sx_M) (M' : sx_M) (h : f8_mendIn r0 a1 M0 = some M') (hl : lv_has ls 2 [(0, .ref (sx_ad C r0 0)), (1, .int a1)]) (hP : sx_W C M0 H) (hS : va_S (sx_A C) s.heap H locs) : W p l e R s m args below meth c H locs 0 0 (sx_Z C none M' below args s) (F0 m 0 ls []) := by
  obtain ⟨hx, hb, hml, hown, hts, hK⟩ := id X
  rw [f8_mendIn] at h
  refine lv_aload_n hx hb dX8_mendIn_0 rfl (lv_at hl 0 rfl) ?_
  refine lv_iload_n hx hb dX8_mendIn_1 rfl (lv_at hl 1 rfl) ?_
  refine lv_iconst (v := (2 : Int32)) hx hb dX8_mendIn_2 (by decide) ?_
  obtain ⟨v1, e_v1, h⟩ := sx_bnd h
  refine cl_X8_78 X hG hP hz hS  e_v1 hl.1 dX8_mendIn_3 hcs ⟨Nat.le_trans (by decide) hR.1, Nat.le_trans (by decide) hR.2⟩ (Nat.le_of_ble_eq_true rfl) (fun H locs hP hS => ?_)
  refine lv_iconst (v := (1 : Int32)) hx hb dX8_mendIn_6 (by decide) ?_
  refine sx_iast X hG hP hS r0 0 (sx_len r0) (sx_row_cnt hk_r0) (fun _ _ => sx_row_E hk_r0) dX8_mendIn_7 h (fun M2 H locs h hP hS => ?_)
  refine lv_aload_n hx hb dX8_mendIn_8 rfl (lv_at hl 0 rfl) ?_
  refine lv_aload_n hx hb dX8_mendIn_9 rfl (lv_at hl 0 rfl) ?_
  refine lv_iload_n hx hb dX8_mendIn_10 rfl (lv_at hl 1 rfl) ?_
  refine lv_iconst (v := (0 : Int32)) hx hb dX8_mendIn_11 (by decide) ?_
  obtain ⟨v3, e_v3, h⟩ := sx_bnd h
  refine cl_X8_78 X hG hP hz hS  e_v3 hl.1 dX8_mendIn_12 hcs ⟨Nat.le_trans (by decide) hR.1, Nat.le_trans (by decide) hR.2⟩ (Nat.le_of_ble_eq_true rfl) (fun H locs hP hS => ?_)
  refine sx_iald X hP r0 0 (sx_len r0) (sx_row_cnt hk_r0) (fun _ _ => sx_row_E hk_r0) dX8_mendIn_15 h (fun v4 h => ?_)
  obtain ⟨v5, e_v5, h⟩ := sx_bnd h
  refine cl_X8_103 X hG hP hz hS hk_r0 e_v5 hl.1 dX8_mendIn_16 hcs ⟨Nat.le_trans (by decide) hR.1, Nat.le_trans (by decide) hR.2⟩ (Nat.le_of_ble_eq_true rfl) (fun H locs hP hS => ?_)
  obtain ⟨j33, e_j33, h⟩ := sx_nm h
  have hj33 : ∀ (M6 : sx_M) (H : Heap) (locs : List Loc) (ls : Array Slot), lv_has ls 2 [] → sx_W C M6 H → va_S (sx_A C) s.heap H locs → j33 M6 = some M' → W p l e R s m args below meth c H locs 0 0 (sx_Z C none M' below args s) (F0 m 33 ls []) := by
    intro M6 H locs ls hl hP hS h
    subst e_j33
    exact sx_vret X hr hlocks hS hP h dX8_mendIn_33
  clear e_j33
  refine lv_if_eq (tgt := 33) hx hb dX8_mendIn_19 (by decide) (fun c7 => ?_) (fun c7 => ?_)
  · replace h := sx_ifp h c7
    exact hj33 M2 H locs ls (lv_sub hl [] rfl) hP hS h
  · replace h := sx_ifn h c7
    refine lv_aload_n hx hb dX8_mendIn_22 rfl (lv_at hl 0 rfl) ?_
    refine lv_aload_n hx hb dX8_mendIn_23 rfl (lv_at hl 0 rfl) ?_
    refine lv_iload_n hx hb dX8_mendIn_24 rfl (lv_at hl 1 rfl) ?_
    refine lv_iconst (v := (1 : Int32)) hx hb dX8_mendIn_25 (by decide) ?_
    obtain ⟨v8, e_v8, h⟩ := sx_bnd h
    refine cl_X8_78 X hG hP hz hS  e_v8 hl.1 dX8_mendIn_26 hcs ⟨Nat.le_trans (by decide) hR.1, Nat.le_trans (by decide) hR.2⟩ (Nat.le_of_ble_eq_true rfl) (fun H locs hP hS => ?_)
    refine sx_iald X hP r0 0 (sx_len r0) (sx_row_cnt hk_r0) (fun _ _ => sx_row_E hk_r0) dX8_mendIn_29 h (fun v9 h => ?_)
    obtain ⟨M10, e_M10, h⟩ := sx_bnd h
    refine cl_X8_85 X hG hP hz hS hk_r0 e_M10 hl.1 dX8_mendIn_30 hcs ⟨Nat.le_trans (by decide) hR.1, Nat.le_trans (by decide) hR.2⟩ (Nat.le_of_ble_eq_true rfl) (fun H locs hP hS => ?_)
    exact hj33 M10 H locs ls (lv_sub hl [] rfl) hP hS h
set_option maxRecDepth 100000 in
theorem ct_8_mendIn (l : Launch) (C : sx_C) (hG : sx_G C) (r0 : Nat) (a1 : Int32) (hk_r0 : sx_row r0) (M0 : sx_M) (M' : sx_M) (h : f8_mendIn r0 a1 M0 = some M') : Met l yX8_mendIn (.code yX8_mendIn cX8_mendIn 2 none :: sx_T) ({ frames := 2, cells := 0, slots := 0, locals := 42 } : Room) (sx_Pc C M0 [.ref (sx_ad C r0 0), .int a1]) (sx_Q C none M') 0 0 (sx_A C) := by
  refine Met.ofW (cc := cX8_mendIn) (maxL := 2) (ret := none) (by decide) rfl ?_
  intro p e s m args below meth c s₁ B hml hv
  obtain ⟨rfl, hz, hP, hK⟩ := hv
  have hl := lv_entry ([.ref (sx_ad C r0 0), .int a1]) (n := 2) (Nat.le_of_ble_eq_true rfl)
  rw [lg_entry_eq]
  generalize (lg_sl ([.ref (sx_ad C r0 0), .int a1]) ++ List.replicate (2 - (lg_sl ([.ref (sx_ad C r0 0), .int a1])).length) Slot.unset).toArray = ls at hl ⊢
  exact wk_8_mendIn ⟨B.exec, B.bytes, hml, findClass_of_methodNamed B.named, fun w hw => atoms_spec B.pre w (List.mem_cons_of_mem _ hw), hK⟩ B.returns B.notSynchronized hG hz ⟨Nat.zero_le _, Nat.zero_le _⟩ ⟨Nat.le_refl _, Nat.le_refl _⟩ r0 a1 hk_r0 M0 M' h hl hP va_S.rf
theorem cl_X8_158 (X : sx_X C p m c cc nL s args RX8) (hG : sx_G C) (hP : sx_W C M0 H) (hz : sx_sz C ≤ H0.size) (hS : va_S (sx_A C) H0 H locs) {r0 : Nat} {a1 : Int32} (hk_r0 : sx_row r0) {M' : sx_M} (h : f8_mendIn r0 a1 M0 = some M') (hsz : ls.size = nL) (hdg : decode cc pc = .ok (.invokestatic 158, 3)) (hcs : cells ≤ R.cells ∧ slots ≤ R.slots) (hR : 2 + 1 ≤ R.frames ∧ 8 + (2 + 11) + 42 ≤ R.locals) (hrest : (rest.map fun v => v.category).sum ≤ 8) (kk : ∀ (H1 : Heap) (locs1 : List Loc), sx_W C M' H1 → va_S (sx_A C) H0 H1 locs1 → W p l e R s m args below meth c H1 locs1 cells slots Q (F0 m (pc + 3) ls (rest))) : W p l e R s m args below meth c H locs cells slots Q (F0 m pc ls (.int a1 :: .ref (sx_ad C r0 0) :: rest)) :=
  sx_callS (n := 2) (As := [.ref (sx_ad C r0 0), .int a1]) X hP hz hS (sx_goodS tw_1130 tw_1131 tw_71 tw_1132) (by decide +kernel) rfl rfl hR (ct_8_mendIn l C hG r0 a1 hk_r0 M0 M' h) rfl rfl hrest hsz hdg hcs kk
-- StringShedModel.pinIn([IIZ)V
def f8_pinIn (r0 : Nat) (a1 : Int32) (a2 : Int32) (M0 : sx_M) : Option (sx_M) :=
  (f8_partAt a1 (2 : Int32) M0).bind fun v1 =>
  sx_bd (fun (v2 : Int32) =>
    if sx_in v1 (sx_len r0) then
    sx_bd (sx_set M0 r0 0 (v1).toNatClampNeg v2) fun M3 =>
    sx_bd (fun (M4 : sx_M) =>
      some M4) fun j25 =>
    if a2 = 0 then
      j25 M3
    else
      (f8_redden r0 a1 M3).bind fun M6 =>
      j25 M6
    else none) fun j15 =>
  if a2 = 0 then
    j15 (0 : Int32)
  else
    j15 (1 : Int32)
set_option maxRecDepth 100000 in
set_option maxHeartbeats 4000000 in
theorem wk_8_pinIn (X : sx_X C p m c cX8_pinIn 3 s args RX8) (hr : meth.sig.returnType = none) (hlocks : meth.locks = false) (hG : sx_G C) (hz : sx_sz C ≤ s.heap.size) (hcs : 0 ≤ R.cells ∧ 0 ≤ R.slots) (hR : 2 ≤ R.frames ∧ 42 ≤ R.locals) (r0 : Nat) (a1 : Int32) (a2 : Int32) (hk_r0 : sx_row r0) (M0 : sx_M) (M' : sx_M) (h : f8_pinIn r0 a1 a2 M0 = some M') (hl : lv_has ls 3 [(0, .ref (sx_ad C r0 0)), (1, .int a1), (2, .int a2)]) (hP : sx_W C M0 H) (hS : va_S (sx_A C) s.heap H locs) : W p l e R s m args below meth c H locs 0 0 (sx_Z C none M' below args s) (F0 m 0 ls []) := by
  obtain ⟨hx, hb, hml, hown, hts, hK⟩ := id X
  rw [f8_pinIn] at h
  refine lv_aload_n hx hb dX8_pinIn_0 rfl (lv_at hl 0 rfl) ?_
  refine lv_iload_n hx hb dX8_pinIn_1 rfl (lv_at hl 1 rfl) ?_
  refine lv_iconst (v := (2 : Int32)) hx hb dX8_pinIn_2 (by decide) ?_
  obtain ⟨v1, e_v1, h⟩ := sx_bnd h
  refine cl_X8_66 X hG hP hz hS  e_v1 hl.1 dX8_pinIn_3 hcs ⟨Nat.le_trans (by decide) hR.1, Nat.le_trans (by decide) hR.2⟩ (Nat.le_of_ble_eq_true rfl) (fun H locs hP hS => ?_)
  refine lv_iload_n hx hb dX8_pinIn_6 rfl (lv_at hl 2 rfl) ?_
  obtain ⟨j15, e_j15, h⟩ := sx_nm h
  have hj15 : ∀ (v2 : Int32) (H : Heap) (locs : List Loc) (ls : Array Slot), lv_has ls 3 [(0, .ref (sx_ad C r0 0)), (1, .int a1), (2, .int a2)] → sx_W C M0 H → va_S (sx_A C) s.heap H locs → j15 v2 = some M' → W p l e R s m args below meth c H locs 0 0 (sx_Z C none M' below args s) (F0 m 15 ls [.int v2, .int v1, .ref (sx_ad C r0 0)]) := by
    intro v2 H locs ls hl hP hS h
    subst e_j15
    refine sx_iast X hG hP hS r0 0 (sx_len r0) (sx_row_cnt hk_r0) (fun _ _ => sx_row_E hk_r0) dX8_pinIn_15 h (fun M3 H locs h hP hS => ?_)
    refine lv_iload_n hx hb dX8_pinIn_16 rfl (lv_at hl 2 rfl) ?_
    obtain ⟨j25, e_j25, h⟩ := sx_nm h
    have hj25 : ∀ (M4 : sx_M) (H : Heap) (locs : List Loc) (ls : Array Slot), lv_has ls 3 [] → sx_W C M4 H → va_S (sx_A C) s.heap H locs → j25 M4 = some M' → W p l e R s m args below meth c H locs 0 0 (sx_Z C none M' below args s) (F0 m 25 ls []) := by
      intro M4 H locs ls hl hP hS h
      subst e_j25
      exact sx_vret X hr hlocks hS hP h dX8_pinIn_25
    clear e_j25
    refine lv_if_eq (tgt := 25) hx hb dX8_pinIn_17 (by decide) (fun c5 => ?_) (fun c5 => ?_)
    · replace h := sx_ifp h c5
      exact hj25 M3 H locs ls (lv_sub hl [] rfl) hP hS h
    · replace h := sx_ifn h c5
      refine lv_aload_n hx hb dX8_pinIn_20 rfl (lv_at hl 0 rfl) ?_
      refine lv_iload_n hx hb dX8_pinIn_21 rfl (lv_at hl 1 rfl) ?_
      obtain ⟨M6, e_M6, h⟩ := sx_bnd h
      refine cl_X8_85 X hG hP hz hS hk_r0 e_M6 hl.1 dX8_pinIn_22 hcs ⟨Nat.le_trans (by decide) hR.1, Nat.le_trans (by decide) hR.2⟩ (Nat.le_of_ble_eq_true rfl) (fun H locs hP hS => ?_)
      exact hj25 M6 H locs ls (lv_sub hl [] rfl) hP hS h
  clear e_j15
  refine lv_if_eq (tgt := 14) hx hb dX8_pinIn_7 (by decide) (fun c7 => ?_) (fun c7 => ?_)
  · replace h := sx_ifp h c7
    refine lv_iconst (v := (0 : Int32)) hx hb dX8_pinIn_14 (by decide) ?_
    exact hj15 (0 : Int32) H locs ls (lv_sub hl [0, 1, 2] rfl) hP hS h
  · replace h := sx_ifn h c7
    refine lv_iconst (v := (1 : Int32)) hx hb dX8_pinIn_10 (by decide) ?_
    refine lv_goto (tgt := 15) hx hb dX8_pinIn_11 (by decide) ?_
    exact hj15 (1 : Int32) H locs ls (lv_sub hl [0, 1, 2] rfl) hP hS h
set_option maxRecDepth 100000 in
theorem ct_8_pinIn (l : Launch) (C : sx_C) (hG : sx_G C) (r0 : Nat) (a1 : Int32) (a2 : Int32) (hk_r0 : sx_row r0) (M0 : sx_M) (M' : sx_M) (h : f8_pinIn r0 a1 a2 M0 = some M') : Met l yX8_pinIn (.code yX8_pinIn cX8_pinIn 3 none :: sx_T) ({ frames := 2, cells := 0, slots := 0, locals := 42 } : Room) (sx_Pc C M0 [.ref (sx_ad C r0 0), .int a1, .int a2]) (sx_Q C none M') 0 0 (sx_A C) := by
  refine Met.ofW (cc := cX8_pinIn) (maxL := 3) (ret := none) (by decide) rfl ?_
  intro p e s m args below meth c s₁ B hml hv
  obtain ⟨rfl, hz, hP, hK⟩ := hv
  have hl := lv_entry ([.ref (sx_ad C r0 0), .int a1, .int a2]) (n := 3) (Nat.le_of_ble_eq_true rfl)
  rw [lg_entry_eq]
  generalize (lg_sl ([.ref (sx_ad C r0 0), .int a1, .int a2]) ++ List.replicate (3 - (lg_sl ([.ref (sx_ad C r0 0), .int a1, .int a2])).length) Slot.unset).toArray = ls at hl ⊢
  exact wk_8_pinIn ⟨B.exec, B.bytes, hml, findClass_of_methodNamed B.named, fun w hw => atoms_spec B.pre w (List.mem_cons_of_mem _ hw), hK⟩ B.returns B.notSynchronized hG hz ⟨Nat.zero_le _, Nat.zero_le _⟩ ⟨Nat.le_refl _, Nat.le_refl _⟩ r0 a1 a2 hk_r0 M0 M' h hl hP va_S.rf
theorem cl_X8_165 (X : sx_X C p m c cc nL s args RX8) (hG : sx_G C) (hP : sx_W C M0 H) (hz : sx_sz C ≤ H0.size) (hS : va_S (sx_A C) H0 H locs) {r0 : Nat} {a1 : Int32} {a2 : Int32} (hk_r0 : sx_row r0) {M' : sx_M} (h : f8_pinIn r0 a1 a2 M0 = some M') (hsz : ls.size = nL) (hdg : decode cc pc = .ok (.invokestatic 165, 3)) (hcs : cells ≤ R.cells ∧ slots ≤ R.slots) (hR : 2 + 1 ≤ R.frames ∧ 8 + (3 + 11) + 42 ≤ R.locals) (hrest : (rest.map fun v => v.category).sum ≤ 8) (kk : ∀ (H1 : Heap) (locs1 : List Loc), sx_W C M' H1 → va_S (sx_A C) H0 H1 locs1 → W p l e R s m args below meth c H1 locs1 cells slots Q (F0 m (pc + 3) ls (rest))) : W p l e R s m args below meth c H locs cells slots Q (F0 m pc ls (.int a2 :: .int a1 :: .ref (sx_ad C r0 0) :: rest)) :=
  sx_callS (n := 3) (As := [.ref (sx_ad C r0 0), .int a1, .int a2]) X hP hz hS (sx_goodS tw_1137 tw_1138 tw_71 tw_1139) (by decide +kernel) rfl rfl hR (ct_8_pinIn l C hG r0 a1 a2 hk_r0 M0 M' h) rfl rfl hrest hsz hdg hcs kk
-- StringShedModel.append(I)I
def f8_append (a1 : Int32) (M0 : sx_M) : Option (Int32 × sx_M) :=
  (f8_in a1.toInt64 (0 : Int64) (255 : Int64) M0).bind fun v1 =>
  sx_bd (fun (v2 : Int32) =>
    sx_b2 (f8_refused v2 M0) fun v3 M4 =>
    if v3 = 0 then
      sx_bd (M4.1 17 0 2) fun v6 =>
      if sx_in v6 120 then
      sx_bd (sx_set M4 18 0 (v6).toNatClampNeg a1) fun M7 =>
      sx_bd (M7.1 17 0 2) fun v8 =>
      sx_bd (sx_set M7 17 0 2 (v8 + (1 : Int32))) fun M9 =>
      sx_bd (M9.1 17 0 2) fun v10 =>
      some (v10, M9)
      else none
    else
      some ((0 : Int32), M4)) fun j31 =>
  if v1 = 0 then
    j31 (1 : Int32)
  else
    sx_bd (M0.1 17 0 2) fun v12 =>
    if v12 = (120 : Int32) then
      j31 (2 : Int32)
    else
      j31 (0 : Int32)
set_option maxRecDepth 100000 in
set_option maxHeartbeats 4000000 in
theorem wk_8_append (X : sx_X C p m c cX8_append 2 s args RX8) (hr : meth.sig.returnType = (some .int)) (hlocks : meth.locks = false) (hG : sx_G C) (hz : sx_sz C ≤ s.heap.size) (hcs : 0 ≤ R.cells ∧ 0 ≤ R.slots) (hR : 1 ≤ R.frames ∧ 25 ≤ R.locals) (a1 : Int32) (M0 : sx_M) (r : Int32) (M' : sx_M) (h : f8_append a1 M0 = some (r, M')) (hl : lv_has ls 2 [(0, .ref (sx_ad C 17 0)), (1, .int a1)]) (hP : sx_W C M0 H) (hS : va_S (sx_A C) s.heap H locs) : W p l e R s m args below meth c H locs 0 0 (sx_Z C (some (.int r)) M' below args s) (F0 m 0 ls []) := by
  obtain ⟨hx, hb, hml, hown, hts, hK⟩ := id X
  rw [f8_append] at h
  refine lv_aload_n hx hb dX8_append_0 rfl (lv_at hl 0 rfl) ?_
  refine lv_iload_n hx hb dX8_append_1 rfl (lv_at hl 1 rfl) ?_
  refine lv_i2l (v := a1.toInt64) hx hb dX8_append_2 rfl ?_
  refine lv_lconst (v := (0 : Int64)) hx hb dX8_append_3 (by decide) ?_
  refine lv_ldc2 (v := (255 : Int64)) hx hb hown (hts _ tw_1034) dX8_append_4 ?_
  obtain ⟨v1, e_v1, h⟩ := sx_bnd h
  refine cl_X8_60 X hG hP hz hS  e_v1 hl.1 dX8_append_7 hcs ⟨Nat.le_trans (by decide) hR.1, Nat.le_trans (by decide) hR.2⟩ (Nat.le_of_ble_eq_true rfl) (fun H locs hP hS => ?_)
  obtain ⟨j31, e_j31, h⟩ := sx_nm h
  have hj31 : ∀ (v2 : Int32) (H : Heap) (locs : List Loc) (ls : Array Slot), lv_has ls 2 [(0, .ref (sx_ad C 17 0)), (1, .int a1)] → sx_W C M0 H → va_S (sx_A C) s.heap H locs → j31 v2 = some (r, M') → W p l e R s m args below meth c H locs 0 0 (sx_Z C (some (.int r)) M' below args s) (F0 m 31 ls [.int v2, .ref (sx_ad C 17 0)]) := by
    intro v2 H locs ls hl hP hS h
    subst e_j31
    obtain ⟨v3, M4, e_v3, h⟩ := sx_bnd2 h
    refine cl_X8_111 X hG hP hz hS  e_v3 hl.1 dX8_append_31 hcs ⟨Nat.le_trans (by decide) hR.1, Nat.le_trans (by decide) hR.2⟩ (Nat.le_of_ble_eq_true rfl) (fun H locs hP hS => ?_)
    refine lv_if_eq (tgt := 39) hx hb dX8_append_34 (by decide) (fun c5 => ?_) (fun c5 => ?_)
    · replace h := sx_ifp h c5
      refine lv_aload_n hx hb dX8_append_39 rfl (lv_at hl 0 rfl) ?_
      refine gf_X8_7 X hP (by decide) dX8_append_40 ?_
      refine lv_aload_n hx hb dX8_append_43 rfl (lv_at hl 0 rfl) ?_
      refine gf_X8_108 X hP (by decide) dX8_append_44 h (fun v6 h => ?_)
      refine lv_iload_n hx hb dX8_append_47 rfl (lv_at hl 1 rfl) ?_
      refine sx_iast X hG hP hS 18 0 120 (by decide) (fun _ _ => rfl) dX8_append_48 h (fun M7 H locs h hP hS => ?_)
      refine lv_aload_n hx hb dX8_append_49 rfl (lv_at hl 0 rfl) ?_
      refine lv_dup hx hb dX8_append_50 rfl ?_
      refine gf_X8_108 X hP (by decide) dX8_append_51 h (fun v8 h => ?_)
      refine lv_iconst (v := (1 : Int32)) hx hb dX8_append_54 (by decide) ?_
      refine lv_iadd hx hb dX8_append_55 ?_
      refine pf_X8_108 X hG hP hS (by decide) dX8_append_56 h (fun M9 H locs h hP hS => ?_)
      refine lv_aload_n hx hb dX8_append_59 rfl (lv_at hl 0 rfl) ?_
      refine gf_X8_108 X hP (by decide) dX8_append_60 h (fun v10 h => ?_)
      exact sx_iretM X hr hlocks hS hP h dX8_append_63
    · replace h := sx_ifn h c5
      refine lv_iconst (v := (0 : Int32)) hx hb dX8_append_37 (by decide) ?_
      exact sx_iretM X hr hlocks hS hP h dX8_append_38
  clear e_j31
  refine lv_if_ne (tgt := 17) hx hb dX8_append_10 (by decide) (fun c11 => ?_) (fun c11 => ?_)
  · replace h := sx_ifn h c11
    refine lv_aload_n hx hb dX8_append_17 rfl (lv_at hl 0 rfl) ?_
    refine gf_X8_108 X hP (by decide) dX8_append_18 h (fun v12 h => ?_)
    refine lv_bipush (v := (120 : Int32)) hx hb dX8_append_21 (by decide) ?_
    refine lv_icmp_ne (tgt := 30) hx hb dX8_append_23 (by decide) (fun c13 => ?_) (fun c13 => ?_)
    · replace h := sx_ifn h c13
      refine lv_iconst (v := (0 : Int32)) hx hb dX8_append_30 (by decide) ?_
      exact hj31 (0 : Int32) H locs ls (lv_sub hl [0, 1] rfl) hP hS h
    · replace h := sx_ifp h c13
      refine lv_iconst (v := (2 : Int32)) hx hb dX8_append_26 (by decide) ?_
      refine lv_goto (tgt := 31) hx hb dX8_append_27 (by decide) ?_
      exact hj31 (2 : Int32) H locs ls (lv_sub hl [0, 1] rfl) hP hS h
  · replace h := sx_ifp h c11
    refine lv_iconst (v := (1 : Int32)) hx hb dX8_append_13 (by decide) ?_
    refine lv_goto (tgt := 31) hx hb dX8_append_14 (by decide) ?_
    exact hj31 (1 : Int32) H locs ls (lv_sub hl [0, 1] rfl) hP hS h
set_option maxRecDepth 100000 in
theorem ct_8_append (l : Launch) (C : sx_C) (hG : sx_G C) (a1 : Int32) (M0 : sx_M) (r : Int32) (M' : sx_M) (h : f8_append a1 M0 = some (r, M')) : Met l yX8_append (.code yX8_append cX8_append 2 (some .int) :: sx_T) ({ frames := 1, cells := 0, slots := 0, locals := 25 } : Room) (sx_Pc C M0 [.ref (sx_ad C 17 0), .int a1]) (sx_Q C (some (.int r)) M') 0 0 (sx_A C) := by
  refine Met.ofW (cc := cX8_append) (maxL := 2) (ret := (some .int)) (by decide) rfl ?_
  intro p e s m args below meth c s₁ B hml hv
  obtain ⟨rfl, hz, hP, hK⟩ := hv
  have hl := lv_entry ([.ref (sx_ad C 17 0), .int a1]) (n := 2) (Nat.le_of_ble_eq_true rfl)
  rw [lg_entry_eq]
  generalize (lg_sl ([.ref (sx_ad C 17 0), .int a1]) ++ List.replicate (2 - (lg_sl ([.ref (sx_ad C 17 0), .int a1])).length) Slot.unset).toArray = ls at hl ⊢
  exact wk_8_append ⟨B.exec, B.bytes, hml, findClass_of_methodNamed B.named, fun w hw => atoms_spec B.pre w (List.mem_cons_of_mem _ hw), hK⟩ B.returns B.notSynchronized hG hz ⟨Nat.zero_le _, Nat.zero_le _⟩ ⟨Nat.le_refl _, Nat.le_refl _⟩ a1 M0 r M' h hl hP va_S.rf
theorem cl_L_97 (X : sx_X C p m c cc nL s args RL) (hG : sx_G C) (hP : sx_W C M0 H) (hz : sx_sz C ≤ H0.size) (hS : va_S (sx_A C) H0 H locs) {a1 : Int32} {r : Int32} {M' : sx_M} (h : f8_append a1 M0 = some (r, M')) (hsz : ls.size = nL) (hdg : decode cc pc = .ok (.invokevirtual 97, 3)) (hcs : cells ≤ R.cells ∧ slots ≤ R.slots) (hR : 1 + 1 ≤ R.frames ∧ 8 + (2 + 11) + 25 ≤ R.locals) (hrest : (rest.map fun v => v.category).sum ≤ 8) (kk : ∀ (H1 : Heap) (locs1 : List Loc), sx_W C M' H1 → va_S (sx_A C) H0 H1 locs1 → W p l e R s m args below meth c H1 locs1 cells slots Q (F0 m (pc + 3) ls ((.int r) :: rest))) : W p l e R s m args below meth c H locs cells slots Q (F0 m pc ls (.int a1 :: .ref (sx_ad C 17 0) :: rest)) :=
  sx_callV (n := 1) (As := [.int a1]) (k0 := 17) (s0 := 0) X hP hz hS (by decide) rfl rfl (sx_goodV tw_1030 tw_1031 tw_1032 tw_71 tw_1033) (by decide +kernel) rfl rfl hR (ct_8_append l C hG a1 M0 r M' h) rfl rfl hrest hsz hdg hcs kk
-- StringShedModel.clearText()I
def f8_clearText  (M0 : sx_M) : Option (Int32 × sx_M) :=
  sx_bd (sx_set M0 17 0 0 (0 : Int32)) fun M1 =>
  sx_bd (M1.1 17 0 2) fun v2 =>
  sx_bd (sx_set M1 17 0 2 (0 : Int32)) fun M3 =>
  some (v2, M3)
set_option maxRecDepth 100000 in
set_option maxHeartbeats 4000000 in
theorem wk_8_clearText (X : sx_X C p m c cX8_clearText 2 s args RX8) (hr : meth.sig.returnType = (some .int)) (hlocks : meth.locks = false) (hG : sx_G C) (hz : sx_sz C ≤ s.heap.size) (hcs : 0 ≤ R.cells ∧ 0 ≤ R.slots) (hR : 0 ≤ R.frames ∧ 0 ≤ R.locals) (M0 : sx_M) (r : Int32) (M' : sx_M) (h : f8_clearText M0 = some (r, M')) (hl : lv_has ls 2 [(0, .ref (sx_ad C 17 0))]) (hP : sx_W C M0 H) (hS : va_S (sx_A C) s.heap H locs) : W p l e R s m args below meth c H locs 0 0 (sx_Z C (some (.int r)) M' below args s) (F0 m 0 ls []) := by
  obtain ⟨hx, hb, hml, hown, hts, hK⟩ := id X
  rw [f8_clearText] at h
  refine lv_aload_n hx hb dX8_clearText_0 rfl (lv_at hl 0 rfl) ?_
  refine lv_iconst (v := (0 : Int32)) hx hb dX8_clearText_1 (by decide) ?_
  refine pf_X8_47 X hG hP hS (by decide) dX8_clearText_2 h (fun M1 H locs h hP hS => ?_)
  refine lv_aload_n hx hb dX8_clearText_5 rfl (lv_at hl 0 rfl) ?_
  refine gf_X8_108 X hP (by decide) dX8_clearText_6 h (fun v2 h => ?_)
  refine lv_istore_n (lv' := [(1, .int v2), (0, .ref (sx_ad C 17 0))]) hx hb dX8_clearText_9 rfl hl (by decide) rfl (fun ls hl => ?_)
  refine lv_aload_n hx hb dX8_clearText_10 rfl (lv_at hl 1 rfl) ?_
  refine lv_iconst (v := (0 : Int32)) hx hb dX8_clearText_11 (by decide) ?_
  refine pf_X8_108 X hG hP hS (by decide) dX8_clearText_12 h (fun M3 H locs h hP hS => ?_)
  refine lv_iload_n hx hb dX8_clearText_15 rfl (lv_at hl 0 rfl) ?_
  exact sx_iretM X hr hlocks hS hP h dX8_clearText_16
set_option maxRecDepth 100000 in
theorem ct_8_clearText (l : Launch) (C : sx_C) (hG : sx_G C) (M0 : sx_M) (r : Int32) (M' : sx_M) (h : f8_clearText M0 = some (r, M')) : Met l yX8_clearText (.code yX8_clearText cX8_clearText 2 (some .int) :: sx_T) ({ frames := 0, cells := 0, slots := 0, locals := 0 } : Room) (sx_Pc C M0 [.ref (sx_ad C 17 0)]) (sx_Q C (some (.int r)) M') 0 0 (sx_A C) := by
  refine Met.ofW (cc := cX8_clearText) (maxL := 2) (ret := (some .int)) (by decide) rfl ?_
  intro p e s m args below meth c s₁ B hml hv
  obtain ⟨rfl, hz, hP, hK⟩ := hv
  have hl := lv_entry ([.ref (sx_ad C 17 0)]) (n := 2) (Nat.le_of_ble_eq_true rfl)
  rw [lg_entry_eq]
  generalize (lg_sl ([.ref (sx_ad C 17 0)]) ++ List.replicate (2 - (lg_sl ([.ref (sx_ad C 17 0)])).length) Slot.unset).toArray = ls at hl ⊢
  exact wk_8_clearText ⟨B.exec, B.bytes, hml, findClass_of_methodNamed B.named, fun w hw => atoms_spec B.pre w (List.mem_cons_of_mem _ hw), hK⟩ B.returns B.notSynchronized hG hz ⟨Nat.zero_le _, Nat.zero_le _⟩ ⟨Nat.le_refl _, Nat.le_refl _⟩ M0 r M' h hl hP va_S.rf
theorem cl_L_104 (X : sx_X C p m c cc nL s args RL) (hG : sx_G C) (hP : sx_W C M0 H) (hz : sx_sz C ≤ H0.size) (hS : va_S (sx_A C) H0 H locs) {r : Int32} {M' : sx_M} (h : f8_clearText M0 = some (r, M')) (hsz : ls.size = nL) (hdg : decode cc pc = .ok (.invokevirtual 104, 3)) (hcs : cells ≤ R.cells ∧ slots ≤ R.slots) (hR : 0 + 1 ≤ R.frames ∧ 8 + (2 + 11) + 0 ≤ R.locals) (hrest : (rest.map fun v => v.category).sum ≤ 8) (kk : ∀ (H1 : Heap) (locs1 : List Loc), sx_W C M' H1 → va_S (sx_A C) H0 H1 locs1 → W p l e R s m args below meth c H1 locs1 cells slots Q (F0 m (pc + 3) ls ((.int r) :: rest))) : W p l e R s m args below meth c H locs cells slots Q (F0 m pc ls (.ref (sx_ad C 17 0) :: rest)) :=
  sx_callV (n := 0) (As := []) (k0 := 17) (s0 := 0) X hP hz hS (by decide) rfl rfl (sx_goodV tw_1042 tw_1043 tw_1044 tw_71 tw_1045) (by decide +kernel) rfl rfl hR (ct_8_clearText l C hG M0 r M' h) rfl rfl hrest hsz hdg hcs kk
-- StringShedModel.isNext(I)Z pure
def f8_isNext (a1 : Int32) (M0 : sx_M) : Option (Int32) :=
  sx_bd (M0.1 17 0 3) fun v1 =>
  sx_bd (M0.1 17 0 2) fun v2 =>
  sx_bd (fun (v3 : Int32) =>
    if v3 = 0 ∨ v3 = 1 then some v3 else none) fun j29 =>
  sx_bd (fun (_ : Unit) =>
    j29 (0 : Int32)) fun j28 =>
  if v2 ≤ v1 then
    j28 ()
  else
    sx_bd (M0.1 17 0 3) fun v5 =>
    if sx_in v5 120 then
    sx_bd (M0.1 18 0 (v5).toNatClampNeg) fun v6 =>
    if v6 = a1 then
      j29 (1 : Int32)
    else
      j28 ()
    else none
set_option maxRecDepth 100000 in
set_option maxHeartbeats 4000000 in
theorem wk_8_isNext (X : sx_X C p m c cX8_isNext 2 s args RX8) (hr : meth.sig.returnType = (some .boolean)) (hlocks : meth.locks = false) (hG : sx_G C) (hz : sx_sz C ≤ s.heap.size) (hcs : 0 ≤ R.cells ∧ 0 ≤ R.slots) (hR : 0 ≤ R.frames ∧ 0 ≤ R.locals) (a1 : Int32) (M0 : sx_M) (r : Int32) (h : f8_isNext a1 M0 = some r) (hl : lv_has ls 2 [(0, .ref (sx_ad C 17 0)), (1, .int a1)]) (hP : sx_W C M0 H) (hS : va_S (sx_A C) s.heap H locs) : W p l e R s m args below meth c H locs 0 0 (sx_Z C (some (.int r)) M0 below args s) (F0 m 0 ls []) := by
  obtain ⟨hx, hb, hml, hown, hts, hK⟩ := id X
  rw [f8_isNext] at h
  refine lv_aload_n hx hb dX8_isNext_0 rfl (lv_at hl 0 rfl) ?_
  refine gf_X8_115 X hP (by decide) dX8_isNext_1 h (fun v1 h => ?_)
  refine lv_aload_n hx hb dX8_isNext_4 rfl (lv_at hl 0 rfl) ?_
  refine gf_X8_108 X hP (by decide) dX8_isNext_5 h (fun v2 h => ?_)
  obtain ⟨j29, e_j29, h⟩ := sx_nm h
  have hj29 : ∀ (v3 : Int32) (H : Heap) (locs : List Loc) (ls : Array Slot), lv_has ls 2 [] → sx_W C M0 H → va_S (sx_A C) s.heap H locs → j29 v3 = some r → W p l e R s m args below meth c H locs 0 0 (sx_Z C (some (.int r)) M0 below args s) (F0 m 29 ls [.int v3]) := by
    intro v3 H locs ls hl hP hS h
    subst e_j29
    obtain ⟨hz01, h⟩ := sx_ck h
    exact sx_zret X hr hlocks hS hP hz01 h dX8_isNext_29
  clear e_j29
  obtain ⟨j28, e_j28, h⟩ := sx_nm h
  have hj28 : ∀ (H : Heap) (locs : List Loc) (ls : Array Slot), lv_has ls 2 [] → sx_W C M0 H → va_S (sx_A C) s.heap H locs → j28 () = some r → W p l e R s m args below meth c H locs 0 0 (sx_Z C (some (.int r)) M0 below args s) (F0 m 28 ls []) := by
    intro  H locs ls hl hP hS h
    subst e_j28
    refine lv_iconst (v := (0 : Int32)) hx hb dX8_isNext_28 (by decide) ?_
    exact hj29 (0 : Int32) H locs ls (lv_sub hl [] rfl) hP hS h
  clear e_j28
  refine lv_icmp_ge (tgt := 28) hx hb dX8_isNext_8 (by decide) (fun c4 => ?_) (fun c4 => ?_)
  · replace h := sx_ifp h c4
    exact hj28 H locs ls (lv_sub hl [] rfl) hP hS h
  · replace h := sx_ifn h c4
    refine lv_aload_n hx hb dX8_isNext_11 rfl (lv_at hl 0 rfl) ?_
    refine gf_X8_7 X hP (by decide) dX8_isNext_12 ?_
    refine lv_aload_n hx hb dX8_isNext_15 rfl (lv_at hl 0 rfl) ?_
    refine gf_X8_115 X hP (by decide) dX8_isNext_16 h (fun v5 h => ?_)
    refine sx_iald X hP 18 0 120 (by decide) (fun _ _ => rfl) dX8_isNext_19 h (fun v6 h => ?_)
    refine lv_iload_n hx hb dX8_isNext_20 rfl (lv_at hl 1 rfl) ?_
    refine lv_icmp_ne (tgt := 28) hx hb dX8_isNext_21 (by decide) (fun c7 => ?_) (fun c7 => ?_)
    · replace h := sx_ifn h c7
      exact hj28 H locs ls (lv_sub hl [] rfl) hP hS h
    · replace h := sx_ifp h c7
      refine lv_iconst (v := (1 : Int32)) hx hb dX8_isNext_24 (by decide) ?_
      refine lv_goto (tgt := 29) hx hb dX8_isNext_25 (by decide) ?_
      exact hj29 (1 : Int32) H locs ls (lv_sub hl [] rfl) hP hS h
set_option maxRecDepth 100000 in
theorem ct_8_isNext (l : Launch) (C : sx_C) (hG : sx_G C) (a1 : Int32) (M0 : sx_M) (r : Int32) (h : f8_isNext a1 M0 = some r) : Met l yX8_isNext (.code yX8_isNext cX8_isNext 2 (some .boolean) :: sx_T) ({ frames := 0, cells := 0, slots := 0, locals := 0 } : Room) (sx_Pc C M0 [.ref (sx_ad C 17 0), .int a1]) (sx_Q C (some (.int r)) M0) 0 0 (sx_A C) := by
  refine Met.ofW (cc := cX8_isNext) (maxL := 2) (ret := (some .boolean)) (by decide) rfl ?_
  intro p e s m args below meth c s₁ B hml hv
  obtain ⟨rfl, hz, hP, hK⟩ := hv
  have hl := lv_entry ([.ref (sx_ad C 17 0), .int a1]) (n := 2) (Nat.le_of_ble_eq_true rfl)
  rw [lg_entry_eq]
  generalize (lg_sl ([.ref (sx_ad C 17 0), .int a1]) ++ List.replicate (2 - (lg_sl ([.ref (sx_ad C 17 0), .int a1])).length) Slot.unset).toArray = ls at hl ⊢
  exact wk_8_isNext ⟨B.exec, B.bytes, hml, findClass_of_methodNamed B.named, fun w hw => atoms_spec B.pre w (List.mem_cons_of_mem _ hw), hK⟩ B.returns B.notSynchronized hG hz ⟨Nat.zero_le _, Nat.zero_le _⟩ ⟨Nat.le_refl _, Nat.le_refl _⟩ a1 M0 r h hl hP va_S.rf
theorem cl_X8_131 (X : sx_X C p m c cc nL s args RX8) (hG : sx_G C) (hP : sx_W C M0 H) (hz : sx_sz C ≤ H0.size) (hS : va_S (sx_A C) H0 H locs) {a1 : Int32} {r : Int32} (h : f8_isNext a1 M0 = some r) (hsz : ls.size = nL) (hdg : decode cc pc = .ok (.invokevirtual 131, 3)) (hcs : cells ≤ R.cells ∧ slots ≤ R.slots) (hR : 0 + 1 ≤ R.frames ∧ 8 + (2 + 11) + 0 ≤ R.locals) (hrest : (rest.map fun v => v.category).sum ≤ 8) (kk : ∀ (H1 : Heap) (locs1 : List Loc), sx_W C M0 H1 → va_S (sx_A C) H0 H1 locs1 → W p l e R s m args below meth c H1 locs1 cells slots Q (F0 m (pc + 3) ls ((.int r) :: rest))) : W p l e R s m args below meth c H locs cells slots Q (F0 m pc ls (.int a1 :: .ref (sx_ad C 17 0) :: rest)) :=
  sx_callV (n := 1) (As := [.int a1]) (k0 := 17) (s0 := 0) X hP hz hS (by decide) rfl rfl (sx_goodV tw_1054 tw_1056 tw_26 tw_71 tw_1057) (by decide +kernel) rfl rfl hR (ct_8_isNext l C hG a1 M0 r h) rfl rfl hrest hsz hdg hcs kk
-- StringShedModel.accept(Z)V
def f8_accept (a1 : Int32) (M0 : sx_M) : Option (sx_M) :=
  sx_bd (M0.1 17 0 4) fun v1 =>
  sx_bd (fun (v2 : Int32) =>
    if v2 = 0 ∨ v2 = 1 then
    sx_bd (sx_set M0 17 0 4 v2) fun M3 =>
    sx_bd (M3.1 17 0 3) fun v4 =>
    sx_bd (M3.1 17 0 4) fun v5 =>
    sx_bd (fun (v6 : Int32) =>
      sx_bd (sx_set M3 17 0 3 (v4 + v6)) fun M7 =>
      some M7) fun j37 =>
    if v5 = 0 then
      j37 (0 : Int32)
    else
      j37 (1 : Int32)
    else none) fun j17 =>
  sx_bd (fun (_ : Unit) =>
    j17 (0 : Int32)) fun j16 =>
  if v1 = 0 then
    j16 ()
  else
    if a1 = 0 then
      j16 ()
    else
      j17 (1 : Int32)
set_option maxRecDepth 100000 in
set_option maxHeartbeats 4000000 in
theorem wk_8_accept (X : sx_X C p m c cX8_accept 2 s args RX8) (hr : meth.sig.returnType = none) (hlocks : meth.locks = false) (hG : sx_G C) (hz : sx_sz C ≤ s.heap.size) (hcs : 0 ≤ R.cells ∧ 0 ≤ R.slots) (hR : 0 ≤ R.frames ∧ 0 ≤ R.locals) (a1 : Int32) (M0 : sx_M) (M' : sx_M) (h : f8_accept a1 M0 = some M') (hl : lv_has ls 2 [(0, .ref (sx_ad C 17 0)), (1, .int a1)]) (hP : sx_W C M0 H) (hS : va_S (sx_A C) s.heap H locs) : W p l e R s m args below meth c H locs 0 0 (sx_Z C none M' below args s) (F0 m 0 ls []) := by
  obtain ⟨hx, hb, hml, hown, hts, hK⟩ := id X
  rw [f8_accept] at h
  refine lv_aload_n hx hb dX8_accept_0 rfl (lv_at hl 0 rfl) ?_
  refine lv_aload_n hx hb dX8_accept_1 rfl (lv_at hl 0 rfl) ?_
  refine gf_X8_118 X hP (by decide) dX8_accept_2 h (fun v1 h => ?_)
  obtain ⟨j17, e_j17, h⟩ := sx_nm h
  have hj17 : ∀ (v2 : Int32) (H : Heap) (locs : List Loc) (ls : Array Slot), lv_has ls 2 [(0, .ref (sx_ad C 17 0))] → sx_W C M0 H → va_S (sx_A C) s.heap H locs → j17 v2 = some M' → W p l e R s m args below meth c H locs 0 0 (sx_Z C none M' below args s) (F0 m 17 ls [.int v2, .ref (sx_ad C 17 0)]) := by
    intro v2 H locs ls hl hP hS h
    subst e_j17
    refine pf_X8_118 X hG hP hS (by decide) dX8_accept_17 h (fun M3 H locs h hP hS => ?_)
    refine lv_aload_n hx hb dX8_accept_20 rfl (lv_at hl 0 rfl) ?_
    refine lv_dup hx hb dX8_accept_21 rfl ?_
    refine gf_X8_115 X hP (by decide) dX8_accept_22 h (fun v4 h => ?_)
    refine lv_aload_n hx hb dX8_accept_25 rfl (lv_at hl 0 rfl) ?_
    refine gf_X8_118 X hP (by decide) dX8_accept_26 h (fun v5 h => ?_)
    obtain ⟨j37, e_j37, h⟩ := sx_nm h
    have hj37 : ∀ (v6 : Int32) (H : Heap) (locs : List Loc) (ls : Array Slot), lv_has ls 2 [] → sx_W C M3 H → va_S (sx_A C) s.heap H locs → j37 v6 = some M' → W p l e R s m args below meth c H locs 0 0 (sx_Z C none M' below args s) (F0 m 37 ls [.int v6, .int v4, .ref (sx_ad C 17 0)]) := by
      intro v6 H locs ls hl hP hS h
      subst e_j37
      refine lv_iadd hx hb dX8_accept_37 ?_
      refine pf_X8_115 X hG hP hS (by decide) dX8_accept_38 h (fun M7 H locs h hP hS => ?_)
      exact sx_vret X hr hlocks hS hP h dX8_accept_41
    clear e_j37
    refine lv_if_eq (tgt := 36) hx hb dX8_accept_29 (by decide) (fun c8 => ?_) (fun c8 => ?_)
    · replace h := sx_ifp h c8
      refine lv_iconst (v := (0 : Int32)) hx hb dX8_accept_36 (by decide) ?_
      exact hj37 (0 : Int32) H locs ls (lv_sub hl [] rfl) hP hS h
    · replace h := sx_ifn h c8
      refine lv_iconst (v := (1 : Int32)) hx hb dX8_accept_32 (by decide) ?_
      refine lv_goto (tgt := 37) hx hb dX8_accept_33 (by decide) ?_
      exact hj37 (1 : Int32) H locs ls (lv_sub hl [] rfl) hP hS h
  clear e_j17
  obtain ⟨j16, e_j16, h⟩ := sx_nm h
  have hj16 : ∀ (H : Heap) (locs : List Loc) (ls : Array Slot), lv_has ls 2 [(0, .ref (sx_ad C 17 0))] → sx_W C M0 H → va_S (sx_A C) s.heap H locs → j16 () = some M' → W p l e R s m args below meth c H locs 0 0 (sx_Z C none M' below args s) (F0 m 16 ls [.ref (sx_ad C 17 0)]) := by
    intro  H locs ls hl hP hS h
    subst e_j16
    refine lv_iconst (v := (0 : Int32)) hx hb dX8_accept_16 (by decide) ?_
    exact hj17 (0 : Int32) H locs ls (lv_sub hl [0] rfl) hP hS h
  clear e_j16
  refine lv_if_eq (tgt := 16) hx hb dX8_accept_5 (by decide) (fun c9 => ?_) (fun c9 => ?_)
  · replace h := sx_ifp h c9
    exact hj16 H locs ls (lv_sub hl [0] rfl) hP hS h
  · replace h := sx_ifn h c9
    refine lv_iload_n hx hb dX8_accept_8 rfl (lv_at hl 1 rfl) ?_
    refine lv_if_eq (tgt := 16) hx hb dX8_accept_9 (by decide) (fun c10 => ?_) (fun c10 => ?_)
    · replace h := sx_ifp h c10
      exact hj16 H locs ls (lv_sub hl [0] rfl) hP hS h
    · replace h := sx_ifn h c10
      refine lv_iconst (v := (1 : Int32)) hx hb dX8_accept_12 (by decide) ?_
      refine lv_goto (tgt := 17) hx hb dX8_accept_13 (by decide) ?_
      exact hj17 (1 : Int32) H locs ls (lv_sub hl [0] rfl) hP hS h
set_option maxRecDepth 100000 in
theorem ct_8_accept (l : Launch) (C : sx_C) (hG : sx_G C) (a1 : Int32) (M0 : sx_M) (M' : sx_M) (h : f8_accept a1 M0 = some M') : Met l yX8_accept (.code yX8_accept cX8_accept 2 none :: sx_T) ({ frames := 0, cells := 0, slots := 0, locals := 0 } : Room) (sx_Pc C M0 [.ref (sx_ad C 17 0), .int a1]) (sx_Q C none M') 0 0 (sx_A C) := by
  refine Met.ofW (cc := cX8_accept) (maxL := 2) (ret := none) (by decide) rfl ?_
  intro p e s m args below meth c s₁ B hml hv
  obtain ⟨rfl, hz, hP, hK⟩ := hv
  have hl := lv_entry ([.ref (sx_ad C 17 0), .int a1]) (n := 2) (Nat.le_of_ble_eq_true rfl)
  rw [lg_entry_eq]
  generalize (lg_sl ([.ref (sx_ad C 17 0), .int a1]) ++ List.replicate (2 - (lg_sl ([.ref (sx_ad C 17 0), .int a1])).length) Slot.unset).toArray = ls at hl ⊢
  exact wk_8_accept ⟨B.exec, B.bytes, hml, findClass_of_methodNamed B.named, fun w hw => atoms_spec B.pre w (List.mem_cons_of_mem _ hw), hK⟩ B.returns B.notSynchronized hG hz ⟨Nat.zero_le _, Nat.zero_le _⟩ ⟨Nat.le_refl _, Nat.le_refl _⟩ a1 M0 M' h hl hP va_S.rf
theorem cl_X8_124 (X : sx_X C p m c cc nL s args RX8) (hG : sx_G C) (hP : sx_W C M0 H) (hz : sx_sz C ≤ H0.size) (hS : va_S (sx_A C) H0 H locs) {a1 : Int32} {M' : sx_M} (h : f8_accept a1 M0 = some M') (hsz : ls.size = nL) (hdg : decode cc pc = .ok (.invokevirtual 124, 3)) (hcs : cells ≤ R.cells ∧ slots ≤ R.slots) (hR : 0 + 1 ≤ R.frames ∧ 8 + (2 + 11) + 0 ≤ R.locals) (hrest : (rest.map fun v => v.category).sum ≤ 8) (kk : ∀ (H1 : Heap) (locs1 : List Loc), sx_W C M' H1 → va_S (sx_A C) H0 H1 locs1 → W p l e R s m args below meth c H1 locs1 cells slots Q (F0 m (pc + 3) ls (rest))) : W p l e R s m args below meth c H locs cells slots Q (F0 m pc ls (.int a1 :: .ref (sx_ad C 17 0) :: rest)) :=
  sx_callV (n := 1) (As := [.int a1]) (k0 := 17) (s0 := 0) X hP hz hS (by decide) rfl rfl (sx_goodV tw_1058 tw_1060 tw_27 tw_71 tw_1061) (by decide +kernel) rfl rfl hR (ct_8_accept l C hG a1 M0 M' h) rfl rfl hrest hsz hdg hcs kk
-- StringShedModel.digit(II)I
def f8_digit (a1 : Int32) (a2 : Int32) (M0 : sx_M) : Option (Int32 × sx_M) :=
  sx_bd (M0.1 17 0 3) fun v1 =>
  sx_bd (M0.1 17 0 2) fun v2 =>
  sx_bd (fun (v3 : Int32) =>
    (f8_in v3.toInt64 (0 : Int64) (9 : Int64) M0).bind fun v4 =>
    sx_bd (fun (v5 : Int32) =>
      (f8_accept v5 M0).bind fun M6 =>
      sx_bd (M6.1 17 0 4) fun v7 =>
      sx_bd (fun (v8 : Int32) =>
        some (v8, M6)) fun j74 =>
      if v7 = 0 then
        j74 a1
      else
        j74 v3) fun j59 =>
    sx_bd (fun (_ : Unit) =>
      j59 (0 : Int32)) fun j58 =>
    if v4 = 0 then
      j58 ()
    else
      (f8_in v3.toInt64 a1.toInt64 a2.toInt64 M0).bind fun v11 =>
      if v11 = 0 then
        j58 ()
      else
        j59 (1 : Int32)) fun j28 =>
  if v2 ≤ v1 then
    j28 (-9 : Int32)
  else
    sx_bd (M0.1 17 0 3) fun v14 =>
    if sx_in v14 120 then
    sx_bd (M0.1 18 0 (v14).toNatClampNeg) fun v15 =>
    j28 (v15 - (48 : Int32))
    else none
set_option maxRecDepth 100000 in
set_option maxHeartbeats 4000000 in
theorem wk_8_digit (X : sx_X C p m c cX8_digit 4 s args RX8) (hr : meth.sig.returnType = (some .int)) (hlocks : meth.locks = false) (hG : sx_G C) (hz : sx_sz C ≤ s.heap.size) (hcs : 0 ≤ R.cells ∧ 0 ≤ R.slots) (hR : 1 ≤ R.frames ∧ 25 ≤ R.locals) (a1 : Int32) (a2 : Int32) (M0 : sx_M) (r : Int32) (M' : sx_M) (h : f8_digit a1 a2 M0 = some (r, M')) (hl : lv_has ls 4 [(0, .ref (sx_ad C 17 0)), (1, .int a1), (2, .int a2)]) (hP : sx_W C M0 H) (hS : va_S (sx_A C) s.heap H locs) : W p l e R s m args below meth c H locs 0 0 (sx_Z C (some (.int r)) M' below args s) (F0 m 0 ls []) := by
  obtain ⟨hx, hb, hml, hown, hts, hK⟩ := id X
  rw [f8_digit] at h
  refine lv_aload_n hx hb dX8_digit_0 rfl (lv_at hl 0 rfl) ?_
  refine gf_X8_115 X hP (by decide) dX8_digit_1 h (fun v1 h => ?_)
  refine lv_aload_n hx hb dX8_digit_4 rfl (lv_at hl 0 rfl) ?_
  refine gf_X8_108 X hP (by decide) dX8_digit_5 h (fun v2 h => ?_)
  obtain ⟨j28, e_j28, h⟩ := sx_nm h
  have hj28 : ∀ (v3 : Int32) (H : Heap) (locs : List Loc) (ls : Array Slot), lv_has ls 4 [(0, .ref (sx_ad C 17 0)), (1, .int a1), (2, .int a2)] → sx_W C M0 H → va_S (sx_A C) s.heap H locs → j28 v3 = some (r, M') → W p l e R s m args below meth c H locs 0 0 (sx_Z C (some (.int r)) M' below args s) (F0 m 28 ls [.int v3]) := by
    intro v3 H locs ls hl hP hS h
    subst e_j28
    refine lv_istore_n (lv' := [(3, .int v3), (0, .ref (sx_ad C 17 0)), (1, .int a1), (2, .int a2)]) hx hb dX8_digit_28 rfl hl (by decide) rfl (fun ls hl => ?_)
    refine lv_aload_n hx hb dX8_digit_29 rfl (lv_at hl 1 rfl) ?_
    refine lv_iload_n hx hb dX8_digit_30 rfl (lv_at hl 0 rfl) ?_
    refine lv_i2l (v := v3.toInt64) hx hb dX8_digit_31 rfl ?_
    refine lv_lconst (v := (0 : Int64)) hx hb dX8_digit_32 (by decide) ?_
    refine lv_ldc2 (v := (9 : Int64)) hx hb hown (hts _ tw_1074) dX8_digit_33 ?_
    obtain ⟨v4, e_v4, h⟩ := sx_bnd h
    refine cl_X8_60 X hG hP hz hS  e_v4 hl.1 dX8_digit_36 hcs ⟨Nat.le_trans (by decide) hR.1, Nat.le_trans (by decide) hR.2⟩ (Nat.le_of_ble_eq_true rfl) (fun H locs hP hS => ?_)
    obtain ⟨j59, e_j59, h⟩ := sx_nm h
    have hj59 : ∀ (v5 : Int32) (H : Heap) (locs : List Loc) (ls : Array Slot), lv_has ls 4 [(0, .ref (sx_ad C 17 0)), (1, .int a1), (3, .int v3)] → sx_W C M0 H → va_S (sx_A C) s.heap H locs → j59 v5 = some (r, M') → W p l e R s m args below meth c H locs 0 0 (sx_Z C (some (.int r)) M' below args s) (F0 m 59 ls [.int v5, .ref (sx_ad C 17 0)]) := by
      intro v5 H locs ls hl hP hS h
      subst e_j59
      obtain ⟨M6, e_M6, h⟩ := sx_bnd h
      refine cl_X8_124 X hG hP hz hS  e_M6 hl.1 dX8_digit_59 hcs ⟨Nat.le_trans (by decide) hR.1, Nat.le_trans (by decide) hR.2⟩ (Nat.le_of_ble_eq_true rfl) (fun H locs hP hS => ?_)
      refine lv_aload_n hx hb dX8_digit_62 rfl (lv_at hl 0 rfl) ?_
      refine gf_X8_118 X hP (by decide) dX8_digit_63 h (fun v7 h => ?_)
      obtain ⟨j74, e_j74, h⟩ := sx_nm h
      have hj74 : ∀ (v8 : Int32) (H : Heap) (locs : List Loc) (ls : Array Slot), lv_has ls 4 [] → sx_W C M6 H → va_S (sx_A C) s.heap H locs → j74 v8 = some (r, M') → W p l e R s m args below meth c H locs 0 0 (sx_Z C (some (.int r)) M' below args s) (F0 m 74 ls [.int v8]) := by
        intro v8 H locs ls hl hP hS h
        subst e_j74
        exact sx_iretM X hr hlocks hS hP h dX8_digit_74
      clear e_j74
      refine lv_if_eq (tgt := 73) hx hb dX8_digit_66 (by decide) (fun c9 => ?_) (fun c9 => ?_)
      · replace h := sx_ifp h c9
        refine lv_iload_n hx hb dX8_digit_73 rfl (lv_at hl 1 rfl) ?_
        exact hj74 a1 H locs ls (lv_sub hl [] rfl) hP hS h
      · replace h := sx_ifn h c9
        refine lv_iload_n hx hb dX8_digit_69 rfl (lv_at hl 2 rfl) ?_
        refine lv_goto (tgt := 74) hx hb dX8_digit_70 (by decide) ?_
        exact hj74 v3 H locs ls (lv_sub hl [] rfl) hP hS h
    clear e_j59
    obtain ⟨j58, e_j58, h⟩ := sx_nm h
    have hj58 : ∀ (H : Heap) (locs : List Loc) (ls : Array Slot), lv_has ls 4 [(0, .ref (sx_ad C 17 0)), (1, .int a1), (3, .int v3)] → sx_W C M0 H → va_S (sx_A C) s.heap H locs → j58 () = some (r, M') → W p l e R s m args below meth c H locs 0 0 (sx_Z C (some (.int r)) M' below args s) (F0 m 58 ls [.ref (sx_ad C 17 0)]) := by
      intro  H locs ls hl hP hS h
      subst e_j58
      refine lv_iconst (v := (0 : Int32)) hx hb dX8_digit_58 (by decide) ?_
      exact hj59 (0 : Int32) H locs ls (lv_sub hl [0, 1, 2] rfl) hP hS h
    clear e_j58
    refine lv_if_eq (tgt := 58) hx hb dX8_digit_39 (by decide) (fun c10 => ?_) (fun c10 => ?_)
    · replace h := sx_ifp h c10
      exact hj58 H locs ls (lv_sub hl [1, 2, 0] rfl) hP hS h
    · replace h := sx_ifn h c10
      refine lv_iload_n hx hb dX8_digit_42 rfl (lv_at hl 0 rfl) ?_
      refine lv_i2l (v := v3.toInt64) hx hb dX8_digit_43 rfl ?_
      refine lv_iload_n hx hb dX8_digit_44 rfl (lv_at hl 2 rfl) ?_
      refine lv_i2l (v := a1.toInt64) hx hb dX8_digit_45 rfl ?_
      refine lv_iload_n hx hb dX8_digit_46 rfl (lv_at hl 3 rfl) ?_
      refine lv_i2l (v := a2.toInt64) hx hb dX8_digit_47 rfl ?_
      obtain ⟨v11, e_v11, h⟩ := sx_bnd h
      refine cl_X8_60 X hG hP hz hS  e_v11 hl.1 dX8_digit_48 hcs ⟨Nat.le_trans (by decide) hR.1, Nat.le_trans (by decide) hR.2⟩ (Nat.le_of_ble_eq_true rfl) (fun H locs hP hS => ?_)
      refine lv_if_eq (tgt := 58) hx hb dX8_digit_51 (by decide) (fun c12 => ?_) (fun c12 => ?_)
      · replace h := sx_ifp h c12
        exact hj58 H locs ls (lv_sub hl [1, 2, 0] rfl) hP hS h
      · replace h := sx_ifn h c12
        refine lv_iconst (v := (1 : Int32)) hx hb dX8_digit_54 (by decide) ?_
        refine lv_goto (tgt := 59) hx hb dX8_digit_55 (by decide) ?_
        exact hj59 (1 : Int32) H locs ls (lv_sub hl [1, 2, 0] rfl) hP hS h
  clear e_j28
  refine lv_icmp_ge (tgt := 26) hx hb dX8_digit_8 (by decide) (fun c13 => ?_) (fun c13 => ?_)
  · replace h := sx_ifp h c13
    refine lv_bipush (v := (-9 : Int32)) hx hb dX8_digit_26 (by decide) ?_
    exact hj28 (-9 : Int32) H locs ls (lv_sub hl [0, 1, 2] rfl) hP hS h
  · replace h := sx_ifn h c13
    refine lv_aload_n hx hb dX8_digit_11 rfl (lv_at hl 0 rfl) ?_
    refine gf_X8_7 X hP (by decide) dX8_digit_12 ?_
    refine lv_aload_n hx hb dX8_digit_15 rfl (lv_at hl 0 rfl) ?_
    refine gf_X8_115 X hP (by decide) dX8_digit_16 h (fun v14 h => ?_)
    refine sx_iald X hP 18 0 120 (by decide) (fun _ _ => rfl) dX8_digit_19 h (fun v15 h => ?_)
    refine lv_bipush (v := (48 : Int32)) hx hb dX8_digit_20 (by decide) ?_
    refine lv_isub hx hb dX8_digit_22 ?_
    refine lv_goto (tgt := 28) hx hb dX8_digit_23 (by decide) ?_
    exact hj28 (v15 - (48 : Int32)) H locs ls (lv_sub hl [0, 1, 2] rfl) hP hS h
set_option maxRecDepth 100000 in
theorem ct_8_digit (l : Launch) (C : sx_C) (hG : sx_G C) (a1 : Int32) (a2 : Int32) (M0 : sx_M) (r : Int32) (M' : sx_M) (h : f8_digit a1 a2 M0 = some (r, M')) : Met l yX8_digit (.code yX8_digit cX8_digit 4 (some .int) :: sx_T) ({ frames := 1, cells := 0, slots := 0, locals := 25 } : Room) (sx_Pc C M0 [.ref (sx_ad C 17 0), .int a1, .int a2]) (sx_Q C (some (.int r)) M') 0 0 (sx_A C) := by
  refine Met.ofW (cc := cX8_digit) (maxL := 4) (ret := (some .int)) (by decide) rfl ?_
  intro p e s m args below meth c s₁ B hml hv
  obtain ⟨rfl, hz, hP, hK⟩ := hv
  have hl := lv_entry ([.ref (sx_ad C 17 0), .int a1, .int a2]) (n := 4) (Nat.le_of_ble_eq_true rfl)
  rw [lg_entry_eq]
  generalize (lg_sl ([.ref (sx_ad C 17 0), .int a1, .int a2]) ++ List.replicate (4 - (lg_sl ([.ref (sx_ad C 17 0), .int a1, .int a2])).length) Slot.unset).toArray = ls at hl ⊢
  exact wk_8_digit ⟨B.exec, B.bytes, hml, findClass_of_methodNamed B.named, fun w hw => atoms_spec B.pre w (List.mem_cons_of_mem _ hw), hK⟩ B.returns B.notSynchronized hG hz ⟨Nat.zero_le _, Nat.zero_le _⟩ ⟨Nat.le_refl _, Nat.le_refl _⟩ a1 a2 M0 r M' h hl hP va_S.rf
theorem cl_X8_128 (X : sx_X C p m c cc nL s args RX8) (hG : sx_G C) (hP : sx_W C M0 H) (hz : sx_sz C ≤ H0.size) (hS : va_S (sx_A C) H0 H locs) {a1 : Int32} {a2 : Int32} {r : Int32} {M' : sx_M} (h : f8_digit a1 a2 M0 = some (r, M')) (hsz : ls.size = nL) (hdg : decode cc pc = .ok (.invokevirtual 128, 3)) (hcs : cells ≤ R.cells ∧ slots ≤ R.slots) (hR : 1 + 1 ≤ R.frames ∧ 8 + (4 + 11) + 25 ≤ R.locals) (hrest : (rest.map fun v => v.category).sum ≤ 8) (kk : ∀ (H1 : Heap) (locs1 : List Loc), sx_W C M' H1 → va_S (sx_A C) H0 H1 locs1 → W p l e R s m args below meth c H1 locs1 cells slots Q (F0 m (pc + 3) ls ((.int r) :: rest))) : W p l e R s m args below meth c H locs cells slots Q (F0 m pc ls (.int a2 :: .int a1 :: .ref (sx_ad C 17 0) :: rest)) :=
  sx_callV (n := 2) (As := [.int a1, .int a2]) (k0 := 17) (s0 := 0) X hP hz hS (by decide) rfl rfl (sx_goodV tw_1070 tw_1072 tw_30 tw_71 tw_1073) (by decide +kernel) rfl rfl hR (ct_8_digit l C hG a1 a2 M0 r M' h) rfl rfl hrest hsz hdg hcs kk
-- StringShedModel.partRead()I
def f8_partRead  (M0 : sx_M) : Option (Int32 × sx_M) :=
  sx_b2 (f8_digit (0 : Int32) (2 : Int32) M0) fun v1 M2 =>
  sx_bd (fun (v3 : Int32) =>
    sx_b2 (f8_digit (0 : Int32) v3 M2) fun v4 M5 =>
    some (((10 : Int32) * v1) + v4, M5)) fun j24 =>
  if v1 = (2 : Int32) then
    j24 (3 : Int32)
  else
    j24 (9 : Int32)
set_option maxRecDepth 100000 in
set_option maxHeartbeats 4000000 in
theorem wk_8_partRead (X : sx_X C p m c cX8_partRead 2 s args RX8) (hr : meth.sig.returnType = (some .int)) (hlocks : meth.locks = false) (hG : sx_G C) (hz : sx_sz C ≤ s.heap.size) (hcs : 0 ≤ R.cells ∧ 0 ≤ R.slots) (hR : 2 ≤ R.frames ∧ 48 ≤ R.locals) (M0 : sx_M) (r : Int32) (M' : sx_M) (h : f8_partRead M0 = some (r, M')) (hl : lv_has ls 2 [(0, .ref (sx_ad C 17 0))]) (hP : sx_W C M0 H) (hS : va_S (sx_A C) s.heap H locs) : W p l e R s m args below meth c H locs 0 0 (sx_Z C (some (.int r)) M' below args s) (F0 m 0 ls []) := by
  obtain ⟨hx, hb, hml, hown, hts, hK⟩ := id X
  rw [f8_partRead] at h
  refine lv_aload_n hx hb dX8_partRead_0 rfl (lv_at hl 0 rfl) ?_
  refine lv_iconst (v := (0 : Int32)) hx hb dX8_partRead_1 (by decide) ?_
  refine lv_iconst (v := (2 : Int32)) hx hb dX8_partRead_2 (by decide) ?_
  obtain ⟨v1, M2, e_v1, h⟩ := sx_bnd2 h
  refine cl_X8_128 X hG hP hz hS  e_v1 hl.1 dX8_partRead_3 hcs ⟨Nat.le_trans (by decide) hR.1, Nat.le_trans (by decide) hR.2⟩ (Nat.le_of_ble_eq_true rfl) (fun H locs hP hS => ?_)
  refine lv_istore_n (lv' := [(1, .int v1), (0, .ref (sx_ad C 17 0))]) hx hb dX8_partRead_6 rfl hl (by decide) rfl (fun ls hl => ?_)
  refine lv_bipush (v := (10 : Int32)) hx hb dX8_partRead_7 (by decide) ?_
  refine lv_iload_n hx hb dX8_partRead_9 rfl (lv_at hl 0 rfl) ?_
  refine lv_imul hx hb dX8_partRead_10 ?_
  refine lv_aload_n hx hb dX8_partRead_11 rfl (lv_at hl 1 rfl) ?_
  refine lv_iconst (v := (0 : Int32)) hx hb dX8_partRead_12 (by decide) ?_
  refine lv_iload_n hx hb dX8_partRead_13 rfl (lv_at hl 0 rfl) ?_
  refine lv_iconst (v := (2 : Int32)) hx hb dX8_partRead_14 (by decide) ?_
  obtain ⟨j24, e_j24, h⟩ := sx_nm h
  have hj24 : ∀ (v3 : Int32) (H : Heap) (locs : List Loc) (ls : Array Slot), lv_has ls 2 [] → sx_W C M2 H → va_S (sx_A C) s.heap H locs → j24 v3 = some (r, M') → W p l e R s m args below meth c H locs 0 0 (sx_Z C (some (.int r)) M' below args s) (F0 m 24 ls [.int v3, .int (0 : Int32), .ref (sx_ad C 17 0), .int ((10 : Int32) * v1)]) := by
    intro v3 H locs ls hl hP hS h
    subst e_j24
    obtain ⟨v4, M5, e_v4, h⟩ := sx_bnd2 h
    refine cl_X8_128 X hG hP hz hS  e_v4 hl.1 dX8_partRead_24 hcs ⟨Nat.le_trans (by decide) hR.1, Nat.le_trans (by decide) hR.2⟩ (Nat.le_of_ble_eq_true rfl) (fun H locs hP hS => ?_)
    refine lv_iadd hx hb dX8_partRead_27 ?_
    exact sx_iretM X hr hlocks hS hP h dX8_partRead_28
  clear e_j24
  refine lv_icmp_ne (tgt := 22) hx hb dX8_partRead_15 (by decide) (fun c6 => ?_) (fun c6 => ?_)
  · replace h := sx_ifn h c6
    refine lv_bipush (v := (9 : Int32)) hx hb dX8_partRead_22 (by decide) ?_
    exact hj24 (9 : Int32) H locs ls (lv_sub hl [] rfl) hP hS h
  · replace h := sx_ifp h c6
    refine lv_iconst (v := (3 : Int32)) hx hb dX8_partRead_18 (by decide) ?_
    refine lv_goto (tgt := 24) hx hb dX8_partRead_19 (by decide) ?_
    exact hj24 (3 : Int32) H locs ls (lv_sub hl [] rfl) hP hS h
set_option maxRecDepth 100000 in
theorem ct_8_partRead (l : Launch) (C : sx_C) (hG : sx_G C) (M0 : sx_M) (r : Int32) (M' : sx_M) (h : f8_partRead M0 = some (r, M')) : Met l yX8_partRead (.code yX8_partRead cX8_partRead 2 (some .int) :: sx_T) ({ frames := 2, cells := 0, slots := 0, locals := 48 } : Room) (sx_Pc C M0 [.ref (sx_ad C 17 0)]) (sx_Q C (some (.int r)) M') 0 0 (sx_A C) := by
  refine Met.ofW (cc := cX8_partRead) (maxL := 2) (ret := (some .int)) (by decide) rfl ?_
  intro p e s m args below meth c s₁ B hml hv
  obtain ⟨rfl, hz, hP, hK⟩ := hv
  have hl := lv_entry ([.ref (sx_ad C 17 0)]) (n := 2) (Nat.le_of_ble_eq_true rfl)
  rw [lg_entry_eq]
  generalize (lg_sl ([.ref (sx_ad C 17 0)]) ++ List.replicate (2 - (lg_sl ([.ref (sx_ad C 17 0)])).length) Slot.unset).toArray = ls at hl ⊢
  exact wk_8_partRead ⟨B.exec, B.bytes, hml, findClass_of_methodNamed B.named, fun w hw => atoms_spec B.pre w (List.mem_cons_of_mem _ hw), hK⟩ B.returns B.notSynchronized hG hz ⟨Nat.zero_le _, Nat.zero_le _⟩ ⟨Nat.le_refl _, Nat.le_refl _⟩ M0 r M' h hl hP va_S.rf
theorem cl_X8_134 (X : sx_X C p m c cc nL s args RX8) (hG : sx_G C) (hP : sx_W C M0 H) (hz : sx_sz C ≤ H0.size) (hS : va_S (sx_A C) H0 H locs) {r : Int32} {M' : sx_M} (h : f8_partRead M0 = some (r, M')) (hsz : ls.size = nL) (hdg : decode cc pc = .ok (.invokevirtual 134, 3)) (hcs : cells ≤ R.cells ∧ slots ≤ R.slots) (hR : 2 + 1 ≤ R.frames ∧ 8 + (2 + 11) + 48 ≤ R.locals) (hrest : (rest.map fun v => v.category).sum ≤ 8) (kk : ∀ (H1 : Heap) (locs1 : List Loc), sx_W C M' H1 → va_S (sx_A C) H0 H1 locs1 → W p l e R s m args below meth c H1 locs1 cells slots Q (F0 m (pc + 3) ls ((.int r) :: rest))) : W p l e R s m args below meth c H locs cells slots Q (F0 m pc ls (.ref (sx_ad C 17 0) :: rest)) :=
  sx_callV (n := 0) (As := []) (k0 := 17) (s0 := 0) X hP hz hS (by decide) rfl rfl (sx_goodV tw_1093 tw_1095 tw_34 tw_71 tw_1096) (by decide +kernel) rfl rfl hR (ct_8_partRead l C hG M0 r M' h) rfl rfl hrest hsz hdg hcs kk
-- StringShedModel.thingRead()I
def f8_thingRead  (M0 : sx_M) : Option (Int32 × sx_M) :=
  (f8_isNext (104 : Int32) M0).bind fun v1 =>
  if v1 = 0 then
    sx_b2 (f8_partRead M0) fun v3 M4 =>
    some (v3, M4)
  else
    (f8_accept (1 : Int32) M0).bind fun M5 =>
    sx_b2 (f8_digit (0 : Int32) (3 : Int32) M5) fun v6 M7 =>
    some ((-1 : Int32) - v6, M7)
set_option maxRecDepth 100000 in
set_option maxHeartbeats 4000000 in
theorem wk_8_thingRead (X : sx_X C p m c cX8_thingRead 1 s args RX8) (hr : meth.sig.returnType = (some .int)) (hlocks : meth.locks = false) (hG : sx_G C) (hz : sx_sz C ≤ s.heap.size) (hcs : 0 ≤ R.cells ∧ 0 ≤ R.slots) (hR : 3 ≤ R.frames ∧ 69 ≤ R.locals) (M0 : sx_M) (r : Int32) (M' : sx_M) (h : f8_thingRead M0 = some (r, M')) (hl : lv_has ls 1 [(0, .ref (sx_ad C 17 0))]) (hP : sx_W C M0 H) (hS : va_S (sx_A C) s.heap H locs) : W p l e R s m args below meth c H locs 0 0 (sx_Z C (some (.int r)) M' below args s) (F0 m 0 ls []) := by
  obtain ⟨hx, hb, hml, hown, hts, hK⟩ := id X
  rw [f8_thingRead] at h
  refine lv_aload_n hx hb dX8_thingRead_0 rfl (lv_at hl 0 rfl) ?_
  refine lv_bipush (v := (104 : Int32)) hx hb dX8_thingRead_1 (by decide) ?_
  obtain ⟨v1, e_v1, h⟩ := sx_bnd h
  refine cl_X8_131 X hG hP hz hS  e_v1 hl.1 dX8_thingRead_3 hcs ⟨Nat.le_trans (by decide) hR.1, Nat.le_trans (by decide) hR.2⟩ (Nat.le_of_ble_eq_true rfl) (fun H locs hP hS => ?_)
  refine lv_if_eq (tgt := 23) hx hb dX8_thingRead_6 (by decide) (fun c2 => ?_) (fun c2 => ?_)
  · replace h := sx_ifp h c2
    refine lv_aload_n hx hb dX8_thingRead_23 rfl (lv_at hl 0 rfl) ?_
    obtain ⟨v3, M4, e_v3, h⟩ := sx_bnd2 h
    refine cl_X8_134 X hG hP hz hS  e_v3 hl.1 dX8_thingRead_24 hcs ⟨Nat.le_trans (by decide) hR.1, Nat.le_trans (by decide) hR.2⟩ (Nat.le_of_ble_eq_true rfl) (fun H locs hP hS => ?_)
    exact sx_iretM X hr hlocks hS hP h dX8_thingRead_27
  · replace h := sx_ifn h c2
    refine lv_aload_n hx hb dX8_thingRead_9 rfl (lv_at hl 0 rfl) ?_
    refine lv_iconst (v := (1 : Int32)) hx hb dX8_thingRead_10 (by decide) ?_
    obtain ⟨M5, e_M5, h⟩ := sx_bnd h
    refine cl_X8_124 X hG hP hz hS  e_M5 hl.1 dX8_thingRead_11 hcs ⟨Nat.le_trans (by decide) hR.1, Nat.le_trans (by decide) hR.2⟩ (Nat.le_of_ble_eq_true rfl) (fun H locs hP hS => ?_)
    refine lv_iconst (v := (-1 : Int32)) hx hb dX8_thingRead_14 (by decide) ?_
    refine lv_aload_n hx hb dX8_thingRead_15 rfl (lv_at hl 0 rfl) ?_
    refine lv_iconst (v := (0 : Int32)) hx hb dX8_thingRead_16 (by decide) ?_
    refine lv_iconst (v := (3 : Int32)) hx hb dX8_thingRead_17 (by decide) ?_
    obtain ⟨v6, M7, e_v6, h⟩ := sx_bnd2 h
    refine cl_X8_128 X hG hP hz hS  e_v6 hl.1 dX8_thingRead_18 hcs ⟨Nat.le_trans (by decide) hR.1, Nat.le_trans (by decide) hR.2⟩ (Nat.le_of_ble_eq_true rfl) (fun H locs hP hS => ?_)
    refine lv_isub hx hb dX8_thingRead_21 ?_
    exact sx_iretM X hr hlocks hS hP h dX8_thingRead_22
set_option maxRecDepth 100000 in
theorem ct_8_thingRead (l : Launch) (C : sx_C) (hG : sx_G C) (M0 : sx_M) (r : Int32) (M' : sx_M) (h : f8_thingRead M0 = some (r, M')) : Met l yX8_thingRead (.code yX8_thingRead cX8_thingRead 1 (some .int) :: sx_T) ({ frames := 3, cells := 0, slots := 0, locals := 69 } : Room) (sx_Pc C M0 [.ref (sx_ad C 17 0)]) (sx_Q C (some (.int r)) M') 0 0 (sx_A C) := by
  refine Met.ofW (cc := cX8_thingRead) (maxL := 1) (ret := (some .int)) (by decide) rfl ?_
  intro p e s m args below meth c s₁ B hml hv
  obtain ⟨rfl, hz, hP, hK⟩ := hv
  have hl := lv_entry ([.ref (sx_ad C 17 0)]) (n := 1) (Nat.le_of_ble_eq_true rfl)
  rw [lg_entry_eq]
  generalize (lg_sl ([.ref (sx_ad C 17 0)]) ++ List.replicate (1 - (lg_sl ([.ref (sx_ad C 17 0)])).length) Slot.unset).toArray = ls at hl ⊢
  exact wk_8_thingRead ⟨B.exec, B.bytes, hml, findClass_of_methodNamed B.named, fun w hw => atoms_spec B.pre w (List.mem_cons_of_mem _ hw), hK⟩ B.returns B.notSynchronized hG hz ⟨Nat.zero_le _, Nat.zero_le _⟩ ⟨Nat.le_refl _, Nat.le_refl _⟩ M0 r M' h hl hP va_S.rf
theorem cl_X8_141 (X : sx_X C p m c cc nL s args RX8) (hG : sx_G C) (hP : sx_W C M0 H) (hz : sx_sz C ≤ H0.size) (hS : va_S (sx_A C) H0 H locs) {r : Int32} {M' : sx_M} (h : f8_thingRead M0 = some (r, M')) (hsz : ls.size = nL) (hdg : decode cc pc = .ok (.invokevirtual 141, 3)) (hcs : cells ≤ R.cells ∧ slots ≤ R.slots) (hR : 3 + 1 ≤ R.frames ∧ 8 + (1 + 11) + 69 ≤ R.locals) (hrest : (rest.map fun v => v.category).sum ≤ 8) (kk : ∀ (H1 : Heap) (locs1 : List Loc), sx_W C M' H1 → va_S (sx_A C) H0 H1 locs1 → W p l e R s m args below meth c H1 locs1 cells slots Q (F0 m (pc + 3) ls ((.int r) :: rest))) : W p l e R s m args below meth c H locs cells slots Q (F0 m pc ls (.ref (sx_ad C 17 0) :: rest)) :=
  sx_callV (n := 0) (As := []) (k0 := 17) (s0 := 0) X hP hz hS (by decide) rfl rfl (sx_goodV tw_1089 tw_1091 tw_33 tw_71 tw_1092) (by decide +kernel) rfl rfl hR (ct_8_thingRead l C hG M0 r M' h) rfl rfl hrest hsz hdg hcs kk
-- StringShedModel.count(Z)V
def f8_count (a1 : Int32) (M0 : sx_M) : Option (sx_M) :=
  sx_bd (M0.1 17 0 5) fun v1 =>
  sx_bd (fun (v2 : Int32) =>
    sx_bd (sx_set M0 17 0 5 (v1 + v2)) fun M3 =>
    some M3) fun j14 =>
  if a1 = 0 then
    j14 (1 : Int32)
  else
    j14 (0 : Int32)
set_option maxRecDepth 100000 in
set_option maxHeartbeats 4000000 in
theorem wk_8_count (X : sx_X C p m c cX8_count 2 s args RX8) (hr : meth.sig.returnType = none) (hlocks : meth.locks = false) (hG : sx_G C) (hz : sx_sz C ≤ s.heap.size) (hcs : 0 ≤ R.cells ∧ 0 ≤ R.slots) (hR : 0 ≤ R.frames ∧ 0 ≤ R.locals) (a1 : Int32) (M0 : sx_M) (M' : sx_M) (h : f8_count a1 M0 = some M') (hl : lv_has ls 2 [(0, .ref (sx_ad C 17 0)), (1, .int a1)]) (hP : sx_W C M0 H) (hS : va_S (sx_A C) s.heap H locs) : W p l e R s m args below meth c H locs 0 0 (sx_Z C none M' below args s) (F0 m 0 ls []) := by
  obtain ⟨hx, hb, hml, hown, hts, hK⟩ := id X
  rw [f8_count] at h
  refine lv_aload_n hx hb dX8_count_0 rfl (lv_at hl 0 rfl) ?_
  refine lv_dup hx hb dX8_count_1 rfl ?_
  refine gf_X8_138 X hP (by decide) dX8_count_2 h (fun v1 h => ?_)
  refine lv_iload_n hx hb dX8_count_5 rfl (lv_at hl 1 rfl) ?_
  obtain ⟨j14, e_j14, h⟩ := sx_nm h
  have hj14 : ∀ (v2 : Int32) (H : Heap) (locs : List Loc) (ls : Array Slot), lv_has ls 2 [] → sx_W C M0 H → va_S (sx_A C) s.heap H locs → j14 v2 = some M' → W p l e R s m args below meth c H locs 0 0 (sx_Z C none M' below args s) (F0 m 14 ls [.int v2, .int v1, .ref (sx_ad C 17 0)]) := by
    intro v2 H locs ls hl hP hS h
    subst e_j14
    refine lv_iadd hx hb dX8_count_14 ?_
    refine pf_X8_138 X hG hP hS (by decide) dX8_count_15 h (fun M3 H locs h hP hS => ?_)
    exact sx_vret X hr hlocks hS hP h dX8_count_18
  clear e_j14
  refine lv_if_eq (tgt := 13) hx hb dX8_count_6 (by decide) (fun c4 => ?_) (fun c4 => ?_)
  · replace h := sx_ifp h c4
    refine lv_iconst (v := (1 : Int32)) hx hb dX8_count_13 (by decide) ?_
    exact hj14 (1 : Int32) H locs ls (lv_sub hl [] rfl) hP hS h
  · replace h := sx_ifn h c4
    refine lv_iconst (v := (0 : Int32)) hx hb dX8_count_9 (by decide) ?_
    refine lv_goto (tgt := 14) hx hb dX8_count_10 (by decide) ?_
    exact hj14 (0 : Int32) H locs ls (lv_sub hl [] rfl) hP hS h
set_option maxRecDepth 100000 in
theorem ct_8_count (l : Launch) (C : sx_C) (hG : sx_G C) (a1 : Int32) (M0 : sx_M) (M' : sx_M) (h : f8_count a1 M0 = some M') : Met l yX8_count (.code yX8_count cX8_count 2 none :: sx_T) ({ frames := 0, cells := 0, slots := 0, locals := 0 } : Room) (sx_Pc C M0 [.ref (sx_ad C 17 0), .int a1]) (sx_Q C none M') 0 0 (sx_A C) := by
  refine Met.ofW (cc := cX8_count) (maxL := 2) (ret := none) (by decide) rfl ?_
  intro p e s m args below meth c s₁ B hml hv
  obtain ⟨rfl, hz, hP, hK⟩ := hv
  have hl := lv_entry ([.ref (sx_ad C 17 0), .int a1]) (n := 2) (Nat.le_of_ble_eq_true rfl)
  rw [lg_entry_eq]
  generalize (lg_sl ([.ref (sx_ad C 17 0), .int a1]) ++ List.replicate (2 - (lg_sl ([.ref (sx_ad C 17 0), .int a1])).length) Slot.unset).toArray = ls at hl ⊢
  exact wk_8_count ⟨B.exec, B.bytes, hml, findClass_of_methodNamed B.named, fun w hw => atoms_spec B.pre w (List.mem_cons_of_mem _ hw), hK⟩ B.returns B.notSynchronized hG hz ⟨Nat.zero_le _, Nat.zero_le _⟩ ⟨Nat.le_refl _, Nat.le_refl _⟩ a1 M0 M' h hl hP va_S.rf
theorem cl_X8_151 (X : sx_X C p m c cc nL s args RX8) (hG : sx_G C) (hP : sx_W C M0 H) (hz : sx_sz C ≤ H0.size) (hS : va_S (sx_A C) H0 H locs) {a1 : Int32} {M' : sx_M} (h : f8_count a1 M0 = some M') (hsz : ls.size = nL) (hdg : decode cc pc = .ok (.invokevirtual 151, 3)) (hcs : cells ≤ R.cells ∧ slots ≤ R.slots) (hR : 0 + 1 ≤ R.frames ∧ 8 + (2 + 11) + 0 ≤ R.locals) (hrest : (rest.map fun v => v.category).sum ≤ 8) (kk : ∀ (H1 : Heap) (locs1 : List Loc), sx_W C M' H1 → va_S (sx_A C) H0 H1 locs1 → W p l e R s m args below meth c H1 locs1 cells slots Q (F0 m (pc + 3) ls (rest))) : W p l e R s m args below meth c H locs cells slots Q (F0 m pc ls (.int a1 :: .ref (sx_ad C 17 0) :: rest)) :=
  sx_callV (n := 1) (As := [.int a1]) (k0 := 17) (s0 := 0) X hP hz hS (by decide) rfl rfl (sx_goodV tw_1075 tw_1077 tw_31 tw_71 tw_1078) (by decide +kernel) rfl rfl hR (ct_8_count l C hG a1 M0 M' h) rfl rfl hrest hsz hdg hcs kk
-- StringShedModel.readString(I)V
def f8_readString (a1 : Int32) (M0 : sx_M) : Option (sx_M) :=
  (f8_accept (1 : Int32) M0).bind fun M1 =>
  sx_b2 (f8_thingRead M1) fun v2 M3 =>
  sx_b2 (f8_partRead M3) fun v4 M5 =>
  sx_bd (M5.1 17 0 4) fun v6 =>
  if v6 = 0 then
    some M5
  else
    (f8_isThing 19 v2 M5).bind fun v8 =>
    sx_bd (fun (v9 : Int32) =>
      sx_bd (fun (v10 : Int32) =>
        sx_bd (fun (v11 : Int32) =>
          (f8_count v11 M5).bind fun M12 =>
          if v11 = 0 then
            some M12
          else
            sx_bd (fun (M14 : sx_M) =>
              some M14) fun j242 =>
            if a1 = (116 : Int32) then
              (f8_tieIn 19 v2 v4 (1 : Int32) M12).bind fun M22 =>
              j242 M22
            else
              if a1 = (120 : Int32) then
                (f8_removeString 19 v10 M12).bind fun M21 =>
                j242 M21
              else
                if a1 = (102 : Int32) then
                  (f8_cordAt v10 (2 : Int32) M12).bind fun v19 =>
                  if sx_in v19 247 then
                  sx_bd (sx_set M12 19 0 (v19).toNatClampNeg (0 : Int32)) fun M20 =>
                  j242 M20
                  else none
                else
                  (f8_mendIn 19 v10 M12).bind fun M18 =>
                  j242 M18) fun j161 =>
        if a1 = (116 : Int32) then
          sx_bd (fun (_ : Unit) =>
            j161 (0 : Int32)) fun j105 =>
          if v9 = 0 then
            j105 ()
          else
            if v2 = v4 then
              j105 ()
            else
              (f8_canTie 19 v2 v4 M5).bind fun v35 =>
              if v35 = 0 then
                j105 ()
              else
                j161 (1 : Int32)
        else
          sx_bd (fun (_ : Unit) =>
            j161 (0 : Int32)) fun j160 =>
          if v10 = (-9 : Int32) then
            j160 ()
          else
            sx_bd (fun (_ : Unit) =>
              j161 (1 : Int32)) fun j156 =>
            if a1 = (120 : Int32) then
              j156 ()
            else
              (f8_cordAt v10 (2 : Int32) M5).bind fun v26 =>
              if sx_in v26 247 then
              sx_bd (M5.1 19 0 (v26).toNatClampNeg) fun v27 =>
              sx_bd (fun (v28 : Int32) =>
                sx_bd (fun (v29 : Int32) =>
                  if v28 = v29 then
                    j156 ()
                  else
                    j160 ()) fun j153 =>
                if a1 = (102 : Int32) then
                  j153 (1 : Int32)
                else
                  j153 (0 : Int32)) fun j142 =>
              if v27 = (1 : Int32) then
                j142 (1 : Int32)
              else
                j142 (0 : Int32)
              else none) fun j71 =>
      if v9 = 0 then
        j71 (-9 : Int32)
      else
        (f8_find 19 v2 v4 M5).bind fun v38 =>
        j71 v38) fun j50 =>
    sx_bd (fun (_ : Unit) =>
      j50 (0 : Int32)) fun j49 =>
    if v8 = 0 then
      j49 ()
    else
      (f8_isPart 19 v4 M5).bind fun v40 =>
      if v40 = 0 then
        j49 ()
      else
        j50 (1 : Int32)
set_option maxRecDepth 100000 in
set_option maxHeartbeats 4000000 in
theorem wk_8_readString (X : sx_X C p m c cX8_readString 7 s args RX8) (hr : meth.sig.returnType = none) (hlocks : meth.locks = false) (hG : sx_G C) (hz : sx_sz C ≤ s.heap.size) (hcs : 0 ≤ R.cells ∧ 0 ≤ R.slots) (hR : 4 ≤ R.frames ∧ 89 ≤ R.locals) (a1 : Int32) (M0 : sx_M) (M' : sx_M) (h : f8_readString a1 M0 = some M') (hl : lv_has ls 7 [(0, .ref (sx_ad C 17 0)), (1, .int a1)]) (hP : sx_W C M0 H) (hS : va_S (sx_A C) s.heap H locs) : W p l e R s m args below meth c H locs 0 0 (sx_Z C none M' below args s) (F0 m 0 ls []) := by
  obtain ⟨hx, hb, hml, hown, hts, hK⟩ := id X
  rw [f8_readString] at h
  refine lv_aload_n hx hb dX8_readString_0 rfl (lv_at hl 0 rfl) ?_
  refine lv_iconst (v := (1 : Int32)) hx hb dX8_readString_1 (by decide) ?_
  obtain ⟨M1, e_M1, h⟩ := sx_bnd h
  refine cl_X8_124 X hG hP hz hS  e_M1 hl.1 dX8_readString_2 hcs ⟨Nat.le_trans (by decide) hR.1, Nat.le_trans (by decide) hR.2⟩ (Nat.le_of_ble_eq_true rfl) (fun H locs hP hS => ?_)
  refine lv_aload_n hx hb dX8_readString_5 rfl (lv_at hl 0 rfl) ?_
  obtain ⟨v2, M3, e_v2, h⟩ := sx_bnd2 h
  refine cl_X8_141 X hG hP hz hS  e_v2 hl.1 dX8_readString_6 hcs ⟨Nat.le_trans (by decide) hR.1, Nat.le_trans (by decide) hR.2⟩ (Nat.le_of_ble_eq_true rfl) (fun H locs hP hS => ?_)
  refine lv_istore_n (lv' := [(2, .int v2), (0, .ref (sx_ad C 17 0)), (1, .int a1)]) hx hb dX8_readString_9 rfl hl (by decide) rfl (fun ls hl => ?_)
  refine lv_aload_n hx hb dX8_readString_10 rfl (lv_at hl 1 rfl) ?_
  obtain ⟨v4, M5, e_v4, h⟩ := sx_bnd2 h
  refine cl_X8_134 X hG hP hz hS  e_v4 hl.1 dX8_readString_11 hcs ⟨Nat.le_trans (by decide) hR.1, Nat.le_trans (by decide) hR.2⟩ (Nat.le_of_ble_eq_true rfl) (fun H locs hP hS => ?_)
  refine lv_istore_n (lv' := [(3, .int v4), (2, .int v2), (0, .ref (sx_ad C 17 0)), (1, .int a1)]) hx hb dX8_readString_14 rfl hl (by decide) rfl (fun ls hl => ?_)
  refine lv_aload_n hx hb dX8_readString_15 rfl (lv_at hl 2 rfl) ?_
  refine gf_X8_118 X hP (by decide) dX8_readString_16 h (fun v6 h => ?_)
  refine lv_if_ne (tgt := 23) hx hb dX8_readString_19 (by decide) (fun c7 => ?_) (fun c7 => ?_)
  · replace h := sx_ifn h c7
    refine lv_aload_n hx hb dX8_readString_23 rfl (lv_at hl 2 rfl) ?_
    refine gf_X8_13 X hP (by decide) dX8_readString_24 ?_
    refine lv_iload_n hx hb dX8_readString_27 rfl (lv_at hl 1 rfl) ?_
    obtain ⟨v8, e_v8, h⟩ := sx_bnd h
    refine cl_X8_144 X hG hP hz hS sx_row19 e_v8 hl.1 dX8_readString_28 hcs ⟨Nat.le_trans (by decide) hR.1, Nat.le_trans (by decide) hR.2⟩ (Nat.le_of_ble_eq_true rfl) (fun H locs hP hS => ?_)
    obtain ⟨j50, e_j50, h⟩ := sx_nm h
    have hj50 : ∀ (v9 : Int32) (H : Heap) (locs : List Loc) (ls : Array Slot), lv_has ls 7 [(0, .ref (sx_ad C 17 0)), (1, .int a1), (2, .int v2), (3, .int v4)] → sx_W C M5 H → va_S (sx_A C) s.heap H locs → j50 v9 = some M' → W p l e R s m args below meth c H locs 0 0 (sx_Z C none M' below args s) (F0 m 50 ls [.int v9]) := by
      intro v9 H locs ls hl hP hS h
      subst e_j50
      refine lv_istore (lv' := [(4, .int v9), (0, .ref (sx_ad C 17 0)), (1, .int a1), (2, .int v2), (3, .int v4)]) hx hb dX8_readString_50 hl (by decide) rfl (fun ls hl => ?_)
      refine lv_iload hx hb dX8_readString_52 (lv_at hl 0 rfl) ?_
      obtain ⟨j71, e_j71, h⟩ := sx_nm h
      have hj71 : ∀ (v10 : Int32) (H : Heap) (locs : List Loc) (ls : Array Slot), lv_has ls 7 [(0, .ref (sx_ad C 17 0)), (1, .int a1), (2, .int v2), (3, .int v4), (4, .int v9)] → sx_W C M5 H → va_S (sx_A C) s.heap H locs → j71 v10 = some M' → W p l e R s m args below meth c H locs 0 0 (sx_Z C none M' below args s) (F0 m 71 ls [.int v10]) := by
        intro v10 H locs ls hl hP hS h
        subst e_j71
        refine lv_istore (lv' := [(5, .int v10), (0, .ref (sx_ad C 17 0)), (1, .int a1), (2, .int v2), (3, .int v4), (4, .int v9)]) hx hb dX8_readString_71 hl (by decide) rfl (fun ls hl => ?_)
        refine lv_iload_n hx hb dX8_readString_73 rfl (lv_at hl 2 rfl) ?_
        refine lv_bipush (v := (116 : Int32)) hx hb dX8_readString_74 (by decide) ?_
        obtain ⟨j161, e_j161, h⟩ := sx_nm h
        have hj161 : ∀ (v11 : Int32) (H : Heap) (locs : List Loc) (ls : Array Slot), lv_has ls 7 [(0, .ref (sx_ad C 17 0)), (1, .int a1), (2, .int v2), (3, .int v4), (5, .int v10)] → sx_W C M5 H → va_S (sx_A C) s.heap H locs → j161 v11 = some M' → W p l e R s m args below meth c H locs 0 0 (sx_Z C none M' below args s) (F0 m 161 ls [.int v11]) := by
          intro v11 H locs ls hl hP hS h
          subst e_j161
          refine lv_istore (lv' := [(6, .int v11), (0, .ref (sx_ad C 17 0)), (1, .int a1), (2, .int v2), (3, .int v4), (5, .int v10)]) hx hb dX8_readString_161 hl (by decide) rfl (fun ls hl => ?_)
          refine lv_aload_n hx hb dX8_readString_163 rfl (lv_at hl 1 rfl) ?_
          refine lv_iload hx hb dX8_readString_164 (lv_at hl 0 rfl) ?_
          obtain ⟨M12, e_M12, h⟩ := sx_bnd h
          refine cl_X8_151 X hG hP hz hS  e_M12 hl.1 dX8_readString_166 hcs ⟨Nat.le_trans (by decide) hR.1, Nat.le_trans (by decide) hR.2⟩ (Nat.le_of_ble_eq_true rfl) (fun H locs hP hS => ?_)
          refine lv_iload hx hb dX8_readString_169 (lv_at hl 0 rfl) ?_
          refine lv_if_ne (tgt := 175) hx hb dX8_readString_171 (by decide) (fun c13 => ?_) (fun c13 => ?_)
          · replace h := sx_ifn h c13
            refine lv_iload_n hx hb dX8_readString_175 rfl (lv_at hl 2 rfl) ?_
            refine lv_bipush (v := (116 : Int32)) hx hb dX8_readString_176 (by decide) ?_
            obtain ⟨j242, e_j242, h⟩ := sx_nm h
            have hj242 : ∀ (M14 : sx_M) (H : Heap) (locs : List Loc) (ls : Array Slot), lv_has ls 7 [] → sx_W C M14 H → va_S (sx_A C) s.heap H locs → j242 M14 = some M' → W p l e R s m args below meth c H locs 0 0 (sx_Z C none M' below args s) (F0 m 242 ls []) := by
              intro M14 H locs ls hl hP hS h
              subst e_j242
              exact sx_vret X hr hlocks hS hP h dX8_readString_242
            clear e_j242
            refine lv_icmp_ne (tgt := 194) hx hb dX8_readString_178 (by decide) (fun c15 => ?_) (fun c15 => ?_)
            · replace h := sx_ifn h c15
              refine lv_iload_n hx hb dX8_readString_194 rfl (lv_at hl 2 rfl) ?_
              refine lv_bipush (v := (120 : Int32)) hx hb dX8_readString_195 (by decide) ?_
              refine lv_icmp_ne (tgt := 212) hx hb dX8_readString_197 (by decide) (fun c16 => ?_) (fun c16 => ?_)
              · replace h := sx_ifn h c16
                refine lv_iload_n hx hb dX8_readString_212 rfl (lv_at hl 2 rfl) ?_
                refine lv_bipush (v := (102 : Int32)) hx hb dX8_readString_213 (by decide) ?_
                refine lv_icmp_ne (tgt := 233) hx hb dX8_readString_215 (by decide) (fun c17 => ?_) (fun c17 => ?_)
                · replace h := sx_ifn h c17
                  refine lv_aload_n hx hb dX8_readString_233 rfl (lv_at hl 1 rfl) ?_
                  refine gf_X8_13 X hP (by decide) dX8_readString_234 ?_
                  refine lv_iload hx hb dX8_readString_237 (lv_at hl 5 rfl) ?_
                  obtain ⟨M18, e_M18, h⟩ := sx_bnd h
                  refine cl_X8_158 X hG hP hz hS sx_row19 e_M18 hl.1 dX8_readString_239 hcs ⟨Nat.le_trans (by decide) hR.1, Nat.le_trans (by decide) hR.2⟩ (Nat.le_of_ble_eq_true rfl) (fun H locs hP hS => ?_)
                  exact hj242 M18 H locs ls (lv_sub hl [] rfl) hP hS h
                · replace h := sx_ifp h c17
                  refine lv_aload_n hx hb dX8_readString_218 rfl (lv_at hl 1 rfl) ?_
                  refine gf_X8_13 X hP (by decide) dX8_readString_219 ?_
                  refine lv_iload hx hb dX8_readString_222 (lv_at hl 5 rfl) ?_
                  refine lv_iconst (v := (2 : Int32)) hx hb dX8_readString_224 (by decide) ?_
                  obtain ⟨v19, e_v19, h⟩ := sx_bnd h
                  refine cl_X8_78 X hG hP hz hS  e_v19 hl.1 dX8_readString_225 hcs ⟨Nat.le_trans (by decide) hR.1, Nat.le_trans (by decide) hR.2⟩ (Nat.le_of_ble_eq_true rfl) (fun H locs hP hS => ?_)
                  refine lv_iconst (v := (0 : Int32)) hx hb dX8_readString_228 (by decide) ?_
                  refine sx_iast X hG hP hS 19 0 247 (by decide) (fun _ _ => rfl) dX8_readString_229 h (fun M20 H locs h hP hS => ?_)
                  refine lv_goto (tgt := 242) hx hb dX8_readString_230 (by decide) ?_
                  exact hj242 M20 H locs ls (lv_sub hl [] rfl) hP hS h
              · replace h := sx_ifp h c16
                refine lv_aload_n hx hb dX8_readString_200 rfl (lv_at hl 1 rfl) ?_
                refine gf_X8_13 X hP (by decide) dX8_readString_201 ?_
                refine lv_iload hx hb dX8_readString_204 (lv_at hl 5 rfl) ?_
                obtain ⟨M21, e_M21, h⟩ := sx_bnd h
                refine cl_X8_89 X hG hP hz hS sx_row19 e_M21 hl.1 dX8_readString_206 hcs ⟨Nat.le_trans (by decide) hR.1, Nat.le_trans (by decide) hR.2⟩ (Nat.le_of_ble_eq_true rfl) (fun H locs hP hS => ?_)
                refine lv_goto (tgt := 242) hx hb dX8_readString_209 (by decide) ?_
                exact hj242 M21 H locs ls (lv_sub hl [] rfl) hP hS h
            · replace h := sx_ifp h c15
              refine lv_aload_n hx hb dX8_readString_181 rfl (lv_at hl 1 rfl) ?_
              refine gf_X8_13 X hP (by decide) dX8_readString_182 ?_
              refine lv_iload_n hx hb dX8_readString_185 rfl (lv_at hl 3 rfl) ?_
              refine lv_iload_n hx hb dX8_readString_186 rfl (lv_at hl 4 rfl) ?_
              refine lv_iconst (v := (1 : Int32)) hx hb dX8_readString_187 (by decide) ?_
              obtain ⟨M22, e_M22, h⟩ := sx_bnd h
              refine cl_X8_154 X hG hP hz hS sx_row19 e_M22 hl.1 dX8_readString_188 hcs ⟨Nat.le_trans (by decide) hR.1, Nat.le_trans (by decide) hR.2⟩ (Nat.le_of_ble_eq_true rfl) (fun H locs hP hS => ?_)
              refine lv_goto (tgt := 242) hx hb dX8_readString_191 (by decide) ?_
              exact hj242 M22 H locs ls (lv_sub hl [] rfl) hP hS h
          · replace h := sx_ifp h c13
            exact sx_vret X hr hlocks hS hP h dX8_readString_174
        clear e_j161
        refine lv_icmp_ne (tgt := 109) hx hb dX8_readString_76 (by decide) (fun c23 => ?_) (fun c23 => ?_)
        · replace h := sx_ifn h c23
          refine lv_iload hx hb dX8_readString_109 (lv_at hl 0 rfl) ?_
          refine lv_bipush (v := (-9 : Int32)) hx hb dX8_readString_111 (by decide) ?_
          obtain ⟨j160, e_j160, h⟩ := sx_nm h
          have hj160 : ∀ (H : Heap) (locs : List Loc) (ls : Array Slot), lv_has ls 7 [(0, .ref (sx_ad C 17 0)), (1, .int a1), (2, .int v2), (3, .int v4), (5, .int v10)] → sx_W C M5 H → va_S (sx_A C) s.heap H locs → j160 () = some M' → W p l e R s m args below meth c H locs 0 0 (sx_Z C none M' below args s) (F0 m 160 ls []) := by
            intro  H locs ls hl hP hS h
            subst e_j160
            refine lv_iconst (v := (0 : Int32)) hx hb dX8_readString_160 (by decide) ?_
            exact hj161 (0 : Int32) H locs ls (lv_sub hl [0, 1, 2, 3, 4] rfl) hP hS h
          clear e_j160
          refine lv_icmp_eq (tgt := 160) hx hb dX8_readString_113 (by decide) (fun c24 => ?_) (fun c24 => ?_)
          · replace h := sx_ifp h c24
            exact hj160 H locs ls (lv_sub hl [1, 2, 3, 4, 0] rfl) hP hS h
          · replace h := sx_ifn h c24
            refine lv_iload_n hx hb dX8_readString_116 rfl (lv_at hl 2 rfl) ?_
            refine lv_bipush (v := (120 : Int32)) hx hb dX8_readString_117 (by decide) ?_
            obtain ⟨j156, e_j156, h⟩ := sx_nm h
            have hj156 : ∀ (H : Heap) (locs : List Loc) (ls : Array Slot), lv_has ls 7 [(0, .ref (sx_ad C 17 0)), (1, .int a1), (2, .int v2), (3, .int v4), (5, .int v10)] → sx_W C M5 H → va_S (sx_A C) s.heap H locs → j156 () = some M' → W p l e R s m args below meth c H locs 0 0 (sx_Z C none M' below args s) (F0 m 156 ls []) := by
              intro  H locs ls hl hP hS h
              subst e_j156
              refine lv_iconst (v := (1 : Int32)) hx hb dX8_readString_156 (by decide) ?_
              refine lv_goto (tgt := 161) hx hb dX8_readString_157 (by decide) ?_
              exact hj161 (1 : Int32) H locs ls (lv_sub hl [0, 1, 2, 3, 4] rfl) hP hS h
            clear e_j156
            refine lv_icmp_eq (tgt := 156) hx hb dX8_readString_119 (by decide) (fun c25 => ?_) (fun c25 => ?_)
            · replace h := sx_ifp h c25
              exact hj156 H locs ls (lv_sub hl [1, 2, 3, 4, 0] rfl) hP hS h
            · replace h := sx_ifn h c25
              refine lv_aload_n hx hb dX8_readString_122 rfl (lv_at hl 1 rfl) ?_
              refine gf_X8_13 X hP (by decide) dX8_readString_123 ?_
              refine lv_iload hx hb dX8_readString_126 (lv_at hl 0 rfl) ?_
              refine lv_iconst (v := (2 : Int32)) hx hb dX8_readString_128 (by decide) ?_
              obtain ⟨v26, e_v26, h⟩ := sx_bnd h
              refine cl_X8_78 X hG hP hz hS  e_v26 hl.1 dX8_readString_129 hcs ⟨Nat.le_trans (by decide) hR.1, Nat.le_trans (by decide) hR.2⟩ (Nat.le_of_ble_eq_true rfl) (fun H locs hP hS => ?_)
              refine sx_iald X hP 19 0 247 (by decide) (fun _ _ => rfl) dX8_readString_132 h (fun v27 h => ?_)
              refine lv_iconst (v := (1 : Int32)) hx hb dX8_readString_133 (by decide) ?_
              obtain ⟨j142, e_j142, h⟩ := sx_nm h
              have hj142 : ∀ (v28 : Int32) (H : Heap) (locs : List Loc) (ls : Array Slot), lv_has ls 7 [(0, .ref (sx_ad C 17 0)), (1, .int a1), (2, .int v2), (3, .int v4), (5, .int v10)] → sx_W C M5 H → va_S (sx_A C) s.heap H locs → j142 v28 = some M' → W p l e R s m args below meth c H locs 0 0 (sx_Z C none M' below args s) (F0 m 142 ls [.int v28]) := by
                intro v28 H locs ls hl hP hS h
                subst e_j142
                refine lv_iload_n hx hb dX8_readString_142 rfl (lv_at hl 1 rfl) ?_
                refine lv_bipush (v := (102 : Int32)) hx hb dX8_readString_143 (by decide) ?_
                obtain ⟨j153, e_j153, h⟩ := sx_nm h
                have hj153 : ∀ (v29 : Int32) (H : Heap) (locs : List Loc) (ls : Array Slot), lv_has ls 7 [(0, .ref (sx_ad C 17 0)), (1, .int a1), (2, .int v2), (3, .int v4), (5, .int v10)] → sx_W C M5 H → va_S (sx_A C) s.heap H locs → j153 v29 = some M' → W p l e R s m args below meth c H locs 0 0 (sx_Z C none M' below args s) (F0 m 153 ls [.int v29, .int v28]) := by
                  intro v29 H locs ls hl hP hS h
                  subst e_j153
                  refine lv_icmp_ne (tgt := 160) hx hb dX8_readString_153 (by decide) (fun c30 => ?_) (fun c30 => ?_)
                  · replace h := sx_ifn h c30
                    exact hj160 H locs ls (lv_sub hl [0, 1, 2, 3, 4] rfl) hP hS h
                  · replace h := sx_ifp h c30
                    exact hj156 H locs ls (lv_sub hl [0, 1, 2, 3, 4] rfl) hP hS h
                clear e_j153
                refine lv_icmp_ne (tgt := 152) hx hb dX8_readString_145 (by decide) (fun c31 => ?_) (fun c31 => ?_)
                · replace h := sx_ifn h c31
                  refine lv_iconst (v := (0 : Int32)) hx hb dX8_readString_152 (by decide) ?_
                  exact hj153 (0 : Int32) H locs ls (lv_sub hl [0, 1, 2, 3, 4] rfl) hP hS h
                · replace h := sx_ifp h c31
                  refine lv_iconst (v := (1 : Int32)) hx hb dX8_readString_148 (by decide) ?_
                  refine lv_goto (tgt := 153) hx hb dX8_readString_149 (by decide) ?_
                  exact hj153 (1 : Int32) H locs ls (lv_sub hl [0, 1, 2, 3, 4] rfl) hP hS h
              clear e_j142
              refine lv_icmp_ne (tgt := 141) hx hb dX8_readString_134 (by decide) (fun c32 => ?_) (fun c32 => ?_)
              · replace h := sx_ifn h c32
                refine lv_iconst (v := (0 : Int32)) hx hb dX8_readString_141 (by decide) ?_
                exact hj142 (0 : Int32) H locs ls (lv_sub hl [1, 2, 3, 4, 0] rfl) hP hS h
              · replace h := sx_ifp h c32
                refine lv_iconst (v := (1 : Int32)) hx hb dX8_readString_137 (by decide) ?_
                refine lv_goto (tgt := 142) hx hb dX8_readString_138 (by decide) ?_
                exact hj142 (1 : Int32) H locs ls (lv_sub hl [1, 2, 3, 4, 0] rfl) hP hS h
        · replace h := sx_ifp h c23
          refine lv_iload hx hb dX8_readString_79 (lv_at hl 5 rfl) ?_
          obtain ⟨j105, e_j105, h⟩ := sx_nm h
          have hj105 : ∀ (H : Heap) (locs : List Loc) (ls : Array Slot), lv_has ls 7 [(0, .ref (sx_ad C 17 0)), (1, .int a1), (2, .int v2), (3, .int v4), (5, .int v10)] → sx_W C M5 H → va_S (sx_A C) s.heap H locs → j105 () = some M' → W p l e R s m args below meth c H locs 0 0 (sx_Z C none M' below args s) (F0 m 105 ls []) := by
            intro  H locs ls hl hP hS h
            subst e_j105
            refine lv_iconst (v := (0 : Int32)) hx hb dX8_readString_105 (by decide) ?_
            refine lv_goto (tgt := 161) hx hb dX8_readString_106 (by decide) ?_
            exact hj161 (0 : Int32) H locs ls (lv_sub hl [0, 1, 2, 3, 4] rfl) hP hS h
          clear e_j105
          refine lv_if_eq (tgt := 105) hx hb dX8_readString_81 (by decide) (fun c33 => ?_) (fun c33 => ?_)
          · replace h := sx_ifp h c33
            exact hj105 H locs ls (lv_sub hl [1, 2, 3, 4, 0] rfl) hP hS h
          · replace h := sx_ifn h c33
            refine lv_iload_n hx hb dX8_readString_84 rfl (lv_at hl 3 rfl) ?_
            refine lv_iload_n hx hb dX8_readString_85 rfl (lv_at hl 4 rfl) ?_
            refine lv_icmp_eq (tgt := 105) hx hb dX8_readString_86 (by decide) (fun c34 => ?_) (fun c34 => ?_)
            · replace h := sx_ifp h c34
              exact hj105 H locs ls (lv_sub hl [1, 2, 3, 4, 0] rfl) hP hS h
            · replace h := sx_ifn h c34
              refine lv_aload_n hx hb dX8_readString_89 rfl (lv_at hl 1 rfl) ?_
              refine gf_X8_13 X hP (by decide) dX8_readString_90 ?_
              refine lv_iload_n hx hb dX8_readString_93 rfl (lv_at hl 3 rfl) ?_
              refine lv_iload_n hx hb dX8_readString_94 rfl (lv_at hl 4 rfl) ?_
              obtain ⟨v35, e_v35, h⟩ := sx_bnd h
              refine cl_X8_147 X hG hP hz hS sx_row19 e_v35 hl.1 dX8_readString_95 hcs ⟨Nat.le_trans (by decide) hR.1, Nat.le_trans (by decide) hR.2⟩ (Nat.le_of_ble_eq_true rfl) (fun H locs hP hS => ?_)
              refine lv_if_eq (tgt := 105) hx hb dX8_readString_98 (by decide) (fun c36 => ?_) (fun c36 => ?_)
              · replace h := sx_ifp h c36
                exact hj105 H locs ls (lv_sub hl [1, 2, 3, 4, 0] rfl) hP hS h
              · replace h := sx_ifn h c36
                refine lv_iconst (v := (1 : Int32)) hx hb dX8_readString_101 (by decide) ?_
                refine lv_goto (tgt := 161) hx hb dX8_readString_102 (by decide) ?_
                exact hj161 (1 : Int32) H locs ls (lv_sub hl [1, 2, 3, 4, 0] rfl) hP hS h
      clear e_j71
      refine lv_if_eq (tgt := 69) hx hb dX8_readString_54 (by decide) (fun c37 => ?_) (fun c37 => ?_)
      · replace h := sx_ifp h c37
        refine lv_bipush (v := (-9 : Int32)) hx hb dX8_readString_69 (by decide) ?_
        exact hj71 (-9 : Int32) H locs ls (lv_sub hl [1, 2, 3, 4, 0] rfl) hP hS h
      · replace h := sx_ifn h c37
        refine lv_aload_n hx hb dX8_readString_57 rfl (lv_at hl 1 rfl) ?_
        refine gf_X8_13 X hP (by decide) dX8_readString_58 ?_
        refine lv_iload_n hx hb dX8_readString_61 rfl (lv_at hl 3 rfl) ?_
        refine lv_iload_n hx hb dX8_readString_62 rfl (lv_at hl 4 rfl) ?_
        obtain ⟨v38, e_v38, h⟩ := sx_bnd h
        refine cl_X8_99 X hG hP hz hS sx_row19 e_v38 hl.1 dX8_readString_63 hcs ⟨Nat.le_trans (by decide) hR.1, Nat.le_trans (by decide) hR.2⟩ (Nat.le_of_ble_eq_true rfl) (fun H locs hP hS => ?_)
        refine lv_goto (tgt := 71) hx hb dX8_readString_66 (by decide) ?_
        exact hj71 v38 H locs ls (lv_sub hl [1, 2, 3, 4, 0] rfl) hP hS h
    clear e_j50
    obtain ⟨j49, e_j49, h⟩ := sx_nm h
    have hj49 : ∀ (H : Heap) (locs : List Loc) (ls : Array Slot), lv_has ls 7 [(0, .ref (sx_ad C 17 0)), (1, .int a1), (2, .int v2), (3, .int v4)] → sx_W C M5 H → va_S (sx_A C) s.heap H locs → j49 () = some M' → W p l e R s m args below meth c H locs 0 0 (sx_Z C none M' below args s) (F0 m 49 ls []) := by
      intro  H locs ls hl hP hS h
      subst e_j49
      refine lv_iconst (v := (0 : Int32)) hx hb dX8_readString_49 (by decide) ?_
      exact hj50 (0 : Int32) H locs ls (lv_sub hl [0, 1, 2, 3] rfl) hP hS h
    clear e_j49
    refine lv_if_eq (tgt := 49) hx hb dX8_readString_31 (by decide) (fun c39 => ?_) (fun c39 => ?_)
    · replace h := sx_ifp h c39
      exact hj49 H locs ls (lv_sub hl [2, 3, 1, 0] rfl) hP hS h
    · replace h := sx_ifn h c39
      refine lv_aload_n hx hb dX8_readString_34 rfl (lv_at hl 2 rfl) ?_
      refine gf_X8_13 X hP (by decide) dX8_readString_35 ?_
      refine lv_iload_n hx hb dX8_readString_38 rfl (lv_at hl 0 rfl) ?_
      obtain ⟨v40, e_v40, h⟩ := sx_bnd h
      refine cl_X8_74 X hG hP hz hS sx_row19 e_v40 hl.1 dX8_readString_39 hcs ⟨Nat.le_trans (by decide) hR.1, Nat.le_trans (by decide) hR.2⟩ (Nat.le_of_ble_eq_true rfl) (fun H locs hP hS => ?_)
      refine lv_if_eq (tgt := 49) hx hb dX8_readString_42 (by decide) (fun c41 => ?_) (fun c41 => ?_)
      · replace h := sx_ifp h c41
        exact hj49 H locs ls (lv_sub hl [2, 3, 1, 0] rfl) hP hS h
      · replace h := sx_ifn h c41
        refine lv_iconst (v := (1 : Int32)) hx hb dX8_readString_45 (by decide) ?_
        refine lv_goto (tgt := 50) hx hb dX8_readString_46 (by decide) ?_
        exact hj50 (1 : Int32) H locs ls (lv_sub hl [2, 3, 1, 0] rfl) hP hS h
  · replace h := sx_ifp h c7
    exact sx_vret X hr hlocks hS hP h dX8_readString_22
set_option maxRecDepth 100000 in
theorem ct_8_readString (l : Launch) (C : sx_C) (hG : sx_G C) (a1 : Int32) (M0 : sx_M) (M' : sx_M) (h : f8_readString a1 M0 = some M') : Met l yX8_readString (.code yX8_readString cX8_readString 7 none :: sx_T) ({ frames := 4, cells := 0, slots := 0, locals := 89 } : Room) (sx_Pc C M0 [.ref (sx_ad C 17 0), .int a1]) (sx_Q C none M') 0 0 (sx_A C) := by
  refine Met.ofW (cc := cX8_readString) (maxL := 7) (ret := none) (by decide) rfl ?_
  intro p e s m args below meth c s₁ B hml hv
  obtain ⟨rfl, hz, hP, hK⟩ := hv
  have hl := lv_entry ([.ref (sx_ad C 17 0), .int a1]) (n := 7) (Nat.le_of_ble_eq_true rfl)
  rw [lg_entry_eq]
  generalize (lg_sl ([.ref (sx_ad C 17 0), .int a1]) ++ List.replicate (7 - (lg_sl ([.ref (sx_ad C 17 0), .int a1])).length) Slot.unset).toArray = ls at hl ⊢
  exact wk_8_readString ⟨B.exec, B.bytes, hml, findClass_of_methodNamed B.named, fun w hw => atoms_spec B.pre w (List.mem_cons_of_mem _ hw), hK⟩ B.returns B.notSynchronized hG hz ⟨Nat.zero_le _, Nat.zero_le _⟩ ⟨Nat.le_refl _, Nat.le_refl _⟩ a1 M0 M' h hl hP va_S.rf
theorem cl_X8_178 (X : sx_X C p m c cc nL s args RX8) (hG : sx_G C) (hP : sx_W C M0 H) (hz : sx_sz C ≤ H0.size) (hS : va_S (sx_A C) H0 H locs) {a1 : Int32} {M' : sx_M} (h : f8_readString a1 M0 = some M') (hsz : ls.size = nL) (hdg : decode cc pc = .ok (.invokevirtual 178, 3)) (hcs : cells ≤ R.cells ∧ slots ≤ R.slots) (hR : 4 + 1 ≤ R.frames ∧ 8 + (7 + 11) + 89 ≤ R.locals) (hrest : (rest.map fun v => v.category).sum ≤ 8) (kk : ∀ (H1 : Heap) (locs1 : List Loc), sx_W C M' H1 → va_S (sx_A C) H0 H1 locs1 → W p l e R s m args below meth c H1 locs1 cells slots Q (F0 m (pc + 3) ls (rest))) : W p l e R s m args below meth c H locs cells slots Q (F0 m pc ls (.int a1 :: .ref (sx_ad C 17 0) :: rest)) :=
  sx_callV (n := 1) (As := [.int a1]) (k0 := 17) (s0 := 0) X hP hz hS (by decide) rfl rfl (sx_goodV tw_1085 tw_1087 tw_32 tw_71 tw_1088) (by decide +kernel) rfl rfl hR (ct_8_readString l C hG a1 M0 M' h) rfl rfl hrest hsz hdg hcs kk
-- StringShedModel.readMake()V
def f8_readMake  (M0 : sx_M) : Option (sx_M) :=
  (f8_accept (1 : Int32) M0).bind fun M1 =>
  sx_b2 (f8_digit (1 : Int32) (9 : Int32) M1) fun v2 M3 =>
  sx_bd (M3.1 17 0 4) fun v4 =>
  sx_bd (fun (M5 : sx_M) =>
    some M5) fun j60 =>
  if v4 = 0 then
    j60 M3
  else
    if sx_in (0 : Int32) 247 then
    sx_bd (M3.1 19 0 ((0 : Int32)).toNatClampNeg) fun v7 =>
    sx_bd (fun (v8 : Int32) =>
      (f8_count v8 M3).bind fun M9 =>
      if sx_in (0 : Int32) 247 then
      sx_bd (M9.1 19 0 ((0 : Int32)).toNatClampNeg) fun v10 =>
      if (24 : Int32) ≤ v10 then
        j60 M9
      else
        sx_b2 (f8_makeIn 19 v2 M9) fun v12 M13 =>
        j60 M13
      else none) fun j37 =>
    if (24 : Int32) ≤ v7 then
      j37 (0 : Int32)
    else
      j37 (1 : Int32)
    else none
set_option maxRecDepth 100000 in
set_option maxHeartbeats 4000000 in
theorem wk_8_readMake (X : sx_X C p m c cX8_readMake 2 s args RX8) (hr : meth.sig.returnType = none) (hlocks : meth.locks = false) (hG : sx_G C) (hz : sx_sz C ≤ s.heap.size) (hcs : 0 ≤ R.cells ∧ 0 ≤ R.slots) (hR : 2 ≤ R.frames ∧ 48 ≤ R.locals) (M0 : sx_M) (M' : sx_M) (h : f8_readMake M0 = some M') (hl : lv_has ls 2 [(0, .ref (sx_ad C 17 0))]) (hP : sx_W C M0 H) (hS : va_S (sx_A C) s.heap H locs) : W p l e R s m args below meth c H locs 0 0 (sx_Z C none M' below args s) (F0 m 0 ls []) := by
  obtain ⟨hx, hb, hml, hown, hts, hK⟩ := id X
  rw [f8_readMake] at h
  refine lv_aload_n hx hb dX8_readMake_0 rfl (lv_at hl 0 rfl) ?_
  refine lv_iconst (v := (1 : Int32)) hx hb dX8_readMake_1 (by decide) ?_
  obtain ⟨M1, e_M1, h⟩ := sx_bnd h
  refine cl_X8_124 X hG hP hz hS  e_M1 hl.1 dX8_readMake_2 hcs ⟨Nat.le_trans (by decide) hR.1, Nat.le_trans (by decide) hR.2⟩ (Nat.le_of_ble_eq_true rfl) (fun H locs hP hS => ?_)
  refine lv_aload_n hx hb dX8_readMake_5 rfl (lv_at hl 0 rfl) ?_
  refine lv_iconst (v := (1 : Int32)) hx hb dX8_readMake_6 (by decide) ?_
  refine lv_bipush (v := (9 : Int32)) hx hb dX8_readMake_7 (by decide) ?_
  obtain ⟨v2, M3, e_v2, h⟩ := sx_bnd2 h
  refine cl_X8_128 X hG hP hz hS  e_v2 hl.1 dX8_readMake_9 hcs ⟨Nat.le_trans (by decide) hR.1, Nat.le_trans (by decide) hR.2⟩ (Nat.le_of_ble_eq_true rfl) (fun H locs hP hS => ?_)
  refine lv_istore_n (lv' := [(1, .int v2), (0, .ref (sx_ad C 17 0))]) hx hb dX8_readMake_12 rfl hl (by decide) rfl (fun ls hl => ?_)
  refine lv_aload_n hx hb dX8_readMake_13 rfl (lv_at hl 1 rfl) ?_
  refine gf_X8_118 X hP (by decide) dX8_readMake_14 h (fun v4 h => ?_)
  obtain ⟨j60, e_j60, h⟩ := sx_nm h
  have hj60 : ∀ (M5 : sx_M) (H : Heap) (locs : List Loc) (ls : Array Slot), lv_has ls 2 [] → sx_W C M5 H → va_S (sx_A C) s.heap H locs → j60 M5 = some M' → W p l e R s m args below meth c H locs 0 0 (sx_Z C none M' below args s) (F0 m 60 ls []) := by
    intro M5 H locs ls hl hP hS h
    subst e_j60
    exact sx_vret X hr hlocks hS hP h dX8_readMake_60
  clear e_j60
  refine lv_if_eq (tgt := 60) hx hb dX8_readMake_17 (by decide) (fun c6 => ?_) (fun c6 => ?_)
  · replace h := sx_ifp h c6
    exact hj60 M3 H locs ls (lv_sub hl [] rfl) hP hS h
  · replace h := sx_ifn h c6
    refine lv_aload_n hx hb dX8_readMake_20 rfl (lv_at hl 1 rfl) ?_
    refine lv_aload_n hx hb dX8_readMake_21 rfl (lv_at hl 1 rfl) ?_
    refine gf_X8_13 X hP (by decide) dX8_readMake_22 ?_
    refine lv_iconst (v := (0 : Int32)) hx hb dX8_readMake_25 (by decide) ?_
    refine sx_iald X hP 19 0 247 (by decide) (fun _ _ => rfl) dX8_readMake_26 h (fun v7 h => ?_)
    refine lv_bipush (v := (24 : Int32)) hx hb dX8_readMake_27 (by decide) ?_
    obtain ⟨j37, e_j37, h⟩ := sx_nm h
    have hj37 : ∀ (v8 : Int32) (H : Heap) (locs : List Loc) (ls : Array Slot), lv_has ls 2 [(0, .ref (sx_ad C 17 0)), (1, .int v2)] → sx_W C M3 H → va_S (sx_A C) s.heap H locs → j37 v8 = some M' → W p l e R s m args below meth c H locs 0 0 (sx_Z C none M' below args s) (F0 m 37 ls [.int v8, .ref (sx_ad C 17 0)]) := by
      intro v8 H locs ls hl hP hS h
      subst e_j37
      obtain ⟨M9, e_M9, h⟩ := sx_bnd h
      refine cl_X8_151 X hG hP hz hS  e_M9 hl.1 dX8_readMake_37 hcs ⟨Nat.le_trans (by decide) hR.1, Nat.le_trans (by decide) hR.2⟩ (Nat.le_of_ble_eq_true rfl) (fun H locs hP hS => ?_)
      refine lv_aload_n hx hb dX8_readMake_40 rfl (lv_at hl 0 rfl) ?_
      refine gf_X8_13 X hP (by decide) dX8_readMake_41 ?_
      refine lv_iconst (v := (0 : Int32)) hx hb dX8_readMake_44 (by decide) ?_
      refine sx_iald X hP 19 0 247 (by decide) (fun _ _ => rfl) dX8_readMake_45 h (fun v10 h => ?_)
      refine lv_bipush (v := (24 : Int32)) hx hb dX8_readMake_46 (by decide) ?_
      refine lv_icmp_ge (tgt := 60) hx hb dX8_readMake_48 (by decide) (fun c11 => ?_) (fun c11 => ?_)
      · replace h := sx_ifp h c11
        exact hj60 M9 H locs ls (lv_sub hl [] rfl) hP hS h
      · replace h := sx_ifn h c11
        refine lv_aload_n hx hb dX8_readMake_51 rfl (lv_at hl 0 rfl) ?_
        refine gf_X8_13 X hP (by decide) dX8_readMake_52 ?_
        refine lv_iload_n hx hb dX8_readMake_55 rfl (lv_at hl 1 rfl) ?_
        obtain ⟨v12, M13, e_v12, h⟩ := sx_bnd2 h
        refine cl_X8_161 X hG hP hz hS sx_row19 e_v12 hl.1 dX8_readMake_56 hcs ⟨Nat.le_trans (by decide) hR.1, Nat.le_trans (by decide) hR.2⟩ (Nat.le_of_ble_eq_true rfl) (fun H locs hP hS => ?_)
        refine lv_pop hx hb dX8_readMake_59 rfl ?_
        exact hj60 M13 H locs ls (lv_sub hl [] rfl) hP hS h
    clear e_j37
    refine lv_icmp_ge (tgt := 36) hx hb dX8_readMake_29 (by decide) (fun c14 => ?_) (fun c14 => ?_)
    · replace h := sx_ifp h c14
      refine lv_iconst (v := (0 : Int32)) hx hb dX8_readMake_36 (by decide) ?_
      exact hj37 (0 : Int32) H locs ls (lv_sub hl [1, 0] rfl) hP hS h
    · replace h := sx_ifn h c14
      refine lv_iconst (v := (1 : Int32)) hx hb dX8_readMake_32 (by decide) ?_
      refine lv_goto (tgt := 37) hx hb dX8_readMake_33 (by decide) ?_
      exact hj37 (1 : Int32) H locs ls (lv_sub hl [1, 0] rfl) hP hS h
set_option maxRecDepth 100000 in
theorem ct_8_readMake (l : Launch) (C : sx_C) (hG : sx_G C) (M0 : sx_M) (M' : sx_M) (h : f8_readMake M0 = some M') : Met l yX8_readMake (.code yX8_readMake cX8_readMake 2 none :: sx_T) ({ frames := 2, cells := 0, slots := 0, locals := 48 } : Room) (sx_Pc C M0 [.ref (sx_ad C 17 0)]) (sx_Q C none M') 0 0 (sx_A C) := by
  refine Met.ofW (cc := cX8_readMake) (maxL := 2) (ret := none) (by decide) rfl ?_
  intro p e s m args below meth c s₁ B hml hv
  obtain ⟨rfl, hz, hP, hK⟩ := hv
  have hl := lv_entry ([.ref (sx_ad C 17 0)]) (n := 2) (Nat.le_of_ble_eq_true rfl)
  rw [lg_entry_eq]
  generalize (lg_sl ([.ref (sx_ad C 17 0)]) ++ List.replicate (2 - (lg_sl ([.ref (sx_ad C 17 0)])).length) Slot.unset).toArray = ls at hl ⊢
  exact wk_8_readMake ⟨B.exec, B.bytes, hml, findClass_of_methodNamed B.named, fun w hw => atoms_spec B.pre w (List.mem_cons_of_mem _ hw), hK⟩ B.returns B.notSynchronized hG hz ⟨Nat.zero_le _, Nat.zero_le _⟩ ⟨Nat.le_refl _, Nat.le_refl _⟩ M0 M' h hl hP va_S.rf
theorem cl_X8_175 (X : sx_X C p m c cc nL s args RX8) (hG : sx_G C) (hP : sx_W C M0 H) (hz : sx_sz C ≤ H0.size) (hS : va_S (sx_A C) H0 H locs) {M' : sx_M} (h : f8_readMake M0 = some M') (hsz : ls.size = nL) (hdg : decode cc pc = .ok (.invokevirtual 175, 3)) (hcs : cells ≤ R.cells ∧ slots ≤ R.slots) (hR : 2 + 1 ≤ R.frames ∧ 8 + (2 + 11) + 48 ≤ R.locals) (hrest : (rest.map fun v => v.category).sum ≤ 8) (kk : ∀ (H1 : Heap) (locs1 : List Loc), sx_W C M' H1 → va_S (sx_A C) H0 H1 locs1 → W p l e R s m args below meth c H1 locs1 cells slots Q (F0 m (pc + 3) ls (rest))) : W p l e R s m args below meth c H locs cells slots Q (F0 m pc ls (.ref (sx_ad C 17 0) :: rest)) :=
  sx_callV (n := 0) (As := []) (k0 := 17) (s0 := 0) X hP hz hS (by decide) rfl rfl (sx_goodV tw_1066 tw_1068 tw_29 tw_71 tw_1069) (by decide +kernel) rfl rfl hR (ct_8_readMake l C hG M0 M' h) rfl rfl hrest hsz hdg hcs kk
-- StringShedModel.readPin()V
def f8_readPin  (M0 : sx_M) : Option (sx_M) :=
  (f8_accept (1 : Int32) M0).bind fun M1 =>
  sx_b2 (f8_partRead M1) fun v2 M3 =>
  sx_bd (M3.1 17 0 4) fun v4 =>
  sx_bd (fun (M5 : sx_M) =>
    some M5) fun j66 =>
  if v4 = 0 then
    j66 M3
  else
    (f8_isPart 19 v2 M3).bind fun v7 =>
    (f8_count v7 M3).bind fun M8 =>
    (f8_isPart 19 v2 M8).bind fun v9 =>
    if v9 = 0 then
      j66 M8
    else
      (f8_partAt v2 (2 : Int32) M8).bind fun v11 =>
      if sx_in v11 247 then
      sx_bd (M8.1 19 0 (v11).toNatClampNeg) fun v12 =>
      sx_bd (fun (v13 : Int32) =>
        (f8_pinIn 19 v2 v13 M8).bind fun M14 =>
        j66 M14) fun j63 =>
      if v12 = 0 then
        j63 (1 : Int32)
      else
        j63 (0 : Int32)
      else none
set_option maxRecDepth 100000 in
set_option maxHeartbeats 4000000 in
theorem wk_8_readPin (X : sx_X C p m c cX8_readPin 2 s args RX8) (hr : meth.sig.returnType = none) (hlocks : meth.locks = false) (hG : sx_G C) (hz : sx_sz C ≤ s.heap.size) (hcs : 0 ≤ R.cells ∧ 0 ≤ R.slots) (hR : 3 ≤ R.frames ∧ 69 ≤ R.locals) (M0 : sx_M) (M' : sx_M) (h : f8_readPin M0 = some M') (hl : lv_has ls 2 [(0, .ref (sx_ad C 17 0))]) (hP : sx_W C M0 H) (hS : va_S (sx_A C) s.heap H locs) : W p l e R s m args below meth c H locs 0 0 (sx_Z C none M' below args s) (F0 m 0 ls []) := by
  obtain ⟨hx, hb, hml, hown, hts, hK⟩ := id X
  rw [f8_readPin] at h
  refine lv_aload_n hx hb dX8_readPin_0 rfl (lv_at hl 0 rfl) ?_
  refine lv_iconst (v := (1 : Int32)) hx hb dX8_readPin_1 (by decide) ?_
  obtain ⟨M1, e_M1, h⟩ := sx_bnd h
  refine cl_X8_124 X hG hP hz hS  e_M1 hl.1 dX8_readPin_2 hcs ⟨Nat.le_trans (by decide) hR.1, Nat.le_trans (by decide) hR.2⟩ (Nat.le_of_ble_eq_true rfl) (fun H locs hP hS => ?_)
  refine lv_aload_n hx hb dX8_readPin_5 rfl (lv_at hl 0 rfl) ?_
  obtain ⟨v2, M3, e_v2, h⟩ := sx_bnd2 h
  refine cl_X8_134 X hG hP hz hS  e_v2 hl.1 dX8_readPin_6 hcs ⟨Nat.le_trans (by decide) hR.1, Nat.le_trans (by decide) hR.2⟩ (Nat.le_of_ble_eq_true rfl) (fun H locs hP hS => ?_)
  refine lv_istore_n (lv' := [(1, .int v2), (0, .ref (sx_ad C 17 0))]) hx hb dX8_readPin_9 rfl hl (by decide) rfl (fun ls hl => ?_)
  refine lv_aload_n hx hb dX8_readPin_10 rfl (lv_at hl 1 rfl) ?_
  refine gf_X8_118 X hP (by decide) dX8_readPin_11 h (fun v4 h => ?_)
  obtain ⟨j66, e_j66, h⟩ := sx_nm h
  have hj66 : ∀ (M5 : sx_M) (H : Heap) (locs : List Loc) (ls : Array Slot), lv_has ls 2 [] → sx_W C M5 H → va_S (sx_A C) s.heap H locs → j66 M5 = some M' → W p l e R s m args below meth c H locs 0 0 (sx_Z C none M' below args s) (F0 m 66 ls []) := by
    intro M5 H locs ls hl hP hS h
    subst e_j66
    exact sx_vret X hr hlocks hS hP h dX8_readPin_66
  clear e_j66
  refine lv_if_eq (tgt := 66) hx hb dX8_readPin_14 (by decide) (fun c6 => ?_) (fun c6 => ?_)
  · replace h := sx_ifp h c6
    exact hj66 M3 H locs ls (lv_sub hl [] rfl) hP hS h
  · replace h := sx_ifn h c6
    refine lv_aload_n hx hb dX8_readPin_17 rfl (lv_at hl 1 rfl) ?_
    refine lv_aload_n hx hb dX8_readPin_18 rfl (lv_at hl 1 rfl) ?_
    refine gf_X8_13 X hP (by decide) dX8_readPin_19 ?_
    refine lv_iload_n hx hb dX8_readPin_22 rfl (lv_at hl 0 rfl) ?_
    obtain ⟨v7, e_v7, h⟩ := sx_bnd h
    refine cl_X8_74 X hG hP hz hS sx_row19 e_v7 hl.1 dX8_readPin_23 hcs ⟨Nat.le_trans (by decide) hR.1, Nat.le_trans (by decide) hR.2⟩ (Nat.le_of_ble_eq_true rfl) (fun H locs hP hS => ?_)
    obtain ⟨M8, e_M8, h⟩ := sx_bnd h
    refine cl_X8_151 X hG hP hz hS  e_M8 hl.1 dX8_readPin_26 hcs ⟨Nat.le_trans (by decide) hR.1, Nat.le_trans (by decide) hR.2⟩ (Nat.le_of_ble_eq_true rfl) (fun H locs hP hS => ?_)
    refine lv_aload_n hx hb dX8_readPin_29 rfl (lv_at hl 1 rfl) ?_
    refine gf_X8_13 X hP (by decide) dX8_readPin_30 ?_
    refine lv_iload_n hx hb dX8_readPin_33 rfl (lv_at hl 0 rfl) ?_
    obtain ⟨v9, e_v9, h⟩ := sx_bnd h
    refine cl_X8_74 X hG hP hz hS sx_row19 e_v9 hl.1 dX8_readPin_34 hcs ⟨Nat.le_trans (by decide) hR.1, Nat.le_trans (by decide) hR.2⟩ (Nat.le_of_ble_eq_true rfl) (fun H locs hP hS => ?_)
    refine lv_if_eq (tgt := 66) hx hb dX8_readPin_37 (by decide) (fun c10 => ?_) (fun c10 => ?_)
    · replace h := sx_ifp h c10
      exact hj66 M8 H locs ls (lv_sub hl [] rfl) hP hS h
    · replace h := sx_ifn h c10
      refine lv_aload_n hx hb dX8_readPin_40 rfl (lv_at hl 1 rfl) ?_
      refine gf_X8_13 X hP (by decide) dX8_readPin_41 ?_
      refine lv_iload_n hx hb dX8_readPin_44 rfl (lv_at hl 0 rfl) ?_
      refine lv_aload_n hx hb dX8_readPin_45 rfl (lv_at hl 1 rfl) ?_
      refine gf_X8_13 X hP (by decide) dX8_readPin_46 ?_
      refine lv_iload_n hx hb dX8_readPin_49 rfl (lv_at hl 0 rfl) ?_
      refine lv_iconst (v := (2 : Int32)) hx hb dX8_readPin_50 (by decide) ?_
      obtain ⟨v11, e_v11, h⟩ := sx_bnd h
      refine cl_X8_66 X hG hP hz hS  e_v11 hl.1 dX8_readPin_51 hcs ⟨Nat.le_trans (by decide) hR.1, Nat.le_trans (by decide) hR.2⟩ (Nat.le_of_ble_eq_true rfl) (fun H locs hP hS => ?_)
      refine sx_iald X hP 19 0 247 (by decide) (fun _ _ => rfl) dX8_readPin_54 h (fun v12 h => ?_)
      obtain ⟨j63, e_j63, h⟩ := sx_nm h
      have hj63 : ∀ (v13 : Int32) (H : Heap) (locs : List Loc) (ls : Array Slot), lv_has ls 2 [] → sx_W C M8 H → va_S (sx_A C) s.heap H locs → j63 v13 = some M' → W p l e R s m args below meth c H locs 0 0 (sx_Z C none M' below args s) (F0 m 63 ls [.int v13, .int v2, .ref (sx_ad C 19 0)]) := by
        intro v13 H locs ls hl hP hS h
        subst e_j63
        obtain ⟨M14, e_M14, h⟩ := sx_bnd h
        refine cl_X8_165 X hG hP hz hS sx_row19 e_M14 hl.1 dX8_readPin_63 hcs ⟨Nat.le_trans (by decide) hR.1, Nat.le_trans (by decide) hR.2⟩ (Nat.le_of_ble_eq_true rfl) (fun H locs hP hS => ?_)
        exact hj66 M14 H locs ls (lv_sub hl [] rfl) hP hS h
      clear e_j63
      refine lv_if_ne (tgt := 62) hx hb dX8_readPin_55 (by decide) (fun c15 => ?_) (fun c15 => ?_)
      · replace h := sx_ifn h c15
        refine lv_iconst (v := (0 : Int32)) hx hb dX8_readPin_62 (by decide) ?_
        exact hj63 (0 : Int32) H locs ls (lv_sub hl [] rfl) hP hS h
      · replace h := sx_ifp h c15
        refine lv_iconst (v := (1 : Int32)) hx hb dX8_readPin_58 (by decide) ?_
        refine lv_goto (tgt := 63) hx hb dX8_readPin_59 (by decide) ?_
        exact hj63 (1 : Int32) H locs ls (lv_sub hl [] rfl) hP hS h
set_option maxRecDepth 100000 in
theorem ct_8_readPin (l : Launch) (C : sx_C) (hG : sx_G C) (M0 : sx_M) (M' : sx_M) (h : f8_readPin M0 = some M') : Met l yX8_readPin (.code yX8_readPin cX8_readPin 2 none :: sx_T) ({ frames := 3, cells := 0, slots := 0, locals := 69 } : Room) (sx_Pc C M0 [.ref (sx_ad C 17 0)]) (sx_Q C none M') 0 0 (sx_A C) := by
  refine Met.ofW (cc := cX8_readPin) (maxL := 2) (ret := none) (by decide) rfl ?_
  intro p e s m args below meth c s₁ B hml hv
  obtain ⟨rfl, hz, hP, hK⟩ := hv
  have hl := lv_entry ([.ref (sx_ad C 17 0)]) (n := 2) (Nat.le_of_ble_eq_true rfl)
  rw [lg_entry_eq]
  generalize (lg_sl ([.ref (sx_ad C 17 0)]) ++ List.replicate (2 - (lg_sl ([.ref (sx_ad C 17 0)])).length) Slot.unset).toArray = ls at hl ⊢
  exact wk_8_readPin ⟨B.exec, B.bytes, hml, findClass_of_methodNamed B.named, fun w hw => atoms_spec B.pre w (List.mem_cons_of_mem _ hw), hK⟩ B.returns B.notSynchronized hG hz ⟨Nat.zero_le _, Nat.zero_le _⟩ ⟨Nat.le_refl _, Nat.le_refl _⟩ M0 M' h hl hP va_S.rf
theorem cl_X8_182 (X : sx_X C p m c cc nL s args RX8) (hG : sx_G C) (hP : sx_W C M0 H) (hz : sx_sz C ≤ H0.size) (hS : va_S (sx_A C) H0 H locs) {M' : sx_M} (h : f8_readPin M0 = some M') (hsz : ls.size = nL) (hdg : decode cc pc = .ok (.invokevirtual 182, 3)) (hcs : cells ≤ R.cells ∧ slots ≤ R.slots) (hR : 3 + 1 ≤ R.frames ∧ 8 + (2 + 11) + 69 ≤ R.locals) (hrest : (rest.map fun v => v.category).sum ≤ 8) (kk : ∀ (H1 : Heap) (locs1 : List Loc), sx_W C M' H1 → va_S (sx_A C) H0 H1 locs1 → W p l e R s m args below meth c H1 locs1 cells slots Q (F0 m (pc + 3) ls (rest))) : W p l e R s m args below meth c H locs cells slots Q (F0 m pc ls (.ref (sx_ad C 17 0) :: rest)) :=
  sx_callV (n := 0) (As := []) (k0 := 17) (s0 := 0) X hP hz hS (by decide) rfl rfl (sx_goodV tw_1133 tw_1135 tw_35 tw_71 tw_1136) (by decide +kernel) rfl rfl hR (ct_8_readPin l C hG M0 M' h) rfl rfl hrest hsz hdg hcs kk
-- StringShedModel.readSweep(Z)V
def f8_readSweep (a1 : Int32) (M0 : sx_M) : Option (sx_M) :=
  (f8_accept (1 : Int32) M0).bind fun M1 =>
  if sx_in (3 : Int32) 247 then
  sx_bd (M1.1 19 0 ((3 : Int32)).toNatClampNeg) fun v2 =>
  sx_bd (fun (v3 : Int32) =>
    sx_bd (fun (v4 : Int32) =>
      (f8_count v4 M1).bind fun M5 =>
      sx_bd (fun (M6 : sx_M) =>
        some M6) fun j65 =>
      sx_bd (fun (_ : Unit) =>
        if v4 = 0 then
          j65 M5
        else
          sx_b2 (f8_stepIn 19 M5) fun v8 M9 =>
          j65 M9) fun j53 =>
      if v4 = 0 then
        j53 ()
      else
        if a1 = 0 then
          j53 ()
        else
          sx_b2 (f8_beginIn 19 M5) fun v12 M13 =>
          j65 M13) fun j28 =>
    if v3 = a1 then
      j28 (1 : Int32)
    else
      j28 (0 : Int32)) fun j19 =>
  if v2 = 0 then
    j19 (1 : Int32)
  else
    j19 (0 : Int32)
  else none
set_option maxRecDepth 100000 in
set_option maxHeartbeats 4000000 in
theorem wk_8_readSweep (X : sx_X C p m c cX8_readSweep 3 s args RX8) (hr : meth.sig.returnType = none) (hlocks : meth.locks = false) (hG : sx_G C) (hz : sx_sz C ≤ s.heap.size) (hcs : 0 ≤ R.cells ∧ 0 ≤ R.slots) (hR : 5 ≤ R.frames ∧ 112 ≤ R.locals) (a1 : Int32) (M0 : sx_M) (M' : sx_M) (h : f8_readSweep a1 M0 = some M') (hl : lv_has ls 3 [(0, .ref (sx_ad C 17 0)), (1, .int a1)]) (hP : sx_W C M0 H) (hS : va_S (sx_A C) s.heap H locs) : W p l e R s m args below meth c H locs 0 0 (sx_Z C none M' below args s) (F0 m 0 ls []) := by
  obtain ⟨hx, hb, hml, hown, hts, hK⟩ := id X
  rw [f8_readSweep] at h
  refine lv_aload_n hx hb dX8_readSweep_0 rfl (lv_at hl 0 rfl) ?_
  refine lv_iconst (v := (1 : Int32)) hx hb dX8_readSweep_1 (by decide) ?_
  obtain ⟨M1, e_M1, h⟩ := sx_bnd h
  refine cl_X8_124 X hG hP hz hS  e_M1 hl.1 dX8_readSweep_2 hcs ⟨Nat.le_trans (by decide) hR.1, Nat.le_trans (by decide) hR.2⟩ (Nat.le_of_ble_eq_true rfl) (fun H locs hP hS => ?_)
  refine lv_aload_n hx hb dX8_readSweep_5 rfl (lv_at hl 0 rfl) ?_
  refine gf_X8_13 X hP (by decide) dX8_readSweep_6 ?_
  refine lv_iconst (v := (3 : Int32)) hx hb dX8_readSweep_9 (by decide) ?_
  refine sx_iald X hP 19 0 247 (by decide) (fun _ _ => rfl) dX8_readSweep_10 h (fun v2 h => ?_)
  obtain ⟨j19, e_j19, h⟩ := sx_nm h
  have hj19 : ∀ (v3 : Int32) (H : Heap) (locs : List Loc) (ls : Array Slot), lv_has ls 3 [(0, .ref (sx_ad C 17 0)), (1, .int a1)] → sx_W C M1 H → va_S (sx_A C) s.heap H locs → j19 v3 = some M' → W p l e R s m args below meth c H locs 0 0 (sx_Z C none M' below args s) (F0 m 19 ls [.int v3]) := by
    intro v3 H locs ls hl hP hS h
    subst e_j19
    refine lv_iload_n hx hb dX8_readSweep_19 rfl (lv_at hl 1 rfl) ?_
    obtain ⟨j28, e_j28, h⟩ := sx_nm h
    have hj28 : ∀ (v4 : Int32) (H : Heap) (locs : List Loc) (ls : Array Slot), lv_has ls 3 [(0, .ref (sx_ad C 17 0)), (1, .int a1)] → sx_W C M1 H → va_S (sx_A C) s.heap H locs → j28 v4 = some M' → W p l e R s m args below meth c H locs 0 0 (sx_Z C none M' below args s) (F0 m 28 ls [.int v4]) := by
      intro v4 H locs ls hl hP hS h
      subst e_j28
      refine lv_istore_n (lv' := [(2, .int v4), (0, .ref (sx_ad C 17 0)), (1, .int a1)]) hx hb dX8_readSweep_28 rfl hl (by decide) rfl (fun ls hl => ?_)
      refine lv_aload_n hx hb dX8_readSweep_29 rfl (lv_at hl 1 rfl) ?_
      refine lv_iload_n hx hb dX8_readSweep_30 rfl (lv_at hl 0 rfl) ?_
      obtain ⟨M5, e_M5, h⟩ := sx_bnd h
      refine cl_X8_151 X hG hP hz hS  e_M5 hl.1 dX8_readSweep_31 hcs ⟨Nat.le_trans (by decide) hR.1, Nat.le_trans (by decide) hR.2⟩ (Nat.le_of_ble_eq_true rfl) (fun H locs hP hS => ?_)
      refine lv_iload_n hx hb dX8_readSweep_34 rfl (lv_at hl 0 rfl) ?_
      obtain ⟨j65, e_j65, h⟩ := sx_nm h
      have hj65 : ∀ (M6 : sx_M) (H : Heap) (locs : List Loc) (ls : Array Slot), lv_has ls 3 [] → sx_W C M6 H → va_S (sx_A C) s.heap H locs → j65 M6 = some M' → W p l e R s m args below meth c H locs 0 0 (sx_Z C none M' below args s) (F0 m 65 ls []) := by
        intro M6 H locs ls hl hP hS h
        subst e_j65
        exact sx_vret X hr hlocks hS hP h dX8_readSweep_65
      clear e_j65
      obtain ⟨j53, e_j53, h⟩ := sx_nm h
      have hj53 : ∀ (H : Heap) (locs : List Loc) (ls : Array Slot), lv_has ls 3 [(0, .ref (sx_ad C 17 0)), (2, .int v4)] → sx_W C M5 H → va_S (sx_A C) s.heap H locs → j53 () = some M' → W p l e R s m args below meth c H locs 0 0 (sx_Z C none M' below args s) (F0 m 53 ls []) := by
        intro  H locs ls hl hP hS h
        subst e_j53
        refine lv_iload_n hx hb dX8_readSweep_53 rfl (lv_at hl 1 rfl) ?_
        refine lv_if_eq (tgt := 65) hx hb dX8_readSweep_54 (by decide) (fun c7 => ?_) (fun c7 => ?_)
        · replace h := sx_ifp h c7
          exact hj65 M5 H locs ls (lv_sub hl [] rfl) hP hS h
        · replace h := sx_ifn h c7
          refine lv_aload_n hx hb dX8_readSweep_57 rfl (lv_at hl 0 rfl) ?_
          refine gf_X8_13 X hP (by decide) dX8_readSweep_58 ?_
          obtain ⟨v8, M9, e_v8, h⟩ := sx_bnd2 h
          refine cl_X8_172 X hG hP hz hS sx_row19 e_v8 hl.1 dX8_readSweep_61 hcs ⟨Nat.le_trans (by decide) hR.1, Nat.le_trans (by decide) hR.2⟩ (Nat.le_of_ble_eq_true rfl) (fun H locs hP hS => ?_)
          refine lv_pop hx hb dX8_readSweep_64 rfl ?_
          exact hj65 M9 H locs ls (lv_sub hl [] rfl) hP hS h
      clear e_j53
      refine lv_if_eq (tgt := 53) hx hb dX8_readSweep_35 (by decide) (fun c10 => ?_) (fun c10 => ?_)
      · replace h := sx_ifp h c10
        exact hj53 H locs ls (lv_sub hl [1, 0] rfl) hP hS h
      · replace h := sx_ifn h c10
        refine lv_iload_n hx hb dX8_readSweep_38 rfl (lv_at hl 2 rfl) ?_
        refine lv_if_eq (tgt := 53) hx hb dX8_readSweep_39 (by decide) (fun c11 => ?_) (fun c11 => ?_)
        · replace h := sx_ifp h c11
          exact hj53 H locs ls (lv_sub hl [1, 0] rfl) hP hS h
        · replace h := sx_ifn h c11
          refine lv_aload_n hx hb dX8_readSweep_42 rfl (lv_at hl 1 rfl) ?_
          refine gf_X8_13 X hP (by decide) dX8_readSweep_43 ?_
          obtain ⟨v12, M13, e_v12, h⟩ := sx_bnd2 h
          refine cl_X8_169 X hG hP hz hS sx_row19 e_v12 hl.1 dX8_readSweep_46 hcs ⟨Nat.le_trans (by decide) hR.1, Nat.le_trans (by decide) hR.2⟩ (Nat.le_of_ble_eq_true rfl) (fun H locs hP hS => ?_)
          refine lv_pop hx hb dX8_readSweep_49 rfl ?_
          refine lv_goto (tgt := 65) hx hb dX8_readSweep_50 (by decide) ?_
          exact hj65 M13 H locs ls (lv_sub hl [] rfl) hP hS h
    clear e_j28
    refine lv_icmp_ne (tgt := 27) hx hb dX8_readSweep_20 (by decide) (fun c14 => ?_) (fun c14 => ?_)
    · replace h := sx_ifn h c14
      refine lv_iconst (v := (0 : Int32)) hx hb dX8_readSweep_27 (by decide) ?_
      exact hj28 (0 : Int32) H locs ls (lv_sub hl [0, 1] rfl) hP hS h
    · replace h := sx_ifp h c14
      refine lv_iconst (v := (1 : Int32)) hx hb dX8_readSweep_23 (by decide) ?_
      refine lv_goto (tgt := 28) hx hb dX8_readSweep_24 (by decide) ?_
      exact hj28 (1 : Int32) H locs ls (lv_sub hl [0, 1] rfl) hP hS h
  clear e_j19
  refine lv_if_ne (tgt := 18) hx hb dX8_readSweep_11 (by decide) (fun c15 => ?_) (fun c15 => ?_)
  · replace h := sx_ifn h c15
    refine lv_iconst (v := (0 : Int32)) hx hb dX8_readSweep_18 (by decide) ?_
    exact hj19 (0 : Int32) H locs ls (lv_sub hl [0, 1] rfl) hP hS h
  · replace h := sx_ifp h c15
    refine lv_iconst (v := (1 : Int32)) hx hb dX8_readSweep_14 (by decide) ?_
    refine lv_goto (tgt := 19) hx hb dX8_readSweep_15 (by decide) ?_
    exact hj19 (1 : Int32) H locs ls (lv_sub hl [0, 1] rfl) hP hS h
set_option maxRecDepth 100000 in
theorem ct_8_readSweep (l : Launch) (C : sx_C) (hG : sx_G C) (a1 : Int32) (M0 : sx_M) (M' : sx_M) (h : f8_readSweep a1 M0 = some M') : Met l yX8_readSweep (.code yX8_readSweep cX8_readSweep 3 none :: sx_T) ({ frames := 5, cells := 0, slots := 0, locals := 112 } : Room) (sx_Pc C M0 [.ref (sx_ad C 17 0), .int a1]) (sx_Q C none M') 0 0 (sx_A C) := by
  refine Met.ofW (cc := cX8_readSweep) (maxL := 3) (ret := none) (by decide) rfl ?_
  intro p e s m args below meth c s₁ B hml hv
  obtain ⟨rfl, hz, hP, hK⟩ := hv
  have hl := lv_entry ([.ref (sx_ad C 17 0), .int a1]) (n := 3) (Nat.le_of_ble_eq_true rfl)
  rw [lg_entry_eq]
  generalize (lg_sl ([.ref (sx_ad C 17 0), .int a1]) ++ List.replicate (3 - (lg_sl ([.ref (sx_ad C 17 0), .int a1])).length) Slot.unset).toArray = ls at hl ⊢
  exact wk_8_readSweep ⟨B.exec, B.bytes, hml, findClass_of_methodNamed B.named, fun w hw => atoms_spec B.pre w (List.mem_cons_of_mem _ hw), hK⟩ B.returns B.notSynchronized hG hz ⟨Nat.zero_le _, Nat.zero_le _⟩ ⟨Nat.le_refl _, Nat.le_refl _⟩ a1 M0 M' h hl hP va_S.rf
theorem cl_X8_185 (X : sx_X C p m c cc nL s args RX8) (hG : sx_G C) (hP : sx_W C M0 H) (hz : sx_sz C ≤ H0.size) (hS : va_S (sx_A C) H0 H locs) {a1 : Int32} {M' : sx_M} (h : f8_readSweep a1 M0 = some M') (hsz : ls.size = nL) (hdg : decode cc pc = .ok (.invokevirtual 185, 3)) (hcs : cells ≤ R.cells ∧ slots ≤ R.slots) (hR : 5 + 1 ≤ R.frames ∧ 8 + (3 + 11) + 112 ≤ R.locals) (hrest : (rest.map fun v => v.category).sum ≤ 8) (kk : ∀ (H1 : Heap) (locs1 : List Loc), sx_W C M' H1 → va_S (sx_A C) H0 H1 locs1 → W p l e R s m args below meth c H1 locs1 cells slots Q (F0 m (pc + 3) ls (rest))) : W p l e R s m args below meth c H locs cells slots Q (F0 m pc ls (.int a1 :: .ref (sx_ad C 17 0) :: rest)) :=
  sx_callV (n := 1) (As := [.int a1]) (k0 := 17) (s0 := 0) X hP hz hS (by decide) rfl rfl (sx_goodV tw_1140 tw_1142 tw_36 tw_71 tw_1143) (by decide +kernel) rfl rfl hR (ct_8_readSweep l C hG a1 M0 M' h) rfl rfl hrest hsz hdg hcs kk
-- StringShedModel.readCommand()V
def f8_readCommand  (M0 : sx_M) : Option (sx_M) :=
  (f8_isNext (110 : Int32) M0).bind fun v1 =>
  sx_bd (fun (M2 : sx_M) =>
    some M2) fun j120 =>
  if v1 = 0 then
    (f8_isNext (116 : Int32) M0).bind fun v4 =>
    sx_bd (fun (_ : Unit) =>
      sx_bd (M0.1 17 0 3) fun v5 =>
      if sx_in v5 120 then
      sx_bd (M0.1 18 0 (v5).toNatClampNeg) fun v6 =>
      (f8_readString v6 M0).bind fun M7 =>
      j120 M7
      else none) fun j52 =>
    if v4 = 0 then
      (f8_isNext (120 : Int32) M0).bind fun v9 =>
      if v9 = 0 then
        (f8_isNext (102 : Int32) M0).bind fun v11 =>
        if v11 = 0 then
          (f8_isNext (109 : Int32) M0).bind fun v13 =>
          if v13 = 0 then
            (f8_isNext (112 : Int32) M0).bind fun v15 =>
            if v15 = 0 then
              (f8_isNext (98 : Int32) M0).bind fun v17 =>
              sx_bd (fun (_ : Unit) =>
                (f8_isNext (98 : Int32) M0).bind fun v18 =>
                (f8_readSweep v18 M0).bind fun M19 =>
                j120 M19) fun j102 =>
              if v17 = 0 then
                (f8_isNext (115 : Int32) M0).bind fun v21 =>
                if v21 = 0 then
                  (f8_accept (0 : Int32) M0).bind fun M23 =>
                  j120 M23
                else
                  j102 ()
              else
                j102 ()
            else
              (f8_readPin M0).bind fun M24 =>
              j120 M24
          else
            j52 ()
        else
          j52 ()
      else
        j52 ()
    else
      j52 ()
  else
    (f8_readMake M0).bind fun M25 =>
    j120 M25
set_option maxRecDepth 100000 in
set_option maxHeartbeats 4000000 in
theorem wk_8_readCommand (X : sx_X C p m c cX8_readCommand 1 s args RX8) (hr : meth.sig.returnType = none) (hlocks : meth.locks = false) (hG : sx_G C) (hz : sx_sz C ≤ s.heap.size) (hcs : 0 ≤ R.cells ∧ 0 ≤ R.slots) (hR : 6 ≤ R.frames ∧ 134 ≤ R.locals) (M0 : sx_M) (M' : sx_M) (h : f8_readCommand M0 = some M') (hl : lv_has ls 1 [(0, .ref (sx_ad C 17 0))]) (hP : sx_W C M0 H) (hS : va_S (sx_A C) s.heap H locs) : W p l e R s m args below meth c H locs 0 0 (sx_Z C none M' below args s) (F0 m 0 ls []) := by
  obtain ⟨hx, hb, hml, hown, hts, hK⟩ := id X
  rw [f8_readCommand] at h
  refine lv_aload_n hx hb dX8_readCommand_0 rfl (lv_at hl 0 rfl) ?_
  refine lv_bipush (v := (110 : Int32)) hx hb dX8_readCommand_1 (by decide) ?_
  obtain ⟨v1, e_v1, h⟩ := sx_bnd h
  refine cl_X8_131 X hG hP hz hS  e_v1 hl.1 dX8_readCommand_3 hcs ⟨Nat.le_trans (by decide) hR.1, Nat.le_trans (by decide) hR.2⟩ (Nat.le_of_ble_eq_true rfl) (fun H locs hP hS => ?_)
  obtain ⟨j120, e_j120, h⟩ := sx_nm h
  have hj120 : ∀ (M2 : sx_M) (H : Heap) (locs : List Loc) (ls : Array Slot), lv_has ls 1 [] → sx_W C M2 H → va_S (sx_A C) s.heap H locs → j120 M2 = some M' → W p l e R s m args below meth c H locs 0 0 (sx_Z C none M' below args s) (F0 m 120 ls []) := by
    intro M2 H locs ls hl hP hS h
    subst e_j120
    exact sx_vret X hr hlocks hS hP h dX8_readCommand_120
  clear e_j120
  refine lv_if_eq (tgt := 16) hx hb dX8_readCommand_6 (by decide) (fun c3 => ?_) (fun c3 => ?_)
  · replace h := sx_ifp h c3
    refine lv_aload_n hx hb dX8_readCommand_16 rfl (lv_at hl 0 rfl) ?_
    refine lv_bipush (v := (116 : Int32)) hx hb dX8_readCommand_17 (by decide) ?_
    obtain ⟨v4, e_v4, h⟩ := sx_bnd h
    refine cl_X8_131 X hG hP hz hS  e_v4 hl.1 dX8_readCommand_19 hcs ⟨Nat.le_trans (by decide) hR.1, Nat.le_trans (by decide) hR.2⟩ (Nat.le_of_ble_eq_true rfl) (fun H locs hP hS => ?_)
    obtain ⟨j52, e_j52, h⟩ := sx_nm h
    have hj52 : ∀ (H : Heap) (locs : List Loc) (ls : Array Slot), lv_has ls 1 [(0, .ref (sx_ad C 17 0))] → sx_W C M0 H → va_S (sx_A C) s.heap H locs → j52 () = some M' → W p l e R s m args below meth c H locs 0 0 (sx_Z C none M' below args s) (F0 m 52 ls []) := by
      intro  H locs ls hl hP hS h
      subst e_j52
      refine lv_aload_n hx hb dX8_readCommand_52 rfl (lv_at hl 0 rfl) ?_
      refine lv_aload_n hx hb dX8_readCommand_53 rfl (lv_at hl 0 rfl) ?_
      refine gf_X8_7 X hP (by decide) dX8_readCommand_54 ?_
      refine lv_aload_n hx hb dX8_readCommand_57 rfl (lv_at hl 0 rfl) ?_
      refine gf_X8_115 X hP (by decide) dX8_readCommand_58 h (fun v5 h => ?_)
      refine sx_iald X hP 18 0 120 (by decide) (fun _ _ => rfl) dX8_readCommand_61 h (fun v6 h => ?_)
      obtain ⟨M7, e_M7, h⟩ := sx_bnd h
      refine cl_X8_178 X hG hP hz hS  e_M7 hl.1 dX8_readCommand_62 hcs ⟨Nat.le_trans (by decide) hR.1, Nat.le_trans (by decide) hR.2⟩ (Nat.le_of_ble_eq_true rfl) (fun H locs hP hS => ?_)
      refine lv_goto (tgt := 120) hx hb dX8_readCommand_65 (by decide) ?_
      exact hj120 M7 H locs ls (lv_sub hl [] rfl) hP hS h
    clear e_j52
    refine lv_if_ne (tgt := 52) hx hb dX8_readCommand_22 (by decide) (fun c8 => ?_) (fun c8 => ?_)
    · replace h := sx_ifn h c8
      exact hj52 H locs ls (lv_sub hl [0] rfl) hP hS h
    · replace h := sx_ifp h c8
      refine lv_aload_n hx hb dX8_readCommand_25 rfl (lv_at hl 0 rfl) ?_
      refine lv_bipush (v := (120 : Int32)) hx hb dX8_readCommand_26 (by decide) ?_
      obtain ⟨v9, e_v9, h⟩ := sx_bnd h
      refine cl_X8_131 X hG hP hz hS  e_v9 hl.1 dX8_readCommand_28 hcs ⟨Nat.le_trans (by decide) hR.1, Nat.le_trans (by decide) hR.2⟩ (Nat.le_of_ble_eq_true rfl) (fun H locs hP hS => ?_)
      refine lv_if_ne (tgt := 52) hx hb dX8_readCommand_31 (by decide) (fun c10 => ?_) (fun c10 => ?_)
      · replace h := sx_ifn h c10
        exact hj52 H locs ls (lv_sub hl [0] rfl) hP hS h
      · replace h := sx_ifp h c10
        refine lv_aload_n hx hb dX8_readCommand_34 rfl (lv_at hl 0 rfl) ?_
        refine lv_bipush (v := (102 : Int32)) hx hb dX8_readCommand_35 (by decide) ?_
        obtain ⟨v11, e_v11, h⟩ := sx_bnd h
        refine cl_X8_131 X hG hP hz hS  e_v11 hl.1 dX8_readCommand_37 hcs ⟨Nat.le_trans (by decide) hR.1, Nat.le_trans (by decide) hR.2⟩ (Nat.le_of_ble_eq_true rfl) (fun H locs hP hS => ?_)
        refine lv_if_ne (tgt := 52) hx hb dX8_readCommand_40 (by decide) (fun c12 => ?_) (fun c12 => ?_)
        · replace h := sx_ifn h c12
          exact hj52 H locs ls (lv_sub hl [0] rfl) hP hS h
        · replace h := sx_ifp h c12
          refine lv_aload_n hx hb dX8_readCommand_43 rfl (lv_at hl 0 rfl) ?_
          refine lv_bipush (v := (109 : Int32)) hx hb dX8_readCommand_44 (by decide) ?_
          obtain ⟨v13, e_v13, h⟩ := sx_bnd h
          refine cl_X8_131 X hG hP hz hS  e_v13 hl.1 dX8_readCommand_46 hcs ⟨Nat.le_trans (by decide) hR.1, Nat.le_trans (by decide) hR.2⟩ (Nat.le_of_ble_eq_true rfl) (fun H locs hP hS => ?_)
          refine lv_if_eq (tgt := 68) hx hb dX8_readCommand_49 (by decide) (fun c14 => ?_) (fun c14 => ?_)
          · replace h := sx_ifp h c14
            refine lv_aload_n hx hb dX8_readCommand_68 rfl (lv_at hl 0 rfl) ?_
            refine lv_bipush (v := (112 : Int32)) hx hb dX8_readCommand_69 (by decide) ?_
            obtain ⟨v15, e_v15, h⟩ := sx_bnd h
            refine cl_X8_131 X hG hP hz hS  e_v15 hl.1 dX8_readCommand_71 hcs ⟨Nat.le_trans (by decide) hR.1, Nat.le_trans (by decide) hR.2⟩ (Nat.le_of_ble_eq_true rfl) (fun H locs hP hS => ?_)
            refine lv_if_eq (tgt := 84) hx hb dX8_readCommand_74 (by decide) (fun c16 => ?_) (fun c16 => ?_)
            · replace h := sx_ifp h c16
              refine lv_aload_n hx hb dX8_readCommand_84 rfl (lv_at hl 0 rfl) ?_
              refine lv_bipush (v := (98 : Int32)) hx hb dX8_readCommand_85 (by decide) ?_
              obtain ⟨v17, e_v17, h⟩ := sx_bnd h
              refine cl_X8_131 X hG hP hz hS  e_v17 hl.1 dX8_readCommand_87 hcs ⟨Nat.le_trans (by decide) hR.1, Nat.le_trans (by decide) hR.2⟩ (Nat.le_of_ble_eq_true rfl) (fun H locs hP hS => ?_)
              obtain ⟨j102, e_j102, h⟩ := sx_nm h
              have hj102 : ∀ (H : Heap) (locs : List Loc) (ls : Array Slot), lv_has ls 1 [(0, .ref (sx_ad C 17 0))] → sx_W C M0 H → va_S (sx_A C) s.heap H locs → j102 () = some M' → W p l e R s m args below meth c H locs 0 0 (sx_Z C none M' below args s) (F0 m 102 ls []) := by
                intro  H locs ls hl hP hS h
                subst e_j102
                refine lv_aload_n hx hb dX8_readCommand_102 rfl (lv_at hl 0 rfl) ?_
                refine lv_aload_n hx hb dX8_readCommand_103 rfl (lv_at hl 0 rfl) ?_
                refine lv_bipush (v := (98 : Int32)) hx hb dX8_readCommand_104 (by decide) ?_
                obtain ⟨v18, e_v18, h⟩ := sx_bnd h
                refine cl_X8_131 X hG hP hz hS  e_v18 hl.1 dX8_readCommand_106 hcs ⟨Nat.le_trans (by decide) hR.1, Nat.le_trans (by decide) hR.2⟩ (Nat.le_of_ble_eq_true rfl) (fun H locs hP hS => ?_)
                obtain ⟨M19, e_M19, h⟩ := sx_bnd h
                refine cl_X8_185 X hG hP hz hS  e_M19 hl.1 dX8_readCommand_109 hcs ⟨Nat.le_trans (by decide) hR.1, Nat.le_trans (by decide) hR.2⟩ (Nat.le_of_ble_eq_true rfl) (fun H locs hP hS => ?_)
                refine lv_goto (tgt := 120) hx hb dX8_readCommand_112 (by decide) ?_
                exact hj120 M19 H locs ls (lv_sub hl [] rfl) hP hS h
              clear e_j102
              refine lv_if_ne (tgt := 102) hx hb dX8_readCommand_90 (by decide) (fun c20 => ?_) (fun c20 => ?_)
              · replace h := sx_ifn h c20
                exact hj102 H locs ls (lv_sub hl [0] rfl) hP hS h
              · replace h := sx_ifp h c20
                refine lv_aload_n hx hb dX8_readCommand_93 rfl (lv_at hl 0 rfl) ?_
                refine lv_bipush (v := (115 : Int32)) hx hb dX8_readCommand_94 (by decide) ?_
                obtain ⟨v21, e_v21, h⟩ := sx_bnd h
                refine cl_X8_131 X hG hP hz hS  e_v21 hl.1 dX8_readCommand_96 hcs ⟨Nat.le_trans (by decide) hR.1, Nat.le_trans (by decide) hR.2⟩ (Nat.le_of_ble_eq_true rfl) (fun H locs hP hS => ?_)
                refine lv_if_eq (tgt := 115) hx hb dX8_readCommand_99 (by decide) (fun c22 => ?_) (fun c22 => ?_)
                · replace h := sx_ifp h c22
                  refine lv_aload_n hx hb dX8_readCommand_115 rfl (lv_at hl 0 rfl) ?_
                  refine lv_iconst (v := (0 : Int32)) hx hb dX8_readCommand_116 (by decide) ?_
                  obtain ⟨M23, e_M23, h⟩ := sx_bnd h
                  refine cl_X8_124 X hG hP hz hS  e_M23 hl.1 dX8_readCommand_117 hcs ⟨Nat.le_trans (by decide) hR.1, Nat.le_trans (by decide) hR.2⟩ (Nat.le_of_ble_eq_true rfl) (fun H locs hP hS => ?_)
                  exact hj120 M23 H locs ls (lv_sub hl [] rfl) hP hS h
                · replace h := sx_ifn h c22
                  exact hj102 H locs ls (lv_sub hl [0] rfl) hP hS h
            · replace h := sx_ifn h c16
              refine lv_aload_n hx hb dX8_readCommand_77 rfl (lv_at hl 0 rfl) ?_
              obtain ⟨M24, e_M24, h⟩ := sx_bnd h
              refine cl_X8_182 X hG hP hz hS  e_M24 hl.1 dX8_readCommand_78 hcs ⟨Nat.le_trans (by decide) hR.1, Nat.le_trans (by decide) hR.2⟩ (Nat.le_of_ble_eq_true rfl) (fun H locs hP hS => ?_)
              refine lv_goto (tgt := 120) hx hb dX8_readCommand_81 (by decide) ?_
              exact hj120 M24 H locs ls (lv_sub hl [] rfl) hP hS h
          · replace h := sx_ifn h c14
            exact hj52 H locs ls (lv_sub hl [0] rfl) hP hS h
  · replace h := sx_ifn h c3
    refine lv_aload_n hx hb dX8_readCommand_9 rfl (lv_at hl 0 rfl) ?_
    obtain ⟨M25, e_M25, h⟩ := sx_bnd h
    refine cl_X8_175 X hG hP hz hS  e_M25 hl.1 dX8_readCommand_10 hcs ⟨Nat.le_trans (by decide) hR.1, Nat.le_trans (by decide) hR.2⟩ (Nat.le_of_ble_eq_true rfl) (fun H locs hP hS => ?_)
    refine lv_goto (tgt := 120) hx hb dX8_readCommand_13 (by decide) ?_
    exact hj120 M25 H locs ls (lv_sub hl [] rfl) hP hS h
set_option maxRecDepth 100000 in
theorem ct_8_readCommand (l : Launch) (C : sx_C) (hG : sx_G C) (M0 : sx_M) (M' : sx_M) (h : f8_readCommand M0 = some M') : Met l yX8_readCommand (.code yX8_readCommand cX8_readCommand 1 none :: sx_T) ({ frames := 6, cells := 0, slots := 0, locals := 134 } : Room) (sx_Pc C M0 [.ref (sx_ad C 17 0)]) (sx_Q C none M') 0 0 (sx_A C) := by
  refine Met.ofW (cc := cX8_readCommand) (maxL := 1) (ret := none) (by decide) rfl ?_
  intro p e s m args below meth c s₁ B hml hv
  obtain ⟨rfl, hz, hP, hK⟩ := hv
  have hl := lv_entry ([.ref (sx_ad C 17 0)]) (n := 1) (Nat.le_of_ble_eq_true rfl)
  rw [lg_entry_eq]
  generalize (lg_sl ([.ref (sx_ad C 17 0)]) ++ List.replicate (1 - (lg_sl ([.ref (sx_ad C 17 0)])).length) Slot.unset).toArray = ls at hl ⊢
  exact wk_8_readCommand ⟨B.exec, B.bytes, hml, findClass_of_methodNamed B.named, fun w hw => atoms_spec B.pre w (List.mem_cons_of_mem _ hw), hK⟩ B.returns B.notSynchronized hG hz ⟨Nat.zero_le _, Nat.zero_le _⟩ ⟨Nat.le_refl _, Nat.le_refl _⟩ M0 M' h hl hP va_S.rf
theorem cl_X8_188 (X : sx_X C p m c cc nL s args RX8) (hG : sx_G C) (hP : sx_W C M0 H) (hz : sx_sz C ≤ H0.size) (hS : va_S (sx_A C) H0 H locs) {M' : sx_M} (h : f8_readCommand M0 = some M') (hsz : ls.size = nL) (hdg : decode cc pc = .ok (.invokevirtual 188, 3)) (hcs : cells ≤ R.cells ∧ slots ≤ R.slots) (hR : 6 + 1 ≤ R.frames ∧ 8 + (1 + 11) + 134 ≤ R.locals) (hrest : (rest.map fun v => v.category).sum ≤ 8) (kk : ∀ (H1 : Heap) (locs1 : List Loc), sx_W C M' H1 → va_S (sx_A C) H0 H1 locs1 → W p l e R s m args below meth c H1 locs1 cells slots Q (F0 m (pc + 3) ls (rest))) : W p l e R s m args below meth c H locs cells slots Q (F0 m pc ls (.ref (sx_ad C 17 0) :: rest)) :=
  sx_callV (n := 0) (As := []) (k0 := 17) (s0 := 0) X hP hz hS (by decide) rfl rfl (sx_goodV tw_1062 tw_1064 tw_28 tw_71 tw_1065) (by decide +kernel) rfl rfl hR (ct_8_readCommand l C hG M0 M' h) rfl rfl hrest hsz hdg hcs kk
-- StringShedModel.readText()I
def f8_readText_L17 (k37 : (sx_M → Option (Int32 × sx_M))) : Nat → Int32 → sx_M → Option (Int32 × sx_M)
  | 0, _, _ => none
  | n + 1, x1, M =>
    if (247 : Int32) ≤ x1 then
      k37 M
    else
      if sx_in x1 247 then
      sx_bd (sx_set M 19 0 (x1).toNatClampNeg (0 : Int32)) fun M5 =>
      sx_bd (x1 + (1 : Int32)) fun v6 =>
      f8_readText_L17 k37 n v6 M5
      else none
def f8_readText_L47 (k72 : (sx_M → Option (Int32 × sx_M))) : Nat → sx_M → Option (Int32 × sx_M)
  | 0, _ => none
  | n + 1, M =>
    sx_bd (M.1 17 0 4) fun v10 =>
    if v10 = 0 then
      k72 M
    else
      sx_bd (M.1 17 0 3) fun v12 =>
      sx_bd (M.1 17 0 2) fun v13 =>
      if v13 ≤ v12 then
        k72 M
      else
        (f8_readCommand M).bind fun M15 =>
        f8_readText_L47 k72 n M15
def f8_readText  (M0 : sx_M) : Option (Int32 × sx_M) :=
  sx_bd (sx_set M0 17 0 3 (0 : Int32)) fun M1 =>
  if (1 : Int32) = 0 ∨ (1 : Int32) = 1 then
  sx_bd (sx_set M1 17 0 4 (1 : Int32)) fun M2 =>
  sx_bd (sx_set M2 17 0 5 (0 : Int32)) fun M3 =>
  f8_readText_L17 
    (fun (M7 : sx_M) =>
      (f8_isNext (83 : Int32) M7).bind fun v8 =>
      (f8_accept v8 M7).bind fun M9 =>
      f8_readText_L47 
        (fun (M16 : sx_M) =>
          sx_bd (M16.1 17 0 4) fun v17 =>
          sx_bd (fun (v18 : Int32) =>
            some (v18, M16)) fun j88 =>
          if v17 = 0 then
            sx_bd (M16.1 17 0 3) fun v20 =>
            j88 v20
          else
            j88 (-9 : Int32))
        5000 M9)
    5000 (0 : Int32) M3
  else none
set_option maxRecDepth 100000 in
set_option maxHeartbeats 4000000 in
theorem wk_8_readText (X : sx_X C p m c cX8_readText 2 s args RX8) (hr : meth.sig.returnType = (some .int)) (hlocks : meth.locks = false) (hG : sx_G C) (hz : sx_sz C ≤ s.heap.size) (hcs : 0 ≤ R.cells ∧ 0 ≤ R.slots) (hR : 7 ≤ R.frames ∧ 154 ≤ R.locals) (M0 : sx_M) (r : Int32) (M' : sx_M) (h : f8_readText M0 = some (r, M')) (hl : lv_has ls 2 [(0, .ref (sx_ad C 17 0))]) (hP : sx_W C M0 H) (hS : va_S (sx_A C) s.heap H locs) : W p l e R s m args below meth c H locs 0 0 (sx_Z C (some (.int r)) M' below args s) (F0 m 0 ls []) := by
  obtain ⟨hx, hb, hml, hown, hts, hK⟩ := id X
  rw [f8_readText] at h
  have hf8_readText_L17 : ∀ (k37 : (sx_M → Option (Int32 × sx_M))) (n : Nat) (hk37 : (∀ (M : sx_M) (H : Heap) (locs : List Loc) (ls : Array Slot), lv_has ls 2 [(0, .ref (sx_ad C 17 0))] → sx_W C M H → va_S (sx_A C) s.heap H locs → k37 M = some (r, M') → W p l e R s m args below meth c H locs 0 0 (sx_Z C (some (.int r)) M' below args s) (F0 m 37 ls []))) (x1 : Int32) (M : sx_M) (H : Heap) (locs : List Loc) (ls : Array Slot), lv_has ls 2 [(0, .ref (sx_ad C 17 0)), (1, .int x1)] → sx_W C M H → va_S (sx_A C) s.heap H locs → f8_readText_L17 k37 n x1 M = some (r, M') → W p l e R s m args below meth c H locs 0 0 (sx_Z C (some (.int r)) M' below args s) (F0 m 17 ls []) := by
    intro k37 n hk37
    induction n with
    | zero => intro x1 M H locs ls hl hP hS h; exact absurd (show (none : Option (Int32 × sx_M)) = some (r, M') from h) (fun q => nomatch q)
    | succ n ih =>
      intro x1 M H locs ls hl hP hS h
      rw [f8_readText_L17] at h
      refine lv_iload_n hx hb dX8_readText_17 rfl (lv_at hl 1 rfl) ?_
      refine lv_sipush (v := (247 : Int32)) hx hb dX8_readText_18 (by decide) ?_
      refine lv_icmp_ge (tgt := 37) hx hb dX8_readText_21 (by decide) (fun c4 => ?_) (fun c4 => ?_)
      · replace h := sx_ifp h c4
        exact hk37 M H locs ls (lv_sub hl [0] rfl) hP hS h
      · replace h := sx_ifn h c4
        refine lv_aload_n hx hb dX8_readText_24 rfl (lv_at hl 0 rfl) ?_
        refine gf_X8_13 X hP (by decide) dX8_readText_25 ?_
        refine lv_iload_n hx hb dX8_readText_28 rfl (lv_at hl 1 rfl) ?_
        refine lv_iconst (v := (0 : Int32)) hx hb dX8_readText_29 (by decide) ?_
        refine sx_iast X hG hP hS 19 0 247 (by decide) (fun _ _ => rfl) dX8_readText_30 h (fun M5 H locs h hP hS => ?_)
        obtain ⟨v6, e_v6, h⟩ := sx_nm h
        refine lv_iinc (v := v6) (lv' := [(1, .int v6), (0, .ref (sx_ad C 17 0))]) hx hb dX8_readText_31 hl (k := 1) rfl (by rw [← e_v6]; rfl) (by decide) rfl (fun ls hl => ?_)
        refine lv_goto (tgt := 17) hx hb dX8_readText_34 (by decide) ?_
        exact ih v6 M5 H locs ls (lv_sub hl [1, 0] rfl) hP hS h
  have hf8_readText_L47 : ∀ (k72 : (sx_M → Option (Int32 × sx_M))) (n : Nat) (hk72 : (∀ (M : sx_M) (H : Heap) (locs : List Loc) (ls : Array Slot), lv_has ls 2 [(0, .ref (sx_ad C 17 0))] → sx_W C M H → va_S (sx_A C) s.heap H locs → k72 M = some (r, M') → W p l e R s m args below meth c H locs 0 0 (sx_Z C (some (.int r)) M' below args s) (F0 m 72 ls []))) (M : sx_M) (H : Heap) (locs : List Loc) (ls : Array Slot), lv_has ls 2 [(0, .ref (sx_ad C 17 0))] → sx_W C M H → va_S (sx_A C) s.heap H locs → f8_readText_L47 k72 n M = some (r, M') → W p l e R s m args below meth c H locs 0 0 (sx_Z C (some (.int r)) M' below args s) (F0 m 47 ls []) := by
    intro k72 n hk72
    induction n with
    | zero => intro M H locs ls hl hP hS h; exact absurd (show (none : Option (Int32 × sx_M)) = some (r, M') from h) (fun q => nomatch q)
    | succ n ih =>
      intro M H locs ls hl hP hS h
      rw [f8_readText_L47] at h
      refine lv_aload_n hx hb dX8_readText_47 rfl (lv_at hl 0 rfl) ?_
      refine gf_X8_118 X hP (by decide) dX8_readText_48 h (fun v10 h => ?_)
      refine lv_if_eq (tgt := 72) hx hb dX8_readText_51 (by decide) (fun c11 => ?_) (fun c11 => ?_)
      · replace h := sx_ifp h c11
        exact hk72 M H locs ls (lv_sub hl [0] rfl) hP hS h
      · replace h := sx_ifn h c11
        refine lv_aload_n hx hb dX8_readText_54 rfl (lv_at hl 0 rfl) ?_
        refine gf_X8_115 X hP (by decide) dX8_readText_55 h (fun v12 h => ?_)
        refine lv_aload_n hx hb dX8_readText_58 rfl (lv_at hl 0 rfl) ?_
        refine gf_X8_108 X hP (by decide) dX8_readText_59 h (fun v13 h => ?_)
        refine lv_icmp_ge (tgt := 72) hx hb dX8_readText_62 (by decide) (fun c14 => ?_) (fun c14 => ?_)
        · replace h := sx_ifp h c14
          exact hk72 M H locs ls (lv_sub hl [0] rfl) hP hS h
        · replace h := sx_ifn h c14
          refine lv_aload_n hx hb dX8_readText_65 rfl (lv_at hl 0 rfl) ?_
          obtain ⟨M15, e_M15, h⟩ := sx_bnd h
          refine cl_X8_188 X hG hP hz hS  e_M15 hl.1 dX8_readText_66 hcs ⟨Nat.le_trans (by decide) hR.1, Nat.le_trans (by decide) hR.2⟩ (Nat.le_of_ble_eq_true rfl) (fun H locs hP hS => ?_)
          refine lv_goto (tgt := 47) hx hb dX8_readText_69 (by decide) ?_
          exact ih M15 H locs ls (lv_sub hl [0] rfl) hP hS h
  refine lv_aload_n hx hb dX8_readText_0 rfl (lv_at hl 0 rfl) ?_
  refine lv_iconst (v := (0 : Int32)) hx hb dX8_readText_1 (by decide) ?_
  refine pf_X8_115 X hG hP hS (by decide) dX8_readText_2 h (fun M1 H locs h hP hS => ?_)
  refine lv_aload_n hx hb dX8_readText_5 rfl (lv_at hl 0 rfl) ?_
  refine lv_iconst (v := (1 : Int32)) hx hb dX8_readText_6 (by decide) ?_
  refine pf_X8_118 X hG hP hS (by decide) dX8_readText_7 h (fun M2 H locs h hP hS => ?_)
  refine lv_aload_n hx hb dX8_readText_10 rfl (lv_at hl 0 rfl) ?_
  refine lv_iconst (v := (0 : Int32)) hx hb dX8_readText_11 (by decide) ?_
  refine pf_X8_138 X hG hP hS (by decide) dX8_readText_12 h (fun M3 H locs h hP hS => ?_)
  refine lv_iconst (v := (0 : Int32)) hx hb dX8_readText_15 (by decide) ?_
  refine lv_istore_n (lv' := [(1, .int (0 : Int32)), (0, .ref (sx_ad C 17 0))]) hx hb dX8_readText_16 rfl hl (by decide) rfl (fun ls hl => ?_)
  refine hf8_readText_L17 _ 5000 ?_ (0 : Int32) M3 H locs ls (lv_sub hl [1, 0] rfl) hP hS h
  · intro M7 H locs ls hl hP hS h
    refine lv_aload_n hx hb dX8_readText_37 rfl (lv_at hl 0 rfl) ?_
    refine lv_aload_n hx hb dX8_readText_38 rfl (lv_at hl 0 rfl) ?_
    refine lv_bipush (v := (83 : Int32)) hx hb dX8_readText_39 (by decide) ?_
    obtain ⟨v8, e_v8, h⟩ := sx_bnd h
    refine cl_X8_131 X hG hP hz hS  e_v8 hl.1 dX8_readText_41 hcs ⟨Nat.le_trans (by decide) hR.1, Nat.le_trans (by decide) hR.2⟩ (Nat.le_of_ble_eq_true rfl) (fun H locs hP hS => ?_)
    obtain ⟨M9, e_M9, h⟩ := sx_bnd h
    refine cl_X8_124 X hG hP hz hS  e_M9 hl.1 dX8_readText_44 hcs ⟨Nat.le_trans (by decide) hR.1, Nat.le_trans (by decide) hR.2⟩ (Nat.le_of_ble_eq_true rfl) (fun H locs hP hS => ?_)
    refine hf8_readText_L47 _ 5000 ?_ M9 H locs ls (lv_sub hl [0] rfl) hP hS h
    · intro M16 H locs ls hl hP hS h
      refine lv_aload_n hx hb dX8_readText_72 rfl (lv_at hl 0 rfl) ?_
      refine gf_X8_118 X hP (by decide) dX8_readText_73 h (fun v17 h => ?_)
      obtain ⟨j88, e_j88, h⟩ := sx_nm h
      have hj88 : ∀ (v18 : Int32) (H : Heap) (locs : List Loc) (ls : Array Slot), lv_has ls 2 [] → sx_W C M16 H → va_S (sx_A C) s.heap H locs → j88 v18 = some (r, M') → W p l e R s m args below meth c H locs 0 0 (sx_Z C (some (.int r)) M' below args s) (F0 m 88 ls [.int v18]) := by
        intro v18 H locs ls hl hP hS h
        subst e_j88
        exact sx_iretM X hr hlocks hS hP h dX8_readText_88
      clear e_j88
      refine lv_if_eq (tgt := 84) hx hb dX8_readText_76 (by decide) (fun c19 => ?_) (fun c19 => ?_)
      · replace h := sx_ifp h c19
        refine lv_aload_n hx hb dX8_readText_84 rfl (lv_at hl 0 rfl) ?_
        refine gf_X8_115 X hP (by decide) dX8_readText_85 h (fun v20 h => ?_)
        exact hj88 v20 H locs ls (lv_sub hl [] rfl) hP hS h
      · replace h := sx_ifn h c19
        refine lv_bipush (v := (-9 : Int32)) hx hb dX8_readText_79 (by decide) ?_
        refine lv_goto (tgt := 88) hx hb dX8_readText_81 (by decide) ?_
        exact hj88 (-9 : Int32) H locs ls (lv_sub hl [] rfl) hP hS h
set_option maxRecDepth 100000 in
theorem ct_8_readText (l : Launch) (C : sx_C) (hG : sx_G C) (M0 : sx_M) (r : Int32) (M' : sx_M) (h : f8_readText M0 = some (r, M')) : Met l yX8_readText (.code yX8_readText cX8_readText 2 (some .int) :: sx_T) ({ frames := 7, cells := 0, slots := 0, locals := 154 } : Room) (sx_Pc C M0 [.ref (sx_ad C 17 0)]) (sx_Q C (some (.int r)) M') 0 0 (sx_A C) := by
  refine Met.ofW (cc := cX8_readText) (maxL := 2) (ret := (some .int)) (by decide) rfl ?_
  intro p e s m args below meth c s₁ B hml hv
  obtain ⟨rfl, hz, hP, hK⟩ := hv
  have hl := lv_entry ([.ref (sx_ad C 17 0)]) (n := 2) (Nat.le_of_ble_eq_true rfl)
  rw [lg_entry_eq]
  generalize (lg_sl ([.ref (sx_ad C 17 0)]) ++ List.replicate (2 - (lg_sl ([.ref (sx_ad C 17 0)])).length) Slot.unset).toArray = ls at hl ⊢
  exact wk_8_readText ⟨B.exec, B.bytes, hml, findClass_of_methodNamed B.named, fun w hw => atoms_spec B.pre w (List.mem_cons_of_mem _ hw), hK⟩ B.returns B.notSynchronized hG hz ⟨Nat.zero_le _, Nat.zero_le _⟩ ⟨Nat.le_refl _, Nat.le_refl _⟩ M0 r M' h hl hP va_S.rf
theorem cl_X8_191 (X : sx_X C p m c cc nL s args RX8) (hG : sx_G C) (hP : sx_W C M0 H) (hz : sx_sz C ≤ H0.size) (hS : va_S (sx_A C) H0 H locs) {r : Int32} {M' : sx_M} (h : f8_readText M0 = some (r, M')) (hsz : ls.size = nL) (hdg : decode cc pc = .ok (.invokevirtual 191, 3)) (hcs : cells ≤ R.cells ∧ slots ≤ R.slots) (hR : 7 + 1 ≤ R.frames ∧ 8 + (2 + 11) + 154 ≤ R.locals) (hrest : (rest.map fun v => v.category).sum ≤ 8) (kk : ∀ (H1 : Heap) (locs1 : List Loc), sx_W C M' H1 → va_S (sx_A C) H0 H1 locs1 → W p l e R s m args below meth c H1 locs1 cells slots Q (F0 m (pc + 3) ls ((.int r) :: rest))) : W p l e R s m args below meth c H locs cells slots Q (F0 m pc ls (.ref (sx_ad C 17 0) :: rest)) :=
  sx_callV (n := 0) (As := []) (k0 := 17) (s0 := 0) X hP hz hS (by decide) rfl rfl (sx_goodV tw_1050 tw_1052 tw_25 tw_71 tw_1053) (by decide +kernel) rfl rfl hR (ct_8_readText l C hG M0 r M' h) rfl rfl hrest hsz hdg hcs kk
-- StringShedModel.errorPosition()I
def f8_errorPosition  (M0 : sx_M) : Option (Int32 × sx_M) :=
  sx_bd (sx_set M0 17 0 0 (0 : Int32)) fun M1 =>
  sx_b2 (f8_readText M1) fun v2 M3 =>
  some (v2, M3)
set_option maxRecDepth 100000 in
set_option maxHeartbeats 4000000 in
theorem wk_8_errorPosition (X : sx_X C p m c cX8_errorPosition 1 s args RX8) (hr : meth.sig.returnType = (some .int)) (hlocks : meth.locks = false) (hG : sx_G C) (hz : sx_sz C ≤ s.heap.size) (hcs : 0 ≤ R.cells ∧ 0 ≤ R.slots) (hR : 8 ≤ R.frames ∧ 175 ≤ R.locals) (M0 : sx_M) (r : Int32) (M' : sx_M) (h : f8_errorPosition M0 = some (r, M')) (hl : lv_has ls 1 [(0, .ref (sx_ad C 17 0))]) (hP : sx_W C M0 H) (hS : va_S (sx_A C) s.heap H locs) : W p l e R s m args below meth c H locs 0 0 (sx_Z C (some (.int r)) M' below args s) (F0 m 0 ls []) := by
  obtain ⟨hx, hb, hml, hown, hts, hK⟩ := id X
  rw [f8_errorPosition] at h
  refine lv_aload_n hx hb dX8_errorPosition_0 rfl (lv_at hl 0 rfl) ?_
  refine lv_iconst (v := (0 : Int32)) hx hb dX8_errorPosition_1 (by decide) ?_
  refine pf_X8_47 X hG hP hS (by decide) dX8_errorPosition_2 h (fun M1 H locs h hP hS => ?_)
  refine lv_aload_n hx hb dX8_errorPosition_5 rfl (lv_at hl 0 rfl) ?_
  obtain ⟨v2, M3, e_v2, h⟩ := sx_bnd2 h
  refine cl_X8_191 X hG hP hz hS  e_v2 hl.1 dX8_errorPosition_6 hcs ⟨Nat.le_trans (by decide) hR.1, Nat.le_trans (by decide) hR.2⟩ (Nat.le_of_ble_eq_true rfl) (fun H locs hP hS => ?_)
  exact sx_iretM X hr hlocks hS hP h dX8_errorPosition_9
set_option maxRecDepth 100000 in
theorem ct_8_errorPosition (l : Launch) (C : sx_C) (hG : sx_G C) (M0 : sx_M) (r : Int32) (M' : sx_M) (h : f8_errorPosition M0 = some (r, M')) : Met l yX8_errorPosition (.code yX8_errorPosition cX8_errorPosition 1 (some .int) :: sx_T) ({ frames := 8, cells := 0, slots := 0, locals := 175 } : Room) (sx_Pc C M0 [.ref (sx_ad C 17 0)]) (sx_Q C (some (.int r)) M') 0 0 (sx_A C) := by
  refine Met.ofW (cc := cX8_errorPosition) (maxL := 1) (ret := (some .int)) (by decide) rfl ?_
  intro p e s m args below meth c s₁ B hml hv
  obtain ⟨rfl, hz, hP, hK⟩ := hv
  have hl := lv_entry ([.ref (sx_ad C 17 0)]) (n := 1) (Nat.le_of_ble_eq_true rfl)
  rw [lg_entry_eq]
  generalize (lg_sl ([.ref (sx_ad C 17 0)]) ++ List.replicate (1 - (lg_sl ([.ref (sx_ad C 17 0)])).length) Slot.unset).toArray = ls at hl ⊢
  exact wk_8_errorPosition ⟨B.exec, B.bytes, hml, findClass_of_methodNamed B.named, fun w hw => atoms_spec B.pre w (List.mem_cons_of_mem _ hw), hK⟩ B.returns B.notSynchronized hG hz ⟨Nat.zero_le _, Nat.zero_le _⟩ ⟨Nat.le_refl _, Nat.le_refl _⟩ M0 r M' h hl hP va_S.rf
theorem cl_L_108 (X : sx_X C p m c cc nL s args RL) (hG : sx_G C) (hP : sx_W C M0 H) (hz : sx_sz C ≤ H0.size) (hS : va_S (sx_A C) H0 H locs) {r : Int32} {M' : sx_M} (h : f8_errorPosition M0 = some (r, M')) (hsz : ls.size = nL) (hdg : decode cc pc = .ok (.invokevirtual 108, 3)) (hcs : cells ≤ R.cells ∧ slots ≤ R.slots) (hR : 8 + 1 ≤ R.frames ∧ 8 + (1 + 11) + 175 ≤ R.locals) (hrest : (rest.map fun v => v.category).sum ≤ 8) (kk : ∀ (H1 : Heap) (locs1 : List Loc), sx_W C M' H1 → va_S (sx_A C) H0 H1 locs1 → W p l e R s m args below meth c H1 locs1 cells slots Q (F0 m (pc + 3) ls ((.int r) :: rest))) : W p l e R s m args below meth c H locs cells slots Q (F0 m pc ls (.ref (sx_ad C 17 0) :: rest)) :=
  sx_callV (n := 0) (As := []) (k0 := 17) (s0 := 0) X hP hz hS (by decide) rfl rfl (sx_goodV tw_1046 tw_1047 tw_1048 tw_71 tw_1049) (by decide +kernel) rfl rfl hR (ct_8_errorPosition l C hG M0 r M' h) rfl rfl hrest hsz hdg hcs kk
-- StringShedModel.load()I
def f8_load  (M0 : sx_M) : Option (Int32 × sx_M) :=
  sx_b2 (f8_readText M0) fun v1 M2 =>
  sx_bd (fun (v3 : Int32) =>
    sx_b2 (f8_refused v3 M2) fun v4 M5 =>
    if v4 = 0 then
      (f8_copy 19 (0 : Int32) 20 (0 : Int32) (247 : Int32) M5).bind fun M7 =>
      sx_bd (sx_set M7 17 0 10 (0 : Int32)) fun M8 =>
      if sx_in (0 : Int32) 2 ∧ ((0 : Int32) = 0 ∨ (0 : Int32) = 1) then
      sx_bd (sx_set M8 24 0 ((0 : Int32)).toNatClampNeg (0 : Int32)) fun M9 =>
      if sx_in (1 : Int32) 2 ∧ ((0 : Int32) = 0 ∨ (0 : Int32) = 1) then
      sx_bd (sx_set M9 24 0 ((1 : Int32)).toNatClampNeg (0 : Int32)) fun M10 =>
      sx_bd (M10.1 17 0 5) fun v11 =>
      some (v11, M10)
      else none
      else none
    else
      some ((0 : Int32), M5)) fun j15 =>
  if v1 = (-9 : Int32) then
    j15 (0 : Int32)
  else
    j15 (1 : Int32)
set_option maxRecDepth 100000 in
set_option maxHeartbeats 4000000 in
theorem wk_8_load (X : sx_X C p m c cX8_load 1 s args RX8) (hr : meth.sig.returnType = (some .int)) (hlocks : meth.locks = false) (hG : sx_G C) (hz : sx_sz C ≤ s.heap.size) (hcs : 0 ≤ R.cells ∧ 0 ≤ R.slots) (hR : 8 ≤ R.frames ∧ 175 ≤ R.locals) (M0 : sx_M) (r : Int32) (M' : sx_M) (h : f8_load M0 = some (r, M')) (hl : lv_has ls 1 [(0, .ref (sx_ad C 17 0))]) (hP : sx_W C M0 H) (hS : va_S (sx_A C) s.heap H locs) : W p l e R s m args below meth c H locs 0 0 (sx_Z C (some (.int r)) M' below args s) (F0 m 0 ls []) := by
  obtain ⟨hx, hb, hml, hown, hts, hK⟩ := id X
  rw [f8_load] at h
  refine lv_aload_n hx hb dX8_load_0 rfl (lv_at hl 0 rfl) ?_
  refine lv_aload_n hx hb dX8_load_1 rfl (lv_at hl 0 rfl) ?_
  obtain ⟨v1, M2, e_v1, h⟩ := sx_bnd2 h
  refine cl_X8_191 X hG hP hz hS  e_v1 hl.1 dX8_load_2 hcs ⟨Nat.le_trans (by decide) hR.1, Nat.le_trans (by decide) hR.2⟩ (Nat.le_of_ble_eq_true rfl) (fun H locs hP hS => ?_)
  refine lv_bipush (v := (-9 : Int32)) hx hb dX8_load_5 (by decide) ?_
  obtain ⟨j15, e_j15, h⟩ := sx_nm h
  have hj15 : ∀ (v3 : Int32) (H : Heap) (locs : List Loc) (ls : Array Slot), lv_has ls 1 [(0, .ref (sx_ad C 17 0))] → sx_W C M2 H → va_S (sx_A C) s.heap H locs → j15 v3 = some (r, M') → W p l e R s m args below meth c H locs 0 0 (sx_Z C (some (.int r)) M' below args s) (F0 m 15 ls [.int v3, .ref (sx_ad C 17 0)]) := by
    intro v3 H locs ls hl hP hS h
    subst e_j15
    obtain ⟨v4, M5, e_v4, h⟩ := sx_bnd2 h
    refine cl_X8_111 X hG hP hz hS  e_v4 hl.1 dX8_load_15 hcs ⟨Nat.le_trans (by decide) hR.1, Nat.le_trans (by decide) hR.2⟩ (Nat.le_of_ble_eq_true rfl) (fun H locs hP hS => ?_)
    refine lv_if_eq (tgt := 23) hx hb dX8_load_18 (by decide) (fun c6 => ?_) (fun c6 => ?_)
    · replace h := sx_ifp h c6
      refine lv_aload_n hx hb dX8_load_23 rfl (lv_at hl 0 rfl) ?_
      refine gf_X8_13 X hP (by decide) dX8_load_24 ?_
      refine lv_iconst (v := (0 : Int32)) hx hb dX8_load_27 (by decide) ?_
      refine lv_aload_n hx hb dX8_load_28 rfl (lv_at hl 0 rfl) ?_
      refine gf_X8_16 X hP (by decide) dX8_load_29 ?_
      refine lv_iconst (v := (0 : Int32)) hx hb dX8_load_32 (by decide) ?_
      refine lv_sipush (v := (247 : Int32)) hx hb dX8_load_33 (by decide) ?_
      obtain ⟨M7, e_M7, h⟩ := sx_bnd h
      refine cl_X8_56 X hG hP hz hS sx_row19 sx_row20 e_M7 hl.1 dX8_load_36 hcs ⟨Nat.le_trans (by decide) hR.1, Nat.le_trans (by decide) hR.2⟩ (Nat.le_of_ble_eq_true rfl) (fun H locs hP hS => ?_)
      refine lv_aload_n hx hb dX8_load_39 rfl (lv_at hl 0 rfl) ?_
      refine lv_iconst (v := (0 : Int32)) hx hb dX8_load_40 (by decide) ?_
      refine pf_X8_53 X hG hP hS (by decide) dX8_load_41 h (fun M8 H locs h hP hS => ?_)
      refine lv_aload_n hx hb dX8_load_44 rfl (lv_at hl 0 rfl) ?_
      refine gf_X8_28 X hP (by decide) dX8_load_45 ?_
      refine lv_iconst (v := (0 : Int32)) hx hb dX8_load_48 (by decide) ?_
      refine lv_iconst (v := (0 : Int32)) hx hb dX8_load_49 (by decide) ?_
      refine sx_zast X hG hP hS 24 0 2 (by decide) (fun _ _ => rfl) dX8_load_50 h (fun M9 H locs h hP hS => ?_)
      refine lv_aload_n hx hb dX8_load_51 rfl (lv_at hl 0 rfl) ?_
      refine gf_X8_28 X hP (by decide) dX8_load_52 ?_
      refine lv_iconst (v := (1 : Int32)) hx hb dX8_load_55 (by decide) ?_
      refine lv_iconst (v := (0 : Int32)) hx hb dX8_load_56 (by decide) ?_
      refine sx_zast X hG hP hS 24 0 2 (by decide) (fun _ _ => rfl) dX8_load_57 h (fun M10 H locs h hP hS => ?_)
      refine lv_aload_n hx hb dX8_load_58 rfl (lv_at hl 0 rfl) ?_
      refine gf_X8_138 X hP (by decide) dX8_load_59 h (fun v11 h => ?_)
      exact sx_iretM X hr hlocks hS hP h dX8_load_62
    · replace h := sx_ifn h c6
      refine lv_iconst (v := (0 : Int32)) hx hb dX8_load_21 (by decide) ?_
      exact sx_iretM X hr hlocks hS hP h dX8_load_22
  clear e_j15
  refine lv_icmp_ne (tgt := 14) hx hb dX8_load_7 (by decide) (fun c12 => ?_) (fun c12 => ?_)
  · replace h := sx_ifn h c12
    refine lv_iconst (v := (1 : Int32)) hx hb dX8_load_14 (by decide) ?_
    exact hj15 (1 : Int32) H locs ls (lv_sub hl [0] rfl) hP hS h
  · replace h := sx_ifp h c12
    refine lv_iconst (v := (0 : Int32)) hx hb dX8_load_10 (by decide) ?_
    refine lv_goto (tgt := 15) hx hb dX8_load_11 (by decide) ?_
    exact hj15 (0 : Int32) H locs ls (lv_sub hl [0] rfl) hP hS h
set_option maxRecDepth 100000 in
theorem ct_8_load (l : Launch) (C : sx_C) (hG : sx_G C) (M0 : sx_M) (r : Int32) (M' : sx_M) (h : f8_load M0 = some (r, M')) : Met l yX8_load (.code yX8_load cX8_load 1 (some .int) :: sx_T) ({ frames := 8, cells := 0, slots := 0, locals := 175 } : Room) (sx_Pc C M0 [.ref (sx_ad C 17 0)]) (sx_Q C (some (.int r)) M') 0 0 (sx_A C) := by
  refine Met.ofW (cc := cX8_load) (maxL := 1) (ret := (some .int)) (by decide) rfl ?_
  intro p e s m args below meth c s₁ B hml hv
  obtain ⟨rfl, hz, hP, hK⟩ := hv
  have hl := lv_entry ([.ref (sx_ad C 17 0)]) (n := 1) (Nat.le_of_ble_eq_true rfl)
  rw [lg_entry_eq]
  generalize (lg_sl ([.ref (sx_ad C 17 0)]) ++ List.replicate (1 - (lg_sl ([.ref (sx_ad C 17 0)])).length) Slot.unset).toArray = ls at hl ⊢
  exact wk_8_load ⟨B.exec, B.bytes, hml, findClass_of_methodNamed B.named, fun w hw => atoms_spec B.pre w (List.mem_cons_of_mem _ hw), hK⟩ B.returns B.notSynchronized hG hz ⟨Nat.zero_le _, Nat.zero_le _⟩ ⟨Nat.le_refl _, Nat.le_refl _⟩ M0 r M' h hl hP va_S.rf
theorem cl_L_112 (X : sx_X C p m c cc nL s args RL) (hG : sx_G C) (hP : sx_W C M0 H) (hz : sx_sz C ≤ H0.size) (hS : va_S (sx_A C) H0 H locs) {r : Int32} {M' : sx_M} (h : f8_load M0 = some (r, M')) (hsz : ls.size = nL) (hdg : decode cc pc = .ok (.invokevirtual 112, 3)) (hcs : cells ≤ R.cells ∧ slots ≤ R.slots) (hR : 8 + 1 ≤ R.frames ∧ 8 + (1 + 11) + 175 ≤ R.locals) (hrest : (rest.map fun v => v.category).sum ≤ 8) (kk : ∀ (H1 : Heap) (locs1 : List Loc), sx_W C M' H1 → va_S (sx_A C) H0 H1 locs1 → W p l e R s m args below meth c H1 locs1 cells slots Q (F0 m (pc + 3) ls ((.int r) :: rest))) : W p l e R s m args below meth c H locs cells slots Q (F0 m pc ls (.ref (sx_ad C 17 0) :: rest)) :=
  sx_callV (n := 0) (As := []) (k0 := 17) (s0 := 0) X hP hz hS (by decide) rfl rfl (sx_goodV tw_1156 tw_1157 tw_1158 tw_71 tw_1159) (by decide +kernel) rfl rfl hR (ct_8_load l C hG M0 r M' h) rfl rfl hrest hsz hdg hcs kk
-- StringShedModel.frayed()I pure
def f8_frayed_L4 (M0 : sx_M) : Nat → Int32 → Int32 → Option (Int32)
  | 0, _, _ => none
  | n + 1, x1, x2 =>
    if sx_in (2 : Int32) 247 then
    sx_bd (M0.1 20 0 ((2 : Int32)).toNatClampNeg) fun v1 =>
    if v1 ≤ x2 then
      some x1
    else
      (f8_cordAt x2 (2 : Int32) M0).bind fun v3 =>
      if sx_in v3 247 then
      sx_bd (M0.1 20 0 (v3).toNatClampNeg) fun v4 =>
      sx_bd (x1 + ((1 : Int32) - v4)) fun v5 =>
      sx_bd (x2 + (1 : Int32)) fun v6 =>
      f8_frayed_L4 M0 n v5 v6
      else none
    else none
def f8_frayed  (M0 : sx_M) : Option (Int32) :=
  f8_frayed_L4 M0
    5000 (0 : Int32) (0 : Int32)
set_option maxRecDepth 100000 in
set_option maxHeartbeats 4000000 in
theorem wk_8_frayed (X : sx_X C p m c cX8_frayed 3 s args RX8) (hr : meth.sig.returnType = (some .int)) (hlocks : meth.locks = false) (hG : sx_G C) (hz : sx_sz C ≤ s.heap.size) (hcs : 0 ≤ R.cells ∧ 0 ≤ R.slots) (hR : 1 ≤ R.frames ∧ 21 ≤ R.locals) (M0 : sx_M) (r : Int32) (h : f8_frayed M0 = some r) (hl : lv_has ls 3 [(0, .ref (sx_ad C 17 0))]) (hP : sx_W C M0 H) (hS : va_S (sx_A C) s.heap H locs) : W p l e R s m args below meth c H locs 0 0 (sx_Z C (some (.int r)) M0 below args s) (F0 m 0 ls []) := by
  obtain ⟨hx, hb, hml, hown, hts, hK⟩ := id X
  rw [f8_frayed] at h
  have hf8_frayed_L4 : ∀ (n : Nat) (x1 : Int32) (x2 : Int32) (H : Heap) (locs : List Loc) (ls : Array Slot), lv_has ls 3 [(0, .ref (sx_ad C 17 0)), (1, .int x1), (2, .int x2)] → sx_W C M0 H → va_S (sx_A C) s.heap H locs → f8_frayed_L4 M0 n x1 x2 = some r → W p l e R s m args below meth c H locs 0 0 (sx_Z C (some (.int r)) M0 below args s) (F0 m 4 ls []) := by
    intro n
    induction n with
    | zero => intro x1 x2 H locs ls hl hP hS h; exact absurd (show (none : Option (Int32)) = some r from h) (fun q => nomatch q)
    | succ n ih =>
      intro x1 x2 H locs ls hl hP hS h
      rw [f8_frayed_L4] at h
      refine lv_iload_n hx hb dX8_frayed_4 rfl (lv_at hl 2 rfl) ?_
      refine lv_aload_n hx hb dX8_frayed_5 rfl (lv_at hl 0 rfl) ?_
      refine gf_X8_16 X hP (by decide) dX8_frayed_6 ?_
      refine lv_iconst (v := (2 : Int32)) hx hb dX8_frayed_9 (by decide) ?_
      refine sx_iald X hP 20 0 247 (by decide) (fun _ _ => rfl) dX8_frayed_10 h (fun v1 h => ?_)
      refine lv_icmp_ge (tgt := 35) hx hb dX8_frayed_11 (by decide) (fun c2 => ?_) (fun c2 => ?_)
      · replace h := sx_ifp h c2
        refine lv_iload_n hx hb dX8_frayed_35 rfl (lv_at hl 1 rfl) ?_
        exact sx_iret X hr hlocks hS hP h dX8_frayed_36
      · replace h := sx_ifn h c2
        refine lv_iload_n hx hb dX8_frayed_14 rfl (lv_at hl 1 rfl) ?_
        refine lv_iconst (v := (1 : Int32)) hx hb dX8_frayed_15 (by decide) ?_
        refine lv_aload_n hx hb dX8_frayed_16 rfl (lv_at hl 0 rfl) ?_
        refine gf_X8_16 X hP (by decide) dX8_frayed_17 ?_
        refine lv_iload_n hx hb dX8_frayed_20 rfl (lv_at hl 2 rfl) ?_
        refine lv_iconst (v := (2 : Int32)) hx hb dX8_frayed_21 (by decide) ?_
        obtain ⟨v3, e_v3, h⟩ := sx_bnd h
        refine cl_X8_78 X hG hP hz hS  e_v3 hl.1 dX8_frayed_22 hcs ⟨Nat.le_trans (by decide) hR.1, Nat.le_trans (by decide) hR.2⟩ (Nat.le_of_ble_eq_true rfl) (fun H locs hP hS => ?_)
        refine sx_iald X hP 20 0 247 (by decide) (fun _ _ => rfl) dX8_frayed_25 h (fun v4 h => ?_)
        refine lv_isub hx hb dX8_frayed_26 ?_
        refine lv_iadd hx hb dX8_frayed_27 ?_
        obtain ⟨v5, e_v5, h⟩ := sx_nm h
        rw [e_v5]
        refine lv_istore_n (lv' := [(1, .int v5), (0, .ref (sx_ad C 17 0)), (2, .int x2)]) hx hb dX8_frayed_28 rfl hl (by decide) rfl (fun ls hl => ?_)
        obtain ⟨v6, e_v6, h⟩ := sx_nm h
        refine lv_iinc (v := v6) (lv' := [(2, .int v6), (1, .int v5), (0, .ref (sx_ad C 17 0))]) hx hb dX8_frayed_29 hl (k := 2) rfl (by rw [← e_v6]; rfl) (by decide) rfl (fun ls hl => ?_)
        refine lv_goto (tgt := 4) hx hb dX8_frayed_32 (by decide) ?_
        exact ih v5 v6 H locs ls (lv_sub hl [2, 1, 0] rfl) hP hS h
  refine lv_iconst (v := (0 : Int32)) hx hb dX8_frayed_0 (by decide) ?_
  refine lv_istore_n (lv' := [(1, .int (0 : Int32)), (0, .ref (sx_ad C 17 0))]) hx hb dX8_frayed_1 rfl hl (by decide) rfl (fun ls hl => ?_)
  refine lv_iconst (v := (0 : Int32)) hx hb dX8_frayed_2 (by decide) ?_
  refine lv_istore_n (lv' := [(2, .int (0 : Int32)), (1, .int (0 : Int32)), (0, .ref (sx_ad C 17 0))]) hx hb dX8_frayed_3 rfl hl (by decide) rfl (fun ls hl => ?_)
  exact hf8_frayed_L4 5000 (0 : Int32) (0 : Int32) H locs ls (lv_sub hl [2, 1, 0] rfl) hP hS h
set_option maxRecDepth 100000 in
theorem ct_8_frayed (l : Launch) (C : sx_C) (hG : sx_G C) (M0 : sx_M) (r : Int32) (h : f8_frayed M0 = some r) : Met l yX8_frayed (.code yX8_frayed cX8_frayed 3 (some .int) :: sx_T) ({ frames := 1, cells := 0, slots := 0, locals := 21 } : Room) (sx_Pc C M0 [.ref (sx_ad C 17 0)]) (sx_Q C (some (.int r)) M0) 0 0 (sx_A C) := by
  refine Met.ofW (cc := cX8_frayed) (maxL := 3) (ret := (some .int)) (by decide) rfl ?_
  intro p e s m args below meth c s₁ B hml hv
  obtain ⟨rfl, hz, hP, hK⟩ := hv
  have hl := lv_entry ([.ref (sx_ad C 17 0)]) (n := 3) (Nat.le_of_ble_eq_true rfl)
  rw [lg_entry_eq]
  generalize (lg_sl ([.ref (sx_ad C 17 0)]) ++ List.replicate (3 - (lg_sl ([.ref (sx_ad C 17 0)])).length) Slot.unset).toArray = ls at hl ⊢
  exact wk_8_frayed ⟨B.exec, B.bytes, hml, findClass_of_methodNamed B.named, fun w hw => atoms_spec B.pre w (List.mem_cons_of_mem _ hw), hK⟩ B.returns B.notSynchronized hG hz ⟨Nat.zero_le _, Nat.zero_le _⟩ ⟨Nat.le_refl _, Nat.le_refl _⟩ M0 r h hl hP va_S.rf
theorem cl_X8_196 (X : sx_X C p m c cc nL s args RX8) (hG : sx_G C) (hP : sx_W C M0 H) (hz : sx_sz C ≤ H0.size) (hS : va_S (sx_A C) H0 H locs) {r : Int32} (h : f8_frayed M0 = some r) (hsz : ls.size = nL) (hdg : decode cc pc = .ok (.invokevirtual 196, 3)) (hcs : cells ≤ R.cells ∧ slots ≤ R.slots) (hR : 1 + 1 ≤ R.frames ∧ 8 + (3 + 11) + 21 ≤ R.locals) (hrest : (rest.map fun v => v.category).sum ≤ 8) (kk : ∀ (H1 : Heap) (locs1 : List Loc), sx_W C M0 H1 → va_S (sx_A C) H0 H1 locs1 → W p l e R s m args below meth c H1 locs1 cells slots Q (F0 m (pc + 3) ls ((.int r) :: rest))) : W p l e R s m args below meth c H locs cells slots Q (F0 m pc ls (.ref (sx_ad C 17 0) :: rest)) :=
  sx_callV (n := 0) (As := []) (k0 := 17) (s0 := 0) X hP hz hS (by decide) rfl rfl (sx_goodV tw_1165 tw_1167 tw_37 tw_71 tw_1168) (by decide +kernel) rfl rfl hR (ct_8_frayed l C hG M0 r h) rfl rfl hrest hsz hdg hcs kk
-- StringShedModel.pinned()I pure
def f8_pinned_L4 (M0 : sx_M) : Nat → Int32 → Int32 → Option (Int32)
  | 0, _, _ => none
  | n + 1, x1, x2 =>
    if sx_in (0 : Int32) 247 then
    sx_bd (M0.1 20 0 ((0 : Int32)).toNatClampNeg) fun v1 =>
    if v1 ≤ x2 then
      some x1
    else
      (f8_partAt x2 (2 : Int32) M0).bind fun v3 =>
      if sx_in v3 247 then
      sx_bd (M0.1 20 0 (v3).toNatClampNeg) fun v4 =>
      sx_bd (x1 + v4) fun v5 =>
      sx_bd (x2 + (1 : Int32)) fun v6 =>
      f8_pinned_L4 M0 n v5 v6
      else none
    else none
def f8_pinned  (M0 : sx_M) : Option (Int32) :=
  f8_pinned_L4 M0
    5000 (0 : Int32) (0 : Int32)
set_option maxRecDepth 100000 in
set_option maxHeartbeats 4000000 in
theorem wk_8_pinned (X : sx_X C p m c cX8_pinned 3 s args RX8) (hr : meth.sig.returnType = (some .int)) (hlocks : meth.locks = false) (hG : sx_G C) (hz : sx_sz C ≤ s.heap.size) (hcs : 0 ≤ R.cells ∧ 0 ≤ R.slots) (hR : 1 ≤ R.frames ∧ 21 ≤ R.locals) (M0 : sx_M) (r : Int32) (h : f8_pinned M0 = some r) (hl : lv_has ls 3 [(0, .ref (sx_ad C 17 0))]) (hP : sx_W C M0 H) (hS : va_S (sx_A C) s.heap H locs) : W p l e R s m args below meth c H locs 0 0 (sx_Z C (some (.int r)) M0 below args s) (F0 m 0 ls []) := by
  obtain ⟨hx, hb, hml, hown, hts, hK⟩ := id X
  rw [f8_pinned] at h
  have hf8_pinned_L4 : ∀ (n : Nat) (x1 : Int32) (x2 : Int32) (H : Heap) (locs : List Loc) (ls : Array Slot), lv_has ls 3 [(0, .ref (sx_ad C 17 0)), (1, .int x1), (2, .int x2)] → sx_W C M0 H → va_S (sx_A C) s.heap H locs → f8_pinned_L4 M0 n x1 x2 = some r → W p l e R s m args below meth c H locs 0 0 (sx_Z C (some (.int r)) M0 below args s) (F0 m 4 ls []) := by
    intro n
    induction n with
    | zero => intro x1 x2 H locs ls hl hP hS h; exact absurd (show (none : Option (Int32)) = some r from h) (fun q => nomatch q)
    | succ n ih =>
      intro x1 x2 H locs ls hl hP hS h
      rw [f8_pinned_L4] at h
      refine lv_iload_n hx hb dX8_pinned_4 rfl (lv_at hl 2 rfl) ?_
      refine lv_aload_n hx hb dX8_pinned_5 rfl (lv_at hl 0 rfl) ?_
      refine gf_X8_16 X hP (by decide) dX8_pinned_6 ?_
      refine lv_iconst (v := (0 : Int32)) hx hb dX8_pinned_9 (by decide) ?_
      refine sx_iald X hP 20 0 247 (by decide) (fun _ _ => rfl) dX8_pinned_10 h (fun v1 h => ?_)
      refine lv_icmp_ge (tgt := 33) hx hb dX8_pinned_11 (by decide) (fun c2 => ?_) (fun c2 => ?_)
      · replace h := sx_ifp h c2
        refine lv_iload_n hx hb dX8_pinned_33 rfl (lv_at hl 1 rfl) ?_
        exact sx_iret X hr hlocks hS hP h dX8_pinned_34
      · replace h := sx_ifn h c2
        refine lv_iload_n hx hb dX8_pinned_14 rfl (lv_at hl 1 rfl) ?_
        refine lv_aload_n hx hb dX8_pinned_15 rfl (lv_at hl 0 rfl) ?_
        refine gf_X8_16 X hP (by decide) dX8_pinned_16 ?_
        refine lv_iload_n hx hb dX8_pinned_19 rfl (lv_at hl 2 rfl) ?_
        refine lv_iconst (v := (2 : Int32)) hx hb dX8_pinned_20 (by decide) ?_
        obtain ⟨v3, e_v3, h⟩ := sx_bnd h
        refine cl_X8_66 X hG hP hz hS  e_v3 hl.1 dX8_pinned_21 hcs ⟨Nat.le_trans (by decide) hR.1, Nat.le_trans (by decide) hR.2⟩ (Nat.le_of_ble_eq_true rfl) (fun H locs hP hS => ?_)
        refine sx_iald X hP 20 0 247 (by decide) (fun _ _ => rfl) dX8_pinned_24 h (fun v4 h => ?_)
        refine lv_iadd hx hb dX8_pinned_25 ?_
        obtain ⟨v5, e_v5, h⟩ := sx_nm h
        rw [e_v5]
        refine lv_istore_n (lv' := [(1, .int v5), (0, .ref (sx_ad C 17 0)), (2, .int x2)]) hx hb dX8_pinned_26 rfl hl (by decide) rfl (fun ls hl => ?_)
        obtain ⟨v6, e_v6, h⟩ := sx_nm h
        refine lv_iinc (v := v6) (lv' := [(2, .int v6), (1, .int v5), (0, .ref (sx_ad C 17 0))]) hx hb dX8_pinned_27 hl (k := 2) rfl (by rw [← e_v6]; rfl) (by decide) rfl (fun ls hl => ?_)
        refine lv_goto (tgt := 4) hx hb dX8_pinned_30 (by decide) ?_
        exact ih v5 v6 H locs ls (lv_sub hl [2, 1, 0] rfl) hP hS h
  refine lv_iconst (v := (0 : Int32)) hx hb dX8_pinned_0 (by decide) ?_
  refine lv_istore_n (lv' := [(1, .int (0 : Int32)), (0, .ref (sx_ad C 17 0))]) hx hb dX8_pinned_1 rfl hl (by decide) rfl (fun ls hl => ?_)
  refine lv_iconst (v := (0 : Int32)) hx hb dX8_pinned_2 (by decide) ?_
  refine lv_istore_n (lv' := [(2, .int (0 : Int32)), (1, .int (0 : Int32)), (0, .ref (sx_ad C 17 0))]) hx hb dX8_pinned_3 rfl hl (by decide) rfl (fun ls hl => ?_)
  exact hf8_pinned_L4 5000 (0 : Int32) (0 : Int32) H locs ls (lv_sub hl [2, 1, 0] rfl) hP hS h
set_option maxRecDepth 100000 in
theorem ct_8_pinned (l : Launch) (C : sx_C) (hG : sx_G C) (M0 : sx_M) (r : Int32) (h : f8_pinned M0 = some r) : Met l yX8_pinned (.code yX8_pinned cX8_pinned 3 (some .int) :: sx_T) ({ frames := 1, cells := 0, slots := 0, locals := 21 } : Room) (sx_Pc C M0 [.ref (sx_ad C 17 0)]) (sx_Q C (some (.int r)) M0) 0 0 (sx_A C) := by
  refine Met.ofW (cc := cX8_pinned) (maxL := 3) (ret := (some .int)) (by decide) rfl ?_
  intro p e s m args below meth c s₁ B hml hv
  obtain ⟨rfl, hz, hP, hK⟩ := hv
  have hl := lv_entry ([.ref (sx_ad C 17 0)]) (n := 3) (Nat.le_of_ble_eq_true rfl)
  rw [lg_entry_eq]
  generalize (lg_sl ([.ref (sx_ad C 17 0)]) ++ List.replicate (3 - (lg_sl ([.ref (sx_ad C 17 0)])).length) Slot.unset).toArray = ls at hl ⊢
  exact wk_8_pinned ⟨B.exec, B.bytes, hml, findClass_of_methodNamed B.named, fun w hw => atoms_spec B.pre w (List.mem_cons_of_mem _ hw), hK⟩ B.returns B.notSynchronized hG hz ⟨Nat.zero_le _, Nat.zero_le _⟩ ⟨Nat.le_refl _, Nat.le_refl _⟩ M0 r h hl hP va_S.rf
theorem cl_X8_199 (X : sx_X C p m c cc nL s args RX8) (hG : sx_G C) (hP : sx_W C M0 H) (hz : sx_sz C ≤ H0.size) (hS : va_S (sx_A C) H0 H locs) {r : Int32} (h : f8_pinned M0 = some r) (hsz : ls.size = nL) (hdg : decode cc pc = .ok (.invokevirtual 199, 3)) (hcs : cells ≤ R.cells ∧ slots ≤ R.slots) (hR : 1 + 1 ≤ R.frames ∧ 8 + (3 + 11) + 21 ≤ R.locals) (hrest : (rest.map fun v => v.category).sum ≤ 8) (kk : ∀ (H1 : Heap) (locs1 : List Loc), sx_W C M0 H1 → va_S (sx_A C) H0 H1 locs1 → W p l e R s m args below meth c H1 locs1 cells slots Q (F0 m (pc + 3) ls ((.int r) :: rest))) : W p l e R s m args below meth c H locs cells slots Q (F0 m pc ls (.ref (sx_ad C 17 0) :: rest)) :=
  sx_callV (n := 0) (As := []) (k0 := 17) (s0 := 0) X hP hz hS (by decide) rfl rfl (sx_goodV tw_1169 tw_1171 tw_38 tw_71 tw_1172) (by decide +kernel) rfl rfl hR (ct_8_pinned l C hG M0 r h) rfl rfl hrest hsz hdg hcs kk
-- StringShedModel.deepest()I
def f8_deepest_L13 (M : sx_M) : Nat → Int32 → Int32 → Option (Int32 × sx_M)
  | 0, _, _ => none
  | n + 1, x1, x2 =>
    if (24 : Int32) ≤ x2 then
      some (x1, M)
    else
      if sx_in x2 24 then
      sx_bd (M.1 25 0 (x2).toNatClampNeg) fun v3 =>
      sx_bd (fun (v4 : Int32) =>
        sx_bd (x2 + (1 : Int32)) fun v5 =>
        f8_deepest_L13 M n v4 v5) fun j50 =>
      sx_bd (fun (_ : Unit) =>
        j50 x1) fun j49 =>
      if (99 : Int32) ≤ v3 then
        j49 ()
      else
        if sx_in x2 24 then
        sx_bd (M.1 25 0 (x2).toNatClampNeg) fun v7 =>
        if v7 ≤ x1 then
          j49 ()
        else
          if sx_in x2 24 then
          sx_bd (M.1 25 0 (x2).toNatClampNeg) fun v9 =>
          j50 v9
          else none
        else none
      else none
def f8_deepest  (M0 : sx_M) : Option (Int32 × sx_M) :=
  (f8_lay 20 M0).bind fun M1 =>
  f8_deepest_L13 M1
    5000 (-9 : Int32) (0 : Int32)
set_option maxRecDepth 100000 in
set_option maxHeartbeats 4000000 in
theorem wk_8_deepest (X : sx_X C p m c cX8_deepest 3 s args RX8) (hr : meth.sig.returnType = (some .int)) (hlocks : meth.locks = false) (hG : sx_G C) (hz : sx_sz C ≤ s.heap.size) (hcs : 0 ≤ R.cells ∧ 0 ≤ R.slots) (hR : 3 ≤ R.frames ∧ 72 ≤ R.locals) (M0 : sx_M) (r : Int32) (M' : sx_M) (h : f8_deepest M0 = some (r, M')) (hl : lv_has ls 3 [(0, .ref (sx_ad C 17 0))]) (hP : sx_W C M0 H) (hS : va_S (sx_A C) s.heap H locs) : W p l e R s m args below meth c H locs 0 0 (sx_Z C (some (.int r)) M' below args s) (F0 m 0 ls []) := by
  obtain ⟨hx, hb, hml, hown, hts, hK⟩ := id X
  rw [f8_deepest] at h
  have hf8_deepest_L13 : ∀ (M : sx_M) (n : Nat) (x1 : Int32) (x2 : Int32) (H : Heap) (locs : List Loc) (ls : Array Slot), lv_has ls 3 [(0, .ref (sx_ad C 17 0)), (1, .int x1), (2, .int x2)] → sx_W C M H → va_S (sx_A C) s.heap H locs → f8_deepest_L13 M n x1 x2 = some (r, M') → W p l e R s m args below meth c H locs 0 0 (sx_Z C (some (.int r)) M' below args s) (F0 m 13 ls []) := by
    intro M n
    induction n with
    | zero => intro x1 x2 H locs ls hl hP hS h; exact absurd (show (none : Option (Int32 × sx_M)) = some (r, M') from h) (fun q => nomatch q)
    | succ n ih =>
      intro x1 x2 H locs ls hl hP hS h
      rw [f8_deepest_L13] at h
      refine lv_iload_n hx hb dX8_deepest_13 rfl (lv_at hl 2 rfl) ?_
      refine lv_bipush (v := (24 : Int32)) hx hb dX8_deepest_14 (by decide) ?_
      refine lv_icmp_ge (tgt := 57) hx hb dX8_deepest_16 (by decide) (fun c2 => ?_) (fun c2 => ?_)
      · replace h := sx_ifp h c2
        refine lv_iload_n hx hb dX8_deepest_57 rfl (lv_at hl 1 rfl) ?_
        exact sx_iretM X hr hlocks hS hP h dX8_deepest_58
      · replace h := sx_ifn h c2
        refine lv_aload_n hx hb dX8_deepest_19 rfl (lv_at hl 0 rfl) ?_
        refine gf_X8_32 X hP (by decide) dX8_deepest_20 ?_
        refine lv_iload_n hx hb dX8_deepest_23 rfl (lv_at hl 2 rfl) ?_
        refine sx_iald X hP 25 0 24 (by decide) (fun _ _ => rfl) dX8_deepest_24 h (fun v3 h => ?_)
        refine lv_bipush (v := (99 : Int32)) hx hb dX8_deepest_25 (by decide) ?_
        obtain ⟨j50, e_j50, h⟩ := sx_nm h
        have hj50 : ∀ (v4 : Int32) (H : Heap) (locs : List Loc) (ls : Array Slot), lv_has ls 3 [(0, .ref (sx_ad C 17 0)), (2, .int x2)] → sx_W C M H → va_S (sx_A C) s.heap H locs → j50 v4 = some (r, M') → W p l e R s m args below meth c H locs 0 0 (sx_Z C (some (.int r)) M' below args s) (F0 m 50 ls [.int v4]) := by
          intro v4 H locs ls hl hP hS h
          subst e_j50
          refine lv_istore_n (lv' := [(1, .int v4), (0, .ref (sx_ad C 17 0)), (2, .int x2)]) hx hb dX8_deepest_50 rfl hl (by decide) rfl (fun ls hl => ?_)
          obtain ⟨v5, e_v5, h⟩ := sx_nm h
          refine lv_iinc (v := v5) (lv' := [(2, .int v5), (1, .int v4), (0, .ref (sx_ad C 17 0))]) hx hb dX8_deepest_51 hl (k := 2) rfl (by rw [← e_v5]; rfl) (by decide) rfl (fun ls hl => ?_)
          refine lv_goto (tgt := 13) hx hb dX8_deepest_54 (by decide) ?_
          exact ih v4 v5 H locs ls (lv_sub hl [2, 1, 0] rfl) hP hS h
        clear e_j50
        obtain ⟨j49, e_j49, h⟩ := sx_nm h
        have hj49 : ∀ (H : Heap) (locs : List Loc) (ls : Array Slot), lv_has ls 3 [(0, .ref (sx_ad C 17 0)), (1, .int x1), (2, .int x2)] → sx_W C M H → va_S (sx_A C) s.heap H locs → j49 () = some (r, M') → W p l e R s m args below meth c H locs 0 0 (sx_Z C (some (.int r)) M' below args s) (F0 m 49 ls []) := by
          intro  H locs ls hl hP hS h
          subst e_j49
          refine lv_iload_n hx hb dX8_deepest_49 rfl (lv_at hl 1 rfl) ?_
          exact hj50 x1 H locs ls (lv_sub hl [0, 2] rfl) hP hS h
        clear e_j49
        refine lv_icmp_ge (tgt := 49) hx hb dX8_deepest_27 (by decide) (fun c6 => ?_) (fun c6 => ?_)
        · replace h := sx_ifp h c6
          exact hj49 H locs ls (lv_sub hl [0, 1, 2] rfl) hP hS h
        · replace h := sx_ifn h c6
          refine lv_aload_n hx hb dX8_deepest_30 rfl (lv_at hl 0 rfl) ?_
          refine gf_X8_32 X hP (by decide) dX8_deepest_31 ?_
          refine lv_iload_n hx hb dX8_deepest_34 rfl (lv_at hl 2 rfl) ?_
          refine sx_iald X hP 25 0 24 (by decide) (fun _ _ => rfl) dX8_deepest_35 h (fun v7 h => ?_)
          refine lv_iload_n hx hb dX8_deepest_36 rfl (lv_at hl 1 rfl) ?_
          refine lv_icmp_le (tgt := 49) hx hb dX8_deepest_37 (by decide) (fun c8 => ?_) (fun c8 => ?_)
          · replace h := sx_ifp h c8
            exact hj49 H locs ls (lv_sub hl [0, 1, 2] rfl) hP hS h
          · replace h := sx_ifn h c8
            refine lv_aload_n hx hb dX8_deepest_40 rfl (lv_at hl 0 rfl) ?_
            refine gf_X8_32 X hP (by decide) dX8_deepest_41 ?_
            refine lv_iload_n hx hb dX8_deepest_44 rfl (lv_at hl 2 rfl) ?_
            refine sx_iald X hP 25 0 24 (by decide) (fun _ _ => rfl) dX8_deepest_45 h (fun v9 h => ?_)
            refine lv_goto (tgt := 50) hx hb dX8_deepest_46 (by decide) ?_
            exact hj50 v9 H locs ls (lv_sub hl [0, 2] rfl) hP hS h
  refine lv_aload_n hx hb dX8_deepest_0 rfl (lv_at hl 0 rfl) ?_
  refine lv_aload_n hx hb dX8_deepest_1 rfl (lv_at hl 0 rfl) ?_
  refine gf_X8_16 X hP (by decide) dX8_deepest_2 ?_
  obtain ⟨M1, e_M1, h⟩ := sx_bnd h
  refine cl_X8_81 X hG hP hz hS sx_row20 e_M1 hl.1 dX8_deepest_5 hcs ⟨Nat.le_trans (by decide) hR.1, Nat.le_trans (by decide) hR.2⟩ (Nat.le_of_ble_eq_true rfl) (fun H locs hP hS => ?_)
  refine lv_bipush (v := (-9 : Int32)) hx hb dX8_deepest_8 (by decide) ?_
  refine lv_istore_n (lv' := [(1, .int (-9 : Int32)), (0, .ref (sx_ad C 17 0))]) hx hb dX8_deepest_10 rfl hl (by decide) rfl (fun ls hl => ?_)
  refine lv_iconst (v := (0 : Int32)) hx hb dX8_deepest_11 (by decide) ?_
  refine lv_istore_n (lv' := [(2, .int (0 : Int32)), (1, .int (-9 : Int32)), (0, .ref (sx_ad C 17 0))]) hx hb dX8_deepest_12 rfl hl (by decide) rfl (fun ls hl => ?_)
  exact hf8_deepest_L13 M1 5000 (-9 : Int32) (0 : Int32) H locs ls (lv_sub hl [2, 1, 0] rfl) hP hS h
set_option maxRecDepth 100000 in
theorem ct_8_deepest (l : Launch) (C : sx_C) (hG : sx_G C) (M0 : sx_M) (r : Int32) (M' : sx_M) (h : f8_deepest M0 = some (r, M')) : Met l yX8_deepest (.code yX8_deepest cX8_deepest 3 (some .int) :: sx_T) ({ frames := 3, cells := 0, slots := 0, locals := 72 } : Room) (sx_Pc C M0 [.ref (sx_ad C 17 0)]) (sx_Q C (some (.int r)) M') 0 0 (sx_A C) := by
  refine Met.ofW (cc := cX8_deepest) (maxL := 3) (ret := (some .int)) (by decide) rfl ?_
  intro p e s m args below meth c s₁ B hml hv
  obtain ⟨rfl, hz, hP, hK⟩ := hv
  have hl := lv_entry ([.ref (sx_ad C 17 0)]) (n := 3) (Nat.le_of_ble_eq_true rfl)
  rw [lg_entry_eq]
  generalize (lg_sl ([.ref (sx_ad C 17 0)]) ++ List.replicate (3 - (lg_sl ([.ref (sx_ad C 17 0)])).length) Slot.unset).toArray = ls at hl ⊢
  exact wk_8_deepest ⟨B.exec, B.bytes, hml, findClass_of_methodNamed B.named, fun w hw => atoms_spec B.pre w (List.mem_cons_of_mem _ hw), hK⟩ B.returns B.notSynchronized hG hz ⟨Nat.zero_le _, Nat.zero_le _⟩ ⟨Nat.le_refl _, Nat.le_refl _⟩ M0 r M' h hl hP va_S.rf
theorem cl_X8_208 (X : sx_X C p m c cc nL s args RX8) (hG : sx_G C) (hP : sx_W C M0 H) (hz : sx_sz C ≤ H0.size) (hS : va_S (sx_A C) H0 H locs) {r : Int32} {M' : sx_M} (h : f8_deepest M0 = some (r, M')) (hsz : ls.size = nL) (hdg : decode cc pc = .ok (.invokevirtual 208, 3)) (hcs : cells ≤ R.cells ∧ slots ≤ R.slots) (hR : 3 + 1 ≤ R.frames ∧ 8 + (3 + 11) + 72 ≤ R.locals) (hrest : (rest.map fun v => v.category).sum ≤ 8) (kk : ∀ (H1 : Heap) (locs1 : List Loc), sx_W C M' H1 → va_S (sx_A C) H0 H1 locs1 → W p l e R s m args below meth c H1 locs1 cells slots Q (F0 m (pc + 3) ls ((.int r) :: rest))) : W p l e R s m args below meth c H locs cells slots Q (F0 m pc ls (.ref (sx_ad C 17 0) :: rest)) :=
  sx_callV (n := 0) (As := []) (k0 := 17) (s0 := 0) X hP hz hS (by decide) rfl rfl (sx_goodV tw_1185 tw_1187 tw_42 tw_71 tw_1188) (by decide +kernel) rfl rfl hR (ct_8_deepest l C hG M0 r M' h) rfl rfl hrest hsz hdg hcs kk
-- StringShedModel.about(I)I
def f8_about (a1 : Int32) (M0 : sx_M) : Option (Int32 × sx_M) :=
  (f8_in a1.toInt64 (0 : Int64) (11 : Int64) M0).bind fun v1 =>
  sx_bd (fun (v2 : Int32) =>
    sx_b2 (f8_refused v2 M0) fun v3 M4 =>
    if v3 = 0 then
      if a1 = (0 : Int32) then
        if sx_in (0 : Int32) 247 then
        sx_bd (M4.1 20 0 ((0 : Int32)).toNatClampNeg) fun v7 =>
        if sx_in (1 : Int32) 247 then
        sx_bd (M4.1 20 0 ((1 : Int32)).toNatClampNeg) fun v8 =>
        some (v7 - v8, M4)
        else none
        else none
      else
      if a1 = (1 : Int32) then
        if sx_in (0 : Int32) 247 then
        sx_bd (M4.1 20 0 ((0 : Int32)).toNatClampNeg) fun v10 =>
        some (v10, M4)
        else none
      else
      if a1 = (2 : Int32) then
        if sx_in (1 : Int32) 247 then
        sx_bd (M4.1 20 0 ((1 : Int32)).toNatClampNeg) fun v12 =>
        some (v12, M4)
        else none
      else
      if a1 = (3 : Int32) then
        if sx_in (2 : Int32) 247 then
        sx_bd (M4.1 20 0 ((2 : Int32)).toNatClampNeg) fun v14 =>
        some (v14, M4)
        else none
      else
      if a1 = (4 : Int32) then
        (f8_frayed M4).bind fun v16 =>
        some (v16, M4)
      else
      if a1 = (5 : Int32) then
        (f8_pinned M4).bind fun v18 =>
        some (v18, M4)
      else
      if a1 = (6 : Int32) then
        sx_b2 (f8_heldMany 20 M4) fun v20 M21 =>
        some (v20, M21)
      else
      if a1 = (7 : Int32) then
        sx_b2 (f8_heldWeight 20 M4) fun v23 M24 =>
        some (v23, M24)
      else
      if a1 = (8 : Int32) then
        if sx_in (3 : Int32) 247 then
        sx_bd (M4.1 20 0 ((3 : Int32)).toNatClampNeg) fun v26 =>
        some (v26, M4)
        else none
      else
      if a1 = (9 : Int32) then
        if sx_in (4 : Int32) 247 then
        sx_bd (M4.1 20 0 ((4 : Int32)).toNatClampNeg) fun v28 =>
        some (v28, M4)
        else none
      else
      if a1 = (10 : Int32) then
        if sx_in (5 : Int32) 247 then
        sx_bd (M4.1 20 0 ((5 : Int32)).toNatClampNeg) fun v30 =>
        some (v30, M4)
        else none
      else
        sx_b2 (f8_deepest M4) fun v31 M32 =>
        some (v31, M32)
    else
      some ((0 : Int32), M4)) fun j18 =>
  if v1 = 0 then
    j18 (1 : Int32)
  else
    j18 (0 : Int32)
set_option maxRecDepth 100000 in
set_option maxHeartbeats 4000000 in
theorem wk_8_about (X : sx_X C p m c cX8_about 2 s args RX8) (hr : meth.sig.returnType = (some .int)) (hlocks : meth.locks = false) (hG : sx_G C) (hz : sx_sz C ≤ s.heap.size) (hcs : 0 ≤ R.cells ∧ 0 ≤ R.slots) (hR : 4 ≤ R.frames ∧ 95 ≤ R.locals) (a1 : Int32) (M0 : sx_M) (r : Int32) (M' : sx_M) (h : f8_about a1 M0 = some (r, M')) (hl : lv_has ls 2 [(0, .ref (sx_ad C 17 0)), (1, .int a1)]) (hP : sx_W C M0 H) (hS : va_S (sx_A C) s.heap H locs) : W p l e R s m args below meth c H locs 0 0 (sx_Z C (some (.int r)) M' below args s) (F0 m 0 ls []) := by
  obtain ⟨hx, hb, hml, hown, hts, hK⟩ := id X
  rw [f8_about] at h
  refine lv_aload_n hx hb dX8_about_0 rfl (lv_at hl 0 rfl) ?_
  refine lv_iload_n hx hb dX8_about_1 rfl (lv_at hl 1 rfl) ?_
  refine lv_i2l (v := a1.toInt64) hx hb dX8_about_2 rfl ?_
  refine lv_lconst (v := (0 : Int64)) hx hb dX8_about_3 (by decide) ?_
  refine lv_ldc2 (v := (11 : Int64)) hx hb hown (hts _ tw_1164) dX8_about_4 ?_
  obtain ⟨v1, e_v1, h⟩ := sx_bnd h
  refine cl_X8_60 X hG hP hz hS  e_v1 hl.1 dX8_about_7 hcs ⟨Nat.le_trans (by decide) hR.1, Nat.le_trans (by decide) hR.2⟩ (Nat.le_of_ble_eq_true rfl) (fun H locs hP hS => ?_)
  obtain ⟨j18, e_j18, h⟩ := sx_nm h
  have hj18 : ∀ (v2 : Int32) (H : Heap) (locs : List Loc) (ls : Array Slot), lv_has ls 2 [(0, .ref (sx_ad C 17 0)), (1, .int a1)] → sx_W C M0 H → va_S (sx_A C) s.heap H locs → j18 v2 = some (r, M') → W p l e R s m args below meth c H locs 0 0 (sx_Z C (some (.int r)) M' below args s) (F0 m 18 ls [.int v2, .ref (sx_ad C 17 0)]) := by
    intro v2 H locs ls hl hP hS h
    subst e_j18
    obtain ⟨v3, M4, e_v3, h⟩ := sx_bnd2 h
    refine cl_X8_111 X hG hP hz hS  e_v3 hl.1 dX8_about_18 hcs ⟨Nat.le_trans (by decide) hR.1, Nat.le_trans (by decide) hR.2⟩ (Nat.le_of_ble_eq_true rfl) (fun H locs hP hS => ?_)
    refine lv_if_eq (tgt := 26) hx hb dX8_about_21 (by decide) (fun c5 => ?_) (fun c5 => ?_)
    · replace h := sx_ifp h c5
      refine lv_iload_n hx hb dX8_about_26 rfl (lv_at hl 1 rfl) ?_
      by_cases c6 : a1 = (0 : Int32)
      · replace h := sx_ifp h c6
        refine lv_tableIn (tgt := 84) hx hb dX8_about_27 (by rw [c6]; decide) (by rw [c6]; decide) (by rw [c6]; rfl) (by decide) ?_
        refine lv_aload_n hx hb dX8_about_84 rfl (lv_at hl 0 rfl) ?_
        refine gf_X8_16 X hP (by decide) dX8_about_85 ?_
        refine lv_iconst (v := (0 : Int32)) hx hb dX8_about_88 (by decide) ?_
        refine sx_iald X hP 20 0 247 (by decide) (fun _ _ => rfl) dX8_about_89 h (fun v7 h => ?_)
        refine lv_aload_n hx hb dX8_about_90 rfl (lv_at hl 0 rfl) ?_
        refine gf_X8_16 X hP (by decide) dX8_about_91 ?_
        refine lv_iconst (v := (1 : Int32)) hx hb dX8_about_94 (by decide) ?_
        refine sx_iald X hP 20 0 247 (by decide) (fun _ _ => rfl) dX8_about_95 h (fun v8 h => ?_)
        refine lv_isub hx hb dX8_about_96 ?_
        exact sx_iretM X hr hlocks hS hP h dX8_about_97
      replace h := sx_ifn h c6
      by_cases c9 : a1 = (1 : Int32)
      · replace h := sx_ifp h c9
        refine lv_tableIn (tgt := 98) hx hb dX8_about_27 (by rw [c9]; decide) (by rw [c9]; decide) (by rw [c9]; rfl) (by decide) ?_
        refine lv_aload_n hx hb dX8_about_98 rfl (lv_at hl 0 rfl) ?_
        refine gf_X8_16 X hP (by decide) dX8_about_99 ?_
        refine lv_iconst (v := (0 : Int32)) hx hb dX8_about_102 (by decide) ?_
        refine sx_iald X hP 20 0 247 (by decide) (fun _ _ => rfl) dX8_about_103 h (fun v10 h => ?_)
        exact sx_iretM X hr hlocks hS hP h dX8_about_104
      replace h := sx_ifn h c9
      by_cases c11 : a1 = (2 : Int32)
      · replace h := sx_ifp h c11
        refine lv_tableIn (tgt := 105) hx hb dX8_about_27 (by rw [c11]; decide) (by rw [c11]; decide) (by rw [c11]; rfl) (by decide) ?_
        refine lv_aload_n hx hb dX8_about_105 rfl (lv_at hl 0 rfl) ?_
        refine gf_X8_16 X hP (by decide) dX8_about_106 ?_
        refine lv_iconst (v := (1 : Int32)) hx hb dX8_about_109 (by decide) ?_
        refine sx_iald X hP 20 0 247 (by decide) (fun _ _ => rfl) dX8_about_110 h (fun v12 h => ?_)
        exact sx_iretM X hr hlocks hS hP h dX8_about_111
      replace h := sx_ifn h c11
      by_cases c13 : a1 = (3 : Int32)
      · replace h := sx_ifp h c13
        refine lv_tableIn (tgt := 112) hx hb dX8_about_27 (by rw [c13]; decide) (by rw [c13]; decide) (by rw [c13]; rfl) (by decide) ?_
        refine lv_aload_n hx hb dX8_about_112 rfl (lv_at hl 0 rfl) ?_
        refine gf_X8_16 X hP (by decide) dX8_about_113 ?_
        refine lv_iconst (v := (2 : Int32)) hx hb dX8_about_116 (by decide) ?_
        refine sx_iald X hP 20 0 247 (by decide) (fun _ _ => rfl) dX8_about_117 h (fun v14 h => ?_)
        exact sx_iretM X hr hlocks hS hP h dX8_about_118
      replace h := sx_ifn h c13
      by_cases c15 : a1 = (4 : Int32)
      · replace h := sx_ifp h c15
        refine lv_tableIn (tgt := 119) hx hb dX8_about_27 (by rw [c15]; decide) (by rw [c15]; decide) (by rw [c15]; rfl) (by decide) ?_
        refine lv_aload_n hx hb dX8_about_119 rfl (lv_at hl 0 rfl) ?_
        obtain ⟨v16, e_v16, h⟩ := sx_bnd h
        refine cl_X8_196 X hG hP hz hS  e_v16 hl.1 dX8_about_120 hcs ⟨Nat.le_trans (by decide) hR.1, Nat.le_trans (by decide) hR.2⟩ (Nat.le_of_ble_eq_true rfl) (fun H locs hP hS => ?_)
        exact sx_iretM X hr hlocks hS hP h dX8_about_123
      replace h := sx_ifn h c15
      by_cases c17 : a1 = (5 : Int32)
      · replace h := sx_ifp h c17
        refine lv_tableIn (tgt := 124) hx hb dX8_about_27 (by rw [c17]; decide) (by rw [c17]; decide) (by rw [c17]; rfl) (by decide) ?_
        refine lv_aload_n hx hb dX8_about_124 rfl (lv_at hl 0 rfl) ?_
        obtain ⟨v18, e_v18, h⟩ := sx_bnd h
        refine cl_X8_199 X hG hP hz hS  e_v18 hl.1 dX8_about_125 hcs ⟨Nat.le_trans (by decide) hR.1, Nat.le_trans (by decide) hR.2⟩ (Nat.le_of_ble_eq_true rfl) (fun H locs hP hS => ?_)
        exact sx_iretM X hr hlocks hS hP h dX8_about_128
      replace h := sx_ifn h c17
      by_cases c19 : a1 = (6 : Int32)
      · replace h := sx_ifp h c19
        refine lv_tableIn (tgt := 129) hx hb dX8_about_27 (by rw [c19]; decide) (by rw [c19]; decide) (by rw [c19]; rfl) (by decide) ?_
        refine lv_aload_n hx hb dX8_about_129 rfl (lv_at hl 0 rfl) ?_
        refine lv_aload_n hx hb dX8_about_130 rfl (lv_at hl 0 rfl) ?_
        refine gf_X8_16 X hP (by decide) dX8_about_131 ?_
        obtain ⟨v20, M21, e_v20, h⟩ := sx_bnd2 h
        refine cl_X8_202 X hG hP hz hS sx_row20 e_v20 hl.1 dX8_about_134 hcs ⟨Nat.le_trans (by decide) hR.1, Nat.le_trans (by decide) hR.2⟩ (Nat.le_of_ble_eq_true rfl) (fun H locs hP hS => ?_)
        exact sx_iretM X hr hlocks hS hP h dX8_about_137
      replace h := sx_ifn h c19
      by_cases c22 : a1 = (7 : Int32)
      · replace h := sx_ifp h c22
        refine lv_tableIn (tgt := 138) hx hb dX8_about_27 (by rw [c22]; decide) (by rw [c22]; decide) (by rw [c22]; rfl) (by decide) ?_
        refine lv_aload_n hx hb dX8_about_138 rfl (lv_at hl 0 rfl) ?_
        refine lv_aload_n hx hb dX8_about_139 rfl (lv_at hl 0 rfl) ?_
        refine gf_X8_16 X hP (by decide) dX8_about_140 ?_
        obtain ⟨v23, M24, e_v23, h⟩ := sx_bnd2 h
        refine cl_X8_205 X hG hP hz hS sx_row20 e_v23 hl.1 dX8_about_143 hcs ⟨Nat.le_trans (by decide) hR.1, Nat.le_trans (by decide) hR.2⟩ (Nat.le_of_ble_eq_true rfl) (fun H locs hP hS => ?_)
        exact sx_iretM X hr hlocks hS hP h dX8_about_146
      replace h := sx_ifn h c22
      by_cases c25 : a1 = (8 : Int32)
      · replace h := sx_ifp h c25
        refine lv_tableIn (tgt := 147) hx hb dX8_about_27 (by rw [c25]; decide) (by rw [c25]; decide) (by rw [c25]; rfl) (by decide) ?_
        refine lv_aload_n hx hb dX8_about_147 rfl (lv_at hl 0 rfl) ?_
        refine gf_X8_16 X hP (by decide) dX8_about_148 ?_
        refine lv_iconst (v := (3 : Int32)) hx hb dX8_about_151 (by decide) ?_
        refine sx_iald X hP 20 0 247 (by decide) (fun _ _ => rfl) dX8_about_152 h (fun v26 h => ?_)
        exact sx_iretM X hr hlocks hS hP h dX8_about_153
      replace h := sx_ifn h c25
      by_cases c27 : a1 = (9 : Int32)
      · replace h := sx_ifp h c27
        refine lv_tableIn (tgt := 154) hx hb dX8_about_27 (by rw [c27]; decide) (by rw [c27]; decide) (by rw [c27]; rfl) (by decide) ?_
        refine lv_aload_n hx hb dX8_about_154 rfl (lv_at hl 0 rfl) ?_
        refine gf_X8_16 X hP (by decide) dX8_about_155 ?_
        refine lv_iconst (v := (4 : Int32)) hx hb dX8_about_158 (by decide) ?_
        refine sx_iald X hP 20 0 247 (by decide) (fun _ _ => rfl) dX8_about_159 h (fun v28 h => ?_)
        exact sx_iretM X hr hlocks hS hP h dX8_about_160
      replace h := sx_ifn h c27
      by_cases c29 : a1 = (10 : Int32)
      · replace h := sx_ifp h c29
        refine lv_tableIn (tgt := 161) hx hb dX8_about_27 (by rw [c29]; decide) (by rw [c29]; decide) (by rw [c29]; rfl) (by decide) ?_
        refine lv_aload_n hx hb dX8_about_161 rfl (lv_at hl 0 rfl) ?_
        refine gf_X8_16 X hP (by decide) dX8_about_162 ?_
        refine lv_iconst (v := (5 : Int32)) hx hb dX8_about_165 (by decide) ?_
        refine sx_iald X hP 20 0 247 (by decide) (fun _ _ => rfl) dX8_about_166 h (fun v30 h => ?_)
        exact sx_iretM X hr hlocks hS hP h dX8_about_167
      replace h := sx_ifn h c29
      have t_c6 := lv_neT (a := 0) c6 (by decide)
      have t_c9 := lv_neT (a := 1) c9 (by decide)
      have t_c11 := lv_neT (a := 2) c11 (by decide)
      have t_c13 := lv_neT (a := 3) c13 (by decide)
      have t_c15 := lv_neT (a := 4) c15 (by decide)
      have t_c17 := lv_neT (a := 5) c17 (by decide)
      have t_c19 := lv_neT (a := 6) c19 (by decide)
      have t_c22 := lv_neT (a := 7) c22 (by decide)
      have t_c25 := lv_neT (a := 8) c25 (by decide)
      have t_c27 := lv_neT (a := 9) c27 (by decide)
      have t_c29 := lv_neT (a := 10) c29 (by decide)
      refine lv_tableOut (tgt := 168) hx hb dX8_about_27 (by omega) (by decide) ?_
      refine lv_aload_n hx hb dX8_about_168 rfl (lv_at hl 0 rfl) ?_
      obtain ⟨v31, M32, e_v31, h⟩ := sx_bnd2 h
      refine cl_X8_208 X hG hP hz hS  e_v31 hl.1 dX8_about_169 hcs ⟨Nat.le_trans (by decide) hR.1, Nat.le_trans (by decide) hR.2⟩ (Nat.le_of_ble_eq_true rfl) (fun H locs hP hS => ?_)
      exact sx_iretM X hr hlocks hS hP h dX8_about_172
    · replace h := sx_ifn h c5
      refine lv_iconst (v := (0 : Int32)) hx hb dX8_about_24 (by decide) ?_
      exact sx_iretM X hr hlocks hS hP h dX8_about_25
  clear e_j18
  refine lv_if_eq (tgt := 17) hx hb dX8_about_10 (by decide) (fun c33 => ?_) (fun c33 => ?_)
  · replace h := sx_ifp h c33
    refine lv_iconst (v := (1 : Int32)) hx hb dX8_about_17 (by decide) ?_
    exact hj18 (1 : Int32) H locs ls (lv_sub hl [0, 1] rfl) hP hS h
  · replace h := sx_ifn h c33
    refine lv_iconst (v := (0 : Int32)) hx hb dX8_about_13 (by decide) ?_
    refine lv_goto (tgt := 18) hx hb dX8_about_14 (by decide) ?_
    exact hj18 (0 : Int32) H locs ls (lv_sub hl [0, 1] rfl) hP hS h
set_option maxRecDepth 100000 in
theorem ct_8_about (l : Launch) (C : sx_C) (hG : sx_G C) (a1 : Int32) (M0 : sx_M) (r : Int32) (M' : sx_M) (h : f8_about a1 M0 = some (r, M')) : Met l yX8_about (.code yX8_about cX8_about 2 (some .int) :: sx_T) ({ frames := 4, cells := 0, slots := 0, locals := 95 } : Room) (sx_Pc C M0 [.ref (sx_ad C 17 0), .int a1]) (sx_Q C (some (.int r)) M') 0 0 (sx_A C) := by
  refine Met.ofW (cc := cX8_about) (maxL := 2) (ret := (some .int)) (by decide) rfl ?_
  intro p e s m args below meth c s₁ B hml hv
  obtain ⟨rfl, hz, hP, hK⟩ := hv
  have hl := lv_entry ([.ref (sx_ad C 17 0), .int a1]) (n := 2) (Nat.le_of_ble_eq_true rfl)
  rw [lg_entry_eq]
  generalize (lg_sl ([.ref (sx_ad C 17 0), .int a1]) ++ List.replicate (2 - (lg_sl ([.ref (sx_ad C 17 0), .int a1])).length) Slot.unset).toArray = ls at hl ⊢
  exact wk_8_about ⟨B.exec, B.bytes, hml, findClass_of_methodNamed B.named, fun w hw => atoms_spec B.pre w (List.mem_cons_of_mem _ hw), hK⟩ B.returns B.notSynchronized hG hz ⟨Nat.zero_le _, Nat.zero_le _⟩ ⟨Nat.le_refl _, Nat.le_refl _⟩ a1 M0 r M' h hl hP va_S.rf
theorem cl_L_115 (X : sx_X C p m c cc nL s args RL) (hG : sx_G C) (hP : sx_W C M0 H) (hz : sx_sz C ≤ H0.size) (hS : va_S (sx_A C) H0 H locs) {a1 : Int32} {r : Int32} {M' : sx_M} (h : f8_about a1 M0 = some (r, M')) (hsz : ls.size = nL) (hdg : decode cc pc = .ok (.invokevirtual 115, 3)) (hcs : cells ≤ R.cells ∧ slots ≤ R.slots) (hR : 4 + 1 ≤ R.frames ∧ 8 + (2 + 11) + 95 ≤ R.locals) (hrest : (rest.map fun v => v.category).sum ≤ 8) (kk : ∀ (H1 : Heap) (locs1 : List Loc), sx_W C M' H1 → va_S (sx_A C) H0 H1 locs1 → W p l e R s m args below meth c H1 locs1 cells slots Q (F0 m (pc + 3) ls ((.int r) :: rest))) : W p l e R s m args below meth c H locs cells slots Q (F0 m pc ls (.int a1 :: .ref (sx_ad C 17 0) :: rest)) :=
  sx_callV (n := 1) (As := [.int a1]) (k0 := 17) (s0 := 0) X hP hz hS (by decide) rfl rfl (sx_goodV tw_1160 tw_1161 tw_1162 tw_71 tw_1163) (by decide +kernel) rfl rfl hR (ct_8_about l C hG a1 M0 r M' h) rfl rfl hrest hsz hdg hcs kk
-- StringShedModel.stringsOf(IIZ)I pure
def f8_stringsOf_L6 (w1 : Int32) (w2 : Int32) (w3 : Int32) (M0 : sx_M) : Nat → Int32 → Int32 → Option (Int32)
  | 0, _, _ => none
  | n + 1, x4, x5 =>
    if sx_in (2 : Int32) 247 then
    sx_bd (M0.1 20 0 ((2 : Int32)).toNatClampNeg) fun v1 =>
    if v1 ≤ x5 then
      some x4
    else
      (f8_cordAt x5 w2 M0).bind fun v3 =>
      if sx_in v3 247 then
      sx_bd (M0.1 20 0 (v3).toNatClampNeg) fun v4 =>
      sx_bd (fun (v5 : Int32) =>
        sx_bd (x4 + v5) fun v6 =>
        sx_bd (x5 + (1 : Int32)) fun v7 =>
        f8_stringsOf_L6 w1 w2 w3 M0 n v6 v7) fun j58 =>
      sx_bd (fun (_ : Unit) =>
        j58 (0 : Int32)) fun j57 =>
      if v4 = w1 then
        sx_bd (fun (_ : Unit) =>
          j58 (1 : Int32)) fun j53 =>
        if w3 = 0 then
          j53 ()
        else
          (f8_cordAt x5 (2 : Int32) M0).bind fun v10 =>
          if sx_in v10 247 then
          sx_bd (M0.1 20 0 (v10).toNatClampNeg) fun v11 =>
          if v11 = (1 : Int32) then
            j53 ()
          else
            j57 ()
          else none
      else
        j57 ()
      else none
    else none
def f8_stringsOf (a1 : Int32) (a2 : Int32) (a3 : Int32) (M0 : sx_M) : Option (Int32) :=
  f8_stringsOf_L6 a1 a2 a3 M0
    5000 (0 : Int32) (0 : Int32)
set_option maxRecDepth 100000 in
set_option maxHeartbeats 4000000 in
theorem wk_8_stringsOf (X : sx_X C p m c cX8_stringsOf 6 s args RX8) (hr : meth.sig.returnType = (some .int)) (hlocks : meth.locks = false) (hG : sx_G C) (hz : sx_sz C ≤ s.heap.size) (hcs : 0 ≤ R.cells ∧ 0 ≤ R.slots) (hR : 1 ≤ R.frames ∧ 21 ≤ R.locals) (a1 : Int32) (a2 : Int32) (a3 : Int32) (M0 : sx_M) (r : Int32) (h : f8_stringsOf a1 a2 a3 M0 = some r) (hl : lv_has ls 6 [(0, .ref (sx_ad C 17 0)), (1, .int a1), (2, .int a2), (3, .int a3)]) (hP : sx_W C M0 H) (hS : va_S (sx_A C) s.heap H locs) : W p l e R s m args below meth c H locs 0 0 (sx_Z C (some (.int r)) M0 below args s) (F0 m 0 ls []) := by
  obtain ⟨hx, hb, hml, hown, hts, hK⟩ := id X
  rw [f8_stringsOf] at h
  have hf8_stringsOf_L6 : ∀ (w1 : Int32) (w2 : Int32) (w3 : Int32) (n : Nat) (x4 : Int32) (x5 : Int32) (H : Heap) (locs : List Loc) (ls : Array Slot), lv_has ls 6 [(0, .ref (sx_ad C 17 0)), (1, .int w1), (2, .int w2), (3, .int w3), (4, .int x4), (5, .int x5)] → sx_W C M0 H → va_S (sx_A C) s.heap H locs → f8_stringsOf_L6 w1 w2 w3 M0 n x4 x5 = some r → W p l e R s m args below meth c H locs 0 0 (sx_Z C (some (.int r)) M0 below args s) (F0 m 6 ls []) := by
    intro w1 w2 w3 n
    induction n with
    | zero => intro x4 x5 H locs ls hl hP hS h; exact absurd (show (none : Option (Int32)) = some r from h) (fun q => nomatch q)
    | succ n ih =>
      intro x4 x5 H locs ls hl hP hS h
      rw [f8_stringsOf_L6] at h
      refine lv_iload hx hb dX8_stringsOf_6 (lv_at hl 5 rfl) ?_
      refine lv_aload_n hx hb dX8_stringsOf_8 rfl (lv_at hl 0 rfl) ?_
      refine gf_X8_16 X hP (by decide) dX8_stringsOf_9 ?_
      refine lv_iconst (v := (2 : Int32)) hx hb dX8_stringsOf_12 (by decide) ?_
      refine sx_iald X hP 20 0 247 (by decide) (fun _ _ => rfl) dX8_stringsOf_13 h (fun v1 h => ?_)
      refine lv_icmp_ge (tgt := 67) hx hb dX8_stringsOf_14 (by decide) (fun c2 => ?_) (fun c2 => ?_)
      · replace h := sx_ifp h c2
        refine lv_iload hx hb dX8_stringsOf_67 (lv_at hl 4 rfl) ?_
        exact sx_iret X hr hlocks hS hP h dX8_stringsOf_69
      · replace h := sx_ifn h c2
        refine lv_iload hx hb dX8_stringsOf_17 (lv_at hl 4 rfl) ?_
        refine lv_aload_n hx hb dX8_stringsOf_19 rfl (lv_at hl 0 rfl) ?_
        refine gf_X8_16 X hP (by decide) dX8_stringsOf_20 ?_
        refine lv_iload hx hb dX8_stringsOf_23 (lv_at hl 5 rfl) ?_
        refine lv_iload_n hx hb dX8_stringsOf_25 rfl (lv_at hl 2 rfl) ?_
        obtain ⟨v3, e_v3, h⟩ := sx_bnd h
        refine cl_X8_78 X hG hP hz hS  e_v3 hl.1 dX8_stringsOf_26 hcs ⟨Nat.le_trans (by decide) hR.1, Nat.le_trans (by decide) hR.2⟩ (Nat.le_of_ble_eq_true rfl) (fun H locs hP hS => ?_)
        refine sx_iald X hP 20 0 247 (by decide) (fun _ _ => rfl) dX8_stringsOf_29 h (fun v4 h => ?_)
        refine lv_iload_n hx hb dX8_stringsOf_30 rfl (lv_at hl 1 rfl) ?_
        obtain ⟨j58, e_j58, h⟩ := sx_nm h
        have hj58 : ∀ (v5 : Int32) (H : Heap) (locs : List Loc) (ls : Array Slot), lv_has ls 6 [(0, .ref (sx_ad C 17 0)), (1, .int w1), (2, .int w2), (3, .int w3), (5, .int x5)] → sx_W C M0 H → va_S (sx_A C) s.heap H locs → j58 v5 = some r → W p l e R s m args below meth c H locs 0 0 (sx_Z C (some (.int r)) M0 below args s) (F0 m 58 ls [.int v5, .int x4]) := by
          intro v5 H locs ls hl hP hS h
          subst e_j58
          refine lv_iadd hx hb dX8_stringsOf_58 ?_
          obtain ⟨v6, e_v6, h⟩ := sx_nm h
          rw [e_v6]
          refine lv_istore (lv' := [(4, .int v6), (0, .ref (sx_ad C 17 0)), (1, .int w1), (2, .int w2), (3, .int w3), (5, .int x5)]) hx hb dX8_stringsOf_59 hl (by decide) rfl (fun ls hl => ?_)
          obtain ⟨v7, e_v7, h⟩ := sx_nm h
          refine lv_iinc (v := v7) (lv' := [(5, .int v7), (4, .int v6), (0, .ref (sx_ad C 17 0)), (1, .int w1), (2, .int w2), (3, .int w3)]) hx hb dX8_stringsOf_61 hl (k := 5) rfl (by rw [← e_v7]; rfl) (by decide) rfl (fun ls hl => ?_)
          refine lv_goto (tgt := 6) hx hb dX8_stringsOf_64 (by decide) ?_
          exact ih v6 v7 H locs ls (lv_sub hl [2, 3, 4, 5, 1, 0] rfl) hP hS h
        clear e_j58
        obtain ⟨j57, e_j57, h⟩ := sx_nm h
        have hj57 : ∀ (H : Heap) (locs : List Loc) (ls : Array Slot), lv_has ls 6 [(0, .ref (sx_ad C 17 0)), (1, .int w1), (2, .int w2), (3, .int w3), (5, .int x5)] → sx_W C M0 H → va_S (sx_A C) s.heap H locs → j57 () = some r → W p l e R s m args below meth c H locs 0 0 (sx_Z C (some (.int r)) M0 below args s) (F0 m 57 ls [.int x4]) := by
          intro  H locs ls hl hP hS h
          subst e_j57
          refine lv_iconst (v := (0 : Int32)) hx hb dX8_stringsOf_57 (by decide) ?_
          exact hj58 (0 : Int32) H locs ls (lv_sub hl [0, 1, 2, 3, 4] rfl) hP hS h
        clear e_j57
        refine lv_icmp_ne (tgt := 57) hx hb dX8_stringsOf_31 (by decide) (fun c8 => ?_) (fun c8 => ?_)
        · replace h := sx_ifn h c8
          exact hj57 H locs ls (lv_sub hl [0, 1, 2, 3, 5] rfl) hP hS h
        · replace h := sx_ifp h c8
          refine lv_iload_n hx hb dX8_stringsOf_34 rfl (lv_at hl 3 rfl) ?_
          obtain ⟨j53, e_j53, h⟩ := sx_nm h
          have hj53 : ∀ (H : Heap) (locs : List Loc) (ls : Array Slot), lv_has ls 6 [(0, .ref (sx_ad C 17 0)), (1, .int w1), (2, .int w2), (3, .int w3), (5, .int x5)] → sx_W C M0 H → va_S (sx_A C) s.heap H locs → j53 () = some r → W p l e R s m args below meth c H locs 0 0 (sx_Z C (some (.int r)) M0 below args s) (F0 m 53 ls [.int x4]) := by
            intro  H locs ls hl hP hS h
            subst e_j53
            refine lv_iconst (v := (1 : Int32)) hx hb dX8_stringsOf_53 (by decide) ?_
            refine lv_goto (tgt := 58) hx hb dX8_stringsOf_54 (by decide) ?_
            exact hj58 (1 : Int32) H locs ls (lv_sub hl [0, 1, 2, 3, 4] rfl) hP hS h
          clear e_j53
          refine lv_if_eq (tgt := 53) hx hb dX8_stringsOf_35 (by decide) (fun c9 => ?_) (fun c9 => ?_)
          · replace h := sx_ifp h c9
            exact hj53 H locs ls (lv_sub hl [0, 1, 2, 3, 5] rfl) hP hS h
          · replace h := sx_ifn h c9
            refine lv_aload_n hx hb dX8_stringsOf_38 rfl (lv_at hl 0 rfl) ?_
            refine gf_X8_16 X hP (by decide) dX8_stringsOf_39 ?_
            refine lv_iload hx hb dX8_stringsOf_42 (lv_at hl 5 rfl) ?_
            refine lv_iconst (v := (2 : Int32)) hx hb dX8_stringsOf_44 (by decide) ?_
            obtain ⟨v10, e_v10, h⟩ := sx_bnd h
            refine cl_X8_78 X hG hP hz hS  e_v10 hl.1 dX8_stringsOf_45 hcs ⟨Nat.le_trans (by decide) hR.1, Nat.le_trans (by decide) hR.2⟩ (Nat.le_of_ble_eq_true rfl) (fun H locs hP hS => ?_)
            refine sx_iald X hP 20 0 247 (by decide) (fun _ _ => rfl) dX8_stringsOf_48 h (fun v11 h => ?_)
            refine lv_iconst (v := (1 : Int32)) hx hb dX8_stringsOf_49 (by decide) ?_
            refine lv_icmp_ne (tgt := 57) hx hb dX8_stringsOf_50 (by decide) (fun c12 => ?_) (fun c12 => ?_)
            · replace h := sx_ifn h c12
              exact hj57 H locs ls (lv_sub hl [0, 1, 2, 3, 5] rfl) hP hS h
            · replace h := sx_ifp h c12
              exact hj53 H locs ls (lv_sub hl [0, 1, 2, 3, 5] rfl) hP hS h
  refine lv_iconst (v := (0 : Int32)) hx hb dX8_stringsOf_0 (by decide) ?_
  refine lv_istore (lv' := [(4, .int (0 : Int32)), (0, .ref (sx_ad C 17 0)), (1, .int a1), (2, .int a2), (3, .int a3)]) hx hb dX8_stringsOf_1 hl (by decide) rfl (fun ls hl => ?_)
  refine lv_iconst (v := (0 : Int32)) hx hb dX8_stringsOf_3 (by decide) ?_
  refine lv_istore (lv' := [(5, .int (0 : Int32)), (4, .int (0 : Int32)), (0, .ref (sx_ad C 17 0)), (1, .int a1), (2, .int a2), (3, .int a3)]) hx hb dX8_stringsOf_4 hl (by decide) rfl (fun ls hl => ?_)
  exact hf8_stringsOf_L6 a1 a2 a3 5000 (0 : Int32) (0 : Int32) H locs ls (lv_sub hl [2, 3, 4, 5, 1, 0] rfl) hP hS h
set_option maxRecDepth 100000 in
theorem ct_8_stringsOf (l : Launch) (C : sx_C) (hG : sx_G C) (a1 : Int32) (a2 : Int32) (a3 : Int32) (M0 : sx_M) (r : Int32) (h : f8_stringsOf a1 a2 a3 M0 = some r) : Met l yX8_stringsOf (.code yX8_stringsOf cX8_stringsOf 6 (some .int) :: sx_T) ({ frames := 1, cells := 0, slots := 0, locals := 21 } : Room) (sx_Pc C M0 [.ref (sx_ad C 17 0), .int a1, .int a2, .int a3]) (sx_Q C (some (.int r)) M0) 0 0 (sx_A C) := by
  refine Met.ofW (cc := cX8_stringsOf) (maxL := 6) (ret := (some .int)) (by decide) rfl ?_
  intro p e s m args below meth c s₁ B hml hv
  obtain ⟨rfl, hz, hP, hK⟩ := hv
  have hl := lv_entry ([.ref (sx_ad C 17 0), .int a1, .int a2, .int a3]) (n := 6) (Nat.le_of_ble_eq_true rfl)
  rw [lg_entry_eq]
  generalize (lg_sl ([.ref (sx_ad C 17 0), .int a1, .int a2, .int a3]) ++ List.replicate (6 - (lg_sl ([.ref (sx_ad C 17 0), .int a1, .int a2, .int a3])).length) Slot.unset).toArray = ls at hl ⊢
  exact wk_8_stringsOf ⟨B.exec, B.bytes, hml, findClass_of_methodNamed B.named, fun w hw => atoms_spec B.pre w (List.mem_cons_of_mem _ hw), hK⟩ B.returns B.notSynchronized hG hz ⟨Nat.zero_le _, Nat.zero_le _⟩ ⟨Nat.le_refl _, Nat.le_refl _⟩ a1 a2 a3 M0 r h hl hP va_S.rf
theorem cl_X8_213 (X : sx_X C p m c cc nL s args RX8) (hG : sx_G C) (hP : sx_W C M0 H) (hz : sx_sz C ≤ H0.size) (hS : va_S (sx_A C) H0 H locs) {a1 : Int32} {a2 : Int32} {a3 : Int32} {r : Int32} (h : f8_stringsOf a1 a2 a3 M0 = some r) (hsz : ls.size = nL) (hdg : decode cc pc = .ok (.invokevirtual 213, 3)) (hcs : cells ≤ R.cells ∧ slots ≤ R.slots) (hR : 1 + 1 ≤ R.frames ∧ 8 + (6 + 11) + 21 ≤ R.locals) (hrest : (rest.map fun v => v.category).sum ≤ 8) (kk : ∀ (H1 : Heap) (locs1 : List Loc), sx_W C M0 H1 → va_S (sx_A C) H0 H1 locs1 → W p l e R s m args below meth c H1 locs1 cells slots Q (F0 m (pc + 3) ls ((.int r) :: rest))) : W p l e R s m args below meth c H locs cells slots Q (F0 m pc ls (.int a3 :: .int a2 :: .int a1 :: .ref (sx_ad C 17 0) :: rest)) :=
  sx_callV (n := 3) (As := [.int a1, .int a2, .int a3]) (k0 := 17) (s0 := 0) X hP hz hS (by decide) rfl rfl (sx_goodV tw_1194 tw_1196 tw_43 tw_71 tw_1197) (by decide +kernel) rfl rfl hR (ct_8_stringsOf l C hG a1 a2 a3 M0 r h) rfl rfl hrest hsz hdg hcs kk
-- StringShedModel.part(II)I
def f8_part (a1 : Int32) (a2 : Int32) (M0 : sx_M) : Option (Int32 × sx_M) :=
  (f8_isPart 20 a1 M0).bind fun v1 =>
  sx_bd (fun (v2 : Int32) =>
    sx_b2 (f8_refused v2 M0) fun v3 M4 =>
    if v3 = 0 then
      (f8_lay 20 M4).bind fun M6 =>
      if a2 = (0 : Int32) then
        (f8_partAt a1 (0 : Int32) M6).bind fun v8 =>
        if sx_in v8 247 then
        sx_bd (M6.1 20 0 (v8).toNatClampNeg) fun v9 =>
        some (v9, M6)
        else none
      else
      if a2 = (1 : Int32) then
        (f8_partAt a1 (2 : Int32) M6).bind fun v11 =>
        if sx_in v11 247 then
        sx_bd (M6.1 20 0 (v11).toNatClampNeg) fun v12 =>
        some (v12, M6)
        else none
      else
      if a2 = (2 : Int32) then
        if sx_in a1 24 then
        sx_bd (M6.1 25 0 (a1).toNatClampNeg) fun v14 =>
        sx_bd (fun (v15 : Int32) =>
          some (v15, M6)) fun j126 =>
        if (99 : Int32) ≤ v14 then
          j126 (0 : Int32)
        else
          j126 (1 : Int32)
        else none
      else
      if a2 = (3 : Int32) then
        if sx_in a1 24 then
        sx_bd (M6.1 25 0 (a1).toNatClampNeg) fun v18 =>
        sx_bd (fun (v19 : Int32) =>
          some (v19, M6)) fun j149 =>
        if (99 : Int32) ≤ v18 then
          j149 (-9 : Int32)
        else
          if sx_in a1 24 then
          sx_bd (M6.1 25 0 (a1).toNatClampNeg) fun v21 =>
          j149 v21
          else none
        else none
      else
      if a2 = (4 : Int32) then
        (f8_stringsOf a1 (1 : Int32) (1 : Int32) M6).bind fun v23 =>
        some (v23, M6)
      else
      if a2 = (5 : Int32) then
        (f8_stringsOf a1 (0 : Int32) (0 : Int32) M6).bind fun v25 =>
        some (v25, M6)
      else
        if sx_in (3 : Int32) 247 then
        sx_bd (M6.1 20 0 ((3 : Int32)).toNatClampNeg) fun v26 =>
        sx_bd (fun (v27 : Int32) =>
          some (v27, M6)) fun j191 =>
        if v26 = (1 : Int32) then
          (f8_partAt a1 (3 : Int32) M6).bind fun v29 =>
          if sx_in v29 247 then
          sx_bd (M6.1 20 0 (v29).toNatClampNeg) fun v30 =>
          j191 v30
          else none
        else
          j191 (-9 : Int32)
        else none
    else
      some ((0 : Int32), M4)) fun j33 =>
  if v1 = 0 then
    j33 (1 : Int32)
  else
    (f8_in a2.toInt64 (0 : Int64) (6 : Int64) M0).bind fun v32 =>
    if v32 = 0 then
      j33 (2 : Int32)
    else
      j33 (0 : Int32)
set_option maxRecDepth 100000 in
set_option maxHeartbeats 4000000 in
theorem wk_8_part (X : sx_X C p m c cX8_part 3 s args RX8) (hr : meth.sig.returnType = (some .int)) (hlocks : meth.locks = false) (hG : sx_G C) (hz : sx_sz C ≤ s.heap.size) (hcs : 0 ≤ R.cells ∧ 0 ≤ R.slots) (hR : 3 ≤ R.frames ∧ 72 ≤ R.locals) (a1 : Int32) (a2 : Int32) (M0 : sx_M) (r : Int32) (M' : sx_M) (h : f8_part a1 a2 M0 = some (r, M')) (hl : lv_has ls 3 [(0, .ref (sx_ad C 17 0)), (1, .int a1), (2, .int a2)]) (hP : sx_W C M0 H) (hS : va_S (sx_A C) s.heap H locs) : W p l e R s m args below meth c H locs 0 0 (sx_Z C (some (.int r)) M' below args s) (F0 m 0 ls []) := by
  obtain ⟨hx, hb, hml, hown, hts, hK⟩ := id X
  rw [f8_part] at h
  refine lv_aload_n hx hb dX8_part_0 rfl (lv_at hl 0 rfl) ?_
  refine lv_aload_n hx hb dX8_part_1 rfl (lv_at hl 0 rfl) ?_
  refine gf_X8_16 X hP (by decide) dX8_part_2 ?_
  refine lv_iload_n hx hb dX8_part_5 rfl (lv_at hl 1 rfl) ?_
  obtain ⟨v1, e_v1, h⟩ := sx_bnd h
  refine cl_X8_74 X hG hP hz hS sx_row20 e_v1 hl.1 dX8_part_6 hcs ⟨Nat.le_trans (by decide) hR.1, Nat.le_trans (by decide) hR.2⟩ (Nat.le_of_ble_eq_true rfl) (fun H locs hP hS => ?_)
  obtain ⟨j33, e_j33, h⟩ := sx_nm h
  have hj33 : ∀ (v2 : Int32) (H : Heap) (locs : List Loc) (ls : Array Slot), lv_has ls 3 [(0, .ref (sx_ad C 17 0)), (1, .int a1), (2, .int a2)] → sx_W C M0 H → va_S (sx_A C) s.heap H locs → j33 v2 = some (r, M') → W p l e R s m args below meth c H locs 0 0 (sx_Z C (some (.int r)) M' below args s) (F0 m 33 ls [.int v2, .ref (sx_ad C 17 0)]) := by
    intro v2 H locs ls hl hP hS h
    subst e_j33
    obtain ⟨v3, M4, e_v3, h⟩ := sx_bnd2 h
    refine cl_X8_111 X hG hP hz hS  e_v3 hl.1 dX8_part_33 hcs ⟨Nat.le_trans (by decide) hR.1, Nat.le_trans (by decide) hR.2⟩ (Nat.le_of_ble_eq_true rfl) (fun H locs hP hS => ?_)
    refine lv_if_eq (tgt := 41) hx hb dX8_part_36 (by decide) (fun c5 => ?_) (fun c5 => ?_)
    · replace h := sx_ifp h c5
      refine lv_aload_n hx hb dX8_part_41 rfl (lv_at hl 0 rfl) ?_
      refine lv_aload_n hx hb dX8_part_42 rfl (lv_at hl 0 rfl) ?_
      refine gf_X8_16 X hP (by decide) dX8_part_43 ?_
      obtain ⟨M6, e_M6, h⟩ := sx_bnd h
      refine cl_X8_81 X hG hP hz hS sx_row20 e_M6 hl.1 dX8_part_46 hcs ⟨Nat.le_trans (by decide) hR.1, Nat.le_trans (by decide) hR.2⟩ (Nat.le_of_ble_eq_true rfl) (fun H locs hP hS => ?_)
      refine lv_iload_n hx hb dX8_part_49 rfl (lv_at hl 2 rfl) ?_
      by_cases c7 : a2 = (0 : Int32)
      · replace h := sx_ifp h c7
        refine lv_tableIn (tgt := 88) hx hb dX8_part_50 (by rw [c7]; decide) (by rw [c7]; decide) (by rw [c7]; rfl) (by decide) ?_
        refine lv_aload_n hx hb dX8_part_88 rfl (lv_at hl 0 rfl) ?_
        refine gf_X8_16 X hP (by decide) dX8_part_89 ?_
        refine lv_iload_n hx hb dX8_part_92 rfl (lv_at hl 1 rfl) ?_
        refine lv_iconst (v := (0 : Int32)) hx hb dX8_part_93 (by decide) ?_
        obtain ⟨v8, e_v8, h⟩ := sx_bnd h
        refine cl_X8_66 X hG hP hz hS  e_v8 hl.1 dX8_part_94 hcs ⟨Nat.le_trans (by decide) hR.1, Nat.le_trans (by decide) hR.2⟩ (Nat.le_of_ble_eq_true rfl) (fun H locs hP hS => ?_)
        refine sx_iald X hP 20 0 247 (by decide) (fun _ _ => rfl) dX8_part_97 h (fun v9 h => ?_)
        exact sx_iretM X hr hlocks hS hP h dX8_part_98
      replace h := sx_ifn h c7
      by_cases c10 : a2 = (1 : Int32)
      · replace h := sx_ifp h c10
        refine lv_tableIn (tgt := 99) hx hb dX8_part_50 (by rw [c10]; decide) (by rw [c10]; decide) (by rw [c10]; rfl) (by decide) ?_
        refine lv_aload_n hx hb dX8_part_99 rfl (lv_at hl 0 rfl) ?_
        refine gf_X8_16 X hP (by decide) dX8_part_100 ?_
        refine lv_iload_n hx hb dX8_part_103 rfl (lv_at hl 1 rfl) ?_
        refine lv_iconst (v := (2 : Int32)) hx hb dX8_part_104 (by decide) ?_
        obtain ⟨v11, e_v11, h⟩ := sx_bnd h
        refine cl_X8_66 X hG hP hz hS  e_v11 hl.1 dX8_part_105 hcs ⟨Nat.le_trans (by decide) hR.1, Nat.le_trans (by decide) hR.2⟩ (Nat.le_of_ble_eq_true rfl) (fun H locs hP hS => ?_)
        refine sx_iald X hP 20 0 247 (by decide) (fun _ _ => rfl) dX8_part_108 h (fun v12 h => ?_)
        exact sx_iretM X hr hlocks hS hP h dX8_part_109
      replace h := sx_ifn h c10
      by_cases c13 : a2 = (2 : Int32)
      · replace h := sx_ifp h c13
        refine lv_tableIn (tgt := 110) hx hb dX8_part_50 (by rw [c13]; decide) (by rw [c13]; decide) (by rw [c13]; rfl) (by decide) ?_
        refine lv_aload_n hx hb dX8_part_110 rfl (lv_at hl 0 rfl) ?_
        refine gf_X8_32 X hP (by decide) dX8_part_111 ?_
        refine lv_iload_n hx hb dX8_part_114 rfl (lv_at hl 1 rfl) ?_
        refine sx_iald X hP 25 0 24 (by decide) (fun _ _ => rfl) dX8_part_115 h (fun v14 h => ?_)
        refine lv_bipush (v := (99 : Int32)) hx hb dX8_part_116 (by decide) ?_
        obtain ⟨j126, e_j126, h⟩ := sx_nm h
        have hj126 : ∀ (v15 : Int32) (H : Heap) (locs : List Loc) (ls : Array Slot), lv_has ls 3 [] → sx_W C M6 H → va_S (sx_A C) s.heap H locs → j126 v15 = some (r, M') → W p l e R s m args below meth c H locs 0 0 (sx_Z C (some (.int r)) M' below args s) (F0 m 126 ls [.int v15]) := by
          intro v15 H locs ls hl hP hS h
          subst e_j126
          exact sx_iretM X hr hlocks hS hP h dX8_part_126
        clear e_j126
        refine lv_icmp_ge (tgt := 125) hx hb dX8_part_118 (by decide) (fun c16 => ?_) (fun c16 => ?_)
        · replace h := sx_ifp h c16
          refine lv_iconst (v := (0 : Int32)) hx hb dX8_part_125 (by decide) ?_
          exact hj126 (0 : Int32) H locs ls (lv_sub hl [] rfl) hP hS h
        · replace h := sx_ifn h c16
          refine lv_iconst (v := (1 : Int32)) hx hb dX8_part_121 (by decide) ?_
          refine lv_goto (tgt := 126) hx hb dX8_part_122 (by decide) ?_
          exact hj126 (1 : Int32) H locs ls (lv_sub hl [] rfl) hP hS h
      replace h := sx_ifn h c13
      by_cases c17 : a2 = (3 : Int32)
      · replace h := sx_ifp h c17
        refine lv_tableIn (tgt := 127) hx hb dX8_part_50 (by rw [c17]; decide) (by rw [c17]; decide) (by rw [c17]; rfl) (by decide) ?_
        refine lv_aload_n hx hb dX8_part_127 rfl (lv_at hl 0 rfl) ?_
        refine gf_X8_32 X hP (by decide) dX8_part_128 ?_
        refine lv_iload_n hx hb dX8_part_131 rfl (lv_at hl 1 rfl) ?_
        refine sx_iald X hP 25 0 24 (by decide) (fun _ _ => rfl) dX8_part_132 h (fun v18 h => ?_)
        refine lv_bipush (v := (99 : Int32)) hx hb dX8_part_133 (by decide) ?_
        obtain ⟨j149, e_j149, h⟩ := sx_nm h
        have hj149 : ∀ (v19 : Int32) (H : Heap) (locs : List Loc) (ls : Array Slot), lv_has ls 3 [] → sx_W C M6 H → va_S (sx_A C) s.heap H locs → j149 v19 = some (r, M') → W p l e R s m args below meth c H locs 0 0 (sx_Z C (some (.int r)) M' below args s) (F0 m 149 ls [.int v19]) := by
          intro v19 H locs ls hl hP hS h
          subst e_j149
          exact sx_iretM X hr hlocks hS hP h dX8_part_149
        clear e_j149
        refine lv_icmp_ge (tgt := 147) hx hb dX8_part_135 (by decide) (fun c20 => ?_) (fun c20 => ?_)
        · replace h := sx_ifp h c20
          refine lv_bipush (v := (-9 : Int32)) hx hb dX8_part_147 (by decide) ?_
          exact hj149 (-9 : Int32) H locs ls (lv_sub hl [] rfl) hP hS h
        · replace h := sx_ifn h c20
          refine lv_aload_n hx hb dX8_part_138 rfl (lv_at hl 0 rfl) ?_
          refine gf_X8_32 X hP (by decide) dX8_part_139 ?_
          refine lv_iload_n hx hb dX8_part_142 rfl (lv_at hl 1 rfl) ?_
          refine sx_iald X hP 25 0 24 (by decide) (fun _ _ => rfl) dX8_part_143 h (fun v21 h => ?_)
          refine lv_goto (tgt := 149) hx hb dX8_part_144 (by decide) ?_
          exact hj149 v21 H locs ls (lv_sub hl [] rfl) hP hS h
      replace h := sx_ifn h c17
      by_cases c22 : a2 = (4 : Int32)
      · replace h := sx_ifp h c22
        refine lv_tableIn (tgt := 150) hx hb dX8_part_50 (by rw [c22]; decide) (by rw [c22]; decide) (by rw [c22]; rfl) (by decide) ?_
        refine lv_aload_n hx hb dX8_part_150 rfl (lv_at hl 0 rfl) ?_
        refine lv_iload_n hx hb dX8_part_151 rfl (lv_at hl 1 rfl) ?_
        refine lv_iconst (v := (1 : Int32)) hx hb dX8_part_152 (by decide) ?_
        refine lv_iconst (v := (1 : Int32)) hx hb dX8_part_153 (by decide) ?_
        obtain ⟨v23, e_v23, h⟩ := sx_bnd h
        refine cl_X8_213 X hG hP hz hS  e_v23 hl.1 dX8_part_154 hcs ⟨Nat.le_trans (by decide) hR.1, Nat.le_trans (by decide) hR.2⟩ (Nat.le_of_ble_eq_true rfl) (fun H locs hP hS => ?_)
        exact sx_iretM X hr hlocks hS hP h dX8_part_157
      replace h := sx_ifn h c22
      by_cases c24 : a2 = (5 : Int32)
      · replace h := sx_ifp h c24
        refine lv_tableIn (tgt := 158) hx hb dX8_part_50 (by rw [c24]; decide) (by rw [c24]; decide) (by rw [c24]; rfl) (by decide) ?_
        refine lv_aload_n hx hb dX8_part_158 rfl (lv_at hl 0 rfl) ?_
        refine lv_iload_n hx hb dX8_part_159 rfl (lv_at hl 1 rfl) ?_
        refine lv_iconst (v := (0 : Int32)) hx hb dX8_part_160 (by decide) ?_
        refine lv_iconst (v := (0 : Int32)) hx hb dX8_part_161 (by decide) ?_
        obtain ⟨v25, e_v25, h⟩ := sx_bnd h
        refine cl_X8_213 X hG hP hz hS  e_v25 hl.1 dX8_part_162 hcs ⟨Nat.le_trans (by decide) hR.1, Nat.le_trans (by decide) hR.2⟩ (Nat.le_of_ble_eq_true rfl) (fun H locs hP hS => ?_)
        exact sx_iretM X hr hlocks hS hP h dX8_part_165
      replace h := sx_ifn h c24
      have t_c7 := lv_neT (a := 0) c7 (by decide)
      have t_c10 := lv_neT (a := 1) c10 (by decide)
      have t_c13 := lv_neT (a := 2) c13 (by decide)
      have t_c17 := lv_neT (a := 3) c17 (by decide)
      have t_c22 := lv_neT (a := 4) c22 (by decide)
      have t_c24 := lv_neT (a := 5) c24 (by decide)
      refine lv_tableOut (tgt := 166) hx hb dX8_part_50 (by omega) (by decide) ?_
      refine lv_aload_n hx hb dX8_part_166 rfl (lv_at hl 0 rfl) ?_
      refine gf_X8_16 X hP (by decide) dX8_part_167 ?_
      refine lv_iconst (v := (3 : Int32)) hx hb dX8_part_170 (by decide) ?_
      refine sx_iald X hP 20 0 247 (by decide) (fun _ _ => rfl) dX8_part_171 h (fun v26 h => ?_)
      refine lv_iconst (v := (1 : Int32)) hx hb dX8_part_172 (by decide) ?_
      obtain ⟨j191, e_j191, h⟩ := sx_nm h
      have hj191 : ∀ (v27 : Int32) (H : Heap) (locs : List Loc) (ls : Array Slot), lv_has ls 3 [] → sx_W C M6 H → va_S (sx_A C) s.heap H locs → j191 v27 = some (r, M') → W p l e R s m args below meth c H locs 0 0 (sx_Z C (some (.int r)) M' below args s) (F0 m 191 ls [.int v27]) := by
        intro v27 H locs ls hl hP hS h
        subst e_j191
        exact sx_iretM X hr hlocks hS hP h dX8_part_191
      clear e_j191
      refine lv_icmp_ne (tgt := 189) hx hb dX8_part_173 (by decide) (fun c28 => ?_) (fun c28 => ?_)
      · replace h := sx_ifn h c28
        refine lv_bipush (v := (-9 : Int32)) hx hb dX8_part_189 (by decide) ?_
        exact hj191 (-9 : Int32) H locs ls (lv_sub hl [] rfl) hP hS h
      · replace h := sx_ifp h c28
        refine lv_aload_n hx hb dX8_part_176 rfl (lv_at hl 0 rfl) ?_
        refine gf_X8_16 X hP (by decide) dX8_part_177 ?_
        refine lv_iload_n hx hb dX8_part_180 rfl (lv_at hl 1 rfl) ?_
        refine lv_iconst (v := (3 : Int32)) hx hb dX8_part_181 (by decide) ?_
        obtain ⟨v29, e_v29, h⟩ := sx_bnd h
        refine cl_X8_66 X hG hP hz hS  e_v29 hl.1 dX8_part_182 hcs ⟨Nat.le_trans (by decide) hR.1, Nat.le_trans (by decide) hR.2⟩ (Nat.le_of_ble_eq_true rfl) (fun H locs hP hS => ?_)
        refine sx_iald X hP 20 0 247 (by decide) (fun _ _ => rfl) dX8_part_185 h (fun v30 h => ?_)
        refine lv_goto (tgt := 191) hx hb dX8_part_186 (by decide) ?_
        exact hj191 v30 H locs ls (lv_sub hl [] rfl) hP hS h
    · replace h := sx_ifn h c5
      refine lv_iconst (v := (0 : Int32)) hx hb dX8_part_39 (by decide) ?_
      exact sx_iretM X hr hlocks hS hP h dX8_part_40
  clear e_j33
  refine lv_if_ne (tgt := 16) hx hb dX8_part_9 (by decide) (fun c31 => ?_) (fun c31 => ?_)
  · replace h := sx_ifn h c31
    refine lv_iload_n hx hb dX8_part_16 rfl (lv_at hl 2 rfl) ?_
    refine lv_i2l (v := a2.toInt64) hx hb dX8_part_17 rfl ?_
    refine lv_lconst (v := (0 : Int64)) hx hb dX8_part_18 (by decide) ?_
    refine lv_ldc2 (v := (6 : Int64)) hx hb hown (hts _ tw_1193) dX8_part_19 ?_
    obtain ⟨v32, e_v32, h⟩ := sx_bnd h
    refine cl_X8_60 X hG hP hz hS  e_v32 hl.1 dX8_part_22 hcs ⟨Nat.le_trans (by decide) hR.1, Nat.le_trans (by decide) hR.2⟩ (Nat.le_of_ble_eq_true rfl) (fun H locs hP hS => ?_)
    refine lv_if_eq (tgt := 32) hx hb dX8_part_25 (by decide) (fun c33 => ?_) (fun c33 => ?_)
    · replace h := sx_ifp h c33
      refine lv_iconst (v := (2 : Int32)) hx hb dX8_part_32 (by decide) ?_
      exact hj33 (2 : Int32) H locs ls (lv_sub hl [0, 1, 2] rfl) hP hS h
    · replace h := sx_ifn h c33
      refine lv_iconst (v := (0 : Int32)) hx hb dX8_part_28 (by decide) ?_
      refine lv_goto (tgt := 33) hx hb dX8_part_29 (by decide) ?_
      exact hj33 (0 : Int32) H locs ls (lv_sub hl [0, 1, 2] rfl) hP hS h
  · replace h := sx_ifp h c31
    refine lv_iconst (v := (1 : Int32)) hx hb dX8_part_12 (by decide) ?_
    refine lv_goto (tgt := 33) hx hb dX8_part_13 (by decide) ?_
    exact hj33 (1 : Int32) H locs ls (lv_sub hl [0, 1, 2] rfl) hP hS h
set_option maxRecDepth 100000 in
theorem ct_8_part (l : Launch) (C : sx_C) (hG : sx_G C) (a1 : Int32) (a2 : Int32) (M0 : sx_M) (r : Int32) (M' : sx_M) (h : f8_part a1 a2 M0 = some (r, M')) : Met l yX8_part (.code yX8_part cX8_part 3 (some .int) :: sx_T) ({ frames := 3, cells := 0, slots := 0, locals := 72 } : Room) (sx_Pc C M0 [.ref (sx_ad C 17 0), .int a1, .int a2]) (sx_Q C (some (.int r)) M') 0 0 (sx_A C) := by
  refine Met.ofW (cc := cX8_part) (maxL := 3) (ret := (some .int)) (by decide) rfl ?_
  intro p e s m args below meth c s₁ B hml hv
  obtain ⟨rfl, hz, hP, hK⟩ := hv
  have hl := lv_entry ([.ref (sx_ad C 17 0), .int a1, .int a2]) (n := 3) (Nat.le_of_ble_eq_true rfl)
  rw [lg_entry_eq]
  generalize (lg_sl ([.ref (sx_ad C 17 0), .int a1, .int a2]) ++ List.replicate (3 - (lg_sl ([.ref (sx_ad C 17 0), .int a1, .int a2])).length) Slot.unset).toArray = ls at hl ⊢
  exact wk_8_part ⟨B.exec, B.bytes, hml, findClass_of_methodNamed B.named, fun w hw => atoms_spec B.pre w (List.mem_cons_of_mem _ hw), hK⟩ B.returns B.notSynchronized hG hz ⟨Nat.zero_le _, Nat.zero_le _⟩ ⟨Nat.le_refl _, Nat.le_refl _⟩ a1 a2 M0 r M' h hl hP va_S.rf
theorem cl_L_119 (X : sx_X C p m c cc nL s args RL) (hG : sx_G C) (hP : sx_W C M0 H) (hz : sx_sz C ≤ H0.size) (hS : va_S (sx_A C) H0 H locs) {a1 : Int32} {a2 : Int32} {r : Int32} {M' : sx_M} (h : f8_part a1 a2 M0 = some (r, M')) (hsz : ls.size = nL) (hdg : decode cc pc = .ok (.invokevirtual 119, 3)) (hcs : cells ≤ R.cells ∧ slots ≤ R.slots) (hR : 3 + 1 ≤ R.frames ∧ 8 + (3 + 11) + 72 ≤ R.locals) (hrest : (rest.map fun v => v.category).sum ≤ 8) (kk : ∀ (H1 : Heap) (locs1 : List Loc), sx_W C M' H1 → va_S (sx_A C) H0 H1 locs1 → W p l e R s m args below meth c H1 locs1 cells slots Q (F0 m (pc + 3) ls ((.int r) :: rest))) : W p l e R s m args below meth c H locs cells slots Q (F0 m pc ls (.int a2 :: .int a1 :: .ref (sx_ad C 17 0) :: rest)) :=
  sx_callV (n := 2) (As := [.int a1, .int a2]) (k0 := 17) (s0 := 0) X hP hz hS (by decide) rfl rfl (sx_goodV tw_1189 tw_1190 tw_1191 tw_71 tw_1192) (by decide +kernel) rfl rfl hR (ct_8_part l C hG a1 a2 M0 r M' h) rfl rfl hrest hsz hdg hcs kk
-- StringShedModel.string(II)I
def f8_string (a1 : Int32) (a2 : Int32) (M0 : sx_M) : Option (Int32 × sx_M) :=
  (f8_isThing 20 a1 M0).bind fun v1 =>
  sx_bd (fun (v2 : Int32) =>
    sx_b2 (f8_refused v2 M0) fun v3 M4 =>
    if v3 = 0 then
      (f8_find 20 a1 a2 M4).bind fun v6 =>
      sx_bd (fun (v7 : Int32) =>
        some (v7, M4)) fun j68 =>
      if v6 = (-9 : Int32) then
        j68 (0 : Int32)
      else
        (f8_cordAt v6 (2 : Int32) M4).bind fun v9 =>
        if sx_in v9 247 then
        sx_bd (M4.1 20 0 (v9).toNatClampNeg) fun v10 =>
        j68 ((2 : Int32) - v10)
        else none
    else
      some ((0 : Int32), M4)) fun j28 =>
  sx_bd (fun (_ : Unit) =>
    j28 (1 : Int32)) fun j27 =>
  if v1 = 0 then
    j27 ()
  else
    (f8_isPart 20 a2 M0).bind fun v12 =>
    if v12 = 0 then
      j27 ()
    else
      j28 (0 : Int32)
set_option maxRecDepth 100000 in
set_option maxHeartbeats 4000000 in
theorem wk_8_string (X : sx_X C p m c cX8_string 4 s args RX8) (hr : meth.sig.returnType = (some .int)) (hlocks : meth.locks = false) (hG : sx_G C) (hz : sx_sz C ≤ s.heap.size) (hcs : 0 ≤ R.cells ∧ 0 ≤ R.slots) (hR : 3 ≤ R.frames ∧ 67 ≤ R.locals) (a1 : Int32) (a2 : Int32) (M0 : sx_M) (r : Int32) (M' : sx_M) (h : f8_string a1 a2 M0 = some (r, M')) (hl : lv_has ls 4 [(0, .ref (sx_ad C 17 0)), (1, .int a1), (2, .int a2)]) (hP : sx_W C M0 H) (hS : va_S (sx_A C) s.heap H locs) : W p l e R s m args below meth c H locs 0 0 (sx_Z C (some (.int r)) M' below args s) (F0 m 0 ls []) := by
  obtain ⟨hx, hb, hml, hown, hts, hK⟩ := id X
  rw [f8_string] at h
  refine lv_aload_n hx hb dX8_string_0 rfl (lv_at hl 0 rfl) ?_
  refine lv_aload_n hx hb dX8_string_1 rfl (lv_at hl 0 rfl) ?_
  refine gf_X8_16 X hP (by decide) dX8_string_2 ?_
  refine lv_iload_n hx hb dX8_string_5 rfl (lv_at hl 1 rfl) ?_
  obtain ⟨v1, e_v1, h⟩ := sx_bnd h
  refine cl_X8_144 X hG hP hz hS sx_row20 e_v1 hl.1 dX8_string_6 hcs ⟨Nat.le_trans (by decide) hR.1, Nat.le_trans (by decide) hR.2⟩ (Nat.le_of_ble_eq_true rfl) (fun H locs hP hS => ?_)
  obtain ⟨j28, e_j28, h⟩ := sx_nm h
  have hj28 : ∀ (v2 : Int32) (H : Heap) (locs : List Loc) (ls : Array Slot), lv_has ls 4 [(0, .ref (sx_ad C 17 0)), (1, .int a1), (2, .int a2)] → sx_W C M0 H → va_S (sx_A C) s.heap H locs → j28 v2 = some (r, M') → W p l e R s m args below meth c H locs 0 0 (sx_Z C (some (.int r)) M' below args s) (F0 m 28 ls [.int v2, .ref (sx_ad C 17 0)]) := by
    intro v2 H locs ls hl hP hS h
    subst e_j28
    obtain ⟨v3, M4, e_v3, h⟩ := sx_bnd2 h
    refine cl_X8_111 X hG hP hz hS  e_v3 hl.1 dX8_string_28 hcs ⟨Nat.le_trans (by decide) hR.1, Nat.le_trans (by decide) hR.2⟩ (Nat.le_of_ble_eq_true rfl) (fun H locs hP hS => ?_)
    refine lv_if_eq (tgt := 36) hx hb dX8_string_31 (by decide) (fun c5 => ?_) (fun c5 => ?_)
    · replace h := sx_ifp h c5
      refine lv_aload_n hx hb dX8_string_36 rfl (lv_at hl 0 rfl) ?_
      refine gf_X8_16 X hP (by decide) dX8_string_37 ?_
      refine lv_iload_n hx hb dX8_string_40 rfl (lv_at hl 1 rfl) ?_
      refine lv_iload_n hx hb dX8_string_41 rfl (lv_at hl 2 rfl) ?_
      obtain ⟨v6, e_v6, h⟩ := sx_bnd h
      refine cl_X8_99 X hG hP hz hS sx_row20 e_v6 hl.1 dX8_string_42 hcs ⟨Nat.le_trans (by decide) hR.1, Nat.le_trans (by decide) hR.2⟩ (Nat.le_of_ble_eq_true rfl) (fun H locs hP hS => ?_)
      refine lv_istore_n (lv' := [(3, .int v6), (0, .ref (sx_ad C 17 0)), (1, .int a1), (2, .int a2)]) hx hb dX8_string_45 rfl hl (by decide) rfl (fun ls hl => ?_)
      refine lv_iload_n hx hb dX8_string_46 rfl (lv_at hl 0 rfl) ?_
      refine lv_bipush (v := (-9 : Int32)) hx hb dX8_string_47 (by decide) ?_
      obtain ⟨j68, e_j68, h⟩ := sx_nm h
      have hj68 : ∀ (v7 : Int32) (H : Heap) (locs : List Loc) (ls : Array Slot), lv_has ls 4 [] → sx_W C M4 H → va_S (sx_A C) s.heap H locs → j68 v7 = some (r, M') → W p l e R s m args below meth c H locs 0 0 (sx_Z C (some (.int r)) M' below args s) (F0 m 68 ls [.int v7]) := by
        intro v7 H locs ls hl hP hS h
        subst e_j68
        exact sx_iretM X hr hlocks hS hP h dX8_string_68
      clear e_j68
      refine lv_icmp_ne (tgt := 56) hx hb dX8_string_49 (by decide) (fun c8 => ?_) (fun c8 => ?_)
      · replace h := sx_ifn h c8
        refine lv_iconst (v := (2 : Int32)) hx hb dX8_string_56 (by decide) ?_
        refine lv_aload_n hx hb dX8_string_57 rfl (lv_at hl 1 rfl) ?_
        refine gf_X8_16 X hP (by decide) dX8_string_58 ?_
        refine lv_iload_n hx hb dX8_string_61 rfl (lv_at hl 0 rfl) ?_
        refine lv_iconst (v := (2 : Int32)) hx hb dX8_string_62 (by decide) ?_
        obtain ⟨v9, e_v9, h⟩ := sx_bnd h
        refine cl_X8_78 X hG hP hz hS  e_v9 hl.1 dX8_string_63 hcs ⟨Nat.le_trans (by decide) hR.1, Nat.le_trans (by decide) hR.2⟩ (Nat.le_of_ble_eq_true rfl) (fun H locs hP hS => ?_)
        refine sx_iald X hP 20 0 247 (by decide) (fun _ _ => rfl) dX8_string_66 h (fun v10 h => ?_)
        refine lv_isub hx hb dX8_string_67 ?_
        exact hj68 ((2 : Int32) - v10) H locs ls (lv_sub hl [] rfl) hP hS h
      · replace h := sx_ifp h c8
        refine lv_iconst (v := (0 : Int32)) hx hb dX8_string_52 (by decide) ?_
        refine lv_goto (tgt := 68) hx hb dX8_string_53 (by decide) ?_
        exact hj68 (0 : Int32) H locs ls (lv_sub hl [] rfl) hP hS h
    · replace h := sx_ifn h c5
      refine lv_iconst (v := (0 : Int32)) hx hb dX8_string_34 (by decide) ?_
      exact sx_iretM X hr hlocks hS hP h dX8_string_35
  clear e_j28
  obtain ⟨j27, e_j27, h⟩ := sx_nm h
  have hj27 : ∀ (H : Heap) (locs : List Loc) (ls : Array Slot), lv_has ls 4 [(0, .ref (sx_ad C 17 0)), (1, .int a1), (2, .int a2)] → sx_W C M0 H → va_S (sx_A C) s.heap H locs → j27 () = some (r, M') → W p l e R s m args below meth c H locs 0 0 (sx_Z C (some (.int r)) M' below args s) (F0 m 27 ls [.ref (sx_ad C 17 0)]) := by
    intro  H locs ls hl hP hS h
    subst e_j27
    refine lv_iconst (v := (1 : Int32)) hx hb dX8_string_27 (by decide) ?_
    exact hj28 (1 : Int32) H locs ls (lv_sub hl [0, 1, 2] rfl) hP hS h
  clear e_j27
  refine lv_if_eq (tgt := 27) hx hb dX8_string_9 (by decide) (fun c11 => ?_) (fun c11 => ?_)
  · replace h := sx_ifp h c11
    exact hj27 H locs ls (lv_sub hl [0, 1, 2] rfl) hP hS h
  · replace h := sx_ifn h c11
    refine lv_aload_n hx hb dX8_string_12 rfl (lv_at hl 0 rfl) ?_
    refine gf_X8_16 X hP (by decide) dX8_string_13 ?_
    refine lv_iload_n hx hb dX8_string_16 rfl (lv_at hl 2 rfl) ?_
    obtain ⟨v12, e_v12, h⟩ := sx_bnd h
    refine cl_X8_74 X hG hP hz hS sx_row20 e_v12 hl.1 dX8_string_17 hcs ⟨Nat.le_trans (by decide) hR.1, Nat.le_trans (by decide) hR.2⟩ (Nat.le_of_ble_eq_true rfl) (fun H locs hP hS => ?_)
    refine lv_if_eq (tgt := 27) hx hb dX8_string_20 (by decide) (fun c13 => ?_) (fun c13 => ?_)
    · replace h := sx_ifp h c13
      exact hj27 H locs ls (lv_sub hl [0, 1, 2] rfl) hP hS h
    · replace h := sx_ifn h c13
      refine lv_iconst (v := (0 : Int32)) hx hb dX8_string_23 (by decide) ?_
      refine lv_goto (tgt := 28) hx hb dX8_string_24 (by decide) ?_
      exact hj28 (0 : Int32) H locs ls (lv_sub hl [0, 1, 2] rfl) hP hS h
set_option maxRecDepth 100000 in
theorem ct_8_string (l : Launch) (C : sx_C) (hG : sx_G C) (a1 : Int32) (a2 : Int32) (M0 : sx_M) (r : Int32) (M' : sx_M) (h : f8_string a1 a2 M0 = some (r, M')) : Met l yX8_string (.code yX8_string cX8_string 4 (some .int) :: sx_T) ({ frames := 3, cells := 0, slots := 0, locals := 67 } : Room) (sx_Pc C M0 [.ref (sx_ad C 17 0), .int a1, .int a2]) (sx_Q C (some (.int r)) M') 0 0 (sx_A C) := by
  refine Met.ofW (cc := cX8_string) (maxL := 4) (ret := (some .int)) (by decide) rfl ?_
  intro p e s m args below meth c s₁ B hml hv
  obtain ⟨rfl, hz, hP, hK⟩ := hv
  have hl := lv_entry ([.ref (sx_ad C 17 0), .int a1, .int a2]) (n := 4) (Nat.le_of_ble_eq_true rfl)
  rw [lg_entry_eq]
  generalize (lg_sl ([.ref (sx_ad C 17 0), .int a1, .int a2]) ++ List.replicate (4 - (lg_sl ([.ref (sx_ad C 17 0), .int a1, .int a2])).length) Slot.unset).toArray = ls at hl ⊢
  exact wk_8_string ⟨B.exec, B.bytes, hml, findClass_of_methodNamed B.named, fun w hw => atoms_spec B.pre w (List.mem_cons_of_mem _ hw), hK⟩ B.returns B.notSynchronized hG hz ⟨Nat.zero_le _, Nat.zero_le _⟩ ⟨Nat.le_refl _, Nat.le_refl _⟩ a1 a2 M0 r M' h hl hP va_S.rf
theorem cl_L_122 (X : sx_X C p m c cc nL s args RL) (hG : sx_G C) (hP : sx_W C M0 H) (hz : sx_sz C ≤ H0.size) (hS : va_S (sx_A C) H0 H locs) {a1 : Int32} {a2 : Int32} {r : Int32} {M' : sx_M} (h : f8_string a1 a2 M0 = some (r, M')) (hsz : ls.size = nL) (hdg : decode cc pc = .ok (.invokevirtual 122, 3)) (hcs : cells ≤ R.cells ∧ slots ≤ R.slots) (hR : 3 + 1 ≤ R.frames ∧ 8 + (4 + 11) + 67 ≤ R.locals) (hrest : (rest.map fun v => v.category).sum ≤ 8) (kk : ∀ (H1 : Heap) (locs1 : List Loc), sx_W C M' H1 → va_S (sx_A C) H0 H1 locs1 → W p l e R s m args below meth c H1 locs1 cells slots Q (F0 m (pc + 3) ls ((.int r) :: rest))) : W p l e R s m args below meth c H locs cells slots Q (F0 m pc ls (.int a2 :: .int a1 :: .ref (sx_ad C 17 0) :: rest)) :=
  sx_callV (n := 2) (As := [.int a1, .int a2]) (k0 := 17) (s0 := 0) X hP hz hS (by decide) rfl rfl (sx_goodV tw_1198 tw_1199 tw_1200 tw_71 tw_1201) (by decide +kernel) rfl rfl hR (ct_8_string l C hG a1 a2 M0 r M' h) rfl rfl hrest hsz hdg hcs kk
-- StringShedModel.tells(I)I pure
def f8_tells (a1 : Int32) (M0 : sx_M) : Option (Int32) :=
  (f8_cordAt a1 (0 : Int32) M0).bind fun v1 =>
  if sx_in v1 247 then
  sx_bd (M0.1 20 0 (v1).toNatClampNeg) fun v2 =>
  (f8_cordAt a1 (1 : Int32) M0).bind fun v3 =>
  if sx_in v3 247 then
  sx_bd (M0.1 20 0 (v3).toNatClampNeg) fun v4 =>
  some (((100 : Int32) * ((4 : Int32) + v2)) + v4)
  else none
  else none
set_option maxRecDepth 100000 in
set_option maxHeartbeats 4000000 in
theorem wk_8_tells (X : sx_X C p m c cX8_tells 2 s args RX8) (hr : meth.sig.returnType = (some .int)) (hlocks : meth.locks = false) (hG : sx_G C) (hz : sx_sz C ≤ s.heap.size) (hcs : 0 ≤ R.cells ∧ 0 ≤ R.slots) (hR : 1 ≤ R.frames ∧ 21 ≤ R.locals) (a1 : Int32) (M0 : sx_M) (r : Int32) (h : f8_tells a1 M0 = some r) (hl : lv_has ls 2 [(0, .ref (sx_ad C 17 0)), (1, .int a1)]) (hP : sx_W C M0 H) (hS : va_S (sx_A C) s.heap H locs) : W p l e R s m args below meth c H locs 0 0 (sx_Z C (some (.int r)) M0 below args s) (F0 m 0 ls []) := by
  obtain ⟨hx, hb, hml, hown, hts, hK⟩ := id X
  rw [f8_tells] at h
  refine lv_bipush (v := (100 : Int32)) hx hb dX8_tells_0 (by decide) ?_
  refine lv_iconst (v := (4 : Int32)) hx hb dX8_tells_2 (by decide) ?_
  refine lv_aload_n hx hb dX8_tells_3 rfl (lv_at hl 0 rfl) ?_
  refine gf_X8_16 X hP (by decide) dX8_tells_4 ?_
  refine lv_iload_n hx hb dX8_tells_7 rfl (lv_at hl 1 rfl) ?_
  refine lv_iconst (v := (0 : Int32)) hx hb dX8_tells_8 (by decide) ?_
  obtain ⟨v1, e_v1, h⟩ := sx_bnd h
  refine cl_X8_78 X hG hP hz hS  e_v1 hl.1 dX8_tells_9 hcs ⟨Nat.le_trans (by decide) hR.1, Nat.le_trans (by decide) hR.2⟩ (Nat.le_of_ble_eq_true rfl) (fun H locs hP hS => ?_)
  refine sx_iald X hP 20 0 247 (by decide) (fun _ _ => rfl) dX8_tells_12 h (fun v2 h => ?_)
  refine lv_iadd hx hb dX8_tells_13 ?_
  refine lv_imul hx hb dX8_tells_14 ?_
  refine lv_aload_n hx hb dX8_tells_15 rfl (lv_at hl 0 rfl) ?_
  refine gf_X8_16 X hP (by decide) dX8_tells_16 ?_
  refine lv_iload_n hx hb dX8_tells_19 rfl (lv_at hl 1 rfl) ?_
  refine lv_iconst (v := (1 : Int32)) hx hb dX8_tells_20 (by decide) ?_
  obtain ⟨v3, e_v3, h⟩ := sx_bnd h
  refine cl_X8_78 X hG hP hz hS  e_v3 hl.1 dX8_tells_21 hcs ⟨Nat.le_trans (by decide) hR.1, Nat.le_trans (by decide) hR.2⟩ (Nat.le_of_ble_eq_true rfl) (fun H locs hP hS => ?_)
  refine sx_iald X hP 20 0 247 (by decide) (fun _ _ => rfl) dX8_tells_24 h (fun v4 h => ?_)
  refine lv_iadd hx hb dX8_tells_25 ?_
  exact sx_iret X hr hlocks hS hP h dX8_tells_26
set_option maxRecDepth 100000 in
theorem ct_8_tells (l : Launch) (C : sx_C) (hG : sx_G C) (a1 : Int32) (M0 : sx_M) (r : Int32) (h : f8_tells a1 M0 = some r) : Met l yX8_tells (.code yX8_tells cX8_tells 2 (some .int) :: sx_T) ({ frames := 1, cells := 0, slots := 0, locals := 21 } : Room) (sx_Pc C M0 [.ref (sx_ad C 17 0), .int a1]) (sx_Q C (some (.int r)) M0) 0 0 (sx_A C) := by
  refine Met.ofW (cc := cX8_tells) (maxL := 2) (ret := (some .int)) (by decide) rfl ?_
  intro p e s m args below meth c s₁ B hml hv
  obtain ⟨rfl, hz, hP, hK⟩ := hv
  have hl := lv_entry ([.ref (sx_ad C 17 0), .int a1]) (n := 2) (Nat.le_of_ble_eq_true rfl)
  rw [lg_entry_eq]
  generalize (lg_sl ([.ref (sx_ad C 17 0), .int a1]) ++ List.replicate (2 - (lg_sl ([.ref (sx_ad C 17 0), .int a1])).length) Slot.unset).toArray = ls at hl ⊢
  exact wk_8_tells ⟨B.exec, B.bytes, hml, findClass_of_methodNamed B.named, fun w hw => atoms_spec B.pre w (List.mem_cons_of_mem _ hw), hK⟩ B.returns B.notSynchronized hG hz ⟨Nat.zero_le _, Nat.zero_le _⟩ ⟨Nat.le_refl _, Nat.le_refl _⟩ a1 M0 r h hl hP va_S.rf
theorem cl_X8_217 (X : sx_X C p m c cc nL s args RX8) (hG : sx_G C) (hP : sx_W C M0 H) (hz : sx_sz C ≤ H0.size) (hS : va_S (sx_A C) H0 H locs) {a1 : Int32} {r : Int32} (h : f8_tells a1 M0 = some r) (hsz : ls.size = nL) (hdg : decode cc pc = .ok (.invokevirtual 217, 3)) (hcs : cells ≤ R.cells ∧ slots ≤ R.slots) (hR : 1 + 1 ≤ R.frames ∧ 8 + (2 + 11) + 21 ≤ R.locals) (hrest : (rest.map fun v => v.category).sum ≤ 8) (kk : ∀ (H1 : Heap) (locs1 : List Loc), sx_W C M0 H1 → va_S (sx_A C) H0 H1 locs1 → W p l e R s m args below meth c H1 locs1 cells slots Q (F0 m (pc + 3) ls ((.int r) :: rest))) : W p l e R s m args below meth c H locs cells slots Q (F0 m pc ls (.int a1 :: .ref (sx_ad C 17 0) :: rest)) :=
  sx_callV (n := 1) (As := [.int a1]) (k0 := 17) (s0 := 0) X hP hz hS (by decide) rfl rfl (sx_goodV tw_1206 tw_1208 tw_44 tw_71 tw_1209) (by decide +kernel) rfl rfl hR (ct_8_tells l C hG a1 M0 r h) rfl rfl hrest hsz hdg hcs kk
-- StringShedModel.stringAt(I)I
def f8_stringAt (a1 : Int32) (M0 : sx_M) : Option (Int32 × sx_M) :=
  sx_bd (fun (v1 : Int32) =>
    sx_b2 (f8_refused v1 M0) fun v2 M3 =>
    if v2 = 0 then
      if sx_in (2 : Int32) 247 then
      sx_bd (M3.1 20 0 ((2 : Int32)).toNatClampNeg) fun v5 =>
      sx_bd (fun (v6 : Int32) =>
        some (v6, M3)) fun j38 =>
      if v5 ≤ a1 then
        j38 (-9 : Int32)
      else
        (f8_tells a1 M3).bind fun v8 =>
        j38 v8
      else none
    else
      some ((0 : Int32), M3)) fun j10 =>
  if 0 ≤ a1 then
    j10 (0 : Int32)
  else
    j10 (1 : Int32)
set_option maxRecDepth 100000 in
set_option maxHeartbeats 4000000 in
theorem wk_8_stringAt (X : sx_X C p m c cX8_stringAt 2 s args RX8) (hr : meth.sig.returnType = (some .int)) (hlocks : meth.locks = false) (hG : sx_G C) (hz : sx_sz C ≤ s.heap.size) (hcs : 0 ≤ R.cells ∧ 0 ≤ R.slots) (hR : 2 ≤ R.frames ∧ 42 ≤ R.locals) (a1 : Int32) (M0 : sx_M) (r : Int32) (M' : sx_M) (h : f8_stringAt a1 M0 = some (r, M')) (hl : lv_has ls 2 [(0, .ref (sx_ad C 17 0)), (1, .int a1)]) (hP : sx_W C M0 H) (hS : va_S (sx_A C) s.heap H locs) : W p l e R s m args below meth c H locs 0 0 (sx_Z C (some (.int r)) M' below args s) (F0 m 0 ls []) := by
  obtain ⟨hx, hb, hml, hown, hts, hK⟩ := id X
  rw [f8_stringAt] at h
  refine lv_aload_n hx hb dX8_stringAt_0 rfl (lv_at hl 0 rfl) ?_
  refine lv_iload_n hx hb dX8_stringAt_1 rfl (lv_at hl 1 rfl) ?_
  obtain ⟨j10, e_j10, h⟩ := sx_nm h
  have hj10 : ∀ (v1 : Int32) (H : Heap) (locs : List Loc) (ls : Array Slot), lv_has ls 2 [(0, .ref (sx_ad C 17 0)), (1, .int a1)] → sx_W C M0 H → va_S (sx_A C) s.heap H locs → j10 v1 = some (r, M') → W p l e R s m args below meth c H locs 0 0 (sx_Z C (some (.int r)) M' below args s) (F0 m 10 ls [.int v1, .ref (sx_ad C 17 0)]) := by
    intro v1 H locs ls hl hP hS h
    subst e_j10
    obtain ⟨v2, M3, e_v2, h⟩ := sx_bnd2 h
    refine cl_X8_111 X hG hP hz hS  e_v2 hl.1 dX8_stringAt_10 hcs ⟨Nat.le_trans (by decide) hR.1, Nat.le_trans (by decide) hR.2⟩ (Nat.le_of_ble_eq_true rfl) (fun H locs hP hS => ?_)
    refine lv_if_eq (tgt := 18) hx hb dX8_stringAt_13 (by decide) (fun c4 => ?_) (fun c4 => ?_)
    · replace h := sx_ifp h c4
      refine lv_iload_n hx hb dX8_stringAt_18 rfl (lv_at hl 1 rfl) ?_
      refine lv_aload_n hx hb dX8_stringAt_19 rfl (lv_at hl 0 rfl) ?_
      refine gf_X8_16 X hP (by decide) dX8_stringAt_20 ?_
      refine lv_iconst (v := (2 : Int32)) hx hb dX8_stringAt_23 (by decide) ?_
      refine sx_iald X hP 20 0 247 (by decide) (fun _ _ => rfl) dX8_stringAt_24 h (fun v5 h => ?_)
      obtain ⟨j38, e_j38, h⟩ := sx_nm h
      have hj38 : ∀ (v6 : Int32) (H : Heap) (locs : List Loc) (ls : Array Slot), lv_has ls 2 [] → sx_W C M3 H → va_S (sx_A C) s.heap H locs → j38 v6 = some (r, M') → W p l e R s m args below meth c H locs 0 0 (sx_Z C (some (.int r)) M' below args s) (F0 m 38 ls [.int v6]) := by
        intro v6 H locs ls hl hP hS h
        subst e_j38
        exact sx_iretM X hr hlocks hS hP h dX8_stringAt_38
      clear e_j38
      refine lv_icmp_ge (tgt := 36) hx hb dX8_stringAt_25 (by decide) (fun c7 => ?_) (fun c7 => ?_)
      · replace h := sx_ifp h c7
        refine lv_bipush (v := (-9 : Int32)) hx hb dX8_stringAt_36 (by decide) ?_
        exact hj38 (-9 : Int32) H locs ls (lv_sub hl [] rfl) hP hS h
      · replace h := sx_ifn h c7
        refine lv_aload_n hx hb dX8_stringAt_28 rfl (lv_at hl 0 rfl) ?_
        refine lv_iload_n hx hb dX8_stringAt_29 rfl (lv_at hl 1 rfl) ?_
        obtain ⟨v8, e_v8, h⟩ := sx_bnd h
        refine cl_X8_217 X hG hP hz hS  e_v8 hl.1 dX8_stringAt_30 hcs ⟨Nat.le_trans (by decide) hR.1, Nat.le_trans (by decide) hR.2⟩ (Nat.le_of_ble_eq_true rfl) (fun H locs hP hS => ?_)
        refine lv_goto (tgt := 38) hx hb dX8_stringAt_33 (by decide) ?_
        exact hj38 v8 H locs ls (lv_sub hl [] rfl) hP hS h
    · replace h := sx_ifn h c4
      refine lv_iconst (v := (0 : Int32)) hx hb dX8_stringAt_16 (by decide) ?_
      exact sx_iretM X hr hlocks hS hP h dX8_stringAt_17
  clear e_j10
  refine lv_if_ge (tgt := 9) hx hb dX8_stringAt_2 (by decide) (fun c9 => ?_) (fun c9 => ?_)
  · replace h := sx_ifp h c9
    refine lv_iconst (v := (0 : Int32)) hx hb dX8_stringAt_9 (by decide) ?_
    exact hj10 (0 : Int32) H locs ls (lv_sub hl [0, 1] rfl) hP hS h
  · replace h := sx_ifn h c9
    refine lv_iconst (v := (1 : Int32)) hx hb dX8_stringAt_5 (by decide) ?_
    refine lv_goto (tgt := 10) hx hb dX8_stringAt_6 (by decide) ?_
    exact hj10 (1 : Int32) H locs ls (lv_sub hl [0, 1] rfl) hP hS h
set_option maxRecDepth 100000 in
theorem ct_8_stringAt (l : Launch) (C : sx_C) (hG : sx_G C) (a1 : Int32) (M0 : sx_M) (r : Int32) (M' : sx_M) (h : f8_stringAt a1 M0 = some (r, M')) : Met l yX8_stringAt (.code yX8_stringAt cX8_stringAt 2 (some .int) :: sx_T) ({ frames := 2, cells := 0, slots := 0, locals := 42 } : Room) (sx_Pc C M0 [.ref (sx_ad C 17 0), .int a1]) (sx_Q C (some (.int r)) M') 0 0 (sx_A C) := by
  refine Met.ofW (cc := cX8_stringAt) (maxL := 2) (ret := (some .int)) (by decide) rfl ?_
  intro p e s m args below meth c s₁ B hml hv
  obtain ⟨rfl, hz, hP, hK⟩ := hv
  have hl := lv_entry ([.ref (sx_ad C 17 0), .int a1]) (n := 2) (Nat.le_of_ble_eq_true rfl)
  rw [lg_entry_eq]
  generalize (lg_sl ([.ref (sx_ad C 17 0), .int a1]) ++ List.replicate (2 - (lg_sl ([.ref (sx_ad C 17 0), .int a1])).length) Slot.unset).toArray = ls at hl ⊢
  exact wk_8_stringAt ⟨B.exec, B.bytes, hml, findClass_of_methodNamed B.named, fun w hw => atoms_spec B.pre w (List.mem_cons_of_mem _ hw), hK⟩ B.returns B.notSynchronized hG hz ⟨Nat.zero_le _, Nat.zero_le _⟩ ⟨Nat.le_refl _, Nat.le_refl _⟩ a1 M0 r M' h hl hP va_S.rf
theorem cl_L_125 (X : sx_X C p m c cc nL s args RL) (hG : sx_G C) (hP : sx_W C M0 H) (hz : sx_sz C ≤ H0.size) (hS : va_S (sx_A C) H0 H locs) {a1 : Int32} {r : Int32} {M' : sx_M} (h : f8_stringAt a1 M0 = some (r, M')) (hsz : ls.size = nL) (hdg : decode cc pc = .ok (.invokevirtual 125, 3)) (hcs : cells ≤ R.cells ∧ slots ≤ R.slots) (hR : 2 + 1 ≤ R.frames ∧ 8 + (2 + 11) + 42 ≤ R.locals) (hrest : (rest.map fun v => v.category).sum ≤ 8) (kk : ∀ (H1 : Heap) (locs1 : List Loc), sx_W C M' H1 → va_S (sx_A C) H0 H1 locs1 → W p l e R s m args below meth c H1 locs1 cells slots Q (F0 m (pc + 3) ls ((.int r) :: rest))) : W p l e R s m args below meth c H locs cells slots Q (F0 m pc ls (.int a1 :: .ref (sx_ad C 17 0) :: rest)) :=
  sx_callV (n := 1) (As := [.int a1]) (k0 := 17) (s0 := 0) X hP hz hS (by decide) rfl rfl (sx_goodV tw_1202 tw_1203 tw_1204 tw_71 tw_1205) (by decide +kernel) rfl rfl hR (ct_8_stringAt l C hG a1 M0 r M' h) rfl rfl hrest hsz hdg hcs kk
-- StringShedModel.make(I)I
def f8_make (a1 : Int32) (M0 : sx_M) : Option (Int32 × sx_M) :=
  (f8_in a1.toInt64 (1 : Int64) (9 : Int64) M0).bind fun v1 =>
  sx_bd (fun (v2 : Int32) =>
    sx_b2 (f8_refused v2 M0) fun v3 M4 =>
    if v3 = 0 then
      (f8_remember M4).bind fun M6 =>
      sx_b2 (f8_makeIn 20 a1 M6) fun v7 M8 =>
      some (v7, M8)
    else
      some ((0 : Int32), M4)) fun j33 =>
  if v1 = 0 then
    j33 (1 : Int32)
  else
    if sx_in (0 : Int32) 247 then
    sx_bd (M0.1 20 0 ((0 : Int32)).toNatClampNeg) fun v10 =>
    if v10 = (24 : Int32) then
      j33 (2 : Int32)
    else
      j33 (0 : Int32)
    else none
set_option maxRecDepth 100000 in
set_option maxHeartbeats 4000000 in
theorem wk_8_make (X : sx_X C p m c cX8_make 2 s args RX8) (hr : meth.sig.returnType = (some .int)) (hlocks : meth.locks = false) (hG : sx_G C) (hz : sx_sz C ≤ s.heap.size) (hcs : 0 ≤ R.cells ∧ 0 ≤ R.slots) (hR : 2 ≤ R.frames ∧ 45 ≤ R.locals) (a1 : Int32) (M0 : sx_M) (r : Int32) (M' : sx_M) (h : f8_make a1 M0 = some (r, M')) (hl : lv_has ls 2 [(0, .ref (sx_ad C 17 0)), (1, .int a1)]) (hP : sx_W C M0 H) (hS : va_S (sx_A C) s.heap H locs) : W p l e R s m args below meth c H locs 0 0 (sx_Z C (some (.int r)) M' below args s) (F0 m 0 ls []) := by
  obtain ⟨hx, hb, hml, hown, hts, hK⟩ := id X
  rw [f8_make] at h
  refine lv_aload_n hx hb dX8_make_0 rfl (lv_at hl 0 rfl) ?_
  refine lv_iload_n hx hb dX8_make_1 rfl (lv_at hl 1 rfl) ?_
  refine lv_i2l (v := a1.toInt64) hx hb dX8_make_2 rfl ?_
  refine lv_lconst (v := (1 : Int64)) hx hb dX8_make_3 (by decide) ?_
  refine lv_ldc2 (v := (9 : Int64)) hx hb hown (hts _ tw_1074) dX8_make_4 ?_
  obtain ⟨v1, e_v1, h⟩ := sx_bnd h
  refine cl_X8_60 X hG hP hz hS  e_v1 hl.1 dX8_make_7 hcs ⟨Nat.le_trans (by decide) hR.1, Nat.le_trans (by decide) hR.2⟩ (Nat.le_of_ble_eq_true rfl) (fun H locs hP hS => ?_)
  obtain ⟨j33, e_j33, h⟩ := sx_nm h
  have hj33 : ∀ (v2 : Int32) (H : Heap) (locs : List Loc) (ls : Array Slot), lv_has ls 2 [(0, .ref (sx_ad C 17 0)), (1, .int a1)] → sx_W C M0 H → va_S (sx_A C) s.heap H locs → j33 v2 = some (r, M') → W p l e R s m args below meth c H locs 0 0 (sx_Z C (some (.int r)) M' below args s) (F0 m 33 ls [.int v2, .ref (sx_ad C 17 0)]) := by
    intro v2 H locs ls hl hP hS h
    subst e_j33
    obtain ⟨v3, M4, e_v3, h⟩ := sx_bnd2 h
    refine cl_X8_111 X hG hP hz hS  e_v3 hl.1 dX8_make_33 hcs ⟨Nat.le_trans (by decide) hR.1, Nat.le_trans (by decide) hR.2⟩ (Nat.le_of_ble_eq_true rfl) (fun H locs hP hS => ?_)
    refine lv_if_eq (tgt := 41) hx hb dX8_make_36 (by decide) (fun c5 => ?_) (fun c5 => ?_)
    · replace h := sx_ifp h c5
      refine lv_aload_n hx hb dX8_make_41 rfl (lv_at hl 0 rfl) ?_
      obtain ⟨M6, e_M6, h⟩ := sx_bnd h
      refine cl_X8_221 X hG hP hz hS  e_M6 hl.1 dX8_make_42 hcs ⟨Nat.le_trans (by decide) hR.1, Nat.le_trans (by decide) hR.2⟩ (Nat.le_of_ble_eq_true rfl) (fun H locs hP hS => ?_)
      refine lv_aload_n hx hb dX8_make_45 rfl (lv_at hl 0 rfl) ?_
      refine gf_X8_16 X hP (by decide) dX8_make_46 ?_
      refine lv_iload_n hx hb dX8_make_49 rfl (lv_at hl 1 rfl) ?_
      obtain ⟨v7, M8, e_v7, h⟩ := sx_bnd2 h
      refine cl_X8_161 X hG hP hz hS sx_row20 e_v7 hl.1 dX8_make_50 hcs ⟨Nat.le_trans (by decide) hR.1, Nat.le_trans (by decide) hR.2⟩ (Nat.le_of_ble_eq_true rfl) (fun H locs hP hS => ?_)
      exact sx_iretM X hr hlocks hS hP h dX8_make_53
    · replace h := sx_ifn h c5
      refine lv_iconst (v := (0 : Int32)) hx hb dX8_make_39 (by decide) ?_
      exact sx_iretM X hr hlocks hS hP h dX8_make_40
  clear e_j33
  refine lv_if_ne (tgt := 17) hx hb dX8_make_10 (by decide) (fun c9 => ?_) (fun c9 => ?_)
  · replace h := sx_ifn h c9
    refine lv_aload_n hx hb dX8_make_17 rfl (lv_at hl 0 rfl) ?_
    refine gf_X8_16 X hP (by decide) dX8_make_18 ?_
    refine lv_iconst (v := (0 : Int32)) hx hb dX8_make_21 (by decide) ?_
    refine sx_iald X hP 20 0 247 (by decide) (fun _ _ => rfl) dX8_make_22 h (fun v10 h => ?_)
    refine lv_bipush (v := (24 : Int32)) hx hb dX8_make_23 (by decide) ?_
    refine lv_icmp_ne (tgt := 32) hx hb dX8_make_25 (by decide) (fun c11 => ?_) (fun c11 => ?_)
    · replace h := sx_ifn h c11
      refine lv_iconst (v := (0 : Int32)) hx hb dX8_make_32 (by decide) ?_
      exact hj33 (0 : Int32) H locs ls (lv_sub hl [0, 1] rfl) hP hS h
    · replace h := sx_ifp h c11
      refine lv_iconst (v := (2 : Int32)) hx hb dX8_make_28 (by decide) ?_
      refine lv_goto (tgt := 33) hx hb dX8_make_29 (by decide) ?_
      exact hj33 (2 : Int32) H locs ls (lv_sub hl [0, 1] rfl) hP hS h
  · replace h := sx_ifp h c9
    refine lv_iconst (v := (1 : Int32)) hx hb dX8_make_13 (by decide) ?_
    refine lv_goto (tgt := 33) hx hb dX8_make_14 (by decide) ?_
    exact hj33 (1 : Int32) H locs ls (lv_sub hl [0, 1] rfl) hP hS h
set_option maxRecDepth 100000 in
theorem ct_8_make (l : Launch) (C : sx_C) (hG : sx_G C) (a1 : Int32) (M0 : sx_M) (r : Int32) (M' : sx_M) (h : f8_make a1 M0 = some (r, M')) : Met l yX8_make (.code yX8_make cX8_make 2 (some .int) :: sx_T) ({ frames := 2, cells := 0, slots := 0, locals := 45 } : Room) (sx_Pc C M0 [.ref (sx_ad C 17 0), .int a1]) (sx_Q C (some (.int r)) M') 0 0 (sx_A C) := by
  refine Met.ofW (cc := cX8_make) (maxL := 2) (ret := (some .int)) (by decide) rfl ?_
  intro p e s m args below meth c s₁ B hml hv
  obtain ⟨rfl, hz, hP, hK⟩ := hv
  have hl := lv_entry ([.ref (sx_ad C 17 0), .int a1]) (n := 2) (Nat.le_of_ble_eq_true rfl)
  rw [lg_entry_eq]
  generalize (lg_sl ([.ref (sx_ad C 17 0), .int a1]) ++ List.replicate (2 - (lg_sl ([.ref (sx_ad C 17 0), .int a1])).length) Slot.unset).toArray = ls at hl ⊢
  exact wk_8_make ⟨B.exec, B.bytes, hml, findClass_of_methodNamed B.named, fun w hw => atoms_spec B.pre w (List.mem_cons_of_mem _ hw), hK⟩ B.returns B.notSynchronized hG hz ⟨Nat.zero_le _, Nat.zero_le _⟩ ⟨Nat.le_refl _, Nat.le_refl _⟩ a1 M0 r M' h hl hP va_S.rf
theorem cl_L_128 (X : sx_X C p m c cc nL s args RL) (hG : sx_G C) (hP : sx_W C M0 H) (hz : sx_sz C ≤ H0.size) (hS : va_S (sx_A C) H0 H locs) {a1 : Int32} {r : Int32} {M' : sx_M} (h : f8_make a1 M0 = some (r, M')) (hsz : ls.size = nL) (hdg : decode cc pc = .ok (.invokevirtual 128, 3)) (hcs : cells ≤ R.cells ∧ slots ≤ R.slots) (hR : 2 + 1 ≤ R.frames ∧ 8 + (2 + 11) + 45 ≤ R.locals) (hrest : (rest.map fun v => v.category).sum ≤ 8) (kk : ∀ (H1 : Heap) (locs1 : List Loc), sx_W C M' H1 → va_S (sx_A C) H0 H1 locs1 → W p l e R s m args below meth c H1 locs1 cells slots Q (F0 m (pc + 3) ls ((.int r) :: rest))) : W p l e R s m args below meth c H locs cells slots Q (F0 m pc ls (.int a1 :: .ref (sx_ad C 17 0) :: rest)) :=
  sx_callV (n := 1) (As := [.int a1]) (k0 := 17) (s0 := 0) X hP hz hS (by decide) rfl rfl (sx_goodV tw_1210 tw_1211 tw_1212 tw_71 tw_1213) (by decide +kernel) rfl rfl hR (ct_8_make l C hG a1 M0 r M' h) rfl rfl hrest hsz hdg hcs kk
-- StringShedModel.tie(IIZ)I
def f8_tie (a1 : Int32) (a2 : Int32) (a3 : Int32) (M0 : sx_M) : Option (Int32 × sx_M) :=
  (f8_isThing 20 a1 M0).bind fun v1 =>
  sx_bd (fun (v2 : Int32) =>
    sx_bd (fun (v3 : Int32) =>
      sx_b2 (f8_refused v3 M0) fun v4 M5 =>
      if v4 = 0 then
        (f8_remember M5).bind fun M7 =>
        sx_bd (fun (v8 : Int32) =>
          (f8_tieIn 20 a1 a2 v8 M7).bind fun M9 =>
          if sx_in (2 : Int32) 247 then
          sx_bd (M9.1 20 0 ((2 : Int32)).toNatClampNeg) fun v10 =>
          some (v10, M9)
          else none) fun j92 =>
        if a3 = 0 then
          j92 (0 : Int32)
        else
          j92 (1 : Int32)
      else
        some ((0 : Int32), M5)) fun j65 =>
    if v2 = 0 then
      j65 (1 : Int32)
    else
      if a1 = a2 then
        j65 (2 : Int32)
      else
        (f8_canTie 20 a1 a2 M0).bind fun v14 =>
        if v14 = 0 then
          j65 (3 : Int32)
        else
          j65 (0 : Int32)) fun j27 =>
  sx_bd (fun (_ : Unit) =>
    j27 (0 : Int32)) fun j26 =>
  if v1 = 0 then
    j26 ()
  else
    (f8_isPart 20 a2 M0).bind fun v17 =>
    if v17 = 0 then
      j26 ()
    else
      j27 (1 : Int32)
set_option maxRecDepth 100000 in
set_option maxHeartbeats 4000000 in
theorem wk_8_tie (X : sx_X C p m c cX8_tie 5 s args RX8) (hr : meth.sig.returnType = (some .int)) (hlocks : meth.locks = false) (hG : sx_G C) (hz : sx_sz C ≤ s.heap.size) (hcs : 0 ≤ R.cells ∧ 0 ≤ R.slots) (hR : 3 ≤ R.frames ∧ 67 ≤ R.locals) (a1 : Int32) (a2 : Int32) (a3 : Int32) (M0 : sx_M) (r : Int32) (M' : sx_M) (h : f8_tie a1 a2 a3 M0 = some (r, M')) (hl : lv_has ls 5 [(0, .ref (sx_ad C 17 0)), (1, .int a1), (2, .int a2), (3, .int a3)]) (hP : sx_W C M0 H) (hS : va_S (sx_A C) s.heap H locs) : W p l e R s m args below meth c H locs 0 0 (sx_Z C (some (.int r)) M' below args s) (F0 m 0 ls []) := by
  obtain ⟨hx, hb, hml, hown, hts, hK⟩ := id X
  rw [f8_tie] at h
  refine lv_aload_n hx hb dX8_tie_0 rfl (lv_at hl 0 rfl) ?_
  refine gf_X8_16 X hP (by decide) dX8_tie_1 ?_
  refine lv_iload_n hx hb dX8_tie_4 rfl (lv_at hl 1 rfl) ?_
  obtain ⟨v1, e_v1, h⟩ := sx_bnd h
  refine cl_X8_144 X hG hP hz hS sx_row20 e_v1 hl.1 dX8_tie_5 hcs ⟨Nat.le_trans (by decide) hR.1, Nat.le_trans (by decide) hR.2⟩ (Nat.le_of_ble_eq_true rfl) (fun H locs hP hS => ?_)
  obtain ⟨j27, e_j27, h⟩ := sx_nm h
  have hj27 : ∀ (v2 : Int32) (H : Heap) (locs : List Loc) (ls : Array Slot), lv_has ls 5 [(0, .ref (sx_ad C 17 0)), (1, .int a1), (2, .int a2), (3, .int a3)] → sx_W C M0 H → va_S (sx_A C) s.heap H locs → j27 v2 = some (r, M') → W p l e R s m args below meth c H locs 0 0 (sx_Z C (some (.int r)) M' below args s) (F0 m 27 ls [.int v2]) := by
    intro v2 H locs ls hl hP hS h
    subst e_j27
    refine lv_istore (lv' := [(4, .int v2), (0, .ref (sx_ad C 17 0)), (1, .int a1), (2, .int a2), (3, .int a3)]) hx hb dX8_tie_27 hl (by decide) rfl (fun ls hl => ?_)
    refine lv_aload_n hx hb dX8_tie_29 rfl (lv_at hl 1 rfl) ?_
    refine lv_iload hx hb dX8_tie_30 (lv_at hl 0 rfl) ?_
    obtain ⟨j65, e_j65, h⟩ := sx_nm h
    have hj65 : ∀ (v3 : Int32) (H : Heap) (locs : List Loc) (ls : Array Slot), lv_has ls 5 [(0, .ref (sx_ad C 17 0)), (1, .int a1), (2, .int a2), (3, .int a3)] → sx_W C M0 H → va_S (sx_A C) s.heap H locs → j65 v3 = some (r, M') → W p l e R s m args below meth c H locs 0 0 (sx_Z C (some (.int r)) M' below args s) (F0 m 65 ls [.int v3, .ref (sx_ad C 17 0)]) := by
      intro v3 H locs ls hl hP hS h
      subst e_j65
      obtain ⟨v4, M5, e_v4, h⟩ := sx_bnd2 h
      refine cl_X8_111 X hG hP hz hS  e_v4 hl.1 dX8_tie_65 hcs ⟨Nat.le_trans (by decide) hR.1, Nat.le_trans (by decide) hR.2⟩ (Nat.le_of_ble_eq_true rfl) (fun H locs hP hS => ?_)
      refine lv_if_eq (tgt := 73) hx hb dX8_tie_68 (by decide) (fun c6 => ?_) (fun c6 => ?_)
      · replace h := sx_ifp h c6
        refine lv_aload_n hx hb dX8_tie_73 rfl (lv_at hl 0 rfl) ?_
        obtain ⟨M7, e_M7, h⟩ := sx_bnd h
        refine cl_X8_221 X hG hP hz hS  e_M7 hl.1 dX8_tie_74 hcs ⟨Nat.le_trans (by decide) hR.1, Nat.le_trans (by decide) hR.2⟩ (Nat.le_of_ble_eq_true rfl) (fun H locs hP hS => ?_)
        refine lv_aload_n hx hb dX8_tie_77 rfl (lv_at hl 0 rfl) ?_
        refine gf_X8_16 X hP (by decide) dX8_tie_78 ?_
        refine lv_iload_n hx hb dX8_tie_81 rfl (lv_at hl 1 rfl) ?_
        refine lv_iload_n hx hb dX8_tie_82 rfl (lv_at hl 2 rfl) ?_
        refine lv_iload_n hx hb dX8_tie_83 rfl (lv_at hl 3 rfl) ?_
        obtain ⟨j92, e_j92, h⟩ := sx_nm h
        have hj92 : ∀ (v8 : Int32) (H : Heap) (locs : List Loc) (ls : Array Slot), lv_has ls 5 [(0, .ref (sx_ad C 17 0))] → sx_W C M7 H → va_S (sx_A C) s.heap H locs → j92 v8 = some (r, M') → W p l e R s m args below meth c H locs 0 0 (sx_Z C (some (.int r)) M' below args s) (F0 m 92 ls [.int v8, .int a2, .int a1, .ref (sx_ad C 20 0)]) := by
          intro v8 H locs ls hl hP hS h
          subst e_j92
          obtain ⟨M9, e_M9, h⟩ := sx_bnd h
          refine cl_X8_154 X hG hP hz hS sx_row20 e_M9 hl.1 dX8_tie_92 hcs ⟨Nat.le_trans (by decide) hR.1, Nat.le_trans (by decide) hR.2⟩ (Nat.le_of_ble_eq_true rfl) (fun H locs hP hS => ?_)
          refine lv_aload_n hx hb dX8_tie_95 rfl (lv_at hl 0 rfl) ?_
          refine gf_X8_16 X hP (by decide) dX8_tie_96 ?_
          refine lv_iconst (v := (2 : Int32)) hx hb dX8_tie_99 (by decide) ?_
          refine sx_iald X hP 20 0 247 (by decide) (fun _ _ => rfl) dX8_tie_100 h (fun v10 h => ?_)
          exact sx_iretM X hr hlocks hS hP h dX8_tie_101
        clear e_j92
        refine lv_if_eq (tgt := 91) hx hb dX8_tie_84 (by decide) (fun c11 => ?_) (fun c11 => ?_)
        · replace h := sx_ifp h c11
          refine lv_iconst (v := (0 : Int32)) hx hb dX8_tie_91 (by decide) ?_
          exact hj92 (0 : Int32) H locs ls (lv_sub hl [0] rfl) hP hS h
        · replace h := sx_ifn h c11
          refine lv_iconst (v := (1 : Int32)) hx hb dX8_tie_87 (by decide) ?_
          refine lv_goto (tgt := 92) hx hb dX8_tie_88 (by decide) ?_
          exact hj92 (1 : Int32) H locs ls (lv_sub hl [0] rfl) hP hS h
      · replace h := sx_ifn h c6
        refine lv_iconst (v := (0 : Int32)) hx hb dX8_tie_71 (by decide) ?_
        exact sx_iretM X hr hlocks hS hP h dX8_tie_72
    clear e_j65
    refine lv_if_ne (tgt := 39) hx hb dX8_tie_32 (by decide) (fun c12 => ?_) (fun c12 => ?_)
    · replace h := sx_ifn h c12
      refine lv_iload_n hx hb dX8_tie_39 rfl (lv_at hl 2 rfl) ?_
      refine lv_iload_n hx hb dX8_tie_40 rfl (lv_at hl 3 rfl) ?_
      refine lv_icmp_ne (tgt := 48) hx hb dX8_tie_41 (by decide) (fun c13 => ?_) (fun c13 => ?_)
      · replace h := sx_ifn h c13
        refine lv_aload_n hx hb dX8_tie_48 rfl (lv_at hl 1 rfl) ?_
        refine gf_X8_16 X hP (by decide) dX8_tie_49 ?_
        refine lv_iload_n hx hb dX8_tie_52 rfl (lv_at hl 2 rfl) ?_
        refine lv_iload_n hx hb dX8_tie_53 rfl (lv_at hl 3 rfl) ?_
        obtain ⟨v14, e_v14, h⟩ := sx_bnd h
        refine cl_X8_147 X hG hP hz hS sx_row20 e_v14 hl.1 dX8_tie_54 hcs ⟨Nat.le_trans (by decide) hR.1, Nat.le_trans (by decide) hR.2⟩ (Nat.le_of_ble_eq_true rfl) (fun H locs hP hS => ?_)
        refine lv_if_eq (tgt := 64) hx hb dX8_tie_57 (by decide) (fun c15 => ?_) (fun c15 => ?_)
        · replace h := sx_ifp h c15
          refine lv_iconst (v := (3 : Int32)) hx hb dX8_tie_64 (by decide) ?_
          exact hj65 (3 : Int32) H locs ls (lv_sub hl [1, 2, 3, 4] rfl) hP hS h
        · replace h := sx_ifn h c15
          refine lv_iconst (v := (0 : Int32)) hx hb dX8_tie_60 (by decide) ?_
          refine lv_goto (tgt := 65) hx hb dX8_tie_61 (by decide) ?_
          exact hj65 (0 : Int32) H locs ls (lv_sub hl [1, 2, 3, 4] rfl) hP hS h
      · replace h := sx_ifp h c13
        refine lv_iconst (v := (2 : Int32)) hx hb dX8_tie_44 (by decide) ?_
        refine lv_goto (tgt := 65) hx hb dX8_tie_45 (by decide) ?_
        exact hj65 (2 : Int32) H locs ls (lv_sub hl [1, 2, 3, 4] rfl) hP hS h
    · replace h := sx_ifp h c12
      refine lv_iconst (v := (1 : Int32)) hx hb dX8_tie_35 (by decide) ?_
      refine lv_goto (tgt := 65) hx hb dX8_tie_36 (by decide) ?_
      exact hj65 (1 : Int32) H locs ls (lv_sub hl [1, 2, 3, 4] rfl) hP hS h
  clear e_j27
  obtain ⟨j26, e_j26, h⟩ := sx_nm h
  have hj26 : ∀ (H : Heap) (locs : List Loc) (ls : Array Slot), lv_has ls 5 [(0, .ref (sx_ad C 17 0)), (1, .int a1), (2, .int a2), (3, .int a3)] → sx_W C M0 H → va_S (sx_A C) s.heap H locs → j26 () = some (r, M') → W p l e R s m args below meth c H locs 0 0 (sx_Z C (some (.int r)) M' below args s) (F0 m 26 ls []) := by
    intro  H locs ls hl hP hS h
    subst e_j26
    refine lv_iconst (v := (0 : Int32)) hx hb dX8_tie_26 (by decide) ?_
    exact hj27 (0 : Int32) H locs ls (lv_sub hl [0, 1, 2, 3] rfl) hP hS h
  clear e_j26
  refine lv_if_eq (tgt := 26) hx hb dX8_tie_8 (by decide) (fun c16 => ?_) (fun c16 => ?_)
  · replace h := sx_ifp h c16
    exact hj26 H locs ls (lv_sub hl [0, 1, 2, 3] rfl) hP hS h
  · replace h := sx_ifn h c16
    refine lv_aload_n hx hb dX8_tie_11 rfl (lv_at hl 0 rfl) ?_
    refine gf_X8_16 X hP (by decide) dX8_tie_12 ?_
    refine lv_iload_n hx hb dX8_tie_15 rfl (lv_at hl 2 rfl) ?_
    obtain ⟨v17, e_v17, h⟩ := sx_bnd h
    refine cl_X8_74 X hG hP hz hS sx_row20 e_v17 hl.1 dX8_tie_16 hcs ⟨Nat.le_trans (by decide) hR.1, Nat.le_trans (by decide) hR.2⟩ (Nat.le_of_ble_eq_true rfl) (fun H locs hP hS => ?_)
    refine lv_if_eq (tgt := 26) hx hb dX8_tie_19 (by decide) (fun c18 => ?_) (fun c18 => ?_)
    · replace h := sx_ifp h c18
      exact hj26 H locs ls (lv_sub hl [0, 1, 2, 3] rfl) hP hS h
    · replace h := sx_ifn h c18
      refine lv_iconst (v := (1 : Int32)) hx hb dX8_tie_22 (by decide) ?_
      refine lv_goto (tgt := 27) hx hb dX8_tie_23 (by decide) ?_
      exact hj27 (1 : Int32) H locs ls (lv_sub hl [0, 1, 2, 3] rfl) hP hS h
set_option maxRecDepth 100000 in
theorem ct_8_tie (l : Launch) (C : sx_C) (hG : sx_G C) (a1 : Int32) (a2 : Int32) (a3 : Int32) (M0 : sx_M) (r : Int32) (M' : sx_M) (h : f8_tie a1 a2 a3 M0 = some (r, M')) : Met l yX8_tie (.code yX8_tie cX8_tie 5 (some .int) :: sx_T) ({ frames := 3, cells := 0, slots := 0, locals := 67 } : Room) (sx_Pc C M0 [.ref (sx_ad C 17 0), .int a1, .int a2, .int a3]) (sx_Q C (some (.int r)) M') 0 0 (sx_A C) := by
  refine Met.ofW (cc := cX8_tie) (maxL := 5) (ret := (some .int)) (by decide) rfl ?_
  intro p e s m args below meth c s₁ B hml hv
  obtain ⟨rfl, hz, hP, hK⟩ := hv
  have hl := lv_entry ([.ref (sx_ad C 17 0), .int a1, .int a2, .int a3]) (n := 5) (Nat.le_of_ble_eq_true rfl)
  rw [lg_entry_eq]
  generalize (lg_sl ([.ref (sx_ad C 17 0), .int a1, .int a2, .int a3]) ++ List.replicate (5 - (lg_sl ([.ref (sx_ad C 17 0), .int a1, .int a2, .int a3])).length) Slot.unset).toArray = ls at hl ⊢
  exact wk_8_tie ⟨B.exec, B.bytes, hml, findClass_of_methodNamed B.named, fun w hw => atoms_spec B.pre w (List.mem_cons_of_mem _ hw), hK⟩ B.returns B.notSynchronized hG hz ⟨Nat.zero_le _, Nat.zero_le _⟩ ⟨Nat.le_refl _, Nat.le_refl _⟩ a1 a2 a3 M0 r M' h hl hP va_S.rf
theorem cl_L_132 (X : sx_X C p m c cc nL s args RL) (hG : sx_G C) (hP : sx_W C M0 H) (hz : sx_sz C ≤ H0.size) (hS : va_S (sx_A C) H0 H locs) {a1 : Int32} {a2 : Int32} {a3 : Int32} {r : Int32} {M' : sx_M} (h : f8_tie a1 a2 a3 M0 = some (r, M')) (hsz : ls.size = nL) (hdg : decode cc pc = .ok (.invokevirtual 132, 3)) (hcs : cells ≤ R.cells ∧ slots ≤ R.slots) (hR : 3 + 1 ≤ R.frames ∧ 8 + (5 + 11) + 67 ≤ R.locals) (hrest : (rest.map fun v => v.category).sum ≤ 8) (kk : ∀ (H1 : Heap) (locs1 : List Loc), sx_W C M' H1 → va_S (sx_A C) H0 H1 locs1 → W p l e R s m args below meth c H1 locs1 cells slots Q (F0 m (pc + 3) ls ((.int r) :: rest))) : W p l e R s m args below meth c H locs cells slots Q (F0 m pc ls (.int a3 :: .int a2 :: .int a1 :: .ref (sx_ad C 17 0) :: rest)) :=
  sx_callV (n := 3) (As := [.int a1, .int a2, .int a3]) (k0 := 17) (s0 := 0) X hP hz hS (by decide) rfl rfl (sx_goodV tw_1218 tw_1219 tw_1220 tw_71 tw_1221) (by decide +kernel) rfl rfl hR (ct_8_tie l C hG a1 a2 a3 M0 r M' h) rfl rfl hrest hsz hdg hcs kk
-- StringShedModel.foundString(II)I pure
def f8_foundString (a1 : Int32) (a2 : Int32) (M0 : sx_M) : Option (Int32) :=
  (f8_isThing 20 a1 M0).bind fun v1 =>
  sx_bd (fun (v2 : Int32) =>
    some v2) fun j36 =>
  sx_bd (fun (_ : Unit) =>
    j36 (-9 : Int32)) fun j34 =>
  if v1 = 0 then
    j34 ()
  else
    (f8_isPart 20 a2 M0).bind fun v4 =>
    if v4 = 0 then
      j34 ()
    else
      (f8_find 20 a1 a2 M0).bind fun v6 =>
      j36 v6
set_option maxRecDepth 100000 in
set_option maxHeartbeats 4000000 in
theorem wk_8_foundString (X : sx_X C p m c cX8_foundString 3 s args RX8) (hr : meth.sig.returnType = (some .int)) (hlocks : meth.locks = false) (hG : sx_G C) (hz : sx_sz C ≤ s.heap.size) (hcs : 0 ≤ R.cells ∧ 0 ≤ R.slots) (hR : 3 ≤ R.frames ∧ 67 ≤ R.locals) (a1 : Int32) (a2 : Int32) (M0 : sx_M) (r : Int32) (h : f8_foundString a1 a2 M0 = some r) (hl : lv_has ls 3 [(0, .ref (sx_ad C 17 0)), (1, .int a1), (2, .int a2)]) (hP : sx_W C M0 H) (hS : va_S (sx_A C) s.heap H locs) : W p l e R s m args below meth c H locs 0 0 (sx_Z C (some (.int r)) M0 below args s) (F0 m 0 ls []) := by
  obtain ⟨hx, hb, hml, hown, hts, hK⟩ := id X
  rw [f8_foundString] at h
  refine lv_aload_n hx hb dX8_foundString_0 rfl (lv_at hl 0 rfl) ?_
  refine gf_X8_16 X hP (by decide) dX8_foundString_1 ?_
  refine lv_iload_n hx hb dX8_foundString_4 rfl (lv_at hl 1 rfl) ?_
  obtain ⟨v1, e_v1, h⟩ := sx_bnd h
  refine cl_X8_144 X hG hP hz hS sx_row20 e_v1 hl.1 dX8_foundString_5 hcs ⟨Nat.le_trans (by decide) hR.1, Nat.le_trans (by decide) hR.2⟩ (Nat.le_of_ble_eq_true rfl) (fun H locs hP hS => ?_)
  obtain ⟨j36, e_j36, h⟩ := sx_nm h
  have hj36 : ∀ (v2 : Int32) (H : Heap) (locs : List Loc) (ls : Array Slot), lv_has ls 3 [] → sx_W C M0 H → va_S (sx_A C) s.heap H locs → j36 v2 = some r → W p l e R s m args below meth c H locs 0 0 (sx_Z C (some (.int r)) M0 below args s) (F0 m 36 ls [.int v2]) := by
    intro v2 H locs ls hl hP hS h
    subst e_j36
    exact sx_iret X hr hlocks hS hP h dX8_foundString_36
  clear e_j36
  obtain ⟨j34, e_j34, h⟩ := sx_nm h
  have hj34 : ∀ (H : Heap) (locs : List Loc) (ls : Array Slot), lv_has ls 3 [] → sx_W C M0 H → va_S (sx_A C) s.heap H locs → j34 () = some r → W p l e R s m args below meth c H locs 0 0 (sx_Z C (some (.int r)) M0 below args s) (F0 m 34 ls []) := by
    intro  H locs ls hl hP hS h
    subst e_j34
    refine lv_bipush (v := (-9 : Int32)) hx hb dX8_foundString_34 (by decide) ?_
    exact hj36 (-9 : Int32) H locs ls (lv_sub hl [] rfl) hP hS h
  clear e_j34
  refine lv_if_eq (tgt := 34) hx hb dX8_foundString_8 (by decide) (fun c3 => ?_) (fun c3 => ?_)
  · replace h := sx_ifp h c3
    exact hj34 H locs ls (lv_sub hl [] rfl) hP hS h
  · replace h := sx_ifn h c3
    refine lv_aload_n hx hb dX8_foundString_11 rfl (lv_at hl 0 rfl) ?_
    refine gf_X8_16 X hP (by decide) dX8_foundString_12 ?_
    refine lv_iload_n hx hb dX8_foundString_15 rfl (lv_at hl 2 rfl) ?_
    obtain ⟨v4, e_v4, h⟩ := sx_bnd h
    refine cl_X8_74 X hG hP hz hS sx_row20 e_v4 hl.1 dX8_foundString_16 hcs ⟨Nat.le_trans (by decide) hR.1, Nat.le_trans (by decide) hR.2⟩ (Nat.le_of_ble_eq_true rfl) (fun H locs hP hS => ?_)
    refine lv_if_eq (tgt := 34) hx hb dX8_foundString_19 (by decide) (fun c5 => ?_) (fun c5 => ?_)
    · replace h := sx_ifp h c5
      exact hj34 H locs ls (lv_sub hl [] rfl) hP hS h
    · replace h := sx_ifn h c5
      refine lv_aload_n hx hb dX8_foundString_22 rfl (lv_at hl 0 rfl) ?_
      refine gf_X8_16 X hP (by decide) dX8_foundString_23 ?_
      refine lv_iload_n hx hb dX8_foundString_26 rfl (lv_at hl 1 rfl) ?_
      refine lv_iload_n hx hb dX8_foundString_27 rfl (lv_at hl 2 rfl) ?_
      obtain ⟨v6, e_v6, h⟩ := sx_bnd h
      refine cl_X8_99 X hG hP hz hS sx_row20 e_v6 hl.1 dX8_foundString_28 hcs ⟨Nat.le_trans (by decide) hR.1, Nat.le_trans (by decide) hR.2⟩ (Nat.le_of_ble_eq_true rfl) (fun H locs hP hS => ?_)
      refine lv_goto (tgt := 36) hx hb dX8_foundString_31 (by decide) ?_
      exact hj36 v6 H locs ls (lv_sub hl [] rfl) hP hS h
set_option maxRecDepth 100000 in
theorem ct_8_foundString (l : Launch) (C : sx_C) (hG : sx_G C) (a1 : Int32) (a2 : Int32) (M0 : sx_M) (r : Int32) (h : f8_foundString a1 a2 M0 = some r) : Met l yX8_foundString (.code yX8_foundString cX8_foundString 3 (some .int) :: sx_T) ({ frames := 3, cells := 0, slots := 0, locals := 67 } : Room) (sx_Pc C M0 [.ref (sx_ad C 17 0), .int a1, .int a2]) (sx_Q C (some (.int r)) M0) 0 0 (sx_A C) := by
  refine Met.ofW (cc := cX8_foundString) (maxL := 3) (ret := (some .int)) (by decide) rfl ?_
  intro p e s m args below meth c s₁ B hml hv
  obtain ⟨rfl, hz, hP, hK⟩ := hv
  have hl := lv_entry ([.ref (sx_ad C 17 0), .int a1, .int a2]) (n := 3) (Nat.le_of_ble_eq_true rfl)
  rw [lg_entry_eq]
  generalize (lg_sl ([.ref (sx_ad C 17 0), .int a1, .int a2]) ++ List.replicate (3 - (lg_sl ([.ref (sx_ad C 17 0), .int a1, .int a2])).length) Slot.unset).toArray = ls at hl ⊢
  exact wk_8_foundString ⟨B.exec, B.bytes, hml, findClass_of_methodNamed B.named, fun w hw => atoms_spec B.pre w (List.mem_cons_of_mem _ hw), hK⟩ B.returns B.notSynchronized hG hz ⟨Nat.zero_le _, Nat.zero_le _⟩ ⟨Nat.le_refl _, Nat.le_refl _⟩ a1 a2 M0 r h hl hP va_S.rf
theorem cl_X8_224 (X : sx_X C p m c cc nL s args RX8) (hG : sx_G C) (hP : sx_W C M0 H) (hz : sx_sz C ≤ H0.size) (hS : va_S (sx_A C) H0 H locs) {a1 : Int32} {a2 : Int32} {r : Int32} (h : f8_foundString a1 a2 M0 = some r) (hsz : ls.size = nL) (hdg : decode cc pc = .ok (.invokevirtual 224, 3)) (hcs : cells ≤ R.cells ∧ slots ≤ R.slots) (hR : 3 + 1 ≤ R.frames ∧ 8 + (3 + 11) + 67 ≤ R.locals) (hrest : (rest.map fun v => v.category).sum ≤ 8) (kk : ∀ (H1 : Heap) (locs1 : List Loc), sx_W C M0 H1 → va_S (sx_A C) H0 H1 locs1 → W p l e R s m args below meth c H1 locs1 cells slots Q (F0 m (pc + 3) ls ((.int r) :: rest))) : W p l e R s m args below meth c H locs cells slots Q (F0 m pc ls (.int a2 :: .int a1 :: .ref (sx_ad C 17 0) :: rest)) :=
  sx_callV (n := 2) (As := [.int a1, .int a2]) (k0 := 17) (s0 := 0) X hP hz hS (by decide) rfl rfl (sx_goodV tw_1226 tw_1228 tw_46 tw_71 tw_1229) (by decide +kernel) rfl rfl hR (ct_8_foundString l C hG a1 a2 M0 r h) rfl rfl hrest hsz hdg hcs kk
-- StringShedModel.cut(II)I
def f8_cut (a1 : Int32) (a2 : Int32) (M0 : sx_M) : Option (Int32 × sx_M) :=
  (f8_foundString a1 a2 M0).bind fun v1 =>
  sx_bd (fun (v2 : Int32) =>
    sx_b2 (f8_refused v2 M0) fun v3 M4 =>
    if v3 = 0 then
      (f8_remember M4).bind fun M6 =>
      sx_b2 (f8_heldMany 20 M6) fun v7 M8 =>
      (f8_removeString 20 v1 M8).bind fun M9 =>
      sx_b2 (f8_heldMany 20 M9) fun v10 M11 =>
      some (v7 - v10, M11)
    else
      some ((0 : Int32), M4)) fun j19 =>
  if v1 = (-9 : Int32) then
    j19 (1 : Int32)
  else
    j19 (0 : Int32)
set_option maxRecDepth 100000 in
set_option maxHeartbeats 4000000 in
theorem wk_8_cut (X : sx_X C p m c cX8_cut 5 s args RX8) (hr : meth.sig.returnType = (some .int)) (hlocks : meth.locks = false) (hG : sx_G C) (hz : sx_sz C ≤ s.heap.size) (hcs : 0 ≤ R.cells ∧ 0 ≤ R.slots) (hR : 4 ≤ R.frames ∧ 95 ≤ R.locals) (a1 : Int32) (a2 : Int32) (M0 : sx_M) (r : Int32) (M' : sx_M) (h : f8_cut a1 a2 M0 = some (r, M')) (hl : lv_has ls 5 [(0, .ref (sx_ad C 17 0)), (1, .int a1), (2, .int a2)]) (hP : sx_W C M0 H) (hS : va_S (sx_A C) s.heap H locs) : W p l e R s m args below meth c H locs 0 0 (sx_Z C (some (.int r)) M' below args s) (F0 m 0 ls []) := by
  obtain ⟨hx, hb, hml, hown, hts, hK⟩ := id X
  rw [f8_cut] at h
  refine lv_aload_n hx hb dX8_cut_0 rfl (lv_at hl 0 rfl) ?_
  refine lv_iload_n hx hb dX8_cut_1 rfl (lv_at hl 1 rfl) ?_
  refine lv_iload_n hx hb dX8_cut_2 rfl (lv_at hl 2 rfl) ?_
  obtain ⟨v1, e_v1, h⟩ := sx_bnd h
  refine cl_X8_224 X hG hP hz hS  e_v1 hl.1 dX8_cut_3 hcs ⟨Nat.le_trans (by decide) hR.1, Nat.le_trans (by decide) hR.2⟩ (Nat.le_of_ble_eq_true rfl) (fun H locs hP hS => ?_)
  refine lv_istore_n (lv' := [(3, .int v1), (0, .ref (sx_ad C 17 0)), (1, .int a1), (2, .int a2)]) hx hb dX8_cut_6 rfl hl (by decide) rfl (fun ls hl => ?_)
  refine lv_aload_n hx hb dX8_cut_7 rfl (lv_at hl 1 rfl) ?_
  refine lv_iload_n hx hb dX8_cut_8 rfl (lv_at hl 0 rfl) ?_
  refine lv_bipush (v := (-9 : Int32)) hx hb dX8_cut_9 (by decide) ?_
  obtain ⟨j19, e_j19, h⟩ := sx_nm h
  have hj19 : ∀ (v2 : Int32) (H : Heap) (locs : List Loc) (ls : Array Slot), lv_has ls 5 [(0, .ref (sx_ad C 17 0)), (3, .int v1)] → sx_W C M0 H → va_S (sx_A C) s.heap H locs → j19 v2 = some (r, M') → W p l e R s m args below meth c H locs 0 0 (sx_Z C (some (.int r)) M' below args s) (F0 m 19 ls [.int v2, .ref (sx_ad C 17 0)]) := by
    intro v2 H locs ls hl hP hS h
    subst e_j19
    obtain ⟨v3, M4, e_v3, h⟩ := sx_bnd2 h
    refine cl_X8_111 X hG hP hz hS  e_v3 hl.1 dX8_cut_19 hcs ⟨Nat.le_trans (by decide) hR.1, Nat.le_trans (by decide) hR.2⟩ (Nat.le_of_ble_eq_true rfl) (fun H locs hP hS => ?_)
    refine lv_if_eq (tgt := 27) hx hb dX8_cut_22 (by decide) (fun c5 => ?_) (fun c5 => ?_)
    · replace h := sx_ifp h c5
      refine lv_aload_n hx hb dX8_cut_27 rfl (lv_at hl 0 rfl) ?_
      obtain ⟨M6, e_M6, h⟩ := sx_bnd h
      refine cl_X8_221 X hG hP hz hS  e_M6 hl.1 dX8_cut_28 hcs ⟨Nat.le_trans (by decide) hR.1, Nat.le_trans (by decide) hR.2⟩ (Nat.le_of_ble_eq_true rfl) (fun H locs hP hS => ?_)
      refine lv_aload_n hx hb dX8_cut_31 rfl (lv_at hl 0 rfl) ?_
      refine lv_aload_n hx hb dX8_cut_32 rfl (lv_at hl 0 rfl) ?_
      refine gf_X8_16 X hP (by decide) dX8_cut_33 ?_
      obtain ⟨v7, M8, e_v7, h⟩ := sx_bnd2 h
      refine cl_X8_202 X hG hP hz hS sx_row20 e_v7 hl.1 dX8_cut_36 hcs ⟨Nat.le_trans (by decide) hR.1, Nat.le_trans (by decide) hR.2⟩ (Nat.le_of_ble_eq_true rfl) (fun H locs hP hS => ?_)
      refine lv_istore (lv' := [(4, .int v7), (0, .ref (sx_ad C 17 0)), (3, .int v1)]) hx hb dX8_cut_39 hl (by decide) rfl (fun ls hl => ?_)
      refine lv_aload_n hx hb dX8_cut_41 rfl (lv_at hl 1 rfl) ?_
      refine gf_X8_16 X hP (by decide) dX8_cut_42 ?_
      refine lv_iload_n hx hb dX8_cut_45 rfl (lv_at hl 2 rfl) ?_
      obtain ⟨M9, e_M9, h⟩ := sx_bnd h
      refine cl_X8_89 X hG hP hz hS sx_row20 e_M9 hl.1 dX8_cut_46 hcs ⟨Nat.le_trans (by decide) hR.1, Nat.le_trans (by decide) hR.2⟩ (Nat.le_of_ble_eq_true rfl) (fun H locs hP hS => ?_)
      refine lv_iload hx hb dX8_cut_49 (lv_at hl 0 rfl) ?_
      refine lv_aload_n hx hb dX8_cut_51 rfl (lv_at hl 1 rfl) ?_
      refine lv_aload_n hx hb dX8_cut_52 rfl (lv_at hl 1 rfl) ?_
      refine gf_X8_16 X hP (by decide) dX8_cut_53 ?_
      obtain ⟨v10, M11, e_v10, h⟩ := sx_bnd2 h
      refine cl_X8_202 X hG hP hz hS sx_row20 e_v10 hl.1 dX8_cut_56 hcs ⟨Nat.le_trans (by decide) hR.1, Nat.le_trans (by decide) hR.2⟩ (Nat.le_of_ble_eq_true rfl) (fun H locs hP hS => ?_)
      refine lv_isub hx hb dX8_cut_59 ?_
      exact sx_iretM X hr hlocks hS hP h dX8_cut_60
    · replace h := sx_ifn h c5
      refine lv_iconst (v := (0 : Int32)) hx hb dX8_cut_25 (by decide) ?_
      exact sx_iretM X hr hlocks hS hP h dX8_cut_26
  clear e_j19
  refine lv_icmp_ne (tgt := 18) hx hb dX8_cut_11 (by decide) (fun c12 => ?_) (fun c12 => ?_)
  · replace h := sx_ifn h c12
    refine lv_iconst (v := (0 : Int32)) hx hb dX8_cut_18 (by decide) ?_
    exact hj19 (0 : Int32) H locs ls (lv_sub hl [1, 0] rfl) hP hS h
  · replace h := sx_ifp h c12
    refine lv_iconst (v := (1 : Int32)) hx hb dX8_cut_14 (by decide) ?_
    refine lv_goto (tgt := 19) hx hb dX8_cut_15 (by decide) ?_
    exact hj19 (1 : Int32) H locs ls (lv_sub hl [1, 0] rfl) hP hS h
set_option maxRecDepth 100000 in
theorem ct_8_cut (l : Launch) (C : sx_C) (hG : sx_G C) (a1 : Int32) (a2 : Int32) (M0 : sx_M) (r : Int32) (M' : sx_M) (h : f8_cut a1 a2 M0 = some (r, M')) : Met l yX8_cut (.code yX8_cut cX8_cut 5 (some .int) :: sx_T) ({ frames := 4, cells := 0, slots := 0, locals := 95 } : Room) (sx_Pc C M0 [.ref (sx_ad C 17 0), .int a1, .int a2]) (sx_Q C (some (.int r)) M') 0 0 (sx_A C) := by
  refine Met.ofW (cc := cX8_cut) (maxL := 5) (ret := (some .int)) (by decide) rfl ?_
  intro p e s m args below meth c s₁ B hml hv
  obtain ⟨rfl, hz, hP, hK⟩ := hv
  have hl := lv_entry ([.ref (sx_ad C 17 0), .int a1, .int a2]) (n := 5) (Nat.le_of_ble_eq_true rfl)
  rw [lg_entry_eq]
  generalize (lg_sl ([.ref (sx_ad C 17 0), .int a1, .int a2]) ++ List.replicate (5 - (lg_sl ([.ref (sx_ad C 17 0), .int a1, .int a2])).length) Slot.unset).toArray = ls at hl ⊢
  exact wk_8_cut ⟨B.exec, B.bytes, hml, findClass_of_methodNamed B.named, fun w hw => atoms_spec B.pre w (List.mem_cons_of_mem _ hw), hK⟩ B.returns B.notSynchronized hG hz ⟨Nat.zero_le _, Nat.zero_le _⟩ ⟨Nat.le_refl _, Nat.le_refl _⟩ a1 a2 M0 r M' h hl hP va_S.rf
theorem cl_L_135 (X : sx_X C p m c cc nL s args RL) (hG : sx_G C) (hP : sx_W C M0 H) (hz : sx_sz C ≤ H0.size) (hS : va_S (sx_A C) H0 H locs) {a1 : Int32} {a2 : Int32} {r : Int32} {M' : sx_M} (h : f8_cut a1 a2 M0 = some (r, M')) (hsz : ls.size = nL) (hdg : decode cc pc = .ok (.invokevirtual 135, 3)) (hcs : cells ≤ R.cells ∧ slots ≤ R.slots) (hR : 4 + 1 ≤ R.frames ∧ 8 + (5 + 11) + 95 ≤ R.locals) (hrest : (rest.map fun v => v.category).sum ≤ 8) (kk : ∀ (H1 : Heap) (locs1 : List Loc), sx_W C M' H1 → va_S (sx_A C) H0 H1 locs1 → W p l e R s m args below meth c H1 locs1 cells slots Q (F0 m (pc + 3) ls ((.int r) :: rest))) : W p l e R s m args below meth c H locs cells slots Q (F0 m pc ls (.int a2 :: .int a1 :: .ref (sx_ad C 17 0) :: rest)) :=
  sx_callV (n := 2) (As := [.int a1, .int a2]) (k0 := 17) (s0 := 0) X hP hz hS (by decide) rfl rfl (sx_goodV tw_1222 tw_1223 tw_1224 tw_71 tw_1225) (by decide +kernel) rfl rfl hR (ct_8_cut l C hG a1 a2 M0 r M' h) rfl rfl hrest hsz hdg hcs kk
-- StringShedModel.fray(II)I
def f8_fray (a1 : Int32) (a2 : Int32) (M0 : sx_M) : Option (Int32 × sx_M) :=
  (f8_foundString a1 a2 M0).bind fun v1 =>
  sx_bd (fun (v2 : Int32) =>
    sx_b2 (f8_refused v2 M0) fun v3 M4 =>
    if v3 = 0 then
      (f8_remember M4).bind fun M6 =>
      sx_b2 (f8_heldMany 20 M6) fun v7 M8 =>
      (f8_cordAt v1 (2 : Int32) M8).bind fun v9 =>
      if sx_in v9 247 then
      sx_bd (sx_set M8 20 0 (v9).toNatClampNeg (0 : Int32)) fun M10 =>
      sx_b2 (f8_heldMany 20 M10) fun v11 M12 =>
      some (v7 - v11, M12)
      else none
    else
      some ((0 : Int32), M4)) fun j36 =>
  if v1 = (-9 : Int32) then
    j36 (1 : Int32)
  else
    (f8_cordAt v1 (2 : Int32) M0).bind fun v14 =>
    if sx_in v14 247 then
    sx_bd (M0.1 20 0 (v14).toNatClampNeg) fun v15 =>
    if v15 = 0 then
      j36 (2 : Int32)
    else
      j36 (0 : Int32)
    else none
set_option maxRecDepth 100000 in
set_option maxHeartbeats 4000000 in
theorem wk_8_fray (X : sx_X C p m c cX8_fray 5 s args RX8) (hr : meth.sig.returnType = (some .int)) (hlocks : meth.locks = false) (hG : sx_G C) (hz : sx_sz C ≤ s.heap.size) (hcs : 0 ≤ R.cells ∧ 0 ≤ R.slots) (hR : 4 ≤ R.frames ∧ 95 ≤ R.locals) (a1 : Int32) (a2 : Int32) (M0 : sx_M) (r : Int32) (M' : sx_M) (h : f8_fray a1 a2 M0 = some (r, M')) (hl : lv_has ls 5 [(0, .ref (sx_ad C 17 0)), (1, .int a1), (2, .int a2)]) (hP : sx_W C M0 H) (hS : va_S (sx_A C) s.heap H locs) : W p l e R s m args below meth c H locs 0 0 (sx_Z C (some (.int r)) M' below args s) (F0 m 0 ls []) := by
  obtain ⟨hx, hb, hml, hown, hts, hK⟩ := id X
  rw [f8_fray] at h
  refine lv_aload_n hx hb dX8_fray_0 rfl (lv_at hl 0 rfl) ?_
  refine lv_iload_n hx hb dX8_fray_1 rfl (lv_at hl 1 rfl) ?_
  refine lv_iload_n hx hb dX8_fray_2 rfl (lv_at hl 2 rfl) ?_
  obtain ⟨v1, e_v1, h⟩ := sx_bnd h
  refine cl_X8_224 X hG hP hz hS  e_v1 hl.1 dX8_fray_3 hcs ⟨Nat.le_trans (by decide) hR.1, Nat.le_trans (by decide) hR.2⟩ (Nat.le_of_ble_eq_true rfl) (fun H locs hP hS => ?_)
  refine lv_istore_n (lv' := [(3, .int v1), (0, .ref (sx_ad C 17 0)), (1, .int a1), (2, .int a2)]) hx hb dX8_fray_6 rfl hl (by decide) rfl (fun ls hl => ?_)
  refine lv_aload_n hx hb dX8_fray_7 rfl (lv_at hl 1 rfl) ?_
  refine lv_iload_n hx hb dX8_fray_8 rfl (lv_at hl 0 rfl) ?_
  refine lv_bipush (v := (-9 : Int32)) hx hb dX8_fray_9 (by decide) ?_
  obtain ⟨j36, e_j36, h⟩ := sx_nm h
  have hj36 : ∀ (v2 : Int32) (H : Heap) (locs : List Loc) (ls : Array Slot), lv_has ls 5 [(0, .ref (sx_ad C 17 0)), (3, .int v1)] → sx_W C M0 H → va_S (sx_A C) s.heap H locs → j36 v2 = some (r, M') → W p l e R s m args below meth c H locs 0 0 (sx_Z C (some (.int r)) M' below args s) (F0 m 36 ls [.int v2, .ref (sx_ad C 17 0)]) := by
    intro v2 H locs ls hl hP hS h
    subst e_j36
    obtain ⟨v3, M4, e_v3, h⟩ := sx_bnd2 h
    refine cl_X8_111 X hG hP hz hS  e_v3 hl.1 dX8_fray_36 hcs ⟨Nat.le_trans (by decide) hR.1, Nat.le_trans (by decide) hR.2⟩ (Nat.le_of_ble_eq_true rfl) (fun H locs hP hS => ?_)
    refine lv_if_eq (tgt := 44) hx hb dX8_fray_39 (by decide) (fun c5 => ?_) (fun c5 => ?_)
    · replace h := sx_ifp h c5
      refine lv_aload_n hx hb dX8_fray_44 rfl (lv_at hl 0 rfl) ?_
      obtain ⟨M6, e_M6, h⟩ := sx_bnd h
      refine cl_X8_221 X hG hP hz hS  e_M6 hl.1 dX8_fray_45 hcs ⟨Nat.le_trans (by decide) hR.1, Nat.le_trans (by decide) hR.2⟩ (Nat.le_of_ble_eq_true rfl) (fun H locs hP hS => ?_)
      refine lv_aload_n hx hb dX8_fray_48 rfl (lv_at hl 0 rfl) ?_
      refine lv_aload_n hx hb dX8_fray_49 rfl (lv_at hl 0 rfl) ?_
      refine gf_X8_16 X hP (by decide) dX8_fray_50 ?_
      obtain ⟨v7, M8, e_v7, h⟩ := sx_bnd2 h
      refine cl_X8_202 X hG hP hz hS sx_row20 e_v7 hl.1 dX8_fray_53 hcs ⟨Nat.le_trans (by decide) hR.1, Nat.le_trans (by decide) hR.2⟩ (Nat.le_of_ble_eq_true rfl) (fun H locs hP hS => ?_)
      refine lv_istore (lv' := [(4, .int v7), (0, .ref (sx_ad C 17 0)), (3, .int v1)]) hx hb dX8_fray_56 hl (by decide) rfl (fun ls hl => ?_)
      refine lv_aload_n hx hb dX8_fray_58 rfl (lv_at hl 1 rfl) ?_
      refine gf_X8_16 X hP (by decide) dX8_fray_59 ?_
      refine lv_iload_n hx hb dX8_fray_62 rfl (lv_at hl 2 rfl) ?_
      refine lv_iconst (v := (2 : Int32)) hx hb dX8_fray_63 (by decide) ?_
      obtain ⟨v9, e_v9, h⟩ := sx_bnd h
      refine cl_X8_78 X hG hP hz hS  e_v9 hl.1 dX8_fray_64 hcs ⟨Nat.le_trans (by decide) hR.1, Nat.le_trans (by decide) hR.2⟩ (Nat.le_of_ble_eq_true rfl) (fun H locs hP hS => ?_)
      refine lv_iconst (v := (0 : Int32)) hx hb dX8_fray_67 (by decide) ?_
      refine sx_iast X hG hP hS 20 0 247 (by decide) (fun _ _ => rfl) dX8_fray_68 h (fun M10 H locs h hP hS => ?_)
      refine lv_iload hx hb dX8_fray_69 (lv_at hl 0 rfl) ?_
      refine lv_aload_n hx hb dX8_fray_71 rfl (lv_at hl 1 rfl) ?_
      refine lv_aload_n hx hb dX8_fray_72 rfl (lv_at hl 1 rfl) ?_
      refine gf_X8_16 X hP (by decide) dX8_fray_73 ?_
      obtain ⟨v11, M12, e_v11, h⟩ := sx_bnd2 h
      refine cl_X8_202 X hG hP hz hS sx_row20 e_v11 hl.1 dX8_fray_76 hcs ⟨Nat.le_trans (by decide) hR.1, Nat.le_trans (by decide) hR.2⟩ (Nat.le_of_ble_eq_true rfl) (fun H locs hP hS => ?_)
      refine lv_isub hx hb dX8_fray_79 ?_
      exact sx_iretM X hr hlocks hS hP h dX8_fray_80
    · replace h := sx_ifn h c5
      refine lv_iconst (v := (0 : Int32)) hx hb dX8_fray_42 (by decide) ?_
      exact sx_iretM X hr hlocks hS hP h dX8_fray_43
  clear e_j36
  refine lv_icmp_ne (tgt := 18) hx hb dX8_fray_11 (by decide) (fun c13 => ?_) (fun c13 => ?_)
  · replace h := sx_ifn h c13
    refine lv_aload_n hx hb dX8_fray_18 rfl (lv_at hl 1 rfl) ?_
    refine gf_X8_16 X hP (by decide) dX8_fray_19 ?_
    refine lv_iload_n hx hb dX8_fray_22 rfl (lv_at hl 0 rfl) ?_
    refine lv_iconst (v := (2 : Int32)) hx hb dX8_fray_23 (by decide) ?_
    obtain ⟨v14, e_v14, h⟩ := sx_bnd h
    refine cl_X8_78 X hG hP hz hS  e_v14 hl.1 dX8_fray_24 hcs ⟨Nat.le_trans (by decide) hR.1, Nat.le_trans (by decide) hR.2⟩ (Nat.le_of_ble_eq_true rfl) (fun H locs hP hS => ?_)
    refine sx_iald X hP 20 0 247 (by decide) (fun _ _ => rfl) dX8_fray_27 h (fun v15 h => ?_)
    refine lv_if_ne (tgt := 35) hx hb dX8_fray_28 (by decide) (fun c16 => ?_) (fun c16 => ?_)
    · replace h := sx_ifn h c16
      refine lv_iconst (v := (0 : Int32)) hx hb dX8_fray_35 (by decide) ?_
      exact hj36 (0 : Int32) H locs ls (lv_sub hl [1, 0] rfl) hP hS h
    · replace h := sx_ifp h c16
      refine lv_iconst (v := (2 : Int32)) hx hb dX8_fray_31 (by decide) ?_
      refine lv_goto (tgt := 36) hx hb dX8_fray_32 (by decide) ?_
      exact hj36 (2 : Int32) H locs ls (lv_sub hl [1, 0] rfl) hP hS h
  · replace h := sx_ifp h c13
    refine lv_iconst (v := (1 : Int32)) hx hb dX8_fray_14 (by decide) ?_
    refine lv_goto (tgt := 36) hx hb dX8_fray_15 (by decide) ?_
    exact hj36 (1 : Int32) H locs ls (lv_sub hl [1, 0] rfl) hP hS h
set_option maxRecDepth 100000 in
theorem ct_8_fray (l : Launch) (C : sx_C) (hG : sx_G C) (a1 : Int32) (a2 : Int32) (M0 : sx_M) (r : Int32) (M' : sx_M) (h : f8_fray a1 a2 M0 = some (r, M')) : Met l yX8_fray (.code yX8_fray cX8_fray 5 (some .int) :: sx_T) ({ frames := 4, cells := 0, slots := 0, locals := 95 } : Room) (sx_Pc C M0 [.ref (sx_ad C 17 0), .int a1, .int a2]) (sx_Q C (some (.int r)) M') 0 0 (sx_A C) := by
  refine Met.ofW (cc := cX8_fray) (maxL := 5) (ret := (some .int)) (by decide) rfl ?_
  intro p e s m args below meth c s₁ B hml hv
  obtain ⟨rfl, hz, hP, hK⟩ := hv
  have hl := lv_entry ([.ref (sx_ad C 17 0), .int a1, .int a2]) (n := 5) (Nat.le_of_ble_eq_true rfl)
  rw [lg_entry_eq]
  generalize (lg_sl ([.ref (sx_ad C 17 0), .int a1, .int a2]) ++ List.replicate (5 - (lg_sl ([.ref (sx_ad C 17 0), .int a1, .int a2])).length) Slot.unset).toArray = ls at hl ⊢
  exact wk_8_fray ⟨B.exec, B.bytes, hml, findClass_of_methodNamed B.named, fun w hw => atoms_spec B.pre w (List.mem_cons_of_mem _ hw), hK⟩ B.returns B.notSynchronized hG hz ⟨Nat.zero_le _, Nat.zero_le _⟩ ⟨Nat.le_refl _, Nat.le_refl _⟩ a1 a2 M0 r M' h hl hP va_S.rf
theorem cl_L_138 (X : sx_X C p m c cc nL s args RL) (hG : sx_G C) (hP : sx_W C M0 H) (hz : sx_sz C ≤ H0.size) (hS : va_S (sx_A C) H0 H locs) {a1 : Int32} {a2 : Int32} {r : Int32} {M' : sx_M} (h : f8_fray a1 a2 M0 = some (r, M')) (hsz : ls.size = nL) (hdg : decode cc pc = .ok (.invokevirtual 138, 3)) (hcs : cells ≤ R.cells ∧ slots ≤ R.slots) (hR : 4 + 1 ≤ R.frames ∧ 8 + (5 + 11) + 95 ≤ R.locals) (hrest : (rest.map fun v => v.category).sum ≤ 8) (kk : ∀ (H1 : Heap) (locs1 : List Loc), sx_W C M' H1 → va_S (sx_A C) H0 H1 locs1 → W p l e R s m args below meth c H1 locs1 cells slots Q (F0 m (pc + 3) ls ((.int r) :: rest))) : W p l e R s m args below meth c H locs cells slots Q (F0 m pc ls (.int a2 :: .int a1 :: .ref (sx_ad C 17 0) :: rest)) :=
  sx_callV (n := 2) (As := [.int a1, .int a2]) (k0 := 17) (s0 := 0) X hP hz hS (by decide) rfl rfl (sx_goodV tw_1230 tw_1231 tw_1232 tw_71 tw_1233) (by decide +kernel) rfl rfl hR (ct_8_fray l C hG a1 a2 M0 r M' h) rfl rfl hrest hsz hdg hcs kk
-- StringShedModel.mend(II)I
def f8_mend (a1 : Int32) (a2 : Int32) (M0 : sx_M) : Option (Int32 × sx_M) :=
  (f8_foundString a1 a2 M0).bind fun v1 =>
  sx_bd (fun (v2 : Int32) =>
    sx_b2 (f8_refused v2 M0) fun v3 M4 =>
    if v3 = 0 then
      (f8_remember M4).bind fun M6 =>
      sx_b2 (f8_heldMany 20 M6) fun v7 M8 =>
      (f8_mendIn 20 v1 M8).bind fun M9 =>
      sx_b2 (f8_heldMany 20 M9) fun v10 M11 =>
      some (v10 - v7, M11)
    else
      some ((0 : Int32), M4)) fun j37 =>
  if v1 = (-9 : Int32) then
    j37 (1 : Int32)
  else
    (f8_cordAt v1 (2 : Int32) M0).bind fun v13 =>
    if sx_in v13 247 then
    sx_bd (M0.1 20 0 (v13).toNatClampNeg) fun v14 =>
    if v14 = (1 : Int32) then
      j37 (2 : Int32)
    else
      j37 (0 : Int32)
    else none
set_option maxRecDepth 100000 in
set_option maxHeartbeats 4000000 in
theorem wk_8_mend (X : sx_X C p m c cX8_mend 5 s args RX8) (hr : meth.sig.returnType = (some .int)) (hlocks : meth.locks = false) (hG : sx_G C) (hz : sx_sz C ≤ s.heap.size) (hcs : 0 ≤ R.cells ∧ 0 ≤ R.slots) (hR : 4 ≤ R.frames ∧ 95 ≤ R.locals) (a1 : Int32) (a2 : Int32) (M0 : sx_M) (r : Int32) (M' : sx_M) (h : f8_mend a1 a2 M0 = some (r, M')) (hl : lv_has ls 5 [(0, .ref (sx_ad C 17 0)), (1, .int a1), (2, .int a2)]) (hP : sx_W C M0 H) (hS : va_S (sx_A C) s.heap H locs) : W p l e R s m args below meth c H locs 0 0 (sx_Z C (some (.int r)) M' below args s) (F0 m 0 ls []) := by
  obtain ⟨hx, hb, hml, hown, hts, hK⟩ := id X
  rw [f8_mend] at h
  refine lv_aload_n hx hb dX8_mend_0 rfl (lv_at hl 0 rfl) ?_
  refine lv_iload_n hx hb dX8_mend_1 rfl (lv_at hl 1 rfl) ?_
  refine lv_iload_n hx hb dX8_mend_2 rfl (lv_at hl 2 rfl) ?_
  obtain ⟨v1, e_v1, h⟩ := sx_bnd h
  refine cl_X8_224 X hG hP hz hS  e_v1 hl.1 dX8_mend_3 hcs ⟨Nat.le_trans (by decide) hR.1, Nat.le_trans (by decide) hR.2⟩ (Nat.le_of_ble_eq_true rfl) (fun H locs hP hS => ?_)
  refine lv_istore_n (lv' := [(3, .int v1), (0, .ref (sx_ad C 17 0)), (1, .int a1), (2, .int a2)]) hx hb dX8_mend_6 rfl hl (by decide) rfl (fun ls hl => ?_)
  refine lv_aload_n hx hb dX8_mend_7 rfl (lv_at hl 1 rfl) ?_
  refine lv_iload_n hx hb dX8_mend_8 rfl (lv_at hl 0 rfl) ?_
  refine lv_bipush (v := (-9 : Int32)) hx hb dX8_mend_9 (by decide) ?_
  obtain ⟨j37, e_j37, h⟩ := sx_nm h
  have hj37 : ∀ (v2 : Int32) (H : Heap) (locs : List Loc) (ls : Array Slot), lv_has ls 5 [(0, .ref (sx_ad C 17 0)), (3, .int v1)] → sx_W C M0 H → va_S (sx_A C) s.heap H locs → j37 v2 = some (r, M') → W p l e R s m args below meth c H locs 0 0 (sx_Z C (some (.int r)) M' below args s) (F0 m 37 ls [.int v2, .ref (sx_ad C 17 0)]) := by
    intro v2 H locs ls hl hP hS h
    subst e_j37
    obtain ⟨v3, M4, e_v3, h⟩ := sx_bnd2 h
    refine cl_X8_111 X hG hP hz hS  e_v3 hl.1 dX8_mend_37 hcs ⟨Nat.le_trans (by decide) hR.1, Nat.le_trans (by decide) hR.2⟩ (Nat.le_of_ble_eq_true rfl) (fun H locs hP hS => ?_)
    refine lv_if_eq (tgt := 45) hx hb dX8_mend_40 (by decide) (fun c5 => ?_) (fun c5 => ?_)
    · replace h := sx_ifp h c5
      refine lv_aload_n hx hb dX8_mend_45 rfl (lv_at hl 0 rfl) ?_
      obtain ⟨M6, e_M6, h⟩ := sx_bnd h
      refine cl_X8_221 X hG hP hz hS  e_M6 hl.1 dX8_mend_46 hcs ⟨Nat.le_trans (by decide) hR.1, Nat.le_trans (by decide) hR.2⟩ (Nat.le_of_ble_eq_true rfl) (fun H locs hP hS => ?_)
      refine lv_aload_n hx hb dX8_mend_49 rfl (lv_at hl 0 rfl) ?_
      refine lv_aload_n hx hb dX8_mend_50 rfl (lv_at hl 0 rfl) ?_
      refine gf_X8_16 X hP (by decide) dX8_mend_51 ?_
      obtain ⟨v7, M8, e_v7, h⟩ := sx_bnd2 h
      refine cl_X8_202 X hG hP hz hS sx_row20 e_v7 hl.1 dX8_mend_54 hcs ⟨Nat.le_trans (by decide) hR.1, Nat.le_trans (by decide) hR.2⟩ (Nat.le_of_ble_eq_true rfl) (fun H locs hP hS => ?_)
      refine lv_istore (lv' := [(4, .int v7), (0, .ref (sx_ad C 17 0)), (3, .int v1)]) hx hb dX8_mend_57 hl (by decide) rfl (fun ls hl => ?_)
      refine lv_aload_n hx hb dX8_mend_59 rfl (lv_at hl 1 rfl) ?_
      refine gf_X8_16 X hP (by decide) dX8_mend_60 ?_
      refine lv_iload_n hx hb dX8_mend_63 rfl (lv_at hl 2 rfl) ?_
      obtain ⟨M9, e_M9, h⟩ := sx_bnd h
      refine cl_X8_158 X hG hP hz hS sx_row20 e_M9 hl.1 dX8_mend_64 hcs ⟨Nat.le_trans (by decide) hR.1, Nat.le_trans (by decide) hR.2⟩ (Nat.le_of_ble_eq_true rfl) (fun H locs hP hS => ?_)
      refine lv_aload_n hx hb dX8_mend_67 rfl (lv_at hl 1 rfl) ?_
      refine lv_aload_n hx hb dX8_mend_68 rfl (lv_at hl 1 rfl) ?_
      refine gf_X8_16 X hP (by decide) dX8_mend_69 ?_
      obtain ⟨v10, M11, e_v10, h⟩ := sx_bnd2 h
      refine cl_X8_202 X hG hP hz hS sx_row20 e_v10 hl.1 dX8_mend_72 hcs ⟨Nat.le_trans (by decide) hR.1, Nat.le_trans (by decide) hR.2⟩ (Nat.le_of_ble_eq_true rfl) (fun H locs hP hS => ?_)
      refine lv_iload hx hb dX8_mend_75 (lv_at hl 0 rfl) ?_
      refine lv_isub hx hb dX8_mend_77 ?_
      exact sx_iretM X hr hlocks hS hP h dX8_mend_78
    · replace h := sx_ifn h c5
      refine lv_iconst (v := (0 : Int32)) hx hb dX8_mend_43 (by decide) ?_
      exact sx_iretM X hr hlocks hS hP h dX8_mend_44
  clear e_j37
  refine lv_icmp_ne (tgt := 18) hx hb dX8_mend_11 (by decide) (fun c12 => ?_) (fun c12 => ?_)
  · replace h := sx_ifn h c12
    refine lv_aload_n hx hb dX8_mend_18 rfl (lv_at hl 1 rfl) ?_
    refine gf_X8_16 X hP (by decide) dX8_mend_19 ?_
    refine lv_iload_n hx hb dX8_mend_22 rfl (lv_at hl 0 rfl) ?_
    refine lv_iconst (v := (2 : Int32)) hx hb dX8_mend_23 (by decide) ?_
    obtain ⟨v13, e_v13, h⟩ := sx_bnd h
    refine cl_X8_78 X hG hP hz hS  e_v13 hl.1 dX8_mend_24 hcs ⟨Nat.le_trans (by decide) hR.1, Nat.le_trans (by decide) hR.2⟩ (Nat.le_of_ble_eq_true rfl) (fun H locs hP hS => ?_)
    refine sx_iald X hP 20 0 247 (by decide) (fun _ _ => rfl) dX8_mend_27 h (fun v14 h => ?_)
    refine lv_iconst (v := (1 : Int32)) hx hb dX8_mend_28 (by decide) ?_
    refine lv_icmp_ne (tgt := 36) hx hb dX8_mend_29 (by decide) (fun c15 => ?_) (fun c15 => ?_)
    · replace h := sx_ifn h c15
      refine lv_iconst (v := (0 : Int32)) hx hb dX8_mend_36 (by decide) ?_
      exact hj37 (0 : Int32) H locs ls (lv_sub hl [1, 0] rfl) hP hS h
    · replace h := sx_ifp h c15
      refine lv_iconst (v := (2 : Int32)) hx hb dX8_mend_32 (by decide) ?_
      refine lv_goto (tgt := 37) hx hb dX8_mend_33 (by decide) ?_
      exact hj37 (2 : Int32) H locs ls (lv_sub hl [1, 0] rfl) hP hS h
  · replace h := sx_ifp h c12
    refine lv_iconst (v := (1 : Int32)) hx hb dX8_mend_14 (by decide) ?_
    refine lv_goto (tgt := 37) hx hb dX8_mend_15 (by decide) ?_
    exact hj37 (1 : Int32) H locs ls (lv_sub hl [1, 0] rfl) hP hS h
set_option maxRecDepth 100000 in
theorem ct_8_mend (l : Launch) (C : sx_C) (hG : sx_G C) (a1 : Int32) (a2 : Int32) (M0 : sx_M) (r : Int32) (M' : sx_M) (h : f8_mend a1 a2 M0 = some (r, M')) : Met l yX8_mend (.code yX8_mend cX8_mend 5 (some .int) :: sx_T) ({ frames := 4, cells := 0, slots := 0, locals := 95 } : Room) (sx_Pc C M0 [.ref (sx_ad C 17 0), .int a1, .int a2]) (sx_Q C (some (.int r)) M') 0 0 (sx_A C) := by
  refine Met.ofW (cc := cX8_mend) (maxL := 5) (ret := (some .int)) (by decide) rfl ?_
  intro p e s m args below meth c s₁ B hml hv
  obtain ⟨rfl, hz, hP, hK⟩ := hv
  have hl := lv_entry ([.ref (sx_ad C 17 0), .int a1, .int a2]) (n := 5) (Nat.le_of_ble_eq_true rfl)
  rw [lg_entry_eq]
  generalize (lg_sl ([.ref (sx_ad C 17 0), .int a1, .int a2]) ++ List.replicate (5 - (lg_sl ([.ref (sx_ad C 17 0), .int a1, .int a2])).length) Slot.unset).toArray = ls at hl ⊢
  exact wk_8_mend ⟨B.exec, B.bytes, hml, findClass_of_methodNamed B.named, fun w hw => atoms_spec B.pre w (List.mem_cons_of_mem _ hw), hK⟩ B.returns B.notSynchronized hG hz ⟨Nat.zero_le _, Nat.zero_le _⟩ ⟨Nat.le_refl _, Nat.le_refl _⟩ a1 a2 M0 r M' h hl hP va_S.rf
theorem cl_L_141 (X : sx_X C p m c cc nL s args RL) (hG : sx_G C) (hP : sx_W C M0 H) (hz : sx_sz C ≤ H0.size) (hS : va_S (sx_A C) H0 H locs) {a1 : Int32} {a2 : Int32} {r : Int32} {M' : sx_M} (h : f8_mend a1 a2 M0 = some (r, M')) (hsz : ls.size = nL) (hdg : decode cc pc = .ok (.invokevirtual 141, 3)) (hcs : cells ≤ R.cells ∧ slots ≤ R.slots) (hR : 4 + 1 ≤ R.frames ∧ 8 + (5 + 11) + 95 ≤ R.locals) (hrest : (rest.map fun v => v.category).sum ≤ 8) (kk : ∀ (H1 : Heap) (locs1 : List Loc), sx_W C M' H1 → va_S (sx_A C) H0 H1 locs1 → W p l e R s m args below meth c H1 locs1 cells slots Q (F0 m (pc + 3) ls ((.int r) :: rest))) : W p l e R s m args below meth c H locs cells slots Q (F0 m pc ls (.int a2 :: .int a1 :: .ref (sx_ad C 17 0) :: rest)) :=
  sx_callV (n := 2) (As := [.int a1, .int a2]) (k0 := 17) (s0 := 0) X hP hz hS (by decide) rfl rfl (sx_goodV tw_1234 tw_1235 tw_1236 tw_71 tw_1237) (by decide +kernel) rfl rfl hR (ct_8_mend l C hG a1 a2 M0 r M' h) rfl rfl hrest hsz hdg hcs kk
-- StringShedModel.pin(IZ)I
def f8_pin (a1 : Int32) (a2 : Int32) (M0 : sx_M) : Option (Int32 × sx_M) :=
  (f8_isPart 20 a1 M0).bind fun v1 =>
  sx_bd (fun (v2 : Int32) =>
    sx_b2 (f8_refused v2 M0) fun v3 M4 =>
    if v3 = 0 then
      (f8_remember M4).bind fun M6 =>
      (f8_pinIn 20 a1 a2 M6).bind fun M7 =>
      sx_b2 (f8_heldMany 20 M7) fun v8 M9 =>
      some (v8, M9)
    else
      some ((0 : Int32), M4)) fun j17 =>
  if v1 = 0 then
    j17 (1 : Int32)
  else
    j17 (0 : Int32)
set_option maxRecDepth 100000 in
set_option maxHeartbeats 4000000 in
theorem wk_8_pin (X : sx_X C p m c cX8_pin 3 s args RX8) (hr : meth.sig.returnType = (some .int)) (hlocks : meth.locks = false) (hG : sx_G C) (hz : sx_sz C ≤ s.heap.size) (hcs : 0 ≤ R.cells ∧ 0 ≤ R.slots) (hR : 4 ≤ R.frames ∧ 95 ≤ R.locals) (a1 : Int32) (a2 : Int32) (M0 : sx_M) (r : Int32) (M' : sx_M) (h : f8_pin a1 a2 M0 = some (r, M')) (hl : lv_has ls 3 [(0, .ref (sx_ad C 17 0)), (1, .int a1), (2, .int a2)]) (hP : sx_W C M0 H) (hS : va_S (sx_A C) s.heap H locs) : W p l e R s m args below meth c H locs 0 0 (sx_Z C (some (.int r)) M' below args s) (F0 m 0 ls []) := by
  obtain ⟨hx, hb, hml, hown, hts, hK⟩ := id X
  rw [f8_pin] at h
  refine lv_aload_n hx hb dX8_pin_0 rfl (lv_at hl 0 rfl) ?_
  refine lv_aload_n hx hb dX8_pin_1 rfl (lv_at hl 0 rfl) ?_
  refine gf_X8_16 X hP (by decide) dX8_pin_2 ?_
  refine lv_iload_n hx hb dX8_pin_5 rfl (lv_at hl 1 rfl) ?_
  obtain ⟨v1, e_v1, h⟩ := sx_bnd h
  refine cl_X8_74 X hG hP hz hS sx_row20 e_v1 hl.1 dX8_pin_6 hcs ⟨Nat.le_trans (by decide) hR.1, Nat.le_trans (by decide) hR.2⟩ (Nat.le_of_ble_eq_true rfl) (fun H locs hP hS => ?_)
  obtain ⟨j17, e_j17, h⟩ := sx_nm h
  have hj17 : ∀ (v2 : Int32) (H : Heap) (locs : List Loc) (ls : Array Slot), lv_has ls 3 [(0, .ref (sx_ad C 17 0)), (1, .int a1), (2, .int a2)] → sx_W C M0 H → va_S (sx_A C) s.heap H locs → j17 v2 = some (r, M') → W p l e R s m args below meth c H locs 0 0 (sx_Z C (some (.int r)) M' below args s) (F0 m 17 ls [.int v2, .ref (sx_ad C 17 0)]) := by
    intro v2 H locs ls hl hP hS h
    subst e_j17
    obtain ⟨v3, M4, e_v3, h⟩ := sx_bnd2 h
    refine cl_X8_111 X hG hP hz hS  e_v3 hl.1 dX8_pin_17 hcs ⟨Nat.le_trans (by decide) hR.1, Nat.le_trans (by decide) hR.2⟩ (Nat.le_of_ble_eq_true rfl) (fun H locs hP hS => ?_)
    refine lv_if_eq (tgt := 25) hx hb dX8_pin_20 (by decide) (fun c5 => ?_) (fun c5 => ?_)
    · replace h := sx_ifp h c5
      refine lv_aload_n hx hb dX8_pin_25 rfl (lv_at hl 0 rfl) ?_
      obtain ⟨M6, e_M6, h⟩ := sx_bnd h
      refine cl_X8_221 X hG hP hz hS  e_M6 hl.1 dX8_pin_26 hcs ⟨Nat.le_trans (by decide) hR.1, Nat.le_trans (by decide) hR.2⟩ (Nat.le_of_ble_eq_true rfl) (fun H locs hP hS => ?_)
      refine lv_aload_n hx hb dX8_pin_29 rfl (lv_at hl 0 rfl) ?_
      refine gf_X8_16 X hP (by decide) dX8_pin_30 ?_
      refine lv_iload_n hx hb dX8_pin_33 rfl (lv_at hl 1 rfl) ?_
      refine lv_iload_n hx hb dX8_pin_34 rfl (lv_at hl 2 rfl) ?_
      obtain ⟨M7, e_M7, h⟩ := sx_bnd h
      refine cl_X8_165 X hG hP hz hS sx_row20 e_M7 hl.1 dX8_pin_35 hcs ⟨Nat.le_trans (by decide) hR.1, Nat.le_trans (by decide) hR.2⟩ (Nat.le_of_ble_eq_true rfl) (fun H locs hP hS => ?_)
      refine lv_aload_n hx hb dX8_pin_38 rfl (lv_at hl 0 rfl) ?_
      refine lv_aload_n hx hb dX8_pin_39 rfl (lv_at hl 0 rfl) ?_
      refine gf_X8_16 X hP (by decide) dX8_pin_40 ?_
      obtain ⟨v8, M9, e_v8, h⟩ := sx_bnd2 h
      refine cl_X8_202 X hG hP hz hS sx_row20 e_v8 hl.1 dX8_pin_43 hcs ⟨Nat.le_trans (by decide) hR.1, Nat.le_trans (by decide) hR.2⟩ (Nat.le_of_ble_eq_true rfl) (fun H locs hP hS => ?_)
      exact sx_iretM X hr hlocks hS hP h dX8_pin_46
    · replace h := sx_ifn h c5
      refine lv_iconst (v := (0 : Int32)) hx hb dX8_pin_23 (by decide) ?_
      exact sx_iretM X hr hlocks hS hP h dX8_pin_24
  clear e_j17
  refine lv_if_eq (tgt := 16) hx hb dX8_pin_9 (by decide) (fun c10 => ?_) (fun c10 => ?_)
  · replace h := sx_ifp h c10
    refine lv_iconst (v := (1 : Int32)) hx hb dX8_pin_16 (by decide) ?_
    exact hj17 (1 : Int32) H locs ls (lv_sub hl [0, 1, 2] rfl) hP hS h
  · replace h := sx_ifn h c10
    refine lv_iconst (v := (0 : Int32)) hx hb dX8_pin_12 (by decide) ?_
    refine lv_goto (tgt := 17) hx hb dX8_pin_13 (by decide) ?_
    exact hj17 (0 : Int32) H locs ls (lv_sub hl [0, 1, 2] rfl) hP hS h
set_option maxRecDepth 100000 in
theorem ct_8_pin (l : Launch) (C : sx_C) (hG : sx_G C) (a1 : Int32) (a2 : Int32) (M0 : sx_M) (r : Int32) (M' : sx_M) (h : f8_pin a1 a2 M0 = some (r, M')) : Met l yX8_pin (.code yX8_pin cX8_pin 3 (some .int) :: sx_T) ({ frames := 4, cells := 0, slots := 0, locals := 95 } : Room) (sx_Pc C M0 [.ref (sx_ad C 17 0), .int a1, .int a2]) (sx_Q C (some (.int r)) M') 0 0 (sx_A C) := by
  refine Met.ofW (cc := cX8_pin) (maxL := 3) (ret := (some .int)) (by decide) rfl ?_
  intro p e s m args below meth c s₁ B hml hv
  obtain ⟨rfl, hz, hP, hK⟩ := hv
  have hl := lv_entry ([.ref (sx_ad C 17 0), .int a1, .int a2]) (n := 3) (Nat.le_of_ble_eq_true rfl)
  rw [lg_entry_eq]
  generalize (lg_sl ([.ref (sx_ad C 17 0), .int a1, .int a2]) ++ List.replicate (3 - (lg_sl ([.ref (sx_ad C 17 0), .int a1, .int a2])).length) Slot.unset).toArray = ls at hl ⊢
  exact wk_8_pin ⟨B.exec, B.bytes, hml, findClass_of_methodNamed B.named, fun w hw => atoms_spec B.pre w (List.mem_cons_of_mem _ hw), hK⟩ B.returns B.notSynchronized hG hz ⟨Nat.zero_le _, Nat.zero_le _⟩ ⟨Nat.le_refl _, Nat.le_refl _⟩ a1 a2 M0 r M' h hl hP va_S.rf
theorem cl_L_145 (X : sx_X C p m c cc nL s args RL) (hG : sx_G C) (hP : sx_W C M0 H) (hz : sx_sz C ≤ H0.size) (hS : va_S (sx_A C) H0 H locs) {a1 : Int32} {a2 : Int32} {r : Int32} {M' : sx_M} (h : f8_pin a1 a2 M0 = some (r, M')) (hsz : ls.size = nL) (hdg : decode cc pc = .ok (.invokevirtual 145, 3)) (hcs : cells ≤ R.cells ∧ slots ≤ R.slots) (hR : 4 + 1 ≤ R.frames ∧ 8 + (3 + 11) + 95 ≤ R.locals) (hrest : (rest.map fun v => v.category).sum ≤ 8) (kk : ∀ (H1 : Heap) (locs1 : List Loc), sx_W C M' H1 → va_S (sx_A C) H0 H1 locs1 → W p l e R s m args below meth c H1 locs1 cells slots Q (F0 m (pc + 3) ls ((.int r) :: rest))) : W p l e R s m args below meth c H locs cells slots Q (F0 m pc ls (.int a2 :: .int a1 :: .ref (sx_ad C 17 0) :: rest)) :=
  sx_callV (n := 2) (As := [.int a1, .int a2]) (k0 := 17) (s0 := 0) X hP hz hS (by decide) rfl rfl (sx_goodV tw_1238 tw_1239 tw_1240 tw_71 tw_1241) (by decide +kernel) rfl rfl hR (ct_8_pin l C hG a1 a2 M0 r M' h) rfl rfl hrest hsz hdg hcs kk
-- StringShedModel.begin()I
def f8_begin  (M0 : sx_M) : Option (Int32 × sx_M) :=
  if sx_in (3 : Int32) 247 then
  sx_bd (M0.1 20 0 ((3 : Int32)).toNatClampNeg) fun v1 =>
  sx_b2 (f8_refused v1 M0) fun v2 M3 =>
  if v2 = 0 then
    (f8_remember M3).bind fun M5 =>
    sx_b2 (f8_beginIn 20 M5) fun v6 M7 =>
    some (v6, M7)
  else
    some ((0 : Int32), M3)
  else none
set_option maxRecDepth 100000 in
set_option maxHeartbeats 4000000 in
theorem wk_8_begin (X : sx_X C p m c cX8_begin 1 s args RX8) (hr : meth.sig.returnType = (some .int)) (hlocks : meth.locks = false) (hG : sx_G C) (hz : sx_sz C ≤ s.heap.size) (hcs : 0 ≤ R.cells ∧ 0 ≤ R.slots) (hR : 3 ≤ R.frames ∧ 69 ≤ R.locals) (M0 : sx_M) (r : Int32) (M' : sx_M) (h : f8_begin M0 = some (r, M')) (hl : lv_has ls 1 [(0, .ref (sx_ad C 17 0))]) (hP : sx_W C M0 H) (hS : va_S (sx_A C) s.heap H locs) : W p l e R s m args below meth c H locs 0 0 (sx_Z C (some (.int r)) M' below args s) (F0 m 0 ls []) := by
  obtain ⟨hx, hb, hml, hown, hts, hK⟩ := id X
  rw [f8_begin] at h
  refine lv_aload_n hx hb dX8_begin_0 rfl (lv_at hl 0 rfl) ?_
  refine lv_aload_n hx hb dX8_begin_1 rfl (lv_at hl 0 rfl) ?_
  refine gf_X8_16 X hP (by decide) dX8_begin_2 ?_
  refine lv_iconst (v := (3 : Int32)) hx hb dX8_begin_5 (by decide) ?_
  refine sx_iald X hP 20 0 247 (by decide) (fun _ _ => rfl) dX8_begin_6 h (fun v1 h => ?_)
  obtain ⟨v2, M3, e_v2, h⟩ := sx_bnd2 h
  refine cl_X8_111 X hG hP hz hS  e_v2 hl.1 dX8_begin_7 hcs ⟨Nat.le_trans (by decide) hR.1, Nat.le_trans (by decide) hR.2⟩ (Nat.le_of_ble_eq_true rfl) (fun H locs hP hS => ?_)
  refine lv_if_eq (tgt := 15) hx hb dX8_begin_10 (by decide) (fun c4 => ?_) (fun c4 => ?_)
  · replace h := sx_ifp h c4
    refine lv_aload_n hx hb dX8_begin_15 rfl (lv_at hl 0 rfl) ?_
    obtain ⟨M5, e_M5, h⟩ := sx_bnd h
    refine cl_X8_221 X hG hP hz hS  e_M5 hl.1 dX8_begin_16 hcs ⟨Nat.le_trans (by decide) hR.1, Nat.le_trans (by decide) hR.2⟩ (Nat.le_of_ble_eq_true rfl) (fun H locs hP hS => ?_)
    refine lv_aload_n hx hb dX8_begin_19 rfl (lv_at hl 0 rfl) ?_
    refine gf_X8_16 X hP (by decide) dX8_begin_20 ?_
    obtain ⟨v6, M7, e_v6, h⟩ := sx_bnd2 h
    refine cl_X8_169 X hG hP hz hS sx_row20 e_v6 hl.1 dX8_begin_23 hcs ⟨Nat.le_trans (by decide) hR.1, Nat.le_trans (by decide) hR.2⟩ (Nat.le_of_ble_eq_true rfl) (fun H locs hP hS => ?_)
    exact sx_iretM X hr hlocks hS hP h dX8_begin_26
  · replace h := sx_ifn h c4
    refine lv_iconst (v := (0 : Int32)) hx hb dX8_begin_13 (by decide) ?_
    exact sx_iretM X hr hlocks hS hP h dX8_begin_14
set_option maxRecDepth 100000 in
theorem ct_8_begin (l : Launch) (C : sx_C) (hG : sx_G C) (M0 : sx_M) (r : Int32) (M' : sx_M) (h : f8_begin M0 = some (r, M')) : Met l yX8_begin (.code yX8_begin cX8_begin 1 (some .int) :: sx_T) ({ frames := 3, cells := 0, slots := 0, locals := 69 } : Room) (sx_Pc C M0 [.ref (sx_ad C 17 0)]) (sx_Q C (some (.int r)) M') 0 0 (sx_A C) := by
  refine Met.ofW (cc := cX8_begin) (maxL := 1) (ret := (some .int)) (by decide) rfl ?_
  intro p e s m args below meth c s₁ B hml hv
  obtain ⟨rfl, hz, hP, hK⟩ := hv
  have hl := lv_entry ([.ref (sx_ad C 17 0)]) (n := 1) (Nat.le_of_ble_eq_true rfl)
  rw [lg_entry_eq]
  generalize (lg_sl ([.ref (sx_ad C 17 0)]) ++ List.replicate (1 - (lg_sl ([.ref (sx_ad C 17 0)])).length) Slot.unset).toArray = ls at hl ⊢
  exact wk_8_begin ⟨B.exec, B.bytes, hml, findClass_of_methodNamed B.named, fun w hw => atoms_spec B.pre w (List.mem_cons_of_mem _ hw), hK⟩ B.returns B.notSynchronized hG hz ⟨Nat.zero_le _, Nat.zero_le _⟩ ⟨Nat.le_refl _, Nat.le_refl _⟩ M0 r M' h hl hP va_S.rf
theorem cl_L_148 (X : sx_X C p m c cc nL s args RL) (hG : sx_G C) (hP : sx_W C M0 H) (hz : sx_sz C ≤ H0.size) (hS : va_S (sx_A C) H0 H locs) {r : Int32} {M' : sx_M} (h : f8_begin M0 = some (r, M')) (hsz : ls.size = nL) (hdg : decode cc pc = .ok (.invokevirtual 148, 3)) (hcs : cells ≤ R.cells ∧ slots ≤ R.slots) (hR : 3 + 1 ≤ R.frames ∧ 8 + (1 + 11) + 69 ≤ R.locals) (hrest : (rest.map fun v => v.category).sum ≤ 8) (kk : ∀ (H1 : Heap) (locs1 : List Loc), sx_W C M' H1 → va_S (sx_A C) H0 H1 locs1 → W p l e R s m args below meth c H1 locs1 cells slots Q (F0 m (pc + 3) ls ((.int r) :: rest))) : W p l e R s m args below meth c H locs cells slots Q (F0 m pc ls (.ref (sx_ad C 17 0) :: rest)) :=
  sx_callV (n := 0) (As := []) (k0 := 17) (s0 := 0) X hP hz hS (by decide) rfl rfl (sx_goodV tw_1242 tw_1243 tw_1244 tw_71 tw_1245) (by decide +kernel) rfl rfl hR (ct_8_begin l C hG M0 r M' h) rfl rfl hrest hsz hdg hcs kk
-- StringShedModel.step()I
def f8_step  (M0 : sx_M) : Option (Int32 × sx_M) :=
  if sx_in (3 : Int32) 247 then
  sx_bd (M0.1 20 0 ((3 : Int32)).toNatClampNeg) fun v1 =>
  sx_b2 (f8_refused ((1 : Int32) - v1) M0) fun v2 M3 =>
  if v2 = 0 then
    (f8_remember M3).bind fun M5 =>
    sx_b2 (f8_stepIn 20 M5) fun v6 M7 =>
    some (v6, M7)
  else
    some ((0 : Int32), M3)
  else none
set_option maxRecDepth 100000 in
set_option maxHeartbeats 4000000 in
theorem wk_8_step (X : sx_X C p m c cX8_step 1 s args RX8) (hr : meth.sig.returnType = (some .int)) (hlocks : meth.locks = false) (hG : sx_G C) (hz : sx_sz C ≤ s.heap.size) (hcs : 0 ≤ R.cells ∧ 0 ≤ R.slots) (hR : 5 ≤ R.frames ∧ 112 ≤ R.locals) (M0 : sx_M) (r : Int32) (M' : sx_M) (h : f8_step M0 = some (r, M')) (hl : lv_has ls 1 [(0, .ref (sx_ad C 17 0))]) (hP : sx_W C M0 H) (hS : va_S (sx_A C) s.heap H locs) : W p l e R s m args below meth c H locs 0 0 (sx_Z C (some (.int r)) M' below args s) (F0 m 0 ls []) := by
  obtain ⟨hx, hb, hml, hown, hts, hK⟩ := id X
  rw [f8_step] at h
  refine lv_aload_n hx hb dX8_step_0 rfl (lv_at hl 0 rfl) ?_
  refine lv_iconst (v := (1 : Int32)) hx hb dX8_step_1 (by decide) ?_
  refine lv_aload_n hx hb dX8_step_2 rfl (lv_at hl 0 rfl) ?_
  refine gf_X8_16 X hP (by decide) dX8_step_3 ?_
  refine lv_iconst (v := (3 : Int32)) hx hb dX8_step_6 (by decide) ?_
  refine sx_iald X hP 20 0 247 (by decide) (fun _ _ => rfl) dX8_step_7 h (fun v1 h => ?_)
  refine lv_isub hx hb dX8_step_8 ?_
  obtain ⟨v2, M3, e_v2, h⟩ := sx_bnd2 h
  refine cl_X8_111 X hG hP hz hS  e_v2 hl.1 dX8_step_9 hcs ⟨Nat.le_trans (by decide) hR.1, Nat.le_trans (by decide) hR.2⟩ (Nat.le_of_ble_eq_true rfl) (fun H locs hP hS => ?_)
  refine lv_if_eq (tgt := 17) hx hb dX8_step_12 (by decide) (fun c4 => ?_) (fun c4 => ?_)
  · replace h := sx_ifp h c4
    refine lv_aload_n hx hb dX8_step_17 rfl (lv_at hl 0 rfl) ?_
    obtain ⟨M5, e_M5, h⟩ := sx_bnd h
    refine cl_X8_221 X hG hP hz hS  e_M5 hl.1 dX8_step_18 hcs ⟨Nat.le_trans (by decide) hR.1, Nat.le_trans (by decide) hR.2⟩ (Nat.le_of_ble_eq_true rfl) (fun H locs hP hS => ?_)
    refine lv_aload_n hx hb dX8_step_21 rfl (lv_at hl 0 rfl) ?_
    refine gf_X8_16 X hP (by decide) dX8_step_22 ?_
    obtain ⟨v6, M7, e_v6, h⟩ := sx_bnd2 h
    refine cl_X8_172 X hG hP hz hS sx_row20 e_v6 hl.1 dX8_step_25 hcs ⟨Nat.le_trans (by decide) hR.1, Nat.le_trans (by decide) hR.2⟩ (Nat.le_of_ble_eq_true rfl) (fun H locs hP hS => ?_)
    exact sx_iretM X hr hlocks hS hP h dX8_step_28
  · replace h := sx_ifn h c4
    refine lv_iconst (v := (0 : Int32)) hx hb dX8_step_15 (by decide) ?_
    exact sx_iretM X hr hlocks hS hP h dX8_step_16
set_option maxRecDepth 100000 in
theorem ct_8_step (l : Launch) (C : sx_C) (hG : sx_G C) (M0 : sx_M) (r : Int32) (M' : sx_M) (h : f8_step M0 = some (r, M')) : Met l yX8_step (.code yX8_step cX8_step 1 (some .int) :: sx_T) ({ frames := 5, cells := 0, slots := 0, locals := 112 } : Room) (sx_Pc C M0 [.ref (sx_ad C 17 0)]) (sx_Q C (some (.int r)) M') 0 0 (sx_A C) := by
  refine Met.ofW (cc := cX8_step) (maxL := 1) (ret := (some .int)) (by decide) rfl ?_
  intro p e s m args below meth c s₁ B hml hv
  obtain ⟨rfl, hz, hP, hK⟩ := hv
  have hl := lv_entry ([.ref (sx_ad C 17 0)]) (n := 1) (Nat.le_of_ble_eq_true rfl)
  rw [lg_entry_eq]
  generalize (lg_sl ([.ref (sx_ad C 17 0)]) ++ List.replicate (1 - (lg_sl ([.ref (sx_ad C 17 0)])).length) Slot.unset).toArray = ls at hl ⊢
  exact wk_8_step ⟨B.exec, B.bytes, hml, findClass_of_methodNamed B.named, fun w hw => atoms_spec B.pre w (List.mem_cons_of_mem _ hw), hK⟩ B.returns B.notSynchronized hG hz ⟨Nat.zero_le _, Nat.zero_le _⟩ ⟨Nat.le_refl _, Nat.le_refl _⟩ M0 r M' h hl hP va_S.rf
theorem cl_L_151 (X : sx_X C p m c cc nL s args RL) (hG : sx_G C) (hP : sx_W C M0 H) (hz : sx_sz C ≤ H0.size) (hS : va_S (sx_A C) H0 H locs) {r : Int32} {M' : sx_M} (h : f8_step M0 = some (r, M')) (hsz : ls.size = nL) (hdg : decode cc pc = .ok (.invokevirtual 151, 3)) (hcs : cells ≤ R.cells ∧ slots ≤ R.slots) (hR : 5 + 1 ≤ R.frames ∧ 8 + (1 + 11) + 112 ≤ R.locals) (hrest : (rest.map fun v => v.category).sum ≤ 8) (kk : ∀ (H1 : Heap) (locs1 : List Loc), sx_W C M' H1 → va_S (sx_A C) H0 H1 locs1 → W p l e R s m args below meth c H1 locs1 cells slots Q (F0 m (pc + 3) ls ((.int r) :: rest))) : W p l e R s m args below meth c H locs cells slots Q (F0 m pc ls (.ref (sx_ad C 17 0) :: rest)) :=
  sx_callV (n := 0) (As := []) (k0 := 17) (s0 := 0) X hP hz hS (by decide) rfl rfl (sx_goodV tw_1246 tw_1247 tw_1248 tw_71 tw_1249) (by decide +kernel) rfl rfl hR (ct_8_step l C hG M0 r M' h) rfl rfl hrest hsz hdg hcs kk
-- StringShedModel.undo()I
def f8_undo  (M0 : sx_M) : Option (Int32 × sx_M) :=
  sx_bd (M0.1 17 0 10) fun v1 =>
  sx_bd (fun (v2 : Int32) =>
    sx_b2 (f8_refused v2 M0) fun v3 M4 =>
    if v3 = 0 then
      sx_bd (M4.1 17 0 10) fun v6 =>
      sx_bd (sx_set M4 17 0 10 (v6 - (1 : Int32))) fun M7 =>
      sx_bd (M7.1 17 0 10) fun v8 =>
      (f8_copy 22 ((247 : Int32) * v8) 20 (0 : Int32) (247 : Int32) M7).bind fun M9 =>
      sx_bd (M9.1 17 0 10) fun v10 =>
      some (v10, M9)
    else
      some ((0 : Int32), M4)) fun j13 =>
  if v1 = 0 then
    j13 (1 : Int32)
  else
    j13 (0 : Int32)
set_option maxRecDepth 100000 in
set_option maxHeartbeats 4000000 in
theorem wk_8_undo (X : sx_X C p m c cX8_undo 1 s args RX8) (hr : meth.sig.returnType = (some .int)) (hlocks : meth.locks = false) (hG : sx_G C) (hz : sx_sz C ≤ s.heap.size) (hcs : 0 ≤ R.cells ∧ 0 ≤ R.slots) (hR : 1 ≤ R.frames ∧ 25 ≤ R.locals) (M0 : sx_M) (r : Int32) (M' : sx_M) (h : f8_undo M0 = some (r, M')) (hl : lv_has ls 1 [(0, .ref (sx_ad C 17 0))]) (hP : sx_W C M0 H) (hS : va_S (sx_A C) s.heap H locs) : W p l e R s m args below meth c H locs 0 0 (sx_Z C (some (.int r)) M' below args s) (F0 m 0 ls []) := by
  obtain ⟨hx, hb, hml, hown, hts, hK⟩ := id X
  rw [f8_undo] at h
  refine lv_aload_n hx hb dX8_undo_0 rfl (lv_at hl 0 rfl) ?_
  refine lv_aload_n hx hb dX8_undo_1 rfl (lv_at hl 0 rfl) ?_
  refine gf_X8_53 X hP (by decide) dX8_undo_2 h (fun v1 h => ?_)
  obtain ⟨j13, e_j13, h⟩ := sx_nm h
  have hj13 : ∀ (v2 : Int32) (H : Heap) (locs : List Loc) (ls : Array Slot), lv_has ls 1 [(0, .ref (sx_ad C 17 0))] → sx_W C M0 H → va_S (sx_A C) s.heap H locs → j13 v2 = some (r, M') → W p l e R s m args below meth c H locs 0 0 (sx_Z C (some (.int r)) M' below args s) (F0 m 13 ls [.int v2, .ref (sx_ad C 17 0)]) := by
    intro v2 H locs ls hl hP hS h
    subst e_j13
    obtain ⟨v3, M4, e_v3, h⟩ := sx_bnd2 h
    refine cl_X8_111 X hG hP hz hS  e_v3 hl.1 dX8_undo_13 hcs ⟨Nat.le_trans (by decide) hR.1, Nat.le_trans (by decide) hR.2⟩ (Nat.le_of_ble_eq_true rfl) (fun H locs hP hS => ?_)
    refine lv_if_eq (tgt := 21) hx hb dX8_undo_16 (by decide) (fun c5 => ?_) (fun c5 => ?_)
    · replace h := sx_ifp h c5
      refine lv_aload_n hx hb dX8_undo_21 rfl (lv_at hl 0 rfl) ?_
      refine lv_dup hx hb dX8_undo_22 rfl ?_
      refine gf_X8_53 X hP (by decide) dX8_undo_23 h (fun v6 h => ?_)
      refine lv_iconst (v := (1 : Int32)) hx hb dX8_undo_26 (by decide) ?_
      refine lv_isub hx hb dX8_undo_27 ?_
      refine pf_X8_53 X hG hP hS (by decide) dX8_undo_28 h (fun M7 H locs h hP hS => ?_)
      refine lv_aload_n hx hb dX8_undo_31 rfl (lv_at hl 0 rfl) ?_
      refine gf_X8_22 X hP (by decide) dX8_undo_32 ?_
      refine lv_sipush (v := (247 : Int32)) hx hb dX8_undo_35 (by decide) ?_
      refine lv_aload_n hx hb dX8_undo_38 rfl (lv_at hl 0 rfl) ?_
      refine gf_X8_53 X hP (by decide) dX8_undo_39 h (fun v8 h => ?_)
      refine lv_imul hx hb dX8_undo_42 ?_
      refine lv_aload_n hx hb dX8_undo_43 rfl (lv_at hl 0 rfl) ?_
      refine gf_X8_16 X hP (by decide) dX8_undo_44 ?_
      refine lv_iconst (v := (0 : Int32)) hx hb dX8_undo_47 (by decide) ?_
      refine lv_sipush (v := (247 : Int32)) hx hb dX8_undo_48 (by decide) ?_
      obtain ⟨M9, e_M9, h⟩ := sx_bnd h
      refine cl_X8_56 X hG hP hz hS sx_row22 sx_row20 e_M9 hl.1 dX8_undo_51 hcs ⟨Nat.le_trans (by decide) hR.1, Nat.le_trans (by decide) hR.2⟩ (Nat.le_of_ble_eq_true rfl) (fun H locs hP hS => ?_)
      refine lv_aload_n hx hb dX8_undo_54 rfl (lv_at hl 0 rfl) ?_
      refine gf_X8_53 X hP (by decide) dX8_undo_55 h (fun v10 h => ?_)
      exact sx_iretM X hr hlocks hS hP h dX8_undo_58
    · replace h := sx_ifn h c5
      refine lv_iconst (v := (0 : Int32)) hx hb dX8_undo_19 (by decide) ?_
      exact sx_iretM X hr hlocks hS hP h dX8_undo_20
  clear e_j13
  refine lv_if_ne (tgt := 12) hx hb dX8_undo_5 (by decide) (fun c11 => ?_) (fun c11 => ?_)
  · replace h := sx_ifn h c11
    refine lv_iconst (v := (0 : Int32)) hx hb dX8_undo_12 (by decide) ?_
    exact hj13 (0 : Int32) H locs ls (lv_sub hl [0] rfl) hP hS h
  · replace h := sx_ifp h c11
    refine lv_iconst (v := (1 : Int32)) hx hb dX8_undo_8 (by decide) ?_
    refine lv_goto (tgt := 13) hx hb dX8_undo_9 (by decide) ?_
    exact hj13 (1 : Int32) H locs ls (lv_sub hl [0] rfl) hP hS h
set_option maxRecDepth 100000 in
theorem ct_8_undo (l : Launch) (C : sx_C) (hG : sx_G C) (M0 : sx_M) (r : Int32) (M' : sx_M) (h : f8_undo M0 = some (r, M')) : Met l yX8_undo (.code yX8_undo cX8_undo 1 (some .int) :: sx_T) ({ frames := 1, cells := 0, slots := 0, locals := 25 } : Room) (sx_Pc C M0 [.ref (sx_ad C 17 0)]) (sx_Q C (some (.int r)) M') 0 0 (sx_A C) := by
  refine Met.ofW (cc := cX8_undo) (maxL := 1) (ret := (some .int)) (by decide) rfl ?_
  intro p e s m args below meth c s₁ B hml hv
  obtain ⟨rfl, hz, hP, hK⟩ := hv
  have hl := lv_entry ([.ref (sx_ad C 17 0)]) (n := 1) (Nat.le_of_ble_eq_true rfl)
  rw [lg_entry_eq]
  generalize (lg_sl ([.ref (sx_ad C 17 0)]) ++ List.replicate (1 - (lg_sl ([.ref (sx_ad C 17 0)])).length) Slot.unset).toArray = ls at hl ⊢
  exact wk_8_undo ⟨B.exec, B.bytes, hml, findClass_of_methodNamed B.named, fun w hw => atoms_spec B.pre w (List.mem_cons_of_mem _ hw), hK⟩ B.returns B.notSynchronized hG hz ⟨Nat.zero_le _, Nat.zero_le _⟩ ⟨Nat.le_refl _, Nat.le_refl _⟩ M0 r M' h hl hP va_S.rf
theorem cl_L_154 (X : sx_X C p m c cc nL s args RL) (hG : sx_G C) (hP : sx_W C M0 H) (hz : sx_sz C ≤ H0.size) (hS : va_S (sx_A C) H0 H locs) {r : Int32} {M' : sx_M} (h : f8_undo M0 = some (r, M')) (hsz : ls.size = nL) (hdg : decode cc pc = .ok (.invokevirtual 154, 3)) (hcs : cells ≤ R.cells ∧ slots ≤ R.slots) (hR : 1 + 1 ≤ R.frames ∧ 8 + (1 + 11) + 25 ≤ R.locals) (hrest : (rest.map fun v => v.category).sum ≤ 8) (kk : ∀ (H1 : Heap) (locs1 : List Loc), sx_W C M' H1 → va_S (sx_A C) H0 H1 locs1 → W p l e R s m args below meth c H1 locs1 cells slots Q (F0 m (pc + 3) ls ((.int r) :: rest))) : W p l e R s m args below meth c H locs cells slots Q (F0 m pc ls (.ref (sx_ad C 17 0) :: rest)) :=
  sx_callV (n := 0) (As := []) (k0 := 17) (s0 := 0) X hP hz hS (by decide) rfl rfl (sx_goodV tw_1250 tw_1251 tw_1252 tw_71 tw_1253) (by decide +kernel) rfl rfl hR (ct_8_undo l C hG M0 r M' h) rfl rfl hrest hsz hdg hcs kk
-- StringShedModel.fallsBy(I)I
def f8_fallsBy (a1 : Int32) (M0 : sx_M) : Option (Int32 × sx_M) :=
  sx_b2 (f8_heldWeight 20 M0) fun v1 M2 =>
  (f8_tryIt M2).bind fun M3 =>
  (f8_removeString 21 a1 M3).bind fun M4 =>
  sx_b2 (f8_heldWeight 21 M4) fun v5 M6 =>
  some (v1 - v5, M6)
set_option maxRecDepth 100000 in
set_option maxHeartbeats 4000000 in
theorem wk_8_fallsBy (X : sx_X C p m c cX8_fallsBy 3 s args RX8) (hr : meth.sig.returnType = (some .int)) (hlocks : meth.locks = false) (hG : sx_G C) (hz : sx_sz C ≤ s.heap.size) (hcs : 0 ≤ R.cells ∧ 0 ≤ R.slots) (hR : 4 ≤ R.frames ∧ 95 ≤ R.locals) (a1 : Int32) (M0 : sx_M) (r : Int32) (M' : sx_M) (h : f8_fallsBy a1 M0 = some (r, M')) (hl : lv_has ls 3 [(0, .ref (sx_ad C 17 0)), (1, .int a1)]) (hP : sx_W C M0 H) (hS : va_S (sx_A C) s.heap H locs) : W p l e R s m args below meth c H locs 0 0 (sx_Z C (some (.int r)) M' below args s) (F0 m 0 ls []) := by
  obtain ⟨hx, hb, hml, hown, hts, hK⟩ := id X
  rw [f8_fallsBy] at h
  refine lv_aload_n hx hb dX8_fallsBy_0 rfl (lv_at hl 0 rfl) ?_
  refine lv_aload_n hx hb dX8_fallsBy_1 rfl (lv_at hl 0 rfl) ?_
  refine gf_X8_16 X hP (by decide) dX8_fallsBy_2 ?_
  obtain ⟨v1, M2, e_v1, h⟩ := sx_bnd2 h
  refine cl_X8_205 X hG hP hz hS sx_row20 e_v1 hl.1 dX8_fallsBy_5 hcs ⟨Nat.le_trans (by decide) hR.1, Nat.le_trans (by decide) hR.2⟩ (Nat.le_of_ble_eq_true rfl) (fun H locs hP hS => ?_)
  refine lv_istore_n (lv' := [(2, .int v1), (0, .ref (sx_ad C 17 0)), (1, .int a1)]) hx hb dX8_fallsBy_8 rfl hl (by decide) rfl (fun ls hl => ?_)
  refine lv_aload_n hx hb dX8_fallsBy_9 rfl (lv_at hl 1 rfl) ?_
  obtain ⟨M3, e_M3, h⟩ := sx_bnd h
  refine cl_X8_227 X hG hP hz hS  e_M3 hl.1 dX8_fallsBy_10 hcs ⟨Nat.le_trans (by decide) hR.1, Nat.le_trans (by decide) hR.2⟩ (Nat.le_of_ble_eq_true rfl) (fun H locs hP hS => ?_)
  refine lv_aload_n hx hb dX8_fallsBy_13 rfl (lv_at hl 1 rfl) ?_
  refine gf_X8_19 X hP (by decide) dX8_fallsBy_14 ?_
  refine lv_iload_n hx hb dX8_fallsBy_17 rfl (lv_at hl 2 rfl) ?_
  obtain ⟨M4, e_M4, h⟩ := sx_bnd h
  refine cl_X8_89 X hG hP hz hS sx_row21 e_M4 hl.1 dX8_fallsBy_18 hcs ⟨Nat.le_trans (by decide) hR.1, Nat.le_trans (by decide) hR.2⟩ (Nat.le_of_ble_eq_true rfl) (fun H locs hP hS => ?_)
  refine lv_iload_n hx hb dX8_fallsBy_21 rfl (lv_at hl 0 rfl) ?_
  refine lv_aload_n hx hb dX8_fallsBy_22 rfl (lv_at hl 1 rfl) ?_
  refine lv_aload_n hx hb dX8_fallsBy_23 rfl (lv_at hl 1 rfl) ?_
  refine gf_X8_19 X hP (by decide) dX8_fallsBy_24 ?_
  obtain ⟨v5, M6, e_v5, h⟩ := sx_bnd2 h
  refine cl_X8_205 X hG hP hz hS sx_row21 e_v5 hl.1 dX8_fallsBy_27 hcs ⟨Nat.le_trans (by decide) hR.1, Nat.le_trans (by decide) hR.2⟩ (Nat.le_of_ble_eq_true rfl) (fun H locs hP hS => ?_)
  refine lv_isub hx hb dX8_fallsBy_30 ?_
  exact sx_iretM X hr hlocks hS hP h dX8_fallsBy_31
set_option maxRecDepth 100000 in
theorem ct_8_fallsBy (l : Launch) (C : sx_C) (hG : sx_G C) (a1 : Int32) (M0 : sx_M) (r : Int32) (M' : sx_M) (h : f8_fallsBy a1 M0 = some (r, M')) : Met l yX8_fallsBy (.code yX8_fallsBy cX8_fallsBy 3 (some .int) :: sx_T) ({ frames := 4, cells := 0, slots := 0, locals := 95 } : Room) (sx_Pc C M0 [.ref (sx_ad C 17 0), .int a1]) (sx_Q C (some (.int r)) M') 0 0 (sx_A C) := by
  refine Met.ofW (cc := cX8_fallsBy) (maxL := 3) (ret := (some .int)) (by decide) rfl ?_
  intro p e s m args below meth c s₁ B hml hv
  obtain ⟨rfl, hz, hP, hK⟩ := hv
  have hl := lv_entry ([.ref (sx_ad C 17 0), .int a1]) (n := 3) (Nat.le_of_ble_eq_true rfl)
  rw [lg_entry_eq]
  generalize (lg_sl ([.ref (sx_ad C 17 0), .int a1]) ++ List.replicate (3 - (lg_sl ([.ref (sx_ad C 17 0), .int a1])).length) Slot.unset).toArray = ls at hl ⊢
  exact wk_8_fallsBy ⟨B.exec, B.bytes, hml, findClass_of_methodNamed B.named, fun w hw => atoms_spec B.pre w (List.mem_cons_of_mem _ hw), hK⟩ B.returns B.notSynchronized hG hz ⟨Nat.zero_le _, Nat.zero_le _⟩ ⟨Nat.le_refl _, Nat.le_refl _⟩ a1 M0 r M' h hl hP va_S.rf
theorem cl_X8_230 (X : sx_X C p m c cc nL s args RX8) (hG : sx_G C) (hP : sx_W C M0 H) (hz : sx_sz C ≤ H0.size) (hS : va_S (sx_A C) H0 H locs) {a1 : Int32} {r : Int32} {M' : sx_M} (h : f8_fallsBy a1 M0 = some (r, M')) (hsz : ls.size = nL) (hdg : decode cc pc = .ok (.invokevirtual 230, 3)) (hcs : cells ≤ R.cells ∧ slots ≤ R.slots) (hR : 4 + 1 ≤ R.frames ∧ 8 + (3 + 11) + 95 ≤ R.locals) (hrest : (rest.map fun v => v.category).sum ≤ 8) (kk : ∀ (H1 : Heap) (locs1 : List Loc), sx_W C M' H1 → va_S (sx_A C) H0 H1 locs1 → W p l e R s m args below meth c H1 locs1 cells slots Q (F0 m (pc + 3) ls ((.int r) :: rest))) : W p l e R s m args below meth c H locs cells slots Q (F0 m pc ls (.int a1 :: .ref (sx_ad C 17 0) :: rest)) :=
  sx_callV (n := 1) (As := [.int a1]) (k0 := 17) (s0 := 0) X hP hz hS (by decide) rfl rfl (sx_goodV tw_1258 tw_1260 tw_47 tw_71 tw_1261) (by decide +kernel) rfl rfl hR (ct_8_fallsBy l C hG a1 M0 r M' h) rfl rfl hrest hsz hdg hcs kk
-- StringShedModel.falls(II)I
def f8_falls (a1 : Int32) (a2 : Int32) (M0 : sx_M) : Option (Int32 × sx_M) :=
  (f8_foundString a1 a2 M0).bind fun v1 =>
  sx_bd (fun (v2 : Int32) =>
    sx_b2 (f8_refused v2 M0) fun v3 M4 =>
    sx_bd (fun (v5 : Int32) (M6 : sx_M) =>
      some (v5, M6)) fun j34 =>
    if v3 = 0 then
      sx_b2 (f8_fallsBy v1 M4) fun v8 M9 =>
      j34 v8 M9
    else
      j34 (0 : Int32) M4) fun j19 =>
  if v1 = (-9 : Int32) then
    j19 (1 : Int32)
  else
    j19 (0 : Int32)
set_option maxRecDepth 100000 in
set_option maxHeartbeats 4000000 in
theorem wk_8_falls (X : sx_X C p m c cX8_falls 4 s args RX8) (hr : meth.sig.returnType = (some .int)) (hlocks : meth.locks = false) (hG : sx_G C) (hz : sx_sz C ≤ s.heap.size) (hcs : 0 ≤ R.cells ∧ 0 ≤ R.slots) (hR : 5 ≤ R.frames ∧ 117 ≤ R.locals) (a1 : Int32) (a2 : Int32) (M0 : sx_M) (r : Int32) (M' : sx_M) (h : f8_falls a1 a2 M0 = some (r, M')) (hl : lv_has ls 4 [(0, .ref (sx_ad C 17 0)), (1, .int a1), (2, .int a2)]) (hP : sx_W C M0 H) (hS : va_S (sx_A C) s.heap H locs) : W p l e R s m args below meth c H locs 0 0 (sx_Z C (some (.int r)) M' below args s) (F0 m 0 ls []) := by
  obtain ⟨hx, hb, hml, hown, hts, hK⟩ := id X
  rw [f8_falls] at h
  refine lv_aload_n hx hb dX8_falls_0 rfl (lv_at hl 0 rfl) ?_
  refine lv_iload_n hx hb dX8_falls_1 rfl (lv_at hl 1 rfl) ?_
  refine lv_iload_n hx hb dX8_falls_2 rfl (lv_at hl 2 rfl) ?_
  obtain ⟨v1, e_v1, h⟩ := sx_bnd h
  refine cl_X8_224 X hG hP hz hS  e_v1 hl.1 dX8_falls_3 hcs ⟨Nat.le_trans (by decide) hR.1, Nat.le_trans (by decide) hR.2⟩ (Nat.le_of_ble_eq_true rfl) (fun H locs hP hS => ?_)
  refine lv_istore_n (lv' := [(3, .int v1), (0, .ref (sx_ad C 17 0)), (1, .int a1), (2, .int a2)]) hx hb dX8_falls_6 rfl hl (by decide) rfl (fun ls hl => ?_)
  refine lv_aload_n hx hb dX8_falls_7 rfl (lv_at hl 1 rfl) ?_
  refine lv_iload_n hx hb dX8_falls_8 rfl (lv_at hl 0 rfl) ?_
  refine lv_bipush (v := (-9 : Int32)) hx hb dX8_falls_9 (by decide) ?_
  obtain ⟨j19, e_j19, h⟩ := sx_nm h
  have hj19 : ∀ (v2 : Int32) (H : Heap) (locs : List Loc) (ls : Array Slot), lv_has ls 4 [(0, .ref (sx_ad C 17 0)), (3, .int v1)] → sx_W C M0 H → va_S (sx_A C) s.heap H locs → j19 v2 = some (r, M') → W p l e R s m args below meth c H locs 0 0 (sx_Z C (some (.int r)) M' below args s) (F0 m 19 ls [.int v2, .ref (sx_ad C 17 0)]) := by
    intro v2 H locs ls hl hP hS h
    subst e_j19
    obtain ⟨v3, M4, e_v3, h⟩ := sx_bnd2 h
    refine cl_X8_111 X hG hP hz hS  e_v3 hl.1 dX8_falls_19 hcs ⟨Nat.le_trans (by decide) hR.1, Nat.le_trans (by decide) hR.2⟩ (Nat.le_of_ble_eq_true rfl) (fun H locs hP hS => ?_)
    obtain ⟨j34, e_j34, h⟩ := sx_nm h
    have hj34 : ∀ (v5 : Int32) (M6 : sx_M) (H : Heap) (locs : List Loc) (ls : Array Slot), lv_has ls 4 [] → sx_W C M6 H → va_S (sx_A C) s.heap H locs → j34 v5 M6 = some (r, M') → W p l e R s m args below meth c H locs 0 0 (sx_Z C (some (.int r)) M' below args s) (F0 m 34 ls [.int v5]) := by
      intro v5 M6 H locs ls hl hP hS h
      subst e_j34
      exact sx_iretM X hr hlocks hS hP h dX8_falls_34
    clear e_j34
    refine lv_if_eq (tgt := 29) hx hb dX8_falls_22 (by decide) (fun c7 => ?_) (fun c7 => ?_)
    · replace h := sx_ifp h c7
      refine lv_aload_n hx hb dX8_falls_29 rfl (lv_at hl 0 rfl) ?_
      refine lv_iload_n hx hb dX8_falls_30 rfl (lv_at hl 1 rfl) ?_
      obtain ⟨v8, M9, e_v8, h⟩ := sx_bnd2 h
      refine cl_X8_230 X hG hP hz hS  e_v8 hl.1 dX8_falls_31 hcs ⟨Nat.le_trans (by decide) hR.1, Nat.le_trans (by decide) hR.2⟩ (Nat.le_of_ble_eq_true rfl) (fun H locs hP hS => ?_)
      exact hj34 v8 M9 H locs ls (lv_sub hl [] rfl) hP hS h
    · replace h := sx_ifn h c7
      refine lv_iconst (v := (0 : Int32)) hx hb dX8_falls_25 (by decide) ?_
      refine lv_goto (tgt := 34) hx hb dX8_falls_26 (by decide) ?_
      exact hj34 (0 : Int32) M4 H locs ls (lv_sub hl [] rfl) hP hS h
  clear e_j19
  refine lv_icmp_ne (tgt := 18) hx hb dX8_falls_11 (by decide) (fun c10 => ?_) (fun c10 => ?_)
  · replace h := sx_ifn h c10
    refine lv_iconst (v := (0 : Int32)) hx hb dX8_falls_18 (by decide) ?_
    exact hj19 (0 : Int32) H locs ls (lv_sub hl [1, 0] rfl) hP hS h
  · replace h := sx_ifp h c10
    refine lv_iconst (v := (1 : Int32)) hx hb dX8_falls_14 (by decide) ?_
    refine lv_goto (tgt := 19) hx hb dX8_falls_15 (by decide) ?_
    exact hj19 (1 : Int32) H locs ls (lv_sub hl [1, 0] rfl) hP hS h
set_option maxRecDepth 100000 in
theorem ct_8_falls (l : Launch) (C : sx_C) (hG : sx_G C) (a1 : Int32) (a2 : Int32) (M0 : sx_M) (r : Int32) (M' : sx_M) (h : f8_falls a1 a2 M0 = some (r, M')) : Met l yX8_falls (.code yX8_falls cX8_falls 4 (some .int) :: sx_T) ({ frames := 5, cells := 0, slots := 0, locals := 117 } : Room) (sx_Pc C M0 [.ref (sx_ad C 17 0), .int a1, .int a2]) (sx_Q C (some (.int r)) M') 0 0 (sx_A C) := by
  refine Met.ofW (cc := cX8_falls) (maxL := 4) (ret := (some .int)) (by decide) rfl ?_
  intro p e s m args below meth c s₁ B hml hv
  obtain ⟨rfl, hz, hP, hK⟩ := hv
  have hl := lv_entry ([.ref (sx_ad C 17 0), .int a1, .int a2]) (n := 4) (Nat.le_of_ble_eq_true rfl)
  rw [lg_entry_eq]
  generalize (lg_sl ([.ref (sx_ad C 17 0), .int a1, .int a2]) ++ List.replicate (4 - (lg_sl ([.ref (sx_ad C 17 0), .int a1, .int a2])).length) Slot.unset).toArray = ls at hl ⊢
  exact wk_8_falls ⟨B.exec, B.bytes, hml, findClass_of_methodNamed B.named, fun w hw => atoms_spec B.pre w (List.mem_cons_of_mem _ hw), hK⟩ B.returns B.notSynchronized hG hz ⟨Nat.zero_le _, Nat.zero_le _⟩ ⟨Nat.le_refl _, Nat.le_refl _⟩ a1 a2 M0 r M' h hl hP va_S.rf
theorem cl_L_157 (X : sx_X C p m c cc nL s args RL) (hG : sx_G C) (hP : sx_W C M0 H) (hz : sx_sz C ≤ H0.size) (hS : va_S (sx_A C) H0 H locs) {a1 : Int32} {a2 : Int32} {r : Int32} {M' : sx_M} (h : f8_falls a1 a2 M0 = some (r, M')) (hsz : ls.size = nL) (hdg : decode cc pc = .ok (.invokevirtual 157, 3)) (hcs : cells ≤ R.cells ∧ slots ≤ R.slots) (hR : 5 + 1 ≤ R.frames ∧ 8 + (4 + 11) + 117 ≤ R.locals) (hrest : (rest.map fun v => v.category).sum ≤ 8) (kk : ∀ (H1 : Heap) (locs1 : List Loc), sx_W C M' H1 → va_S (sx_A C) H0 H1 locs1 → W p l e R s m args below meth c H1 locs1 cells slots Q (F0 m (pc + 3) ls ((.int r) :: rest))) : W p l e R s m args below meth c H locs cells slots Q (F0 m pc ls (.int a2 :: .int a1 :: .ref (sx_ad C 17 0) :: rest)) :=
  sx_callV (n := 2) (As := [.int a1, .int a2]) (k0 := 17) (s0 := 0) X hP hz hS (by decide) rfl rfl (sx_goodV tw_1254 tw_1255 tw_1256 tw_71 tw_1257) (by decide +kernel) rfl rfl hR (ct_8_falls l C hG a1 a2 M0 r M' h) rfl rfl hrest hsz hdg hcs kk
-- StringShedModel.widen(I)Z
def f8_widen_L4 (w1 : Int32) (k75 : (Int32 → sx_M → Option (Int32 × sx_M))) : Nat → Int32 → Int32 → sx_M → Option (Int32 × sx_M)
  | 0, _, _, _ => none
  | n + 1, x2, x3, M =>
    if (24 : Int32) ≤ x3 then
      k75 x2 M
    else
      (f8_isPart 20 x3 M).bind fun v2 =>
      sx_bd (fun (v3 : Int32) =>
        if sx_in x3 24 then
        sx_bd (sx_set M 28 0 (x3).toNatClampNeg v3) fun M4 =>
        if sx_in x3 24 then
        sx_bd (M4.1 28 0 (x3).toNatClampNeg) fun v5 =>
        sx_bd (fun (v6 : Int32) (M7 : sx_M) =>
          sx_bd (x3 + (1 : Int32)) fun v8 =>
          f8_widen_L4 w1 k75 n v6 v8 M7) fun j69 =>
        if v5 = (40 : Int32) then
          if sx_in x2 24 then
          sx_bd (sx_set M4 29 0 (x2).toNatClampNeg x3) fun M10 =>
          sx_bd (x2 + (1 : Int32)) fun v11 =>
          j69 v11 M10
          else none
        else
          j69 x2 M4
        else none
        else none) fun j47 =>
      sx_bd (fun (_ : Unit) =>
        j47 (-9 : Int32)) fun j45 =>
      if v2 = 0 then
        j45 ()
      else
        (f8_partAt x3 (2 : Int32) M).bind fun v13 =>
        if sx_in v13 247 then
        sx_bd (M.1 20 0 (v13).toNatClampNeg) fun v14 =>
        if v14 = (1 : Int32) then
          j47 (40 : Int32)
        else
          j45 ()
        else none
def f8_widen_L77 (w1 : Int32) (k172 : (Int32 → sx_M → Option (Int32 × sx_M))) : Nat → Int32 → Int32 → sx_M → Option (Int32 × sx_M)
  | 0, _, _, _ => none
  | n + 1, x2, x3, M =>
    if sx_in (2 : Int32) 247 then
    sx_bd (M.1 20 0 ((2 : Int32)).toNatClampNeg) fun v18 =>
    if v18 ≤ x3 then
      k172 x2 M
    else
      (f8_cordAt x3 (1 : Int32) M).bind fun v20 =>
      if sx_in v20 247 then
      sx_bd (M.1 20 0 (v20).toNatClampNeg) fun v21 =>
      (f8_cordAt x3 (0 : Int32) M).bind fun v22 =>
      if sx_in v22 247 then
      sx_bd (M.1 20 0 (v22).toNatClampNeg) fun v23 =>
      sx_bd (fun (v24 : Int32) (M25 : sx_M) =>
        sx_bd (x3 + (1 : Int32)) fun v26 =>
        f8_widen_L77 w1 k172 n v24 v26 M25) fun j166 =>
      if 0 ≤ v23 then
        j166 x2 M
      else
        (f8_cordAt x3 (2 : Int32) M).bind fun v28 =>
        if sx_in v28 247 then
        sx_bd (M.1 20 0 (v28).toNatClampNeg) fun v29 =>
        if v29 = (1 : Int32) then
          if sx_in x3 40 then
          sx_bd (M.1 27 0 (x3).toNatClampNeg) fun v31 =>
          if v31 = 0 then
            if sx_in v21 24 then
            sx_bd (M.1 28 0 (v21).toNatClampNeg) fun v33 =>
            if v33 = (-9 : Int32) then
              if sx_in v21 24 then
              sx_bd (sx_set M 28 0 (v21).toNatClampNeg x3) fun M35 =>
              if sx_in x2 24 then
              sx_bd (sx_set M35 29 0 (x2).toNatClampNeg v21) fun M36 =>
              sx_bd (x2 + (1 : Int32)) fun v37 =>
              j166 v37 M36
              else none
              else none
            else
              j166 x2 M
            else none
          else
            j166 x2 M
          else none
        else
          j166 x2 M
        else none
      else none
      else none
    else none
def f8_widen_L201 (w1 : Int32) (w3 : Int32) (w4 : Int32) (k380 : (Int32 → sx_M → Option (Int32 × sx_M))) : Nat → Int32 → Int32 → sx_M → Option (Int32 × sx_M)
  | 0, _, _, _ => none
  | n + 1, x2, x5, M =>
    if sx_in (2 : Int32) 247 then
    sx_bd (M.1 20 0 ((2 : Int32)).toNatClampNeg) fun v44 =>
    if v44 ≤ x5 then
      k380 x2 M
    else
      (f8_cordAt x5 (0 : Int32) M).bind fun v46 =>
      if sx_in v46 247 then
      sx_bd (M.1 20 0 (v46).toNatClampNeg) fun v47 =>
      (f8_cordAt x5 (1 : Int32) M).bind fun v48 =>
      if sx_in v48 247 then
      sx_bd (M.1 20 0 (v48).toNatClampNeg) fun v49 =>
      (f8_cordAt x5 (2 : Int32) M).bind fun v50 =>
      if sx_in v50 247 then
      sx_bd (M.1 20 0 (v50).toNatClampNeg) fun v51 =>
      sx_bd (fun (v52 : Int32) (M53 : sx_M) =>
        (f8_cordAt x5 (2 : Int32) M53).bind fun v54 =>
        if sx_in v54 247 then
        sx_bd (M53.1 20 0 (v54).toNatClampNeg) fun v55 =>
        sx_bd (fun (v56 : Int32) (M57 : sx_M) =>
          sx_bd (x5 + (1 : Int32)) fun v58 =>
          f8_widen_L201 w1 w3 w4 k380 n v56 v58 M57) fun j374 =>
        if v55 = (1 : Int32) then
          if v47 < 0 then
            j374 v52 M53
          else
            if v49 = w4 then
              if sx_in x5 40 then
              sx_bd (M53.1 27 0 (x5).toNatClampNeg) fun v62 =>
              if v62 = 0 then
                j374 v52 M53
              else
                if sx_in v47 24 then
                sx_bd (M53.1 28 0 (v47).toNatClampNeg) fun v64 =>
                if v64 = (-9 : Int32) then
                  if sx_in v47 24 then
                  sx_bd (sx_set M53 28 0 (v47).toNatClampNeg ((100 : Int32) + x5)) fun M66 =>
                  if sx_in v52 24 then
                  sx_bd (sx_set M66 29 0 (v52).toNatClampNeg v47) fun M67 =>
                  sx_bd (v52 + (1 : Int32)) fun v68 =>
                  j374 v68 M67
                  else none
                  else none
                else
                  j374 v52 M53
                else none
              else none
            else
              j374 v52 M53
        else
          j374 v52 M53
        else none) fun j302 =>
      if v51 = (1 : Int32) then
        if v47 = w4 then
          if sx_in x5 40 then
          sx_bd (M.1 27 0 (x5).toNatClampNeg) fun v71 =>
          if v71 = 0 then
            if sx_in v49 24 then
            sx_bd (M.1 28 0 (v49).toNatClampNeg) fun v73 =>
            if v73 = (-9 : Int32) then
              if sx_in v49 24 then
              sx_bd (sx_set M 28 0 (v49).toNatClampNeg x5) fun M75 =>
              if sx_in x2 24 then
              sx_bd (sx_set M75 29 0 (x2).toNatClampNeg v49) fun M76 =>
              sx_bd (x2 + (1 : Int32)) fun v77 =>
              j302 v77 M76
              else none
              else none
            else
              j302 x2 M
            else none
          else
            j302 x2 M
          else none
        else
          j302 x2 M
      else
        j302 x2 M
      else none
      else none
      else none
    else none
def f8_widen_L174 (w1 : Int32) (k386 : (sx_M → Option (Int32 × sx_M))) : Nat → Int32 → Int32 → sx_M → Option (Int32 × sx_M)
  | 0, _, _, _ => none
  | n + 1, x2, x3, M =>
    if x2 ≤ x3 then
      k386 M
    else
      if sx_in w1 24 then
      sx_bd (M.1 28 0 (w1).toNatClampNeg) fun v41 =>
      if v41 = (-9 : Int32) then
        if sx_in x3 24 then
        sx_bd (M.1 29 0 (x3).toNatClampNeg) fun v43 =>
        f8_widen_L201 w1 x3 v43
          (fun (v78 : Int32) (M79 : sx_M) =>
            sx_bd (x3 + (1 : Int32)) fun v80 =>
            f8_widen_L174 w1 k386 n v78 v80 M79)
          5000 x2 (0 : Int32) M
        else none
      else
        k386 M
      else none
def f8_widen_L401 (k486 : (sx_M → Option (Int32 × sx_M))) : Nat → Int32 → sx_M → Option (Int32 × sx_M)
  | 0, _, _ => none
  | n + 1, x3, M =>
    if x3 < 0 then
      k486 M
    else
      if sx_in x3 24 then
      sx_bd (M.1 28 0 (x3).toNatClampNeg) fun v85 =>
      if v85 = (40 : Int32) then
        k486 M
      else
        if sx_in x3 24 then
        sx_bd (M.1 28 0 (x3).toNatClampNeg) fun v87 =>
        sx_bd (v87 - v87 / (100 : Int32) * (100 : Int32)) fun v88 =>
        if sx_in x3 24 then
        sx_bd (M.1 28 0 (x3).toNatClampNeg) fun v89 =>
        sx_bd (fun (v90 : Int32) =>
          sx_bd (fun (v91 : Int32) =>
            if sx_in v88 40 ∧ (v91 = 0 ∨ v91 = 1) then
            sx_bd (sx_set M 27 0 (v88).toNatClampNeg v91) fun M92 =>
            sx_bd (fun (v93 : Int32) =>
              (f8_cordAt v88 v93 M92).bind fun v94 =>
              if sx_in v94 247 then
              sx_bd (M92.1 20 0 (v94).toNatClampNeg) fun v95 =>
              f8_widen_L401 k486 n v95 M92
              else none) fun j478 =>
            if v90 = 0 then
              j478 (0 : Int32)
            else
              j478 (1 : Int32)
            else none) fun j461 =>
          if v90 = 0 then
            j461 (1 : Int32)
          else
            j461 (0 : Int32)) fun j443 =>
        if v89 < (100 : Int32) then
          j443 (0 : Int32)
        else
          j443 (1 : Int32)
        else none
        else none
      else none
def f8_widen (a1 : Int32) (M0 : sx_M) : Option (Int32 × sx_M) :=
  f8_widen_L4 a1
    (fun (v16 : Int32) (M17 : sx_M) =>
      f8_widen_L77 a1
        (fun (v38 : Int32) (M39 : sx_M) =>
          f8_widen_L174 a1
            (fun (M81 : sx_M) =>
              if sx_in a1 24 then
              sx_bd (M81.1 28 0 (a1).toNatClampNeg) fun v82 =>
              if v82 = (-9 : Int32) then
                some ((0 : Int32), M81)
              else
                f8_widen_L401 
                  (fun (M99 : sx_M) =>
                    some ((1 : Int32), M99))
                  5000 a1 M81
              else none)
            5000 v38 (0 : Int32) M39)
        5000 v16 (0 : Int32) M17)
    5000 (0 : Int32) (0 : Int32) M0
set_option maxRecDepth 100000 in
set_option maxHeartbeats 4000000 in
theorem wk_8_widen (X : sx_X C p m c cX8_widen 8 s args RX8) (hr : meth.sig.returnType = (some .boolean)) (hlocks : meth.locks = false) (hG : sx_G C) (hz : sx_sz C ≤ s.heap.size) (hcs : 0 ≤ R.cells ∧ 0 ≤ R.slots) (hR : 2 ≤ R.frames ∧ 46 ≤ R.locals) (a1 : Int32) (M0 : sx_M) (r : Int32) (M' : sx_M) (h : f8_widen a1 M0 = some (r, M')) (hl : lv_has ls 8 [(0, .ref (sx_ad C 17 0)), (1, .int a1)]) (hP : sx_W C M0 H) (hS : va_S (sx_A C) s.heap H locs) : W p l e R s m args below meth c H locs 0 0 (sx_Z C (some (.int r)) M' below args s) (F0 m 0 ls []) := by
  obtain ⟨hx, hb, hml, hown, hts, hK⟩ := id X
  rw [f8_widen] at h
  have hf8_widen_L4 : ∀ (w1 : Int32) (k75 : (Int32 → sx_M → Option (Int32 × sx_M))) (n : Nat) (hk75 : (∀ (y2 : Int32) (M : sx_M) (H : Heap) (locs : List Loc) (ls : Array Slot), lv_has ls 8 [(0, .ref (sx_ad C 17 0)), (1, .int w1), (2, .int y2)] → sx_W C M H → va_S (sx_A C) s.heap H locs → k75 y2 M = some (r, M') → W p l e R s m args below meth c H locs 0 0 (sx_Z C (some (.int r)) M' below args s) (F0 m 75 ls []))) (x2 : Int32) (x3 : Int32) (M : sx_M) (H : Heap) (locs : List Loc) (ls : Array Slot), lv_has ls 8 [(0, .ref (sx_ad C 17 0)), (1, .int w1), (2, .int x2), (3, .int x3)] → sx_W C M H → va_S (sx_A C) s.heap H locs → f8_widen_L4 w1 k75 n x2 x3 M = some (r, M') → W p l e R s m args below meth c H locs 0 0 (sx_Z C (some (.int r)) M' below args s) (F0 m 4 ls []) := by
    intro w1 k75 n hk75
    induction n with
    | zero => intro x2 x3 M H locs ls hl hP hS h; exact absurd (show (none : Option (Int32 × sx_M)) = some (r, M') from h) (fun q => nomatch q)
    | succ n ih =>
      intro x2 x3 M H locs ls hl hP hS h
      rw [f8_widen_L4] at h
      refine lv_iload_n hx hb dX8_widen_4 rfl (lv_at hl 3 rfl) ?_
      refine lv_bipush (v := (24 : Int32)) hx hb dX8_widen_5 (by decide) ?_
      refine lv_icmp_ge (tgt := 75) hx hb dX8_widen_7 (by decide) (fun c1 => ?_) (fun c1 => ?_)
      · replace h := sx_ifp h c1
        exact hk75 x2 M H locs ls (lv_sub hl [0, 1, 2] rfl) hP hS h
      · replace h := sx_ifn h c1
        refine lv_aload_n hx hb dX8_widen_10 rfl (lv_at hl 0 rfl) ?_
        refine gf_X8_41 X hP (by decide) dX8_widen_11 ?_
        refine lv_iload_n hx hb dX8_widen_14 rfl (lv_at hl 3 rfl) ?_
        refine lv_aload_n hx hb dX8_widen_15 rfl (lv_at hl 0 rfl) ?_
        refine gf_X8_16 X hP (by decide) dX8_widen_16 ?_
        refine lv_iload_n hx hb dX8_widen_19 rfl (lv_at hl 3 rfl) ?_
        obtain ⟨v2, e_v2, h⟩ := sx_bnd h
        refine cl_X8_74 X hG hP hz hS sx_row20 e_v2 hl.1 dX8_widen_20 hcs ⟨Nat.le_trans (by decide) hR.1, Nat.le_trans (by decide) hR.2⟩ (Nat.le_of_ble_eq_true rfl) (fun H locs hP hS => ?_)
        obtain ⟨j47, e_j47, h⟩ := sx_nm h
        have hj47 : ∀ (v3 : Int32) (H : Heap) (locs : List Loc) (ls : Array Slot), lv_has ls 8 [(0, .ref (sx_ad C 17 0)), (1, .int w1), (2, .int x2), (3, .int x3)] → sx_W C M H → va_S (sx_A C) s.heap H locs → j47 v3 = some (r, M') → W p l e R s m args below meth c H locs 0 0 (sx_Z C (some (.int r)) M' below args s) (F0 m 47 ls [.int v3, .int x3, .ref (sx_ad C 28 0)]) := by
          intro v3 H locs ls hl hP hS h
          subst e_j47
          refine sx_iast X hG hP hS 28 0 24 (by decide) (fun _ _ => rfl) dX8_widen_47 h (fun M4 H locs h hP hS => ?_)
          refine lv_aload_n hx hb dX8_widen_48 rfl (lv_at hl 0 rfl) ?_
          refine gf_X8_41 X hP (by decide) dX8_widen_49 ?_
          refine lv_iload_n hx hb dX8_widen_52 rfl (lv_at hl 3 rfl) ?_
          refine sx_iald X hP 28 0 24 (by decide) (fun _ _ => rfl) dX8_widen_53 h (fun v5 h => ?_)
          refine lv_bipush (v := (40 : Int32)) hx hb dX8_widen_54 (by decide) ?_
          obtain ⟨j69, e_j69, h⟩ := sx_nm h
          have hj69 : ∀ (v6 : Int32) (M7 : sx_M) (H : Heap) (locs : List Loc) (ls : Array Slot), lv_has ls 8 [(0, .ref (sx_ad C 17 0)), (1, .int w1), (2, .int v6), (3, .int x3)] → sx_W C M7 H → va_S (sx_A C) s.heap H locs → j69 v6 M7 = some (r, M') → W p l e R s m args below meth c H locs 0 0 (sx_Z C (some (.int r)) M' below args s) (F0 m 69 ls []) := by
            intro v6 M7 H locs ls hl hP hS h
            subst e_j69
            obtain ⟨v8, e_v8, h⟩ := sx_nm h
            refine lv_iinc (v := v8) (lv' := [(3, .int v8), (0, .ref (sx_ad C 17 0)), (1, .int w1), (2, .int v6)]) hx hb dX8_widen_69 hl (k := 3) rfl (by rw [← e_v8]; rfl) (by decide) rfl (fun ls hl => ?_)
            refine lv_goto (tgt := 4) hx hb dX8_widen_72 (by decide) ?_
            exact ih v6 v8 M7 H locs ls (lv_sub hl [1, 2, 3, 0] rfl) hP hS h
          clear e_j69
          refine lv_icmp_ne (tgt := 69) hx hb dX8_widen_56 (by decide) (fun c9 => ?_) (fun c9 => ?_)
          · replace h := sx_ifn h c9
            exact hj69 x2 M4 H locs ls (lv_sub hl [0, 1, 2, 3] rfl) hP hS h
          · replace h := sx_ifp h c9
            refine lv_aload_n hx hb dX8_widen_59 rfl (lv_at hl 0 rfl) ?_
            refine gf_X8_44 X hP (by decide) dX8_widen_60 ?_
            refine lv_iload_n hx hb dX8_widen_63 rfl (lv_at hl 2 rfl) ?_
            refine lv_iload_n hx hb dX8_widen_64 rfl (lv_at hl 3 rfl) ?_
            refine sx_iast X hG hP hS 29 0 24 (by decide) (fun _ _ => rfl) dX8_widen_65 h (fun M10 H locs h hP hS => ?_)
            obtain ⟨v11, e_v11, h⟩ := sx_nm h
            refine lv_iinc (v := v11) (lv' := [(2, .int v11), (0, .ref (sx_ad C 17 0)), (1, .int w1), (3, .int x3)]) hx hb dX8_widen_66 hl (k := 2) rfl (by rw [← e_v11]; rfl) (by decide) rfl (fun ls hl => ?_)
            exact hj69 v11 M10 H locs ls (lv_sub hl [1, 2, 0, 3] rfl) hP hS h
        clear e_j47
        obtain ⟨j45, e_j45, h⟩ := sx_nm h
        have hj45 : ∀ (H : Heap) (locs : List Loc) (ls : Array Slot), lv_has ls 8 [(0, .ref (sx_ad C 17 0)), (1, .int w1), (2, .int x2), (3, .int x3)] → sx_W C M H → va_S (sx_A C) s.heap H locs → j45 () = some (r, M') → W p l e R s m args below meth c H locs 0 0 (sx_Z C (some (.int r)) M' below args s) (F0 m 45 ls [.int x3, .ref (sx_ad C 28 0)]) := by
          intro  H locs ls hl hP hS h
          subst e_j45
          refine lv_bipush (v := (-9 : Int32)) hx hb dX8_widen_45 (by decide) ?_
          exact hj47 (-9 : Int32) H locs ls (lv_sub hl [0, 1, 2, 3] rfl) hP hS h
        clear e_j45
        refine lv_if_eq (tgt := 45) hx hb dX8_widen_23 (by decide) (fun c12 => ?_) (fun c12 => ?_)
        · replace h := sx_ifp h c12
          exact hj45 H locs ls (lv_sub hl [0, 1, 2, 3] rfl) hP hS h
        · replace h := sx_ifn h c12
          refine lv_aload_n hx hb dX8_widen_26 rfl (lv_at hl 0 rfl) ?_
          refine gf_X8_16 X hP (by decide) dX8_widen_27 ?_
          refine lv_iload_n hx hb dX8_widen_30 rfl (lv_at hl 3 rfl) ?_
          refine lv_iconst (v := (2 : Int32)) hx hb dX8_widen_31 (by decide) ?_
          obtain ⟨v13, e_v13, h⟩ := sx_bnd h
          refine cl_X8_66 X hG hP hz hS  e_v13 hl.1 dX8_widen_32 hcs ⟨Nat.le_trans (by decide) hR.1, Nat.le_trans (by decide) hR.2⟩ (Nat.le_of_ble_eq_true rfl) (fun H locs hP hS => ?_)
          refine sx_iald X hP 20 0 247 (by decide) (fun _ _ => rfl) dX8_widen_35 h (fun v14 h => ?_)
          refine lv_iconst (v := (1 : Int32)) hx hb dX8_widen_36 (by decide) ?_
          refine lv_icmp_ne (tgt := 45) hx hb dX8_widen_37 (by decide) (fun c15 => ?_) (fun c15 => ?_)
          · replace h := sx_ifn h c15
            exact hj45 H locs ls (lv_sub hl [0, 1, 2, 3] rfl) hP hS h
          · replace h := sx_ifp h c15
            refine lv_bipush (v := (40 : Int32)) hx hb dX8_widen_40 (by decide) ?_
            refine lv_goto (tgt := 47) hx hb dX8_widen_42 (by decide) ?_
            exact hj47 (40 : Int32) H locs ls (lv_sub hl [0, 1, 2, 3] rfl) hP hS h
  have hf8_widen_L77 : ∀ (w1 : Int32) (k172 : (Int32 → sx_M → Option (Int32 × sx_M))) (n : Nat) (hk172 : (∀ (y2 : Int32) (M : sx_M) (H : Heap) (locs : List Loc) (ls : Array Slot), lv_has ls 8 [(0, .ref (sx_ad C 17 0)), (1, .int w1), (2, .int y2)] → sx_W C M H → va_S (sx_A C) s.heap H locs → k172 y2 M = some (r, M') → W p l e R s m args below meth c H locs 0 0 (sx_Z C (some (.int r)) M' below args s) (F0 m 172 ls []))) (x2 : Int32) (x3 : Int32) (M : sx_M) (H : Heap) (locs : List Loc) (ls : Array Slot), lv_has ls 8 [(0, .ref (sx_ad C 17 0)), (1, .int w1), (2, .int x2), (3, .int x3)] → sx_W C M H → va_S (sx_A C) s.heap H locs → f8_widen_L77 w1 k172 n x2 x3 M = some (r, M') → W p l e R s m args below meth c H locs 0 0 (sx_Z C (some (.int r)) M' below args s) (F0 m 77 ls []) := by
    intro w1 k172 n hk172
    induction n with
    | zero => intro x2 x3 M H locs ls hl hP hS h; exact absurd (show (none : Option (Int32 × sx_M)) = some (r, M') from h) (fun q => nomatch q)
    | succ n ih =>
      intro x2 x3 M H locs ls hl hP hS h
      rw [f8_widen_L77] at h
      refine lv_iload_n hx hb dX8_widen_77 rfl (lv_at hl 3 rfl) ?_
      refine lv_aload_n hx hb dX8_widen_78 rfl (lv_at hl 0 rfl) ?_
      refine gf_X8_16 X hP (by decide) dX8_widen_79 ?_
      refine lv_iconst (v := (2 : Int32)) hx hb dX8_widen_82 (by decide) ?_
      refine sx_iald X hP 20 0 247 (by decide) (fun _ _ => rfl) dX8_widen_83 h (fun v18 h => ?_)
      refine lv_icmp_ge (tgt := 172) hx hb dX8_widen_84 (by decide) (fun c19 => ?_) (fun c19 => ?_)
      · replace h := sx_ifp h c19
        exact hk172 x2 M H locs ls (lv_sub hl [0, 1, 2] rfl) hP hS h
      · replace h := sx_ifn h c19
        refine lv_aload_n hx hb dX8_widen_87 rfl (lv_at hl 0 rfl) ?_
        refine gf_X8_16 X hP (by decide) dX8_widen_88 ?_
        refine lv_iload_n hx hb dX8_widen_91 rfl (lv_at hl 3 rfl) ?_
        refine lv_iconst (v := (1 : Int32)) hx hb dX8_widen_92 (by decide) ?_
        obtain ⟨v20, e_v20, h⟩ := sx_bnd h
        refine cl_X8_78 X hG hP hz hS  e_v20 hl.1 dX8_widen_93 hcs ⟨Nat.le_trans (by decide) hR.1, Nat.le_trans (by decide) hR.2⟩ (Nat.le_of_ble_eq_true rfl) (fun H locs hP hS => ?_)
        refine sx_iald X hP 20 0 247 (by decide) (fun _ _ => rfl) dX8_widen_96 h (fun v21 h => ?_)
        refine lv_istore (lv' := [(4, .int v21), (0, .ref (sx_ad C 17 0)), (1, .int w1), (2, .int x2), (3, .int x3)]) hx hb dX8_widen_97 hl (by decide) rfl (fun ls hl => ?_)
        refine lv_aload_n hx hb dX8_widen_99 rfl (lv_at hl 1 rfl) ?_
        refine gf_X8_16 X hP (by decide) dX8_widen_100 ?_
        refine lv_iload_n hx hb dX8_widen_103 rfl (lv_at hl 4 rfl) ?_
        refine lv_iconst (v := (0 : Int32)) hx hb dX8_widen_104 (by decide) ?_
        obtain ⟨v22, e_v22, h⟩ := sx_bnd h
        refine cl_X8_78 X hG hP hz hS  e_v22 hl.1 dX8_widen_105 hcs ⟨Nat.le_trans (by decide) hR.1, Nat.le_trans (by decide) hR.2⟩ (Nat.le_of_ble_eq_true rfl) (fun H locs hP hS => ?_)
        refine sx_iald X hP 20 0 247 (by decide) (fun _ _ => rfl) dX8_widen_108 h (fun v23 h => ?_)
        obtain ⟨j166, e_j166, h⟩ := sx_nm h
        have hj166 : ∀ (v24 : Int32) (M25 : sx_M) (H : Heap) (locs : List Loc) (ls : Array Slot), lv_has ls 8 [(0, .ref (sx_ad C 17 0)), (1, .int w1), (2, .int v24), (3, .int x3)] → sx_W C M25 H → va_S (sx_A C) s.heap H locs → j166 v24 M25 = some (r, M') → W p l e R s m args below meth c H locs 0 0 (sx_Z C (some (.int r)) M' below args s) (F0 m 166 ls []) := by
          intro v24 M25 H locs ls hl hP hS h
          subst e_j166
          obtain ⟨v26, e_v26, h⟩ := sx_nm h
          refine lv_iinc (v := v26) (lv' := [(3, .int v26), (0, .ref (sx_ad C 17 0)), (1, .int w1), (2, .int v24)]) hx hb dX8_widen_166 hl (k := 3) rfl (by rw [← e_v26]; rfl) (by decide) rfl (fun ls hl => ?_)
          refine lv_goto (tgt := 77) hx hb dX8_widen_169 (by decide) ?_
          exact ih v24 v26 M25 H locs ls (lv_sub hl [1, 2, 3, 0] rfl) hP hS h
        clear e_j166
        refine lv_if_ge (tgt := 166) hx hb dX8_widen_109 (by decide) (fun c27 => ?_) (fun c27 => ?_)
        · replace h := sx_ifp h c27
          exact hj166 x2 M H locs ls (lv_sub hl [1, 2, 3, 4] rfl) hP hS h
        · replace h := sx_ifn h c27
          refine lv_aload_n hx hb dX8_widen_112 rfl (lv_at hl 1 rfl) ?_
          refine gf_X8_16 X hP (by decide) dX8_widen_113 ?_
          refine lv_iload_n hx hb dX8_widen_116 rfl (lv_at hl 4 rfl) ?_
          refine lv_iconst (v := (2 : Int32)) hx hb dX8_widen_117 (by decide) ?_
          obtain ⟨v28, e_v28, h⟩ := sx_bnd h
          refine cl_X8_78 X hG hP hz hS  e_v28 hl.1 dX8_widen_118 hcs ⟨Nat.le_trans (by decide) hR.1, Nat.le_trans (by decide) hR.2⟩ (Nat.le_of_ble_eq_true rfl) (fun H locs hP hS => ?_)
          refine sx_iald X hP 20 0 247 (by decide) (fun _ _ => rfl) dX8_widen_121 h (fun v29 h => ?_)
          refine lv_iconst (v := (1 : Int32)) hx hb dX8_widen_122 (by decide) ?_
          refine lv_icmp_ne (tgt := 166) hx hb dX8_widen_123 (by decide) (fun c30 => ?_) (fun c30 => ?_)
          · replace h := sx_ifn h c30
            exact hj166 x2 M H locs ls (lv_sub hl [1, 2, 3, 4] rfl) hP hS h
          · replace h := sx_ifp h c30
            refine lv_aload_n hx hb dX8_widen_126 rfl (lv_at hl 1 rfl) ?_
            refine gf_X8_38 X hP (by decide) dX8_widen_127 ?_
            refine lv_iload_n hx hb dX8_widen_130 rfl (lv_at hl 4 rfl) ?_
            refine sx_zald X hP 27 0 40 (by decide) (fun _ _ => rfl) dX8_widen_131 h (fun v31 h => ?_)
            refine lv_if_ne (tgt := 166) hx hb dX8_widen_132 (by decide) (fun c32 => ?_) (fun c32 => ?_)
            · replace h := sx_ifn h c32
              exact hj166 x2 M H locs ls (lv_sub hl [1, 2, 3, 4] rfl) hP hS h
            · replace h := sx_ifp h c32
              refine lv_aload_n hx hb dX8_widen_135 rfl (lv_at hl 1 rfl) ?_
              refine gf_X8_41 X hP (by decide) dX8_widen_136 ?_
              refine lv_iload hx hb dX8_widen_139 (lv_at hl 0 rfl) ?_
              refine sx_iald X hP 28 0 24 (by decide) (fun _ _ => rfl) dX8_widen_141 h (fun v33 h => ?_)
              refine lv_bipush (v := (-9 : Int32)) hx hb dX8_widen_142 (by decide) ?_
              refine lv_icmp_ne (tgt := 166) hx hb dX8_widen_144 (by decide) (fun c34 => ?_) (fun c34 => ?_)
              · replace h := sx_ifn h c34
                exact hj166 x2 M H locs ls (lv_sub hl [1, 2, 3, 4] rfl) hP hS h
              · replace h := sx_ifp h c34
                refine lv_aload_n hx hb dX8_widen_147 rfl (lv_at hl 1 rfl) ?_
                refine gf_X8_41 X hP (by decide) dX8_widen_148 ?_
                refine lv_iload hx hb dX8_widen_151 (lv_at hl 0 rfl) ?_
                refine lv_iload_n hx hb dX8_widen_153 rfl (lv_at hl 4 rfl) ?_
                refine sx_iast X hG hP hS 28 0 24 (by decide) (fun _ _ => rfl) dX8_widen_154 h (fun M35 H locs h hP hS => ?_)
                refine lv_aload_n hx hb dX8_widen_155 rfl (lv_at hl 1 rfl) ?_
                refine gf_X8_44 X hP (by decide) dX8_widen_156 ?_
                refine lv_iload_n hx hb dX8_widen_159 rfl (lv_at hl 3 rfl) ?_
                refine lv_iload hx hb dX8_widen_160 (lv_at hl 0 rfl) ?_
                refine sx_iast X hG hP hS 29 0 24 (by decide) (fun _ _ => rfl) dX8_widen_162 h (fun M36 H locs h hP hS => ?_)
                obtain ⟨v37, e_v37, h⟩ := sx_nm h
                refine lv_iinc (v := v37) (lv' := [(2, .int v37), (4, .int v21), (0, .ref (sx_ad C 17 0)), (1, .int w1), (3, .int x3)]) hx hb dX8_widen_163 hl (k := 3) rfl (by rw [← e_v37]; rfl) (by decide) rfl (fun ls hl => ?_)
                exact hj166 v37 M36 H locs ls (lv_sub hl [2, 3, 0, 4] rfl) hP hS h
  have hf8_widen_L201 : ∀ (w1 : Int32) (w3 : Int32) (w4 : Int32) (k380 : (Int32 → sx_M → Option (Int32 × sx_M))) (n : Nat) (hk380 : (∀ (y2 : Int32) (M : sx_M) (H : Heap) (locs : List Loc) (ls : Array Slot), lv_has ls 8 [(0, .ref (sx_ad C 17 0)), (1, .int w1), (2, .int y2), (3, .int w3)] → sx_W C M H → va_S (sx_A C) s.heap H locs → k380 y2 M = some (r, M') → W p l e R s m args below meth c H locs 0 0 (sx_Z C (some (.int r)) M' below args s) (F0 m 380 ls []))) (x2 : Int32) (x5 : Int32) (M : sx_M) (H : Heap) (locs : List Loc) (ls : Array Slot), lv_has ls 8 [(0, .ref (sx_ad C 17 0)), (1, .int w1), (2, .int x2), (3, .int w3), (4, .int w4), (5, .int x5)] → sx_W C M H → va_S (sx_A C) s.heap H locs → f8_widen_L201 w1 w3 w4 k380 n x2 x5 M = some (r, M') → W p l e R s m args below meth c H locs 0 0 (sx_Z C (some (.int r)) M' below args s) (F0 m 201 ls []) := by
    intro w1 w3 w4 k380 n hk380
    induction n with
    | zero => intro x2 x5 M H locs ls hl hP hS h; exact absurd (show (none : Option (Int32 × sx_M)) = some (r, M') from h) (fun q => nomatch q)
    | succ n ih =>
      intro x2 x5 M H locs ls hl hP hS h
      rw [f8_widen_L201] at h
      refine lv_iload hx hb dX8_widen_201 (lv_at hl 5 rfl) ?_
      refine lv_aload_n hx hb dX8_widen_203 rfl (lv_at hl 0 rfl) ?_
      refine gf_X8_16 X hP (by decide) dX8_widen_204 ?_
      refine lv_iconst (v := (2 : Int32)) hx hb dX8_widen_207 (by decide) ?_
      refine sx_iald X hP 20 0 247 (by decide) (fun _ _ => rfl) dX8_widen_208 h (fun v44 h => ?_)
      refine lv_icmp_ge (tgt := 380) hx hb dX8_widen_209 (by decide) (fun c45 => ?_) (fun c45 => ?_)
      · replace h := sx_ifp h c45
        exact hk380 x2 M H locs ls (lv_sub hl [0, 1, 2, 3] rfl) hP hS h
      · replace h := sx_ifn h c45
        refine lv_aload_n hx hb dX8_widen_212 rfl (lv_at hl 0 rfl) ?_
        refine gf_X8_16 X hP (by decide) dX8_widen_213 ?_
        refine lv_iload hx hb dX8_widen_216 (lv_at hl 5 rfl) ?_
        refine lv_iconst (v := (0 : Int32)) hx hb dX8_widen_218 (by decide) ?_
        obtain ⟨v46, e_v46, h⟩ := sx_bnd h
        refine cl_X8_78 X hG hP hz hS  e_v46 hl.1 dX8_widen_219 hcs ⟨Nat.le_trans (by decide) hR.1, Nat.le_trans (by decide) hR.2⟩ (Nat.le_of_ble_eq_true rfl) (fun H locs hP hS => ?_)
        refine sx_iald X hP 20 0 247 (by decide) (fun _ _ => rfl) dX8_widen_222 h (fun v47 h => ?_)
        refine lv_istore (lv' := [(6, .int v47), (0, .ref (sx_ad C 17 0)), (1, .int w1), (2, .int x2), (3, .int w3), (4, .int w4), (5, .int x5)]) hx hb dX8_widen_223 hl (by decide) rfl (fun ls hl => ?_)
        refine lv_aload_n hx hb dX8_widen_225 rfl (lv_at hl 1 rfl) ?_
        refine gf_X8_16 X hP (by decide) dX8_widen_226 ?_
        refine lv_iload hx hb dX8_widen_229 (lv_at hl 6 rfl) ?_
        refine lv_iconst (v := (1 : Int32)) hx hb dX8_widen_231 (by decide) ?_
        obtain ⟨v48, e_v48, h⟩ := sx_bnd h
        refine cl_X8_78 X hG hP hz hS  e_v48 hl.1 dX8_widen_232 hcs ⟨Nat.le_trans (by decide) hR.1, Nat.le_trans (by decide) hR.2⟩ (Nat.le_of_ble_eq_true rfl) (fun H locs hP hS => ?_)
        refine sx_iald X hP 20 0 247 (by decide) (fun _ _ => rfl) dX8_widen_235 h (fun v49 h => ?_)
        refine lv_istore (lv' := [(7, .int v49), (6, .int v47), (0, .ref (sx_ad C 17 0)), (1, .int w1), (2, .int x2), (3, .int w3), (4, .int w4), (5, .int x5)]) hx hb dX8_widen_236 hl (by decide) rfl (fun ls hl => ?_)
        refine lv_aload_n hx hb dX8_widen_238 rfl (lv_at hl 2 rfl) ?_
        refine gf_X8_16 X hP (by decide) dX8_widen_239 ?_
        refine lv_iload hx hb dX8_widen_242 (lv_at hl 7 rfl) ?_
        refine lv_iconst (v := (2 : Int32)) hx hb dX8_widen_244 (by decide) ?_
        obtain ⟨v50, e_v50, h⟩ := sx_bnd h
        refine cl_X8_78 X hG hP hz hS  e_v50 hl.1 dX8_widen_245 hcs ⟨Nat.le_trans (by decide) hR.1, Nat.le_trans (by decide) hR.2⟩ (Nat.le_of_ble_eq_true rfl) (fun H locs hP hS => ?_)
        refine sx_iald X hP 20 0 247 (by decide) (fun _ _ => rfl) dX8_widen_248 h (fun v51 h => ?_)
        refine lv_iconst (v := (1 : Int32)) hx hb dX8_widen_249 (by decide) ?_
        obtain ⟨j302, e_j302, h⟩ := sx_nm h
        have hj302 : ∀ (v52 : Int32) (M53 : sx_M) (H : Heap) (locs : List Loc) (ls : Array Slot), lv_has ls 8 [(0, .ref (sx_ad C 17 0)), (1, .int w1), (2, .int v52), (3, .int w3), (4, .int w4), (5, .int x5), (6, .int v47), (7, .int v49)] → sx_W C M53 H → va_S (sx_A C) s.heap H locs → j302 v52 M53 = some (r, M') → W p l e R s m args below meth c H locs 0 0 (sx_Z C (some (.int r)) M' below args s) (F0 m 302 ls []) := by
          intro v52 M53 H locs ls hl hP hS h
          subst e_j302
          refine lv_aload_n hx hb dX8_widen_302 rfl (lv_at hl 0 rfl) ?_
          refine gf_X8_16 X hP (by decide) dX8_widen_303 ?_
          refine lv_iload hx hb dX8_widen_306 (lv_at hl 5 rfl) ?_
          refine lv_iconst (v := (2 : Int32)) hx hb dX8_widen_308 (by decide) ?_
          obtain ⟨v54, e_v54, h⟩ := sx_bnd h
          refine cl_X8_78 X hG hP hz hS  e_v54 hl.1 dX8_widen_309 hcs ⟨Nat.le_trans (by decide) hR.1, Nat.le_trans (by decide) hR.2⟩ (Nat.le_of_ble_eq_true rfl) (fun H locs hP hS => ?_)
          refine sx_iald X hP 20 0 247 (by decide) (fun _ _ => rfl) dX8_widen_312 h (fun v55 h => ?_)
          refine lv_iconst (v := (1 : Int32)) hx hb dX8_widen_313 (by decide) ?_
          obtain ⟨j374, e_j374, h⟩ := sx_nm h
          have hj374 : ∀ (v56 : Int32) (M57 : sx_M) (H : Heap) (locs : List Loc) (ls : Array Slot), lv_has ls 8 [(0, .ref (sx_ad C 17 0)), (1, .int w1), (2, .int v56), (3, .int w3), (4, .int w4), (5, .int x5)] → sx_W C M57 H → va_S (sx_A C) s.heap H locs → j374 v56 M57 = some (r, M') → W p l e R s m args below meth c H locs 0 0 (sx_Z C (some (.int r)) M' below args s) (F0 m 374 ls []) := by
            intro v56 M57 H locs ls hl hP hS h
            subst e_j374
            obtain ⟨v58, e_v58, h⟩ := sx_nm h
            refine lv_iinc (v := v58) (lv' := [(5, .int v58), (0, .ref (sx_ad C 17 0)), (1, .int w1), (2, .int v56), (3, .int w3), (4, .int w4)]) hx hb dX8_widen_374 hl (k := 5) rfl (by rw [← e_v58]; rfl) (by decide) rfl (fun ls hl => ?_)
            refine lv_goto (tgt := 201) hx hb dX8_widen_377 (by decide) ?_
            exact ih v56 v58 M57 H locs ls (lv_sub hl [1, 2, 3, 4, 5, 0] rfl) hP hS h
          clear e_j374
          refine lv_icmp_ne (tgt := 374) hx hb dX8_widen_314 (by decide) (fun c59 => ?_) (fun c59 => ?_)
          · replace h := sx_ifn h c59
            exact hj374 v52 M53 H locs ls (lv_sub hl [0, 1, 2, 3, 4, 5] rfl) hP hS h
          · replace h := sx_ifp h c59
            refine lv_iload hx hb dX8_widen_317 (lv_at hl 6 rfl) ?_
            refine lv_if_lt (tgt := 374) hx hb dX8_widen_319 (by decide) (fun c60 => ?_) (fun c60 => ?_)
            · replace h := sx_ifp h c60
              exact hj374 v52 M53 H locs ls (lv_sub hl [0, 1, 2, 3, 4, 5] rfl) hP hS h
            · replace h := sx_ifn h c60
              refine lv_iload hx hb dX8_widen_322 (lv_at hl 7 rfl) ?_
              refine lv_iload hx hb dX8_widen_324 (lv_at hl 4 rfl) ?_
              refine lv_icmp_ne (tgt := 374) hx hb dX8_widen_326 (by decide) (fun c61 => ?_) (fun c61 => ?_)
              · replace h := sx_ifn h c61
                exact hj374 v52 M53 H locs ls (lv_sub hl [0, 1, 2, 3, 4, 5] rfl) hP hS h
              · replace h := sx_ifp h c61
                refine lv_aload_n hx hb dX8_widen_329 rfl (lv_at hl 0 rfl) ?_
                refine gf_X8_38 X hP (by decide) dX8_widen_330 ?_
                refine lv_iload hx hb dX8_widen_333 (lv_at hl 5 rfl) ?_
                refine sx_zald X hP 27 0 40 (by decide) (fun _ _ => rfl) dX8_widen_335 h (fun v62 h => ?_)
                refine lv_if_eq (tgt := 374) hx hb dX8_widen_336 (by decide) (fun c63 => ?_) (fun c63 => ?_)
                · replace h := sx_ifp h c63
                  exact hj374 v52 M53 H locs ls (lv_sub hl [0, 1, 2, 3, 4, 5] rfl) hP hS h
                · replace h := sx_ifn h c63
                  refine lv_aload_n hx hb dX8_widen_339 rfl (lv_at hl 0 rfl) ?_
                  refine gf_X8_41 X hP (by decide) dX8_widen_340 ?_
                  refine lv_iload hx hb dX8_widen_343 (lv_at hl 6 rfl) ?_
                  refine sx_iald X hP 28 0 24 (by decide) (fun _ _ => rfl) dX8_widen_345 h (fun v64 h => ?_)
                  refine lv_bipush (v := (-9 : Int32)) hx hb dX8_widen_346 (by decide) ?_
                  refine lv_icmp_ne (tgt := 374) hx hb dX8_widen_348 (by decide) (fun c65 => ?_) (fun c65 => ?_)
                  · replace h := sx_ifn h c65
                    exact hj374 v52 M53 H locs ls (lv_sub hl [0, 1, 2, 3, 4, 5] rfl) hP hS h
                  · replace h := sx_ifp h c65
                    refine lv_aload_n hx hb dX8_widen_351 rfl (lv_at hl 0 rfl) ?_
                    refine gf_X8_41 X hP (by decide) dX8_widen_352 ?_
                    refine lv_iload hx hb dX8_widen_355 (lv_at hl 6 rfl) ?_
                    refine lv_bipush (v := (100 : Int32)) hx hb dX8_widen_357 (by decide) ?_
                    refine lv_iload hx hb dX8_widen_359 (lv_at hl 5 rfl) ?_
                    refine lv_iadd hx hb dX8_widen_361 ?_
                    refine sx_iast X hG hP hS 28 0 24 (by decide) (fun _ _ => rfl) dX8_widen_362 h (fun M66 H locs h hP hS => ?_)
                    refine lv_aload_n hx hb dX8_widen_363 rfl (lv_at hl 0 rfl) ?_
                    refine gf_X8_44 X hP (by decide) dX8_widen_364 ?_
                    refine lv_iload_n hx hb dX8_widen_367 rfl (lv_at hl 2 rfl) ?_
                    refine lv_iload hx hb dX8_widen_368 (lv_at hl 6 rfl) ?_
                    refine sx_iast X hG hP hS 29 0 24 (by decide) (fun _ _ => rfl) dX8_widen_370 h (fun M67 H locs h hP hS => ?_)
                    obtain ⟨v68, e_v68, h⟩ := sx_nm h
                    refine lv_iinc (v := v68) (lv' := [(2, .int v68), (0, .ref (sx_ad C 17 0)), (1, .int w1), (3, .int w3), (4, .int w4), (5, .int x5), (6, .int v47), (7, .int v49)]) hx hb dX8_widen_371 hl (k := 2) rfl (by rw [← e_v68]; rfl) (by decide) rfl (fun ls hl => ?_)
                    exact hj374 v68 M67 H locs ls (lv_sub hl [1, 2, 0, 3, 4, 5] rfl) hP hS h
        clear e_j302
        refine lv_icmp_ne (tgt := 302) hx hb dX8_widen_250 (by decide) (fun c69 => ?_) (fun c69 => ?_)
        · replace h := sx_ifn h c69
          exact hj302 x2 M H locs ls (lv_sub hl [2, 3, 4, 5, 6, 7, 1, 0] rfl) hP hS h
        · replace h := sx_ifp h c69
          refine lv_iload hx hb dX8_widen_253 (lv_at hl 1 rfl) ?_
          refine lv_iload hx hb dX8_widen_255 (lv_at hl 6 rfl) ?_
          refine lv_icmp_ne (tgt := 302) hx hb dX8_widen_257 (by decide) (fun c70 => ?_) (fun c70 => ?_)
          · replace h := sx_ifn h c70
            exact hj302 x2 M H locs ls (lv_sub hl [2, 3, 4, 5, 6, 7, 1, 0] rfl) hP hS h
          · replace h := sx_ifp h c70
            refine lv_aload_n hx hb dX8_widen_260 rfl (lv_at hl 2 rfl) ?_
            refine gf_X8_38 X hP (by decide) dX8_widen_261 ?_
            refine lv_iload hx hb dX8_widen_264 (lv_at hl 7 rfl) ?_
            refine sx_zald X hP 27 0 40 (by decide) (fun _ _ => rfl) dX8_widen_266 h (fun v71 h => ?_)
            refine lv_if_ne (tgt := 302) hx hb dX8_widen_267 (by decide) (fun c72 => ?_) (fun c72 => ?_)
            · replace h := sx_ifn h c72
              exact hj302 x2 M H locs ls (lv_sub hl [2, 3, 4, 5, 6, 7, 1, 0] rfl) hP hS h
            · replace h := sx_ifp h c72
              refine lv_aload_n hx hb dX8_widen_270 rfl (lv_at hl 2 rfl) ?_
              refine gf_X8_41 X hP (by decide) dX8_widen_271 ?_
              refine lv_iload hx hb dX8_widen_274 (lv_at hl 0 rfl) ?_
              refine sx_iald X hP 28 0 24 (by decide) (fun _ _ => rfl) dX8_widen_276 h (fun v73 h => ?_)
              refine lv_bipush (v := (-9 : Int32)) hx hb dX8_widen_277 (by decide) ?_
              refine lv_icmp_ne (tgt := 302) hx hb dX8_widen_279 (by decide) (fun c74 => ?_) (fun c74 => ?_)
              · replace h := sx_ifn h c74
                exact hj302 x2 M H locs ls (lv_sub hl [2, 3, 4, 5, 6, 7, 1, 0] rfl) hP hS h
              · replace h := sx_ifp h c74
                refine lv_aload_n hx hb dX8_widen_282 rfl (lv_at hl 2 rfl) ?_
                refine gf_X8_41 X hP (by decide) dX8_widen_283 ?_
                refine lv_iload hx hb dX8_widen_286 (lv_at hl 0 rfl) ?_
                refine lv_iload hx hb dX8_widen_288 (lv_at hl 7 rfl) ?_
                refine sx_iast X hG hP hS 28 0 24 (by decide) (fun _ _ => rfl) dX8_widen_290 h (fun M75 H locs h hP hS => ?_)
                refine lv_aload_n hx hb dX8_widen_291 rfl (lv_at hl 2 rfl) ?_
                refine gf_X8_44 X hP (by decide) dX8_widen_292 ?_
                refine lv_iload_n hx hb dX8_widen_295 rfl (lv_at hl 4 rfl) ?_
                refine lv_iload hx hb dX8_widen_296 (lv_at hl 0 rfl) ?_
                refine sx_iast X hG hP hS 29 0 24 (by decide) (fun _ _ => rfl) dX8_widen_298 h (fun M76 H locs h hP hS => ?_)
                obtain ⟨v77, e_v77, h⟩ := sx_nm h
                refine lv_iinc (v := v77) (lv' := [(2, .int v77), (7, .int v49), (6, .int v47), (0, .ref (sx_ad C 17 0)), (1, .int w1), (3, .int w3), (4, .int w4), (5, .int x5)]) hx hb dX8_widen_299 hl (k := 4) rfl (by rw [← e_v77]; rfl) (by decide) rfl (fun ls hl => ?_)
                exact hj302 v77 M76 H locs ls (lv_sub hl [3, 4, 0, 5, 6, 7, 2, 1] rfl) hP hS h
  have hf8_widen_L174 : ∀ (w1 : Int32) (k386 : (sx_M → Option (Int32 × sx_M))) (n : Nat) (hk386 : (∀ (M : sx_M) (H : Heap) (locs : List Loc) (ls : Array Slot), lv_has ls 8 [(0, .ref (sx_ad C 17 0)), (1, .int w1)] → sx_W C M H → va_S (sx_A C) s.heap H locs → k386 M = some (r, M') → W p l e R s m args below meth c H locs 0 0 (sx_Z C (some (.int r)) M' below args s) (F0 m 386 ls []))) (x2 : Int32) (x3 : Int32) (M : sx_M) (H : Heap) (locs : List Loc) (ls : Array Slot), lv_has ls 8 [(0, .ref (sx_ad C 17 0)), (1, .int w1), (2, .int x2), (3, .int x3)] → sx_W C M H → va_S (sx_A C) s.heap H locs → f8_widen_L174 w1 k386 n x2 x3 M = some (r, M') → W p l e R s m args below meth c H locs 0 0 (sx_Z C (some (.int r)) M' below args s) (F0 m 174 ls []) := by
    intro w1 k386 n hk386
    induction n with
    | zero => intro x2 x3 M H locs ls hl hP hS h; exact absurd (show (none : Option (Int32 × sx_M)) = some (r, M') from h) (fun q => nomatch q)
    | succ n ih =>
      intro x2 x3 M H locs ls hl hP hS h
      rw [f8_widen_L174] at h
      refine lv_iload_n hx hb dX8_widen_174 rfl (lv_at hl 3 rfl) ?_
      refine lv_iload_n hx hb dX8_widen_175 rfl (lv_at hl 2 rfl) ?_
      refine lv_icmp_ge (tgt := 386) hx hb dX8_widen_176 (by decide) (fun c40 => ?_) (fun c40 => ?_)
      · replace h := sx_ifp h c40
        exact hk386 M H locs ls (lv_sub hl [0, 1] rfl) hP hS h
      · replace h := sx_ifn h c40
        refine lv_aload_n hx hb dX8_widen_179 rfl (lv_at hl 0 rfl) ?_
        refine gf_X8_41 X hP (by decide) dX8_widen_180 ?_
        refine lv_iload_n hx hb dX8_widen_183 rfl (lv_at hl 1 rfl) ?_
        refine sx_iald X hP 28 0 24 (by decide) (fun _ _ => rfl) dX8_widen_184 h (fun v41 h => ?_)
        refine lv_bipush (v := (-9 : Int32)) hx hb dX8_widen_185 (by decide) ?_
        refine lv_icmp_ne (tgt := 386) hx hb dX8_widen_187 (by decide) (fun c42 => ?_) (fun c42 => ?_)
        · replace h := sx_ifn h c42
          exact hk386 M H locs ls (lv_sub hl [0, 1] rfl) hP hS h
        · replace h := sx_ifp h c42
          refine lv_aload_n hx hb dX8_widen_190 rfl (lv_at hl 0 rfl) ?_
          refine gf_X8_44 X hP (by decide) dX8_widen_191 ?_
          refine lv_iload_n hx hb dX8_widen_194 rfl (lv_at hl 3 rfl) ?_
          refine sx_iald X hP 29 0 24 (by decide) (fun _ _ => rfl) dX8_widen_195 h (fun v43 h => ?_)
          refine lv_istore (lv' := [(4, .int v43), (0, .ref (sx_ad C 17 0)), (1, .int w1), (2, .int x2), (3, .int x3)]) hx hb dX8_widen_196 hl (by decide) rfl (fun ls hl => ?_)
          refine lv_iconst (v := (0 : Int32)) hx hb dX8_widen_198 (by decide) ?_
          refine lv_istore (lv' := [(5, .int (0 : Int32)), (4, .int v43), (0, .ref (sx_ad C 17 0)), (1, .int w1), (2, .int x2), (3, .int x3)]) hx hb dX8_widen_199 hl (by decide) rfl (fun ls hl => ?_)
          refine hf8_widen_L201 w1 x3 v43 _ 5000 ?_ x2 (0 : Int32) M H locs ls (lv_sub hl [2, 3, 4, 5, 1, 0] rfl) hP hS h
          · intro v78 M79 H locs ls hl hP hS h
            obtain ⟨v80, e_v80, h⟩ := sx_nm h
            refine lv_iinc (v := v80) (lv' := [(3, .int v80), (0, .ref (sx_ad C 17 0)), (1, .int w1), (2, .int v78)]) hx hb dX8_widen_380 hl (k := 3) rfl (by rw [← e_v80]; rfl) (by decide) rfl (fun ls hl => ?_)
            refine lv_goto (tgt := 174) hx hb dX8_widen_383 (by decide) ?_
            exact ih v78 v80 M79 H locs ls (lv_sub hl [1, 2, 3, 0] rfl) hP hS h
  have hf8_widen_L401 : ∀ (k486 : (sx_M → Option (Int32 × sx_M))) (n : Nat) (hk486 : (∀ (M : sx_M) (H : Heap) (locs : List Loc) (ls : Array Slot), lv_has ls 8 [] → sx_W C M H → va_S (sx_A C) s.heap H locs → k486 M = some (r, M') → W p l e R s m args below meth c H locs 0 0 (sx_Z C (some (.int r)) M' below args s) (F0 m 486 ls []))) (x3 : Int32) (M : sx_M) (H : Heap) (locs : List Loc) (ls : Array Slot), lv_has ls 8 [(0, .ref (sx_ad C 17 0)), (3, .int x3)] → sx_W C M H → va_S (sx_A C) s.heap H locs → f8_widen_L401 k486 n x3 M = some (r, M') → W p l e R s m args below meth c H locs 0 0 (sx_Z C (some (.int r)) M' below args s) (F0 m 401 ls []) := by
    intro k486 n hk486
    induction n with
    | zero => intro x3 M H locs ls hl hP hS h; exact absurd (show (none : Option (Int32 × sx_M)) = some (r, M') from h) (fun q => nomatch q)
    | succ n ih =>
      intro x3 M H locs ls hl hP hS h
      rw [f8_widen_L401] at h
      refine lv_iload_n hx hb dX8_widen_401 rfl (lv_at hl 1 rfl) ?_
      refine lv_if_lt (tgt := 486) hx hb dX8_widen_402 (by decide) (fun c84 => ?_) (fun c84 => ?_)
      · replace h := sx_ifp h c84
        exact hk486 M H locs ls (lv_sub hl [] rfl) hP hS h
      · replace h := sx_ifn h c84
        refine lv_aload_n hx hb dX8_widen_405 rfl (lv_at hl 0 rfl) ?_
        refine gf_X8_41 X hP (by decide) dX8_widen_406 ?_
        refine lv_iload_n hx hb dX8_widen_409 rfl (lv_at hl 1 rfl) ?_
        refine sx_iald X hP 28 0 24 (by decide) (fun _ _ => rfl) dX8_widen_410 h (fun v85 h => ?_)
        refine lv_bipush (v := (40 : Int32)) hx hb dX8_widen_411 (by decide) ?_
        refine lv_icmp_eq (tgt := 486) hx hb dX8_widen_413 (by decide) (fun c86 => ?_) (fun c86 => ?_)
        · replace h := sx_ifp h c86
          exact hk486 M H locs ls (lv_sub hl [] rfl) hP hS h
        · replace h := sx_ifn h c86
          refine lv_aload_n hx hb dX8_widen_416 rfl (lv_at hl 0 rfl) ?_
          refine gf_X8_41 X hP (by decide) dX8_widen_417 ?_
          refine lv_iload_n hx hb dX8_widen_420 rfl (lv_at hl 1 rfl) ?_
          refine sx_iald X hP 28 0 24 (by decide) (fun _ _ => rfl) dX8_widen_421 h (fun v87 h => ?_)
          refine lv_bipush (v := (100 : Int32)) hx hb dX8_widen_422 (by decide) ?_
          refine lv_irem hx hb dX8_widen_424 (by decide) ?_
          obtain ⟨v88, e_v88, h⟩ := sx_nm h
          rw [e_v88]
          refine lv_istore (lv' := [(4, .int v88), (0, .ref (sx_ad C 17 0)), (3, .int x3)]) hx hb dX8_widen_425 hl (by decide) rfl (fun ls hl => ?_)
          refine lv_aload_n hx hb dX8_widen_427 rfl (lv_at hl 1 rfl) ?_
          refine gf_X8_41 X hP (by decide) dX8_widen_428 ?_
          refine lv_iload_n hx hb dX8_widen_431 rfl (lv_at hl 2 rfl) ?_
          refine sx_iald X hP 28 0 24 (by decide) (fun _ _ => rfl) dX8_widen_432 h (fun v89 h => ?_)
          refine lv_bipush (v := (100 : Int32)) hx hb dX8_widen_433 (by decide) ?_
          obtain ⟨j443, e_j443, h⟩ := sx_nm h
          have hj443 : ∀ (v90 : Int32) (H : Heap) (locs : List Loc) (ls : Array Slot), lv_has ls 8 [(0, .ref (sx_ad C 17 0)), (4, .int v88)] → sx_W C M H → va_S (sx_A C) s.heap H locs → j443 v90 = some (r, M') → W p l e R s m args below meth c H locs 0 0 (sx_Z C (some (.int r)) M' below args s) (F0 m 443 ls [.int v90]) := by
            intro v90 H locs ls hl hP hS h
            subst e_j443
            refine lv_istore (lv' := [(5, .int v90), (0, .ref (sx_ad C 17 0)), (4, .int v88)]) hx hb dX8_widen_443 hl (by decide) rfl (fun ls hl => ?_)
            refine lv_aload_n hx hb dX8_widen_445 rfl (lv_at hl 1 rfl) ?_
            refine gf_X8_38 X hP (by decide) dX8_widen_446 ?_
            refine lv_iload hx hb dX8_widen_449 (lv_at hl 2 rfl) ?_
            refine lv_iload hx hb dX8_widen_451 (lv_at hl 0 rfl) ?_
            obtain ⟨j461, e_j461, h⟩ := sx_nm h
            have hj461 : ∀ (v91 : Int32) (H : Heap) (locs : List Loc) (ls : Array Slot), lv_has ls 8 [(0, .ref (sx_ad C 17 0)), (4, .int v88), (5, .int v90)] → sx_W C M H → va_S (sx_A C) s.heap H locs → j461 v91 = some (r, M') → W p l e R s m args below meth c H locs 0 0 (sx_Z C (some (.int r)) M' below args s) (F0 m 461 ls [.int v91, .int v88, .ref (sx_ad C 27 0)]) := by
              intro v91 H locs ls hl hP hS h
              subst e_j461
              refine sx_zast X hG hP hS 27 0 40 (by decide) (fun _ _ => rfl) dX8_widen_461 h (fun M92 H locs h hP hS => ?_)
              refine lv_aload_n hx hb dX8_widen_462 rfl (lv_at hl 0 rfl) ?_
              refine gf_X8_16 X hP (by decide) dX8_widen_463 ?_
              refine lv_iload hx hb dX8_widen_466 (lv_at hl 1 rfl) ?_
              refine lv_iload hx hb dX8_widen_468 (lv_at hl 2 rfl) ?_
              obtain ⟨j478, e_j478, h⟩ := sx_nm h
              have hj478 : ∀ (v93 : Int32) (H : Heap) (locs : List Loc) (ls : Array Slot), lv_has ls 8 [(0, .ref (sx_ad C 17 0))] → sx_W C M92 H → va_S (sx_A C) s.heap H locs → j478 v93 = some (r, M') → W p l e R s m args below meth c H locs 0 0 (sx_Z C (some (.int r)) M' below args s) (F0 m 478 ls [.int v93, .int v88, .ref (sx_ad C 20 0)]) := by
                intro v93 H locs ls hl hP hS h
                subst e_j478
                obtain ⟨v94, e_v94, h⟩ := sx_bnd h
                refine cl_X8_78 X hG hP hz hS  e_v94 hl.1 dX8_widen_478 hcs ⟨Nat.le_trans (by decide) hR.1, Nat.le_trans (by decide) hR.2⟩ (Nat.le_of_ble_eq_true rfl) (fun H locs hP hS => ?_)
                refine sx_iald X hP 20 0 247 (by decide) (fun _ _ => rfl) dX8_widen_481 h (fun v95 h => ?_)
                refine lv_istore_n (lv' := [(3, .int v95), (0, .ref (sx_ad C 17 0))]) hx hb dX8_widen_482 rfl hl (by decide) rfl (fun ls hl => ?_)
                refine lv_goto (tgt := 401) hx hb dX8_widen_483 (by decide) ?_
                exact ih v95 M92 H locs ls (lv_sub hl [1, 0] rfl) hP hS h
              clear e_j478
              refine lv_if_eq (tgt := 477) hx hb dX8_widen_470 (by decide) (fun c96 => ?_) (fun c96 => ?_)
              · replace h := sx_ifp h c96
                refine lv_iconst (v := (0 : Int32)) hx hb dX8_widen_477 (by decide) ?_
                exact hj478 (0 : Int32) H locs ls (lv_sub hl [0] rfl) hP hS h
              · replace h := sx_ifn h c96
                refine lv_iconst (v := (1 : Int32)) hx hb dX8_widen_473 (by decide) ?_
                refine lv_goto (tgt := 478) hx hb dX8_widen_474 (by decide) ?_
                exact hj478 (1 : Int32) H locs ls (lv_sub hl [0] rfl) hP hS h
            clear e_j461
            refine lv_if_ne (tgt := 460) hx hb dX8_widen_453 (by decide) (fun c97 => ?_) (fun c97 => ?_)
            · replace h := sx_ifn h c97
              refine lv_iconst (v := (0 : Int32)) hx hb dX8_widen_460 (by decide) ?_
              exact hj461 (0 : Int32) H locs ls (lv_sub hl [1, 2, 0] rfl) hP hS h
            · replace h := sx_ifp h c97
              refine lv_iconst (v := (1 : Int32)) hx hb dX8_widen_456 (by decide) ?_
              refine lv_goto (tgt := 461) hx hb dX8_widen_457 (by decide) ?_
              exact hj461 (1 : Int32) H locs ls (lv_sub hl [1, 2, 0] rfl) hP hS h
          clear e_j443
          refine lv_icmp_lt (tgt := 442) hx hb dX8_widen_435 (by decide) (fun c98 => ?_) (fun c98 => ?_)
          · replace h := sx_ifp h c98
            refine lv_iconst (v := (0 : Int32)) hx hb dX8_widen_442 (by decide) ?_
            exact hj443 (0 : Int32) H locs ls (lv_sub hl [1, 0] rfl) hP hS h
          · replace h := sx_ifn h c98
            refine lv_iconst (v := (1 : Int32)) hx hb dX8_widen_438 (by decide) ?_
            refine lv_goto (tgt := 443) hx hb dX8_widen_439 (by decide) ?_
            exact hj443 (1 : Int32) H locs ls (lv_sub hl [1, 0] rfl) hP hS h
  refine lv_iconst (v := (0 : Int32)) hx hb dX8_widen_0 (by decide) ?_
  refine lv_istore_n (lv' := [(2, .int (0 : Int32)), (0, .ref (sx_ad C 17 0)), (1, .int a1)]) hx hb dX8_widen_1 rfl hl (by decide) rfl (fun ls hl => ?_)
  refine lv_iconst (v := (0 : Int32)) hx hb dX8_widen_2 (by decide) ?_
  refine lv_istore_n (lv' := [(3, .int (0 : Int32)), (2, .int (0 : Int32)), (0, .ref (sx_ad C 17 0)), (1, .int a1)]) hx hb dX8_widen_3 rfl hl (by decide) rfl (fun ls hl => ?_)
  refine hf8_widen_L4 a1 _ 5000 ?_ (0 : Int32) (0 : Int32) M0 H locs ls (lv_sub hl [2, 3, 1, 0] rfl) hP hS h
  · intro v16 M17 H locs ls hl hP hS h
    refine lv_iconst (v := (0 : Int32)) hx hb dX8_widen_75 (by decide) ?_
    refine lv_istore_n (lv' := [(3, .int (0 : Int32)), (0, .ref (sx_ad C 17 0)), (1, .int a1), (2, .int v16)]) hx hb dX8_widen_76 rfl hl (by decide) rfl (fun ls hl => ?_)
    refine hf8_widen_L77 a1 _ 5000 ?_ v16 (0 : Int32) M17 H locs ls (lv_sub hl [1, 2, 3, 0] rfl) hP hS h
    · intro v38 M39 H locs ls hl hP hS h
      refine lv_iconst (v := (0 : Int32)) hx hb dX8_widen_172 (by decide) ?_
      refine lv_istore_n (lv' := [(3, .int (0 : Int32)), (0, .ref (sx_ad C 17 0)), (1, .int a1), (2, .int v38)]) hx hb dX8_widen_173 rfl hl (by decide) rfl (fun ls hl => ?_)
      refine hf8_widen_L174 a1 _ 5000 ?_ v38 (0 : Int32) M39 H locs ls (lv_sub hl [1, 2, 3, 0] rfl) hP hS h
      · intro M81 H locs ls hl hP hS h
        refine lv_aload_n hx hb dX8_widen_386 rfl (lv_at hl 0 rfl) ?_
        refine gf_X8_41 X hP (by decide) dX8_widen_387 ?_
        refine lv_iload_n hx hb dX8_widen_390 rfl (lv_at hl 1 rfl) ?_
        refine sx_iald X hP 28 0 24 (by decide) (fun _ _ => rfl) dX8_widen_391 h (fun v82 h => ?_)
        refine lv_bipush (v := (-9 : Int32)) hx hb dX8_widen_392 (by decide) ?_
        refine lv_icmp_ne (tgt := 399) hx hb dX8_widen_394 (by decide) (fun c83 => ?_) (fun c83 => ?_)
        · replace h := sx_ifn h c83
          refine lv_iload_n hx hb dX8_widen_399 rfl (lv_at hl 1 rfl) ?_
          refine lv_istore_n (lv' := [(3, .int a1), (0, .ref (sx_ad C 17 0)), (1, .int a1)]) hx hb dX8_widen_400 rfl hl (by decide) rfl (fun ls hl => ?_)
          refine hf8_widen_L401 _ 5000 ?_ a1 M81 H locs ls (lv_sub hl [1, 0] rfl) hP hS h
          · intro M99 H locs ls hl hP hS h
            refine lv_iconst (v := (1 : Int32)) hx hb dX8_widen_486 (by decide) ?_
            exact sx_zretM X hr hlocks hS hP (by decide) h dX8_widen_487
        · replace h := sx_ifp h c83
          refine lv_iconst (v := (0 : Int32)) hx hb dX8_widen_397 (by decide) ?_
          exact sx_zretM X hr hlocks hS hP (by decide) h dX8_widen_398
set_option maxRecDepth 100000 in
theorem ct_8_widen (l : Launch) (C : sx_C) (hG : sx_G C) (a1 : Int32) (M0 : sx_M) (r : Int32) (M' : sx_M) (h : f8_widen a1 M0 = some (r, M')) : Met l yX8_widen (.code yX8_widen cX8_widen 8 (some .boolean) :: sx_T) ({ frames := 2, cells := 0, slots := 0, locals := 46 } : Room) (sx_Pc C M0 [.ref (sx_ad C 17 0), .int a1]) (sx_Q C (some (.int r)) M') 0 0 (sx_A C) := by
  refine Met.ofW (cc := cX8_widen) (maxL := 8) (ret := (some .boolean)) (by decide) rfl ?_
  intro p e s m args below meth c s₁ B hml hv
  obtain ⟨rfl, hz, hP, hK⟩ := hv
  have hl := lv_entry ([.ref (sx_ad C 17 0), .int a1]) (n := 8) (Nat.le_of_ble_eq_true rfl)
  rw [lg_entry_eq]
  generalize (lg_sl ([.ref (sx_ad C 17 0), .int a1]) ++ List.replicate (8 - (lg_sl ([.ref (sx_ad C 17 0), .int a1])).length) Slot.unset).toArray = ls at hl ⊢
  exact wk_8_widen ⟨B.exec, B.bytes, hml, findClass_of_methodNamed B.named, fun w hw => atoms_spec B.pre w (List.mem_cons_of_mem _ hw), hK⟩ B.returns B.notSynchronized hG hz ⟨Nat.zero_le _, Nat.zero_le _⟩ ⟨Nat.le_refl _, Nat.le_refl _⟩ a1 M0 r M' h hl hP va_S.rf
theorem cl_X8_233 (X : sx_X C p m c cc nL s args RX8) (hG : sx_G C) (hP : sx_W C M0 H) (hz : sx_sz C ≤ H0.size) (hS : va_S (sx_A C) H0 H locs) {a1 : Int32} {r : Int32} {M' : sx_M} (h : f8_widen a1 M0 = some (r, M')) (hsz : ls.size = nL) (hdg : decode cc pc = .ok (.invokevirtual 233, 3)) (hcs : cells ≤ R.cells ∧ slots ≤ R.slots) (hR : 2 + 1 ≤ R.frames ∧ 8 + (8 + 11) + 46 ≤ R.locals) (hrest : (rest.map fun v => v.category).sum ≤ 8) (kk : ∀ (H1 : Heap) (locs1 : List Loc), sx_W C M' H1 → va_S (sx_A C) H0 H1 locs1 → W p l e R s m args below meth c H1 locs1 cells slots Q (F0 m (pc + 3) ls ((.int r) :: rest))) : W p l e R s m args below meth c H locs cells slots Q (F0 m pc ls (.int a1 :: .ref (sx_ad C 17 0) :: rest)) :=
  sx_callV (n := 1) (As := [.int a1]) (k0 := 17) (s0 := 0) X hP hz hS (by decide) rfl rfl (sx_goodV tw_1270 tw_1272 tw_49 tw_71 tw_1273) (by decide +kernel) rfl rfl hR (ct_8_widen l C hG a1 M0 r M' h) rfl rfl hrest hsz hdg hcs kk
-- StringShedModel.cuts(I)I
def f8_cuts_L44 (w1 : Int32) (k63 : (sx_M → Option (Int32 × sx_M))) : Nat → Int32 → sx_M → Option (Int32 × sx_M)
  | 0, _, _ => none
  | n + 1, x2, M =>
    if (40 : Int32) ≤ x2 then
      k63 M
    else
      if sx_in x2 40 ∧ ((0 : Int32) = 0 ∨ (0 : Int32) = 1) then
      sx_bd (sx_set M 27 0 (x2).toNatClampNeg (0 : Int32)) fun M10 =>
      sx_bd (x2 + (1 : Int32)) fun v11 =>
      f8_cuts_L44 w1 k63 n v11 M10
      else none
def f8_cuts_L65 (w1 : Int32) : Nat → Int32 → sx_M → Option (Int32 × sx_M)
  | 0, _, _ => none
  | n + 1, x2, M =>
    sx_b2 (f8_widen w1 M) fun v13 M14 =>
    if v13 = 0 then
      some (x2, M14)
    else
      sx_bd (x2 + (1 : Int32)) fun v16 =>
      f8_cuts_L65 w1 n v16 M14
def f8_cuts (a1 : Int32) (M0 : sx_M) : Option (Int32 × sx_M) :=
  (f8_isPart 20 a1 M0).bind fun v1 =>
  sx_bd (fun (v2 : Int32) =>
    sx_b2 (f8_refused v2 M0) fun v3 M4 =>
    if v3 = 0 then
      (f8_partAt a1 (2 : Int32) M4).bind fun v6 =>
      if sx_in v6 247 then
      sx_bd (M4.1 20 0 (v6).toNatClampNeg) fun v7 =>
      if v7 = (1 : Int32) then
        some ((-9 : Int32), M4)
      else
        f8_cuts_L44 a1
          (fun (M12 : sx_M) =>
            f8_cuts_L65 a1
              5000 (0 : Int32) M12)
          5000 (0 : Int32) M4
      else none
    else
      some ((0 : Int32), M4)) fun j17 =>
  if v1 = 0 then
    j17 (1 : Int32)
  else
    j17 (0 : Int32)
set_option maxRecDepth 100000 in
set_option maxHeartbeats 4000000 in
theorem wk_8_cuts (X : sx_X C p m c cX8_cuts 3 s args RX8) (hr : meth.sig.returnType = (some .int)) (hlocks : meth.locks = false) (hG : sx_G C) (hz : sx_sz C ≤ s.heap.size) (hcs : 0 ≤ R.cells ∧ 0 ≤ R.slots) (hR : 3 ≤ R.frames ∧ 73 ≤ R.locals) (a1 : Int32) (M0 : sx_M) (r : Int32) (M' : sx_M) (h : f8_cuts a1 M0 = some (r, M')) (hl : lv_has ls 3 [(0, .ref (sx_ad C 17 0)), (1, .int a1)]) (hP : sx_W C M0 H) (hS : va_S (sx_A C) s.heap H locs) : W p l e R s m args below meth c H locs 0 0 (sx_Z C (some (.int r)) M' below args s) (F0 m 0 ls []) := by
  obtain ⟨hx, hb, hml, hown, hts, hK⟩ := id X
  rw [f8_cuts] at h
  have hf8_cuts_L44 : ∀ (w1 : Int32) (k63 : (sx_M → Option (Int32 × sx_M))) (n : Nat) (hk63 : (∀ (M : sx_M) (H : Heap) (locs : List Loc) (ls : Array Slot), lv_has ls 3 [(0, .ref (sx_ad C 17 0)), (1, .int w1)] → sx_W C M H → va_S (sx_A C) s.heap H locs → k63 M = some (r, M') → W p l e R s m args below meth c H locs 0 0 (sx_Z C (some (.int r)) M' below args s) (F0 m 63 ls []))) (x2 : Int32) (M : sx_M) (H : Heap) (locs : List Loc) (ls : Array Slot), lv_has ls 3 [(0, .ref (sx_ad C 17 0)), (1, .int w1), (2, .int x2)] → sx_W C M H → va_S (sx_A C) s.heap H locs → f8_cuts_L44 w1 k63 n x2 M = some (r, M') → W p l e R s m args below meth c H locs 0 0 (sx_Z C (some (.int r)) M' below args s) (F0 m 44 ls []) := by
    intro w1 k63 n hk63
    induction n with
    | zero => intro x2 M H locs ls hl hP hS h; exact absurd (show (none : Option (Int32 × sx_M)) = some (r, M') from h) (fun q => nomatch q)
    | succ n ih =>
      intro x2 M H locs ls hl hP hS h
      rw [f8_cuts_L44] at h
      refine lv_iload_n hx hb dX8_cuts_44 rfl (lv_at hl 2 rfl) ?_
      refine lv_bipush (v := (40 : Int32)) hx hb dX8_cuts_45 (by decide) ?_
      refine lv_icmp_ge (tgt := 63) hx hb dX8_cuts_47 (by decide) (fun c9 => ?_) (fun c9 => ?_)
      · replace h := sx_ifp h c9
        exact hk63 M H locs ls (lv_sub hl [0, 1] rfl) hP hS h
      · replace h := sx_ifn h c9
        refine lv_aload_n hx hb dX8_cuts_50 rfl (lv_at hl 0 rfl) ?_
        refine gf_X8_38 X hP (by decide) dX8_cuts_51 ?_
        refine lv_iload_n hx hb dX8_cuts_54 rfl (lv_at hl 2 rfl) ?_
        refine lv_iconst (v := (0 : Int32)) hx hb dX8_cuts_55 (by decide) ?_
        refine sx_zast X hG hP hS 27 0 40 (by decide) (fun _ _ => rfl) dX8_cuts_56 h (fun M10 H locs h hP hS => ?_)
        obtain ⟨v11, e_v11, h⟩ := sx_nm h
        refine lv_iinc (v := v11) (lv' := [(2, .int v11), (0, .ref (sx_ad C 17 0)), (1, .int w1)]) hx hb dX8_cuts_57 hl (k := 2) rfl (by rw [← e_v11]; rfl) (by decide) rfl (fun ls hl => ?_)
        refine lv_goto (tgt := 44) hx hb dX8_cuts_60 (by decide) ?_
        exact ih v11 M10 H locs ls (lv_sub hl [1, 2, 0] rfl) hP hS h
  have hf8_cuts_L65 : ∀ (w1 : Int32) (n : Nat) (x2 : Int32) (M : sx_M) (H : Heap) (locs : List Loc) (ls : Array Slot), lv_has ls 3 [(0, .ref (sx_ad C 17 0)), (1, .int w1), (2, .int x2)] → sx_W C M H → va_S (sx_A C) s.heap H locs → f8_cuts_L65 w1 n x2 M = some (r, M') → W p l e R s m args below meth c H locs 0 0 (sx_Z C (some (.int r)) M' below args s) (F0 m 65 ls []) := by
    intro w1 n
    induction n with
    | zero => intro x2 M H locs ls hl hP hS h; exact absurd (show (none : Option (Int32 × sx_M)) = some (r, M') from h) (fun q => nomatch q)
    | succ n ih =>
      intro x2 M H locs ls hl hP hS h
      rw [f8_cuts_L65] at h
      refine lv_aload_n hx hb dX8_cuts_65 rfl (lv_at hl 0 rfl) ?_
      refine lv_iload_n hx hb dX8_cuts_66 rfl (lv_at hl 1 rfl) ?_
      obtain ⟨v13, M14, e_v13, h⟩ := sx_bnd2 h
      refine cl_X8_233 X hG hP hz hS  e_v13 hl.1 dX8_cuts_67 hcs ⟨Nat.le_trans (by decide) hR.1, Nat.le_trans (by decide) hR.2⟩ (Nat.le_of_ble_eq_true rfl) (fun H locs hP hS => ?_)
      refine lv_if_eq (tgt := 79) hx hb dX8_cuts_70 (by decide) (fun c15 => ?_) (fun c15 => ?_)
      · replace h := sx_ifp h c15
        refine lv_iload_n hx hb dX8_cuts_79 rfl (lv_at hl 2 rfl) ?_
        exact sx_iretM X hr hlocks hS hP h dX8_cuts_80
      · replace h := sx_ifn h c15
        obtain ⟨v16, e_v16, h⟩ := sx_nm h
        refine lv_iinc (v := v16) (lv' := [(2, .int v16), (0, .ref (sx_ad C 17 0)), (1, .int w1)]) hx hb dX8_cuts_73 hl (k := 2) rfl (by rw [← e_v16]; rfl) (by decide) rfl (fun ls hl => ?_)
        refine lv_goto (tgt := 65) hx hb dX8_cuts_76 (by decide) ?_
        exact ih v16 M14 H locs ls (lv_sub hl [1, 2, 0] rfl) hP hS h
  refine lv_aload_n hx hb dX8_cuts_0 rfl (lv_at hl 0 rfl) ?_
  refine lv_aload_n hx hb dX8_cuts_1 rfl (lv_at hl 0 rfl) ?_
  refine gf_X8_16 X hP (by decide) dX8_cuts_2 ?_
  refine lv_iload_n hx hb dX8_cuts_5 rfl (lv_at hl 1 rfl) ?_
  obtain ⟨v1, e_v1, h⟩ := sx_bnd h
  refine cl_X8_74 X hG hP hz hS sx_row20 e_v1 hl.1 dX8_cuts_6 hcs ⟨Nat.le_trans (by decide) hR.1, Nat.le_trans (by decide) hR.2⟩ (Nat.le_of_ble_eq_true rfl) (fun H locs hP hS => ?_)
  obtain ⟨j17, e_j17, h⟩ := sx_nm h
  have hj17 : ∀ (v2 : Int32) (H : Heap) (locs : List Loc) (ls : Array Slot), lv_has ls 3 [(0, .ref (sx_ad C 17 0)), (1, .int a1)] → sx_W C M0 H → va_S (sx_A C) s.heap H locs → j17 v2 = some (r, M') → W p l e R s m args below meth c H locs 0 0 (sx_Z C (some (.int r)) M' below args s) (F0 m 17 ls [.int v2, .ref (sx_ad C 17 0)]) := by
    intro v2 H locs ls hl hP hS h
    subst e_j17
    obtain ⟨v3, M4, e_v3, h⟩ := sx_bnd2 h
    refine cl_X8_111 X hG hP hz hS  e_v3 hl.1 dX8_cuts_17 hcs ⟨Nat.le_trans (by decide) hR.1, Nat.le_trans (by decide) hR.2⟩ (Nat.le_of_ble_eq_true rfl) (fun H locs hP hS => ?_)
    refine lv_if_eq (tgt := 25) hx hb dX8_cuts_20 (by decide) (fun c5 => ?_) (fun c5 => ?_)
    · replace h := sx_ifp h c5
      refine lv_aload_n hx hb dX8_cuts_25 rfl (lv_at hl 0 rfl) ?_
      refine gf_X8_16 X hP (by decide) dX8_cuts_26 ?_
      refine lv_iload_n hx hb dX8_cuts_29 rfl (lv_at hl 1 rfl) ?_
      refine lv_iconst (v := (2 : Int32)) hx hb dX8_cuts_30 (by decide) ?_
      obtain ⟨v6, e_v6, h⟩ := sx_bnd h
      refine cl_X8_66 X hG hP hz hS  e_v6 hl.1 dX8_cuts_31 hcs ⟨Nat.le_trans (by decide) hR.1, Nat.le_trans (by decide) hR.2⟩ (Nat.le_of_ble_eq_true rfl) (fun H locs hP hS => ?_)
      refine sx_iald X hP 20 0 247 (by decide) (fun _ _ => rfl) dX8_cuts_34 h (fun v7 h => ?_)
      refine lv_iconst (v := (1 : Int32)) hx hb dX8_cuts_35 (by decide) ?_
      refine lv_icmp_ne (tgt := 42) hx hb dX8_cuts_36 (by decide) (fun c8 => ?_) (fun c8 => ?_)
      · replace h := sx_ifn h c8
        refine lv_iconst (v := (0 : Int32)) hx hb dX8_cuts_42 (by decide) ?_
        refine lv_istore_n (lv' := [(2, .int (0 : Int32)), (0, .ref (sx_ad C 17 0)), (1, .int a1)]) hx hb dX8_cuts_43 rfl hl (by decide) rfl (fun ls hl => ?_)
        refine hf8_cuts_L44 a1 _ 5000 ?_ (0 : Int32) M4 H locs ls (lv_sub hl [1, 2, 0] rfl) hP hS h
        · intro M12 H locs ls hl hP hS h
          refine lv_iconst (v := (0 : Int32)) hx hb dX8_cuts_63 (by decide) ?_
          refine lv_istore_n (lv' := [(2, .int (0 : Int32)), (0, .ref (sx_ad C 17 0)), (1, .int a1)]) hx hb dX8_cuts_64 rfl hl (by decide) rfl (fun ls hl => ?_)
          exact hf8_cuts_L65 a1 5000 (0 : Int32) M12 H locs ls (lv_sub hl [1, 2, 0] rfl) hP hS h
      · replace h := sx_ifp h c8
        refine lv_bipush (v := (-9 : Int32)) hx hb dX8_cuts_39 (by decide) ?_
        exact sx_iretM X hr hlocks hS hP h dX8_cuts_41
    · replace h := sx_ifn h c5
      refine lv_iconst (v := (0 : Int32)) hx hb dX8_cuts_23 (by decide) ?_
      exact sx_iretM X hr hlocks hS hP h dX8_cuts_24
  clear e_j17
  refine lv_if_eq (tgt := 16) hx hb dX8_cuts_9 (by decide) (fun c17 => ?_) (fun c17 => ?_)
  · replace h := sx_ifp h c17
    refine lv_iconst (v := (1 : Int32)) hx hb dX8_cuts_16 (by decide) ?_
    exact hj17 (1 : Int32) H locs ls (lv_sub hl [0, 1] rfl) hP hS h
  · replace h := sx_ifn h c17
    refine lv_iconst (v := (0 : Int32)) hx hb dX8_cuts_12 (by decide) ?_
    refine lv_goto (tgt := 17) hx hb dX8_cuts_13 (by decide) ?_
    exact hj17 (0 : Int32) H locs ls (lv_sub hl [0, 1] rfl) hP hS h
set_option maxRecDepth 100000 in
theorem ct_8_cuts (l : Launch) (C : sx_C) (hG : sx_G C) (a1 : Int32) (M0 : sx_M) (r : Int32) (M' : sx_M) (h : f8_cuts a1 M0 = some (r, M')) : Met l yX8_cuts (.code yX8_cuts cX8_cuts 3 (some .int) :: sx_T) ({ frames := 3, cells := 0, slots := 0, locals := 73 } : Room) (sx_Pc C M0 [.ref (sx_ad C 17 0), .int a1]) (sx_Q C (some (.int r)) M') 0 0 (sx_A C) := by
  refine Met.ofW (cc := cX8_cuts) (maxL := 3) (ret := (some .int)) (by decide) rfl ?_
  intro p e s m args below meth c s₁ B hml hv
  obtain ⟨rfl, hz, hP, hK⟩ := hv
  have hl := lv_entry ([.ref (sx_ad C 17 0), .int a1]) (n := 3) (Nat.le_of_ble_eq_true rfl)
  rw [lg_entry_eq]
  generalize (lg_sl ([.ref (sx_ad C 17 0), .int a1]) ++ List.replicate (3 - (lg_sl ([.ref (sx_ad C 17 0), .int a1])).length) Slot.unset).toArray = ls at hl ⊢
  exact wk_8_cuts ⟨B.exec, B.bytes, hml, findClass_of_methodNamed B.named, fun w hw => atoms_spec B.pre w (List.mem_cons_of_mem _ hw), hK⟩ B.returns B.notSynchronized hG hz ⟨Nat.zero_le _, Nat.zero_le _⟩ ⟨Nat.le_refl _, Nat.le_refl _⟩ a1 M0 r M' h hl hP va_S.rf
theorem cl_L_160 (X : sx_X C p m c cc nL s args RL) (hG : sx_G C) (hP : sx_W C M0 H) (hz : sx_sz C ≤ H0.size) (hS : va_S (sx_A C) H0 H locs) {a1 : Int32} {r : Int32} {M' : sx_M} (h : f8_cuts a1 M0 = some (r, M')) (hsz : ls.size = nL) (hdg : decode cc pc = .ok (.invokevirtual 160, 3)) (hcs : cells ≤ R.cells ∧ slots ≤ R.slots) (hR : 3 + 1 ≤ R.frames ∧ 8 + (3 + 11) + 73 ≤ R.locals) (hrest : (rest.map fun v => v.category).sum ≤ 8) (kk : ∀ (H1 : Heap) (locs1 : List Loc), sx_W C M' H1 → va_S (sx_A C) H0 H1 locs1 → W p l e R s m args below meth c H1 locs1 cells slots Q (F0 m (pc + 3) ls ((.int r) :: rest))) : W p l e R s m args below meth c H locs cells slots Q (F0 m pc ls (.int a1 :: .ref (sx_ad C 17 0) :: rest)) :=
  sx_callV (n := 1) (As := [.int a1]) (k0 := 17) (s0 := 0) X hP hz hS (by decide) rfl rfl (sx_goodV tw_1266 tw_1267 tw_1268 tw_71 tw_1269) (by decide +kernel) rfl rfl hR (ct_8_cuts l C hG a1 M0 r M' h) rfl rfl hrest hsz hdg hcs kk
-- StringShedModel.heaviest()I
def f8_heaviest_L12  : Nat → Int32 → Int32 → Int32 → sx_M → Option (Int32 × sx_M)
  | 0, _, _, _, _ => none
  | n + 1, x1, x2, x3, M =>
    if sx_in (2 : Int32) 247 then
    sx_bd (M.1 20 0 ((2 : Int32)).toNatClampNeg) fun v2 =>
    if v2 ≤ x3 then
      sx_bd (fun (v4 : Int32) =>
        some (v4, M)) fun j76 =>
      if x1 = (-9 : Int32) then
        j76 (-9 : Int32)
      else
        (f8_tells x1 M).bind fun v6 =>
        j76 v6
    else
      sx_b2 (f8_fallsBy x3 M) fun v7 M8 =>
      sx_bd (fun (v9 : Int32) =>
        sx_bd (fun (v10 : Int32) =>
          sx_bd (x3 + (1 : Int32)) fun v11 =>
          f8_heaviest_L12 n v9 v10 v11 M8) fun j53 =>
        if v7 ≤ x2 then
          j53 x2
        else
          j53 v7) fun j40 =>
      if v7 ≤ x2 then
        j40 x1
      else
        j40 x3
    else none
def f8_heaviest  (M0 : sx_M) : Option (Int32 × sx_M) :=
  sx_bd (sx_set M0 17 0 0 (0 : Int32)) fun M1 =>
  f8_heaviest_L12 
    5000 (-9 : Int32) (-1 : Int32) (0 : Int32) M1
set_option maxRecDepth 100000 in
set_option maxHeartbeats 4000000 in
theorem wk_8_heaviest (X : sx_X C p m c cX8_heaviest 5 s args RX8) (hr : meth.sig.returnType = (some .int)) (hlocks : meth.locks = false) (hG : sx_G C) (hz : sx_sz C ≤ s.heap.size) (hcs : 0 ≤ R.cells ∧ 0 ≤ R.slots) (hR : 5 ≤ R.frames ∧ 117 ≤ R.locals) (M0 : sx_M) (r : Int32) (M' : sx_M) (h : f8_heaviest M0 = some (r, M')) (hl : lv_has ls 5 [(0, .ref (sx_ad C 17 0))]) (hP : sx_W C M0 H) (hS : va_S (sx_A C) s.heap H locs) : W p l e R s m args below meth c H locs 0 0 (sx_Z C (some (.int r)) M' below args s) (F0 m 0 ls []) := by
  obtain ⟨hx, hb, hml, hown, hts, hK⟩ := id X
  rw [f8_heaviest] at h
  have hf8_heaviest_L12 : ∀ (n : Nat) (x1 : Int32) (x2 : Int32) (x3 : Int32) (M : sx_M) (H : Heap) (locs : List Loc) (ls : Array Slot), lv_has ls 5 [(0, .ref (sx_ad C 17 0)), (1, .int x1), (2, .int x2), (3, .int x3)] → sx_W C M H → va_S (sx_A C) s.heap H locs → f8_heaviest_L12 n x1 x2 x3 M = some (r, M') → W p l e R s m args below meth c H locs 0 0 (sx_Z C (some (.int r)) M' below args s) (F0 m 12 ls []) := by
    intro n
    induction n with
    | zero => intro x1 x2 x3 M H locs ls hl hP hS h; exact absurd (show (none : Option (Int32 × sx_M)) = some (r, M') from h) (fun q => nomatch q)
    | succ n ih =>
      intro x1 x2 x3 M H locs ls hl hP hS h
      rw [f8_heaviest_L12] at h
      refine lv_iload_n hx hb dX8_heaviest_12 rfl (lv_at hl 3 rfl) ?_
      refine lv_aload_n hx hb dX8_heaviest_13 rfl (lv_at hl 0 rfl) ?_
      refine gf_X8_16 X hP (by decide) dX8_heaviest_14 ?_
      refine lv_iconst (v := (2 : Int32)) hx hb dX8_heaviest_17 (by decide) ?_
      refine sx_iald X hP 20 0 247 (by decide) (fun _ _ => rfl) dX8_heaviest_18 h (fun v2 h => ?_)
      refine lv_icmp_ge (tgt := 60) hx hb dX8_heaviest_19 (by decide) (fun c3 => ?_) (fun c3 => ?_)
      · replace h := sx_ifp h c3
        refine lv_iload_n hx hb dX8_heaviest_60 rfl (lv_at hl 1 rfl) ?_
        refine lv_bipush (v := (-9 : Int32)) hx hb dX8_heaviest_61 (by decide) ?_
        obtain ⟨j76, e_j76, h⟩ := sx_nm h
        have hj76 : ∀ (v4 : Int32) (H : Heap) (locs : List Loc) (ls : Array Slot), lv_has ls 5 [] → sx_W C M H → va_S (sx_A C) s.heap H locs → j76 v4 = some (r, M') → W p l e R s m args below meth c H locs 0 0 (sx_Z C (some (.int r)) M' below args s) (F0 m 76 ls [.int v4]) := by
          intro v4 H locs ls hl hP hS h
          subst e_j76
          exact sx_iretM X hr hlocks hS hP h dX8_heaviest_76
        clear e_j76
        refine lv_icmp_ne (tgt := 71) hx hb dX8_heaviest_63 (by decide) (fun c5 => ?_) (fun c5 => ?_)
        · replace h := sx_ifn h c5
          refine lv_aload_n hx hb dX8_heaviest_71 rfl (lv_at hl 0 rfl) ?_
          refine lv_iload_n hx hb dX8_heaviest_72 rfl (lv_at hl 1 rfl) ?_
          obtain ⟨v6, e_v6, h⟩ := sx_bnd h
          refine cl_X8_217 X hG hP hz hS  e_v6 hl.1 dX8_heaviest_73 hcs ⟨Nat.le_trans (by decide) hR.1, Nat.le_trans (by decide) hR.2⟩ (Nat.le_of_ble_eq_true rfl) (fun H locs hP hS => ?_)
          exact hj76 v6 H locs ls (lv_sub hl [] rfl) hP hS h
        · replace h := sx_ifp h c5
          refine lv_bipush (v := (-9 : Int32)) hx hb dX8_heaviest_66 (by decide) ?_
          refine lv_goto (tgt := 76) hx hb dX8_heaviest_68 (by decide) ?_
          exact hj76 (-9 : Int32) H locs ls (lv_sub hl [] rfl) hP hS h
      · replace h := sx_ifn h c3
        refine lv_aload_n hx hb dX8_heaviest_22 rfl (lv_at hl 0 rfl) ?_
        refine lv_iload_n hx hb dX8_heaviest_23 rfl (lv_at hl 3 rfl) ?_
        obtain ⟨v7, M8, e_v7, h⟩ := sx_bnd2 h
        refine cl_X8_230 X hG hP hz hS  e_v7 hl.1 dX8_heaviest_24 hcs ⟨Nat.le_trans (by decide) hR.1, Nat.le_trans (by decide) hR.2⟩ (Nat.le_of_ble_eq_true rfl) (fun H locs hP hS => ?_)
        refine lv_istore (lv' := [(4, .int v7), (0, .ref (sx_ad C 17 0)), (1, .int x1), (2, .int x2), (3, .int x3)]) hx hb dX8_heaviest_27 hl (by decide) rfl (fun ls hl => ?_)
        refine lv_iload hx hb dX8_heaviest_29 (lv_at hl 0 rfl) ?_
        refine lv_iload_n hx hb dX8_heaviest_31 rfl (lv_at hl 3 rfl) ?_
        obtain ⟨j40, e_j40, h⟩ := sx_nm h
        have hj40 : ∀ (v9 : Int32) (H : Heap) (locs : List Loc) (ls : Array Slot), lv_has ls 5 [(0, .ref (sx_ad C 17 0)), (2, .int x2), (3, .int x3), (4, .int v7)] → sx_W C M8 H → va_S (sx_A C) s.heap H locs → j40 v9 = some (r, M') → W p l e R s m args below meth c H locs 0 0 (sx_Z C (some (.int r)) M' below args s) (F0 m 40 ls [.int v9]) := by
          intro v9 H locs ls hl hP hS h
          subst e_j40
          refine lv_istore_n (lv' := [(1, .int v9), (0, .ref (sx_ad C 17 0)), (2, .int x2), (3, .int x3), (4, .int v7)]) hx hb dX8_heaviest_40 rfl hl (by decide) rfl (fun ls hl => ?_)
          refine lv_iload hx hb dX8_heaviest_41 (lv_at hl 4 rfl) ?_
          refine lv_iload_n hx hb dX8_heaviest_43 rfl (lv_at hl 2 rfl) ?_
          obtain ⟨j53, e_j53, h⟩ := sx_nm h
          have hj53 : ∀ (v10 : Int32) (H : Heap) (locs : List Loc) (ls : Array Slot), lv_has ls 5 [(0, .ref (sx_ad C 17 0)), (1, .int v9), (3, .int x3)] → sx_W C M8 H → va_S (sx_A C) s.heap H locs → j53 v10 = some (r, M') → W p l e R s m args below meth c H locs 0 0 (sx_Z C (some (.int r)) M' below args s) (F0 m 53 ls [.int v10]) := by
            intro v10 H locs ls hl hP hS h
            subst e_j53
            refine lv_istore_n (lv' := [(2, .int v10), (0, .ref (sx_ad C 17 0)), (1, .int v9), (3, .int x3)]) hx hb dX8_heaviest_53 rfl hl (by decide) rfl (fun ls hl => ?_)
            obtain ⟨v11, e_v11, h⟩ := sx_nm h
            refine lv_iinc (v := v11) (lv' := [(3, .int v11), (2, .int v10), (0, .ref (sx_ad C 17 0)), (1, .int v9)]) hx hb dX8_heaviest_54 hl (k := 3) rfl (by rw [← e_v11]; rfl) (by decide) rfl (fun ls hl => ?_)
            refine lv_goto (tgt := 12) hx hb dX8_heaviest_57 (by decide) ?_
            exact ih v9 v10 v11 M8 H locs ls (lv_sub hl [2, 3, 1, 0] rfl) hP hS h
          clear e_j53
          refine lv_icmp_le (tgt := 52) hx hb dX8_heaviest_44 (by decide) (fun c12 => ?_) (fun c12 => ?_)
          · replace h := sx_ifp h c12
            refine lv_iload_n hx hb dX8_heaviest_52 rfl (lv_at hl 2 rfl) ?_
            exact hj53 x2 H locs ls (lv_sub hl [1, 0, 3] rfl) hP hS h
          · replace h := sx_ifn h c12
            refine lv_iload hx hb dX8_heaviest_47 (lv_at hl 4 rfl) ?_
            refine lv_goto (tgt := 53) hx hb dX8_heaviest_49 (by decide) ?_
            exact hj53 v7 H locs ls (lv_sub hl [1, 0, 3] rfl) hP hS h
        clear e_j40
        refine lv_icmp_le (tgt := 39) hx hb dX8_heaviest_32 (by decide) (fun c13 => ?_) (fun c13 => ?_)
        · replace h := sx_ifp h c13
          refine lv_iload_n hx hb dX8_heaviest_39 rfl (lv_at hl 2 rfl) ?_
          exact hj40 x1 H locs ls (lv_sub hl [1, 3, 4, 0] rfl) hP hS h
        · replace h := sx_ifn h c13
          refine lv_iload_n hx hb dX8_heaviest_35 rfl (lv_at hl 4 rfl) ?_
          refine lv_goto (tgt := 40) hx hb dX8_heaviest_36 (by decide) ?_
          exact hj40 x3 H locs ls (lv_sub hl [1, 3, 4, 0] rfl) hP hS h
  refine lv_aload_n hx hb dX8_heaviest_0 rfl (lv_at hl 0 rfl) ?_
  refine lv_iconst (v := (0 : Int32)) hx hb dX8_heaviest_1 (by decide) ?_
  refine pf_X8_47 X hG hP hS (by decide) dX8_heaviest_2 h (fun M1 H locs h hP hS => ?_)
  refine lv_bipush (v := (-9 : Int32)) hx hb dX8_heaviest_5 (by decide) ?_
  refine lv_istore_n (lv' := [(1, .int (-9 : Int32)), (0, .ref (sx_ad C 17 0))]) hx hb dX8_heaviest_7 rfl hl (by decide) rfl (fun ls hl => ?_)
  refine lv_iconst (v := (-1 : Int32)) hx hb dX8_heaviest_8 (by decide) ?_
  refine lv_istore_n (lv' := [(2, .int (-1 : Int32)), (1, .int (-9 : Int32)), (0, .ref (sx_ad C 17 0))]) hx hb dX8_heaviest_9 rfl hl (by decide) rfl (fun ls hl => ?_)
  refine lv_iconst (v := (0 : Int32)) hx hb dX8_heaviest_10 (by decide) ?_
  refine lv_istore_n (lv' := [(3, .int (0 : Int32)), (2, .int (-1 : Int32)), (1, .int (-9 : Int32)), (0, .ref (sx_ad C 17 0))]) hx hb dX8_heaviest_11 rfl hl (by decide) rfl (fun ls hl => ?_)
  exact hf8_heaviest_L12 5000 (-9 : Int32) (-1 : Int32) (0 : Int32) M1 H locs ls (lv_sub hl [3, 2, 1, 0] rfl) hP hS h
set_option maxRecDepth 100000 in
theorem ct_8_heaviest (l : Launch) (C : sx_C) (hG : sx_G C) (M0 : sx_M) (r : Int32) (M' : sx_M) (h : f8_heaviest M0 = some (r, M')) : Met l yX8_heaviest (.code yX8_heaviest cX8_heaviest 5 (some .int) :: sx_T) ({ frames := 5, cells := 0, slots := 0, locals := 117 } : Room) (sx_Pc C M0 [.ref (sx_ad C 17 0)]) (sx_Q C (some (.int r)) M') 0 0 (sx_A C) := by
  refine Met.ofW (cc := cX8_heaviest) (maxL := 5) (ret := (some .int)) (by decide) rfl ?_
  intro p e s m args below meth c s₁ B hml hv
  obtain ⟨rfl, hz, hP, hK⟩ := hv
  have hl := lv_entry ([.ref (sx_ad C 17 0)]) (n := 5) (Nat.le_of_ble_eq_true rfl)
  rw [lg_entry_eq]
  generalize (lg_sl ([.ref (sx_ad C 17 0)]) ++ List.replicate (5 - (lg_sl ([.ref (sx_ad C 17 0)])).length) Slot.unset).toArray = ls at hl ⊢
  exact wk_8_heaviest ⟨B.exec, B.bytes, hml, findClass_of_methodNamed B.named, fun w hw => atoms_spec B.pre w (List.mem_cons_of_mem _ hw), hK⟩ B.returns B.notSynchronized hG hz ⟨Nat.zero_le _, Nat.zero_le _⟩ ⟨Nat.le_refl _, Nat.le_refl _⟩ M0 r M' h hl hP va_S.rf
theorem cl_L_164 (X : sx_X C p m c cc nL s args RL) (hG : sx_G C) (hP : sx_W C M0 H) (hz : sx_sz C ≤ H0.size) (hS : va_S (sx_A C) H0 H locs) {r : Int32} {M' : sx_M} (h : f8_heaviest M0 = some (r, M')) (hsz : ls.size = nL) (hdg : decode cc pc = .ok (.invokevirtual 164, 3)) (hcs : cells ≤ R.cells ∧ slots ≤ R.slots) (hR : 5 + 1 ≤ R.frames ∧ 8 + (5 + 11) + 117 ≤ R.locals) (hrest : (rest.map fun v => v.category).sum ≤ 8) (kk : ∀ (H1 : Heap) (locs1 : List Loc), sx_W C M' H1 → va_S (sx_A C) H0 H1 locs1 → W p l e R s m args below meth c H1 locs1 cells slots Q (F0 m (pc + 3) ls ((.int r) :: rest))) : W p l e R s m args below meth c H locs cells slots Q (F0 m pc ls (.ref (sx_ad C 17 0) :: rest)) :=
  sx_callV (n := 0) (As := []) (k0 := 17) (s0 := 0) X hP hz hS (by decide) rfl rfl (sx_goodV tw_1274 tw_1275 tw_1276 tw_71 tw_1277) (by decide +kernel) rfl rfl hR (ct_8_heaviest l C hG M0 r M' h) rfl rfl hrest hsz hdg hcs kk
-- StringShedModel.isOnRing(I)Z
def f8_isOnRing_L7 (w1 : Int32) (w2 : Int32) (w3 : Int32) (k29 : (sx_M → Option (Int32 × sx_M))) : Nat → Int32 → sx_M → Option (Int32 × sx_M)
  | 0, _, _ => none
  | n + 1, x4, M =>
    if (24 : Int32) ≤ x4 then
      k29 M
    else
      if sx_in x4 24 then
      sx_bd (sx_set M 28 0 (x4).toNatClampNeg (-9 : Int32)) fun M2 =>
      sx_bd (x4 + (1 : Int32)) fun v3 =>
      f8_isOnRing_L7 w1 w2 w3 k29 n v3 M2
      else none
def f8_isOnRing_L48 (w1 : Int32) (w4 : Int32) (k184 : (Int32 → Int32 → sx_M → Option (Int32 × sx_M))) : Nat → Int32 → Int32 → Int32 → sx_M → Option (Int32 × sx_M)
  | 0, _, _, _, _ => none
  | n + 1, x2, x3, x5, M =>
    if sx_in (2 : Int32) 247 then
    sx_bd (M.1 20 0 ((2 : Int32)).toNatClampNeg) fun v7 =>
    if v7 ≤ x5 then
      k184 x2 x3 M
    else
      (f8_cordAt x5 (1 : Int32) M).bind fun v9 =>
      if sx_in v9 247 then
      sx_bd (M.1 20 0 (v9).toNatClampNeg) fun v10 =>
      (f8_cordAt x5 (0 : Int32) M).bind fun v11 =>
      if sx_in v11 247 then
      sx_bd (M.1 20 0 (v11).toNatClampNeg) fun v12 =>
      if sx_in w4 24 then
      sx_bd (M.1 29 0 (w4).toNatClampNeg) fun v13 =>
      sx_bd (fun (v14 : Int32) =>
        sx_bd (fun (v15 : Int32) =>
          sx_bd (fun (v16 : Int32) (M17 : sx_M) =>
            sx_bd (x5 + (1 : Int32)) fun v18 =>
            f8_isOnRing_L48 w1 w4 k184 n v16 v15 v18 M17) fun j178 =>
          if v14 = 0 then
            j178 x2 M
          else
            if v10 = w1 then
              j178 x2 M
            else
              if sx_in v10 24 then
              sx_bd (M.1 28 0 (v10).toNatClampNeg) fun v21 =>
              if v21 = (-9 : Int32) then
                if sx_in v10 24 then
                sx_bd (sx_set M 28 0 (v10).toNatClampNeg (0 : Int32)) fun M23 =>
                if sx_in x2 24 then
                sx_bd (sx_set M23 29 0 (x2).toNatClampNeg v10) fun M24 =>
                sx_bd (x2 + (1 : Int32)) fun v25 =>
                j178 v25 M24
                else none
                else none
              else
                j178 x2 M
              else none) fun j135 =>
        sx_bd (fun (_ : Unit) =>
          j135 (1 : Int32)) fun j130 =>
        if x3 = 0 then
          sx_bd (fun (_ : Unit) =>
            j135 (0 : Int32)) fun j134 =>
          if v14 = 0 then
            j134 ()
          else
            if v10 = w1 then
              j130 ()
            else
              j134 ()
        else
          j130 ()) fun j113 =>
      sx_bd (fun (_ : Unit) =>
        j113 (0 : Int32)) fun j112 =>
      if v12 = v13 then
        (f8_cordAt x5 (2 : Int32) M).bind fun v30 =>
        if sx_in v30 247 then
        sx_bd (M.1 20 0 (v30).toNatClampNeg) fun v31 =>
        if v31 = (1 : Int32) then
          j113 (1 : Int32)
        else
          j112 ()
        else none
      else
        j112 ()
      else none
      else none
      else none
    else none
def f8_isOnRing_L39 (w1 : Int32) : Nat → Int32 → Int32 → Int32 → sx_M → Option (Int32 × sx_M)
  | 0, _, _, _, _ => none
  | n + 1, x2, x3, x4, M =>
    if x2 ≤ x4 then
      if x3 = 0 ∨ x3 = 1 then some (x3, M) else none
    else
      f8_isOnRing_L48 w1 x4
        (fun (v33 : Int32) (v34 : Int32) (M35 : sx_M) =>
          sx_bd (x4 + (1 : Int32)) fun v36 =>
          f8_isOnRing_L39 w1 n v33 v34 v36 M35)
        5000 x2 x3 (0 : Int32) M
def f8_isOnRing (a1 : Int32) (M0 : sx_M) : Option (Int32 × sx_M) :=
  f8_isOnRing_L7 a1 (1 : Int32) (0 : Int32)
    (fun (M4 : sx_M) =>
      if sx_in (0 : Int32) 24 then
      sx_bd (sx_set M4 29 0 ((0 : Int32)).toNatClampNeg a1) fun M5 =>
      f8_isOnRing_L39 a1
        5000 (1 : Int32) (0 : Int32) (0 : Int32) M5
      else none)
    5000 (0 : Int32) M0
set_option maxRecDepth 100000 in
set_option maxHeartbeats 4000000 in
theorem wk_8_isOnRing (X : sx_X C p m c cX8_isOnRing 8 s args RX8) (hr : meth.sig.returnType = (some .boolean)) (hlocks : meth.locks = false) (hG : sx_G C) (hz : sx_sz C ≤ s.heap.size) (hcs : 0 ≤ R.cells ∧ 0 ≤ R.slots) (hR : 1 ≤ R.frames ∧ 21 ≤ R.locals) (a1 : Int32) (M0 : sx_M) (r : Int32) (M' : sx_M) (h : f8_isOnRing a1 M0 = some (r, M')) (hl : lv_has ls 8 [(0, .ref (sx_ad C 17 0)), (1, .int a1)]) (hP : sx_W C M0 H) (hS : va_S (sx_A C) s.heap H locs) : W p l e R s m args below meth c H locs 0 0 (sx_Z C (some (.int r)) M' below args s) (F0 m 0 ls []) := by
  obtain ⟨hx, hb, hml, hown, hts, hK⟩ := id X
  rw [f8_isOnRing] at h
  have hf8_isOnRing_L7 : ∀ (w1 : Int32) (w2 : Int32) (w3 : Int32) (k29 : (sx_M → Option (Int32 × sx_M))) (n : Nat) (hk29 : (∀ (M : sx_M) (H : Heap) (locs : List Loc) (ls : Array Slot), lv_has ls 8 [(0, .ref (sx_ad C 17 0)), (1, .int w1), (2, .int w2), (3, .int w3)] → sx_W C M H → va_S (sx_A C) s.heap H locs → k29 M = some (r, M') → W p l e R s m args below meth c H locs 0 0 (sx_Z C (some (.int r)) M' below args s) (F0 m 29 ls []))) (x4 : Int32) (M : sx_M) (H : Heap) (locs : List Loc) (ls : Array Slot), lv_has ls 8 [(0, .ref (sx_ad C 17 0)), (1, .int w1), (2, .int w2), (3, .int w3), (4, .int x4)] → sx_W C M H → va_S (sx_A C) s.heap H locs → f8_isOnRing_L7 w1 w2 w3 k29 n x4 M = some (r, M') → W p l e R s m args below meth c H locs 0 0 (sx_Z C (some (.int r)) M' below args s) (F0 m 7 ls []) := by
    intro w1 w2 w3 k29 n hk29
    induction n with
    | zero => intro x4 M H locs ls hl hP hS h; exact absurd (show (none : Option (Int32 × sx_M)) = some (r, M') from h) (fun q => nomatch q)
    | succ n ih =>
      intro x4 M H locs ls hl hP hS h
      rw [f8_isOnRing_L7] at h
      refine lv_iload hx hb dX8_isOnRing_7 (lv_at hl 4 rfl) ?_
      refine lv_bipush (v := (24 : Int32)) hx hb dX8_isOnRing_9 (by decide) ?_
      refine lv_icmp_ge (tgt := 29) hx hb dX8_isOnRing_11 (by decide) (fun c1 => ?_) (fun c1 => ?_)
      · replace h := sx_ifp h c1
        exact hk29 M H locs ls (lv_sub hl [0, 1, 2, 3] rfl) hP hS h
      · replace h := sx_ifn h c1
        refine lv_aload_n hx hb dX8_isOnRing_14 rfl (lv_at hl 0 rfl) ?_
        refine gf_X8_41 X hP (by decide) dX8_isOnRing_15 ?_
        refine lv_iload hx hb dX8_isOnRing_18 (lv_at hl 4 rfl) ?_
        refine lv_bipush (v := (-9 : Int32)) hx hb dX8_isOnRing_20 (by decide) ?_
        refine sx_iast X hG hP hS 28 0 24 (by decide) (fun _ _ => rfl) dX8_isOnRing_22 h (fun M2 H locs h hP hS => ?_)
        obtain ⟨v3, e_v3, h⟩ := sx_nm h
        refine lv_iinc (v := v3) (lv' := [(4, .int v3), (0, .ref (sx_ad C 17 0)), (1, .int w1), (2, .int w2), (3, .int w3)]) hx hb dX8_isOnRing_23 hl (k := 4) rfl (by rw [← e_v3]; rfl) (by decide) rfl (fun ls hl => ?_)
        refine lv_goto (tgt := 7) hx hb dX8_isOnRing_26 (by decide) ?_
        exact ih v3 M2 H locs ls (lv_sub hl [1, 2, 3, 4, 0] rfl) hP hS h
  have hf8_isOnRing_L48 : ∀ (w1 : Int32) (w4 : Int32) (k184 : (Int32 → Int32 → sx_M → Option (Int32 × sx_M))) (n : Nat) (hk184 : (∀ (y2 : Int32) (y3 : Int32) (M : sx_M) (H : Heap) (locs : List Loc) (ls : Array Slot), lv_has ls 8 [(0, .ref (sx_ad C 17 0)), (1, .int w1), (2, .int y2), (3, .int y3), (4, .int w4)] → sx_W C M H → va_S (sx_A C) s.heap H locs → k184 y2 y3 M = some (r, M') → W p l e R s m args below meth c H locs 0 0 (sx_Z C (some (.int r)) M' below args s) (F0 m 184 ls []))) (x2 : Int32) (x3 : Int32) (x5 : Int32) (M : sx_M) (H : Heap) (locs : List Loc) (ls : Array Slot), lv_has ls 8 [(0, .ref (sx_ad C 17 0)), (1, .int w1), (2, .int x2), (3, .int x3), (4, .int w4), (5, .int x5)] → sx_W C M H → va_S (sx_A C) s.heap H locs → f8_isOnRing_L48 w1 w4 k184 n x2 x3 x5 M = some (r, M') → W p l e R s m args below meth c H locs 0 0 (sx_Z C (some (.int r)) M' below args s) (F0 m 48 ls []) := by
    intro w1 w4 k184 n hk184
    induction n with
    | zero => intro x2 x3 x5 M H locs ls hl hP hS h; exact absurd (show (none : Option (Int32 × sx_M)) = some (r, M') from h) (fun q => nomatch q)
    | succ n ih =>
      intro x2 x3 x5 M H locs ls hl hP hS h
      rw [f8_isOnRing_L48] at h
      refine lv_iload hx hb dX8_isOnRing_48 (lv_at hl 5 rfl) ?_
      refine lv_aload_n hx hb dX8_isOnRing_50 rfl (lv_at hl 0 rfl) ?_
      refine gf_X8_16 X hP (by decide) dX8_isOnRing_51 ?_
      refine lv_iconst (v := (2 : Int32)) hx hb dX8_isOnRing_54 (by decide) ?_
      refine sx_iald X hP 20 0 247 (by decide) (fun _ _ => rfl) dX8_isOnRing_55 h (fun v7 h => ?_)
      refine lv_icmp_ge (tgt := 184) hx hb dX8_isOnRing_56 (by decide) (fun c8 => ?_) (fun c8 => ?_)
      · replace h := sx_ifp h c8
        exact hk184 x2 x3 M H locs ls (lv_sub hl [0, 1, 2, 3, 4] rfl) hP hS h
      · replace h := sx_ifn h c8
        refine lv_aload_n hx hb dX8_isOnRing_59 rfl (lv_at hl 0 rfl) ?_
        refine gf_X8_16 X hP (by decide) dX8_isOnRing_60 ?_
        refine lv_iload hx hb dX8_isOnRing_63 (lv_at hl 5 rfl) ?_
        refine lv_iconst (v := (1 : Int32)) hx hb dX8_isOnRing_65 (by decide) ?_
        obtain ⟨v9, e_v9, h⟩ := sx_bnd h
        refine cl_X8_78 X hG hP hz hS  e_v9 hl.1 dX8_isOnRing_66 hcs ⟨Nat.le_trans (by decide) hR.1, Nat.le_trans (by decide) hR.2⟩ (Nat.le_of_ble_eq_true rfl) (fun H locs hP hS => ?_)
        refine sx_iald X hP 20 0 247 (by decide) (fun _ _ => rfl) dX8_isOnRing_69 h (fun v10 h => ?_)
        refine lv_istore (lv' := [(6, .int v10), (0, .ref (sx_ad C 17 0)), (1, .int w1), (2, .int x2), (3, .int x3), (4, .int w4), (5, .int x5)]) hx hb dX8_isOnRing_70 hl (by decide) rfl (fun ls hl => ?_)
        refine lv_aload_n hx hb dX8_isOnRing_72 rfl (lv_at hl 1 rfl) ?_
        refine gf_X8_16 X hP (by decide) dX8_isOnRing_73 ?_
        refine lv_iload hx hb dX8_isOnRing_76 (lv_at hl 6 rfl) ?_
        refine lv_iconst (v := (0 : Int32)) hx hb dX8_isOnRing_78 (by decide) ?_
        obtain ⟨v11, e_v11, h⟩ := sx_bnd h
        refine cl_X8_78 X hG hP hz hS  e_v11 hl.1 dX8_isOnRing_79 hcs ⟨Nat.le_trans (by decide) hR.1, Nat.le_trans (by decide) hR.2⟩ (Nat.le_of_ble_eq_true rfl) (fun H locs hP hS => ?_)
        refine sx_iald X hP 20 0 247 (by decide) (fun _ _ => rfl) dX8_isOnRing_82 h (fun v12 h => ?_)
        refine lv_aload_n hx hb dX8_isOnRing_83 rfl (lv_at hl 1 rfl) ?_
        refine gf_X8_44 X hP (by decide) dX8_isOnRing_84 ?_
        refine lv_iload hx hb dX8_isOnRing_87 (lv_at hl 5 rfl) ?_
        refine sx_iald X hP 29 0 24 (by decide) (fun _ _ => rfl) dX8_isOnRing_89 h (fun v13 h => ?_)
        obtain ⟨j113, e_j113, h⟩ := sx_nm h
        have hj113 : ∀ (v14 : Int32) (H : Heap) (locs : List Loc) (ls : Array Slot), lv_has ls 8 [(0, .ref (sx_ad C 17 0)), (1, .int w1), (2, .int x2), (3, .int x3), (4, .int w4), (5, .int x5), (6, .int v10)] → sx_W C M H → va_S (sx_A C) s.heap H locs → j113 v14 = some (r, M') → W p l e R s m args below meth c H locs 0 0 (sx_Z C (some (.int r)) M' below args s) (F0 m 113 ls [.int v14]) := by
          intro v14 H locs ls hl hP hS h
          subst e_j113
          refine lv_istore (lv' := [(7, .int v14), (0, .ref (sx_ad C 17 0)), (1, .int w1), (2, .int x2), (3, .int x3), (4, .int w4), (5, .int x5), (6, .int v10)]) hx hb dX8_isOnRing_113 hl (by decide) rfl (fun ls hl => ?_)
          refine lv_iload_n hx hb dX8_isOnRing_115 rfl (lv_at hl 4 rfl) ?_
          obtain ⟨j135, e_j135, h⟩ := sx_nm h
          have hj135 : ∀ (v15 : Int32) (H : Heap) (locs : List Loc) (ls : Array Slot), lv_has ls 8 [(0, .ref (sx_ad C 17 0)), (1, .int w1), (2, .int x2), (4, .int w4), (5, .int x5), (6, .int v10), (7, .int v14)] → sx_W C M H → va_S (sx_A C) s.heap H locs → j135 v15 = some (r, M') → W p l e R s m args below meth c H locs 0 0 (sx_Z C (some (.int r)) M' below args s) (F0 m 135 ls [.int v15]) := by
            intro v15 H locs ls hl hP hS h
            subst e_j135
            refine lv_istore_n (lv' := [(3, .int v15), (0, .ref (sx_ad C 17 0)), (1, .int w1), (2, .int x2), (4, .int w4), (5, .int x5), (6, .int v10), (7, .int v14)]) hx hb dX8_isOnRing_135 rfl hl (by decide) rfl (fun ls hl => ?_)
            refine lv_iload hx hb dX8_isOnRing_136 (lv_at hl 7 rfl) ?_
            obtain ⟨j178, e_j178, h⟩ := sx_nm h
            have hj178 : ∀ (v16 : Int32) (M17 : sx_M) (H : Heap) (locs : List Loc) (ls : Array Slot), lv_has ls 8 [(0, .ref (sx_ad C 17 0)), (1, .int w1), (2, .int v16), (3, .int v15), (4, .int w4), (5, .int x5)] → sx_W C M17 H → va_S (sx_A C) s.heap H locs → j178 v16 M17 = some (r, M') → W p l e R s m args below meth c H locs 0 0 (sx_Z C (some (.int r)) M' below args s) (F0 m 178 ls []) := by
              intro v16 M17 H locs ls hl hP hS h
              subst e_j178
              obtain ⟨v18, e_v18, h⟩ := sx_nm h
              refine lv_iinc (v := v18) (lv' := [(5, .int v18), (0, .ref (sx_ad C 17 0)), (1, .int w1), (2, .int v16), (3, .int v15), (4, .int w4)]) hx hb dX8_isOnRing_178 hl (k := 5) rfl (by rw [← e_v18]; rfl) (by decide) rfl (fun ls hl => ?_)
              refine lv_goto (tgt := 48) hx hb dX8_isOnRing_181 (by decide) ?_
              exact ih v16 v15 v18 M17 H locs ls (lv_sub hl [1, 2, 3, 4, 5, 0] rfl) hP hS h
            clear e_j178
            refine lv_if_eq (tgt := 178) hx hb dX8_isOnRing_138 (by decide) (fun c19 => ?_) (fun c19 => ?_)
            · replace h := sx_ifp h c19
              exact hj178 x2 M H locs ls (lv_sub hl [1, 2, 3, 0, 4, 5] rfl) hP hS h
            · replace h := sx_ifn h c19
              refine lv_iload hx hb dX8_isOnRing_141 (lv_at hl 6 rfl) ?_
              refine lv_iload_n hx hb dX8_isOnRing_143 rfl (lv_at hl 2 rfl) ?_
              refine lv_icmp_eq (tgt := 178) hx hb dX8_isOnRing_144 (by decide) (fun c20 => ?_) (fun c20 => ?_)
              · replace h := sx_ifp h c20
                exact hj178 x2 M H locs ls (lv_sub hl [1, 2, 3, 0, 4, 5] rfl) hP hS h
              · replace h := sx_ifn h c20
                refine lv_aload_n hx hb dX8_isOnRing_147 rfl (lv_at hl 1 rfl) ?_
                refine gf_X8_41 X hP (by decide) dX8_isOnRing_148 ?_
                refine lv_iload hx hb dX8_isOnRing_151 (lv_at hl 6 rfl) ?_
                refine sx_iald X hP 28 0 24 (by decide) (fun _ _ => rfl) dX8_isOnRing_153 h (fun v21 h => ?_)
                refine lv_bipush (v := (-9 : Int32)) hx hb dX8_isOnRing_154 (by decide) ?_
                refine lv_icmp_ne (tgt := 178) hx hb dX8_isOnRing_156 (by decide) (fun c22 => ?_) (fun c22 => ?_)
                · replace h := sx_ifn h c22
                  exact hj178 x2 M H locs ls (lv_sub hl [1, 2, 3, 0, 4, 5] rfl) hP hS h
                · replace h := sx_ifp h c22
                  refine lv_aload_n hx hb dX8_isOnRing_159 rfl (lv_at hl 1 rfl) ?_
                  refine gf_X8_41 X hP (by decide) dX8_isOnRing_160 ?_
                  refine lv_iload hx hb dX8_isOnRing_163 (lv_at hl 6 rfl) ?_
                  refine lv_iconst (v := (0 : Int32)) hx hb dX8_isOnRing_165 (by decide) ?_
                  refine sx_iast X hG hP hS 28 0 24 (by decide) (fun _ _ => rfl) dX8_isOnRing_166 h (fun M23 H locs h hP hS => ?_)
                  refine lv_aload_n hx hb dX8_isOnRing_167 rfl (lv_at hl 1 rfl) ?_
                  refine gf_X8_44 X hP (by decide) dX8_isOnRing_168 ?_
                  refine lv_iload_n hx hb dX8_isOnRing_171 rfl (lv_at hl 3 rfl) ?_
                  refine lv_iload hx hb dX8_isOnRing_172 (lv_at hl 6 rfl) ?_
                  refine sx_iast X hG hP hS 29 0 24 (by decide) (fun _ _ => rfl) dX8_isOnRing_174 h (fun M24 H locs h hP hS => ?_)
                  obtain ⟨v25, e_v25, h⟩ := sx_nm h
                  refine lv_iinc (v := v25) (lv' := [(2, .int v25), (3, .int v15), (0, .ref (sx_ad C 17 0)), (1, .int w1), (4, .int w4), (5, .int x5), (6, .int v10), (7, .int v14)]) hx hb dX8_isOnRing_175 hl (k := 3) rfl (by rw [← e_v25]; rfl) (by decide) rfl (fun ls hl => ?_)
                  exact hj178 v25 M24 H locs ls (lv_sub hl [2, 3, 0, 1, 4, 5] rfl) hP hS h
          clear e_j135
          obtain ⟨j130, e_j130, h⟩ := sx_nm h
          have hj130 : ∀ (H : Heap) (locs : List Loc) (ls : Array Slot), lv_has ls 8 [(0, .ref (sx_ad C 17 0)), (1, .int w1), (2, .int x2), (4, .int w4), (5, .int x5), (6, .int v10), (7, .int v14)] → sx_W C M H → va_S (sx_A C) s.heap H locs → j130 () = some (r, M') → W p l e R s m args below meth c H locs 0 0 (sx_Z C (some (.int r)) M' below args s) (F0 m 130 ls []) := by
            intro  H locs ls hl hP hS h
            subst e_j130
            refine lv_iconst (v := (1 : Int32)) hx hb dX8_isOnRing_130 (by decide) ?_
            refine lv_goto (tgt := 135) hx hb dX8_isOnRing_131 (by decide) ?_
            exact hj135 (1 : Int32) H locs ls (lv_sub hl [0, 1, 2, 3, 4, 5, 6] rfl) hP hS h
          clear e_j130
          refine lv_if_ne (tgt := 130) hx hb dX8_isOnRing_116 (by decide) (fun c26 => ?_) (fun c26 => ?_)
          · replace h := sx_ifn h c26
            exact hj130 H locs ls (lv_sub hl [1, 2, 3, 5, 6, 7, 0] rfl) hP hS h
          · replace h := sx_ifp h c26
            refine lv_iload hx hb dX8_isOnRing_119 (lv_at hl 0 rfl) ?_
            obtain ⟨j134, e_j134, h⟩ := sx_nm h
            have hj134 : ∀ (H : Heap) (locs : List Loc) (ls : Array Slot), lv_has ls 8 [(0, .ref (sx_ad C 17 0)), (1, .int w1), (2, .int x2), (4, .int w4), (5, .int x5), (6, .int v10), (7, .int v14)] → sx_W C M H → va_S (sx_A C) s.heap H locs → j134 () = some (r, M') → W p l e R s m args below meth c H locs 0 0 (sx_Z C (some (.int r)) M' below args s) (F0 m 134 ls []) := by
              intro  H locs ls hl hP hS h
              subst e_j134
              refine lv_iconst (v := (0 : Int32)) hx hb dX8_isOnRing_134 (by decide) ?_
              exact hj135 (0 : Int32) H locs ls (lv_sub hl [0, 1, 2, 3, 4, 5, 6] rfl) hP hS h
            clear e_j134
            refine lv_if_eq (tgt := 134) hx hb dX8_isOnRing_121 (by decide) (fun c27 => ?_) (fun c27 => ?_)
            · replace h := sx_ifp h c27
              exact hj134 H locs ls (lv_sub hl [1, 2, 3, 5, 6, 7, 0] rfl) hP hS h
            · replace h := sx_ifn h c27
              refine lv_iload hx hb dX8_isOnRing_124 (lv_at hl 7 rfl) ?_
              refine lv_iload_n hx hb dX8_isOnRing_126 rfl (lv_at hl 2 rfl) ?_
              refine lv_icmp_ne (tgt := 134) hx hb dX8_isOnRing_127 (by decide) (fun c28 => ?_) (fun c28 => ?_)
              · replace h := sx_ifn h c28
                exact hj134 H locs ls (lv_sub hl [1, 2, 3, 5, 6, 7, 0] rfl) hP hS h
              · replace h := sx_ifp h c28
                exact hj130 H locs ls (lv_sub hl [1, 2, 3, 5, 6, 7, 0] rfl) hP hS h
        clear e_j113
        obtain ⟨j112, e_j112, h⟩ := sx_nm h
        have hj112 : ∀ (H : Heap) (locs : List Loc) (ls : Array Slot), lv_has ls 8 [(0, .ref (sx_ad C 17 0)), (1, .int w1), (2, .int x2), (3, .int x3), (4, .int w4), (5, .int x5), (6, .int v10)] → sx_W C M H → va_S (sx_A C) s.heap H locs → j112 () = some (r, M') → W p l e R s m args below meth c H locs 0 0 (sx_Z C (some (.int r)) M' below args s) (F0 m 112 ls []) := by
          intro  H locs ls hl hP hS h
          subst e_j112
          refine lv_iconst (v := (0 : Int32)) hx hb dX8_isOnRing_112 (by decide) ?_
          exact hj113 (0 : Int32) H locs ls (lv_sub hl [0, 1, 2, 3, 4, 5, 6] rfl) hP hS h
        clear e_j112
        refine lv_icmp_ne (tgt := 112) hx hb dX8_isOnRing_90 (by decide) (fun c29 => ?_) (fun c29 => ?_)
        · replace h := sx_ifn h c29
          exact hj112 H locs ls (lv_sub hl [1, 2, 3, 4, 5, 6, 0] rfl) hP hS h
        · replace h := sx_ifp h c29
          refine lv_aload_n hx hb dX8_isOnRing_93 rfl (lv_at hl 1 rfl) ?_
          refine gf_X8_16 X hP (by decide) dX8_isOnRing_94 ?_
          refine lv_iload hx hb dX8_isOnRing_97 (lv_at hl 6 rfl) ?_
          refine lv_iconst (v := (2 : Int32)) hx hb dX8_isOnRing_99 (by decide) ?_
          obtain ⟨v30, e_v30, h⟩ := sx_bnd h
          refine cl_X8_78 X hG hP hz hS  e_v30 hl.1 dX8_isOnRing_100 hcs ⟨Nat.le_trans (by decide) hR.1, Nat.le_trans (by decide) hR.2⟩ (Nat.le_of_ble_eq_true rfl) (fun H locs hP hS => ?_)
          refine sx_iald X hP 20 0 247 (by decide) (fun _ _ => rfl) dX8_isOnRing_103 h (fun v31 h => ?_)
          refine lv_iconst (v := (1 : Int32)) hx hb dX8_isOnRing_104 (by decide) ?_
          refine lv_icmp_ne (tgt := 112) hx hb dX8_isOnRing_105 (by decide) (fun c32 => ?_) (fun c32 => ?_)
          · replace h := sx_ifn h c32
            exact hj112 H locs ls (lv_sub hl [1, 2, 3, 4, 5, 6, 0] rfl) hP hS h
          · replace h := sx_ifp h c32
            refine lv_iconst (v := (1 : Int32)) hx hb dX8_isOnRing_108 (by decide) ?_
            refine lv_goto (tgt := 113) hx hb dX8_isOnRing_109 (by decide) ?_
            exact hj113 (1 : Int32) H locs ls (lv_sub hl [1, 2, 3, 4, 5, 6, 0] rfl) hP hS h
  have hf8_isOnRing_L39 : ∀ (w1 : Int32) (n : Nat) (x2 : Int32) (x3 : Int32) (x4 : Int32) (M : sx_M) (H : Heap) (locs : List Loc) (ls : Array Slot), lv_has ls 8 [(0, .ref (sx_ad C 17 0)), (1, .int w1), (2, .int x2), (3, .int x3), (4, .int x4)] → sx_W C M H → va_S (sx_A C) s.heap H locs → f8_isOnRing_L39 w1 n x2 x3 x4 M = some (r, M') → W p l e R s m args below meth c H locs 0 0 (sx_Z C (some (.int r)) M' below args s) (F0 m 39 ls []) := by
    intro w1 n
    induction n with
    | zero => intro x2 x3 x4 M H locs ls hl hP hS h; exact absurd (show (none : Option (Int32 × sx_M)) = some (r, M') from h) (fun q => nomatch q)
    | succ n ih =>
      intro x2 x3 x4 M H locs ls hl hP hS h
      rw [f8_isOnRing_L39] at h
      refine lv_iload hx hb dX8_isOnRing_39 (lv_at hl 4 rfl) ?_
      refine lv_iload_n hx hb dX8_isOnRing_41 rfl (lv_at hl 2 rfl) ?_
      refine lv_icmp_ge (tgt := 190) hx hb dX8_isOnRing_42 (by decide) (fun c6 => ?_) (fun c6 => ?_)
      · replace h := sx_ifp h c6
        refine lv_iload_n hx hb dX8_isOnRing_190 rfl (lv_at hl 3 rfl) ?_
        obtain ⟨hz01, h⟩ := sx_ck h
        exact sx_zretM X hr hlocks hS hP hz01 h dX8_isOnRing_191
      · replace h := sx_ifn h c6
        refine lv_iconst (v := (0 : Int32)) hx hb dX8_isOnRing_45 (by decide) ?_
        refine lv_istore (lv' := [(5, .int (0 : Int32)), (0, .ref (sx_ad C 17 0)), (1, .int w1), (2, .int x2), (3, .int x3), (4, .int x4)]) hx hb dX8_isOnRing_46 hl (by decide) rfl (fun ls hl => ?_)
        refine hf8_isOnRing_L48 w1 x4 _ 5000 ?_ x2 x3 (0 : Int32) M H locs ls (lv_sub hl [1, 2, 3, 4, 5, 0] rfl) hP hS h
        · intro v33 v34 M35 H locs ls hl hP hS h
          obtain ⟨v36, e_v36, h⟩ := sx_nm h
          refine lv_iinc (v := v36) (lv' := [(4, .int v36), (0, .ref (sx_ad C 17 0)), (1, .int w1), (2, .int v33), (3, .int v34)]) hx hb dX8_isOnRing_184 hl (k := 4) rfl (by rw [← e_v36]; rfl) (by decide) rfl (fun ls hl => ?_)
          refine lv_goto (tgt := 39) hx hb dX8_isOnRing_187 (by decide) ?_
          exact ih v33 v34 v36 M35 H locs ls (lv_sub hl [1, 2, 3, 4, 0] rfl) hP hS h
  refine lv_iconst (v := (1 : Int32)) hx hb dX8_isOnRing_0 (by decide) ?_
  refine lv_istore_n (lv' := [(2, .int (1 : Int32)), (0, .ref (sx_ad C 17 0)), (1, .int a1)]) hx hb dX8_isOnRing_1 rfl hl (by decide) rfl (fun ls hl => ?_)
  refine lv_iconst (v := (0 : Int32)) hx hb dX8_isOnRing_2 (by decide) ?_
  refine lv_istore_n (lv' := [(3, .int (0 : Int32)), (2, .int (1 : Int32)), (0, .ref (sx_ad C 17 0)), (1, .int a1)]) hx hb dX8_isOnRing_3 rfl hl (by decide) rfl (fun ls hl => ?_)
  refine lv_iconst (v := (0 : Int32)) hx hb dX8_isOnRing_4 (by decide) ?_
  refine lv_istore (lv' := [(4, .int (0 : Int32)), (3, .int (0 : Int32)), (2, .int (1 : Int32)), (0, .ref (sx_ad C 17 0)), (1, .int a1)]) hx hb dX8_isOnRing_5 hl (by decide) rfl (fun ls hl => ?_)
  refine hf8_isOnRing_L7 a1 (1 : Int32) (0 : Int32) _ 5000 ?_ (0 : Int32) M0 H locs ls (lv_sub hl [3, 4, 2, 1, 0] rfl) hP hS h
  · intro M4 H locs ls hl hP hS h
    refine lv_aload_n hx hb dX8_isOnRing_29 rfl (lv_at hl 0 rfl) ?_
    refine gf_X8_44 X hP (by decide) dX8_isOnRing_30 ?_
    refine lv_iconst (v := (0 : Int32)) hx hb dX8_isOnRing_33 (by decide) ?_
    refine lv_iload_n hx hb dX8_isOnRing_34 rfl (lv_at hl 1 rfl) ?_
    refine sx_iast X hG hP hS 29 0 24 (by decide) (fun _ _ => rfl) dX8_isOnRing_35 h (fun M5 H locs h hP hS => ?_)
    refine lv_iconst (v := (0 : Int32)) hx hb dX8_isOnRing_36 (by decide) ?_
    refine lv_istore (lv' := [(4, .int (0 : Int32)), (0, .ref (sx_ad C 17 0)), (1, .int a1), (2, .int (1 : Int32)), (3, .int (0 : Int32))]) hx hb dX8_isOnRing_37 hl (by decide) rfl (fun ls hl => ?_)
    exact hf8_isOnRing_L39 a1 5000 (1 : Int32) (0 : Int32) (0 : Int32) M5 H locs ls (lv_sub hl [1, 2, 3, 4, 0] rfl) hP hS h
set_option maxRecDepth 100000 in
theorem ct_8_isOnRing (l : Launch) (C : sx_C) (hG : sx_G C) (a1 : Int32) (M0 : sx_M) (r : Int32) (M' : sx_M) (h : f8_isOnRing a1 M0 = some (r, M')) : Met l yX8_isOnRing (.code yX8_isOnRing cX8_isOnRing 8 (some .boolean) :: sx_T) ({ frames := 1, cells := 0, slots := 0, locals := 21 } : Room) (sx_Pc C M0 [.ref (sx_ad C 17 0), .int a1]) (sx_Q C (some (.int r)) M') 0 0 (sx_A C) := by
  refine Met.ofW (cc := cX8_isOnRing) (maxL := 8) (ret := (some .boolean)) (by decide) rfl ?_
  intro p e s m args below meth c s₁ B hml hv
  obtain ⟨rfl, hz, hP, hK⟩ := hv
  have hl := lv_entry ([.ref (sx_ad C 17 0), .int a1]) (n := 8) (Nat.le_of_ble_eq_true rfl)
  rw [lg_entry_eq]
  generalize (lg_sl ([.ref (sx_ad C 17 0), .int a1]) ++ List.replicate (8 - (lg_sl ([.ref (sx_ad C 17 0), .int a1])).length) Slot.unset).toArray = ls at hl ⊢
  exact wk_8_isOnRing ⟨B.exec, B.bytes, hml, findClass_of_methodNamed B.named, fun w hw => atoms_spec B.pre w (List.mem_cons_of_mem _ hw), hK⟩ B.returns B.notSynchronized hG hz ⟨Nat.zero_le _, Nat.zero_le _⟩ ⟨Nat.le_refl _, Nat.le_refl _⟩ a1 M0 r M' h hl hP va_S.rf
theorem cl_X8_236 (X : sx_X C p m c cc nL s args RX8) (hG : sx_G C) (hP : sx_W C M0 H) (hz : sx_sz C ≤ H0.size) (hS : va_S (sx_A C) H0 H locs) {a1 : Int32} {r : Int32} {M' : sx_M} (h : f8_isOnRing a1 M0 = some (r, M')) (hsz : ls.size = nL) (hdg : decode cc pc = .ok (.invokevirtual 236, 3)) (hcs : cells ≤ R.cells ∧ slots ≤ R.slots) (hR : 1 + 1 ≤ R.frames ∧ 8 + (8 + 11) + 21 ≤ R.locals) (hrest : (rest.map fun v => v.category).sum ≤ 8) (kk : ∀ (H1 : Heap) (locs1 : List Loc), sx_W C M' H1 → va_S (sx_A C) H0 H1 locs1 → W p l e R s m args below meth c H1 locs1 cells slots Q (F0 m (pc + 3) ls ((.int r) :: rest))) : W p l e R s m args below meth c H locs cells slots Q (F0 m pc ls (.int a1 :: .ref (sx_ad C 17 0) :: rest)) :=
  sx_callV (n := 1) (As := [.int a1]) (k0 := 17) (s0 := 0) X hP hz hS (by decide) rfl rfl (sx_goodV tw_1282 tw_1284 tw_50 tw_71 tw_1285) (by decide +kernel) rfl rfl hR (ct_8_isOnRing l C hG a1 M0 r M' h) rfl rfl hrest hsz hdg hcs kk
-- StringShedModel.rings()I
def f8_rings_L17  : Nat → Int32 → Int32 → sx_M → Option (Int32 × sx_M)
  | 0, _, _, _ => none
  | n + 1, x1, x2, M =>
    if sx_in (0 : Int32) 247 then
    sx_bd (M.1 20 0 ((0 : Int32)).toNatClampNeg) fun v3 =>
    if v3 ≤ x2 then
      some (x1, M)
    else
      (f8_isPart 20 x2 M).bind fun v5 =>
      sx_bd (fun (v6 : Int32) (M7 : sx_M) =>
        sx_bd (x1 + v6) fun v8 =>
        sx_bd (x2 + (1 : Int32)) fun v9 =>
        f8_rings_L17 n v8 v9 M7) fun j63 =>
      sx_bd (fun (M10 : sx_M) =>
        j63 (0 : Int32) M10) fun j62 =>
      if v5 = 0 then
        j62 M
      else
        if sx_in x2 24 then
        sx_bd (M.1 25 0 (x2).toNatClampNeg) fun v12 =>
        if v12 = (99 : Int32) then
          sx_b2 (f8_isOnRing x2 M) fun v14 M15 =>
          if v14 = 0 then
            j62 M15
          else
            j63 (1 : Int32) M15
        else
          j62 M
        else none
    else none
def f8_rings  (M0 : sx_M) : Option (Int32 × sx_M) :=
  sx_bd (sx_set M0 17 0 0 (0 : Int32)) fun M1 =>
  (f8_lay 20 M1).bind fun M2 =>
  f8_rings_L17 
    5000 (0 : Int32) (0 : Int32) M2
set_option maxRecDepth 100000 in
set_option maxHeartbeats 4000000 in
theorem wk_8_rings (X : sx_X C p m c cX8_rings 3 s args RX8) (hr : meth.sig.returnType = (some .int)) (hlocks : meth.locks = false) (hG : sx_G C) (hz : sx_sz C ≤ s.heap.size) (hcs : 0 ≤ R.cells ∧ 0 ≤ R.slots) (hR : 3 ≤ R.frames ∧ 72 ≤ R.locals) (M0 : sx_M) (r : Int32) (M' : sx_M) (h : f8_rings M0 = some (r, M')) (hl : lv_has ls 3 [(0, .ref (sx_ad C 17 0))]) (hP : sx_W C M0 H) (hS : va_S (sx_A C) s.heap H locs) : W p l e R s m args below meth c H locs 0 0 (sx_Z C (some (.int r)) M' below args s) (F0 m 0 ls []) := by
  obtain ⟨hx, hb, hml, hown, hts, hK⟩ := id X
  rw [f8_rings] at h
  have hf8_rings_L17 : ∀ (n : Nat) (x1 : Int32) (x2 : Int32) (M : sx_M) (H : Heap) (locs : List Loc) (ls : Array Slot), lv_has ls 3 [(0, .ref (sx_ad C 17 0)), (1, .int x1), (2, .int x2)] → sx_W C M H → va_S (sx_A C) s.heap H locs → f8_rings_L17 n x1 x2 M = some (r, M') → W p l e R s m args below meth c H locs 0 0 (sx_Z C (some (.int r)) M' below args s) (F0 m 17 ls []) := by
    intro n
    induction n with
    | zero => intro x1 x2 M H locs ls hl hP hS h; exact absurd (show (none : Option (Int32 × sx_M)) = some (r, M') from h) (fun q => nomatch q)
    | succ n ih =>
      intro x1 x2 M H locs ls hl hP hS h
      rw [f8_rings_L17] at h
      refine lv_iload_n hx hb dX8_rings_17 rfl (lv_at hl 2 rfl) ?_
      refine lv_aload_n hx hb dX8_rings_18 rfl (lv_at hl 0 rfl) ?_
      refine gf_X8_16 X hP (by decide) dX8_rings_19 ?_
      refine lv_iconst (v := (0 : Int32)) hx hb dX8_rings_22 (by decide) ?_
      refine sx_iald X hP 20 0 247 (by decide) (fun _ _ => rfl) dX8_rings_23 h (fun v3 h => ?_)
      refine lv_icmp_ge (tgt := 71) hx hb dX8_rings_24 (by decide) (fun c4 => ?_) (fun c4 => ?_)
      · replace h := sx_ifp h c4
        refine lv_iload_n hx hb dX8_rings_71 rfl (lv_at hl 1 rfl) ?_
        exact sx_iretM X hr hlocks hS hP h dX8_rings_72
      · replace h := sx_ifn h c4
        refine lv_iload_n hx hb dX8_rings_27 rfl (lv_at hl 1 rfl) ?_
        refine lv_aload_n hx hb dX8_rings_28 rfl (lv_at hl 0 rfl) ?_
        refine gf_X8_16 X hP (by decide) dX8_rings_29 ?_
        refine lv_iload_n hx hb dX8_rings_32 rfl (lv_at hl 2 rfl) ?_
        obtain ⟨v5, e_v5, h⟩ := sx_bnd h
        refine cl_X8_74 X hG hP hz hS sx_row20 e_v5 hl.1 dX8_rings_33 hcs ⟨Nat.le_trans (by decide) hR.1, Nat.le_trans (by decide) hR.2⟩ (Nat.le_of_ble_eq_true rfl) (fun H locs hP hS => ?_)
        obtain ⟨j63, e_j63, h⟩ := sx_nm h
        have hj63 : ∀ (v6 : Int32) (M7 : sx_M) (H : Heap) (locs : List Loc) (ls : Array Slot), lv_has ls 3 [(0, .ref (sx_ad C 17 0)), (2, .int x2)] → sx_W C M7 H → va_S (sx_A C) s.heap H locs → j63 v6 M7 = some (r, M') → W p l e R s m args below meth c H locs 0 0 (sx_Z C (some (.int r)) M' below args s) (F0 m 63 ls [.int v6, .int x1]) := by
          intro v6 M7 H locs ls hl hP hS h
          subst e_j63
          refine lv_iadd hx hb dX8_rings_63 ?_
          obtain ⟨v8, e_v8, h⟩ := sx_nm h
          rw [e_v8]
          refine lv_istore_n (lv' := [(1, .int v8), (0, .ref (sx_ad C 17 0)), (2, .int x2)]) hx hb dX8_rings_64 rfl hl (by decide) rfl (fun ls hl => ?_)
          obtain ⟨v9, e_v9, h⟩ := sx_nm h
          refine lv_iinc (v := v9) (lv' := [(2, .int v9), (1, .int v8), (0, .ref (sx_ad C 17 0))]) hx hb dX8_rings_65 hl (k := 2) rfl (by rw [← e_v9]; rfl) (by decide) rfl (fun ls hl => ?_)
          refine lv_goto (tgt := 17) hx hb dX8_rings_68 (by decide) ?_
          exact ih v8 v9 M7 H locs ls (lv_sub hl [2, 1, 0] rfl) hP hS h
        clear e_j63
        obtain ⟨j62, e_j62, h⟩ := sx_nm h
        have hj62 : ∀ (M10 : sx_M) (H : Heap) (locs : List Loc) (ls : Array Slot), lv_has ls 3 [(0, .ref (sx_ad C 17 0)), (2, .int x2)] → sx_W C M10 H → va_S (sx_A C) s.heap H locs → j62 M10 = some (r, M') → W p l e R s m args below meth c H locs 0 0 (sx_Z C (some (.int r)) M' below args s) (F0 m 62 ls [.int x1]) := by
          intro M10 H locs ls hl hP hS h
          subst e_j62
          refine lv_iconst (v := (0 : Int32)) hx hb dX8_rings_62 (by decide) ?_
          exact hj63 (0 : Int32) M10 H locs ls (lv_sub hl [0, 1] rfl) hP hS h
        clear e_j62
        refine lv_if_eq (tgt := 62) hx hb dX8_rings_36 (by decide) (fun c11 => ?_) (fun c11 => ?_)
        · replace h := sx_ifp h c11
          exact hj62 M H locs ls (lv_sub hl [0, 2] rfl) hP hS h
        · replace h := sx_ifn h c11
          refine lv_aload_n hx hb dX8_rings_39 rfl (lv_at hl 0 rfl) ?_
          refine gf_X8_32 X hP (by decide) dX8_rings_40 ?_
          refine lv_iload_n hx hb dX8_rings_43 rfl (lv_at hl 2 rfl) ?_
          refine sx_iald X hP 25 0 24 (by decide) (fun _ _ => rfl) dX8_rings_44 h (fun v12 h => ?_)
          refine lv_bipush (v := (99 : Int32)) hx hb dX8_rings_45 (by decide) ?_
          refine lv_icmp_ne (tgt := 62) hx hb dX8_rings_47 (by decide) (fun c13 => ?_) (fun c13 => ?_)
          · replace h := sx_ifn h c13
            exact hj62 M H locs ls (lv_sub hl [0, 2] rfl) hP hS h
          · replace h := sx_ifp h c13
            refine lv_aload_n hx hb dX8_rings_50 rfl (lv_at hl 0 rfl) ?_
            refine lv_iload_n hx hb dX8_rings_51 rfl (lv_at hl 2 rfl) ?_
            obtain ⟨v14, M15, e_v14, h⟩ := sx_bnd2 h
            refine cl_X8_236 X hG hP hz hS  e_v14 hl.1 dX8_rings_52 hcs ⟨Nat.le_trans (by decide) hR.1, Nat.le_trans (by decide) hR.2⟩ (Nat.le_of_ble_eq_true rfl) (fun H locs hP hS => ?_)
            refine lv_if_eq (tgt := 62) hx hb dX8_rings_55 (by decide) (fun c16 => ?_) (fun c16 => ?_)
            · replace h := sx_ifp h c16
              exact hj62 M15 H locs ls (lv_sub hl [0, 2] rfl) hP hS h
            · replace h := sx_ifn h c16
              refine lv_iconst (v := (1 : Int32)) hx hb dX8_rings_58 (by decide) ?_
              refine lv_goto (tgt := 63) hx hb dX8_rings_59 (by decide) ?_
              exact hj63 (1 : Int32) M15 H locs ls (lv_sub hl [0, 2] rfl) hP hS h
  refine lv_aload_n hx hb dX8_rings_0 rfl (lv_at hl 0 rfl) ?_
  refine lv_iconst (v := (0 : Int32)) hx hb dX8_rings_1 (by decide) ?_
  refine pf_X8_47 X hG hP hS (by decide) dX8_rings_2 h (fun M1 H locs h hP hS => ?_)
  refine lv_aload_n hx hb dX8_rings_5 rfl (lv_at hl 0 rfl) ?_
  refine lv_aload_n hx hb dX8_rings_6 rfl (lv_at hl 0 rfl) ?_
  refine gf_X8_16 X hP (by decide) dX8_rings_7 ?_
  obtain ⟨M2, e_M2, h⟩ := sx_bnd h
  refine cl_X8_81 X hG hP hz hS sx_row20 e_M2 hl.1 dX8_rings_10 hcs ⟨Nat.le_trans (by decide) hR.1, Nat.le_trans (by decide) hR.2⟩ (Nat.le_of_ble_eq_true rfl) (fun H locs hP hS => ?_)
  refine lv_iconst (v := (0 : Int32)) hx hb dX8_rings_13 (by decide) ?_
  refine lv_istore_n (lv' := [(1, .int (0 : Int32)), (0, .ref (sx_ad C 17 0))]) hx hb dX8_rings_14 rfl hl (by decide) rfl (fun ls hl => ?_)
  refine lv_iconst (v := (0 : Int32)) hx hb dX8_rings_15 (by decide) ?_
  refine lv_istore_n (lv' := [(2, .int (0 : Int32)), (1, .int (0 : Int32)), (0, .ref (sx_ad C 17 0))]) hx hb dX8_rings_16 rfl hl (by decide) rfl (fun ls hl => ?_)
  exact hf8_rings_L17 5000 (0 : Int32) (0 : Int32) M2 H locs ls (lv_sub hl [2, 1, 0] rfl) hP hS h
set_option maxRecDepth 100000 in
theorem ct_8_rings (l : Launch) (C : sx_C) (hG : sx_G C) (M0 : sx_M) (r : Int32) (M' : sx_M) (h : f8_rings M0 = some (r, M')) : Met l yX8_rings (.code yX8_rings cX8_rings 3 (some .int) :: sx_T) ({ frames := 3, cells := 0, slots := 0, locals := 72 } : Room) (sx_Pc C M0 [.ref (sx_ad C 17 0)]) (sx_Q C (some (.int r)) M') 0 0 (sx_A C) := by
  refine Met.ofW (cc := cX8_rings) (maxL := 3) (ret := (some .int)) (by decide) rfl ?_
  intro p e s m args below meth c s₁ B hml hv
  obtain ⟨rfl, hz, hP, hK⟩ := hv
  have hl := lv_entry ([.ref (sx_ad C 17 0)]) (n := 3) (Nat.le_of_ble_eq_true rfl)
  rw [lg_entry_eq]
  generalize (lg_sl ([.ref (sx_ad C 17 0)]) ++ List.replicate (3 - (lg_sl ([.ref (sx_ad C 17 0)])).length) Slot.unset).toArray = ls at hl ⊢
  exact wk_8_rings ⟨B.exec, B.bytes, hml, findClass_of_methodNamed B.named, fun w hw => atoms_spec B.pre w (List.mem_cons_of_mem _ hw), hK⟩ B.returns B.notSynchronized hG hz ⟨Nat.zero_le _, Nat.zero_le _⟩ ⟨Nat.le_refl _, Nat.le_refl _⟩ M0 r M' h hl hP va_S.rf
theorem cl_L_168 (X : sx_X C p m c cc nL s args RL) (hG : sx_G C) (hP : sx_W C M0 H) (hz : sx_sz C ≤ H0.size) (hS : va_S (sx_A C) H0 H locs) {r : Int32} {M' : sx_M} (h : f8_rings M0 = some (r, M')) (hsz : ls.size = nL) (hdg : decode cc pc = .ok (.invokevirtual 168, 3)) (hcs : cells ≤ R.cells ∧ slots ≤ R.slots) (hR : 3 + 1 ≤ R.frames ∧ 8 + (3 + 11) + 72 ≤ R.locals) (hrest : (rest.map fun v => v.category).sum ≤ 8) (kk : ∀ (H1 : Heap) (locs1 : List Loc), sx_W C M' H1 → va_S (sx_A C) H0 H1 locs1 → W p l e R s m args below meth c H1 locs1 cells slots Q (F0 m (pc + 3) ls ((.int r) :: rest))) : W p l e R s m args below meth c H locs cells slots Q (F0 m pc ls (.ref (sx_ad C 17 0) :: rest)) :=
  sx_callV (n := 0) (As := []) (k0 := 17) (s0 := 0) X hP hz hS (by decide) rfl rfl (sx_goodV tw_1278 tw_1279 tw_1280 tw_71 tw_1281) (by decide +kernel) rfl rfl hR (ct_8_rings l C hG M0 r M' h) rfl rfl hrest hsz hdg hcs kk
-- StringShedModel.endTrial()I
def f8_endTrial_L2  : Nat → Int32 → sx_M → Option (Int32 × sx_M)
  | 0, _, _ => none
  | n + 1, x1, M =>
    if sx_in (3 : Int32) 247 then
    sx_bd (M.1 21 0 ((3 : Int32)).toNatClampNeg) fun v1 =>
    if v1 = (1 : Int32) then
      sx_b2 (f8_stepIn 21 M) fun v3 M4 =>
      f8_endTrial_L2 n v3 M4
    else
      some ((-9 : Int32) - x1, M)
    else none
def f8_endTrial  (M0 : sx_M) : Option (Int32 × sx_M) :=
  f8_endTrial_L2 
    5000 (0 : Int32) M0
set_option maxRecDepth 100000 in
set_option maxHeartbeats 4000000 in
theorem wk_8_endTrial (X : sx_X C p m c cX8_endTrial 2 s args RX8) (hr : meth.sig.returnType = (some .int)) (hlocks : meth.locks = false) (hG : sx_G C) (hz : sx_sz C ≤ s.heap.size) (hcs : 0 ≤ R.cells ∧ 0 ≤ R.slots) (hR : 5 ≤ R.frames ∧ 112 ≤ R.locals) (M0 : sx_M) (r : Int32) (M' : sx_M) (h : f8_endTrial M0 = some (r, M')) (hl : lv_has ls 2 [(0, .ref (sx_ad C 17 0))]) (hP : sx_W C M0 H) (hS : va_S (sx_A C) s.heap H locs) : W p l e R s m args below meth c H locs 0 0 (sx_Z C (some (.int r)) M' below args s) (F0 m 0 ls []) := by
  obtain ⟨hx, hb, hml, hown, hts, hK⟩ := id X
  rw [f8_endTrial] at h
  have hf8_endTrial_L2 : ∀ (n : Nat) (x1 : Int32) (M : sx_M) (H : Heap) (locs : List Loc) (ls : Array Slot), lv_has ls 2 [(0, .ref (sx_ad C 17 0)), (1, .int x1)] → sx_W C M H → va_S (sx_A C) s.heap H locs → f8_endTrial_L2 n x1 M = some (r, M') → W p l e R s m args below meth c H locs 0 0 (sx_Z C (some (.int r)) M' below args s) (F0 m 2 ls []) := by
    intro n
    induction n with
    | zero => intro x1 M H locs ls hl hP hS h; exact absurd (show (none : Option (Int32 × sx_M)) = some (r, M') from h) (fun q => nomatch q)
    | succ n ih =>
      intro x1 M H locs ls hl hP hS h
      rw [f8_endTrial_L2] at h
      refine lv_aload_n hx hb dX8_endTrial_2 rfl (lv_at hl 0 rfl) ?_
      refine gf_X8_19 X hP (by decide) dX8_endTrial_3 ?_
      refine lv_iconst (v := (3 : Int32)) hx hb dX8_endTrial_6 (by decide) ?_
      refine sx_iald X hP 21 0 247 (by decide) (fun _ _ => rfl) dX8_endTrial_7 h (fun v1 h => ?_)
      refine lv_iconst (v := (1 : Int32)) hx hb dX8_endTrial_8 (by decide) ?_
      refine lv_icmp_ne (tgt := 23) hx hb dX8_endTrial_9 (by decide) (fun c2 => ?_) (fun c2 => ?_)
      · replace h := sx_ifn h c2
        refine lv_bipush (v := (-9 : Int32)) hx hb dX8_endTrial_23 (by decide) ?_
        refine lv_iload_n hx hb dX8_endTrial_25 rfl (lv_at hl 1 rfl) ?_
        refine lv_isub hx hb dX8_endTrial_26 ?_
        exact sx_iretM X hr hlocks hS hP h dX8_endTrial_27
      · replace h := sx_ifp h c2
        refine lv_aload_n hx hb dX8_endTrial_12 rfl (lv_at hl 0 rfl) ?_
        refine gf_X8_19 X hP (by decide) dX8_endTrial_13 ?_
        obtain ⟨v3, M4, e_v3, h⟩ := sx_bnd2 h
        refine cl_X8_172 X hG hP hz hS sx_row21 e_v3 hl.1 dX8_endTrial_16 hcs ⟨Nat.le_trans (by decide) hR.1, Nat.le_trans (by decide) hR.2⟩ (Nat.le_of_ble_eq_true rfl) (fun H locs hP hS => ?_)
        refine lv_istore_n (lv' := [(1, .int v3), (0, .ref (sx_ad C 17 0))]) hx hb dX8_endTrial_19 rfl hl (by decide) rfl (fun ls hl => ?_)
        refine lv_goto (tgt := 2) hx hb dX8_endTrial_20 (by decide) ?_
        exact ih v3 M4 H locs ls (lv_sub hl [1, 0] rfl) hP hS h
  refine lv_iconst (v := (0 : Int32)) hx hb dX8_endTrial_0 (by decide) ?_
  refine lv_istore_n (lv' := [(1, .int (0 : Int32)), (0, .ref (sx_ad C 17 0))]) hx hb dX8_endTrial_1 rfl hl (by decide) rfl (fun ls hl => ?_)
  exact hf8_endTrial_L2 5000 (0 : Int32) M0 H locs ls (lv_sub hl [1, 0] rfl) hP hS h
set_option maxRecDepth 100000 in
theorem ct_8_endTrial (l : Launch) (C : sx_C) (hG : sx_G C) (M0 : sx_M) (r : Int32) (M' : sx_M) (h : f8_endTrial M0 = some (r, M')) : Met l yX8_endTrial (.code yX8_endTrial cX8_endTrial 2 (some .int) :: sx_T) ({ frames := 5, cells := 0, slots := 0, locals := 112 } : Room) (sx_Pc C M0 [.ref (sx_ad C 17 0)]) (sx_Q C (some (.int r)) M') 0 0 (sx_A C) := by
  refine Met.ofW (cc := cX8_endTrial) (maxL := 2) (ret := (some .int)) (by decide) rfl ?_
  intro p e s m args below meth c s₁ B hml hv
  obtain ⟨rfl, hz, hP, hK⟩ := hv
  have hl := lv_entry ([.ref (sx_ad C 17 0)]) (n := 2) (Nat.le_of_ble_eq_true rfl)
  rw [lg_entry_eq]
  generalize (lg_sl ([.ref (sx_ad C 17 0)]) ++ List.replicate (2 - (lg_sl ([.ref (sx_ad C 17 0)])).length) Slot.unset).toArray = ls at hl ⊢
  exact wk_8_endTrial ⟨B.exec, B.bytes, hml, findClass_of_methodNamed B.named, fun w hw => atoms_spec B.pre w (List.mem_cons_of_mem _ hw), hK⟩ B.returns B.notSynchronized hG hz ⟨Nat.zero_le _, Nat.zero_le _⟩ ⟨Nat.le_refl _, Nat.le_refl _⟩ M0 r M' h hl hP va_S.rf
theorem cl_X8_239 (X : sx_X C p m c cc nL s args RX8) (hG : sx_G C) (hP : sx_W C M0 H) (hz : sx_sz C ≤ H0.size) (hS : va_S (sx_A C) H0 H locs) {r : Int32} {M' : sx_M} (h : f8_endTrial M0 = some (r, M')) (hsz : ls.size = nL) (hdg : decode cc pc = .ok (.invokevirtual 239, 3)) (hcs : cells ≤ R.cells ∧ slots ≤ R.slots) (hR : 5 + 1 ≤ R.frames ∧ 8 + (2 + 11) + 112 ≤ R.locals) (hrest : (rest.map fun v => v.category).sum ≤ 8) (kk : ∀ (H1 : Heap) (locs1 : List Loc), sx_W C M' H1 → va_S (sx_A C) H0 H1 locs1 → W p l e R s m args below meth c H1 locs1 cells slots Q (F0 m (pc + 3) ls ((.int r) :: rest))) : W p l e R s m args below meth c H locs cells slots Q (F0 m pc ls (.ref (sx_ad C 17 0) :: rest)) :=
  sx_callV (n := 0) (As := []) (k0 := 17) (s0 := 0) X hP hz hS (by decide) rfl rfl (sx_goodV tw_1290 tw_1292 tw_51 tw_71 tw_1293) (by decide +kernel) rfl rfl hR (ct_8_endTrial l C hG M0 r M' h) rfl rfl hrest hsz hdg hcs kk
-- StringShedModel.takes()I
def f8_takes  (M0 : sx_M) : Option (Int32 × sx_M) :=
  sx_bd (sx_set M0 17 0 0 (0 : Int32)) fun M1 =>
  (f8_tryIt M1).bind fun M2 =>
  if sx_in (3 : Int32) 247 then
  sx_bd (M2.1 21 0 ((3 : Int32)).toNatClampNeg) fun v3 =>
  sx_bd (fun (M4 : sx_M) =>
    sx_b2 (f8_endTrial M4) fun v5 M6 =>
    some (v5, M6)) fun j26 =>
  if v3 = 0 then
    sx_b2 (f8_beginIn 21 M2) fun v8 M9 =>
    j26 M9
  else
    j26 M2
  else none
set_option maxRecDepth 100000 in
set_option maxHeartbeats 4000000 in
theorem wk_8_takes (X : sx_X C p m c cX8_takes 1 s args RX8) (hr : meth.sig.returnType = (some .int)) (hlocks : meth.locks = false) (hG : sx_G C) (hz : sx_sz C ≤ s.heap.size) (hcs : 0 ≤ R.cells ∧ 0 ≤ R.slots) (hR : 6 ≤ R.frames ∧ 133 ≤ R.locals) (M0 : sx_M) (r : Int32) (M' : sx_M) (h : f8_takes M0 = some (r, M')) (hl : lv_has ls 1 [(0, .ref (sx_ad C 17 0))]) (hP : sx_W C M0 H) (hS : va_S (sx_A C) s.heap H locs) : W p l e R s m args below meth c H locs 0 0 (sx_Z C (some (.int r)) M' below args s) (F0 m 0 ls []) := by
  obtain ⟨hx, hb, hml, hown, hts, hK⟩ := id X
  rw [f8_takes] at h
  refine lv_aload_n hx hb dX8_takes_0 rfl (lv_at hl 0 rfl) ?_
  refine lv_iconst (v := (0 : Int32)) hx hb dX8_takes_1 (by decide) ?_
  refine pf_X8_47 X hG hP hS (by decide) dX8_takes_2 h (fun M1 H locs h hP hS => ?_)
  refine lv_aload_n hx hb dX8_takes_5 rfl (lv_at hl 0 rfl) ?_
  obtain ⟨M2, e_M2, h⟩ := sx_bnd h
  refine cl_X8_227 X hG hP hz hS  e_M2 hl.1 dX8_takes_6 hcs ⟨Nat.le_trans (by decide) hR.1, Nat.le_trans (by decide) hR.2⟩ (Nat.le_of_ble_eq_true rfl) (fun H locs hP hS => ?_)
  refine lv_aload_n hx hb dX8_takes_9 rfl (lv_at hl 0 rfl) ?_
  refine gf_X8_19 X hP (by decide) dX8_takes_10 ?_
  refine lv_iconst (v := (3 : Int32)) hx hb dX8_takes_13 (by decide) ?_
  refine sx_iald X hP 21 0 247 (by decide) (fun _ _ => rfl) dX8_takes_14 h (fun v3 h => ?_)
  obtain ⟨j26, e_j26, h⟩ := sx_nm h
  have hj26 : ∀ (M4 : sx_M) (H : Heap) (locs : List Loc) (ls : Array Slot), lv_has ls 1 [(0, .ref (sx_ad C 17 0))] → sx_W C M4 H → va_S (sx_A C) s.heap H locs → j26 M4 = some (r, M') → W p l e R s m args below meth c H locs 0 0 (sx_Z C (some (.int r)) M' below args s) (F0 m 26 ls []) := by
    intro M4 H locs ls hl hP hS h
    subst e_j26
    refine lv_aload_n hx hb dX8_takes_26 rfl (lv_at hl 0 rfl) ?_
    obtain ⟨v5, M6, e_v5, h⟩ := sx_bnd2 h
    refine cl_X8_239 X hG hP hz hS  e_v5 hl.1 dX8_takes_27 hcs ⟨Nat.le_trans (by decide) hR.1, Nat.le_trans (by decide) hR.2⟩ (Nat.le_of_ble_eq_true rfl) (fun H locs hP hS => ?_)
    exact sx_iretM X hr hlocks hS hP h dX8_takes_30
  clear e_j26
  refine lv_if_ne (tgt := 26) hx hb dX8_takes_15 (by decide) (fun c7 => ?_) (fun c7 => ?_)
  · replace h := sx_ifn h c7
    exact hj26 M2 H locs ls (lv_sub hl [0] rfl) hP hS h
  · replace h := sx_ifp h c7
    refine lv_aload_n hx hb dX8_takes_18 rfl (lv_at hl 0 rfl) ?_
    refine gf_X8_19 X hP (by decide) dX8_takes_19 ?_
    obtain ⟨v8, M9, e_v8, h⟩ := sx_bnd2 h
    refine cl_X8_169 X hG hP hz hS sx_row21 e_v8 hl.1 dX8_takes_22 hcs ⟨Nat.le_trans (by decide) hR.1, Nat.le_trans (by decide) hR.2⟩ (Nat.le_of_ble_eq_true rfl) (fun H locs hP hS => ?_)
    refine lv_pop hx hb dX8_takes_25 rfl ?_
    exact hj26 M9 H locs ls (lv_sub hl [0] rfl) hP hS h
set_option maxRecDepth 100000 in
theorem ct_8_takes (l : Launch) (C : sx_C) (hG : sx_G C) (M0 : sx_M) (r : Int32) (M' : sx_M) (h : f8_takes M0 = some (r, M')) : Met l yX8_takes (.code yX8_takes cX8_takes 1 (some .int) :: sx_T) ({ frames := 6, cells := 0, slots := 0, locals := 133 } : Room) (sx_Pc C M0 [.ref (sx_ad C 17 0)]) (sx_Q C (some (.int r)) M') 0 0 (sx_A C) := by
  refine Met.ofW (cc := cX8_takes) (maxL := 1) (ret := (some .int)) (by decide) rfl ?_
  intro p e s m args below meth c s₁ B hml hv
  obtain ⟨rfl, hz, hP, hK⟩ := hv
  have hl := lv_entry ([.ref (sx_ad C 17 0)]) (n := 1) (Nat.le_of_ble_eq_true rfl)
  rw [lg_entry_eq]
  generalize (lg_sl ([.ref (sx_ad C 17 0)]) ++ List.replicate (1 - (lg_sl ([.ref (sx_ad C 17 0)])).length) Slot.unset).toArray = ls at hl ⊢
  exact wk_8_takes ⟨B.exec, B.bytes, hml, findClass_of_methodNamed B.named, fun w hw => atoms_spec B.pre w (List.mem_cons_of_mem _ hw), hK⟩ B.returns B.notSynchronized hG hz ⟨Nat.zero_le _, Nat.zero_le _⟩ ⟨Nat.le_refl _, Nat.le_refl _⟩ M0 r M' h hl hP va_S.rf
theorem cl_L_172 (X : sx_X C p m c cc nL s args RL) (hG : sx_G C) (hP : sx_W C M0 H) (hz : sx_sz C ≤ H0.size) (hS : va_S (sx_A C) H0 H locs) {r : Int32} {M' : sx_M} (h : f8_takes M0 = some (r, M')) (hsz : ls.size = nL) (hdg : decode cc pc = .ok (.invokevirtual 172, 3)) (hcs : cells ≤ R.cells ∧ slots ≤ R.slots) (hR : 6 + 1 ≤ R.frames ∧ 8 + (1 + 11) + 133 ≤ R.locals) (hrest : (rest.map fun v => v.category).sum ≤ 8) (kk : ∀ (H1 : Heap) (locs1 : List Loc), sx_W C M' H1 → va_S (sx_A C) H0 H1 locs1 → W p l e R s m args below meth c H1 locs1 cells slots Q (F0 m (pc + 3) ls ((.int r) :: rest))) : W p l e R s m args below meth c H locs cells slots Q (F0 m pc ls (.ref (sx_ad C 17 0) :: rest)) :=
  sx_callV (n := 0) (As := []) (k0 := 17) (s0 := 0) X hP hz hS (by decide) rfl rfl (sx_goodV tw_1286 tw_1287 tw_1288 tw_71 tw_1289) (by decide +kernel) rfl rfl hR (ct_8_takes l C hG M0 r M' h) rfl rfl hrest hsz hdg hcs kk
-- StringShedModel.spares()I
def f8_spares_L37 (M : sx_M) : Nat → Int32 → Int32 → Option (Int32 × sx_M)
  | 0, _, _ => none
  | n + 1, x1, x2 =>
    if sx_in (0 : Int32) 247 then
    sx_bd (M.1 20 0 ((0 : Int32)).toNatClampNeg) fun v8 =>
    if v8 ≤ x2 then
      some (x1, M)
    else
      (f8_isPart 20 x2 M).bind fun v10 =>
      sx_bd (fun (v11 : Int32) =>
        sx_bd (x1 + v11) fun v12 =>
        sx_bd (x2 + (1 : Int32)) fun v13 =>
        f8_spares_L37 M n v12 v13) fun j86 =>
      sx_bd (fun (_ : Unit) =>
        j86 (0 : Int32)) fun j85 =>
      if v10 = 0 then
        j85 ()
      else
        if sx_in x2 24 then
        sx_bd (M.1 25 0 (x2).toNatClampNeg) fun v15 =>
        if v15 = (99 : Int32) then
          (f8_isPart 21 x2 M).bind fun v17 =>
          if v17 = 0 then
            j85 ()
          else
            j86 (1 : Int32)
        else
          j85 ()
        else none
    else none
def f8_spares  (M0 : sx_M) : Option (Int32 × sx_M) :=
  sx_bd (sx_set M0 17 0 0 (0 : Int32)) fun M1 =>
  if sx_in (3 : Int32) 247 then
  sx_bd (M1.1 20 0 ((3 : Int32)).toNatClampNeg) fun v2 =>
  if v2 = 0 then
    some ((0 : Int32), M1)
  else
    (f8_tryIt M1).bind fun M4 =>
    sx_b2 (f8_endTrial M4) fun v5 M6 =>
    (f8_lay 20 M6).bind fun M7 =>
    f8_spares_L37 M7
      5000 (0 : Int32) (0 : Int32)
  else none
set_option maxRecDepth 100000 in
set_option maxHeartbeats 4000000 in
theorem wk_8_spares (X : sx_X C p m c cX8_spares 3 s args RX8) (hr : meth.sig.returnType = (some .int)) (hlocks : meth.locks = false) (hG : sx_G C) (hz : sx_sz C ≤ s.heap.size) (hcs : 0 ≤ R.cells ∧ 0 ≤ R.slots) (hR : 6 ≤ R.frames ∧ 133 ≤ R.locals) (M0 : sx_M) (r : Int32) (M' : sx_M) (h : f8_spares M0 = some (r, M')) (hl : lv_has ls 3 [(0, .ref (sx_ad C 17 0))]) (hP : sx_W C M0 H) (hS : va_S (sx_A C) s.heap H locs) : W p l e R s m args below meth c H locs 0 0 (sx_Z C (some (.int r)) M' below args s) (F0 m 0 ls []) := by
  obtain ⟨hx, hb, hml, hown, hts, hK⟩ := id X
  rw [f8_spares] at h
  have hf8_spares_L37 : ∀ (M : sx_M) (n : Nat) (x1 : Int32) (x2 : Int32) (H : Heap) (locs : List Loc) (ls : Array Slot), lv_has ls 3 [(0, .ref (sx_ad C 17 0)), (1, .int x1), (2, .int x2)] → sx_W C M H → va_S (sx_A C) s.heap H locs → f8_spares_L37 M n x1 x2 = some (r, M') → W p l e R s m args below meth c H locs 0 0 (sx_Z C (some (.int r)) M' below args s) (F0 m 37 ls []) := by
    intro M n
    induction n with
    | zero => intro x1 x2 H locs ls hl hP hS h; exact absurd (show (none : Option (Int32 × sx_M)) = some (r, M') from h) (fun q => nomatch q)
    | succ n ih =>
      intro x1 x2 H locs ls hl hP hS h
      rw [f8_spares_L37] at h
      refine lv_iload_n hx hb dX8_spares_37 rfl (lv_at hl 2 rfl) ?_
      refine lv_aload_n hx hb dX8_spares_38 rfl (lv_at hl 0 rfl) ?_
      refine gf_X8_16 X hP (by decide) dX8_spares_39 ?_
      refine lv_iconst (v := (0 : Int32)) hx hb dX8_spares_42 (by decide) ?_
      refine sx_iald X hP 20 0 247 (by decide) (fun _ _ => rfl) dX8_spares_43 h (fun v8 h => ?_)
      refine lv_icmp_ge (tgt := 94) hx hb dX8_spares_44 (by decide) (fun c9 => ?_) (fun c9 => ?_)
      · replace h := sx_ifp h c9
        refine lv_iload_n hx hb dX8_spares_94 rfl (lv_at hl 1 rfl) ?_
        exact sx_iretM X hr hlocks hS hP h dX8_spares_95
      · replace h := sx_ifn h c9
        refine lv_iload_n hx hb dX8_spares_47 rfl (lv_at hl 1 rfl) ?_
        refine lv_aload_n hx hb dX8_spares_48 rfl (lv_at hl 0 rfl) ?_
        refine gf_X8_16 X hP (by decide) dX8_spares_49 ?_
        refine lv_iload_n hx hb dX8_spares_52 rfl (lv_at hl 2 rfl) ?_
        obtain ⟨v10, e_v10, h⟩ := sx_bnd h
        refine cl_X8_74 X hG hP hz hS sx_row20 e_v10 hl.1 dX8_spares_53 hcs ⟨Nat.le_trans (by decide) hR.1, Nat.le_trans (by decide) hR.2⟩ (Nat.le_of_ble_eq_true rfl) (fun H locs hP hS => ?_)
        obtain ⟨j86, e_j86, h⟩ := sx_nm h
        have hj86 : ∀ (v11 : Int32) (H : Heap) (locs : List Loc) (ls : Array Slot), lv_has ls 3 [(0, .ref (sx_ad C 17 0)), (2, .int x2)] → sx_W C M H → va_S (sx_A C) s.heap H locs → j86 v11 = some (r, M') → W p l e R s m args below meth c H locs 0 0 (sx_Z C (some (.int r)) M' below args s) (F0 m 86 ls [.int v11, .int x1]) := by
          intro v11 H locs ls hl hP hS h
          subst e_j86
          refine lv_iadd hx hb dX8_spares_86 ?_
          obtain ⟨v12, e_v12, h⟩ := sx_nm h
          rw [e_v12]
          refine lv_istore_n (lv' := [(1, .int v12), (0, .ref (sx_ad C 17 0)), (2, .int x2)]) hx hb dX8_spares_87 rfl hl (by decide) rfl (fun ls hl => ?_)
          obtain ⟨v13, e_v13, h⟩ := sx_nm h
          refine lv_iinc (v := v13) (lv' := [(2, .int v13), (1, .int v12), (0, .ref (sx_ad C 17 0))]) hx hb dX8_spares_88 hl (k := 2) rfl (by rw [← e_v13]; rfl) (by decide) rfl (fun ls hl => ?_)
          refine lv_goto (tgt := 37) hx hb dX8_spares_91 (by decide) ?_
          exact ih v12 v13 H locs ls (lv_sub hl [2, 1, 0] rfl) hP hS h
        clear e_j86
        obtain ⟨j85, e_j85, h⟩ := sx_nm h
        have hj85 : ∀ (H : Heap) (locs : List Loc) (ls : Array Slot), lv_has ls 3 [(0, .ref (sx_ad C 17 0)), (2, .int x2)] → sx_W C M H → va_S (sx_A C) s.heap H locs → j85 () = some (r, M') → W p l e R s m args below meth c H locs 0 0 (sx_Z C (some (.int r)) M' below args s) (F0 m 85 ls [.int x1]) := by
          intro  H locs ls hl hP hS h
          subst e_j85
          refine lv_iconst (v := (0 : Int32)) hx hb dX8_spares_85 (by decide) ?_
          exact hj86 (0 : Int32) H locs ls (lv_sub hl [0, 1] rfl) hP hS h
        clear e_j85
        refine lv_if_eq (tgt := 85) hx hb dX8_spares_56 (by decide) (fun c14 => ?_) (fun c14 => ?_)
        · replace h := sx_ifp h c14
          exact hj85 H locs ls (lv_sub hl [0, 2] rfl) hP hS h
        · replace h := sx_ifn h c14
          refine lv_aload_n hx hb dX8_spares_59 rfl (lv_at hl 0 rfl) ?_
          refine gf_X8_32 X hP (by decide) dX8_spares_60 ?_
          refine lv_iload_n hx hb dX8_spares_63 rfl (lv_at hl 2 rfl) ?_
          refine sx_iald X hP 25 0 24 (by decide) (fun _ _ => rfl) dX8_spares_64 h (fun v15 h => ?_)
          refine lv_bipush (v := (99 : Int32)) hx hb dX8_spares_65 (by decide) ?_
          refine lv_icmp_ne (tgt := 85) hx hb dX8_spares_67 (by decide) (fun c16 => ?_) (fun c16 => ?_)
          · replace h := sx_ifn h c16
            exact hj85 H locs ls (lv_sub hl [0, 2] rfl) hP hS h
          · replace h := sx_ifp h c16
            refine lv_aload_n hx hb dX8_spares_70 rfl (lv_at hl 0 rfl) ?_
            refine gf_X8_19 X hP (by decide) dX8_spares_71 ?_
            refine lv_iload_n hx hb dX8_spares_74 rfl (lv_at hl 2 rfl) ?_
            obtain ⟨v17, e_v17, h⟩ := sx_bnd h
            refine cl_X8_74 X hG hP hz hS sx_row21 e_v17 hl.1 dX8_spares_75 hcs ⟨Nat.le_trans (by decide) hR.1, Nat.le_trans (by decide) hR.2⟩ (Nat.le_of_ble_eq_true rfl) (fun H locs hP hS => ?_)
            refine lv_if_eq (tgt := 85) hx hb dX8_spares_78 (by decide) (fun c18 => ?_) (fun c18 => ?_)
            · replace h := sx_ifp h c18
              exact hj85 H locs ls (lv_sub hl [0, 2] rfl) hP hS h
            · replace h := sx_ifn h c18
              refine lv_iconst (v := (1 : Int32)) hx hb dX8_spares_81 (by decide) ?_
              refine lv_goto (tgt := 86) hx hb dX8_spares_82 (by decide) ?_
              exact hj86 (1 : Int32) H locs ls (lv_sub hl [0, 2] rfl) hP hS h
  refine lv_aload_n hx hb dX8_spares_0 rfl (lv_at hl 0 rfl) ?_
  refine lv_iconst (v := (0 : Int32)) hx hb dX8_spares_1 (by decide) ?_
  refine pf_X8_47 X hG hP hS (by decide) dX8_spares_2 h (fun M1 H locs h hP hS => ?_)
  refine lv_aload_n hx hb dX8_spares_5 rfl (lv_at hl 0 rfl) ?_
  refine gf_X8_16 X hP (by decide) dX8_spares_6 ?_
  refine lv_iconst (v := (3 : Int32)) hx hb dX8_spares_9 (by decide) ?_
  refine sx_iald X hP 20 0 247 (by decide) (fun _ _ => rfl) dX8_spares_10 h (fun v2 h => ?_)
  refine lv_if_ne (tgt := 16) hx hb dX8_spares_11 (by decide) (fun c3 => ?_) (fun c3 => ?_)
  · replace h := sx_ifn h c3
    refine lv_aload_n hx hb dX8_spares_16 rfl (lv_at hl 0 rfl) ?_
    obtain ⟨M4, e_M4, h⟩ := sx_bnd h
    refine cl_X8_227 X hG hP hz hS  e_M4 hl.1 dX8_spares_17 hcs ⟨Nat.le_trans (by decide) hR.1, Nat.le_trans (by decide) hR.2⟩ (Nat.le_of_ble_eq_true rfl) (fun H locs hP hS => ?_)
    refine lv_aload_n hx hb dX8_spares_20 rfl (lv_at hl 0 rfl) ?_
    obtain ⟨v5, M6, e_v5, h⟩ := sx_bnd2 h
    refine cl_X8_239 X hG hP hz hS  e_v5 hl.1 dX8_spares_21 hcs ⟨Nat.le_trans (by decide) hR.1, Nat.le_trans (by decide) hR.2⟩ (Nat.le_of_ble_eq_true rfl) (fun H locs hP hS => ?_)
    refine lv_pop hx hb dX8_spares_24 rfl ?_
    refine lv_aload_n hx hb dX8_spares_25 rfl (lv_at hl 0 rfl) ?_
    refine lv_aload_n hx hb dX8_spares_26 rfl (lv_at hl 0 rfl) ?_
    refine gf_X8_16 X hP (by decide) dX8_spares_27 ?_
    obtain ⟨M7, e_M7, h⟩ := sx_bnd h
    refine cl_X8_81 X hG hP hz hS sx_row20 e_M7 hl.1 dX8_spares_30 hcs ⟨Nat.le_trans (by decide) hR.1, Nat.le_trans (by decide) hR.2⟩ (Nat.le_of_ble_eq_true rfl) (fun H locs hP hS => ?_)
    refine lv_iconst (v := (0 : Int32)) hx hb dX8_spares_33 (by decide) ?_
    refine lv_istore_n (lv' := [(1, .int (0 : Int32)), (0, .ref (sx_ad C 17 0))]) hx hb dX8_spares_34 rfl hl (by decide) rfl (fun ls hl => ?_)
    refine lv_iconst (v := (0 : Int32)) hx hb dX8_spares_35 (by decide) ?_
    refine lv_istore_n (lv' := [(2, .int (0 : Int32)), (1, .int (0 : Int32)), (0, .ref (sx_ad C 17 0))]) hx hb dX8_spares_36 rfl hl (by decide) rfl (fun ls hl => ?_)
    exact hf8_spares_L37 M7 5000 (0 : Int32) (0 : Int32) H locs ls (lv_sub hl [2, 1, 0] rfl) hP hS h
  · replace h := sx_ifp h c3
    refine lv_iconst (v := (0 : Int32)) hx hb dX8_spares_14 (by decide) ?_
    exact sx_iretM X hr hlocks hS hP h dX8_spares_15
set_option maxRecDepth 100000 in
theorem ct_8_spares (l : Launch) (C : sx_C) (hG : sx_G C) (M0 : sx_M) (r : Int32) (M' : sx_M) (h : f8_spares M0 = some (r, M')) : Met l yX8_spares (.code yX8_spares cX8_spares 3 (some .int) :: sx_T) ({ frames := 6, cells := 0, slots := 0, locals := 133 } : Room) (sx_Pc C M0 [.ref (sx_ad C 17 0)]) (sx_Q C (some (.int r)) M') 0 0 (sx_A C) := by
  refine Met.ofW (cc := cX8_spares) (maxL := 3) (ret := (some .int)) (by decide) rfl ?_
  intro p e s m args below meth c s₁ B hml hv
  obtain ⟨rfl, hz, hP, hK⟩ := hv
  have hl := lv_entry ([.ref (sx_ad C 17 0)]) (n := 3) (Nat.le_of_ble_eq_true rfl)
  rw [lg_entry_eq]
  generalize (lg_sl ([.ref (sx_ad C 17 0)]) ++ List.replicate (3 - (lg_sl ([.ref (sx_ad C 17 0)])).length) Slot.unset).toArray = ls at hl ⊢
  exact wk_8_spares ⟨B.exec, B.bytes, hml, findClass_of_methodNamed B.named, fun w hw => atoms_spec B.pre w (List.mem_cons_of_mem _ hw), hK⟩ B.returns B.notSynchronized hG hz ⟨Nat.zero_le _, Nat.zero_le _⟩ ⟨Nat.le_refl _, Nat.le_refl _⟩ M0 r M' h hl hP va_S.rf
theorem cl_L_176 (X : sx_X C p m c cc nL s args RL) (hG : sx_G C) (hP : sx_W C M0 H) (hz : sx_sz C ≤ H0.size) (hS : va_S (sx_A C) H0 H locs) {r : Int32} {M' : sx_M} (h : f8_spares M0 = some (r, M')) (hsz : ls.size = nL) (hdg : decode cc pc = .ok (.invokevirtual 176, 3)) (hcs : cells ≤ R.cells ∧ slots ≤ R.slots) (hR : 6 + 1 ≤ R.frames ∧ 8 + (3 + 11) + 133 ≤ R.locals) (hrest : (rest.map fun v => v.category).sum ≤ 8) (kk : ∀ (H1 : Heap) (locs1 : List Loc), sx_W C M' H1 → va_S (sx_A C) H0 H1 locs1 → W p l e R s m args below meth c H1 locs1 cells slots Q (F0 m (pc + 3) ls ((.int r) :: rest))) : W p l e R s m args below meth c H locs cells slots Q (F0 m pc ls (.ref (sx_ad C 17 0) :: rest)) :=
  sx_callV (n := 0) (As := []) (k0 := 17) (s0 := 0) X hP hz hS (by decide) rfl rfl (sx_goodV tw_1294 tw_1295 tw_1296 tw_71 tw_1297) (by decide +kernel) rfl rfl hR (ct_8_spares l C hG M0 r M' h) rfl rfl hrest hsz hdg hcs kk
-- StringShedModel.aboveOf(I)I pure
def f8_aboveOf_L2 (w1 : Int32) (M0 : sx_M) : Nat → Int32 → Option (Int32)
  | 0, _ => none
  | n + 1, x2 =>
    if sx_in (2 : Int32) 247 then
    sx_bd (M0.1 20 0 ((2 : Int32)).toNatClampNeg) fun v1 =>
    if v1 ≤ x2 then
      some (-9 : Int32)
    else
      (f8_cordAt x2 (0 : Int32) M0).bind fun v3 =>
      if sx_in v3 247 then
      sx_bd (M0.1 20 0 (v3).toNatClampNeg) fun v4 =>
      (f8_cordAt x2 (1 : Int32) M0).bind fun v5 =>
      if sx_in v5 247 then
      sx_bd (M0.1 20 0 (v5).toNatClampNeg) fun v6 =>
      sx_bd (fun (_ : Unit) =>
        sx_bd (x2 + (1 : Int32)) fun v7 =>
        f8_aboveOf_L2 w1 M0 n v7) fun j78 =>
      if v6 = w1 then
        (f8_cordAt x2 (2 : Int32) M0).bind fun v9 =>
        if sx_in v9 247 then
        sx_bd (M0.1 20 0 (v9).toNatClampNeg) fun v10 =>
        if v10 = (1 : Int32) then
          sx_bd (fun (v12 : Int32) =>
            if sx_in w1 24 then
            sx_bd (M0.1 25 0 (w1).toNatClampNeg) fun v13 =>
            if v12 = (v13 - (1 : Int32)) then
              some v4
            else
              j78 ()
            else none) fun j65 =>
          if 0 ≤ v4 then
            if sx_in v4 24 then
            sx_bd (M0.1 25 0 (v4).toNatClampNeg) fun v16 =>
            j65 v16
            else none
          else
            j65 (0 : Int32)
        else
          j78 ()
        else none
      else
        j78 ()
      else none
      else none
    else none
def f8_aboveOf (a1 : Int32) (M0 : sx_M) : Option (Int32) :=
  f8_aboveOf_L2 a1 M0
    5000 (0 : Int32)
set_option maxRecDepth 100000 in
set_option maxHeartbeats 4000000 in
theorem wk_8_aboveOf (X : sx_X C p m c cX8_aboveOf 4 s args RX8) (hr : meth.sig.returnType = (some .int)) (hlocks : meth.locks = false) (hG : sx_G C) (hz : sx_sz C ≤ s.heap.size) (hcs : 0 ≤ R.cells ∧ 0 ≤ R.slots) (hR : 1 ≤ R.frames ∧ 21 ≤ R.locals) (a1 : Int32) (M0 : sx_M) (r : Int32) (h : f8_aboveOf a1 M0 = some r) (hl : lv_has ls 4 [(0, .ref (sx_ad C 17 0)), (1, .int a1)]) (hP : sx_W C M0 H) (hS : va_S (sx_A C) s.heap H locs) : W p l e R s m args below meth c H locs 0 0 (sx_Z C (some (.int r)) M0 below args s) (F0 m 0 ls []) := by
  obtain ⟨hx, hb, hml, hown, hts, hK⟩ := id X
  rw [f8_aboveOf] at h
  have hf8_aboveOf_L2 : ∀ (w1 : Int32) (n : Nat) (x2 : Int32) (H : Heap) (locs : List Loc) (ls : Array Slot), lv_has ls 4 [(0, .ref (sx_ad C 17 0)), (1, .int w1), (2, .int x2)] → sx_W C M0 H → va_S (sx_A C) s.heap H locs → f8_aboveOf_L2 w1 M0 n x2 = some r → W p l e R s m args below meth c H locs 0 0 (sx_Z C (some (.int r)) M0 below args s) (F0 m 2 ls []) := by
    intro w1 n
    induction n with
    | zero => intro x2 H locs ls hl hP hS h; exact absurd (show (none : Option (Int32)) = some r from h) (fun q => nomatch q)
    | succ n ih =>
      intro x2 H locs ls hl hP hS h
      rw [f8_aboveOf_L2] at h
      refine lv_iload_n hx hb dX8_aboveOf_2 rfl (lv_at hl 2 rfl) ?_
      refine lv_aload_n hx hb dX8_aboveOf_3 rfl (lv_at hl 0 rfl) ?_
      refine gf_X8_16 X hP (by decide) dX8_aboveOf_4 ?_
      refine lv_iconst (v := (2 : Int32)) hx hb dX8_aboveOf_7 (by decide) ?_
      refine sx_iald X hP 20 0 247 (by decide) (fun _ _ => rfl) dX8_aboveOf_8 h (fun v1 h => ?_)
      refine lv_icmp_ge (tgt := 84) hx hb dX8_aboveOf_9 (by decide) (fun c2 => ?_) (fun c2 => ?_)
      · replace h := sx_ifp h c2
        refine lv_bipush (v := (-9 : Int32)) hx hb dX8_aboveOf_84 (by decide) ?_
        exact sx_iret X hr hlocks hS hP h dX8_aboveOf_86
      · replace h := sx_ifn h c2
        refine lv_aload_n hx hb dX8_aboveOf_12 rfl (lv_at hl 0 rfl) ?_
        refine gf_X8_16 X hP (by decide) dX8_aboveOf_13 ?_
        refine lv_iload_n hx hb dX8_aboveOf_16 rfl (lv_at hl 2 rfl) ?_
        refine lv_iconst (v := (0 : Int32)) hx hb dX8_aboveOf_17 (by decide) ?_
        obtain ⟨v3, e_v3, h⟩ := sx_bnd h
        refine cl_X8_78 X hG hP hz hS  e_v3 hl.1 dX8_aboveOf_18 hcs ⟨Nat.le_trans (by decide) hR.1, Nat.le_trans (by decide) hR.2⟩ (Nat.le_of_ble_eq_true rfl) (fun H locs hP hS => ?_)
        refine sx_iald X hP 20 0 247 (by decide) (fun _ _ => rfl) dX8_aboveOf_21 h (fun v4 h => ?_)
        refine lv_istore_n (lv' := [(3, .int v4), (0, .ref (sx_ad C 17 0)), (1, .int w1), (2, .int x2)]) hx hb dX8_aboveOf_22 rfl hl (by decide) rfl (fun ls hl => ?_)
        refine lv_aload_n hx hb dX8_aboveOf_23 rfl (lv_at hl 1 rfl) ?_
        refine gf_X8_16 X hP (by decide) dX8_aboveOf_24 ?_
        refine lv_iload_n hx hb dX8_aboveOf_27 rfl (lv_at hl 3 rfl) ?_
        refine lv_iconst (v := (1 : Int32)) hx hb dX8_aboveOf_28 (by decide) ?_
        obtain ⟨v5, e_v5, h⟩ := sx_bnd h
        refine cl_X8_78 X hG hP hz hS  e_v5 hl.1 dX8_aboveOf_29 hcs ⟨Nat.le_trans (by decide) hR.1, Nat.le_trans (by decide) hR.2⟩ (Nat.le_of_ble_eq_true rfl) (fun H locs hP hS => ?_)
        refine sx_iald X hP 20 0 247 (by decide) (fun _ _ => rfl) dX8_aboveOf_32 h (fun v6 h => ?_)
        refine lv_iload_n hx hb dX8_aboveOf_33 rfl (lv_at hl 2 rfl) ?_
        obtain ⟨j78, e_j78, h⟩ := sx_nm h
        have hj78 : ∀ (H : Heap) (locs : List Loc) (ls : Array Slot), lv_has ls 4 [(0, .ref (sx_ad C 17 0)), (1, .int w1), (2, .int x2)] → sx_W C M0 H → va_S (sx_A C) s.heap H locs → j78 () = some r → W p l e R s m args below meth c H locs 0 0 (sx_Z C (some (.int r)) M0 below args s) (F0 m 78 ls []) := by
          intro  H locs ls hl hP hS h
          subst e_j78
          obtain ⟨v7, e_v7, h⟩ := sx_nm h
          refine lv_iinc (v := v7) (lv' := [(2, .int v7), (0, .ref (sx_ad C 17 0)), (1, .int w1)]) hx hb dX8_aboveOf_78 hl (k := 2) rfl (by rw [← e_v7]; rfl) (by decide) rfl (fun ls hl => ?_)
          refine lv_goto (tgt := 2) hx hb dX8_aboveOf_81 (by decide) ?_
          exact ih v7 H locs ls (lv_sub hl [1, 2, 0] rfl) hP hS h
        clear e_j78
        refine lv_icmp_ne (tgt := 78) hx hb dX8_aboveOf_34 (by decide) (fun c8 => ?_) (fun c8 => ?_)
        · replace h := sx_ifn h c8
          exact hj78 H locs ls (lv_sub hl [1, 2, 3] rfl) hP hS h
        · replace h := sx_ifp h c8
          refine lv_aload_n hx hb dX8_aboveOf_37 rfl (lv_at hl 1 rfl) ?_
          refine gf_X8_16 X hP (by decide) dX8_aboveOf_38 ?_
          refine lv_iload_n hx hb dX8_aboveOf_41 rfl (lv_at hl 3 rfl) ?_
          refine lv_iconst (v := (2 : Int32)) hx hb dX8_aboveOf_42 (by decide) ?_
          obtain ⟨v9, e_v9, h⟩ := sx_bnd h
          refine cl_X8_78 X hG hP hz hS  e_v9 hl.1 dX8_aboveOf_43 hcs ⟨Nat.le_trans (by decide) hR.1, Nat.le_trans (by decide) hR.2⟩ (Nat.le_of_ble_eq_true rfl) (fun H locs hP hS => ?_)
          refine sx_iald X hP 20 0 247 (by decide) (fun _ _ => rfl) dX8_aboveOf_46 h (fun v10 h => ?_)
          refine lv_iconst (v := (1 : Int32)) hx hb dX8_aboveOf_47 (by decide) ?_
          refine lv_icmp_ne (tgt := 78) hx hb dX8_aboveOf_48 (by decide) (fun c11 => ?_) (fun c11 => ?_)
          · replace h := sx_ifn h c11
            exact hj78 H locs ls (lv_sub hl [1, 2, 3] rfl) hP hS h
          · replace h := sx_ifp h c11
            refine lv_iload_n hx hb dX8_aboveOf_51 rfl (lv_at hl 0 rfl) ?_
            obtain ⟨j65, e_j65, h⟩ := sx_nm h
            have hj65 : ∀ (v12 : Int32) (H : Heap) (locs : List Loc) (ls : Array Slot), lv_has ls 4 [(0, .ref (sx_ad C 17 0)), (1, .int w1), (2, .int x2), (3, .int v4)] → sx_W C M0 H → va_S (sx_A C) s.heap H locs → j65 v12 = some r → W p l e R s m args below meth c H locs 0 0 (sx_Z C (some (.int r)) M0 below args s) (F0 m 65 ls [.int v12]) := by
              intro v12 H locs ls hl hP hS h
              subst e_j65
              refine lv_aload_n hx hb dX8_aboveOf_65 rfl (lv_at hl 0 rfl) ?_
              refine gf_X8_32 X hP (by decide) dX8_aboveOf_66 ?_
              refine lv_iload_n hx hb dX8_aboveOf_69 rfl (lv_at hl 1 rfl) ?_
              refine sx_iald X hP 25 0 24 (by decide) (fun _ _ => rfl) dX8_aboveOf_70 h (fun v13 h => ?_)
              refine lv_iconst (v := (1 : Int32)) hx hb dX8_aboveOf_71 (by decide) ?_
              refine lv_isub hx hb dX8_aboveOf_72 ?_
              refine lv_icmp_ne (tgt := 78) hx hb dX8_aboveOf_73 (by decide) (fun c14 => ?_) (fun c14 => ?_)
              · replace h := sx_ifn h c14
                exact hj78 H locs ls (lv_sub hl [0, 1, 2] rfl) hP hS h
              · replace h := sx_ifp h c14
                refine lv_iload_n hx hb dX8_aboveOf_76 rfl (lv_at hl 3 rfl) ?_
                exact sx_iret X hr hlocks hS hP h dX8_aboveOf_77
            clear e_j65
            refine lv_if_ge (tgt := 59) hx hb dX8_aboveOf_52 (by decide) (fun c15 => ?_) (fun c15 => ?_)
            · replace h := sx_ifp h c15
              refine lv_aload_n hx hb dX8_aboveOf_59 rfl (lv_at hl 1 rfl) ?_
              refine gf_X8_32 X hP (by decide) dX8_aboveOf_60 ?_
              refine lv_iload_n hx hb dX8_aboveOf_63 rfl (lv_at hl 0 rfl) ?_
              refine sx_iald X hP 25 0 24 (by decide) (fun _ _ => rfl) dX8_aboveOf_64 h (fun v16 h => ?_)
              exact hj65 v16 H locs ls (lv_sub hl [1, 2, 3, 0] rfl) hP hS h
            · replace h := sx_ifn h c15
              refine lv_iconst (v := (0 : Int32)) hx hb dX8_aboveOf_55 (by decide) ?_
              refine lv_goto (tgt := 65) hx hb dX8_aboveOf_56 (by decide) ?_
              exact hj65 (0 : Int32) H locs ls (lv_sub hl [1, 2, 3, 0] rfl) hP hS h
  refine lv_iconst (v := (0 : Int32)) hx hb dX8_aboveOf_0 (by decide) ?_
  refine lv_istore_n (lv' := [(2, .int (0 : Int32)), (0, .ref (sx_ad C 17 0)), (1, .int a1)]) hx hb dX8_aboveOf_1 rfl hl (by decide) rfl (fun ls hl => ?_)
  exact hf8_aboveOf_L2 a1 5000 (0 : Int32) H locs ls (lv_sub hl [1, 2, 0] rfl) hP hS h
set_option maxRecDepth 100000 in
theorem ct_8_aboveOf (l : Launch) (C : sx_C) (hG : sx_G C) (a1 : Int32) (M0 : sx_M) (r : Int32) (h : f8_aboveOf a1 M0 = some r) : Met l yX8_aboveOf (.code yX8_aboveOf cX8_aboveOf 4 (some .int) :: sx_T) ({ frames := 1, cells := 0, slots := 0, locals := 21 } : Room) (sx_Pc C M0 [.ref (sx_ad C 17 0), .int a1]) (sx_Q C (some (.int r)) M0) 0 0 (sx_A C) := by
  refine Met.ofW (cc := cX8_aboveOf) (maxL := 4) (ret := (some .int)) (by decide) rfl ?_
  intro p e s m args below meth c s₁ B hml hv
  obtain ⟨rfl, hz, hP, hK⟩ := hv
  have hl := lv_entry ([.ref (sx_ad C 17 0), .int a1]) (n := 4) (Nat.le_of_ble_eq_true rfl)
  rw [lg_entry_eq]
  generalize (lg_sl ([.ref (sx_ad C 17 0), .int a1]) ++ List.replicate (4 - (lg_sl ([.ref (sx_ad C 17 0), .int a1])).length) Slot.unset).toArray = ls at hl ⊢
  exact wk_8_aboveOf ⟨B.exec, B.bytes, hml, findClass_of_methodNamed B.named, fun w hw => atoms_spec B.pre w (List.mem_cons_of_mem _ hw), hK⟩ B.returns B.notSynchronized hG hz ⟨Nat.zero_le _, Nat.zero_le _⟩ ⟨Nat.le_refl _, Nat.le_refl _⟩ a1 M0 r h hl hP va_S.rf
theorem cl_X8_242 (X : sx_X C p m c cc nL s args RX8) (hG : sx_G C) (hP : sx_W C M0 H) (hz : sx_sz C ≤ H0.size) (hS : va_S (sx_A C) H0 H locs) {a1 : Int32} {r : Int32} (h : f8_aboveOf a1 M0 = some r) (hsz : ls.size = nL) (hdg : decode cc pc = .ok (.invokevirtual 242, 3)) (hcs : cells ≤ R.cells ∧ slots ≤ R.slots) (hR : 1 + 1 ≤ R.frames ∧ 8 + (4 + 11) + 21 ≤ R.locals) (hrest : (rest.map fun v => v.category).sum ≤ 8) (kk : ∀ (H1 : Heap) (locs1 : List Loc), sx_W C M0 H1 → va_S (sx_A C) H0 H1 locs1 → W p l e R s m args below meth c H1 locs1 cells slots Q (F0 m (pc + 3) ls ((.int r) :: rest))) : W p l e R s m args below meth c H locs cells slots Q (F0 m pc ls (.int a1 :: .ref (sx_ad C 17 0) :: rest)) :=
  sx_callV (n := 1) (As := [.int a1]) (k0 := 17) (s0 := 0) X hP hz hS (by decide) rfl rfl (sx_goodV tw_1302 tw_1304 tw_52 tw_71 tw_1305) (by decide +kernel) rfl rfl hR (ct_8_aboveOf l C hG a1 M0 r h) rfl rfl hrest hsz hdg hcs kk
-- StringShedModel.way(II)I
def f8_way_L75 (w2 : Int32) (M : sx_M) : Nat → Int32 → Int32 → Option (Int32 × sx_M)
  | 0, _, _ => none
  | n + 1, x3, x4 =>
    if x4 ≤ w2 then
      some (x3, M)
    else
      (f8_aboveOf x3 M).bind fun v13 =>
      sx_bd (x4 + (-1 : Int32)) fun v14 =>
      f8_way_L75 w2 M n v13 v14
def f8_way (a1 : Int32) (a2 : Int32) (M0 : sx_M) : Option (Int32 × sx_M) :=
  (f8_isPart 20 a1 M0).bind fun v1 =>
  sx_bd (fun (v2 : Int32) =>
    sx_b2 (f8_refused v2 M0) fun v3 M4 =>
    if v3 = 0 then
      (f8_lay 20 M4).bind fun M6 =>
      if sx_in a1 24 then
      sx_bd (M6.1 25 0 (a1).toNatClampNeg) fun v7 =>
      sx_bd (fun (_ : Unit) =>
        some ((-9 : Int32), M6)) fun j62 =>
      if v7 = (99 : Int32) then
        j62 ()
      else
        if sx_in a1 24 then
        sx_bd (M6.1 25 0 (a1).toNatClampNeg) fun v9 =>
        if a2 ≤ v9 then
          if sx_in a1 24 then
          sx_bd (M6.1 25 0 (a1).toNatClampNeg) fun v11 =>
          f8_way_L75 a2 M6
            5000 a1 v11
          else none
        else
          j62 ()
        else none
      else none
    else
      some ((0 : Int32), M4)) fun j25 =>
  if v1 = 0 then
    j25 (1 : Int32)
  else
    if 0 ≤ a2 then
      j25 (0 : Int32)
    else
      j25 (2 : Int32)
set_option maxRecDepth 100000 in
set_option maxHeartbeats 4000000 in
theorem wk_8_way (X : sx_X C p m c cX8_way 5 s args RX8) (hr : meth.sig.returnType = (some .int)) (hlocks : meth.locks = false) (hG : sx_G C) (hz : sx_sz C ≤ s.heap.size) (hcs : 0 ≤ R.cells ∧ 0 ≤ R.slots) (hR : 3 ≤ R.frames ∧ 72 ≤ R.locals) (a1 : Int32) (a2 : Int32) (M0 : sx_M) (r : Int32) (M' : sx_M) (h : f8_way a1 a2 M0 = some (r, M')) (hl : lv_has ls 5 [(0, .ref (sx_ad C 17 0)), (1, .int a1), (2, .int a2)]) (hP : sx_W C M0 H) (hS : va_S (sx_A C) s.heap H locs) : W p l e R s m args below meth c H locs 0 0 (sx_Z C (some (.int r)) M' below args s) (F0 m 0 ls []) := by
  obtain ⟨hx, hb, hml, hown, hts, hK⟩ := id X
  rw [f8_way] at h
  have hf8_way_L75 : ∀ (w2 : Int32) (M : sx_M) (n : Nat) (x3 : Int32) (x4 : Int32) (H : Heap) (locs : List Loc) (ls : Array Slot), lv_has ls 5 [(0, .ref (sx_ad C 17 0)), (2, .int w2), (3, .int x3), (4, .int x4)] → sx_W C M H → va_S (sx_A C) s.heap H locs → f8_way_L75 w2 M n x3 x4 = some (r, M') → W p l e R s m args below meth c H locs 0 0 (sx_Z C (some (.int r)) M' below args s) (F0 m 75 ls []) := by
    intro w2 M n
    induction n with
    | zero => intro x3 x4 H locs ls hl hP hS h; exact absurd (show (none : Option (Int32 × sx_M)) = some (r, M') from h) (fun q => nomatch q)
    | succ n ih =>
      intro x3 x4 H locs ls hl hP hS h
      rw [f8_way_L75] at h
      refine lv_iload hx hb dX8_way_75 (lv_at hl 3 rfl) ?_
      refine lv_iload_n hx hb dX8_way_77 rfl (lv_at hl 1 rfl) ?_
      refine lv_icmp_le (tgt := 93) hx hb dX8_way_78 (by decide) (fun c12 => ?_) (fun c12 => ?_)
      · replace h := sx_ifp h c12
        refine lv_iload_n hx hb dX8_way_93 rfl (lv_at hl 2 rfl) ?_
        exact sx_iretM X hr hlocks hS hP h dX8_way_94
      · replace h := sx_ifn h c12
        refine lv_aload_n hx hb dX8_way_81 rfl (lv_at hl 0 rfl) ?_
        refine lv_iload_n hx hb dX8_way_82 rfl (lv_at hl 2 rfl) ?_
        obtain ⟨v13, e_v13, h⟩ := sx_bnd h
        refine cl_X8_242 X hG hP hz hS  e_v13 hl.1 dX8_way_83 hcs ⟨Nat.le_trans (by decide) hR.1, Nat.le_trans (by decide) hR.2⟩ (Nat.le_of_ble_eq_true rfl) (fun H locs hP hS => ?_)
        refine lv_istore_n (lv' := [(3, .int v13), (0, .ref (sx_ad C 17 0)), (2, .int w2), (4, .int x4)]) hx hb dX8_way_86 rfl hl (by decide) rfl (fun ls hl => ?_)
        obtain ⟨v14, e_v14, h⟩ := sx_nm h
        refine lv_iinc (v := v14) (lv' := [(4, .int v14), (3, .int v13), (0, .ref (sx_ad C 17 0)), (2, .int w2)]) hx hb dX8_way_87 hl (k := 3) rfl (by rw [← e_v14]; rfl) (by decide) rfl (fun ls hl => ?_)
        refine lv_goto (tgt := 75) hx hb dX8_way_90 (by decide) ?_
        exact ih v13 v14 H locs ls (lv_sub hl [2, 3, 1, 0] rfl) hP hS h
  refine lv_aload_n hx hb dX8_way_0 rfl (lv_at hl 0 rfl) ?_
  refine lv_aload_n hx hb dX8_way_1 rfl (lv_at hl 0 rfl) ?_
  refine gf_X8_16 X hP (by decide) dX8_way_2 ?_
  refine lv_iload_n hx hb dX8_way_5 rfl (lv_at hl 1 rfl) ?_
  obtain ⟨v1, e_v1, h⟩ := sx_bnd h
  refine cl_X8_74 X hG hP hz hS sx_row20 e_v1 hl.1 dX8_way_6 hcs ⟨Nat.le_trans (by decide) hR.1, Nat.le_trans (by decide) hR.2⟩ (Nat.le_of_ble_eq_true rfl) (fun H locs hP hS => ?_)
  obtain ⟨j25, e_j25, h⟩ := sx_nm h
  have hj25 : ∀ (v2 : Int32) (H : Heap) (locs : List Loc) (ls : Array Slot), lv_has ls 5 [(0, .ref (sx_ad C 17 0)), (1, .int a1), (2, .int a2)] → sx_W C M0 H → va_S (sx_A C) s.heap H locs → j25 v2 = some (r, M') → W p l e R s m args below meth c H locs 0 0 (sx_Z C (some (.int r)) M' below args s) (F0 m 25 ls [.int v2, .ref (sx_ad C 17 0)]) := by
    intro v2 H locs ls hl hP hS h
    subst e_j25
    obtain ⟨v3, M4, e_v3, h⟩ := sx_bnd2 h
    refine cl_X8_111 X hG hP hz hS  e_v3 hl.1 dX8_way_25 hcs ⟨Nat.le_trans (by decide) hR.1, Nat.le_trans (by decide) hR.2⟩ (Nat.le_of_ble_eq_true rfl) (fun H locs hP hS => ?_)
    refine lv_if_eq (tgt := 33) hx hb dX8_way_28 (by decide) (fun c5 => ?_) (fun c5 => ?_)
    · replace h := sx_ifp h c5
      refine lv_aload_n hx hb dX8_way_33 rfl (lv_at hl 0 rfl) ?_
      refine lv_aload_n hx hb dX8_way_34 rfl (lv_at hl 0 rfl) ?_
      refine gf_X8_16 X hP (by decide) dX8_way_35 ?_
      obtain ⟨M6, e_M6, h⟩ := sx_bnd h
      refine cl_X8_81 X hG hP hz hS sx_row20 e_M6 hl.1 dX8_way_38 hcs ⟨Nat.le_trans (by decide) hR.1, Nat.le_trans (by decide) hR.2⟩ (Nat.le_of_ble_eq_true rfl) (fun H locs hP hS => ?_)
      refine lv_aload_n hx hb dX8_way_41 rfl (lv_at hl 0 rfl) ?_
      refine gf_X8_32 X hP (by decide) dX8_way_42 ?_
      refine lv_iload_n hx hb dX8_way_45 rfl (lv_at hl 1 rfl) ?_
      refine sx_iald X hP 25 0 24 (by decide) (fun _ _ => rfl) dX8_way_46 h (fun v7 h => ?_)
      refine lv_bipush (v := (99 : Int32)) hx hb dX8_way_47 (by decide) ?_
      obtain ⟨j62, e_j62, h⟩ := sx_nm h
      have hj62 : ∀ (H : Heap) (locs : List Loc) (ls : Array Slot), lv_has ls 5 [] → sx_W C M6 H → va_S (sx_A C) s.heap H locs → j62 () = some (r, M') → W p l e R s m args below meth c H locs 0 0 (sx_Z C (some (.int r)) M' below args s) (F0 m 62 ls []) := by
        intro  H locs ls hl hP hS h
        subst e_j62
        refine lv_bipush (v := (-9 : Int32)) hx hb dX8_way_62 (by decide) ?_
        exact sx_iretM X hr hlocks hS hP h dX8_way_64
      clear e_j62
      refine lv_icmp_eq (tgt := 62) hx hb dX8_way_49 (by decide) (fun c8 => ?_) (fun c8 => ?_)
      · replace h := sx_ifp h c8
        exact hj62 H locs ls (lv_sub hl [] rfl) hP hS h
      · replace h := sx_ifn h c8
        refine lv_iload_n hx hb dX8_way_52 rfl (lv_at hl 2 rfl) ?_
        refine lv_aload_n hx hb dX8_way_53 rfl (lv_at hl 0 rfl) ?_
        refine gf_X8_32 X hP (by decide) dX8_way_54 ?_
        refine lv_iload_n hx hb dX8_way_57 rfl (lv_at hl 1 rfl) ?_
        refine sx_iald X hP 25 0 24 (by decide) (fun _ _ => rfl) dX8_way_58 h (fun v9 h => ?_)
        refine lv_icmp_le (tgt := 65) hx hb dX8_way_59 (by decide) (fun c10 => ?_) (fun c10 => ?_)
        · replace h := sx_ifp h c10
          refine lv_iload_n hx hb dX8_way_65 rfl (lv_at hl 1 rfl) ?_
          refine lv_istore_n (lv' := [(3, .int a1), (0, .ref (sx_ad C 17 0)), (1, .int a1), (2, .int a2)]) hx hb dX8_way_66 rfl hl (by decide) rfl (fun ls hl => ?_)
          refine lv_aload_n hx hb dX8_way_67 rfl (lv_at hl 1 rfl) ?_
          refine gf_X8_32 X hP (by decide) dX8_way_68 ?_
          refine lv_iload_n hx hb dX8_way_71 rfl (lv_at hl 2 rfl) ?_
          refine sx_iald X hP 25 0 24 (by decide) (fun _ _ => rfl) dX8_way_72 h (fun v11 h => ?_)
          refine lv_istore (lv' := [(4, .int v11), (3, .int a1), (0, .ref (sx_ad C 17 0)), (1, .int a1), (2, .int a2)]) hx hb dX8_way_73 hl (by decide) rfl (fun ls hl => ?_)
          exact hf8_way_L75 a2 M6 5000 a1 v11 H locs ls (lv_sub hl [2, 4, 1, 0] rfl) hP hS h
        · replace h := sx_ifn h c10
          exact hj62 H locs ls (lv_sub hl [] rfl) hP hS h
    · replace h := sx_ifn h c5
      refine lv_iconst (v := (0 : Int32)) hx hb dX8_way_31 (by decide) ?_
      exact sx_iretM X hr hlocks hS hP h dX8_way_32
  clear e_j25
  refine lv_if_ne (tgt := 16) hx hb dX8_way_9 (by decide) (fun c15 => ?_) (fun c15 => ?_)
  · replace h := sx_ifn h c15
    refine lv_iload_n hx hb dX8_way_16 rfl (lv_at hl 2 rfl) ?_
    refine lv_if_ge (tgt := 24) hx hb dX8_way_17 (by decide) (fun c16 => ?_) (fun c16 => ?_)
    · replace h := sx_ifp h c16
      refine lv_iconst (v := (0 : Int32)) hx hb dX8_way_24 (by decide) ?_
      exact hj25 (0 : Int32) H locs ls (lv_sub hl [0, 1, 2] rfl) hP hS h
    · replace h := sx_ifn h c16
      refine lv_iconst (v := (2 : Int32)) hx hb dX8_way_20 (by decide) ?_
      refine lv_goto (tgt := 25) hx hb dX8_way_21 (by decide) ?_
      exact hj25 (2 : Int32) H locs ls (lv_sub hl [0, 1, 2] rfl) hP hS h
  · replace h := sx_ifp h c15
    refine lv_iconst (v := (1 : Int32)) hx hb dX8_way_12 (by decide) ?_
    refine lv_goto (tgt := 25) hx hb dX8_way_13 (by decide) ?_
    exact hj25 (1 : Int32) H locs ls (lv_sub hl [0, 1, 2] rfl) hP hS h
set_option maxRecDepth 100000 in
theorem ct_8_way (l : Launch) (C : sx_C) (hG : sx_G C) (a1 : Int32) (a2 : Int32) (M0 : sx_M) (r : Int32) (M' : sx_M) (h : f8_way a1 a2 M0 = some (r, M')) : Met l yX8_way (.code yX8_way cX8_way 5 (some .int) :: sx_T) ({ frames := 3, cells := 0, slots := 0, locals := 72 } : Room) (sx_Pc C M0 [.ref (sx_ad C 17 0), .int a1, .int a2]) (sx_Q C (some (.int r)) M') 0 0 (sx_A C) := by
  refine Met.ofW (cc := cX8_way) (maxL := 5) (ret := (some .int)) (by decide) rfl ?_
  intro p e s m args below meth c s₁ B hml hv
  obtain ⟨rfl, hz, hP, hK⟩ := hv
  have hl := lv_entry ([.ref (sx_ad C 17 0), .int a1, .int a2]) (n := 5) (Nat.le_of_ble_eq_true rfl)
  rw [lg_entry_eq]
  generalize (lg_sl ([.ref (sx_ad C 17 0), .int a1, .int a2]) ++ List.replicate (5 - (lg_sl ([.ref (sx_ad C 17 0), .int a1, .int a2])).length) Slot.unset).toArray = ls at hl ⊢
  exact wk_8_way ⟨B.exec, B.bytes, hml, findClass_of_methodNamed B.named, fun w hw => atoms_spec B.pre w (List.mem_cons_of_mem _ hw), hK⟩ B.returns B.notSynchronized hG hz ⟨Nat.zero_le _, Nat.zero_le _⟩ ⟨Nat.le_refl _, Nat.le_refl _⟩ a1 a2 M0 r M' h hl hP va_S.rf
theorem cl_L_179 (X : sx_X C p m c cc nL s args RL) (hG : sx_G C) (hP : sx_W C M0 H) (hz : sx_sz C ≤ H0.size) (hS : va_S (sx_A C) H0 H locs) {a1 : Int32} {a2 : Int32} {r : Int32} {M' : sx_M} (h : f8_way a1 a2 M0 = some (r, M')) (hsz : ls.size = nL) (hdg : decode cc pc = .ok (.invokevirtual 179, 3)) (hcs : cells ≤ R.cells ∧ slots ≤ R.slots) (hR : 3 + 1 ≤ R.frames ∧ 8 + (5 + 11) + 72 ≤ R.locals) (hrest : (rest.map fun v => v.category).sum ≤ 8) (kk : ∀ (H1 : Heap) (locs1 : List Loc), sx_W C M' H1 → va_S (sx_A C) H0 H1 locs1 → W p l e R s m args below meth c H1 locs1 cells slots Q (F0 m (pc + 3) ls ((.int r) :: rest))) : W p l e R s m args below meth c H locs cells slots Q (F0 m pc ls (.int a2 :: .int a1 :: .ref (sx_ad C 17 0) :: rest)) :=
  sx_callV (n := 2) (As := [.int a1, .int a2]) (k0 := 17) (s0 := 0) X hP hz hS (by decide) rfl rfl (sx_goodV tw_1298 tw_1299 tw_1300 tw_71 tw_1301) (by decide +kernel) rfl rfl hR (ct_8_way l C hG a1 a2 M0 r M' h) rfl rfl hrest hsz hdg hcs kk
-- StringShedModel.thingOf(I)I pure
def f8_thingOf (a0 : Int32) (M0 : sx_M) : Option (Int32) :=
  (f8_in a0.toInt64 (90 : Int64) (93 : Int64) M0).bind fun v1 =>
  sx_bd (fun (v2 : Int32) =>
    some v2) fun j22 =>
  if v1 = 0 then
    j22 a0
  else
    j22 ((89 : Int32) - a0)
set_option maxRecDepth 100000 in
set_option maxHeartbeats 4000000 in
theorem wk_8_thingOf (X : sx_X C p m c cX8_thingOf 1 s args RX8) (hr : meth.sig.returnType = (some .int)) (hlocks : meth.locks = false) (hG : sx_G C) (hz : sx_sz C ≤ s.heap.size) (hcs : 0 ≤ R.cells ∧ 0 ≤ R.slots) (hR : 1 ≤ R.frames ∧ 25 ≤ R.locals) (a0 : Int32) (M0 : sx_M) (r : Int32) (h : f8_thingOf a0 M0 = some r) (hl : lv_has ls 1 [(0, .int a0)]) (hP : sx_W C M0 H) (hS : va_S (sx_A C) s.heap H locs) : W p l e R s m args below meth c H locs 0 0 (sx_Z C (some (.int r)) M0 below args s) (F0 m 0 ls []) := by
  obtain ⟨hx, hb, hml, hown, hts, hK⟩ := id X
  rw [f8_thingOf] at h
  refine lv_iload_n hx hb dX8_thingOf_0 rfl (lv_at hl 0 rfl) ?_
  refine lv_i2l (v := a0.toInt64) hx hb dX8_thingOf_1 rfl ?_
  refine lv_ldc2 (v := (90 : Int64)) hx hb hown (hts _ tw_1327) dX8_thingOf_2 ?_
  refine lv_ldc2 (v := (93 : Int64)) hx hb hown (hts _ tw_1328) dX8_thingOf_5 ?_
  obtain ⟨v1, e_v1, h⟩ := sx_bnd h
  refine cl_X8_60 X hG hP hz hS  e_v1 hl.1 dX8_thingOf_8 hcs ⟨Nat.le_trans (by decide) hR.1, Nat.le_trans (by decide) hR.2⟩ (Nat.le_of_ble_eq_true rfl) (fun H locs hP hS => ?_)
  obtain ⟨j22, e_j22, h⟩ := sx_nm h
  have hj22 : ∀ (v2 : Int32) (H : Heap) (locs : List Loc) (ls : Array Slot), lv_has ls 1 [] → sx_W C M0 H → va_S (sx_A C) s.heap H locs → j22 v2 = some r → W p l e R s m args below meth c H locs 0 0 (sx_Z C (some (.int r)) M0 below args s) (F0 m 22 ls [.int v2]) := by
    intro v2 H locs ls hl hP hS h
    subst e_j22
    exact sx_iret X hr hlocks hS hP h dX8_thingOf_22
  clear e_j22
  refine lv_if_eq (tgt := 21) hx hb dX8_thingOf_11 (by decide) (fun c3 => ?_) (fun c3 => ?_)
  · replace h := sx_ifp h c3
    refine lv_iload_n hx hb dX8_thingOf_21 rfl (lv_at hl 0 rfl) ?_
    exact hj22 a0 H locs ls (lv_sub hl [] rfl) hP hS h
  · replace h := sx_ifn h c3
    refine lv_bipush (v := (89 : Int32)) hx hb dX8_thingOf_14 (by decide) ?_
    refine lv_iload_n hx hb dX8_thingOf_16 rfl (lv_at hl 0 rfl) ?_
    refine lv_isub hx hb dX8_thingOf_17 ?_
    refine lv_goto (tgt := 22) hx hb dX8_thingOf_18 (by decide) ?_
    exact hj22 ((89 : Int32) - a0) H locs ls (lv_sub hl [] rfl) hP hS h
set_option maxRecDepth 100000 in
theorem ct_8_thingOf (l : Launch) (C : sx_C) (hG : sx_G C) (a0 : Int32) (M0 : sx_M) (r : Int32) (h : f8_thingOf a0 M0 = some r) : Met l yX8_thingOf (.code yX8_thingOf cX8_thingOf 1 (some .int) :: sx_T) ({ frames := 1, cells := 0, slots := 0, locals := 25 } : Room) (sx_Pc C M0 [.int a0]) (sx_Q C (some (.int r)) M0) 0 0 (sx_A C) := by
  refine Met.ofW (cc := cX8_thingOf) (maxL := 1) (ret := (some .int)) (by decide) rfl ?_
  intro p e s m args below meth c s₁ B hml hv
  obtain ⟨rfl, hz, hP, hK⟩ := hv
  have hl := lv_entry ([.int a0]) (n := 1) (Nat.le_of_ble_eq_true rfl)
  rw [lg_entry_eq]
  generalize (lg_sl ([.int a0]) ++ List.replicate (1 - (lg_sl ([.int a0])).length) Slot.unset).toArray = ls at hl ⊢
  exact wk_8_thingOf ⟨B.exec, B.bytes, hml, findClass_of_methodNamed B.named, fun w hw => atoms_spec B.pre w (List.mem_cons_of_mem _ hw), hK⟩ B.returns B.notSynchronized hG hz ⟨Nat.zero_le _, Nat.zero_le _⟩ ⟨Nat.le_refl _, Nat.le_refl _⟩ a0 M0 r h hl hP va_S.rf
theorem cl_X8_255 (X : sx_X C p m c cc nL s args RX8) (hG : sx_G C) (hP : sx_W C M0 H) (hz : sx_sz C ≤ H0.size) (hS : va_S (sx_A C) H0 H locs) {a0 : Int32} {r : Int32} (h : f8_thingOf a0 M0 = some r) (hsz : ls.size = nL) (hdg : decode cc pc = .ok (.invokestatic 255, 3)) (hcs : cells ≤ R.cells ∧ slots ≤ R.slots) (hR : 1 + 1 ≤ R.frames ∧ 8 + (1 + 11) + 25 ≤ R.locals) (hrest : (rest.map fun v => v.category).sum ≤ 8) (kk : ∀ (H1 : Heap) (locs1 : List Loc), sx_W C M0 H1 → va_S (sx_A C) H0 H1 locs1 → W p l e R s m args below meth c H1 locs1 cells slots Q (F0 m (pc + 3) ls ((.int r) :: rest))) : W p l e R s m args below meth c H locs cells slots Q (F0 m pc ls (.int a0 :: rest)) :=
  sx_callS (n := 1) (As := [.int a0]) X hP hz hS (sx_goodS tw_1324 tw_1325 tw_71 tw_1326) (by decide +kernel) rfl rfl hR (ct_8_thingOf l C hG a0 M0 r h) rfl rfl hrest hsz hdg hcs kk
-- StringShedModel.ties(II)Z
def f8_ties (a1 : Int32) (a2 : Int32) (M0 : sx_M) : Option (Int32 × sx_M) :=
  (f8_isThing 21 a1 M0).bind fun v1 =>
  sx_bd (fun (_ : Unit) =>
    some ((0 : Int32), M0)) fun j39 =>
  if v1 = 0 then
    j39 ()
  else
    (f8_isPart 21 a2 M0).bind fun v3 =>
    if v3 = 0 then
      j39 ()
    else
      if a1 = a2 then
        j39 ()
      else
        (f8_canTie 21 a1 a2 M0).bind fun v6 =>
        if v6 = 0 then
          j39 ()
        else
          (f8_tieIn 21 a1 a2 (1 : Int32) M0).bind fun M8 =>
          some ((1 : Int32), M8)
set_option maxRecDepth 100000 in
set_option maxHeartbeats 4000000 in
theorem wk_8_ties (X : sx_X C p m c cX8_ties 3 s args RX8) (hr : meth.sig.returnType = (some .boolean)) (hlocks : meth.locks = false) (hG : sx_G C) (hz : sx_sz C ≤ s.heap.size) (hcs : 0 ≤ R.cells ∧ 0 ≤ R.slots) (hR : 3 ≤ R.frames ∧ 67 ≤ R.locals) (a1 : Int32) (a2 : Int32) (M0 : sx_M) (r : Int32) (M' : sx_M) (h : f8_ties a1 a2 M0 = some (r, M')) (hl : lv_has ls 3 [(0, .ref (sx_ad C 17 0)), (1, .int a1), (2, .int a2)]) (hP : sx_W C M0 H) (hS : va_S (sx_A C) s.heap H locs) : W p l e R s m args below meth c H locs 0 0 (sx_Z C (some (.int r)) M' below args s) (F0 m 0 ls []) := by
  obtain ⟨hx, hb, hml, hown, hts, hK⟩ := id X
  rw [f8_ties] at h
  refine lv_aload_n hx hb dX8_ties_0 rfl (lv_at hl 0 rfl) ?_
  refine gf_X8_19 X hP (by decide) dX8_ties_1 ?_
  refine lv_iload_n hx hb dX8_ties_4 rfl (lv_at hl 1 rfl) ?_
  obtain ⟨v1, e_v1, h⟩ := sx_bnd h
  refine cl_X8_144 X hG hP hz hS sx_row21 e_v1 hl.1 dX8_ties_5 hcs ⟨Nat.le_trans (by decide) hR.1, Nat.le_trans (by decide) hR.2⟩ (Nat.le_of_ble_eq_true rfl) (fun H locs hP hS => ?_)
  obtain ⟨j39, e_j39, h⟩ := sx_nm h
  have hj39 : ∀ (H : Heap) (locs : List Loc) (ls : Array Slot), lv_has ls 3 [] → sx_W C M0 H → va_S (sx_A C) s.heap H locs → j39 () = some (r, M') → W p l e R s m args below meth c H locs 0 0 (sx_Z C (some (.int r)) M' below args s) (F0 m 39 ls []) := by
    intro  H locs ls hl hP hS h
    subst e_j39
    refine lv_iconst (v := (0 : Int32)) hx hb dX8_ties_39 (by decide) ?_
    exact sx_zretM X hr hlocks hS hP (by decide) h dX8_ties_40
  clear e_j39
  refine lv_if_eq (tgt := 39) hx hb dX8_ties_8 (by decide) (fun c2 => ?_) (fun c2 => ?_)
  · replace h := sx_ifp h c2
    exact hj39 H locs ls (lv_sub hl [] rfl) hP hS h
  · replace h := sx_ifn h c2
    refine lv_aload_n hx hb dX8_ties_11 rfl (lv_at hl 0 rfl) ?_
    refine gf_X8_19 X hP (by decide) dX8_ties_12 ?_
    refine lv_iload_n hx hb dX8_ties_15 rfl (lv_at hl 2 rfl) ?_
    obtain ⟨v3, e_v3, h⟩ := sx_bnd h
    refine cl_X8_74 X hG hP hz hS sx_row21 e_v3 hl.1 dX8_ties_16 hcs ⟨Nat.le_trans (by decide) hR.1, Nat.le_trans (by decide) hR.2⟩ (Nat.le_of_ble_eq_true rfl) (fun H locs hP hS => ?_)
    refine lv_if_eq (tgt := 39) hx hb dX8_ties_19 (by decide) (fun c4 => ?_) (fun c4 => ?_)
    · replace h := sx_ifp h c4
      exact hj39 H locs ls (lv_sub hl [] rfl) hP hS h
    · replace h := sx_ifn h c4
      refine lv_iload_n hx hb dX8_ties_22 rfl (lv_at hl 1 rfl) ?_
      refine lv_iload_n hx hb dX8_ties_23 rfl (lv_at hl 2 rfl) ?_
      refine lv_icmp_eq (tgt := 39) hx hb dX8_ties_24 (by decide) (fun c5 => ?_) (fun c5 => ?_)
      · replace h := sx_ifp h c5
        exact hj39 H locs ls (lv_sub hl [] rfl) hP hS h
      · replace h := sx_ifn h c5
        refine lv_aload_n hx hb dX8_ties_27 rfl (lv_at hl 0 rfl) ?_
        refine gf_X8_19 X hP (by decide) dX8_ties_28 ?_
        refine lv_iload_n hx hb dX8_ties_31 rfl (lv_at hl 1 rfl) ?_
        refine lv_iload_n hx hb dX8_ties_32 rfl (lv_at hl 2 rfl) ?_
        obtain ⟨v6, e_v6, h⟩ := sx_bnd h
        refine cl_X8_147 X hG hP hz hS sx_row21 e_v6 hl.1 dX8_ties_33 hcs ⟨Nat.le_trans (by decide) hR.1, Nat.le_trans (by decide) hR.2⟩ (Nat.le_of_ble_eq_true rfl) (fun H locs hP hS => ?_)
        refine lv_if_ne (tgt := 41) hx hb dX8_ties_36 (by decide) (fun c7 => ?_) (fun c7 => ?_)
        · replace h := sx_ifn h c7
          refine lv_aload_n hx hb dX8_ties_41 rfl (lv_at hl 0 rfl) ?_
          refine gf_X8_19 X hP (by decide) dX8_ties_42 ?_
          refine lv_iload_n hx hb dX8_ties_45 rfl (lv_at hl 1 rfl) ?_
          refine lv_iload_n hx hb dX8_ties_46 rfl (lv_at hl 2 rfl) ?_
          refine lv_iconst (v := (1 : Int32)) hx hb dX8_ties_47 (by decide) ?_
          obtain ⟨M8, e_M8, h⟩ := sx_bnd h
          refine cl_X8_154 X hG hP hz hS sx_row21 e_M8 hl.1 dX8_ties_48 hcs ⟨Nat.le_trans (by decide) hR.1, Nat.le_trans (by decide) hR.2⟩ (Nat.le_of_ble_eq_true rfl) (fun H locs hP hS => ?_)
          refine lv_iconst (v := (1 : Int32)) hx hb dX8_ties_51 (by decide) ?_
          exact sx_zretM X hr hlocks hS hP (by decide) h dX8_ties_52
        · replace h := sx_ifp h c7
          exact hj39 H locs ls (lv_sub hl [] rfl) hP hS h
set_option maxRecDepth 100000 in
theorem ct_8_ties (l : Launch) (C : sx_C) (hG : sx_G C) (a1 : Int32) (a2 : Int32) (M0 : sx_M) (r : Int32) (M' : sx_M) (h : f8_ties a1 a2 M0 = some (r, M')) : Met l yX8_ties (.code yX8_ties cX8_ties 3 (some .boolean) :: sx_T) ({ frames := 3, cells := 0, slots := 0, locals := 67 } : Room) (sx_Pc C M0 [.ref (sx_ad C 17 0), .int a1, .int a2]) (sx_Q C (some (.int r)) M') 0 0 (sx_A C) := by
  refine Met.ofW (cc := cX8_ties) (maxL := 3) (ret := (some .boolean)) (by decide) rfl ?_
  intro p e s m args below meth c s₁ B hml hv
  obtain ⟨rfl, hz, hP, hK⟩ := hv
  have hl := lv_entry ([.ref (sx_ad C 17 0), .int a1, .int a2]) (n := 3) (Nat.le_of_ble_eq_true rfl)
  rw [lg_entry_eq]
  generalize (lg_sl ([.ref (sx_ad C 17 0), .int a1, .int a2]) ++ List.replicate (3 - (lg_sl ([.ref (sx_ad C 17 0), .int a1, .int a2])).length) Slot.unset).toArray = ls at hl ⊢
  exact wk_8_ties ⟨B.exec, B.bytes, hml, findClass_of_methodNamed B.named, fun w hw => atoms_spec B.pre w (List.mem_cons_of_mem _ hw), hK⟩ B.returns B.notSynchronized hG hz ⟨Nat.zero_le _, Nat.zero_le _⟩ ⟨Nat.le_refl _, Nat.le_refl _⟩ a1 a2 M0 r M' h hl hP va_S.rf
theorem cl_X8_258 (X : sx_X C p m c cc nL s args RX8) (hG : sx_G C) (hP : sx_W C M0 H) (hz : sx_sz C ≤ H0.size) (hS : va_S (sx_A C) H0 H locs) {a1 : Int32} {a2 : Int32} {r : Int32} {M' : sx_M} (h : f8_ties a1 a2 M0 = some (r, M')) (hsz : ls.size = nL) (hdg : decode cc pc = .ok (.invokevirtual 258, 3)) (hcs : cells ≤ R.cells ∧ slots ≤ R.slots) (hR : 3 + 1 ≤ R.frames ∧ 8 + (3 + 11) + 67 ≤ R.locals) (hrest : (rest.map fun v => v.category).sum ≤ 8) (kk : ∀ (H1 : Heap) (locs1 : List Loc), sx_W C M' H1 → va_S (sx_A C) H0 H1 locs1 → W p l e R s m args below meth c H1 locs1 cells slots Q (F0 m (pc + 3) ls ((.int r) :: rest))) : W p l e R s m args below meth c H locs cells slots Q (F0 m pc ls (.int a2 :: .int a1 :: .ref (sx_ad C 17 0) :: rest)) :=
  sx_callV (n := 2) (As := [.int a1, .int a2]) (k0 := 17) (s0 := 0) X hP hz hS (by decide) rfl rfl (sx_goodV tw_1329 tw_1331 tw_55 tw_71 tw_1332) (by decide +kernel) rfl rfl hR (ct_8_ties l C hG a1 a2 M0 r M' h) rfl rfl hrest hsz hdg hcs kk
-- StringShedModel.stringOf(II)I pure
def f8_stringOf (a1 : Int32) (a2 : Int32) (M0 : sx_M) : Option (Int32) :=
  (f8_isThing 21 a1 M0).bind fun v1 =>
  sx_bd (fun (v2 : Int32) =>
    some v2) fun j36 =>
  sx_bd (fun (_ : Unit) =>
    j36 (-9 : Int32)) fun j34 =>
  if v1 = 0 then
    j34 ()
  else
    (f8_isPart 21 a2 M0).bind fun v4 =>
    if v4 = 0 then
      j34 ()
    else
      (f8_find 21 a1 a2 M0).bind fun v6 =>
      j36 v6
set_option maxRecDepth 100000 in
set_option maxHeartbeats 4000000 in
theorem wk_8_stringOf (X : sx_X C p m c cX8_stringOf 3 s args RX8) (hr : meth.sig.returnType = (some .int)) (hlocks : meth.locks = false) (hG : sx_G C) (hz : sx_sz C ≤ s.heap.size) (hcs : 0 ≤ R.cells ∧ 0 ≤ R.slots) (hR : 3 ≤ R.frames ∧ 67 ≤ R.locals) (a1 : Int32) (a2 : Int32) (M0 : sx_M) (r : Int32) (h : f8_stringOf a1 a2 M0 = some r) (hl : lv_has ls 3 [(0, .ref (sx_ad C 17 0)), (1, .int a1), (2, .int a2)]) (hP : sx_W C M0 H) (hS : va_S (sx_A C) s.heap H locs) : W p l e R s m args below meth c H locs 0 0 (sx_Z C (some (.int r)) M0 below args s) (F0 m 0 ls []) := by
  obtain ⟨hx, hb, hml, hown, hts, hK⟩ := id X
  rw [f8_stringOf] at h
  refine lv_aload_n hx hb dX8_stringOf_0 rfl (lv_at hl 0 rfl) ?_
  refine gf_X8_19 X hP (by decide) dX8_stringOf_1 ?_
  refine lv_iload_n hx hb dX8_stringOf_4 rfl (lv_at hl 1 rfl) ?_
  obtain ⟨v1, e_v1, h⟩ := sx_bnd h
  refine cl_X8_144 X hG hP hz hS sx_row21 e_v1 hl.1 dX8_stringOf_5 hcs ⟨Nat.le_trans (by decide) hR.1, Nat.le_trans (by decide) hR.2⟩ (Nat.le_of_ble_eq_true rfl) (fun H locs hP hS => ?_)
  obtain ⟨j36, e_j36, h⟩ := sx_nm h
  have hj36 : ∀ (v2 : Int32) (H : Heap) (locs : List Loc) (ls : Array Slot), lv_has ls 3 [] → sx_W C M0 H → va_S (sx_A C) s.heap H locs → j36 v2 = some r → W p l e R s m args below meth c H locs 0 0 (sx_Z C (some (.int r)) M0 below args s) (F0 m 36 ls [.int v2]) := by
    intro v2 H locs ls hl hP hS h
    subst e_j36
    exact sx_iret X hr hlocks hS hP h dX8_stringOf_36
  clear e_j36
  obtain ⟨j34, e_j34, h⟩ := sx_nm h
  have hj34 : ∀ (H : Heap) (locs : List Loc) (ls : Array Slot), lv_has ls 3 [] → sx_W C M0 H → va_S (sx_A C) s.heap H locs → j34 () = some r → W p l e R s m args below meth c H locs 0 0 (sx_Z C (some (.int r)) M0 below args s) (F0 m 34 ls []) := by
    intro  H locs ls hl hP hS h
    subst e_j34
    refine lv_bipush (v := (-9 : Int32)) hx hb dX8_stringOf_34 (by decide) ?_
    exact hj36 (-9 : Int32) H locs ls (lv_sub hl [] rfl) hP hS h
  clear e_j34
  refine lv_if_eq (tgt := 34) hx hb dX8_stringOf_8 (by decide) (fun c3 => ?_) (fun c3 => ?_)
  · replace h := sx_ifp h c3
    exact hj34 H locs ls (lv_sub hl [] rfl) hP hS h
  · replace h := sx_ifn h c3
    refine lv_aload_n hx hb dX8_stringOf_11 rfl (lv_at hl 0 rfl) ?_
    refine gf_X8_19 X hP (by decide) dX8_stringOf_12 ?_
    refine lv_iload_n hx hb dX8_stringOf_15 rfl (lv_at hl 2 rfl) ?_
    obtain ⟨v4, e_v4, h⟩ := sx_bnd h
    refine cl_X8_74 X hG hP hz hS sx_row21 e_v4 hl.1 dX8_stringOf_16 hcs ⟨Nat.le_trans (by decide) hR.1, Nat.le_trans (by decide) hR.2⟩ (Nat.le_of_ble_eq_true rfl) (fun H locs hP hS => ?_)
    refine lv_if_eq (tgt := 34) hx hb dX8_stringOf_19 (by decide) (fun c5 => ?_) (fun c5 => ?_)
    · replace h := sx_ifp h c5
      exact hj34 H locs ls (lv_sub hl [] rfl) hP hS h
    · replace h := sx_ifn h c5
      refine lv_aload_n hx hb dX8_stringOf_22 rfl (lv_at hl 0 rfl) ?_
      refine gf_X8_19 X hP (by decide) dX8_stringOf_23 ?_
      refine lv_iload_n hx hb dX8_stringOf_26 rfl (lv_at hl 1 rfl) ?_
      refine lv_iload_n hx hb dX8_stringOf_27 rfl (lv_at hl 2 rfl) ?_
      obtain ⟨v6, e_v6, h⟩ := sx_bnd h
      refine cl_X8_99 X hG hP hz hS sx_row21 e_v6 hl.1 dX8_stringOf_28 hcs ⟨Nat.le_trans (by decide) hR.1, Nat.le_trans (by decide) hR.2⟩ (Nat.le_of_ble_eq_true rfl) (fun H locs hP hS => ?_)
      refine lv_goto (tgt := 36) hx hb dX8_stringOf_31 (by decide) ?_
      exact hj36 v6 H locs ls (lv_sub hl [] rfl) hP hS h
set_option maxRecDepth 100000 in
theorem ct_8_stringOf (l : Launch) (C : sx_C) (hG : sx_G C) (a1 : Int32) (a2 : Int32) (M0 : sx_M) (r : Int32) (h : f8_stringOf a1 a2 M0 = some r) : Met l yX8_stringOf (.code yX8_stringOf cX8_stringOf 3 (some .int) :: sx_T) ({ frames := 3, cells := 0, slots := 0, locals := 67 } : Room) (sx_Pc C M0 [.ref (sx_ad C 17 0), .int a1, .int a2]) (sx_Q C (some (.int r)) M0) 0 0 (sx_A C) := by
  refine Met.ofW (cc := cX8_stringOf) (maxL := 3) (ret := (some .int)) (by decide) rfl ?_
  intro p e s m args below meth c s₁ B hml hv
  obtain ⟨rfl, hz, hP, hK⟩ := hv
  have hl := lv_entry ([.ref (sx_ad C 17 0), .int a1, .int a2]) (n := 3) (Nat.le_of_ble_eq_true rfl)
  rw [lg_entry_eq]
  generalize (lg_sl ([.ref (sx_ad C 17 0), .int a1, .int a2]) ++ List.replicate (3 - (lg_sl ([.ref (sx_ad C 17 0), .int a1, .int a2])).length) Slot.unset).toArray = ls at hl ⊢
  exact wk_8_stringOf ⟨B.exec, B.bytes, hml, findClass_of_methodNamed B.named, fun w hw => atoms_spec B.pre w (List.mem_cons_of_mem _ hw), hK⟩ B.returns B.notSynchronized hG hz ⟨Nat.zero_le _, Nat.zero_le _⟩ ⟨Nat.le_refl _, Nat.le_refl _⟩ a1 a2 M0 r h hl hP va_S.rf
theorem cl_X8_249 (X : sx_X C p m c cc nL s args RX8) (hG : sx_G C) (hP : sx_W C M0 H) (hz : sx_sz C ≤ H0.size) (hS : va_S (sx_A C) H0 H locs) {a1 : Int32} {a2 : Int32} {r : Int32} (h : f8_stringOf a1 a2 M0 = some r) (hsz : ls.size = nL) (hdg : decode cc pc = .ok (.invokevirtual 249, 3)) (hcs : cells ≤ R.cells ∧ slots ≤ R.slots) (hR : 3 + 1 ≤ R.frames ∧ 8 + (3 + 11) + 67 ≤ R.locals) (hrest : (rest.map fun v => v.category).sum ≤ 8) (kk : ∀ (H1 : Heap) (locs1 : List Loc), sx_W C M0 H1 → va_S (sx_A C) H0 H1 locs1 → W p l e R s m args below meth c H1 locs1 cells slots Q (F0 m (pc + 3) ls ((.int r) :: rest))) : W p l e R s m args below meth c H locs cells slots Q (F0 m pc ls (.int a2 :: .int a1 :: .ref (sx_ad C 17 0) :: rest)) :=
  sx_callV (n := 2) (As := [.int a1, .int a2]) (k0 := 17) (s0 := 0) X hP hz hS (by decide) rfl rfl (sx_goodV tw_1337 tw_1339 tw_57 tw_71 tw_1340) (by decide +kernel) rfl rfl hR (ct_8_stringOf l C hG a1 a2 M0 r h) rfl rfl hrest hsz hdg hcs kk
-- StringShedModel.cutsString(II)Z
def f8_cutsString (a1 : Int32) (a2 : Int32) (M0 : sx_M) : Option (Int32 × sx_M) :=
  (f8_stringOf a1 a2 M0).bind fun v1 =>
  if v1 = (-9 : Int32) then
    some ((0 : Int32), M0)
  else
    (f8_removeString 21 v1 M0).bind fun M3 =>
    some ((1 : Int32), M3)
set_option maxRecDepth 100000 in
set_option maxHeartbeats 4000000 in
theorem wk_8_cutsString (X : sx_X C p m c cX8_cutsString 4 s args RX8) (hr : meth.sig.returnType = (some .boolean)) (hlocks : meth.locks = false) (hG : sx_G C) (hz : sx_sz C ≤ s.heap.size) (hcs : 0 ≤ R.cells ∧ 0 ≤ R.slots) (hR : 4 ≤ R.frames ∧ 89 ≤ R.locals) (a1 : Int32) (a2 : Int32) (M0 : sx_M) (r : Int32) (M' : sx_M) (h : f8_cutsString a1 a2 M0 = some (r, M')) (hl : lv_has ls 4 [(0, .ref (sx_ad C 17 0)), (1, .int a1), (2, .int a2)]) (hP : sx_W C M0 H) (hS : va_S (sx_A C) s.heap H locs) : W p l e R s m args below meth c H locs 0 0 (sx_Z C (some (.int r)) M' below args s) (F0 m 0 ls []) := by
  obtain ⟨hx, hb, hml, hown, hts, hK⟩ := id X
  rw [f8_cutsString] at h
  refine lv_aload_n hx hb dX8_cutsString_0 rfl (lv_at hl 0 rfl) ?_
  refine lv_iload_n hx hb dX8_cutsString_1 rfl (lv_at hl 1 rfl) ?_
  refine lv_iload_n hx hb dX8_cutsString_2 rfl (lv_at hl 2 rfl) ?_
  obtain ⟨v1, e_v1, h⟩ := sx_bnd h
  refine cl_X8_249 X hG hP hz hS  e_v1 hl.1 dX8_cutsString_3 hcs ⟨Nat.le_trans (by decide) hR.1, Nat.le_trans (by decide) hR.2⟩ (Nat.le_of_ble_eq_true rfl) (fun H locs hP hS => ?_)
  refine lv_istore_n (lv' := [(3, .int v1), (0, .ref (sx_ad C 17 0)), (1, .int a1), (2, .int a2)]) hx hb dX8_cutsString_6 rfl hl (by decide) rfl (fun ls hl => ?_)
  refine lv_iload_n hx hb dX8_cutsString_7 rfl (lv_at hl 0 rfl) ?_
  refine lv_bipush (v := (-9 : Int32)) hx hb dX8_cutsString_8 (by decide) ?_
  refine lv_icmp_ne (tgt := 15) hx hb dX8_cutsString_10 (by decide) (fun c2 => ?_) (fun c2 => ?_)
  · replace h := sx_ifn h c2
    refine lv_aload_n hx hb dX8_cutsString_15 rfl (lv_at hl 1 rfl) ?_
    refine gf_X8_19 X hP (by decide) dX8_cutsString_16 ?_
    refine lv_iload_n hx hb dX8_cutsString_19 rfl (lv_at hl 0 rfl) ?_
    obtain ⟨M3, e_M3, h⟩ := sx_bnd h
    refine cl_X8_89 X hG hP hz hS sx_row21 e_M3 hl.1 dX8_cutsString_20 hcs ⟨Nat.le_trans (by decide) hR.1, Nat.le_trans (by decide) hR.2⟩ (Nat.le_of_ble_eq_true rfl) (fun H locs hP hS => ?_)
    refine lv_iconst (v := (1 : Int32)) hx hb dX8_cutsString_23 (by decide) ?_
    exact sx_zretM X hr hlocks hS hP (by decide) h dX8_cutsString_24
  · replace h := sx_ifp h c2
    refine lv_iconst (v := (0 : Int32)) hx hb dX8_cutsString_13 (by decide) ?_
    exact sx_zretM X hr hlocks hS hP (by decide) h dX8_cutsString_14
set_option maxRecDepth 100000 in
theorem ct_8_cutsString (l : Launch) (C : sx_C) (hG : sx_G C) (a1 : Int32) (a2 : Int32) (M0 : sx_M) (r : Int32) (M' : sx_M) (h : f8_cutsString a1 a2 M0 = some (r, M')) : Met l yX8_cutsString (.code yX8_cutsString cX8_cutsString 4 (some .boolean) :: sx_T) ({ frames := 4, cells := 0, slots := 0, locals := 89 } : Room) (sx_Pc C M0 [.ref (sx_ad C 17 0), .int a1, .int a2]) (sx_Q C (some (.int r)) M') 0 0 (sx_A C) := by
  refine Met.ofW (cc := cX8_cutsString) (maxL := 4) (ret := (some .boolean)) (by decide) rfl ?_
  intro p e s m args below meth c s₁ B hml hv
  obtain ⟨rfl, hz, hP, hK⟩ := hv
  have hl := lv_entry ([.ref (sx_ad C 17 0), .int a1, .int a2]) (n := 4) (Nat.le_of_ble_eq_true rfl)
  rw [lg_entry_eq]
  generalize (lg_sl ([.ref (sx_ad C 17 0), .int a1, .int a2]) ++ List.replicate (4 - (lg_sl ([.ref (sx_ad C 17 0), .int a1, .int a2])).length) Slot.unset).toArray = ls at hl ⊢
  exact wk_8_cutsString ⟨B.exec, B.bytes, hml, findClass_of_methodNamed B.named, fun w hw => atoms_spec B.pre w (List.mem_cons_of_mem _ hw), hK⟩ B.returns B.notSynchronized hG hz ⟨Nat.zero_le _, Nat.zero_le _⟩ ⟨Nat.le_refl _, Nat.le_refl _⟩ a1 a2 M0 r M' h hl hP va_S.rf
theorem cl_X8_262 (X : sx_X C p m c cc nL s args RX8) (hG : sx_G C) (hP : sx_W C M0 H) (hz : sx_sz C ≤ H0.size) (hS : va_S (sx_A C) H0 H locs) {a1 : Int32} {a2 : Int32} {r : Int32} {M' : sx_M} (h : f8_cutsString a1 a2 M0 = some (r, M')) (hsz : ls.size = nL) (hdg : decode cc pc = .ok (.invokevirtual 262, 3)) (hcs : cells ≤ R.cells ∧ slots ≤ R.slots) (hR : 4 + 1 ≤ R.frames ∧ 8 + (4 + 11) + 89 ≤ R.locals) (hrest : (rest.map fun v => v.category).sum ≤ 8) (kk : ∀ (H1 : Heap) (locs1 : List Loc), sx_W C M' H1 → va_S (sx_A C) H0 H1 locs1 → W p l e R s m args below meth c H1 locs1 cells slots Q (F0 m (pc + 3) ls ((.int r) :: rest))) : W p l e R s m args below meth c H locs cells slots Q (F0 m pc ls (.int a2 :: .int a1 :: .ref (sx_ad C 17 0) :: rest)) :=
  sx_callV (n := 2) (As := [.int a1, .int a2]) (k0 := 17) (s0 := 0) X hP hz hS (by decide) rfl rfl (sx_goodV tw_1333 tw_1335 tw_56 tw_71 tw_1336) (by decide +kernel) rfl rfl hR (ct_8_cutsString l C hG a1 a2 M0 r M' h) rfl rfl hrest hsz hdg hcs kk
-- StringShedModel.pins(II)Z
def f8_pins (a1 : Int32) (a2 : Int32) (M0 : sx_M) : Option (Int32 × sx_M) :=
  sx_bd (fun (_ : Unit) =>
    some ((0 : Int32), M0)) fun j16 =>
  if (1 : Int32) < a1 then
    j16 ()
  else
    (f8_isPart 21 a2 M0).bind fun v2 =>
    if v2 = 0 then
      j16 ()
    else
      sx_bd (fun (v4 : Int32) =>
        (f8_pinIn 21 a2 v4 M0).bind fun M5 =>
        some ((1 : Int32), M5)) fun j32 =>
      if a1 = 0 then
        j32 (1 : Int32)
      else
        j32 (0 : Int32)
set_option maxRecDepth 100000 in
set_option maxHeartbeats 4000000 in
theorem wk_8_pins (X : sx_X C p m c cX8_pins 3 s args RX8) (hr : meth.sig.returnType = (some .boolean)) (hlocks : meth.locks = false) (hG : sx_G C) (hz : sx_sz C ≤ s.heap.size) (hcs : 0 ≤ R.cells ∧ 0 ≤ R.slots) (hR : 3 ≤ R.frames ∧ 64 ≤ R.locals) (a1 : Int32) (a2 : Int32) (M0 : sx_M) (r : Int32) (M' : sx_M) (h : f8_pins a1 a2 M0 = some (r, M')) (hl : lv_has ls 3 [(0, .ref (sx_ad C 17 0)), (1, .int a1), (2, .int a2)]) (hP : sx_W C M0 H) (hS : va_S (sx_A C) s.heap H locs) : W p l e R s m args below meth c H locs 0 0 (sx_Z C (some (.int r)) M' below args s) (F0 m 0 ls []) := by
  obtain ⟨hx, hb, hml, hown, hts, hK⟩ := id X
  rw [f8_pins] at h
  refine lv_iload_n hx hb dX8_pins_0 rfl (lv_at hl 1 rfl) ?_
  refine lv_iconst (v := (1 : Int32)) hx hb dX8_pins_1 (by decide) ?_
  obtain ⟨j16, e_j16, h⟩ := sx_nm h
  have hj16 : ∀ (H : Heap) (locs : List Loc) (ls : Array Slot), lv_has ls 3 [] → sx_W C M0 H → va_S (sx_A C) s.heap H locs → j16 () = some (r, M') → W p l e R s m args below meth c H locs 0 0 (sx_Z C (some (.int r)) M' below args s) (F0 m 16 ls []) := by
    intro  H locs ls hl hP hS h
    subst e_j16
    refine lv_iconst (v := (0 : Int32)) hx hb dX8_pins_16 (by decide) ?_
    exact sx_zretM X hr hlocks hS hP (by decide) h dX8_pins_17
  clear e_j16
  refine lv_icmp_gt (tgt := 16) hx hb dX8_pins_2 (by decide) (fun c1 => ?_) (fun c1 => ?_)
  · replace h := sx_ifp h c1
    exact hj16 H locs ls (lv_sub hl [] rfl) hP hS h
  · replace h := sx_ifn h c1
    refine lv_aload_n hx hb dX8_pins_5 rfl (lv_at hl 0 rfl) ?_
    refine gf_X8_19 X hP (by decide) dX8_pins_6 ?_
    refine lv_iload_n hx hb dX8_pins_9 rfl (lv_at hl 2 rfl) ?_
    obtain ⟨v2, e_v2, h⟩ := sx_bnd h
    refine cl_X8_74 X hG hP hz hS sx_row21 e_v2 hl.1 dX8_pins_10 hcs ⟨Nat.le_trans (by decide) hR.1, Nat.le_trans (by decide) hR.2⟩ (Nat.le_of_ble_eq_true rfl) (fun H locs hP hS => ?_)
    refine lv_if_ne (tgt := 18) hx hb dX8_pins_13 (by decide) (fun c3 => ?_) (fun c3 => ?_)
    · replace h := sx_ifn h c3
      refine lv_aload_n hx hb dX8_pins_18 rfl (lv_at hl 0 rfl) ?_
      refine gf_X8_19 X hP (by decide) dX8_pins_19 ?_
      refine lv_iload_n hx hb dX8_pins_22 rfl (lv_at hl 2 rfl) ?_
      refine lv_iload_n hx hb dX8_pins_23 rfl (lv_at hl 1 rfl) ?_
      obtain ⟨j32, e_j32, h⟩ := sx_nm h
      have hj32 : ∀ (v4 : Int32) (H : Heap) (locs : List Loc) (ls : Array Slot), lv_has ls 3 [] → sx_W C M0 H → va_S (sx_A C) s.heap H locs → j32 v4 = some (r, M') → W p l e R s m args below meth c H locs 0 0 (sx_Z C (some (.int r)) M' below args s) (F0 m 32 ls [.int v4, .int a2, .ref (sx_ad C 21 0)]) := by
        intro v4 H locs ls hl hP hS h
        subst e_j32
        obtain ⟨M5, e_M5, h⟩ := sx_bnd h
        refine cl_X8_165 X hG hP hz hS sx_row21 e_M5 hl.1 dX8_pins_32 hcs ⟨Nat.le_trans (by decide) hR.1, Nat.le_trans (by decide) hR.2⟩ (Nat.le_of_ble_eq_true rfl) (fun H locs hP hS => ?_)
        refine lv_iconst (v := (1 : Int32)) hx hb dX8_pins_35 (by decide) ?_
        exact sx_zretM X hr hlocks hS hP (by decide) h dX8_pins_36
      clear e_j32
      refine lv_if_ne (tgt := 31) hx hb dX8_pins_24 (by decide) (fun c6 => ?_) (fun c6 => ?_)
      · replace h := sx_ifn h c6
        refine lv_iconst (v := (0 : Int32)) hx hb dX8_pins_31 (by decide) ?_
        exact hj32 (0 : Int32) H locs ls (lv_sub hl [] rfl) hP hS h
      · replace h := sx_ifp h c6
        refine lv_iconst (v := (1 : Int32)) hx hb dX8_pins_27 (by decide) ?_
        refine lv_goto (tgt := 32) hx hb dX8_pins_28 (by decide) ?_
        exact hj32 (1 : Int32) H locs ls (lv_sub hl [] rfl) hP hS h
    · replace h := sx_ifp h c3
      exact hj16 H locs ls (lv_sub hl [] rfl) hP hS h
set_option maxRecDepth 100000 in
theorem ct_8_pins (l : Launch) (C : sx_C) (hG : sx_G C) (a1 : Int32) (a2 : Int32) (M0 : sx_M) (r : Int32) (M' : sx_M) (h : f8_pins a1 a2 M0 = some (r, M')) : Met l yX8_pins (.code yX8_pins cX8_pins 3 (some .boolean) :: sx_T) ({ frames := 3, cells := 0, slots := 0, locals := 64 } : Room) (sx_Pc C M0 [.ref (sx_ad C 17 0), .int a1, .int a2]) (sx_Q C (some (.int r)) M') 0 0 (sx_A C) := by
  refine Met.ofW (cc := cX8_pins) (maxL := 3) (ret := (some .boolean)) (by decide) rfl ?_
  intro p e s m args below meth c s₁ B hml hv
  obtain ⟨rfl, hz, hP, hK⟩ := hv
  have hl := lv_entry ([.ref (sx_ad C 17 0), .int a1, .int a2]) (n := 3) (Nat.le_of_ble_eq_true rfl)
  rw [lg_entry_eq]
  generalize (lg_sl ([.ref (sx_ad C 17 0), .int a1, .int a2]) ++ List.replicate (3 - (lg_sl ([.ref (sx_ad C 17 0), .int a1, .int a2])).length) Slot.unset).toArray = ls at hl ⊢
  exact wk_8_pins ⟨B.exec, B.bytes, hml, findClass_of_methodNamed B.named, fun w hw => atoms_spec B.pre w (List.mem_cons_of_mem _ hw), hK⟩ B.returns B.notSynchronized hG hz ⟨Nat.zero_le _, Nat.zero_le _⟩ ⟨Nat.le_refl _, Nat.le_refl _⟩ a1 a2 M0 r M' h hl hP va_S.rf
theorem cl_X8_265 (X : sx_X C p m c cc nL s args RX8) (hG : sx_G C) (hP : sx_W C M0 H) (hz : sx_sz C ≤ H0.size) (hS : va_S (sx_A C) H0 H locs) {a1 : Int32} {a2 : Int32} {r : Int32} {M' : sx_M} (h : f8_pins a1 a2 M0 = some (r, M')) (hsz : ls.size = nL) (hdg : decode cc pc = .ok (.invokevirtual 265, 3)) (hcs : cells ≤ R.cells ∧ slots ≤ R.slots) (hR : 3 + 1 ≤ R.frames ∧ 8 + (3 + 11) + 64 ≤ R.locals) (hrest : (rest.map fun v => v.category).sum ≤ 8) (kk : ∀ (H1 : Heap) (locs1 : List Loc), sx_W C M' H1 → va_S (sx_A C) H0 H1 locs1 → W p l e R s m args below meth c H1 locs1 cells slots Q (F0 m (pc + 3) ls ((.int r) :: rest))) : W p l e R s m args below meth c H locs cells slots Q (F0 m pc ls (.int a2 :: .int a1 :: .ref (sx_ad C 17 0) :: rest)) :=
  sx_callV (n := 2) (As := [.int a1, .int a2]) (k0 := 17) (s0 := 0) X hP hz hS (by decide) rfl rfl (sx_goodV tw_1341 tw_1343 tw_58 tw_71 tw_1344) (by decide +kernel) rfl rfl hR (ct_8_pins l C hG a1 a2 M0 r M' h) rfl rfl hrest hsz hdg hcs kk
-- StringShedModel.makes(I)Z
def f8_makes (a1 : Int32) (M0 : sx_M) : Option (Int32 × sx_M) :=
  sx_bd (fun (_ : Unit) =>
    some ((0 : Int32), M0)) fun j15 =>
  if a1 = 0 then
    j15 ()
  else
    if sx_in (0 : Int32) 247 then
    sx_bd (M0.1 21 0 ((0 : Int32)).toNatClampNeg) fun v2 =>
    if v2 = (24 : Int32) then
      j15 ()
    else
      sx_b2 (f8_makeIn 21 a1 M0) fun v4 M5 =>
      some ((1 : Int32), M5)
    else none
set_option maxRecDepth 100000 in
set_option maxHeartbeats 4000000 in
theorem wk_8_makes (X : sx_X C p m c cX8_makes 2 s args RX8) (hr : meth.sig.returnType = (some .boolean)) (hlocks : meth.locks = false) (hG : sx_G C) (hz : sx_sz C ≤ s.heap.size) (hcs : 0 ≤ R.cells ∧ 0 ≤ R.slots) (hR : 2 ≤ R.frames ∧ 43 ≤ R.locals) (a1 : Int32) (M0 : sx_M) (r : Int32) (M' : sx_M) (h : f8_makes a1 M0 = some (r, M')) (hl : lv_has ls 2 [(0, .ref (sx_ad C 17 0)), (1, .int a1)]) (hP : sx_W C M0 H) (hS : va_S (sx_A C) s.heap H locs) : W p l e R s m args below meth c H locs 0 0 (sx_Z C (some (.int r)) M' below args s) (F0 m 0 ls []) := by
  obtain ⟨hx, hb, hml, hown, hts, hK⟩ := id X
  rw [f8_makes] at h
  refine lv_iload_n hx hb dX8_makes_0 rfl (lv_at hl 1 rfl) ?_
  obtain ⟨j15, e_j15, h⟩ := sx_nm h
  have hj15 : ∀ (H : Heap) (locs : List Loc) (ls : Array Slot), lv_has ls 2 [] → sx_W C M0 H → va_S (sx_A C) s.heap H locs → j15 () = some (r, M') → W p l e R s m args below meth c H locs 0 0 (sx_Z C (some (.int r)) M' below args s) (F0 m 15 ls []) := by
    intro  H locs ls hl hP hS h
    subst e_j15
    refine lv_iconst (v := (0 : Int32)) hx hb dX8_makes_15 (by decide) ?_
    exact sx_zretM X hr hlocks hS hP (by decide) h dX8_makes_16
  clear e_j15
  refine lv_if_eq (tgt := 15) hx hb dX8_makes_1 (by decide) (fun c1 => ?_) (fun c1 => ?_)
  · replace h := sx_ifp h c1
    exact hj15 H locs ls (lv_sub hl [] rfl) hP hS h
  · replace h := sx_ifn h c1
    refine lv_aload_n hx hb dX8_makes_4 rfl (lv_at hl 0 rfl) ?_
    refine gf_X8_19 X hP (by decide) dX8_makes_5 ?_
    refine lv_iconst (v := (0 : Int32)) hx hb dX8_makes_8 (by decide) ?_
    refine sx_iald X hP 21 0 247 (by decide) (fun _ _ => rfl) dX8_makes_9 h (fun v2 h => ?_)
    refine lv_bipush (v := (24 : Int32)) hx hb dX8_makes_10 (by decide) ?_
    refine lv_icmp_ne (tgt := 17) hx hb dX8_makes_12 (by decide) (fun c3 => ?_) (fun c3 => ?_)
    · replace h := sx_ifn h c3
      refine lv_aload_n hx hb dX8_makes_17 rfl (lv_at hl 0 rfl) ?_
      refine gf_X8_19 X hP (by decide) dX8_makes_18 ?_
      refine lv_iload_n hx hb dX8_makes_21 rfl (lv_at hl 1 rfl) ?_
      obtain ⟨v4, M5, e_v4, h⟩ := sx_bnd2 h
      refine cl_X8_161 X hG hP hz hS sx_row21 e_v4 hl.1 dX8_makes_22 hcs ⟨Nat.le_trans (by decide) hR.1, Nat.le_trans (by decide) hR.2⟩ (Nat.le_of_ble_eq_true rfl) (fun H locs hP hS => ?_)
      refine lv_pop hx hb dX8_makes_25 rfl ?_
      refine lv_iconst (v := (1 : Int32)) hx hb dX8_makes_26 (by decide) ?_
      exact sx_zretM X hr hlocks hS hP (by decide) h dX8_makes_27
    · replace h := sx_ifp h c3
      exact hj15 H locs ls (lv_sub hl [] rfl) hP hS h
set_option maxRecDepth 100000 in
theorem ct_8_makes (l : Launch) (C : sx_C) (hG : sx_G C) (a1 : Int32) (M0 : sx_M) (r : Int32) (M' : sx_M) (h : f8_makes a1 M0 = some (r, M')) : Met l yX8_makes (.code yX8_makes cX8_makes 2 (some .boolean) :: sx_T) ({ frames := 2, cells := 0, slots := 0, locals := 43 } : Room) (sx_Pc C M0 [.ref (sx_ad C 17 0), .int a1]) (sx_Q C (some (.int r)) M') 0 0 (sx_A C) := by
  refine Met.ofW (cc := cX8_makes) (maxL := 2) (ret := (some .boolean)) (by decide) rfl ?_
  intro p e s m args below meth c s₁ B hml hv
  obtain ⟨rfl, hz, hP, hK⟩ := hv
  have hl := lv_entry ([.ref (sx_ad C 17 0), .int a1]) (n := 2) (Nat.le_of_ble_eq_true rfl)
  rw [lg_entry_eq]
  generalize (lg_sl ([.ref (sx_ad C 17 0), .int a1]) ++ List.replicate (2 - (lg_sl ([.ref (sx_ad C 17 0), .int a1])).length) Slot.unset).toArray = ls at hl ⊢
  exact wk_8_makes ⟨B.exec, B.bytes, hml, findClass_of_methodNamed B.named, fun w hw => atoms_spec B.pre w (List.mem_cons_of_mem _ hw), hK⟩ B.returns B.notSynchronized hG hz ⟨Nat.zero_le _, Nat.zero_le _⟩ ⟨Nat.le_refl _, Nat.le_refl _⟩ a1 M0 r M' h hl hP va_S.rf
theorem cl_X8_252 (X : sx_X C p m c cc nL s args RX8) (hG : sx_G C) (hP : sx_W C M0 H) (hz : sx_sz C ≤ H0.size) (hS : va_S (sx_A C) H0 H locs) {a1 : Int32} {r : Int32} {M' : sx_M} (h : f8_makes a1 M0 = some (r, M')) (hsz : ls.size = nL) (hdg : decode cc pc = .ok (.invokevirtual 252, 3)) (hcs : cells ≤ R.cells ∧ slots ≤ R.slots) (hR : 2 + 1 ≤ R.frames ∧ 8 + (2 + 11) + 43 ≤ R.locals) (hrest : (rest.map fun v => v.category).sum ≤ 8) (kk : ∀ (H1 : Heap) (locs1 : List Loc), sx_W C M' H1 → va_S (sx_A C) H0 H1 locs1 → W p l e R s m args below meth c H1 locs1 cells slots Q (F0 m (pc + 3) ls ((.int r) :: rest))) : W p l e R s m args below meth c H locs cells slots Q (F0 m pc ls (.int a1 :: .ref (sx_ad C 17 0) :: rest)) :=
  sx_callV (n := 1) (As := [.int a1]) (k0 := 17) (s0 := 0) X hP hz hS (by decide) rfl rfl (sx_goodV tw_1320 tw_1322 tw_54 tw_71 tw_1323) (by decide +kernel) rfl rfl hR (ct_8_makes l C hG a1 M0 r M' h) rfl rfl hrest hsz hdg hcs kk
-- StringShedModel.begins()Z
def f8_begins  (M0 : sx_M) : Option (Int32 × sx_M) :=
  if sx_in (3 : Int32) 247 then
  sx_bd (M0.1 21 0 ((3 : Int32)).toNatClampNeg) fun v1 =>
  if v1 = (1 : Int32) then
    some ((0 : Int32), M0)
  else
    sx_b2 (f8_beginIn 21 M0) fun v3 M4 =>
    some ((1 : Int32), M4)
  else none
set_option maxRecDepth 100000 in
set_option maxHeartbeats 4000000 in
theorem wk_8_begins (X : sx_X C p m c cX8_begins 1 s args RX8) (hr : meth.sig.returnType = (some .boolean)) (hlocks : meth.locks = false) (hG : sx_G C) (hz : sx_sz C ≤ s.heap.size) (hcs : 0 ≤ R.cells ∧ 0 ≤ R.slots) (hR : 3 ≤ R.frames ∧ 69 ≤ R.locals) (M0 : sx_M) (r : Int32) (M' : sx_M) (h : f8_begins M0 = some (r, M')) (hl : lv_has ls 1 [(0, .ref (sx_ad C 17 0))]) (hP : sx_W C M0 H) (hS : va_S (sx_A C) s.heap H locs) : W p l e R s m args below meth c H locs 0 0 (sx_Z C (some (.int r)) M' below args s) (F0 m 0 ls []) := by
  obtain ⟨hx, hb, hml, hown, hts, hK⟩ := id X
  rw [f8_begins] at h
  refine lv_aload_n hx hb dX8_begins_0 rfl (lv_at hl 0 rfl) ?_
  refine gf_X8_19 X hP (by decide) dX8_begins_1 ?_
  refine lv_iconst (v := (3 : Int32)) hx hb dX8_begins_4 (by decide) ?_
  refine sx_iald X hP 21 0 247 (by decide) (fun _ _ => rfl) dX8_begins_5 h (fun v1 h => ?_)
  refine lv_iconst (v := (1 : Int32)) hx hb dX8_begins_6 (by decide) ?_
  refine lv_icmp_ne (tgt := 12) hx hb dX8_begins_7 (by decide) (fun c2 => ?_) (fun c2 => ?_)
  · replace h := sx_ifn h c2
    refine lv_aload_n hx hb dX8_begins_12 rfl (lv_at hl 0 rfl) ?_
    refine gf_X8_19 X hP (by decide) dX8_begins_13 ?_
    obtain ⟨v3, M4, e_v3, h⟩ := sx_bnd2 h
    refine cl_X8_169 X hG hP hz hS sx_row21 e_v3 hl.1 dX8_begins_16 hcs ⟨Nat.le_trans (by decide) hR.1, Nat.le_trans (by decide) hR.2⟩ (Nat.le_of_ble_eq_true rfl) (fun H locs hP hS => ?_)
    refine lv_pop hx hb dX8_begins_19 rfl ?_
    refine lv_iconst (v := (1 : Int32)) hx hb dX8_begins_20 (by decide) ?_
    exact sx_zretM X hr hlocks hS hP (by decide) h dX8_begins_21
  · replace h := sx_ifp h c2
    refine lv_iconst (v := (0 : Int32)) hx hb dX8_begins_10 (by decide) ?_
    exact sx_zretM X hr hlocks hS hP (by decide) h dX8_begins_11
set_option maxRecDepth 100000 in
theorem ct_8_begins (l : Launch) (C : sx_C) (hG : sx_G C) (M0 : sx_M) (r : Int32) (M' : sx_M) (h : f8_begins M0 = some (r, M')) : Met l yX8_begins (.code yX8_begins cX8_begins 1 (some .boolean) :: sx_T) ({ frames := 3, cells := 0, slots := 0, locals := 69 } : Room) (sx_Pc C M0 [.ref (sx_ad C 17 0)]) (sx_Q C (some (.int r)) M') 0 0 (sx_A C) := by
  refine Met.ofW (cc := cX8_begins) (maxL := 1) (ret := (some .boolean)) (by decide) rfl ?_
  intro p e s m args below meth c s₁ B hml hv
  obtain ⟨rfl, hz, hP, hK⟩ := hv
  have hl := lv_entry ([.ref (sx_ad C 17 0)]) (n := 1) (Nat.le_of_ble_eq_true rfl)
  rw [lg_entry_eq]
  generalize (lg_sl ([.ref (sx_ad C 17 0)]) ++ List.replicate (1 - (lg_sl ([.ref (sx_ad C 17 0)])).length) Slot.unset).toArray = ls at hl ⊢
  exact wk_8_begins ⟨B.exec, B.bytes, hml, findClass_of_methodNamed B.named, fun w hw => atoms_spec B.pre w (List.mem_cons_of_mem _ hw), hK⟩ B.returns B.notSynchronized hG hz ⟨Nat.zero_le _, Nat.zero_le _⟩ ⟨Nat.le_refl _, Nat.le_refl _⟩ M0 r M' h hl hP va_S.rf
theorem cl_X8_268 (X : sx_X C p m c cc nL s args RX8) (hG : sx_G C) (hP : sx_W C M0 H) (hz : sx_sz C ≤ H0.size) (hS : va_S (sx_A C) H0 H locs) {r : Int32} {M' : sx_M} (h : f8_begins M0 = some (r, M')) (hsz : ls.size = nL) (hdg : decode cc pc = .ok (.invokevirtual 268, 3)) (hcs : cells ≤ R.cells ∧ slots ≤ R.slots) (hR : 3 + 1 ≤ R.frames ∧ 8 + (1 + 11) + 69 ≤ R.locals) (hrest : (rest.map fun v => v.category).sum ≤ 8) (kk : ∀ (H1 : Heap) (locs1 : List Loc), sx_W C M' H1 → va_S (sx_A C) H0 H1 locs1 → W p l e R s m args below meth c H1 locs1 cells slots Q (F0 m (pc + 3) ls ((.int r) :: rest))) : W p l e R s m args below meth c H locs cells slots Q (F0 m pc ls (.ref (sx_ad C 17 0) :: rest)) :=
  sx_callV (n := 0) (As := []) (k0 := 17) (s0 := 0) X hP hz hS (by decide) rfl rfl (sx_goodV tw_1345 tw_1347 tw_59 tw_71 tw_1348) (by decide +kernel) rfl rfl hR (ct_8_begins l C hG M0 r M' h) rfl rfl hrest hsz hdg hcs kk
-- StringShedModel.steps(I)Z
def f8_steps_L17 (w1 : Int32) (k46 : (sx_M → Option (Int32 × sx_M))) : Nat → Int32 → sx_M → Option (Int32 × sx_M)
  | 0, _, _ => none
  | n + 1, x2, M =>
    if w1 ≤ x2 then
      k46 M
    else
      if sx_in (3 : Int32) 247 then
      sx_bd (M.1 21 0 ((3 : Int32)).toNatClampNeg) fun v5 =>
      if v5 = (1 : Int32) then
        sx_b2 (f8_stepIn 21 M) fun v7 M8 =>
        sx_bd (x2 + (1 : Int32)) fun v9 =>
        f8_steps_L17 w1 k46 n v9 M8
      else
        k46 M
      else none
def f8_steps (a1 : Int32) (M0 : sx_M) : Option (Int32 × sx_M) :=
  sx_bd (fun (_ : Unit) =>
    some ((0 : Int32), M0)) fun j13 =>
  if a1 = 0 then
    j13 ()
  else
    if sx_in (3 : Int32) 247 then
    sx_bd (M0.1 21 0 ((3 : Int32)).toNatClampNeg) fun v2 =>
    if v2 = 0 then
      j13 ()
    else
      f8_steps_L17 a1
        (fun (M10 : sx_M) =>
          some ((1 : Int32), M10))
        5000 (0 : Int32) M0
    else none
set_option maxRecDepth 100000 in
set_option maxHeartbeats 4000000 in
theorem wk_8_steps (X : sx_X C p m c cX8_steps 3 s args RX8) (hr : meth.sig.returnType = (some .boolean)) (hlocks : meth.locks = false) (hG : sx_G C) (hz : sx_sz C ≤ s.heap.size) (hcs : 0 ≤ R.cells ∧ 0 ≤ R.slots) (hR : 5 ≤ R.frames ∧ 112 ≤ R.locals) (a1 : Int32) (M0 : sx_M) (r : Int32) (M' : sx_M) (h : f8_steps a1 M0 = some (r, M')) (hl : lv_has ls 3 [(0, .ref (sx_ad C 17 0)), (1, .int a1)]) (hP : sx_W C M0 H) (hS : va_S (sx_A C) s.heap H locs) : W p l e R s m args below meth c H locs 0 0 (sx_Z C (some (.int r)) M' below args s) (F0 m 0 ls []) := by
  obtain ⟨hx, hb, hml, hown, hts, hK⟩ := id X
  rw [f8_steps] at h
  have hf8_steps_L17 : ∀ (w1 : Int32) (k46 : (sx_M → Option (Int32 × sx_M))) (n : Nat) (hk46 : (∀ (M : sx_M) (H : Heap) (locs : List Loc) (ls : Array Slot), lv_has ls 3 [] → sx_W C M H → va_S (sx_A C) s.heap H locs → k46 M = some (r, M') → W p l e R s m args below meth c H locs 0 0 (sx_Z C (some (.int r)) M' below args s) (F0 m 46 ls []))) (x2 : Int32) (M : sx_M) (H : Heap) (locs : List Loc) (ls : Array Slot), lv_has ls 3 [(0, .ref (sx_ad C 17 0)), (1, .int w1), (2, .int x2)] → sx_W C M H → va_S (sx_A C) s.heap H locs → f8_steps_L17 w1 k46 n x2 M = some (r, M') → W p l e R s m args below meth c H locs 0 0 (sx_Z C (some (.int r)) M' below args s) (F0 m 17 ls []) := by
    intro w1 k46 n hk46
    induction n with
    | zero => intro x2 M H locs ls hl hP hS h; exact absurd (show (none : Option (Int32 × sx_M)) = some (r, M') from h) (fun q => nomatch q)
    | succ n ih =>
      intro x2 M H locs ls hl hP hS h
      rw [f8_steps_L17] at h
      refine lv_iload_n hx hb dX8_steps_17 rfl (lv_at hl 2 rfl) ?_
      refine lv_iload_n hx hb dX8_steps_18 rfl (lv_at hl 1 rfl) ?_
      refine lv_icmp_ge (tgt := 46) hx hb dX8_steps_19 (by decide) (fun c4 => ?_) (fun c4 => ?_)
      · replace h := sx_ifp h c4
        exact hk46 M H locs ls (lv_sub hl [] rfl) hP hS h
      · replace h := sx_ifn h c4
        refine lv_aload_n hx hb dX8_steps_22 rfl (lv_at hl 0 rfl) ?_
        refine gf_X8_19 X hP (by decide) dX8_steps_23 ?_
        refine lv_iconst (v := (3 : Int32)) hx hb dX8_steps_26 (by decide) ?_
        refine sx_iald X hP 21 0 247 (by decide) (fun _ _ => rfl) dX8_steps_27 h (fun v5 h => ?_)
        refine lv_iconst (v := (1 : Int32)) hx hb dX8_steps_28 (by decide) ?_
        refine lv_icmp_ne (tgt := 46) hx hb dX8_steps_29 (by decide) (fun c6 => ?_) (fun c6 => ?_)
        · replace h := sx_ifn h c6
          exact hk46 M H locs ls (lv_sub hl [] rfl) hP hS h
        · replace h := sx_ifp h c6
          refine lv_aload_n hx hb dX8_steps_32 rfl (lv_at hl 0 rfl) ?_
          refine gf_X8_19 X hP (by decide) dX8_steps_33 ?_
          obtain ⟨v7, M8, e_v7, h⟩ := sx_bnd2 h
          refine cl_X8_172 X hG hP hz hS sx_row21 e_v7 hl.1 dX8_steps_36 hcs ⟨Nat.le_trans (by decide) hR.1, Nat.le_trans (by decide) hR.2⟩ (Nat.le_of_ble_eq_true rfl) (fun H locs hP hS => ?_)
          refine lv_pop hx hb dX8_steps_39 rfl ?_
          obtain ⟨v9, e_v9, h⟩ := sx_nm h
          refine lv_iinc (v := v9) (lv' := [(2, .int v9), (0, .ref (sx_ad C 17 0)), (1, .int w1)]) hx hb dX8_steps_40 hl (k := 2) rfl (by rw [← e_v9]; rfl) (by decide) rfl (fun ls hl => ?_)
          refine lv_goto (tgt := 17) hx hb dX8_steps_43 (by decide) ?_
          exact ih v9 M8 H locs ls (lv_sub hl [1, 2, 0] rfl) hP hS h
  refine lv_iload_n hx hb dX8_steps_0 rfl (lv_at hl 1 rfl) ?_
  obtain ⟨j13, e_j13, h⟩ := sx_nm h
  have hj13 : ∀ (H : Heap) (locs : List Loc) (ls : Array Slot), lv_has ls 3 [] → sx_W C M0 H → va_S (sx_A C) s.heap H locs → j13 () = some (r, M') → W p l e R s m args below meth c H locs 0 0 (sx_Z C (some (.int r)) M' below args s) (F0 m 13 ls []) := by
    intro  H locs ls hl hP hS h
    subst e_j13
    refine lv_iconst (v := (0 : Int32)) hx hb dX8_steps_13 (by decide) ?_
    exact sx_zretM X hr hlocks hS hP (by decide) h dX8_steps_14
  clear e_j13
  refine lv_if_eq (tgt := 13) hx hb dX8_steps_1 (by decide) (fun c1 => ?_) (fun c1 => ?_)
  · replace h := sx_ifp h c1
    exact hj13 H locs ls (lv_sub hl [] rfl) hP hS h
  · replace h := sx_ifn h c1
    refine lv_aload_n hx hb dX8_steps_4 rfl (lv_at hl 0 rfl) ?_
    refine gf_X8_19 X hP (by decide) dX8_steps_5 ?_
    refine lv_iconst (v := (3 : Int32)) hx hb dX8_steps_8 (by decide) ?_
    refine sx_iald X hP 21 0 247 (by decide) (fun _ _ => rfl) dX8_steps_9 h (fun v2 h => ?_)
    refine lv_if_ne (tgt := 15) hx hb dX8_steps_10 (by decide) (fun c3 => ?_) (fun c3 => ?_)
    · replace h := sx_ifn h c3
      refine lv_iconst (v := (0 : Int32)) hx hb dX8_steps_15 (by decide) ?_
      refine lv_istore_n (lv' := [(2, .int (0 : Int32)), (0, .ref (sx_ad C 17 0)), (1, .int a1)]) hx hb dX8_steps_16 rfl hl (by decide) rfl (fun ls hl => ?_)
      refine hf8_steps_L17 a1 _ 5000 ?_ (0 : Int32) M0 H locs ls (lv_sub hl [1, 2, 0] rfl) hP hS h
      · intro M10 H locs ls hl hP hS h
        refine lv_iconst (v := (1 : Int32)) hx hb dX8_steps_46 (by decide) ?_
        exact sx_zretM X hr hlocks hS hP (by decide) h dX8_steps_47
    · replace h := sx_ifp h c3
      exact hj13 H locs ls (lv_sub hl [] rfl) hP hS h
set_option maxRecDepth 100000 in
theorem ct_8_steps (l : Launch) (C : sx_C) (hG : sx_G C) (a1 : Int32) (M0 : sx_M) (r : Int32) (M' : sx_M) (h : f8_steps a1 M0 = some (r, M')) : Met l yX8_steps (.code yX8_steps cX8_steps 3 (some .boolean) :: sx_T) ({ frames := 5, cells := 0, slots := 0, locals := 112 } : Room) (sx_Pc C M0 [.ref (sx_ad C 17 0), .int a1]) (sx_Q C (some (.int r)) M') 0 0 (sx_A C) := by
  refine Met.ofW (cc := cX8_steps) (maxL := 3) (ret := (some .boolean)) (by decide) rfl ?_
  intro p e s m args below meth c s₁ B hml hv
  obtain ⟨rfl, hz, hP, hK⟩ := hv
  have hl := lv_entry ([.ref (sx_ad C 17 0), .int a1]) (n := 3) (Nat.le_of_ble_eq_true rfl)
  rw [lg_entry_eq]
  generalize (lg_sl ([.ref (sx_ad C 17 0), .int a1]) ++ List.replicate (3 - (lg_sl ([.ref (sx_ad C 17 0), .int a1])).length) Slot.unset).toArray = ls at hl ⊢
  exact wk_8_steps ⟨B.exec, B.bytes, hml, findClass_of_methodNamed B.named, fun w hw => atoms_spec B.pre w (List.mem_cons_of_mem _ hw), hK⟩ B.returns B.notSynchronized hG hz ⟨Nat.zero_le _, Nat.zero_le _⟩ ⟨Nat.le_refl _, Nat.le_refl _⟩ a1 M0 r M' h hl hP va_S.rf
theorem cl_X8_272 (X : sx_X C p m c cc nL s args RX8) (hG : sx_G C) (hP : sx_W C M0 H) (hz : sx_sz C ≤ H0.size) (hS : va_S (sx_A C) H0 H locs) {a1 : Int32} {r : Int32} {M' : sx_M} (h : f8_steps a1 M0 = some (r, M')) (hsz : ls.size = nL) (hdg : decode cc pc = .ok (.invokevirtual 272, 3)) (hcs : cells ≤ R.cells ∧ slots ≤ R.slots) (hR : 5 + 1 ≤ R.frames ∧ 8 + (3 + 11) + 112 ≤ R.locals) (hrest : (rest.map fun v => v.category).sum ≤ 8) (kk : ∀ (H1 : Heap) (locs1 : List Loc), sx_W C M' H1 → va_S (sx_A C) H0 H1 locs1 → W p l e R s m args below meth c H1 locs1 cells slots Q (F0 m (pc + 3) ls ((.int r) :: rest))) : W p l e R s m args below meth c H locs cells slots Q (F0 m pc ls (.int a1 :: .ref (sx_ad C 17 0) :: rest)) :=
  sx_callV (n := 1) (As := [.int a1]) (k0 := 17) (s0 := 0) X hP hz hS (by decide) rfl rfl (sx_goodV tw_1349 tw_1351 tw_60 tw_71 tw_1352) (by decide +kernel) rfl rfl hR (ct_8_steps l C hG a1 M0 r M' h) rfl rfl hrest hsz hdg hcs kk
-- StringShedModel.isHeld(I)Z
def f8_isHeld (a1 : Int32) (M0 : sx_M) : Option (Int32 × sx_M) :=
  (f8_lay 21 M0).bind fun M1 =>
  if sx_in a1 24 then
  sx_bd (M1.1 25 0 (a1).toNatClampNeg) fun v2 =>
  sx_bd (fun (v3 : Int32) =>
    if v3 = 0 ∨ v3 = 1 then some (v3, M1) else none) fun j24 =>
  if (99 : Int32) ≤ v2 then
    j24 (0 : Int32)
  else
    j24 (1 : Int32)
  else none
set_option maxRecDepth 100000 in
set_option maxHeartbeats 4000000 in
theorem wk_8_isHeld (X : sx_X C p m c cX8_isHeld 2 s args RX8) (hr : meth.sig.returnType = (some .boolean)) (hlocks : meth.locks = false) (hG : sx_G C) (hz : sx_sz C ≤ s.heap.size) (hcs : 0 ≤ R.cells ∧ 0 ≤ R.slots) (hR : 3 ≤ R.frames ∧ 72 ≤ R.locals) (a1 : Int32) (M0 : sx_M) (r : Int32) (M' : sx_M) (h : f8_isHeld a1 M0 = some (r, M')) (hl : lv_has ls 2 [(0, .ref (sx_ad C 17 0)), (1, .int a1)]) (hP : sx_W C M0 H) (hS : va_S (sx_A C) s.heap H locs) : W p l e R s m args below meth c H locs 0 0 (sx_Z C (some (.int r)) M' below args s) (F0 m 0 ls []) := by
  obtain ⟨hx, hb, hml, hown, hts, hK⟩ := id X
  rw [f8_isHeld] at h
  refine lv_aload_n hx hb dX8_isHeld_0 rfl (lv_at hl 0 rfl) ?_
  refine lv_aload_n hx hb dX8_isHeld_1 rfl (lv_at hl 0 rfl) ?_
  refine gf_X8_19 X hP (by decide) dX8_isHeld_2 ?_
  obtain ⟨M1, e_M1, h⟩ := sx_bnd h
  refine cl_X8_81 X hG hP hz hS sx_row21 e_M1 hl.1 dX8_isHeld_5 hcs ⟨Nat.le_trans (by decide) hR.1, Nat.le_trans (by decide) hR.2⟩ (Nat.le_of_ble_eq_true rfl) (fun H locs hP hS => ?_)
  refine lv_aload_n hx hb dX8_isHeld_8 rfl (lv_at hl 0 rfl) ?_
  refine gf_X8_32 X hP (by decide) dX8_isHeld_9 ?_
  refine lv_iload_n hx hb dX8_isHeld_12 rfl (lv_at hl 1 rfl) ?_
  refine sx_iald X hP 25 0 24 (by decide) (fun _ _ => rfl) dX8_isHeld_13 h (fun v2 h => ?_)
  refine lv_bipush (v := (99 : Int32)) hx hb dX8_isHeld_14 (by decide) ?_
  obtain ⟨j24, e_j24, h⟩ := sx_nm h
  have hj24 : ∀ (v3 : Int32) (H : Heap) (locs : List Loc) (ls : Array Slot), lv_has ls 2 [] → sx_W C M1 H → va_S (sx_A C) s.heap H locs → j24 v3 = some (r, M') → W p l e R s m args below meth c H locs 0 0 (sx_Z C (some (.int r)) M' below args s) (F0 m 24 ls [.int v3]) := by
    intro v3 H locs ls hl hP hS h
    subst e_j24
    obtain ⟨hz01, h⟩ := sx_ck h
    exact sx_zretM X hr hlocks hS hP hz01 h dX8_isHeld_24
  clear e_j24
  refine lv_icmp_ge (tgt := 23) hx hb dX8_isHeld_16 (by decide) (fun c4 => ?_) (fun c4 => ?_)
  · replace h := sx_ifp h c4
    refine lv_iconst (v := (0 : Int32)) hx hb dX8_isHeld_23 (by decide) ?_
    exact hj24 (0 : Int32) H locs ls (lv_sub hl [] rfl) hP hS h
  · replace h := sx_ifn h c4
    refine lv_iconst (v := (1 : Int32)) hx hb dX8_isHeld_19 (by decide) ?_
    refine lv_goto (tgt := 24) hx hb dX8_isHeld_20 (by decide) ?_
    exact hj24 (1 : Int32) H locs ls (lv_sub hl [] rfl) hP hS h
set_option maxRecDepth 100000 in
theorem ct_8_isHeld (l : Launch) (C : sx_C) (hG : sx_G C) (a1 : Int32) (M0 : sx_M) (r : Int32) (M' : sx_M) (h : f8_isHeld a1 M0 = some (r, M')) : Met l yX8_isHeld (.code yX8_isHeld cX8_isHeld 2 (some .boolean) :: sx_T) ({ frames := 3, cells := 0, slots := 0, locals := 72 } : Room) (sx_Pc C M0 [.ref (sx_ad C 17 0), .int a1]) (sx_Q C (some (.int r)) M') 0 0 (sx_A C) := by
  refine Met.ofW (cc := cX8_isHeld) (maxL := 2) (ret := (some .boolean)) (by decide) rfl ?_
  intro p e s m args below meth c s₁ B hml hv
  obtain ⟨rfl, hz, hP, hK⟩ := hv
  have hl := lv_entry ([.ref (sx_ad C 17 0), .int a1]) (n := 2) (Nat.le_of_ble_eq_true rfl)
  rw [lg_entry_eq]
  generalize (lg_sl ([.ref (sx_ad C 17 0), .int a1]) ++ List.replicate (2 - (lg_sl ([.ref (sx_ad C 17 0), .int a1])).length) Slot.unset).toArray = ls at hl ⊢
  exact wk_8_isHeld ⟨B.exec, B.bytes, hml, findClass_of_methodNamed B.named, fun w hw => atoms_spec B.pre w (List.mem_cons_of_mem _ hw), hK⟩ B.returns B.notSynchronized hG hz ⟨Nat.zero_le _, Nat.zero_le _⟩ ⟨Nat.le_refl _, Nat.le_refl _⟩ a1 M0 r M' h hl hP va_S.rf
theorem cl_X8_275 (X : sx_X C p m c cc nL s args RX8) (hG : sx_G C) (hP : sx_W C M0 H) (hz : sx_sz C ≤ H0.size) (hS : va_S (sx_A C) H0 H locs) {a1 : Int32} {r : Int32} {M' : sx_M} (h : f8_isHeld a1 M0 = some (r, M')) (hsz : ls.size = nL) (hdg : decode cc pc = .ok (.invokevirtual 275, 3)) (hcs : cells ≤ R.cells ∧ slots ≤ R.slots) (hR : 3 + 1 ≤ R.frames ∧ 8 + (2 + 11) + 72 ≤ R.locals) (hrest : (rest.map fun v => v.category).sum ≤ 8) (kk : ∀ (H1 : Heap) (locs1 : List Loc), sx_W C M' H1 → va_S (sx_A C) H0 H1 locs1 → W p l e R s m args below meth c H1 locs1 cells slots Q (F0 m (pc + 3) ls ((.int r) :: rest))) : W p l e R s m args below meth c H locs cells slots Q (F0 m pc ls (.int a1 :: .ref (sx_ad C 17 0) :: rest)) :=
  sx_callV (n := 1) (As := [.int a1]) (k0 := 17) (s0 := 0) X hP hz hS (by decide) rfl rfl (sx_goodV tw_1353 tw_1355 tw_61 tw_71 tw_1356) (by decide +kernel) rfl rfl hR (ct_8_isHeld l C hG a1 M0 r M' h) rfl rfl hrest hsz hdg hcs kk
-- StringShedModel.does(I)Z
def f8_does (a1 : Int32) (M0 : sx_M) : Option (Int32 × sx_M) :=
  sx_bd (a1 / (10000 : Int32)) fun v1 =>
  sx_bd ((a1 / (100 : Int32)) - (a1 / (100 : Int32)) / (100 : Int32) * (100 : Int32)) fun v2 =>
  sx_bd (a1 - a1 / (100 : Int32) * (100 : Int32)) fun v3 =>
  if v1 = (1 : Int32) then
    sx_bd (fun (v5 : Int32) (M6 : sx_M) =>
      if v5 = 0 ∨ v5 = 1 then some (v5, M6) else none) fun j99 =>
    sx_bd (fun (M7 : sx_M) =>
      j99 (0 : Int32) M7) fun j98 =>
    if ((a1 / (10 : Int32)) - (a1 / (10 : Int32)) / (1000 : Int32) * (1000 : Int32)) = 0 then
      sx_b2 (f8_makes (a1 - a1 / (10 : Int32) * (10 : Int32)) M0) fun v9 M10 =>
      if v9 = 0 then
        j98 M10
      else
        j99 (1 : Int32) M10
    else
      j98 M0
  else
  if v1 = (2 : Int32) then
    (f8_thingOf v2 M0).bind fun v13 =>
    sx_b2 (f8_ties v13 v3 M0) fun v14 M15 =>
    if v14 = 0 ∨ v14 = 1 then some (v14, M15) else none
  else
  if v1 = (3 : Int32) then
    (f8_thingOf v2 M0).bind fun v17 =>
    sx_b2 (f8_cutsString v17 v3 M0) fun v18 M19 =>
    if v18 = 0 ∨ v18 = 1 then some (v18, M19) else none
  else
  if v1 = (4 : Int32) then
    sx_bd (fun (v21 : Int32) (M22 : sx_M) =>
      if v21 = 0 ∨ v21 = 1 then some (v21, M22) else none) fun j143 =>
    sx_bd (fun (M23 : sx_M) =>
      j143 (0 : Int32) M23) fun j142 =>
    if (10 : Int32) ≤ v2 then
      j142 M0
    else
      sx_b2 (f8_pins v2 v3 M0) fun v25 M26 =>
      if v25 = 0 then
        j142 M26
      else
        j143 (1 : Int32) M26
  else
  if v1 = (5 : Int32) then
    sx_bd (fun (v29 : Int32) (M30 : sx_M) =>
      if v29 = 0 ∨ v29 = 1 then some (v29, M30) else none) fun j164 =>
    sx_bd (fun (M31 : sx_M) =>
      j164 (0 : Int32) M31) fun j163 =>
    if (a1 - a1 / (10000 : Int32) * (10000 : Int32)) = 0 then
      sx_b2 (f8_begins M0) fun v33 M34 =>
      if v33 = 0 then
        j163 M34
      else
        j164 (1 : Int32) M34
    else
      j163 M0
  else
  if v1 = (6 : Int32) then
    sx_bd (fun (v37 : Int32) (M38 : sx_M) =>
      if v37 = 0 ∨ v37 = 1 then some (v37, M38) else none) fun j183 =>
    sx_bd (fun (M39 : sx_M) =>
      j183 (0 : Int32) M39) fun j182 =>
    if v2 = 0 then
      sx_b2 (f8_steps v3 M0) fun v41 M42 =>
      if v41 = 0 then
        j182 M42
      else
        j183 (1 : Int32) M42
    else
      j182 M0
  else
  if v1 = (7 : Int32) then
    (f8_isPart 21 v2 M0).bind fun v45 =>
    sx_bd (fun (v46 : Int32) (M47 : sx_M) =>
      if v46 = 0 ∨ v46 = 1 then some (v46, M47) else none) fun j225 =>
    sx_bd (fun (M48 : sx_M) =>
      j225 (0 : Int32) M48) fun j224 =>
    if v45 = 0 then
      j224 M0
    else
      if (2 : Int32) ≤ v3 then
        j224 M0
      else
        sx_b2 (f8_isHeld v2 M0) fun v51 M52 =>
        sx_bd (fun (v53 : Int32) =>
          if v51 = v53 then
            j225 (1 : Int32) M52
          else
            j224 M52) fun j217 =>
        if v3 = (1 : Int32) then
          j217 (1 : Int32)
        else
          j217 (0 : Int32)
  else
  if v1 = (8 : Int32) then
    (f8_isPart 21 v2 M0).bind fun v57 =>
    sx_bd (fun (v58 : Int32) (M59 : sx_M) =>
      if v58 = 0 ∨ v58 = 1 then some (v58, M59) else none) fun j261 =>
    sx_bd (fun (M60 : sx_M) =>
      j261 (0 : Int32) M60) fun j260 =>
    if v57 = 0 then
      j260 M0
    else
      sx_b2 (f8_isHeld v2 M0) fun v62 M63 =>
      if v62 = 0 then
        j260 M63
      else
        if sx_in v2 24 then
        sx_bd (M63.1 25 0 (v2).toNatClampNeg) fun v65 =>
        if v3 < v65 then
          j260 M63
        else
          j261 (1 : Int32) M63
        else none
  else
  if v1 = (9 : Int32) then
    sx_bd (fun (v68 : Int32) (M69 : sx_M) =>
      if v68 = 0 ∨ v68 = 1 then some (v68, M69) else none) fun j289 =>
    sx_bd (fun (M70 : sx_M) =>
      j289 (0 : Int32) M70) fun j288 =>
    if (10 : Int32) ≤ v2 then
      j288 M0
    else
      sx_b2 (f8_heldWeight 21 M0) fun v72 M73 =>
      if (a1 - a1 / (1000 : Int32) * (1000 : Int32)) < v72 then
        j288 M73
      else
        j289 (1 : Int32) M73
  else
    some ((0 : Int32), M0)
set_option maxRecDepth 100000 in
set_option maxHeartbeats 4000000 in
theorem wk_8_does (X : sx_X C p m c cX8_does 5 s args RX8) (hr : meth.sig.returnType = (some .boolean)) (hlocks : meth.locks = false) (hG : sx_G C) (hz : sx_sz C ≤ s.heap.size) (hcs : 0 ≤ R.cells ∧ 0 ≤ R.slots) (hR : 6 ≤ R.frames ∧ 134 ≤ R.locals) (a1 : Int32) (M0 : sx_M) (r : Int32) (M' : sx_M) (h : f8_does a1 M0 = some (r, M')) (hl : lv_has ls 5 [(0, .ref (sx_ad C 17 0)), (1, .int a1)]) (hP : sx_W C M0 H) (hS : va_S (sx_A C) s.heap H locs) : W p l e R s m args below meth c H locs 0 0 (sx_Z C (some (.int r)) M' below args s) (F0 m 0 ls []) := by
  obtain ⟨hx, hb, hml, hown, hts, hK⟩ := id X
  rw [f8_does] at h
  refine lv_iload_n hx hb dX8_does_0 rfl (lv_at hl 1 rfl) ?_
  refine lv_sipush (v := (10000 : Int32)) hx hb dX8_does_1 (by decide) ?_
  refine lv_idiv hx hb dX8_does_4 (by decide) ?_
  obtain ⟨v1, e_v1, h⟩ := sx_nm h
  rw [e_v1]
  refine lv_istore_n (lv' := [(2, .int v1), (0, .ref (sx_ad C 17 0)), (1, .int a1)]) hx hb dX8_does_5 rfl hl (by decide) rfl (fun ls hl => ?_)
  refine lv_iload_n hx hb dX8_does_6 rfl (lv_at hl 2 rfl) ?_
  refine lv_bipush (v := (100 : Int32)) hx hb dX8_does_7 (by decide) ?_
  refine lv_idiv hx hb dX8_does_9 (by decide) ?_
  refine lv_bipush (v := (100 : Int32)) hx hb dX8_does_10 (by decide) ?_
  refine lv_irem hx hb dX8_does_12 (by decide) ?_
  obtain ⟨v2, e_v2, h⟩ := sx_nm h
  rw [e_v2]
  refine lv_istore_n (lv' := [(3, .int v2), (2, .int v1), (0, .ref (sx_ad C 17 0)), (1, .int a1)]) hx hb dX8_does_13 rfl hl (by decide) rfl (fun ls hl => ?_)
  refine lv_iload_n hx hb dX8_does_14 rfl (lv_at hl 3 rfl) ?_
  refine lv_bipush (v := (100 : Int32)) hx hb dX8_does_15 (by decide) ?_
  refine lv_irem hx hb dX8_does_17 (by decide) ?_
  obtain ⟨v3, e_v3, h⟩ := sx_nm h
  rw [e_v3]
  refine lv_istore (lv' := [(4, .int v3), (3, .int v2), (2, .int v1), (0, .ref (sx_ad C 17 0)), (1, .int a1)]) hx hb dX8_does_18 hl (by decide) rfl (fun ls hl => ?_)
  refine lv_iload_n hx hb dX8_does_20 rfl (lv_at hl 2 rfl) ?_
  by_cases c4 : v1 = (1 : Int32)
  · replace h := sx_ifp h c4
    refine lv_tableIn (tgt := 72) hx hb dX8_does_21 (by rw [c4]; decide) (by rw [c4]; decide) (by rw [c4]; rfl) (by decide) ?_
    refine lv_iload_n hx hb dX8_does_72 rfl (lv_at hl 4 rfl) ?_
    refine lv_bipush (v := (10 : Int32)) hx hb dX8_does_73 (by decide) ?_
    refine lv_idiv hx hb dX8_does_75 (by decide) ?_
    refine lv_sipush (v := (1000 : Int32)) hx hb dX8_does_76 (by decide) ?_
    refine lv_irem hx hb dX8_does_79 (by decide) ?_
    obtain ⟨j99, e_j99, h⟩ := sx_nm h
    have hj99 : ∀ (v5 : Int32) (M6 : sx_M) (H : Heap) (locs : List Loc) (ls : Array Slot), lv_has ls 5 [] → sx_W C M6 H → va_S (sx_A C) s.heap H locs → j99 v5 M6 = some (r, M') → W p l e R s m args below meth c H locs 0 0 (sx_Z C (some (.int r)) M' below args s) (F0 m 99 ls [.int v5]) := by
      intro v5 M6 H locs ls hl hP hS h
      subst e_j99
      obtain ⟨hz01, h⟩ := sx_ck h
      exact sx_zretM X hr hlocks hS hP hz01 h dX8_does_99
    clear e_j99
    obtain ⟨j98, e_j98, h⟩ := sx_nm h
    have hj98 : ∀ (M7 : sx_M) (H : Heap) (locs : List Loc) (ls : Array Slot), lv_has ls 5 [] → sx_W C M7 H → va_S (sx_A C) s.heap H locs → j98 M7 = some (r, M') → W p l e R s m args below meth c H locs 0 0 (sx_Z C (some (.int r)) M' below args s) (F0 m 98 ls []) := by
      intro M7 H locs ls hl hP hS h
      subst e_j98
      refine lv_iconst (v := (0 : Int32)) hx hb dX8_does_98 (by decide) ?_
      exact hj99 (0 : Int32) M7 H locs ls (lv_sub hl [] rfl) hP hS h
    clear e_j98
    refine lv_if_ne (tgt := 98) hx hb dX8_does_80 (by decide) (fun c8 => ?_) (fun c8 => ?_)
    · replace h := sx_ifn h c8
      exact hj98 M0 H locs ls (lv_sub hl [] rfl) hP hS h
    · replace h := sx_ifp h c8
      refine lv_aload_n hx hb dX8_does_83 rfl (lv_at hl 3 rfl) ?_
      refine lv_iload_n hx hb dX8_does_84 rfl (lv_at hl 4 rfl) ?_
      refine lv_bipush (v := (10 : Int32)) hx hb dX8_does_85 (by decide) ?_
      refine lv_irem hx hb dX8_does_87 (by decide) ?_
      obtain ⟨v9, M10, e_v9, h⟩ := sx_bnd2 h
      refine cl_X8_252 X hG hP hz hS  e_v9 hl.1 dX8_does_88 hcs ⟨Nat.le_trans (by decide) hR.1, Nat.le_trans (by decide) hR.2⟩ (Nat.le_of_ble_eq_true rfl) (fun H locs hP hS => ?_)
      refine lv_if_eq (tgt := 98) hx hb dX8_does_91 (by decide) (fun c11 => ?_) (fun c11 => ?_)
      · replace h := sx_ifp h c11
        exact hj98 M10 H locs ls (lv_sub hl [] rfl) hP hS h
      · replace h := sx_ifn h c11
        refine lv_iconst (v := (1 : Int32)) hx hb dX8_does_94 (by decide) ?_
        refine lv_goto (tgt := 99) hx hb dX8_does_95 (by decide) ?_
        exact hj99 (1 : Int32) M10 H locs ls (lv_sub hl [] rfl) hP hS h
  replace h := sx_ifn h c4
  by_cases c12 : v1 = (2 : Int32)
  · replace h := sx_ifp h c12
    refine lv_tableIn (tgt := 100) hx hb dX8_does_21 (by rw [c12]; decide) (by rw [c12]; decide) (by rw [c12]; rfl) (by decide) ?_
    refine lv_aload_n hx hb dX8_does_100 rfl (lv_at hl 3 rfl) ?_
    refine lv_iload_n hx hb dX8_does_101 rfl (lv_at hl 1 rfl) ?_
    obtain ⟨v13, e_v13, h⟩ := sx_bnd h
    refine cl_X8_255 X hG hP hz hS  e_v13 hl.1 dX8_does_102 hcs ⟨Nat.le_trans (by decide) hR.1, Nat.le_trans (by decide) hR.2⟩ (Nat.le_of_ble_eq_true rfl) (fun H locs hP hS => ?_)
    refine lv_iload hx hb dX8_does_105 (lv_at hl 0 rfl) ?_
    obtain ⟨v14, M15, e_v14, h⟩ := sx_bnd2 h
    refine cl_X8_258 X hG hP hz hS  e_v14 hl.1 dX8_does_107 hcs ⟨Nat.le_trans (by decide) hR.1, Nat.le_trans (by decide) hR.2⟩ (Nat.le_of_ble_eq_true rfl) (fun H locs hP hS => ?_)
    obtain ⟨hz01, h⟩ := sx_ck h
    exact sx_zretM X hr hlocks hS hP hz01 h dX8_does_110
  replace h := sx_ifn h c12
  by_cases c16 : v1 = (3 : Int32)
  · replace h := sx_ifp h c16
    refine lv_tableIn (tgt := 111) hx hb dX8_does_21 (by rw [c16]; decide) (by rw [c16]; decide) (by rw [c16]; rfl) (by decide) ?_
    refine lv_aload_n hx hb dX8_does_111 rfl (lv_at hl 3 rfl) ?_
    refine lv_iload_n hx hb dX8_does_112 rfl (lv_at hl 1 rfl) ?_
    obtain ⟨v17, e_v17, h⟩ := sx_bnd h
    refine cl_X8_255 X hG hP hz hS  e_v17 hl.1 dX8_does_113 hcs ⟨Nat.le_trans (by decide) hR.1, Nat.le_trans (by decide) hR.2⟩ (Nat.le_of_ble_eq_true rfl) (fun H locs hP hS => ?_)
    refine lv_iload hx hb dX8_does_116 (lv_at hl 0 rfl) ?_
    obtain ⟨v18, M19, e_v18, h⟩ := sx_bnd2 h
    refine cl_X8_262 X hG hP hz hS  e_v18 hl.1 dX8_does_118 hcs ⟨Nat.le_trans (by decide) hR.1, Nat.le_trans (by decide) hR.2⟩ (Nat.le_of_ble_eq_true rfl) (fun H locs hP hS => ?_)
    obtain ⟨hz01, h⟩ := sx_ck h
    exact sx_zretM X hr hlocks hS hP hz01 h dX8_does_121
  replace h := sx_ifn h c16
  by_cases c20 : v1 = (4 : Int32)
  · replace h := sx_ifp h c20
    refine lv_tableIn (tgt := 122) hx hb dX8_does_21 (by rw [c20]; decide) (by rw [c20]; decide) (by rw [c20]; rfl) (by decide) ?_
    refine lv_iload_n hx hb dX8_does_122 rfl (lv_at hl 1 rfl) ?_
    refine lv_bipush (v := (10 : Int32)) hx hb dX8_does_123 (by decide) ?_
    obtain ⟨j143, e_j143, h⟩ := sx_nm h
    have hj143 : ∀ (v21 : Int32) (M22 : sx_M) (H : Heap) (locs : List Loc) (ls : Array Slot), lv_has ls 5 [] → sx_W C M22 H → va_S (sx_A C) s.heap H locs → j143 v21 M22 = some (r, M') → W p l e R s m args below meth c H locs 0 0 (sx_Z C (some (.int r)) M' below args s) (F0 m 143 ls [.int v21]) := by
      intro v21 M22 H locs ls hl hP hS h
      subst e_j143
      obtain ⟨hz01, h⟩ := sx_ck h
      exact sx_zretM X hr hlocks hS hP hz01 h dX8_does_143
    clear e_j143
    obtain ⟨j142, e_j142, h⟩ := sx_nm h
    have hj142 : ∀ (M23 : sx_M) (H : Heap) (locs : List Loc) (ls : Array Slot), lv_has ls 5 [] → sx_W C M23 H → va_S (sx_A C) s.heap H locs → j142 M23 = some (r, M') → W p l e R s m args below meth c H locs 0 0 (sx_Z C (some (.int r)) M' below args s) (F0 m 142 ls []) := by
      intro M23 H locs ls hl hP hS h
      subst e_j142
      refine lv_iconst (v := (0 : Int32)) hx hb dX8_does_142 (by decide) ?_
      exact hj143 (0 : Int32) M23 H locs ls (lv_sub hl [] rfl) hP hS h
    clear e_j142
    refine lv_icmp_ge (tgt := 142) hx hb dX8_does_125 (by decide) (fun c24 => ?_) (fun c24 => ?_)
    · replace h := sx_ifp h c24
      exact hj142 M0 H locs ls (lv_sub hl [] rfl) hP hS h
    · replace h := sx_ifn h c24
      refine lv_aload_n hx hb dX8_does_128 rfl (lv_at hl 3 rfl) ?_
      refine lv_iload_n hx hb dX8_does_129 rfl (lv_at hl 1 rfl) ?_
      refine lv_iload hx hb dX8_does_130 (lv_at hl 0 rfl) ?_
      obtain ⟨v25, M26, e_v25, h⟩ := sx_bnd2 h
      refine cl_X8_265 X hG hP hz hS  e_v25 hl.1 dX8_does_132 hcs ⟨Nat.le_trans (by decide) hR.1, Nat.le_trans (by decide) hR.2⟩ (Nat.le_of_ble_eq_true rfl) (fun H locs hP hS => ?_)
      refine lv_if_eq (tgt := 142) hx hb dX8_does_135 (by decide) (fun c27 => ?_) (fun c27 => ?_)
      · replace h := sx_ifp h c27
        exact hj142 M26 H locs ls (lv_sub hl [] rfl) hP hS h
      · replace h := sx_ifn h c27
        refine lv_iconst (v := (1 : Int32)) hx hb dX8_does_138 (by decide) ?_
        refine lv_goto (tgt := 143) hx hb dX8_does_139 (by decide) ?_
        exact hj143 (1 : Int32) M26 H locs ls (lv_sub hl [] rfl) hP hS h
  replace h := sx_ifn h c20
  by_cases c28 : v1 = (5 : Int32)
  · replace h := sx_ifp h c28
    refine lv_tableIn (tgt := 144) hx hb dX8_does_21 (by rw [c28]; decide) (by rw [c28]; decide) (by rw [c28]; rfl) (by decide) ?_
    refine lv_iload_n hx hb dX8_does_144 rfl (lv_at hl 4 rfl) ?_
    refine lv_sipush (v := (10000 : Int32)) hx hb dX8_does_145 (by decide) ?_
    refine lv_irem hx hb dX8_does_148 (by decide) ?_
    obtain ⟨j164, e_j164, h⟩ := sx_nm h
    have hj164 : ∀ (v29 : Int32) (M30 : sx_M) (H : Heap) (locs : List Loc) (ls : Array Slot), lv_has ls 5 [] → sx_W C M30 H → va_S (sx_A C) s.heap H locs → j164 v29 M30 = some (r, M') → W p l e R s m args below meth c H locs 0 0 (sx_Z C (some (.int r)) M' below args s) (F0 m 164 ls [.int v29]) := by
      intro v29 M30 H locs ls hl hP hS h
      subst e_j164
      obtain ⟨hz01, h⟩ := sx_ck h
      exact sx_zretM X hr hlocks hS hP hz01 h dX8_does_164
    clear e_j164
    obtain ⟨j163, e_j163, h⟩ := sx_nm h
    have hj163 : ∀ (M31 : sx_M) (H : Heap) (locs : List Loc) (ls : Array Slot), lv_has ls 5 [] → sx_W C M31 H → va_S (sx_A C) s.heap H locs → j163 M31 = some (r, M') → W p l e R s m args below meth c H locs 0 0 (sx_Z C (some (.int r)) M' below args s) (F0 m 163 ls []) := by
      intro M31 H locs ls hl hP hS h
      subst e_j163
      refine lv_iconst (v := (0 : Int32)) hx hb dX8_does_163 (by decide) ?_
      exact hj164 (0 : Int32) M31 H locs ls (lv_sub hl [] rfl) hP hS h
    clear e_j163
    refine lv_if_ne (tgt := 163) hx hb dX8_does_149 (by decide) (fun c32 => ?_) (fun c32 => ?_)
    · replace h := sx_ifn h c32
      exact hj163 M0 H locs ls (lv_sub hl [] rfl) hP hS h
    · replace h := sx_ifp h c32
      refine lv_aload_n hx hb dX8_does_152 rfl (lv_at hl 3 rfl) ?_
      obtain ⟨v33, M34, e_v33, h⟩ := sx_bnd2 h
      refine cl_X8_268 X hG hP hz hS  e_v33 hl.1 dX8_does_153 hcs ⟨Nat.le_trans (by decide) hR.1, Nat.le_trans (by decide) hR.2⟩ (Nat.le_of_ble_eq_true rfl) (fun H locs hP hS => ?_)
      refine lv_if_eq (tgt := 163) hx hb dX8_does_156 (by decide) (fun c35 => ?_) (fun c35 => ?_)
      · replace h := sx_ifp h c35
        exact hj163 M34 H locs ls (lv_sub hl [] rfl) hP hS h
      · replace h := sx_ifn h c35
        refine lv_iconst (v := (1 : Int32)) hx hb dX8_does_159 (by decide) ?_
        refine lv_goto (tgt := 164) hx hb dX8_does_160 (by decide) ?_
        exact hj164 (1 : Int32) M34 H locs ls (lv_sub hl [] rfl) hP hS h
  replace h := sx_ifn h c28
  by_cases c36 : v1 = (6 : Int32)
  · replace h := sx_ifp h c36
    refine lv_tableIn (tgt := 165) hx hb dX8_does_21 (by rw [c36]; decide) (by rw [c36]; decide) (by rw [c36]; rfl) (by decide) ?_
    refine lv_iload_n hx hb dX8_does_165 rfl (lv_at hl 1 rfl) ?_
    obtain ⟨j183, e_j183, h⟩ := sx_nm h
    have hj183 : ∀ (v37 : Int32) (M38 : sx_M) (H : Heap) (locs : List Loc) (ls : Array Slot), lv_has ls 5 [] → sx_W C M38 H → va_S (sx_A C) s.heap H locs → j183 v37 M38 = some (r, M') → W p l e R s m args below meth c H locs 0 0 (sx_Z C (some (.int r)) M' below args s) (F0 m 183 ls [.int v37]) := by
      intro v37 M38 H locs ls hl hP hS h
      subst e_j183
      obtain ⟨hz01, h⟩ := sx_ck h
      exact sx_zretM X hr hlocks hS hP hz01 h dX8_does_183
    clear e_j183
    obtain ⟨j182, e_j182, h⟩ := sx_nm h
    have hj182 : ∀ (M39 : sx_M) (H : Heap) (locs : List Loc) (ls : Array Slot), lv_has ls 5 [] → sx_W C M39 H → va_S (sx_A C) s.heap H locs → j182 M39 = some (r, M') → W p l e R s m args below meth c H locs 0 0 (sx_Z C (some (.int r)) M' below args s) (F0 m 182 ls []) := by
      intro M39 H locs ls hl hP hS h
      subst e_j182
      refine lv_iconst (v := (0 : Int32)) hx hb dX8_does_182 (by decide) ?_
      exact hj183 (0 : Int32) M39 H locs ls (lv_sub hl [] rfl) hP hS h
    clear e_j182
    refine lv_if_ne (tgt := 182) hx hb dX8_does_166 (by decide) (fun c40 => ?_) (fun c40 => ?_)
    · replace h := sx_ifn h c40
      exact hj182 M0 H locs ls (lv_sub hl [] rfl) hP hS h
    · replace h := sx_ifp h c40
      refine lv_aload_n hx hb dX8_does_169 rfl (lv_at hl 3 rfl) ?_
      refine lv_iload hx hb dX8_does_170 (lv_at hl 0 rfl) ?_
      obtain ⟨v41, M42, e_v41, h⟩ := sx_bnd2 h
      refine cl_X8_272 X hG hP hz hS  e_v41 hl.1 dX8_does_172 hcs ⟨Nat.le_trans (by decide) hR.1, Nat.le_trans (by decide) hR.2⟩ (Nat.le_of_ble_eq_true rfl) (fun H locs hP hS => ?_)
      refine lv_if_eq (tgt := 182) hx hb dX8_does_175 (by decide) (fun c43 => ?_) (fun c43 => ?_)
      · replace h := sx_ifp h c43
        exact hj182 M42 H locs ls (lv_sub hl [] rfl) hP hS h
      · replace h := sx_ifn h c43
        refine lv_iconst (v := (1 : Int32)) hx hb dX8_does_178 (by decide) ?_
        refine lv_goto (tgt := 183) hx hb dX8_does_179 (by decide) ?_
        exact hj183 (1 : Int32) M42 H locs ls (lv_sub hl [] rfl) hP hS h
  replace h := sx_ifn h c36
  by_cases c44 : v1 = (7 : Int32)
  · replace h := sx_ifp h c44
    refine lv_tableIn (tgt := 184) hx hb dX8_does_21 (by rw [c44]; decide) (by rw [c44]; decide) (by rw [c44]; rfl) (by decide) ?_
    refine lv_aload_n hx hb dX8_does_184 rfl (lv_at hl 3 rfl) ?_
    refine gf_X8_19 X hP (by decide) dX8_does_185 ?_
    refine lv_iload_n hx hb dX8_does_188 rfl (lv_at hl 1 rfl) ?_
    obtain ⟨v45, e_v45, h⟩ := sx_bnd h
    refine cl_X8_74 X hG hP hz hS sx_row21 e_v45 hl.1 dX8_does_189 hcs ⟨Nat.le_trans (by decide) hR.1, Nat.le_trans (by decide) hR.2⟩ (Nat.le_of_ble_eq_true rfl) (fun H locs hP hS => ?_)
    obtain ⟨j225, e_j225, h⟩ := sx_nm h
    have hj225 : ∀ (v46 : Int32) (M47 : sx_M) (H : Heap) (locs : List Loc) (ls : Array Slot), lv_has ls 5 [] → sx_W C M47 H → va_S (sx_A C) s.heap H locs → j225 v46 M47 = some (r, M') → W p l e R s m args below meth c H locs 0 0 (sx_Z C (some (.int r)) M' below args s) (F0 m 225 ls [.int v46]) := by
      intro v46 M47 H locs ls hl hP hS h
      subst e_j225
      obtain ⟨hz01, h⟩ := sx_ck h
      exact sx_zretM X hr hlocks hS hP hz01 h dX8_does_225
    clear e_j225
    obtain ⟨j224, e_j224, h⟩ := sx_nm h
    have hj224 : ∀ (M48 : sx_M) (H : Heap) (locs : List Loc) (ls : Array Slot), lv_has ls 5 [] → sx_W C M48 H → va_S (sx_A C) s.heap H locs → j224 M48 = some (r, M') → W p l e R s m args below meth c H locs 0 0 (sx_Z C (some (.int r)) M' below args s) (F0 m 224 ls []) := by
      intro M48 H locs ls hl hP hS h
      subst e_j224
      refine lv_iconst (v := (0 : Int32)) hx hb dX8_does_224 (by decide) ?_
      exact hj225 (0 : Int32) M48 H locs ls (lv_sub hl [] rfl) hP hS h
    clear e_j224
    refine lv_if_eq (tgt := 224) hx hb dX8_does_192 (by decide) (fun c49 => ?_) (fun c49 => ?_)
    · replace h := sx_ifp h c49
      exact hj224 M0 H locs ls (lv_sub hl [] rfl) hP hS h
    · replace h := sx_ifn h c49
      refine lv_iload hx hb dX8_does_195 (lv_at hl 0 rfl) ?_
      refine lv_iconst (v := (2 : Int32)) hx hb dX8_does_197 (by decide) ?_
      refine lv_icmp_ge (tgt := 224) hx hb dX8_does_198 (by decide) (fun c50 => ?_) (fun c50 => ?_)
      · replace h := sx_ifp h c50
        exact hj224 M0 H locs ls (lv_sub hl [] rfl) hP hS h
      · replace h := sx_ifn h c50
        refine lv_aload_n hx hb dX8_does_201 rfl (lv_at hl 3 rfl) ?_
        refine lv_iload_n hx hb dX8_does_202 rfl (lv_at hl 1 rfl) ?_
        obtain ⟨v51, M52, e_v51, h⟩ := sx_bnd2 h
        refine cl_X8_275 X hG hP hz hS  e_v51 hl.1 dX8_does_203 hcs ⟨Nat.le_trans (by decide) hR.1, Nat.le_trans (by decide) hR.2⟩ (Nat.le_of_ble_eq_true rfl) (fun H locs hP hS => ?_)
        refine lv_iload hx hb dX8_does_206 (lv_at hl 0 rfl) ?_
        refine lv_iconst (v := (1 : Int32)) hx hb dX8_does_208 (by decide) ?_
        obtain ⟨j217, e_j217, h⟩ := sx_nm h
        have hj217 : ∀ (v53 : Int32) (H : Heap) (locs : List Loc) (ls : Array Slot), lv_has ls 5 [] → sx_W C M52 H → va_S (sx_A C) s.heap H locs → j217 v53 = some (r, M') → W p l e R s m args below meth c H locs 0 0 (sx_Z C (some (.int r)) M' below args s) (F0 m 217 ls [.int v53, .int v51]) := by
          intro v53 H locs ls hl hP hS h
          subst e_j217
          refine lv_icmp_ne (tgt := 224) hx hb dX8_does_217 (by decide) (fun c54 => ?_) (fun c54 => ?_)
          · replace h := sx_ifn h c54
            exact hj224 M52 H locs ls (lv_sub hl [] rfl) hP hS h
          · replace h := sx_ifp h c54
            refine lv_iconst (v := (1 : Int32)) hx hb dX8_does_220 (by decide) ?_
            refine lv_goto (tgt := 225) hx hb dX8_does_221 (by decide) ?_
            exact hj225 (1 : Int32) M52 H locs ls (lv_sub hl [] rfl) hP hS h
        clear e_j217
        refine lv_icmp_ne (tgt := 216) hx hb dX8_does_209 (by decide) (fun c55 => ?_) (fun c55 => ?_)
        · replace h := sx_ifn h c55
          refine lv_iconst (v := (0 : Int32)) hx hb dX8_does_216 (by decide) ?_
          exact hj217 (0 : Int32) H locs ls (lv_sub hl [] rfl) hP hS h
        · replace h := sx_ifp h c55
          refine lv_iconst (v := (1 : Int32)) hx hb dX8_does_212 (by decide) ?_
          refine lv_goto (tgt := 217) hx hb dX8_does_213 (by decide) ?_
          exact hj217 (1 : Int32) H locs ls (lv_sub hl [] rfl) hP hS h
  replace h := sx_ifn h c44
  by_cases c56 : v1 = (8 : Int32)
  · replace h := sx_ifp h c56
    refine lv_tableIn (tgt := 226) hx hb dX8_does_21 (by rw [c56]; decide) (by rw [c56]; decide) (by rw [c56]; rfl) (by decide) ?_
    refine lv_aload_n hx hb dX8_does_226 rfl (lv_at hl 3 rfl) ?_
    refine gf_X8_19 X hP (by decide) dX8_does_227 ?_
    refine lv_iload_n hx hb dX8_does_230 rfl (lv_at hl 1 rfl) ?_
    obtain ⟨v57, e_v57, h⟩ := sx_bnd h
    refine cl_X8_74 X hG hP hz hS sx_row21 e_v57 hl.1 dX8_does_231 hcs ⟨Nat.le_trans (by decide) hR.1, Nat.le_trans (by decide) hR.2⟩ (Nat.le_of_ble_eq_true rfl) (fun H locs hP hS => ?_)
    obtain ⟨j261, e_j261, h⟩ := sx_nm h
    have hj261 : ∀ (v58 : Int32) (M59 : sx_M) (H : Heap) (locs : List Loc) (ls : Array Slot), lv_has ls 5 [] → sx_W C M59 H → va_S (sx_A C) s.heap H locs → j261 v58 M59 = some (r, M') → W p l e R s m args below meth c H locs 0 0 (sx_Z C (some (.int r)) M' below args s) (F0 m 261 ls [.int v58]) := by
      intro v58 M59 H locs ls hl hP hS h
      subst e_j261
      obtain ⟨hz01, h⟩ := sx_ck h
      exact sx_zretM X hr hlocks hS hP hz01 h dX8_does_261
    clear e_j261
    obtain ⟨j260, e_j260, h⟩ := sx_nm h
    have hj260 : ∀ (M60 : sx_M) (H : Heap) (locs : List Loc) (ls : Array Slot), lv_has ls 5 [] → sx_W C M60 H → va_S (sx_A C) s.heap H locs → j260 M60 = some (r, M') → W p l e R s m args below meth c H locs 0 0 (sx_Z C (some (.int r)) M' below args s) (F0 m 260 ls []) := by
      intro M60 H locs ls hl hP hS h
      subst e_j260
      refine lv_iconst (v := (0 : Int32)) hx hb dX8_does_260 (by decide) ?_
      exact hj261 (0 : Int32) M60 H locs ls (lv_sub hl [] rfl) hP hS h
    clear e_j260
    refine lv_if_eq (tgt := 260) hx hb dX8_does_234 (by decide) (fun c61 => ?_) (fun c61 => ?_)
    · replace h := sx_ifp h c61
      exact hj260 M0 H locs ls (lv_sub hl [] rfl) hP hS h
    · replace h := sx_ifn h c61
      refine lv_aload_n hx hb dX8_does_237 rfl (lv_at hl 3 rfl) ?_
      refine lv_iload_n hx hb dX8_does_238 rfl (lv_at hl 1 rfl) ?_
      obtain ⟨v62, M63, e_v62, h⟩ := sx_bnd2 h
      refine cl_X8_275 X hG hP hz hS  e_v62 hl.1 dX8_does_239 hcs ⟨Nat.le_trans (by decide) hR.1, Nat.le_trans (by decide) hR.2⟩ (Nat.le_of_ble_eq_true rfl) (fun H locs hP hS => ?_)
      refine lv_if_eq (tgt := 260) hx hb dX8_does_242 (by decide) (fun c64 => ?_) (fun c64 => ?_)
      · replace h := sx_ifp h c64
        exact hj260 M63 H locs ls (lv_sub hl [] rfl) hP hS h
      · replace h := sx_ifn h c64
        refine lv_aload_n hx hb dX8_does_245 rfl (lv_at hl 3 rfl) ?_
        refine gf_X8_32 X hP (by decide) dX8_does_246 ?_
        refine lv_iload_n hx hb dX8_does_249 rfl (lv_at hl 1 rfl) ?_
        refine sx_iald X hP 25 0 24 (by decide) (fun _ _ => rfl) dX8_does_250 h (fun v65 h => ?_)
        refine lv_iload hx hb dX8_does_251 (lv_at hl 0 rfl) ?_
        refine lv_icmp_gt (tgt := 260) hx hb dX8_does_253 (by decide) (fun c66 => ?_) (fun c66 => ?_)
        · replace h := sx_ifp h c66
          exact hj260 M63 H locs ls (lv_sub hl [] rfl) hP hS h
        · replace h := sx_ifn h c66
          refine lv_iconst (v := (1 : Int32)) hx hb dX8_does_256 (by decide) ?_
          refine lv_goto (tgt := 261) hx hb dX8_does_257 (by decide) ?_
          exact hj261 (1 : Int32) M63 H locs ls (lv_sub hl [] rfl) hP hS h
  replace h := sx_ifn h c56
  by_cases c67 : v1 = (9 : Int32)
  · replace h := sx_ifp h c67
    refine lv_tableIn (tgt := 262) hx hb dX8_does_21 (by rw [c67]; decide) (by rw [c67]; decide) (by rw [c67]; rfl) (by decide) ?_
    refine lv_iload_n hx hb dX8_does_262 rfl (lv_at hl 1 rfl) ?_
    refine lv_bipush (v := (10 : Int32)) hx hb dX8_does_263 (by decide) ?_
    obtain ⟨j289, e_j289, h⟩ := sx_nm h
    have hj289 : ∀ (v68 : Int32) (M69 : sx_M) (H : Heap) (locs : List Loc) (ls : Array Slot), lv_has ls 5 [] → sx_W C M69 H → va_S (sx_A C) s.heap H locs → j289 v68 M69 = some (r, M') → W p l e R s m args below meth c H locs 0 0 (sx_Z C (some (.int r)) M' below args s) (F0 m 289 ls [.int v68]) := by
      intro v68 M69 H locs ls hl hP hS h
      subst e_j289
      obtain ⟨hz01, h⟩ := sx_ck h
      exact sx_zretM X hr hlocks hS hP hz01 h dX8_does_289
    clear e_j289
    obtain ⟨j288, e_j288, h⟩ := sx_nm h
    have hj288 : ∀ (M70 : sx_M) (H : Heap) (locs : List Loc) (ls : Array Slot), lv_has ls 5 [] → sx_W C M70 H → va_S (sx_A C) s.heap H locs → j288 M70 = some (r, M') → W p l e R s m args below meth c H locs 0 0 (sx_Z C (some (.int r)) M' below args s) (F0 m 288 ls []) := by
      intro M70 H locs ls hl hP hS h
      subst e_j288
      refine lv_iconst (v := (0 : Int32)) hx hb dX8_does_288 (by decide) ?_
      exact hj289 (0 : Int32) M70 H locs ls (lv_sub hl [] rfl) hP hS h
    clear e_j288
    refine lv_icmp_ge (tgt := 288) hx hb dX8_does_265 (by decide) (fun c71 => ?_) (fun c71 => ?_)
    · replace h := sx_ifp h c71
      exact hj288 M0 H locs ls (lv_sub hl [] rfl) hP hS h
    · replace h := sx_ifn h c71
      refine lv_aload_n hx hb dX8_does_268 rfl (lv_at hl 3 rfl) ?_
      refine lv_aload_n hx hb dX8_does_269 rfl (lv_at hl 3 rfl) ?_
      refine gf_X8_19 X hP (by decide) dX8_does_270 ?_
      obtain ⟨v72, M73, e_v72, h⟩ := sx_bnd2 h
      refine cl_X8_205 X hG hP hz hS sx_row21 e_v72 hl.1 dX8_does_273 hcs ⟨Nat.le_trans (by decide) hR.1, Nat.le_trans (by decide) hR.2⟩ (Nat.le_of_ble_eq_true rfl) (fun H locs hP hS => ?_)
      refine lv_iload_n hx hb dX8_does_276 rfl (lv_at hl 4 rfl) ?_
      refine lv_sipush (v := (1000 : Int32)) hx hb dX8_does_277 (by decide) ?_
      refine lv_irem hx hb dX8_does_280 (by decide) ?_
      refine lv_icmp_gt (tgt := 288) hx hb dX8_does_281 (by decide) (fun c74 => ?_) (fun c74 => ?_)
      · replace h := sx_ifp h c74
        exact hj288 M73 H locs ls (lv_sub hl [] rfl) hP hS h
      · replace h := sx_ifn h c74
        refine lv_iconst (v := (1 : Int32)) hx hb dX8_does_284 (by decide) ?_
        refine lv_goto (tgt := 289) hx hb dX8_does_285 (by decide) ?_
        exact hj289 (1 : Int32) M73 H locs ls (lv_sub hl [] rfl) hP hS h
  replace h := sx_ifn h c67
  have t_c4 := lv_neT (a := 1) c4 (by decide)
  have t_c12 := lv_neT (a := 2) c12 (by decide)
  have t_c16 := lv_neT (a := 3) c16 (by decide)
  have t_c20 := lv_neT (a := 4) c20 (by decide)
  have t_c28 := lv_neT (a := 5) c28 (by decide)
  have t_c36 := lv_neT (a := 6) c36 (by decide)
  have t_c44 := lv_neT (a := 7) c44 (by decide)
  have t_c56 := lv_neT (a := 8) c56 (by decide)
  have t_c67 := lv_neT (a := 9) c67 (by decide)
  refine lv_tableOut (tgt := 290) hx hb dX8_does_21 (by omega) (by decide) ?_
  refine lv_iconst (v := (0 : Int32)) hx hb dX8_does_290 (by decide) ?_
  exact sx_zretM X hr hlocks hS hP (by decide) h dX8_does_291
set_option maxRecDepth 100000 in
theorem ct_8_does (l : Launch) (C : sx_C) (hG : sx_G C) (a1 : Int32) (M0 : sx_M) (r : Int32) (M' : sx_M) (h : f8_does a1 M0 = some (r, M')) : Met l yX8_does (.code yX8_does cX8_does 5 (some .boolean) :: sx_T) ({ frames := 6, cells := 0, slots := 0, locals := 134 } : Room) (sx_Pc C M0 [.ref (sx_ad C 17 0), .int a1]) (sx_Q C (some (.int r)) M') 0 0 (sx_A C) := by
  refine Met.ofW (cc := cX8_does) (maxL := 5) (ret := (some .boolean)) (by decide) rfl ?_
  intro p e s m args below meth c s₁ B hml hv
  obtain ⟨rfl, hz, hP, hK⟩ := hv
  have hl := lv_entry ([.ref (sx_ad C 17 0), .int a1]) (n := 5) (Nat.le_of_ble_eq_true rfl)
  rw [lg_entry_eq]
  generalize (lg_sl ([.ref (sx_ad C 17 0), .int a1]) ++ List.replicate (5 - (lg_sl ([.ref (sx_ad C 17 0), .int a1])).length) Slot.unset).toArray = ls at hl ⊢
  exact wk_8_does ⟨B.exec, B.bytes, hml, findClass_of_methodNamed B.named, fun w hw => atoms_spec B.pre w (List.mem_cons_of_mem _ hw), hK⟩ B.returns B.notSynchronized hG hz ⟨Nat.zero_le _, Nat.zero_le _⟩ ⟨Nat.le_refl _, Nat.le_refl _⟩ a1 M0 r M' h hl hP va_S.rf
theorem cl_X8_286 (X : sx_X C p m c cc nL s args RX8) (hG : sx_G C) (hP : sx_W C M0 H) (hz : sx_sz C ≤ H0.size) (hS : va_S (sx_A C) H0 H locs) {a1 : Int32} {r : Int32} {M' : sx_M} (h : f8_does a1 M0 = some (r, M')) (hsz : ls.size = nL) (hdg : decode cc pc = .ok (.invokevirtual 286, 3)) (hcs : cells ≤ R.cells ∧ slots ≤ R.slots) (hR : 6 + 1 ≤ R.frames ∧ 8 + (5 + 11) + 134 ≤ R.locals) (hrest : (rest.map fun v => v.category).sum ≤ 8) (kk : ∀ (H1 : Heap) (locs1 : List Loc), sx_W C M' H1 → va_S (sx_A C) H0 H1 locs1 → W p l e R s m args below meth c H1 locs1 cells slots Q (F0 m (pc + 3) ls ((.int r) :: rest))) : W p l e R s m args below meth c H locs cells slots Q (F0 m pc ls (.int a1 :: .ref (sx_ad C 17 0) :: rest)) :=
  sx_callV (n := 1) (As := [.int a1]) (k0 := 17) (s0 := 0) X hP hz hS (by decide) rfl rfl (sx_goodV tw_1316 tw_1318 tw_53 tw_71 tw_1319) (by decide +kernel) rfl rfl hR (ct_8_does l C hG a1 M0 r M' h) rfl rfl hrest hsz hdg hcs kk
-- StringShedModel.runScript(IJ)I
def f8_runScript_L62 (w1 : Int32) (w2 : Int64) : Nat → Int32 → sx_M → Option (Int32 × sx_M)
  | 0, _, _ => none
  | n + 1, x5, M =>
    if w1 ≤ x5 then
      some ((-9 : Int32), M)
    else
      (f8_tenTo ((5 : Int32) * ((w1 - (1 : Int32)) - x5)) M).bind fun v8 =>
      if v8 = 0 then none else
      sx_b2 (f8_does (((w2 / v8) - (w2 / v8) / (100000 : Int64) * (100000 : Int64)).toInt32) M) fun v9 M10 =>
      if v9 = 0 then
        some (x5, M10)
      else
        sx_bd (x5 + (1 : Int32)) fun v12 =>
        f8_runScript_L62 w1 w2 n v12 M10
def f8_runScript (a1 : Int32) (a2 : Int64) (M0 : sx_M) : Option (Int32 × sx_M) :=
  (f8_in a1.toInt64 (1 : Int64) (3 : Int64) M0).bind fun v1 =>
  sx_bd (fun (v2 : Int32) =>
    sx_b2 (f8_refused v2 M0) fun v3 M4 =>
    if v3 = 0 then
      (f8_tryIt M4).bind fun M6 =>
      f8_runScript_L62 a1 a2
        5000 (0 : Int32) M6
    else
      some ((0 : Int32), M4)) fun j47 =>
  sx_bd (fun (_ : Unit) =>
    j47 (1 : Int32)) fun j46 =>
  if v1 = 0 then
    j46 ()
  else
    sx_bd (fun (v14 : Int32) =>
      (f8_tenTo v14 M0).bind fun v15 =>
      (f8_in a2 (0 : Int64) (v15 - (1 : Int64)) M0).bind fun v16 =>
      if v16 = 0 then
        j46 ()
      else
        j47 (0 : Int32)) fun j31 =>
    if v1 = 0 then
      j31 (0 : Int32)
    else
      j31 ((5 : Int32) * a1)
set_option maxRecDepth 100000 in
set_option maxHeartbeats 4000000 in
theorem wk_8_runScript (X : sx_X C p m c cX8_runScript 6 s args RX8) (hr : meth.sig.returnType = (some .int)) (hlocks : meth.locks = false) (hG : sx_G C) (hz : sx_sz C ≤ s.heap.size) (hcs : 0 ≤ R.cells ∧ 0 ≤ R.slots) (hR : 7 ≤ R.frames ∧ 158 ≤ R.locals) (a1 : Int32) (a2 : Int64) (M0 : sx_M) (r : Int32) (M' : sx_M) (h : f8_runScript a1 a2 M0 = some (r, M')) (hl : lv_has ls 6 [(0, .ref (sx_ad C 17 0)), (1, .int a1), (2, .long a2)]) (hP : sx_W C M0 H) (hS : va_S (sx_A C) s.heap H locs) : W p l e R s m args below meth c H locs 0 0 (sx_Z C (some (.int r)) M' below args s) (F0 m 0 ls []) := by
  obtain ⟨hx, hb, hml, hown, hts, hK⟩ := id X
  rw [f8_runScript] at h
  have hf8_runScript_L62 : ∀ (w1 : Int32) (w2 : Int64) (n : Nat) (x5 : Int32) (M : sx_M) (H : Heap) (locs : List Loc) (ls : Array Slot), lv_has ls 6 [(0, .ref (sx_ad C 17 0)), (1, .int w1), (2, .long w2), (5, .int x5)] → sx_W C M H → va_S (sx_A C) s.heap H locs → f8_runScript_L62 w1 w2 n x5 M = some (r, M') → W p l e R s m args below meth c H locs 0 0 (sx_Z C (some (.int r)) M' below args s) (F0 m 62 ls []) := by
    intro w1 w2 n
    induction n with
    | zero => intro x5 M H locs ls hl hP hS h; exact absurd (show (none : Option (Int32 × sx_M)) = some (r, M') from h) (fun q => nomatch q)
    | succ n ih =>
      intro x5 M H locs ls hl hP hS h
      rw [f8_runScript_L62] at h
      refine lv_iload hx hb dX8_runScript_62 (lv_at hl 3 rfl) ?_
      refine lv_iload_n hx hb dX8_runScript_64 rfl (lv_at hl 1 rfl) ?_
      refine lv_icmp_ge (tgt := 102) hx hb dX8_runScript_65 (by decide) (fun c7 => ?_) (fun c7 => ?_)
      · replace h := sx_ifp h c7
        refine lv_bipush (v := (-9 : Int32)) hx hb dX8_runScript_102 (by decide) ?_
        exact sx_iretM X hr hlocks hS hP h dX8_runScript_104
      · replace h := sx_ifn h c7
        refine lv_aload_n hx hb dX8_runScript_68 rfl (lv_at hl 0 rfl) ?_
        refine lv_lload_n hx hb dX8_runScript_69 rfl (lv_at hl 2 rfl) ?_
        refine lv_iconst (v := (5 : Int32)) hx hb dX8_runScript_70 (by decide) ?_
        refine lv_iload_n hx hb dX8_runScript_71 rfl (lv_at hl 1 rfl) ?_
        refine lv_iconst (v := (1 : Int32)) hx hb dX8_runScript_72 (by decide) ?_
        refine lv_isub hx hb dX8_runScript_73 ?_
        refine lv_iload hx hb dX8_runScript_74 (lv_at hl 3 rfl) ?_
        refine lv_isub hx hb dX8_runScript_76 ?_
        refine lv_imul hx hb dX8_runScript_77 ?_
        obtain ⟨v8, e_v8, h⟩ := sx_bnd h
        refine cl_X8_280 X hG hP hz hS  e_v8 hl.1 dX8_runScript_78 hcs ⟨Nat.le_trans (by decide) hR.1, Nat.le_trans (by decide) hR.2⟩ (Nat.le_of_ble_eq_true rfl) (fun H locs hP hS => ?_)
        obtain ⟨h_81, h⟩ := sx_ckn h
        refine lv_ldiv hx hb dX8_runScript_81 h_81 ?_
        refine lv_ldc2 (v := (100000 : Int64)) hx hb hown (hts _ tw_1315) dX8_runScript_82 ?_
        refine lv_lrem hx hb dX8_runScript_85 (by decide) ?_
        refine lv_l2i (v := ((w2 / v8) - (w2 / v8) / (100000 : Int64) * (100000 : Int64)).toInt32) hx hb dX8_runScript_86 rfl ?_
        obtain ⟨v9, M10, e_v9, h⟩ := sx_bnd2 h
        refine cl_X8_286 X hG hP hz hS  e_v9 hl.1 dX8_runScript_87 hcs ⟨Nat.le_trans (by decide) hR.1, Nat.le_trans (by decide) hR.2⟩ (Nat.le_of_ble_eq_true rfl) (fun H locs hP hS => ?_)
        refine lv_if_ne (tgt := 96) hx hb dX8_runScript_90 (by decide) (fun c11 => ?_) (fun c11 => ?_)
        · replace h := sx_ifn h c11
          obtain ⟨v12, e_v12, h⟩ := sx_nm h
          refine lv_iinc (v := v12) (lv' := [(5, .int v12), (0, .ref (sx_ad C 17 0)), (1, .int w1), (2, .long w2)]) hx hb dX8_runScript_96 hl (k := 3) rfl (by rw [← e_v12]; rfl) (by decide) rfl (fun ls hl => ?_)
          refine lv_goto (tgt := 62) hx hb dX8_runScript_99 (by decide) ?_
          exact ih v12 M10 H locs ls (lv_sub hl [1, 2, 3, 0] rfl) hP hS h
        · replace h := sx_ifp h c11
          refine lv_iload hx hb dX8_runScript_93 (lv_at hl 3 rfl) ?_
          exact sx_iretM X hr hlocks hS hP h dX8_runScript_95
  refine lv_iload_n hx hb dX8_runScript_0 rfl (lv_at hl 1 rfl) ?_
  refine lv_i2l (v := a1.toInt64) hx hb dX8_runScript_1 rfl ?_
  refine lv_lconst (v := (1 : Int64)) hx hb dX8_runScript_2 (by decide) ?_
  refine lv_ldc2 (v := (3 : Int64)) hx hb hown (hts _ tw_1310) dX8_runScript_3 ?_
  obtain ⟨v1, e_v1, h⟩ := sx_bnd h
  refine cl_X8_60 X hG hP hz hS  e_v1 hl.1 dX8_runScript_6 hcs ⟨Nat.le_trans (by decide) hR.1, Nat.le_trans (by decide) hR.2⟩ (Nat.le_of_ble_eq_true rfl) (fun H locs hP hS => ?_)
  refine lv_istore (lv' := [(4, .int v1), (0, .ref (sx_ad C 17 0)), (1, .int a1), (2, .long a2)]) hx hb dX8_runScript_9 hl (by decide) rfl (fun ls hl => ?_)
  refine lv_aload_n hx hb dX8_runScript_11 rfl (lv_at hl 1 rfl) ?_
  refine lv_iload hx hb dX8_runScript_12 (lv_at hl 0 rfl) ?_
  obtain ⟨j47, e_j47, h⟩ := sx_nm h
  have hj47 : ∀ (v2 : Int32) (H : Heap) (locs : List Loc) (ls : Array Slot), lv_has ls 6 [(0, .ref (sx_ad C 17 0)), (1, .int a1), (2, .long a2)] → sx_W C M0 H → va_S (sx_A C) s.heap H locs → j47 v2 = some (r, M') → W p l e R s m args below meth c H locs 0 0 (sx_Z C (some (.int r)) M' below args s) (F0 m 47 ls [.int v2, .ref (sx_ad C 17 0)]) := by
    intro v2 H locs ls hl hP hS h
    subst e_j47
    obtain ⟨v3, M4, e_v3, h⟩ := sx_bnd2 h
    refine cl_X8_111 X hG hP hz hS  e_v3 hl.1 dX8_runScript_47 hcs ⟨Nat.le_trans (by decide) hR.1, Nat.le_trans (by decide) hR.2⟩ (Nat.le_of_ble_eq_true rfl) (fun H locs hP hS => ?_)
    refine lv_if_eq (tgt := 55) hx hb dX8_runScript_50 (by decide) (fun c5 => ?_) (fun c5 => ?_)
    · replace h := sx_ifp h c5
      refine lv_aload_n hx hb dX8_runScript_55 rfl (lv_at hl 0 rfl) ?_
      obtain ⟨M6, e_M6, h⟩ := sx_bnd h
      refine cl_X8_227 X hG hP hz hS  e_M6 hl.1 dX8_runScript_56 hcs ⟨Nat.le_trans (by decide) hR.1, Nat.le_trans (by decide) hR.2⟩ (Nat.le_of_ble_eq_true rfl) (fun H locs hP hS => ?_)
      refine lv_iconst (v := (0 : Int32)) hx hb dX8_runScript_59 (by decide) ?_
      refine lv_istore (lv' := [(5, .int (0 : Int32)), (0, .ref (sx_ad C 17 0)), (1, .int a1), (2, .long a2)]) hx hb dX8_runScript_60 hl (by decide) rfl (fun ls hl => ?_)
      exact hf8_runScript_L62 a1 a2 5000 (0 : Int32) M6 H locs ls (lv_sub hl [1, 2, 3, 0] rfl) hP hS h
    · replace h := sx_ifn h c5
      refine lv_iconst (v := (0 : Int32)) hx hb dX8_runScript_53 (by decide) ?_
      exact sx_iretM X hr hlocks hS hP h dX8_runScript_54
  clear e_j47
  obtain ⟨j46, e_j46, h⟩ := sx_nm h
  have hj46 : ∀ (H : Heap) (locs : List Loc) (ls : Array Slot), lv_has ls 6 [(0, .ref (sx_ad C 17 0)), (1, .int a1), (2, .long a2)] → sx_W C M0 H → va_S (sx_A C) s.heap H locs → j46 () = some (r, M') → W p l e R s m args below meth c H locs 0 0 (sx_Z C (some (.int r)) M' below args s) (F0 m 46 ls [.ref (sx_ad C 17 0)]) := by
    intro  H locs ls hl hP hS h
    subst e_j46
    refine lv_iconst (v := (1 : Int32)) hx hb dX8_runScript_46 (by decide) ?_
    exact hj47 (1 : Int32) H locs ls (lv_sub hl [0, 1, 2] rfl) hP hS h
  clear e_j46
  refine lv_if_eq (tgt := 46) hx hb dX8_runScript_14 (by decide) (fun c13 => ?_) (fun c13 => ?_)
  · replace h := sx_ifp h c13
    exact hj46 H locs ls (lv_sub hl [1, 2, 3] rfl) hP hS h
  · replace h := sx_ifn h c13
    refine lv_lload_n hx hb dX8_runScript_17 rfl (lv_at hl 3 rfl) ?_
    refine lv_lconst (v := (0 : Int64)) hx hb dX8_runScript_18 (by decide) ?_
    refine lv_iload hx hb dX8_runScript_19 (lv_at hl 0 rfl) ?_
    obtain ⟨j31, e_j31, h⟩ := sx_nm h
    have hj31 : ∀ (v14 : Int32) (H : Heap) (locs : List Loc) (ls : Array Slot), lv_has ls 6 [(0, .ref (sx_ad C 17 0)), (1, .int a1), (2, .long a2)] → sx_W C M0 H → va_S (sx_A C) s.heap H locs → j31 v14 = some (r, M') → W p l e R s m args below meth c H locs 0 0 (sx_Z C (some (.int r)) M' below args s) (F0 m 31 ls [.int v14, .long (0 : Int64), .long a2, .ref (sx_ad C 17 0)]) := by
      intro v14 H locs ls hl hP hS h
      subst e_j31
      obtain ⟨v15, e_v15, h⟩ := sx_bnd h
      refine cl_X8_280 X hG hP hz hS  e_v15 hl.1 dX8_runScript_31 hcs ⟨Nat.le_trans (by decide) hR.1, Nat.le_trans (by decide) hR.2⟩ (Nat.le_of_ble_eq_true rfl) (fun H locs hP hS => ?_)
      refine lv_lconst (v := (1 : Int64)) hx hb dX8_runScript_34 (by decide) ?_
      refine lv_lsub hx hb dX8_runScript_35 ?_
      obtain ⟨v16, e_v16, h⟩ := sx_bnd h
      refine cl_X8_60 X hG hP hz hS  e_v16 hl.1 dX8_runScript_36 hcs ⟨Nat.le_trans (by decide) hR.1, Nat.le_trans (by decide) hR.2⟩ (Nat.le_of_ble_eq_true rfl) (fun H locs hP hS => ?_)
      refine lv_if_eq (tgt := 46) hx hb dX8_runScript_39 (by decide) (fun c17 => ?_) (fun c17 => ?_)
      · replace h := sx_ifp h c17
        exact hj46 H locs ls (lv_sub hl [0, 1, 2] rfl) hP hS h
      · replace h := sx_ifn h c17
        refine lv_iconst (v := (0 : Int32)) hx hb dX8_runScript_42 (by decide) ?_
        refine lv_goto (tgt := 47) hx hb dX8_runScript_43 (by decide) ?_
        exact hj47 (0 : Int32) H locs ls (lv_sub hl [0, 1, 2] rfl) hP hS h
    clear e_j31
    refine lv_if_eq (tgt := 30) hx hb dX8_runScript_21 (by decide) (fun c18 => ?_) (fun c18 => ?_)
    · replace h := sx_ifp h c18
      refine lv_iconst (v := (0 : Int32)) hx hb dX8_runScript_30 (by decide) ?_
      exact hj31 (0 : Int32) H locs ls (lv_sub hl [1, 2, 3] rfl) hP hS h
    · replace h := sx_ifn h c18
      refine lv_iconst (v := (5 : Int32)) hx hb dX8_runScript_24 (by decide) ?_
      refine lv_iload_n hx hb dX8_runScript_25 rfl (lv_at hl 2 rfl) ?_
      refine lv_imul hx hb dX8_runScript_26 ?_
      refine lv_goto (tgt := 31) hx hb dX8_runScript_27 (by decide) ?_
      exact hj31 ((5 : Int32) * a1) H locs ls (lv_sub hl [1, 2, 3] rfl) hP hS h
set_option maxRecDepth 100000 in
theorem ct_8_runScript (l : Launch) (C : sx_C) (hG : sx_G C) (a1 : Int32) (a2 : Int64) (M0 : sx_M) (r : Int32) (M' : sx_M) (h : f8_runScript a1 a2 M0 = some (r, M')) : Met l yX8_runScript (.code yX8_runScript cX8_runScript 6 (some .int) :: sx_T) ({ frames := 7, cells := 0, slots := 0, locals := 158 } : Room) (sx_Pc C M0 [.ref (sx_ad C 17 0), .int a1, .long a2]) (sx_Q C (some (.int r)) M') 0 0 (sx_A C) := by
  refine Met.ofW (cc := cX8_runScript) (maxL := 6) (ret := (some .int)) (by decide) rfl ?_
  intro p e s m args below meth c s₁ B hml hv
  obtain ⟨rfl, hz, hP, hK⟩ := hv
  have hl := lv_entry ([.ref (sx_ad C 17 0), .int a1, .long a2]) (n := 6) (Nat.le_of_ble_eq_true rfl)
  rw [lg_entry_eq]
  generalize (lg_sl ([.ref (sx_ad C 17 0), .int a1, .long a2]) ++ List.replicate (6 - (lg_sl ([.ref (sx_ad C 17 0), .int a1, .long a2])).length) Slot.unset).toArray = ls at hl ⊢
  exact wk_8_runScript ⟨B.exec, B.bytes, hml, findClass_of_methodNamed B.named, fun w hw => atoms_spec B.pre w (List.mem_cons_of_mem _ hw), hK⟩ B.returns B.notSynchronized hG hz ⟨Nat.zero_le _, Nat.zero_le _⟩ ⟨Nat.le_refl _, Nat.le_refl _⟩ a1 a2 M0 r M' h hl hP va_S.rf
theorem cl_L_185 (X : sx_X C p m c cc nL s args RL) (hG : sx_G C) (hP : sx_W C M0 H) (hz : sx_sz C ≤ H0.size) (hS : va_S (sx_A C) H0 H locs) {a1 : Int32} {a2 : Int64} {r : Int32} {M' : sx_M} (h : f8_runScript a1 a2 M0 = some (r, M')) (hsz : ls.size = nL) (hdg : decode cc pc = .ok (.invokevirtual 185, 3)) (hcs : cells ≤ R.cells ∧ slots ≤ R.slots) (hR : 7 + 1 ≤ R.frames ∧ 8 + (6 + 11) + 158 ≤ R.locals) (hrest : (rest.map fun v => v.category).sum ≤ 8) (kk : ∀ (H1 : Heap) (locs1 : List Loc), sx_W C M' H1 → va_S (sx_A C) H0 H1 locs1 → W p l e R s m args below meth c H1 locs1 cells slots Q (F0 m (pc + 3) ls ((.int r) :: rest))) : W p l e R s m args below meth c H locs cells slots Q (F0 m pc ls (.long a2 :: .int a1 :: .ref (sx_ad C 17 0) :: rest)) :=
  sx_callV (n := 2) (As := [.int a1, .long a2]) (k0 := 17) (s0 := 0) X hP hz hS (by decide) rfl rfl (sx_goodV tw_1306 tw_1307 tw_1308 tw_71 tw_1309) (by decide +kernel) rfl rfl hR (ct_8_runScript l C hG a1 a2 M0 r M' h) rfl rfl hrest hsz hdg hcs kk
-- StringShedModel.stir(I)V
def f8_stir (a1 : Int32) (M0 : sx_M) : Option (sx_M) :=
  sx_bd ((a1 / (16 : Int32)) - (a1 / (16 : Int32)) / (24 : Int32) * (24 : Int32)) fun v1 =>
  sx_bd (((a1 / (512 : Int32)) - (a1 / (512 : Int32)) / (28 : Int32) * (28 : Int32)) - (4 : Int32)) fun v2 =>
  (f8_stringOf v2 v1 M0).bind fun v3 =>
  sx_bd (fun (M4 : sx_M) =>
    some M4) fun j197 =>
  if (a1 - a1 / (8 : Int32) * (8 : Int32)) = (0 : Int32) then
    sx_b2 (f8_ties v2 v1 M0) fun v6 M7 =>
    j197 M7
  else
  if (a1 - a1 / (8 : Int32) * (8 : Int32)) = (1 : Int32) then
    sx_b2 (f8_ties v2 v1 M0) fun v9 M10 =>
    j197 M10
  else
  if (a1 - a1 / (8 : Int32) * (8 : Int32)) = (2 : Int32) then
    sx_b2 (f8_cutsString v2 v1 M0) fun v12 M13 =>
    j197 M13
  else
  if (a1 - a1 / (8 : Int32) * (8 : Int32)) = (3 : Int32) then
    if v3 = (-9 : Int32) then
      j197 M0
    else
      (f8_cordAt v3 (2 : Int32) M0).bind fun v16 =>
      if sx_in v16 247 then
      sx_bd (sx_set M0 21 0 (v16).toNatClampNeg (0 : Int32)) fun M17 =>
      j197 M17
      else none
  else
  if (a1 - a1 / (8 : Int32) * (8 : Int32)) = (4 : Int32) then
    if v3 = (-9 : Int32) then
      j197 M0
    else
      (f8_cordAt v3 (2 : Int32) M0).bind fun v20 =>
      if sx_in v20 247 then
      sx_bd (M0.1 21 0 (v20).toNatClampNeg) fun v21 =>
      if v21 = 0 then
        (f8_mendIn 21 v3 M0).bind fun M23 =>
        j197 M23
      else
        j197 M0
      else none
  else
  if (a1 - a1 / (8 : Int32) * (8 : Int32)) = (5 : Int32) then
    sx_bd (fun (v25 : Int32) =>
      sx_b2 (f8_pins v25 v1 M0) fun v26 M27 =>
      j197 M27) fun j160 =>
    if ((a1 / (16384 : Int32)) - (a1 / (16384 : Int32)) / (2 : Int32) * (2 : Int32)) = (1 : Int32) then
      j160 (0 : Int32)
    else
      j160 (1 : Int32)
  else
    if sx_in (3 : Int32) 247 then
    sx_bd (M0.1 21 0 ((3 : Int32)).toNatClampNeg) fun v29 =>
    if v29 = (1 : Int32) then
      sx_b2 (f8_stepIn 21 M0) fun v33 M34 =>
      j197 M34
    else
      sx_b2 (f8_beginIn 21 M0) fun v31 M32 =>
      j197 M32
    else none
set_option maxRecDepth 100000 in
set_option maxHeartbeats 4000000 in
theorem wk_8_stir (X : sx_X C p m c cX8_stir 5 s args RX8) (hr : meth.sig.returnType = none) (hlocks : meth.locks = false) (hG : sx_G C) (hz : sx_sz C ≤ s.heap.size) (hcs : 0 ≤ R.cells ∧ 0 ≤ R.slots) (hR : 5 ≤ R.frames ∧ 112 ≤ R.locals) (a1 : Int32) (M0 : sx_M) (M' : sx_M) (h : f8_stir a1 M0 = some M') (hl : lv_has ls 5 [(0, .ref (sx_ad C 17 0)), (1, .int a1)]) (hP : sx_W C M0 H) (hS : va_S (sx_A C) s.heap H locs) : W p l e R s m args below meth c H locs 0 0 (sx_Z C none M' below args s) (F0 m 0 ls []) := by
  obtain ⟨hx, hb, hml, hown, hts, hK⟩ := id X
  rw [f8_stir] at h
  refine lv_iload_n hx hb dX8_stir_0 rfl (lv_at hl 1 rfl) ?_
  refine lv_bipush (v := (16 : Int32)) hx hb dX8_stir_1 (by decide) ?_
  refine lv_idiv hx hb dX8_stir_3 (by decide) ?_
  refine lv_bipush (v := (24 : Int32)) hx hb dX8_stir_4 (by decide) ?_
  refine lv_irem hx hb dX8_stir_6 (by decide) ?_
  obtain ⟨v1, e_v1, h⟩ := sx_nm h
  rw [e_v1]
  refine lv_istore_n (lv' := [(2, .int v1), (0, .ref (sx_ad C 17 0)), (1, .int a1)]) hx hb dX8_stir_7 rfl hl (by decide) rfl (fun ls hl => ?_)
  refine lv_iload_n hx hb dX8_stir_8 rfl (lv_at hl 2 rfl) ?_
  refine lv_sipush (v := (512 : Int32)) hx hb dX8_stir_9 (by decide) ?_
  refine lv_idiv hx hb dX8_stir_12 (by decide) ?_
  refine lv_bipush (v := (28 : Int32)) hx hb dX8_stir_13 (by decide) ?_
  refine lv_irem hx hb dX8_stir_15 (by decide) ?_
  refine lv_iconst (v := (4 : Int32)) hx hb dX8_stir_16 (by decide) ?_
  refine lv_isub hx hb dX8_stir_17 ?_
  obtain ⟨v2, e_v2, h⟩ := sx_nm h
  rw [e_v2]
  refine lv_istore_n (lv' := [(3, .int v2), (2, .int v1), (0, .ref (sx_ad C 17 0)), (1, .int a1)]) hx hb dX8_stir_18 rfl hl (by decide) rfl (fun ls hl => ?_)
  refine lv_aload_n hx hb dX8_stir_19 rfl (lv_at hl 2 rfl) ?_
  refine lv_iload_n hx hb dX8_stir_20 rfl (lv_at hl 0 rfl) ?_
  refine lv_iload_n hx hb dX8_stir_21 rfl (lv_at hl 1 rfl) ?_
  obtain ⟨v3, e_v3, h⟩ := sx_bnd h
  refine cl_X8_249 X hG hP hz hS  e_v3 hl.1 dX8_stir_22 hcs ⟨Nat.le_trans (by decide) hR.1, Nat.le_trans (by decide) hR.2⟩ (Nat.le_of_ble_eq_true rfl) (fun H locs hP hS => ?_)
  refine lv_istore (lv' := [(4, .int v3), (3, .int v2), (2, .int v1), (0, .ref (sx_ad C 17 0)), (1, .int a1)]) hx hb dX8_stir_25 hl (by decide) rfl (fun ls hl => ?_)
  refine lv_iload_n hx hb dX8_stir_27 rfl (lv_at hl 4 rfl) ?_
  refine lv_bipush (v := (8 : Int32)) hx hb dX8_stir_28 (by decide) ?_
  refine lv_irem hx hb dX8_stir_30 (by decide) ?_
  obtain ⟨j197, e_j197, h⟩ := sx_nm h
  have hj197 : ∀ (M4 : sx_M) (H : Heap) (locs : List Loc) (ls : Array Slot), lv_has ls 5 [] → sx_W C M4 H → va_S (sx_A C) s.heap H locs → j197 M4 = some M' → W p l e R s m args below meth c H locs 0 0 (sx_Z C none M' below args s) (F0 m 197 ls []) := by
    intro M4 H locs ls hl hP hS h
    subst e_j197
    exact sx_vret X hr hlocks hS hP h dX8_stir_197
  clear e_j197
  by_cases c5 : (a1 - a1 / (8 : Int32) * (8 : Int32)) = (0 : Int32)
  · replace h := sx_ifp h c5
    refine lv_tableIn (tgt := 68) hx hb dX8_stir_31 (by rw [c5]; decide) (by rw [c5]; decide) (by rw [c5]; rfl) (by decide) ?_
    refine lv_aload_n hx hb dX8_stir_68 rfl (lv_at hl 3 rfl) ?_
    refine lv_iload_n hx hb dX8_stir_69 rfl (lv_at hl 1 rfl) ?_
    refine lv_iload_n hx hb dX8_stir_70 rfl (lv_at hl 2 rfl) ?_
    obtain ⟨v6, M7, e_v6, h⟩ := sx_bnd2 h
    refine cl_X8_258 X hG hP hz hS  e_v6 hl.1 dX8_stir_71 hcs ⟨Nat.le_trans (by decide) hR.1, Nat.le_trans (by decide) hR.2⟩ (Nat.le_of_ble_eq_true rfl) (fun H locs hP hS => ?_)
    refine lv_pop hx hb dX8_stir_74 rfl ?_
    refine lv_goto (tgt := 197) hx hb dX8_stir_75 (by decide) ?_
    exact hj197 M7 H locs ls (lv_sub hl [] rfl) hP hS h
  replace h := sx_ifn h c5
  by_cases c8 : (a1 - a1 / (8 : Int32) * (8 : Int32)) = (1 : Int32)
  · replace h := sx_ifp h c8
    refine lv_tableIn (tgt := 68) hx hb dX8_stir_31 (by rw [c8]; decide) (by rw [c8]; decide) (by rw [c8]; rfl) (by decide) ?_
    refine lv_aload_n hx hb dX8_stir_68 rfl (lv_at hl 3 rfl) ?_
    refine lv_iload_n hx hb dX8_stir_69 rfl (lv_at hl 1 rfl) ?_
    refine lv_iload_n hx hb dX8_stir_70 rfl (lv_at hl 2 rfl) ?_
    obtain ⟨v9, M10, e_v9, h⟩ := sx_bnd2 h
    refine cl_X8_258 X hG hP hz hS  e_v9 hl.1 dX8_stir_71 hcs ⟨Nat.le_trans (by decide) hR.1, Nat.le_trans (by decide) hR.2⟩ (Nat.le_of_ble_eq_true rfl) (fun H locs hP hS => ?_)
    refine lv_pop hx hb dX8_stir_74 rfl ?_
    refine lv_goto (tgt := 197) hx hb dX8_stir_75 (by decide) ?_
    exact hj197 M10 H locs ls (lv_sub hl [] rfl) hP hS h
  replace h := sx_ifn h c8
  by_cases c11 : (a1 - a1 / (8 : Int32) * (8 : Int32)) = (2 : Int32)
  · replace h := sx_ifp h c11
    refine lv_tableIn (tgt := 78) hx hb dX8_stir_31 (by rw [c11]; decide) (by rw [c11]; decide) (by rw [c11]; rfl) (by decide) ?_
    refine lv_aload_n hx hb dX8_stir_78 rfl (lv_at hl 3 rfl) ?_
    refine lv_iload_n hx hb dX8_stir_79 rfl (lv_at hl 1 rfl) ?_
    refine lv_iload_n hx hb dX8_stir_80 rfl (lv_at hl 2 rfl) ?_
    obtain ⟨v12, M13, e_v12, h⟩ := sx_bnd2 h
    refine cl_X8_262 X hG hP hz hS  e_v12 hl.1 dX8_stir_81 hcs ⟨Nat.le_trans (by decide) hR.1, Nat.le_trans (by decide) hR.2⟩ (Nat.le_of_ble_eq_true rfl) (fun H locs hP hS => ?_)
    refine lv_pop hx hb dX8_stir_84 rfl ?_
    refine lv_goto (tgt := 197) hx hb dX8_stir_85 (by decide) ?_
    exact hj197 M13 H locs ls (lv_sub hl [] rfl) hP hS h
  replace h := sx_ifn h c11
  by_cases c14 : (a1 - a1 / (8 : Int32) * (8 : Int32)) = (3 : Int32)
  · replace h := sx_ifp h c14
    refine lv_tableIn (tgt := 88) hx hb dX8_stir_31 (by rw [c14]; decide) (by rw [c14]; decide) (by rw [c14]; rfl) (by decide) ?_
    refine lv_iload hx hb dX8_stir_88 (lv_at hl 0 rfl) ?_
    refine lv_bipush (v := (-9 : Int32)) hx hb dX8_stir_90 (by decide) ?_
    refine lv_icmp_eq (tgt := 197) hx hb dX8_stir_92 (by decide) (fun c15 => ?_) (fun c15 => ?_)
    · replace h := sx_ifp h c15
      exact hj197 M0 H locs ls (lv_sub hl [] rfl) hP hS h
    · replace h := sx_ifn h c15
      refine lv_aload_n hx hb dX8_stir_95 rfl (lv_at hl 3 rfl) ?_
      refine gf_X8_19 X hP (by decide) dX8_stir_96 ?_
      refine lv_iload hx hb dX8_stir_99 (lv_at hl 0 rfl) ?_
      refine lv_iconst (v := (2 : Int32)) hx hb dX8_stir_101 (by decide) ?_
      obtain ⟨v16, e_v16, h⟩ := sx_bnd h
      refine cl_X8_78 X hG hP hz hS  e_v16 hl.1 dX8_stir_102 hcs ⟨Nat.le_trans (by decide) hR.1, Nat.le_trans (by decide) hR.2⟩ (Nat.le_of_ble_eq_true rfl) (fun H locs hP hS => ?_)
      refine lv_iconst (v := (0 : Int32)) hx hb dX8_stir_105 (by decide) ?_
      refine sx_iast X hG hP hS 21 0 247 (by decide) (fun _ _ => rfl) dX8_stir_106 h (fun M17 H locs h hP hS => ?_)
      refine lv_goto (tgt := 197) hx hb dX8_stir_107 (by decide) ?_
      exact hj197 M17 H locs ls (lv_sub hl [] rfl) hP hS h
  replace h := sx_ifn h c14
  by_cases c18 : (a1 - a1 / (8 : Int32) * (8 : Int32)) = (4 : Int32)
  · replace h := sx_ifp h c18
    refine lv_tableIn (tgt := 110) hx hb dX8_stir_31 (by rw [c18]; decide) (by rw [c18]; decide) (by rw [c18]; rfl) (by decide) ?_
    refine lv_iload hx hb dX8_stir_110 (lv_at hl 0 rfl) ?_
    refine lv_bipush (v := (-9 : Int32)) hx hb dX8_stir_112 (by decide) ?_
    refine lv_icmp_eq (tgt := 197) hx hb dX8_stir_114 (by decide) (fun c19 => ?_) (fun c19 => ?_)
    · replace h := sx_ifp h c19
      exact hj197 M0 H locs ls (lv_sub hl [] rfl) hP hS h
    · replace h := sx_ifn h c19
      refine lv_aload_n hx hb dX8_stir_117 rfl (lv_at hl 3 rfl) ?_
      refine gf_X8_19 X hP (by decide) dX8_stir_118 ?_
      refine lv_iload hx hb dX8_stir_121 (lv_at hl 0 rfl) ?_
      refine lv_iconst (v := (2 : Int32)) hx hb dX8_stir_123 (by decide) ?_
      obtain ⟨v20, e_v20, h⟩ := sx_bnd h
      refine cl_X8_78 X hG hP hz hS  e_v20 hl.1 dX8_stir_124 hcs ⟨Nat.le_trans (by decide) hR.1, Nat.le_trans (by decide) hR.2⟩ (Nat.le_of_ble_eq_true rfl) (fun H locs hP hS => ?_)
      refine sx_iald X hP 21 0 247 (by decide) (fun _ _ => rfl) dX8_stir_127 h (fun v21 h => ?_)
      refine lv_if_ne (tgt := 197) hx hb dX8_stir_128 (by decide) (fun c22 => ?_) (fun c22 => ?_)
      · replace h := sx_ifn h c22
        exact hj197 M0 H locs ls (lv_sub hl [] rfl) hP hS h
      · replace h := sx_ifp h c22
        refine lv_aload_n hx hb dX8_stir_131 rfl (lv_at hl 3 rfl) ?_
        refine gf_X8_19 X hP (by decide) dX8_stir_132 ?_
        refine lv_iload hx hb dX8_stir_135 (lv_at hl 0 rfl) ?_
        obtain ⟨M23, e_M23, h⟩ := sx_bnd h
        refine cl_X8_158 X hG hP hz hS sx_row21 e_M23 hl.1 dX8_stir_137 hcs ⟨Nat.le_trans (by decide) hR.1, Nat.le_trans (by decide) hR.2⟩ (Nat.le_of_ble_eq_true rfl) (fun H locs hP hS => ?_)
        refine lv_goto (tgt := 197) hx hb dX8_stir_140 (by decide) ?_
        exact hj197 M23 H locs ls (lv_sub hl [] rfl) hP hS h
  replace h := sx_ifn h c18
  by_cases c24 : (a1 - a1 / (8 : Int32) * (8 : Int32)) = (5 : Int32)
  · replace h := sx_ifp h c24
    refine lv_tableIn (tgt := 143) hx hb dX8_stir_31 (by rw [c24]; decide) (by rw [c24]; decide) (by rw [c24]; rfl) (by decide) ?_
    refine lv_aload_n hx hb dX8_stir_143 rfl (lv_at hl 3 rfl) ?_
    refine lv_iload_n hx hb dX8_stir_144 rfl (lv_at hl 4 rfl) ?_
    refine lv_sipush (v := (16384 : Int32)) hx hb dX8_stir_145 (by decide) ?_
    refine lv_idiv hx hb dX8_stir_148 (by decide) ?_
    refine lv_iconst (v := (2 : Int32)) hx hb dX8_stir_149 (by decide) ?_
    refine lv_irem hx hb dX8_stir_150 (by decide) ?_
    refine lv_iconst (v := (1 : Int32)) hx hb dX8_stir_151 (by decide) ?_
    obtain ⟨j160, e_j160, h⟩ := sx_nm h
    have hj160 : ∀ (v25 : Int32) (H : Heap) (locs : List Loc) (ls : Array Slot), lv_has ls 5 [(2, .int v1)] → sx_W C M0 H → va_S (sx_A C) s.heap H locs → j160 v25 = some M' → W p l e R s m args below meth c H locs 0 0 (sx_Z C none M' below args s) (F0 m 160 ls [.int v25, .ref (sx_ad C 17 0)]) := by
      intro v25 H locs ls hl hP hS h
      subst e_j160
      refine lv_iload_n hx hb dX8_stir_160 rfl (lv_at hl 0 rfl) ?_
      obtain ⟨v26, M27, e_v26, h⟩ := sx_bnd2 h
      refine cl_X8_265 X hG hP hz hS  e_v26 hl.1 dX8_stir_161 hcs ⟨Nat.le_trans (by decide) hR.1, Nat.le_trans (by decide) hR.2⟩ (Nat.le_of_ble_eq_true rfl) (fun H locs hP hS => ?_)
      refine lv_pop hx hb dX8_stir_164 rfl ?_
      refine lv_goto (tgt := 197) hx hb dX8_stir_165 (by decide) ?_
      exact hj197 M27 H locs ls (lv_sub hl [] rfl) hP hS h
    clear e_j160
    refine lv_icmp_ne (tgt := 159) hx hb dX8_stir_152 (by decide) (fun c28 => ?_) (fun c28 => ?_)
    · replace h := sx_ifn h c28
      refine lv_iconst (v := (1 : Int32)) hx hb dX8_stir_159 (by decide) ?_
      exact hj160 (1 : Int32) H locs ls (lv_sub hl [2] rfl) hP hS h
    · replace h := sx_ifp h c28
      refine lv_iconst (v := (0 : Int32)) hx hb dX8_stir_155 (by decide) ?_
      refine lv_goto (tgt := 160) hx hb dX8_stir_156 (by decide) ?_
      exact hj160 (0 : Int32) H locs ls (lv_sub hl [2] rfl) hP hS h
  replace h := sx_ifn h c24
  have t_c5 := lv_neT (a := 0) c5 (by decide)
  have t_c8 := lv_neT (a := 1) c8 (by decide)
  have t_c11 := lv_neT (a := 2) c11 (by decide)
  have t_c14 := lv_neT (a := 3) c14 (by decide)
  have t_c18 := lv_neT (a := 4) c18 (by decide)
  have t_c24 := lv_neT (a := 5) c24 (by decide)
  refine lv_tableOut (tgt := 168) hx hb dX8_stir_31 (by omega) (by decide) ?_
  refine lv_aload_n hx hb dX8_stir_168 rfl (lv_at hl 3 rfl) ?_
  refine gf_X8_19 X hP (by decide) dX8_stir_169 ?_
  refine lv_iconst (v := (3 : Int32)) hx hb dX8_stir_172 (by decide) ?_
  refine sx_iald X hP 21 0 247 (by decide) (fun _ _ => rfl) dX8_stir_173 h (fun v29 h => ?_)
  refine lv_iconst (v := (1 : Int32)) hx hb dX8_stir_174 (by decide) ?_
  refine lv_icmp_ne (tgt := 189) hx hb dX8_stir_175 (by decide) (fun c30 => ?_) (fun c30 => ?_)
  · replace h := sx_ifn h c30
    refine lv_aload_n hx hb dX8_stir_189 rfl (lv_at hl 3 rfl) ?_
    refine gf_X8_19 X hP (by decide) dX8_stir_190 ?_
    obtain ⟨v31, M32, e_v31, h⟩ := sx_bnd2 h
    refine cl_X8_169 X hG hP hz hS sx_row21 e_v31 hl.1 dX8_stir_193 hcs ⟨Nat.le_trans (by decide) hR.1, Nat.le_trans (by decide) hR.2⟩ (Nat.le_of_ble_eq_true rfl) (fun H locs hP hS => ?_)
    refine lv_pop hx hb dX8_stir_196 rfl ?_
    exact hj197 M32 H locs ls (lv_sub hl [] rfl) hP hS h
  · replace h := sx_ifp h c30
    refine lv_aload_n hx hb dX8_stir_178 rfl (lv_at hl 3 rfl) ?_
    refine gf_X8_19 X hP (by decide) dX8_stir_179 ?_
    obtain ⟨v33, M34, e_v33, h⟩ := sx_bnd2 h
    refine cl_X8_172 X hG hP hz hS sx_row21 e_v33 hl.1 dX8_stir_182 hcs ⟨Nat.le_trans (by decide) hR.1, Nat.le_trans (by decide) hR.2⟩ (Nat.le_of_ble_eq_true rfl) (fun H locs hP hS => ?_)
    refine lv_pop hx hb dX8_stir_185 rfl ?_
    refine lv_goto (tgt := 197) hx hb dX8_stir_186 (by decide) ?_
    exact hj197 M34 H locs ls (lv_sub hl [] rfl) hP hS h
set_option maxRecDepth 100000 in
theorem ct_8_stir (l : Launch) (C : sx_C) (hG : sx_G C) (a1 : Int32) (M0 : sx_M) (M' : sx_M) (h : f8_stir a1 M0 = some M') : Met l yX8_stir (.code yX8_stir cX8_stir 5 none :: sx_T) ({ frames := 5, cells := 0, slots := 0, locals := 112 } : Room) (sx_Pc C M0 [.ref (sx_ad C 17 0), .int a1]) (sx_Q C none M') 0 0 (sx_A C) := by
  refine Met.ofW (cc := cX8_stir) (maxL := 5) (ret := none) (by decide) rfl ?_
  intro p e s m args below meth c s₁ B hml hv
  obtain ⟨rfl, hz, hP, hK⟩ := hv
  have hl := lv_entry ([.ref (sx_ad C 17 0), .int a1]) (n := 5) (Nat.le_of_ble_eq_true rfl)
  rw [lg_entry_eq]
  generalize (lg_sl ([.ref (sx_ad C 17 0), .int a1]) ++ List.replicate (5 - (lg_sl ([.ref (sx_ad C 17 0), .int a1])).length) Slot.unset).toArray = ls at hl ⊢
  exact wk_8_stir ⟨B.exec, B.bytes, hml, findClass_of_methodNamed B.named, fun w hw => atoms_spec B.pre w (List.mem_cons_of_mem _ hw), hK⟩ B.returns B.notSynchronized hG hz ⟨Nat.zero_le _, Nat.zero_le _⟩ ⟨Nat.le_refl _, Nat.le_refl _⟩ a1 M0 M' h hl hP va_S.rf
theorem cl_X8_295 (X : sx_X C p m c cc nL s args RX8) (hG : sx_G C) (hP : sx_W C M0 H) (hz : sx_sz C ≤ H0.size) (hS : va_S (sx_A C) H0 H locs) {a1 : Int32} {M' : sx_M} (h : f8_stir a1 M0 = some M') (hsz : ls.size = nL) (hdg : decode cc pc = .ok (.invokevirtual 295, 3)) (hcs : cells ≤ R.cells ∧ slots ≤ R.slots) (hR : 5 + 1 ≤ R.frames ∧ 8 + (5 + 11) + 112 ≤ R.locals) (hrest : (rest.map fun v => v.category).sum ≤ 8) (kk : ∀ (H1 : Heap) (locs1 : List Loc), sx_W C M' H1 → va_S (sx_A C) H0 H1 locs1 → W p l e R s m args below meth c H1 locs1 cells slots Q (F0 m (pc + 3) ls (rest))) : W p l e R s m args below meth c H locs cells slots Q (F0 m pc ls (.int a1 :: .ref (sx_ad C 17 0) :: rest)) :=
  sx_callV (n := 1) (As := [.int a1]) (k0 := 17) (s0 := 0) X hP hz hS (by decide) rfl rfl (sx_goodV tw_1364 tw_1366 tw_62 tw_71 tw_1367) (by decide +kernel) rfl rfl hR (ct_8_stir l C hG a1 M0 M' h) rfl rfl hrest hsz hdg hcs kk
-- StringShedModel.simulate(JI)I
def f8_simulate_L36 (w3 : Int32) : Nat → Int64 → Int32 → sx_M → Option (Int32 × sx_M)
  | 0, _, _, _ => none
  | n + 1, x4, x6, M =>
    if w3 ≤ x6 then
      if sx_in (1 : Int32) 247 then
      sx_bd (M.1 21 0 ((1 : Int32)).toNatClampNeg) fun v8 =>
      if sx_in (1 : Int32) 247 then
      sx_bd (M.1 20 0 ((1 : Int32)).toNatClampNeg) fun v9 =>
      sx_b2 (f8_heldWeight 21 M) fun v10 M11 =>
      some (((1000 : Int32) * (v8 - v9)) + v10, M11)
      else none
      else none
    else
      sx_bd ((x4 * (6364136223846793005 : Int64)) + (1442695040888963407 : Int64)) fun v12 =>
      (f8_stir (((v12.toUInt64 >>> ((33 : Int32).toInt64.toUInt64 &&& Int64.toUInt64 63)).toInt64).toInt32) M).bind fun M13 =>
      sx_bd (x6 + (1 : Int32)) fun v14 =>
      f8_simulate_L36 w3 n v12 v14 M13
def f8_simulate (a1 : Int64) (a3 : Int32) (M0 : sx_M) : Option (Int32 × sx_M) :=
  (f8_in a3.toInt64 (1 : Int64) (200 : Int64) M0).bind fun v1 =>
  sx_bd (fun (v2 : Int32) =>
    sx_b2 (f8_refused v2 M0) fun v3 M4 =>
    if v3 = 0 then
      (f8_tryIt M4).bind fun M6 =>
      f8_simulate_L36 a3
        5000 a1 (0 : Int32) M6
    else
      some ((0 : Int32), M4)) fun j18 =>
  if v1 = 0 then
    j18 (1 : Int32)
  else
    j18 (0 : Int32)
set_option maxRecDepth 100000 in
set_option maxHeartbeats 4000000 in
theorem wk_8_simulate (X : sx_X C p m c cX8_simulate 7 s args RX8) (hr : meth.sig.returnType = (some .int)) (hlocks : meth.locks = false) (hG : sx_G C) (hz : sx_sz C ≤ s.heap.size) (hcs : 0 ≤ R.cells ∧ 0 ≤ R.slots) (hR : 6 ≤ R.frames ∧ 136 ≤ R.locals) (a1 : Int64) (a3 : Int32) (M0 : sx_M) (r : Int32) (M' : sx_M) (h : f8_simulate a1 a3 M0 = some (r, M')) (hl : lv_has ls 7 [(0, .ref (sx_ad C 17 0)), (1, .long a1), (3, .int a3)]) (hP : sx_W C M0 H) (hS : va_S (sx_A C) s.heap H locs) : W p l e R s m args below meth c H locs 0 0 (sx_Z C (some (.int r)) M' below args s) (F0 m 0 ls []) := by
  obtain ⟨hx, hb, hml, hown, hts, hK⟩ := id X
  rw [f8_simulate] at h
  have hf8_simulate_L36 : ∀ (w3 : Int32) (n : Nat) (x4 : Int64) (x6 : Int32) (M : sx_M) (H : Heap) (locs : List Loc) (ls : Array Slot), lv_has ls 7 [(0, .ref (sx_ad C 17 0)), (3, .int w3), (4, .long x4), (6, .int x6)] → sx_W C M H → va_S (sx_A C) s.heap H locs → f8_simulate_L36 w3 n x4 x6 M = some (r, M') → W p l e R s m args below meth c H locs 0 0 (sx_Z C (some (.int r)) M' below args s) (F0 m 36 ls []) := by
    intro w3 n
    induction n with
    | zero => intro x4 x6 M H locs ls hl hP hS h; exact absurd (show (none : Option (Int32 × sx_M)) = some (r, M') from h) (fun q => nomatch q)
    | succ n ih =>
      intro x4 x6 M H locs ls hl hP hS h
      rw [f8_simulate_L36] at h
      refine lv_iload hx hb dX8_simulate_36 (lv_at hl 3 rfl) ?_
      refine lv_iload_n hx hb dX8_simulate_38 rfl (lv_at hl 1 rfl) ?_
      refine lv_icmp_ge (tgt := 70) hx hb dX8_simulate_39 (by decide) (fun c7 => ?_) (fun c7 => ?_)
      · replace h := sx_ifp h c7
        refine lv_sipush (v := (1000 : Int32)) hx hb dX8_simulate_70 (by decide) ?_
        refine lv_aload_n hx hb dX8_simulate_73 rfl (lv_at hl 0 rfl) ?_
        refine gf_X8_19 X hP (by decide) dX8_simulate_74 ?_
        refine lv_iconst (v := (1 : Int32)) hx hb dX8_simulate_77 (by decide) ?_
        refine sx_iald X hP 21 0 247 (by decide) (fun _ _ => rfl) dX8_simulate_78 h (fun v8 h => ?_)
        refine lv_aload_n hx hb dX8_simulate_79 rfl (lv_at hl 0 rfl) ?_
        refine gf_X8_16 X hP (by decide) dX8_simulate_80 ?_
        refine lv_iconst (v := (1 : Int32)) hx hb dX8_simulate_83 (by decide) ?_
        refine sx_iald X hP 20 0 247 (by decide) (fun _ _ => rfl) dX8_simulate_84 h (fun v9 h => ?_)
        refine lv_isub hx hb dX8_simulate_85 ?_
        refine lv_imul hx hb dX8_simulate_86 ?_
        refine lv_aload_n hx hb dX8_simulate_87 rfl (lv_at hl 0 rfl) ?_
        refine lv_aload_n hx hb dX8_simulate_88 rfl (lv_at hl 0 rfl) ?_
        refine gf_X8_19 X hP (by decide) dX8_simulate_89 ?_
        obtain ⟨v10, M11, e_v10, h⟩ := sx_bnd2 h
        refine cl_X8_205 X hG hP hz hS sx_row21 e_v10 hl.1 dX8_simulate_92 hcs ⟨Nat.le_trans (by decide) hR.1, Nat.le_trans (by decide) hR.2⟩ (Nat.le_of_ble_eq_true rfl) (fun H locs hP hS => ?_)
        refine lv_iadd hx hb dX8_simulate_95 ?_
        exact sx_iretM X hr hlocks hS hP h dX8_simulate_96
      · replace h := sx_ifn h c7
        refine lv_lload hx hb dX8_simulate_42 (lv_at hl 2 rfl) ?_
        refine lv_ldc2 (v := (6364136223846793005 : Int64)) hx hb hown (hts _ tw_1362) dX8_simulate_44 ?_
        refine lv_lmul hx hb dX8_simulate_47 ?_
        refine lv_ldc2 (v := (1442695040888963407 : Int64)) hx hb hown (hts _ tw_1363) dX8_simulate_48 ?_
        refine lv_ladd hx hb dX8_simulate_51 ?_
        obtain ⟨v12, e_v12, h⟩ := sx_nm h
        rw [e_v12]
        refine lv_lstore (lv' := [(4, .long v12), (0, .ref (sx_ad C 17 0)), (3, .int w3), (6, .int x6)]) hx hb dX8_simulate_52 hl (by decide) rfl (fun ls hl => ?_)
        refine lv_aload_n hx hb dX8_simulate_54 rfl (lv_at hl 1 rfl) ?_
        refine lv_lload hx hb dX8_simulate_55 (lv_at hl 0 rfl) ?_
        refine lv_bipush (v := (33 : Int32)) hx hb dX8_simulate_57 (by decide) ?_
        refine lv_lushr (v := (v12.toUInt64 >>> ((33 : Int32).toInt64.toUInt64 &&& Int64.toUInt64 63)).toInt64) hx hb dX8_simulate_59 rfl ?_
        refine lv_l2i (v := ((v12.toUInt64 >>> ((33 : Int32).toInt64.toUInt64 &&& Int64.toUInt64 63)).toInt64).toInt32) hx hb dX8_simulate_60 rfl ?_
        obtain ⟨M13, e_M13, h⟩ := sx_bnd h
        refine cl_X8_295 X hG hP hz hS  e_M13 hl.1 dX8_simulate_61 hcs ⟨Nat.le_trans (by decide) hR.1, Nat.le_trans (by decide) hR.2⟩ (Nat.le_of_ble_eq_true rfl) (fun H locs hP hS => ?_)
        obtain ⟨v14, e_v14, h⟩ := sx_nm h
        refine lv_iinc (v := v14) (lv' := [(6, .int v14), (4, .long v12), (0, .ref (sx_ad C 17 0)), (3, .int w3)]) hx hb dX8_simulate_64 hl (k := 3) rfl (by rw [← e_v14]; rfl) (by decide) rfl (fun ls hl => ?_)
        refine lv_goto (tgt := 36) hx hb dX8_simulate_67 (by decide) ?_
        exact ih v12 v14 M13 H locs ls (lv_sub hl [2, 3, 1, 0] rfl) hP hS h
  refine lv_aload_n hx hb dX8_simulate_0 rfl (lv_at hl 0 rfl) ?_
  refine lv_iload_n hx hb dX8_simulate_1 rfl (lv_at hl 2 rfl) ?_
  refine lv_i2l (v := a3.toInt64) hx hb dX8_simulate_2 rfl ?_
  refine lv_lconst (v := (1 : Int64)) hx hb dX8_simulate_3 (by decide) ?_
  refine lv_ldc2 (v := (200 : Int64)) hx hb hown (hts _ tw_1361) dX8_simulate_4 ?_
  obtain ⟨v1, e_v1, h⟩ := sx_bnd h
  refine cl_X8_60 X hG hP hz hS  e_v1 hl.1 dX8_simulate_7 hcs ⟨Nat.le_trans (by decide) hR.1, Nat.le_trans (by decide) hR.2⟩ (Nat.le_of_ble_eq_true rfl) (fun H locs hP hS => ?_)
  obtain ⟨j18, e_j18, h⟩ := sx_nm h
  have hj18 : ∀ (v2 : Int32) (H : Heap) (locs : List Loc) (ls : Array Slot), lv_has ls 7 [(0, .ref (sx_ad C 17 0)), (1, .long a1), (3, .int a3)] → sx_W C M0 H → va_S (sx_A C) s.heap H locs → j18 v2 = some (r, M') → W p l e R s m args below meth c H locs 0 0 (sx_Z C (some (.int r)) M' below args s) (F0 m 18 ls [.int v2, .ref (sx_ad C 17 0)]) := by
    intro v2 H locs ls hl hP hS h
    subst e_j18
    obtain ⟨v3, M4, e_v3, h⟩ := sx_bnd2 h
    refine cl_X8_111 X hG hP hz hS  e_v3 hl.1 dX8_simulate_18 hcs ⟨Nat.le_trans (by decide) hR.1, Nat.le_trans (by decide) hR.2⟩ (Nat.le_of_ble_eq_true rfl) (fun H locs hP hS => ?_)
    refine lv_if_eq (tgt := 26) hx hb dX8_simulate_21 (by decide) (fun c5 => ?_) (fun c5 => ?_)
    · replace h := sx_ifp h c5
      refine lv_aload_n hx hb dX8_simulate_26 rfl (lv_at hl 0 rfl) ?_
      obtain ⟨M6, e_M6, h⟩ := sx_bnd h
      refine cl_X8_227 X hG hP hz hS  e_M6 hl.1 dX8_simulate_27 hcs ⟨Nat.le_trans (by decide) hR.1, Nat.le_trans (by decide) hR.2⟩ (Nat.le_of_ble_eq_true rfl) (fun H locs hP hS => ?_)
      refine lv_lload_n hx hb dX8_simulate_30 rfl (lv_at hl 1 rfl) ?_
      refine lv_lstore (lv' := [(4, .long a1), (0, .ref (sx_ad C 17 0)), (1, .long a1), (3, .int a3)]) hx hb dX8_simulate_31 hl (by decide) rfl (fun ls hl => ?_)
      refine lv_iconst (v := (0 : Int32)) hx hb dX8_simulate_33 (by decide) ?_
      refine lv_istore (lv' := [(6, .int (0 : Int32)), (4, .long a1), (0, .ref (sx_ad C 17 0)), (1, .long a1), (3, .int a3)]) hx hb dX8_simulate_34 hl (by decide) rfl (fun ls hl => ?_)
      exact hf8_simulate_L36 a3 5000 a1 (0 : Int32) M6 H locs ls (lv_sub hl [2, 4, 1, 0] rfl) hP hS h
    · replace h := sx_ifn h c5
      refine lv_iconst (v := (0 : Int32)) hx hb dX8_simulate_24 (by decide) ?_
      exact sx_iretM X hr hlocks hS hP h dX8_simulate_25
  clear e_j18
  refine lv_if_eq (tgt := 17) hx hb dX8_simulate_10 (by decide) (fun c15 => ?_) (fun c15 => ?_)
  · replace h := sx_ifp h c15
    refine lv_iconst (v := (1 : Int32)) hx hb dX8_simulate_17 (by decide) ?_
    exact hj18 (1 : Int32) H locs ls (lv_sub hl [0, 1, 2] rfl) hP hS h
  · replace h := sx_ifn h c15
    refine lv_iconst (v := (0 : Int32)) hx hb dX8_simulate_13 (by decide) ?_
    refine lv_goto (tgt := 18) hx hb dX8_simulate_14 (by decide) ?_
    exact hj18 (0 : Int32) H locs ls (lv_sub hl [0, 1, 2] rfl) hP hS h
set_option maxRecDepth 100000 in
theorem ct_8_simulate (l : Launch) (C : sx_C) (hG : sx_G C) (a1 : Int64) (a3 : Int32) (M0 : sx_M) (r : Int32) (M' : sx_M) (h : f8_simulate a1 a3 M0 = some (r, M')) : Met l yX8_simulate (.code yX8_simulate cX8_simulate 7 (some .int) :: sx_T) ({ frames := 6, cells := 0, slots := 0, locals := 136 } : Room) (sx_Pc C M0 [.ref (sx_ad C 17 0), .long a1, .int a3]) (sx_Q C (some (.int r)) M') 0 0 (sx_A C) := by
  refine Met.ofW (cc := cX8_simulate) (maxL := 7) (ret := (some .int)) (by decide) rfl ?_
  intro p e s m args below meth c s₁ B hml hv
  obtain ⟨rfl, hz, hP, hK⟩ := hv
  have hl := lv_entry ([.ref (sx_ad C 17 0), .long a1, .int a3]) (n := 7) (Nat.le_of_ble_eq_true rfl)
  rw [lg_entry_eq]
  generalize (lg_sl ([.ref (sx_ad C 17 0), .long a1, .int a3]) ++ List.replicate (7 - (lg_sl ([.ref (sx_ad C 17 0), .long a1, .int a3])).length) Slot.unset).toArray = ls at hl ⊢
  exact wk_8_simulate ⟨B.exec, B.bytes, hml, findClass_of_methodNamed B.named, fun w hw => atoms_spec B.pre w (List.mem_cons_of_mem _ hw), hK⟩ B.returns B.notSynchronized hG hz ⟨Nat.zero_le _, Nat.zero_le _⟩ ⟨Nat.le_refl _, Nat.le_refl _⟩ a1 a3 M0 r M' h hl hP va_S.rf
theorem cl_L_189 (X : sx_X C p m c cc nL s args RL) (hG : sx_G C) (hP : sx_W C M0 H) (hz : sx_sz C ≤ H0.size) (hS : va_S (sx_A C) H0 H locs) {a1 : Int64} {a3 : Int32} {r : Int32} {M' : sx_M} (h : f8_simulate a1 a3 M0 = some (r, M')) (hsz : ls.size = nL) (hdg : decode cc pc = .ok (.invokevirtual 189, 3)) (hcs : cells ≤ R.cells ∧ slots ≤ R.slots) (hR : 6 + 1 ≤ R.frames ∧ 8 + (7 + 11) + 136 ≤ R.locals) (hrest : (rest.map fun v => v.category).sum ≤ 8) (kk : ∀ (H1 : Heap) (locs1 : List Loc), sx_W C M' H1 → va_S (sx_A C) H0 H1 locs1 → W p l e R s m args below meth c H1 locs1 cells slots Q (F0 m (pc + 3) ls ((.int r) :: rest))) : W p l e R s m args below meth c H locs cells slots Q (F0 m pc ls (.int a3 :: .long a1 :: .ref (sx_ad C 17 0) :: rest)) :=
  sx_callV (n := 2) (As := [.long a1, .int a3]) (k0 := 17) (s0 := 0) X hP hz hS (by decide) rfl rfl (sx_goodV tw_1357 tw_1358 tw_1359 tw_71 tw_1360) (by decide +kernel) rfl rfl hR (ct_8_simulate l C hG a1 a3 M0 r M' h) rfl rfl hrest hsz hdg hcs kk
-- StringShedModel.save(I)I
def f8_save (a1 : Int32) (M0 : sx_M) : Option (Int32 × sx_M) :=
  (f8_in a1.toInt64 (0 : Int64) (1 : Int64) M0).bind fun v1 =>
  sx_bd (fun (v2 : Int32) =>
    sx_b2 (f8_refused v2 M0) fun v3 M4 =>
    if v3 = 0 then
      (f8_copy 20 (0 : Int32) 23 ((247 : Int32) * a1) (247 : Int32) M4).bind fun M6 =>
      if sx_in a1 2 ∧ ((1 : Int32) = 0 ∨ (1 : Int32) = 1) then
      sx_bd (sx_set M6 24 0 (a1).toNatClampNeg (1 : Int32)) fun M7 =>
      if sx_in (0 : Int32) 247 then
      sx_bd (M7.1 20 0 ((0 : Int32)).toNatClampNeg) fun v8 =>
      if sx_in (1 : Int32) 247 then
      sx_bd (M7.1 20 0 ((1 : Int32)).toNatClampNeg) fun v9 =>
      some (v8 - v9, M7)
      else none
      else none
      else none
    else
      some ((0 : Int32), M4)) fun j16 =>
  if v1 = 0 then
    j16 (1 : Int32)
  else
    j16 (0 : Int32)
set_option maxRecDepth 100000 in
set_option maxHeartbeats 4000000 in
theorem wk_8_save (X : sx_X C p m c cX8_save 2 s args RX8) (hr : meth.sig.returnType = (some .int)) (hlocks : meth.locks = false) (hG : sx_G C) (hz : sx_sz C ≤ s.heap.size) (hcs : 0 ≤ R.cells ∧ 0 ≤ R.slots) (hR : 1 ≤ R.frames ∧ 25 ≤ R.locals) (a1 : Int32) (M0 : sx_M) (r : Int32) (M' : sx_M) (h : f8_save a1 M0 = some (r, M')) (hl : lv_has ls 2 [(0, .ref (sx_ad C 17 0)), (1, .int a1)]) (hP : sx_W C M0 H) (hS : va_S (sx_A C) s.heap H locs) : W p l e R s m args below meth c H locs 0 0 (sx_Z C (some (.int r)) M' below args s) (F0 m 0 ls []) := by
  obtain ⟨hx, hb, hml, hown, hts, hK⟩ := id X
  rw [f8_save] at h
  refine lv_aload_n hx hb dX8_save_0 rfl (lv_at hl 0 rfl) ?_
  refine lv_iload_n hx hb dX8_save_1 rfl (lv_at hl 1 rfl) ?_
  refine lv_i2l (v := a1.toInt64) hx hb dX8_save_2 rfl ?_
  refine lv_lconst (v := (0 : Int64)) hx hb dX8_save_3 (by decide) ?_
  refine lv_lconst (v := (1 : Int64)) hx hb dX8_save_4 (by decide) ?_
  obtain ⟨v1, e_v1, h⟩ := sx_bnd h
  refine cl_X8_60 X hG hP hz hS  e_v1 hl.1 dX8_save_5 hcs ⟨Nat.le_trans (by decide) hR.1, Nat.le_trans (by decide) hR.2⟩ (Nat.le_of_ble_eq_true rfl) (fun H locs hP hS => ?_)
  obtain ⟨j16, e_j16, h⟩ := sx_nm h
  have hj16 : ∀ (v2 : Int32) (H : Heap) (locs : List Loc) (ls : Array Slot), lv_has ls 2 [(0, .ref (sx_ad C 17 0)), (1, .int a1)] → sx_W C M0 H → va_S (sx_A C) s.heap H locs → j16 v2 = some (r, M') → W p l e R s m args below meth c H locs 0 0 (sx_Z C (some (.int r)) M' below args s) (F0 m 16 ls [.int v2, .ref (sx_ad C 17 0)]) := by
    intro v2 H locs ls hl hP hS h
    subst e_j16
    obtain ⟨v3, M4, e_v3, h⟩ := sx_bnd2 h
    refine cl_X8_111 X hG hP hz hS  e_v3 hl.1 dX8_save_16 hcs ⟨Nat.le_trans (by decide) hR.1, Nat.le_trans (by decide) hR.2⟩ (Nat.le_of_ble_eq_true rfl) (fun H locs hP hS => ?_)
    refine lv_if_eq (tgt := 24) hx hb dX8_save_19 (by decide) (fun c5 => ?_) (fun c5 => ?_)
    · replace h := sx_ifp h c5
      refine lv_aload_n hx hb dX8_save_24 rfl (lv_at hl 0 rfl) ?_
      refine gf_X8_16 X hP (by decide) dX8_save_25 ?_
      refine lv_iconst (v := (0 : Int32)) hx hb dX8_save_28 (by decide) ?_
      refine lv_aload_n hx hb dX8_save_29 rfl (lv_at hl 0 rfl) ?_
      refine gf_X8_25 X hP (by decide) dX8_save_30 ?_
      refine lv_sipush (v := (247 : Int32)) hx hb dX8_save_33 (by decide) ?_
      refine lv_iload_n hx hb dX8_save_36 rfl (lv_at hl 1 rfl) ?_
      refine lv_imul hx hb dX8_save_37 ?_
      refine lv_sipush (v := (247 : Int32)) hx hb dX8_save_38 (by decide) ?_
      obtain ⟨M6, e_M6, h⟩ := sx_bnd h
      refine cl_X8_56 X hG hP hz hS sx_row20 sx_row23 e_M6 hl.1 dX8_save_41 hcs ⟨Nat.le_trans (by decide) hR.1, Nat.le_trans (by decide) hR.2⟩ (Nat.le_of_ble_eq_true rfl) (fun H locs hP hS => ?_)
      refine lv_aload_n hx hb dX8_save_44 rfl (lv_at hl 0 rfl) ?_
      refine gf_X8_28 X hP (by decide) dX8_save_45 ?_
      refine lv_iload_n hx hb dX8_save_48 rfl (lv_at hl 1 rfl) ?_
      refine lv_iconst (v := (1 : Int32)) hx hb dX8_save_49 (by decide) ?_
      refine sx_zast X hG hP hS 24 0 2 (by decide) (fun _ _ => rfl) dX8_save_50 h (fun M7 H locs h hP hS => ?_)
      refine lv_aload_n hx hb dX8_save_51 rfl (lv_at hl 0 rfl) ?_
      refine gf_X8_16 X hP (by decide) dX8_save_52 ?_
      refine lv_iconst (v := (0 : Int32)) hx hb dX8_save_55 (by decide) ?_
      refine sx_iald X hP 20 0 247 (by decide) (fun _ _ => rfl) dX8_save_56 h (fun v8 h => ?_)
      refine lv_aload_n hx hb dX8_save_57 rfl (lv_at hl 0 rfl) ?_
      refine gf_X8_16 X hP (by decide) dX8_save_58 ?_
      refine lv_iconst (v := (1 : Int32)) hx hb dX8_save_61 (by decide) ?_
      refine sx_iald X hP 20 0 247 (by decide) (fun _ _ => rfl) dX8_save_62 h (fun v9 h => ?_)
      refine lv_isub hx hb dX8_save_63 ?_
      exact sx_iretM X hr hlocks hS hP h dX8_save_64
    · replace h := sx_ifn h c5
      refine lv_iconst (v := (0 : Int32)) hx hb dX8_save_22 (by decide) ?_
      exact sx_iretM X hr hlocks hS hP h dX8_save_23
  clear e_j16
  refine lv_if_eq (tgt := 15) hx hb dX8_save_8 (by decide) (fun c10 => ?_) (fun c10 => ?_)
  · replace h := sx_ifp h c10
    refine lv_iconst (v := (1 : Int32)) hx hb dX8_save_15 (by decide) ?_
    exact hj16 (1 : Int32) H locs ls (lv_sub hl [0, 1] rfl) hP hS h
  · replace h := sx_ifn h c10
    refine lv_iconst (v := (0 : Int32)) hx hb dX8_save_11 (by decide) ?_
    refine lv_goto (tgt := 16) hx hb dX8_save_12 (by decide) ?_
    exact hj16 (0 : Int32) H locs ls (lv_sub hl [0, 1] rfl) hP hS h
set_option maxRecDepth 100000 in
theorem ct_8_save (l : Launch) (C : sx_C) (hG : sx_G C) (a1 : Int32) (M0 : sx_M) (r : Int32) (M' : sx_M) (h : f8_save a1 M0 = some (r, M')) : Met l yX8_save (.code yX8_save cX8_save 2 (some .int) :: sx_T) ({ frames := 1, cells := 0, slots := 0, locals := 25 } : Room) (sx_Pc C M0 [.ref (sx_ad C 17 0), .int a1]) (sx_Q C (some (.int r)) M') 0 0 (sx_A C) := by
  refine Met.ofW (cc := cX8_save) (maxL := 2) (ret := (some .int)) (by decide) rfl ?_
  intro p e s m args below meth c s₁ B hml hv
  obtain ⟨rfl, hz, hP, hK⟩ := hv
  have hl := lv_entry ([.ref (sx_ad C 17 0), .int a1]) (n := 2) (Nat.le_of_ble_eq_true rfl)
  rw [lg_entry_eq]
  generalize (lg_sl ([.ref (sx_ad C 17 0), .int a1]) ++ List.replicate (2 - (lg_sl ([.ref (sx_ad C 17 0), .int a1])).length) Slot.unset).toArray = ls at hl ⊢
  exact wk_8_save ⟨B.exec, B.bytes, hml, findClass_of_methodNamed B.named, fun w hw => atoms_spec B.pre w (List.mem_cons_of_mem _ hw), hK⟩ B.returns B.notSynchronized hG hz ⟨Nat.zero_le _, Nat.zero_le _⟩ ⟨Nat.le_refl _, Nat.le_refl _⟩ a1 M0 r M' h hl hP va_S.rf
theorem cl_L_192 (X : sx_X C p m c cc nL s args RL) (hG : sx_G C) (hP : sx_W C M0 H) (hz : sx_sz C ≤ H0.size) (hS : va_S (sx_A C) H0 H locs) {a1 : Int32} {r : Int32} {M' : sx_M} (h : f8_save a1 M0 = some (r, M')) (hsz : ls.size = nL) (hdg : decode cc pc = .ok (.invokevirtual 192, 3)) (hcs : cells ≤ R.cells ∧ slots ≤ R.slots) (hR : 1 + 1 ≤ R.frames ∧ 8 + (2 + 11) + 25 ≤ R.locals) (hrest : (rest.map fun v => v.category).sum ≤ 8) (kk : ∀ (H1 : Heap) (locs1 : List Loc), sx_W C M' H1 → va_S (sx_A C) H0 H1 locs1 → W p l e R s m args below meth c H1 locs1 cells slots Q (F0 m (pc + 3) ls ((.int r) :: rest))) : W p l e R s m args below meth c H locs cells slots Q (F0 m pc ls (.int a1 :: .ref (sx_ad C 17 0) :: rest)) :=
  sx_callV (n := 1) (As := [.int a1]) (k0 := 17) (s0 := 0) X hP hz hS (by decide) rfl rfl (sx_goodV tw_1368 tw_1369 tw_1370 tw_71 tw_1371) (by decide +kernel) rfl rfl hR (ct_8_save l C hG a1 M0 r M' h) rfl rfl hrest hsz hdg hcs kk
-- StringShedModel.restore(I)I
def f8_restore (a1 : Int32) (M0 : sx_M) : Option (Int32 × sx_M) :=
  (f8_in a1.toInt64 (0 : Int64) (1 : Int64) M0).bind fun v1 =>
  sx_bd (fun (v2 : Int32) =>
    sx_b2 (f8_refused v2 M0) fun v3 M4 =>
    if v3 = 0 then
      (f8_copy 23 ((247 : Int32) * a1) 20 (0 : Int32) (247 : Int32) M4).bind fun M6 =>
      sx_bd (sx_set M6 17 0 10 (0 : Int32)) fun M7 =>
      if sx_in (0 : Int32) 247 then
      sx_bd (M7.1 20 0 ((0 : Int32)).toNatClampNeg) fun v8 =>
      if sx_in (1 : Int32) 247 then
      sx_bd (M7.1 20 0 ((1 : Int32)).toNatClampNeg) fun v9 =>
      some (v8 - v9, M7)
      else none
      else none
    else
      some ((0 : Int32), M4)) fun j29 =>
  if v1 = 0 then
    j29 (1 : Int32)
  else
    if sx_in a1 2 then
    sx_bd (M0.1 24 0 (a1).toNatClampNeg) fun v11 =>
    if v11 = 0 then
      j29 (2 : Int32)
    else
      j29 (0 : Int32)
    else none
set_option maxRecDepth 100000 in
set_option maxHeartbeats 4000000 in
theorem wk_8_restore (X : sx_X C p m c cX8_restore 2 s args RX8) (hr : meth.sig.returnType = (some .int)) (hlocks : meth.locks = false) (hG : sx_G C) (hz : sx_sz C ≤ s.heap.size) (hcs : 0 ≤ R.cells ∧ 0 ≤ R.slots) (hR : 1 ≤ R.frames ∧ 25 ≤ R.locals) (a1 : Int32) (M0 : sx_M) (r : Int32) (M' : sx_M) (h : f8_restore a1 M0 = some (r, M')) (hl : lv_has ls 2 [(0, .ref (sx_ad C 17 0)), (1, .int a1)]) (hP : sx_W C M0 H) (hS : va_S (sx_A C) s.heap H locs) : W p l e R s m args below meth c H locs 0 0 (sx_Z C (some (.int r)) M' below args s) (F0 m 0 ls []) := by
  obtain ⟨hx, hb, hml, hown, hts, hK⟩ := id X
  rw [f8_restore] at h
  refine lv_aload_n hx hb dX8_restore_0 rfl (lv_at hl 0 rfl) ?_
  refine lv_iload_n hx hb dX8_restore_1 rfl (lv_at hl 1 rfl) ?_
  refine lv_i2l (v := a1.toInt64) hx hb dX8_restore_2 rfl ?_
  refine lv_lconst (v := (0 : Int64)) hx hb dX8_restore_3 (by decide) ?_
  refine lv_lconst (v := (1 : Int64)) hx hb dX8_restore_4 (by decide) ?_
  obtain ⟨v1, e_v1, h⟩ := sx_bnd h
  refine cl_X8_60 X hG hP hz hS  e_v1 hl.1 dX8_restore_5 hcs ⟨Nat.le_trans (by decide) hR.1, Nat.le_trans (by decide) hR.2⟩ (Nat.le_of_ble_eq_true rfl) (fun H locs hP hS => ?_)
  obtain ⟨j29, e_j29, h⟩ := sx_nm h
  have hj29 : ∀ (v2 : Int32) (H : Heap) (locs : List Loc) (ls : Array Slot), lv_has ls 2 [(0, .ref (sx_ad C 17 0)), (1, .int a1)] → sx_W C M0 H → va_S (sx_A C) s.heap H locs → j29 v2 = some (r, M') → W p l e R s m args below meth c H locs 0 0 (sx_Z C (some (.int r)) M' below args s) (F0 m 29 ls [.int v2, .ref (sx_ad C 17 0)]) := by
    intro v2 H locs ls hl hP hS h
    subst e_j29
    obtain ⟨v3, M4, e_v3, h⟩ := sx_bnd2 h
    refine cl_X8_111 X hG hP hz hS  e_v3 hl.1 dX8_restore_29 hcs ⟨Nat.le_trans (by decide) hR.1, Nat.le_trans (by decide) hR.2⟩ (Nat.le_of_ble_eq_true rfl) (fun H locs hP hS => ?_)
    refine lv_if_eq (tgt := 37) hx hb dX8_restore_32 (by decide) (fun c5 => ?_) (fun c5 => ?_)
    · replace h := sx_ifp h c5
      refine lv_aload_n hx hb dX8_restore_37 rfl (lv_at hl 0 rfl) ?_
      refine gf_X8_25 X hP (by decide) dX8_restore_38 ?_
      refine lv_sipush (v := (247 : Int32)) hx hb dX8_restore_41 (by decide) ?_
      refine lv_iload_n hx hb dX8_restore_44 rfl (lv_at hl 1 rfl) ?_
      refine lv_imul hx hb dX8_restore_45 ?_
      refine lv_aload_n hx hb dX8_restore_46 rfl (lv_at hl 0 rfl) ?_
      refine gf_X8_16 X hP (by decide) dX8_restore_47 ?_
      refine lv_iconst (v := (0 : Int32)) hx hb dX8_restore_50 (by decide) ?_
      refine lv_sipush (v := (247 : Int32)) hx hb dX8_restore_51 (by decide) ?_
      obtain ⟨M6, e_M6, h⟩ := sx_bnd h
      refine cl_X8_56 X hG hP hz hS sx_row23 sx_row20 e_M6 hl.1 dX8_restore_54 hcs ⟨Nat.le_trans (by decide) hR.1, Nat.le_trans (by decide) hR.2⟩ (Nat.le_of_ble_eq_true rfl) (fun H locs hP hS => ?_)
      refine lv_aload_n hx hb dX8_restore_57 rfl (lv_at hl 0 rfl) ?_
      refine lv_iconst (v := (0 : Int32)) hx hb dX8_restore_58 (by decide) ?_
      refine pf_X8_53 X hG hP hS (by decide) dX8_restore_59 h (fun M7 H locs h hP hS => ?_)
      refine lv_aload_n hx hb dX8_restore_62 rfl (lv_at hl 0 rfl) ?_
      refine gf_X8_16 X hP (by decide) dX8_restore_63 ?_
      refine lv_iconst (v := (0 : Int32)) hx hb dX8_restore_66 (by decide) ?_
      refine sx_iald X hP 20 0 247 (by decide) (fun _ _ => rfl) dX8_restore_67 h (fun v8 h => ?_)
      refine lv_aload_n hx hb dX8_restore_68 rfl (lv_at hl 0 rfl) ?_
      refine gf_X8_16 X hP (by decide) dX8_restore_69 ?_
      refine lv_iconst (v := (1 : Int32)) hx hb dX8_restore_72 (by decide) ?_
      refine sx_iald X hP 20 0 247 (by decide) (fun _ _ => rfl) dX8_restore_73 h (fun v9 h => ?_)
      refine lv_isub hx hb dX8_restore_74 ?_
      exact sx_iretM X hr hlocks hS hP h dX8_restore_75
    · replace h := sx_ifn h c5
      refine lv_iconst (v := (0 : Int32)) hx hb dX8_restore_35 (by decide) ?_
      exact sx_iretM X hr hlocks hS hP h dX8_restore_36
  clear e_j29
  refine lv_if_ne (tgt := 15) hx hb dX8_restore_8 (by decide) (fun c10 => ?_) (fun c10 => ?_)
  · replace h := sx_ifn h c10
    refine lv_aload_n hx hb dX8_restore_15 rfl (lv_at hl 0 rfl) ?_
    refine gf_X8_28 X hP (by decide) dX8_restore_16 ?_
    refine lv_iload_n hx hb dX8_restore_19 rfl (lv_at hl 1 rfl) ?_
    refine sx_zald X hP 24 0 2 (by decide) (fun _ _ => rfl) dX8_restore_20 h (fun v11 h => ?_)
    refine lv_if_eq (tgt := 28) hx hb dX8_restore_21 (by decide) (fun c12 => ?_) (fun c12 => ?_)
    · replace h := sx_ifp h c12
      refine lv_iconst (v := (2 : Int32)) hx hb dX8_restore_28 (by decide) ?_
      exact hj29 (2 : Int32) H locs ls (lv_sub hl [0, 1] rfl) hP hS h
    · replace h := sx_ifn h c12
      refine lv_iconst (v := (0 : Int32)) hx hb dX8_restore_24 (by decide) ?_
      refine lv_goto (tgt := 29) hx hb dX8_restore_25 (by decide) ?_
      exact hj29 (0 : Int32) H locs ls (lv_sub hl [0, 1] rfl) hP hS h
  · replace h := sx_ifp h c10
    refine lv_iconst (v := (1 : Int32)) hx hb dX8_restore_11 (by decide) ?_
    refine lv_goto (tgt := 29) hx hb dX8_restore_12 (by decide) ?_
    exact hj29 (1 : Int32) H locs ls (lv_sub hl [0, 1] rfl) hP hS h
set_option maxRecDepth 100000 in
theorem ct_8_restore (l : Launch) (C : sx_C) (hG : sx_G C) (a1 : Int32) (M0 : sx_M) (r : Int32) (M' : sx_M) (h : f8_restore a1 M0 = some (r, M')) : Met l yX8_restore (.code yX8_restore cX8_restore 2 (some .int) :: sx_T) ({ frames := 1, cells := 0, slots := 0, locals := 25 } : Room) (sx_Pc C M0 [.ref (sx_ad C 17 0), .int a1]) (sx_Q C (some (.int r)) M') 0 0 (sx_A C) := by
  refine Met.ofW (cc := cX8_restore) (maxL := 2) (ret := (some .int)) (by decide) rfl ?_
  intro p e s m args below meth c s₁ B hml hv
  obtain ⟨rfl, hz, hP, hK⟩ := hv
  have hl := lv_entry ([.ref (sx_ad C 17 0), .int a1]) (n := 2) (Nat.le_of_ble_eq_true rfl)
  rw [lg_entry_eq]
  generalize (lg_sl ([.ref (sx_ad C 17 0), .int a1]) ++ List.replicate (2 - (lg_sl ([.ref (sx_ad C 17 0), .int a1])).length) Slot.unset).toArray = ls at hl ⊢
  exact wk_8_restore ⟨B.exec, B.bytes, hml, findClass_of_methodNamed B.named, fun w hw => atoms_spec B.pre w (List.mem_cons_of_mem _ hw), hK⟩ B.returns B.notSynchronized hG hz ⟨Nat.zero_le _, Nat.zero_le _⟩ ⟨Nat.le_refl _, Nat.le_refl _⟩ a1 M0 r M' h hl hP va_S.rf
theorem cl_L_195 (X : sx_X C p m c cc nL s args RL) (hG : sx_G C) (hP : sx_W C M0 H) (hz : sx_sz C ≤ H0.size) (hS : va_S (sx_A C) H0 H locs) {a1 : Int32} {r : Int32} {M' : sx_M} (h : f8_restore a1 M0 = some (r, M')) (hsz : ls.size = nL) (hdg : decode cc pc = .ok (.invokevirtual 195, 3)) (hcs : cells ≤ R.cells ∧ slots ≤ R.slots) (hR : 1 + 1 ≤ R.frames ∧ 8 + (2 + 11) + 25 ≤ R.locals) (hrest : (rest.map fun v => v.category).sum ≤ 8) (kk : ∀ (H1 : Heap) (locs1 : List Loc), sx_W C M' H1 → va_S (sx_A C) H0 H1 locs1 → W p l e R s m args below meth c H1 locs1 cells slots Q (F0 m (pc + 3) ls ((.int r) :: rest))) : W p l e R s m args below meth c H locs cells slots Q (F0 m pc ls (.int a1 :: .ref (sx_ad C 17 0) :: rest)) :=
  sx_callV (n := 1) (As := [.int a1]) (k0 := 17) (s0 := 0) X hP hz hS (by decide) rfl rfl (sx_goodV tw_1372 tw_1373 tw_1374 tw_71 tw_1375) (by decide +kernel) rfl rfl hR (ct_8_restore l C hG a1 M0 r M' h) rfl rfl hrest hsz hdg hcs kk
end SXM
