section SXM
variable {p : Program} {l : Launch} {e : Env} {R : Room} {s : State} {m : MethodId} {args : Array Value} {below : List Frame} {meth : Method} {c : Code} {H : Heap} {locs : List Loc} {cells slots : Nat} {Q : State → Prop}
variable {O : Type} {out : O} {C : sx_C} {M M0 : sx_M} {cc : ByteArray} {nL : Nat} {own : String} {pc : Nat} {ls : Array Slot} {rest : List Value} {H0 : Heap}
-- StringShed.clearText()I
def f7_clearText  (M0 : sx_M) : Option (Int32 × sx_M) :=
  sx_b2 (f6_empty M0) fun v1 M2 =>
  some (v1, M2)
set_option maxRecDepth 100000 in
set_option maxHeartbeats 4000000 in
theorem wk_7_clearText (X : sx_X C p m c cX7_clearText 1 s args RX7) (hr : meth.sig.returnType = (some .int)) (hlocks : meth.locks = false) (hG : sx_G C) (hz : sx_sz C ≤ s.heap.size) (hcs : 0 ≤ R.cells ∧ 0 ≤ R.slots) (hR : 1 ≤ R.frames ∧ 21 ≤ R.locals) (M0 : sx_M) (r : Int32) (M' : sx_M) (h : f7_clearText M0 = some (r, M')) (hl : lv_has ls 1 [(0, .ref (sx_ad C 0 0))]) (hP : sx_W C M0 H) (hS : va_S (sx_A C) s.heap H locs) : W p l e R s m args below meth c H locs 0 0 (sx_Z C (some (.int r)) M' below args s) (F0 m 0 ls []) := by
  obtain ⟨hx, hb, hml, hown, hts, hK⟩ := id X
  rw [f7_clearText] at h
  refine lv_aload_n hx hb dX7_clearText_0 rfl (lv_at hl 0 rfl) ?_
  refine gf_X7_37 X hP (by decide) dX7_clearText_1 ?_
  obtain ⟨v1, M2, e_v1, h⟩ := sx_bnd2 h
  refine cl_X7_68 X hG hP hz hS  e_v1 hl.1 dX7_clearText_4 hcs ⟨Nat.le_trans (by decide) hR.1, Nat.le_trans (by decide) hR.2⟩ (Nat.le_of_ble_eq_true rfl) (fun H locs hP hS => ?_)
  exact sx_iretM X hr hlocks hS hP h dX7_clearText_7
set_option maxRecDepth 100000 in
theorem ct_7_clearText (l : Launch) (C : sx_C) (hG : sx_G C) (M0 : sx_M) (r : Int32) (M' : sx_M) (h : f7_clearText M0 = some (r, M')) : Met l yX7_clearText (.code yX7_clearText cX7_clearText 1 (some .int) :: sx_T) ({ frames := 1, cells := 0, slots := 0, locals := 21 } : Room) (sx_Pc C M0 [.ref (sx_ad C 0 0)]) (sx_Q C (some (.int r)) M') 0 0 (sx_A C) := by
  refine Met.ofW (cc := cX7_clearText) (maxL := 1) (ret := (some .int)) (by decide) rfl ?_
  intro p e s m args below meth c s₁ B hml hv
  obtain ⟨rfl, hz, hP, hK⟩ := hv
  have hl := lv_entry ([.ref (sx_ad C 0 0)]) (n := 1) (Nat.le_of_ble_eq_true rfl)
  rw [lg_entry_eq]
  generalize (lg_sl ([.ref (sx_ad C 0 0)]) ++ List.replicate (1 - (lg_sl ([.ref (sx_ad C 0 0)])).length) Slot.unset).toArray = ls at hl ⊢
  exact wk_7_clearText ⟨B.exec, B.bytes, hml, findClass_of_methodNamed B.named, fun w hw => atoms_spec B.pre w (List.mem_cons_of_mem _ hw), hK⟩ B.returns B.notSynchronized hG hz ⟨Nat.zero_le _, Nat.zero_le _⟩ ⟨Nat.le_refl _, Nat.le_refl _⟩ M0 r M' h hl hP va_S.rf
theorem cl_L_101 (X : sx_X C p m c cc nL s args RL) (hG : sx_G C) (hP : sx_W C M0 H) (hz : sx_sz C ≤ H0.size) (hS : va_S (sx_A C) H0 H locs) {r : Int32} {M' : sx_M} (h : f7_clearText M0 = some (r, M')) (hsz : ls.size = nL) (hdg : decode cc pc = .ok (.invokevirtual 101, 3)) (hcs : cells ≤ R.cells ∧ slots ≤ R.slots) (hR : 1 + 1 ≤ R.frames ∧ 8 + (1 + 11) + 21 ≤ R.locals) (hrest : (rest.map fun v => v.category).sum ≤ 8) (kk : ∀ (H1 : Heap) (locs1 : List Loc), sx_W C M' H1 → va_S (sx_A C) H0 H1 locs1 → W p l e R s m args below meth c H1 locs1 cells slots Q (F0 m (pc + 3) ls ((.int r) :: rest))) : W p l e R s m args below meth c H locs cells slots Q (F0 m pc ls (.ref (sx_ad C 0 0) :: rest)) :=
  sx_callV (n := 0) (As := []) (k0 := 0) (s0 := 0) X hP hz hS (by decide) rfl rfl (sx_goodV tw_233 tw_234 tw_235 tw_64 tw_236) (by decide +kernel) rfl rfl hR (ct_7_clearText l C hG M0 r M' h) rfl rfl hrest hsz hdg hcs kk
-- StringShed.errorPosition()I pure
def f7_errorPosition  (M0 : sx_M) : Option (Int32) :=
  (f6_firstError M0).bind fun v1 =>
  some v1
set_option maxRecDepth 100000 in
set_option maxHeartbeats 4000000 in
theorem wk_7_errorPosition (X : sx_X C p m c cX7_errorPosition 1 s args RX7) (hr : meth.sig.returnType = (some .int)) (hlocks : meth.locks = false) (hG : sx_G C) (hz : sx_sz C ≤ s.heap.size) (hcs : 0 ≤ R.cells ∧ 0 ≤ R.slots) (hR : 4 ≤ R.frames ∧ 88 ≤ R.locals) (M0 : sx_M) (r : Int32) (h : f7_errorPosition M0 = some r) (hl : lv_has ls 1 [(0, .ref (sx_ad C 0 0))]) (hP : sx_W C M0 H) (hS : va_S (sx_A C) s.heap H locs) : W p l e R s m args below meth c H locs 0 0 (sx_Z C (some (.int r)) M0 below args s) (F0 m 0 ls []) := by
  obtain ⟨hx, hb, hml, hown, hts, hK⟩ := id X
  rw [f7_errorPosition] at h
  refine lv_aload_n hx hb dX7_errorPosition_0 rfl (lv_at hl 0 rfl) ?_
  refine gf_X7_37 X hP (by decide) dX7_errorPosition_1 ?_
  obtain ⟨v1, e_v1, h⟩ := sx_bnd h
  refine cl_X7_72 X hG hP hz hS  e_v1 hl.1 dX7_errorPosition_4 hcs ⟨Nat.le_trans (by decide) hR.1, Nat.le_trans (by decide) hR.2⟩ (Nat.le_of_ble_eq_true rfl) (fun H locs hP hS => ?_)
  exact sx_iret X hr hlocks hS hP h dX7_errorPosition_7
set_option maxRecDepth 100000 in
theorem ct_7_errorPosition (l : Launch) (C : sx_C) (hG : sx_G C) (M0 : sx_M) (r : Int32) (h : f7_errorPosition M0 = some r) : Met l yX7_errorPosition (.code yX7_errorPosition cX7_errorPosition 1 (some .int) :: sx_T) ({ frames := 4, cells := 0, slots := 0, locals := 88 } : Room) (sx_Pc C M0 [.ref (sx_ad C 0 0)]) (sx_Q C (some (.int r)) M0) 0 0 (sx_A C) := by
  refine Met.ofW (cc := cX7_errorPosition) (maxL := 1) (ret := (some .int)) (by decide) rfl ?_
  intro p e s m args below meth c s₁ B hml hv
  obtain ⟨rfl, hz, hP, hK⟩ := hv
  have hl := lv_entry ([.ref (sx_ad C 0 0)]) (n := 1) (Nat.le_of_ble_eq_true rfl)
  rw [lg_entry_eq]
  generalize (lg_sl ([.ref (sx_ad C 0 0)]) ++ List.replicate (1 - (lg_sl ([.ref (sx_ad C 0 0)])).length) Slot.unset).toArray = ls at hl ⊢
  exact wk_7_errorPosition ⟨B.exec, B.bytes, hml, findClass_of_methodNamed B.named, fun w hw => atoms_spec B.pre w (List.mem_cons_of_mem _ hw), hK⟩ B.returns B.notSynchronized hG hz ⟨Nat.zero_le _, Nat.zero_le _⟩ ⟨Nat.le_refl _, Nat.le_refl _⟩ M0 r h hl hP va_S.rf
theorem cl_L_105 (X : sx_X C p m c cc nL s args RL) (hG : sx_G C) (hP : sx_W C M0 H) (hz : sx_sz C ≤ H0.size) (hS : va_S (sx_A C) H0 H locs) {r : Int32} (h : f7_errorPosition M0 = some r) (hsz : ls.size = nL) (hdg : decode cc pc = .ok (.invokevirtual 105, 3)) (hcs : cells ≤ R.cells ∧ slots ≤ R.slots) (hR : 4 + 1 ≤ R.frames ∧ 8 + (1 + 11) + 88 ≤ R.locals) (hrest : (rest.map fun v => v.category).sum ≤ 8) (kk : ∀ (H1 : Heap) (locs1 : List Loc), sx_W C M0 H1 → va_S (sx_A C) H0 H1 locs1 → W p l e R s m args below meth c H1 locs1 cells slots Q (F0 m (pc + 3) ls ((.int r) :: rest))) : W p l e R s m args below meth c H locs cells slots Q (F0 m pc ls (.ref (sx_ad C 0 0) :: rest)) :=
  sx_callV (n := 0) (As := []) (k0 := 0) (s0 := 0) X hP hz hS (by decide) rfl rfl (sx_goodV tw_241 tw_242 tw_243 tw_64 tw_244) (by decide +kernel) rfl rfl hR (ct_7_errorPosition l C hG M0 r h) rfl rfl hrest hsz hdg hcs kk
-- StringShed.heaviest()I pure
def f7_heaviest_L6 (M0 : sx_M) : Nat → Int32 → Int32 → Int32 → Option (Int32)
  | 0, _, _, _ => none
  | n + 1, x1, x2, x3 =>
    (f4_size 0 M0).bind fun v1 =>
    if v1 ≤ x3 then
      (f4_codeAt 0 x1 M0).bind fun v3 =>
      some v3
    else
      (f3_weightUnder 0 x3 M0).bind fun v4 =>
      sx_bd (fun (v5 : Int32) (v6 : Int32) =>
        sx_bd (x3 + (1 : Int32)) fun v7 =>
        f7_heaviest_L6 M0 n v5 v6 v7) fun j41 =>
      if v4 ≤ x2 then
        j41 x1 x2
      else
        j41 x3 v4
def f7_heaviest  (M0 : sx_M) : Option (Int32) :=
  f7_heaviest_L6 M0
    5000 (-1 : Int32) (-1 : Int32) (0 : Int32)
set_option maxRecDepth 100000 in
set_option maxHeartbeats 4000000 in
theorem wk_7_heaviest (X : sx_X C p m c cX7_heaviest 5 s args RX7) (hr : meth.sig.returnType = (some .int)) (hlocks : meth.locks = false) (hG : sx_G C) (hz : sx_sz C ≤ s.heap.size) (hcs : 0 ≤ R.cells ∧ 0 ≤ R.slots) (hR : 3 ≤ R.frames ∧ 67 ≤ R.locals) (M0 : sx_M) (r : Int32) (h : f7_heaviest M0 = some r) (hl : lv_has ls 5 [(0, .ref (sx_ad C 0 0))]) (hP : sx_W C M0 H) (hS : va_S (sx_A C) s.heap H locs) : W p l e R s m args below meth c H locs 0 0 (sx_Z C (some (.int r)) M0 below args s) (F0 m 0 ls []) := by
  obtain ⟨hx, hb, hml, hown, hts, hK⟩ := id X
  rw [f7_heaviest] at h
  have hf7_heaviest_L6 : ∀ (n : Nat) (x1 : Int32) (x2 : Int32) (x3 : Int32) (H : Heap) (locs : List Loc) (ls : Array Slot), lv_has ls 5 [(0, .ref (sx_ad C 0 0)), (1, .int x1), (2, .int x2), (3, .int x3)] → sx_W C M0 H → va_S (sx_A C) s.heap H locs → f7_heaviest_L6 M0 n x1 x2 x3 = some r → W p l e R s m args below meth c H locs 0 0 (sx_Z C (some (.int r)) M0 below args s) (F0 m 6 ls []) := by
    intro n
    induction n with
    | zero => intro x1 x2 x3 H locs ls hl hP hS h; exact absurd (show (none : Option (Int32)) = some r from h) (fun q => nomatch q)
    | succ n ih =>
      intro x1 x2 x3 H locs ls hl hP hS h
      rw [f7_heaviest_L6] at h
      refine lv_iload_n hx hb dX7_heaviest_6 rfl (lv_at hl 3 rfl) ?_
      refine lv_aload_n hx hb dX7_heaviest_7 rfl (lv_at hl 0 rfl) ?_
      refine gf_X7_12 X hP (by decide) dX7_heaviest_8 ?_
      refine gf_X7_115 X hP (by decide) dX7_heaviest_11 ?_
      obtain ⟨v1, e_v1, h⟩ := sx_bnd h
      refine cl_X7_178 X hG hP hz hS (by decide) e_v1 hl.1 dX7_heaviest_14 hcs ⟨Nat.le_trans (by decide) hR.1, Nat.le_trans (by decide) hR.2⟩ (Nat.le_of_ble_eq_true rfl) (fun H locs hP hS => ?_)
      refine lv_icmp_ge (tgt := 47) hx hb dX7_heaviest_17 (by decide) (fun c2 => ?_) (fun c2 => ?_)
      · replace h := sx_ifp h c2
        refine lv_aload_n hx hb dX7_heaviest_47 rfl (lv_at hl 0 rfl) ?_
        refine gf_X7_12 X hP (by decide) dX7_heaviest_48 ?_
        refine gf_X7_115 X hP (by decide) dX7_heaviest_51 ?_
        refine lv_iload_n hx hb dX7_heaviest_54 rfl (lv_at hl 1 rfl) ?_
        obtain ⟨v3, e_v3, h⟩ := sx_bnd h
        refine cl_X7_129 X hG hP hz hS (by decide) e_v3 hl.1 dX7_heaviest_55 hcs ⟨Nat.le_trans (by decide) hR.1, Nat.le_trans (by decide) hR.2⟩ (Nat.le_of_ble_eq_true rfl) (fun H locs hP hS => ?_)
        exact sx_iret X hr hlocks hS hP h dX7_heaviest_58
      · replace h := sx_ifn h c2
        refine lv_aload_n hx hb dX7_heaviest_20 rfl (lv_at hl 0 rfl) ?_
        refine gf_X7_12 X hP (by decide) dX7_heaviest_21 ?_
        refine lv_iload_n hx hb dX7_heaviest_24 rfl (lv_at hl 3 rfl) ?_
        obtain ⟨v4, e_v4, h⟩ := sx_bnd h
        refine cl_X7_165 X hG hP hz hS (by decide) e_v4 hl.1 dX7_heaviest_25 hcs ⟨Nat.le_trans (by decide) hR.1, Nat.le_trans (by decide) hR.2⟩ (Nat.le_of_ble_eq_true rfl) (fun H locs hP hS => ?_)
        refine lv_istore (lv' := [(4, .int v4), (0, .ref (sx_ad C 0 0)), (1, .int x1), (2, .int x2), (3, .int x3)]) hx hb dX7_heaviest_28 hl (by decide) rfl (fun ls hl => ?_)
        refine lv_iload hx hb dX7_heaviest_30 (lv_at hl 0 rfl) ?_
        refine lv_iload_n hx hb dX7_heaviest_32 rfl (lv_at hl 3 rfl) ?_
        obtain ⟨j41, e_j41, h⟩ := sx_nm h
        have hj41 : ∀ (v5 : Int32) (v6 : Int32) (H : Heap) (locs : List Loc) (ls : Array Slot), lv_has ls 5 [(0, .ref (sx_ad C 0 0)), (1, .int v5), (2, .int v6), (3, .int x3)] → sx_W C M0 H → va_S (sx_A C) s.heap H locs → j41 v5 v6 = some r → W p l e R s m args below meth c H locs 0 0 (sx_Z C (some (.int r)) M0 below args s) (F0 m 41 ls []) := by
          intro v5 v6 H locs ls hl hP hS h
          subst e_j41
          obtain ⟨v7, e_v7, h⟩ := sx_nm h
          refine lv_iinc (v := v7) (lv' := [(3, .int v7), (0, .ref (sx_ad C 0 0)), (1, .int v5), (2, .int v6)]) hx hb dX7_heaviest_41 hl (k := 3) rfl (by rw [← e_v7]; rfl) (by decide) rfl (fun ls hl => ?_)
          refine lv_goto (tgt := 6) hx hb dX7_heaviest_44 (by decide) ?_
          exact ih v5 v6 v7 H locs ls (lv_sub hl [1, 2, 3, 0] rfl) hP hS h
        clear e_j41
        refine lv_icmp_le (tgt := 41) hx hb dX7_heaviest_33 (by decide) (fun c8 => ?_) (fun c8 => ?_)
        · replace h := sx_ifp h c8
          exact hj41 x1 x2 H locs ls (lv_sub hl [1, 2, 3, 4] rfl) hP hS h
        · replace h := sx_ifn h c8
          refine lv_iload hx hb dX7_heaviest_36 (lv_at hl 0 rfl) ?_
          refine lv_istore_n (lv' := [(2, .int v4), (4, .int v4), (0, .ref (sx_ad C 0 0)), (1, .int x1), (3, .int x3)]) hx hb dX7_heaviest_38 rfl hl (by decide) rfl (fun ls hl => ?_)
          refine lv_iload_n hx hb dX7_heaviest_39 rfl (lv_at hl 4 rfl) ?_
          refine lv_istore_n (lv' := [(1, .int x3), (2, .int v4), (4, .int v4), (0, .ref (sx_ad C 0 0)), (3, .int x3)]) hx hb dX7_heaviest_40 rfl hl (by decide) rfl (fun ls hl => ?_)
          exact hj41 x3 v4 H locs ls (lv_sub hl [3, 0, 1, 4] rfl) hP hS h
  refine lv_iconst (v := (-1 : Int32)) hx hb dX7_heaviest_0 (by decide) ?_
  refine lv_istore_n (lv' := [(1, .int (-1 : Int32)), (0, .ref (sx_ad C 0 0))]) hx hb dX7_heaviest_1 rfl hl (by decide) rfl (fun ls hl => ?_)
  refine lv_iconst (v := (-1 : Int32)) hx hb dX7_heaviest_2 (by decide) ?_
  refine lv_istore_n (lv' := [(2, .int (-1 : Int32)), (1, .int (-1 : Int32)), (0, .ref (sx_ad C 0 0))]) hx hb dX7_heaviest_3 rfl hl (by decide) rfl (fun ls hl => ?_)
  refine lv_iconst (v := (0 : Int32)) hx hb dX7_heaviest_4 (by decide) ?_
  refine lv_istore_n (lv' := [(3, .int (0 : Int32)), (2, .int (-1 : Int32)), (1, .int (-1 : Int32)), (0, .ref (sx_ad C 0 0))]) hx hb dX7_heaviest_5 rfl hl (by decide) rfl (fun ls hl => ?_)
  exact hf7_heaviest_L6 5000 (-1 : Int32) (-1 : Int32) (0 : Int32) H locs ls (lv_sub hl [3, 2, 1, 0] rfl) hP hS h
set_option maxRecDepth 100000 in
theorem ct_7_heaviest (l : Launch) (C : sx_C) (hG : sx_G C) (M0 : sx_M) (r : Int32) (h : f7_heaviest M0 = some r) : Met l yX7_heaviest (.code yX7_heaviest cX7_heaviest 5 (some .int) :: sx_T) ({ frames := 3, cells := 0, slots := 0, locals := 67 } : Room) (sx_Pc C M0 [.ref (sx_ad C 0 0)]) (sx_Q C (some (.int r)) M0) 0 0 (sx_A C) := by
  refine Met.ofW (cc := cX7_heaviest) (maxL := 5) (ret := (some .int)) (by decide) rfl ?_
  intro p e s m args below meth c s₁ B hml hv
  obtain ⟨rfl, hz, hP, hK⟩ := hv
  have hl := lv_entry ([.ref (sx_ad C 0 0)]) (n := 5) (Nat.le_of_ble_eq_true rfl)
  rw [lg_entry_eq]
  generalize (lg_sl ([.ref (sx_ad C 0 0)]) ++ List.replicate (5 - (lg_sl ([.ref (sx_ad C 0 0)])).length) Slot.unset).toArray = ls at hl ⊢
  exact wk_7_heaviest ⟨B.exec, B.bytes, hml, findClass_of_methodNamed B.named, fun w hw => atoms_spec B.pre w (List.mem_cons_of_mem _ hw), hK⟩ B.returns B.notSynchronized hG hz ⟨Nat.zero_le _, Nat.zero_le _⟩ ⟨Nat.le_refl _, Nat.le_refl _⟩ M0 r h hl hP va_S.rf
theorem cl_L_161 (X : sx_X C p m c cc nL s args RL) (hG : sx_G C) (hP : sx_W C M0 H) (hz : sx_sz C ≤ H0.size) (hS : va_S (sx_A C) H0 H locs) {r : Int32} (h : f7_heaviest M0 = some r) (hsz : ls.size = nL) (hdg : decode cc pc = .ok (.invokevirtual 161, 3)) (hcs : cells ≤ R.cells ∧ slots ≤ R.slots) (hR : 3 + 1 ≤ R.frames ∧ 8 + (5 + 11) + 67 ≤ R.locals) (hrest : (rest.map fun v => v.category).sum ≤ 8) (kk : ∀ (H1 : Heap) (locs1 : List Loc), sx_W C M0 H1 → va_S (sx_A C) H0 H1 locs1 → W p l e R s m args below meth c H1 locs1 cells slots Q (F0 m (pc + 3) ls ((.int r) :: rest))) : W p l e R s m args below meth c H locs cells slots Q (F0 m pc ls (.ref (sx_ad C 0 0) :: rest)) :=
  sx_callV (n := 0) (As := []) (k0 := 0) (s0 := 0) X hP hz hS (by decide) rfl rfl (sx_goodV tw_261 tw_262 tw_263 tw_64 tw_264) (by decide +kernel) rfl rfl hR (ct_7_heaviest l C hG M0 r h) rfl rfl hrest hsz hdg hcs kk
-- StringShed.rings()I pure
def f7_rings  (M0 : sx_M) : Option (Int32) :=
  (f3_partsOnRings 0 M0).bind fun v1 =>
  some v1
set_option maxRecDepth 100000 in
set_option maxHeartbeats 4000000 in
theorem wk_7_rings (X : sx_X C p m c cX7_rings 1 s args RX7) (hr : meth.sig.returnType = (some .int)) (hlocks : meth.locks = false) (hG : sx_G C) (hz : sx_sz C ≤ s.heap.size) (hcs : 0 ≤ R.cells ∧ 0 ≤ R.slots) (hR : 3 ≤ R.frames ∧ 71 ≤ R.locals) (M0 : sx_M) (r : Int32) (h : f7_rings M0 = some r) (hl : lv_has ls 1 [(0, .ref (sx_ad C 0 0))]) (hP : sx_W C M0 H) (hS : va_S (sx_A C) s.heap H locs) : W p l e R s m args below meth c H locs 0 0 (sx_Z C (some (.int r)) M0 below args s) (F0 m 0 ls []) := by
  obtain ⟨hx, hb, hml, hown, hts, hK⟩ := id X
  rw [f7_rings] at h
  refine lv_aload_n hx hb dX7_rings_0 rfl (lv_at hl 0 rfl) ?_
  refine gf_X7_12 X hP (by decide) dX7_rings_1 ?_
  obtain ⟨v1, e_v1, h⟩ := sx_bnd h
  refine cl_X7_179 X hG hP hz hS (by decide) e_v1 hl.1 dX7_rings_4 hcs ⟨Nat.le_trans (by decide) hR.1, Nat.le_trans (by decide) hR.2⟩ (Nat.le_of_ble_eq_true rfl) (fun H locs hP hS => ?_)
  exact sx_iret X hr hlocks hS hP h dX7_rings_7
set_option maxRecDepth 100000 in
theorem ct_7_rings (l : Launch) (C : sx_C) (hG : sx_G C) (M0 : sx_M) (r : Int32) (h : f7_rings M0 = some r) : Met l yX7_rings (.code yX7_rings cX7_rings 1 (some .int) :: sx_T) ({ frames := 3, cells := 0, slots := 0, locals := 71 } : Room) (sx_Pc C M0 [.ref (sx_ad C 0 0)]) (sx_Q C (some (.int r)) M0) 0 0 (sx_A C) := by
  refine Met.ofW (cc := cX7_rings) (maxL := 1) (ret := (some .int)) (by decide) rfl ?_
  intro p e s m args below meth c s₁ B hml hv
  obtain ⟨rfl, hz, hP, hK⟩ := hv
  have hl := lv_entry ([.ref (sx_ad C 0 0)]) (n := 1) (Nat.le_of_ble_eq_true rfl)
  rw [lg_entry_eq]
  generalize (lg_sl ([.ref (sx_ad C 0 0)]) ++ List.replicate (1 - (lg_sl ([.ref (sx_ad C 0 0)])).length) Slot.unset).toArray = ls at hl ⊢
  exact wk_7_rings ⟨B.exec, B.bytes, hml, findClass_of_methodNamed B.named, fun w hw => atoms_spec B.pre w (List.mem_cons_of_mem _ hw), hK⟩ B.returns B.notSynchronized hG hz ⟨Nat.zero_le _, Nat.zero_le _⟩ ⟨Nat.le_refl _, Nat.le_refl _⟩ M0 r h hl hP va_S.rf
theorem cl_L_165 (X : sx_X C p m c cc nL s args RL) (hG : sx_G C) (hP : sx_W C M0 H) (hz : sx_sz C ≤ H0.size) (hS : va_S (sx_A C) H0 H locs) {r : Int32} (h : f7_rings M0 = some r) (hsz : ls.size = nL) (hdg : decode cc pc = .ok (.invokevirtual 165, 3)) (hcs : cells ≤ R.cells ∧ slots ≤ R.slots) (hR : 3 + 1 ≤ R.frames ∧ 8 + (1 + 11) + 71 ≤ R.locals) (hrest : (rest.map fun v => v.category).sum ≤ 8) (kk : ∀ (H1 : Heap) (locs1 : List Loc), sx_W C M0 H1 → va_S (sx_A C) H0 H1 locs1 → W p l e R s m args below meth c H1 locs1 cells slots Q (F0 m (pc + 3) ls ((.int r) :: rest))) : W p l e R s m args below meth c H locs cells slots Q (F0 m pc ls (.ref (sx_ad C 0 0) :: rest)) :=
  sx_callV (n := 0) (As := []) (k0 := 0) (s0 := 0) X hP hz hS (by decide) rfl rfl (sx_goodV tw_300 tw_301 tw_302 tw_64 tw_303) (by decide +kernel) rfl rfl hR (ct_7_rings l C hG M0 r h) rfl rfl hrest hsz hdg hcs kk
-- StringShed.takes()I
def f7_takes  (M0 : sx_M) : Option (Int32 × sx_M) :=
  (f3_copyFrom 1 0 M0).bind fun M1 =>
  (f3_finishSweep 1 M1).bind fun M2 =>
  (f3_swept 1 M2).bind fun v3 =>
  (f3_swept 0 M2).bind fun v4 =>
  some (v3 - v4, M2)
set_option maxRecDepth 100000 in
set_option maxHeartbeats 4000000 in
theorem wk_7_takes (X : sx_X C p m c cX7_takes 1 s args RX7) (hr : meth.sig.returnType = (some .int)) (hlocks : meth.locks = false) (hG : sx_G C) (hz : sx_sz C ≤ s.heap.size) (hcs : 0 ≤ R.cells ∧ 0 ≤ R.slots) (hR : 5 ≤ R.frames ∧ 109 ≤ R.locals) (M0 : sx_M) (r : Int32) (M' : sx_M) (h : f7_takes M0 = some (r, M')) (hl : lv_has ls 1 [(0, .ref (sx_ad C 0 0))]) (hP : sx_W C M0 H) (hS : va_S (sx_A C) s.heap H locs) : W p l e R s m args below meth c H locs 0 0 (sx_Z C (some (.int r)) M' below args s) (F0 m 0 ls []) := by
  obtain ⟨hx, hb, hml, hown, hts, hK⟩ := id X
  rw [f7_takes] at h
  refine lv_aload_n hx hb dX7_takes_0 rfl (lv_at hl 0 rfl) ?_
  refine gf_X7_16 X hP (by decide) dX7_takes_1 ?_
  refine lv_aload_n hx hb dX7_takes_4 rfl (lv_at hl 0 rfl) ?_
  refine gf_X7_12 X hP (by decide) dX7_takes_5 ?_
  obtain ⟨M1, e_M1, h⟩ := sx_bnd h
  refine cl_X7_182 X hG hP hz hS (by decide) (by decide) e_M1 hl.1 dX7_takes_8 hcs ⟨Nat.le_trans (by decide) hR.1, Nat.le_trans (by decide) hR.2⟩ (Nat.le_of_ble_eq_true rfl) (fun H locs hP hS => ?_)
  refine lv_aload_n hx hb dX7_takes_11 rfl (lv_at hl 0 rfl) ?_
  refine gf_X7_16 X hP (by decide) dX7_takes_12 ?_
  obtain ⟨M2, e_M2, h⟩ := sx_bnd h
  refine cl_X7_185 X hG hP hz hS (by decide) e_M2 hl.1 dX7_takes_15 hcs ⟨Nat.le_trans (by decide) hR.1, Nat.le_trans (by decide) hR.2⟩ (Nat.le_of_ble_eq_true rfl) (fun H locs hP hS => ?_)
  refine lv_aload_n hx hb dX7_takes_18 rfl (lv_at hl 0 rfl) ?_
  refine gf_X7_16 X hP (by decide) dX7_takes_19 ?_
  obtain ⟨v3, e_v3, h⟩ := sx_bnd h
  refine cl_X7_188 X hG hP hz hS (by decide) e_v3 hl.1 dX7_takes_22 hcs ⟨Nat.le_trans (by decide) hR.1, Nat.le_trans (by decide) hR.2⟩ (Nat.le_of_ble_eq_true rfl) (fun H locs hP hS => ?_)
  refine lv_aload_n hx hb dX7_takes_25 rfl (lv_at hl 0 rfl) ?_
  refine gf_X7_12 X hP (by decide) dX7_takes_26 ?_
  obtain ⟨v4, e_v4, h⟩ := sx_bnd h
  refine cl_X7_188 X hG hP hz hS (by decide) e_v4 hl.1 dX7_takes_29 hcs ⟨Nat.le_trans (by decide) hR.1, Nat.le_trans (by decide) hR.2⟩ (Nat.le_of_ble_eq_true rfl) (fun H locs hP hS => ?_)
  refine lv_isub hx hb dX7_takes_32 ?_
  exact sx_iretM X hr hlocks hS hP h dX7_takes_33
set_option maxRecDepth 100000 in
theorem ct_7_takes (l : Launch) (C : sx_C) (hG : sx_G C) (M0 : sx_M) (r : Int32) (M' : sx_M) (h : f7_takes M0 = some (r, M')) : Met l yX7_takes (.code yX7_takes cX7_takes 1 (some .int) :: sx_T) ({ frames := 5, cells := 0, slots := 0, locals := 109 } : Room) (sx_Pc C M0 [.ref (sx_ad C 0 0)]) (sx_Q C (some (.int r)) M') 0 0 (sx_A C) := by
  refine Met.ofW (cc := cX7_takes) (maxL := 1) (ret := (some .int)) (by decide) rfl ?_
  intro p e s m args below meth c s₁ B hml hv
  obtain ⟨rfl, hz, hP, hK⟩ := hv
  have hl := lv_entry ([.ref (sx_ad C 0 0)]) (n := 1) (Nat.le_of_ble_eq_true rfl)
  rw [lg_entry_eq]
  generalize (lg_sl ([.ref (sx_ad C 0 0)]) ++ List.replicate (1 - (lg_sl ([.ref (sx_ad C 0 0)])).length) Slot.unset).toArray = ls at hl ⊢
  exact wk_7_takes ⟨B.exec, B.bytes, hml, findClass_of_methodNamed B.named, fun w hw => atoms_spec B.pre w (List.mem_cons_of_mem _ hw), hK⟩ B.returns B.notSynchronized hG hz ⟨Nat.zero_le _, Nat.zero_le _⟩ ⟨Nat.le_refl _, Nat.le_refl _⟩ M0 r M' h hl hP va_S.rf
theorem cl_L_169 (X : sx_X C p m c cc nL s args RL) (hG : sx_G C) (hP : sx_W C M0 H) (hz : sx_sz C ≤ H0.size) (hS : va_S (sx_A C) H0 H locs) {r : Int32} {M' : sx_M} (h : f7_takes M0 = some (r, M')) (hsz : ls.size = nL) (hdg : decode cc pc = .ok (.invokevirtual 169, 3)) (hcs : cells ≤ R.cells ∧ slots ≤ R.slots) (hR : 5 + 1 ≤ R.frames ∧ 8 + (1 + 11) + 109 ≤ R.locals) (hrest : (rest.map fun v => v.category).sum ≤ 8) (kk : ∀ (H1 : Heap) (locs1 : List Loc), sx_W C M' H1 → va_S (sx_A C) H0 H1 locs1 → W p l e R s m args below meth c H1 locs1 cells slots Q (F0 m (pc + 3) ls ((.int r) :: rest))) : W p l e R s m args below meth c H locs cells slots Q (F0 m pc ls (.ref (sx_ad C 0 0) :: rest)) :=
  sx_callV (n := 0) (As := []) (k0 := 0) (s0 := 0) X hP hz hS (by decide) rfl rfl (sx_goodV tw_318 tw_319 tw_320 tw_64 tw_321) (by decide +kernel) rfl rfl hR (ct_7_takes l C hG M0 r M' h) rfl rfl hrest hsz hdg hcs kk
-- StringShed.spares()I
def f7_spares  (M0 : sx_M) : Option (Int32 × sx_M) :=
  (f5_isGoing 0 M0).bind fun v1 =>
  if v1 = 0 then
    some ((0 : Int32), M0)
  else
    (f3_copyFrom 1 0 M0).bind fun M3 =>
    (f3_finishSweep 1 M3).bind fun M4 =>
    (f3_parts 1 M4).bind fun v5 =>
    (f3_held 0 M4).bind fun v6 =>
    (fJ6_bitCount_0f7a4 (v5 &&& (v6 ^^^ (-1 : Int32))) M4).bind fun v7 =>
    some (v7, M4)
set_option maxRecDepth 100000 in
set_option maxHeartbeats 4000000 in
theorem wk_7_spares (X : sx_X C p m c cX7_spares 1 s args RX7) (hr : meth.sig.returnType = (some .int)) (hlocks : meth.locks = false) (hG : sx_G C) (hz : sx_sz C ≤ s.heap.size) (hcs : 0 ≤ R.cells ∧ 0 ≤ R.slots) (hR : 5 ≤ R.frames ∧ 109 ≤ R.locals) (M0 : sx_M) (r : Int32) (M' : sx_M) (h : f7_spares M0 = some (r, M')) (hl : lv_has ls 1 [(0, .ref (sx_ad C 0 0))]) (hP : sx_W C M0 H) (hS : va_S (sx_A C) s.heap H locs) : W p l e R s m args below meth c H locs 0 0 (sx_Z C (some (.int r)) M' below args s) (F0 m 0 ls []) := by
  obtain ⟨hx, hb, hml, hown, hts, hK⟩ := id X
  rw [f7_spares] at h
  refine lv_aload_n hx hb dX7_spares_0 rfl (lv_at hl 0 rfl) ?_
  refine gf_X7_12 X hP (by decide) dX7_spares_1 ?_
  refine gf_X7_191 X hP (by decide) dX7_spares_4 ?_
  obtain ⟨v1, e_v1, h⟩ := sx_bnd h
  refine cl_X7_195 X hG hP hz hS (by decide) e_v1 hl.1 dX7_spares_7 hcs ⟨Nat.le_trans (by decide) hR.1, Nat.le_trans (by decide) hR.2⟩ (Nat.le_of_ble_eq_true rfl) (fun H locs hP hS => ?_)
  refine lv_if_ne (tgt := 15) hx hb dX7_spares_10 (by decide) (fun c2 => ?_) (fun c2 => ?_)
  · replace h := sx_ifn h c2
    refine lv_aload_n hx hb dX7_spares_15 rfl (lv_at hl 0 rfl) ?_
    refine gf_X7_16 X hP (by decide) dX7_spares_16 ?_
    refine lv_aload_n hx hb dX7_spares_19 rfl (lv_at hl 0 rfl) ?_
    refine gf_X7_12 X hP (by decide) dX7_spares_20 ?_
    obtain ⟨M3, e_M3, h⟩ := sx_bnd h
    refine cl_X7_182 X hG hP hz hS (by decide) (by decide) e_M3 hl.1 dX7_spares_23 hcs ⟨Nat.le_trans (by decide) hR.1, Nat.le_trans (by decide) hR.2⟩ (Nat.le_of_ble_eq_true rfl) (fun H locs hP hS => ?_)
    refine lv_aload_n hx hb dX7_spares_26 rfl (lv_at hl 0 rfl) ?_
    refine gf_X7_16 X hP (by decide) dX7_spares_27 ?_
    obtain ⟨M4, e_M4, h⟩ := sx_bnd h
    refine cl_X7_185 X hG hP hz hS (by decide) e_M4 hl.1 dX7_spares_30 hcs ⟨Nat.le_trans (by decide) hR.1, Nat.le_trans (by decide) hR.2⟩ (Nat.le_of_ble_eq_true rfl) (fun H locs hP hS => ?_)
    refine lv_aload_n hx hb dX7_spares_33 rfl (lv_at hl 0 rfl) ?_
    refine gf_X7_16 X hP (by decide) dX7_spares_34 ?_
    obtain ⟨v5, e_v5, h⟩ := sx_bnd h
    refine cl_X7_200 X hG hP hz hS (by decide) e_v5 hl.1 dX7_spares_37 hcs ⟨Nat.le_trans (by decide) hR.1, Nat.le_trans (by decide) hR.2⟩ (Nat.le_of_ble_eq_true rfl) (fun H locs hP hS => ?_)
    refine lv_aload_n hx hb dX7_spares_40 rfl (lv_at hl 0 rfl) ?_
    refine gf_X7_12 X hP (by decide) dX7_spares_41 ?_
    obtain ⟨v6, e_v6, h⟩ := sx_bnd h
    refine cl_X7_203 X hG hP hz hS (by decide) e_v6 hl.1 dX7_spares_44 hcs ⟨Nat.le_trans (by decide) hR.1, Nat.le_trans (by decide) hR.2⟩ (Nat.le_of_ble_eq_true rfl) (fun H locs hP hS => ?_)
    refine lv_iconst (v := (-1 : Int32)) hx hb dX7_spares_47 (by decide) ?_
    refine lv_ixor hx hb dX7_spares_48 ?_
    refine lv_iand hx hb dX7_spares_49 ?_
    obtain ⟨v7, e_v7, h⟩ := sx_bnd h
    refine cl_X7_206 X hG hP hz hS  e_v7 hl.1 dX7_spares_50 hcs ⟨Nat.le_trans (by decide) hR.1, Nat.le_trans (by decide) hR.2⟩ (Nat.le_of_ble_eq_true rfl) (fun H locs hP hS => ?_)
    exact sx_iretM X hr hlocks hS hP h dX7_spares_53
  · replace h := sx_ifp h c2
    refine lv_iconst (v := (0 : Int32)) hx hb dX7_spares_13 (by decide) ?_
    exact sx_iretM X hr hlocks hS hP h dX7_spares_14
set_option maxRecDepth 100000 in
theorem ct_7_spares (l : Launch) (C : sx_C) (hG : sx_G C) (M0 : sx_M) (r : Int32) (M' : sx_M) (h : f7_spares M0 = some (r, M')) : Met l yX7_spares (.code yX7_spares cX7_spares 1 (some .int) :: sx_T) ({ frames := 5, cells := 0, slots := 0, locals := 109 } : Room) (sx_Pc C M0 [.ref (sx_ad C 0 0)]) (sx_Q C (some (.int r)) M') 0 0 (sx_A C) := by
  refine Met.ofW (cc := cX7_spares) (maxL := 1) (ret := (some .int)) (by decide) rfl ?_
  intro p e s m args below meth c s₁ B hml hv
  obtain ⟨rfl, hz, hP, hK⟩ := hv
  have hl := lv_entry ([.ref (sx_ad C 0 0)]) (n := 1) (Nat.le_of_ble_eq_true rfl)
  rw [lg_entry_eq]
  generalize (lg_sl ([.ref (sx_ad C 0 0)]) ++ List.replicate (1 - (lg_sl ([.ref (sx_ad C 0 0)])).length) Slot.unset).toArray = ls at hl ⊢
  exact wk_7_spares ⟨B.exec, B.bytes, hml, findClass_of_methodNamed B.named, fun w hw => atoms_spec B.pre w (List.mem_cons_of_mem _ hw), hK⟩ B.returns B.notSynchronized hG hz ⟨Nat.zero_le _, Nat.zero_le _⟩ ⟨Nat.le_refl _, Nat.le_refl _⟩ M0 r M' h hl hP va_S.rf
theorem cl_L_173 (X : sx_X C p m c cc nL s args RL) (hG : sx_G C) (hP : sx_W C M0 H) (hz : sx_sz C ≤ H0.size) (hS : va_S (sx_A C) H0 H locs) {r : Int32} {M' : sx_M} (h : f7_spares M0 = some (r, M')) (hsz : ls.size = nL) (hdg : decode cc pc = .ok (.invokevirtual 173, 3)) (hcs : cells ≤ R.cells ∧ slots ≤ R.slots) (hR : 5 + 1 ≤ R.frames ∧ 8 + (1 + 11) + 109 ≤ R.locals) (hrest : (rest.map fun v => v.category).sum ≤ 8) (kk : ∀ (H1 : Heap) (locs1 : List Loc), sx_W C M' H1 → va_S (sx_A C) H0 H1 locs1 → W p l e R s m args below meth c H1 locs1 cells slots Q (F0 m (pc + 3) ls ((.int r) :: rest))) : W p l e R s m args below meth c H locs cells slots Q (F0 m pc ls (.ref (sx_ad C 0 0) :: rest)) :=
  sx_callV (n := 0) (As := []) (k0 := 0) (s0 := 0) X hP hz hS (by decide) rfl rfl (sx_goodV tw_412 tw_413 tw_414 tw_64 tw_415) (by decide +kernel) rfl rfl hR (ct_7_spares l C hG M0 r M' h) rfl rfl hrest hsz hdg hcs kk
-- StringShed.takeTurn(I)V
def f7_takeTurn (a1 : Int32) (M0 : sx_M) : Option (sx_M) :=
  sx_bd ((a1 / (16 : Int32)) - (a1 / (16 : Int32)) / (24 : Int32) * (24 : Int32)) fun v1 =>
  sx_bd (((a1 / (512 : Int32)) - (a1 / (512 : Int32)) / (28 : Int32) * (28 : Int32)) - (4 : Int32)) fun v2 =>
  sx_bd (fun (M3 : sx_M) =>
    some M3) fun j185 =>
  if (a1 - a1 / (8 : Int32) * (8 : Int32)) = (0 : Int32) then
    sx_b2 (f3_attempt 1 (2 : Int32) v2 v1 (1 : Int32) M0) fun v5 M6 =>
    j185 M6
  else
  if (a1 - a1 / (8 : Int32) * (8 : Int32)) = (1 : Int32) then
    sx_b2 (f3_attempt 1 (2 : Int32) v2 v1 (1 : Int32) M0) fun v8 M9 =>
    j185 M9
  else
  if (a1 - a1 / (8 : Int32) * (8 : Int32)) = (2 : Int32) then
    sx_b2 (f3_attempt 1 (3 : Int32) v2 v1 (0 : Int32) M0) fun v11 M12 =>
    j185 M12
  else
  if (a1 - a1 / (8 : Int32) * (8 : Int32)) = (3 : Int32) then
    sx_b2 (f3_attempt 1 (4 : Int32) v2 v1 (0 : Int32) M0) fun v14 M15 =>
    j185 M15
  else
  if (a1 - a1 / (8 : Int32) * (8 : Int32)) = (4 : Int32) then
    sx_b2 (f3_attempt 1 (5 : Int32) v2 v1 (0 : Int32) M0) fun v17 M18 =>
    j185 M18
  else
  if (a1 - a1 / (8 : Int32) * (8 : Int32)) = (5 : Int32) then
    sx_bd (fun (v20 : Int32) =>
      sx_b2 (f3_attempt 1 (6 : Int32) (-9 : Int32) v1 v20 M0) fun v21 M22 =>
      j185 M22) fun j145 =>
    if ((a1 / (16384 : Int32)) - (a1 / (16384 : Int32)) / (2 : Int32) * (2 : Int32)) = (1 : Int32) then
      j145 (1 : Int32)
    else
      j145 (0 : Int32)
  else
    (f5_isGoing 1 M0).bind fun v24 =>
    sx_bd (fun (v25 : Int32) =>
      sx_b2 (f3_attempt 1 v25 (-9 : Int32) (-9 : Int32) (0 : Int32) M0) fun v26 M27 =>
      j185 M27) fun j176 =>
    if v24 = 0 then
      j176 (7 : Int32)
    else
      j176 (8 : Int32)
set_option maxRecDepth 100000 in
set_option maxHeartbeats 4000000 in
theorem wk_7_takeTurn (X : sx_X C p m c cX7_takeTurn 4 s args RX7) (hr : meth.sig.returnType = none) (hlocks : meth.locks = false) (hG : sx_G C) (hz : sx_sz C ≤ s.heap.size) (hcs : 0 ≤ R.cells ∧ 0 ≤ R.slots) (hR : 5 ≤ R.frames ∧ 118 ≤ R.locals) (a1 : Int32) (M0 : sx_M) (M' : sx_M) (h : f7_takeTurn a1 M0 = some M') (hl : lv_has ls 4 [(0, .ref (sx_ad C 0 0)), (1, .int a1)]) (hP : sx_W C M0 H) (hS : va_S (sx_A C) s.heap H locs) : W p l e R s m args below meth c H locs 0 0 (sx_Z C none M' below args s) (F0 m 0 ls []) := by
  obtain ⟨hx, hb, hml, hown, hts, hK⟩ := id X
  rw [f7_takeTurn] at h
  refine lv_iload_n hx hb dX7_takeTurn_0 rfl (lv_at hl 1 rfl) ?_
  refine lv_bipush (v := (16 : Int32)) hx hb dX7_takeTurn_1 (by decide) ?_
  refine lv_idiv hx hb dX7_takeTurn_3 (by decide) ?_
  refine lv_bipush (v := (24 : Int32)) hx hb dX7_takeTurn_4 (by decide) ?_
  refine lv_irem hx hb dX7_takeTurn_6 (by decide) ?_
  obtain ⟨v1, e_v1, h⟩ := sx_nm h
  rw [e_v1]
  refine lv_istore_n (lv' := [(2, .int v1), (0, .ref (sx_ad C 0 0)), (1, .int a1)]) hx hb dX7_takeTurn_7 rfl hl (by decide) rfl (fun ls hl => ?_)
  refine lv_iload_n hx hb dX7_takeTurn_8 rfl (lv_at hl 2 rfl) ?_
  refine lv_sipush (v := (512 : Int32)) hx hb dX7_takeTurn_9 (by decide) ?_
  refine lv_idiv hx hb dX7_takeTurn_12 (by decide) ?_
  refine lv_bipush (v := (28 : Int32)) hx hb dX7_takeTurn_13 (by decide) ?_
  refine lv_irem hx hb dX7_takeTurn_15 (by decide) ?_
  refine lv_iconst (v := (4 : Int32)) hx hb dX7_takeTurn_16 (by decide) ?_
  refine lv_isub hx hb dX7_takeTurn_17 ?_
  obtain ⟨v2, e_v2, h⟩ := sx_nm h
  rw [e_v2]
  refine lv_istore_n (lv' := [(3, .int v2), (2, .int v1), (0, .ref (sx_ad C 0 0)), (1, .int a1)]) hx hb dX7_takeTurn_18 rfl hl (by decide) rfl (fun ls hl => ?_)
  refine lv_iload_n hx hb dX7_takeTurn_19 rfl (lv_at hl 3 rfl) ?_
  refine lv_bipush (v := (8 : Int32)) hx hb dX7_takeTurn_20 (by decide) ?_
  refine lv_irem hx hb dX7_takeTurn_22 (by decide) ?_
  obtain ⟨j185, e_j185, h⟩ := sx_nm h
  have hj185 : ∀ (M3 : sx_M) (H : Heap) (locs : List Loc) (ls : Array Slot), lv_has ls 4 [] → sx_W C M3 H → va_S (sx_A C) s.heap H locs → j185 M3 = some M' → W p l e R s m args below meth c H locs 0 0 (sx_Z C none M' below args s) (F0 m 185 ls []) := by
    intro M3 H locs ls hl hP hS h
    subst e_j185
    exact sx_vret X hr hlocks hS hP h dX7_takeTurn_185
  clear e_j185
  by_cases c4 : (a1 - a1 / (8 : Int32) * (8 : Int32)) = (0 : Int32)
  · replace h := sx_ifp h c4
    refine lv_tableIn (tgt := 60) hx hb dX7_takeTurn_23 (by rw [c4]; decide) (by rw [c4]; decide) (by rw [c4]; rfl) (by decide) ?_
    refine lv_aload_n hx hb dX7_takeTurn_60 rfl (lv_at hl 2 rfl) ?_
    refine gf_X7_16 X hP (by decide) dX7_takeTurn_61 ?_
    refine lv_iconst (v := (2 : Int32)) hx hb dX7_takeTurn_64 (by decide) ?_
    refine lv_iload_n hx hb dX7_takeTurn_65 rfl (lv_at hl 0 rfl) ?_
    refine lv_iload_n hx hb dX7_takeTurn_66 rfl (lv_at hl 1 rfl) ?_
    refine lv_iconst (v := (1 : Int32)) hx hb dX7_takeTurn_67 (by decide) ?_
    obtain ⟨v5, M6, e_v5, h⟩ := sx_bnd2 h
    refine cl_X7_244 X hG hP hz hS (by decide) e_v5 hl.1 dX7_takeTurn_68 hcs ⟨Nat.le_trans (by decide) hR.1, Nat.le_trans (by decide) hR.2⟩ (Nat.le_of_ble_eq_true rfl) (fun H locs hP hS => ?_)
    refine lv_pop hx hb dX7_takeTurn_71 rfl ?_
    refine lv_goto (tgt := 185) hx hb dX7_takeTurn_72 (by decide) ?_
    exact hj185 M6 H locs ls (lv_sub hl [] rfl) hP hS h
  replace h := sx_ifn h c4
  by_cases c7 : (a1 - a1 / (8 : Int32) * (8 : Int32)) = (1 : Int32)
  · replace h := sx_ifp h c7
    refine lv_tableIn (tgt := 60) hx hb dX7_takeTurn_23 (by rw [c7]; decide) (by rw [c7]; decide) (by rw [c7]; rfl) (by decide) ?_
    refine lv_aload_n hx hb dX7_takeTurn_60 rfl (lv_at hl 2 rfl) ?_
    refine gf_X7_16 X hP (by decide) dX7_takeTurn_61 ?_
    refine lv_iconst (v := (2 : Int32)) hx hb dX7_takeTurn_64 (by decide) ?_
    refine lv_iload_n hx hb dX7_takeTurn_65 rfl (lv_at hl 0 rfl) ?_
    refine lv_iload_n hx hb dX7_takeTurn_66 rfl (lv_at hl 1 rfl) ?_
    refine lv_iconst (v := (1 : Int32)) hx hb dX7_takeTurn_67 (by decide) ?_
    obtain ⟨v8, M9, e_v8, h⟩ := sx_bnd2 h
    refine cl_X7_244 X hG hP hz hS (by decide) e_v8 hl.1 dX7_takeTurn_68 hcs ⟨Nat.le_trans (by decide) hR.1, Nat.le_trans (by decide) hR.2⟩ (Nat.le_of_ble_eq_true rfl) (fun H locs hP hS => ?_)
    refine lv_pop hx hb dX7_takeTurn_71 rfl ?_
    refine lv_goto (tgt := 185) hx hb dX7_takeTurn_72 (by decide) ?_
    exact hj185 M9 H locs ls (lv_sub hl [] rfl) hP hS h
  replace h := sx_ifn h c7
  by_cases c10 : (a1 - a1 / (8 : Int32) * (8 : Int32)) = (2 : Int32)
  · replace h := sx_ifp h c10
    refine lv_tableIn (tgt := 75) hx hb dX7_takeTurn_23 (by rw [c10]; decide) (by rw [c10]; decide) (by rw [c10]; rfl) (by decide) ?_
    refine lv_aload_n hx hb dX7_takeTurn_75 rfl (lv_at hl 2 rfl) ?_
    refine gf_X7_16 X hP (by decide) dX7_takeTurn_76 ?_
    refine lv_iconst (v := (3 : Int32)) hx hb dX7_takeTurn_79 (by decide) ?_
    refine lv_iload_n hx hb dX7_takeTurn_80 rfl (lv_at hl 0 rfl) ?_
    refine lv_iload_n hx hb dX7_takeTurn_81 rfl (lv_at hl 1 rfl) ?_
    refine lv_iconst (v := (0 : Int32)) hx hb dX7_takeTurn_82 (by decide) ?_
    obtain ⟨v11, M12, e_v11, h⟩ := sx_bnd2 h
    refine cl_X7_244 X hG hP hz hS (by decide) e_v11 hl.1 dX7_takeTurn_83 hcs ⟨Nat.le_trans (by decide) hR.1, Nat.le_trans (by decide) hR.2⟩ (Nat.le_of_ble_eq_true rfl) (fun H locs hP hS => ?_)
    refine lv_pop hx hb dX7_takeTurn_86 rfl ?_
    refine lv_goto (tgt := 185) hx hb dX7_takeTurn_87 (by decide) ?_
    exact hj185 M12 H locs ls (lv_sub hl [] rfl) hP hS h
  replace h := sx_ifn h c10
  by_cases c13 : (a1 - a1 / (8 : Int32) * (8 : Int32)) = (3 : Int32)
  · replace h := sx_ifp h c13
    refine lv_tableIn (tgt := 90) hx hb dX7_takeTurn_23 (by rw [c13]; decide) (by rw [c13]; decide) (by rw [c13]; rfl) (by decide) ?_
    refine lv_aload_n hx hb dX7_takeTurn_90 rfl (lv_at hl 2 rfl) ?_
    refine gf_X7_16 X hP (by decide) dX7_takeTurn_91 ?_
    refine lv_iconst (v := (4 : Int32)) hx hb dX7_takeTurn_94 (by decide) ?_
    refine lv_iload_n hx hb dX7_takeTurn_95 rfl (lv_at hl 0 rfl) ?_
    refine lv_iload_n hx hb dX7_takeTurn_96 rfl (lv_at hl 1 rfl) ?_
    refine lv_iconst (v := (0 : Int32)) hx hb dX7_takeTurn_97 (by decide) ?_
    obtain ⟨v14, M15, e_v14, h⟩ := sx_bnd2 h
    refine cl_X7_244 X hG hP hz hS (by decide) e_v14 hl.1 dX7_takeTurn_98 hcs ⟨Nat.le_trans (by decide) hR.1, Nat.le_trans (by decide) hR.2⟩ (Nat.le_of_ble_eq_true rfl) (fun H locs hP hS => ?_)
    refine lv_pop hx hb dX7_takeTurn_101 rfl ?_
    refine lv_goto (tgt := 185) hx hb dX7_takeTurn_102 (by decide) ?_
    exact hj185 M15 H locs ls (lv_sub hl [] rfl) hP hS h
  replace h := sx_ifn h c13
  by_cases c16 : (a1 - a1 / (8 : Int32) * (8 : Int32)) = (4 : Int32)
  · replace h := sx_ifp h c16
    refine lv_tableIn (tgt := 105) hx hb dX7_takeTurn_23 (by rw [c16]; decide) (by rw [c16]; decide) (by rw [c16]; rfl) (by decide) ?_
    refine lv_aload_n hx hb dX7_takeTurn_105 rfl (lv_at hl 2 rfl) ?_
    refine gf_X7_16 X hP (by decide) dX7_takeTurn_106 ?_
    refine lv_iconst (v := (5 : Int32)) hx hb dX7_takeTurn_109 (by decide) ?_
    refine lv_iload_n hx hb dX7_takeTurn_110 rfl (lv_at hl 0 rfl) ?_
    refine lv_iload_n hx hb dX7_takeTurn_111 rfl (lv_at hl 1 rfl) ?_
    refine lv_iconst (v := (0 : Int32)) hx hb dX7_takeTurn_112 (by decide) ?_
    obtain ⟨v17, M18, e_v17, h⟩ := sx_bnd2 h
    refine cl_X7_244 X hG hP hz hS (by decide) e_v17 hl.1 dX7_takeTurn_113 hcs ⟨Nat.le_trans (by decide) hR.1, Nat.le_trans (by decide) hR.2⟩ (Nat.le_of_ble_eq_true rfl) (fun H locs hP hS => ?_)
    refine lv_pop hx hb dX7_takeTurn_116 rfl ?_
    refine lv_goto (tgt := 185) hx hb dX7_takeTurn_117 (by decide) ?_
    exact hj185 M18 H locs ls (lv_sub hl [] rfl) hP hS h
  replace h := sx_ifn h c16
  by_cases c19 : (a1 - a1 / (8 : Int32) * (8 : Int32)) = (5 : Int32)
  · replace h := sx_ifp h c19
    refine lv_tableIn (tgt := 120) hx hb dX7_takeTurn_23 (by rw [c19]; decide) (by rw [c19]; decide) (by rw [c19]; rfl) (by decide) ?_
    refine lv_aload_n hx hb dX7_takeTurn_120 rfl (lv_at hl 2 rfl) ?_
    refine gf_X7_16 X hP (by decide) dX7_takeTurn_121 ?_
    refine lv_bipush (v := (6 : Int32)) hx hb dX7_takeTurn_124 (by decide) ?_
    refine lv_bipush (v := (-9 : Int32)) hx hb dX7_takeTurn_126 (by decide) ?_
    refine lv_iload_n hx hb dX7_takeTurn_128 rfl (lv_at hl 1 rfl) ?_
    refine lv_iload_n hx hb dX7_takeTurn_129 rfl (lv_at hl 3 rfl) ?_
    refine lv_sipush (v := (16384 : Int32)) hx hb dX7_takeTurn_130 (by decide) ?_
    refine lv_idiv hx hb dX7_takeTurn_133 (by decide) ?_
    refine lv_iconst (v := (2 : Int32)) hx hb dX7_takeTurn_134 (by decide) ?_
    refine lv_irem hx hb dX7_takeTurn_135 (by decide) ?_
    refine lv_iconst (v := (1 : Int32)) hx hb dX7_takeTurn_136 (by decide) ?_
    obtain ⟨j145, e_j145, h⟩ := sx_nm h
    have hj145 : ∀ (v20 : Int32) (H : Heap) (locs : List Loc) (ls : Array Slot), lv_has ls 4 [] → sx_W C M0 H → va_S (sx_A C) s.heap H locs → j145 v20 = some M' → W p l e R s m args below meth c H locs 0 0 (sx_Z C none M' below args s) (F0 m 145 ls [.int v20, .int v1, .int (-9 : Int32), .int (6 : Int32), .ref (sx_ad C 1 1)]) := by
      intro v20 H locs ls hl hP hS h
      subst e_j145
      obtain ⟨v21, M22, e_v21, h⟩ := sx_bnd2 h
      refine cl_X7_244 X hG hP hz hS (by decide) e_v21 hl.1 dX7_takeTurn_145 hcs ⟨Nat.le_trans (by decide) hR.1, Nat.le_trans (by decide) hR.2⟩ (Nat.le_of_ble_eq_true rfl) (fun H locs hP hS => ?_)
      refine lv_pop hx hb dX7_takeTurn_148 rfl ?_
      refine lv_goto (tgt := 185) hx hb dX7_takeTurn_149 (by decide) ?_
      exact hj185 M22 H locs ls (lv_sub hl [] rfl) hP hS h
    clear e_j145
    refine lv_icmp_ne (tgt := 144) hx hb dX7_takeTurn_137 (by decide) (fun c23 => ?_) (fun c23 => ?_)
    · replace h := sx_ifn h c23
      refine lv_iconst (v := (0 : Int32)) hx hb dX7_takeTurn_144 (by decide) ?_
      exact hj145 (0 : Int32) H locs ls (lv_sub hl [] rfl) hP hS h
    · replace h := sx_ifp h c23
      refine lv_iconst (v := (1 : Int32)) hx hb dX7_takeTurn_140 (by decide) ?_
      refine lv_goto (tgt := 145) hx hb dX7_takeTurn_141 (by decide) ?_
      exact hj145 (1 : Int32) H locs ls (lv_sub hl [] rfl) hP hS h
  replace h := sx_ifn h c19
  have t_c4 := lv_neT (a := 0) c4 (by decide)
  have t_c7 := lv_neT (a := 1) c7 (by decide)
  have t_c10 := lv_neT (a := 2) c10 (by decide)
  have t_c13 := lv_neT (a := 3) c13 (by decide)
  have t_c16 := lv_neT (a := 4) c16 (by decide)
  have t_c19 := lv_neT (a := 5) c19 (by decide)
  refine lv_tableOut (tgt := 152) hx hb dX7_takeTurn_23 (by omega) (by decide) ?_
  refine lv_aload_n hx hb dX7_takeTurn_152 rfl (lv_at hl 2 rfl) ?_
  refine gf_X7_16 X hP (by decide) dX7_takeTurn_153 ?_
  refine lv_aload_n hx hb dX7_takeTurn_156 rfl (lv_at hl 2 rfl) ?_
  refine gf_X7_16 X hP (by decide) dX7_takeTurn_157 ?_
  refine gf_X7_191 X hP (by decide) dX7_takeTurn_160 ?_
  obtain ⟨v24, e_v24, h⟩ := sx_bnd h
  refine cl_X7_195 X hG hP hz hS (by decide) e_v24 hl.1 dX7_takeTurn_163 hcs ⟨Nat.le_trans (by decide) hR.1, Nat.le_trans (by decide) hR.2⟩ (Nat.le_of_ble_eq_true rfl) (fun H locs hP hS => ?_)
  obtain ⟨j176, e_j176, h⟩ := sx_nm h
  have hj176 : ∀ (v25 : Int32) (H : Heap) (locs : List Loc) (ls : Array Slot), lv_has ls 4 [] → sx_W C M0 H → va_S (sx_A C) s.heap H locs → j176 v25 = some M' → W p l e R s m args below meth c H locs 0 0 (sx_Z C none M' below args s) (F0 m 176 ls [.int v25, .ref (sx_ad C 1 1)]) := by
    intro v25 H locs ls hl hP hS h
    subst e_j176
    refine lv_bipush (v := (-9 : Int32)) hx hb dX7_takeTurn_176 (by decide) ?_
    refine lv_bipush (v := (-9 : Int32)) hx hb dX7_takeTurn_178 (by decide) ?_
    refine lv_iconst (v := (0 : Int32)) hx hb dX7_takeTurn_180 (by decide) ?_
    obtain ⟨v26, M27, e_v26, h⟩ := sx_bnd2 h
    refine cl_X7_244 X hG hP hz hS (by decide) e_v26 hl.1 dX7_takeTurn_181 hcs ⟨Nat.le_trans (by decide) hR.1, Nat.le_trans (by decide) hR.2⟩ (Nat.le_of_ble_eq_true rfl) (fun H locs hP hS => ?_)
    refine lv_pop hx hb dX7_takeTurn_184 rfl ?_
    exact hj185 M27 H locs ls (lv_sub hl [] rfl) hP hS h
  clear e_j176
  refine lv_if_eq (tgt := 174) hx hb dX7_takeTurn_166 (by decide) (fun c28 => ?_) (fun c28 => ?_)
  · replace h := sx_ifp h c28
    refine lv_bipush (v := (7 : Int32)) hx hb dX7_takeTurn_174 (by decide) ?_
    exact hj176 (7 : Int32) H locs ls (lv_sub hl [] rfl) hP hS h
  · replace h := sx_ifn h c28
    refine lv_bipush (v := (8 : Int32)) hx hb dX7_takeTurn_169 (by decide) ?_
    refine lv_goto (tgt := 176) hx hb dX7_takeTurn_171 (by decide) ?_
    exact hj176 (8 : Int32) H locs ls (lv_sub hl [] rfl) hP hS h
set_option maxRecDepth 100000 in
theorem ct_7_takeTurn (l : Launch) (C : sx_C) (hG : sx_G C) (a1 : Int32) (M0 : sx_M) (M' : sx_M) (h : f7_takeTurn a1 M0 = some M') : Met l yX7_takeTurn (.code yX7_takeTurn cX7_takeTurn 4 none :: sx_T) ({ frames := 5, cells := 0, slots := 0, locals := 118 } : Room) (sx_Pc C M0 [.ref (sx_ad C 0 0), .int a1]) (sx_Q C none M') 0 0 (sx_A C) := by
  refine Met.ofW (cc := cX7_takeTurn) (maxL := 4) (ret := none) (by decide) rfl ?_
  intro p e s m args below meth c s₁ B hml hv
  obtain ⟨rfl, hz, hP, hK⟩ := hv
  have hl := lv_entry ([.ref (sx_ad C 0 0), .int a1]) (n := 4) (Nat.le_of_ble_eq_true rfl)
  rw [lg_entry_eq]
  generalize (lg_sl ([.ref (sx_ad C 0 0), .int a1]) ++ List.replicate (4 - (lg_sl ([.ref (sx_ad C 0 0), .int a1])).length) Slot.unset).toArray = ls at hl ⊢
  exact wk_7_takeTurn ⟨B.exec, B.bytes, hml, findClass_of_methodNamed B.named, fun w hw => atoms_spec B.pre w (List.mem_cons_of_mem _ hw), hK⟩ B.returns B.notSynchronized hG hz ⟨Nat.zero_le _, Nat.zero_le _⟩ ⟨Nat.le_refl _, Nat.le_refl _⟩ a1 M0 M' h hl hP va_S.rf
theorem cl_X7_238 (X : sx_X C p m c cc nL s args RX7) (hG : sx_G C) (hP : sx_W C M0 H) (hz : sx_sz C ≤ H0.size) (hS : va_S (sx_A C) H0 H locs) {a1 : Int32} {M' : sx_M} (h : f7_takeTurn a1 M0 = some M') (hsz : ls.size = nL) (hdg : decode cc pc = .ok (.invokevirtual 238, 3)) (hcs : cells ≤ R.cells ∧ slots ≤ R.slots) (hR : 5 + 1 ≤ R.frames ∧ 8 + (4 + 11) + 118 ≤ R.locals) (hrest : (rest.map fun v => v.category).sum ≤ 8) (kk : ∀ (H1 : Heap) (locs1 : List Loc), sx_W C M' H1 → va_S (sx_A C) H0 H1 locs1 → W p l e R s m args below meth c H1 locs1 cells slots Q (F0 m (pc + 3) ls (rest))) : W p l e R s m args below meth c H locs cells slots Q (F0 m pc ls (.int a1 :: .ref (sx_ad C 0 0) :: rest)) :=
  sx_callV (n := 1) (As := [.int a1]) (k0 := 0) (s0 := 0) X hP hz hS (by decide) rfl rfl (sx_goodV tw_943 tw_945 tw_23 tw_64 tw_946) (by decide +kernel) rfl rfl hR (ct_7_takeTurn l C hG a1 M0 M' h) rfl rfl hrest hsz hdg hcs kk
end SXM
