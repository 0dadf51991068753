section SXM
variable {p : Program} {l : Launch} {e : Env} {R : Room} {s : State} {m : MethodId} {args : Array Value} {below : List Frame} {meth : Method} {c : Code} {H : Heap} {locs : List Loc} {cells slots : Nat} {Q : State → Prop}
variable {O : Type} {out : O} {C : sx_C} {M M0 : sx_M} {cc : ByteArray} {nL : Nat} {own : String} {pc : Nat} {ls : Array Slot} {rest : List Value} {H0 : Heap}
-- StringShed$Sweep.copyFrom(LStringShed$Sweep;)V
def f5_copyFrom_L34 (s0 : Nat) (s1 : Nat) (k66 : (sx_M → Option (sx_M))) : Nat → Int32 → sx_M → Option (sx_M)
  | 0, _, _ => none
  | n + 1, x2, M =>
    sx_bd (M.1 6 s0 1) fun v9 =>
    if v9 ≤ x2 then
      k66 M
    else
      if (24 : Int32) ≤ x2 then
        k66 M
      else
        if sx_in x2 24 then
        sx_bd (M.1 7 s1 (x2).toNatClampNeg) fun v12 =>
        if sx_in x2 24 then
        sx_bd (sx_set M 7 s0 (x2).toNatClampNeg v12) fun M13 =>
        sx_bd (x2 + (1 : Int32)) fun v14 =>
        f5_copyFrom_L34 s0 s1 k66 n v14 M13
        else none
        else none
def f5_copyFrom (s0 : Nat) (s1 : Nat) (M0 : sx_M) : Option (sx_M) :=
  sx_bd (M0.1 6 s1 1) fun v1 =>
  sx_bd (sx_set M0 6 s0 1 v1) fun M2 =>
  sx_bd (M2.1 6 s1 2) fun v3 =>
  sx_bd (sx_set M2 6 s0 2 v3) fun M4 =>
  sx_bd (M4.1 6 s1 3) fun v5 =>
  sx_bd (sx_set M4 6 s0 3 v5) fun M6 =>
  sx_bd (M6.1 6 s1 4) fun v7 =>
  if v7 = 0 ∨ v7 = 1 then
  sx_bd (sx_set M6 6 s0 4 v7) fun M8 =>
  f5_copyFrom_L34 s0 s1
    (fun (M15 : sx_M) =>
      some M15)
    5000 (0 : Int32) M8
  else none
set_option maxRecDepth 100000 in
set_option maxHeartbeats 4000000 in
theorem wk_5_copyFrom (X : sx_X C p m c cX5_copyFrom 3 s args RX5) (hr : meth.sig.returnType = none) (hlocks : meth.locks = false) (hG : sx_G C) (hz : sx_sz C ≤ s.heap.size) (hcs : 0 ≤ R.cells ∧ 0 ≤ R.slots) (hR : 0 ≤ R.frames ∧ 0 ≤ R.locals) (s0 : Nat) (s1 : Nat) (hs_s0 : s0 < 18) (hs_s1 : s1 < 18) (M0 : sx_M) (M' : sx_M) (h : f5_copyFrom s0 s1 M0 = some M') (hl : lv_has ls 3 [(0, .ref (sx_ad C 6 s0)), (1, .ref (sx_ad C 6 s1))]) (hP : sx_W C M0 H) (hS : va_S (sx_A C) s.heap H locs) : W p l e R s m args below meth c H locs 0 0 (sx_Z C none M' below args s) (F0 m 0 ls []) := by
  obtain ⟨hx, hb, hml, hown, hts, hK⟩ := id X
  rw [f5_copyFrom] at h
  have hf5_copyFrom_L34 : ∀ (s0 : Nat) (s1 : Nat) (hs_s0 : s0 < 18) (hs_s1 : s1 < 18) (k66 : (sx_M → Option (sx_M))) (n : Nat) (hk66 : (∀ (M : sx_M) (H : Heap) (locs : List Loc) (ls : Array Slot), lv_has ls 3 [] → sx_W C M H → va_S (sx_A C) s.heap H locs → k66 M = some M' → W p l e R s m args below meth c H locs 0 0 (sx_Z C none M' below args s) (F0 m 66 ls []))) (x2 : Int32) (M : sx_M) (H : Heap) (locs : List Loc) (ls : Array Slot), lv_has ls 3 [(0, .ref (sx_ad C 6 s0)), (1, .ref (sx_ad C 6 s1)), (2, .int x2)] → sx_W C M H → va_S (sx_A C) s.heap H locs → f5_copyFrom_L34 s0 s1 k66 n x2 M = some M' → W p l e R s m args below meth c H locs 0 0 (sx_Z C none M' below args s) (F0 m 34 ls []) := by
    intro s0 s1 hs_s0 hs_s1 k66 n hk66
    induction n with
    | zero => intro x2 M H locs ls hl hP hS h; exact absurd (show (none : Option (sx_M)) = some M' from h) (fun q => nomatch q)
    | succ n ih =>
      intro x2 M H locs ls hl hP hS h
      rw [f5_copyFrom_L34] at h
      refine lv_iload_n hx hb dX5_copyFrom_34 rfl (lv_at hl 2 rfl) ?_
      refine lv_aload_n hx hb dX5_copyFrom_35 rfl (lv_at hl 0 rfl) ?_
      refine gf_X5_15 X hP hs_s0 dX5_copyFrom_36 h (fun v9 h => ?_)
      refine lv_icmp_ge (tgt := 66) hx hb dX5_copyFrom_39 (by decide) (fun c10 => ?_) (fun c10 => ?_)
      · replace h := sx_ifp h c10
        exact hk66 M H locs ls (lv_sub hl [] rfl) hP hS h
      · replace h := sx_ifn h c10
        refine lv_iload_n hx hb dX5_copyFrom_42 rfl (lv_at hl 2 rfl) ?_
        refine lv_bipush (v := (24 : Int32)) hx hb dX5_copyFrom_43 (by decide) ?_
        refine lv_icmp_ge (tgt := 66) hx hb dX5_copyFrom_45 (by decide) (fun c11 => ?_) (fun c11 => ?_)
        · replace h := sx_ifp h c11
          exact hk66 M H locs ls (lv_sub hl [] rfl) hP hS h
        · replace h := sx_ifn h c11
          refine lv_aload_n hx hb dX5_copyFrom_48 rfl (lv_at hl 0 rfl) ?_
          refine gf_X5_9 X hP hs_s0 dX5_copyFrom_49 ?_
          refine lv_iload_n hx hb dX5_copyFrom_52 rfl (lv_at hl 2 rfl) ?_
          refine lv_aload_n hx hb dX5_copyFrom_53 rfl (lv_at hl 1 rfl) ?_
          refine gf_X5_9 X hP hs_s1 dX5_copyFrom_54 ?_
          refine lv_iload_n hx hb dX5_copyFrom_57 rfl (lv_at hl 2 rfl) ?_
          refine sx_iald X hP 7 s1 24 hs_s1 (fun _ _ => rfl) dX5_copyFrom_58 h (fun v12 h => ?_)
          refine sx_iast X hG hP hS 7 s0 24 hs_s0 (fun _ _ => rfl) dX5_copyFrom_59 h (fun M13 H locs h hP hS => ?_)
          obtain ⟨v14, e_v14, h⟩ := sx_nm h
          refine lv_iinc (v := v14) (lv' := [(2, .int v14), (0, .ref (sx_ad C 6 s0)), (1, .ref (sx_ad C 6 s1))]) hx hb dX5_copyFrom_60 hl (k := 2) rfl (by rw [← e_v14]; rfl) (by decide) rfl (fun ls hl => ?_)
          refine lv_goto (tgt := 34) hx hb dX5_copyFrom_63 (by decide) ?_
          exact ih v14 M13 H locs ls (lv_sub hl [1, 2, 0] rfl) hP hS h
  refine lv_aload_n hx hb dX5_copyFrom_0 rfl (lv_at hl 0 rfl) ?_
  refine lv_aload_n hx hb dX5_copyFrom_1 rfl (lv_at hl 1 rfl) ?_
  refine gf_X5_15 X hP hs_s1 dX5_copyFrom_2 h (fun v1 h => ?_)
  refine pf_X5_15 X hG hP hS hs_s0 dX5_copyFrom_5 h (fun M2 H locs h hP hS => ?_)
  refine lv_aload_n hx hb dX5_copyFrom_8 rfl (lv_at hl 0 rfl) ?_
  refine lv_aload_n hx hb dX5_copyFrom_9 rfl (lv_at hl 1 rfl) ?_
  refine gf_X5_19 X hP hs_s1 dX5_copyFrom_10 h (fun v3 h => ?_)
  refine pf_X5_19 X hG hP hS hs_s0 dX5_copyFrom_13 h (fun M4 H locs h hP hS => ?_)
  refine lv_aload_n hx hb dX5_copyFrom_16 rfl (lv_at hl 0 rfl) ?_
  refine lv_aload_n hx hb dX5_copyFrom_17 rfl (lv_at hl 1 rfl) ?_
  refine gf_X5_22 X hP hs_s1 dX5_copyFrom_18 h (fun v5 h => ?_)
  refine pf_X5_22 X hG hP hS hs_s0 dX5_copyFrom_21 h (fun M6 H locs h hP hS => ?_)
  refine lv_aload_n hx hb dX5_copyFrom_24 rfl (lv_at hl 0 rfl) ?_
  refine lv_aload_n hx hb dX5_copyFrom_25 rfl (lv_at hl 1 rfl) ?_
  refine gf_X5_25 X hP hs_s1 dX5_copyFrom_26 h (fun v7 h => ?_)
  refine pf_X5_25 X hG hP hS hs_s0 dX5_copyFrom_29 h (fun M8 H locs h hP hS => ?_)
  refine lv_iconst (v := (0 : Int32)) hx hb dX5_copyFrom_32 (by decide) ?_
  refine lv_istore_n (lv' := [(2, .int (0 : Int32)), (0, .ref (sx_ad C 6 s0)), (1, .ref (sx_ad C 6 s1))]) hx hb dX5_copyFrom_33 rfl hl (by decide) rfl (fun ls hl => ?_)
  refine hf5_copyFrom_L34 s0 s1 hs_s0 hs_s1 _ 5000 ?_ (0 : Int32) M8 H locs ls (lv_sub hl [1, 2, 0] rfl) hP hS h
  · intro M15 H locs ls hl hP hS h
    exact sx_vret X hr hlocks hS hP h dX5_copyFrom_66
set_option maxRecDepth 100000 in
theorem ct_5_copyFrom (l : Launch) (C : sx_C) (hG : sx_G C) (s0 : Nat) (s1 : Nat) (hs_s0 : s0 < 18) (hs_s1 : s1 < 18) (M0 : sx_M) (M' : sx_M) (h : f5_copyFrom s0 s1 M0 = some M') : Met l yX5_copyFrom (.code yX5_copyFrom cX5_copyFrom 3 none :: sx_T) ({ frames := 0, cells := 0, slots := 0, locals := 0 } : Room) (sx_Pc C M0 [.ref (sx_ad C 6 s0), .ref (sx_ad C 6 s1)]) (sx_Q C none M') 0 0 (sx_A C) := by
  refine Met.ofW (cc := cX5_copyFrom) (maxL := 3) (ret := none) (by decide) rfl ?_
  intro p e s m args below meth c s₁ B hml hv
  obtain ⟨rfl, hz, hP, hK⟩ := hv
  have hl := lv_entry ([.ref (sx_ad C 6 s0), .ref (sx_ad C 6 s1)]) (n := 3) (Nat.le_of_ble_eq_true rfl)
  rw [lg_entry_eq]
  generalize (lg_sl ([.ref (sx_ad C 6 s0), .ref (sx_ad C 6 s1)]) ++ List.replicate (3 - (lg_sl ([.ref (sx_ad C 6 s0), .ref (sx_ad C 6 s1)])).length) Slot.unset).toArray = ls at hl ⊢
  exact wk_5_copyFrom ⟨B.exec, B.bytes, hml, findClass_of_methodNamed B.named, fun w hw => atoms_spec B.pre w (List.mem_cons_of_mem _ hw), hK⟩ B.returns B.notSynchronized hG hz ⟨Nat.zero_le _, Nat.zero_le _⟩ ⟨Nat.le_refl _, Nat.le_refl _⟩ s0 s1 hs_s0 hs_s1 M0 M' h hl hP va_S.rf
theorem cl_X3_49 (X : sx_X C p m c cc nL s args RX3) (hG : sx_G C) (hP : sx_W C M0 H) (hz : sx_sz C ≤ H0.size) (hS : va_S (sx_A C) H0 H locs) {s0 : Nat} {s1 : Nat} (hs_s0 : s0 < 18) (hs_s1 : s1 < 18) {M' : sx_M} (h : f5_copyFrom s0 s1 M0 = some M') (hsz : ls.size = nL) (hdg : decode cc pc = .ok (.invokevirtual 49, 3)) (hcs : cells ≤ R.cells ∧ slots ≤ R.slots) (hR : 0 + 1 ≤ R.frames ∧ 8 + (3 + 11) + 0 ≤ R.locals) (hrest : (rest.map fun v => v.category).sum ≤ 8) (kk : ∀ (H1 : Heap) (locs1 : List Loc), sx_W C M' H1 → va_S (sx_A C) H0 H1 locs1 → W p l e R s m args below meth c H1 locs1 cells slots Q (F0 m (pc + 3) ls (rest))) : W p l e R s m args below meth c H locs cells slots Q (F0 m pc ls (.ref (sx_ad C 6 s1) :: .ref (sx_ad C 6 s0) :: rest)) :=
  sx_callV (n := 1) (As := [.ref (sx_ad C 6 s1)]) (k0 := 6) (s0 := s0) X hP hz hS hs_s0 rfl rfl (sx_goodV tw_330 tw_331 tw_332 tw_67 tw_333) (by decide +kernel) rfl rfl hR (ct_5_copyFrom l C hG s0 s1 hs_s0 hs_s1 M0 M' h) rfl rfl hrest hsz hdg hcs kk
-- StringShed$Sweep.isGoing()Z pure
def f5_isGoing (s0 : Nat) (M0 : sx_M) : Option (Int32) :=
  sx_bd (M0.1 6 s0 4) fun v1 =>
  if v1 = 0 ∨ v1 = 1 then some v1 else none
set_option maxRecDepth 100000 in
set_option maxHeartbeats 4000000 in
theorem wk_5_isGoing (X : sx_X C p m c cX5_isGoing 1 s args RX5) (hr : meth.sig.returnType = (some .boolean)) (hlocks : meth.locks = false) (hG : sx_G C) (hz : sx_sz C ≤ s.heap.size) (hcs : 0 ≤ R.cells ∧ 0 ≤ R.slots) (hR : 0 ≤ R.frames ∧ 0 ≤ R.locals) (s0 : Nat) (hs_s0 : s0 < 18) (M0 : sx_M) (r : Int32) (h : f5_isGoing s0 M0 = some r) (hl : lv_has ls 1 [(0, .ref (sx_ad C 6 s0))]) (hP : sx_W C M0 H) (hS : va_S (sx_A C) s.heap H locs) : W p l e R s m args below meth c H locs 0 0 (sx_Z C (some (.int r)) M0 below args s) (F0 m 0 ls []) := by
  obtain ⟨hx, hb, hml, hown, hts, hK⟩ := id X
  rw [f5_isGoing] at h
  refine lv_aload_n hx hb dX5_isGoing_0 rfl (lv_at hl 0 rfl) ?_
  refine gf_X5_25 X hP hs_s0 dX5_isGoing_1 h (fun v1 h => ?_)
  obtain ⟨hz01, h⟩ := sx_ck h
  exact sx_zret X hr hlocks hS hP hz01 h dX5_isGoing_4
set_option maxRecDepth 100000 in
theorem ct_5_isGoing (l : Launch) (C : sx_C) (hG : sx_G C) (s0 : Nat) (hs_s0 : s0 < 18) (M0 : sx_M) (r : Int32) (h : f5_isGoing s0 M0 = some r) : Met l yX5_isGoing (.code yX5_isGoing cX5_isGoing 1 (some .boolean) :: sx_T) ({ frames := 0, cells := 0, slots := 0, locals := 0 } : Room) (sx_Pc C M0 [.ref (sx_ad C 6 s0)]) (sx_Q C (some (.int r)) M0) 0 0 (sx_A C) := by
  refine Met.ofW (cc := cX5_isGoing) (maxL := 1) (ret := (some .boolean)) (by decide) rfl ?_
  intro p e s m args below meth c s₁ B hml hv
  obtain ⟨rfl, hz, hP, hK⟩ := hv
  have hl := lv_entry ([.ref (sx_ad C 6 s0)]) (n := 1) (Nat.le_of_ble_eq_true rfl)
  rw [lg_entry_eq]
  generalize (lg_sl ([.ref (sx_ad C 6 s0)]) ++ List.replicate (1 - (lg_sl ([.ref (sx_ad C 6 s0)])).length) Slot.unset).toArray = ls at hl ⊢
  exact wk_5_isGoing ⟨B.exec, B.bytes, hml, findClass_of_methodNamed B.named, fun w hw => atoms_spec B.pre w (List.mem_cons_of_mem _ hw), hK⟩ B.returns B.notSynchronized hG hz ⟨Nat.zero_le _, Nat.zero_le _⟩ ⟨Nat.le_refl _, Nat.le_refl _⟩ s0 hs_s0 M0 r h hl hP va_S.rf
theorem cl_X2_45 (X : sx_X C p m c cc nL s args RX2) (hG : sx_G C) (hP : sx_W C M0 H) (hz : sx_sz C ≤ H0.size) (hS : va_S (sx_A C) H0 H locs) {s0 : Nat} (hs_s0 : s0 < 18) {r : Int32} (h : f5_isGoing s0 M0 = some r) (hsz : ls.size = nL) (hdg : decode cc pc = .ok (.invokevirtual 45, 3)) (hcs : cells ≤ R.cells ∧ slots ≤ R.slots) (hR : 0 + 1 ≤ R.frames ∧ 8 + (1 + 11) + 0 ≤ R.locals) (hrest : (rest.map fun v => v.category).sum ≤ 8) (kk : ∀ (H1 : Heap) (locs1 : List Loc), sx_W C M0 H1 → va_S (sx_A C) H0 H1 locs1 → W p l e R s m args below meth c H1 locs1 cells slots Q (F0 m (pc + 3) ls ((.int r) :: rest))) : W p l e R s m args below meth c H locs cells slots Q (F0 m pc ls (.ref (sx_ad C 6 s0) :: rest)) :=
  sx_callV (n := 0) (As := []) (k0 := 6) (s0 := s0) X hP hz hS hs_s0 rfl rfl (sx_goodV tw_927 tw_339 tw_340 tw_67 tw_341) (by decide +kernel) rfl rfl hR (ct_5_isGoing l C hG s0 hs_s0 M0 r h) rfl rfl hrest hsz hdg hcs kk
theorem cl_X3_97 (X : sx_X C p m c cc nL s args RX3) (hG : sx_G C) (hP : sx_W C M0 H) (hz : sx_sz C ≤ H0.size) (hS : va_S (sx_A C) H0 H locs) {s0 : Nat} (hs_s0 : s0 < 18) {r : Int32} (h : f5_isGoing s0 M0 = some r) (hsz : ls.size = nL) (hdg : decode cc pc = .ok (.invokevirtual 97, 3)) (hcs : cells ≤ R.cells ∧ slots ≤ R.slots) (hR : 0 + 1 ≤ R.frames ∧ 8 + (1 + 11) + 0 ≤ R.locals) (hrest : (rest.map fun v => v.category).sum ≤ 8) (kk : ∀ (H1 : Heap) (locs1 : List Loc), sx_W C M0 H1 → va_S (sx_A C) H0 H1 locs1 → W p l e R s m args below meth c H1 locs1 cells slots Q (F0 m (pc + 3) ls ((.int r) :: rest))) : W p l e R s m args below meth c H locs cells slots Q (F0 m pc ls (.ref (sx_ad C 6 s0) :: rest)) :=
  sx_callV (n := 0) (As := []) (k0 := 6) (s0 := s0) X hP hz hS hs_s0 rfl rfl (sx_goodV tw_338 tw_339 tw_340 tw_67 tw_341) (by decide +kernel) rfl rfl hR (ct_5_isGoing l C hG s0 hs_s0 M0 r h) rfl rfl hrest hsz hdg hcs kk
theorem cl_X7_195 (X : sx_X C p m c cc nL s args RX7) (hG : sx_G C) (hP : sx_W C M0 H) (hz : sx_sz C ≤ H0.size) (hS : va_S (sx_A C) H0 H locs) {s0 : Nat} (hs_s0 : s0 < 18) {r : Int32} (h : f5_isGoing s0 M0 = some r) (hsz : ls.size = nL) (hdg : decode cc pc = .ok (.invokevirtual 195, 3)) (hcs : cells ≤ R.cells ∧ slots ≤ R.slots) (hR : 0 + 1 ≤ R.frames ∧ 8 + (1 + 11) + 0 ≤ R.locals) (hrest : (rest.map fun v => v.category).sum ≤ 8) (kk : ∀ (H1 : Heap) (locs1 : List Loc), sx_W C M0 H1 → va_S (sx_A C) H0 H1 locs1 → W p l e R s m args below meth c H1 locs1 cells slots Q (F0 m (pc + 3) ls ((.int r) :: rest))) : W p l e R s m args below meth c H locs cells slots Q (F0 m pc ls (.ref (sx_ad C 6 s0) :: rest)) :=
  sx_callV (n := 0) (As := []) (k0 := 6) (s0 := s0) X hP hz hS hs_s0 rfl rfl (sx_goodV tw_416 tw_339 tw_340 tw_67 tw_341) (by decide +kernel) rfl rfl hR (ct_5_isGoing l C hG s0 hs_s0 M0 r h) rfl rfl hrest hsz hdg hcs kk
-- StringShed$Sweep.addBlack(I)V
def f5_addBlack (s0 : Nat) (a1 : Int32) (M0 : sx_M) : Option (sx_M) :=
  sx_bd (M0.1 6 s0 4) fun v1 =>
  sx_bd (fun (M2 : sx_M) =>
    some M2) fun j20 =>
  if v1 = 0 then
    j20 M0
  else
    sx_bd (M0.1 6 s0 3) fun v4 =>
    (f7_bitOf a1 M0).bind fun v5 =>
    sx_bd (sx_set M0 6 s0 3 (v4 ||| v5)) fun M6 =>
    j20 M6
set_option maxRecDepth 100000 in
set_option maxHeartbeats 4000000 in
theorem wk_5_addBlack (X : sx_X C p m c cX5_addBlack 2 s args RX5) (hr : meth.sig.returnType = none) (hlocks : meth.locks = false) (hG : sx_G C) (hz : sx_sz C ≤ s.heap.size) (hcs : 0 ≤ R.cells ∧ 0 ≤ R.slots) (hR : 1 ≤ R.frames ∧ 20 ≤ R.locals) (s0 : Nat) (a1 : Int32) (hs_s0 : s0 < 18) (M0 : sx_M) (M' : sx_M) (h : f5_addBlack s0 a1 M0 = some M') (hl : lv_has ls 2 [(0, .ref (sx_ad C 6 s0)), (1, .int a1)]) (hP : sx_W C M0 H) (hS : va_S (sx_A C) s.heap H locs) : W p l e R s m args below meth c H locs 0 0 (sx_Z C none M' below args s) (F0 m 0 ls []) := by
  obtain ⟨hx, hb, hml, hown, hts, hK⟩ := id X
  rw [f5_addBlack] at h
  refine lv_aload_n hx hb dX5_addBlack_0 rfl (lv_at hl 0 rfl) ?_
  refine gf_X5_25 X hP hs_s0 dX5_addBlack_1 h (fun v1 h => ?_)
  obtain ⟨j20, e_j20, h⟩ := sx_nm h
  have hj20 : ∀ (M2 : sx_M) (H : Heap) (locs : List Loc) (ls : Array Slot), lv_has ls 2 [] → sx_W C M2 H → va_S (sx_A C) s.heap H locs → j20 M2 = some M' → W p l e R s m args below meth c H locs 0 0 (sx_Z C none M' below args s) (F0 m 20 ls []) := by
    intro M2 H locs ls hl hP hS h
    subst e_j20
    exact sx_vret X hr hlocks hS hP h dX5_addBlack_20
  clear e_j20
  refine lv_if_eq (tgt := 20) hx hb dX5_addBlack_4 (by decide) (fun c3 => ?_) (fun c3 => ?_)
  · replace h := sx_ifp h c3
    exact hj20 M0 H locs ls (lv_sub hl [] rfl) hP hS h
  · replace h := sx_ifn h c3
    refine lv_aload_n hx hb dX5_addBlack_7 rfl (lv_at hl 0 rfl) ?_
    refine lv_dup hx hb dX5_addBlack_8 rfl ?_
    refine gf_X5_22 X hP hs_s0 dX5_addBlack_9 h (fun v4 h => ?_)
    refine lv_iload_n hx hb dX5_addBlack_12 rfl (lv_at hl 1 rfl) ?_
    obtain ⟨v5, e_v5, h⟩ := sx_bnd h
    refine cl_X5_32 X hG hP hz hS  e_v5 hl.1 dX5_addBlack_13 hcs ⟨Nat.le_trans (by decide) hR.1, Nat.le_trans (by decide) hR.2⟩ (Nat.le_of_ble_eq_true rfl) (fun H locs hP hS => ?_)
    refine lv_ior hx hb dX5_addBlack_16 ?_
    refine pf_X5_22 X hG hP hS hs_s0 dX5_addBlack_17 h (fun M6 H locs h hP hS => ?_)
    exact hj20 M6 H locs ls (lv_sub hl [] rfl) hP hS h
set_option maxRecDepth 100000 in
theorem ct_5_addBlack (l : Launch) (C : sx_C) (hG : sx_G C) (s0 : Nat) (a1 : Int32) (hs_s0 : s0 < 18) (M0 : sx_M) (M' : sx_M) (h : f5_addBlack s0 a1 M0 = some M') : Met l yX5_addBlack (.code yX5_addBlack cX5_addBlack 2 none :: sx_T) ({ frames := 1, cells := 0, slots := 0, locals := 20 } : Room) (sx_Pc C M0 [.ref (sx_ad C 6 s0), .int a1]) (sx_Q C none M') 0 0 (sx_A C) := by
  refine Met.ofW (cc := cX5_addBlack) (maxL := 2) (ret := none) (by decide) rfl ?_
  intro p e s m args below meth c s₁ B hml hv
  obtain ⟨rfl, hz, hP, hK⟩ := hv
  have hl := lv_entry ([.ref (sx_ad C 6 s0), .int a1]) (n := 2) (Nat.le_of_ble_eq_true rfl)
  rw [lg_entry_eq]
  generalize (lg_sl ([.ref (sx_ad C 6 s0), .int a1]) ++ List.replicate (2 - (lg_sl ([.ref (sx_ad C 6 s0), .int a1])).length) Slot.unset).toArray = ls at hl ⊢
  exact wk_5_addBlack ⟨B.exec, B.bytes, hml, findClass_of_methodNamed B.named, fun w hw => atoms_spec B.pre w (List.mem_cons_of_mem _ hw), hK⟩ B.returns B.notSynchronized hG hz ⟨Nat.zero_le _, Nat.zero_le _⟩ ⟨Nat.le_refl _, Nat.le_refl _⟩ s0 a1 hs_s0 M0 M' h hl hP va_S.rf
theorem cl_X3_176 (X : sx_X C p m c cc nL s args RX3) (hG : sx_G C) (hP : sx_W C M0 H) (hz : sx_sz C ≤ H0.size) (hS : va_S (sx_A C) H0 H locs) {s0 : Nat} {a1 : Int32} (hs_s0 : s0 < 18) {M' : sx_M} (h : f5_addBlack s0 a1 M0 = some M') (hsz : ls.size = nL) (hdg : decode cc pc = .ok (.invokevirtual 176, 3)) (hcs : cells ≤ R.cells ∧ slots ≤ R.slots) (hR : 1 + 1 ≤ R.frames ∧ 8 + (2 + 11) + 20 ≤ R.locals) (hrest : (rest.map fun v => v.category).sum ≤ 8) (kk : ∀ (H1 : Heap) (locs1 : List Loc), sx_W C M' H1 → va_S (sx_A C) H0 H1 locs1 → W p l e R s m args below meth c H1 locs1 cells slots Q (F0 m (pc + 3) ls (rest))) : W p l e R s m args below meth c H locs cells slots Q (F0 m pc ls (.int a1 :: .ref (sx_ad C 6 s0) :: rest)) :=
  sx_callV (n := 1) (As := [.int a1]) (k0 := 6) (s0 := s0) X hP hz hS hs_s0 rfl rfl (sx_goodV tw_608 tw_609 tw_610 tw_67 tw_611) (by decide +kernel) rfl rfl hR (ct_5_addBlack l C hG s0 a1 hs_s0 M0 M' h) rfl rfl hrest hsz hdg hcs kk
-- StringShed$Sweep.passesBelow(I)Z pure
def f5_passesBelow (s0 : Nat) (a1 : Int32) (M0 : sx_M) : Option (Int32) :=
  sx_bd (M0.1 6 s0 3) fun v1 =>
  (f7_bitOf a1 M0).bind fun v2 =>
  sx_bd (fun (v3 : Int32) =>
    if v3 = 0 ∨ v3 = 1 then some v3 else none) fun j20 =>
  if (((15 : Int32) ||| v1) &&& v2) = 0 then
    j20 (0 : Int32)
  else
    j20 (1 : Int32)
set_option maxRecDepth 100000 in
set_option maxHeartbeats 4000000 in
theorem wk_5_passesBelow (X : sx_X C p m c cX5_passesBelow 2 s args RX5) (hr : meth.sig.returnType = (some .boolean)) (hlocks : meth.locks = false) (hG : sx_G C) (hz : sx_sz C ≤ s.heap.size) (hcs : 0 ≤ R.cells ∧ 0 ≤ R.slots) (hR : 1 ≤ R.frames ∧ 20 ≤ R.locals) (s0 : Nat) (a1 : Int32) (hs_s0 : s0 < 18) (M0 : sx_M) (r : Int32) (h : f5_passesBelow s0 a1 M0 = some r) (hl : lv_has ls 2 [(0, .ref (sx_ad C 6 s0)), (1, .int a1)]) (hP : sx_W C M0 H) (hS : va_S (sx_A C) s.heap H locs) : W p l e R s m args below meth c H locs 0 0 (sx_Z C (some (.int r)) M0 below args s) (F0 m 0 ls []) := by
  obtain ⟨hx, hb, hml, hown, hts, hK⟩ := id X
  rw [f5_passesBelow] at h
  refine lv_bipush (v := (15 : Int32)) hx hb dX5_passesBelow_0 (by decide) ?_
  refine lv_aload_n hx hb dX5_passesBelow_2 rfl (lv_at hl 0 rfl) ?_
  refine gf_X5_22 X hP hs_s0 dX5_passesBelow_3 h (fun v1 h => ?_)
  refine lv_ior hx hb dX5_passesBelow_6 ?_
  refine lv_iload_n hx hb dX5_passesBelow_7 rfl (lv_at hl 1 rfl) ?_
  obtain ⟨v2, e_v2, h⟩ := sx_bnd h
  refine cl_X5_32 X hG hP hz hS  e_v2 hl.1 dX5_passesBelow_8 hcs ⟨Nat.le_trans (by decide) hR.1, Nat.le_trans (by decide) hR.2⟩ (Nat.le_of_ble_eq_true rfl) (fun H locs hP hS => ?_)
  refine lv_iand hx hb dX5_passesBelow_11 ?_
  obtain ⟨j20, e_j20, h⟩ := sx_nm h
  have hj20 : ∀ (v3 : Int32) (H : Heap) (locs : List Loc) (ls : Array Slot), lv_has ls 2 [] → sx_W C M0 H → va_S (sx_A C) s.heap H locs → j20 v3 = some r → W p l e R s m args below meth c H locs 0 0 (sx_Z C (some (.int r)) M0 below args s) (F0 m 20 ls [.int v3]) := by
    intro v3 H locs ls hl hP hS h
    subst e_j20
    obtain ⟨hz01, h⟩ := sx_ck h
    exact sx_zret X hr hlocks hS hP hz01 h dX5_passesBelow_20
  clear e_j20
  refine lv_if_eq (tgt := 19) hx hb dX5_passesBelow_12 (by decide) (fun c4 => ?_) (fun c4 => ?_)
  · replace h := sx_ifp h c4
    refine lv_iconst (v := (0 : Int32)) hx hb dX5_passesBelow_19 (by decide) ?_
    exact hj20 (0 : Int32) H locs ls (lv_sub hl [] rfl) hP hS h
  · replace h := sx_ifn h c4
    refine lv_iconst (v := (1 : Int32)) hx hb dX5_passesBelow_15 (by decide) ?_
    refine lv_goto (tgt := 20) hx hb dX5_passesBelow_16 (by decide) ?_
    exact hj20 (1 : Int32) H locs ls (lv_sub hl [] rfl) hP hS h
set_option maxRecDepth 100000 in
theorem ct_5_passesBelow (l : Launch) (C : sx_C) (hG : sx_G C) (s0 : Nat) (a1 : Int32) (hs_s0 : s0 < 18) (M0 : sx_M) (r : Int32) (h : f5_passesBelow s0 a1 M0 = some r) : Met l yX5_passesBelow (.code yX5_passesBelow cX5_passesBelow 2 (some .boolean) :: sx_T) ({ frames := 1, cells := 0, slots := 0, locals := 20 } : Room) (sx_Pc C M0 [.ref (sx_ad C 6 s0), .int a1]) (sx_Q C (some (.int r)) M0) 0 0 (sx_A C) := by
  refine Met.ofW (cc := cX5_passesBelow) (maxL := 2) (ret := (some .boolean)) (by decide) rfl ?_
  intro p e s m args below meth c s₁ B hml hv
  obtain ⟨rfl, hz, hP, hK⟩ := hv
  have hl := lv_entry ([.ref (sx_ad C 6 s0), .int a1]) (n := 2) (Nat.le_of_ble_eq_true rfl)
  rw [lg_entry_eq]
  generalize (lg_sl ([.ref (sx_ad C 6 s0), .int a1]) ++ List.replicate (2 - (lg_sl ([.ref (sx_ad C 6 s0), .int a1])).length) Slot.unset).toArray = ls at hl ⊢
  exact wk_5_passesBelow ⟨B.exec, B.bytes, hml, findClass_of_methodNamed B.named, fun w hw => atoms_spec B.pre w (List.mem_cons_of_mem _ hw), hK⟩ B.returns B.notSynchronized hG hz ⟨Nat.zero_le _, Nat.zero_le _⟩ ⟨Nat.le_refl _, Nat.le_refl _⟩ s0 a1 hs_s0 M0 r h hl hP va_S.rf
theorem cl_X3_184 (X : sx_X C p m c cc nL s args RX3) (hG : sx_G C) (hP : sx_W C M0 H) (hz : sx_sz C ≤ H0.size) (hS : va_S (sx_A C) H0 H locs) {s0 : Nat} {a1 : Int32} (hs_s0 : s0 < 18) {r : Int32} (h : f5_passesBelow s0 a1 M0 = some r) (hsz : ls.size = nL) (hdg : decode cc pc = .ok (.invokevirtual 184, 3)) (hcs : cells ≤ R.cells ∧ slots ≤ R.slots) (hR : 1 + 1 ≤ R.frames ∧ 8 + (2 + 11) + 20 ≤ R.locals) (hrest : (rest.map fun v => v.category).sum ≤ 8) (kk : ∀ (H1 : Heap) (locs1 : List Loc), sx_W C M0 H1 → va_S (sx_A C) H0 H1 locs1 → W p l e R s m args below meth c H1 locs1 cells slots Q (F0 m (pc + 3) ls ((.int r) :: rest))) : W p l e R s m args below meth c H locs cells slots Q (F0 m pc ls (.int a1 :: .ref (sx_ad C 6 s0) :: rest)) :=
  sx_callV (n := 1) (As := [.int a1]) (k0 := 6) (s0 := s0) X hP hz hS hs_s0 rfl rfl (sx_goodV tw_620 tw_621 tw_622 tw_67 tw_623) (by decide +kernel) rfl rfl hR (ct_5_passesBelow l C hG s0 a1 hs_s0 M0 r h) rfl rfl hrest hsz hdg hcs kk
-- StringShed$Sweep.shade(I)V
def f5_shade (s0 : Nat) (a1 : Int32) (M0 : sx_M) : Option (sx_M) :=
  sx_bd (M0.1 6 s0 2) fun v1 =>
  (f7_bitOf a1 M0).bind fun v2 =>
  sx_bd (fun (M3 : sx_M) =>
    some M3) fun j63 =>
  if (v1 &&& v2) = 0 then
    j63 M0
  else
    sx_bd (M0.1 6 s0 1) fun v5 =>
    if v5 < 0 then
      j63 M0
    else
      sx_bd (M0.1 6 s0 1) fun v7 =>
      if (24 : Int32) ≤ v7 then
        j63 M0
      else
        sx_bd (M0.1 6 s0 2) fun v9 =>
        (f7_bitOf a1 M0).bind fun v10 =>
        sx_bd (sx_set M0 6 s0 2 (v9 &&& (v10 ^^^ (-1 : Int32)))) fun M11 =>
        sx_bd (M11.1 6 s0 1) fun v12 =>
        if sx_in v12 24 then
        sx_bd (sx_set M11 7 s0 (v12).toNatClampNeg a1) fun M13 =>
        sx_bd (M13.1 6 s0 1) fun v14 =>
        sx_bd (sx_set M13 6 s0 1 (v14 + (1 : Int32))) fun M15 =>
        j63 M15
        else none
set_option maxRecDepth 100000 in
set_option maxHeartbeats 4000000 in
theorem wk_5_shade (X : sx_X C p m c cX5_shade 2 s args RX5) (hr : meth.sig.returnType = none) (hlocks : meth.locks = false) (hG : sx_G C) (hz : sx_sz C ≤ s.heap.size) (hcs : 0 ≤ R.cells ∧ 0 ≤ R.slots) (hR : 1 ≤ R.frames ∧ 20 ≤ R.locals) (s0 : Nat) (a1 : Int32) (hs_s0 : s0 < 18) (M0 : sx_M) (M' : sx_M) (h : f5_shade s0 a1 M0 = some M') (hl : lv_has ls 2 [(0, .ref (sx_ad C 6 s0)), (1, .int a1)]) (hP : sx_W C M0 H) (hS : va_S (sx_A C) s.heap H locs) : W p l e R s m args below meth c H locs 0 0 (sx_Z C none M' below args s) (F0 m 0 ls []) := by
  obtain ⟨hx, hb, hml, hown, hts, hK⟩ := id X
  rw [f5_shade] at h
  refine lv_aload_n hx hb dX5_shade_0 rfl (lv_at hl 0 rfl) ?_
  refine gf_X5_19 X hP hs_s0 dX5_shade_1 h (fun v1 h => ?_)
  refine lv_iload_n hx hb dX5_shade_4 rfl (lv_at hl 1 rfl) ?_
  obtain ⟨v2, e_v2, h⟩ := sx_bnd h
  refine cl_X5_32 X hG hP hz hS  e_v2 hl.1 dX5_shade_5 hcs ⟨Nat.le_trans (by decide) hR.1, Nat.le_trans (by decide) hR.2⟩ (Nat.le_of_ble_eq_true rfl) (fun H locs hP hS => ?_)
  refine lv_iand hx hb dX5_shade_8 ?_
  obtain ⟨j63, e_j63, h⟩ := sx_nm h
  have hj63 : ∀ (M3 : sx_M) (H : Heap) (locs : List Loc) (ls : Array Slot), lv_has ls 2 [] → sx_W C M3 H → va_S (sx_A C) s.heap H locs → j63 M3 = some M' → W p l e R s m args below meth c H locs 0 0 (sx_Z C none M' below args s) (F0 m 63 ls []) := by
    intro M3 H locs ls hl hP hS h
    subst e_j63
    exact sx_vret X hr hlocks hS hP h dX5_shade_63
  clear e_j63
  refine lv_if_eq (tgt := 63) hx hb dX5_shade_9 (by decide) (fun c4 => ?_) (fun c4 => ?_)
  · replace h := sx_ifp h c4
    exact hj63 M0 H locs ls (lv_sub hl [] rfl) hP hS h
  · replace h := sx_ifn h c4
    refine lv_aload_n hx hb dX5_shade_12 rfl (lv_at hl 0 rfl) ?_
    refine gf_X5_15 X hP hs_s0 dX5_shade_13 h (fun v5 h => ?_)
    refine lv_if_lt (tgt := 63) hx hb dX5_shade_16 (by decide) (fun c6 => ?_) (fun c6 => ?_)
    · replace h := sx_ifp h c6
      exact hj63 M0 H locs ls (lv_sub hl [] rfl) hP hS h
    · replace h := sx_ifn h c6
      refine lv_aload_n hx hb dX5_shade_19 rfl (lv_at hl 0 rfl) ?_
      refine gf_X5_15 X hP hs_s0 dX5_shade_20 h (fun v7 h => ?_)
      refine lv_bipush (v := (24 : Int32)) hx hb dX5_shade_23 (by decide) ?_
      refine lv_icmp_ge (tgt := 63) hx hb dX5_shade_25 (by decide) (fun c8 => ?_) (fun c8 => ?_)
      · replace h := sx_ifp h c8
        exact hj63 M0 H locs ls (lv_sub hl [] rfl) hP hS h
      · replace h := sx_ifn h c8
        refine lv_aload_n hx hb dX5_shade_28 rfl (lv_at hl 0 rfl) ?_
        refine lv_dup hx hb dX5_shade_29 rfl ?_
        refine gf_X5_19 X hP hs_s0 dX5_shade_30 h (fun v9 h => ?_)
        refine lv_iload_n hx hb dX5_shade_33 rfl (lv_at hl 1 rfl) ?_
        obtain ⟨v10, e_v10, h⟩ := sx_bnd h
        refine cl_X5_32 X hG hP hz hS  e_v10 hl.1 dX5_shade_34 hcs ⟨Nat.le_trans (by decide) hR.1, Nat.le_trans (by decide) hR.2⟩ (Nat.le_of_ble_eq_true rfl) (fun H locs hP hS => ?_)
        refine lv_iconst (v := (-1 : Int32)) hx hb dX5_shade_37 (by decide) ?_
        refine lv_ixor hx hb dX5_shade_38 ?_
        refine lv_iand hx hb dX5_shade_39 ?_
        refine pf_X5_19 X hG hP hS hs_s0 dX5_shade_40 h (fun M11 H locs h hP hS => ?_)
        refine lv_aload_n hx hb dX5_shade_43 rfl (lv_at hl 0 rfl) ?_
        refine gf_X5_9 X hP hs_s0 dX5_shade_44 ?_
        refine lv_aload_n hx hb dX5_shade_47 rfl (lv_at hl 0 rfl) ?_
        refine gf_X5_15 X hP hs_s0 dX5_shade_48 h (fun v12 h => ?_)
        refine lv_iload_n hx hb dX5_shade_51 rfl (lv_at hl 1 rfl) ?_
        refine sx_iast X hG hP hS 7 s0 24 hs_s0 (fun _ _ => rfl) dX5_shade_52 h (fun M13 H locs h hP hS => ?_)
        refine lv_aload_n hx hb dX5_shade_53 rfl (lv_at hl 0 rfl) ?_
        refine lv_dup hx hb dX5_shade_54 rfl ?_
        refine gf_X5_15 X hP hs_s0 dX5_shade_55 h (fun v14 h => ?_)
        refine lv_iconst (v := (1 : Int32)) hx hb dX5_shade_58 (by decide) ?_
        refine lv_iadd hx hb dX5_shade_59 ?_
        refine pf_X5_15 X hG hP hS hs_s0 dX5_shade_60 h (fun M15 H locs h hP hS => ?_)
        exact hj63 M15 H locs ls (lv_sub hl [] rfl) hP hS h
set_option maxRecDepth 100000 in
theorem ct_5_shade (l : Launch) (C : sx_C) (hG : sx_G C) (s0 : Nat) (a1 : Int32) (hs_s0 : s0 < 18) (M0 : sx_M) (M' : sx_M) (h : f5_shade s0 a1 M0 = some M') : Met l yX5_shade (.code yX5_shade cX5_shade 2 none :: sx_T) ({ frames := 1, cells := 0, slots := 0, locals := 20 } : Room) (sx_Pc C M0 [.ref (sx_ad C 6 s0), .int a1]) (sx_Q C none M') 0 0 (sx_A C) := by
  refine Met.ofW (cc := cX5_shade) (maxL := 2) (ret := none) (by decide) rfl ?_
  intro p e s m args below meth c s₁ B hml hv
  obtain ⟨rfl, hz, hP, hK⟩ := hv
  have hl := lv_entry ([.ref (sx_ad C 6 s0), .int a1]) (n := 2) (Nat.le_of_ble_eq_true rfl)
  rw [lg_entry_eq]
  generalize (lg_sl ([.ref (sx_ad C 6 s0), .int a1]) ++ List.replicate (2 - (lg_sl ([.ref (sx_ad C 6 s0), .int a1])).length) Slot.unset).toArray = ls at hl ⊢
  exact wk_5_shade ⟨B.exec, B.bytes, hml, findClass_of_methodNamed B.named, fun w hw => atoms_spec B.pre w (List.mem_cons_of_mem _ hw), hK⟩ B.returns B.notSynchronized hG hz ⟨Nat.zero_le _, Nat.zero_le _⟩ ⟨Nat.le_refl _, Nat.le_refl _⟩ s0 a1 hs_s0 M0 M' h hl hP va_S.rf
theorem cl_X3_187 (X : sx_X C p m c cc nL s args RX3) (hG : sx_G C) (hP : sx_W C M0 H) (hz : sx_sz C ≤ H0.size) (hS : va_S (sx_A C) H0 H locs) {s0 : Nat} {a1 : Int32} (hs_s0 : s0 < 18) {M' : sx_M} (h : f5_shade s0 a1 M0 = some M') (hsz : ls.size = nL) (hdg : decode cc pc = .ok (.invokevirtual 187, 3)) (hcs : cells ≤ R.cells ∧ slots ≤ R.slots) (hR : 1 + 1 ≤ R.frames ∧ 8 + (2 + 11) + 20 ≤ R.locals) (hrest : (rest.map fun v => v.category).sum ≤ 8) (kk : ∀ (H1 : Heap) (locs1 : List Loc), sx_W C M' H1 → va_S (sx_A C) H0 H1 locs1 → W p l e R s m args below meth c H1 locs1 cells slots Q (F0 m (pc + 3) ls (rest))) : W p l e R s m args below meth c H locs cells slots Q (F0 m pc ls (.int a1 :: .ref (sx_ad C 6 s0) :: rest)) :=
  sx_callV (n := 1) (As := [.int a1]) (k0 := 6) (s0 := s0) X hP hz hS hs_s0 rfl rfl (sx_goodV tw_355 tw_356 tw_357 tw_67 tw_358) (by decide +kernel) rfl rfl hR (ct_5_shade l C hG s0 a1 hs_s0 M0 M' h) rfl rfl hrest hsz hdg hcs kk
-- StringShed$Sweep.stop()V
def f5_stop (s0 : Nat) (M0 : sx_M) : Option (sx_M) :=
  if (0 : Int32) = 0 ∨ (0 : Int32) = 1 then
  sx_bd (sx_set M0 6 s0 4 (0 : Int32)) fun M1 =>
  sx_bd (sx_set M1 6 s0 1 (0 : Int32)) fun M2 =>
  sx_bd (sx_set M2 6 s0 2 (0 : Int32)) fun M3 =>
  sx_bd (sx_set M3 6 s0 3 (0 : Int32)) fun M4 =>
  some M4
  else none
set_option maxRecDepth 100000 in
set_option maxHeartbeats 4000000 in
theorem wk_5_stop (X : sx_X C p m c cX5_stop 1 s args RX5) (hr : meth.sig.returnType = none) (hlocks : meth.locks = false) (hG : sx_G C) (hz : sx_sz C ≤ s.heap.size) (hcs : 0 ≤ R.cells ∧ 0 ≤ R.slots) (hR : 0 ≤ R.frames ∧ 0 ≤ R.locals) (s0 : Nat) (hs_s0 : s0 < 18) (M0 : sx_M) (M' : sx_M) (h : f5_stop s0 M0 = some M') (hl : lv_has ls 1 [(0, .ref (sx_ad C 6 s0))]) (hP : sx_W C M0 H) (hS : va_S (sx_A C) s.heap H locs) : W p l e R s m args below meth c H locs 0 0 (sx_Z C none M' below args s) (F0 m 0 ls []) := by
  obtain ⟨hx, hb, hml, hown, hts, hK⟩ := id X
  rw [f5_stop] at h
  refine lv_aload_n hx hb dX5_stop_0 rfl (lv_at hl 0 rfl) ?_
  refine lv_iconst (v := (0 : Int32)) hx hb dX5_stop_1 (by decide) ?_
  refine pf_X5_25 X hG hP hS hs_s0 dX5_stop_2 h (fun M1 H locs h hP hS => ?_)
  refine lv_aload_n hx hb dX5_stop_5 rfl (lv_at hl 0 rfl) ?_
  refine lv_iconst (v := (0 : Int32)) hx hb dX5_stop_6 (by decide) ?_
  refine pf_X5_15 X hG hP hS hs_s0 dX5_stop_7 h (fun M2 H locs h hP hS => ?_)
  refine lv_aload_n hx hb dX5_stop_10 rfl (lv_at hl 0 rfl) ?_
  refine lv_iconst (v := (0 : Int32)) hx hb dX5_stop_11 (by decide) ?_
  refine pf_X5_19 X hG hP hS hs_s0 dX5_stop_12 h (fun M3 H locs h hP hS => ?_)
  refine lv_aload_n hx hb dX5_stop_15 rfl (lv_at hl 0 rfl) ?_
  refine lv_iconst (v := (0 : Int32)) hx hb dX5_stop_16 (by decide) ?_
  refine pf_X5_22 X hG hP hS hs_s0 dX5_stop_17 h (fun M4 H locs h hP hS => ?_)
  exact sx_vret X hr hlocks hS hP h dX5_stop_20
set_option maxRecDepth 100000 in
theorem ct_5_stop (l : Launch) (C : sx_C) (hG : sx_G C) (s0 : Nat) (hs_s0 : s0 < 18) (M0 : sx_M) (M' : sx_M) (h : f5_stop s0 M0 = some M') : Met l yX5_stop (.code yX5_stop cX5_stop 1 none :: sx_T) ({ frames := 0, cells := 0, slots := 0, locals := 0 } : Room) (sx_Pc C M0 [.ref (sx_ad C 6 s0)]) (sx_Q C none M') 0 0 (sx_A C) := by
  refine Met.ofW (cc := cX5_stop) (maxL := 1) (ret := none) (by decide) rfl ?_
  intro p e s m args below meth c s₁ B hml hv
  obtain ⟨rfl, hz, hP, hK⟩ := hv
  have hl := lv_entry ([.ref (sx_ad C 6 s0)]) (n := 1) (Nat.le_of_ble_eq_true rfl)
  rw [lg_entry_eq]
  generalize (lg_sl ([.ref (sx_ad C 6 s0)]) ++ List.replicate (1 - (lg_sl ([.ref (sx_ad C 6 s0)])).length) Slot.unset).toArray = ls at hl ⊢
  exact wk_5_stop ⟨B.exec, B.bytes, hml, findClass_of_methodNamed B.named, fun w hw => atoms_spec B.pre w (List.mem_cons_of_mem _ hw), hK⟩ B.returns B.notSynchronized hG hz ⟨Nat.zero_le _, Nat.zero_le _⟩ ⟨Nat.le_refl _, Nat.le_refl _⟩ s0 hs_s0 M0 M' h hl hP va_S.rf
theorem cl_X3_55 (X : sx_X C p m c cc nL s args RX3) (hG : sx_G C) (hP : sx_W C M0 H) (hz : sx_sz C ≤ H0.size) (hS : va_S (sx_A C) H0 H locs) {s0 : Nat} (hs_s0 : s0 < 18) {M' : sx_M} (h : f5_stop s0 M0 = some M') (hsz : ls.size = nL) (hdg : decode cc pc = .ok (.invokevirtual 55, 3)) (hcs : cells ≤ R.cells ∧ slots ≤ R.slots) (hR : 0 + 1 ≤ R.frames ∧ 8 + (1 + 11) + 0 ≤ R.locals) (hrest : (rest.map fun v => v.category).sum ≤ 8) (kk : ∀ (H1 : Heap) (locs1 : List Loc), sx_W C M' H1 → va_S (sx_A C) H0 H1 locs1 → W p l e R s m args below meth c H1 locs1 cells slots Q (F0 m (pc + 3) ls (rest))) : W p l e R s m args below meth c H locs cells slots Q (F0 m pc ls (.ref (sx_ad C 6 s0) :: rest)) :=
  sx_callV (n := 0) (As := []) (k0 := 6) (s0 := s0) X hP hz hS hs_s0 rfl rfl (sx_goodV tw_388 tw_351 tw_352 tw_67 tw_353) (by decide +kernel) rfl rfl hR (ct_5_stop l C hG s0 hs_s0 M0 M' h) rfl rfl hrest hsz hdg hcs kk
theorem cl_X5_29 (X : sx_X C p m c cc nL s args RX5) (hG : sx_G C) (hP : sx_W C M0 H) (hz : sx_sz C ≤ H0.size) (hS : va_S (sx_A C) H0 H locs) {s0 : Nat} (hs_s0 : s0 < 18) {M' : sx_M} (h : f5_stop s0 M0 = some M') (hsz : ls.size = nL) (hdg : decode cc pc = .ok (.invokevirtual 29, 3)) (hcs : cells ≤ R.cells ∧ slots ≤ R.slots) (hR : 0 + 1 ≤ R.frames ∧ 8 + (1 + 11) + 0 ≤ R.locals) (hrest : (rest.map fun v => v.category).sum ≤ 8) (kk : ∀ (H1 : Heap) (locs1 : List Loc), sx_W C M' H1 → va_S (sx_A C) H0 H1 locs1 → W p l e R s m args below meth c H1 locs1 cells slots Q (F0 m (pc + 3) ls (rest))) : W p l e R s m args below meth c H locs cells slots Q (F0 m pc ls (.ref (sx_ad C 6 s0) :: rest)) :=
  sx_callV (n := 0) (As := []) (k0 := 6) (s0 := s0) X hP hz hS hs_s0 rfl rfl (sx_goodV tw_350 tw_351 tw_352 tw_67 tw_353) (by decide +kernel) rfl rfl hR (ct_5_stop l C hG s0 hs_s0 M0 M' h) rfl rfl hrest hsz hdg hcs kk
-- StringShed$Sweep.start(I)V
def f5_start (s0 : Nat) (a1 : Int32) (M0 : sx_M) : Option (sx_M) :=
  (f5_stop s0 M0).bind fun M1 =>
  if (1 : Int32) = 0 ∨ (1 : Int32) = 1 then
  sx_bd (sx_set M1 6 s0 4 (1 : Int32)) fun M2 =>
  sx_bd (sx_set M2 6 s0 2 a1) fun M3 =>
  some M3
  else none
set_option maxRecDepth 100000 in
set_option maxHeartbeats 4000000 in
theorem wk_5_start (X : sx_X C p m c cX5_start 2 s args RX5) (hr : meth.sig.returnType = none) (hlocks : meth.locks = false) (hG : sx_G C) (hz : sx_sz C ≤ s.heap.size) (hcs : 0 ≤ R.cells ∧ 0 ≤ R.slots) (hR : 1 ≤ R.frames ∧ 20 ≤ R.locals) (s0 : Nat) (a1 : Int32) (hs_s0 : s0 < 18) (M0 : sx_M) (M' : sx_M) (h : f5_start s0 a1 M0 = some M') (hl : lv_has ls 2 [(0, .ref (sx_ad C 6 s0)), (1, .int a1)]) (hP : sx_W C M0 H) (hS : va_S (sx_A C) s.heap H locs) : W p l e R s m args below meth c H locs 0 0 (sx_Z C none M' below args s) (F0 m 0 ls []) := by
  obtain ⟨hx, hb, hml, hown, hts, hK⟩ := id X
  rw [f5_start] at h
  refine lv_aload_n hx hb dX5_start_0 rfl (lv_at hl 0 rfl) ?_
  obtain ⟨M1, e_M1, h⟩ := sx_bnd h
  refine cl_X5_29 X hG hP hz hS hs_s0 e_M1 hl.1 dX5_start_1 hcs ⟨Nat.le_trans (by decide) hR.1, Nat.le_trans (by decide) hR.2⟩ (Nat.le_of_ble_eq_true rfl) (fun H locs hP hS => ?_)
  refine lv_aload_n hx hb dX5_start_4 rfl (lv_at hl 0 rfl) ?_
  refine lv_iconst (v := (1 : Int32)) hx hb dX5_start_5 (by decide) ?_
  refine pf_X5_25 X hG hP hS hs_s0 dX5_start_6 h (fun M2 H locs h hP hS => ?_)
  refine lv_aload_n hx hb dX5_start_9 rfl (lv_at hl 0 rfl) ?_
  refine lv_iload_n hx hb dX5_start_10 rfl (lv_at hl 1 rfl) ?_
  refine pf_X5_19 X hG hP hS hs_s0 dX5_start_11 h (fun M3 H locs h hP hS => ?_)
  exact sx_vret X hr hlocks hS hP h dX5_start_14
set_option maxRecDepth 100000 in
theorem ct_5_start (l : Launch) (C : sx_C) (hG : sx_G C) (s0 : Nat) (a1 : Int32) (hs_s0 : s0 < 18) (M0 : sx_M) (M' : sx_M) (h : f5_start s0 a1 M0 = some M') : Met l yX5_start (.code yX5_start cX5_start 2 none :: sx_T) ({ frames := 1, cells := 0, slots := 0, locals := 20 } : Room) (sx_Pc C M0 [.ref (sx_ad C 6 s0), .int a1]) (sx_Q C none M') 0 0 (sx_A C) := by
  refine Met.ofW (cc := cX5_start) (maxL := 2) (ret := none) (by decide) rfl ?_
  intro p e s m args below meth c s₁ B hml hv
  obtain ⟨rfl, hz, hP, hK⟩ := hv
  have hl := lv_entry ([.ref (sx_ad C 6 s0), .int a1]) (n := 2) (Nat.le_of_ble_eq_true rfl)
  rw [lg_entry_eq]
  generalize (lg_sl ([.ref (sx_ad C 6 s0), .int a1]) ++ List.replicate (2 - (lg_sl ([.ref (sx_ad C 6 s0), .int a1])).length) Slot.unset).toArray = ls at hl ⊢
  exact wk_5_start ⟨B.exec, B.bytes, hml, findClass_of_methodNamed B.named, fun w hw => atoms_spec B.pre w (List.mem_cons_of_mem _ hw), hK⟩ B.returns B.notSynchronized hG hz ⟨Nat.zero_le _, Nat.zero_le _⟩ ⟨Nat.le_refl _, Nat.le_refl _⟩ s0 a1 hs_s0 M0 M' h hl hP va_S.rf
theorem cl_X3_196 (X : sx_X C p m c cc nL s args RX3) (hG : sx_G C) (hP : sx_W C M0 H) (hz : sx_sz C ≤ H0.size) (hS : va_S (sx_A C) H0 H locs) {s0 : Nat} {a1 : Int32} (hs_s0 : s0 < 18) {M' : sx_M} (h : f5_start s0 a1 M0 = some M') (hsz : ls.size = nL) (hdg : decode cc pc = .ok (.invokevirtual 196, 3)) (hcs : cells ≤ R.cells ∧ slots ≤ R.slots) (hR : 1 + 1 ≤ R.frames ∧ 8 + (2 + 11) + 20 ≤ R.locals) (hrest : (rest.map fun v => v.category).sum ≤ 8) (kk : ∀ (H1 : Heap) (locs1 : List Loc), sx_W C M' H1 → va_S (sx_A C) H0 H1 locs1 → W p l e R s m args below meth c H1 locs1 cells slots Q (F0 m (pc + 3) ls (rest))) : W p l e R s m args below meth c H locs cells slots Q (F0 m pc ls (.int a1 :: .ref (sx_ad C 6 s0) :: rest)) :=
  sx_callV (n := 1) (As := [.int a1]) (k0 := 6) (s0 := s0) X hP hz hS hs_s0 rfl rfl (sx_goodV tw_346 tw_347 tw_348 tw_67 tw_349) (by decide +kernel) rfl rfl hR (ct_5_start l C hG s0 a1 hs_s0 M0 M' h) rfl rfl hrest hsz hdg hcs kk
-- StringShed$Sweep.graysInRow()I pure
def f5_graysInRow (s0 : Nat) (M0 : sx_M) : Option (Int32) :=
  sx_bd (M0.1 6 s0 1) fun v1 =>
  some v1
set_option maxRecDepth 100000 in
set_option maxHeartbeats 4000000 in
theorem wk_5_graysInRow (X : sx_X C p m c cX5_graysInRow 1 s args RX5) (hr : meth.sig.returnType = (some .int)) (hlocks : meth.locks = false) (hG : sx_G C) (hz : sx_sz C ≤ s.heap.size) (hcs : 0 ≤ R.cells ∧ 0 ≤ R.slots) (hR : 0 ≤ R.frames ∧ 0 ≤ R.locals) (s0 : Nat) (hs_s0 : s0 < 18) (M0 : sx_M) (r : Int32) (h : f5_graysInRow s0 M0 = some r) (hl : lv_has ls 1 [(0, .ref (sx_ad C 6 s0))]) (hP : sx_W C M0 H) (hS : va_S (sx_A C) s.heap H locs) : W p l e R s m args below meth c H locs 0 0 (sx_Z C (some (.int r)) M0 below args s) (F0 m 0 ls []) := by
  obtain ⟨hx, hb, hml, hown, hts, hK⟩ := id X
  rw [f5_graysInRow] at h
  refine lv_aload_n hx hb dX5_graysInRow_0 rfl (lv_at hl 0 rfl) ?_
  refine gf_X5_15 X hP hs_s0 dX5_graysInRow_1 h (fun v1 h => ?_)
  exact sx_iret X hr hlocks hS hP h dX5_graysInRow_4
set_option maxRecDepth 100000 in
theorem ct_5_graysInRow (l : Launch) (C : sx_C) (hG : sx_G C) (s0 : Nat) (hs_s0 : s0 < 18) (M0 : sx_M) (r : Int32) (h : f5_graysInRow s0 M0 = some r) : Met l yX5_graysInRow (.code yX5_graysInRow cX5_graysInRow 1 (some .int) :: sx_T) ({ frames := 0, cells := 0, slots := 0, locals := 0 } : Room) (sx_Pc C M0 [.ref (sx_ad C 6 s0)]) (sx_Q C (some (.int r)) M0) 0 0 (sx_A C) := by
  refine Met.ofW (cc := cX5_graysInRow) (maxL := 1) (ret := (some .int)) (by decide) rfl ?_
  intro p e s m args below meth c s₁ B hml hv
  obtain ⟨rfl, hz, hP, hK⟩ := hv
  have hl := lv_entry ([.ref (sx_ad C 6 s0)]) (n := 1) (Nat.le_of_ble_eq_true rfl)
  rw [lg_entry_eq]
  generalize (lg_sl ([.ref (sx_ad C 6 s0)]) ++ List.replicate (1 - (lg_sl ([.ref (sx_ad C 6 s0)])).length) Slot.unset).toArray = ls at hl ⊢
  exact wk_5_graysInRow ⟨B.exec, B.bytes, hml, findClass_of_methodNamed B.named, fun w hw => atoms_spec B.pre w (List.mem_cons_of_mem _ hw), hK⟩ B.returns B.notSynchronized hG hz ⟨Nat.zero_le _, Nat.zero_le _⟩ ⟨Nat.le_refl _, Nat.le_refl _⟩ s0 hs_s0 M0 r h hl hP va_S.rf
theorem cl_X3_202 (X : sx_X C p m c cc nL s args RX3) (hG : sx_G C) (hP : sx_W C M0 H) (hz : sx_sz C ≤ H0.size) (hS : va_S (sx_A C) H0 H locs) {s0 : Nat} (hs_s0 : s0 < 18) {r : Int32} (h : f5_graysInRow s0 M0 = some r) (hsz : ls.size = nL) (hdg : decode cc pc = .ok (.invokevirtual 202, 3)) (hcs : cells ≤ R.cells ∧ slots ≤ R.slots) (hR : 0 + 1 ≤ R.frames ∧ 8 + (1 + 11) + 0 ≤ R.locals) (hrest : (rest.map fun v => v.category).sum ≤ 8) (kk : ∀ (H1 : Heap) (locs1 : List Loc), sx_W C M0 H1 → va_S (sx_A C) H0 H1 locs1 → W p l e R s m args below meth c H1 locs1 cells slots Q (F0 m (pc + 3) ls ((.int r) :: rest))) : W p l e R s m args below meth c H locs cells slots Q (F0 m pc ls (.ref (sx_ad C 6 s0) :: rest)) :=
  sx_callV (n := 0) (As := []) (k0 := 6) (s0 := s0) X hP hz hS hs_s0 rfl rfl (sx_goodV tw_360 tw_361 tw_362 tw_67 tw_363) (by decide +kernel) rfl rfl hR (ct_5_graysInRow l C hG s0 hs_s0 M0 r h) rfl rfl hrest hsz hdg hcs kk
-- StringShed$Sweep.blackenFirst()I
def f5_blackenFirst_L19 (s0 : Nat) (w1 : Int32) (k53 : (sx_M → Option (Int32 × sx_M))) : Nat → Int32 → sx_M → Option (Int32 × sx_M)
  | 0, _, _ => none
  | n + 1, x2, M =>
    sx_bd (M.1 6 s0 1) fun v4 =>
    if v4 ≤ x2 then
      k53 M
    else
      if (24 : Int32) ≤ x2 then
        k53 M
      else
        if sx_in x2 24 then
        sx_bd (M.1 7 s0 (x2).toNatClampNeg) fun v7 =>
        if sx_in (x2 - (1 : Int32)) 24 then
        sx_bd (sx_set M 7 s0 (x2 - (1 : Int32)).toNatClampNeg v7) fun M8 =>
        sx_bd (x2 + (1 : Int32)) fun v9 =>
        f5_blackenFirst_L19 s0 w1 k53 n v9 M8
        else none
        else none
def f5_blackenFirst (s0 : Nat) (M0 : sx_M) : Option (Int32 × sx_M) :=
  sx_bd (M0.1 6 s0 1) fun v1 =>
  if 0 < v1 then
    if sx_in (0 : Int32) 24 then
    sx_bd (M0.1 7 s0 ((0 : Int32)).toNatClampNeg) fun v3 =>
    f5_blackenFirst_L19 s0 v3
      (fun (M10 : sx_M) =>
        sx_bd (M10.1 6 s0 1) fun v11 =>
        sx_bd (sx_set M10 6 s0 1 (v11 - (1 : Int32))) fun M12 =>
        sx_bd (M12.1 6 s0 3) fun v13 =>
        (f7_bitOf v3 M12).bind fun v14 =>
        sx_bd (sx_set M12 6 s0 3 (v13 ||| v14)) fun M15 =>
        some (v3, M15))
      5000 (1 : Int32) M0
    else none
  else
    some ((-9 : Int32), M0)
set_option maxRecDepth 100000 in
set_option maxHeartbeats 4000000 in
theorem wk_5_blackenFirst (X : sx_X C p m c cX5_blackenFirst 3 s args RX5) (hr : meth.sig.returnType = (some .int)) (hlocks : meth.locks = false) (hG : sx_G C) (hz : sx_sz C ≤ s.heap.size) (hcs : 0 ≤ R.cells ∧ 0 ≤ R.slots) (hR : 1 ≤ R.frames ∧ 20 ≤ R.locals) (s0 : Nat) (hs_s0 : s0 < 18) (M0 : sx_M) (r : Int32) (M' : sx_M) (h : f5_blackenFirst s0 M0 = some (r, M')) (hl : lv_has ls 3 [(0, .ref (sx_ad C 6 s0))]) (hP : sx_W C M0 H) (hS : va_S (sx_A C) s.heap H locs) : W p l e R s m args below meth c H locs 0 0 (sx_Z C (some (.int r)) M' below args s) (F0 m 0 ls []) := by
  obtain ⟨hx, hb, hml, hown, hts, hK⟩ := id X
  rw [f5_blackenFirst] at h
  have hf5_blackenFirst_L19 : ∀ (s0 : Nat) (w1 : Int32) (hs_s0 : s0 < 18) (k53 : (sx_M → Option (Int32 × sx_M))) (n : Nat) (hk53 : (∀ (M : sx_M) (H : Heap) (locs : List Loc) (ls : Array Slot), lv_has ls 3 [(0, .ref (sx_ad C 6 s0)), (1, .int w1)] → sx_W C M H → va_S (sx_A C) s.heap H locs → k53 M = some (r, M') → W p l e R s m args below meth c H locs 0 0 (sx_Z C (some (.int r)) M' below args s) (F0 m 53 ls []))) (x2 : Int32) (M : sx_M) (H : Heap) (locs : List Loc) (ls : Array Slot), lv_has ls 3 [(0, .ref (sx_ad C 6 s0)), (1, .int w1), (2, .int x2)] → sx_W C M H → va_S (sx_A C) s.heap H locs → f5_blackenFirst_L19 s0 w1 k53 n x2 M = some (r, M') → W p l e R s m args below meth c H locs 0 0 (sx_Z C (some (.int r)) M' below args s) (F0 m 19 ls []) := by
    intro s0 w1 hs_s0 k53 n hk53
    induction n with
    | zero => intro x2 M H locs ls hl hP hS h; exact absurd (show (none : Option (Int32 × sx_M)) = some (r, M') from h) (fun q => nomatch q)
    | succ n ih =>
      intro x2 M H locs ls hl hP hS h
      rw [f5_blackenFirst_L19] at h
      refine lv_iload_n hx hb dX5_blackenFirst_19 rfl (lv_at hl 2 rfl) ?_
      refine lv_aload_n hx hb dX5_blackenFirst_20 rfl (lv_at hl 0 rfl) ?_
      refine gf_X5_15 X hP hs_s0 dX5_blackenFirst_21 h (fun v4 h => ?_)
      refine lv_icmp_ge (tgt := 53) hx hb dX5_blackenFirst_24 (by decide) (fun c5 => ?_) (fun c5 => ?_)
      · replace h := sx_ifp h c5
        exact hk53 M H locs ls (lv_sub hl [0, 1] rfl) hP hS h
      · replace h := sx_ifn h c5
        refine lv_iload_n hx hb dX5_blackenFirst_27 rfl (lv_at hl 2 rfl) ?_
        refine lv_bipush (v := (24 : Int32)) hx hb dX5_blackenFirst_28 (by decide) ?_
        refine lv_icmp_ge (tgt := 53) hx hb dX5_blackenFirst_30 (by decide) (fun c6 => ?_) (fun c6 => ?_)
        · replace h := sx_ifp h c6
          exact hk53 M H locs ls (lv_sub hl [0, 1] rfl) hP hS h
        · replace h := sx_ifn h c6
          refine lv_aload_n hx hb dX5_blackenFirst_33 rfl (lv_at hl 0 rfl) ?_
          refine gf_X5_9 X hP hs_s0 dX5_blackenFirst_34 ?_
          refine lv_iload_n hx hb dX5_blackenFirst_37 rfl (lv_at hl 2 rfl) ?_
          refine lv_iconst (v := (1 : Int32)) hx hb dX5_blackenFirst_38 (by decide) ?_
          refine lv_isub hx hb dX5_blackenFirst_39 ?_
          refine lv_aload_n hx hb dX5_blackenFirst_40 rfl (lv_at hl 0 rfl) ?_
          refine gf_X5_9 X hP hs_s0 dX5_blackenFirst_41 ?_
          refine lv_iload_n hx hb dX5_blackenFirst_44 rfl (lv_at hl 2 rfl) ?_
          refine sx_iald X hP 7 s0 24 hs_s0 (fun _ _ => rfl) dX5_blackenFirst_45 h (fun v7 h => ?_)
          refine sx_iast X hG hP hS 7 s0 24 hs_s0 (fun _ _ => rfl) dX5_blackenFirst_46 h (fun M8 H locs h hP hS => ?_)
          obtain ⟨v9, e_v9, h⟩ := sx_nm h
          refine lv_iinc (v := v9) (lv' := [(2, .int v9), (0, .ref (sx_ad C 6 s0)), (1, .int w1)]) hx hb dX5_blackenFirst_47 hl (k := 2) rfl (by rw [← e_v9]; rfl) (by decide) rfl (fun ls hl => ?_)
          refine lv_goto (tgt := 19) hx hb dX5_blackenFirst_50 (by decide) ?_
          exact ih v9 M8 H locs ls (lv_sub hl [1, 2, 0] rfl) hP hS h
  refine lv_aload_n hx hb dX5_blackenFirst_0 rfl (lv_at hl 0 rfl) ?_
  refine gf_X5_15 X hP hs_s0 dX5_blackenFirst_1 h (fun v1 h => ?_)
  refine lv_if_gt (tgt := 10) hx hb dX5_blackenFirst_4 (by decide) (fun c2 => ?_) (fun c2 => ?_)
  · replace h := sx_ifp h c2
    refine lv_aload_n hx hb dX5_blackenFirst_10 rfl (lv_at hl 0 rfl) ?_
    refine gf_X5_9 X hP hs_s0 dX5_blackenFirst_11 ?_
    refine lv_iconst (v := (0 : Int32)) hx hb dX5_blackenFirst_14 (by decide) ?_
    refine sx_iald X hP 7 s0 24 hs_s0 (fun _ _ => rfl) dX5_blackenFirst_15 h (fun v3 h => ?_)
    refine lv_istore_n (lv' := [(1, .int v3), (0, .ref (sx_ad C 6 s0))]) hx hb dX5_blackenFirst_16 rfl hl (by decide) rfl (fun ls hl => ?_)
    refine lv_iconst (v := (1 : Int32)) hx hb dX5_blackenFirst_17 (by decide) ?_
    refine lv_istore_n (lv' := [(2, .int (1 : Int32)), (1, .int v3), (0, .ref (sx_ad C 6 s0))]) hx hb dX5_blackenFirst_18 rfl hl (by decide) rfl (fun ls hl => ?_)
    refine hf5_blackenFirst_L19 s0 v3 hs_s0 _ 5000 ?_ (1 : Int32) M0 H locs ls (lv_sub hl [2, 1, 0] rfl) hP hS h
    · intro M10 H locs ls hl hP hS h
      refine lv_aload_n hx hb dX5_blackenFirst_53 rfl (lv_at hl 0 rfl) ?_
      refine lv_dup hx hb dX5_blackenFirst_54 rfl ?_
      refine gf_X5_15 X hP hs_s0 dX5_blackenFirst_55 h (fun v11 h => ?_)
      refine lv_iconst (v := (1 : Int32)) hx hb dX5_blackenFirst_58 (by decide) ?_
      refine lv_isub hx hb dX5_blackenFirst_59 ?_
      refine pf_X5_15 X hG hP hS hs_s0 dX5_blackenFirst_60 h (fun M12 H locs h hP hS => ?_)
      refine lv_aload_n hx hb dX5_blackenFirst_63 rfl (lv_at hl 0 rfl) ?_
      refine lv_dup hx hb dX5_blackenFirst_64 rfl ?_
      refine gf_X5_22 X hP hs_s0 dX5_blackenFirst_65 h (fun v13 h => ?_)
      refine lv_iload_n hx hb dX5_blackenFirst_68 rfl (lv_at hl 1 rfl) ?_
      obtain ⟨v14, e_v14, h⟩ := sx_bnd h
      refine cl_X5_32 X hG hP hz hS  e_v14 hl.1 dX5_blackenFirst_69 hcs ⟨Nat.le_trans (by decide) hR.1, Nat.le_trans (by decide) hR.2⟩ (Nat.le_of_ble_eq_true rfl) (fun H locs hP hS => ?_)
      refine lv_ior hx hb dX5_blackenFirst_72 ?_
      refine pf_X5_22 X hG hP hS hs_s0 dX5_blackenFirst_73 h (fun M15 H locs h hP hS => ?_)
      refine lv_iload_n hx hb dX5_blackenFirst_76 rfl (lv_at hl 1 rfl) ?_
      exact sx_iretM X hr hlocks hS hP h dX5_blackenFirst_77
  · replace h := sx_ifn h c2
    refine lv_bipush (v := (-9 : Int32)) hx hb dX5_blackenFirst_7 (by decide) ?_
    exact sx_iretM X hr hlocks hS hP h dX5_blackenFirst_9
set_option maxRecDepth 100000 in
theorem ct_5_blackenFirst (l : Launch) (C : sx_C) (hG : sx_G C) (s0 : Nat) (hs_s0 : s0 < 18) (M0 : sx_M) (r : Int32) (M' : sx_M) (h : f5_blackenFirst s0 M0 = some (r, M')) : Met l yX5_blackenFirst (.code yX5_blackenFirst cX5_blackenFirst 3 (some .int) :: sx_T) ({ frames := 1, cells := 0, slots := 0, locals := 20 } : Room) (sx_Pc C M0 [.ref (sx_ad C 6 s0)]) (sx_Q C (some (.int r)) M') 0 0 (sx_A C) := by
  refine Met.ofW (cc := cX5_blackenFirst) (maxL := 3) (ret := (some .int)) (by decide) rfl ?_
  intro p e s m args below meth c s₁ B hml hv
  obtain ⟨rfl, hz, hP, hK⟩ := hv
  have hl := lv_entry ([.ref (sx_ad C 6 s0)]) (n := 3) (Nat.le_of_ble_eq_true rfl)
  rw [lg_entry_eq]
  generalize (lg_sl ([.ref (sx_ad C 6 s0)]) ++ List.replicate (3 - (lg_sl ([.ref (sx_ad C 6 s0)])).length) Slot.unset).toArray = ls at hl ⊢
  exact wk_5_blackenFirst ⟨B.exec, B.bytes, hml, findClass_of_methodNamed B.named, fun w hw => atoms_spec B.pre w (List.mem_cons_of_mem _ hw), hK⟩ B.returns B.notSynchronized hG hz ⟨Nat.zero_le _, Nat.zero_le _⟩ ⟨Nat.le_refl _, Nat.le_refl _⟩ s0 hs_s0 M0 r M' h hl hP va_S.rf
theorem cl_X3_205 (X : sx_X C p m c cc nL s args RX3) (hG : sx_G C) (hP : sx_W C M0 H) (hz : sx_sz C ≤ H0.size) (hS : va_S (sx_A C) H0 H locs) {s0 : Nat} (hs_s0 : s0 < 18) {r : Int32} {M' : sx_M} (h : f5_blackenFirst s0 M0 = some (r, M')) (hsz : ls.size = nL) (hdg : decode cc pc = .ok (.invokevirtual 205, 3)) (hcs : cells ≤ R.cells ∧ slots ≤ R.slots) (hR : 1 + 1 ≤ R.frames ∧ 8 + (3 + 11) + 20 ≤ R.locals) (hrest : (rest.map fun v => v.category).sum ≤ 8) (kk : ∀ (H1 : Heap) (locs1 : List Loc), sx_W C M' H1 → va_S (sx_A C) H0 H1 locs1 → W p l e R s m args below meth c H1 locs1 cells slots Q (F0 m (pc + 3) ls ((.int r) :: rest))) : W p l e R s m args below meth c H locs cells slots Q (F0 m pc ls (.ref (sx_ad C 6 s0) :: rest)) :=
  sx_callV (n := 0) (As := []) (k0 := 6) (s0 := s0) X hP hz hS hs_s0 rfl rfl (sx_goodV tw_372 tw_373 tw_374 tw_67 tw_375) (by decide +kernel) rfl rfl hR (ct_5_blackenFirst l C hG s0 hs_s0 M0 r M' h) rfl rfl hrest hsz hdg hcs kk
-- StringShed$Sweep.whites()I pure
def f5_whites (s0 : Nat) (M0 : sx_M) : Option (Int32) :=
  sx_bd (M0.1 6 s0 2) fun v1 =>
  some v1
set_option maxRecDepth 100000 in
set_option maxHeartbeats 4000000 in
theorem wk_5_whites (X : sx_X C p m c cX5_whites 1 s args RX5) (hr : meth.sig.returnType = (some .int)) (hlocks : meth.locks = false) (hG : sx_G C) (hz : sx_sz C ≤ s.heap.size) (hcs : 0 ≤ R.cells ∧ 0 ≤ R.slots) (hR : 0 ≤ R.frames ∧ 0 ≤ R.locals) (s0 : Nat) (hs_s0 : s0 < 18) (M0 : sx_M) (r : Int32) (h : f5_whites s0 M0 = some r) (hl : lv_has ls 1 [(0, .ref (sx_ad C 6 s0))]) (hP : sx_W C M0 H) (hS : va_S (sx_A C) s.heap H locs) : W p l e R s m args below meth c H locs 0 0 (sx_Z C (some (.int r)) M0 below args s) (F0 m 0 ls []) := by
  obtain ⟨hx, hb, hml, hown, hts, hK⟩ := id X
  rw [f5_whites] at h
  refine lv_aload_n hx hb dX5_whites_0 rfl (lv_at hl 0 rfl) ?_
  refine gf_X5_19 X hP hs_s0 dX5_whites_1 h (fun v1 h => ?_)
  exact sx_iret X hr hlocks hS hP h dX5_whites_4
set_option maxRecDepth 100000 in
theorem ct_5_whites (l : Launch) (C : sx_C) (hG : sx_G C) (s0 : Nat) (hs_s0 : s0 < 18) (M0 : sx_M) (r : Int32) (h : f5_whites s0 M0 = some r) : Met l yX5_whites (.code yX5_whites cX5_whites 1 (some .int) :: sx_T) ({ frames := 0, cells := 0, slots := 0, locals := 0 } : Room) (sx_Pc C M0 [.ref (sx_ad C 6 s0)]) (sx_Q C (some (.int r)) M0) 0 0 (sx_A C) := by
  refine Met.ofW (cc := cX5_whites) (maxL := 1) (ret := (some .int)) (by decide) rfl ?_
  intro p e s m args below meth c s₁ B hml hv
  obtain ⟨rfl, hz, hP, hK⟩ := hv
  have hl := lv_entry ([.ref (sx_ad C 6 s0)]) (n := 1) (Nat.le_of_ble_eq_true rfl)
  rw [lg_entry_eq]
  generalize (lg_sl ([.ref (sx_ad C 6 s0)]) ++ List.replicate (1 - (lg_sl ([.ref (sx_ad C 6 s0)])).length) Slot.unset).toArray = ls at hl ⊢
  exact wk_5_whites ⟨B.exec, B.bytes, hml, findClass_of_methodNamed B.named, fun w hw => atoms_spec B.pre w (List.mem_cons_of_mem _ hw), hK⟩ B.returns B.notSynchronized hG hz ⟨Nat.zero_le _, Nat.zero_le _⟩ ⟨Nat.le_refl _, Nat.le_refl _⟩ s0 hs_s0 M0 r h hl hP va_S.rf
theorem cl_X3_217 (X : sx_X C p m c cc nL s args RX3) (hG : sx_G C) (hP : sx_W C M0 H) (hz : sx_sz C ≤ H0.size) (hS : va_S (sx_A C) H0 H locs) {s0 : Nat} (hs_s0 : s0 < 18) {r : Int32} (h : f5_whites s0 M0 = some r) (hsz : ls.size = nL) (hdg : decode cc pc = .ok (.invokevirtual 217, 3)) (hcs : cells ≤ R.cells ∧ slots ≤ R.slots) (hR : 0 + 1 ≤ R.frames ∧ 8 + (1 + 11) + 0 ≤ R.locals) (hrest : (rest.map fun v => v.category).sum ≤ 8) (kk : ∀ (H1 : Heap) (locs1 : List Loc), sx_W C M0 H1 → va_S (sx_A C) H0 H1 locs1 → W p l e R s m args below meth c H1 locs1 cells slots Q (F0 m (pc + 3) ls ((.int r) :: rest))) : W p l e R s m args below meth c H locs cells slots Q (F0 m pc ls (.ref (sx_ad C 6 s0) :: rest)) :=
  sx_callV (n := 0) (As := []) (k0 := 6) (s0 := s0) X hP hz hS hs_s0 rfl rfl (sx_goodV tw_380 tw_381 tw_382 tw_67 tw_383) (by decide +kernel) rfl rfl hR (ct_5_whites l C hG s0 hs_s0 M0 r h) rfl rfl hrest hsz hdg hcs kk
-- StringShed$Sweep.colourOf(I)I pure
def f5_colourOf (s0 : Nat) (a1 : Int32) (M0 : sx_M) : Option (Int32) :=
  sx_bd (M0.1 6 s0 4) fun v1 =>
  if v1 = 0 then
    some (-9 : Int32)
  else
    sx_bd (M0.1 6 s0 2) fun v3 =>
    (f7_bitOf a1 M0).bind fun v4 =>
    if (v3 &&& v4) = 0 then
      sx_bd (M0.1 6 s0 3) fun v6 =>
      (f7_bitOf a1 M0).bind fun v7 =>
      sx_bd (fun (v8 : Int32) =>
        some v8) fun j41 =>
      if (v6 &&& v7) = 0 then
        j41 (1 : Int32)
      else
        j41 (2 : Int32)
    else
      some (0 : Int32)
set_option maxRecDepth 100000 in
set_option maxHeartbeats 4000000 in
theorem wk_5_colourOf (X : sx_X C p m c cX5_colourOf 2 s args RX5) (hr : meth.sig.returnType = (some .int)) (hlocks : meth.locks = false) (hG : sx_G C) (hz : sx_sz C ≤ s.heap.size) (hcs : 0 ≤ R.cells ∧ 0 ≤ R.slots) (hR : 1 ≤ R.frames ∧ 20 ≤ R.locals) (s0 : Nat) (a1 : Int32) (hs_s0 : s0 < 18) (M0 : sx_M) (r : Int32) (h : f5_colourOf s0 a1 M0 = some r) (hl : lv_has ls 2 [(0, .ref (sx_ad C 6 s0)), (1, .int a1)]) (hP : sx_W C M0 H) (hS : va_S (sx_A C) s.heap H locs) : W p l e R s m args below meth c H locs 0 0 (sx_Z C (some (.int r)) M0 below args s) (F0 m 0 ls []) := by
  obtain ⟨hx, hb, hml, hown, hts, hK⟩ := id X
  rw [f5_colourOf] at h
  refine lv_aload_n hx hb dX5_colourOf_0 rfl (lv_at hl 0 rfl) ?_
  refine gf_X5_25 X hP hs_s0 dX5_colourOf_1 h (fun v1 h => ?_)
  refine lv_if_ne (tgt := 10) hx hb dX5_colourOf_4 (by decide) (fun c2 => ?_) (fun c2 => ?_)
  · replace h := sx_ifn h c2
    refine lv_aload_n hx hb dX5_colourOf_10 rfl (lv_at hl 0 rfl) ?_
    refine gf_X5_19 X hP hs_s0 dX5_colourOf_11 h (fun v3 h => ?_)
    refine lv_iload_n hx hb dX5_colourOf_14 rfl (lv_at hl 1 rfl) ?_
    obtain ⟨v4, e_v4, h⟩ := sx_bnd h
    refine cl_X5_32 X hG hP hz hS  e_v4 hl.1 dX5_colourOf_15 hcs ⟨Nat.le_trans (by decide) hR.1, Nat.le_trans (by decide) hR.2⟩ (Nat.le_of_ble_eq_true rfl) (fun H locs hP hS => ?_)
    refine lv_iand hx hb dX5_colourOf_18 ?_
    refine lv_if_eq (tgt := 24) hx hb dX5_colourOf_19 (by decide) (fun c5 => ?_) (fun c5 => ?_)
    · replace h := sx_ifp h c5
      refine lv_aload_n hx hb dX5_colourOf_24 rfl (lv_at hl 0 rfl) ?_
      refine gf_X5_22 X hP hs_s0 dX5_colourOf_25 h (fun v6 h => ?_)
      refine lv_iload_n hx hb dX5_colourOf_28 rfl (lv_at hl 1 rfl) ?_
      obtain ⟨v7, e_v7, h⟩ := sx_bnd h
      refine cl_X5_32 X hG hP hz hS  e_v7 hl.1 dX5_colourOf_29 hcs ⟨Nat.le_trans (by decide) hR.1, Nat.le_trans (by decide) hR.2⟩ (Nat.le_of_ble_eq_true rfl) (fun H locs hP hS => ?_)
      refine lv_iand hx hb dX5_colourOf_32 ?_
      obtain ⟨j41, e_j41, h⟩ := sx_nm h
      have hj41 : ∀ (v8 : Int32) (H : Heap) (locs : List Loc) (ls : Array Slot), lv_has ls 2 [] → sx_W C M0 H → va_S (sx_A C) s.heap H locs → j41 v8 = some r → W p l e R s m args below meth c H locs 0 0 (sx_Z C (some (.int r)) M0 below args s) (F0 m 41 ls [.int v8]) := by
        intro v8 H locs ls hl hP hS h
        subst e_j41
        exact sx_iret X hr hlocks hS hP h dX5_colourOf_41
      clear e_j41
      refine lv_if_eq (tgt := 40) hx hb dX5_colourOf_33 (by decide) (fun c9 => ?_) (fun c9 => ?_)
      · replace h := sx_ifp h c9
        refine lv_iconst (v := (1 : Int32)) hx hb dX5_colourOf_40 (by decide) ?_
        exact hj41 (1 : Int32) H locs ls (lv_sub hl [] rfl) hP hS h
      · replace h := sx_ifn h c9
        refine lv_iconst (v := (2 : Int32)) hx hb dX5_colourOf_36 (by decide) ?_
        refine lv_goto (tgt := 41) hx hb dX5_colourOf_37 (by decide) ?_
        exact hj41 (2 : Int32) H locs ls (lv_sub hl [] rfl) hP hS h
    · replace h := sx_ifn h c5
      refine lv_iconst (v := (0 : Int32)) hx hb dX5_colourOf_22 (by decide) ?_
      exact sx_iret X hr hlocks hS hP h dX5_colourOf_23
  · replace h := sx_ifp h c2
    refine lv_bipush (v := (-9 : Int32)) hx hb dX5_colourOf_7 (by decide) ?_
    exact sx_iret X hr hlocks hS hP h dX5_colourOf_9
set_option maxRecDepth 100000 in
theorem ct_5_colourOf (l : Launch) (C : sx_C) (hG : sx_G C) (s0 : Nat) (a1 : Int32) (hs_s0 : s0 < 18) (M0 : sx_M) (r : Int32) (h : f5_colourOf s0 a1 M0 = some r) : Met l yX5_colourOf (.code yX5_colourOf cX5_colourOf 2 (some .int) :: sx_T) ({ frames := 1, cells := 0, slots := 0, locals := 20 } : Room) (sx_Pc C M0 [.ref (sx_ad C 6 s0), .int a1]) (sx_Q C (some (.int r)) M0) 0 0 (sx_A C) := by
  refine Met.ofW (cc := cX5_colourOf) (maxL := 2) (ret := (some .int)) (by decide) rfl ?_
  intro p e s m args below meth c s₁ B hml hv
  obtain ⟨rfl, hz, hP, hK⟩ := hv
  have hl := lv_entry ([.ref (sx_ad C 6 s0), .int a1]) (n := 2) (Nat.le_of_ble_eq_true rfl)
  rw [lg_entry_eq]
  generalize (lg_sl ([.ref (sx_ad C 6 s0), .int a1]) ++ List.replicate (2 - (lg_sl ([.ref (sx_ad C 6 s0), .int a1])).length) Slot.unset).toArray = ls at hl ⊢
  exact wk_5_colourOf ⟨B.exec, B.bytes, hml, findClass_of_methodNamed B.named, fun w hw => atoms_spec B.pre w (List.mem_cons_of_mem _ hw), hK⟩ B.returns B.notSynchronized hG hz ⟨Nat.zero_le _, Nat.zero_le _⟩ ⟨Nat.le_refl _, Nat.le_refl _⟩ s0 a1 hs_s0 M0 r h hl hP va_S.rf
theorem cl_X3_115 (X : sx_X C p m c cc nL s args RX3) (hG : sx_G C) (hP : sx_W C M0 H) (hz : sx_sz C ≤ H0.size) (hS : va_S (sx_A C) H0 H locs) {s0 : Nat} {a1 : Int32} (hs_s0 : s0 < 18) {r : Int32} (h : f5_colourOf s0 a1 M0 = some r) (hsz : ls.size = nL) (hdg : decode cc pc = .ok (.invokevirtual 115, 3)) (hcs : cells ≤ R.cells ∧ slots ≤ R.slots) (hR : 1 + 1 ≤ R.frames ∧ 8 + (2 + 11) + 20 ≤ R.locals) (hrest : (rest.map fun v => v.category).sum ≤ 8) (kk : ∀ (H1 : Heap) (locs1 : List Loc), sx_W C M0 H1 → va_S (sx_A C) H0 H1 locs1 → W p l e R s m args below meth c H1 locs1 cells slots Q (F0 m (pc + 3) ls ((.int r) :: rest))) : W p l e R s m args below meth c H locs cells slots Q (F0 m pc ls (.int a1 :: .ref (sx_ad C 6 s0) :: rest)) :=
  sx_callV (n := 1) (As := [.int a1]) (k0 := 6) (s0 := s0) X hP hz hS hs_s0 rfl rfl (sx_goodV tw_729 tw_730 tw_731 tw_67 tw_732) (by decide +kernel) rfl rfl hR (ct_5_colourOf l C hG s0 a1 hs_s0 M0 r h) rfl rfl hrest hsz hdg hcs kk
end SXM
