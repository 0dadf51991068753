section SXM
variable {p : Program} {l : Launch} {e : Env} {R : Room} {s : State} {m : MethodId} {args : Array Value} {below : List Frame} {meth : Method} {c : Code} {H : Heap} {locs : List Loc} {cells slots : Nat} {Q : State → Prop}
variable {O : Type} {out : O} {C : sx_C} {M M0 : sx_M} {cc : ByteArray} {nL : Nat} {own : String} {pc : Nat} {ls : Array Slot} {rest : List Value} {H0 : Heap}
-- StringShed$Shed.copyFrom(LStringShed$Shed;)V
def f3_copyFrom_L69 (s0 : Nat) (s1 : Nat) (k101 : (sx_M → Option (sx_M))) : Nat → Int32 → sx_M → Option (sx_M)
  | 0, _, _ => none
  | n + 1, x2, M =>
    sx_bd (M.1 1 s0 3) fun v13 =>
    if v13 ≤ x2 then
      k101 M
    else
      if (24 : Int32) ≤ x2 then
        k101 M
      else
        if sx_in x2 24 then
        sx_bd (M.1 8 s1 (x2).toNatClampNeg) fun v16 =>
        if sx_in x2 24 then
        sx_bd (sx_set M 8 s0 (x2).toNatClampNeg v16) fun M17 =>
        sx_bd (x2 + (1 : Int32)) fun v18 =>
        f3_copyFrom_L69 s0 s1 k101 n v18 M17
        else none
        else none
def f3_copyFrom (s0 : Nat) (s1 : Nat) (M0 : sx_M) : Option (sx_M) :=
  (f4_copyFrom s0 s1 M0).bind fun M1 =>
  (f5_copyFrom s0 s1 M1).bind fun M2 =>
  sx_bd (M2.1 1 s1 3) fun v3 =>
  sx_bd (sx_set M2 1 s0 3 v3) fun M4 =>
  sx_bd (M4.1 1 s1 4) fun v5 =>
  sx_bd (sx_set M4 1 s0 4 v5) fun M6 =>
  sx_bd (M6.1 1 s1 5) fun v7 =>
  sx_bd (sx_set M6 1 s0 5 v7) fun M8 =>
  sx_bd (M8.1 1 s1 6) fun v9 =>
  sx_bd (sx_set M8 1 s0 6 v9) fun M10 =>
  sx_bd (M10.1 1 s1 7) fun v11 =>
  sx_bd (sx_set M10 1 s0 7 v11) fun M12 =>
  f3_copyFrom_L69 s0 s1
    (fun (M19 : sx_M) =>
      some M19)
    5000 (0 : Int32) M12
set_option maxRecDepth 100000 in
set_option maxHeartbeats 4000000 in
theorem wk_3_copyFrom (X : sx_X C p m c cX3_copyFrom 3 s args RX3) (hr : meth.sig.returnType = none) (hlocks : meth.locks = false) (hG : sx_G C) (hz : sx_sz C ≤ s.heap.size) (hcs : 0 ≤ R.cells ∧ 0 ≤ R.slots) (hR : 1 ≤ R.frames ∧ 22 ≤ R.locals) (s0 : Nat) (s1 : Nat) (hs_s0 : s0 < 18) (hs_s1 : s1 < 18) (M0 : sx_M) (M' : sx_M) (h : f3_copyFrom s0 s1 M0 = some M') (hl : lv_has ls 3 [(0, .ref (sx_ad C 1 s0)), (1, .ref (sx_ad C 1 s1))]) (hP : sx_W C M0 H) (hS : va_S (sx_A C) s.heap H locs) : W p l e R s m args below meth c H locs 0 0 (sx_Z C none M' below args s) (F0 m 0 ls []) := by
  obtain ⟨hx, hb, hml, hown, hts, hK⟩ := id X
  rw [f3_copyFrom] at h
  have hf3_copyFrom_L69 : ∀ (s0 : Nat) (s1 : Nat) (hs_s0 : s0 < 18) (hs_s1 : s1 < 18) (k101 : (sx_M → Option (sx_M))) (n : Nat) (hk101 : (∀ (M : sx_M) (H : Heap) (locs : List Loc) (ls : Array Slot), lv_has ls 3 [] → sx_W C M H → va_S (sx_A C) s.heap H locs → k101 M = some M' → W p l e R s m args below meth c H locs 0 0 (sx_Z C none M' below args s) (F0 m 101 ls []))) (x2 : Int32) (M : sx_M) (H : Heap) (locs : List Loc) (ls : Array Slot), lv_has ls 3 [(0, .ref (sx_ad C 1 s0)), (1, .ref (sx_ad C 1 s1)), (2, .int x2)] → sx_W C M H → va_S (sx_A C) s.heap H locs → f3_copyFrom_L69 s0 s1 k101 n x2 M = some M' → W p l e R s m args below meth c H locs 0 0 (sx_Z C none M' below args s) (F0 m 69 ls []) := by
    intro s0 s1 hs_s0 hs_s1 k101 n hk101
    induction n with
    | zero => intro x2 M H locs ls hl hP hS h; exact absurd (show (none : Option (sx_M)) = some M' from h) (fun q => nomatch q)
    | succ n ih =>
      intro x2 M H locs ls hl hP hS h
      rw [f3_copyFrom_L69] at h
      refine lv_iload_n hx hb dX3_copyFrom_69 rfl (lv_at hl 2 rfl) ?_
      refine lv_aload_n hx hb dX3_copyFrom_70 rfl (lv_at hl 0 rfl) ?_
      refine gf_X3_29 X hP hs_s0 dX3_copyFrom_71 h (fun v13 h => ?_)
      refine lv_icmp_ge (tgt := 101) hx hb dX3_copyFrom_74 (by decide) (fun c14 => ?_) (fun c14 => ?_)
      · replace h := sx_ifp h c14
        exact hk101 M H locs ls (lv_sub hl [] rfl) hP hS h
      · replace h := sx_ifn h c14
        refine lv_iload_n hx hb dX3_copyFrom_77 rfl (lv_at hl 2 rfl) ?_
        refine lv_bipush (v := (24 : Int32)) hx hb dX3_copyFrom_78 (by decide) ?_
        refine lv_icmp_ge (tgt := 101) hx hb dX3_copyFrom_80 (by decide) (fun c15 => ?_) (fun c15 => ?_)
        · replace h := sx_ifp h c15
          exact hk101 M H locs ls (lv_sub hl [] rfl) hP hS h
        · replace h := sx_ifn h c15
          refine lv_aload_n hx hb dX3_copyFrom_83 rfl (lv_at hl 0 rfl) ?_
          refine gf_X3_25 X hP hs_s0 dX3_copyFrom_84 ?_
          refine lv_iload_n hx hb dX3_copyFrom_87 rfl (lv_at hl 2 rfl) ?_
          refine lv_aload_n hx hb dX3_copyFrom_88 rfl (lv_at hl 1 rfl) ?_
          refine gf_X3_25 X hP hs_s1 dX3_copyFrom_89 ?_
          refine lv_iload_n hx hb dX3_copyFrom_92 rfl (lv_at hl 2 rfl) ?_
          refine sx_iald X hP 8 s1 24 hs_s1 (fun _ _ => rfl) dX3_copyFrom_93 h (fun v16 h => ?_)
          refine sx_iast X hG hP hS 8 s0 24 hs_s0 (fun _ _ => rfl) dX3_copyFrom_94 h (fun M17 H locs h hP hS => ?_)
          obtain ⟨v18, e_v18, h⟩ := sx_nm h
          refine lv_iinc (v := v18) (lv' := [(2, .int v18), (0, .ref (sx_ad C 1 s0)), (1, .ref (sx_ad C 1 s1))]) hx hb dX3_copyFrom_95 hl (k := 2) rfl (by rw [← e_v18]; rfl) (by decide) rfl (fun ls hl => ?_)
          refine lv_goto (tgt := 69) hx hb dX3_copyFrom_98 (by decide) ?_
          exact ih v18 M17 H locs ls (lv_sub hl [1, 2, 0] rfl) hP hS h
  refine lv_aload_n hx hb dX3_copyFrom_0 rfl (lv_at hl 1 rfl) ?_
  refine lv_ifnonnull (tgt := 5) hx hb dX3_copyFrom_1 (by decide) ?_
  refine lv_aload_n hx hb dX3_copyFrom_5 rfl (lv_at hl 0 rfl) ?_
  refine gf_X3_12 X hP hs_s0 dX3_copyFrom_6 ?_
  refine lv_aload_n hx hb dX3_copyFrom_9 rfl (lv_at hl 1 rfl) ?_
  refine gf_X3_12 X hP hs_s1 dX3_copyFrom_10 ?_
  obtain ⟨M1, e_M1, h⟩ := sx_bnd h
  refine cl_X3_45 X hG hP hz hS hs_s0 hs_s1 e_M1 hl.1 dX3_copyFrom_13 hcs ⟨Nat.le_trans (by decide) hR.1, Nat.le_trans (by decide) hR.2⟩ (Nat.le_of_ble_eq_true rfl) (fun H locs hP hS => ?_)
  refine lv_aload_n hx hb dX3_copyFrom_16 rfl (lv_at hl 0 rfl) ?_
  refine gf_X3_21 X hP hs_s0 dX3_copyFrom_17 ?_
  refine lv_aload_n hx hb dX3_copyFrom_20 rfl (lv_at hl 1 rfl) ?_
  refine gf_X3_21 X hP hs_s1 dX3_copyFrom_21 ?_
  obtain ⟨M2, e_M2, h⟩ := sx_bnd h
  refine cl_X3_49 X hG hP hz hS hs_s0 hs_s1 e_M2 hl.1 dX3_copyFrom_24 hcs ⟨Nat.le_trans (by decide) hR.1, Nat.le_trans (by decide) hR.2⟩ (Nat.le_of_ble_eq_true rfl) (fun H locs hP hS => ?_)
  refine lv_aload_n hx hb dX3_copyFrom_27 rfl (lv_at hl 0 rfl) ?_
  refine lv_aload_n hx hb dX3_copyFrom_28 rfl (lv_at hl 1 rfl) ?_
  refine gf_X3_29 X hP hs_s1 dX3_copyFrom_29 h (fun v3 h => ?_)
  refine pf_X3_29 X hG hP hS hs_s0 dX3_copyFrom_32 h (fun M4 H locs h hP hS => ?_)
  refine lv_aload_n hx hb dX3_copyFrom_35 rfl (lv_at hl 0 rfl) ?_
  refine lv_aload_n hx hb dX3_copyFrom_36 rfl (lv_at hl 1 rfl) ?_
  refine gf_X3_33 X hP hs_s1 dX3_copyFrom_37 h (fun v5 h => ?_)
  refine pf_X3_33 X hG hP hS hs_s0 dX3_copyFrom_40 h (fun M6 H locs h hP hS => ?_)
  refine lv_aload_n hx hb dX3_copyFrom_43 rfl (lv_at hl 0 rfl) ?_
  refine lv_aload_n hx hb dX3_copyFrom_44 rfl (lv_at hl 1 rfl) ?_
  refine gf_X3_36 X hP hs_s1 dX3_copyFrom_45 h (fun v7 h => ?_)
  refine pf_X3_36 X hG hP hS hs_s0 dX3_copyFrom_48 h (fun M8 H locs h hP hS => ?_)
  refine lv_aload_n hx hb dX3_copyFrom_51 rfl (lv_at hl 0 rfl) ?_
  refine lv_aload_n hx hb dX3_copyFrom_52 rfl (lv_at hl 1 rfl) ?_
  refine gf_X3_39 X hP hs_s1 dX3_copyFrom_53 h (fun v9 h => ?_)
  refine pf_X3_39 X hG hP hS hs_s0 dX3_copyFrom_56 h (fun M10 H locs h hP hS => ?_)
  refine lv_aload_n hx hb dX3_copyFrom_59 rfl (lv_at hl 0 rfl) ?_
  refine lv_aload_n hx hb dX3_copyFrom_60 rfl (lv_at hl 1 rfl) ?_
  refine gf_X3_42 X hP hs_s1 dX3_copyFrom_61 h (fun v11 h => ?_)
  refine pf_X3_42 X hG hP hS hs_s0 dX3_copyFrom_64 h (fun M12 H locs h hP hS => ?_)
  refine lv_iconst (v := (0 : Int32)) hx hb dX3_copyFrom_67 (by decide) ?_
  refine lv_istore_n (lv' := [(2, .int (0 : Int32)), (0, .ref (sx_ad C 1 s0)), (1, .ref (sx_ad C 1 s1))]) hx hb dX3_copyFrom_68 rfl hl (by decide) rfl (fun ls hl => ?_)
  refine hf3_copyFrom_L69 s0 s1 hs_s0 hs_s1 _ 5000 ?_ (0 : Int32) M12 H locs ls (lv_sub hl [1, 2, 0] rfl) hP hS h
  · intro M19 H locs ls hl hP hS h
    exact sx_vret X hr hlocks hS hP h dX3_copyFrom_101
set_option maxRecDepth 100000 in
theorem ct_3_copyFrom (l : Launch) (C : sx_C) (hG : sx_G C) (s0 : Nat) (s1 : Nat) (hs_s0 : s0 < 18) (hs_s1 : s1 < 18) (M0 : sx_M) (M' : sx_M) (h : f3_copyFrom s0 s1 M0 = some M') : Met l yX3_copyFrom (.code yX3_copyFrom cX3_copyFrom 3 none :: sx_T) ({ frames := 1, cells := 0, slots := 0, locals := 22 } : Room) (sx_Pc C M0 [.ref (sx_ad C 1 s0), .ref (sx_ad C 1 s1)]) (sx_Q C none M') 0 0 (sx_A C) := by
  refine Met.ofW (cc := cX3_copyFrom) (maxL := 3) (ret := none) (by decide) rfl ?_
  intro p e s m args below meth c s₁ B hml hv
  obtain ⟨rfl, hz, hP, hK⟩ := hv
  have hl := lv_entry ([.ref (sx_ad C 1 s0), .ref (sx_ad C 1 s1)]) (n := 3) (Nat.le_of_ble_eq_true rfl)
  rw [lg_entry_eq]
  generalize (lg_sl ([.ref (sx_ad C 1 s0), .ref (sx_ad C 1 s1)]) ++ List.replicate (3 - (lg_sl ([.ref (sx_ad C 1 s0), .ref (sx_ad C 1 s1)])).length) Slot.unset).toArray = ls at hl ⊢
  exact wk_3_copyFrom ⟨B.exec, B.bytes, hml, findClass_of_methodNamed B.named, fun w hw => atoms_spec B.pre w (List.mem_cons_of_mem _ hw), hK⟩ B.returns B.notSynchronized hG hz ⟨Nat.zero_le _, Nat.zero_le _⟩ ⟨Nat.le_refl _, Nat.le_refl _⟩ s0 s1 hs_s0 hs_s1 M0 M' h hl hP va_S.rf
theorem cl_X1_29 (X : sx_X C p m c cc nL s args RX1) (hG : sx_G C) (hP : sx_W C M0 H) (hz : sx_sz C ≤ H0.size) (hS : va_S (sx_A C) H0 H locs) {s0 : Nat} {s1 : Nat} (hs_s0 : s0 < 18) (hs_s1 : s1 < 18) {M' : sx_M} (h : f3_copyFrom s0 s1 M0 = some M') (hsz : ls.size = nL) (hdg : decode cc pc = .ok (.invokevirtual 29, 3)) (hcs : cells ≤ R.cells ∧ slots ≤ R.slots) (hR : 1 + 1 ≤ R.frames ∧ 8 + (3 + 11) + 22 ≤ R.locals) (hrest : (rest.map fun v => v.category).sum ≤ 8) (kk : ∀ (H1 : Heap) (locs1 : List Loc), sx_W C M' H1 → va_S (sx_A C) H0 H1 locs1 → W p l e R s m args below meth c H1 locs1 cells slots Q (F0 m (pc + 3) ls (rest))) : W p l e R s m args below meth c H locs cells slots Q (F0 m pc ls (.ref (sx_ad C 1 s1) :: .ref (sx_ad C 1 s0) :: rest)) :=
  sx_callV (n := 1) (As := [.ref (sx_ad C 1 s1)]) (k0 := 1) (s0 := s0) X hP hz hS hs_s0 rfl rfl (sx_goodV tw_777 tw_323 tw_324 tw_65 tw_325) (by decide +kernel) rfl rfl hR (ct_3_copyFrom l C hG s0 s1 hs_s0 hs_s1 M0 M' h) rfl rfl hrest hsz hdg hcs kk
theorem cl_X7_182 (X : sx_X C p m c cc nL s args RX7) (hG : sx_G C) (hP : sx_W C M0 H) (hz : sx_sz C ≤ H0.size) (hS : va_S (sx_A C) H0 H locs) {s0 : Nat} {s1 : Nat} (hs_s0 : s0 < 18) (hs_s1 : s1 < 18) {M' : sx_M} (h : f3_copyFrom s0 s1 M0 = some M') (hsz : ls.size = nL) (hdg : decode cc pc = .ok (.invokevirtual 182, 3)) (hcs : cells ≤ R.cells ∧ slots ≤ R.slots) (hR : 1 + 1 ≤ R.frames ∧ 8 + (3 + 11) + 22 ≤ R.locals) (hrest : (rest.map fun v => v.category).sum ≤ 8) (kk : ∀ (H1 : Heap) (locs1 : List Loc), sx_W C M' H1 → va_S (sx_A C) H0 H1 locs1 → W p l e R s m args below meth c H1 locs1 cells slots Q (F0 m (pc + 3) ls (rest))) : W p l e R s m args below meth c H locs cells slots Q (F0 m pc ls (.ref (sx_ad C 1 s1) :: .ref (sx_ad C 1 s0) :: rest)) :=
  sx_callV (n := 1) (As := [.ref (sx_ad C 1 s1)]) (k0 := 1) (s0 := s0) X hP hz hS hs_s0 rfl rfl (sx_goodV tw_322 tw_323 tw_324 tw_65 tw_325) (by decide +kernel) rfl rfl hR (ct_3_copyFrom l C hG s0 s1 hs_s0 hs_s1 M0 M' h) rfl rfl hrest hsz hdg hcs kk
-- StringShed$Shed.makeFault(I)I pure
def f3_makeFault (s0 : Nat) (a1 : Int32) (M0 : sx_M) : Option (Int32) :=
  sx_bd (fun (_ : Unit) =>
    some (2 : Int32)) fun j11 =>
  if a1 < (1 : Int32) then
    j11 ()
  else
    if a1 ≤ (9 : Int32) then
      sx_bd (M0.1 1 s0 3) fun v3 =>
      sx_bd (fun (v4 : Int32) =>
        some v4) fun j27 =>
      if v3 < (24 : Int32) then
        j27 (0 : Int32)
      else
        j27 (3 : Int32)
    else
      j11 ()
set_option maxRecDepth 100000 in
set_option maxHeartbeats 4000000 in
theorem wk_3_makeFault (X : sx_X C p m c cX3_makeFault 2 s args RX3) (hr : meth.sig.returnType = (some .int)) (hlocks : meth.locks = false) (hG : sx_G C) (hz : sx_sz C ≤ s.heap.size) (hcs : 0 ≤ R.cells ∧ 0 ≤ R.slots) (hR : 0 ≤ R.frames ∧ 0 ≤ R.locals) (s0 : Nat) (a1 : Int32) (hs_s0 : s0 < 18) (M0 : sx_M) (r : Int32) (h : f3_makeFault s0 a1 M0 = some r) (hl : lv_has ls 2 [(0, .ref (sx_ad C 1 s0)), (1, .int a1)]) (hP : sx_W C M0 H) (hS : va_S (sx_A C) s.heap H locs) : W p l e R s m args below meth c H locs 0 0 (sx_Z C (some (.int r)) M0 below args s) (F0 m 0 ls []) := by
  obtain ⟨hx, hb, hml, hown, hts, hK⟩ := id X
  rw [f3_makeFault] at h
  refine lv_iload_n hx hb dX3_makeFault_0 rfl (lv_at hl 1 rfl) ?_
  refine lv_iconst (v := (1 : Int32)) hx hb dX3_makeFault_1 (by decide) ?_
  obtain ⟨j11, e_j11, h⟩ := sx_nm h
  have hj11 : ∀ (H : Heap) (locs : List Loc) (ls : Array Slot), lv_has ls 2 [] → sx_W C M0 H → va_S (sx_A C) s.heap H locs → j11 () = some r → W p l e R s m args below meth c H locs 0 0 (sx_Z C (some (.int r)) M0 below args s) (F0 m 11 ls []) := by
    intro  H locs ls hl hP hS h
    subst e_j11
    refine lv_iconst (v := (2 : Int32)) hx hb dX3_makeFault_11 (by decide) ?_
    exact sx_iret X hr hlocks hS hP h dX3_makeFault_12
  clear e_j11
  refine lv_icmp_lt (tgt := 11) hx hb dX3_makeFault_2 (by decide) (fun c1 => ?_) (fun c1 => ?_)
  · replace h := sx_ifp h c1
    exact hj11 H locs ls (lv_sub hl [] rfl) hP hS h
  · replace h := sx_ifn h c1
    refine lv_iload_n hx hb dX3_makeFault_5 rfl (lv_at hl 1 rfl) ?_
    refine lv_bipush (v := (9 : Int32)) hx hb dX3_makeFault_6 (by decide) ?_
    refine lv_icmp_le (tgt := 13) hx hb dX3_makeFault_8 (by decide) (fun c2 => ?_) (fun c2 => ?_)
    · replace h := sx_ifp h c2
      refine lv_aload_n hx hb dX3_makeFault_13 rfl (lv_at hl 0 rfl) ?_
      refine gf_X3_29 X hP hs_s0 dX3_makeFault_14 h (fun v3 h => ?_)
      refine lv_bipush (v := (24 : Int32)) hx hb dX3_makeFault_17 (by decide) ?_
      obtain ⟨j27, e_j27, h⟩ := sx_nm h
      have hj27 : ∀ (v4 : Int32) (H : Heap) (locs : List Loc) (ls : Array Slot), lv_has ls 2 [] → sx_W C M0 H → va_S (sx_A C) s.heap H locs → j27 v4 = some r → W p l e R s m args below meth c H locs 0 0 (sx_Z C (some (.int r)) M0 below args s) (F0 m 27 ls [.int v4]) := by
        intro v4 H locs ls hl hP hS h
        subst e_j27
        exact sx_iret X hr hlocks hS hP h dX3_makeFault_27
      clear e_j27
      refine lv_icmp_lt (tgt := 26) hx hb dX3_makeFault_19 (by decide) (fun c5 => ?_) (fun c5 => ?_)
      · replace h := sx_ifp h c5
        refine lv_iconst (v := (0 : Int32)) hx hb dX3_makeFault_26 (by decide) ?_
        exact hj27 (0 : Int32) H locs ls (lv_sub hl [] rfl) hP hS h
      · replace h := sx_ifn h c5
        refine lv_iconst (v := (3 : Int32)) hx hb dX3_makeFault_22 (by decide) ?_
        refine lv_goto (tgt := 27) hx hb dX3_makeFault_23 (by decide) ?_
        exact hj27 (3 : Int32) H locs ls (lv_sub hl [] rfl) hP hS h
    · replace h := sx_ifn h c2
      exact hj11 H locs ls (lv_sub hl [] rfl) hP hS h
set_option maxRecDepth 100000 in
theorem ct_3_makeFault (l : Launch) (C : sx_C) (hG : sx_G C) (s0 : Nat) (a1 : Int32) (hs_s0 : s0 < 18) (M0 : sx_M) (r : Int32) (h : f3_makeFault s0 a1 M0 = some r) : Met l yX3_makeFault (.code yX3_makeFault cX3_makeFault 2 (some .int) :: sx_T) ({ frames := 0, cells := 0, slots := 0, locals := 0 } : Room) (sx_Pc C M0 [.ref (sx_ad C 1 s0), .int a1]) (sx_Q C (some (.int r)) M0) 0 0 (sx_A C) := by
  refine Met.ofW (cc := cX3_makeFault) (maxL := 2) (ret := (some .int)) (by decide) rfl ?_
  intro p e s m args below meth c s₁ B hml hv
  obtain ⟨rfl, hz, hP, hK⟩ := hv
  have hl := lv_entry ([.ref (sx_ad C 1 s0), .int a1]) (n := 2) (Nat.le_of_ble_eq_true rfl)
  rw [lg_entry_eq]
  generalize (lg_sl ([.ref (sx_ad C 1 s0), .int a1]) ++ List.replicate (2 - (lg_sl ([.ref (sx_ad C 1 s0), .int a1])).length) Slot.unset).toArray = ls at hl ⊢
  exact wk_3_makeFault ⟨B.exec, B.bytes, hml, findClass_of_methodNamed B.named, fun w hw => atoms_spec B.pre w (List.mem_cons_of_mem _ hw), hK⟩ B.returns B.notSynchronized hG hz ⟨Nat.zero_le _, Nat.zero_le _⟩ ⟨Nat.le_refl _, Nat.le_refl _⟩ s0 a1 hs_s0 M0 r h hl hP va_S.rf
theorem cl_X3_126 (X : sx_X C p m c cc nL s args RX3) (hG : sx_G C) (hP : sx_W C M0 H) (hz : sx_sz C ≤ H0.size) (hS : va_S (sx_A C) H0 H locs) {s0 : Nat} {a1 : Int32} (hs_s0 : s0 < 18) {r : Int32} (h : f3_makeFault s0 a1 M0 = some r) (hsz : ls.size = nL) (hdg : decode cc pc = .ok (.invokevirtual 126, 3)) (hcs : cells ≤ R.cells ∧ slots ≤ R.slots) (hR : 0 + 1 ≤ R.frames ∧ 8 + (2 + 11) + 0 ≤ R.locals) (hrest : (rest.map fun v => v.category).sum ≤ 8) (kk : ∀ (H1 : Heap) (locs1 : List Loc), sx_W C M0 H1 → va_S (sx_A C) H0 H1 locs1 → W p l e R s m args below meth c H1 locs1 cells slots Q (F0 m (pc + 3) ls ((.int r) :: rest))) : W p l e R s m args below meth c H locs cells slots Q (F0 m pc ls (.int a1 :: .ref (sx_ad C 1 s0) :: rest)) :=
  sx_callV (n := 1) (As := [.int a1]) (k0 := 1) (s0 := s0) X hP hz hS hs_s0 rfl rfl (sx_goodV tw_568 tw_570 tw_6 tw_65 tw_571) (by decide +kernel) rfl rfl hR (ct_3_makeFault l C hG s0 a1 hs_s0 M0 r h) rfl rfl hrest hsz hdg hcs kk
-- StringShed$Shed.placeFault(II)I pure
def f3_placeFault (s0 : Nat) (a1 : Int32) (a2 : Int32) (M0 : sx_M) : Option (Int32) :=
  sx_bd (M0.1 1 s0 4) fun v1 =>
  (f7_bitOf a1 M0).bind fun v2 =>
  sx_bd (fun (v3 : Int32) =>
    sx_bd (fun (v4 : Int32) =>
      some v4) fun j42 =>
    sx_bd (fun (_ : Unit) =>
      j42 (1 : Int32)) fun j41 =>
    if v3 = 0 then
      j41 ()
    else
      sx_bd (M0.1 1 s0 4) fun v6 =>
      (f7_bitOf a2 M0).bind fun v7 =>
      if (v6 &&& v7) = 0 then
        j41 ()
      else
        j42 (0 : Int32)) fun j20 =>
  if ((v1 ||| (15 : Int32)) &&& v2) = 0 then
    j20 (0 : Int32)
  else
    j20 (1 : Int32)
set_option maxRecDepth 100000 in
set_option maxHeartbeats 4000000 in
theorem wk_3_placeFault (X : sx_X C p m c cX3_placeFault 4 s args RX3) (hr : meth.sig.returnType = (some .int)) (hlocks : meth.locks = false) (hG : sx_G C) (hz : sx_sz C ≤ s.heap.size) (hcs : 0 ≤ R.cells ∧ 0 ≤ R.slots) (hR : 1 ≤ R.frames ∧ 20 ≤ R.locals) (s0 : Nat) (a1 : Int32) (a2 : Int32) (hs_s0 : s0 < 18) (M0 : sx_M) (r : Int32) (h : f3_placeFault s0 a1 a2 M0 = some r) (hl : lv_has ls 4 [(0, .ref (sx_ad C 1 s0)), (1, .int a1), (2, .int a2)]) (hP : sx_W C M0 H) (hS : va_S (sx_A C) s.heap H locs) : W p l e R s m args below meth c H locs 0 0 (sx_Z C (some (.int r)) M0 below args s) (F0 m 0 ls []) := by
  obtain ⟨hx, hb, hml, hown, hts, hK⟩ := id X
  rw [f3_placeFault] at h
  refine lv_aload_n hx hb dX3_placeFault_0 rfl (lv_at hl 0 rfl) ?_
  refine gf_X3_33 X hP hs_s0 dX3_placeFault_1 h (fun v1 h => ?_)
  refine lv_bipush (v := (15 : Int32)) hx hb dX3_placeFault_4 (by decide) ?_
  refine lv_ior hx hb dX3_placeFault_6 ?_
  refine lv_iload_n hx hb dX3_placeFault_7 rfl (lv_at hl 1 rfl) ?_
  obtain ⟨v2, e_v2, h⟩ := sx_bnd h
  refine cl_X3_64 X hG hP hz hS  e_v2 hl.1 dX3_placeFault_8 hcs ⟨Nat.le_trans (by decide) hR.1, Nat.le_trans (by decide) hR.2⟩ (Nat.le_of_ble_eq_true rfl) (fun H locs hP hS => ?_)
  refine lv_iand hx hb dX3_placeFault_11 ?_
  obtain ⟨j20, e_j20, h⟩ := sx_nm h
  have hj20 : ∀ (v3 : Int32) (H : Heap) (locs : List Loc) (ls : Array Slot), lv_has ls 4 [(0, .ref (sx_ad C 1 s0)), (2, .int a2)] → sx_W C M0 H → va_S (sx_A C) s.heap H locs → j20 v3 = some r → W p l e R s m args below meth c H locs 0 0 (sx_Z C (some (.int r)) M0 below args s) (F0 m 20 ls [.int v3]) := by
    intro v3 H locs ls hl hP hS h
    subst e_j20
    refine lv_istore_n (lv' := [(3, .int v3), (0, .ref (sx_ad C 1 s0)), (2, .int a2)]) hx hb dX3_placeFault_20 rfl hl (by decide) rfl (fun ls hl => ?_)
    refine lv_iload_n hx hb dX3_placeFault_21 rfl (lv_at hl 0 rfl) ?_
    obtain ⟨j42, e_j42, h⟩ := sx_nm h
    have hj42 : ∀ (v4 : Int32) (H : Heap) (locs : List Loc) (ls : Array Slot), lv_has ls 4 [] → sx_W C M0 H → va_S (sx_A C) s.heap H locs → j42 v4 = some r → W p l e R s m args below meth c H locs 0 0 (sx_Z C (some (.int r)) M0 below args s) (F0 m 42 ls [.int v4]) := by
      intro v4 H locs ls hl hP hS h
      subst e_j42
      exact sx_iret X hr hlocks hS hP h dX3_placeFault_42
    clear e_j42
    obtain ⟨j41, e_j41, h⟩ := sx_nm h
    have hj41 : ∀ (H : Heap) (locs : List Loc) (ls : Array Slot), lv_has ls 4 [] → sx_W C M0 H → va_S (sx_A C) s.heap H locs → j41 () = some r → W p l e R s m args below meth c H locs 0 0 (sx_Z C (some (.int r)) M0 below args s) (F0 m 41 ls []) := by
      intro  H locs ls hl hP hS h
      subst e_j41
      refine lv_iconst (v := (1 : Int32)) hx hb dX3_placeFault_41 (by decide) ?_
      exact hj42 (1 : Int32) H locs ls (lv_sub hl [] rfl) hP hS h
    clear e_j41
    refine lv_if_eq (tgt := 41) hx hb dX3_placeFault_22 (by decide) (fun c5 => ?_) (fun c5 => ?_)
    · replace h := sx_ifp h c5
      exact hj41 H locs ls (lv_sub hl [] rfl) hP hS h
    · replace h := sx_ifn h c5
      refine lv_aload_n hx hb dX3_placeFault_25 rfl (lv_at hl 1 rfl) ?_
      refine gf_X3_33 X hP hs_s0 dX3_placeFault_26 h (fun v6 h => ?_)
      refine lv_iload_n hx hb dX3_placeFault_29 rfl (lv_at hl 2 rfl) ?_
      obtain ⟨v7, e_v7, h⟩ := sx_bnd h
      refine cl_X3_64 X hG hP hz hS  e_v7 hl.1 dX3_placeFault_30 hcs ⟨Nat.le_trans (by decide) hR.1, Nat.le_trans (by decide) hR.2⟩ (Nat.le_of_ble_eq_true rfl) (fun H locs hP hS => ?_)
      refine lv_iand hx hb dX3_placeFault_33 ?_
      refine lv_if_eq (tgt := 41) hx hb dX3_placeFault_34 (by decide) (fun c8 => ?_) (fun c8 => ?_)
      · replace h := sx_ifp h c8
        exact hj41 H locs ls (lv_sub hl [] rfl) hP hS h
      · replace h := sx_ifn h c8
        refine lv_iconst (v := (0 : Int32)) hx hb dX3_placeFault_37 (by decide) ?_
        refine lv_goto (tgt := 42) hx hb dX3_placeFault_38 (by decide) ?_
        exact hj42 (0 : Int32) H locs ls (lv_sub hl [] rfl) hP hS h
  clear e_j20
  refine lv_if_eq (tgt := 19) hx hb dX3_placeFault_12 (by decide) (fun c9 => ?_) (fun c9 => ?_)
  · replace h := sx_ifp h c9
    refine lv_iconst (v := (0 : Int32)) hx hb dX3_placeFault_19 (by decide) ?_
    exact hj20 (0 : Int32) H locs ls (lv_sub hl [0, 2] rfl) hP hS h
  · replace h := sx_ifn h c9
    refine lv_iconst (v := (1 : Int32)) hx hb dX3_placeFault_15 (by decide) ?_
    refine lv_goto (tgt := 20) hx hb dX3_placeFault_16 (by decide) ?_
    exact hj20 (1 : Int32) H locs ls (lv_sub hl [0, 2] rfl) hP hS h
set_option maxRecDepth 100000 in
theorem ct_3_placeFault (l : Launch) (C : sx_C) (hG : sx_G C) (s0 : Nat) (a1 : Int32) (a2 : Int32) (hs_s0 : s0 < 18) (M0 : sx_M) (r : Int32) (h : f3_placeFault s0 a1 a2 M0 = some r) : Met l yX3_placeFault (.code yX3_placeFault cX3_placeFault 4 (some .int) :: sx_T) ({ frames := 1, cells := 0, slots := 0, locals := 20 } : Room) (sx_Pc C M0 [.ref (sx_ad C 1 s0), .int a1, .int a2]) (sx_Q C (some (.int r)) M0) 0 0 (sx_A C) := by
  refine Met.ofW (cc := cX3_placeFault) (maxL := 4) (ret := (some .int)) (by decide) rfl ?_
  intro p e s m args below meth c s₁ B hml hv
  obtain ⟨rfl, hz, hP, hK⟩ := hv
  have hl := lv_entry ([.ref (sx_ad C 1 s0), .int a1, .int a2]) (n := 4) (Nat.le_of_ble_eq_true rfl)
  rw [lg_entry_eq]
  generalize (lg_sl ([.ref (sx_ad C 1 s0), .int a1, .int a2]) ++ List.replicate (4 - (lg_sl ([.ref (sx_ad C 1 s0), .int a1, .int a2])).length) Slot.unset).toArray = ls at hl ⊢
  exact wk_3_placeFault ⟨B.exec, B.bytes, hml, findClass_of_methodNamed B.named, fun w hw => atoms_spec B.pre w (List.mem_cons_of_mem _ hw), hK⟩ B.returns B.notSynchronized hG hz ⟨Nat.zero_le _, Nat.zero_le _⟩ ⟨Nat.le_refl _, Nat.le_refl _⟩ s0 a1 a2 hs_s0 M0 r h hl hP va_S.rf
theorem cl_X3_142 (X : sx_X C p m c cc nL s args RX3) (hG : sx_G C) (hP : sx_W C M0 H) (hz : sx_sz C ≤ H0.size) (hS : va_S (sx_A C) H0 H locs) {s0 : Nat} {a1 : Int32} {a2 : Int32} (hs_s0 : s0 < 18) {r : Int32} (h : f3_placeFault s0 a1 a2 M0 = some r) (hsz : ls.size = nL) (hdg : decode cc pc = .ok (.invokevirtual 142, 3)) (hcs : cells ≤ R.cells ∧ slots ≤ R.slots) (hR : 1 + 1 ≤ R.frames ∧ 8 + (4 + 11) + 20 ≤ R.locals) (hrest : (rest.map fun v => v.category).sum ≤ 8) (kk : ∀ (H1 : Heap) (locs1 : List Loc), sx_W C M0 H1 → va_S (sx_A C) H0 H1 locs1 → W p l e R s m args below meth c H1 locs1 cells slots Q (F0 m (pc + 3) ls ((.int r) :: rest))) : W p l e R s m args below meth c H locs cells slots Q (F0 m pc ls (.int a2 :: .int a1 :: .ref (sx_ad C 1 s0) :: rest)) :=
  sx_callV (n := 2) (As := [.int a1, .int a2]) (k0 := 1) (s0 := s0) X hP hz hS hs_s0 rfl rfl (sx_goodV tw_576 tw_577 tw_578 tw_65 tw_579) (by decide +kernel) rfl rfl hR (ct_3_placeFault l C hG s0 a1 a2 hs_s0 M0 r h) rfl rfl hrest hsz hdg hcs kk
theorem cl_X7_112 (X : sx_X C p m c cc nL s args RX7) (hG : sx_G C) (hP : sx_W C M0 H) (hz : sx_sz C ≤ H0.size) (hS : va_S (sx_A C) H0 H locs) {s0 : Nat} {a1 : Int32} {a2 : Int32} (hs_s0 : s0 < 18) {r : Int32} (h : f3_placeFault s0 a1 a2 M0 = some r) (hsz : ls.size = nL) (hdg : decode cc pc = .ok (.invokevirtual 112, 3)) (hcs : cells ≤ R.cells ∧ slots ≤ R.slots) (hR : 1 + 1 ≤ R.frames ∧ 8 + (4 + 11) + 20 ≤ R.locals) (hrest : (rest.map fun v => v.category).sum ≤ 8) (kk : ∀ (H1 : Heap) (locs1 : List Loc), sx_W C M0 H1 → va_S (sx_A C) H0 H1 locs1 → W p l e R s m args below meth c H1 locs1 cells slots Q (F0 m (pc + 3) ls ((.int r) :: rest))) : W p l e R s m args below meth c H locs cells slots Q (F0 m pc ls (.int a2 :: .int a1 :: .ref (sx_ad C 1 s0) :: rest)) :=
  sx_callV (n := 2) (As := [.int a1, .int a2]) (k0 := 1) (s0 := s0) X hP hz hS hs_s0 rfl rfl (sx_goodV tw_740 tw_577 tw_578 tw_65 tw_579) (by decide +kernel) rfl rfl hR (ct_3_placeFault l C hG s0 a1 a2 hs_s0 M0 r h) rfl rfl hrest hsz hdg hcs kk
-- StringShed$Shed.tieFault(II)I pure
def f3_tieFault (s0 : Nat) (a1 : Int32) (a2 : Int32) (M0 : sx_M) : Option (Int32) :=
  (f3_placeFault s0 a1 a2 M0).bind fun v1 =>
  if v1 = 0 then
    if a1 = a2 then
      some (2 : Int32)
    else
      (f4_isFull s0 M0).bind fun v4 =>
      sx_bd (fun (v5 : Int32) =>
        some v5) fun j46 =>
      sx_bd (fun (_ : Unit) =>
        j46 (3 : Int32)) fun j41 =>
      if v4 = 0 then
        (f4_find s0 a1 a2 M0).bind fun v7 =>
        if v7 = (-1 : Int32) then
          j46 (0 : Int32)
        else
          j41 ()
      else
        j41 ()
  else
    some (1 : Int32)
set_option maxRecDepth 100000 in
set_option maxHeartbeats 4000000 in
theorem wk_3_tieFault (X : sx_X C p m c cX3_tieFault 3 s args RX3) (hr : meth.sig.returnType = (some .int)) (hlocks : meth.locks = false) (hG : sx_G C) (hz : sx_sz C ≤ s.heap.size) (hcs : 0 ≤ R.cells ∧ 0 ≤ R.slots) (hR : 2 ≤ R.frames ∧ 43 ≤ R.locals) (s0 : Nat) (a1 : Int32) (a2 : Int32) (hs_s0 : s0 < 18) (M0 : sx_M) (r : Int32) (h : f3_tieFault s0 a1 a2 M0 = some r) (hl : lv_has ls 3 [(0, .ref (sx_ad C 1 s0)), (1, .int a1), (2, .int a2)]) (hP : sx_W C M0 H) (hS : va_S (sx_A C) s.heap H locs) : W p l e R s m args below meth c H locs 0 0 (sx_Z C (some (.int r)) M0 below args s) (F0 m 0 ls []) := by
  obtain ⟨hx, hb, hml, hown, hts, hK⟩ := id X
  rw [f3_tieFault] at h
  refine lv_aload_n hx hb dX3_tieFault_0 rfl (lv_at hl 0 rfl) ?_
  refine lv_iload_n hx hb dX3_tieFault_1 rfl (lv_at hl 1 rfl) ?_
  refine lv_iload_n hx hb dX3_tieFault_2 rfl (lv_at hl 2 rfl) ?_
  obtain ⟨v1, e_v1, h⟩ := sx_bnd h
  refine cl_X3_142 X hG hP hz hS hs_s0 e_v1 hl.1 dX3_tieFault_3 hcs ⟨Nat.le_trans (by decide) hR.1, Nat.le_trans (by decide) hR.2⟩ (Nat.le_of_ble_eq_true rfl) (fun H locs hP hS => ?_)
  refine lv_if_eq (tgt := 11) hx hb dX3_tieFault_6 (by decide) (fun c2 => ?_) (fun c2 => ?_)
  · replace h := sx_ifp h c2
    refine lv_iload_n hx hb dX3_tieFault_11 rfl (lv_at hl 1 rfl) ?_
    refine lv_iload_n hx hb dX3_tieFault_12 rfl (lv_at hl 2 rfl) ?_
    refine lv_icmp_ne (tgt := 18) hx hb dX3_tieFault_13 (by decide) (fun c3 => ?_) (fun c3 => ?_)
    · replace h := sx_ifn h c3
      refine lv_aload_n hx hb dX3_tieFault_18 rfl (lv_at hl 0 rfl) ?_
      refine gf_X3_12 X hP hs_s0 dX3_tieFault_19 ?_
      obtain ⟨v4, e_v4, h⟩ := sx_bnd h
      refine cl_X3_145 X hG hP hz hS hs_s0 e_v4 hl.1 dX3_tieFault_22 hcs ⟨Nat.le_trans (by decide) hR.1, Nat.le_trans (by decide) hR.2⟩ (Nat.le_of_ble_eq_true rfl) (fun H locs hP hS => ?_)
      obtain ⟨j46, e_j46, h⟩ := sx_nm h
      have hj46 : ∀ (v5 : Int32) (H : Heap) (locs : List Loc) (ls : Array Slot), lv_has ls 3 [] → sx_W C M0 H → va_S (sx_A C) s.heap H locs → j46 v5 = some r → W p l e R s m args below meth c H locs 0 0 (sx_Z C (some (.int r)) M0 below args s) (F0 m 46 ls [.int v5]) := by
        intro v5 H locs ls hl hP hS h
        subst e_j46
        exact sx_iret X hr hlocks hS hP h dX3_tieFault_46
      clear e_j46
      obtain ⟨j41, e_j41, h⟩ := sx_nm h
      have hj41 : ∀ (H : Heap) (locs : List Loc) (ls : Array Slot), lv_has ls 3 [] → sx_W C M0 H → va_S (sx_A C) s.heap H locs → j41 () = some r → W p l e R s m args below meth c H locs 0 0 (sx_Z C (some (.int r)) M0 below args s) (F0 m 41 ls []) := by
        intro  H locs ls hl hP hS h
        subst e_j41
        refine lv_iconst (v := (3 : Int32)) hx hb dX3_tieFault_41 (by decide) ?_
        refine lv_goto (tgt := 46) hx hb dX3_tieFault_42 (by decide) ?_
        exact hj46 (3 : Int32) H locs ls (lv_sub hl [] rfl) hP hS h
      clear e_j41
      refine lv_if_ne (tgt := 41) hx hb dX3_tieFault_25 (by decide) (fun c6 => ?_) (fun c6 => ?_)
      · replace h := sx_ifn h c6
        exact hj41 H locs ls (lv_sub hl [] rfl) hP hS h
      · replace h := sx_ifp h c6
        refine lv_aload_n hx hb dX3_tieFault_28 rfl (lv_at hl 0 rfl) ?_
        refine gf_X3_12 X hP hs_s0 dX3_tieFault_29 ?_
        refine lv_iload_n hx hb dX3_tieFault_32 rfl (lv_at hl 1 rfl) ?_
        refine lv_iload_n hx hb dX3_tieFault_33 rfl (lv_at hl 2 rfl) ?_
        obtain ⟨v7, e_v7, h⟩ := sx_bnd h
        refine cl_X3_132 X hG hP hz hS hs_s0 e_v7 hl.1 dX3_tieFault_34 hcs ⟨Nat.le_trans (by decide) hR.1, Nat.le_trans (by decide) hR.2⟩ (Nat.le_of_ble_eq_true rfl) (fun H locs hP hS => ?_)
        refine lv_iconst (v := (-1 : Int32)) hx hb dX3_tieFault_37 (by decide) ?_
        refine lv_icmp_eq (tgt := 45) hx hb dX3_tieFault_38 (by decide) (fun c8 => ?_) (fun c8 => ?_)
        · replace h := sx_ifp h c8
          refine lv_iconst (v := (0 : Int32)) hx hb dX3_tieFault_45 (by decide) ?_
          exact hj46 (0 : Int32) H locs ls (lv_sub hl [] rfl) hP hS h
        · replace h := sx_ifn h c8
          exact hj41 H locs ls (lv_sub hl [] rfl) hP hS h
    · replace h := sx_ifp h c3
      refine lv_iconst (v := (2 : Int32)) hx hb dX3_tieFault_16 (by decide) ?_
      exact sx_iret X hr hlocks hS hP h dX3_tieFault_17
  · replace h := sx_ifn h c2
    refine lv_iconst (v := (1 : Int32)) hx hb dX3_tieFault_9 (by decide) ?_
    exact sx_iret X hr hlocks hS hP h dX3_tieFault_10
set_option maxRecDepth 100000 in
theorem ct_3_tieFault (l : Launch) (C : sx_C) (hG : sx_G C) (s0 : Nat) (a1 : Int32) (a2 : Int32) (hs_s0 : s0 < 18) (M0 : sx_M) (r : Int32) (h : f3_tieFault s0 a1 a2 M0 = some r) : Met l yX3_tieFault (.code yX3_tieFault cX3_tieFault 3 (some .int) :: sx_T) ({ frames := 2, cells := 0, slots := 0, locals := 43 } : Room) (sx_Pc C M0 [.ref (sx_ad C 1 s0), .int a1, .int a2]) (sx_Q C (some (.int r)) M0) 0 0 (sx_A C) := by
  refine Met.ofW (cc := cX3_tieFault) (maxL := 3) (ret := (some .int)) (by decide) rfl ?_
  intro p e s m args below meth c s₁ B hml hv
  obtain ⟨rfl, hz, hP, hK⟩ := hv
  have hl := lv_entry ([.ref (sx_ad C 1 s0), .int a1, .int a2]) (n := 3) (Nat.le_of_ble_eq_true rfl)
  rw [lg_entry_eq]
  generalize (lg_sl ([.ref (sx_ad C 1 s0), .int a1, .int a2]) ++ List.replicate (3 - (lg_sl ([.ref (sx_ad C 1 s0), .int a1, .int a2])).length) Slot.unset).toArray = ls at hl ⊢
  exact wk_3_tieFault ⟨B.exec, B.bytes, hml, findClass_of_methodNamed B.named, fun w hw => atoms_spec B.pre w (List.mem_cons_of_mem _ hw), hK⟩ B.returns B.notSynchronized hG hz ⟨Nat.zero_le _, Nat.zero_le _⟩ ⟨Nat.le_refl _, Nat.le_refl _⟩ s0 a1 a2 hs_s0 M0 r h hl hP va_S.rf
theorem cl_X3_129 (X : sx_X C p m c cc nL s args RX3) (hG : sx_G C) (hP : sx_W C M0 H) (hz : sx_sz C ≤ H0.size) (hS : va_S (sx_A C) H0 H locs) {s0 : Nat} {a1 : Int32} {a2 : Int32} (hs_s0 : s0 < 18) {r : Int32} (h : f3_tieFault s0 a1 a2 M0 = some r) (hsz : ls.size = nL) (hdg : decode cc pc = .ok (.invokevirtual 129, 3)) (hcs : cells ≤ R.cells ∧ slots ≤ R.slots) (hR : 2 + 1 ≤ R.frames ∧ 8 + (3 + 11) + 43 ≤ R.locals) (hrest : (rest.map fun v => v.category).sum ≤ 8) (kk : ∀ (H1 : Heap) (locs1 : List Loc), sx_W C M0 H1 → va_S (sx_A C) H0 H1 locs1 → W p l e R s m args below meth c H1 locs1 cells slots Q (F0 m (pc + 3) ls ((.int r) :: rest))) : W p l e R s m args below meth c H locs cells slots Q (F0 m pc ls (.int a2 :: .int a1 :: .ref (sx_ad C 1 s0) :: rest)) :=
  sx_callV (n := 2) (As := [.int a1, .int a2]) (k0 := 1) (s0 := s0) X hP hz hS hs_s0 rfl rfl (sx_goodV tw_572 tw_574 tw_7 tw_65 tw_575) (by decide +kernel) rfl rfl hR (ct_3_tieFault l C hG s0 a1 a2 hs_s0 M0 r h) rfl rfl hrest hsz hdg hcs kk
-- StringShed$Shed.stringFault(IIZ)I pure
def f3_stringFault (s0 : Nat) (a1 : Int32) (a2 : Int32) (a3 : Int32) (M0 : sx_M) : Option (Int32) :=
  (f4_find s0 a1 a2 M0).bind fun v1 =>
  if v1 = (-1 : Int32) then
    some (1 : Int32)
  else
    (f4_isSoundAt s0 v1 M0).bind fun v3 =>
    sx_bd (fun (v4 : Int32) =>
      some v4) fun j37 =>
    if v3 = a3 then
      j37 (0 : Int32)
    else
      j37 (3 : Int32)
set_option maxRecDepth 100000 in
set_option maxHeartbeats 4000000 in
theorem wk_3_stringFault (X : sx_X C p m c cX3_stringFault 5 s args RX3) (hr : meth.sig.returnType = (some .int)) (hlocks : meth.locks = false) (hG : sx_G C) (hz : sx_sz C ≤ s.heap.size) (hcs : 0 ≤ R.cells ∧ 0 ≤ R.slots) (hR : 2 ≤ R.frames ∧ 42 ≤ R.locals) (s0 : Nat) (a1 : Int32) (a2 : Int32) (a3 : Int32) (hs_s0 : s0 < 18) (M0 : sx_M) (r : Int32) (h : f3_stringFault s0 a1 a2 a3 M0 = some r) (hl : lv_has ls 5 [(0, .ref (sx_ad C 1 s0)), (1, .int a1), (2, .int a2), (3, .int a3)]) (hP : sx_W C M0 H) (hS : va_S (sx_A C) s.heap H locs) : W p l e R s m args below meth c H locs 0 0 (sx_Z C (some (.int r)) M0 below args s) (F0 m 0 ls []) := by
  obtain ⟨hx, hb, hml, hown, hts, hK⟩ := id X
  rw [f3_stringFault] at h
  refine lv_aload_n hx hb dX3_stringFault_0 rfl (lv_at hl 0 rfl) ?_
  refine gf_X3_12 X hP hs_s0 dX3_stringFault_1 ?_
  refine lv_iload_n hx hb dX3_stringFault_4 rfl (lv_at hl 1 rfl) ?_
  refine lv_iload_n hx hb dX3_stringFault_5 rfl (lv_at hl 2 rfl) ?_
  obtain ⟨v1, e_v1, h⟩ := sx_bnd h
  refine cl_X3_132 X hG hP hz hS hs_s0 e_v1 hl.1 dX3_stringFault_6 hcs ⟨Nat.le_trans (by decide) hR.1, Nat.le_trans (by decide) hR.2⟩ (Nat.le_of_ble_eq_true rfl) (fun H locs hP hS => ?_)
  refine lv_istore (lv' := [(4, .int v1), (0, .ref (sx_ad C 1 s0)), (1, .int a1), (2, .int a2), (3, .int a3)]) hx hb dX3_stringFault_9 hl (by decide) rfl (fun ls hl => ?_)
  refine lv_iload hx hb dX3_stringFault_11 (lv_at hl 0 rfl) ?_
  refine lv_iconst (v := (-1 : Int32)) hx hb dX3_stringFault_13 (by decide) ?_
  refine lv_icmp_ne (tgt := 19) hx hb dX3_stringFault_14 (by decide) (fun c2 => ?_) (fun c2 => ?_)
  · replace h := sx_ifn h c2
    refine lv_aload_n hx hb dX3_stringFault_19 rfl (lv_at hl 1 rfl) ?_
    refine gf_X3_12 X hP hs_s0 dX3_stringFault_20 ?_
    refine lv_iload hx hb dX3_stringFault_23 (lv_at hl 0 rfl) ?_
    obtain ⟨v3, e_v3, h⟩ := sx_bnd h
    refine cl_X3_148 X hG hP hz hS hs_s0 e_v3 hl.1 dX3_stringFault_25 hcs ⟨Nat.le_trans (by decide) hR.1, Nat.le_trans (by decide) hR.2⟩ (Nat.le_of_ble_eq_true rfl) (fun H locs hP hS => ?_)
    refine lv_iload_n hx hb dX3_stringFault_28 rfl (lv_at hl 4 rfl) ?_
    obtain ⟨j37, e_j37, h⟩ := sx_nm h
    have hj37 : ∀ (v4 : Int32) (H : Heap) (locs : List Loc) (ls : Array Slot), lv_has ls 5 [] → sx_W C M0 H → va_S (sx_A C) s.heap H locs → j37 v4 = some r → W p l e R s m args below meth c H locs 0 0 (sx_Z C (some (.int r)) M0 below args s) (F0 m 37 ls [.int v4]) := by
      intro v4 H locs ls hl hP hS h
      subst e_j37
      exact sx_iret X hr hlocks hS hP h dX3_stringFault_37
    clear e_j37
    refine lv_icmp_ne (tgt := 36) hx hb dX3_stringFault_29 (by decide) (fun c5 => ?_) (fun c5 => ?_)
    · replace h := sx_ifn h c5
      refine lv_iconst (v := (3 : Int32)) hx hb dX3_stringFault_36 (by decide) ?_
      exact hj37 (3 : Int32) H locs ls (lv_sub hl [] rfl) hP hS h
    · replace h := sx_ifp h c5
      refine lv_iconst (v := (0 : Int32)) hx hb dX3_stringFault_32 (by decide) ?_
      refine lv_goto (tgt := 37) hx hb dX3_stringFault_33 (by decide) ?_
      exact hj37 (0 : Int32) H locs ls (lv_sub hl [] rfl) hP hS h
  · replace h := sx_ifp h c2
    refine lv_iconst (v := (1 : Int32)) hx hb dX3_stringFault_17 (by decide) ?_
    exact sx_iret X hr hlocks hS hP h dX3_stringFault_18
set_option maxRecDepth 100000 in
theorem ct_3_stringFault (l : Launch) (C : sx_C) (hG : sx_G C) (s0 : Nat) (a1 : Int32) (a2 : Int32) (a3 : Int32) (hs_s0 : s0 < 18) (M0 : sx_M) (r : Int32) (h : f3_stringFault s0 a1 a2 a3 M0 = some r) : Met l yX3_stringFault (.code yX3_stringFault cX3_stringFault 5 (some .int) :: sx_T) ({ frames := 2, cells := 0, slots := 0, locals := 42 } : Room) (sx_Pc C M0 [.ref (sx_ad C 1 s0), .int a1, .int a2, .int a3]) (sx_Q C (some (.int r)) M0) 0 0 (sx_A C) := by
  refine Met.ofW (cc := cX3_stringFault) (maxL := 5) (ret := (some .int)) (by decide) rfl ?_
  intro p e s m args below meth c s₁ B hml hv
  obtain ⟨rfl, hz, hP, hK⟩ := hv
  have hl := lv_entry ([.ref (sx_ad C 1 s0), .int a1, .int a2, .int a3]) (n := 5) (Nat.le_of_ble_eq_true rfl)
  rw [lg_entry_eq]
  generalize (lg_sl ([.ref (sx_ad C 1 s0), .int a1, .int a2, .int a3]) ++ List.replicate (5 - (lg_sl ([.ref (sx_ad C 1 s0), .int a1, .int a2, .int a3])).length) Slot.unset).toArray = ls at hl ⊢
  exact wk_3_stringFault ⟨B.exec, B.bytes, hml, findClass_of_methodNamed B.named, fun w hw => atoms_spec B.pre w (List.mem_cons_of_mem _ hw), hK⟩ B.returns B.notSynchronized hG hz ⟨Nat.zero_le _, Nat.zero_le _⟩ ⟨Nat.le_refl _, Nat.le_refl _⟩ s0 a1 a2 a3 hs_s0 M0 r h hl hP va_S.rf
theorem cl_X3_135 (X : sx_X C p m c cc nL s args RX3) (hG : sx_G C) (hP : sx_W C M0 H) (hz : sx_sz C ≤ H0.size) (hS : va_S (sx_A C) H0 H locs) {s0 : Nat} {a1 : Int32} {a2 : Int32} {a3 : Int32} (hs_s0 : s0 < 18) {r : Int32} (h : f3_stringFault s0 a1 a2 a3 M0 = some r) (hsz : ls.size = nL) (hdg : decode cc pc = .ok (.invokevirtual 135, 3)) (hcs : cells ≤ R.cells ∧ slots ≤ R.slots) (hR : 2 + 1 ≤ R.frames ∧ 8 + (5 + 11) + 42 ≤ R.locals) (hrest : (rest.map fun v => v.category).sum ≤ 8) (kk : ∀ (H1 : Heap) (locs1 : List Loc), sx_W C M0 H1 → va_S (sx_A C) H0 H1 locs1 → W p l e R s m args below meth c H1 locs1 cells slots Q (F0 m (pc + 3) ls ((.int r) :: rest))) : W p l e R s m args below meth c H locs cells slots Q (F0 m pc ls (.int a3 :: .int a2 :: .int a1 :: .ref (sx_ad C 1 s0) :: rest)) :=
  sx_callV (n := 3) (As := [.int a1, .int a2, .int a3]) (k0 := 1) (s0 := s0) X hP hz hS hs_s0 rfl rfl (sx_goodV tw_588 tw_590 tw_8 tw_65 tw_591) (by decide +kernel) rfl rfl hR (ct_3_stringFault l C hG s0 a1 a2 a3 hs_s0 M0 r h) rfl rfl hrest hsz hdg hcs kk
-- StringShed$Shed.isPart(I)Z pure
def f3_isPart (s0 : Nat) (a1 : Int32) (M0 : sx_M) : Option (Int32) :=
  sx_bd (M0.1 1 s0 4) fun v1 =>
  (f7_bitOf a1 M0).bind fun v2 =>
  sx_bd (fun (v3 : Int32) =>
    if v3 = 0 ∨ v3 = 1 then some v3 else none) fun j17 =>
  if (v1 &&& v2) = 0 then
    j17 (0 : Int32)
  else
    j17 (1 : Int32)
set_option maxRecDepth 100000 in
set_option maxHeartbeats 4000000 in
theorem wk_3_isPart (X : sx_X C p m c cX3_isPart 2 s args RX3) (hr : meth.sig.returnType = (some .boolean)) (hlocks : meth.locks = false) (hG : sx_G C) (hz : sx_sz C ≤ s.heap.size) (hcs : 0 ≤ R.cells ∧ 0 ≤ R.slots) (hR : 1 ≤ R.frames ∧ 20 ≤ R.locals) (s0 : Nat) (a1 : Int32) (hs_s0 : s0 < 18) (M0 : sx_M) (r : Int32) (h : f3_isPart s0 a1 M0 = some r) (hl : lv_has ls 2 [(0, .ref (sx_ad C 1 s0)), (1, .int a1)]) (hP : sx_W C M0 H) (hS : va_S (sx_A C) s.heap H locs) : W p l e R s m args below meth c H locs 0 0 (sx_Z C (some (.int r)) M0 below args s) (F0 m 0 ls []) := by
  obtain ⟨hx, hb, hml, hown, hts, hK⟩ := id X
  rw [f3_isPart] at h
  refine lv_aload_n hx hb dX3_isPart_0 rfl (lv_at hl 0 rfl) ?_
  refine gf_X3_33 X hP hs_s0 dX3_isPart_1 h (fun v1 h => ?_)
  refine lv_iload_n hx hb dX3_isPart_4 rfl (lv_at hl 1 rfl) ?_
  obtain ⟨v2, e_v2, h⟩ := sx_bnd h
  refine cl_X3_64 X hG hP hz hS  e_v2 hl.1 dX3_isPart_5 hcs ⟨Nat.le_trans (by decide) hR.1, Nat.le_trans (by decide) hR.2⟩ (Nat.le_of_ble_eq_true rfl) (fun H locs hP hS => ?_)
  refine lv_iand hx hb dX3_isPart_8 ?_
  obtain ⟨j17, e_j17, h⟩ := sx_nm h
  have hj17 : ∀ (v3 : Int32) (H : Heap) (locs : List Loc) (ls : Array Slot), lv_has ls 2 [] → sx_W C M0 H → va_S (sx_A C) s.heap H locs → j17 v3 = some r → W p l e R s m args below meth c H locs 0 0 (sx_Z C (some (.int r)) M0 below args s) (F0 m 17 ls [.int v3]) := by
    intro v3 H locs ls hl hP hS h
    subst e_j17
    obtain ⟨hz01, h⟩ := sx_ck h
    exact sx_zret X hr hlocks hS hP hz01 h dX3_isPart_17
  clear e_j17
  refine lv_if_eq (tgt := 16) hx hb dX3_isPart_9 (by decide) (fun c4 => ?_) (fun c4 => ?_)
  · replace h := sx_ifp h c4
    refine lv_iconst (v := (0 : Int32)) hx hb dX3_isPart_16 (by decide) ?_
    exact hj17 (0 : Int32) H locs ls (lv_sub hl [] rfl) hP hS h
  · replace h := sx_ifn h c4
    refine lv_iconst (v := (1 : Int32)) hx hb dX3_isPart_12 (by decide) ?_
    refine lv_goto (tgt := 17) hx hb dX3_isPart_13 (by decide) ?_
    exact hj17 (1 : Int32) H locs ls (lv_sub hl [] rfl) hP hS h
set_option maxRecDepth 100000 in
theorem ct_3_isPart (l : Launch) (C : sx_C) (hG : sx_G C) (s0 : Nat) (a1 : Int32) (hs_s0 : s0 < 18) (M0 : sx_M) (r : Int32) (h : f3_isPart s0 a1 M0 = some r) : Met l yX3_isPart (.code yX3_isPart cX3_isPart 2 (some .boolean) :: sx_T) ({ frames := 1, cells := 0, slots := 0, locals := 20 } : Room) (sx_Pc C M0 [.ref (sx_ad C 1 s0), .int a1]) (sx_Q C (some (.int r)) M0) 0 0 (sx_A C) := by
  refine Met.ofW (cc := cX3_isPart) (maxL := 2) (ret := (some .boolean)) (by decide) rfl ?_
  intro p e s m args below meth c s₁ B hml hv
  obtain ⟨rfl, hz, hP, hK⟩ := hv
  have hl := lv_entry ([.ref (sx_ad C 1 s0), .int a1]) (n := 2) (Nat.le_of_ble_eq_true rfl)
  rw [lg_entry_eq]
  generalize (lg_sl ([.ref (sx_ad C 1 s0), .int a1]) ++ List.replicate (2 - (lg_sl ([.ref (sx_ad C 1 s0), .int a1])).length) Slot.unset).toArray = ls at hl ⊢
  exact wk_3_isPart ⟨B.exec, B.bytes, hml, findClass_of_methodNamed B.named, fun w hw => atoms_spec B.pre w (List.mem_cons_of_mem _ hw), hK⟩ B.returns B.notSynchronized hG hz ⟨Nat.zero_le _, Nat.zero_le _⟩ ⟨Nat.le_refl _, Nat.le_refl _⟩ s0 a1 hs_s0 M0 r h hl hP va_S.rf
theorem cl_X2_27 (X : sx_X C p m c cc nL s args RX2) (hG : sx_G C) (hP : sx_W C M0 H) (hz : sx_sz C ≤ H0.size) (hS : va_S (sx_A C) H0 H locs) {s0 : Nat} {a1 : Int32} (hs_s0 : s0 < 18) {r : Int32} (h : f3_isPart s0 a1 M0 = some r) (hsz : ls.size = nL) (hdg : decode cc pc = .ok (.invokevirtual 27, 3)) (hcs : cells ≤ R.cells ∧ slots ≤ R.slots) (hR : 1 + 1 ≤ R.frames ∧ 8 + (2 + 11) + 20 ≤ R.locals) (hrest : (rest.map fun v => v.category).sum ≤ 8) (kk : ∀ (H1 : Heap) (locs1 : List Loc), sx_W C M0 H1 → va_S (sx_A C) H0 H1 locs1 → W p l e R s m args below meth c H1 locs1 cells slots Q (F0 m (pc + 3) ls ((.int r) :: rest))) : W p l e R s m args below meth c H locs cells slots Q (F0 m pc ls (.int a1 :: .ref (sx_ad C 1 s0) :: rest)) :=
  sx_callV (n := 1) (As := [.int a1]) (k0 := 1) (s0 := s0) X hP hz hS hs_s0 rfl rfl (sx_goodV tw_929 tw_597 tw_598 tw_65 tw_599) (by decide +kernel) rfl rfl hR (ct_3_isPart l C hG s0 a1 hs_s0 M0 r h) rfl rfl hrest hsz hdg hcs kk
theorem cl_X3_151 (X : sx_X C p m c cc nL s args RX3) (hG : sx_G C) (hP : sx_W C M0 H) (hz : sx_sz C ≤ H0.size) (hS : va_S (sx_A C) H0 H locs) {s0 : Nat} {a1 : Int32} (hs_s0 : s0 < 18) {r : Int32} (h : f3_isPart s0 a1 M0 = some r) (hsz : ls.size = nL) (hdg : decode cc pc = .ok (.invokevirtual 151, 3)) (hcs : cells ≤ R.cells ∧ slots ≤ R.slots) (hR : 1 + 1 ≤ R.frames ∧ 8 + (2 + 11) + 20 ≤ R.locals) (hrest : (rest.map fun v => v.category).sum ≤ 8) (kk : ∀ (H1 : Heap) (locs1 : List Loc), sx_W C M0 H1 → va_S (sx_A C) H0 H1 locs1 → W p l e R s m args below meth c H1 locs1 cells slots Q (F0 m (pc + 3) ls ((.int r) :: rest))) : W p l e R s m args below meth c H locs cells slots Q (F0 m pc ls (.int a1 :: .ref (sx_ad C 1 s0) :: rest)) :=
  sx_callV (n := 1) (As := [.int a1]) (k0 := 1) (s0 := s0) X hP hz hS hs_s0 rfl rfl (sx_goodV tw_596 tw_597 tw_598 tw_65 tw_599) (by decide +kernel) rfl rfl hR (ct_3_isPart l C hG s0 a1 hs_s0 M0 r h) rfl rfl hrest hsz hdg hcs kk
-- StringShed$Shed.partFault(I)I pure
def f3_partFault (s0 : Nat) (a1 : Int32) (M0 : sx_M) : Option (Int32) :=
  (f3_isPart s0 a1 M0).bind fun v1 =>
  sx_bd (fun (v2 : Int32) =>
    some v2) fun j13 =>
  if v1 = 0 then
    j13 (1 : Int32)
  else
    j13 (0 : Int32)
set_option maxRecDepth 100000 in
set_option maxHeartbeats 4000000 in
theorem wk_3_partFault (X : sx_X C p m c cX3_partFault 2 s args RX3) (hr : meth.sig.returnType = (some .int)) (hlocks : meth.locks = false) (hG : sx_G C) (hz : sx_sz C ≤ s.heap.size) (hcs : 0 ≤ R.cells ∧ 0 ≤ R.slots) (hR : 2 ≤ R.frames ∧ 41 ≤ R.locals) (s0 : Nat) (a1 : Int32) (hs_s0 : s0 < 18) (M0 : sx_M) (r : Int32) (h : f3_partFault s0 a1 M0 = some r) (hl : lv_has ls 2 [(0, .ref (sx_ad C 1 s0)), (1, .int a1)]) (hP : sx_W C M0 H) (hS : va_S (sx_A C) s.heap H locs) : W p l e R s m args below meth c H locs 0 0 (sx_Z C (some (.int r)) M0 below args s) (F0 m 0 ls []) := by
  obtain ⟨hx, hb, hml, hown, hts, hK⟩ := id X
  rw [f3_partFault] at h
  refine lv_aload_n hx hb dX3_partFault_0 rfl (lv_at hl 0 rfl) ?_
  refine lv_iload_n hx hb dX3_partFault_1 rfl (lv_at hl 1 rfl) ?_
  obtain ⟨v1, e_v1, h⟩ := sx_bnd h
  refine cl_X3_151 X hG hP hz hS hs_s0 e_v1 hl.1 dX3_partFault_2 hcs ⟨Nat.le_trans (by decide) hR.1, Nat.le_trans (by decide) hR.2⟩ (Nat.le_of_ble_eq_true rfl) (fun H locs hP hS => ?_)
  obtain ⟨j13, e_j13, h⟩ := sx_nm h
  have hj13 : ∀ (v2 : Int32) (H : Heap) (locs : List Loc) (ls : Array Slot), lv_has ls 2 [] → sx_W C M0 H → va_S (sx_A C) s.heap H locs → j13 v2 = some r → W p l e R s m args below meth c H locs 0 0 (sx_Z C (some (.int r)) M0 below args s) (F0 m 13 ls [.int v2]) := by
    intro v2 H locs ls hl hP hS h
    subst e_j13
    exact sx_iret X hr hlocks hS hP h dX3_partFault_13
  clear e_j13
  refine lv_if_eq (tgt := 12) hx hb dX3_partFault_5 (by decide) (fun c3 => ?_) (fun c3 => ?_)
  · replace h := sx_ifp h c3
    refine lv_iconst (v := (1 : Int32)) hx hb dX3_partFault_12 (by decide) ?_
    exact hj13 (1 : Int32) H locs ls (lv_sub hl [] rfl) hP hS h
  · replace h := sx_ifn h c3
    refine lv_iconst (v := (0 : Int32)) hx hb dX3_partFault_8 (by decide) ?_
    refine lv_goto (tgt := 13) hx hb dX3_partFault_9 (by decide) ?_
    exact hj13 (0 : Int32) H locs ls (lv_sub hl [] rfl) hP hS h
set_option maxRecDepth 100000 in
theorem ct_3_partFault (l : Launch) (C : sx_C) (hG : sx_G C) (s0 : Nat) (a1 : Int32) (hs_s0 : s0 < 18) (M0 : sx_M) (r : Int32) (h : f3_partFault s0 a1 M0 = some r) : Met l yX3_partFault (.code yX3_partFault cX3_partFault 2 (some .int) :: sx_T) ({ frames := 2, cells := 0, slots := 0, locals := 41 } : Room) (sx_Pc C M0 [.ref (sx_ad C 1 s0), .int a1]) (sx_Q C (some (.int r)) M0) 0 0 (sx_A C) := by
  refine Met.ofW (cc := cX3_partFault) (maxL := 2) (ret := (some .int)) (by decide) rfl ?_
  intro p e s m args below meth c s₁ B hml hv
  obtain ⟨rfl, hz, hP, hK⟩ := hv
  have hl := lv_entry ([.ref (sx_ad C 1 s0), .int a1]) (n := 2) (Nat.le_of_ble_eq_true rfl)
  rw [lg_entry_eq]
  generalize (lg_sl ([.ref (sx_ad C 1 s0), .int a1]) ++ List.replicate (2 - (lg_sl ([.ref (sx_ad C 1 s0), .int a1])).length) Slot.unset).toArray = ls at hl ⊢
  exact wk_3_partFault ⟨B.exec, B.bytes, hml, findClass_of_methodNamed B.named, fun w hw => atoms_spec B.pre w (List.mem_cons_of_mem _ hw), hK⟩ B.returns B.notSynchronized hG hz ⟨Nat.zero_le _, Nat.zero_le _⟩ ⟨Nat.le_refl _, Nat.le_refl _⟩ s0 a1 hs_s0 M0 r h hl hP va_S.rf
theorem cl_X3_139 (X : sx_X C p m c cc nL s args RX3) (hG : sx_G C) (hP : sx_W C M0 H) (hz : sx_sz C ≤ H0.size) (hS : va_S (sx_A C) H0 H locs) {s0 : Nat} {a1 : Int32} (hs_s0 : s0 < 18) {r : Int32} (h : f3_partFault s0 a1 M0 = some r) (hsz : ls.size = nL) (hdg : decode cc pc = .ok (.invokevirtual 139, 3)) (hcs : cells ≤ R.cells ∧ slots ≤ R.slots) (hR : 2 + 1 ≤ R.frames ∧ 8 + (2 + 11) + 41 ≤ R.locals) (hrest : (rest.map fun v => v.category).sum ≤ 8) (kk : ∀ (H1 : Heap) (locs1 : List Loc), sx_W C M0 H1 → va_S (sx_A C) H0 H1 locs1 → W p l e R s m args below meth c H1 locs1 cells slots Q (F0 m (pc + 3) ls ((.int r) :: rest))) : W p l e R s m args below meth c H locs cells slots Q (F0 m pc ls (.int a1 :: .ref (sx_ad C 1 s0) :: rest)) :=
  sx_callV (n := 1) (As := [.int a1]) (k0 := 1) (s0 := s0) X hP hz hS hs_s0 rfl rfl (sx_goodV tw_592 tw_593 tw_594 tw_65 tw_595) (by decide +kernel) rfl rfl hR (ct_3_partFault l C hG s0 a1 hs_s0 M0 r h) rfl rfl hrest hsz hdg hcs kk
theorem cl_X7_99 (X : sx_X C p m c cc nL s args RX7) (hG : sx_G C) (hP : sx_W C M0 H) (hz : sx_sz C ≤ H0.size) (hS : va_S (sx_A C) H0 H locs) {s0 : Nat} {a1 : Int32} (hs_s0 : s0 < 18) {r : Int32} (h : f3_partFault s0 a1 M0 = some r) (hsz : ls.size = nL) (hdg : decode cc pc = .ok (.invokevirtual 99, 3)) (hcs : cells ≤ R.cells ∧ slots ≤ R.slots) (hR : 2 + 1 ≤ R.frames ∧ 8 + (2 + 11) + 41 ≤ R.locals) (hrest : (rest.map fun v => v.category).sum ≤ 8) (kk : ∀ (H1 : Heap) (locs1 : List Loc), sx_W C M0 H1 → va_S (sx_A C) H0 H1 locs1 → W p l e R s m args below meth c H1 locs1 cells slots Q (F0 m (pc + 3) ls ((.int r) :: rest))) : W p l e R s m args below meth c H locs cells slots Q (F0 m pc ls (.int a1 :: .ref (sx_ad C 1 s0) :: rest)) :=
  sx_callV (n := 1) (As := [.int a1]) (k0 := 1) (s0 := s0) X hP hz hS hs_s0 rfl rfl (sx_goodV tw_685 tw_593 tw_594 tw_65 tw_595) (by decide +kernel) rfl rfl hR (ct_3_partFault l C hG s0 a1 hs_s0 M0 r h) rfl rfl hrest hsz hdg hcs kk
-- StringShed$Shed.faultOf(III)I pure
def f3_faultOf (s0 : Nat) (a1 : Int32) (a2 : Int32) (a3 : Int32) (M0 : sx_M) : Option (Int32) :=
  if a1 = (1 : Int32) then
    (f3_makeFault s0 a3 M0).bind fun v2 =>
    some v2
  else
  if a1 = (2 : Int32) then
    (f3_tieFault s0 a2 a3 M0).bind fun v4 =>
    some v4
  else
  if a1 = (3 : Int32) then
    (f4_find s0 a2 a3 M0).bind fun v6 =>
    sx_bd (fun (v7 : Int32) =>
      some v7) fun j75 =>
    if v6 = (-1 : Int32) then
      j75 (1 : Int32)
    else
      j75 (0 : Int32)
  else
  if a1 = (4 : Int32) then
    (f3_stringFault s0 a2 a3 (1 : Int32) M0).bind fun v10 =>
    some v10
  else
  if a1 = (5 : Int32) then
    (f3_stringFault s0 a2 a3 (0 : Int32) M0).bind fun v12 =>
    some v12
  else
  if a1 = (6 : Int32) then
    (f3_partFault s0 a3 M0).bind fun v14 =>
    some v14
  else
  if a1 = (7 : Int32) then
    (f5_isGoing s0 M0).bind fun v16 =>
    sx_bd (fun (v17 : Int32) =>
      some v17) fun j113 =>
    if v16 = 0 then
      j113 (0 : Int32)
    else
      j113 (3 : Int32)
  else
    (f5_isGoing s0 M0).bind fun v19 =>
    sx_bd (fun (v20 : Int32) =>
      some v20) fun j129 =>
    if v19 = 0 then
      j129 (3 : Int32)
    else
      j129 (0 : Int32)
set_option maxRecDepth 100000 in
set_option maxHeartbeats 4000000 in
theorem wk_3_faultOf (X : sx_X C p m c cX3_faultOf 4 s args RX3) (hr : meth.sig.returnType = (some .int)) (hlocks : meth.locks = false) (hG : sx_G C) (hz : sx_sz C ≤ s.heap.size) (hcs : 0 ≤ R.cells ∧ 0 ≤ R.slots) (hR : 3 ≤ R.frames ∧ 66 ≤ R.locals) (s0 : Nat) (a1 : Int32) (a2 : Int32) (a3 : Int32) (hs_s0 : s0 < 18) (M0 : sx_M) (r : Int32) (h : f3_faultOf s0 a1 a2 a3 M0 = some r) (hl : lv_has ls 4 [(0, .ref (sx_ad C 1 s0)), (1, .int a1), (2, .int a2), (3, .int a3)]) (hP : sx_W C M0 H) (hS : va_S (sx_A C) s.heap H locs) : W p l e R s m args below meth c H locs 0 0 (sx_Z C (some (.int r)) M0 below args s) (F0 m 0 ls []) := by
  obtain ⟨hx, hb, hml, hown, hts, hK⟩ := id X
  rw [f3_faultOf] at h
  refine lv_iload_n hx hb dX3_faultOf_0 rfl (lv_at hl 1 rfl) ?_
  by_cases c1 : a1 = (1 : Int32)
  · replace h := sx_ifp h c1
    refine lv_tableIn (tgt := 44) hx hb dX3_faultOf_1 (by rw [c1]; decide) (by rw [c1]; decide) (by rw [c1]; rfl) (by decide) ?_
    refine lv_aload_n hx hb dX3_faultOf_44 rfl (lv_at hl 0 rfl) ?_
    refine lv_iload_n hx hb dX3_faultOf_45 rfl (lv_at hl 3 rfl) ?_
    obtain ⟨v2, e_v2, h⟩ := sx_bnd h
    refine cl_X3_126 X hG hP hz hS hs_s0 e_v2 hl.1 dX3_faultOf_46 hcs ⟨Nat.le_trans (by decide) hR.1, Nat.le_trans (by decide) hR.2⟩ (Nat.le_of_ble_eq_true rfl) (fun H locs hP hS => ?_)
    exact sx_iret X hr hlocks hS hP h dX3_faultOf_49
  replace h := sx_ifn h c1
  by_cases c3 : a1 = (2 : Int32)
  · replace h := sx_ifp h c3
    refine lv_tableIn (tgt := 50) hx hb dX3_faultOf_1 (by rw [c3]; decide) (by rw [c3]; decide) (by rw [c3]; rfl) (by decide) ?_
    refine lv_aload_n hx hb dX3_faultOf_50 rfl (lv_at hl 0 rfl) ?_
    refine lv_iload_n hx hb dX3_faultOf_51 rfl (lv_at hl 2 rfl) ?_
    refine lv_iload_n hx hb dX3_faultOf_52 rfl (lv_at hl 3 rfl) ?_
    obtain ⟨v4, e_v4, h⟩ := sx_bnd h
    refine cl_X3_129 X hG hP hz hS hs_s0 e_v4 hl.1 dX3_faultOf_53 hcs ⟨Nat.le_trans (by decide) hR.1, Nat.le_trans (by decide) hR.2⟩ (Nat.le_of_ble_eq_true rfl) (fun H locs hP hS => ?_)
    exact sx_iret X hr hlocks hS hP h dX3_faultOf_56
  replace h := sx_ifn h c3
  by_cases c5 : a1 = (3 : Int32)
  · replace h := sx_ifp h c5
    refine lv_tableIn (tgt := 57) hx hb dX3_faultOf_1 (by rw [c5]; decide) (by rw [c5]; decide) (by rw [c5]; rfl) (by decide) ?_
    refine lv_aload_n hx hb dX3_faultOf_57 rfl (lv_at hl 0 rfl) ?_
    refine gf_X3_12 X hP hs_s0 dX3_faultOf_58 ?_
    refine lv_iload_n hx hb dX3_faultOf_61 rfl (lv_at hl 2 rfl) ?_
    refine lv_iload_n hx hb dX3_faultOf_62 rfl (lv_at hl 3 rfl) ?_
    obtain ⟨v6, e_v6, h⟩ := sx_bnd h
    refine cl_X3_132 X hG hP hz hS hs_s0 e_v6 hl.1 dX3_faultOf_63 hcs ⟨Nat.le_trans (by decide) hR.1, Nat.le_trans (by decide) hR.2⟩ (Nat.le_of_ble_eq_true rfl) (fun H locs hP hS => ?_)
    refine lv_iconst (v := (-1 : Int32)) hx hb dX3_faultOf_66 (by decide) ?_
    obtain ⟨j75, e_j75, h⟩ := sx_nm h
    have hj75 : ∀ (v7 : Int32) (H : Heap) (locs : List Loc) (ls : Array Slot), lv_has ls 4 [] → sx_W C M0 H → va_S (sx_A C) s.heap H locs → j75 v7 = some r → W p l e R s m args below meth c H locs 0 0 (sx_Z C (some (.int r)) M0 below args s) (F0 m 75 ls [.int v7]) := by
      intro v7 H locs ls hl hP hS h
      subst e_j75
      exact sx_iret X hr hlocks hS hP h dX3_faultOf_75
    clear e_j75
    refine lv_icmp_ne (tgt := 74) hx hb dX3_faultOf_67 (by decide) (fun c8 => ?_) (fun c8 => ?_)
    · replace h := sx_ifn h c8
      refine lv_iconst (v := (0 : Int32)) hx hb dX3_faultOf_74 (by decide) ?_
      exact hj75 (0 : Int32) H locs ls (lv_sub hl [] rfl) hP hS h
    · replace h := sx_ifp h c8
      refine lv_iconst (v := (1 : Int32)) hx hb dX3_faultOf_70 (by decide) ?_
      refine lv_goto (tgt := 75) hx hb dX3_faultOf_71 (by decide) ?_
      exact hj75 (1 : Int32) H locs ls (lv_sub hl [] rfl) hP hS h
  replace h := sx_ifn h c5
  by_cases c9 : a1 = (4 : Int32)
  · replace h := sx_ifp h c9
    refine lv_tableIn (tgt := 76) hx hb dX3_faultOf_1 (by rw [c9]; decide) (by rw [c9]; decide) (by rw [c9]; rfl) (by decide) ?_
    refine lv_aload_n hx hb dX3_faultOf_76 rfl (lv_at hl 0 rfl) ?_
    refine lv_iload_n hx hb dX3_faultOf_77 rfl (lv_at hl 2 rfl) ?_
    refine lv_iload_n hx hb dX3_faultOf_78 rfl (lv_at hl 3 rfl) ?_
    refine lv_iconst (v := (1 : Int32)) hx hb dX3_faultOf_79 (by decide) ?_
    obtain ⟨v10, e_v10, h⟩ := sx_bnd h
    refine cl_X3_135 X hG hP hz hS hs_s0 e_v10 hl.1 dX3_faultOf_80 hcs ⟨Nat.le_trans (by decide) hR.1, Nat.le_trans (by decide) hR.2⟩ (Nat.le_of_ble_eq_true rfl) (fun H locs hP hS => ?_)
    exact sx_iret X hr hlocks hS hP h dX3_faultOf_83
  replace h := sx_ifn h c9
  by_cases c11 : a1 = (5 : Int32)
  · replace h := sx_ifp h c11
    refine lv_tableIn (tgt := 84) hx hb dX3_faultOf_1 (by rw [c11]; decide) (by rw [c11]; decide) (by rw [c11]; rfl) (by decide) ?_
    refine lv_aload_n hx hb dX3_faultOf_84 rfl (lv_at hl 0 rfl) ?_
    refine lv_iload_n hx hb dX3_faultOf_85 rfl (lv_at hl 2 rfl) ?_
    refine lv_iload_n hx hb dX3_faultOf_86 rfl (lv_at hl 3 rfl) ?_
    refine lv_iconst (v := (0 : Int32)) hx hb dX3_faultOf_87 (by decide) ?_
    obtain ⟨v12, e_v12, h⟩ := sx_bnd h
    refine cl_X3_135 X hG hP hz hS hs_s0 e_v12 hl.1 dX3_faultOf_88 hcs ⟨Nat.le_trans (by decide) hR.1, Nat.le_trans (by decide) hR.2⟩ (Nat.le_of_ble_eq_true rfl) (fun H locs hP hS => ?_)
    exact sx_iret X hr hlocks hS hP h dX3_faultOf_91
  replace h := sx_ifn h c11
  by_cases c13 : a1 = (6 : Int32)
  · replace h := sx_ifp h c13
    refine lv_tableIn (tgt := 92) hx hb dX3_faultOf_1 (by rw [c13]; decide) (by rw [c13]; decide) (by rw [c13]; rfl) (by decide) ?_
    refine lv_aload_n hx hb dX3_faultOf_92 rfl (lv_at hl 0 rfl) ?_
    refine lv_iload_n hx hb dX3_faultOf_93 rfl (lv_at hl 3 rfl) ?_
    obtain ⟨v14, e_v14, h⟩ := sx_bnd h
    refine cl_X3_139 X hG hP hz hS hs_s0 e_v14 hl.1 dX3_faultOf_94 hcs ⟨Nat.le_trans (by decide) hR.1, Nat.le_trans (by decide) hR.2⟩ (Nat.le_of_ble_eq_true rfl) (fun H locs hP hS => ?_)
    exact sx_iret X hr hlocks hS hP h dX3_faultOf_97
  replace h := sx_ifn h c13
  by_cases c15 : a1 = (7 : Int32)
  · replace h := sx_ifp h c15
    refine lv_tableIn (tgt := 98) hx hb dX3_faultOf_1 (by rw [c15]; decide) (by rw [c15]; decide) (by rw [c15]; rfl) (by decide) ?_
    refine lv_aload_n hx hb dX3_faultOf_98 rfl (lv_at hl 0 rfl) ?_
    refine gf_X3_21 X hP hs_s0 dX3_faultOf_99 ?_
    obtain ⟨v16, e_v16, h⟩ := sx_bnd h
    refine cl_X3_97 X hG hP hz hS hs_s0 e_v16 hl.1 dX3_faultOf_102 hcs ⟨Nat.le_trans (by decide) hR.1, Nat.le_trans (by decide) hR.2⟩ (Nat.le_of_ble_eq_true rfl) (fun H locs hP hS => ?_)
    obtain ⟨j113, e_j113, h⟩ := sx_nm h
    have hj113 : ∀ (v17 : Int32) (H : Heap) (locs : List Loc) (ls : Array Slot), lv_has ls 4 [] → sx_W C M0 H → va_S (sx_A C) s.heap H locs → j113 v17 = some r → W p l e R s m args below meth c H locs 0 0 (sx_Z C (some (.int r)) M0 below args s) (F0 m 113 ls [.int v17]) := by
      intro v17 H locs ls hl hP hS h
      subst e_j113
      exact sx_iret X hr hlocks hS hP h dX3_faultOf_113
    clear e_j113
    refine lv_if_eq (tgt := 112) hx hb dX3_faultOf_105 (by decide) (fun c18 => ?_) (fun c18 => ?_)
    · replace h := sx_ifp h c18
      refine lv_iconst (v := (0 : Int32)) hx hb dX3_faultOf_112 (by decide) ?_
      exact hj113 (0 : Int32) H locs ls (lv_sub hl [] rfl) hP hS h
    · replace h := sx_ifn h c18
      refine lv_iconst (v := (3 : Int32)) hx hb dX3_faultOf_108 (by decide) ?_
      refine lv_goto (tgt := 113) hx hb dX3_faultOf_109 (by decide) ?_
      exact hj113 (3 : Int32) H locs ls (lv_sub hl [] rfl) hP hS h
  replace h := sx_ifn h c15
  have t_c1 := lv_neT (a := 1) c1 (by decide)
  have t_c3 := lv_neT (a := 2) c3 (by decide)
  have t_c5 := lv_neT (a := 3) c5 (by decide)
  have t_c9 := lv_neT (a := 4) c9 (by decide)
  have t_c11 := lv_neT (a := 5) c11 (by decide)
  have t_c13 := lv_neT (a := 6) c13 (by decide)
  have t_c15 := lv_neT (a := 7) c15 (by decide)
  refine lv_tableOut (tgt := 114) hx hb dX3_faultOf_1 (by omega) (by decide) ?_
  refine lv_aload_n hx hb dX3_faultOf_114 rfl (lv_at hl 0 rfl) ?_
  refine gf_X3_21 X hP hs_s0 dX3_faultOf_115 ?_
  obtain ⟨v19, e_v19, h⟩ := sx_bnd h
  refine cl_X3_97 X hG hP hz hS hs_s0 e_v19 hl.1 dX3_faultOf_118 hcs ⟨Nat.le_trans (by decide) hR.1, Nat.le_trans (by decide) hR.2⟩ (Nat.le_of_ble_eq_true rfl) (fun H locs hP hS => ?_)
  obtain ⟨j129, e_j129, h⟩ := sx_nm h
  have hj129 : ∀ (v20 : Int32) (H : Heap) (locs : List Loc) (ls : Array Slot), lv_has ls 4 [] → sx_W C M0 H → va_S (sx_A C) s.heap H locs → j129 v20 = some r → W p l e R s m args below meth c H locs 0 0 (sx_Z C (some (.int r)) M0 below args s) (F0 m 129 ls [.int v20]) := by
    intro v20 H locs ls hl hP hS h
    subst e_j129
    exact sx_iret X hr hlocks hS hP h dX3_faultOf_129
  clear e_j129
  refine lv_if_eq (tgt := 128) hx hb dX3_faultOf_121 (by decide) (fun c21 => ?_) (fun c21 => ?_)
  · replace h := sx_ifp h c21
    refine lv_iconst (v := (3 : Int32)) hx hb dX3_faultOf_128 (by decide) ?_
    exact hj129 (3 : Int32) H locs ls (lv_sub hl [] rfl) hP hS h
  · replace h := sx_ifn h c21
    refine lv_iconst (v := (0 : Int32)) hx hb dX3_faultOf_124 (by decide) ?_
    refine lv_goto (tgt := 129) hx hb dX3_faultOf_125 (by decide) ?_
    exact hj129 (0 : Int32) H locs ls (lv_sub hl [] rfl) hP hS h
set_option maxRecDepth 100000 in
theorem ct_3_faultOf (l : Launch) (C : sx_C) (hG : sx_G C) (s0 : Nat) (a1 : Int32) (a2 : Int32) (a3 : Int32) (hs_s0 : s0 < 18) (M0 : sx_M) (r : Int32) (h : f3_faultOf s0 a1 a2 a3 M0 = some r) : Met l yX3_faultOf (.code yX3_faultOf cX3_faultOf 4 (some .int) :: sx_T) ({ frames := 3, cells := 0, slots := 0, locals := 66 } : Room) (sx_Pc C M0 [.ref (sx_ad C 1 s0), .int a1, .int a2, .int a3]) (sx_Q C (some (.int r)) M0) 0 0 (sx_A C) := by
  refine Met.ofW (cc := cX3_faultOf) (maxL := 4) (ret := (some .int)) (by decide) rfl ?_
  intro p e s m args below meth c s₁ B hml hv
  obtain ⟨rfl, hz, hP, hK⟩ := hv
  have hl := lv_entry ([.ref (sx_ad C 1 s0), .int a1, .int a2, .int a3]) (n := 4) (Nat.le_of_ble_eq_true rfl)
  rw [lg_entry_eq]
  generalize (lg_sl ([.ref (sx_ad C 1 s0), .int a1, .int a2, .int a3]) ++ List.replicate (4 - (lg_sl ([.ref (sx_ad C 1 s0), .int a1, .int a2, .int a3])).length) Slot.unset).toArray = ls at hl ⊢
  exact wk_3_faultOf ⟨B.exec, B.bytes, hml, findClass_of_methodNamed B.named, fun w hw => atoms_spec B.pre w (List.mem_cons_of_mem _ hw), hK⟩ B.returns B.notSynchronized hG hz ⟨Nat.zero_le _, Nat.zero_le _⟩ ⟨Nat.le_refl _, Nat.le_refl _⟩ s0 a1 a2 a3 hs_s0 M0 r h hl hP va_S.rf
theorem cl_X3_118 (X : sx_X C p m c cc nL s args RX3) (hG : sx_G C) (hP : sx_W C M0 H) (hz : sx_sz C ≤ H0.size) (hS : va_S (sx_A C) H0 H locs) {s0 : Nat} {a1 : Int32} {a2 : Int32} {a3 : Int32} (hs_s0 : s0 < 18) {r : Int32} (h : f3_faultOf s0 a1 a2 a3 M0 = some r) (hsz : ls.size = nL) (hdg : decode cc pc = .ok (.invokevirtual 118, 3)) (hcs : cells ≤ R.cells ∧ slots ≤ R.slots) (hR : 3 + 1 ≤ R.frames ∧ 8 + (4 + 11) + 66 ≤ R.locals) (hrest : (rest.map fun v => v.category).sum ≤ 8) (kk : ∀ (H1 : Heap) (locs1 : List Loc), sx_W C M0 H1 → va_S (sx_A C) H0 H1 locs1 → W p l e R s m args below meth c H1 locs1 cells slots Q (F0 m (pc + 3) ls ((.int r) :: rest))) : W p l e R s m args below meth c H locs cells slots Q (F0 m pc ls (.int a3 :: .int a2 :: .int a1 :: .ref (sx_ad C 1 s0) :: rest)) :=
  sx_callV (n := 3) (As := [.int a1, .int a2, .int a3]) (k0 := 1) (s0 := s0) X hP hz hS hs_s0 rfl rfl (sx_goodV tw_564 tw_565 tw_566 tw_65 tw_567) (by decide +kernel) rfl rfl hR (ct_3_faultOf l C hG s0 a1 a2 a3 hs_s0 M0 r h) rfl rfl hrest hsz hdg hcs kk
theorem cl_X7_145 (X : sx_X C p m c cc nL s args RX7) (hG : sx_G C) (hP : sx_W C M0 H) (hz : sx_sz C ≤ H0.size) (hS : va_S (sx_A C) H0 H locs) {s0 : Nat} {a1 : Int32} {a2 : Int32} {a3 : Int32} (hs_s0 : s0 < 18) {r : Int32} (h : f3_faultOf s0 a1 a2 a3 M0 = some r) (hsz : ls.size = nL) (hdg : decode cc pc = .ok (.invokevirtual 145, 3)) (hcs : cells ≤ R.cells ∧ slots ≤ R.slots) (hR : 3 + 1 ≤ R.frames ∧ 8 + (4 + 11) + 66 ≤ R.locals) (hrest : (rest.map fun v => v.category).sum ≤ 8) (kk : ∀ (H1 : Heap) (locs1 : List Loc), sx_W C M0 H1 → va_S (sx_A C) H0 H1 locs1 → W p l e R s m args below meth c H1 locs1 cells slots Q (F0 m (pc + 3) ls ((.int r) :: rest))) : W p l e R s m args below meth c H locs cells slots Q (F0 m pc ls (.int a3 :: .int a2 :: .int a1 :: .ref (sx_ad C 1 s0) :: rest)) :=
  sx_callV (n := 3) (As := [.int a1, .int a2, .int a3]) (k0 := 1) (s0 := s0) X hP hz hS hs_s0 rfl rfl (sx_goodV tw_765 tw_565 tw_566 tw_65 tw_567) (by decide +kernel) rfl rfl hR (ct_3_faultOf l C hG s0 a1 a2 a3 hs_s0 M0 r h) rfl rfl hrest hsz hdg hcs kk
-- StringShed$Shed.addPart(I)I
def f3_addPart (s0 : Nat) (a1 : Int32) (M0 : sx_M) : Option (Int32 × sx_M) :=
  sx_bd (M0.1 1 s0 3) fun v1 =>
  sx_bd (fun (M2 : sx_M) =>
    some (v1, M2)) fun j53 =>
  if v1 < 0 then
    j53 M0
  else
    if (24 : Int32) ≤ v1 then
      j53 M0
    else
      if sx_in v1 24 then
      sx_bd (sx_set M0 8 s0 (v1).toNatClampNeg a1) fun M5 =>
      sx_bd (M5.1 1 s0 4) fun v6 =>
      (f7_bitOf v1 M5).bind fun v7 =>
      sx_bd (sx_set M5 1 s0 4 (v6 ||| v7)) fun M8 =>
      (f5_addBlack s0 v1 M8).bind fun M9 =>
      sx_bd (M9.1 1 s0 3) fun v10 =>
      sx_bd (sx_set M9 1 s0 3 (v10 + (1 : Int32))) fun M11 =>
      j53 M11
      else none
set_option maxRecDepth 100000 in
set_option maxHeartbeats 4000000 in
theorem wk_3_addPart (X : sx_X C p m c cX3_addPart 3 s args RX3) (hr : meth.sig.returnType = (some .int)) (hlocks : meth.locks = false) (hG : sx_G C) (hz : sx_sz C ≤ s.heap.size) (hcs : 0 ≤ R.cells ∧ 0 ≤ R.slots) (hR : 2 ≤ R.frames ∧ 41 ≤ R.locals) (s0 : Nat) (a1 : Int32) (hs_s0 : s0 < 18) (M0 : sx_M) (r : Int32) (M' : sx_M) (h : f3_addPart s0 a1 M0 = some (r, M')) (hl : lv_has ls 3 [(0, .ref (sx_ad C 1 s0)), (1, .int a1)]) (hP : sx_W C M0 H) (hS : va_S (sx_A C) s.heap H locs) : W p l e R s m args below meth c H locs 0 0 (sx_Z C (some (.int r)) M' below args s) (F0 m 0 ls []) := by
  obtain ⟨hx, hb, hml, hown, hts, hK⟩ := id X
  rw [f3_addPart] at h
  refine lv_aload_n hx hb dX3_addPart_0 rfl (lv_at hl 0 rfl) ?_
  refine gf_X3_29 X hP hs_s0 dX3_addPart_1 h (fun v1 h => ?_)
  refine lv_istore_n (lv' := [(2, .int v1), (0, .ref (sx_ad C 1 s0)), (1, .int a1)]) hx hb dX3_addPart_4 rfl hl (by decide) rfl (fun ls hl => ?_)
  refine lv_iload_n hx hb dX3_addPart_5 rfl (lv_at hl 0 rfl) ?_
  obtain ⟨j53, e_j53, h⟩ := sx_nm h
  have hj53 : ∀ (M2 : sx_M) (H : Heap) (locs : List Loc) (ls : Array Slot), lv_has ls 3 [(2, .int v1)] → sx_W C M2 H → va_S (sx_A C) s.heap H locs → j53 M2 = some (r, M') → W p l e R s m args below meth c H locs 0 0 (sx_Z C (some (.int r)) M' below args s) (F0 m 53 ls []) := by
    intro M2 H locs ls hl hP hS h
    subst e_j53
    refine lv_iload_n hx hb dX3_addPart_53 rfl (lv_at hl 0 rfl) ?_
    exact sx_iretM X hr hlocks hS hP h dX3_addPart_54
  clear e_j53
  refine lv_if_lt (tgt := 53) hx hb dX3_addPart_6 (by decide) (fun c3 => ?_) (fun c3 => ?_)
  · replace h := sx_ifp h c3
    exact hj53 M0 H locs ls (lv_sub hl [0] rfl) hP hS h
  · replace h := sx_ifn h c3
    refine lv_iload_n hx hb dX3_addPart_9 rfl (lv_at hl 0 rfl) ?_
    refine lv_bipush (v := (24 : Int32)) hx hb dX3_addPart_10 (by decide) ?_
    refine lv_icmp_ge (tgt := 53) hx hb dX3_addPart_12 (by decide) (fun c4 => ?_) (fun c4 => ?_)
    · replace h := sx_ifp h c4
      exact hj53 M0 H locs ls (lv_sub hl [0] rfl) hP hS h
    · replace h := sx_ifn h c4
      refine lv_aload_n hx hb dX3_addPart_15 rfl (lv_at hl 1 rfl) ?_
      refine gf_X3_25 X hP hs_s0 dX3_addPart_16 ?_
      refine lv_iload_n hx hb dX3_addPart_19 rfl (lv_at hl 0 rfl) ?_
      refine lv_iload_n hx hb dX3_addPart_20 rfl (lv_at hl 2 rfl) ?_
      refine sx_iast X hG hP hS 8 s0 24 hs_s0 (fun _ _ => rfl) dX3_addPart_21 h (fun M5 H locs h hP hS => ?_)
      refine lv_aload_n hx hb dX3_addPart_22 rfl (lv_at hl 1 rfl) ?_
      refine lv_dup hx hb dX3_addPart_23 rfl ?_
      refine gf_X3_33 X hP hs_s0 dX3_addPart_24 h (fun v6 h => ?_)
      refine lv_iload_n hx hb dX3_addPart_27 rfl (lv_at hl 0 rfl) ?_
      obtain ⟨v7, e_v7, h⟩ := sx_bnd h
      refine cl_X3_64 X hG hP hz hS  e_v7 hl.1 dX3_addPart_28 hcs ⟨Nat.le_trans (by decide) hR.1, Nat.le_trans (by decide) hR.2⟩ (Nat.le_of_ble_eq_true rfl) (fun H locs hP hS => ?_)
      refine lv_ior hx hb dX3_addPart_31 ?_
      refine pf_X3_33 X hG hP hS hs_s0 dX3_addPart_32 h (fun M8 H locs h hP hS => ?_)
      refine lv_aload_n hx hb dX3_addPart_35 rfl (lv_at hl 1 rfl) ?_
      refine gf_X3_21 X hP hs_s0 dX3_addPart_36 ?_
      refine lv_iload_n hx hb dX3_addPart_39 rfl (lv_at hl 0 rfl) ?_
      obtain ⟨M9, e_M9, h⟩ := sx_bnd h
      refine cl_X3_176 X hG hP hz hS hs_s0 e_M9 hl.1 dX3_addPart_40 hcs ⟨Nat.le_trans (by decide) hR.1, Nat.le_trans (by decide) hR.2⟩ (Nat.le_of_ble_eq_true rfl) (fun H locs hP hS => ?_)
      refine lv_aload_n hx hb dX3_addPart_43 rfl (lv_at hl 1 rfl) ?_
      refine lv_dup hx hb dX3_addPart_44 rfl ?_
      refine gf_X3_29 X hP hs_s0 dX3_addPart_45 h (fun v10 h => ?_)
      refine lv_iconst (v := (1 : Int32)) hx hb dX3_addPart_48 (by decide) ?_
      refine lv_iadd hx hb dX3_addPart_49 ?_
      refine pf_X3_29 X hG hP hS hs_s0 dX3_addPart_50 h (fun M11 H locs h hP hS => ?_)
      exact hj53 M11 H locs ls (lv_sub hl [0] rfl) hP hS h
set_option maxRecDepth 100000 in
theorem ct_3_addPart (l : Launch) (C : sx_C) (hG : sx_G C) (s0 : Nat) (a1 : Int32) (hs_s0 : s0 < 18) (M0 : sx_M) (r : Int32) (M' : sx_M) (h : f3_addPart s0 a1 M0 = some (r, M')) : Met l yX3_addPart (.code yX3_addPart cX3_addPart 3 (some .int) :: sx_T) ({ frames := 2, cells := 0, slots := 0, locals := 41 } : Room) (sx_Pc C M0 [.ref (sx_ad C 1 s0), .int a1]) (sx_Q C (some (.int r)) M') 0 0 (sx_A C) := by
  refine Met.ofW (cc := cX3_addPart) (maxL := 3) (ret := (some .int)) (by decide) rfl ?_
  intro p e s m args below meth c s₁ B hml hv
  obtain ⟨rfl, hz, hP, hK⟩ := hv
  have hl := lv_entry ([.ref (sx_ad C 1 s0), .int a1]) (n := 3) (Nat.le_of_ble_eq_true rfl)
  rw [lg_entry_eq]
  generalize (lg_sl ([.ref (sx_ad C 1 s0), .int a1]) ++ List.replicate (3 - (lg_sl ([.ref (sx_ad C 1 s0), .int a1])).length) Slot.unset).toArray = ls at hl ⊢
  exact wk_3_addPart ⟨B.exec, B.bytes, hml, findClass_of_methodNamed B.named, fun w hw => atoms_spec B.pre w (List.mem_cons_of_mem _ hw), hK⟩ B.returns B.notSynchronized hG hz ⟨Nat.zero_le _, Nat.zero_le _⟩ ⟨Nat.le_refl _, Nat.le_refl _⟩ s0 a1 hs_s0 M0 r M' h hl hP va_S.rf
theorem cl_X3_154 (X : sx_X C p m c cc nL s args RX3) (hG : sx_G C) (hP : sx_W C M0 H) (hz : sx_sz C ≤ H0.size) (hS : va_S (sx_A C) H0 H locs) {s0 : Nat} {a1 : Int32} (hs_s0 : s0 < 18) {r : Int32} {M' : sx_M} (h : f3_addPart s0 a1 M0 = some (r, M')) (hsz : ls.size = nL) (hdg : decode cc pc = .ok (.invokevirtual 154, 3)) (hcs : cells ≤ R.cells ∧ slots ≤ R.slots) (hR : 2 + 1 ≤ R.frames ∧ 8 + (3 + 11) + 41 ≤ R.locals) (hrest : (rest.map fun v => v.category).sum ≤ 8) (kk : ∀ (H1 : Heap) (locs1 : List Loc), sx_W C M' H1 → va_S (sx_A C) H0 H1 locs1 → W p l e R s m args below meth c H1 locs1 cells slots Q (F0 m (pc + 3) ls ((.int r) :: rest))) : W p l e R s m args below meth c H locs cells slots Q (F0 m pc ls (.int a1 :: .ref (sx_ad C 1 s0) :: rest)) :=
  sx_callV (n := 1) (As := [.int a1]) (k0 := 1) (s0 := s0) X hP hz hS hs_s0 rfl rfl (sx_goodV tw_604 tw_606 tw_9 tw_65 tw_607) (by decide +kernel) rfl rfl hR (ct_3_addPart l C hG s0 a1 hs_s0 M0 r M' h) rfl rfl hrest hsz hdg hcs kk
-- StringShed$Shed.addString(IIZ)I
def f3_addString (s0 : Nat) (a1 : Int32) (a2 : Int32) (a3 : Int32) (M0 : sx_M) : Option (Int32 × sx_M) :=
  (f4_add s0 a1 a2 a3 M0).bind fun M1 =>
  sx_bd (fun (M2 : sx_M) =>
    (f4_size s0 M2).bind fun v3 =>
    some (v3, M2)) fun j33 =>
  if a3 = 0 then
    j33 M1
  else
    (f5_passesBelow s0 a1 M1).bind fun v5 =>
    if v5 = 0 then
      j33 M1
    else
      (f5_shade s0 a2 M1).bind fun M7 =>
      j33 M7
set_option maxRecDepth 100000 in
set_option maxHeartbeats 4000000 in
theorem wk_3_addString (X : sx_X C p m c cX3_addString 4 s args RX3) (hr : meth.sig.returnType = (some .int)) (hlocks : meth.locks = false) (hG : sx_G C) (hz : sx_sz C ≤ s.heap.size) (hcs : 0 ≤ R.cells ∧ 0 ≤ R.slots) (hR : 2 ≤ R.frames ∧ 41 ≤ R.locals) (s0 : Nat) (a1 : Int32) (a2 : Int32) (a3 : Int32) (hs_s0 : s0 < 18) (M0 : sx_M) (r : Int32) (M' : sx_M) (h : f3_addString s0 a1 a2 a3 M0 = some (r, M')) (hl : lv_has ls 4 [(0, .ref (sx_ad C 1 s0)), (1, .int a1), (2, .int a2), (3, .int a3)]) (hP : sx_W C M0 H) (hS : va_S (sx_A C) s.heap H locs) : W p l e R s m args below meth c H locs 0 0 (sx_Z C (some (.int r)) M' below args s) (F0 m 0 ls []) := by
  obtain ⟨hx, hb, hml, hown, hts, hK⟩ := id X
  rw [f3_addString] at h
  refine lv_aload_n hx hb dX3_addString_0 rfl (lv_at hl 0 rfl) ?_
  refine gf_X3_12 X hP hs_s0 dX3_addString_1 ?_
  refine lv_iload_n hx hb dX3_addString_4 rfl (lv_at hl 1 rfl) ?_
  refine lv_iload_n hx hb dX3_addString_5 rfl (lv_at hl 2 rfl) ?_
  refine lv_iload_n hx hb dX3_addString_6 rfl (lv_at hl 3 rfl) ?_
  obtain ⟨M1, e_M1, h⟩ := sx_bnd h
  refine cl_X3_180 X hG hP hz hS hs_s0 e_M1 hl.1 dX3_addString_7 hcs ⟨Nat.le_trans (by decide) hR.1, Nat.le_trans (by decide) hR.2⟩ (Nat.le_of_ble_eq_true rfl) (fun H locs hP hS => ?_)
  refine lv_iload_n hx hb dX3_addString_10 rfl (lv_at hl 3 rfl) ?_
  obtain ⟨j33, e_j33, h⟩ := sx_nm h
  have hj33 : ∀ (M2 : sx_M) (H : Heap) (locs : List Loc) (ls : Array Slot), lv_has ls 4 [(0, .ref (sx_ad C 1 s0))] → sx_W C M2 H → va_S (sx_A C) s.heap H locs → j33 M2 = some (r, M') → W p l e R s m args below meth c H locs 0 0 (sx_Z C (some (.int r)) M' below args s) (F0 m 33 ls []) := by
    intro M2 H locs ls hl hP hS h
    subst e_j33
    refine lv_aload_n hx hb dX3_addString_33 rfl (lv_at hl 0 rfl) ?_
    refine gf_X3_12 X hP hs_s0 dX3_addString_34 ?_
    obtain ⟨v3, e_v3, h⟩ := sx_bnd h
    refine cl_X3_91 X hG hP hz hS hs_s0 e_v3 hl.1 dX3_addString_37 hcs ⟨Nat.le_trans (by decide) hR.1, Nat.le_trans (by decide) hR.2⟩ (Nat.le_of_ble_eq_true rfl) (fun H locs hP hS => ?_)
    exact sx_iretM X hr hlocks hS hP h dX3_addString_40
  clear e_j33
  refine lv_if_eq (tgt := 33) hx hb dX3_addString_11 (by decide) (fun c4 => ?_) (fun c4 => ?_)
  · replace h := sx_ifp h c4
    exact hj33 M1 H locs ls (lv_sub hl [0] rfl) hP hS h
  · replace h := sx_ifn h c4
    refine lv_aload_n hx hb dX3_addString_14 rfl (lv_at hl 0 rfl) ?_
    refine gf_X3_21 X hP hs_s0 dX3_addString_15 ?_
    refine lv_iload_n hx hb dX3_addString_18 rfl (lv_at hl 1 rfl) ?_
    obtain ⟨v5, e_v5, h⟩ := sx_bnd h
    refine cl_X3_184 X hG hP hz hS hs_s0 e_v5 hl.1 dX3_addString_19 hcs ⟨Nat.le_trans (by decide) hR.1, Nat.le_trans (by decide) hR.2⟩ (Nat.le_of_ble_eq_true rfl) (fun H locs hP hS => ?_)
    refine lv_if_eq (tgt := 33) hx hb dX3_addString_22 (by decide) (fun c6 => ?_) (fun c6 => ?_)
    · replace h := sx_ifp h c6
      exact hj33 M1 H locs ls (lv_sub hl [0] rfl) hP hS h
    · replace h := sx_ifn h c6
      refine lv_aload_n hx hb dX3_addString_25 rfl (lv_at hl 0 rfl) ?_
      refine gf_X3_21 X hP hs_s0 dX3_addString_26 ?_
      refine lv_iload_n hx hb dX3_addString_29 rfl (lv_at hl 2 rfl) ?_
      obtain ⟨M7, e_M7, h⟩ := sx_bnd h
      refine cl_X3_187 X hG hP hz hS hs_s0 e_M7 hl.1 dX3_addString_30 hcs ⟨Nat.le_trans (by decide) hR.1, Nat.le_trans (by decide) hR.2⟩ (Nat.le_of_ble_eq_true rfl) (fun H locs hP hS => ?_)
      exact hj33 M7 H locs ls (lv_sub hl [0] rfl) hP hS h
set_option maxRecDepth 100000 in
theorem ct_3_addString (l : Launch) (C : sx_C) (hG : sx_G C) (s0 : Nat) (a1 : Int32) (a2 : Int32) (a3 : Int32) (hs_s0 : s0 < 18) (M0 : sx_M) (r : Int32) (M' : sx_M) (h : f3_addString s0 a1 a2 a3 M0 = some (r, M')) : Met l yX3_addString (.code yX3_addString cX3_addString 4 (some .int) :: sx_T) ({ frames := 2, cells := 0, slots := 0, locals := 41 } : Room) (sx_Pc C M0 [.ref (sx_ad C 1 s0), .int a1, .int a2, .int a3]) (sx_Q C (some (.int r)) M') 0 0 (sx_A C) := by
  refine Met.ofW (cc := cX3_addString) (maxL := 4) (ret := (some .int)) (by decide) rfl ?_
  intro p e s m args below meth c s₁ B hml hv
  obtain ⟨rfl, hz, hP, hK⟩ := hv
  have hl := lv_entry ([.ref (sx_ad C 1 s0), .int a1, .int a2, .int a3]) (n := 4) (Nat.le_of_ble_eq_true rfl)
  rw [lg_entry_eq]
  generalize (lg_sl ([.ref (sx_ad C 1 s0), .int a1, .int a2, .int a3]) ++ List.replicate (4 - (lg_sl ([.ref (sx_ad C 1 s0), .int a1, .int a2, .int a3])).length) Slot.unset).toArray = ls at hl ⊢
  exact wk_3_addString ⟨B.exec, B.bytes, hml, findClass_of_methodNamed B.named, fun w hw => atoms_spec B.pre w (List.mem_cons_of_mem _ hw), hK⟩ B.returns B.notSynchronized hG hz ⟨Nat.zero_le _, Nat.zero_le _⟩ ⟨Nat.le_refl _, Nat.le_refl _⟩ s0 a1 a2 a3 hs_s0 M0 r M' h hl hP va_S.rf
theorem cl_X3_157 (X : sx_X C p m c cc nL s args RX3) (hG : sx_G C) (hP : sx_W C M0 H) (hz : sx_sz C ≤ H0.size) (hS : va_S (sx_A C) H0 H locs) {s0 : Nat} {a1 : Int32} {a2 : Int32} {a3 : Int32} (hs_s0 : s0 < 18) {r : Int32} {M' : sx_M} (h : f3_addString s0 a1 a2 a3 M0 = some (r, M')) (hsz : ls.size = nL) (hdg : decode cc pc = .ok (.invokevirtual 157, 3)) (hcs : cells ≤ R.cells ∧ slots ≤ R.slots) (hR : 2 + 1 ≤ R.frames ∧ 8 + (4 + 11) + 41 ≤ R.locals) (hrest : (rest.map fun v => v.category).sum ≤ 8) (kk : ∀ (H1 : Heap) (locs1 : List Loc), sx_W C M' H1 → va_S (sx_A C) H0 H1 locs1 → W p l e R s m args below meth c H1 locs1 cells slots Q (F0 m (pc + 3) ls ((.int r) :: rest))) : W p l e R s m args below meth c H locs cells slots Q (F0 m pc ls (.int a3 :: .int a2 :: .int a1 :: .ref (sx_ad C 1 s0) :: rest)) :=
  sx_callV (n := 3) (As := [.int a1, .int a2, .int a3]) (k0 := 1) (s0 := s0) X hP hz hS hs_s0 rfl rfl (sx_goodV tw_612 tw_614 tw_10 tw_65 tw_615) (by decide +kernel) rfl rfl hR (ct_3_addString l C hG s0 a1 a2 a3 hs_s0 M0 r M' h) rfl rfl hrest hsz hdg hcs kk
-- StringShed$Shed.holders()I pure
def f3_holders (s0 : Nat) (M0 : sx_M) : Option (Int32) :=
  sx_bd (M0.1 1 s0 5) fun v1 =>
  some ((15 : Int32) ||| v1)
set_option maxRecDepth 100000 in
set_option maxHeartbeats 4000000 in
theorem wk_3_holders (X : sx_X C p m c cX3_holders 1 s args RX3) (hr : meth.sig.returnType = (some .int)) (hlocks : meth.locks = false) (hG : sx_G C) (hz : sx_sz C ≤ s.heap.size) (hcs : 0 ≤ R.cells ∧ 0 ≤ R.slots) (hR : 0 ≤ R.frames ∧ 0 ≤ R.locals) (s0 : Nat) (hs_s0 : s0 < 18) (M0 : sx_M) (r : Int32) (h : f3_holders s0 M0 = some r) (hl : lv_has ls 1 [(0, .ref (sx_ad C 1 s0))]) (hP : sx_W C M0 H) (hS : va_S (sx_A C) s.heap H locs) : W p l e R s m args below meth c H locs 0 0 (sx_Z C (some (.int r)) M0 below args s) (F0 m 0 ls []) := by
  obtain ⟨hx, hb, hml, hown, hts, hK⟩ := id X
  rw [f3_holders] at h
  refine lv_bipush (v := (15 : Int32)) hx hb dX3_holders_0 (by decide) ?_
  refine lv_aload_n hx hb dX3_holders_2 rfl (lv_at hl 0 rfl) ?_
  refine gf_X3_36 X hP hs_s0 dX3_holders_3 h (fun v1 h => ?_)
  refine lv_ior hx hb dX3_holders_6 ?_
  exact sx_iret X hr hlocks hS hP h dX3_holders_7
set_option maxRecDepth 100000 in
theorem ct_3_holders (l : Launch) (C : sx_C) (hG : sx_G C) (s0 : Nat) (hs_s0 : s0 < 18) (M0 : sx_M) (r : Int32) (h : f3_holders s0 M0 = some r) : Met l yX3_holders (.code yX3_holders cX3_holders 1 (some .int) :: sx_T) ({ frames := 0, cells := 0, slots := 0, locals := 0 } : Room) (sx_Pc C M0 [.ref (sx_ad C 1 s0)]) (sx_Q C (some (.int r)) M0) 0 0 (sx_A C) := by
  refine Met.ofW (cc := cX3_holders) (maxL := 1) (ret := (some .int)) (by decide) rfl ?_
  intro p e s m args below meth c s₁ B hml hv
  obtain ⟨rfl, hz, hP, hK⟩ := hv
  have hl := lv_entry ([.ref (sx_ad C 1 s0)]) (n := 1) (Nat.le_of_ble_eq_true rfl)
  rw [lg_entry_eq]
  generalize (lg_sl ([.ref (sx_ad C 1 s0)]) ++ List.replicate (1 - (lg_sl ([.ref (sx_ad C 1 s0)])).length) Slot.unset).toArray = ls at hl ⊢
  exact wk_3_holders ⟨B.exec, B.bytes, hml, findClass_of_methodNamed B.named, fun w hw => atoms_spec B.pre w (List.mem_cons_of_mem _ hw), hK⟩ B.returns B.notSynchronized hG hz ⟨Nat.zero_le _, Nat.zero_le _⟩ ⟨Nat.le_refl _, Nat.le_refl _⟩ s0 hs_s0 M0 r h hl hP va_S.rf
theorem cl_X3_67 (X : sx_X C p m c cc nL s args RX3) (hG : sx_G C) (hP : sx_W C M0 H) (hz : sx_sz C ≤ H0.size) (hS : va_S (sx_A C) H0 H locs) {s0 : Nat} (hs_s0 : s0 < 18) {r : Int32} (h : f3_holders s0 M0 = some r) (hsz : ls.size = nL) (hdg : decode cc pc = .ok (.invokevirtual 67, 3)) (hcs : cells ≤ R.cells ∧ slots ≤ R.slots) (hR : 0 + 1 ≤ R.frames ∧ 8 + (1 + 11) + 0 ≤ R.locals) (hrest : (rest.map fun v => v.category).sum ≤ 8) (kk : ∀ (H1 : Heap) (locs1 : List Loc), sx_W C M0 H1 → va_S (sx_A C) H0 H1 locs1 → W p l e R s m args below meth c H1 locs1 cells slots Q (F0 m (pc + 3) ls ((.int r) :: rest))) : W p l e R s m args below meth c H locs cells slots Q (F0 m pc ls (.ref (sx_ad C 1 s0) :: rest)) :=
  sx_callV (n := 0) (As := []) (k0 := 1) (s0 := s0) X hP hz hS hs_s0 rfl rfl (sx_goodV tw_277 tw_278 tw_279 tw_65 tw_280) (by decide +kernel) rfl rfl hR (ct_3_holders l C hG s0 hs_s0 M0 r h) rfl rfl hrest hsz hdg hcs kk
theorem cl_X7_171 (X : sx_X C p m c cc nL s args RX7) (hG : sx_G C) (hP : sx_W C M0 H) (hz : sx_sz C ≤ H0.size) (hS : va_S (sx_A C) H0 H locs) {s0 : Nat} (hs_s0 : s0 < 18) {r : Int32} (h : f3_holders s0 M0 = some r) (hsz : ls.size = nL) (hdg : decode cc pc = .ok (.invokevirtual 171, 3)) (hcs : cells ≤ R.cells ∧ slots ≤ R.slots) (hR : 0 + 1 ≤ R.frames ∧ 8 + (1 + 11) + 0 ≤ R.locals) (hrest : (rest.map fun v => v.category).sum ≤ 8) (kk : ∀ (H1 : Heap) (locs1 : List Loc), sx_W C M0 H1 → va_S (sx_A C) H0 H1 locs1 → W p l e R s m args below meth c H1 locs1 cells slots Q (F0 m (pc + 3) ls ((.int r) :: rest))) : W p l e R s m args below meth c H locs cells slots Q (F0 m pc ls (.ref (sx_ad C 1 s0) :: rest)) :=
  sx_callV (n := 0) (As := []) (k0 := 1) (s0 := s0) X hP hz hS hs_s0 rfl rfl (sx_goodV tw_859 tw_278 tw_279 tw_65 tw_280) (by decide +kernel) rfl rfl hR (ct_3_holders l C hG s0 hs_s0 M0 r h) rfl rfl hrest hsz hdg hcs kk
-- StringShed$Shed.held()I pure
def f3_held (s0 : Nat) (M0 : sx_M) : Option (Int32) :=
  (f3_holders s0 M0).bind fun v1 =>
  (f4_reach s0 v1 (-1 : Int32) M0).bind fun v2 =>
  some (v2 &&& (-16 : Int32))
set_option maxRecDepth 100000 in
set_option maxHeartbeats 4000000 in
theorem wk_3_held (X : sx_X C p m c cX3_held 1 s args RX3) (hr : meth.sig.returnType = (some .int)) (hlocks : meth.locks = false) (hG : sx_G C) (hz : sx_sz C ≤ s.heap.size) (hcs : 0 ≤ R.cells ∧ 0 ≤ R.slots) (hR : 1 ≤ R.frames ∧ 26 ≤ R.locals) (s0 : Nat) (hs_s0 : s0 < 18) (M0 : sx_M) (r : Int32) (h : f3_held s0 M0 = some r) (hl : lv_has ls 1 [(0, .ref (sx_ad C 1 s0))]) (hP : sx_W C M0 H) (hS : va_S (sx_A C) s.heap H locs) : W p l e R s m args below meth c H locs 0 0 (sx_Z C (some (.int r)) M0 below args s) (F0 m 0 ls []) := by
  obtain ⟨hx, hb, hml, hown, hts, hK⟩ := id X
  rw [f3_held] at h
  refine lv_aload_n hx hb dX3_held_0 rfl (lv_at hl 0 rfl) ?_
  refine gf_X3_12 X hP hs_s0 dX3_held_1 ?_
  refine lv_aload_n hx hb dX3_held_4 rfl (lv_at hl 0 rfl) ?_
  obtain ⟨v1, e_v1, h⟩ := sx_bnd h
  refine cl_X3_67 X hG hP hz hS hs_s0 e_v1 hl.1 dX3_held_5 hcs ⟨Nat.le_trans (by decide) hR.1, Nat.le_trans (by decide) hR.2⟩ (Nat.le_of_ble_eq_true rfl) (fun H locs hP hS => ?_)
  refine lv_iconst (v := (-1 : Int32)) hx hb dX3_held_8 (by decide) ?_
  obtain ⟨v2, e_v2, h⟩ := sx_bnd h
  refine cl_X3_71 X hG hP hz hS hs_s0 e_v2 hl.1 dX3_held_9 hcs ⟨Nat.le_trans (by decide) hR.1, Nat.le_trans (by decide) hR.2⟩ (Nat.le_of_ble_eq_true rfl) (fun H locs hP hS => ?_)
  refine lv_bipush (v := (-16 : Int32)) hx hb dX3_held_12 (by decide) ?_
  refine lv_iand hx hb dX3_held_14 ?_
  exact sx_iret X hr hlocks hS hP h dX3_held_15
set_option maxRecDepth 100000 in
theorem ct_3_held (l : Launch) (C : sx_C) (hG : sx_G C) (s0 : Nat) (hs_s0 : s0 < 18) (M0 : sx_M) (r : Int32) (h : f3_held s0 M0 = some r) : Met l yX3_held (.code yX3_held cX3_held 1 (some .int) :: sx_T) ({ frames := 1, cells := 0, slots := 0, locals := 26 } : Room) (sx_Pc C M0 [.ref (sx_ad C 1 s0)]) (sx_Q C (some (.int r)) M0) 0 0 (sx_A C) := by
  refine Met.ofW (cc := cX3_held) (maxL := 1) (ret := (some .int)) (by decide) rfl ?_
  intro p e s m args below meth c s₁ B hml hv
  obtain ⟨rfl, hz, hP, hK⟩ := hv
  have hl := lv_entry ([.ref (sx_ad C 1 s0)]) (n := 1) (Nat.le_of_ble_eq_true rfl)
  rw [lg_entry_eq]
  generalize (lg_sl ([.ref (sx_ad C 1 s0)]) ++ List.replicate (1 - (lg_sl ([.ref (sx_ad C 1 s0)])).length) Slot.unset).toArray = ls at hl ⊢
  exact wk_3_held ⟨B.exec, B.bytes, hml, findClass_of_methodNamed B.named, fun w hw => atoms_spec B.pre w (List.mem_cons_of_mem _ hw), hK⟩ B.returns B.notSynchronized hG hz ⟨Nat.zero_le _, Nat.zero_le _⟩ ⟨Nat.le_refl _, Nat.le_refl _⟩ s0 hs_s0 M0 r h hl hP va_S.rf
theorem cl_X2_34 (X : sx_X C p m c cc nL s args RX2) (hG : sx_G C) (hP : sx_W C M0 H) (hz : sx_sz C ≤ H0.size) (hS : va_S (sx_A C) H0 H locs) {s0 : Nat} (hs_s0 : s0 < 18) {r : Int32} (h : f3_held s0 M0 = some r) (hsz : ls.size = nL) (hdg : decode cc pc = .ok (.invokevirtual 34, 3)) (hcs : cells ≤ R.cells ∧ slots ≤ R.slots) (hR : 1 + 1 ≤ R.frames ∧ 8 + (1 + 11) + 26 ≤ R.locals) (hrest : (rest.map fun v => v.category).sum ≤ 8) (kk : ∀ (H1 : Heap) (locs1 : List Loc), sx_W C M0 H1 → va_S (sx_A C) H0 H1 locs1 → W p l e R s m args below meth c H1 locs1 cells slots Q (F0 m (pc + 3) ls ((.int r) :: rest))) : W p l e R s m args below meth c H locs cells slots Q (F0 m pc ls (.ref (sx_ad C 1 s0) :: rest)) :=
  sx_callV (n := 0) (As := []) (k0 := 1) (s0 := s0) X hP hz hS hs_s0 rfl rfl (sx_goodV tw_931 tw_274 tw_275 tw_65 tw_276) (by decide +kernel) rfl rfl hR (ct_3_held l C hG s0 hs_s0 M0 r h) rfl rfl hrest hsz hdg hcs kk
theorem cl_X3_78 (X : sx_X C p m c cc nL s args RX3) (hG : sx_G C) (hP : sx_W C M0 H) (hz : sx_sz C ≤ H0.size) (hS : va_S (sx_A C) H0 H locs) {s0 : Nat} (hs_s0 : s0 < 18) {r : Int32} (h : f3_held s0 M0 = some r) (hsz : ls.size = nL) (hdg : decode cc pc = .ok (.invokevirtual 78, 3)) (hcs : cells ≤ R.cells ∧ slots ≤ R.slots) (hR : 1 + 1 ≤ R.frames ∧ 8 + (1 + 11) + 26 ≤ R.locals) (hrest : (rest.map fun v => v.category).sum ≤ 8) (kk : ∀ (H1 : Heap) (locs1 : List Loc), sx_W C M0 H1 → va_S (sx_A C) H0 H1 locs1 → W p l e R s m args below meth c H1 locs1 cells slots Q (F0 m (pc + 3) ls ((.int r) :: rest))) : W p l e R s m args below meth c H locs cells slots Q (F0 m pc ls (.ref (sx_ad C 1 s0) :: rest)) :=
  sx_callV (n := 0) (As := []) (k0 := 1) (s0 := s0) X hP hz hS hs_s0 rfl rfl (sx_goodV tw_273 tw_274 tw_275 tw_65 tw_276) (by decide +kernel) rfl rfl hR (ct_3_held l C hG s0 hs_s0 M0 r h) rfl rfl hrest hsz hdg hcs kk
theorem cl_X7_203 (X : sx_X C p m c cc nL s args RX7) (hG : sx_G C) (hP : sx_W C M0 H) (hz : sx_sz C ≤ H0.size) (hS : va_S (sx_A C) H0 H locs) {s0 : Nat} (hs_s0 : s0 < 18) {r : Int32} (h : f3_held s0 M0 = some r) (hsz : ls.size = nL) (hdg : decode cc pc = .ok (.invokevirtual 203, 3)) (hcs : cells ≤ R.cells ∧ slots ≤ R.slots) (hR : 1 + 1 ≤ R.frames ∧ 8 + (1 + 11) + 26 ≤ R.locals) (hrest : (rest.map fun v => v.category).sum ≤ 8) (kk : ∀ (H1 : Heap) (locs1 : List Loc), sx_W C M0 H1 → va_S (sx_A C) H0 H1 locs1 → W p l e R s m args below meth c H1 locs1 cells slots Q (F0 m (pc + 3) ls ((.int r) :: rest))) : W p l e R s m args below meth c H locs cells slots Q (F0 m pc ls (.ref (sx_ad C 1 s0) :: rest)) :=
  sx_callV (n := 0) (As := []) (k0 := 1) (s0 := s0) X hP hz hS hs_s0 rfl rfl (sx_goodV tw_421 tw_274 tw_275 tw_65 tw_276) (by decide +kernel) rfl rfl hR (ct_3_held l C hG s0 hs_s0 M0 r h) rfl rfl hrest hsz hdg hcs kk
-- StringShed$Shed.removeString(II)I
def f3_removeString (s0 : Nat) (a1 : Int32) (a2 : Int32) (M0 : sx_M) : Option (Int32 × sx_M) :=
  (f3_held s0 M0).bind fun v1 =>
  (f4_find s0 a1 a2 M0).bind fun v2 =>
  (f4_removeAt s0 v2 M0).bind fun M3 =>
  (f3_held s0 M3).bind fun v4 =>
  (fJ6_bitCount_0f7a4 (v1 &&& (v4 ^^^ (-1 : Int32))) M3).bind fun v5 =>
  some (v5, M3)
set_option maxRecDepth 100000 in
set_option maxHeartbeats 4000000 in
theorem wk_3_removeString (X : sx_X C p m c cX3_removeString 4 s args RX3) (hr : meth.sig.returnType = (some .int)) (hlocks : meth.locks = false) (hG : sx_G C) (hz : sx_sz C ≤ s.heap.size) (hcs : 0 ≤ R.cells ∧ 0 ≤ R.slots) (hR : 2 ≤ R.frames ∧ 46 ≤ R.locals) (s0 : Nat) (a1 : Int32) (a2 : Int32) (hs_s0 : s0 < 18) (M0 : sx_M) (r : Int32) (M' : sx_M) (h : f3_removeString s0 a1 a2 M0 = some (r, M')) (hl : lv_has ls 4 [(0, .ref (sx_ad C 1 s0)), (1, .int a1), (2, .int a2)]) (hP : sx_W C M0 H) (hS : va_S (sx_A C) s.heap H locs) : W p l e R s m args below meth c H locs 0 0 (sx_Z C (some (.int r)) M' below args s) (F0 m 0 ls []) := by
  obtain ⟨hx, hb, hml, hown, hts, hK⟩ := id X
  rw [f3_removeString] at h
  refine lv_aload_n hx hb dX3_removeString_0 rfl (lv_at hl 0 rfl) ?_
  obtain ⟨v1, e_v1, h⟩ := sx_bnd h
  refine cl_X3_78 X hG hP hz hS hs_s0 e_v1 hl.1 dX3_removeString_1 hcs ⟨Nat.le_trans (by decide) hR.1, Nat.le_trans (by decide) hR.2⟩ (Nat.le_of_ble_eq_true rfl) (fun H locs hP hS => ?_)
  refine lv_istore_n (lv' := [(3, .int v1), (0, .ref (sx_ad C 1 s0)), (1, .int a1), (2, .int a2)]) hx hb dX3_removeString_4 rfl hl (by decide) rfl (fun ls hl => ?_)
  refine lv_aload_n hx hb dX3_removeString_5 rfl (lv_at hl 1 rfl) ?_
  refine gf_X3_12 X hP hs_s0 dX3_removeString_6 ?_
  refine lv_aload_n hx hb dX3_removeString_9 rfl (lv_at hl 1 rfl) ?_
  refine gf_X3_12 X hP hs_s0 dX3_removeString_10 ?_
  refine lv_iload_n hx hb dX3_removeString_13 rfl (lv_at hl 2 rfl) ?_
  refine lv_iload_n hx hb dX3_removeString_14 rfl (lv_at hl 3 rfl) ?_
  obtain ⟨v2, e_v2, h⟩ := sx_bnd h
  refine cl_X3_132 X hG hP hz hS hs_s0 e_v2 hl.1 dX3_removeString_15 hcs ⟨Nat.le_trans (by decide) hR.1, Nat.le_trans (by decide) hR.2⟩ (Nat.le_of_ble_eq_true rfl) (fun H locs hP hS => ?_)
  obtain ⟨M3, e_M3, h⟩ := sx_bnd h
  refine cl_X3_190 X hG hP hz hS hs_s0 e_M3 hl.1 dX3_removeString_18 hcs ⟨Nat.le_trans (by decide) hR.1, Nat.le_trans (by decide) hR.2⟩ (Nat.le_of_ble_eq_true rfl) (fun H locs hP hS => ?_)
  refine lv_iload_n hx hb dX3_removeString_21 rfl (lv_at hl 0 rfl) ?_
  refine lv_aload_n hx hb dX3_removeString_22 rfl (lv_at hl 1 rfl) ?_
  obtain ⟨v4, e_v4, h⟩ := sx_bnd h
  refine cl_X3_78 X hG hP hz hS hs_s0 e_v4 hl.1 dX3_removeString_23 hcs ⟨Nat.le_trans (by decide) hR.1, Nat.le_trans (by decide) hR.2⟩ (Nat.le_of_ble_eq_true rfl) (fun H locs hP hS => ?_)
  refine lv_iconst (v := (-1 : Int32)) hx hb dX3_removeString_26 (by decide) ?_
  refine lv_ixor hx hb dX3_removeString_27 ?_
  refine lv_iand hx hb dX3_removeString_28 ?_
  obtain ⟨v5, e_v5, h⟩ := sx_bnd h
  refine cl_X3_58 X hG hP hz hS  e_v5 hl.1 dX3_removeString_29 hcs ⟨Nat.le_trans (by decide) hR.1, Nat.le_trans (by decide) hR.2⟩ (Nat.le_of_ble_eq_true rfl) (fun H locs hP hS => ?_)
  exact sx_iretM X hr hlocks hS hP h dX3_removeString_32
set_option maxRecDepth 100000 in
theorem ct_3_removeString (l : Launch) (C : sx_C) (hG : sx_G C) (s0 : Nat) (a1 : Int32) (a2 : Int32) (hs_s0 : s0 < 18) (M0 : sx_M) (r : Int32) (M' : sx_M) (h : f3_removeString s0 a1 a2 M0 = some (r, M')) : Met l yX3_removeString (.code yX3_removeString cX3_removeString 4 (some .int) :: sx_T) ({ frames := 2, cells := 0, slots := 0, locals := 46 } : Room) (sx_Pc C M0 [.ref (sx_ad C 1 s0), .int a1, .int a2]) (sx_Q C (some (.int r)) M') 0 0 (sx_A C) := by
  refine Met.ofW (cc := cX3_removeString) (maxL := 4) (ret := (some .int)) (by decide) rfl ?_
  intro p e s m args below meth c s₁ B hml hv
  obtain ⟨rfl, hz, hP, hK⟩ := hv
  have hl := lv_entry ([.ref (sx_ad C 1 s0), .int a1, .int a2]) (n := 4) (Nat.le_of_ble_eq_true rfl)
  rw [lg_entry_eq]
  generalize (lg_sl ([.ref (sx_ad C 1 s0), .int a1, .int a2]) ++ List.replicate (4 - (lg_sl ([.ref (sx_ad C 1 s0), .int a1, .int a2])).length) Slot.unset).toArray = ls at hl ⊢
  exact wk_3_removeString ⟨B.exec, B.bytes, hml, findClass_of_methodNamed B.named, fun w hw => atoms_spec B.pre w (List.mem_cons_of_mem _ hw), hK⟩ B.returns B.notSynchronized hG hz ⟨Nat.zero_le _, Nat.zero_le _⟩ ⟨Nat.le_refl _, Nat.le_refl _⟩ s0 a1 a2 hs_s0 M0 r M' h hl hP va_S.rf
theorem cl_X3_160 (X : sx_X C p m c cc nL s args RX3) (hG : sx_G C) (hP : sx_W C M0 H) (hz : sx_sz C ≤ H0.size) (hS : va_S (sx_A C) H0 H locs) {s0 : Nat} {a1 : Int32} {a2 : Int32} (hs_s0 : s0 < 18) {r : Int32} {M' : sx_M} (h : f3_removeString s0 a1 a2 M0 = some (r, M')) (hsz : ls.size = nL) (hdg : decode cc pc = .ok (.invokevirtual 160, 3)) (hcs : cells ≤ R.cells ∧ slots ≤ R.slots) (hR : 2 + 1 ≤ R.frames ∧ 8 + (4 + 11) + 46 ≤ R.locals) (hrest : (rest.map fun v => v.category).sum ≤ 8) (kk : ∀ (H1 : Heap) (locs1 : List Loc), sx_W C M' H1 → va_S (sx_A C) H0 H1 locs1 → W p l e R s m args below meth c H1 locs1 cells slots Q (F0 m (pc + 3) ls ((.int r) :: rest))) : W p l e R s m args below meth c H locs cells slots Q (F0 m pc ls (.int a2 :: .int a1 :: .ref (sx_ad C 1 s0) :: rest)) :=
  sx_callV (n := 2) (As := [.int a1, .int a2]) (k0 := 1) (s0 := s0) X hP hz hS hs_s0 rfl rfl (sx_goodV tw_624 tw_626 tw_11 tw_65 tw_627) (by decide +kernel) rfl rfl hR (ct_3_removeString l C hG s0 a1 a2 hs_s0 M0 r M' h) rfl rfl hrest hsz hdg hcs kk
-- StringShed$Shed.setSound(IIZ)I
def f3_setSound (s0 : Nat) (a1 : Int32) (a2 : Int32) (a3 : Int32) (M0 : sx_M) : Option (Int32 × sx_M) :=
  (f3_held s0 M0).bind fun v1 =>
  (f4_find s0 a1 a2 M0).bind fun v2 =>
  (f4_setSound s0 v2 a3 M0).bind fun M3 =>
  sx_bd (fun (M4 : sx_M) =>
    (f3_held s0 M4).bind fun v5 =>
    (fJ6_bitCount_0f7a4 (v1 ^^^ v5) M4).bind fun v6 =>
    some (v6, M4)) fun j46 =>
  if a3 = 0 then
    j46 M3
  else
    (f5_passesBelow s0 a1 M3).bind fun v8 =>
    if v8 = 0 then
      j46 M3
    else
      (f5_shade s0 a2 M3).bind fun M10 =>
      j46 M10
set_option maxRecDepth 100000 in
set_option maxHeartbeats 4000000 in
theorem wk_3_setSound (X : sx_X C p m c cX3_setSound 5 s args RX3) (hr : meth.sig.returnType = (some .int)) (hlocks : meth.locks = false) (hG : sx_G C) (hz : sx_sz C ≤ s.heap.size) (hcs : 0 ≤ R.cells ∧ 0 ≤ R.slots) (hR : 2 ≤ R.frames ∧ 46 ≤ R.locals) (s0 : Nat) (a1 : Int32) (a2 : Int32) (a3 : Int32) (hs_s0 : s0 < 18) (M0 : sx_M) (r : Int32) (M' : sx_M) (h : f3_setSound s0 a1 a2 a3 M0 = some (r, M')) (hl : lv_has ls 5 [(0, .ref (sx_ad C 1 s0)), (1, .int a1), (2, .int a2), (3, .int a3)]) (hP : sx_W C M0 H) (hS : va_S (sx_A C) s.heap H locs) : W p l e R s m args below meth c H locs 0 0 (sx_Z C (some (.int r)) M' below args s) (F0 m 0 ls []) := by
  obtain ⟨hx, hb, hml, hown, hts, hK⟩ := id X
  rw [f3_setSound] at h
  refine lv_aload_n hx hb dX3_setSound_0 rfl (lv_at hl 0 rfl) ?_
  obtain ⟨v1, e_v1, h⟩ := sx_bnd h
  refine cl_X3_78 X hG hP hz hS hs_s0 e_v1 hl.1 dX3_setSound_1 hcs ⟨Nat.le_trans (by decide) hR.1, Nat.le_trans (by decide) hR.2⟩ (Nat.le_of_ble_eq_true rfl) (fun H locs hP hS => ?_)
  refine lv_istore (lv' := [(4, .int v1), (0, .ref (sx_ad C 1 s0)), (1, .int a1), (2, .int a2), (3, .int a3)]) hx hb dX3_setSound_4 hl (by decide) rfl (fun ls hl => ?_)
  refine lv_aload_n hx hb dX3_setSound_6 rfl (lv_at hl 1 rfl) ?_
  refine gf_X3_12 X hP hs_s0 dX3_setSound_7 ?_
  refine lv_aload_n hx hb dX3_setSound_10 rfl (lv_at hl 1 rfl) ?_
  refine gf_X3_12 X hP hs_s0 dX3_setSound_11 ?_
  refine lv_iload_n hx hb dX3_setSound_14 rfl (lv_at hl 2 rfl) ?_
  refine lv_iload_n hx hb dX3_setSound_15 rfl (lv_at hl 3 rfl) ?_
  obtain ⟨v2, e_v2, h⟩ := sx_bnd h
  refine cl_X3_132 X hG hP hz hS hs_s0 e_v2 hl.1 dX3_setSound_16 hcs ⟨Nat.le_trans (by decide) hR.1, Nat.le_trans (by decide) hR.2⟩ (Nat.le_of_ble_eq_true rfl) (fun H locs hP hS => ?_)
  refine lv_iload_n hx hb dX3_setSound_19 rfl (lv_at hl 4 rfl) ?_
  obtain ⟨M3, e_M3, h⟩ := sx_bnd h
  refine cl_X3_193 X hG hP hz hS hs_s0 e_M3 hl.1 dX3_setSound_20 hcs ⟨Nat.le_trans (by decide) hR.1, Nat.le_trans (by decide) hR.2⟩ (Nat.le_of_ble_eq_true rfl) (fun H locs hP hS => ?_)
  refine lv_iload_n hx hb dX3_setSound_23 rfl (lv_at hl 4 rfl) ?_
  obtain ⟨j46, e_j46, h⟩ := sx_nm h
  have hj46 : ∀ (M4 : sx_M) (H : Heap) (locs : List Loc) (ls : Array Slot), lv_has ls 5 [(0, .ref (sx_ad C 1 s0)), (4, .int v1)] → sx_W C M4 H → va_S (sx_A C) s.heap H locs → j46 M4 = some (r, M') → W p l e R s m args below meth c H locs 0 0 (sx_Z C (some (.int r)) M' below args s) (F0 m 46 ls []) := by
    intro M4 H locs ls hl hP hS h
    subst e_j46
    refine lv_iload hx hb dX3_setSound_46 (lv_at hl 1 rfl) ?_
    refine lv_aload_n hx hb dX3_setSound_48 rfl (lv_at hl 0 rfl) ?_
    obtain ⟨v5, e_v5, h⟩ := sx_bnd h
    refine cl_X3_78 X hG hP hz hS hs_s0 e_v5 hl.1 dX3_setSound_49 hcs ⟨Nat.le_trans (by decide) hR.1, Nat.le_trans (by decide) hR.2⟩ (Nat.le_of_ble_eq_true rfl) (fun H locs hP hS => ?_)
    refine lv_ixor hx hb dX3_setSound_52 ?_
    obtain ⟨v6, e_v6, h⟩ := sx_bnd h
    refine cl_X3_58 X hG hP hz hS  e_v6 hl.1 dX3_setSound_53 hcs ⟨Nat.le_trans (by decide) hR.1, Nat.le_trans (by decide) hR.2⟩ (Nat.le_of_ble_eq_true rfl) (fun H locs hP hS => ?_)
    exact sx_iretM X hr hlocks hS hP h dX3_setSound_56
  clear e_j46
  refine lv_if_eq (tgt := 46) hx hb dX3_setSound_24 (by decide) (fun c7 => ?_) (fun c7 => ?_)
  · replace h := sx_ifp h c7
    exact hj46 M3 H locs ls (lv_sub hl [1, 0] rfl) hP hS h
  · replace h := sx_ifn h c7
    refine lv_aload_n hx hb dX3_setSound_27 rfl (lv_at hl 1 rfl) ?_
    refine gf_X3_21 X hP hs_s0 dX3_setSound_28 ?_
    refine lv_iload_n hx hb dX3_setSound_31 rfl (lv_at hl 2 rfl) ?_
    obtain ⟨v8, e_v8, h⟩ := sx_bnd h
    refine cl_X3_184 X hG hP hz hS hs_s0 e_v8 hl.1 dX3_setSound_32 hcs ⟨Nat.le_trans (by decide) hR.1, Nat.le_trans (by decide) hR.2⟩ (Nat.le_of_ble_eq_true rfl) (fun H locs hP hS => ?_)
    refine lv_if_eq (tgt := 46) hx hb dX3_setSound_35 (by decide) (fun c9 => ?_) (fun c9 => ?_)
    · replace h := sx_ifp h c9
      exact hj46 M3 H locs ls (lv_sub hl [1, 0] rfl) hP hS h
    · replace h := sx_ifn h c9
      refine lv_aload_n hx hb dX3_setSound_38 rfl (lv_at hl 1 rfl) ?_
      refine gf_X3_21 X hP hs_s0 dX3_setSound_39 ?_
      refine lv_iload_n hx hb dX3_setSound_42 rfl (lv_at hl 3 rfl) ?_
      obtain ⟨M10, e_M10, h⟩ := sx_bnd h
      refine cl_X3_187 X hG hP hz hS hs_s0 e_M10 hl.1 dX3_setSound_43 hcs ⟨Nat.le_trans (by decide) hR.1, Nat.le_trans (by decide) hR.2⟩ (Nat.le_of_ble_eq_true rfl) (fun H locs hP hS => ?_)
      exact hj46 M10 H locs ls (lv_sub hl [1, 0] rfl) hP hS h
set_option maxRecDepth 100000 in
theorem ct_3_setSound (l : Launch) (C : sx_C) (hG : sx_G C) (s0 : Nat) (a1 : Int32) (a2 : Int32) (a3 : Int32) (hs_s0 : s0 < 18) (M0 : sx_M) (r : Int32) (M' : sx_M) (h : f3_setSound s0 a1 a2 a3 M0 = some (r, M')) : Met l yX3_setSound (.code yX3_setSound cX3_setSound 5 (some .int) :: sx_T) ({ frames := 2, cells := 0, slots := 0, locals := 46 } : Room) (sx_Pc C M0 [.ref (sx_ad C 1 s0), .int a1, .int a2, .int a3]) (sx_Q C (some (.int r)) M') 0 0 (sx_A C) := by
  refine Met.ofW (cc := cX3_setSound) (maxL := 5) (ret := (some .int)) (by decide) rfl ?_
  intro p e s m args below meth c s₁ B hml hv
  obtain ⟨rfl, hz, hP, hK⟩ := hv
  have hl := lv_entry ([.ref (sx_ad C 1 s0), .int a1, .int a2, .int a3]) (n := 5) (Nat.le_of_ble_eq_true rfl)
  rw [lg_entry_eq]
  generalize (lg_sl ([.ref (sx_ad C 1 s0), .int a1, .int a2, .int a3]) ++ List.replicate (5 - (lg_sl ([.ref (sx_ad C 1 s0), .int a1, .int a2, .int a3])).length) Slot.unset).toArray = ls at hl ⊢
  exact wk_3_setSound ⟨B.exec, B.bytes, hml, findClass_of_methodNamed B.named, fun w hw => atoms_spec B.pre w (List.mem_cons_of_mem _ hw), hK⟩ B.returns B.notSynchronized hG hz ⟨Nat.zero_le _, Nat.zero_le _⟩ ⟨Nat.le_refl _, Nat.le_refl _⟩ s0 a1 a2 a3 hs_s0 M0 r M' h hl hP va_S.rf
theorem cl_X3_163 (X : sx_X C p m c cc nL s args RX3) (hG : sx_G C) (hP : sx_W C M0 H) (hz : sx_sz C ≤ H0.size) (hS : va_S (sx_A C) H0 H locs) {s0 : Nat} {a1 : Int32} {a2 : Int32} {a3 : Int32} (hs_s0 : s0 < 18) {r : Int32} {M' : sx_M} (h : f3_setSound s0 a1 a2 a3 M0 = some (r, M')) (hsz : ls.size = nL) (hdg : decode cc pc = .ok (.invokevirtual 163, 3)) (hcs : cells ≤ R.cells ∧ slots ≤ R.slots) (hR : 2 + 1 ≤ R.frames ∧ 8 + (5 + 11) + 46 ≤ R.locals) (hrest : (rest.map fun v => v.category).sum ≤ 8) (kk : ∀ (H1 : Heap) (locs1 : List Loc), sx_W C M' H1 → va_S (sx_A C) H0 H1 locs1 → W p l e R s m args below meth c H1 locs1 cells slots Q (F0 m (pc + 3) ls ((.int r) :: rest))) : W p l e R s m args below meth c H locs cells slots Q (F0 m pc ls (.int a3 :: .int a2 :: .int a1 :: .ref (sx_ad C 1 s0) :: rest)) :=
  sx_callV (n := 3) (As := [.int a1, .int a2, .int a3]) (k0 := 1) (s0 := s0) X hP hz hS hs_s0 rfl rfl (sx_goodV tw_632 tw_634 tw_12 tw_65 tw_635) (by decide +kernel) rfl rfl hR (ct_3_setSound l C hG s0 a1 a2 a3 hs_s0 M0 r M' h) rfl rfl hrest hsz hdg hcs kk
-- StringShed$Shed.setPinned(IZ)I
def f3_setPinned (s0 : Nat) (a1 : Int32) (a2 : Int32) (M0 : sx_M) : Option (Int32 × sx_M) :=
  sx_bd (fun (M1 : sx_M) =>
    (f3_held s0 M1).bind fun v2 =>
    (fJ6_bitCount_0f7a4 v2 M1).bind fun v3 =>
    some (v3, M1)) fun j43 =>
  if a2 = 0 then
    sx_bd (M0.1 1 s0 5) fun v5 =>
    (f7_bitOf a1 M0).bind fun v6 =>
    sx_bd (sx_set M0 1 s0 5 (v5 &&& (v6 ^^^ (-1 : Int32)))) fun M7 =>
    j43 M7
  else
    sx_bd (M0.1 1 s0 5) fun v8 =>
    (f7_bitOf a1 M0).bind fun v9 =>
    sx_bd (sx_set M0 1 s0 5 (v8 ||| v9)) fun M10 =>
    (f5_shade s0 a1 M10).bind fun M11 =>
    j43 M11
set_option maxRecDepth 100000 in
set_option maxHeartbeats 4000000 in
theorem wk_3_setPinned (X : sx_X C p m c cX3_setPinned 3 s args RX3) (hr : meth.sig.returnType = (some .int)) (hlocks : meth.locks = false) (hG : sx_G C) (hz : sx_sz C ≤ s.heap.size) (hcs : 0 ≤ R.cells ∧ 0 ≤ R.slots) (hR : 2 ≤ R.frames ∧ 46 ≤ R.locals) (s0 : Nat) (a1 : Int32) (a2 : Int32) (hs_s0 : s0 < 18) (M0 : sx_M) (r : Int32) (M' : sx_M) (h : f3_setPinned s0 a1 a2 M0 = some (r, M')) (hl : lv_has ls 3 [(0, .ref (sx_ad C 1 s0)), (1, .int a1), (2, .int a2)]) (hP : sx_W C M0 H) (hS : va_S (sx_A C) s.heap H locs) : W p l e R s m args below meth c H locs 0 0 (sx_Z C (some (.int r)) M' below args s) (F0 m 0 ls []) := by
  obtain ⟨hx, hb, hml, hown, hts, hK⟩ := id X
  rw [f3_setPinned] at h
  refine lv_iload_n hx hb dX3_setPinned_0 rfl (lv_at hl 2 rfl) ?_
  obtain ⟨j43, e_j43, h⟩ := sx_nm h
  have hj43 : ∀ (M1 : sx_M) (H : Heap) (locs : List Loc) (ls : Array Slot), lv_has ls 3 [(0, .ref (sx_ad C 1 s0))] → sx_W C M1 H → va_S (sx_A C) s.heap H locs → j43 M1 = some (r, M') → W p l e R s m args below meth c H locs 0 0 (sx_Z C (some (.int r)) M' below args s) (F0 m 43 ls []) := by
    intro M1 H locs ls hl hP hS h
    subst e_j43
    refine lv_aload_n hx hb dX3_setPinned_43 rfl (lv_at hl 0 rfl) ?_
    obtain ⟨v2, e_v2, h⟩ := sx_bnd h
    refine cl_X3_78 X hG hP hz hS hs_s0 e_v2 hl.1 dX3_setPinned_44 hcs ⟨Nat.le_trans (by decide) hR.1, Nat.le_trans (by decide) hR.2⟩ (Nat.le_of_ble_eq_true rfl) (fun H locs hP hS => ?_)
    obtain ⟨v3, e_v3, h⟩ := sx_bnd h
    refine cl_X3_58 X hG hP hz hS  e_v3 hl.1 dX3_setPinned_47 hcs ⟨Nat.le_trans (by decide) hR.1, Nat.le_trans (by decide) hR.2⟩ (Nat.le_of_ble_eq_true rfl) (fun H locs hP hS => ?_)
    exact sx_iretM X hr hlocks hS hP h dX3_setPinned_50
  clear e_j43
  refine lv_if_eq (tgt := 28) hx hb dX3_setPinned_1 (by decide) (fun c4 => ?_) (fun c4 => ?_)
  · replace h := sx_ifp h c4
    refine lv_aload_n hx hb dX3_setPinned_28 rfl (lv_at hl 0 rfl) ?_
    refine lv_dup hx hb dX3_setPinned_29 rfl ?_
    refine gf_X3_36 X hP hs_s0 dX3_setPinned_30 h (fun v5 h => ?_)
    refine lv_iload_n hx hb dX3_setPinned_33 rfl (lv_at hl 1 rfl) ?_
    obtain ⟨v6, e_v6, h⟩ := sx_bnd h
    refine cl_X3_64 X hG hP hz hS  e_v6 hl.1 dX3_setPinned_34 hcs ⟨Nat.le_trans (by decide) hR.1, Nat.le_trans (by decide) hR.2⟩ (Nat.le_of_ble_eq_true rfl) (fun H locs hP hS => ?_)
    refine lv_iconst (v := (-1 : Int32)) hx hb dX3_setPinned_37 (by decide) ?_
    refine lv_ixor hx hb dX3_setPinned_38 ?_
    refine lv_iand hx hb dX3_setPinned_39 ?_
    refine pf_X3_36 X hG hP hS hs_s0 dX3_setPinned_40 h (fun M7 H locs h hP hS => ?_)
    exact hj43 M7 H locs ls (lv_sub hl [0] rfl) hP hS h
  · replace h := sx_ifn h c4
    refine lv_aload_n hx hb dX3_setPinned_4 rfl (lv_at hl 0 rfl) ?_
    refine lv_dup hx hb dX3_setPinned_5 rfl ?_
    refine gf_X3_36 X hP hs_s0 dX3_setPinned_6 h (fun v8 h => ?_)
    refine lv_iload_n hx hb dX3_setPinned_9 rfl (lv_at hl 1 rfl) ?_
    obtain ⟨v9, e_v9, h⟩ := sx_bnd h
    refine cl_X3_64 X hG hP hz hS  e_v9 hl.1 dX3_setPinned_10 hcs ⟨Nat.le_trans (by decide) hR.1, Nat.le_trans (by decide) hR.2⟩ (Nat.le_of_ble_eq_true rfl) (fun H locs hP hS => ?_)
    refine lv_ior hx hb dX3_setPinned_13 ?_
    refine pf_X3_36 X hG hP hS hs_s0 dX3_setPinned_14 h (fun M10 H locs h hP hS => ?_)
    refine lv_aload_n hx hb dX3_setPinned_17 rfl (lv_at hl 0 rfl) ?_
    refine gf_X3_21 X hP hs_s0 dX3_setPinned_18 ?_
    refine lv_iload_n hx hb dX3_setPinned_21 rfl (lv_at hl 1 rfl) ?_
    obtain ⟨M11, e_M11, h⟩ := sx_bnd h
    refine cl_X3_187 X hG hP hz hS hs_s0 e_M11 hl.1 dX3_setPinned_22 hcs ⟨Nat.le_trans (by decide) hR.1, Nat.le_trans (by decide) hR.2⟩ (Nat.le_of_ble_eq_true rfl) (fun H locs hP hS => ?_)
    refine lv_goto (tgt := 43) hx hb dX3_setPinned_25 (by decide) ?_
    exact hj43 M11 H locs ls (lv_sub hl [0] rfl) hP hS h
set_option maxRecDepth 100000 in
theorem ct_3_setPinned (l : Launch) (C : sx_C) (hG : sx_G C) (s0 : Nat) (a1 : Int32) (a2 : Int32) (hs_s0 : s0 < 18) (M0 : sx_M) (r : Int32) (M' : sx_M) (h : f3_setPinned s0 a1 a2 M0 = some (r, M')) : Met l yX3_setPinned (.code yX3_setPinned cX3_setPinned 3 (some .int) :: sx_T) ({ frames := 2, cells := 0, slots := 0, locals := 46 } : Room) (sx_Pc C M0 [.ref (sx_ad C 1 s0), .int a1, .int a2]) (sx_Q C (some (.int r)) M') 0 0 (sx_A C) := by
  refine Met.ofW (cc := cX3_setPinned) (maxL := 3) (ret := (some .int)) (by decide) rfl ?_
  intro p e s m args below meth c s₁ B hml hv
  obtain ⟨rfl, hz, hP, hK⟩ := hv
  have hl := lv_entry ([.ref (sx_ad C 1 s0), .int a1, .int a2]) (n := 3) (Nat.le_of_ble_eq_true rfl)
  rw [lg_entry_eq]
  generalize (lg_sl ([.ref (sx_ad C 1 s0), .int a1, .int a2]) ++ List.replicate (3 - (lg_sl ([.ref (sx_ad C 1 s0), .int a1, .int a2])).length) Slot.unset).toArray = ls at hl ⊢
  exact wk_3_setPinned ⟨B.exec, B.bytes, hml, findClass_of_methodNamed B.named, fun w hw => atoms_spec B.pre w (List.mem_cons_of_mem _ hw), hK⟩ B.returns B.notSynchronized hG hz ⟨Nat.zero_le _, Nat.zero_le _⟩ ⟨Nat.le_refl _, Nat.le_refl _⟩ s0 a1 a2 hs_s0 M0 r M' h hl hP va_S.rf
theorem cl_X3_166 (X : sx_X C p m c cc nL s args RX3) (hG : sx_G C) (hP : sx_W C M0 H) (hz : sx_sz C ≤ H0.size) (hS : va_S (sx_A C) H0 H locs) {s0 : Nat} {a1 : Int32} {a2 : Int32} (hs_s0 : s0 < 18) {r : Int32} {M' : sx_M} (h : f3_setPinned s0 a1 a2 M0 = some (r, M')) (hsz : ls.size = nL) (hdg : decode cc pc = .ok (.invokevirtual 166, 3)) (hcs : cells ≤ R.cells ∧ slots ≤ R.slots) (hR : 2 + 1 ≤ R.frames ∧ 8 + (3 + 11) + 46 ≤ R.locals) (hrest : (rest.map fun v => v.category).sum ≤ 8) (kk : ∀ (H1 : Heap) (locs1 : List Loc), sx_W C M' H1 → va_S (sx_A C) H0 H1 locs1 → W p l e R s m args below meth c H1 locs1 cells slots Q (F0 m (pc + 3) ls ((.int r) :: rest))) : W p l e R s m args below meth c H locs cells slots Q (F0 m pc ls (.int a2 :: .int a1 :: .ref (sx_ad C 1 s0) :: rest)) :=
  sx_callV (n := 2) (As := [.int a1, .int a2]) (k0 := 1) (s0 := s0) X hP hz hS hs_s0 rfl rfl (sx_goodV tw_640 tw_642 tw_13 tw_65 tw_643) (by decide +kernel) rfl rfl hR (ct_3_setPinned l C hG s0 a1 a2 hs_s0 M0 r M' h) rfl rfl hrest hsz hdg hcs kk
-- StringShed$Shed.beginSweep()I
def f3_beginSweep_L28 (s0 : Nat) (w1 : Int32) : Nat → Int32 → sx_M → Option (Int32 × sx_M)
  | 0, _, _ => none
  | n + 1, x2, M =>
    if (24 : Int32) ≤ x2 then
      (f5_graysInRow s0 M).bind fun v7 =>
      some (v7, M)
    else
      (f7_bitOf x2 M).bind fun v8 =>
      sx_bd (fun (M9 : sx_M) =>
        sx_bd (x2 + (1 : Int32)) fun v10 =>
        f3_beginSweep_L28 s0 w1 n v10 M9) fun j51 =>
      if (w1 &&& v8) = 0 then
        j51 M
      else
        (f5_shade s0 x2 M).bind fun M12 =>
        j51 M12
def f3_beginSweep (s0 : Nat) (M0 : sx_M) : Option (Int32 × sx_M) :=
  sx_bd (M0.1 1 s0 4) fun v1 =>
  (f5_start s0 v1 M0).bind fun M2 =>
  sx_bd (M2.1 1 s0 5) fun v3 =>
  (f4_nextBelow s0 (15 : Int32) M2).bind fun v4 =>
  sx_bd (v3 ||| v4) fun v5 =>
  f3_beginSweep_L28 s0 v5
    5000 (0 : Int32) M2
set_option maxRecDepth 100000 in
set_option maxHeartbeats 4000000 in
theorem wk_3_beginSweep (X : sx_X C p m c cX3_beginSweep 3 s args RX3) (hr : meth.sig.returnType = (some .int)) (hlocks : meth.locks = false) (hG : sx_G C) (hz : sx_sz C ≤ s.heap.size) (hcs : 0 ≤ R.cells ∧ 0 ≤ R.slots) (hR : 2 ≤ R.frames ∧ 41 ≤ R.locals) (s0 : Nat) (hs_s0 : s0 < 18) (M0 : sx_M) (r : Int32) (M' : sx_M) (h : f3_beginSweep s0 M0 = some (r, M')) (hl : lv_has ls 3 [(0, .ref (sx_ad C 1 s0))]) (hP : sx_W C M0 H) (hS : va_S (sx_A C) s.heap H locs) : W p l e R s m args below meth c H locs 0 0 (sx_Z C (some (.int r)) M' below args s) (F0 m 0 ls []) := by
  obtain ⟨hx, hb, hml, hown, hts, hK⟩ := id X
  rw [f3_beginSweep] at h
  have hf3_beginSweep_L28 : ∀ (s0 : Nat) (w1 : Int32) (hs_s0 : s0 < 18) (n : Nat) (x2 : Int32) (M : sx_M) (H : Heap) (locs : List Loc) (ls : Array Slot), lv_has ls 3 [(0, .ref (sx_ad C 1 s0)), (1, .int w1), (2, .int x2)] → sx_W C M H → va_S (sx_A C) s.heap H locs → f3_beginSweep_L28 s0 w1 n x2 M = some (r, M') → W p l e R s m args below meth c H locs 0 0 (sx_Z C (some (.int r)) M' below args s) (F0 m 28 ls []) := by
    intro s0 w1 hs_s0 n
    induction n with
    | zero => intro x2 M H locs ls hl hP hS h; exact absurd (show (none : Option (Int32 × sx_M)) = some (r, M') from h) (fun q => nomatch q)
    | succ n ih =>
      intro x2 M H locs ls hl hP hS h
      rw [f3_beginSweep_L28] at h
      refine lv_iload_n hx hb dX3_beginSweep_28 rfl (lv_at hl 2 rfl) ?_
      refine lv_bipush (v := (24 : Int32)) hx hb dX3_beginSweep_29 (by decide) ?_
      refine lv_icmp_ge (tgt := 57) hx hb dX3_beginSweep_31 (by decide) (fun c6 => ?_) (fun c6 => ?_)
      · replace h := sx_ifp h c6
        refine lv_aload_n hx hb dX3_beginSweep_57 rfl (lv_at hl 0 rfl) ?_
        refine gf_X3_21 X hP hs_s0 dX3_beginSweep_58 ?_
        obtain ⟨v7, e_v7, h⟩ := sx_bnd h
        refine cl_X3_202 X hG hP hz hS hs_s0 e_v7 hl.1 dX3_beginSweep_61 hcs ⟨Nat.le_trans (by decide) hR.1, Nat.le_trans (by decide) hR.2⟩ (Nat.le_of_ble_eq_true rfl) (fun H locs hP hS => ?_)
        exact sx_iretM X hr hlocks hS hP h dX3_beginSweep_64
      · replace h := sx_ifn h c6
        refine lv_iload_n hx hb dX3_beginSweep_34 rfl (lv_at hl 1 rfl) ?_
        refine lv_iload_n hx hb dX3_beginSweep_35 rfl (lv_at hl 2 rfl) ?_
        obtain ⟨v8, e_v8, h⟩ := sx_bnd h
        refine cl_X3_64 X hG hP hz hS  e_v8 hl.1 dX3_beginSweep_36 hcs ⟨Nat.le_trans (by decide) hR.1, Nat.le_trans (by decide) hR.2⟩ (Nat.le_of_ble_eq_true rfl) (fun H locs hP hS => ?_)
        refine lv_iand hx hb dX3_beginSweep_39 ?_
        obtain ⟨j51, e_j51, h⟩ := sx_nm h
        have hj51 : ∀ (M9 : sx_M) (H : Heap) (locs : List Loc) (ls : Array Slot), lv_has ls 3 [(0, .ref (sx_ad C 1 s0)), (1, .int w1), (2, .int x2)] → sx_W C M9 H → va_S (sx_A C) s.heap H locs → j51 M9 = some (r, M') → W p l e R s m args below meth c H locs 0 0 (sx_Z C (some (.int r)) M' below args s) (F0 m 51 ls []) := by
          intro M9 H locs ls hl hP hS h
          subst e_j51
          obtain ⟨v10, e_v10, h⟩ := sx_nm h
          refine lv_iinc (v := v10) (lv' := [(2, .int v10), (0, .ref (sx_ad C 1 s0)), (1, .int w1)]) hx hb dX3_beginSweep_51 hl (k := 2) rfl (by rw [← e_v10]; rfl) (by decide) rfl (fun ls hl => ?_)
          refine lv_goto (tgt := 28) hx hb dX3_beginSweep_54 (by decide) ?_
          exact ih v10 M9 H locs ls (lv_sub hl [1, 2, 0] rfl) hP hS h
        clear e_j51
        refine lv_if_eq (tgt := 51) hx hb dX3_beginSweep_40 (by decide) (fun c11 => ?_) (fun c11 => ?_)
        · replace h := sx_ifp h c11
          exact hj51 M H locs ls (lv_sub hl [0, 1, 2] rfl) hP hS h
        · replace h := sx_ifn h c11
          refine lv_aload_n hx hb dX3_beginSweep_43 rfl (lv_at hl 0 rfl) ?_
          refine gf_X3_21 X hP hs_s0 dX3_beginSweep_44 ?_
          refine lv_iload_n hx hb dX3_beginSweep_47 rfl (lv_at hl 2 rfl) ?_
          obtain ⟨M12, e_M12, h⟩ := sx_bnd h
          refine cl_X3_187 X hG hP hz hS hs_s0 e_M12 hl.1 dX3_beginSweep_48 hcs ⟨Nat.le_trans (by decide) hR.1, Nat.le_trans (by decide) hR.2⟩ (Nat.le_of_ble_eq_true rfl) (fun H locs hP hS => ?_)
          exact hj51 M12 H locs ls (lv_sub hl [0, 1, 2] rfl) hP hS h
  refine lv_aload_n hx hb dX3_beginSweep_0 rfl (lv_at hl 0 rfl) ?_
  refine gf_X3_21 X hP hs_s0 dX3_beginSweep_1 ?_
  refine lv_aload_n hx hb dX3_beginSweep_4 rfl (lv_at hl 0 rfl) ?_
  refine gf_X3_33 X hP hs_s0 dX3_beginSweep_5 h (fun v1 h => ?_)
  obtain ⟨M2, e_M2, h⟩ := sx_bnd h
  refine cl_X3_196 X hG hP hz hS hs_s0 e_M2 hl.1 dX3_beginSweep_8 hcs ⟨Nat.le_trans (by decide) hR.1, Nat.le_trans (by decide) hR.2⟩ (Nat.le_of_ble_eq_true rfl) (fun H locs hP hS => ?_)
  refine lv_aload_n hx hb dX3_beginSweep_11 rfl (lv_at hl 0 rfl) ?_
  refine gf_X3_36 X hP hs_s0 dX3_beginSweep_12 h (fun v3 h => ?_)
  refine lv_aload_n hx hb dX3_beginSweep_15 rfl (lv_at hl 0 rfl) ?_
  refine gf_X3_12 X hP hs_s0 dX3_beginSweep_16 ?_
  refine lv_bipush (v := (15 : Int32)) hx hb dX3_beginSweep_19 (by decide) ?_
  obtain ⟨v4, e_v4, h⟩ := sx_bnd h
  refine cl_X3_199 X hG hP hz hS hs_s0 e_v4 hl.1 dX3_beginSweep_21 hcs ⟨Nat.le_trans (by decide) hR.1, Nat.le_trans (by decide) hR.2⟩ (Nat.le_of_ble_eq_true rfl) (fun H locs hP hS => ?_)
  refine lv_ior hx hb dX3_beginSweep_24 ?_
  obtain ⟨v5, e_v5, h⟩ := sx_nm h
  rw [e_v5]
  refine lv_istore_n (lv' := [(1, .int v5), (0, .ref (sx_ad C 1 s0))]) hx hb dX3_beginSweep_25 rfl hl (by decide) rfl (fun ls hl => ?_)
  refine lv_iconst (v := (0 : Int32)) hx hb dX3_beginSweep_26 (by decide) ?_
  refine lv_istore_n (lv' := [(2, .int (0 : Int32)), (1, .int v5), (0, .ref (sx_ad C 1 s0))]) hx hb dX3_beginSweep_27 rfl hl (by decide) rfl (fun ls hl => ?_)
  exact hf3_beginSweep_L28 s0 v5 hs_s0 5000 (0 : Int32) M2 H locs ls (lv_sub hl [2, 1, 0] rfl) hP hS h
set_option maxRecDepth 100000 in
theorem ct_3_beginSweep (l : Launch) (C : sx_C) (hG : sx_G C) (s0 : Nat) (hs_s0 : s0 < 18) (M0 : sx_M) (r : Int32) (M' : sx_M) (h : f3_beginSweep s0 M0 = some (r, M')) : Met l yX3_beginSweep (.code yX3_beginSweep cX3_beginSweep 3 (some .int) :: sx_T) ({ frames := 2, cells := 0, slots := 0, locals := 41 } : Room) (sx_Pc C M0 [.ref (sx_ad C 1 s0)]) (sx_Q C (some (.int r)) M') 0 0 (sx_A C) := by
  refine Met.ofW (cc := cX3_beginSweep) (maxL := 3) (ret := (some .int)) (by decide) rfl ?_
  intro p e s m args below meth c s₁ B hml hv
  obtain ⟨rfl, hz, hP, hK⟩ := hv
  have hl := lv_entry ([.ref (sx_ad C 1 s0)]) (n := 3) (Nat.le_of_ble_eq_true rfl)
  rw [lg_entry_eq]
  generalize (lg_sl ([.ref (sx_ad C 1 s0)]) ++ List.replicate (3 - (lg_sl ([.ref (sx_ad C 1 s0)])).length) Slot.unset).toArray = ls at hl ⊢
  exact wk_3_beginSweep ⟨B.exec, B.bytes, hml, findClass_of_methodNamed B.named, fun w hw => atoms_spec B.pre w (List.mem_cons_of_mem _ hw), hK⟩ B.returns B.notSynchronized hG hz ⟨Nat.zero_le _, Nat.zero_le _⟩ ⟨Nat.le_refl _, Nat.le_refl _⟩ s0 hs_s0 M0 r M' h hl hP va_S.rf
theorem cl_X3_170 (X : sx_X C p m c cc nL s args RX3) (hG : sx_G C) (hP : sx_W C M0 H) (hz : sx_sz C ≤ H0.size) (hS : va_S (sx_A C) H0 H locs) {s0 : Nat} (hs_s0 : s0 < 18) {r : Int32} {M' : sx_M} (h : f3_beginSweep s0 M0 = some (r, M')) (hsz : ls.size = nL) (hdg : decode cc pc = .ok (.invokevirtual 170, 3)) (hcs : cells ≤ R.cells ∧ slots ≤ R.slots) (hR : 2 + 1 ≤ R.frames ∧ 8 + (3 + 11) + 41 ≤ R.locals) (hrest : (rest.map fun v => v.category).sum ≤ 8) (kk : ∀ (H1 : Heap) (locs1 : List Loc), sx_W C M' H1 → va_S (sx_A C) H0 H1 locs1 → W p l e R s m args below meth c H1 locs1 cells slots Q (F0 m (pc + 3) ls ((.int r) :: rest))) : W p l e R s m args below meth c H locs cells slots Q (F0 m pc ls (.ref (sx_ad C 1 s0) :: rest)) :=
  sx_callV (n := 0) (As := []) (k0 := 1) (s0 := s0) X hP hz hS hs_s0 rfl rfl (sx_goodV tw_342 tw_344 tw_1 tw_65 tw_345) (by decide +kernel) rfl rfl hR (ct_3_beginSweep l C hG s0 hs_s0 M0 r M' h) rfl rfl hrest hsz hdg hcs kk
-- StringShed$Shed.endSweep()I
def f3_endSweep (s0 : Nat) (M0 : sx_M) : Option (Int32 × sx_M) :=
  (f5_whites s0 M0).bind fun v1 =>
  sx_bd (M0.1 1 s0 7) fun v2 =>
  sx_b2 (f4_removeAll s0 v1 M0) fun v3 M4 =>
  sx_bd (sx_set M4 1 s0 7 (v2 + v3)) fun M5 =>
  sx_bd (M5.1 1 s0 4) fun v6 =>
  sx_bd (sx_set M5 1 s0 4 (v6 &&& (v1 ^^^ (-1 : Int32)))) fun M7 =>
  (f5_stop s0 M7).bind fun M8 =>
  sx_bd (M8.1 1 s0 6) fun v9 =>
  sx_bd (sx_set M8 1 s0 6 (v9 + (1 : Int32))) fun M10 =>
  (fJ6_bitCount_0f7a4 v1 M10).bind fun v11 =>
  some ((-9 : Int32) - v11, M10)
set_option maxRecDepth 100000 in
set_option maxHeartbeats 4000000 in
theorem wk_3_endSweep (X : sx_X C p m c cX3_endSweep 2 s args RX3) (hr : meth.sig.returnType = (some .int)) (hlocks : meth.locks = false) (hG : sx_G C) (hz : sx_sz C ≤ s.heap.size) (hcs : 0 ≤ R.cells ∧ 0 ≤ R.slots) (hR : 1 ≤ R.frames ∧ 24 ≤ R.locals) (s0 : Nat) (hs_s0 : s0 < 18) (M0 : sx_M) (r : Int32) (M' : sx_M) (h : f3_endSweep s0 M0 = some (r, M')) (hl : lv_has ls 2 [(0, .ref (sx_ad C 1 s0))]) (hP : sx_W C M0 H) (hS : va_S (sx_A C) s.heap H locs) : W p l e R s m args below meth c H locs 0 0 (sx_Z C (some (.int r)) M' below args s) (F0 m 0 ls []) := by
  obtain ⟨hx, hb, hml, hown, hts, hK⟩ := id X
  rw [f3_endSweep] at h
  refine lv_aload_n hx hb dX3_endSweep_0 rfl (lv_at hl 0 rfl) ?_
  refine gf_X3_21 X hP hs_s0 dX3_endSweep_1 ?_
  obtain ⟨v1, e_v1, h⟩ := sx_bnd h
  refine cl_X3_217 X hG hP hz hS hs_s0 e_v1 hl.1 dX3_endSweep_4 hcs ⟨Nat.le_trans (by decide) hR.1, Nat.le_trans (by decide) hR.2⟩ (Nat.le_of_ble_eq_true rfl) (fun H locs hP hS => ?_)
  refine lv_istore_n (lv' := [(1, .int v1), (0, .ref (sx_ad C 1 s0))]) hx hb dX3_endSweep_7 rfl hl (by decide) rfl (fun ls hl => ?_)
  refine lv_aload_n hx hb dX3_endSweep_8 rfl (lv_at hl 1 rfl) ?_
  refine lv_dup hx hb dX3_endSweep_9 rfl ?_
  refine gf_X3_42 X hP hs_s0 dX3_endSweep_10 h (fun v2 h => ?_)
  refine lv_aload_n hx hb dX3_endSweep_13 rfl (lv_at hl 1 rfl) ?_
  refine gf_X3_12 X hP hs_s0 dX3_endSweep_14 ?_
  refine lv_iload_n hx hb dX3_endSweep_17 rfl (lv_at hl 0 rfl) ?_
  obtain ⟨v3, M4, e_v3, h⟩ := sx_bnd2 h
  refine cl_X3_220 X hG hP hz hS hs_s0 e_v3 hl.1 dX3_endSweep_18 hcs ⟨Nat.le_trans (by decide) hR.1, Nat.le_trans (by decide) hR.2⟩ (Nat.le_of_ble_eq_true rfl) (fun H locs hP hS => ?_)
  refine lv_iadd hx hb dX3_endSweep_21 ?_
  refine pf_X3_42 X hG hP hS hs_s0 dX3_endSweep_22 h (fun M5 H locs h hP hS => ?_)
  refine lv_aload_n hx hb dX3_endSweep_25 rfl (lv_at hl 1 rfl) ?_
  refine lv_dup hx hb dX3_endSweep_26 rfl ?_
  refine gf_X3_33 X hP hs_s0 dX3_endSweep_27 h (fun v6 h => ?_)
  refine lv_iload_n hx hb dX3_endSweep_30 rfl (lv_at hl 0 rfl) ?_
  refine lv_iconst (v := (-1 : Int32)) hx hb dX3_endSweep_31 (by decide) ?_
  refine lv_ixor hx hb dX3_endSweep_32 ?_
  refine lv_iand hx hb dX3_endSweep_33 ?_
  refine pf_X3_33 X hG hP hS hs_s0 dX3_endSweep_34 h (fun M7 H locs h hP hS => ?_)
  refine lv_aload_n hx hb dX3_endSweep_37 rfl (lv_at hl 1 rfl) ?_
  refine gf_X3_21 X hP hs_s0 dX3_endSweep_38 ?_
  obtain ⟨M8, e_M8, h⟩ := sx_bnd h
  refine cl_X3_55 X hG hP hz hS hs_s0 e_M8 hl.1 dX3_endSweep_41 hcs ⟨Nat.le_trans (by decide) hR.1, Nat.le_trans (by decide) hR.2⟩ (Nat.le_of_ble_eq_true rfl) (fun H locs hP hS => ?_)
  refine lv_aload_n hx hb dX3_endSweep_44 rfl (lv_at hl 1 rfl) ?_
  refine lv_dup hx hb dX3_endSweep_45 rfl ?_
  refine gf_X3_39 X hP hs_s0 dX3_endSweep_46 h (fun v9 h => ?_)
  refine lv_iconst (v := (1 : Int32)) hx hb dX3_endSweep_49 (by decide) ?_
  refine lv_iadd hx hb dX3_endSweep_50 ?_
  refine pf_X3_39 X hG hP hS hs_s0 dX3_endSweep_51 h (fun M10 H locs h hP hS => ?_)
  refine lv_bipush (v := (-9 : Int32)) hx hb dX3_endSweep_54 (by decide) ?_
  refine lv_iload_n hx hb dX3_endSweep_56 rfl (lv_at hl 0 rfl) ?_
  obtain ⟨v11, e_v11, h⟩ := sx_bnd h
  refine cl_X3_58 X hG hP hz hS  e_v11 hl.1 dX3_endSweep_57 hcs ⟨Nat.le_trans (by decide) hR.1, Nat.le_trans (by decide) hR.2⟩ (Nat.le_of_ble_eq_true rfl) (fun H locs hP hS => ?_)
  refine lv_isub hx hb dX3_endSweep_60 ?_
  exact sx_iretM X hr hlocks hS hP h dX3_endSweep_61
set_option maxRecDepth 100000 in
theorem ct_3_endSweep (l : Launch) (C : sx_C) (hG : sx_G C) (s0 : Nat) (hs_s0 : s0 < 18) (M0 : sx_M) (r : Int32) (M' : sx_M) (h : f3_endSweep s0 M0 = some (r, M')) : Met l yX3_endSweep (.code yX3_endSweep cX3_endSweep 2 (some .int) :: sx_T) ({ frames := 1, cells := 0, slots := 0, locals := 24 } : Room) (sx_Pc C M0 [.ref (sx_ad C 1 s0)]) (sx_Q C (some (.int r)) M') 0 0 (sx_A C) := by
  refine Met.ofW (cc := cX3_endSweep) (maxL := 2) (ret := (some .int)) (by decide) rfl ?_
  intro p e s m args below meth c s₁ B hml hv
  obtain ⟨rfl, hz, hP, hK⟩ := hv
  have hl := lv_entry ([.ref (sx_ad C 1 s0)]) (n := 2) (Nat.le_of_ble_eq_true rfl)
  rw [lg_entry_eq]
  generalize (lg_sl ([.ref (sx_ad C 1 s0)]) ++ List.replicate (2 - (lg_sl ([.ref (sx_ad C 1 s0)])).length) Slot.unset).toArray = ls at hl ⊢
  exact wk_3_endSweep ⟨B.exec, B.bytes, hml, findClass_of_methodNamed B.named, fun w hw => atoms_spec B.pre w (List.mem_cons_of_mem _ hw), hK⟩ B.returns B.notSynchronized hG hz ⟨Nat.zero_le _, Nat.zero_le _⟩ ⟨Nat.le_refl _, Nat.le_refl _⟩ s0 hs_s0 M0 r M' h hl hP va_S.rf
theorem cl_X3_208 (X : sx_X C p m c cc nL s args RX3) (hG : sx_G C) (hP : sx_W C M0 H) (hz : sx_sz C ≤ H0.size) (hS : va_S (sx_A C) H0 H locs) {s0 : Nat} (hs_s0 : s0 < 18) {r : Int32} {M' : sx_M} (h : f3_endSweep s0 M0 = some (r, M')) (hsz : ls.size = nL) (hdg : decode cc pc = .ok (.invokevirtual 208, 3)) (hcs : cells ≤ R.cells ∧ slots ≤ R.slots) (hR : 1 + 1 ≤ R.frames ∧ 8 + (2 + 11) + 24 ≤ R.locals) (hrest : (rest.map fun v => v.category).sum ≤ 8) (kk : ∀ (H1 : Heap) (locs1 : List Loc), sx_W C M' H1 → va_S (sx_A C) H0 H1 locs1 → W p l e R s m args below meth c H1 locs1 cells slots Q (F0 m (pc + 3) ls ((.int r) :: rest))) : W p l e R s m args below meth c H locs cells slots Q (F0 m pc ls (.ref (sx_ad C 1 s0) :: rest)) :=
  sx_callV (n := 0) (As := []) (k0 := 1) (s0 := s0) X hP hz hS hs_s0 rfl rfl (sx_goodV tw_376 tw_378 tw_3 tw_65 tw_379) (by decide +kernel) rfl rfl hR (ct_3_endSweep l C hG s0 hs_s0 M0 r M' h) rfl rfl hrest hsz hdg hcs kk
-- StringShed$Shed.takeStep()I
def f3_takeStep_L21 (s0 : Nat) (w1 : Int32) : Nat → Int32 → sx_M → Option (Int32 × sx_M)
  | 0, _, _ => none
  | n + 1, x2, M =>
    (f4_size s0 M).bind fun v4 =>
    if v4 ≤ x2 then
      some (w1, M)
    else
      (f4_isSoundAt s0 x2 M).bind fun v6 =>
      sx_bd (fun (M7 : sx_M) =>
        sx_bd (x2 + (1 : Int32)) fun v8 =>
        f3_takeStep_L21 s0 w1 n v8 M7) fun j70 =>
      if v6 = 0 then
        j70 M
      else
        (f4_aboveAt s0 x2 M).bind fun v10 =>
        if v10 = w1 then
          (f4_belowAt s0 x2 M).bind fun v12 =>
          (f5_shade s0 v12 M).bind fun M13 =>
          j70 M13
        else
          j70 M
def f3_takeStep (s0 : Nat) (M0 : sx_M) : Option (Int32 × sx_M) :=
  sx_b2 (f5_blackenFirst s0 M0) fun v1 M2 =>
  if v1 = (-9 : Int32) then
    sx_b2 (f3_endSweep s0 M2) fun v14 M15 =>
    some (v14, M15)
  else
    f3_takeStep_L21 s0 v1
      5000 (0 : Int32) M2
set_option maxRecDepth 100000 in
set_option maxHeartbeats 4000000 in
theorem wk_3_takeStep (X : sx_X C p m c cX3_takeStep 3 s args RX3) (hr : meth.sig.returnType = (some .int)) (hlocks : meth.locks = false) (hG : sx_G C) (hz : sx_sz C ≤ s.heap.size) (hcs : 0 ≤ R.cells ∧ 0 ≤ R.slots) (hR : 2 ≤ R.frames ∧ 45 ≤ R.locals) (s0 : Nat) (hs_s0 : s0 < 18) (M0 : sx_M) (r : Int32) (M' : sx_M) (h : f3_takeStep s0 M0 = some (r, M')) (hl : lv_has ls 3 [(0, .ref (sx_ad C 1 s0))]) (hP : sx_W C M0 H) (hS : va_S (sx_A C) s.heap H locs) : W p l e R s m args below meth c H locs 0 0 (sx_Z C (some (.int r)) M' below args s) (F0 m 0 ls []) := by
  obtain ⟨hx, hb, hml, hown, hts, hK⟩ := id X
  rw [f3_takeStep] at h
  have hf3_takeStep_L21 : ∀ (s0 : Nat) (w1 : Int32) (hs_s0 : s0 < 18) (n : Nat) (x2 : Int32) (M : sx_M) (H : Heap) (locs : List Loc) (ls : Array Slot), lv_has ls 3 [(0, .ref (sx_ad C 1 s0)), (1, .int w1), (2, .int x2)] → sx_W C M H → va_S (sx_A C) s.heap H locs → f3_takeStep_L21 s0 w1 n x2 M = some (r, M') → W p l e R s m args below meth c H locs 0 0 (sx_Z C (some (.int r)) M' below args s) (F0 m 21 ls []) := by
    intro s0 w1 hs_s0 n
    induction n with
    | zero => intro x2 M H locs ls hl hP hS h; exact absurd (show (none : Option (Int32 × sx_M)) = some (r, M') from h) (fun q => nomatch q)
    | succ n ih =>
      intro x2 M H locs ls hl hP hS h
      rw [f3_takeStep_L21] at h
      refine lv_iload_n hx hb dX3_takeStep_21 rfl (lv_at hl 2 rfl) ?_
      refine lv_aload_n hx hb dX3_takeStep_22 rfl (lv_at hl 0 rfl) ?_
      refine gf_X3_12 X hP hs_s0 dX3_takeStep_23 ?_
      obtain ⟨v4, e_v4, h⟩ := sx_bnd h
      refine cl_X3_91 X hG hP hz hS hs_s0 e_v4 hl.1 dX3_takeStep_26 hcs ⟨Nat.le_trans (by decide) hR.1, Nat.le_trans (by decide) hR.2⟩ (Nat.le_of_ble_eq_true rfl) (fun H locs hP hS => ?_)
      refine lv_icmp_ge (tgt := 76) hx hb dX3_takeStep_29 (by decide) (fun c5 => ?_) (fun c5 => ?_)
      · replace h := sx_ifp h c5
        refine lv_iload_n hx hb dX3_takeStep_76 rfl (lv_at hl 1 rfl) ?_
        exact sx_iretM X hr hlocks hS hP h dX3_takeStep_77
      · replace h := sx_ifn h c5
        refine lv_aload_n hx hb dX3_takeStep_32 rfl (lv_at hl 0 rfl) ?_
        refine gf_X3_12 X hP hs_s0 dX3_takeStep_33 ?_
        refine lv_iload_n hx hb dX3_takeStep_36 rfl (lv_at hl 2 rfl) ?_
        obtain ⟨v6, e_v6, h⟩ := sx_bnd h
        refine cl_X3_148 X hG hP hz hS hs_s0 e_v6 hl.1 dX3_takeStep_37 hcs ⟨Nat.le_trans (by decide) hR.1, Nat.le_trans (by decide) hR.2⟩ (Nat.le_of_ble_eq_true rfl) (fun H locs hP hS => ?_)
        obtain ⟨j70, e_j70, h⟩ := sx_nm h
        have hj70 : ∀ (M7 : sx_M) (H : Heap) (locs : List Loc) (ls : Array Slot), lv_has ls 3 [(0, .ref (sx_ad C 1 s0)), (1, .int w1), (2, .int x2)] → sx_W C M7 H → va_S (sx_A C) s.heap H locs → j70 M7 = some (r, M') → W p l e R s m args below meth c H locs 0 0 (sx_Z C (some (.int r)) M' below args s) (F0 m 70 ls []) := by
          intro M7 H locs ls hl hP hS h
          subst e_j70
          obtain ⟨v8, e_v8, h⟩ := sx_nm h
          refine lv_iinc (v := v8) (lv' := [(2, .int v8), (0, .ref (sx_ad C 1 s0)), (1, .int w1)]) hx hb dX3_takeStep_70 hl (k := 2) rfl (by rw [← e_v8]; rfl) (by decide) rfl (fun ls hl => ?_)
          refine lv_goto (tgt := 21) hx hb dX3_takeStep_73 (by decide) ?_
          exact ih v8 M7 H locs ls (lv_sub hl [1, 2, 0] rfl) hP hS h
        clear e_j70
        refine lv_if_eq (tgt := 70) hx hb dX3_takeStep_40 (by decide) (fun c9 => ?_) (fun c9 => ?_)
        · replace h := sx_ifp h c9
          exact hj70 M H locs ls (lv_sub hl [0, 1, 2] rfl) hP hS h
        · replace h := sx_ifn h c9
          refine lv_aload_n hx hb dX3_takeStep_43 rfl (lv_at hl 0 rfl) ?_
          refine gf_X3_12 X hP hs_s0 dX3_takeStep_44 ?_
          refine lv_iload_n hx hb dX3_takeStep_47 rfl (lv_at hl 2 rfl) ?_
          obtain ⟨v10, e_v10, h⟩ := sx_bnd h
          refine cl_X3_211 X hG hP hz hS hs_s0 e_v10 hl.1 dX3_takeStep_48 hcs ⟨Nat.le_trans (by decide) hR.1, Nat.le_trans (by decide) hR.2⟩ (Nat.le_of_ble_eq_true rfl) (fun H locs hP hS => ?_)
          refine lv_iload_n hx hb dX3_takeStep_51 rfl (lv_at hl 1 rfl) ?_
          refine lv_icmp_ne (tgt := 70) hx hb dX3_takeStep_52 (by decide) (fun c11 => ?_) (fun c11 => ?_)
          · replace h := sx_ifn h c11
            exact hj70 M H locs ls (lv_sub hl [0, 1, 2] rfl) hP hS h
          · replace h := sx_ifp h c11
            refine lv_aload_n hx hb dX3_takeStep_55 rfl (lv_at hl 0 rfl) ?_
            refine gf_X3_21 X hP hs_s0 dX3_takeStep_56 ?_
            refine lv_aload_n hx hb dX3_takeStep_59 rfl (lv_at hl 0 rfl) ?_
            refine gf_X3_12 X hP hs_s0 dX3_takeStep_60 ?_
            refine lv_iload_n hx hb dX3_takeStep_63 rfl (lv_at hl 2 rfl) ?_
            obtain ⟨v12, e_v12, h⟩ := sx_bnd h
            refine cl_X3_214 X hG hP hz hS hs_s0 e_v12 hl.1 dX3_takeStep_64 hcs ⟨Nat.le_trans (by decide) hR.1, Nat.le_trans (by decide) hR.2⟩ (Nat.le_of_ble_eq_true rfl) (fun H locs hP hS => ?_)
            obtain ⟨M13, e_M13, h⟩ := sx_bnd h
            refine cl_X3_187 X hG hP hz hS hs_s0 e_M13 hl.1 dX3_takeStep_67 hcs ⟨Nat.le_trans (by decide) hR.1, Nat.le_trans (by decide) hR.2⟩ (Nat.le_of_ble_eq_true rfl) (fun H locs hP hS => ?_)
            exact hj70 M13 H locs ls (lv_sub hl [0, 1, 2] rfl) hP hS h
  refine lv_aload_n hx hb dX3_takeStep_0 rfl (lv_at hl 0 rfl) ?_
  refine gf_X3_21 X hP hs_s0 dX3_takeStep_1 ?_
  obtain ⟨v1, M2, e_v1, h⟩ := sx_bnd2 h
  refine cl_X3_205 X hG hP hz hS hs_s0 e_v1 hl.1 dX3_takeStep_4 hcs ⟨Nat.le_trans (by decide) hR.1, Nat.le_trans (by decide) hR.2⟩ (Nat.le_of_ble_eq_true rfl) (fun H locs hP hS => ?_)
  refine lv_istore_n (lv' := [(1, .int v1), (0, .ref (sx_ad C 1 s0))]) hx hb dX3_takeStep_7 rfl hl (by decide) rfl (fun ls hl => ?_)
  refine lv_iload_n hx hb dX3_takeStep_8 rfl (lv_at hl 0 rfl) ?_
  refine lv_bipush (v := (-9 : Int32)) hx hb dX3_takeStep_9 (by decide) ?_
  refine lv_icmp_ne (tgt := 19) hx hb dX3_takeStep_11 (by decide) (fun c3 => ?_) (fun c3 => ?_)
  · replace h := sx_ifn h c3
    refine lv_iconst (v := (0 : Int32)) hx hb dX3_takeStep_19 (by decide) ?_
    refine lv_istore_n (lv' := [(2, .int (0 : Int32)), (1, .int v1), (0, .ref (sx_ad C 1 s0))]) hx hb dX3_takeStep_20 rfl hl (by decide) rfl (fun ls hl => ?_)
    exact hf3_takeStep_L21 s0 v1 hs_s0 5000 (0 : Int32) M2 H locs ls (lv_sub hl [2, 1, 0] rfl) hP hS h
  · replace h := sx_ifp h c3
    refine lv_aload_n hx hb dX3_takeStep_14 rfl (lv_at hl 1 rfl) ?_
    obtain ⟨v14, M15, e_v14, h⟩ := sx_bnd2 h
    refine cl_X3_208 X hG hP hz hS hs_s0 e_v14 hl.1 dX3_takeStep_15 hcs ⟨Nat.le_trans (by decide) hR.1, Nat.le_trans (by decide) hR.2⟩ (Nat.le_of_ble_eq_true rfl) (fun H locs hP hS => ?_)
    exact sx_iretM X hr hlocks hS hP h dX3_takeStep_18
set_option maxRecDepth 100000 in
theorem ct_3_takeStep (l : Launch) (C : sx_C) (hG : sx_G C) (s0 : Nat) (hs_s0 : s0 < 18) (M0 : sx_M) (r : Int32) (M' : sx_M) (h : f3_takeStep s0 M0 = some (r, M')) : Met l yX3_takeStep (.code yX3_takeStep cX3_takeStep 3 (some .int) :: sx_T) ({ frames := 2, cells := 0, slots := 0, locals := 45 } : Room) (sx_Pc C M0 [.ref (sx_ad C 1 s0)]) (sx_Q C (some (.int r)) M') 0 0 (sx_A C) := by
  refine Met.ofW (cc := cX3_takeStep) (maxL := 3) (ret := (some .int)) (by decide) rfl ?_
  intro p e s m args below meth c s₁ B hml hv
  obtain ⟨rfl, hz, hP, hK⟩ := hv
  have hl := lv_entry ([.ref (sx_ad C 1 s0)]) (n := 3) (Nat.le_of_ble_eq_true rfl)
  rw [lg_entry_eq]
  generalize (lg_sl ([.ref (sx_ad C 1 s0)]) ++ List.replicate (3 - (lg_sl ([.ref (sx_ad C 1 s0)])).length) Slot.unset).toArray = ls at hl ⊢
  exact wk_3_takeStep ⟨B.exec, B.bytes, hml, findClass_of_methodNamed B.named, fun w hw => atoms_spec B.pre w (List.mem_cons_of_mem _ hw), hK⟩ B.returns B.notSynchronized hG hz ⟨Nat.zero_le _, Nat.zero_le _⟩ ⟨Nat.le_refl _, Nat.le_refl _⟩ s0 hs_s0 M0 r M' h hl hP va_S.rf
theorem cl_X3_173 (X : sx_X C p m c cc nL s args RX3) (hG : sx_G C) (hP : sx_W C M0 H) (hz : sx_sz C ≤ H0.size) (hS : va_S (sx_A C) H0 H locs) {s0 : Nat} (hs_s0 : s0 < 18) {r : Int32} {M' : sx_M} (h : f3_takeStep s0 M0 = some (r, M')) (hsz : ls.size = nL) (hdg : decode cc pc = .ok (.invokevirtual 173, 3)) (hcs : cells ≤ R.cells ∧ slots ≤ R.slots) (hR : 2 + 1 ≤ R.frames ∧ 8 + (3 + 11) + 45 ≤ R.locals) (hrest : (rest.map fun v => v.category).sum ≤ 8) (kk : ∀ (H1 : Heap) (locs1 : List Loc), sx_W C M' H1 → va_S (sx_A C) H0 H1 locs1 → W p l e R s m args below meth c H1 locs1 cells slots Q (F0 m (pc + 3) ls ((.int r) :: rest))) : W p l e R s m args below meth c H locs cells slots Q (F0 m pc ls (.ref (sx_ad C 1 s0) :: rest)) :=
  sx_callV (n := 0) (As := []) (k0 := 1) (s0 := s0) X hP hz hS hs_s0 rfl rfl (sx_goodV tw_368 tw_370 tw_2 tw_65 tw_371) (by decide +kernel) rfl rfl hR (ct_3_takeStep l C hG s0 hs_s0 M0 r M' h) rfl rfl hrest hsz hdg hcs kk
-- StringShed$Shed.perform(IIIZ)I
def f3_perform (s0 : Nat) (a1 : Int32) (a2 : Int32) (a3 : Int32) (a4 : Int32) (M0 : sx_M) : Option (Int32 × sx_M) :=
  if a1 = (1 : Int32) then
    sx_b2 (f3_addPart s0 a3 M0) fun v2 M3 =>
    some (v2, M3)
  else
  if a1 = (2 : Int32) then
    sx_b2 (f3_addString s0 a2 a3 a4 M0) fun v5 M6 =>
    some (v5, M6)
  else
  if a1 = (3 : Int32) then
    sx_b2 (f3_removeString s0 a2 a3 M0) fun v8 M9 =>
    some (v8, M9)
  else
  if a1 = (4 : Int32) then
    sx_b2 (f3_setSound s0 a2 a3 (0 : Int32) M0) fun v11 M12 =>
    some (v11, M12)
  else
  if a1 = (5 : Int32) then
    sx_b2 (f3_setSound s0 a2 a3 (1 : Int32) M0) fun v14 M15 =>
    some (v14, M15)
  else
  if a1 = (6 : Int32) then
    sx_b2 (f3_setPinned s0 a3 a4 M0) fun v17 M18 =>
    some (v17, M18)
  else
  if a1 = (7 : Int32) then
    sx_b2 (f3_beginSweep s0 M0) fun v20 M21 =>
    some (v20, M21)
  else
    sx_b2 (f3_takeStep s0 M0) fun v22 M23 =>
    some (v22, M23)
set_option maxRecDepth 100000 in
set_option maxHeartbeats 4000000 in
theorem wk_3_perform (X : sx_X C p m c cX3_perform 5 s args RX3) (hr : meth.sig.returnType = (some .int)) (hlocks : meth.locks = false) (hG : sx_G C) (hz : sx_sz C ≤ s.heap.size) (hcs : 0 ≤ R.cells ∧ 0 ≤ R.slots) (hR : 3 ≤ R.frames ∧ 70 ≤ R.locals) (s0 : Nat) (a1 : Int32) (a2 : Int32) (a3 : Int32) (a4 : Int32) (hs_s0 : s0 < 18) (M0 : sx_M) (r : Int32) (M' : sx_M) (h : f3_perform s0 a1 a2 a3 a4 M0 = some (r, M')) (hl : lv_has ls 5 [(0, .ref (sx_ad C 1 s0)), (1, .int a1), (2, .int a2), (3, .int a3), (4, .int a4)]) (hP : sx_W C M0 H) (hS : va_S (sx_A C) s.heap H locs) : W p l e R s m args below meth c H locs 0 0 (sx_Z C (some (.int r)) M' below args s) (F0 m 0 ls []) := by
  obtain ⟨hx, hb, hml, hown, hts, hK⟩ := id X
  rw [f3_perform] at h
  refine lv_iload_n hx hb dX3_perform_0 rfl (lv_at hl 1 rfl) ?_
  by_cases c1 : a1 = (1 : Int32)
  · replace h := sx_ifp h c1
    refine lv_tableIn (tgt := 44) hx hb dX3_perform_1 (by rw [c1]; decide) (by rw [c1]; decide) (by rw [c1]; rfl) (by decide) ?_
    refine lv_aload_n hx hb dX3_perform_44 rfl (lv_at hl 0 rfl) ?_
    refine lv_iload_n hx hb dX3_perform_45 rfl (lv_at hl 3 rfl) ?_
    obtain ⟨v2, M3, e_v2, h⟩ := sx_bnd2 h
    refine cl_X3_154 X hG hP hz hS hs_s0 e_v2 hl.1 dX3_perform_46 hcs ⟨Nat.le_trans (by decide) hR.1, Nat.le_trans (by decide) hR.2⟩ (Nat.le_of_ble_eq_true rfl) (fun H locs hP hS => ?_)
    exact sx_iretM X hr hlocks hS hP h dX3_perform_49
  replace h := sx_ifn h c1
  by_cases c4 : a1 = (2 : Int32)
  · replace h := sx_ifp h c4
    refine lv_tableIn (tgt := 50) hx hb dX3_perform_1 (by rw [c4]; decide) (by rw [c4]; decide) (by rw [c4]; rfl) (by decide) ?_
    refine lv_aload_n hx hb dX3_perform_50 rfl (lv_at hl 0 rfl) ?_
    refine lv_iload_n hx hb dX3_perform_51 rfl (lv_at hl 2 rfl) ?_
    refine lv_iload_n hx hb dX3_perform_52 rfl (lv_at hl 3 rfl) ?_
    refine lv_iload hx hb dX3_perform_53 (lv_at hl 4 rfl) ?_
    obtain ⟨v5, M6, e_v5, h⟩ := sx_bnd2 h
    refine cl_X3_157 X hG hP hz hS hs_s0 e_v5 hl.1 dX3_perform_55 hcs ⟨Nat.le_trans (by decide) hR.1, Nat.le_trans (by decide) hR.2⟩ (Nat.le_of_ble_eq_true rfl) (fun H locs hP hS => ?_)
    exact sx_iretM X hr hlocks hS hP h dX3_perform_58
  replace h := sx_ifn h c4
  by_cases c7 : a1 = (3 : Int32)
  · replace h := sx_ifp h c7
    refine lv_tableIn (tgt := 59) hx hb dX3_perform_1 (by rw [c7]; decide) (by rw [c7]; decide) (by rw [c7]; rfl) (by decide) ?_
    refine lv_aload_n hx hb dX3_perform_59 rfl (lv_at hl 0 rfl) ?_
    refine lv_iload_n hx hb dX3_perform_60 rfl (lv_at hl 2 rfl) ?_
    refine lv_iload_n hx hb dX3_perform_61 rfl (lv_at hl 3 rfl) ?_
    obtain ⟨v8, M9, e_v8, h⟩ := sx_bnd2 h
    refine cl_X3_160 X hG hP hz hS hs_s0 e_v8 hl.1 dX3_perform_62 hcs ⟨Nat.le_trans (by decide) hR.1, Nat.le_trans (by decide) hR.2⟩ (Nat.le_of_ble_eq_true rfl) (fun H locs hP hS => ?_)
    exact sx_iretM X hr hlocks hS hP h dX3_perform_65
  replace h := sx_ifn h c7
  by_cases c10 : a1 = (4 : Int32)
  · replace h := sx_ifp h c10
    refine lv_tableIn (tgt := 66) hx hb dX3_perform_1 (by rw [c10]; decide) (by rw [c10]; decide) (by rw [c10]; rfl) (by decide) ?_
    refine lv_aload_n hx hb dX3_perform_66 rfl (lv_at hl 0 rfl) ?_
    refine lv_iload_n hx hb dX3_perform_67 rfl (lv_at hl 2 rfl) ?_
    refine lv_iload_n hx hb dX3_perform_68 rfl (lv_at hl 3 rfl) ?_
    refine lv_iconst (v := (0 : Int32)) hx hb dX3_perform_69 (by decide) ?_
    obtain ⟨v11, M12, e_v11, h⟩ := sx_bnd2 h
    refine cl_X3_163 X hG hP hz hS hs_s0 e_v11 hl.1 dX3_perform_70 hcs ⟨Nat.le_trans (by decide) hR.1, Nat.le_trans (by decide) hR.2⟩ (Nat.le_of_ble_eq_true rfl) (fun H locs hP hS => ?_)
    exact sx_iretM X hr hlocks hS hP h dX3_perform_73
  replace h := sx_ifn h c10
  by_cases c13 : a1 = (5 : Int32)
  · replace h := sx_ifp h c13
    refine lv_tableIn (tgt := 74) hx hb dX3_perform_1 (by rw [c13]; decide) (by rw [c13]; decide) (by rw [c13]; rfl) (by decide) ?_
    refine lv_aload_n hx hb dX3_perform_74 rfl (lv_at hl 0 rfl) ?_
    refine lv_iload_n hx hb dX3_perform_75 rfl (lv_at hl 2 rfl) ?_
    refine lv_iload_n hx hb dX3_perform_76 rfl (lv_at hl 3 rfl) ?_
    refine lv_iconst (v := (1 : Int32)) hx hb dX3_perform_77 (by decide) ?_
    obtain ⟨v14, M15, e_v14, h⟩ := sx_bnd2 h
    refine cl_X3_163 X hG hP hz hS hs_s0 e_v14 hl.1 dX3_perform_78 hcs ⟨Nat.le_trans (by decide) hR.1, Nat.le_trans (by decide) hR.2⟩ (Nat.le_of_ble_eq_true rfl) (fun H locs hP hS => ?_)
    exact sx_iretM X hr hlocks hS hP h dX3_perform_81
  replace h := sx_ifn h c13
  by_cases c16 : a1 = (6 : Int32)
  · replace h := sx_ifp h c16
    refine lv_tableIn (tgt := 82) hx hb dX3_perform_1 (by rw [c16]; decide) (by rw [c16]; decide) (by rw [c16]; rfl) (by decide) ?_
    refine lv_aload_n hx hb dX3_perform_82 rfl (lv_at hl 0 rfl) ?_
    refine lv_iload_n hx hb dX3_perform_83 rfl (lv_at hl 3 rfl) ?_
    refine lv_iload hx hb dX3_perform_84 (lv_at hl 4 rfl) ?_
    obtain ⟨v17, M18, e_v17, h⟩ := sx_bnd2 h
    refine cl_X3_166 X hG hP hz hS hs_s0 e_v17 hl.1 dX3_perform_86 hcs ⟨Nat.le_trans (by decide) hR.1, Nat.le_trans (by decide) hR.2⟩ (Nat.le_of_ble_eq_true rfl) (fun H locs hP hS => ?_)
    exact sx_iretM X hr hlocks hS hP h dX3_perform_89
  replace h := sx_ifn h c16
  by_cases c19 : a1 = (7 : Int32)
  · replace h := sx_ifp h c19
    refine lv_tableIn (tgt := 90) hx hb dX3_perform_1 (by rw [c19]; decide) (by rw [c19]; decide) (by rw [c19]; rfl) (by decide) ?_
    refine lv_aload_n hx hb dX3_perform_90 rfl (lv_at hl 0 rfl) ?_
    obtain ⟨v20, M21, e_v20, h⟩ := sx_bnd2 h
    refine cl_X3_170 X hG hP hz hS hs_s0 e_v20 hl.1 dX3_perform_91 hcs ⟨Nat.le_trans (by decide) hR.1, Nat.le_trans (by decide) hR.2⟩ (Nat.le_of_ble_eq_true rfl) (fun H locs hP hS => ?_)
    exact sx_iretM X hr hlocks hS hP h dX3_perform_94
  replace h := sx_ifn h c19
  have t_c1 := lv_neT (a := 1) c1 (by decide)
  have t_c4 := lv_neT (a := 2) c4 (by decide)
  have t_c7 := lv_neT (a := 3) c7 (by decide)
  have t_c10 := lv_neT (a := 4) c10 (by decide)
  have t_c13 := lv_neT (a := 5) c13 (by decide)
  have t_c16 := lv_neT (a := 6) c16 (by decide)
  have t_c19 := lv_neT (a := 7) c19 (by decide)
  refine lv_tableOut (tgt := 95) hx hb dX3_perform_1 (by omega) (by decide) ?_
  refine lv_aload_n hx hb dX3_perform_95 rfl (lv_at hl 0 rfl) ?_
  obtain ⟨v22, M23, e_v22, h⟩ := sx_bnd2 h
  refine cl_X3_173 X hG hP hz hS hs_s0 e_v22 hl.1 dX3_perform_96 hcs ⟨Nat.le_trans (by decide) hR.1, Nat.le_trans (by decide) hR.2⟩ (Nat.le_of_ble_eq_true rfl) (fun H locs hP hS => ?_)
  exact sx_iretM X hr hlocks hS hP h dX3_perform_99
set_option maxRecDepth 100000 in
theorem ct_3_perform (l : Launch) (C : sx_C) (hG : sx_G C) (s0 : Nat) (a1 : Int32) (a2 : Int32) (a3 : Int32) (a4 : Int32) (hs_s0 : s0 < 18) (M0 : sx_M) (r : Int32) (M' : sx_M) (h : f3_perform s0 a1 a2 a3 a4 M0 = some (r, M')) : Met l yX3_perform (.code yX3_perform cX3_perform 5 (some .int) :: sx_T) ({ frames := 3, cells := 0, slots := 0, locals := 70 } : Room) (sx_Pc C M0 [.ref (sx_ad C 1 s0), .int a1, .int a2, .int a3, .int a4]) (sx_Q C (some (.int r)) M') 0 0 (sx_A C) := by
  refine Met.ofW (cc := cX3_perform) (maxL := 5) (ret := (some .int)) (by decide) rfl ?_
  intro p e s m args below meth c s₁ B hml hv
  obtain ⟨rfl, hz, hP, hK⟩ := hv
  have hl := lv_entry ([.ref (sx_ad C 1 s0), .int a1, .int a2, .int a3, .int a4]) (n := 5) (Nat.le_of_ble_eq_true rfl)
  rw [lg_entry_eq]
  generalize (lg_sl ([.ref (sx_ad C 1 s0), .int a1, .int a2, .int a3, .int a4]) ++ List.replicate (5 - (lg_sl ([.ref (sx_ad C 1 s0), .int a1, .int a2, .int a3, .int a4])).length) Slot.unset).toArray = ls at hl ⊢
  exact wk_3_perform ⟨B.exec, B.bytes, hml, findClass_of_methodNamed B.named, fun w hw => atoms_spec B.pre w (List.mem_cons_of_mem _ hw), hK⟩ B.returns B.notSynchronized hG hz ⟨Nat.zero_le _, Nat.zero_le _⟩ ⟨Nat.le_refl _, Nat.le_refl _⟩ s0 a1 a2 a3 a4 hs_s0 M0 r M' h hl hP va_S.rf
theorem cl_X3_122 (X : sx_X C p m c cc nL s args RX3) (hG : sx_G C) (hP : sx_W C M0 H) (hz : sx_sz C ≤ H0.size) (hS : va_S (sx_A C) H0 H locs) {s0 : Nat} {a1 : Int32} {a2 : Int32} {a3 : Int32} {a4 : Int32} (hs_s0 : s0 < 18) {r : Int32} {M' : sx_M} (h : f3_perform s0 a1 a2 a3 a4 M0 = some (r, M')) (hsz : ls.size = nL) (hdg : decode cc pc = .ok (.invokevirtual 122, 3)) (hcs : cells ≤ R.cells ∧ slots ≤ R.slots) (hR : 3 + 1 ≤ R.frames ∧ 8 + (5 + 11) + 70 ≤ R.locals) (hrest : (rest.map fun v => v.category).sum ≤ 8) (kk : ∀ (H1 : Heap) (locs1 : List Loc), sx_W C M' H1 → va_S (sx_A C) H0 H1 locs1 → W p l e R s m args below meth c H1 locs1 cells slots Q (F0 m (pc + 3) ls ((.int r) :: rest))) : W p l e R s m args below meth c H locs cells slots Q (F0 m pc ls (.int a4 :: .int a3 :: .int a2 :: .int a1 :: .ref (sx_ad C 1 s0) :: rest)) :=
  sx_callV (n := 4) (As := [.int a1, .int a2, .int a3, .int a4]) (k0 := 1) (s0 := s0) X hP hz hS hs_s0 rfl rfl (sx_goodV tw_600 tw_601 tw_602 tw_65 tw_603) (by decide +kernel) rfl rfl hR (ct_3_perform l C hG s0 a1 a2 a3 a4 hs_s0 M0 r M' h) rfl rfl hrest hsz hdg hcs kk
theorem cl_X7_153 (X : sx_X C p m c cc nL s args RX7) (hG : sx_G C) (hP : sx_W C M0 H) (hz : sx_sz C ≤ H0.size) (hS : va_S (sx_A C) H0 H locs) {s0 : Nat} {a1 : Int32} {a2 : Int32} {a3 : Int32} {a4 : Int32} (hs_s0 : s0 < 18) {r : Int32} {M' : sx_M} (h : f3_perform s0 a1 a2 a3 a4 M0 = some (r, M')) (hsz : ls.size = nL) (hdg : decode cc pc = .ok (.invokevirtual 153, 3)) (hcs : cells ≤ R.cells ∧ slots ≤ R.slots) (hR : 3 + 1 ≤ R.frames ∧ 8 + (5 + 11) + 70 ≤ R.locals) (hrest : (rest.map fun v => v.category).sum ≤ 8) (kk : ∀ (H1 : Heap) (locs1 : List Loc), sx_W C M' H1 → va_S (sx_A C) H0 H1 locs1 → W p l e R s m args below meth c H1 locs1 cells slots Q (F0 m (pc + 3) ls ((.int r) :: rest))) : W p l e R s m args below meth c H locs cells slots Q (F0 m pc ls (.int a4 :: .int a3 :: .int a2 :: .int a1 :: .ref (sx_ad C 1 s0) :: rest)) :=
  sx_callV (n := 4) (As := [.int a1, .int a2, .int a3, .int a4]) (k0 := 1) (s0 := s0) X hP hz hS hs_s0 rfl rfl (sx_goodV tw_778 tw_601 tw_602 tw_65 tw_603) (by decide +kernel) rfl rfl hR (ct_3_perform l C hG s0 a1 a2 a3 a4 hs_s0 M0 r M' h) rfl rfl hrest hsz hdg hcs kk
-- StringShed$Shed.attempt(IIIZ)Z
def f3_attempt (s0 : Nat) (a1 : Int32) (a2 : Int32) (a3 : Int32) (a4 : Int32) (M0 : sx_M) : Option (Int32 × sx_M) :=
  (f3_faultOf s0 a1 a2 a3 M0).bind fun v1 =>
  if v1 = 0 then
    sx_b2 (f3_perform s0 a1 a2 a3 a4 M0) fun v3 M4 =>
    some ((1 : Int32), M4)
  else
    some ((0 : Int32), M0)
set_option maxRecDepth 100000 in
set_option maxHeartbeats 4000000 in
theorem wk_3_attempt (X : sx_X C p m c cX3_attempt 5 s args RX3) (hr : meth.sig.returnType = (some .boolean)) (hlocks : meth.locks = false) (hG : sx_G C) (hz : sx_sz C ≤ s.heap.size) (hcs : 0 ≤ R.cells ∧ 0 ≤ R.slots) (hR : 4 ≤ R.frames ∧ 94 ≤ R.locals) (s0 : Nat) (a1 : Int32) (a2 : Int32) (a3 : Int32) (a4 : Int32) (hs_s0 : s0 < 18) (M0 : sx_M) (r : Int32) (M' : sx_M) (h : f3_attempt s0 a1 a2 a3 a4 M0 = some (r, M')) (hl : lv_has ls 5 [(0, .ref (sx_ad C 1 s0)), (1, .int a1), (2, .int a2), (3, .int a3), (4, .int a4)]) (hP : sx_W C M0 H) (hS : va_S (sx_A C) s.heap H locs) : W p l e R s m args below meth c H locs 0 0 (sx_Z C (some (.int r)) M' below args s) (F0 m 0 ls []) := by
  obtain ⟨hx, hb, hml, hown, hts, hK⟩ := id X
  rw [f3_attempt] at h
  refine lv_aload_n hx hb dX3_attempt_0 rfl (lv_at hl 0 rfl) ?_
  refine lv_iload_n hx hb dX3_attempt_1 rfl (lv_at hl 1 rfl) ?_
  refine lv_iload_n hx hb dX3_attempt_2 rfl (lv_at hl 2 rfl) ?_
  refine lv_iload_n hx hb dX3_attempt_3 rfl (lv_at hl 3 rfl) ?_
  obtain ⟨v1, e_v1, h⟩ := sx_bnd h
  refine cl_X3_118 X hG hP hz hS hs_s0 e_v1 hl.1 dX3_attempt_4 hcs ⟨Nat.le_trans (by decide) hR.1, Nat.le_trans (by decide) hR.2⟩ (Nat.le_of_ble_eq_true rfl) (fun H locs hP hS => ?_)
  refine lv_if_eq (tgt := 12) hx hb dX3_attempt_7 (by decide) (fun c2 => ?_) (fun c2 => ?_)
  · replace h := sx_ifp h c2
    refine lv_aload_n hx hb dX3_attempt_12 rfl (lv_at hl 0 rfl) ?_
    refine lv_iload_n hx hb dX3_attempt_13 rfl (lv_at hl 1 rfl) ?_
    refine lv_iload_n hx hb dX3_attempt_14 rfl (lv_at hl 2 rfl) ?_
    refine lv_iload_n hx hb dX3_attempt_15 rfl (lv_at hl 3 rfl) ?_
    refine lv_iload hx hb dX3_attempt_16 (lv_at hl 4 rfl) ?_
    obtain ⟨v3, M4, e_v3, h⟩ := sx_bnd2 h
    refine cl_X3_122 X hG hP hz hS hs_s0 e_v3 hl.1 dX3_attempt_18 hcs ⟨Nat.le_trans (by decide) hR.1, Nat.le_trans (by decide) hR.2⟩ (Nat.le_of_ble_eq_true rfl) (fun H locs hP hS => ?_)
    refine lv_pop hx hb dX3_attempt_21 rfl ?_
    refine lv_iconst (v := (1 : Int32)) hx hb dX3_attempt_22 (by decide) ?_
    exact sx_zretM X hr hlocks hS hP (by decide) h dX3_attempt_23
  · replace h := sx_ifn h c2
    refine lv_iconst (v := (0 : Int32)) hx hb dX3_attempt_10 (by decide) ?_
    exact sx_zretM X hr hlocks hS hP (by decide) h dX3_attempt_11
set_option maxRecDepth 100000 in
theorem ct_3_attempt (l : Launch) (C : sx_C) (hG : sx_G C) (s0 : Nat) (a1 : Int32) (a2 : Int32) (a3 : Int32) (a4 : Int32) (hs_s0 : s0 < 18) (M0 : sx_M) (r : Int32) (M' : sx_M) (h : f3_attempt s0 a1 a2 a3 a4 M0 = some (r, M')) : Met l yX3_attempt (.code yX3_attempt cX3_attempt 5 (some .boolean) :: sx_T) ({ frames := 4, cells := 0, slots := 0, locals := 94 } : Room) (sx_Pc C M0 [.ref (sx_ad C 1 s0), .int a1, .int a2, .int a3, .int a4]) (sx_Q C (some (.int r)) M') 0 0 (sx_A C) := by
  refine Met.ofW (cc := cX3_attempt) (maxL := 5) (ret := (some .boolean)) (by decide) rfl ?_
  intro p e s m args below meth c s₁ B hml hv
  obtain ⟨rfl, hz, hP, hK⟩ := hv
  have hl := lv_entry ([.ref (sx_ad C 1 s0), .int a1, .int a2, .int a3, .int a4]) (n := 5) (Nat.le_of_ble_eq_true rfl)
  rw [lg_entry_eq]
  generalize (lg_sl ([.ref (sx_ad C 1 s0), .int a1, .int a2, .int a3, .int a4]) ++ List.replicate (5 - (lg_sl ([.ref (sx_ad C 1 s0), .int a1, .int a2, .int a3, .int a4])).length) Slot.unset).toArray = ls at hl ⊢
  exact wk_3_attempt ⟨B.exec, B.bytes, hml, findClass_of_methodNamed B.named, fun w hw => atoms_spec B.pre w (List.mem_cons_of_mem _ hw), hK⟩ B.returns B.notSynchronized hG hz ⟨Nat.zero_le _, Nat.zero_le _⟩ ⟨Nat.le_refl _, Nat.le_refl _⟩ s0 a1 a2 a3 a4 hs_s0 M0 r M' h hl hP va_S.rf
theorem cl_X2_13 (X : sx_X C p m c cc nL s args RX2) (hG : sx_G C) (hP : sx_W C M0 H) (hz : sx_sz C ≤ H0.size) (hS : va_S (sx_A C) H0 H locs) {s0 : Nat} {a1 : Int32} {a2 : Int32} {a3 : Int32} {a4 : Int32} (hs_s0 : s0 < 18) {r : Int32} {M' : sx_M} (h : f3_attempt s0 a1 a2 a3 a4 M0 = some (r, M')) (hsz : ls.size = nL) (hdg : decode cc pc = .ok (.invokevirtual 13, 3)) (hcs : cells ≤ R.cells ∧ slots ≤ R.slots) (hR : 4 + 1 ≤ R.frames ∧ 8 + (5 + 11) + 94 ≤ R.locals) (hrest : (rest.map fun v => v.category).sum ≤ 8) (kk : ∀ (H1 : Heap) (locs1 : List Loc), sx_W C M' H1 → va_S (sx_A C) H0 H1 locs1 → W p l e R s m args below meth c H1 locs1 cells slots Q (F0 m (pc + 3) ls ((.int r) :: rest))) : W p l e R s m args below meth c H locs cells slots Q (F0 m pc ls (.int a4 :: .int a3 :: .int a2 :: .int a1 :: .ref (sx_ad C 1 s0) :: rest)) :=
  sx_callV (n := 4) (As := [.int a1, .int a2, .int a3, .int a4]) (k0 := 1) (s0 := s0) X hP hz hS hs_s0 rfl rfl (sx_goodV tw_920 tw_561 tw_562 tw_65 tw_563) (by decide +kernel) rfl rfl hR (ct_3_attempt l C hG s0 a1 a2 a3 a4 hs_s0 M0 r M' h) rfl rfl hrest hsz hdg hcs kk
theorem cl_X6_38 (X : sx_X C p m c cc nL s args RX6) (hG : sx_G C) (hP : sx_W C M0 H) (hz : sx_sz C ≤ H0.size) (hS : va_S (sx_A C) H0 H locs) {s0 : Nat} {a1 : Int32} {a2 : Int32} {a3 : Int32} {a4 : Int32} (hs_s0 : s0 < 18) {r : Int32} {M' : sx_M} (h : f3_attempt s0 a1 a2 a3 a4 M0 = some (r, M')) (hsz : ls.size = nL) (hdg : decode cc pc = .ok (.invokevirtual 38, 3)) (hcs : cells ≤ R.cells ∧ slots ≤ R.slots) (hR : 4 + 1 ≤ R.frames ∧ 8 + (5 + 11) + 94 ≤ R.locals) (hrest : (rest.map fun v => v.category).sum ≤ 8) (kk : ∀ (H1 : Heap) (locs1 : List Loc), sx_W C M' H1 → va_S (sx_A C) H0 H1 locs1 → W p l e R s m args below meth c H1 locs1 cells slots Q (F0 m (pc + 3) ls ((.int r) :: rest))) : W p l e R s m args below meth c H locs cells slots Q (F0 m pc ls (.int a4 :: .int a3 :: .int a2 :: .int a1 :: .ref (sx_ad C 1 s0) :: rest)) :=
  sx_callV (n := 4) (As := [.int a1, .int a2, .int a3, .int a4]) (k0 := 1) (s0 := s0) X hP hz hS hs_s0 rfl rfl (sx_goodV tw_560 tw_561 tw_562 tw_65 tw_563) (by decide +kernel) rfl rfl hR (ct_3_attempt l C hG s0 a1 a2 a3 a4 hs_s0 M0 r M' h) rfl rfl hrest hsz hdg hcs kk
theorem cl_X7_244 (X : sx_X C p m c cc nL s args RX7) (hG : sx_G C) (hP : sx_W C M0 H) (hz : sx_sz C ≤ H0.size) (hS : va_S (sx_A C) H0 H locs) {s0 : Nat} {a1 : Int32} {a2 : Int32} {a3 : Int32} {a4 : Int32} (hs_s0 : s0 < 18) {r : Int32} {M' : sx_M} (h : f3_attempt s0 a1 a2 a3 a4 M0 = some (r, M')) (hsz : ls.size = nL) (hdg : decode cc pc = .ok (.invokevirtual 244, 3)) (hcs : cells ≤ R.cells ∧ slots ≤ R.slots) (hR : 4 + 1 ≤ R.frames ∧ 8 + (5 + 11) + 94 ≤ R.locals) (hrest : (rest.map fun v => v.category).sum ≤ 8) (kk : ∀ (H1 : Heap) (locs1 : List Loc), sx_W C M' H1 → va_S (sx_A C) H0 H1 locs1 → W p l e R s m args below meth c H1 locs1 cells slots Q (F0 m (pc + 3) ls ((.int r) :: rest))) : W p l e R s m args below meth c H locs cells slots Q (F0 m pc ls (.int a4 :: .int a3 :: .int a2 :: .int a1 :: .ref (sx_ad C 1 s0) :: rest)) :=
  sx_callV (n := 4) (As := [.int a1, .int a2, .int a3, .int a4]) (k0 := 1) (s0 := s0) X hP hz hS hs_s0 rfl rfl (sx_goodV tw_947 tw_561 tw_562 tw_65 tw_563) (by decide +kernel) rfl rfl hR (ct_3_attempt l C hG s0 a1 a2 a3 a4 hs_s0 M0 r M' h) rfl rfl hrest hsz hdg hcs kk
-- StringShed$Shed.takeSteps(I)V
def f3_takeSteps_L2 (s0 : Nat) (w1 : Int32) (k28 : (sx_M → Option (sx_M))) : Nat → Int32 → sx_M → Option (sx_M)
  | 0, _, _ => none
  | n + 1, x2, M =>
    if w1 ≤ x2 then
      k28 M
    else
      (f5_isGoing s0 M).bind fun v2 =>
      if v2 = 0 then
        k28 M
      else
        sx_b2 (f3_takeStep s0 M) fun v4 M5 =>
        sx_bd (x2 + (1 : Int32)) fun v6 =>
        f3_takeSteps_L2 s0 w1 k28 n v6 M5
def f3_takeSteps (s0 : Nat) (a1 : Int32) (M0 : sx_M) : Option (sx_M) :=
  f3_takeSteps_L2 s0 a1
    (fun (M7 : sx_M) =>
      some M7)
    5000 (0 : Int32) M0
set_option maxRecDepth 100000 in
set_option maxHeartbeats 4000000 in
theorem wk_3_takeSteps (X : sx_X C p m c cX3_takeSteps 3 s args RX3) (hr : meth.sig.returnType = none) (hlocks : meth.locks = false) (hG : sx_G C) (hz : sx_sz C ≤ s.heap.size) (hcs : 0 ≤ R.cells ∧ 0 ≤ R.slots) (hR : 3 ≤ R.frames ∧ 67 ≤ R.locals) (s0 : Nat) (a1 : Int32) (hs_s0 : s0 < 18) (M0 : sx_M) (M' : sx_M) (h : f3_takeSteps s0 a1 M0 = some M') (hl : lv_has ls 3 [(0, .ref (sx_ad C 1 s0)), (1, .int a1)]) (hP : sx_W C M0 H) (hS : va_S (sx_A C) s.heap H locs) : W p l e R s m args below meth c H locs 0 0 (sx_Z C none M' below args s) (F0 m 0 ls []) := by
  obtain ⟨hx, hb, hml, hown, hts, hK⟩ := id X
  rw [f3_takeSteps] at h
  have hf3_takeSteps_L2 : ∀ (s0 : Nat) (w1 : Int32) (hs_s0 : s0 < 18) (k28 : (sx_M → Option (sx_M))) (n : Nat) (hk28 : (∀ (M : sx_M) (H : Heap) (locs : List Loc) (ls : Array Slot), lv_has ls 3 [] → sx_W C M H → va_S (sx_A C) s.heap H locs → k28 M = some M' → W p l e R s m args below meth c H locs 0 0 (sx_Z C none M' below args s) (F0 m 28 ls []))) (x2 : Int32) (M : sx_M) (H : Heap) (locs : List Loc) (ls : Array Slot), lv_has ls 3 [(0, .ref (sx_ad C 1 s0)), (1, .int w1), (2, .int x2)] → sx_W C M H → va_S (sx_A C) s.heap H locs → f3_takeSteps_L2 s0 w1 k28 n x2 M = some M' → W p l e R s m args below meth c H locs 0 0 (sx_Z C none M' below args s) (F0 m 2 ls []) := by
    intro s0 w1 hs_s0 k28 n hk28
    induction n with
    | zero => intro x2 M H locs ls hl hP hS h; exact absurd (show (none : Option (sx_M)) = some M' from h) (fun q => nomatch q)
    | succ n ih =>
      intro x2 M H locs ls hl hP hS h
      rw [f3_takeSteps_L2] at h
      refine lv_iload_n hx hb dX3_takeSteps_2 rfl (lv_at hl 2 rfl) ?_
      refine lv_iload_n hx hb dX3_takeSteps_3 rfl (lv_at hl 1 rfl) ?_
      refine lv_icmp_ge (tgt := 28) hx hb dX3_takeSteps_4 (by decide) (fun c1 => ?_) (fun c1 => ?_)
      · replace h := sx_ifp h c1
        exact hk28 M H locs ls (lv_sub hl [] rfl) hP hS h
      · replace h := sx_ifn h c1
        refine lv_aload_n hx hb dX3_takeSteps_7 rfl (lv_at hl 0 rfl) ?_
        refine gf_X3_21 X hP hs_s0 dX3_takeSteps_8 ?_
        obtain ⟨v2, e_v2, h⟩ := sx_bnd h
        refine cl_X3_97 X hG hP hz hS hs_s0 e_v2 hl.1 dX3_takeSteps_11 hcs ⟨Nat.le_trans (by decide) hR.1, Nat.le_trans (by decide) hR.2⟩ (Nat.le_of_ble_eq_true rfl) (fun H locs hP hS => ?_)
        refine lv_if_eq (tgt := 28) hx hb dX3_takeSteps_14 (by decide) (fun c3 => ?_) (fun c3 => ?_)
        · replace h := sx_ifp h c3
          exact hk28 M H locs ls (lv_sub hl [] rfl) hP hS h
        · replace h := sx_ifn h c3
          refine lv_aload_n hx hb dX3_takeSteps_17 rfl (lv_at hl 0 rfl) ?_
          obtain ⟨v4, M5, e_v4, h⟩ := sx_bnd2 h
          refine cl_X3_173 X hG hP hz hS hs_s0 e_v4 hl.1 dX3_takeSteps_18 hcs ⟨Nat.le_trans (by decide) hR.1, Nat.le_trans (by decide) hR.2⟩ (Nat.le_of_ble_eq_true rfl) (fun H locs hP hS => ?_)
          refine lv_pop hx hb dX3_takeSteps_21 rfl ?_
          obtain ⟨v6, e_v6, h⟩ := sx_nm h
          refine lv_iinc (v := v6) (lv' := [(2, .int v6), (0, .ref (sx_ad C 1 s0)), (1, .int w1)]) hx hb dX3_takeSteps_22 hl (k := 2) rfl (by rw [← e_v6]; rfl) (by decide) rfl (fun ls hl => ?_)
          refine lv_goto (tgt := 2) hx hb dX3_takeSteps_25 (by decide) ?_
          exact ih v6 M5 H locs ls (lv_sub hl [1, 2, 0] rfl) hP hS h
  refine lv_iconst (v := (0 : Int32)) hx hb dX3_takeSteps_0 (by decide) ?_
  refine lv_istore_n (lv' := [(2, .int (0 : Int32)), (0, .ref (sx_ad C 1 s0)), (1, .int a1)]) hx hb dX3_takeSteps_1 rfl hl (by decide) rfl (fun ls hl => ?_)
  refine hf3_takeSteps_L2 s0 a1 hs_s0 _ 5000 ?_ (0 : Int32) M0 H locs ls (lv_sub hl [1, 2, 0] rfl) hP hS h
  · intro M7 H locs ls hl hP hS h
    exact sx_vret X hr hlocks hS hP h dX3_takeSteps_28
set_option maxRecDepth 100000 in
theorem ct_3_takeSteps (l : Launch) (C : sx_C) (hG : sx_G C) (s0 : Nat) (a1 : Int32) (hs_s0 : s0 < 18) (M0 : sx_M) (M' : sx_M) (h : f3_takeSteps s0 a1 M0 = some M') : Met l yX3_takeSteps (.code yX3_takeSteps cX3_takeSteps 3 none :: sx_T) ({ frames := 3, cells := 0, slots := 0, locals := 67 } : Room) (sx_Pc C M0 [.ref (sx_ad C 1 s0), .int a1]) (sx_Q C none M') 0 0 (sx_A C) := by
  refine Met.ofW (cc := cX3_takeSteps) (maxL := 3) (ret := none) (by decide) rfl ?_
  intro p e s m args below meth c s₁ B hml hv
  obtain ⟨rfl, hz, hP, hK⟩ := hv
  have hl := lv_entry ([.ref (sx_ad C 1 s0), .int a1]) (n := 3) (Nat.le_of_ble_eq_true rfl)
  rw [lg_entry_eq]
  generalize (lg_sl ([.ref (sx_ad C 1 s0), .int a1]) ++ List.replicate (3 - (lg_sl ([.ref (sx_ad C 1 s0), .int a1])).length) Slot.unset).toArray = ls at hl ⊢
  exact wk_3_takeSteps ⟨B.exec, B.bytes, hml, findClass_of_methodNamed B.named, fun w hw => atoms_spec B.pre w (List.mem_cons_of_mem _ hw), hK⟩ B.returns B.notSynchronized hG hz ⟨Nat.zero_le _, Nat.zero_le _⟩ ⟨Nat.le_refl _, Nat.le_refl _⟩ s0 a1 hs_s0 M0 M' h hl hP va_S.rf
theorem cl_X2_51 (X : sx_X C p m c cc nL s args RX2) (hG : sx_G C) (hP : sx_W C M0 H) (hz : sx_sz C ≤ H0.size) (hS : va_S (sx_A C) H0 H locs) {s0 : Nat} {a1 : Int32} (hs_s0 : s0 < 18) {M' : sx_M} (h : f3_takeSteps s0 a1 M0 = some M') (hsz : ls.size = nL) (hdg : decode cc pc = .ok (.invokevirtual 51, 3)) (hcs : cells ≤ R.cells ∧ slots ≤ R.slots) (hR : 3 + 1 ≤ R.frames ∧ 8 + (3 + 11) + 67 ≤ R.locals) (hrest : (rest.map fun v => v.category).sum ≤ 8) (kk : ∀ (H1 : Heap) (locs1 : List Loc), sx_W C M' H1 → va_S (sx_A C) H0 H1 locs1 → W p l e R s m args below meth c H1 locs1 cells slots Q (F0 m (pc + 3) ls (rest))) : W p l e R s m args below meth c H locs cells slots Q (F0 m pc ls (.int a1 :: .ref (sx_ad C 1 s0) :: rest)) :=
  sx_callV (n := 1) (As := [.int a1]) (k0 := 1) (s0 := s0) X hP hz hS hs_s0 rfl rfl (sx_goodV tw_928 tw_365 tw_366 tw_65 tw_367) (by decide +kernel) rfl rfl hR (ct_3_takeSteps l C hG s0 a1 hs_s0 M0 M' h) rfl rfl hrest hsz hdg hcs kk
theorem cl_X3_223 (X : sx_X C p m c cc nL s args RX3) (hG : sx_G C) (hP : sx_W C M0 H) (hz : sx_sz C ≤ H0.size) (hS : va_S (sx_A C) H0 H locs) {s0 : Nat} {a1 : Int32} (hs_s0 : s0 < 18) {M' : sx_M} (h : f3_takeSteps s0 a1 M0 = some M') (hsz : ls.size = nL) (hdg : decode cc pc = .ok (.invokevirtual 223, 3)) (hcs : cells ≤ R.cells ∧ slots ≤ R.slots) (hR : 3 + 1 ≤ R.frames ∧ 8 + (3 + 11) + 67 ≤ R.locals) (hrest : (rest.map fun v => v.category).sum ≤ 8) (kk : ∀ (H1 : Heap) (locs1 : List Loc), sx_W C M' H1 → va_S (sx_A C) H0 H1 locs1 → W p l e R s m args below meth c H1 locs1 cells slots Q (F0 m (pc + 3) ls (rest))) : W p l e R s m args below meth c H locs cells slots Q (F0 m pc ls (.int a1 :: .ref (sx_ad C 1 s0) :: rest)) :=
  sx_callV (n := 1) (As := [.int a1]) (k0 := 1) (s0 := s0) X hP hz hS hs_s0 rfl rfl (sx_goodV tw_364 tw_365 tw_366 tw_65 tw_367) (by decide +kernel) rfl rfl hR (ct_3_takeSteps l C hG s0 a1 hs_s0 M0 M' h) rfl rfl hrest hsz hdg hcs kk
-- StringShed$Shed.depthOf(I)I pure
def f3_depthOf (s0 : Nat) (a1 : Int32) (M0 : sx_M) : Option (Int32) :=
  (f3_holders s0 M0).bind fun v1 =>
  (f4_depthOf s0 v1 a1 M0).bind fun v2 =>
  some v2
set_option maxRecDepth 100000 in
set_option maxHeartbeats 4000000 in
theorem wk_3_depthOf (X : sx_X C p m c cX3_depthOf 2 s args RX3) (hr : meth.sig.returnType = (some .int)) (hlocks : meth.locks = false) (hG : sx_G C) (hz : sx_sz C ≤ s.heap.size) (hcs : 0 ≤ R.cells ∧ 0 ≤ R.slots) (hR : 2 ≤ R.frames ∧ 47 ≤ R.locals) (s0 : Nat) (a1 : Int32) (hs_s0 : s0 < 18) (M0 : sx_M) (r : Int32) (h : f3_depthOf s0 a1 M0 = some r) (hl : lv_has ls 2 [(0, .ref (sx_ad C 1 s0)), (1, .int a1)]) (hP : sx_W C M0 H) (hS : va_S (sx_A C) s.heap H locs) : W p l e R s m args below meth c H locs 0 0 (sx_Z C (some (.int r)) M0 below args s) (F0 m 0 ls []) := by
  obtain ⟨hx, hb, hml, hown, hts, hK⟩ := id X
  rw [f3_depthOf] at h
  refine lv_aload_n hx hb dX3_depthOf_0 rfl (lv_at hl 0 rfl) ?_
  refine gf_X3_12 X hP hs_s0 dX3_depthOf_1 ?_
  refine lv_aload_n hx hb dX3_depthOf_4 rfl (lv_at hl 0 rfl) ?_
  obtain ⟨v1, e_v1, h⟩ := sx_bnd h
  refine cl_X3_67 X hG hP hz hS hs_s0 e_v1 hl.1 dX3_depthOf_5 hcs ⟨Nat.le_trans (by decide) hR.1, Nat.le_trans (by decide) hR.2⟩ (Nat.le_of_ble_eq_true rfl) (fun H locs hP hS => ?_)
  refine lv_iload_n hx hb dX3_depthOf_8 rfl (lv_at hl 1 rfl) ?_
  obtain ⟨v2, e_v2, h⟩ := sx_bnd h
  refine cl_X3_75 X hG hP hz hS hs_s0 e_v2 hl.1 dX3_depthOf_9 hcs ⟨Nat.le_trans (by decide) hR.1, Nat.le_trans (by decide) hR.2⟩ (Nat.le_of_ble_eq_true rfl) (fun H locs hP hS => ?_)
  exact sx_iret X hr hlocks hS hP h dX3_depthOf_12
set_option maxRecDepth 100000 in
theorem ct_3_depthOf (l : Launch) (C : sx_C) (hG : sx_G C) (s0 : Nat) (a1 : Int32) (hs_s0 : s0 < 18) (M0 : sx_M) (r : Int32) (h : f3_depthOf s0 a1 M0 = some r) : Met l yX3_depthOf (.code yX3_depthOf cX3_depthOf 2 (some .int) :: sx_T) ({ frames := 2, cells := 0, slots := 0, locals := 47 } : Room) (sx_Pc C M0 [.ref (sx_ad C 1 s0), .int a1]) (sx_Q C (some (.int r)) M0) 0 0 (sx_A C) := by
  refine Met.ofW (cc := cX3_depthOf) (maxL := 2) (ret := (some .int)) (by decide) rfl ?_
  intro p e s m args below meth c s₁ B hml hv
  obtain ⟨rfl, hz, hP, hK⟩ := hv
  have hl := lv_entry ([.ref (sx_ad C 1 s0), .int a1]) (n := 2) (Nat.le_of_ble_eq_true rfl)
  rw [lg_entry_eq]
  generalize (lg_sl ([.ref (sx_ad C 1 s0), .int a1]) ++ List.replicate (2 - (lg_sl ([.ref (sx_ad C 1 s0), .int a1])).length) Slot.unset).toArray = ls at hl ⊢
  exact wk_3_depthOf ⟨B.exec, B.bytes, hml, findClass_of_methodNamed B.named, fun w hw => atoms_spec B.pre w (List.mem_cons_of_mem _ hw), hK⟩ B.returns B.notSynchronized hG hz ⟨Nat.zero_le _, Nat.zero_le _⟩ ⟨Nat.le_refl _, Nat.le_refl _⟩ s0 a1 hs_s0 M0 r h hl hP va_S.rf
theorem cl_X2_31 (X : sx_X C p m c cc nL s args RX2) (hG : sx_G C) (hP : sx_W C M0 H) (hz : sx_sz C ≤ H0.size) (hS : va_S (sx_A C) H0 H locs) {s0 : Nat} {a1 : Int32} (hs_s0 : s0 < 18) {r : Int32} (h : f3_depthOf s0 a1 M0 = some r) (hsz : ls.size = nL) (hdg : decode cc pc = .ok (.invokevirtual 31, 3)) (hcs : cells ≤ R.cells ∧ slots ≤ R.slots) (hR : 2 + 1 ≤ R.frames ∧ 8 + (2 + 11) + 47 ≤ R.locals) (hrest : (rest.map fun v => v.category).sum ≤ 8) (kk : ∀ (H1 : Heap) (locs1 : List Loc), sx_W C M0 H1 → va_S (sx_A C) H0 H1 locs1 → W p l e R s m args below meth c H1 locs1 cells slots Q (F0 m (pc + 3) ls ((.int r) :: rest))) : W p l e R s m args below meth c H locs cells slots Q (F0 m pc ls (.int a1 :: .ref (sx_ad C 1 s0) :: rest)) :=
  sx_callV (n := 1) (As := [.int a1]) (k0 := 1) (s0 := s0) X hP hz hS hs_s0 rfl rfl (sx_goodV tw_930 tw_714 tw_715 tw_65 tw_716) (by decide +kernel) rfl rfl hR (ct_3_depthOf l C hG s0 a1 hs_s0 M0 r h) rfl rfl hrest hsz hdg hcs kk
theorem cl_X3_107 (X : sx_X C p m c cc nL s args RX3) (hG : sx_G C) (hP : sx_W C M0 H) (hz : sx_sz C ≤ H0.size) (hS : va_S (sx_A C) H0 H locs) {s0 : Nat} {a1 : Int32} (hs_s0 : s0 < 18) {r : Int32} (h : f3_depthOf s0 a1 M0 = some r) (hsz : ls.size = nL) (hdg : decode cc pc = .ok (.invokevirtual 107, 3)) (hcs : cells ≤ R.cells ∧ slots ≤ R.slots) (hR : 2 + 1 ≤ R.frames ∧ 8 + (2 + 11) + 47 ≤ R.locals) (hrest : (rest.map fun v => v.category).sum ≤ 8) (kk : ∀ (H1 : Heap) (locs1 : List Loc), sx_W C M0 H1 → va_S (sx_A C) H0 H1 locs1 → W p l e R s m args below meth c H1 locs1 cells slots Q (F0 m (pc + 3) ls ((.int r) :: rest))) : W p l e R s m args below meth c H locs cells slots Q (F0 m pc ls (.int a1 :: .ref (sx_ad C 1 s0) :: rest)) :=
  sx_callV (n := 1) (As := [.int a1]) (k0 := 1) (s0 := s0) X hP hz hS hs_s0 rfl rfl (sx_goodV tw_713 tw_714 tw_715 tw_65 tw_716) (by decide +kernel) rfl rfl hR (ct_3_depthOf l C hG s0 a1 hs_s0 M0 r h) rfl rfl hrest hsz hdg hcs kk
-- StringShed$Shed.weightOf(I)I pure
def f3_weightOf_L4 (s0 : Nat) (w1 : Int32) (M0 : sx_M) (k46 : (Int32 → Option (Int32))) : Nat → Int32 → Int32 → Option (Int32)
  | 0, _, _ => none
  | n + 1, x2, x3 =>
    sx_bd (M0.1 1 s0 3) fun v1 =>
    if v1 ≤ x3 then
      k46 x2
    else
      if (24 : Int32) ≤ x3 then
        k46 x2
      else
        (f7_bitOf x3 M0).bind fun v4 =>
        sx_bd (fun (v5 : Int32) =>
          sx_bd (x2 + v5) fun v6 =>
          sx_bd (x3 + (1 : Int32)) fun v7 =>
          f3_weightOf_L4 s0 w1 M0 k46 n v6 v7) fun j38 =>
        if (w1 &&& v4) = 0 then
          j38 (0 : Int32)
        else
          if sx_in x3 24 then
          sx_bd (M0.1 8 s0 (x3).toNatClampNeg) fun v9 =>
          j38 v9
          else none
def f3_weightOf (s0 : Nat) (a1 : Int32) (M0 : sx_M) : Option (Int32) :=
  f3_weightOf_L4 s0 a1 M0
    (fun (v10 : Int32) =>
      some v10)
    5000 (0 : Int32) (0 : Int32)
set_option maxRecDepth 100000 in
set_option maxHeartbeats 4000000 in
theorem wk_3_weightOf (X : sx_X C p m c cX3_weightOf 4 s args RX3) (hr : meth.sig.returnType = (some .int)) (hlocks : meth.locks = false) (hG : sx_G C) (hz : sx_sz C ≤ s.heap.size) (hcs : 0 ≤ R.cells ∧ 0 ≤ R.slots) (hR : 1 ≤ R.frames ∧ 20 ≤ R.locals) (s0 : Nat) (a1 : Int32) (hs_s0 : s0 < 18) (M0 : sx_M) (r : Int32) (h : f3_weightOf s0 a1 M0 = some r) (hl : lv_has ls 4 [(0, .ref (sx_ad C 1 s0)), (1, .int a1)]) (hP : sx_W C M0 H) (hS : va_S (sx_A C) s.heap H locs) : W p l e R s m args below meth c H locs 0 0 (sx_Z C (some (.int r)) M0 below args s) (F0 m 0 ls []) := by
  obtain ⟨hx, hb, hml, hown, hts, hK⟩ := id X
  rw [f3_weightOf] at h
  have hf3_weightOf_L4 : ∀ (s0 : Nat) (w1 : Int32) (hs_s0 : s0 < 18) (k46 : (Int32 → Option (Int32))) (n : Nat) (hk46 : (∀ (y2 : Int32) (H : Heap) (locs : List Loc) (ls : Array Slot), lv_has ls 4 [(2, .int y2)] → sx_W C M0 H → va_S (sx_A C) s.heap H locs → k46 y2 = some r → W p l e R s m args below meth c H locs 0 0 (sx_Z C (some (.int r)) M0 below args s) (F0 m 46 ls []))) (x2 : Int32) (x3 : Int32) (H : Heap) (locs : List Loc) (ls : Array Slot), lv_has ls 4 [(0, .ref (sx_ad C 1 s0)), (1, .int w1), (2, .int x2), (3, .int x3)] → sx_W C M0 H → va_S (sx_A C) s.heap H locs → f3_weightOf_L4 s0 w1 M0 k46 n x2 x3 = some r → W p l e R s m args below meth c H locs 0 0 (sx_Z C (some (.int r)) M0 below args s) (F0 m 4 ls []) := by
    intro s0 w1 hs_s0 k46 n hk46
    induction n with
    | zero => intro x2 x3 H locs ls hl hP hS h; exact absurd (show (none : Option (Int32)) = some r from h) (fun q => nomatch q)
    | succ n ih =>
      intro x2 x3 H locs ls hl hP hS h
      rw [f3_weightOf_L4] at h
      refine lv_iload_n hx hb dX3_weightOf_4 rfl (lv_at hl 3 rfl) ?_
      refine lv_aload_n hx hb dX3_weightOf_5 rfl (lv_at hl 0 rfl) ?_
      refine gf_X3_29 X hP hs_s0 dX3_weightOf_6 h (fun v1 h => ?_)
      refine lv_icmp_ge (tgt := 46) hx hb dX3_weightOf_9 (by decide) (fun c2 => ?_) (fun c2 => ?_)
      · replace h := sx_ifp h c2
        exact hk46 x2 H locs ls (lv_sub hl [2] rfl) hP hS h
      · replace h := sx_ifn h c2
        refine lv_iload_n hx hb dX3_weightOf_12 rfl (lv_at hl 3 rfl) ?_
        refine lv_bipush (v := (24 : Int32)) hx hb dX3_weightOf_13 (by decide) ?_
        refine lv_icmp_ge (tgt := 46) hx hb dX3_weightOf_15 (by decide) (fun c3 => ?_) (fun c3 => ?_)
        · replace h := sx_ifp h c3
          exact hk46 x2 H locs ls (lv_sub hl [2] rfl) hP hS h
        · replace h := sx_ifn h c3
          refine lv_iload_n hx hb dX3_weightOf_18 rfl (lv_at hl 2 rfl) ?_
          refine lv_iload_n hx hb dX3_weightOf_19 rfl (lv_at hl 1 rfl) ?_
          refine lv_iload_n hx hb dX3_weightOf_20 rfl (lv_at hl 3 rfl) ?_
          obtain ⟨v4, e_v4, h⟩ := sx_bnd h
          refine cl_X3_64 X hG hP hz hS  e_v4 hl.1 dX3_weightOf_21 hcs ⟨Nat.le_trans (by decide) hR.1, Nat.le_trans (by decide) hR.2⟩ (Nat.le_of_ble_eq_true rfl) (fun H locs hP hS => ?_)
          refine lv_iand hx hb dX3_weightOf_24 ?_
          obtain ⟨j38, e_j38, h⟩ := sx_nm h
          have hj38 : ∀ (v5 : Int32) (H : Heap) (locs : List Loc) (ls : Array Slot), lv_has ls 4 [(0, .ref (sx_ad C 1 s0)), (1, .int w1), (3, .int x3)] → sx_W C M0 H → va_S (sx_A C) s.heap H locs → j38 v5 = some r → W p l e R s m args below meth c H locs 0 0 (sx_Z C (some (.int r)) M0 below args s) (F0 m 38 ls [.int v5, .int x2]) := by
            intro v5 H locs ls hl hP hS h
            subst e_j38
            refine lv_iadd hx hb dX3_weightOf_38 ?_
            obtain ⟨v6, e_v6, h⟩ := sx_nm h
            rw [e_v6]
            refine lv_istore_n (lv' := [(2, .int v6), (0, .ref (sx_ad C 1 s0)), (1, .int w1), (3, .int x3)]) hx hb dX3_weightOf_39 rfl hl (by decide) rfl (fun ls hl => ?_)
            obtain ⟨v7, e_v7, h⟩ := sx_nm h
            refine lv_iinc (v := v7) (lv' := [(3, .int v7), (2, .int v6), (0, .ref (sx_ad C 1 s0)), (1, .int w1)]) hx hb dX3_weightOf_40 hl (k := 3) rfl (by rw [← e_v7]; rfl) (by decide) rfl (fun ls hl => ?_)
            refine lv_goto (tgt := 4) hx hb dX3_weightOf_43 (by decide) ?_
            exact ih v6 v7 H locs ls (lv_sub hl [2, 3, 1, 0] rfl) hP hS h
          clear e_j38
          refine lv_if_eq (tgt := 37) hx hb dX3_weightOf_25 (by decide) (fun c8 => ?_) (fun c8 => ?_)
          · replace h := sx_ifp h c8
            refine lv_iconst (v := (0 : Int32)) hx hb dX3_weightOf_37 (by decide) ?_
            exact hj38 (0 : Int32) H locs ls (lv_sub hl [0, 1, 3] rfl) hP hS h
          · replace h := sx_ifn h c8
            refine lv_aload_n hx hb dX3_weightOf_28 rfl (lv_at hl 0 rfl) ?_
            refine gf_X3_25 X hP hs_s0 dX3_weightOf_29 ?_
            refine lv_iload_n hx hb dX3_weightOf_32 rfl (lv_at hl 3 rfl) ?_
            refine sx_iald X hP 8 s0 24 hs_s0 (fun _ _ => rfl) dX3_weightOf_33 h (fun v9 h => ?_)
            refine lv_goto (tgt := 38) hx hb dX3_weightOf_34 (by decide) ?_
            exact hj38 v9 H locs ls (lv_sub hl [0, 1, 3] rfl) hP hS h
  refine lv_iconst (v := (0 : Int32)) hx hb dX3_weightOf_0 (by decide) ?_
  refine lv_istore_n (lv' := [(2, .int (0 : Int32)), (0, .ref (sx_ad C 1 s0)), (1, .int a1)]) hx hb dX3_weightOf_1 rfl hl (by decide) rfl (fun ls hl => ?_)
  refine lv_iconst (v := (0 : Int32)) hx hb dX3_weightOf_2 (by decide) ?_
  refine lv_istore_n (lv' := [(3, .int (0 : Int32)), (2, .int (0 : Int32)), (0, .ref (sx_ad C 1 s0)), (1, .int a1)]) hx hb dX3_weightOf_3 rfl hl (by decide) rfl (fun ls hl => ?_)
  refine hf3_weightOf_L4 s0 a1 hs_s0 _ 5000 ?_ (0 : Int32) (0 : Int32) H locs ls (lv_sub hl [2, 3, 1, 0] rfl) hP hS h
  · intro v10 H locs ls hl hP hS h
    refine lv_iload_n hx hb dX3_weightOf_46 rfl (lv_at hl 0 rfl) ?_
    exact sx_iret X hr hlocks hS hP h dX3_weightOf_47
set_option maxRecDepth 100000 in
theorem ct_3_weightOf (l : Launch) (C : sx_C) (hG : sx_G C) (s0 : Nat) (a1 : Int32) (hs_s0 : s0 < 18) (M0 : sx_M) (r : Int32) (h : f3_weightOf s0 a1 M0 = some r) : Met l yX3_weightOf (.code yX3_weightOf cX3_weightOf 4 (some .int) :: sx_T) ({ frames := 1, cells := 0, slots := 0, locals := 20 } : Room) (sx_Pc C M0 [.ref (sx_ad C 1 s0), .int a1]) (sx_Q C (some (.int r)) M0) 0 0 (sx_A C) := by
  refine Met.ofW (cc := cX3_weightOf) (maxL := 4) (ret := (some .int)) (by decide) rfl ?_
  intro p e s m args below meth c s₁ B hml hv
  obtain ⟨rfl, hz, hP, hK⟩ := hv
  have hl := lv_entry ([.ref (sx_ad C 1 s0), .int a1]) (n := 4) (Nat.le_of_ble_eq_true rfl)
  rw [lg_entry_eq]
  generalize (lg_sl ([.ref (sx_ad C 1 s0), .int a1]) ++ List.replicate (4 - (lg_sl ([.ref (sx_ad C 1 s0), .int a1])).length) Slot.unset).toArray = ls at hl ⊢
  exact wk_3_weightOf ⟨B.exec, B.bytes, hml, findClass_of_methodNamed B.named, fun w hw => atoms_spec B.pre w (List.mem_cons_of_mem _ hw), hK⟩ B.returns B.notSynchronized hG hz ⟨Nat.zero_le _, Nat.zero_le _⟩ ⟨Nat.le_refl _, Nat.le_refl _⟩ s0 a1 hs_s0 M0 r h hl hP va_S.rf
theorem cl_X2_38 (X : sx_X C p m c cc nL s args RX2) (hG : sx_G C) (hP : sx_W C M0 H) (hz : sx_sz C ≤ H0.size) (hS : va_S (sx_A C) H0 H locs) {s0 : Nat} {a1 : Int32} (hs_s0 : s0 < 18) {r : Int32} (h : f3_weightOf s0 a1 M0 = some r) (hsz : ls.size = nL) (hdg : decode cc pc = .ok (.invokevirtual 38, 3)) (hcs : cells ≤ R.cells ∧ slots ≤ R.slots) (hR : 1 + 1 ≤ R.frames ∧ 8 + (4 + 11) + 20 ≤ R.locals) (hrest : (rest.map fun v => v.category).sum ≤ 8) (kk : ∀ (H1 : Heap) (locs1 : List Loc), sx_W C M0 H1 → va_S (sx_A C) H0 H1 locs1 → W p l e R s m args below meth c H1 locs1 cells slots Q (F0 m (pc + 3) ls ((.int r) :: rest))) : W p l e R s m args below meth c H locs cells slots Q (F0 m pc ls (.int a1 :: .ref (sx_ad C 1 s0) :: rest)) :=
  sx_callV (n := 1) (As := [.int a1]) (k0 := 1) (s0 := s0) X hP hz hS hs_s0 rfl rfl (sx_goodV tw_932 tw_286 tw_287 tw_65 tw_288) (by decide +kernel) rfl rfl hR (ct_3_weightOf l C hG s0 a1 hs_s0 M0 r h) rfl rfl hrest hsz hdg hcs kk
theorem cl_X3_81 (X : sx_X C p m c cc nL s args RX3) (hG : sx_G C) (hP : sx_W C M0 H) (hz : sx_sz C ≤ H0.size) (hS : va_S (sx_A C) H0 H locs) {s0 : Nat} {a1 : Int32} (hs_s0 : s0 < 18) {r : Int32} (h : f3_weightOf s0 a1 M0 = some r) (hsz : ls.size = nL) (hdg : decode cc pc = .ok (.invokevirtual 81, 3)) (hcs : cells ≤ R.cells ∧ slots ≤ R.slots) (hR : 1 + 1 ≤ R.frames ∧ 8 + (4 + 11) + 20 ≤ R.locals) (hrest : (rest.map fun v => v.category).sum ≤ 8) (kk : ∀ (H1 : Heap) (locs1 : List Loc), sx_W C M0 H1 → va_S (sx_A C) H0 H1 locs1 → W p l e R s m args below meth c H1 locs1 cells slots Q (F0 m (pc + 3) ls ((.int r) :: rest))) : W p l e R s m args below meth c H locs cells slots Q (F0 m pc ls (.int a1 :: .ref (sx_ad C 1 s0) :: rest)) :=
  sx_callV (n := 1) (As := [.int a1]) (k0 := 1) (s0 := s0) X hP hz hS hs_s0 rfl rfl (sx_goodV tw_285 tw_286 tw_287 tw_65 tw_288) (by decide +kernel) rfl rfl hR (ct_3_weightOf l C hG s0 a1 hs_s0 M0 r h) rfl rfl hrest hsz hdg hcs kk
theorem cl_X7_241 (X : sx_X C p m c cc nL s args RX7) (hG : sx_G C) (hP : sx_W C M0 H) (hz : sx_sz C ≤ H0.size) (hS : va_S (sx_A C) H0 H locs) {s0 : Nat} {a1 : Int32} (hs_s0 : s0 < 18) {r : Int32} (h : f3_weightOf s0 a1 M0 = some r) (hsz : ls.size = nL) (hdg : decode cc pc = .ok (.invokevirtual 241, 3)) (hcs : cells ≤ R.cells ∧ slots ≤ R.slots) (hR : 1 + 1 ≤ R.frames ∧ 8 + (4 + 11) + 20 ≤ R.locals) (hrest : (rest.map fun v => v.category).sum ≤ 8) (kk : ∀ (H1 : Heap) (locs1 : List Loc), sx_W C M0 H1 → va_S (sx_A C) H0 H1 locs1 → W p l e R s m args below meth c H1 locs1 cells slots Q (F0 m (pc + 3) ls ((.int r) :: rest))) : W p l e R s m args below meth c H locs cells slots Q (F0 m pc ls (.int a1 :: .ref (sx_ad C 1 s0) :: rest)) :=
  sx_callV (n := 1) (As := [.int a1]) (k0 := 1) (s0 := s0) X hP hz hS hs_s0 rfl rfl (sx_goodV tw_948 tw_286 tw_287 tw_65 tw_288) (by decide +kernel) rfl rfl hR (ct_3_weightOf l C hG s0 a1 hs_s0 M0 r h) rfl rfl hrest hsz hdg hcs kk
-- StringShed$Shed.clear()V
def f3_clear (s0 : Nat) (M0 : sx_M) : Option (sx_M) :=
  (f4_clear s0 M0).bind fun M1 =>
  (f5_stop s0 M1).bind fun M2 =>
  sx_bd (sx_set M2 1 s0 3 (0 : Int32)) fun M3 =>
  sx_bd (sx_set M3 1 s0 4 (0 : Int32)) fun M4 =>
  sx_bd (sx_set M4 1 s0 5 (0 : Int32)) fun M5 =>
  sx_bd (sx_set M5 1 s0 6 (0 : Int32)) fun M6 =>
  sx_bd (sx_set M6 1 s0 7 (0 : Int32)) fun M7 =>
  some M7
set_option maxRecDepth 100000 in
set_option maxHeartbeats 4000000 in
theorem wk_3_clear (X : sx_X C p m c cX3_clear 1 s args RX3) (hr : meth.sig.returnType = none) (hlocks : meth.locks = false) (hG : sx_G C) (hz : sx_sz C ≤ s.heap.size) (hcs : 0 ≤ R.cells ∧ 0 ≤ R.slots) (hR : 1 ≤ R.frames ∧ 20 ≤ R.locals) (s0 : Nat) (hs_s0 : s0 < 18) (M0 : sx_M) (M' : sx_M) (h : f3_clear s0 M0 = some M') (hl : lv_has ls 1 [(0, .ref (sx_ad C 1 s0))]) (hP : sx_W C M0 H) (hS : va_S (sx_A C) s.heap H locs) : W p l e R s m args below meth c H locs 0 0 (sx_Z C none M' below args s) (F0 m 0 ls []) := by
  obtain ⟨hx, hb, hml, hown, hts, hK⟩ := id X
  rw [f3_clear] at h
  refine lv_aload_n hx hb dX3_clear_0 rfl (lv_at hl 0 rfl) ?_
  refine gf_X3_12 X hP hs_s0 dX3_clear_1 ?_
  obtain ⟨M1, e_M1, h⟩ := sx_bnd h
  refine cl_X3_52 X hG hP hz hS hs_s0 e_M1 hl.1 dX3_clear_4 hcs ⟨Nat.le_trans (by decide) hR.1, Nat.le_trans (by decide) hR.2⟩ (Nat.le_of_ble_eq_true rfl) (fun H locs hP hS => ?_)
  refine lv_aload_n hx hb dX3_clear_7 rfl (lv_at hl 0 rfl) ?_
  refine gf_X3_21 X hP hs_s0 dX3_clear_8 ?_
  obtain ⟨M2, e_M2, h⟩ := sx_bnd h
  refine cl_X3_55 X hG hP hz hS hs_s0 e_M2 hl.1 dX3_clear_11 hcs ⟨Nat.le_trans (by decide) hR.1, Nat.le_trans (by decide) hR.2⟩ (Nat.le_of_ble_eq_true rfl) (fun H locs hP hS => ?_)
  refine lv_aload_n hx hb dX3_clear_14 rfl (lv_at hl 0 rfl) ?_
  refine lv_iconst (v := (0 : Int32)) hx hb dX3_clear_15 (by decide) ?_
  refine pf_X3_29 X hG hP hS hs_s0 dX3_clear_16 h (fun M3 H locs h hP hS => ?_)
  refine lv_aload_n hx hb dX3_clear_19 rfl (lv_at hl 0 rfl) ?_
  refine lv_iconst (v := (0 : Int32)) hx hb dX3_clear_20 (by decide) ?_
  refine pf_X3_33 X hG hP hS hs_s0 dX3_clear_21 h (fun M4 H locs h hP hS => ?_)
  refine lv_aload_n hx hb dX3_clear_24 rfl (lv_at hl 0 rfl) ?_
  refine lv_iconst (v := (0 : Int32)) hx hb dX3_clear_25 (by decide) ?_
  refine pf_X3_36 X hG hP hS hs_s0 dX3_clear_26 h (fun M5 H locs h hP hS => ?_)
  refine lv_aload_n hx hb dX3_clear_29 rfl (lv_at hl 0 rfl) ?_
  refine lv_iconst (v := (0 : Int32)) hx hb dX3_clear_30 (by decide) ?_
  refine pf_X3_39 X hG hP hS hs_s0 dX3_clear_31 h (fun M6 H locs h hP hS => ?_)
  refine lv_aload_n hx hb dX3_clear_34 rfl (lv_at hl 0 rfl) ?_
  refine lv_iconst (v := (0 : Int32)) hx hb dX3_clear_35 (by decide) ?_
  refine pf_X3_42 X hG hP hS hs_s0 dX3_clear_36 h (fun M7 H locs h hP hS => ?_)
  exact sx_vret X hr hlocks hS hP h dX3_clear_39
set_option maxRecDepth 100000 in
theorem ct_3_clear (l : Launch) (C : sx_C) (hG : sx_G C) (s0 : Nat) (hs_s0 : s0 < 18) (M0 : sx_M) (M' : sx_M) (h : f3_clear s0 M0 = some M') : Met l yX3_clear (.code yX3_clear cX3_clear 1 none :: sx_T) ({ frames := 1, cells := 0, slots := 0, locals := 20 } : Room) (sx_Pc C M0 [.ref (sx_ad C 1 s0)]) (sx_Q C none M') 0 0 (sx_A C) := by
  refine Met.ofW (cc := cX3_clear) (maxL := 1) (ret := none) (by decide) rfl ?_
  intro p e s m args below meth c s₁ B hml hv
  obtain ⟨rfl, hz, hP, hK⟩ := hv
  have hl := lv_entry ([.ref (sx_ad C 1 s0)]) (n := 1) (Nat.le_of_ble_eq_true rfl)
  rw [lg_entry_eq]
  generalize (lg_sl ([.ref (sx_ad C 1 s0)]) ++ List.replicate (1 - (lg_sl ([.ref (sx_ad C 1 s0)])).length) Slot.unset).toArray = ls at hl ⊢
  exact wk_3_clear ⟨B.exec, B.bytes, hml, findClass_of_methodNamed B.named, fun w hw => atoms_spec B.pre w (List.mem_cons_of_mem _ hw), hK⟩ B.returns B.notSynchronized hG hz ⟨Nat.zero_le _, Nat.zero_le _⟩ ⟨Nat.le_refl _, Nat.le_refl _⟩ s0 hs_s0 M0 M' h hl hP va_S.rf
theorem cl_X7_77 (X : sx_X C p m c cc nL s args RX7) (hG : sx_G C) (hP : sx_W C M0 H) (hz : sx_sz C ≤ H0.size) (hS : va_S (sx_A C) H0 H locs) {s0 : Nat} (hs_s0 : s0 < 18) {M' : sx_M} (h : f3_clear s0 M0 = some M') (hsz : ls.size = nL) (hdg : decode cc pc = .ok (.invokevirtual 77, 3)) (hcs : cells ≤ R.cells ∧ slots ≤ R.slots) (hR : 1 + 1 ≤ R.frames ∧ 8 + (1 + 11) + 20 ≤ R.locals) (hrest : (rest.map fun v => v.category).sum ≤ 8) (kk : ∀ (H1 : Heap) (locs1 : List Loc), sx_W C M' H1 → va_S (sx_A C) H0 H1 locs1 → W p l e R s m args below meth c H1 locs1 cells slots Q (F0 m (pc + 3) ls (rest))) : W p l e R s m args below meth c H locs cells slots Q (F0 m pc ls (.ref (sx_ad C 1 s0) :: rest)) :=
  sx_callV (n := 0) (As := []) (k0 := 1) (s0 := s0) X hP hz hS hs_s0 rfl rfl (sx_goodV tw_532 tw_533 tw_534 tw_65 tw_535) (by decide +kernel) rfl rfl hR (ct_3_clear l C hG s0 hs_s0 M0 M' h) rfl rfl hrest hsz hdg hcs kk
-- StringShed$Shed.parts()I pure
def f3_parts (s0 : Nat) (M0 : sx_M) : Option (Int32) :=
  sx_bd (M0.1 1 s0 4) fun v1 =>
  some v1
set_option maxRecDepth 100000 in
set_option maxHeartbeats 4000000 in
theorem wk_3_parts (X : sx_X C p m c cX3_parts 1 s args RX3) (hr : meth.sig.returnType = (some .int)) (hlocks : meth.locks = false) (hG : sx_G C) (hz : sx_sz C ≤ s.heap.size) (hcs : 0 ≤ R.cells ∧ 0 ≤ R.slots) (hR : 0 ≤ R.frames ∧ 0 ≤ R.locals) (s0 : Nat) (hs_s0 : s0 < 18) (M0 : sx_M) (r : Int32) (h : f3_parts s0 M0 = some r) (hl : lv_has ls 1 [(0, .ref (sx_ad C 1 s0))]) (hP : sx_W C M0 H) (hS : va_S (sx_A C) s.heap H locs) : W p l e R s m args below meth c H locs 0 0 (sx_Z C (some (.int r)) M0 below args s) (F0 m 0 ls []) := by
  obtain ⟨hx, hb, hml, hown, hts, hK⟩ := id X
  rw [f3_parts] at h
  refine lv_aload_n hx hb dX3_parts_0 rfl (lv_at hl 0 rfl) ?_
  refine gf_X3_33 X hP hs_s0 dX3_parts_1 h (fun v1 h => ?_)
  exact sx_iret X hr hlocks hS hP h dX3_parts_4
set_option maxRecDepth 100000 in
theorem ct_3_parts (l : Launch) (C : sx_C) (hG : sx_G C) (s0 : Nat) (hs_s0 : s0 < 18) (M0 : sx_M) (r : Int32) (h : f3_parts s0 M0 = some r) : Met l yX3_parts (.code yX3_parts cX3_parts 1 (some .int) :: sx_T) ({ frames := 0, cells := 0, slots := 0, locals := 0 } : Room) (sx_Pc C M0 [.ref (sx_ad C 1 s0)]) (sx_Q C (some (.int r)) M0) 0 0 (sx_A C) := by
  refine Met.ofW (cc := cX3_parts) (maxL := 1) (ret := (some .int)) (by decide) rfl ?_
  intro p e s m args below meth c s₁ B hml hv
  obtain ⟨rfl, hz, hP, hK⟩ := hv
  have hl := lv_entry ([.ref (sx_ad C 1 s0)]) (n := 1) (Nat.le_of_ble_eq_true rfl)
  rw [lg_entry_eq]
  generalize (lg_sl ([.ref (sx_ad C 1 s0)]) ++ List.replicate (1 - (lg_sl ([.ref (sx_ad C 1 s0)])).length) Slot.unset).toArray = ls at hl ⊢
  exact wk_3_parts ⟨B.exec, B.bytes, hml, findClass_of_methodNamed B.named, fun w hw => atoms_spec B.pre w (List.mem_cons_of_mem _ hw), hK⟩ B.returns B.notSynchronized hG hz ⟨Nat.zero_le _, Nat.zero_le _⟩ ⟨Nat.le_refl _, Nat.le_refl _⟩ s0 hs_s0 M0 r h hl hP va_S.rf
theorem cl_X7_200 (X : sx_X C p m c cc nL s args RX7) (hG : sx_G C) (hP : sx_W C M0 H) (hz : sx_sz C ≤ H0.size) (hS : va_S (sx_A C) H0 H locs) {s0 : Nat} (hs_s0 : s0 < 18) {r : Int32} (h : f3_parts s0 M0 = some r) (hsz : ls.size = nL) (hdg : decode cc pc = .ok (.invokevirtual 200, 3)) (hcs : cells ≤ R.cells ∧ slots ≤ R.slots) (hR : 0 + 1 ≤ R.frames ∧ 8 + (1 + 11) + 0 ≤ R.locals) (hrest : (rest.map fun v => v.category).sum ≤ 8) (kk : ∀ (H1 : Heap) (locs1 : List Loc), sx_W C M0 H1 → va_S (sx_A C) H0 H1 locs1 → W p l e R s m args below meth c H1 locs1 cells slots Q (F0 m (pc + 3) ls ((.int r) :: rest))) : W p l e R s m args below meth c H locs cells slots Q (F0 m pc ls (.ref (sx_ad C 1 s0) :: rest)) :=
  sx_callV (n := 0) (As := []) (k0 := 1) (s0 := s0) X hP hz hS hs_s0 rfl rfl (sx_goodV tw_417 tw_418 tw_419 tw_65 tw_420) (by decide +kernel) rfl rfl hR (ct_3_parts l C hG s0 hs_s0 M0 r h) rfl rfl hrest hsz hdg hcs kk
-- StringShed$Shed.swept()I pure
def f3_swept (s0 : Nat) (M0 : sx_M) : Option (Int32) :=
  sx_bd (M0.1 1 s0 3) fun v1 =>
  sx_bd (M0.1 1 s0 4) fun v2 =>
  (fJ6_bitCount_0f7a4 v2 M0).bind fun v3 =>
  some (v1 - v3)
set_option maxRecDepth 100000 in
set_option maxHeartbeats 4000000 in
theorem wk_3_swept (X : sx_X C p m c cX3_swept 1 s args RX3) (hr : meth.sig.returnType = (some .int)) (hlocks : meth.locks = false) (hG : sx_G C) (hz : sx_sz C ≤ s.heap.size) (hcs : 0 ≤ R.cells ∧ 0 ≤ R.slots) (hR : 1 ≤ R.frames ∧ 20 ≤ R.locals) (s0 : Nat) (hs_s0 : s0 < 18) (M0 : sx_M) (r : Int32) (h : f3_swept s0 M0 = some r) (hl : lv_has ls 1 [(0, .ref (sx_ad C 1 s0))]) (hP : sx_W C M0 H) (hS : va_S (sx_A C) s.heap H locs) : W p l e R s m args below meth c H locs 0 0 (sx_Z C (some (.int r)) M0 below args s) (F0 m 0 ls []) := by
  obtain ⟨hx, hb, hml, hown, hts, hK⟩ := id X
  rw [f3_swept] at h
  refine lv_aload_n hx hb dX3_swept_0 rfl (lv_at hl 0 rfl) ?_
  refine gf_X3_29 X hP hs_s0 dX3_swept_1 h (fun v1 h => ?_)
  refine lv_aload_n hx hb dX3_swept_4 rfl (lv_at hl 0 rfl) ?_
  refine gf_X3_33 X hP hs_s0 dX3_swept_5 h (fun v2 h => ?_)
  obtain ⟨v3, e_v3, h⟩ := sx_bnd h
  refine cl_X3_58 X hG hP hz hS  e_v3 hl.1 dX3_swept_8 hcs ⟨Nat.le_trans (by decide) hR.1, Nat.le_trans (by decide) hR.2⟩ (Nat.le_of_ble_eq_true rfl) (fun H locs hP hS => ?_)
  refine lv_isub hx hb dX3_swept_11 ?_
  exact sx_iret X hr hlocks hS hP h dX3_swept_12
set_option maxRecDepth 100000 in
theorem ct_3_swept (l : Launch) (C : sx_C) (hG : sx_G C) (s0 : Nat) (hs_s0 : s0 < 18) (M0 : sx_M) (r : Int32) (h : f3_swept s0 M0 = some r) : Met l yX3_swept (.code yX3_swept cX3_swept 1 (some .int) :: sx_T) ({ frames := 1, cells := 0, slots := 0, locals := 20 } : Room) (sx_Pc C M0 [.ref (sx_ad C 1 s0)]) (sx_Q C (some (.int r)) M0) 0 0 (sx_A C) := by
  refine Met.ofW (cc := cX3_swept) (maxL := 1) (ret := (some .int)) (by decide) rfl ?_
  intro p e s m args below meth c s₁ B hml hv
  obtain ⟨rfl, hz, hP, hK⟩ := hv
  have hl := lv_entry ([.ref (sx_ad C 1 s0)]) (n := 1) (Nat.le_of_ble_eq_true rfl)
  rw [lg_entry_eq]
  generalize (lg_sl ([.ref (sx_ad C 1 s0)]) ++ List.replicate (1 - (lg_sl ([.ref (sx_ad C 1 s0)])).length) Slot.unset).toArray = ls at hl ⊢
  exact wk_3_swept ⟨B.exec, B.bytes, hml, findClass_of_methodNamed B.named, fun w hw => atoms_spec B.pre w (List.mem_cons_of_mem _ hw), hK⟩ B.returns B.notSynchronized hG hz ⟨Nat.zero_le _, Nat.zero_le _⟩ ⟨Nat.le_refl _, Nat.le_refl _⟩ s0 hs_s0 M0 r h hl hP va_S.rf
theorem cl_X3_88 (X : sx_X C p m c cc nL s args RX3) (hG : sx_G C) (hP : sx_W C M0 H) (hz : sx_sz C ≤ H0.size) (hS : va_S (sx_A C) H0 H locs) {s0 : Nat} (hs_s0 : s0 < 18) {r : Int32} (h : f3_swept s0 M0 = some r) (hsz : ls.size = nL) (hdg : decode cc pc = .ok (.invokevirtual 88, 3)) (hcs : cells ≤ R.cells ∧ slots ≤ R.slots) (hR : 1 + 1 ≤ R.frames ∧ 8 + (1 + 11) + 20 ≤ R.locals) (hrest : (rest.map fun v => v.category).sum ≤ 8) (kk : ∀ (H1 : Heap) (locs1 : List Loc), sx_W C M0 H1 → va_S (sx_A C) H0 H1 locs1 → W p l e R s m args below meth c H1 locs1 cells slots Q (F0 m (pc + 3) ls ((.int r) :: rest))) : W p l e R s m args below meth c H locs cells slots Q (F0 m pc ls (.ref (sx_ad C 1 s0) :: rest)) :=
  sx_callV (n := 0) (As := []) (k0 := 1) (s0 := s0) X hP hz hS hs_s0 rfl rfl (sx_goodV tw_668 tw_409 tw_410 tw_65 tw_411) (by decide +kernel) rfl rfl hR (ct_3_swept l C hG s0 hs_s0 M0 r h) rfl rfl hrest hsz hdg hcs kk
theorem cl_X7_188 (X : sx_X C p m c cc nL s args RX7) (hG : sx_G C) (hP : sx_W C M0 H) (hz : sx_sz C ≤ H0.size) (hS : va_S (sx_A C) H0 H locs) {s0 : Nat} (hs_s0 : s0 < 18) {r : Int32} (h : f3_swept s0 M0 = some r) (hsz : ls.size = nL) (hdg : decode cc pc = .ok (.invokevirtual 188, 3)) (hcs : cells ≤ R.cells ∧ slots ≤ R.slots) (hR : 1 + 1 ≤ R.frames ∧ 8 + (1 + 11) + 20 ≤ R.locals) (hrest : (rest.map fun v => v.category).sum ≤ 8) (kk : ∀ (H1 : Heap) (locs1 : List Loc), sx_W C M0 H1 → va_S (sx_A C) H0 H1 locs1 → W p l e R s m args below meth c H1 locs1 cells slots Q (F0 m (pc + 3) ls ((.int r) :: rest))) : W p l e R s m args below meth c H locs cells slots Q (F0 m pc ls (.ref (sx_ad C 1 s0) :: rest)) :=
  sx_callV (n := 0) (As := []) (k0 := 1) (s0 := s0) X hP hz hS hs_s0 rfl rfl (sx_goodV tw_408 tw_409 tw_410 tw_65 tw_411) (by decide +kernel) rfl rfl hR (ct_3_swept l C hG s0 hs_s0 M0 r h) rfl rfl hrest hsz hdg hcs kk
-- StringShed$Shed.isPinned(I)Z pure
def f3_isPinned (s0 : Nat) (a1 : Int32) (M0 : sx_M) : Option (Int32) :=
  sx_bd (M0.1 1 s0 5) fun v1 =>
  (f7_bitOf a1 M0).bind fun v2 =>
  sx_bd (fun (v3 : Int32) =>
    if v3 = 0 ∨ v3 = 1 then some v3 else none) fun j17 =>
  if (v1 &&& v2) = 0 then
    j17 (0 : Int32)
  else
    j17 (1 : Int32)
set_option maxRecDepth 100000 in
set_option maxHeartbeats 4000000 in
theorem wk_3_isPinned (X : sx_X C p m c cX3_isPinned 2 s args RX3) (hr : meth.sig.returnType = (some .boolean)) (hlocks : meth.locks = false) (hG : sx_G C) (hz : sx_sz C ≤ s.heap.size) (hcs : 0 ≤ R.cells ∧ 0 ≤ R.slots) (hR : 1 ≤ R.frames ∧ 20 ≤ R.locals) (s0 : Nat) (a1 : Int32) (hs_s0 : s0 < 18) (M0 : sx_M) (r : Int32) (h : f3_isPinned s0 a1 M0 = some r) (hl : lv_has ls 2 [(0, .ref (sx_ad C 1 s0)), (1, .int a1)]) (hP : sx_W C M0 H) (hS : va_S (sx_A C) s.heap H locs) : W p l e R s m args below meth c H locs 0 0 (sx_Z C (some (.int r)) M0 below args s) (F0 m 0 ls []) := by
  obtain ⟨hx, hb, hml, hown, hts, hK⟩ := id X
  rw [f3_isPinned] at h
  refine lv_aload_n hx hb dX3_isPinned_0 rfl (lv_at hl 0 rfl) ?_
  refine gf_X3_36 X hP hs_s0 dX3_isPinned_1 h (fun v1 h => ?_)
  refine lv_iload_n hx hb dX3_isPinned_4 rfl (lv_at hl 1 rfl) ?_
  obtain ⟨v2, e_v2, h⟩ := sx_bnd h
  refine cl_X3_64 X hG hP hz hS  e_v2 hl.1 dX3_isPinned_5 hcs ⟨Nat.le_trans (by decide) hR.1, Nat.le_trans (by decide) hR.2⟩ (Nat.le_of_ble_eq_true rfl) (fun H locs hP hS => ?_)
  refine lv_iand hx hb dX3_isPinned_8 ?_
  obtain ⟨j17, e_j17, h⟩ := sx_nm h
  have hj17 : ∀ (v3 : Int32) (H : Heap) (locs : List Loc) (ls : Array Slot), lv_has ls 2 [] → sx_W C M0 H → va_S (sx_A C) s.heap H locs → j17 v3 = some r → W p l e R s m args below meth c H locs 0 0 (sx_Z C (some (.int r)) M0 below args s) (F0 m 17 ls [.int v3]) := by
    intro v3 H locs ls hl hP hS h
    subst e_j17
    obtain ⟨hz01, h⟩ := sx_ck h
    exact sx_zret X hr hlocks hS hP hz01 h dX3_isPinned_17
  clear e_j17
  refine lv_if_eq (tgt := 16) hx hb dX3_isPinned_9 (by decide) (fun c4 => ?_) (fun c4 => ?_)
  · replace h := sx_ifp h c4
    refine lv_iconst (v := (0 : Int32)) hx hb dX3_isPinned_16 (by decide) ?_
    exact hj17 (0 : Int32) H locs ls (lv_sub hl [] rfl) hP hS h
  · replace h := sx_ifn h c4
    refine lv_iconst (v := (1 : Int32)) hx hb dX3_isPinned_12 (by decide) ?_
    refine lv_goto (tgt := 17) hx hb dX3_isPinned_13 (by decide) ?_
    exact hj17 (1 : Int32) H locs ls (lv_sub hl [] rfl) hP hS h
set_option maxRecDepth 100000 in
theorem ct_3_isPinned (l : Launch) (C : sx_C) (hG : sx_G C) (s0 : Nat) (a1 : Int32) (hs_s0 : s0 < 18) (M0 : sx_M) (r : Int32) (h : f3_isPinned s0 a1 M0 = some r) : Met l yX3_isPinned (.code yX3_isPinned cX3_isPinned 2 (some .boolean) :: sx_T) ({ frames := 1, cells := 0, slots := 0, locals := 20 } : Room) (sx_Pc C M0 [.ref (sx_ad C 1 s0), .int a1]) (sx_Q C (some (.int r)) M0) 0 0 (sx_A C) := by
  refine Met.ofW (cc := cX3_isPinned) (maxL := 2) (ret := (some .boolean)) (by decide) rfl ?_
  intro p e s m args below meth c s₁ B hml hv
  obtain ⟨rfl, hz, hP, hK⟩ := hv
  have hl := lv_entry ([.ref (sx_ad C 1 s0), .int a1]) (n := 2) (Nat.le_of_ble_eq_true rfl)
  rw [lg_entry_eq]
  generalize (lg_sl ([.ref (sx_ad C 1 s0), .int a1]) ++ List.replicate (2 - (lg_sl ([.ref (sx_ad C 1 s0), .int a1])).length) Slot.unset).toArray = ls at hl ⊢
  exact wk_3_isPinned ⟨B.exec, B.bytes, hml, findClass_of_methodNamed B.named, fun w hw => atoms_spec B.pre w (List.mem_cons_of_mem _ hw), hK⟩ B.returns B.notSynchronized hG hz ⟨Nat.zero_le _, Nat.zero_le _⟩ ⟨Nat.le_refl _, Nat.le_refl _⟩ s0 a1 hs_s0 M0 r h hl hP va_S.rf
theorem cl_X3_104 (X : sx_X C p m c cc nL s args RX3) (hG : sx_G C) (hP : sx_W C M0 H) (hz : sx_sz C ≤ H0.size) (hS : va_S (sx_A C) H0 H locs) {s0 : Nat} {a1 : Int32} (hs_s0 : s0 < 18) {r : Int32} (h : f3_isPinned s0 a1 M0 = some r) (hsz : ls.size = nL) (hdg : decode cc pc = .ok (.invokevirtual 104, 3)) (hcs : cells ≤ R.cells ∧ slots ≤ R.slots) (hR : 1 + 1 ≤ R.frames ∧ 8 + (2 + 11) + 20 ≤ R.locals) (hrest : (rest.map fun v => v.category).sum ≤ 8) (kk : ∀ (H1 : Heap) (locs1 : List Loc), sx_W C M0 H1 → va_S (sx_A C) H0 H1 locs1 → W p l e R s m args below meth c H1 locs1 cells slots Q (F0 m (pc + 3) ls ((.int r) :: rest))) : W p l e R s m args below meth c H locs cells slots Q (F0 m pc ls (.int a1 :: .ref (sx_ad C 1 s0) :: rest)) :=
  sx_callV (n := 1) (As := [.int a1]) (k0 := 1) (s0 := s0) X hP hz hS hs_s0 rfl rfl (sx_goodV tw_712 tw_653 tw_654 tw_65 tw_655) (by decide +kernel) rfl rfl hR (ct_3_isPinned l C hG s0 a1 hs_s0 M0 r h) rfl rfl hrest hsz hdg hcs kk
theorem cl_X6_50 (X : sx_X C p m c cc nL s args RX6) (hG : sx_G C) (hP : sx_W C M0 H) (hz : sx_sz C ≤ H0.size) (hS : va_S (sx_A C) H0 H locs) {s0 : Nat} {a1 : Int32} (hs_s0 : s0 < 18) {r : Int32} (h : f3_isPinned s0 a1 M0 = some r) (hsz : ls.size = nL) (hdg : decode cc pc = .ok (.invokevirtual 50, 3)) (hcs : cells ≤ R.cells ∧ slots ≤ R.slots) (hR : 1 + 1 ≤ R.frames ∧ 8 + (2 + 11) + 20 ≤ R.locals) (hrest : (rest.map fun v => v.category).sum ≤ 8) (kk : ∀ (H1 : Heap) (locs1 : List Loc), sx_W C M0 H1 → va_S (sx_A C) H0 H1 locs1 → W p l e R s m args below meth c H1 locs1 cells slots Q (F0 m (pc + 3) ls ((.int r) :: rest))) : W p l e R s m args below meth c H locs cells slots Q (F0 m pc ls (.int a1 :: .ref (sx_ad C 1 s0) :: rest)) :=
  sx_callV (n := 1) (As := [.int a1]) (k0 := 1) (s0 := s0) X hP hz hS hs_s0 rfl rfl (sx_goodV tw_652 tw_653 tw_654 tw_65 tw_655) (by decide +kernel) rfl rfl hR (ct_3_isPinned l C hG s0 a1 hs_s0 M0 r h) rfl rfl hrest hsz hdg hcs kk
theorem cl_X7_168 (X : sx_X C p m c cc nL s args RX7) (hG : sx_G C) (hP : sx_W C M0 H) (hz : sx_sz C ≤ H0.size) (hS : va_S (sx_A C) H0 H locs) {s0 : Nat} {a1 : Int32} (hs_s0 : s0 < 18) {r : Int32} (h : f3_isPinned s0 a1 M0 = some r) (hsz : ls.size = nL) (hdg : decode cc pc = .ok (.invokevirtual 168, 3)) (hcs : cells ≤ R.cells ∧ slots ≤ R.slots) (hR : 1 + 1 ≤ R.frames ∧ 8 + (2 + 11) + 20 ≤ R.locals) (hrest : (rest.map fun v => v.category).sum ≤ 8) (kk : ∀ (H1 : Heap) (locs1 : List Loc), sx_W C M0 H1 → va_S (sx_A C) H0 H1 locs1 → W p l e R s m args below meth c H1 locs1 cells slots Q (F0 m (pc + 3) ls ((.int r) :: rest))) : W p l e R s m args below meth c H locs cells slots Q (F0 m pc ls (.int a1 :: .ref (sx_ad C 1 s0) :: rest)) :=
  sx_callV (n := 1) (As := [.int a1]) (k0 := 1) (s0 := s0) X hP hz hS hs_s0 rfl rfl (sx_goodV tw_858 tw_653 tw_654 tw_65 tw_655) (by decide +kernel) rfl rfl hR (ct_3_isPinned l C hG s0 a1 hs_s0 M0 r h) rfl rfl hrest hsz hdg hcs kk
-- StringShed$Shed.weightUnder(I)I pure
def f3_weightUnder (s0 : Nat) (a1 : Int32) (M0 : sx_M) : Option (Int32) :=
  (f3_held s0 M0).bind fun v1 =>
  (f3_holders s0 M0).bind fun v2 =>
  (f4_reach s0 v2 a1 M0).bind fun v3 =>
  (f3_weightOf s0 (v1 &&& (v3 ^^^ (-1 : Int32))) M0).bind fun v4 =>
  some v4
set_option maxRecDepth 100000 in
set_option maxHeartbeats 4000000 in
theorem wk_3_weightUnder (X : sx_X C p m c cX3_weightUnder 2 s args RX3) (hr : meth.sig.returnType = (some .int)) (hlocks : meth.locks = false) (hG : sx_G C) (hz : sx_sz C ≤ s.heap.size) (hcs : 0 ≤ R.cells ∧ 0 ≤ R.slots) (hR : 2 ≤ R.frames ∧ 46 ≤ R.locals) (s0 : Nat) (a1 : Int32) (hs_s0 : s0 < 18) (M0 : sx_M) (r : Int32) (h : f3_weightUnder s0 a1 M0 = some r) (hl : lv_has ls 2 [(0, .ref (sx_ad C 1 s0)), (1, .int a1)]) (hP : sx_W C M0 H) (hS : va_S (sx_A C) s.heap H locs) : W p l e R s m args below meth c H locs 0 0 (sx_Z C (some (.int r)) M0 below args s) (F0 m 0 ls []) := by
  obtain ⟨hx, hb, hml, hown, hts, hK⟩ := id X
  rw [f3_weightUnder] at h
  refine lv_aload_n hx hb dX3_weightUnder_0 rfl (lv_at hl 0 rfl) ?_
  refine lv_aload_n hx hb dX3_weightUnder_1 rfl (lv_at hl 0 rfl) ?_
  obtain ⟨v1, e_v1, h⟩ := sx_bnd h
  refine cl_X3_78 X hG hP hz hS hs_s0 e_v1 hl.1 dX3_weightUnder_2 hcs ⟨Nat.le_trans (by decide) hR.1, Nat.le_trans (by decide) hR.2⟩ (Nat.le_of_ble_eq_true rfl) (fun H locs hP hS => ?_)
  refine lv_aload_n hx hb dX3_weightUnder_5 rfl (lv_at hl 0 rfl) ?_
  refine gf_X3_12 X hP hs_s0 dX3_weightUnder_6 ?_
  refine lv_aload_n hx hb dX3_weightUnder_9 rfl (lv_at hl 0 rfl) ?_
  obtain ⟨v2, e_v2, h⟩ := sx_bnd h
  refine cl_X3_67 X hG hP hz hS hs_s0 e_v2 hl.1 dX3_weightUnder_10 hcs ⟨Nat.le_trans (by decide) hR.1, Nat.le_trans (by decide) hR.2⟩ (Nat.le_of_ble_eq_true rfl) (fun H locs hP hS => ?_)
  refine lv_iload_n hx hb dX3_weightUnder_13 rfl (lv_at hl 1 rfl) ?_
  obtain ⟨v3, e_v3, h⟩ := sx_bnd h
  refine cl_X3_71 X hG hP hz hS hs_s0 e_v3 hl.1 dX3_weightUnder_14 hcs ⟨Nat.le_trans (by decide) hR.1, Nat.le_trans (by decide) hR.2⟩ (Nat.le_of_ble_eq_true rfl) (fun H locs hP hS => ?_)
  refine lv_iconst (v := (-1 : Int32)) hx hb dX3_weightUnder_17 (by decide) ?_
  refine lv_ixor hx hb dX3_weightUnder_18 ?_
  refine lv_iand hx hb dX3_weightUnder_19 ?_
  obtain ⟨v4, e_v4, h⟩ := sx_bnd h
  refine cl_X3_81 X hG hP hz hS hs_s0 e_v4 hl.1 dX3_weightUnder_20 hcs ⟨Nat.le_trans (by decide) hR.1, Nat.le_trans (by decide) hR.2⟩ (Nat.le_of_ble_eq_true rfl) (fun H locs hP hS => ?_)
  exact sx_iret X hr hlocks hS hP h dX3_weightUnder_23
set_option maxRecDepth 100000 in
theorem ct_3_weightUnder (l : Launch) (C : sx_C) (hG : sx_G C) (s0 : Nat) (a1 : Int32) (hs_s0 : s0 < 18) (M0 : sx_M) (r : Int32) (h : f3_weightUnder s0 a1 M0 = some r) : Met l yX3_weightUnder (.code yX3_weightUnder cX3_weightUnder 2 (some .int) :: sx_T) ({ frames := 2, cells := 0, slots := 0, locals := 46 } : Room) (sx_Pc C M0 [.ref (sx_ad C 1 s0), .int a1]) (sx_Q C (some (.int r)) M0) 0 0 (sx_A C) := by
  refine Met.ofW (cc := cX3_weightUnder) (maxL := 2) (ret := (some .int)) (by decide) rfl ?_
  intro p e s m args below meth c s₁ B hml hv
  obtain ⟨rfl, hz, hP, hK⟩ := hv
  have hl := lv_entry ([.ref (sx_ad C 1 s0), .int a1]) (n := 2) (Nat.le_of_ble_eq_true rfl)
  rw [lg_entry_eq]
  generalize (lg_sl ([.ref (sx_ad C 1 s0), .int a1]) ++ List.replicate (2 - (lg_sl ([.ref (sx_ad C 1 s0), .int a1])).length) Slot.unset).toArray = ls at hl ⊢
  exact wk_3_weightUnder ⟨B.exec, B.bytes, hml, findClass_of_methodNamed B.named, fun w hw => atoms_spec B.pre w (List.mem_cons_of_mem _ hw), hK⟩ B.returns B.notSynchronized hG hz ⟨Nat.zero_le _, Nat.zero_le _⟩ ⟨Nat.le_refl _, Nat.le_refl _⟩ s0 a1 hs_s0 M0 r h hl hP va_S.rf
theorem cl_X7_165 (X : sx_X C p m c cc nL s args RX7) (hG : sx_G C) (hP : sx_W C M0 H) (hz : sx_sz C ≤ H0.size) (hS : va_S (sx_A C) H0 H locs) {s0 : Nat} {a1 : Int32} (hs_s0 : s0 < 18) {r : Int32} (h : f3_weightUnder s0 a1 M0 = some r) (hsz : ls.size = nL) (hdg : decode cc pc = .ok (.invokevirtual 165, 3)) (hcs : cells ≤ R.cells ∧ slots ≤ R.slots) (hR : 2 + 1 ≤ R.frames ∧ 8 + (2 + 11) + 46 ≤ R.locals) (hrest : (rest.map fun v => v.category).sum ≤ 8) (kk : ∀ (H1 : Heap) (locs1 : List Loc), sx_W C M0 H1 → va_S (sx_A C) H0 H1 locs1 → W p l e R s m args below meth c H1 locs1 cells slots Q (F0 m (pc + 3) ls ((.int r) :: rest))) : W p l e R s m args below meth c H locs cells slots Q (F0 m pc ls (.int a1 :: .ref (sx_ad C 1 s0) :: rest)) :=
  sx_callV (n := 1) (As := [.int a1]) (k0 := 1) (s0 := s0) X hP hz hS hs_s0 rfl rfl (sx_goodV tw_269 tw_270 tw_271 tw_65 tw_272) (by decide +kernel) rfl rfl hR (ct_3_weightUnder l C hG s0 a1 hs_s0 M0 r h) rfl rfl hrest hsz hdg hcs kk
-- StringShed$Shed.partsOnRings()I pure
def f3_partsOnRings_L16 (s0 : Nat) (w1 : Int32) (M0 : sx_M) : Nat → Int32 → Int32 → Option (Int32)
  | 0, _, _ => none
  | n + 1, x2, x3 =>
    if (24 : Int32) ≤ x3 then
      some x2
    else
      (f7_bitOf x3 M0).bind fun v5 =>
      sx_bd (fun (v6 : Int32) =>
        sx_bd (x2 + v6) fun v7 =>
        sx_bd (x3 + (1 : Int32)) fun v8 =>
        f3_partsOnRings_L16 s0 w1 M0 n v7 v8) fun j48 =>
      sx_bd (fun (_ : Unit) =>
        j48 (0 : Int32)) fun j47 =>
      if (w1 &&& v5) = 0 then
        j47 ()
      else
        (f4_isOnRing s0 x3 M0).bind fun v10 =>
        if v10 = 0 then
          j47 ()
        else
          j48 (1 : Int32)
def f3_partsOnRings (s0 : Nat) (M0 : sx_M) : Option (Int32) :=
  sx_bd (M0.1 1 s0 4) fun v1 =>
  (f3_held s0 M0).bind fun v2 =>
  sx_bd (v1 &&& (v2 ^^^ (-1 : Int32))) fun v3 =>
  f3_partsOnRings_L16 s0 v3 M0
    5000 (0 : Int32) (0 : Int32)
set_option maxRecDepth 100000 in
set_option maxHeartbeats 4000000 in
theorem wk_3_partsOnRings (X : sx_X C p m c cX3_partsOnRings 4 s args RX3) (hr : meth.sig.returnType = (some .int)) (hlocks : meth.locks = false) (hG : sx_G C) (hz : sx_sz C ≤ s.heap.size) (hcs : 0 ≤ R.cells ∧ 0 ≤ R.slots) (hR : 2 ≤ R.frames ∧ 48 ≤ R.locals) (s0 : Nat) (hs_s0 : s0 < 18) (M0 : sx_M) (r : Int32) (h : f3_partsOnRings s0 M0 = some r) (hl : lv_has ls 4 [(0, .ref (sx_ad C 1 s0))]) (hP : sx_W C M0 H) (hS : va_S (sx_A C) s.heap H locs) : W p l e R s m args below meth c H locs 0 0 (sx_Z C (some (.int r)) M0 below args s) (F0 m 0 ls []) := by
  obtain ⟨hx, hb, hml, hown, hts, hK⟩ := id X
  rw [f3_partsOnRings] at h
  have hf3_partsOnRings_L16 : ∀ (s0 : Nat) (w1 : Int32) (hs_s0 : s0 < 18) (n : Nat) (x2 : Int32) (x3 : Int32) (H : Heap) (locs : List Loc) (ls : Array Slot), lv_has ls 4 [(0, .ref (sx_ad C 1 s0)), (1, .int w1), (2, .int x2), (3, .int x3)] → sx_W C M0 H → va_S (sx_A C) s.heap H locs → f3_partsOnRings_L16 s0 w1 M0 n x2 x3 = some r → W p l e R s m args below meth c H locs 0 0 (sx_Z C (some (.int r)) M0 below args s) (F0 m 16 ls []) := by
    intro s0 w1 hs_s0 n
    induction n with
    | zero => intro x2 x3 H locs ls hl hP hS h; exact absurd (show (none : Option (Int32)) = some r from h) (fun q => nomatch q)
    | succ n ih =>
      intro x2 x3 H locs ls hl hP hS h
      rw [f3_partsOnRings_L16] at h
      refine lv_iload_n hx hb dX3_partsOnRings_16 rfl (lv_at hl 3 rfl) ?_
      refine lv_bipush (v := (24 : Int32)) hx hb dX3_partsOnRings_17 (by decide) ?_
      refine lv_icmp_ge (tgt := 56) hx hb dX3_partsOnRings_19 (by decide) (fun c4 => ?_) (fun c4 => ?_)
      · replace h := sx_ifp h c4
        refine lv_iload_n hx hb dX3_partsOnRings_56 rfl (lv_at hl 2 rfl) ?_
        exact sx_iret X hr hlocks hS hP h dX3_partsOnRings_57
      · replace h := sx_ifn h c4
        refine lv_iload_n hx hb dX3_partsOnRings_22 rfl (lv_at hl 2 rfl) ?_
        refine lv_iload_n hx hb dX3_partsOnRings_23 rfl (lv_at hl 1 rfl) ?_
        refine lv_iload_n hx hb dX3_partsOnRings_24 rfl (lv_at hl 3 rfl) ?_
        obtain ⟨v5, e_v5, h⟩ := sx_bnd h
        refine cl_X3_64 X hG hP hz hS  e_v5 hl.1 dX3_partsOnRings_25 hcs ⟨Nat.le_trans (by decide) hR.1, Nat.le_trans (by decide) hR.2⟩ (Nat.le_of_ble_eq_true rfl) (fun H locs hP hS => ?_)
        refine lv_iand hx hb dX3_partsOnRings_28 ?_
        obtain ⟨j48, e_j48, h⟩ := sx_nm h
        have hj48 : ∀ (v6 : Int32) (H : Heap) (locs : List Loc) (ls : Array Slot), lv_has ls 4 [(0, .ref (sx_ad C 1 s0)), (1, .int w1), (3, .int x3)] → sx_W C M0 H → va_S (sx_A C) s.heap H locs → j48 v6 = some r → W p l e R s m args below meth c H locs 0 0 (sx_Z C (some (.int r)) M0 below args s) (F0 m 48 ls [.int v6, .int x2]) := by
          intro v6 H locs ls hl hP hS h
          subst e_j48
          refine lv_iadd hx hb dX3_partsOnRings_48 ?_
          obtain ⟨v7, e_v7, h⟩ := sx_nm h
          rw [e_v7]
          refine lv_istore_n (lv' := [(2, .int v7), (0, .ref (sx_ad C 1 s0)), (1, .int w1), (3, .int x3)]) hx hb dX3_partsOnRings_49 rfl hl (by decide) rfl (fun ls hl => ?_)
          obtain ⟨v8, e_v8, h⟩ := sx_nm h
          refine lv_iinc (v := v8) (lv' := [(3, .int v8), (2, .int v7), (0, .ref (sx_ad C 1 s0)), (1, .int w1)]) hx hb dX3_partsOnRings_50 hl (k := 3) rfl (by rw [← e_v8]; rfl) (by decide) rfl (fun ls hl => ?_)
          refine lv_goto (tgt := 16) hx hb dX3_partsOnRings_53 (by decide) ?_
          exact ih v7 v8 H locs ls (lv_sub hl [2, 3, 1, 0] rfl) hP hS h
        clear e_j48
        obtain ⟨j47, e_j47, h⟩ := sx_nm h
        have hj47 : ∀ (H : Heap) (locs : List Loc) (ls : Array Slot), lv_has ls 4 [(0, .ref (sx_ad C 1 s0)), (1, .int w1), (3, .int x3)] → sx_W C M0 H → va_S (sx_A C) s.heap H locs → j47 () = some r → W p l e R s m args below meth c H locs 0 0 (sx_Z C (some (.int r)) M0 below args s) (F0 m 47 ls [.int x2]) := by
          intro  H locs ls hl hP hS h
          subst e_j47
          refine lv_iconst (v := (0 : Int32)) hx hb dX3_partsOnRings_47 (by decide) ?_
          exact hj48 (0 : Int32) H locs ls (lv_sub hl [0, 1, 2] rfl) hP hS h
        clear e_j47
        refine lv_if_eq (tgt := 47) hx hb dX3_partsOnRings_29 (by decide) (fun c9 => ?_) (fun c9 => ?_)
        · replace h := sx_ifp h c9
          exact hj47 H locs ls (lv_sub hl [0, 1, 3] rfl) hP hS h
        · replace h := sx_ifn h c9
          refine lv_aload_n hx hb dX3_partsOnRings_32 rfl (lv_at hl 0 rfl) ?_
          refine gf_X3_12 X hP hs_s0 dX3_partsOnRings_33 ?_
          refine lv_iload_n hx hb dX3_partsOnRings_36 rfl (lv_at hl 3 rfl) ?_
          obtain ⟨v10, e_v10, h⟩ := sx_bnd h
          refine cl_X3_84 X hG hP hz hS hs_s0 e_v10 hl.1 dX3_partsOnRings_37 hcs ⟨Nat.le_trans (by decide) hR.1, Nat.le_trans (by decide) hR.2⟩ (Nat.le_of_ble_eq_true rfl) (fun H locs hP hS => ?_)
          refine lv_if_eq (tgt := 47) hx hb dX3_partsOnRings_40 (by decide) (fun c11 => ?_) (fun c11 => ?_)
          · replace h := sx_ifp h c11
            exact hj47 H locs ls (lv_sub hl [0, 1, 3] rfl) hP hS h
          · replace h := sx_ifn h c11
            refine lv_iconst (v := (1 : Int32)) hx hb dX3_partsOnRings_43 (by decide) ?_
            refine lv_goto (tgt := 48) hx hb dX3_partsOnRings_44 (by decide) ?_
            exact hj48 (1 : Int32) H locs ls (lv_sub hl [0, 1, 3] rfl) hP hS h
  refine lv_aload_n hx hb dX3_partsOnRings_0 rfl (lv_at hl 0 rfl) ?_
  refine gf_X3_33 X hP hs_s0 dX3_partsOnRings_1 h (fun v1 h => ?_)
  refine lv_aload_n hx hb dX3_partsOnRings_4 rfl (lv_at hl 0 rfl) ?_
  obtain ⟨v2, e_v2, h⟩ := sx_bnd h
  refine cl_X3_78 X hG hP hz hS hs_s0 e_v2 hl.1 dX3_partsOnRings_5 hcs ⟨Nat.le_trans (by decide) hR.1, Nat.le_trans (by decide) hR.2⟩ (Nat.le_of_ble_eq_true rfl) (fun H locs hP hS => ?_)
  refine lv_iconst (v := (-1 : Int32)) hx hb dX3_partsOnRings_8 (by decide) ?_
  refine lv_ixor hx hb dX3_partsOnRings_9 ?_
  refine lv_iand hx hb dX3_partsOnRings_10 ?_
  obtain ⟨v3, e_v3, h⟩ := sx_nm h
  rw [e_v3]
  refine lv_istore_n (lv' := [(1, .int v3), (0, .ref (sx_ad C 1 s0))]) hx hb dX3_partsOnRings_11 rfl hl (by decide) rfl (fun ls hl => ?_)
  refine lv_iconst (v := (0 : Int32)) hx hb dX3_partsOnRings_12 (by decide) ?_
  refine lv_istore_n (lv' := [(2, .int (0 : Int32)), (1, .int v3), (0, .ref (sx_ad C 1 s0))]) hx hb dX3_partsOnRings_13 rfl hl (by decide) rfl (fun ls hl => ?_)
  refine lv_iconst (v := (0 : Int32)) hx hb dX3_partsOnRings_14 (by decide) ?_
  refine lv_istore_n (lv' := [(3, .int (0 : Int32)), (2, .int (0 : Int32)), (1, .int v3), (0, .ref (sx_ad C 1 s0))]) hx hb dX3_partsOnRings_15 rfl hl (by decide) rfl (fun ls hl => ?_)
  exact hf3_partsOnRings_L16 s0 v3 hs_s0 5000 (0 : Int32) (0 : Int32) H locs ls (lv_sub hl [3, 2, 1, 0] rfl) hP hS h
set_option maxRecDepth 100000 in
theorem ct_3_partsOnRings (l : Launch) (C : sx_C) (hG : sx_G C) (s0 : Nat) (hs_s0 : s0 < 18) (M0 : sx_M) (r : Int32) (h : f3_partsOnRings s0 M0 = some r) : Met l yX3_partsOnRings (.code yX3_partsOnRings cX3_partsOnRings 4 (some .int) :: sx_T) ({ frames := 2, cells := 0, slots := 0, locals := 48 } : Room) (sx_Pc C M0 [.ref (sx_ad C 1 s0)]) (sx_Q C (some (.int r)) M0) 0 0 (sx_A C) := by
  refine Met.ofW (cc := cX3_partsOnRings) (maxL := 4) (ret := (some .int)) (by decide) rfl ?_
  intro p e s m args below meth c s₁ B hml hv
  obtain ⟨rfl, hz, hP, hK⟩ := hv
  have hl := lv_entry ([.ref (sx_ad C 1 s0)]) (n := 4) (Nat.le_of_ble_eq_true rfl)
  rw [lg_entry_eq]
  generalize (lg_sl ([.ref (sx_ad C 1 s0)]) ++ List.replicate (4 - (lg_sl ([.ref (sx_ad C 1 s0)])).length) Slot.unset).toArray = ls at hl ⊢
  exact wk_3_partsOnRings ⟨B.exec, B.bytes, hml, findClass_of_methodNamed B.named, fun w hw => atoms_spec B.pre w (List.mem_cons_of_mem _ hw), hK⟩ B.returns B.notSynchronized hG hz ⟨Nat.zero_le _, Nat.zero_le _⟩ ⟨Nat.le_refl _, Nat.le_refl _⟩ s0 hs_s0 M0 r h hl hP va_S.rf
theorem cl_X7_179 (X : sx_X C p m c cc nL s args RX7) (hG : sx_G C) (hP : sx_W C M0 H) (hz : sx_sz C ≤ H0.size) (hS : va_S (sx_A C) H0 H locs) {s0 : Nat} (hs_s0 : s0 < 18) {r : Int32} (h : f3_partsOnRings s0 M0 = some r) (hsz : ls.size = nL) (hdg : decode cc pc = .ok (.invokevirtual 179, 3)) (hcs : cells ≤ R.cells ∧ slots ≤ R.slots) (hR : 2 + 1 ≤ R.frames ∧ 8 + (4 + 11) + 48 ≤ R.locals) (hrest : (rest.map fun v => v.category).sum ≤ 8) (kk : ∀ (H1 : Heap) (locs1 : List Loc), sx_W C M0 H1 → va_S (sx_A C) H0 H1 locs1 → W p l e R s m args below meth c H1 locs1 cells slots Q (F0 m (pc + 3) ls ((.int r) :: rest))) : W p l e R s m args below meth c H locs cells slots Q (F0 m pc ls (.ref (sx_ad C 1 s0) :: rest)) :=
  sx_callV (n := 0) (As := []) (k0 := 1) (s0 := s0) X hP hz hS hs_s0 rfl rfl (sx_goodV tw_304 tw_305 tw_306 tw_65 tw_307) (by decide +kernel) rfl rfl hR (ct_3_partsOnRings l C hG s0 hs_s0 M0 r h) rfl rfl hrest hsz hdg hcs kk
-- StringShed$Shed.figure(I)I pure
def f3_figure (s0 : Nat) (a1 : Int32) (M0 : sx_M) : Option (Int32) :=
  if a1 = (0 : Int32) then
    sx_bd (M0.1 1 s0 4) fun v2 =>
    (fJ6_bitCount_0f7a4 v2 M0).bind fun v3 =>
    some v3
  else
  if a1 = (1 : Int32) then
    sx_bd (M0.1 1 s0 3) fun v5 =>
    some v5
  else
  if a1 = (2 : Int32) then
    (f3_swept s0 M0).bind fun v7 =>
    some v7
  else
  if a1 = (3 : Int32) then
    (f4_size s0 M0).bind fun v9 =>
    some v9
  else
  if a1 = (4 : Int32) then
    (f4_frayed s0 M0).bind fun v11 =>
    some v11
  else
  if a1 = (5 : Int32) then
    sx_bd (M0.1 1 s0 5) fun v13 =>
    (fJ6_bitCount_0f7a4 v13 M0).bind fun v14 =>
    some v14
  else
  if a1 = (6 : Int32) then
    (f3_held s0 M0).bind fun v16 =>
    (fJ6_bitCount_0f7a4 v16 M0).bind fun v17 =>
    some v17
  else
  if a1 = (7 : Int32) then
    (f3_held s0 M0).bind fun v19 =>
    (f3_weightOf s0 v19 M0).bind fun v20 =>
    some v20
  else
  if a1 = (8 : Int32) then
    (f5_isGoing s0 M0).bind fun v22 =>
    sx_bd (fun (v23 : Int32) =>
      some v23) fun j134 =>
    if v22 = 0 then
      j134 (0 : Int32)
    else
      j134 (1 : Int32)
  else
  if a1 = (9 : Int32) then
    sx_bd (M0.1 1 s0 6) fun v26 =>
    some v26
  else
  if a1 = (10 : Int32) then
    sx_bd (M0.1 1 s0 7) fun v28 =>
    some v28
  else
    (f3_held s0 M0).bind fun v29 =>
    sx_bd (fun (v30 : Int32) =>
      some v30) fun j168 =>
    if v29 = 0 then
      j168 (-9 : Int32)
    else
      (f3_holders s0 M0).bind fun v32 =>
      (f4_greatestDepth s0 v32 M0).bind fun v33 =>
      j168 v33
set_option maxRecDepth 100000 in
set_option maxHeartbeats 4000000 in
theorem wk_3_figure (X : sx_X C p m c cX3_figure 2 s args RX3) (hr : meth.sig.returnType = (some .int)) (hlocks : meth.locks = false) (hG : sx_G C) (hz : sx_sz C ≤ s.heap.size) (hcs : 0 ≤ R.cells ∧ 0 ≤ R.slots) (hR : 2 ≤ R.frames ∧ 47 ≤ R.locals) (s0 : Nat) (a1 : Int32) (hs_s0 : s0 < 18) (M0 : sx_M) (r : Int32) (h : f3_figure s0 a1 M0 = some r) (hl : lv_has ls 2 [(0, .ref (sx_ad C 1 s0)), (1, .int a1)]) (hP : sx_W C M0 H) (hS : va_S (sx_A C) s.heap H locs) : W p l e R s m args below meth c H locs 0 0 (sx_Z C (some (.int r)) M0 below args s) (F0 m 0 ls []) := by
  obtain ⟨hx, hb, hml, hown, hts, hK⟩ := id X
  rw [f3_figure] at h
  refine lv_iload_n hx hb dX3_figure_0 rfl (lv_at hl 1 rfl) ?_
  by_cases c1 : a1 = (0 : Int32)
  · replace h := sx_ifp h c1
    refine lv_tableIn (tgt := 60) hx hb dX3_figure_1 (by rw [c1]; decide) (by rw [c1]; decide) (by rw [c1]; rfl) (by decide) ?_
    refine lv_aload_n hx hb dX3_figure_60 rfl (lv_at hl 0 rfl) ?_
    refine gf_X3_33 X hP hs_s0 dX3_figure_61 h (fun v2 h => ?_)
    obtain ⟨v3, e_v3, h⟩ := sx_bnd h
    refine cl_X3_58 X hG hP hz hS  e_v3 hl.1 dX3_figure_64 hcs ⟨Nat.le_trans (by decide) hR.1, Nat.le_trans (by decide) hR.2⟩ (Nat.le_of_ble_eq_true rfl) (fun H locs hP hS => ?_)
    exact sx_iret X hr hlocks hS hP h dX3_figure_67
  replace h := sx_ifn h c1
  by_cases c4 : a1 = (1 : Int32)
  · replace h := sx_ifp h c4
    refine lv_tableIn (tgt := 68) hx hb dX3_figure_1 (by rw [c4]; decide) (by rw [c4]; decide) (by rw [c4]; rfl) (by decide) ?_
    refine lv_aload_n hx hb dX3_figure_68 rfl (lv_at hl 0 rfl) ?_
    refine gf_X3_29 X hP hs_s0 dX3_figure_69 h (fun v5 h => ?_)
    exact sx_iret X hr hlocks hS hP h dX3_figure_72
  replace h := sx_ifn h c4
  by_cases c6 : a1 = (2 : Int32)
  · replace h := sx_ifp h c6
    refine lv_tableIn (tgt := 73) hx hb dX3_figure_1 (by rw [c6]; decide) (by rw [c6]; decide) (by rw [c6]; rfl) (by decide) ?_
    refine lv_aload_n hx hb dX3_figure_73 rfl (lv_at hl 0 rfl) ?_
    obtain ⟨v7, e_v7, h⟩ := sx_bnd h
    refine cl_X3_88 X hG hP hz hS hs_s0 e_v7 hl.1 dX3_figure_74 hcs ⟨Nat.le_trans (by decide) hR.1, Nat.le_trans (by decide) hR.2⟩ (Nat.le_of_ble_eq_true rfl) (fun H locs hP hS => ?_)
    exact sx_iret X hr hlocks hS hP h dX3_figure_77
  replace h := sx_ifn h c6
  by_cases c8 : a1 = (3 : Int32)
  · replace h := sx_ifp h c8
    refine lv_tableIn (tgt := 78) hx hb dX3_figure_1 (by rw [c8]; decide) (by rw [c8]; decide) (by rw [c8]; rfl) (by decide) ?_
    refine lv_aload_n hx hb dX3_figure_78 rfl (lv_at hl 0 rfl) ?_
    refine gf_X3_12 X hP hs_s0 dX3_figure_79 ?_
    obtain ⟨v9, e_v9, h⟩ := sx_bnd h
    refine cl_X3_91 X hG hP hz hS hs_s0 e_v9 hl.1 dX3_figure_82 hcs ⟨Nat.le_trans (by decide) hR.1, Nat.le_trans (by decide) hR.2⟩ (Nat.le_of_ble_eq_true rfl) (fun H locs hP hS => ?_)
    exact sx_iret X hr hlocks hS hP h dX3_figure_85
  replace h := sx_ifn h c8
  by_cases c10 : a1 = (4 : Int32)
  · replace h := sx_ifp h c10
    refine lv_tableIn (tgt := 86) hx hb dX3_figure_1 (by rw [c10]; decide) (by rw [c10]; decide) (by rw [c10]; rfl) (by decide) ?_
    refine lv_aload_n hx hb dX3_figure_86 rfl (lv_at hl 0 rfl) ?_
    refine gf_X3_12 X hP hs_s0 dX3_figure_87 ?_
    obtain ⟨v11, e_v11, h⟩ := sx_bnd h
    refine cl_X3_94 X hG hP hz hS hs_s0 e_v11 hl.1 dX3_figure_90 hcs ⟨Nat.le_trans (by decide) hR.1, Nat.le_trans (by decide) hR.2⟩ (Nat.le_of_ble_eq_true rfl) (fun H locs hP hS => ?_)
    exact sx_iret X hr hlocks hS hP h dX3_figure_93
  replace h := sx_ifn h c10
  by_cases c12 : a1 = (5 : Int32)
  · replace h := sx_ifp h c12
    refine lv_tableIn (tgt := 94) hx hb dX3_figure_1 (by rw [c12]; decide) (by rw [c12]; decide) (by rw [c12]; rfl) (by decide) ?_
    refine lv_aload_n hx hb dX3_figure_94 rfl (lv_at hl 0 rfl) ?_
    refine gf_X3_36 X hP hs_s0 dX3_figure_95 h (fun v13 h => ?_)
    obtain ⟨v14, e_v14, h⟩ := sx_bnd h
    refine cl_X3_58 X hG hP hz hS  e_v14 hl.1 dX3_figure_98 hcs ⟨Nat.le_trans (by decide) hR.1, Nat.le_trans (by decide) hR.2⟩ (Nat.le_of_ble_eq_true rfl) (fun H locs hP hS => ?_)
    exact sx_iret X hr hlocks hS hP h dX3_figure_101
  replace h := sx_ifn h c12
  by_cases c15 : a1 = (6 : Int32)
  · replace h := sx_ifp h c15
    refine lv_tableIn (tgt := 102) hx hb dX3_figure_1 (by rw [c15]; decide) (by rw [c15]; decide) (by rw [c15]; rfl) (by decide) ?_
    refine lv_aload_n hx hb dX3_figure_102 rfl (lv_at hl 0 rfl) ?_
    obtain ⟨v16, e_v16, h⟩ := sx_bnd h
    refine cl_X3_78 X hG hP hz hS hs_s0 e_v16 hl.1 dX3_figure_103 hcs ⟨Nat.le_trans (by decide) hR.1, Nat.le_trans (by decide) hR.2⟩ (Nat.le_of_ble_eq_true rfl) (fun H locs hP hS => ?_)
    obtain ⟨v17, e_v17, h⟩ := sx_bnd h
    refine cl_X3_58 X hG hP hz hS  e_v17 hl.1 dX3_figure_106 hcs ⟨Nat.le_trans (by decide) hR.1, Nat.le_trans (by decide) hR.2⟩ (Nat.le_of_ble_eq_true rfl) (fun H locs hP hS => ?_)
    exact sx_iret X hr hlocks hS hP h dX3_figure_109
  replace h := sx_ifn h c15
  by_cases c18 : a1 = (7 : Int32)
  · replace h := sx_ifp h c18
    refine lv_tableIn (tgt := 110) hx hb dX3_figure_1 (by rw [c18]; decide) (by rw [c18]; decide) (by rw [c18]; rfl) (by decide) ?_
    refine lv_aload_n hx hb dX3_figure_110 rfl (lv_at hl 0 rfl) ?_
    refine lv_aload_n hx hb dX3_figure_111 rfl (lv_at hl 0 rfl) ?_
    obtain ⟨v19, e_v19, h⟩ := sx_bnd h
    refine cl_X3_78 X hG hP hz hS hs_s0 e_v19 hl.1 dX3_figure_112 hcs ⟨Nat.le_trans (by decide) hR.1, Nat.le_trans (by decide) hR.2⟩ (Nat.le_of_ble_eq_true rfl) (fun H locs hP hS => ?_)
    obtain ⟨v20, e_v20, h⟩ := sx_bnd h
    refine cl_X3_81 X hG hP hz hS hs_s0 e_v20 hl.1 dX3_figure_115 hcs ⟨Nat.le_trans (by decide) hR.1, Nat.le_trans (by decide) hR.2⟩ (Nat.le_of_ble_eq_true rfl) (fun H locs hP hS => ?_)
    exact sx_iret X hr hlocks hS hP h dX3_figure_118
  replace h := sx_ifn h c18
  by_cases c21 : a1 = (8 : Int32)
  · replace h := sx_ifp h c21
    refine lv_tableIn (tgt := 119) hx hb dX3_figure_1 (by rw [c21]; decide) (by rw [c21]; decide) (by rw [c21]; rfl) (by decide) ?_
    refine lv_aload_n hx hb dX3_figure_119 rfl (lv_at hl 0 rfl) ?_
    refine gf_X3_21 X hP hs_s0 dX3_figure_120 ?_
    obtain ⟨v22, e_v22, h⟩ := sx_bnd h
    refine cl_X3_97 X hG hP hz hS hs_s0 e_v22 hl.1 dX3_figure_123 hcs ⟨Nat.le_trans (by decide) hR.1, Nat.le_trans (by decide) hR.2⟩ (Nat.le_of_ble_eq_true rfl) (fun H locs hP hS => ?_)
    obtain ⟨j134, e_j134, h⟩ := sx_nm h
    have hj134 : ∀ (v23 : Int32) (H : Heap) (locs : List Loc) (ls : Array Slot), lv_has ls 2 [] → sx_W C M0 H → va_S (sx_A C) s.heap H locs → j134 v23 = some r → W p l e R s m args below meth c H locs 0 0 (sx_Z C (some (.int r)) M0 below args s) (F0 m 134 ls [.int v23]) := by
      intro v23 H locs ls hl hP hS h
      subst e_j134
      exact sx_iret X hr hlocks hS hP h dX3_figure_134
    clear e_j134
    refine lv_if_eq (tgt := 133) hx hb dX3_figure_126 (by decide) (fun c24 => ?_) (fun c24 => ?_)
    · replace h := sx_ifp h c24
      refine lv_iconst (v := (0 : Int32)) hx hb dX3_figure_133 (by decide) ?_
      exact hj134 (0 : Int32) H locs ls (lv_sub hl [] rfl) hP hS h
    · replace h := sx_ifn h c24
      refine lv_iconst (v := (1 : Int32)) hx hb dX3_figure_129 (by decide) ?_
      refine lv_goto (tgt := 134) hx hb dX3_figure_130 (by decide) ?_
      exact hj134 (1 : Int32) H locs ls (lv_sub hl [] rfl) hP hS h
  replace h := sx_ifn h c21
  by_cases c25 : a1 = (9 : Int32)
  · replace h := sx_ifp h c25
    refine lv_tableIn (tgt := 135) hx hb dX3_figure_1 (by rw [c25]; decide) (by rw [c25]; decide) (by rw [c25]; rfl) (by decide) ?_
    refine lv_aload_n hx hb dX3_figure_135 rfl (lv_at hl 0 rfl) ?_
    refine gf_X3_39 X hP hs_s0 dX3_figure_136 h (fun v26 h => ?_)
    exact sx_iret X hr hlocks hS hP h dX3_figure_139
  replace h := sx_ifn h c25
  by_cases c27 : a1 = (10 : Int32)
  · replace h := sx_ifp h c27
    refine lv_tableIn (tgt := 140) hx hb dX3_figure_1 (by rw [c27]; decide) (by rw [c27]; decide) (by rw [c27]; rfl) (by decide) ?_
    refine lv_aload_n hx hb dX3_figure_140 rfl (lv_at hl 0 rfl) ?_
    refine gf_X3_42 X hP hs_s0 dX3_figure_141 h (fun v28 h => ?_)
    exact sx_iret X hr hlocks hS hP h dX3_figure_144
  replace h := sx_ifn h c27
  have t_c1 := lv_neT (a := 0) c1 (by decide)
  have t_c4 := lv_neT (a := 1) c4 (by decide)
  have t_c6 := lv_neT (a := 2) c6 (by decide)
  have t_c8 := lv_neT (a := 3) c8 (by decide)
  have t_c10 := lv_neT (a := 4) c10 (by decide)
  have t_c12 := lv_neT (a := 5) c12 (by decide)
  have t_c15 := lv_neT (a := 6) c15 (by decide)
  have t_c18 := lv_neT (a := 7) c18 (by decide)
  have t_c21 := lv_neT (a := 8) c21 (by decide)
  have t_c25 := lv_neT (a := 9) c25 (by decide)
  have t_c27 := lv_neT (a := 10) c27 (by decide)
  refine lv_tableOut (tgt := 145) hx hb dX3_figure_1 (by omega) (by decide) ?_
  refine lv_aload_n hx hb dX3_figure_145 rfl (lv_at hl 0 rfl) ?_
  obtain ⟨v29, e_v29, h⟩ := sx_bnd h
  refine cl_X3_78 X hG hP hz hS hs_s0 e_v29 hl.1 dX3_figure_146 hcs ⟨Nat.le_trans (by decide) hR.1, Nat.le_trans (by decide) hR.2⟩ (Nat.le_of_ble_eq_true rfl) (fun H locs hP hS => ?_)
  obtain ⟨j168, e_j168, h⟩ := sx_nm h
  have hj168 : ∀ (v30 : Int32) (H : Heap) (locs : List Loc) (ls : Array Slot), lv_has ls 2 [] → sx_W C M0 H → va_S (sx_A C) s.heap H locs → j168 v30 = some r → W p l e R s m args below meth c H locs 0 0 (sx_Z C (some (.int r)) M0 below args s) (F0 m 168 ls [.int v30]) := by
    intro v30 H locs ls hl hP hS h
    subst e_j168
    exact sx_iret X hr hlocks hS hP h dX3_figure_168
  clear e_j168
  refine lv_if_ne (tgt := 157) hx hb dX3_figure_149 (by decide) (fun c31 => ?_) (fun c31 => ?_)
  · replace h := sx_ifn h c31
    refine lv_aload_n hx hb dX3_figure_157 rfl (lv_at hl 0 rfl) ?_
    refine gf_X3_12 X hP hs_s0 dX3_figure_158 ?_
    refine lv_aload_n hx hb dX3_figure_161 rfl (lv_at hl 0 rfl) ?_
    obtain ⟨v32, e_v32, h⟩ := sx_bnd h
    refine cl_X3_67 X hG hP hz hS hs_s0 e_v32 hl.1 dX3_figure_162 hcs ⟨Nat.le_trans (by decide) hR.1, Nat.le_trans (by decide) hR.2⟩ (Nat.le_of_ble_eq_true rfl) (fun H locs hP hS => ?_)
    obtain ⟨v33, e_v33, h⟩ := sx_bnd h
    refine cl_X3_101 X hG hP hz hS hs_s0 e_v33 hl.1 dX3_figure_165 hcs ⟨Nat.le_trans (by decide) hR.1, Nat.le_trans (by decide) hR.2⟩ (Nat.le_of_ble_eq_true rfl) (fun H locs hP hS => ?_)
    exact hj168 v33 H locs ls (lv_sub hl [] rfl) hP hS h
  · replace h := sx_ifp h c31
    refine lv_bipush (v := (-9 : Int32)) hx hb dX3_figure_152 (by decide) ?_
    refine lv_goto (tgt := 168) hx hb dX3_figure_154 (by decide) ?_
    exact hj168 (-9 : Int32) H locs ls (lv_sub hl [] rfl) hP hS h
set_option maxRecDepth 100000 in
theorem ct_3_figure (l : Launch) (C : sx_C) (hG : sx_G C) (s0 : Nat) (a1 : Int32) (hs_s0 : s0 < 18) (M0 : sx_M) (r : Int32) (h : f3_figure s0 a1 M0 = some r) : Met l yX3_figure (.code yX3_figure cX3_figure 2 (some .int) :: sx_T) ({ frames := 2, cells := 0, slots := 0, locals := 47 } : Room) (sx_Pc C M0 [.ref (sx_ad C 1 s0), .int a1]) (sx_Q C (some (.int r)) M0) 0 0 (sx_A C) := by
  refine Met.ofW (cc := cX3_figure) (maxL := 2) (ret := (some .int)) (by decide) rfl ?_
  intro p e s m args below meth c s₁ B hml hv
  obtain ⟨rfl, hz, hP, hK⟩ := hv
  have hl := lv_entry ([.ref (sx_ad C 1 s0), .int a1]) (n := 2) (Nat.le_of_ble_eq_true rfl)
  rw [lg_entry_eq]
  generalize (lg_sl ([.ref (sx_ad C 1 s0), .int a1]) ++ List.replicate (2 - (lg_sl ([.ref (sx_ad C 1 s0), .int a1])).length) Slot.unset).toArray = ls at hl ⊢
  exact wk_3_figure ⟨B.exec, B.bytes, hml, findClass_of_methodNamed B.named, fun w hw => atoms_spec B.pre w (List.mem_cons_of_mem _ hw), hK⟩ B.returns B.notSynchronized hG hz ⟨Nat.zero_le _, Nat.zero_le _⟩ ⟨Nat.le_refl _, Nat.le_refl _⟩ s0 a1 hs_s0 M0 r h hl hP va_S.rf
theorem cl_X7_96 (X : sx_X C p m c cc nL s args RX7) (hG : sx_G C) (hP : sx_W C M0 H) (hz : sx_sz C ≤ H0.size) (hS : va_S (sx_A C) H0 H locs) {s0 : Nat} {a1 : Int32} (hs_s0 : s0 < 18) {r : Int32} (h : f3_figure s0 a1 M0 = some r) (hsz : ls.size = nL) (hdg : decode cc pc = .ok (.invokevirtual 96, 3)) (hcs : cells ≤ R.cells ∧ slots ≤ R.slots) (hR : 2 + 1 ≤ R.frames ∧ 8 + (2 + 11) + 47 ≤ R.locals) (hrest : (rest.map fun v => v.category).sum ≤ 8) (kk : ∀ (H1 : Heap) (locs1 : List Loc), sx_W C M0 H1 → va_S (sx_A C) H0 H1 locs1 → W p l e R s m args below meth c H1 locs1 cells slots Q (F0 m (pc + 3) ls ((.int r) :: rest))) : W p l e R s m args below meth c H locs cells slots Q (F0 m pc ls (.int a1 :: .ref (sx_ad C 1 s0) :: rest)) :=
  sx_callV (n := 1) (As := [.int a1]) (k0 := 1) (s0 := s0) X hP hz hS hs_s0 rfl rfl (sx_goodV tw_664 tw_665 tw_666 tw_65 tw_667) (by decide +kernel) rfl rfl hR (ct_3_figure l C hG s0 a1 hs_s0 M0 r h) rfl rfl hrest hsz hdg hcs kk
-- StringShed$Shed.figureOf(II)I pure
def f3_figureOf (s0 : Nat) (a1 : Int32) (a2 : Int32) (M0 : sx_M) : Option (Int32) :=
  if a2 = (0 : Int32) then
    (f7_bitOf a1 M0).bind fun v2 =>
    (f3_weightOf s0 v2 M0).bind fun v3 =>
    some v3
  else
  if a2 = (1 : Int32) then
    (f3_isPinned s0 a1 M0).bind fun v5 =>
    sx_bd (fun (v6 : Int32) =>
      some v6) fun j62 =>
    if v5 = 0 then
      j62 (0 : Int32)
    else
      j62 (1 : Int32)
  else
  if a2 = (2 : Int32) then
    (f3_held s0 M0).bind fun v9 =>
    (f7_bitOf a1 M0).bind fun v10 =>
    sx_bd (fun (v11 : Int32) =>
      some v11) fun j80 =>
    if (v9 &&& v10) = 0 then
      j80 (0 : Int32)
    else
      j80 (1 : Int32)
  else
  if a2 = (3 : Int32) then
    (f3_depthOf s0 a1 M0).bind fun v14 =>
    some v14
  else
  if a2 = (4 : Int32) then
    (f4_soundTo s0 a1 M0).bind fun v16 =>
    some v16
  else
  if a2 = (5 : Int32) then
    (f4_under s0 a1 M0).bind fun v18 =>
    some v18
  else
    (f5_colourOf s0 a1 M0).bind fun v19 =>
    some v19
set_option maxRecDepth 100000 in
set_option maxHeartbeats 4000000 in
theorem wk_3_figureOf (X : sx_X C p m c cX3_figureOf 3 s args RX3) (hr : meth.sig.returnType = (some .int)) (hlocks : meth.locks = false) (hG : sx_G C) (hz : sx_sz C ≤ s.heap.size) (hcs : 0 ≤ R.cells ∧ 0 ≤ R.slots) (hR : 3 ≤ R.frames ∧ 68 ≤ R.locals) (s0 : Nat) (a1 : Int32) (a2 : Int32) (hs_s0 : s0 < 18) (M0 : sx_M) (r : Int32) (h : f3_figureOf s0 a1 a2 M0 = some r) (hl : lv_has ls 3 [(0, .ref (sx_ad C 1 s0)), (1, .int a1), (2, .int a2)]) (hP : sx_W C M0 H) (hS : va_S (sx_A C) s.heap H locs) : W p l e R s m args below meth c H locs 0 0 (sx_Z C (some (.int r)) M0 below args s) (F0 m 0 ls []) := by
  obtain ⟨hx, hb, hml, hown, hts, hK⟩ := id X
  rw [f3_figureOf] at h
  refine lv_iload_n hx hb dX3_figureOf_0 rfl (lv_at hl 2 rfl) ?_
  by_cases c1 : a2 = (0 : Int32)
  · replace h := sx_ifp h c1
    refine lv_tableIn (tgt := 40) hx hb dX3_figureOf_1 (by rw [c1]; decide) (by rw [c1]; decide) (by rw [c1]; rfl) (by decide) ?_
    refine lv_aload_n hx hb dX3_figureOf_40 rfl (lv_at hl 0 rfl) ?_
    refine lv_iload_n hx hb dX3_figureOf_41 rfl (lv_at hl 1 rfl) ?_
    obtain ⟨v2, e_v2, h⟩ := sx_bnd h
    refine cl_X3_64 X hG hP hz hS  e_v2 hl.1 dX3_figureOf_42 hcs ⟨Nat.le_trans (by decide) hR.1, Nat.le_trans (by decide) hR.2⟩ (Nat.le_of_ble_eq_true rfl) (fun H locs hP hS => ?_)
    obtain ⟨v3, e_v3, h⟩ := sx_bnd h
    refine cl_X3_81 X hG hP hz hS hs_s0 e_v3 hl.1 dX3_figureOf_45 hcs ⟨Nat.le_trans (by decide) hR.1, Nat.le_trans (by decide) hR.2⟩ (Nat.le_of_ble_eq_true rfl) (fun H locs hP hS => ?_)
    exact sx_iret X hr hlocks hS hP h dX3_figureOf_48
  replace h := sx_ifn h c1
  by_cases c4 : a2 = (1 : Int32)
  · replace h := sx_ifp h c4
    refine lv_tableIn (tgt := 49) hx hb dX3_figureOf_1 (by rw [c4]; decide) (by rw [c4]; decide) (by rw [c4]; rfl) (by decide) ?_
    refine lv_aload_n hx hb dX3_figureOf_49 rfl (lv_at hl 0 rfl) ?_
    refine lv_iload_n hx hb dX3_figureOf_50 rfl (lv_at hl 1 rfl) ?_
    obtain ⟨v5, e_v5, h⟩ := sx_bnd h
    refine cl_X3_104 X hG hP hz hS hs_s0 e_v5 hl.1 dX3_figureOf_51 hcs ⟨Nat.le_trans (by decide) hR.1, Nat.le_trans (by decide) hR.2⟩ (Nat.le_of_ble_eq_true rfl) (fun H locs hP hS => ?_)
    obtain ⟨j62, e_j62, h⟩ := sx_nm h
    have hj62 : ∀ (v6 : Int32) (H : Heap) (locs : List Loc) (ls : Array Slot), lv_has ls 3 [] → sx_W C M0 H → va_S (sx_A C) s.heap H locs → j62 v6 = some r → W p l e R s m args below meth c H locs 0 0 (sx_Z C (some (.int r)) M0 below args s) (F0 m 62 ls [.int v6]) := by
      intro v6 H locs ls hl hP hS h
      subst e_j62
      exact sx_iret X hr hlocks hS hP h dX3_figureOf_62
    clear e_j62
    refine lv_if_eq (tgt := 61) hx hb dX3_figureOf_54 (by decide) (fun c7 => ?_) (fun c7 => ?_)
    · replace h := sx_ifp h c7
      refine lv_iconst (v := (0 : Int32)) hx hb dX3_figureOf_61 (by decide) ?_
      exact hj62 (0 : Int32) H locs ls (lv_sub hl [] rfl) hP hS h
    · replace h := sx_ifn h c7
      refine lv_iconst (v := (1 : Int32)) hx hb dX3_figureOf_57 (by decide) ?_
      refine lv_goto (tgt := 62) hx hb dX3_figureOf_58 (by decide) ?_
      exact hj62 (1 : Int32) H locs ls (lv_sub hl [] rfl) hP hS h
  replace h := sx_ifn h c4
  by_cases c8 : a2 = (2 : Int32)
  · replace h := sx_ifp h c8
    refine lv_tableIn (tgt := 63) hx hb dX3_figureOf_1 (by rw [c8]; decide) (by rw [c8]; decide) (by rw [c8]; rfl) (by decide) ?_
    refine lv_aload_n hx hb dX3_figureOf_63 rfl (lv_at hl 0 rfl) ?_
    obtain ⟨v9, e_v9, h⟩ := sx_bnd h
    refine cl_X3_78 X hG hP hz hS hs_s0 e_v9 hl.1 dX3_figureOf_64 hcs ⟨Nat.le_trans (by decide) hR.1, Nat.le_trans (by decide) hR.2⟩ (Nat.le_of_ble_eq_true rfl) (fun H locs hP hS => ?_)
    refine lv_iload_n hx hb dX3_figureOf_67 rfl (lv_at hl 1 rfl) ?_
    obtain ⟨v10, e_v10, h⟩ := sx_bnd h
    refine cl_X3_64 X hG hP hz hS  e_v10 hl.1 dX3_figureOf_68 hcs ⟨Nat.le_trans (by decide) hR.1, Nat.le_trans (by decide) hR.2⟩ (Nat.le_of_ble_eq_true rfl) (fun H locs hP hS => ?_)
    refine lv_iand hx hb dX3_figureOf_71 ?_
    obtain ⟨j80, e_j80, h⟩ := sx_nm h
    have hj80 : ∀ (v11 : Int32) (H : Heap) (locs : List Loc) (ls : Array Slot), lv_has ls 3 [] → sx_W C M0 H → va_S (sx_A C) s.heap H locs → j80 v11 = some r → W p l e R s m args below meth c H locs 0 0 (sx_Z C (some (.int r)) M0 below args s) (F0 m 80 ls [.int v11]) := by
      intro v11 H locs ls hl hP hS h
      subst e_j80
      exact sx_iret X hr hlocks hS hP h dX3_figureOf_80
    clear e_j80
    refine lv_if_eq (tgt := 79) hx hb dX3_figureOf_72 (by decide) (fun c12 => ?_) (fun c12 => ?_)
    · replace h := sx_ifp h c12
      refine lv_iconst (v := (0 : Int32)) hx hb dX3_figureOf_79 (by decide) ?_
      exact hj80 (0 : Int32) H locs ls (lv_sub hl [] rfl) hP hS h
    · replace h := sx_ifn h c12
      refine lv_iconst (v := (1 : Int32)) hx hb dX3_figureOf_75 (by decide) ?_
      refine lv_goto (tgt := 80) hx hb dX3_figureOf_76 (by decide) ?_
      exact hj80 (1 : Int32) H locs ls (lv_sub hl [] rfl) hP hS h
  replace h := sx_ifn h c8
  by_cases c13 : a2 = (3 : Int32)
  · replace h := sx_ifp h c13
    refine lv_tableIn (tgt := 81) hx hb dX3_figureOf_1 (by rw [c13]; decide) (by rw [c13]; decide) (by rw [c13]; rfl) (by decide) ?_
    refine lv_aload_n hx hb dX3_figureOf_81 rfl (lv_at hl 0 rfl) ?_
    refine lv_iload_n hx hb dX3_figureOf_82 rfl (lv_at hl 1 rfl) ?_
    obtain ⟨v14, e_v14, h⟩ := sx_bnd h
    refine cl_X3_107 X hG hP hz hS hs_s0 e_v14 hl.1 dX3_figureOf_83 hcs ⟨Nat.le_trans (by decide) hR.1, Nat.le_trans (by decide) hR.2⟩ (Nat.le_of_ble_eq_true rfl) (fun H locs hP hS => ?_)
    exact sx_iret X hr hlocks hS hP h dX3_figureOf_86
  replace h := sx_ifn h c13
  by_cases c15 : a2 = (4 : Int32)
  · replace h := sx_ifp h c15
    refine lv_tableIn (tgt := 87) hx hb dX3_figureOf_1 (by rw [c15]; decide) (by rw [c15]; decide) (by rw [c15]; rfl) (by decide) ?_
    refine lv_aload_n hx hb dX3_figureOf_87 rfl (lv_at hl 0 rfl) ?_
    refine gf_X3_12 X hP hs_s0 dX3_figureOf_88 ?_
    refine lv_iload_n hx hb dX3_figureOf_91 rfl (lv_at hl 1 rfl) ?_
    obtain ⟨v16, e_v16, h⟩ := sx_bnd h
    refine cl_X3_109 X hG hP hz hS hs_s0 e_v16 hl.1 dX3_figureOf_92 hcs ⟨Nat.le_trans (by decide) hR.1, Nat.le_trans (by decide) hR.2⟩ (Nat.le_of_ble_eq_true rfl) (fun H locs hP hS => ?_)
    exact sx_iret X hr hlocks hS hP h dX3_figureOf_95
  replace h := sx_ifn h c15
  by_cases c17 : a2 = (5 : Int32)
  · replace h := sx_ifp h c17
    refine lv_tableIn (tgt := 96) hx hb dX3_figureOf_1 (by rw [c17]; decide) (by rw [c17]; decide) (by rw [c17]; rfl) (by decide) ?_
    refine lv_aload_n hx hb dX3_figureOf_96 rfl (lv_at hl 0 rfl) ?_
    refine gf_X3_12 X hP hs_s0 dX3_figureOf_97 ?_
    refine lv_iload_n hx hb dX3_figureOf_100 rfl (lv_at hl 1 rfl) ?_
    obtain ⟨v18, e_v18, h⟩ := sx_bnd h
    refine cl_X3_112 X hG hP hz hS hs_s0 e_v18 hl.1 dX3_figureOf_101 hcs ⟨Nat.le_trans (by decide) hR.1, Nat.le_trans (by decide) hR.2⟩ (Nat.le_of_ble_eq_true rfl) (fun H locs hP hS => ?_)
    exact sx_iret X hr hlocks hS hP h dX3_figureOf_104
  replace h := sx_ifn h c17
  have t_c1 := lv_neT (a := 0) c1 (by decide)
  have t_c4 := lv_neT (a := 1) c4 (by decide)
  have t_c8 := lv_neT (a := 2) c8 (by decide)
  have t_c13 := lv_neT (a := 3) c13 (by decide)
  have t_c15 := lv_neT (a := 4) c15 (by decide)
  have t_c17 := lv_neT (a := 5) c17 (by decide)
  refine lv_tableOut (tgt := 105) hx hb dX3_figureOf_1 (by omega) (by decide) ?_
  refine lv_aload_n hx hb dX3_figureOf_105 rfl (lv_at hl 0 rfl) ?_
  refine gf_X3_21 X hP hs_s0 dX3_figureOf_106 ?_
  refine lv_iload_n hx hb dX3_figureOf_109 rfl (lv_at hl 1 rfl) ?_
  obtain ⟨v19, e_v19, h⟩ := sx_bnd h
  refine cl_X3_115 X hG hP hz hS hs_s0 e_v19 hl.1 dX3_figureOf_110 hcs ⟨Nat.le_trans (by decide) hR.1, Nat.le_trans (by decide) hR.2⟩ (Nat.le_of_ble_eq_true rfl) (fun H locs hP hS => ?_)
  exact sx_iret X hr hlocks hS hP h dX3_figureOf_113
set_option maxRecDepth 100000 in
theorem ct_3_figureOf (l : Launch) (C : sx_C) (hG : sx_G C) (s0 : Nat) (a1 : Int32) (a2 : Int32) (hs_s0 : s0 < 18) (M0 : sx_M) (r : Int32) (h : f3_figureOf s0 a1 a2 M0 = some r) : Met l yX3_figureOf (.code yX3_figureOf cX3_figureOf 3 (some .int) :: sx_T) ({ frames := 3, cells := 0, slots := 0, locals := 68 } : Room) (sx_Pc C M0 [.ref (sx_ad C 1 s0), .int a1, .int a2]) (sx_Q C (some (.int r)) M0) 0 0 (sx_A C) := by
  refine Met.ofW (cc := cX3_figureOf) (maxL := 3) (ret := (some .int)) (by decide) rfl ?_
  intro p e s m args below meth c s₁ B hml hv
  obtain ⟨rfl, hz, hP, hK⟩ := hv
  have hl := lv_entry ([.ref (sx_ad C 1 s0), .int a1, .int a2]) (n := 3) (Nat.le_of_ble_eq_true rfl)
  rw [lg_entry_eq]
  generalize (lg_sl ([.ref (sx_ad C 1 s0), .int a1, .int a2]) ++ List.replicate (3 - (lg_sl ([.ref (sx_ad C 1 s0), .int a1, .int a2])).length) Slot.unset).toArray = ls at hl ⊢
  exact wk_3_figureOf ⟨B.exec, B.bytes, hml, findClass_of_methodNamed B.named, fun w hw => atoms_spec B.pre w (List.mem_cons_of_mem _ hw), hK⟩ B.returns B.notSynchronized hG hz ⟨Nat.zero_le _, Nat.zero_le _⟩ ⟨Nat.le_refl _, Nat.le_refl _⟩ s0 a1 a2 hs_s0 M0 r h hl hP va_S.rf
theorem cl_X7_108 (X : sx_X C p m c cc nL s args RX7) (hG : sx_G C) (hP : sx_W C M0 H) (hz : sx_sz C ≤ H0.size) (hS : va_S (sx_A C) H0 H locs) {s0 : Nat} {a1 : Int32} {a2 : Int32} (hs_s0 : s0 < 18) {r : Int32} (h : f3_figureOf s0 a1 a2 M0 = some r) (hsz : ls.size = nL) (hdg : decode cc pc = .ok (.invokevirtual 108, 3)) (hcs : cells ≤ R.cells ∧ slots ≤ R.slots) (hR : 3 + 1 ≤ R.frames ∧ 8 + (3 + 11) + 68 ≤ R.locals) (hrest : (rest.map fun v => v.category).sum ≤ 8) (kk : ∀ (H1 : Heap) (locs1 : List Loc), sx_W C M0 H1 → va_S (sx_A C) H0 H1 locs1 → W p l e R s m args below meth c H1 locs1 cells slots Q (F0 m (pc + 3) ls ((.int r) :: rest))) : W p l e R s m args below meth c H locs cells slots Q (F0 m pc ls (.int a2 :: .int a1 :: .ref (sx_ad C 1 s0) :: rest)) :=
  sx_callV (n := 2) (As := [.int a1, .int a2]) (k0 := 1) (s0 := s0) X hP hz hS hs_s0 rfl rfl (sx_goodV tw_708 tw_709 tw_710 tw_65 tw_711) (by decide +kernel) rfl rfl hR (ct_3_figureOf l C hG s0 a1 a2 hs_s0 M0 r h) rfl rfl hrest hsz hdg hcs kk
-- StringShed$Shed.finishSweep()V
def f3_finishSweep (s0 : Nat) (M0 : sx_M) : Option (sx_M) :=
  (f5_isGoing s0 M0).bind fun v1 =>
  sx_bd (fun (M2 : sx_M) =>
    (f3_takeSteps s0 (25 : Int32) M2).bind fun M3 =>
    some M3) fun j15 =>
  if v1 = 0 then
    sx_b2 (f3_beginSweep s0 M0) fun v5 M6 =>
    j15 M6
  else
    j15 M0
set_option maxRecDepth 100000 in
set_option maxHeartbeats 4000000 in
theorem wk_3_finishSweep (X : sx_X C p m c cX3_finishSweep 1 s args RX3) (hr : meth.sig.returnType = none) (hlocks : meth.locks = false) (hG : sx_G C) (hz : sx_sz C ≤ s.heap.size) (hcs : 0 ≤ R.cells ∧ 0 ≤ R.slots) (hR : 4 ≤ R.frames ∧ 89 ≤ R.locals) (s0 : Nat) (hs_s0 : s0 < 18) (M0 : sx_M) (M' : sx_M) (h : f3_finishSweep s0 M0 = some M') (hl : lv_has ls 1 [(0, .ref (sx_ad C 1 s0))]) (hP : sx_W C M0 H) (hS : va_S (sx_A C) s.heap H locs) : W p l e R s m args below meth c H locs 0 0 (sx_Z C none M' below args s) (F0 m 0 ls []) := by
  obtain ⟨hx, hb, hml, hown, hts, hK⟩ := id X
  rw [f3_finishSweep] at h
  refine lv_aload_n hx hb dX3_finishSweep_0 rfl (lv_at hl 0 rfl) ?_
  refine gf_X3_21 X hP hs_s0 dX3_finishSweep_1 ?_
  obtain ⟨v1, e_v1, h⟩ := sx_bnd h
  refine cl_X3_97 X hG hP hz hS hs_s0 e_v1 hl.1 dX3_finishSweep_4 hcs ⟨Nat.le_trans (by decide) hR.1, Nat.le_trans (by decide) hR.2⟩ (Nat.le_of_ble_eq_true rfl) (fun H locs hP hS => ?_)
  obtain ⟨j15, e_j15, h⟩ := sx_nm h
  have hj15 : ∀ (M2 : sx_M) (H : Heap) (locs : List Loc) (ls : Array Slot), lv_has ls 1 [(0, .ref (sx_ad C 1 s0))] → sx_W C M2 H → va_S (sx_A C) s.heap H locs → j15 M2 = some M' → W p l e R s m args below meth c H locs 0 0 (sx_Z C none M' below args s) (F0 m 15 ls []) := by
    intro M2 H locs ls hl hP hS h
    subst e_j15
    refine lv_aload_n hx hb dX3_finishSweep_15 rfl (lv_at hl 0 rfl) ?_
    refine lv_bipush (v := (25 : Int32)) hx hb dX3_finishSweep_16 (by decide) ?_
    obtain ⟨M3, e_M3, h⟩ := sx_bnd h
    refine cl_X3_223 X hG hP hz hS hs_s0 e_M3 hl.1 dX3_finishSweep_18 hcs ⟨Nat.le_trans (by decide) hR.1, Nat.le_trans (by decide) hR.2⟩ (Nat.le_of_ble_eq_true rfl) (fun H locs hP hS => ?_)
    exact sx_vret X hr hlocks hS hP h dX3_finishSweep_21
  clear e_j15
  refine lv_if_ne (tgt := 15) hx hb dX3_finishSweep_7 (by decide) (fun c4 => ?_) (fun c4 => ?_)
  · replace h := sx_ifn h c4
    exact hj15 M0 H locs ls (lv_sub hl [0] rfl) hP hS h
  · replace h := sx_ifp h c4
    refine lv_aload_n hx hb dX3_finishSweep_10 rfl (lv_at hl 0 rfl) ?_
    obtain ⟨v5, M6, e_v5, h⟩ := sx_bnd2 h
    refine cl_X3_170 X hG hP hz hS hs_s0 e_v5 hl.1 dX3_finishSweep_11 hcs ⟨Nat.le_trans (by decide) hR.1, Nat.le_trans (by decide) hR.2⟩ (Nat.le_of_ble_eq_true rfl) (fun H locs hP hS => ?_)
    refine lv_pop hx hb dX3_finishSweep_14 rfl ?_
    exact hj15 M6 H locs ls (lv_sub hl [0] rfl) hP hS h
set_option maxRecDepth 100000 in
theorem ct_3_finishSweep (l : Launch) (C : sx_C) (hG : sx_G C) (s0 : Nat) (hs_s0 : s0 < 18) (M0 : sx_M) (M' : sx_M) (h : f3_finishSweep s0 M0 = some M') : Met l yX3_finishSweep (.code yX3_finishSweep cX3_finishSweep 1 none :: sx_T) ({ frames := 4, cells := 0, slots := 0, locals := 89 } : Room) (sx_Pc C M0 [.ref (sx_ad C 1 s0)]) (sx_Q C none M') 0 0 (sx_A C) := by
  refine Met.ofW (cc := cX3_finishSweep) (maxL := 1) (ret := none) (by decide) rfl ?_
  intro p e s m args below meth c s₁ B hml hv
  obtain ⟨rfl, hz, hP, hK⟩ := hv
  have hl := lv_entry ([.ref (sx_ad C 1 s0)]) (n := 1) (Nat.le_of_ble_eq_true rfl)
  rw [lg_entry_eq]
  generalize (lg_sl ([.ref (sx_ad C 1 s0)]) ++ List.replicate (1 - (lg_sl ([.ref (sx_ad C 1 s0)])).length) Slot.unset).toArray = ls at hl ⊢
  exact wk_3_finishSweep ⟨B.exec, B.bytes, hml, findClass_of_methodNamed B.named, fun w hw => atoms_spec B.pre w (List.mem_cons_of_mem _ hw), hK⟩ B.returns B.notSynchronized hG hz ⟨Nat.zero_le _, Nat.zero_le _⟩ ⟨Nat.le_refl _, Nat.le_refl _⟩ s0 hs_s0 M0 M' h hl hP va_S.rf
theorem cl_X7_185 (X : sx_X C p m c cc nL s args RX7) (hG : sx_G C) (hP : sx_W C M0 H) (hz : sx_sz C ≤ H0.size) (hS : va_S (sx_A C) H0 H locs) {s0 : Nat} (hs_s0 : s0 < 18) {M' : sx_M} (h : f3_finishSweep s0 M0 = some M') (hsz : ls.size = nL) (hdg : decode cc pc = .ok (.invokevirtual 185, 3)) (hcs : cells ≤ R.cells ∧ slots ≤ R.slots) (hR : 4 + 1 ≤ R.frames ∧ 8 + (1 + 11) + 89 ≤ R.locals) (hrest : (rest.map fun v => v.category).sum ≤ 8) (kk : ∀ (H1 : Heap) (locs1 : List Loc), sx_W C M' H1 → va_S (sx_A C) H0 H1 locs1 → W p l e R s m args below meth c H1 locs1 cells slots Q (F0 m (pc + 3) ls (rest))) : W p l e R s m args below meth c H locs cells slots Q (F0 m pc ls (.ref (sx_ad C 1 s0) :: rest)) :=
  sx_callV (n := 0) (As := []) (k0 := 1) (s0 := s0) X hP hz hS hs_s0 rfl rfl (sx_goodV tw_334 tw_335 tw_336 tw_65 tw_337) (by decide +kernel) rfl rfl hR (ct_3_finishSweep l C hG s0 hs_s0 M0 M' h) rfl rfl hrest hsz hdg hcs kk
end SXM
