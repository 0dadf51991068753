section SXM
variable {p : Program} {l : Launch} {e : Env} {R : Room} {s : State} {m : MethodId} {args : Array Value} {below : List Frame} {meth : Method} {c : Code} {H : Heap} {locs : List Loc} {cells slots : Nat} {Q : State → Prop}
variable {O : Type} {out : O} {C : sx_C} {M M0 : sx_M} {cc : ByteArray} {nL : Nat} {own : String} {pc : Nat} {ls : Array Slot} {rest : List Value} {H0 : Heap}
-- StringShed.append(I)I
def f7_append (a1 : Int32) (M0 : sx_M) : Option ((Nat ⊕ Int32) × sx_M) :=
  sx_bd (fun (_ : Unit) =>
    some (.inl 1, M0)) fun j11 =>
  if a1 < 0 then
    j11 ()
  else
    if a1 ≤ (255 : Int32) then
      (f6_isFull M0).bind fun v3 =>
      if v3 = 0 then
        sx_b2 (f6_add a1 M0) fun v5 M6 =>
        some (.inr v5, M6)
      else
        some (.inl 2, M0)
    else
      j11 ()
set_option maxRecDepth 100000 in
set_option maxHeartbeats 4000000 in
theorem wk_7_append (X : sx_X C p m c cX7_append 2 s args RX7) (hr : meth.sig.returnType = (some .int)) (hlocks : meth.locks = false) (hG : sx_G C) (hz : sx_sz C ≤ s.heap.size) (hT : sx_thr C s) (hst : l.stackTraces = false) (hne : ∀ x ∈ c.exceptionTable.toList, False) (hcs : 1 ≤ R.cells ∧ 6 ≤ R.slots) (hR : 6 ≤ R.frames ∧ 82 ≤ R.locals) (a1 : Int32) (M0 : sx_M) (r : Nat ⊕ Int32) (M' : sx_M) (h : f7_append a1 M0 = some (r, M')) (hl : lv_has ls 2 [(0, .ref (sx_ad C 0 0)), (1, .int a1)]) (hP : sx_W C M0 H) (hS : va_S (sx_A C) s.heap H locs) : W p l e R s m args below meth c H locs 0 0 (vx_MQ below (sx_QN C (sx_oi r) M') (sx_QX C (sx_oi r) M') args s 1 6 (sx_A C)) (F0 m 0 ls []) := by
  obtain ⟨hx, hb, hml, hown, hts, hK⟩ := id X
  rw [f7_append] at h
  refine lv_iload_n hx hb dX7_append_0 rfl (lv_at hl 1 rfl) ?_
  obtain ⟨j11, e_j11, h⟩ := sx_nm h
  have hj11 : ∀ (H : Heap) (locs : List Loc) (ls : Array Slot), lv_has ls 2 [] → sx_W C M0 H → va_S (sx_A C) s.heap H locs → j11 () = some (r, M') → W p l e R s m args below meth c H locs 0 0 (vx_MQ below (sx_QN C (sx_oi r) M') (sx_QX C (sx_oi r) M') args s 1 6 (sx_A C)) (F0 m 11 ls []) := by
    intro  H locs ls hl hP hS h
    subst e_j11
    obtain ⟨q1, q2⟩ := Prod.mk.inj (Option.some.inj h)
    subst q1; subst q2
    exact sx_throw1 X hT hst hne hlocks hz hS hP hl.1 (is := 50) (List.mem_of_getElem? (i := 0) rfl) dX7_append_11 dX7_append_14 dX7_append_15 dX7_append_17 dX7_append_20 ⟨Nat.le_trans (by decide) hR.1, Nat.le_trans (by decide) hR.2⟩ ⟨Nat.le_trans (by decide) hcs.1, Nat.le_trans (by decide) hcs.2⟩ rfl (by decide) (by decide)
  clear e_j11
  refine lv_if_lt (tgt := 11) hx hb dX7_append_1 (by decide) (fun c1 => ?_) (fun c1 => ?_)
  · replace h := sx_ifp h c1
    exact hj11 H locs ls (lv_sub hl [] rfl) hP hS h
  · replace h := sx_ifn h c1
    refine lv_iload_n hx hb dX7_append_4 rfl (lv_at hl 1 rfl) ?_
    refine lv_sipush (v := (255 : Int32)) hx hb dX7_append_5 (by decide) ?_
    refine lv_icmp_le (tgt := 21) hx hb dX7_append_8 (by decide) (fun c2 => ?_) (fun c2 => ?_)
    · replace h := sx_ifp h c2
      refine lv_aload_n hx hb dX7_append_21 rfl (lv_at hl 0 rfl) ?_
      refine gf_X7_37 X hP (by decide) dX7_append_22 ?_
      obtain ⟨v3, e_v3, h⟩ := sx_bnd h
      refine cl_X7_55 X hG hP hz hS  e_v3 hl.1 dX7_append_25 ⟨Nat.le_trans (by decide) hcs.1, Nat.le_trans (by decide) hcs.2⟩ ⟨Nat.le_trans (by decide) hR.1, Nat.le_trans (by decide) hR.2⟩ (Nat.le_of_ble_eq_true rfl) (fun H locs hP hS => ?_)
      refine lv_if_eq (tgt := 41) hx hb dX7_append_28 (by decide) (fun c4 => ?_) (fun c4 => ?_)
      · replace h := sx_ifp h c4
        refine lv_aload_n hx hb dX7_append_41 rfl (lv_at hl 0 rfl) ?_
        refine gf_X7_37 X hP (by decide) dX7_append_42 ?_
        refine lv_iload_n hx hb dX7_append_45 rfl (lv_at hl 1 rfl) ?_
        obtain ⟨v5, M6, e_v5, h⟩ := sx_bnd2 h
        refine cl_X7_64 X hG hP hz hS  e_v5 hl.1 dX7_append_46 ⟨Nat.le_trans (by decide) hcs.1, Nat.le_trans (by decide) hcs.2⟩ ⟨Nat.le_trans (by decide) hR.1, Nat.le_trans (by decide) hR.2⟩ (Nat.le_of_ble_eq_true rfl) (fun H locs hP hS => ?_)
        exact sx_tiret X hr hlocks hS hP h dX7_append_49 (by decide) (by decide)
      · replace h := sx_ifn h c4
        obtain ⟨q1, q2⟩ := Prod.mk.inj (Option.some.inj h)
        subst q1; subst q2
        exact sx_throw2 X hT hst hne hlocks hz hS hP hl.1 (is := 61) (List.mem_of_getElem? (i := 1) rfl) dX7_append_31 dX7_append_34 dX7_append_35 dX7_append_37 dX7_append_40 ⟨Nat.le_trans (by decide) hR.1, Nat.le_trans (by decide) hR.2⟩ ⟨Nat.le_trans (by decide) hcs.1, Nat.le_trans (by decide) hcs.2⟩ rfl (by decide) (by decide)
    · replace h := sx_ifn h c2
      exact hj11 H locs ls (lv_sub hl [] rfl) hP hS h
set_option maxRecDepth 100000 in
theorem ct_7_append (l : Launch) (hst : l.stackTraces = false) (C : sx_C) (hG : sx_G C) (a1 : Int32) (M0 : sx_M) (r : Nat ⊕ Int32) (M' : sx_M) (h : f7_append a1 M0 = some (r, M')) : vx_Met l yX7_append (.code yX7_append cX7_append 2 (some .int) :: sx_T) ({ frames := 6, cells := 1, slots := 6, locals := 82 } : Room) (sx_PcT C M0 [.ref (sx_ad C 0 0), .int a1]) (sx_QN C (sx_oi r) M') (sx_QX C (sx_oi r) M') 1 6 (sx_A C) := by
  refine vx_ofW (cc := cX7_append) (maxL := 2) (ret := (some .int)) (by decide) rfl ?_
  intro p e s m args below meth c s₁ B hml hne hv
  obtain ⟨rfl, hz, hP, hK, hT⟩ := hv
  have hl := lv_entry ([.ref (sx_ad C 0 0), .int a1]) (n := 2) (Nat.le_of_ble_eq_true rfl)
  rw [lg_entry_eq]
  generalize (lg_sl ([.ref (sx_ad C 0 0), .int a1]) ++ List.replicate (2 - (lg_sl ([.ref (sx_ad C 0 0), .int a1])).length) Slot.unset).toArray = ls at hl ⊢
  exact wk_7_append ⟨B.exec, B.bytes, hml, findClass_of_methodNamed B.named, fun w hw => atoms_spec B.pre w (List.mem_cons_of_mem _ hw), hK⟩ B.returns B.notSynchronized hG hz hT hst hne ⟨Nat.le_refl _, Nat.le_refl _⟩ ⟨Nat.le_refl _, Nat.le_refl _⟩ a1 M0 r M' h hl hP va_S.rf
theorem clT_L_7 (X : sx_X C p m c cc nL s args RL) (hT : sx_thr C s) (hst : l.stackTraces = false) (hG : sx_G C) (hP : sx_W C M0 H) (hz : sx_sz C ≤ s.heap.size) (hS : va_S (sx_A C) s.heap H locs) {a1 : Int32} {r : Nat ⊕ Int32} {M' : sx_M} (h : f7_append a1 M0 = some (r, M')) (hsz : ls.size = nL) (hdg : decode cc pc = .ok (.invokevirtual 7, 3)) (hcs : cells + 1 ≤ R.cells ∧ slots + 6 ≤ R.slots) (hR : 6 + 1 ≤ R.frames ∧ 8 + (2 + 11) + 82 ≤ R.locals) (hrest : (rest.map fun v => v.category).sum ≤ 8) (kx : ∀ (k : Nat) (ce : Cell) (q9 : Addr) (H1 : Heap) (locs1 : List Loc), r = .inl k → sx_W C M' H1 → va_S (sx_A C) s.heap H1 locs1 → H1[q9]? = some ce → ce.vm = .none → s.vm.findClass (sx_exn k) = some ce.cls → vx_W p l e R s m args below meth c H1 locs1 (cells + 1) (slots + 6) Q (F0 m pc ls rest) q9) (kk : ∀ (v : Int32) (H1 : Heap) (locs1 : List Loc), r = .inr v → sx_W C M' H1 → va_S (sx_A C) s.heap H1 locs1 → W p l e R s m args below meth c H1 locs1 (cells + 1) (slots + 6) Q (F0 m (pc + 3) ls (.int v :: rest))) : W p l e R s m args below meth c H locs cells slots Q (F0 m pc ls (.int a1 :: .ref (sx_ad C 0 0) :: rest)) := by
  exact sx_callVT (n := 1) (As := [.int a1]) (k0 := 0) (s0 := 0) X hT hP hz hS (by decide) rfl rfl (sx_goodV tw_428 tw_429 tw_430 tw_64 tw_431) (by decide +kernel) rfl rfl hR (ct_7_append l hst C hG a1 M0 r M' h) rfl rfl hrest hsz hdg hcs (fun k ce q9 H1 locs1 ho => kx k ce q9 H1 locs1 (sx_oi_l ho)) (fun rv H1 locs1 ho hW hS1 => by obtain ⟨v, e1, rfl⟩ := sx_oi_r ho; exact kk v H1 locs1 e1 hW hS1)
-- StringShed.load()I
def f7_load_L38 (k56 : (sx_M → Option ((Nat ⊕ Int32) × sx_M))) : Nat → Int32 → sx_M → Option ((Nat ⊕ Int32) × sx_M)
  | 0, _, _ => none
  | n + 1, x1, M =>
    if (2 : Int32) ≤ x1 then
      k56 M
    else
      if sx_in x1 2 ∧ ((0 : Int32) = 0 ∨ (0 : Int32) = 1) then
      sx_bd (sx_set M 12 0 (x1).toNatClampNeg (0 : Int32)) fun M6 =>
      sx_bd (x1 + (1 : Int32)) fun v7 =>
      f7_load_L38 k56 n v7 M6
      else none
def f7_load_L60  : Nat → Int32 → Int32 → sx_M → Option ((Nat ⊕ Int32) × sx_M)
  | 0, _, _, _ => none
  | n + 1, x1, x2, M =>
    (f6_size M).bind fun v9 =>
    if v9 ≤ x2 then
      some (.inr x1, M)
    else
      (f6_isCommandAt x2 M).bind fun v11 =>
      sx_bd (fun (v12 : Int32) (M13 : sx_M) =>
        sx_bd (x1 + v12) fun v14 =>
        sx_bd (x2 + (1 : Int32)) fun v15 =>
        f7_load_L60 n v14 v15 M13) fun j103 =>
      sx_bd (fun (M16 : sx_M) =>
        j103 (0 : Int32) M16) fun j102 =>
      if v11 = 0 then
        j102 M
      else
        sx_b2 (f6_obeyAt x2 0 M) fun v18 M19 =>
        if v18 = 0 then
          j103 (1 : Int32) M19
        else
          j102 M19
def f7_load  (M0 : sx_M) : Option ((Nat ⊕ Int32) × sx_M) :=
  (f6_firstError M0).bind fun v1 =>
  if v1 = (-9 : Int32) then
    (f3_clear 0 M0).bind fun M3 =>
    (f1_forget M3).bind fun M4 =>
    f7_load_L38 
      (fun (M8 : sx_M) =>
        f7_load_L60 
          5000 (0 : Int32) (1 : Int32) M8)
      5000 (0 : Int32) M4
  else
    some (.inl 2, M0)
set_option maxRecDepth 100000 in
set_option maxHeartbeats 4000000 in
theorem wk_7_load (X : sx_X C p m c cX7_load 3 s args RX7) (hr : meth.sig.returnType = (some .int)) (hlocks : meth.locks = false) (hG : sx_G C) (hz : sx_sz C ≤ s.heap.size) (hT : sx_thr C s) (hst : l.stackTraces = false) (hne : ∀ x ∈ c.exceptionTable.toList, False) (hcs : 1 ≤ R.cells ∧ 6 ≤ R.slots) (hR : 6 ≤ R.frames ∧ 140 ≤ R.locals) (M0 : sx_M) (r : Nat ⊕ Int32) (M' : sx_M) (h : f7_load M0 = some (r, M')) (hl : lv_has ls 3 [(0, .ref (sx_ad C 0 0))]) (hP : sx_W C M0 H) (hS : va_S (sx_A C) s.heap H locs) : W p l e R s m args below meth c H locs 0 0 (vx_MQ below (sx_QN C (sx_oi r) M') (sx_QX C (sx_oi r) M') args s 1 6 (sx_A C)) (F0 m 0 ls []) := by
  obtain ⟨hx, hb, hml, hown, hts, hK⟩ := id X
  rw [f7_load] at h
  have hf7_load_L38 : ∀ (k56 : (sx_M → Option ((Nat ⊕ Int32) × sx_M))) (n : Nat) (hk56 : (∀ (M : sx_M) (H : Heap) (locs : List Loc) (ls : Array Slot), lv_has ls 3 [(0, .ref (sx_ad C 0 0))] → sx_W C M H → va_S (sx_A C) s.heap H locs → k56 M = some (r, M') → W p l e R s m args below meth c H locs 0 0 (vx_MQ below (sx_QN C (sx_oi r) M') (sx_QX C (sx_oi r) M') args s 1 6 (sx_A C)) (F0 m 56 ls []))) (x1 : Int32) (M : sx_M) (H : Heap) (locs : List Loc) (ls : Array Slot), lv_has ls 3 [(0, .ref (sx_ad C 0 0)), (1, .int x1)] → sx_W C M H → va_S (sx_A C) s.heap H locs → f7_load_L38 k56 n x1 M = some (r, M') → W p l e R s m args below meth c H locs 0 0 (vx_MQ below (sx_QN C (sx_oi r) M') (sx_QX C (sx_oi r) M') args s 1 6 (sx_A C)) (F0 m 38 ls []) := by
    intro k56 n hk56
    induction n with
    | zero => intro x1 M H locs ls hl hP hS h; exact absurd (show (none : Option ((Nat ⊕ Int32) × sx_M)) = some (r, M') from h) (fun q => nomatch q)
    | succ n ih =>
      intro x1 M H locs ls hl hP hS h
      rw [f7_load_L38] at h
      refine lv_iload_n hx hb dX7_load_38 rfl (lv_at hl 1 rfl) ?_
      refine lv_iconst (v := (2 : Int32)) hx hb dX7_load_39 (by decide) ?_
      refine lv_icmp_ge (tgt := 56) hx hb dX7_load_40 (by decide) (fun c5 => ?_) (fun c5 => ?_)
      · replace h := sx_ifp h c5
        exact hk56 M H locs ls (lv_sub hl [0] rfl) hP hS h
      · replace h := sx_ifn h c5
        refine lv_aload_n hx hb dX7_load_43 rfl (lv_at hl 0 rfl) ?_
        refine gf_X7_30 X hP (by decide) dX7_load_44 ?_
        refine lv_iload_n hx hb dX7_load_47 rfl (lv_at hl 1 rfl) ?_
        refine lv_iconst (v := (0 : Int32)) hx hb dX7_load_48 (by decide) ?_
        refine sx_zast X hG hP hS 12 0 2 (by decide) (fun _ _ => rfl) dX7_load_49 h (fun M6 H locs h hP hS => ?_)
        obtain ⟨v7, e_v7, h⟩ := sx_nm h
        refine lv_iinc (v := v7) (lv' := [(1, .int v7), (0, .ref (sx_ad C 0 0))]) hx hb dX7_load_50 hl (k := 1) rfl (by rw [← e_v7]; rfl) (by decide) rfl (fun ls hl => ?_)
        refine lv_goto (tgt := 38) hx hb dX7_load_53 (by decide) ?_
        exact ih v7 M6 H locs ls (lv_sub hl [1, 0] rfl) hP hS h
  have hf7_load_L60 : ∀ (n : Nat) (x1 : Int32) (x2 : Int32) (M : sx_M) (H : Heap) (locs : List Loc) (ls : Array Slot), lv_has ls 3 [(0, .ref (sx_ad C 0 0)), (1, .int x1), (2, .int x2)] → sx_W C M H → va_S (sx_A C) s.heap H locs → f7_load_L60 n x1 x2 M = some (r, M') → W p l e R s m args below meth c H locs 0 0 (vx_MQ below (sx_QN C (sx_oi r) M') (sx_QX C (sx_oi r) M') args s 1 6 (sx_A C)) (F0 m 60 ls []) := by
    intro n
    induction n with
    | zero => intro x1 x2 M H locs ls hl hP hS h; exact absurd (show (none : Option ((Nat ⊕ Int32) × sx_M)) = some (r, M') from h) (fun q => nomatch q)
    | succ n ih =>
      intro x1 x2 M H locs ls hl hP hS h
      rw [f7_load_L60] at h
      refine lv_iload_n hx hb dX7_load_60 rfl (lv_at hl 2 rfl) ?_
      refine lv_aload_n hx hb dX7_load_61 rfl (lv_at hl 0 rfl) ?_
      refine gf_X7_37 X hP (by decide) dX7_load_62 ?_
      obtain ⟨v9, e_v9, h⟩ := sx_bnd h
      refine cl_X7_83 X hG hP hz hS  e_v9 hl.1 dX7_load_65 ⟨Nat.le_trans (by decide) hcs.1, Nat.le_trans (by decide) hcs.2⟩ ⟨Nat.le_trans (by decide) hR.1, Nat.le_trans (by decide) hR.2⟩ (Nat.le_of_ble_eq_true rfl) (fun H locs hP hS => ?_)
      refine lv_icmp_ge (tgt := 111) hx hb dX7_load_68 (by decide) (fun c10 => ?_) (fun c10 => ?_)
      · replace h := sx_ifp h c10
        refine lv_iload_n hx hb dX7_load_111 rfl (lv_at hl 1 rfl) ?_
        exact sx_tiret X hr hlocks hS hP h dX7_load_112 (by decide) (by decide)
      · replace h := sx_ifn h c10
        refine lv_iload_n hx hb dX7_load_71 rfl (lv_at hl 1 rfl) ?_
        refine lv_aload_n hx hb dX7_load_72 rfl (lv_at hl 0 rfl) ?_
        refine gf_X7_37 X hP (by decide) dX7_load_73 ?_
        refine lv_iload_n hx hb dX7_load_76 rfl (lv_at hl 2 rfl) ?_
        obtain ⟨v11, e_v11, h⟩ := sx_bnd h
        refine cl_X7_86 X hG hP hz hS  e_v11 hl.1 dX7_load_77 ⟨Nat.le_trans (by decide) hcs.1, Nat.le_trans (by decide) hcs.2⟩ ⟨Nat.le_trans (by decide) hR.1, Nat.le_trans (by decide) hR.2⟩ (Nat.le_of_ble_eq_true rfl) (fun H locs hP hS => ?_)
        obtain ⟨j103, e_j103, h⟩ := sx_nm h
        have hj103 : ∀ (v12 : Int32) (M13 : sx_M) (H : Heap) (locs : List Loc) (ls : Array Slot), lv_has ls 3 [(0, .ref (sx_ad C 0 0)), (2, .int x2)] → sx_W C M13 H → va_S (sx_A C) s.heap H locs → j103 v12 M13 = some (r, M') → W p l e R s m args below meth c H locs 0 0 (vx_MQ below (sx_QN C (sx_oi r) M') (sx_QX C (sx_oi r) M') args s 1 6 (sx_A C)) (F0 m 103 ls [.int v12, .int x1]) := by
          intro v12 M13 H locs ls hl hP hS h
          subst e_j103
          refine lv_iadd hx hb dX7_load_103 ?_
          obtain ⟨v14, e_v14, h⟩ := sx_nm h
          rw [e_v14]
          refine lv_istore_n (lv' := [(1, .int v14), (0, .ref (sx_ad C 0 0)), (2, .int x2)]) hx hb dX7_load_104 rfl hl (by decide) rfl (fun ls hl => ?_)
          obtain ⟨v15, e_v15, h⟩ := sx_nm h
          refine lv_iinc (v := v15) (lv' := [(2, .int v15), (1, .int v14), (0, .ref (sx_ad C 0 0))]) hx hb dX7_load_105 hl (k := 2) rfl (by rw [← e_v15]; rfl) (by decide) rfl (fun ls hl => ?_)
          refine lv_goto (tgt := 60) hx hb dX7_load_108 (by decide) ?_
          exact ih v14 v15 M13 H locs ls (lv_sub hl [2, 1, 0] rfl) hP hS h
        clear e_j103
        obtain ⟨j102, e_j102, h⟩ := sx_nm h
        have hj102 : ∀ (M16 : sx_M) (H : Heap) (locs : List Loc) (ls : Array Slot), lv_has ls 3 [(0, .ref (sx_ad C 0 0)), (2, .int x2)] → sx_W C M16 H → va_S (sx_A C) s.heap H locs → j102 M16 = some (r, M') → W p l e R s m args below meth c H locs 0 0 (vx_MQ below (sx_QN C (sx_oi r) M') (sx_QX C (sx_oi r) M') args s 1 6 (sx_A C)) (F0 m 102 ls [.int x1]) := by
          intro M16 H locs ls hl hP hS h
          subst e_j102
          refine lv_iconst (v := (0 : Int32)) hx hb dX7_load_102 (by decide) ?_
          exact hj103 (0 : Int32) M16 H locs ls (lv_sub hl [0, 1] rfl) hP hS h
        clear e_j102
        refine lv_if_eq (tgt := 102) hx hb dX7_load_80 (by decide) (fun c17 => ?_) (fun c17 => ?_)
        · replace h := sx_ifp h c17
          exact hj102 M H locs ls (lv_sub hl [0, 2] rfl) hP hS h
        · replace h := sx_ifn h c17
          refine lv_aload_n hx hb dX7_load_83 rfl (lv_at hl 0 rfl) ?_
          refine gf_X7_37 X hP (by decide) dX7_load_84 ?_
          refine lv_iload_n hx hb dX7_load_87 rfl (lv_at hl 2 rfl) ?_
          refine lv_aload_n hx hb dX7_load_88 rfl (lv_at hl 0 rfl) ?_
          refine gf_X7_12 X hP (by decide) dX7_load_89 ?_
          obtain ⟨v18, M19, e_v18, h⟩ := sx_bnd2 h
          refine cl_X7_90 X hG hP hz hS (by decide) e_v18 hl.1 dX7_load_92 ⟨Nat.le_trans (by decide) hcs.1, Nat.le_trans (by decide) hcs.2⟩ ⟨Nat.le_trans (by decide) hR.1, Nat.le_trans (by decide) hR.2⟩ (Nat.le_of_ble_eq_true rfl) (fun H locs hP hS => ?_)
          refine lv_if_ne (tgt := 102) hx hb dX7_load_95 (by decide) (fun c20 => ?_) (fun c20 => ?_)
          · replace h := sx_ifn h c20
            exact hj102 M19 H locs ls (lv_sub hl [0, 2] rfl) hP hS h
          · replace h := sx_ifp h c20
            refine lv_iconst (v := (1 : Int32)) hx hb dX7_load_98 (by decide) ?_
            refine lv_goto (tgt := 103) hx hb dX7_load_99 (by decide) ?_
            exact hj103 (1 : Int32) M19 H locs ls (lv_sub hl [0, 2] rfl) hP hS h
  refine lv_aload_n hx hb dX7_load_0 rfl (lv_at hl 0 rfl) ?_
  refine gf_X7_37 X hP (by decide) dX7_load_1 ?_
  obtain ⟨v1, e_v1, h⟩ := sx_bnd h
  refine cl_X7_72 X hG hP hz hS  e_v1 hl.1 dX7_load_4 ⟨Nat.le_trans (by decide) hcs.1, Nat.le_trans (by decide) hcs.2⟩ ⟨Nat.le_trans (by decide) hR.1, Nat.le_trans (by decide) hR.2⟩ (Nat.le_of_ble_eq_true rfl) (fun H locs hP hS => ?_)
  refine lv_bipush (v := (-9 : Int32)) hx hb dX7_load_7 (by decide) ?_
  refine lv_icmp_eq (tgt := 22) hx hb dX7_load_9 (by decide) (fun c2 => ?_) (fun c2 => ?_)
  · replace h := sx_ifp h c2
    refine lv_aload_n hx hb dX7_load_22 rfl (lv_at hl 0 rfl) ?_
    refine gf_X7_12 X hP (by decide) dX7_load_23 ?_
    obtain ⟨M3, e_M3, h⟩ := sx_bnd h
    refine cl_X7_77 X hG hP hz hS (by decide) e_M3 hl.1 dX7_load_26 ⟨Nat.le_trans (by decide) hcs.1, Nat.le_trans (by decide) hcs.2⟩ ⟨Nat.le_trans (by decide) hR.1, Nat.le_trans (by decide) hR.2⟩ (Nat.le_of_ble_eq_true rfl) (fun H locs hP hS => ?_)
    refine lv_aload_n hx hb dX7_load_29 rfl (lv_at hl 0 rfl) ?_
    refine gf_X7_22 X hP (by decide) dX7_load_30 ?_
    obtain ⟨M4, e_M4, h⟩ := sx_bnd h
    refine cl_X7_80 X hG hP hz hS  e_M4 hl.1 dX7_load_33 ⟨Nat.le_trans (by decide) hcs.1, Nat.le_trans (by decide) hcs.2⟩ ⟨Nat.le_trans (by decide) hR.1, Nat.le_trans (by decide) hR.2⟩ (Nat.le_of_ble_eq_true rfl) (fun H locs hP hS => ?_)
    refine lv_iconst (v := (0 : Int32)) hx hb dX7_load_36 (by decide) ?_
    refine lv_istore_n (lv' := [(1, .int (0 : Int32)), (0, .ref (sx_ad C 0 0))]) hx hb dX7_load_37 rfl hl (by decide) rfl (fun ls hl => ?_)
    refine hf7_load_L38 _ 5000 ?_ (0 : Int32) M4 H locs ls (lv_sub hl [1, 0] rfl) hP hS h
    · intro M8 H locs ls hl hP hS h
      refine lv_iconst (v := (0 : Int32)) hx hb dX7_load_56 (by decide) ?_
      refine lv_istore_n (lv' := [(1, .int (0 : Int32)), (0, .ref (sx_ad C 0 0))]) hx hb dX7_load_57 rfl hl (by decide) rfl (fun ls hl => ?_)
      refine lv_iconst (v := (1 : Int32)) hx hb dX7_load_58 (by decide) ?_
      refine lv_istore_n (lv' := [(2, .int (1 : Int32)), (1, .int (0 : Int32)), (0, .ref (sx_ad C 0 0))]) hx hb dX7_load_59 rfl hl (by decide) rfl (fun ls hl => ?_)
      exact hf7_load_L60 5000 (0 : Int32) (1 : Int32) M8 H locs ls (lv_sub hl [2, 1, 0] rfl) hP hS h
  · replace h := sx_ifn h c2
    obtain ⟨q1, q2⟩ := Prod.mk.inj (Option.some.inj h)
    subst q1; subst q2
    exact sx_throw2 X hT hst hne hlocks hz hS hP hl.1 (is := 75) (List.mem_of_getElem? (i := 2) rfl) dX7_load_12 dX7_load_15 dX7_load_16 dX7_load_18 dX7_load_21 ⟨Nat.le_trans (by decide) hR.1, Nat.le_trans (by decide) hR.2⟩ ⟨Nat.le_trans (by decide) hcs.1, Nat.le_trans (by decide) hcs.2⟩ rfl (by decide) (by decide)
set_option maxRecDepth 100000 in
theorem ct_7_load (l : Launch) (hst : l.stackTraces = false) (C : sx_C) (hG : sx_G C) (M0 : sx_M) (r : Nat ⊕ Int32) (M' : sx_M) (h : f7_load M0 = some (r, M')) : vx_Met l yX7_load (.code yX7_load cX7_load 3 (some .int) :: sx_T) ({ frames := 6, cells := 1, slots := 6, locals := 140 } : Room) (sx_PcT C M0 [.ref (sx_ad C 0 0)]) (sx_QN C (sx_oi r) M') (sx_QX C (sx_oi r) M') 1 6 (sx_A C) := by
  refine vx_ofW (cc := cX7_load) (maxL := 3) (ret := (some .int)) (by decide) rfl ?_
  intro p e s m args below meth c s₁ B hml hne hv
  obtain ⟨rfl, hz, hP, hK, hT⟩ := hv
  have hl := lv_entry ([.ref (sx_ad C 0 0)]) (n := 3) (Nat.le_of_ble_eq_true rfl)
  rw [lg_entry_eq]
  generalize (lg_sl ([.ref (sx_ad C 0 0)]) ++ List.replicate (3 - (lg_sl ([.ref (sx_ad C 0 0)])).length) Slot.unset).toArray = ls at hl ⊢
  exact wk_7_load ⟨B.exec, B.bytes, hml, findClass_of_methodNamed B.named, fun w hw => atoms_spec B.pre w (List.mem_cons_of_mem _ hw), hK⟩ B.returns B.notSynchronized hG hz hT hst hne ⟨Nat.le_refl _, Nat.le_refl _⟩ ⟨Nat.le_refl _, Nat.le_refl _⟩ M0 r M' h hl hP va_S.rf
theorem clT_L_17 (X : sx_X C p m c cc nL s args RL) (hT : sx_thr C s) (hst : l.stackTraces = false) (hG : sx_G C) (hP : sx_W C M0 H) (hz : sx_sz C ≤ s.heap.size) (hS : va_S (sx_A C) s.heap H locs) {r : Nat ⊕ Int32} {M' : sx_M} (h : f7_load M0 = some (r, M')) (hsz : ls.size = nL) (hdg : decode cc pc = .ok (.invokevirtual 17, 3)) (hcs : cells + 1 ≤ R.cells ∧ slots + 6 ≤ R.slots) (hR : 6 + 1 ≤ R.frames ∧ 8 + (3 + 11) + 140 ≤ R.locals) (hrest : (rest.map fun v => v.category).sum ≤ 8) (kx : ∀ (k : Nat) (ce : Cell) (q9 : Addr) (H1 : Heap) (locs1 : List Loc), r = .inl k → sx_W C M' H1 → va_S (sx_A C) s.heap H1 locs1 → H1[q9]? = some ce → ce.vm = .none → s.vm.findClass (sx_exn k) = some ce.cls → vx_W p l e R s m args below meth c H1 locs1 (cells + 1) (slots + 6) Q (F0 m pc ls rest) q9) (kk : ∀ (v : Int32) (H1 : Heap) (locs1 : List Loc), r = .inr v → sx_W C M' H1 → va_S (sx_A C) s.heap H1 locs1 → W p l e R s m args below meth c H1 locs1 (cells + 1) (slots + 6) Q (F0 m (pc + 3) ls (.int v :: rest))) : W p l e R s m args below meth c H locs cells slots Q (F0 m pc ls (.ref (sx_ad C 0 0) :: rest)) := by
  exact sx_callVT (n := 0) (As := []) (k0 := 0) (s0 := 0) X hT hP hz hS (by decide) rfl rfl (sx_goodV tw_527 tw_528 tw_529 tw_64 tw_530) (by decide +kernel) rfl rfl hR (ct_7_load l hst C hG M0 r M' h) rfl rfl hrest hsz hdg hcs (fun k ce q9 H1 locs1 ho => kx k ce q9 H1 locs1 (sx_oi_l ho)) (fun rv H1 locs1 ho hW hS1 => by obtain ⟨v, e1, rfl⟩ := sx_oi_r ho; exact kk v H1 locs1 e1 hW hS1)
-- StringShed.about(I)I
def f7_about (a1 : Int32) (M0 : sx_M) : Option ((Nat ⊕ Int32) × sx_M) :=
  sx_bd (fun (_ : Unit) =>
    some (.inl 1, M0)) fun j10 =>
  if a1 < 0 then
    j10 ()
  else
    if a1 ≤ (11 : Int32) then
      (f3_figure 0 a1 M0).bind fun v3 =>
      some (.inr v3, M0)
    else
      j10 ()
set_option maxRecDepth 100000 in
set_option maxHeartbeats 4000000 in
theorem wk_7_about (X : sx_X C p m c cX7_about 2 s args RX7) (hr : meth.sig.returnType = (some .int)) (hlocks : meth.locks = false) (hG : sx_G C) (hz : sx_sz C ≤ s.heap.size) (hT : sx_thr C s) (hst : l.stackTraces = false) (hne : ∀ x ∈ c.exceptionTable.toList, False) (hcs : 1 ≤ R.cells ∧ 6 ≤ R.slots) (hR : 6 ≤ R.frames ∧ 82 ≤ R.locals) (a1 : Int32) (M0 : sx_M) (r : Nat ⊕ Int32) (M' : sx_M) (h : f7_about a1 M0 = some (r, M')) (hl : lv_has ls 2 [(0, .ref (sx_ad C 0 0)), (1, .int a1)]) (hP : sx_W C M0 H) (hS : va_S (sx_A C) s.heap H locs) : W p l e R s m args below meth c H locs 0 0 (vx_MQ below (sx_QN C (sx_oi r) M') (sx_QX C (sx_oi r) M') args s 1 6 (sx_A C)) (F0 m 0 ls []) := by
  obtain ⟨hx, hb, hml, hown, hts, hK⟩ := id X
  rw [f7_about] at h
  refine lv_iload_n hx hb dX7_about_0 rfl (lv_at hl 1 rfl) ?_
  obtain ⟨j10, e_j10, h⟩ := sx_nm h
  have hj10 : ∀ (H : Heap) (locs : List Loc) (ls : Array Slot), lv_has ls 2 [] → sx_W C M0 H → va_S (sx_A C) s.heap H locs → j10 () = some (r, M') → W p l e R s m args below meth c H locs 0 0 (vx_MQ below (sx_QN C (sx_oi r) M') (sx_QX C (sx_oi r) M') args s 1 6 (sx_A C)) (F0 m 10 ls []) := by
    intro  H locs ls hl hP hS h
    subst e_j10
    obtain ⟨q1, q2⟩ := Prod.mk.inj (Option.some.inj h)
    subst q1; subst q2
    exact sx_throw1 X hT hst hne hlocks hz hS hP hl.1 (is := 94) (List.mem_of_getElem? (i := 3) rfl) dX7_about_10 dX7_about_13 dX7_about_14 dX7_about_16 dX7_about_19 ⟨Nat.le_trans (by decide) hR.1, Nat.le_trans (by decide) hR.2⟩ ⟨Nat.le_trans (by decide) hcs.1, Nat.le_trans (by decide) hcs.2⟩ rfl (by decide) (by decide)
  clear e_j10
  refine lv_if_lt (tgt := 10) hx hb dX7_about_1 (by decide) (fun c1 => ?_) (fun c1 => ?_)
  · replace h := sx_ifp h c1
    exact hj10 H locs ls (lv_sub hl [] rfl) hP hS h
  · replace h := sx_ifn h c1
    refine lv_iload_n hx hb dX7_about_4 rfl (lv_at hl 1 rfl) ?_
    refine lv_bipush (v := (11 : Int32)) hx hb dX7_about_5 (by decide) ?_
    refine lv_icmp_le (tgt := 20) hx hb dX7_about_7 (by decide) (fun c2 => ?_) (fun c2 => ?_)
    · replace h := sx_ifp h c2
      refine lv_aload_n hx hb dX7_about_20 rfl (lv_at hl 0 rfl) ?_
      refine gf_X7_12 X hP (by decide) dX7_about_21 ?_
      refine lv_iload_n hx hb dX7_about_24 rfl (lv_at hl 1 rfl) ?_
      obtain ⟨v3, e_v3, h⟩ := sx_bnd h
      refine cl_X7_96 X hG hP hz hS (by decide) e_v3 hl.1 dX7_about_25 ⟨Nat.le_trans (by decide) hcs.1, Nat.le_trans (by decide) hcs.2⟩ ⟨Nat.le_trans (by decide) hR.1, Nat.le_trans (by decide) hR.2⟩ (Nat.le_of_ble_eq_true rfl) (fun H locs hP hS => ?_)
      exact sx_tiret X hr hlocks hS hP h dX7_about_28 (by decide) (by decide)
    · replace h := sx_ifn h c2
      exact hj10 H locs ls (lv_sub hl [] rfl) hP hS h
set_option maxRecDepth 100000 in
theorem ct_7_about (l : Launch) (hst : l.stackTraces = false) (C : sx_C) (hG : sx_G C) (a1 : Int32) (M0 : sx_M) (r : Nat ⊕ Int32) (M' : sx_M) (h : f7_about a1 M0 = some (r, M')) : vx_Met l yX7_about (.code yX7_about cX7_about 2 (some .int) :: sx_T) ({ frames := 6, cells := 1, slots := 6, locals := 82 } : Room) (sx_PcT C M0 [.ref (sx_ad C 0 0), .int a1]) (sx_QN C (sx_oi r) M') (sx_QX C (sx_oi r) M') 1 6 (sx_A C) := by
  refine vx_ofW (cc := cX7_about) (maxL := 2) (ret := (some .int)) (by decide) rfl ?_
  intro p e s m args below meth c s₁ B hml hne hv
  obtain ⟨rfl, hz, hP, hK, hT⟩ := hv
  have hl := lv_entry ([.ref (sx_ad C 0 0), .int a1]) (n := 2) (Nat.le_of_ble_eq_true rfl)
  rw [lg_entry_eq]
  generalize (lg_sl ([.ref (sx_ad C 0 0), .int a1]) ++ List.replicate (2 - (lg_sl ([.ref (sx_ad C 0 0), .int a1])).length) Slot.unset).toArray = ls at hl ⊢
  exact wk_7_about ⟨B.exec, B.bytes, hml, findClass_of_methodNamed B.named, fun w hw => atoms_spec B.pre w (List.mem_cons_of_mem _ hw), hK⟩ B.returns B.notSynchronized hG hz hT hst hne ⟨Nat.le_refl _, Nat.le_refl _⟩ ⟨Nat.le_refl _, Nat.le_refl _⟩ a1 M0 r M' h hl hP va_S.rf
theorem clT_L_21 (X : sx_X C p m c cc nL s args RL) (hT : sx_thr C s) (hst : l.stackTraces = false) (hG : sx_G C) (hP : sx_W C M0 H) (hz : sx_sz C ≤ s.heap.size) (hS : va_S (sx_A C) s.heap H locs) {a1 : Int32} {r : Nat ⊕ Int32} {M' : sx_M} (h : f7_about a1 M0 = some (r, M')) (hsz : ls.size = nL) (hdg : decode cc pc = .ok (.invokevirtual 21, 3)) (hcs : cells + 1 ≤ R.cells ∧ slots + 6 ≤ R.slots) (hR : 6 + 1 ≤ R.frames ∧ 8 + (2 + 11) + 82 ≤ R.locals) (hrest : (rest.map fun v => v.category).sum ≤ 8) (kx : ∀ (k : Nat) (ce : Cell) (q9 : Addr) (H1 : Heap) (locs1 : List Loc), r = .inl k → sx_W C M' H1 → va_S (sx_A C) s.heap H1 locs1 → H1[q9]? = some ce → ce.vm = .none → s.vm.findClass (sx_exn k) = some ce.cls → vx_W p l e R s m args below meth c H1 locs1 (cells + 1) (slots + 6) Q (F0 m pc ls rest) q9) (kk : ∀ (v : Int32) (H1 : Heap) (locs1 : List Loc), r = .inr v → sx_W C M' H1 → va_S (sx_A C) s.heap H1 locs1 → W p l e R s m args below meth c H1 locs1 (cells + 1) (slots + 6) Q (F0 m (pc + 3) ls (.int v :: rest))) : W p l e R s m args below meth c H locs cells slots Q (F0 m pc ls (.int a1 :: .ref (sx_ad C 0 0) :: rest)) := by
  exact sx_callVT (n := 1) (As := [.int a1]) (k0 := 0) (s0 := 0) X hT hP hz hS (by decide) rfl rfl (sx_goodV tw_659 tw_660 tw_661 tw_64 tw_662) (by decide +kernel) rfl rfl hR (ct_7_about l hst C hG a1 M0 r M' h) rfl rfl hrest hsz hdg hcs (fun k ce q9 H1 locs1 ho => kx k ce q9 H1 locs1 (sx_oi_l ho)) (fun rv H1 locs1 ho hW hS1 => by obtain ⟨v, e1, rfl⟩ := sx_oi_r ho; exact kk v H1 locs1 e1 hW hS1)
-- StringShed.refuse(I)V
def f7_refuse (a0 : Int32) (M0 : sx_M) : Option ((Nat ⊕ Unit) × sx_M) :=
  if a0 = (1 : Int32) then
    some (.inl 0, M0)
  else
    if a0 = (2 : Int32) then
      some (.inl 1, M0)
    else
      if a0 = (3 : Int32) then
        some (.inl 2, M0)
      else
        some (.inr (), M0)
set_option maxRecDepth 100000 in
set_option maxHeartbeats 4000000 in
theorem wk_7_refuse (X : sx_X C p m c cX7_refuse 1 s args RX7) (hr : meth.sig.returnType = none) (hlocks : meth.locks = false) (hG : sx_G C) (hz : sx_sz C ≤ s.heap.size) (hT : sx_thr C s) (hst : l.stackTraces = false) (hne : ∀ x ∈ c.exceptionTable.toList, False) (hcs : 1 ≤ R.cells ∧ 6 ≤ R.slots) (hR : 6 ≤ R.frames ∧ 82 ≤ R.locals) (a0 : Int32) (M0 : sx_M) (r : Nat ⊕ Unit) (M' : sx_M) (h : f7_refuse a0 M0 = some (r, M')) (hl : lv_has ls 1 [(0, .int a0)]) (hP : sx_W C M0 H) (hS : va_S (sx_A C) s.heap H locs) : W p l e R s m args below meth c H locs 0 0 (vx_MQ below (sx_QN C (sx_ou r) M') (sx_QX C (sx_ou r) M') args s 1 6 (sx_A C)) (F0 m 0 ls []) := by
  obtain ⟨hx, hb, hml, hown, hts, hK⟩ := id X
  rw [f7_refuse] at h
  refine lv_iload_n hx hb dX7_refuse_0 rfl (lv_at hl 0 rfl) ?_
  refine lv_iconst (v := (1 : Int32)) hx hb dX7_refuse_1 (by decide) ?_
  refine lv_icmp_ne (tgt := 15) hx hb dX7_refuse_2 (by decide) (fun c1 => ?_) (fun c1 => ?_)
  · replace h := sx_ifn h c1
    refine lv_iload_n hx hb dX7_refuse_15 rfl (lv_at hl 0 rfl) ?_
    refine lv_iconst (v := (2 : Int32)) hx hb dX7_refuse_16 (by decide) ?_
    refine lv_icmp_ne (tgt := 30) hx hb dX7_refuse_17 (by decide) (fun c2 => ?_) (fun c2 => ?_)
    · replace h := sx_ifn h c2
      refine lv_iload_n hx hb dX7_refuse_30 rfl (lv_at hl 0 rfl) ?_
      refine lv_iconst (v := (3 : Int32)) hx hb dX7_refuse_31 (by decide) ?_
      refine lv_icmp_ne (tgt := 45) hx hb dX7_refuse_32 (by decide) (fun c3 => ?_) (fun c3 => ?_)
      · replace h := sx_ifn h c3
        exact sx_tvret X hr hlocks hS hP h dX7_refuse_45 (by decide) (by decide)
      · replace h := sx_ifp h c3
        obtain ⟨q1, q2⟩ := Prod.mk.inj (Option.some.inj h)
        subst q1; subst q2
        exact sx_throw2 X hT hst hne hlocks hz hS hP hl.1 (is := 163) (List.mem_of_getElem? (i := 6) rfl) dX7_refuse_35 dX7_refuse_38 dX7_refuse_39 dX7_refuse_41 dX7_refuse_44 ⟨Nat.le_trans (by decide) hR.1, Nat.le_trans (by decide) hR.2⟩ ⟨Nat.le_trans (by decide) hcs.1, Nat.le_trans (by decide) hcs.2⟩ rfl (by decide) (by decide)
    · replace h := sx_ifp h c2
      obtain ⟨q1, q2⟩ := Prod.mk.inj (Option.some.inj h)
      subst q1; subst q2
      exact sx_throw1 X hT hst hne hlocks hz hS hP hl.1 (is := 161) (List.mem_of_getElem? (i := 5) rfl) dX7_refuse_20 dX7_refuse_23 dX7_refuse_24 dX7_refuse_26 dX7_refuse_29 ⟨Nat.le_trans (by decide) hR.1, Nat.le_trans (by decide) hR.2⟩ ⟨Nat.le_trans (by decide) hcs.1, Nat.le_trans (by decide) hcs.2⟩ rfl (by decide) (by decide)
  · replace h := sx_ifp h c1
    obtain ⟨q1, q2⟩ := Prod.mk.inj (Option.some.inj h)
    subst q1; subst q2
    exact sx_throw0 X hT hst hne hlocks hz hS hP hl.1 (is := 158) (List.mem_of_getElem? (i := 4) rfl) dX7_refuse_5 dX7_refuse_8 dX7_refuse_9 dX7_refuse_11 dX7_refuse_14 ⟨Nat.le_trans (by decide) hR.1, Nat.le_trans (by decide) hR.2⟩ ⟨Nat.le_trans (by decide) hcs.1, Nat.le_trans (by decide) hcs.2⟩ rfl (by decide) (by decide)
set_option maxRecDepth 100000 in
theorem ct_7_refuse (l : Launch) (hst : l.stackTraces = false) (C : sx_C) (hG : sx_G C) (a0 : Int32) (M0 : sx_M) (r : Nat ⊕ Unit) (M' : sx_M) (h : f7_refuse a0 M0 = some (r, M')) : vx_Met l yX7_refuse (.code yX7_refuse cX7_refuse 1 none :: sx_T) ({ frames := 6, cells := 1, slots := 6, locals := 82 } : Room) (sx_PcT C M0 [.int a0]) (sx_QN C (sx_ou r) M') (sx_QX C (sx_ou r) M') 1 6 (sx_A C) := by
  refine vx_ofW (cc := cX7_refuse) (maxL := 1) (ret := none) (by decide) rfl ?_
  intro p e s m args below meth c s₁ B hml hne hv
  obtain ⟨rfl, hz, hP, hK, hT⟩ := hv
  have hl := lv_entry ([.int a0]) (n := 1) (Nat.le_of_ble_eq_true rfl)
  rw [lg_entry_eq]
  generalize (lg_sl ([.int a0]) ++ List.replicate (1 - (lg_sl ([.int a0])).length) Slot.unset).toArray = ls at hl ⊢
  exact wk_7_refuse ⟨B.exec, B.bytes, hml, findClass_of_methodNamed B.named, fun w hw => atoms_spec B.pre w (List.mem_cons_of_mem _ hw), hK⟩ B.returns B.notSynchronized hG hz hT hst hne ⟨Nat.le_refl _, Nat.le_refl _⟩ ⟨Nat.le_refl _, Nat.le_refl _⟩ a0 M0 r M' h hl hP va_S.rf
theorem clT_X7_102 (X : sx_X C p m c cc nL s args RX7) (hT : sx_thr C s) (hst : l.stackTraces = false) (hG : sx_G C) (hP : sx_W C M0 H) (hz : sx_sz C ≤ s.heap.size) (hS : va_S (sx_A C) s.heap H locs) {a0 : Int32} {r : Nat ⊕ Unit} {M' : sx_M} (h : f7_refuse a0 M0 = some (r, M')) (hsz : ls.size = nL) (hdg : decode cc pc = .ok (.invokestatic 102, 3)) (hcs : cells + 1 ≤ R.cells ∧ slots + 6 ≤ R.slots) (hR : 6 + 1 ≤ R.frames ∧ 8 + (1 + 11) + 82 ≤ R.locals) (hrest : (rest.map fun v => v.category).sum ≤ 8) (kx : ∀ (k : Nat) (ce : Cell) (q9 : Addr) (H1 : Heap) (locs1 : List Loc), r = .inl k → sx_W C M' H1 → va_S (sx_A C) s.heap H1 locs1 → H1[q9]? = some ce → ce.vm = .none → s.vm.findClass (sx_exn k) = some ce.cls → vx_W p l e R s m args below meth c H1 locs1 (cells + 1) (slots + 6) Q (F0 m pc ls rest) q9) (kk : ∀ (H1 : Heap) (locs1 : List Loc), r = .inr () → sx_W C M' H1 → va_S (sx_A C) s.heap H1 locs1 → W p l e R s m args below meth c H1 locs1 (cells + 1) (slots + 6) Q (F0 m (pc + 3) ls (rest))) : W p l e R s m args below meth c H locs cells slots Q (F0 m pc ls (.int a0 :: rest)) := by
  exact sx_callST (n := 1) (As := [.int a0]) X hT hP hz hS (sx_goodS tw_686 tw_687 tw_64 tw_688) (by decide +kernel) rfl rfl hR (ct_7_refuse l hst C hG a0 M0 r M' h) rfl rfl hrest hsz hdg hcs (fun k ce q9 H1 locs1 ho => kx k ce q9 H1 locs1 (sx_ou_l ho)) (fun rv H1 locs1 ho hW hS1 => by obtain ⟨e1, rfl⟩ := sx_ou_r ho; exact kk H1 locs1 e1 hW hS1)
-- StringShed.part(II)I
def f7_part (a1 : Int32) (a2 : Int32) (M0 : sx_M) : Option ((Nat ⊕ Int32) × sx_M) :=
  (f3_partFault 0 a1 M0).bind fun v1 =>
  sx_bT (f7_refuse v1 M0) fun _ M3 =>
  sx_bd (fun (_ : Unit) =>
    some (.inl 1, M3)) fun j21 =>
  if a2 < 0 then
    j21 ()
  else
    if a2 ≤ (6 : Int32) then
      (f3_figureOf 0 a1 a2 M3).bind fun v6 =>
      some (.inr v6, M3)
    else
      j21 ()
set_option maxRecDepth 100000 in
set_option maxHeartbeats 4000000 in
theorem wk_7_part (X : sx_X C p m c cX7_part 3 s args RX7) (hr : meth.sig.returnType = (some .int)) (hlocks : meth.locks = false) (hG : sx_G C) (hz : sx_sz C ≤ s.heap.size) (hT : sx_thr C s) (hst : l.stackTraces = false) (hne : ∀ x ∈ c.exceptionTable.toList, False) (hcs : 2 ≤ R.cells ∧ 12 ≤ R.slots) (hR : 7 ≤ R.frames ∧ 102 ≤ R.locals) (a1 : Int32) (a2 : Int32) (M0 : sx_M) (r : Nat ⊕ Int32) (M' : sx_M) (h : f7_part a1 a2 M0 = some (r, M')) (hl : lv_has ls 3 [(0, .ref (sx_ad C 0 0)), (1, .int a1), (2, .int a2)]) (hP : sx_W C M0 H) (hS : va_S (sx_A C) s.heap H locs) : W p l e R s m args below meth c H locs 0 0 (vx_MQ below (sx_QN C (sx_oi r) M') (sx_QX C (sx_oi r) M') args s 2 12 (sx_A C)) (F0 m 0 ls []) := by
  obtain ⟨hx, hb, hml, hown, hts, hK⟩ := id X
  rw [f7_part] at h
  refine lv_aload_n hx hb dX7_part_0 rfl (lv_at hl 0 rfl) ?_
  refine gf_X7_12 X hP (by decide) dX7_part_1 ?_
  refine lv_iload_n hx hb dX7_part_4 rfl (lv_at hl 1 rfl) ?_
  obtain ⟨v1, e_v1, h⟩ := sx_bnd h
  refine cl_X7_99 X hG hP hz hS (by decide) e_v1 hl.1 dX7_part_5 ⟨Nat.le_trans (by decide) hcs.1, Nat.le_trans (by decide) hcs.2⟩ ⟨Nat.le_trans (by decide) hR.1, Nat.le_trans (by decide) hR.2⟩ (Nat.le_of_ble_eq_true rfl) (fun H locs hP hS => ?_)
  obtain ⟨q2, M3, e_q2, hk_q2, hv_q2⟩ := sx_bTe h
  refine clT_X7_102 X hT hst hG hP hz hS  e_q2 hl.1 dX7_part_8 ⟨Nat.le_trans (by decide) hcs.1, Nat.le_trans (by decide) hcs.2⟩ ⟨Nat.le_trans (by decide) hR.1, Nat.le_trans (by decide) hR.2⟩ (Nat.le_of_ble_eq_true rfl) (fun k ce q9 H locs ho hP hS g1 g2 g3 => ?_) (fun H locs ho hP hS => ?_)
  · obtain ⟨q1, q2⟩ := hk_q2 k ho
    subst q1; subst q2
    exact sx_out hne hlocks hS hP rfl g1 g2 g3 (by decide) (by decide)
  replace h := hv_q2 () ho
  refine lv_iload_n hx hb dX7_part_11 rfl (lv_at hl 2 rfl) ?_
  obtain ⟨j21, e_j21, h⟩ := sx_nm h
  have hj21 : ∀ (H : Heap) (locs : List Loc) (ls : Array Slot), lv_has ls 3 [] → sx_W C M3 H → va_S (sx_A C) s.heap H locs → j21 () = some (r, M') → W p l e R s m args below meth c H locs 1 6 (vx_MQ below (sx_QN C (sx_oi r) M') (sx_QX C (sx_oi r) M') args s 2 12 (sx_A C)) (F0 m 21 ls []) := by
    intro  H locs ls hl hP hS h
    subst e_j21
    obtain ⟨q1, q2⟩ := Prod.mk.inj (Option.some.inj h)
    subst q1; subst q2
    exact sx_throw1 X hT hst hne hlocks hz hS hP hl.1 (is := 106) (List.mem_of_getElem? (i := 7) rfl) dX7_part_21 dX7_part_24 dX7_part_25 dX7_part_27 dX7_part_30 ⟨Nat.le_trans (by decide) hR.1, Nat.le_trans (by decide) hR.2⟩ ⟨Nat.le_trans (by decide) hcs.1, Nat.le_trans (by decide) hcs.2⟩ rfl (by decide) (by decide)
  clear e_j21
  refine lv_if_lt (tgt := 21) hx hb dX7_part_12 (by decide) (fun c4 => ?_) (fun c4 => ?_)
  · replace h := sx_ifp h c4
    exact hj21 H locs ls (lv_sub hl [] rfl) hP hS h
  · replace h := sx_ifn h c4
    refine lv_iload_n hx hb dX7_part_15 rfl (lv_at hl 2 rfl) ?_
    refine lv_bipush (v := (6 : Int32)) hx hb dX7_part_16 (by decide) ?_
    refine lv_icmp_le (tgt := 31) hx hb dX7_part_18 (by decide) (fun c5 => ?_) (fun c5 => ?_)
    · replace h := sx_ifp h c5
      refine lv_aload_n hx hb dX7_part_31 rfl (lv_at hl 0 rfl) ?_
      refine gf_X7_12 X hP (by decide) dX7_part_32 ?_
      refine lv_iload_n hx hb dX7_part_35 rfl (lv_at hl 1 rfl) ?_
      refine lv_iload_n hx hb dX7_part_36 rfl (lv_at hl 2 rfl) ?_
      obtain ⟨v6, e_v6, h⟩ := sx_bnd h
      refine cl_X7_108 X hG hP hz hS (by decide) e_v6 hl.1 dX7_part_37 ⟨Nat.le_trans (by decide) hcs.1, Nat.le_trans (by decide) hcs.2⟩ ⟨Nat.le_trans (by decide) hR.1, Nat.le_trans (by decide) hR.2⟩ (Nat.le_of_ble_eq_true rfl) (fun H locs hP hS => ?_)
      exact sx_tiret X hr hlocks hS hP h dX7_part_40 (by decide) (by decide)
    · replace h := sx_ifn h c5
      exact hj21 H locs ls (lv_sub hl [] rfl) hP hS h
set_option maxRecDepth 100000 in
theorem ct_7_part (l : Launch) (hst : l.stackTraces = false) (C : sx_C) (hG : sx_G C) (a1 : Int32) (a2 : Int32) (M0 : sx_M) (r : Nat ⊕ Int32) (M' : sx_M) (h : f7_part a1 a2 M0 = some (r, M')) : vx_Met l yX7_part (.code yX7_part cX7_part 3 (some .int) :: sx_T) ({ frames := 7, cells := 2, slots := 12, locals := 102 } : Room) (sx_PcT C M0 [.ref (sx_ad C 0 0), .int a1, .int a2]) (sx_QN C (sx_oi r) M') (sx_QX C (sx_oi r) M') 2 12 (sx_A C) := by
  refine vx_ofW (cc := cX7_part) (maxL := 3) (ret := (some .int)) (by decide) rfl ?_
  intro p e s m args below meth c s₁ B hml hne hv
  obtain ⟨rfl, hz, hP, hK, hT⟩ := hv
  have hl := lv_entry ([.ref (sx_ad C 0 0), .int a1, .int a2]) (n := 3) (Nat.le_of_ble_eq_true rfl)
  rw [lg_entry_eq]
  generalize (lg_sl ([.ref (sx_ad C 0 0), .int a1, .int a2]) ++ List.replicate (3 - (lg_sl ([.ref (sx_ad C 0 0), .int a1, .int a2])).length) Slot.unset).toArray = ls at hl ⊢
  exact wk_7_part ⟨B.exec, B.bytes, hml, findClass_of_methodNamed B.named, fun w hw => atoms_spec B.pre w (List.mem_cons_of_mem _ hw), hK⟩ B.returns B.notSynchronized hG hz hT hst hne ⟨Nat.le_refl _, Nat.le_refl _⟩ ⟨Nat.le_refl _, Nat.le_refl _⟩ a1 a2 M0 r M' h hl hP va_S.rf
theorem clT_L_24 (X : sx_X C p m c cc nL s args RL) (hT : sx_thr C s) (hst : l.stackTraces = false) (hG : sx_G C) (hP : sx_W C M0 H) (hz : sx_sz C ≤ s.heap.size) (hS : va_S (sx_A C) s.heap H locs) {a1 : Int32} {a2 : Int32} {r : Nat ⊕ Int32} {M' : sx_M} (h : f7_part a1 a2 M0 = some (r, M')) (hsz : ls.size = nL) (hdg : decode cc pc = .ok (.invokevirtual 24, 3)) (hcs : cells + 2 ≤ R.cells ∧ slots + 12 ≤ R.slots) (hR : 7 + 1 ≤ R.frames ∧ 8 + (3 + 11) + 102 ≤ R.locals) (hrest : (rest.map fun v => v.category).sum ≤ 8) (kx : ∀ (k : Nat) (ce : Cell) (q9 : Addr) (H1 : Heap) (locs1 : List Loc), r = .inl k → sx_W C M' H1 → va_S (sx_A C) s.heap H1 locs1 → H1[q9]? = some ce → ce.vm = .none → s.vm.findClass (sx_exn k) = some ce.cls → vx_W p l e R s m args below meth c H1 locs1 (cells + 2) (slots + 12) Q (F0 m pc ls rest) q9) (kk : ∀ (v : Int32) (H1 : Heap) (locs1 : List Loc), r = .inr v → sx_W C M' H1 → va_S (sx_A C) s.heap H1 locs1 → W p l e R s m args below meth c H1 locs1 (cells + 2) (slots + 12) Q (F0 m (pc + 3) ls (.int v :: rest))) : W p l e R s m args below meth c H locs cells slots Q (F0 m pc ls (.int a2 :: .int a1 :: .ref (sx_ad C 0 0) :: rest)) := by
  exact sx_callVT (n := 2) (As := [.int a1, .int a2]) (k0 := 0) (s0 := 0) X hT hP hz hS (by decide) rfl rfl (sx_goodV tw_681 tw_682 tw_683 tw_64 tw_684) (by decide +kernel) rfl rfl hR (ct_7_part l hst C hG a1 a2 M0 r M' h) rfl rfl hrest hsz hdg hcs (fun k ce q9 H1 locs1 ho => kx k ce q9 H1 locs1 (sx_oi_l ho)) (fun rv H1 locs1 ho hW hS1 => by obtain ⟨v, e1, rfl⟩ := sx_oi_r ho; exact kk v H1 locs1 e1 hW hS1)
-- StringShed.string(II)I
def f7_string (a1 : Int32) (a2 : Int32) (M0 : sx_M) : Option ((Nat ⊕ Int32) × sx_M) :=
  (f3_placeFault 0 a1 a2 M0).bind fun v1 =>
  sx_bT (f7_refuse v1 M0) fun _ M3 =>
  (f4_find 0 a1 a2 M3).bind fun v4 =>
  (f4_kindAt 0 v4 M3).bind fun v5 =>
  some (.inr v5, M3)
set_option maxRecDepth 100000 in
set_option maxHeartbeats 4000000 in
theorem wk_7_string (X : sx_X C p m c cX7_string 3 s args RX7) (hr : meth.sig.returnType = (some .int)) (hlocks : meth.locks = false) (hG : sx_G C) (hz : sx_sz C ≤ s.heap.size) (hT : sx_thr C s) (hst : l.stackTraces = false) (hne : ∀ x ∈ c.exceptionTable.toList, False) (hcs : 1 ≤ R.cells ∧ 6 ≤ R.slots) (hR : 7 ≤ R.frames ∧ 102 ≤ R.locals) (a1 : Int32) (a2 : Int32) (M0 : sx_M) (r : Nat ⊕ Int32) (M' : sx_M) (h : f7_string a1 a2 M0 = some (r, M')) (hl : lv_has ls 3 [(0, .ref (sx_ad C 0 0)), (1, .int a1), (2, .int a2)]) (hP : sx_W C M0 H) (hS : va_S (sx_A C) s.heap H locs) : W p l e R s m args below meth c H locs 0 0 (vx_MQ below (sx_QN C (sx_oi r) M') (sx_QX C (sx_oi r) M') args s 1 6 (sx_A C)) (F0 m 0 ls []) := by
  obtain ⟨hx, hb, hml, hown, hts, hK⟩ := id X
  rw [f7_string] at h
  refine lv_aload_n hx hb dX7_string_0 rfl (lv_at hl 0 rfl) ?_
  refine gf_X7_12 X hP (by decide) dX7_string_1 ?_
  refine lv_iload_n hx hb dX7_string_4 rfl (lv_at hl 1 rfl) ?_
  refine lv_iload_n hx hb dX7_string_5 rfl (lv_at hl 2 rfl) ?_
  obtain ⟨v1, e_v1, h⟩ := sx_bnd h
  refine cl_X7_112 X hG hP hz hS (by decide) e_v1 hl.1 dX7_string_6 ⟨Nat.le_trans (by decide) hcs.1, Nat.le_trans (by decide) hcs.2⟩ ⟨Nat.le_trans (by decide) hR.1, Nat.le_trans (by decide) hR.2⟩ (Nat.le_of_ble_eq_true rfl) (fun H locs hP hS => ?_)
  obtain ⟨q2, M3, e_q2, hk_q2, hv_q2⟩ := sx_bTe h
  refine clT_X7_102 X hT hst hG hP hz hS  e_q2 hl.1 dX7_string_9 ⟨Nat.le_trans (by decide) hcs.1, Nat.le_trans (by decide) hcs.2⟩ ⟨Nat.le_trans (by decide) hR.1, Nat.le_trans (by decide) hR.2⟩ (Nat.le_of_ble_eq_true rfl) (fun k ce q9 H locs ho hP hS g1 g2 g3 => ?_) (fun H locs ho hP hS => ?_)
  · obtain ⟨q1, q2⟩ := hk_q2 k ho
    subst q1; subst q2
    exact sx_out hne hlocks hS hP rfl g1 g2 g3 (by decide) (by decide)
  replace h := hv_q2 () ho
  refine lv_aload_n hx hb dX7_string_12 rfl (lv_at hl 0 rfl) ?_
  refine gf_X7_12 X hP (by decide) dX7_string_13 ?_
  refine gf_X7_115 X hP (by decide) dX7_string_16 ?_
  refine lv_aload_n hx hb dX7_string_19 rfl (lv_at hl 0 rfl) ?_
  refine gf_X7_12 X hP (by decide) dX7_string_20 ?_
  refine gf_X7_115 X hP (by decide) dX7_string_23 ?_
  refine lv_iload_n hx hb dX7_string_26 rfl (lv_at hl 1 rfl) ?_
  refine lv_iload_n hx hb dX7_string_27 rfl (lv_at hl 2 rfl) ?_
  obtain ⟨v4, e_v4, h⟩ := sx_bnd h
  refine cl_X7_119 X hG hP hz hS (by decide) e_v4 hl.1 dX7_string_28 ⟨Nat.le_trans (by decide) hcs.1, Nat.le_trans (by decide) hcs.2⟩ ⟨Nat.le_trans (by decide) hR.1, Nat.le_trans (by decide) hR.2⟩ (Nat.le_of_ble_eq_true rfl) (fun H locs hP hS => ?_)
  obtain ⟨v5, e_v5, h⟩ := sx_bnd h
  refine cl_X7_124 X hG hP hz hS (by decide) e_v5 hl.1 dX7_string_31 ⟨Nat.le_trans (by decide) hcs.1, Nat.le_trans (by decide) hcs.2⟩ ⟨Nat.le_trans (by decide) hR.1, Nat.le_trans (by decide) hR.2⟩ (Nat.le_of_ble_eq_true rfl) (fun H locs hP hS => ?_)
  exact sx_tiret X hr hlocks hS hP h dX7_string_34 (by decide) (by decide)
set_option maxRecDepth 100000 in
theorem ct_7_string (l : Launch) (hst : l.stackTraces = false) (C : sx_C) (hG : sx_G C) (a1 : Int32) (a2 : Int32) (M0 : sx_M) (r : Nat ⊕ Int32) (M' : sx_M) (h : f7_string a1 a2 M0 = some (r, M')) : vx_Met l yX7_string (.code yX7_string cX7_string 3 (some .int) :: sx_T) ({ frames := 7, cells := 1, slots := 6, locals := 102 } : Room) (sx_PcT C M0 [.ref (sx_ad C 0 0), .int a1, .int a2]) (sx_QN C (sx_oi r) M') (sx_QX C (sx_oi r) M') 1 6 (sx_A C) := by
  refine vx_ofW (cc := cX7_string) (maxL := 3) (ret := (some .int)) (by decide) rfl ?_
  intro p e s m args below meth c s₁ B hml hne hv
  obtain ⟨rfl, hz, hP, hK, hT⟩ := hv
  have hl := lv_entry ([.ref (sx_ad C 0 0), .int a1, .int a2]) (n := 3) (Nat.le_of_ble_eq_true rfl)
  rw [lg_entry_eq]
  generalize (lg_sl ([.ref (sx_ad C 0 0), .int a1, .int a2]) ++ List.replicate (3 - (lg_sl ([.ref (sx_ad C 0 0), .int a1, .int a2])).length) Slot.unset).toArray = ls at hl ⊢
  exact wk_7_string ⟨B.exec, B.bytes, hml, findClass_of_methodNamed B.named, fun w hw => atoms_spec B.pre w (List.mem_cons_of_mem _ hw), hK⟩ B.returns B.notSynchronized hG hz hT hst hne ⟨Nat.le_refl _, Nat.le_refl _⟩ ⟨Nat.le_refl _, Nat.le_refl _⟩ a1 a2 M0 r M' h hl hP va_S.rf
theorem clT_L_30 (X : sx_X C p m c cc nL s args RL) (hT : sx_thr C s) (hst : l.stackTraces = false) (hG : sx_G C) (hP : sx_W C M0 H) (hz : sx_sz C ≤ s.heap.size) (hS : va_S (sx_A C) s.heap H locs) {a1 : Int32} {a2 : Int32} {r : Nat ⊕ Int32} {M' : sx_M} (h : f7_string a1 a2 M0 = some (r, M')) (hsz : ls.size = nL) (hdg : decode cc pc = .ok (.invokevirtual 30, 3)) (hcs : cells + 1 ≤ R.cells ∧ slots + 6 ≤ R.slots) (hR : 7 + 1 ≤ R.frames ∧ 8 + (3 + 11) + 102 ≤ R.locals) (hrest : (rest.map fun v => v.category).sum ≤ 8) (kx : ∀ (k : Nat) (ce : Cell) (q9 : Addr) (H1 : Heap) (locs1 : List Loc), r = .inl k → sx_W C M' H1 → va_S (sx_A C) s.heap H1 locs1 → H1[q9]? = some ce → ce.vm = .none → s.vm.findClass (sx_exn k) = some ce.cls → vx_W p l e R s m args below meth c H1 locs1 (cells + 1) (slots + 6) Q (F0 m pc ls rest) q9) (kk : ∀ (v : Int32) (H1 : Heap) (locs1 : List Loc), r = .inr v → sx_W C M' H1 → va_S (sx_A C) s.heap H1 locs1 → W p l e R s m args below meth c H1 locs1 (cells + 1) (slots + 6) Q (F0 m (pc + 3) ls (.int v :: rest))) : W p l e R s m args below meth c H locs cells slots Q (F0 m pc ls (.int a2 :: .int a1 :: .ref (sx_ad C 0 0) :: rest)) := by
  exact sx_callVT (n := 2) (As := [.int a1, .int a2]) (k0 := 0) (s0 := 0) X hT hP hz hS (by decide) rfl rfl (sx_goodV tw_736 tw_737 tw_738 tw_64 tw_739) (by decide +kernel) rfl rfl hR (ct_7_string l hst C hG a1 a2 M0 r M' h) rfl rfl hrest hsz hdg hcs (fun k ce q9 H1 locs1 ho => kx k ce q9 H1 locs1 (sx_oi_l ho)) (fun rv H1 locs1 ho hW hS1 => by obtain ⟨v, e1, rfl⟩ := sx_oi_r ho; exact kk v H1 locs1 e1 hW hS1)
-- StringShed.stringAt(I)I
def f7_stringAt (a1 : Int32) (M0 : sx_M) : Option ((Nat ⊕ Int32) × sx_M) :=
  if 0 ≤ a1 then
    (f4_codeAt 0 a1 M0).bind fun v2 =>
    some (.inr v2, M0)
  else
    some (.inl 1, M0)
set_option maxRecDepth 100000 in
set_option maxHeartbeats 4000000 in
theorem wk_7_stringAt (X : sx_X C p m c cX7_stringAt 2 s args RX7) (hr : meth.sig.returnType = (some .int)) (hlocks : meth.locks = false) (hG : sx_G C) (hz : sx_sz C ≤ s.heap.size) (hT : sx_thr C s) (hst : l.stackTraces = false) (hne : ∀ x ∈ c.exceptionTable.toList, False) (hcs : 1 ≤ R.cells ∧ 6 ≤ R.slots) (hR : 6 ≤ R.frames ∧ 82 ≤ R.locals) (a1 : Int32) (M0 : sx_M) (r : Nat ⊕ Int32) (M' : sx_M) (h : f7_stringAt a1 M0 = some (r, M')) (hl : lv_has ls 2 [(0, .ref (sx_ad C 0 0)), (1, .int a1)]) (hP : sx_W C M0 H) (hS : va_S (sx_A C) s.heap H locs) : W p l e R s m args below meth c H locs 0 0 (vx_MQ below (sx_QN C (sx_oi r) M') (sx_QX C (sx_oi r) M') args s 1 6 (sx_A C)) (F0 m 0 ls []) := by
  obtain ⟨hx, hb, hml, hown, hts, hK⟩ := id X
  rw [f7_stringAt] at h
  refine lv_iload_n hx hb dX7_stringAt_0 rfl (lv_at hl 1 rfl) ?_
  refine lv_if_ge (tgt := 14) hx hb dX7_stringAt_1 (by decide) (fun c1 => ?_) (fun c1 => ?_)
  · replace h := sx_ifp h c1
    refine lv_aload_n hx hb dX7_stringAt_14 rfl (lv_at hl 0 rfl) ?_
    refine gf_X7_12 X hP (by decide) dX7_stringAt_15 ?_
    refine gf_X7_115 X hP (by decide) dX7_stringAt_18 ?_
    refine lv_iload_n hx hb dX7_stringAt_21 rfl (lv_at hl 1 rfl) ?_
    obtain ⟨v2, e_v2, h⟩ := sx_bnd h
    refine cl_X7_129 X hG hP hz hS (by decide) e_v2 hl.1 dX7_stringAt_22 ⟨Nat.le_trans (by decide) hcs.1, Nat.le_trans (by decide) hcs.2⟩ ⟨Nat.le_trans (by decide) hR.1, Nat.le_trans (by decide) hR.2⟩ (Nat.le_of_ble_eq_true rfl) (fun H locs hP hS => ?_)
    exact sx_tiret X hr hlocks hS hP h dX7_stringAt_25 (by decide) (by decide)
  · replace h := sx_ifn h c1
    obtain ⟨q1, q2⟩ := Prod.mk.inj (Option.some.inj h)
    subst q1; subst q2
    exact sx_throw1 X hT hst hne hlocks hz hS hP hl.1 (is := 127) (List.mem_of_getElem? (i := 8) rfl) dX7_stringAt_4 dX7_stringAt_7 dX7_stringAt_8 dX7_stringAt_10 dX7_stringAt_13 ⟨Nat.le_trans (by decide) hR.1, Nat.le_trans (by decide) hR.2⟩ ⟨Nat.le_trans (by decide) hcs.1, Nat.le_trans (by decide) hcs.2⟩ rfl (by decide) (by decide)
set_option maxRecDepth 100000 in
theorem ct_7_stringAt (l : Launch) (hst : l.stackTraces = false) (C : sx_C) (hG : sx_G C) (a1 : Int32) (M0 : sx_M) (r : Nat ⊕ Int32) (M' : sx_M) (h : f7_stringAt a1 M0 = some (r, M')) : vx_Met l yX7_stringAt (.code yX7_stringAt cX7_stringAt 2 (some .int) :: sx_T) ({ frames := 6, cells := 1, slots := 6, locals := 82 } : Room) (sx_PcT C M0 [.ref (sx_ad C 0 0), .int a1]) (sx_QN C (sx_oi r) M') (sx_QX C (sx_oi r) M') 1 6 (sx_A C) := by
  refine vx_ofW (cc := cX7_stringAt) (maxL := 2) (ret := (some .int)) (by decide) rfl ?_
  intro p e s m args below meth c s₁ B hml hne hv
  obtain ⟨rfl, hz, hP, hK, hT⟩ := hv
  have hl := lv_entry ([.ref (sx_ad C 0 0), .int a1]) (n := 2) (Nat.le_of_ble_eq_true rfl)
  rw [lg_entry_eq]
  generalize (lg_sl ([.ref (sx_ad C 0 0), .int a1]) ++ List.replicate (2 - (lg_sl ([.ref (sx_ad C 0 0), .int a1])).length) Slot.unset).toArray = ls at hl ⊢
  exact wk_7_stringAt ⟨B.exec, B.bytes, hml, findClass_of_methodNamed B.named, fun w hw => atoms_spec B.pre w (List.mem_cons_of_mem _ hw), hK⟩ B.returns B.notSynchronized hG hz hT hst hne ⟨Nat.le_refl _, Nat.le_refl _⟩ ⟨Nat.le_refl _, Nat.le_refl _⟩ a1 M0 r M' h hl hP va_S.rf
theorem clT_L_33 (X : sx_X C p m c cc nL s args RL) (hT : sx_thr C s) (hst : l.stackTraces = false) (hG : sx_G C) (hP : sx_W C M0 H) (hz : sx_sz C ≤ s.heap.size) (hS : va_S (sx_A C) s.heap H locs) {a1 : Int32} {r : Nat ⊕ Int32} {M' : sx_M} (h : f7_stringAt a1 M0 = some (r, M')) (hsz : ls.size = nL) (hdg : decode cc pc = .ok (.invokevirtual 33, 3)) (hcs : cells + 1 ≤ R.cells ∧ slots + 6 ≤ R.slots) (hR : 6 + 1 ≤ R.frames ∧ 8 + (2 + 11) + 82 ≤ R.locals) (hrest : (rest.map fun v => v.category).sum ≤ 8) (kx : ∀ (k : Nat) (ce : Cell) (q9 : Addr) (H1 : Heap) (locs1 : List Loc), r = .inl k → sx_W C M' H1 → va_S (sx_A C) s.heap H1 locs1 → H1[q9]? = some ce → ce.vm = .none → s.vm.findClass (sx_exn k) = some ce.cls → vx_W p l e R s m args below meth c H1 locs1 (cells + 1) (slots + 6) Q (F0 m pc ls rest) q9) (kk : ∀ (v : Int32) (H1 : Heap) (locs1 : List Loc), r = .inr v → sx_W C M' H1 → va_S (sx_A C) s.heap H1 locs1 → W p l e R s m args below meth c H1 locs1 (cells + 1) (slots + 6) Q (F0 m (pc + 3) ls (.int v :: rest))) : W p l e R s m args below meth c H locs cells slots Q (F0 m pc ls (.int a1 :: .ref (sx_ad C 0 0) :: rest)) := by
  exact sx_callVT (n := 1) (As := [.int a1]) (k0 := 0) (s0 := 0) X hT hP hz hS (by decide) rfl rfl (sx_goodV tw_749 tw_750 tw_751 tw_64 tw_752) (by decide +kernel) rfl rfl hR (ct_7_stringAt l hst C hG a1 M0 r M' h) rfl rfl hrest hsz hdg hcs (fun k ce q9 H1 locs1 ho => kx k ce q9 H1 locs1 (sx_oi_l ho)) (fun rv H1 locs1 ho hW hS1 => by obtain ⟨v, e1, rfl⟩ := sx_oi_r ho; exact kk v H1 locs1 e1 hW hS1)
-- StringShed.act(IIIZ)I
def f7_act (a1 : Int32) (a2 : Int32) (a3 : Int32) (a4 : Int32) (M0 : sx_M) : Option ((Nat ⊕ Int32) × sx_M) :=
  (f3_faultOf 0 a1 a2 a3 M0).bind fun v1 =>
  sx_bT (f7_refuse v1 M0) fun _ M3 =>
  (f1_remember 0 M3).bind fun M4 =>
  sx_b2 (f3_perform 0 a1 a2 a3 a4 M4) fun v5 M6 =>
  some (.inr v5, M6)
set_option maxRecDepth 100000 in
set_option maxHeartbeats 4000000 in
theorem wk_7_act (X : sx_X C p m c cX7_act 5 s args RX7) (hr : meth.sig.returnType = (some .int)) (hlocks : meth.locks = false) (hG : sx_G C) (hz : sx_sz C ≤ s.heap.size) (hT : sx_thr C s) (hst : l.stackTraces = false) (hne : ∀ x ∈ c.exceptionTable.toList, False) (hcs : 1 ≤ R.cells ∧ 6 ≤ R.slots) (hR : 7 ≤ R.frames ∧ 102 ≤ R.locals) (a1 : Int32) (a2 : Int32) (a3 : Int32) (a4 : Int32) (M0 : sx_M) (r : Nat ⊕ Int32) (M' : sx_M) (h : f7_act a1 a2 a3 a4 M0 = some (r, M')) (hl : lv_has ls 5 [(0, .ref (sx_ad C 0 0)), (1, .int a1), (2, .int a2), (3, .int a3), (4, .int a4)]) (hP : sx_W C M0 H) (hS : va_S (sx_A C) s.heap H locs) : W p l e R s m args below meth c H locs 0 0 (vx_MQ below (sx_QN C (sx_oi r) M') (sx_QX C (sx_oi r) M') args s 1 6 (sx_A C)) (F0 m 0 ls []) := by
  obtain ⟨hx, hb, hml, hown, hts, hK⟩ := id X
  rw [f7_act] at h
  refine lv_aload_n hx hb dX7_act_0 rfl (lv_at hl 0 rfl) ?_
  refine gf_X7_12 X hP (by decide) dX7_act_1 ?_
  refine lv_iload_n hx hb dX7_act_4 rfl (lv_at hl 1 rfl) ?_
  refine lv_iload_n hx hb dX7_act_5 rfl (lv_at hl 2 rfl) ?_
  refine lv_iload_n hx hb dX7_act_6 rfl (lv_at hl 3 rfl) ?_
  obtain ⟨v1, e_v1, h⟩ := sx_bnd h
  refine cl_X7_145 X hG hP hz hS (by decide) e_v1 hl.1 dX7_act_7 ⟨Nat.le_trans (by decide) hcs.1, Nat.le_trans (by decide) hcs.2⟩ ⟨Nat.le_trans (by decide) hR.1, Nat.le_trans (by decide) hR.2⟩ (Nat.le_of_ble_eq_true rfl) (fun H locs hP hS => ?_)
  obtain ⟨q2, M3, e_q2, hk_q2, hv_q2⟩ := sx_bTe h
  refine clT_X7_102 X hT hst hG hP hz hS  e_q2 hl.1 dX7_act_10 ⟨Nat.le_trans (by decide) hcs.1, Nat.le_trans (by decide) hcs.2⟩ ⟨Nat.le_trans (by decide) hR.1, Nat.le_trans (by decide) hR.2⟩ (Nat.le_of_ble_eq_true rfl) (fun k ce q9 H locs ho hP hS g1 g2 g3 => ?_) (fun H locs ho hP hS => ?_)
  · obtain ⟨q1, q2⟩ := hk_q2 k ho
    subst q1; subst q2
    exact sx_out hne hlocks hS hP rfl g1 g2 g3 (by decide) (by decide)
  replace h := hv_q2 () ho
  refine lv_aload_n hx hb dX7_act_13 rfl (lv_at hl 0 rfl) ?_
  refine gf_X7_22 X hP (by decide) dX7_act_14 ?_
  refine lv_aload_n hx hb dX7_act_17 rfl (lv_at hl 0 rfl) ?_
  refine gf_X7_12 X hP (by decide) dX7_act_18 ?_
  obtain ⟨M4, e_M4, h⟩ := sx_bnd h
  refine cl_X7_149 X hG hP hz hS (by decide) e_M4 hl.1 dX7_act_21 ⟨Nat.le_trans (by decide) hcs.1, Nat.le_trans (by decide) hcs.2⟩ ⟨Nat.le_trans (by decide) hR.1, Nat.le_trans (by decide) hR.2⟩ (Nat.le_of_ble_eq_true rfl) (fun H locs hP hS => ?_)
  refine lv_aload_n hx hb dX7_act_24 rfl (lv_at hl 0 rfl) ?_
  refine gf_X7_12 X hP (by decide) dX7_act_25 ?_
  refine lv_iload_n hx hb dX7_act_28 rfl (lv_at hl 1 rfl) ?_
  refine lv_iload_n hx hb dX7_act_29 rfl (lv_at hl 2 rfl) ?_
  refine lv_iload_n hx hb dX7_act_30 rfl (lv_at hl 3 rfl) ?_
  refine lv_iload hx hb dX7_act_31 (lv_at hl 4 rfl) ?_
  obtain ⟨v5, M6, e_v5, h⟩ := sx_bnd2 h
  refine cl_X7_153 X hG hP hz hS (by decide) e_v5 hl.1 dX7_act_33 ⟨Nat.le_trans (by decide) hcs.1, Nat.le_trans (by decide) hcs.2⟩ ⟨Nat.le_trans (by decide) hR.1, Nat.le_trans (by decide) hR.2⟩ (Nat.le_of_ble_eq_true rfl) (fun H locs hP hS => ?_)
  exact sx_tiret X hr hlocks hS hP h dX7_act_36 (by decide) (by decide)
set_option maxRecDepth 100000 in
theorem ct_7_act (l : Launch) (hst : l.stackTraces = false) (C : sx_C) (hG : sx_G C) (a1 : Int32) (a2 : Int32) (a3 : Int32) (a4 : Int32) (M0 : sx_M) (r : Nat ⊕ Int32) (M' : sx_M) (h : f7_act a1 a2 a3 a4 M0 = some (r, M')) : vx_Met l yX7_act (.code yX7_act cX7_act 5 (some .int) :: sx_T) ({ frames := 7, cells := 1, slots := 6, locals := 102 } : Room) (sx_PcT C M0 [.ref (sx_ad C 0 0), .int a1, .int a2, .int a3, .int a4]) (sx_QN C (sx_oi r) M') (sx_QX C (sx_oi r) M') 1 6 (sx_A C) := by
  refine vx_ofW (cc := cX7_act) (maxL := 5) (ret := (some .int)) (by decide) rfl ?_
  intro p e s m args below meth c s₁ B hml hne hv
  obtain ⟨rfl, hz, hP, hK, hT⟩ := hv
  have hl := lv_entry ([.ref (sx_ad C 0 0), .int a1, .int a2, .int a3, .int a4]) (n := 5) (Nat.le_of_ble_eq_true rfl)
  rw [lg_entry_eq]
  generalize (lg_sl ([.ref (sx_ad C 0 0), .int a1, .int a2, .int a3, .int a4]) ++ List.replicate (5 - (lg_sl ([.ref (sx_ad C 0 0), .int a1, .int a2, .int a3, .int a4])).length) Slot.unset).toArray = ls at hl ⊢
  exact wk_7_act ⟨B.exec, B.bytes, hml, findClass_of_methodNamed B.named, fun w hw => atoms_spec B.pre w (List.mem_cons_of_mem _ hw), hK⟩ B.returns B.notSynchronized hG hz hT hst hne ⟨Nat.le_refl _, Nat.le_refl _⟩ ⟨Nat.le_refl _, Nat.le_refl _⟩ a1 a2 a3 a4 M0 r M' h hl hP va_S.rf
theorem clT_X7_132 (X : sx_X C p m c cc nL s args RX7) (hT : sx_thr C s) (hst : l.stackTraces = false) (hG : sx_G C) (hP : sx_W C M0 H) (hz : sx_sz C ≤ s.heap.size) (hS : va_S (sx_A C) s.heap H locs) {a1 : Int32} {a2 : Int32} {a3 : Int32} {a4 : Int32} {r : Nat ⊕ Int32} {M' : sx_M} (h : f7_act a1 a2 a3 a4 M0 = some (r, M')) (hsz : ls.size = nL) (hdg : decode cc pc = .ok (.invokevirtual 132, 3)) (hcs : cells + 1 ≤ R.cells ∧ slots + 6 ≤ R.slots) (hR : 7 + 1 ≤ R.frames ∧ 8 + (5 + 11) + 102 ≤ R.locals) (hrest : (rest.map fun v => v.category).sum ≤ 8) (kx : ∀ (k : Nat) (ce : Cell) (q9 : Addr) (H1 : Heap) (locs1 : List Loc), r = .inl k → sx_W C M' H1 → va_S (sx_A C) s.heap H1 locs1 → H1[q9]? = some ce → ce.vm = .none → s.vm.findClass (sx_exn k) = some ce.cls → vx_W p l e R s m args below meth c H1 locs1 (cells + 1) (slots + 6) Q (F0 m pc ls rest) q9) (kk : ∀ (v : Int32) (H1 : Heap) (locs1 : List Loc), r = .inr v → sx_W C M' H1 → va_S (sx_A C) s.heap H1 locs1 → W p l e R s m args below meth c H1 locs1 (cells + 1) (slots + 6) Q (F0 m (pc + 3) ls (.int v :: rest))) : W p l e R s m args below meth c H locs cells slots Q (F0 m pc ls (.int a4 :: .int a3 :: .int a2 :: .int a1 :: .ref (sx_ad C 0 0) :: rest)) := by
  exact sx_callVT (n := 4) (As := [.int a1, .int a2, .int a3, .int a4]) (k0 := 0) (s0 := 0) X hT hP hz hS (by decide) rfl rfl (sx_goodV tw_761 tw_763 tw_16 tw_64 tw_764) (by decide +kernel) rfl rfl hR (ct_7_act l hst C hG a1 a2 a3 a4 M0 r M' h) rfl rfl hrest hsz hdg hcs (fun k ce q9 H1 locs1 ho => kx k ce q9 H1 locs1 (sx_oi_l ho)) (fun rv H1 locs1 ho hW hS1 => by obtain ⟨v, e1, rfl⟩ := sx_oi_r ho; exact kk v H1 locs1 e1 hW hS1)
-- StringShed.make(I)I
def f7_make (a1 : Int32) (M0 : sx_M) : Option ((Nat ⊕ Int32) × sx_M) :=
  sx_bT (f7_act (1 : Int32) (-9 : Int32) a1 (0 : Int32) M0) fun v3 M2 =>
  some (.inr v3, M2)
set_option maxRecDepth 100000 in
set_option maxHeartbeats 4000000 in
theorem wk_7_make (X : sx_X C p m c cX7_make 2 s args RX7) (hr : meth.sig.returnType = (some .int)) (hlocks : meth.locks = false) (hG : sx_G C) (hz : sx_sz C ≤ s.heap.size) (hT : sx_thr C s) (hst : l.stackTraces = false) (hne : ∀ x ∈ c.exceptionTable.toList, False) (hcs : 1 ≤ R.cells ∧ 6 ≤ R.slots) (hR : 8 ≤ R.frames ∧ 126 ≤ R.locals) (a1 : Int32) (M0 : sx_M) (r : Nat ⊕ Int32) (M' : sx_M) (h : f7_make a1 M0 = some (r, M')) (hl : lv_has ls 2 [(0, .ref (sx_ad C 0 0)), (1, .int a1)]) (hP : sx_W C M0 H) (hS : va_S (sx_A C) s.heap H locs) : W p l e R s m args below meth c H locs 0 0 (vx_MQ below (sx_QN C (sx_oi r) M') (sx_QX C (sx_oi r) M') args s 1 6 (sx_A C)) (F0 m 0 ls []) := by
  obtain ⟨hx, hb, hml, hown, hts, hK⟩ := id X
  rw [f7_make] at h
  refine lv_aload_n hx hb dX7_make_0 rfl (lv_at hl 0 rfl) ?_
  refine lv_iconst (v := (1 : Int32)) hx hb dX7_make_1 (by decide) ?_
  refine lv_bipush (v := (-9 : Int32)) hx hb dX7_make_2 (by decide) ?_
  refine lv_iload_n hx hb dX7_make_4 rfl (lv_at hl 1 rfl) ?_
  refine lv_iconst (v := (0 : Int32)) hx hb dX7_make_5 (by decide) ?_
  obtain ⟨q1, M2, e_q1, hk_q1, hv_q1⟩ := sx_bTe h
  refine clT_X7_132 X hT hst hG hP hz hS  e_q1 hl.1 dX7_make_6 ⟨Nat.le_trans (by decide) hcs.1, Nat.le_trans (by decide) hcs.2⟩ ⟨Nat.le_trans (by decide) hR.1, Nat.le_trans (by decide) hR.2⟩ (Nat.le_of_ble_eq_true rfl) (fun k ce q9 H locs ho hP hS g1 g2 g3 => ?_) (fun v3 H locs ho hP hS => ?_)
  · obtain ⟨q1, q2⟩ := hk_q1 k ho
    subst q1; subst q2
    exact sx_out hne hlocks hS hP rfl g1 g2 g3 (by decide) (by decide)
  replace h := hv_q1 v3 ho
  exact sx_tiret X hr hlocks hS hP h dX7_make_9 (by decide) (by decide)
set_option maxRecDepth 100000 in
theorem ct_7_make (l : Launch) (hst : l.stackTraces = false) (C : sx_C) (hG : sx_G C) (a1 : Int32) (M0 : sx_M) (r : Nat ⊕ Int32) (M' : sx_M) (h : f7_make a1 M0 = some (r, M')) : vx_Met l yX7_make (.code yX7_make cX7_make 2 (some .int) :: sx_T) ({ frames := 8, cells := 1, slots := 6, locals := 126 } : Room) (sx_PcT C M0 [.ref (sx_ad C 0 0), .int a1]) (sx_QN C (sx_oi r) M') (sx_QX C (sx_oi r) M') 1 6 (sx_A C) := by
  refine vx_ofW (cc := cX7_make) (maxL := 2) (ret := (some .int)) (by decide) rfl ?_
  intro p e s m args below meth c s₁ B hml hne hv
  obtain ⟨rfl, hz, hP, hK, hT⟩ := hv
  have hl := lv_entry ([.ref (sx_ad C 0 0), .int a1]) (n := 2) (Nat.le_of_ble_eq_true rfl)
  rw [lg_entry_eq]
  generalize (lg_sl ([.ref (sx_ad C 0 0), .int a1]) ++ List.replicate (2 - (lg_sl ([.ref (sx_ad C 0 0), .int a1])).length) Slot.unset).toArray = ls at hl ⊢
  exact wk_7_make ⟨B.exec, B.bytes, hml, findClass_of_methodNamed B.named, fun w hw => atoms_spec B.pre w (List.mem_cons_of_mem _ hw), hK⟩ B.returns B.notSynchronized hG hz hT hst hne ⟨Nat.le_refl _, Nat.le_refl _⟩ ⟨Nat.le_refl _, Nat.le_refl _⟩ a1 M0 r M' h hl hP va_S.rf
theorem clT_L_36 (X : sx_X C p m c cc nL s args RL) (hT : sx_thr C s) (hst : l.stackTraces = false) (hG : sx_G C) (hP : sx_W C M0 H) (hz : sx_sz C ≤ s.heap.size) (hS : va_S (sx_A C) s.heap H locs) {a1 : Int32} {r : Nat ⊕ Int32} {M' : sx_M} (h : f7_make a1 M0 = some (r, M')) (hsz : ls.size = nL) (hdg : decode cc pc = .ok (.invokevirtual 36, 3)) (hcs : cells + 1 ≤ R.cells ∧ slots + 6 ≤ R.slots) (hR : 8 + 1 ≤ R.frames ∧ 8 + (2 + 11) + 126 ≤ R.locals) (hrest : (rest.map fun v => v.category).sum ≤ 8) (kx : ∀ (k : Nat) (ce : Cell) (q9 : Addr) (H1 : Heap) (locs1 : List Loc), r = .inl k → sx_W C M' H1 → va_S (sx_A C) s.heap H1 locs1 → H1[q9]? = some ce → ce.vm = .none → s.vm.findClass (sx_exn k) = some ce.cls → vx_W p l e R s m args below meth c H1 locs1 (cells + 1) (slots + 6) Q (F0 m pc ls rest) q9) (kk : ∀ (v : Int32) (H1 : Heap) (locs1 : List Loc), r = .inr v → sx_W C M' H1 → va_S (sx_A C) s.heap H1 locs1 → W p l e R s m args below meth c H1 locs1 (cells + 1) (slots + 6) Q (F0 m (pc + 3) ls (.int v :: rest))) : W p l e R s m args below meth c H locs cells slots Q (F0 m pc ls (.int a1 :: .ref (sx_ad C 0 0) :: rest)) := by
  exact sx_callVT (n := 1) (As := [.int a1]) (k0 := 0) (s0 := 0) X hT hP hz hS (by decide) rfl rfl (sx_goodV tw_757 tw_758 tw_759 tw_64 tw_760) (by decide +kernel) rfl rfl hR (ct_7_make l hst C hG a1 M0 r M' h) rfl rfl hrest hsz hdg hcs (fun k ce q9 H1 locs1 ho => kx k ce q9 H1 locs1 (sx_oi_l ho)) (fun rv H1 locs1 ho hW hS1 => by obtain ⟨v, e1, rfl⟩ := sx_oi_r ho; exact kk v H1 locs1 e1 hW hS1)
-- StringShed.tie(IIZ)I
def f7_tie (a1 : Int32) (a2 : Int32) (a3 : Int32) (M0 : sx_M) : Option ((Nat ⊕ Int32) × sx_M) :=
  sx_bT (f7_act (2 : Int32) a1 a2 a3 M0) fun v3 M2 =>
  some (.inr v3, M2)
set_option maxRecDepth 100000 in
set_option maxHeartbeats 4000000 in
theorem wk_7_tie (X : sx_X C p m c cX7_tie 4 s args RX7) (hr : meth.sig.returnType = (some .int)) (hlocks : meth.locks = false) (hG : sx_G C) (hz : sx_sz C ≤ s.heap.size) (hT : sx_thr C s) (hst : l.stackTraces = false) (hne : ∀ x ∈ c.exceptionTable.toList, False) (hcs : 1 ≤ R.cells ∧ 6 ≤ R.slots) (hR : 8 ≤ R.frames ∧ 126 ≤ R.locals) (a1 : Int32) (a2 : Int32) (a3 : Int32) (M0 : sx_M) (r : Nat ⊕ Int32) (M' : sx_M) (h : f7_tie a1 a2 a3 M0 = some (r, M')) (hl : lv_has ls 4 [(0, .ref (sx_ad C 0 0)), (1, .int a1), (2, .int a2), (3, .int a3)]) (hP : sx_W C M0 H) (hS : va_S (sx_A C) s.heap H locs) : W p l e R s m args below meth c H locs 0 0 (vx_MQ below (sx_QN C (sx_oi r) M') (sx_QX C (sx_oi r) M') args s 1 6 (sx_A C)) (F0 m 0 ls []) := by
  obtain ⟨hx, hb, hml, hown, hts, hK⟩ := id X
  rw [f7_tie] at h
  refine lv_aload_n hx hb dX7_tie_0 rfl (lv_at hl 0 rfl) ?_
  refine lv_iconst (v := (2 : Int32)) hx hb dX7_tie_1 (by decide) ?_
  refine lv_iload_n hx hb dX7_tie_2 rfl (lv_at hl 1 rfl) ?_
  refine lv_iload_n hx hb dX7_tie_3 rfl (lv_at hl 2 rfl) ?_
  refine lv_iload_n hx hb dX7_tie_4 rfl (lv_at hl 3 rfl) ?_
  obtain ⟨q1, M2, e_q1, hk_q1, hv_q1⟩ := sx_bTe h
  refine clT_X7_132 X hT hst hG hP hz hS  e_q1 hl.1 dX7_tie_5 ⟨Nat.le_trans (by decide) hcs.1, Nat.le_trans (by decide) hcs.2⟩ ⟨Nat.le_trans (by decide) hR.1, Nat.le_trans (by decide) hR.2⟩ (Nat.le_of_ble_eq_true rfl) (fun k ce q9 H locs ho hP hS g1 g2 g3 => ?_) (fun v3 H locs ho hP hS => ?_)
  · obtain ⟨q1, q2⟩ := hk_q1 k ho
    subst q1; subst q2
    exact sx_out hne hlocks hS hP rfl g1 g2 g3 (by decide) (by decide)
  replace h := hv_q1 v3 ho
  exact sx_tiret X hr hlocks hS hP h dX7_tie_8 (by decide) (by decide)
set_option maxRecDepth 100000 in
theorem ct_7_tie (l : Launch) (hst : l.stackTraces = false) (C : sx_C) (hG : sx_G C) (a1 : Int32) (a2 : Int32) (a3 : Int32) (M0 : sx_M) (r : Nat ⊕ Int32) (M' : sx_M) (h : f7_tie a1 a2 a3 M0 = some (r, M')) : vx_Met l yX7_tie (.code yX7_tie cX7_tie 4 (some .int) :: sx_T) ({ frames := 8, cells := 1, slots := 6, locals := 126 } : Room) (sx_PcT C M0 [.ref (sx_ad C 0 0), .int a1, .int a2, .int a3]) (sx_QN C (sx_oi r) M') (sx_QX C (sx_oi r) M') 1 6 (sx_A C) := by
  refine vx_ofW (cc := cX7_tie) (maxL := 4) (ret := (some .int)) (by decide) rfl ?_
  intro p e s m args below meth c s₁ B hml hne hv
  obtain ⟨rfl, hz, hP, hK, hT⟩ := hv
  have hl := lv_entry ([.ref (sx_ad C 0 0), .int a1, .int a2, .int a3]) (n := 4) (Nat.le_of_ble_eq_true rfl)
  rw [lg_entry_eq]
  generalize (lg_sl ([.ref (sx_ad C 0 0), .int a1, .int a2, .int a3]) ++ List.replicate (4 - (lg_sl ([.ref (sx_ad C 0 0), .int a1, .int a2, .int a3])).length) Slot.unset).toArray = ls at hl ⊢
  exact wk_7_tie ⟨B.exec, B.bytes, hml, findClass_of_methodNamed B.named, fun w hw => atoms_spec B.pre w (List.mem_cons_of_mem _ hw), hK⟩ B.returns B.notSynchronized hG hz hT hst hne ⟨Nat.le_refl _, Nat.le_refl _⟩ ⟨Nat.le_refl _, Nat.le_refl _⟩ a1 a2 a3 M0 r M' h hl hP va_S.rf
theorem clT_L_39 (X : sx_X C p m c cc nL s args RL) (hT : sx_thr C s) (hst : l.stackTraces = false) (hG : sx_G C) (hP : sx_W C M0 H) (hz : sx_sz C ≤ s.heap.size) (hS : va_S (sx_A C) s.heap H locs) {a1 : Int32} {a2 : Int32} {a3 : Int32} {r : Nat ⊕ Int32} {M' : sx_M} (h : f7_tie a1 a2 a3 M0 = some (r, M')) (hsz : ls.size = nL) (hdg : decode cc pc = .ok (.invokevirtual 39, 3)) (hcs : cells + 1 ≤ R.cells ∧ slots + 6 ≤ R.slots) (hR : 8 + 1 ≤ R.frames ∧ 8 + (4 + 11) + 126 ≤ R.locals) (hrest : (rest.map fun v => v.category).sum ≤ 8) (kx : ∀ (k : Nat) (ce : Cell) (q9 : Addr) (H1 : Heap) (locs1 : List Loc), r = .inl k → sx_W C M' H1 → va_S (sx_A C) s.heap H1 locs1 → H1[q9]? = some ce → ce.vm = .none → s.vm.findClass (sx_exn k) = some ce.cls → vx_W p l e R s m args below meth c H1 locs1 (cells + 1) (slots + 6) Q (F0 m pc ls rest) q9) (kk : ∀ (v : Int32) (H1 : Heap) (locs1 : List Loc), r = .inr v → sx_W C M' H1 → va_S (sx_A C) s.heap H1 locs1 → W p l e R s m args below meth c H1 locs1 (cells + 1) (slots + 6) Q (F0 m (pc + 3) ls (.int v :: rest))) : W p l e R s m args below meth c H locs cells slots Q (F0 m pc ls (.int a3 :: .int a2 :: .int a1 :: .ref (sx_ad C 0 0) :: rest)) := by
  exact sx_callVT (n := 3) (As := [.int a1, .int a2, .int a3]) (k0 := 0) (s0 := 0) X hT hP hz hS (by decide) rfl rfl (sx_goodV tw_782 tw_783 tw_784 tw_64 tw_785) (by decide +kernel) rfl rfl hR (ct_7_tie l hst C hG a1 a2 a3 M0 r M' h) rfl rfl hrest hsz hdg hcs (fun k ce q9 H1 locs1 ho => kx k ce q9 H1 locs1 (sx_oi_l ho)) (fun rv H1 locs1 ho hW hS1 => by obtain ⟨v, e1, rfl⟩ := sx_oi_r ho; exact kk v H1 locs1 e1 hW hS1)
-- StringShed.cut(II)I
def f7_cut (a1 : Int32) (a2 : Int32) (M0 : sx_M) : Option ((Nat ⊕ Int32) × sx_M) :=
  sx_bT (f7_act (3 : Int32) a1 a2 (0 : Int32) M0) fun v3 M2 =>
  some (.inr v3, M2)
set_option maxRecDepth 100000 in
set_option maxHeartbeats 4000000 in
theorem wk_7_cut (X : sx_X C p m c cX7_cut 3 s args RX7) (hr : meth.sig.returnType = (some .int)) (hlocks : meth.locks = false) (hG : sx_G C) (hz : sx_sz C ≤ s.heap.size) (hT : sx_thr C s) (hst : l.stackTraces = false) (hne : ∀ x ∈ c.exceptionTable.toList, False) (hcs : 1 ≤ R.cells ∧ 6 ≤ R.slots) (hR : 8 ≤ R.frames ∧ 126 ≤ R.locals) (a1 : Int32) (a2 : Int32) (M0 : sx_M) (r : Nat ⊕ Int32) (M' : sx_M) (h : f7_cut a1 a2 M0 = some (r, M')) (hl : lv_has ls 3 [(0, .ref (sx_ad C 0 0)), (1, .int a1), (2, .int a2)]) (hP : sx_W C M0 H) (hS : va_S (sx_A C) s.heap H locs) : W p l e R s m args below meth c H locs 0 0 (vx_MQ below (sx_QN C (sx_oi r) M') (sx_QX C (sx_oi r) M') args s 1 6 (sx_A C)) (F0 m 0 ls []) := by
  obtain ⟨hx, hb, hml, hown, hts, hK⟩ := id X
  rw [f7_cut] at h
  refine lv_aload_n hx hb dX7_cut_0 rfl (lv_at hl 0 rfl) ?_
  refine lv_iconst (v := (3 : Int32)) hx hb dX7_cut_1 (by decide) ?_
  refine lv_iload_n hx hb dX7_cut_2 rfl (lv_at hl 1 rfl) ?_
  refine lv_iload_n hx hb dX7_cut_3 rfl (lv_at hl 2 rfl) ?_
  refine lv_iconst (v := (0 : Int32)) hx hb dX7_cut_4 (by decide) ?_
  obtain ⟨q1, M2, e_q1, hk_q1, hv_q1⟩ := sx_bTe h
  refine clT_X7_132 X hT hst hG hP hz hS  e_q1 hl.1 dX7_cut_5 ⟨Nat.le_trans (by decide) hcs.1, Nat.le_trans (by decide) hcs.2⟩ ⟨Nat.le_trans (by decide) hR.1, Nat.le_trans (by decide) hR.2⟩ (Nat.le_of_ble_eq_true rfl) (fun k ce q9 H locs ho hP hS g1 g2 g3 => ?_) (fun v3 H locs ho hP hS => ?_)
  · obtain ⟨q1, q2⟩ := hk_q1 k ho
    subst q1; subst q2
    exact sx_out hne hlocks hS hP rfl g1 g2 g3 (by decide) (by decide)
  replace h := hv_q1 v3 ho
  exact sx_tiret X hr hlocks hS hP h dX7_cut_8 (by decide) (by decide)
set_option maxRecDepth 100000 in
theorem ct_7_cut (l : Launch) (hst : l.stackTraces = false) (C : sx_C) (hG : sx_G C) (a1 : Int32) (a2 : Int32) (M0 : sx_M) (r : Nat ⊕ Int32) (M' : sx_M) (h : f7_cut a1 a2 M0 = some (r, M')) : vx_Met l yX7_cut (.code yX7_cut cX7_cut 3 (some .int) :: sx_T) ({ frames := 8, cells := 1, slots := 6, locals := 126 } : Room) (sx_PcT C M0 [.ref (sx_ad C 0 0), .int a1, .int a2]) (sx_QN C (sx_oi r) M') (sx_QX C (sx_oi r) M') 1 6 (sx_A C) := by
  refine vx_ofW (cc := cX7_cut) (maxL := 3) (ret := (some .int)) (by decide) rfl ?_
  intro p e s m args below meth c s₁ B hml hne hv
  obtain ⟨rfl, hz, hP, hK, hT⟩ := hv
  have hl := lv_entry ([.ref (sx_ad C 0 0), .int a1, .int a2]) (n := 3) (Nat.le_of_ble_eq_true rfl)
  rw [lg_entry_eq]
  generalize (lg_sl ([.ref (sx_ad C 0 0), .int a1, .int a2]) ++ List.replicate (3 - (lg_sl ([.ref (sx_ad C 0 0), .int a1, .int a2])).length) Slot.unset).toArray = ls at hl ⊢
  exact wk_7_cut ⟨B.exec, B.bytes, hml, findClass_of_methodNamed B.named, fun w hw => atoms_spec B.pre w (List.mem_cons_of_mem _ hw), hK⟩ B.returns B.notSynchronized hG hz hT hst hne ⟨Nat.le_refl _, Nat.le_refl _⟩ ⟨Nat.le_refl _, Nat.le_refl _⟩ a1 a2 M0 r M' h hl hP va_S.rf
theorem clT_L_43 (X : sx_X C p m c cc nL s args RL) (hT : sx_thr C s) (hst : l.stackTraces = false) (hG : sx_G C) (hP : sx_W C M0 H) (hz : sx_sz C ≤ s.heap.size) (hS : va_S (sx_A C) s.heap H locs) {a1 : Int32} {a2 : Int32} {r : Nat ⊕ Int32} {M' : sx_M} (h : f7_cut a1 a2 M0 = some (r, M')) (hsz : ls.size = nL) (hdg : decode cc pc = .ok (.invokevirtual 43, 3)) (hcs : cells + 1 ≤ R.cells ∧ slots + 6 ≤ R.slots) (hR : 8 + 1 ≤ R.frames ∧ 8 + (3 + 11) + 126 ≤ R.locals) (hrest : (rest.map fun v => v.category).sum ≤ 8) (kx : ∀ (k : Nat) (ce : Cell) (q9 : Addr) (H1 : Heap) (locs1 : List Loc), r = .inl k → sx_W C M' H1 → va_S (sx_A C) s.heap H1 locs1 → H1[q9]? = some ce → ce.vm = .none → s.vm.findClass (sx_exn k) = some ce.cls → vx_W p l e R s m args below meth c H1 locs1 (cells + 1) (slots + 6) Q (F0 m pc ls rest) q9) (kk : ∀ (v : Int32) (H1 : Heap) (locs1 : List Loc), r = .inr v → sx_W C M' H1 → va_S (sx_A C) s.heap H1 locs1 → W p l e R s m args below meth c H1 locs1 (cells + 1) (slots + 6) Q (F0 m (pc + 3) ls (.int v :: rest))) : W p l e R s m args below meth c H locs cells slots Q (F0 m pc ls (.int a2 :: .int a1 :: .ref (sx_ad C 0 0) :: rest)) := by
  exact sx_callVT (n := 2) (As := [.int a1, .int a2]) (k0 := 0) (s0 := 0) X hT hP hz hS (by decide) rfl rfl (sx_goodV tw_789 tw_790 tw_791 tw_64 tw_792) (by decide +kernel) rfl rfl hR (ct_7_cut l hst C hG a1 a2 M0 r M' h) rfl rfl hrest hsz hdg hcs (fun k ce q9 H1 locs1 ho => kx k ce q9 H1 locs1 (sx_oi_l ho)) (fun rv H1 locs1 ho hW hS1 => by obtain ⟨v, e1, rfl⟩ := sx_oi_r ho; exact kk v H1 locs1 e1 hW hS1)
-- StringShed.fray(II)I
def f7_fray (a1 : Int32) (a2 : Int32) (M0 : sx_M) : Option ((Nat ⊕ Int32) × sx_M) :=
  sx_bT (f7_act (4 : Int32) a1 a2 (0 : Int32) M0) fun v3 M2 =>
  some (.inr v3, M2)
set_option maxRecDepth 100000 in
set_option maxHeartbeats 4000000 in
theorem wk_7_fray (X : sx_X C p m c cX7_fray 3 s args RX7) (hr : meth.sig.returnType = (some .int)) (hlocks : meth.locks = false) (hG : sx_G C) (hz : sx_sz C ≤ s.heap.size) (hT : sx_thr C s) (hst : l.stackTraces = false) (hne : ∀ x ∈ c.exceptionTable.toList, False) (hcs : 1 ≤ R.cells ∧ 6 ≤ R.slots) (hR : 8 ≤ R.frames ∧ 126 ≤ R.locals) (a1 : Int32) (a2 : Int32) (M0 : sx_M) (r : Nat ⊕ Int32) (M' : sx_M) (h : f7_fray a1 a2 M0 = some (r, M')) (hl : lv_has ls 3 [(0, .ref (sx_ad C 0 0)), (1, .int a1), (2, .int a2)]) (hP : sx_W C M0 H) (hS : va_S (sx_A C) s.heap H locs) : W p l e R s m args below meth c H locs 0 0 (vx_MQ below (sx_QN C (sx_oi r) M') (sx_QX C (sx_oi r) M') args s 1 6 (sx_A C)) (F0 m 0 ls []) := by
  obtain ⟨hx, hb, hml, hown, hts, hK⟩ := id X
  rw [f7_fray] at h
  refine lv_aload_n hx hb dX7_fray_0 rfl (lv_at hl 0 rfl) ?_
  refine lv_iconst (v := (4 : Int32)) hx hb dX7_fray_1 (by decide) ?_
  refine lv_iload_n hx hb dX7_fray_2 rfl (lv_at hl 1 rfl) ?_
  refine lv_iload_n hx hb dX7_fray_3 rfl (lv_at hl 2 rfl) ?_
  refine lv_iconst (v := (0 : Int32)) hx hb dX7_fray_4 (by decide) ?_
  obtain ⟨q1, M2, e_q1, hk_q1, hv_q1⟩ := sx_bTe h
  refine clT_X7_132 X hT hst hG hP hz hS  e_q1 hl.1 dX7_fray_5 ⟨Nat.le_trans (by decide) hcs.1, Nat.le_trans (by decide) hcs.2⟩ ⟨Nat.le_trans (by decide) hR.1, Nat.le_trans (by decide) hR.2⟩ (Nat.le_of_ble_eq_true rfl) (fun k ce q9 H locs ho hP hS g1 g2 g3 => ?_) (fun v3 H locs ho hP hS => ?_)
  · obtain ⟨q1, q2⟩ := hk_q1 k ho
    subst q1; subst q2
    exact sx_out hne hlocks hS hP rfl g1 g2 g3 (by decide) (by decide)
  replace h := hv_q1 v3 ho
  exact sx_tiret X hr hlocks hS hP h dX7_fray_8 (by decide) (by decide)
set_option maxRecDepth 100000 in
theorem ct_7_fray (l : Launch) (hst : l.stackTraces = false) (C : sx_C) (hG : sx_G C) (a1 : Int32) (a2 : Int32) (M0 : sx_M) (r : Nat ⊕ Int32) (M' : sx_M) (h : f7_fray a1 a2 M0 = some (r, M')) : vx_Met l yX7_fray (.code yX7_fray cX7_fray 3 (some .int) :: sx_T) ({ frames := 8, cells := 1, slots := 6, locals := 126 } : Room) (sx_PcT C M0 [.ref (sx_ad C 0 0), .int a1, .int a2]) (sx_QN C (sx_oi r) M') (sx_QX C (sx_oi r) M') 1 6 (sx_A C) := by
  refine vx_ofW (cc := cX7_fray) (maxL := 3) (ret := (some .int)) (by decide) rfl ?_
  intro p e s m args below meth c s₁ B hml hne hv
  obtain ⟨rfl, hz, hP, hK, hT⟩ := hv
  have hl := lv_entry ([.ref (sx_ad C 0 0), .int a1, .int a2]) (n := 3) (Nat.le_of_ble_eq_true rfl)
  rw [lg_entry_eq]
  generalize (lg_sl ([.ref (sx_ad C 0 0), .int a1, .int a2]) ++ List.replicate (3 - (lg_sl ([.ref (sx_ad C 0 0), .int a1, .int a2])).length) Slot.unset).toArray = ls at hl ⊢
  exact wk_7_fray ⟨B.exec, B.bytes, hml, findClass_of_methodNamed B.named, fun w hw => atoms_spec B.pre w (List.mem_cons_of_mem _ hw), hK⟩ B.returns B.notSynchronized hG hz hT hst hne ⟨Nat.le_refl _, Nat.le_refl _⟩ ⟨Nat.le_refl _, Nat.le_refl _⟩ a1 a2 M0 r M' h hl hP va_S.rf
theorem clT_L_46 (X : sx_X C p m c cc nL s args RL) (hT : sx_thr C s) (hst : l.stackTraces = false) (hG : sx_G C) (hP : sx_W C M0 H) (hz : sx_sz C ≤ s.heap.size) (hS : va_S (sx_A C) s.heap H locs) {a1 : Int32} {a2 : Int32} {r : Nat ⊕ Int32} {M' : sx_M} (h : f7_fray a1 a2 M0 = some (r, M')) (hsz : ls.size = nL) (hdg : decode cc pc = .ok (.invokevirtual 46, 3)) (hcs : cells + 1 ≤ R.cells ∧ slots + 6 ≤ R.slots) (hR : 8 + 1 ≤ R.frames ∧ 8 + (3 + 11) + 126 ≤ R.locals) (hrest : (rest.map fun v => v.category).sum ≤ 8) (kx : ∀ (k : Nat) (ce : Cell) (q9 : Addr) (H1 : Heap) (locs1 : List Loc), r = .inl k → sx_W C M' H1 → va_S (sx_A C) s.heap H1 locs1 → H1[q9]? = some ce → ce.vm = .none → s.vm.findClass (sx_exn k) = some ce.cls → vx_W p l e R s m args below meth c H1 locs1 (cells + 1) (slots + 6) Q (F0 m pc ls rest) q9) (kk : ∀ (v : Int32) (H1 : Heap) (locs1 : List Loc), r = .inr v → sx_W C M' H1 → va_S (sx_A C) s.heap H1 locs1 → W p l e R s m args below meth c H1 locs1 (cells + 1) (slots + 6) Q (F0 m (pc + 3) ls (.int v :: rest))) : W p l e R s m args below meth c H locs cells slots Q (F0 m pc ls (.int a2 :: .int a1 :: .ref (sx_ad C 0 0) :: rest)) := by
  exact sx_callVT (n := 2) (As := [.int a1, .int a2]) (k0 := 0) (s0 := 0) X hT hP hz hS (by decide) rfl rfl (sx_goodV tw_796 tw_797 tw_798 tw_64 tw_799) (by decide +kernel) rfl rfl hR (ct_7_fray l hst C hG a1 a2 M0 r M' h) rfl rfl hrest hsz hdg hcs (fun k ce q9 H1 locs1 ho => kx k ce q9 H1 locs1 (sx_oi_l ho)) (fun rv H1 locs1 ho hW hS1 => by obtain ⟨v, e1, rfl⟩ := sx_oi_r ho; exact kk v H1 locs1 e1 hW hS1)
-- StringShed.mend(II)I
def f7_mend (a1 : Int32) (a2 : Int32) (M0 : sx_M) : Option ((Nat ⊕ Int32) × sx_M) :=
  sx_bT (f7_act (5 : Int32) a1 a2 (0 : Int32) M0) fun v3 M2 =>
  some (.inr v3, M2)
set_option maxRecDepth 100000 in
set_option maxHeartbeats 4000000 in
theorem wk_7_mend (X : sx_X C p m c cX7_mend 3 s args RX7) (hr : meth.sig.returnType = (some .int)) (hlocks : meth.locks = false) (hG : sx_G C) (hz : sx_sz C ≤ s.heap.size) (hT : sx_thr C s) (hst : l.stackTraces = false) (hne : ∀ x ∈ c.exceptionTable.toList, False) (hcs : 1 ≤ R.cells ∧ 6 ≤ R.slots) (hR : 8 ≤ R.frames ∧ 126 ≤ R.locals) (a1 : Int32) (a2 : Int32) (M0 : sx_M) (r : Nat ⊕ Int32) (M' : sx_M) (h : f7_mend a1 a2 M0 = some (r, M')) (hl : lv_has ls 3 [(0, .ref (sx_ad C 0 0)), (1, .int a1), (2, .int a2)]) (hP : sx_W C M0 H) (hS : va_S (sx_A C) s.heap H locs) : W p l e R s m args below meth c H locs 0 0 (vx_MQ below (sx_QN C (sx_oi r) M') (sx_QX C (sx_oi r) M') args s 1 6 (sx_A C)) (F0 m 0 ls []) := by
  obtain ⟨hx, hb, hml, hown, hts, hK⟩ := id X
  rw [f7_mend] at h
  refine lv_aload_n hx hb dX7_mend_0 rfl (lv_at hl 0 rfl) ?_
  refine lv_iconst (v := (5 : Int32)) hx hb dX7_mend_1 (by decide) ?_
  refine lv_iload_n hx hb dX7_mend_2 rfl (lv_at hl 1 rfl) ?_
  refine lv_iload_n hx hb dX7_mend_3 rfl (lv_at hl 2 rfl) ?_
  refine lv_iconst (v := (0 : Int32)) hx hb dX7_mend_4 (by decide) ?_
  obtain ⟨q1, M2, e_q1, hk_q1, hv_q1⟩ := sx_bTe h
  refine clT_X7_132 X hT hst hG hP hz hS  e_q1 hl.1 dX7_mend_5 ⟨Nat.le_trans (by decide) hcs.1, Nat.le_trans (by decide) hcs.2⟩ ⟨Nat.le_trans (by decide) hR.1, Nat.le_trans (by decide) hR.2⟩ (Nat.le_of_ble_eq_true rfl) (fun k ce q9 H locs ho hP hS g1 g2 g3 => ?_) (fun v3 H locs ho hP hS => ?_)
  · obtain ⟨q1, q2⟩ := hk_q1 k ho
    subst q1; subst q2
    exact sx_out hne hlocks hS hP rfl g1 g2 g3 (by decide) (by decide)
  replace h := hv_q1 v3 ho
  exact sx_tiret X hr hlocks hS hP h dX7_mend_8 (by decide) (by decide)
set_option maxRecDepth 100000 in
theorem ct_7_mend (l : Launch) (hst : l.stackTraces = false) (C : sx_C) (hG : sx_G C) (a1 : Int32) (a2 : Int32) (M0 : sx_M) (r : Nat ⊕ Int32) (M' : sx_M) (h : f7_mend a1 a2 M0 = some (r, M')) : vx_Met l yX7_mend (.code yX7_mend cX7_mend 3 (some .int) :: sx_T) ({ frames := 8, cells := 1, slots := 6, locals := 126 } : Room) (sx_PcT C M0 [.ref (sx_ad C 0 0), .int a1, .int a2]) (sx_QN C (sx_oi r) M') (sx_QX C (sx_oi r) M') 1 6 (sx_A C) := by
  refine vx_ofW (cc := cX7_mend) (maxL := 3) (ret := (some .int)) (by decide) rfl ?_
  intro p e s m args below meth c s₁ B hml hne hv
  obtain ⟨rfl, hz, hP, hK, hT⟩ := hv
  have hl := lv_entry ([.ref (sx_ad C 0 0), .int a1, .int a2]) (n := 3) (Nat.le_of_ble_eq_true rfl)
  rw [lg_entry_eq]
  generalize (lg_sl ([.ref (sx_ad C 0 0), .int a1, .int a2]) ++ List.replicate (3 - (lg_sl ([.ref (sx_ad C 0 0), .int a1, .int a2])).length) Slot.unset).toArray = ls at hl ⊢
  exact wk_7_mend ⟨B.exec, B.bytes, hml, findClass_of_methodNamed B.named, fun w hw => atoms_spec B.pre w (List.mem_cons_of_mem _ hw), hK⟩ B.returns B.notSynchronized hG hz hT hst hne ⟨Nat.le_refl _, Nat.le_refl _⟩ ⟨Nat.le_refl _, Nat.le_refl _⟩ a1 a2 M0 r M' h hl hP va_S.rf
theorem clT_L_49 (X : sx_X C p m c cc nL s args RL) (hT : sx_thr C s) (hst : l.stackTraces = false) (hG : sx_G C) (hP : sx_W C M0 H) (hz : sx_sz C ≤ s.heap.size) (hS : va_S (sx_A C) s.heap H locs) {a1 : Int32} {a2 : Int32} {r : Nat ⊕ Int32} {M' : sx_M} (h : f7_mend a1 a2 M0 = some (r, M')) (hsz : ls.size = nL) (hdg : decode cc pc = .ok (.invokevirtual 49, 3)) (hcs : cells + 1 ≤ R.cells ∧ slots + 6 ≤ R.slots) (hR : 8 + 1 ≤ R.frames ∧ 8 + (3 + 11) + 126 ≤ R.locals) (hrest : (rest.map fun v => v.category).sum ≤ 8) (kx : ∀ (k : Nat) (ce : Cell) (q9 : Addr) (H1 : Heap) (locs1 : List Loc), r = .inl k → sx_W C M' H1 → va_S (sx_A C) s.heap H1 locs1 → H1[q9]? = some ce → ce.vm = .none → s.vm.findClass (sx_exn k) = some ce.cls → vx_W p l e R s m args below meth c H1 locs1 (cells + 1) (slots + 6) Q (F0 m pc ls rest) q9) (kk : ∀ (v : Int32) (H1 : Heap) (locs1 : List Loc), r = .inr v → sx_W C M' H1 → va_S (sx_A C) s.heap H1 locs1 → W p l e R s m args below meth c H1 locs1 (cells + 1) (slots + 6) Q (F0 m (pc + 3) ls (.int v :: rest))) : W p l e R s m args below meth c H locs cells slots Q (F0 m pc ls (.int a2 :: .int a1 :: .ref (sx_ad C 0 0) :: rest)) := by
  exact sx_callVT (n := 2) (As := [.int a1, .int a2]) (k0 := 0) (s0 := 0) X hT hP hz hS (by decide) rfl rfl (sx_goodV tw_803 tw_804 tw_805 tw_64 tw_806) (by decide +kernel) rfl rfl hR (ct_7_mend l hst C hG a1 a2 M0 r M' h) rfl rfl hrest hsz hdg hcs (fun k ce q9 H1 locs1 ho => kx k ce q9 H1 locs1 (sx_oi_l ho)) (fun rv H1 locs1 ho hW hS1 => by obtain ⟨v, e1, rfl⟩ := sx_oi_r ho; exact kk v H1 locs1 e1 hW hS1)
-- StringShed.pin(IZ)I
def f7_pin (a1 : Int32) (a2 : Int32) (M0 : sx_M) : Option ((Nat ⊕ Int32) × sx_M) :=
  sx_bT (f7_act (6 : Int32) (-9 : Int32) a1 a2 M0) fun v3 M2 =>
  some (.inr v3, M2)
set_option maxRecDepth 100000 in
set_option maxHeartbeats 4000000 in
theorem wk_7_pin (X : sx_X C p m c cX7_pin 3 s args RX7) (hr : meth.sig.returnType = (some .int)) (hlocks : meth.locks = false) (hG : sx_G C) (hz : sx_sz C ≤ s.heap.size) (hT : sx_thr C s) (hst : l.stackTraces = false) (hne : ∀ x ∈ c.exceptionTable.toList, False) (hcs : 1 ≤ R.cells ∧ 6 ≤ R.slots) (hR : 8 ≤ R.frames ∧ 126 ≤ R.locals) (a1 : Int32) (a2 : Int32) (M0 : sx_M) (r : Nat ⊕ Int32) (M' : sx_M) (h : f7_pin a1 a2 M0 = some (r, M')) (hl : lv_has ls 3 [(0, .ref (sx_ad C 0 0)), (1, .int a1), (2, .int a2)]) (hP : sx_W C M0 H) (hS : va_S (sx_A C) s.heap H locs) : W p l e R s m args below meth c H locs 0 0 (vx_MQ below (sx_QN C (sx_oi r) M') (sx_QX C (sx_oi r) M') args s 1 6 (sx_A C)) (F0 m 0 ls []) := by
  obtain ⟨hx, hb, hml, hown, hts, hK⟩ := id X
  rw [f7_pin] at h
  refine lv_aload_n hx hb dX7_pin_0 rfl (lv_at hl 0 rfl) ?_
  refine lv_bipush (v := (6 : Int32)) hx hb dX7_pin_1 (by decide) ?_
  refine lv_bipush (v := (-9 : Int32)) hx hb dX7_pin_3 (by decide) ?_
  refine lv_iload_n hx hb dX7_pin_5 rfl (lv_at hl 1 rfl) ?_
  refine lv_iload_n hx hb dX7_pin_6 rfl (lv_at hl 2 rfl) ?_
  obtain ⟨q1, M2, e_q1, hk_q1, hv_q1⟩ := sx_bTe h
  refine clT_X7_132 X hT hst hG hP hz hS  e_q1 hl.1 dX7_pin_7 ⟨Nat.le_trans (by decide) hcs.1, Nat.le_trans (by decide) hcs.2⟩ ⟨Nat.le_trans (by decide) hR.1, Nat.le_trans (by decide) hR.2⟩ (Nat.le_of_ble_eq_true rfl) (fun k ce q9 H locs ho hP hS g1 g2 g3 => ?_) (fun v3 H locs ho hP hS => ?_)
  · obtain ⟨q1, q2⟩ := hk_q1 k ho
    subst q1; subst q2
    exact sx_out hne hlocks hS hP rfl g1 g2 g3 (by decide) (by decide)
  replace h := hv_q1 v3 ho
  exact sx_tiret X hr hlocks hS hP h dX7_pin_10 (by decide) (by decide)
set_option maxRecDepth 100000 in
theorem ct_7_pin (l : Launch) (hst : l.stackTraces = false) (C : sx_C) (hG : sx_G C) (a1 : Int32) (a2 : Int32) (M0 : sx_M) (r : Nat ⊕ Int32) (M' : sx_M) (h : f7_pin a1 a2 M0 = some (r, M')) : vx_Met l yX7_pin (.code yX7_pin cX7_pin 3 (some .int) :: sx_T) ({ frames := 8, cells := 1, slots := 6, locals := 126 } : Room) (sx_PcT C M0 [.ref (sx_ad C 0 0), .int a1, .int a2]) (sx_QN C (sx_oi r) M') (sx_QX C (sx_oi r) M') 1 6 (sx_A C) := by
  refine vx_ofW (cc := cX7_pin) (maxL := 3) (ret := (some .int)) (by decide) rfl ?_
  intro p e s m args below meth c s₁ B hml hne hv
  obtain ⟨rfl, hz, hP, hK, hT⟩ := hv
  have hl := lv_entry ([.ref (sx_ad C 0 0), .int a1, .int a2]) (n := 3) (Nat.le_of_ble_eq_true rfl)
  rw [lg_entry_eq]
  generalize (lg_sl ([.ref (sx_ad C 0 0), .int a1, .int a2]) ++ List.replicate (3 - (lg_sl ([.ref (sx_ad C 0 0), .int a1, .int a2])).length) Slot.unset).toArray = ls at hl ⊢
  exact wk_7_pin ⟨B.exec, B.bytes, hml, findClass_of_methodNamed B.named, fun w hw => atoms_spec B.pre w (List.mem_cons_of_mem _ hw), hK⟩ B.returns B.notSynchronized hG hz hT hst hne ⟨Nat.le_refl _, Nat.le_refl _⟩ ⟨Nat.le_refl _, Nat.le_refl _⟩ a1 a2 M0 r M' h hl hP va_S.rf
theorem clT_L_52 (X : sx_X C p m c cc nL s args RL) (hT : sx_thr C s) (hst : l.stackTraces = false) (hG : sx_G C) (hP : sx_W C M0 H) (hz : sx_sz C ≤ s.heap.size) (hS : va_S (sx_A C) s.heap H locs) {a1 : Int32} {a2 : Int32} {r : Nat ⊕ Int32} {M' : sx_M} (h : f7_pin a1 a2 M0 = some (r, M')) (hsz : ls.size = nL) (hdg : decode cc pc = .ok (.invokevirtual 52, 3)) (hcs : cells + 1 ≤ R.cells ∧ slots + 6 ≤ R.slots) (hR : 8 + 1 ≤ R.frames ∧ 8 + (3 + 11) + 126 ≤ R.locals) (hrest : (rest.map fun v => v.category).sum ≤ 8) (kx : ∀ (k : Nat) (ce : Cell) (q9 : Addr) (H1 : Heap) (locs1 : List Loc), r = .inl k → sx_W C M' H1 → va_S (sx_A C) s.heap H1 locs1 → H1[q9]? = some ce → ce.vm = .none → s.vm.findClass (sx_exn k) = some ce.cls → vx_W p l e R s m args below meth c H1 locs1 (cells + 1) (slots + 6) Q (F0 m pc ls rest) q9) (kk : ∀ (v : Int32) (H1 : Heap) (locs1 : List Loc), r = .inr v → sx_W C M' H1 → va_S (sx_A C) s.heap H1 locs1 → W p l e R s m args below meth c H1 locs1 (cells + 1) (slots + 6) Q (F0 m (pc + 3) ls (.int v :: rest))) : W p l e R s m args below meth c H locs cells slots Q (F0 m pc ls (.int a2 :: .int a1 :: .ref (sx_ad C 0 0) :: rest)) := by
  exact sx_callVT (n := 2) (As := [.int a1, .int a2]) (k0 := 0) (s0 := 0) X hT hP hz hS (by decide) rfl rfl (sx_goodV tw_810 tw_811 tw_812 tw_64 tw_813) (by decide +kernel) rfl rfl hR (ct_7_pin l hst C hG a1 a2 M0 r M' h) rfl rfl hrest hsz hdg hcs (fun k ce q9 H1 locs1 ho => kx k ce q9 H1 locs1 (sx_oi_l ho)) (fun rv H1 locs1 ho hW hS1 => by obtain ⟨v, e1, rfl⟩ := sx_oi_r ho; exact kk v H1 locs1 e1 hW hS1)
-- StringShed.begin()I
def f7_begin  (M0 : sx_M) : Option ((Nat ⊕ Int32) × sx_M) :=
  sx_bT (f7_act (7 : Int32) (-9 : Int32) (-9 : Int32) (0 : Int32) M0) fun v3 M2 =>
  some (.inr v3, M2)
set_option maxRecDepth 100000 in
set_option maxHeartbeats 4000000 in
theorem wk_7_begin (X : sx_X C p m c cX7_begin 1 s args RX7) (hr : meth.sig.returnType = (some .int)) (hlocks : meth.locks = false) (hG : sx_G C) (hz : sx_sz C ≤ s.heap.size) (hT : sx_thr C s) (hst : l.stackTraces = false) (hne : ∀ x ∈ c.exceptionTable.toList, False) (hcs : 1 ≤ R.cells ∧ 6 ≤ R.slots) (hR : 8 ≤ R.frames ∧ 126 ≤ R.locals) (M0 : sx_M) (r : Nat ⊕ Int32) (M' : sx_M) (h : f7_begin M0 = some (r, M')) (hl : lv_has ls 1 [(0, .ref (sx_ad C 0 0))]) (hP : sx_W C M0 H) (hS : va_S (sx_A C) s.heap H locs) : W p l e R s m args below meth c H locs 0 0 (vx_MQ below (sx_QN C (sx_oi r) M') (sx_QX C (sx_oi r) M') args s 1 6 (sx_A C)) (F0 m 0 ls []) := by
  obtain ⟨hx, hb, hml, hown, hts, hK⟩ := id X
  rw [f7_begin] at h
  refine lv_aload_n hx hb dX7_begin_0 rfl (lv_at hl 0 rfl) ?_
  refine lv_bipush (v := (7 : Int32)) hx hb dX7_begin_1 (by decide) ?_
  refine lv_bipush (v := (-9 : Int32)) hx hb dX7_begin_3 (by decide) ?_
  refine lv_bipush (v := (-9 : Int32)) hx hb dX7_begin_5 (by decide) ?_
  refine lv_iconst (v := (0 : Int32)) hx hb dX7_begin_7 (by decide) ?_
  obtain ⟨q1, M2, e_q1, hk_q1, hv_q1⟩ := sx_bTe h
  refine clT_X7_132 X hT hst hG hP hz hS  e_q1 hl.1 dX7_begin_8 ⟨Nat.le_trans (by decide) hcs.1, Nat.le_trans (by decide) hcs.2⟩ ⟨Nat.le_trans (by decide) hR.1, Nat.le_trans (by decide) hR.2⟩ (Nat.le_of_ble_eq_true rfl) (fun k ce q9 H locs ho hP hS g1 g2 g3 => ?_) (fun v3 H locs ho hP hS => ?_)
  · obtain ⟨q1, q2⟩ := hk_q1 k ho
    subst q1; subst q2
    exact sx_out hne hlocks hS hP rfl g1 g2 g3 (by decide) (by decide)
  replace h := hv_q1 v3 ho
  exact sx_tiret X hr hlocks hS hP h dX7_begin_11 (by decide) (by decide)
set_option maxRecDepth 100000 in
theorem ct_7_begin (l : Launch) (hst : l.stackTraces = false) (C : sx_C) (hG : sx_G C) (M0 : sx_M) (r : Nat ⊕ Int32) (M' : sx_M) (h : f7_begin M0 = some (r, M')) : vx_Met l yX7_begin (.code yX7_begin cX7_begin 1 (some .int) :: sx_T) ({ frames := 8, cells := 1, slots := 6, locals := 126 } : Room) (sx_PcT C M0 [.ref (sx_ad C 0 0)]) (sx_QN C (sx_oi r) M') (sx_QX C (sx_oi r) M') 1 6 (sx_A C) := by
  refine vx_ofW (cc := cX7_begin) (maxL := 1) (ret := (some .int)) (by decide) rfl ?_
  intro p e s m args below meth c s₁ B hml hne hv
  obtain ⟨rfl, hz, hP, hK, hT⟩ := hv
  have hl := lv_entry ([.ref (sx_ad C 0 0)]) (n := 1) (Nat.le_of_ble_eq_true rfl)
  rw [lg_entry_eq]
  generalize (lg_sl ([.ref (sx_ad C 0 0)]) ++ List.replicate (1 - (lg_sl ([.ref (sx_ad C 0 0)])).length) Slot.unset).toArray = ls at hl ⊢
  exact wk_7_begin ⟨B.exec, B.bytes, hml, findClass_of_methodNamed B.named, fun w hw => atoms_spec B.pre w (List.mem_cons_of_mem _ hw), hK⟩ B.returns B.notSynchronized hG hz hT hst hne ⟨Nat.le_refl _, Nat.le_refl _⟩ ⟨Nat.le_refl _, Nat.le_refl _⟩ M0 r M' h hl hP va_S.rf
theorem clT_L_56 (X : sx_X C p m c cc nL s args RL) (hT : sx_thr C s) (hst : l.stackTraces = false) (hG : sx_G C) (hP : sx_W C M0 H) (hz : sx_sz C ≤ s.heap.size) (hS : va_S (sx_A C) s.heap H locs) {r : Nat ⊕ Int32} {M' : sx_M} (h : f7_begin M0 = some (r, M')) (hsz : ls.size = nL) (hdg : decode cc pc = .ok (.invokevirtual 56, 3)) (hcs : cells + 1 ≤ R.cells ∧ slots + 6 ≤ R.slots) (hR : 8 + 1 ≤ R.frames ∧ 8 + (1 + 11) + 126 ≤ R.locals) (hrest : (rest.map fun v => v.category).sum ≤ 8) (kx : ∀ (k : Nat) (ce : Cell) (q9 : Addr) (H1 : Heap) (locs1 : List Loc), r = .inl k → sx_W C M' H1 → va_S (sx_A C) s.heap H1 locs1 → H1[q9]? = some ce → ce.vm = .none → s.vm.findClass (sx_exn k) = some ce.cls → vx_W p l e R s m args below meth c H1 locs1 (cells + 1) (slots + 6) Q (F0 m pc ls rest) q9) (kk : ∀ (v : Int32) (H1 : Heap) (locs1 : List Loc), r = .inr v → sx_W C M' H1 → va_S (sx_A C) s.heap H1 locs1 → W p l e R s m args below meth c H1 locs1 (cells + 1) (slots + 6) Q (F0 m (pc + 3) ls (.int v :: rest))) : W p l e R s m args below meth c H locs cells slots Q (F0 m pc ls (.ref (sx_ad C 0 0) :: rest)) := by
  exact sx_callVT (n := 0) (As := []) (k0 := 0) (s0 := 0) X hT hP hz hS (by decide) rfl rfl (sx_goodV tw_817 tw_818 tw_819 tw_64 tw_820) (by decide +kernel) rfl rfl hR (ct_7_begin l hst C hG M0 r M' h) rfl rfl hrest hsz hdg hcs (fun k ce q9 H1 locs1 ho => kx k ce q9 H1 locs1 (sx_oi_l ho)) (fun rv H1 locs1 ho hW hS1 => by obtain ⟨v, e1, rfl⟩ := sx_oi_r ho; exact kk v H1 locs1 e1 hW hS1)
-- StringShed.step()I
def f7_step  (M0 : sx_M) : Option ((Nat ⊕ Int32) × sx_M) :=
  sx_bT (f7_act (8 : Int32) (-9 : Int32) (-9 : Int32) (0 : Int32) M0) fun v3 M2 =>
  some (.inr v3, M2)
set_option maxRecDepth 100000 in
set_option maxHeartbeats 4000000 in
theorem wk_7_step (X : sx_X C p m c cX7_step 1 s args RX7) (hr : meth.sig.returnType = (some .int)) (hlocks : meth.locks = false) (hG : sx_G C) (hz : sx_sz C ≤ s.heap.size) (hT : sx_thr C s) (hst : l.stackTraces = false) (hne : ∀ x ∈ c.exceptionTable.toList, False) (hcs : 1 ≤ R.cells ∧ 6 ≤ R.slots) (hR : 8 ≤ R.frames ∧ 126 ≤ R.locals) (M0 : sx_M) (r : Nat ⊕ Int32) (M' : sx_M) (h : f7_step M0 = some (r, M')) (hl : lv_has ls 1 [(0, .ref (sx_ad C 0 0))]) (hP : sx_W C M0 H) (hS : va_S (sx_A C) s.heap H locs) : W p l e R s m args below meth c H locs 0 0 (vx_MQ below (sx_QN C (sx_oi r) M') (sx_QX C (sx_oi r) M') args s 1 6 (sx_A C)) (F0 m 0 ls []) := by
  obtain ⟨hx, hb, hml, hown, hts, hK⟩ := id X
  rw [f7_step] at h
  refine lv_aload_n hx hb dX7_step_0 rfl (lv_at hl 0 rfl) ?_
  refine lv_bipush (v := (8 : Int32)) hx hb dX7_step_1 (by decide) ?_
  refine lv_bipush (v := (-9 : Int32)) hx hb dX7_step_3 (by decide) ?_
  refine lv_bipush (v := (-9 : Int32)) hx hb dX7_step_5 (by decide) ?_
  refine lv_iconst (v := (0 : Int32)) hx hb dX7_step_7 (by decide) ?_
  obtain ⟨q1, M2, e_q1, hk_q1, hv_q1⟩ := sx_bTe h
  refine clT_X7_132 X hT hst hG hP hz hS  e_q1 hl.1 dX7_step_8 ⟨Nat.le_trans (by decide) hcs.1, Nat.le_trans (by decide) hcs.2⟩ ⟨Nat.le_trans (by decide) hR.1, Nat.le_trans (by decide) hR.2⟩ (Nat.le_of_ble_eq_true rfl) (fun k ce q9 H locs ho hP hS g1 g2 g3 => ?_) (fun v3 H locs ho hP hS => ?_)
  · obtain ⟨q1, q2⟩ := hk_q1 k ho
    subst q1; subst q2
    exact sx_out hne hlocks hS hP rfl g1 g2 g3 (by decide) (by decide)
  replace h := hv_q1 v3 ho
  exact sx_tiret X hr hlocks hS hP h dX7_step_11 (by decide) (by decide)
set_option maxRecDepth 100000 in
theorem ct_7_step (l : Launch) (hst : l.stackTraces = false) (C : sx_C) (hG : sx_G C) (M0 : sx_M) (r : Nat ⊕ Int32) (M' : sx_M) (h : f7_step M0 = some (r, M')) : vx_Met l yX7_step (.code yX7_step cX7_step 1 (some .int) :: sx_T) ({ frames := 8, cells := 1, slots := 6, locals := 126 } : Room) (sx_PcT C M0 [.ref (sx_ad C 0 0)]) (sx_QN C (sx_oi r) M') (sx_QX C (sx_oi r) M') 1 6 (sx_A C) := by
  refine vx_ofW (cc := cX7_step) (maxL := 1) (ret := (some .int)) (by decide) rfl ?_
  intro p e s m args below meth c s₁ B hml hne hv
  obtain ⟨rfl, hz, hP, hK, hT⟩ := hv
  have hl := lv_entry ([.ref (sx_ad C 0 0)]) (n := 1) (Nat.le_of_ble_eq_true rfl)
  rw [lg_entry_eq]
  generalize (lg_sl ([.ref (sx_ad C 0 0)]) ++ List.replicate (1 - (lg_sl ([.ref (sx_ad C 0 0)])).length) Slot.unset).toArray = ls at hl ⊢
  exact wk_7_step ⟨B.exec, B.bytes, hml, findClass_of_methodNamed B.named, fun w hw => atoms_spec B.pre w (List.mem_cons_of_mem _ hw), hK⟩ B.returns B.notSynchronized hG hz hT hst hne ⟨Nat.le_refl _, Nat.le_refl _⟩ ⟨Nat.le_refl _, Nat.le_refl _⟩ M0 r M' h hl hP va_S.rf
theorem clT_L_59 (X : sx_X C p m c cc nL s args RL) (hT : sx_thr C s) (hst : l.stackTraces = false) (hG : sx_G C) (hP : sx_W C M0 H) (hz : sx_sz C ≤ s.heap.size) (hS : va_S (sx_A C) s.heap H locs) {r : Nat ⊕ Int32} {M' : sx_M} (h : f7_step M0 = some (r, M')) (hsz : ls.size = nL) (hdg : decode cc pc = .ok (.invokevirtual 59, 3)) (hcs : cells + 1 ≤ R.cells ∧ slots + 6 ≤ R.slots) (hR : 8 + 1 ≤ R.frames ∧ 8 + (1 + 11) + 126 ≤ R.locals) (hrest : (rest.map fun v => v.category).sum ≤ 8) (kx : ∀ (k : Nat) (ce : Cell) (q9 : Addr) (H1 : Heap) (locs1 : List Loc), r = .inl k → sx_W C M' H1 → va_S (sx_A C) s.heap H1 locs1 → H1[q9]? = some ce → ce.vm = .none → s.vm.findClass (sx_exn k) = some ce.cls → vx_W p l e R s m args below meth c H1 locs1 (cells + 1) (slots + 6) Q (F0 m pc ls rest) q9) (kk : ∀ (v : Int32) (H1 : Heap) (locs1 : List Loc), r = .inr v → sx_W C M' H1 → va_S (sx_A C) s.heap H1 locs1 → W p l e R s m args below meth c H1 locs1 (cells + 1) (slots + 6) Q (F0 m (pc + 3) ls (.int v :: rest))) : W p l e R s m args below meth c H locs cells slots Q (F0 m pc ls (.ref (sx_ad C 0 0) :: rest)) := by
  exact sx_callVT (n := 0) (As := []) (k0 := 0) (s0 := 0) X hT hP hz hS (by decide) rfl rfl (sx_goodV tw_824 tw_825 tw_826 tw_64 tw_827) (by decide +kernel) rfl rfl hR (ct_7_step l hst C hG M0 r M' h) rfl rfl hrest hsz hdg hcs (fun k ce q9 H1 locs1 ho => kx k ce q9 H1 locs1 (sx_oi_l ho)) (fun rv H1 locs1 ho hW hS1 => by obtain ⟨v, e1, rfl⟩ := sx_oi_r ho; exact kk v H1 locs1 e1 hW hS1)
-- StringShed.undo()I
def f7_undo  (M0 : sx_M) : Option ((Nat ⊕ Int32) × sx_M) :=
  (f1_isEmpty M0).bind fun v1 =>
  if v1 = 0 then
    sx_b2 (f1_takeBack 0 M0) fun v3 M4 =>
    some (.inr v3, M4)
  else
    some (.inl 2, M0)
set_option maxRecDepth 100000 in
set_option maxHeartbeats 4000000 in
theorem wk_7_undo (X : sx_X C p m c cX7_undo 1 s args RX7) (hr : meth.sig.returnType = (some .int)) (hlocks : meth.locks = false) (hG : sx_G C) (hz : sx_sz C ≤ s.heap.size) (hT : sx_thr C s) (hst : l.stackTraces = false) (hne : ∀ x ∈ c.exceptionTable.toList, False) (hcs : 1 ≤ R.cells ∧ 6 ≤ R.slots) (hR : 6 ≤ R.frames ∧ 82 ≤ R.locals) (M0 : sx_M) (r : Nat ⊕ Int32) (M' : sx_M) (h : f7_undo M0 = some (r, M')) (hl : lv_has ls 1 [(0, .ref (sx_ad C 0 0))]) (hP : sx_W C M0 H) (hS : va_S (sx_A C) s.heap H locs) : W p l e R s m args below meth c H locs 0 0 (vx_MQ below (sx_QN C (sx_oi r) M') (sx_QX C (sx_oi r) M') args s 1 6 (sx_A C)) (F0 m 0 ls []) := by
  obtain ⟨hx, hb, hml, hown, hts, hK⟩ := id X
  rw [f7_undo] at h
  refine lv_aload_n hx hb dX7_undo_0 rfl (lv_at hl 0 rfl) ?_
  refine gf_X7_22 X hP (by decide) dX7_undo_1 ?_
  obtain ⟨v1, e_v1, h⟩ := sx_bnd h
  refine cl_X7_136 X hG hP hz hS  e_v1 hl.1 dX7_undo_4 ⟨Nat.le_trans (by decide) hcs.1, Nat.le_trans (by decide) hcs.2⟩ ⟨Nat.le_trans (by decide) hR.1, Nat.le_trans (by decide) hR.2⟩ (Nat.le_of_ble_eq_true rfl) (fun H locs hP hS => ?_)
  refine lv_if_eq (tgt := 20) hx hb dX7_undo_7 (by decide) (fun c2 => ?_) (fun c2 => ?_)
  · replace h := sx_ifp h c2
    refine lv_aload_n hx hb dX7_undo_20 rfl (lv_at hl 0 rfl) ?_
    refine gf_X7_22 X hP (by decide) dX7_undo_21 ?_
    refine lv_aload_n hx hb dX7_undo_24 rfl (lv_at hl 0 rfl) ?_
    refine gf_X7_12 X hP (by decide) dX7_undo_25 ?_
    obtain ⟨v3, M4, e_v3, h⟩ := sx_bnd2 h
    refine cl_X7_141 X hG hP hz hS (by decide) e_v3 hl.1 dX7_undo_28 ⟨Nat.le_trans (by decide) hcs.1, Nat.le_trans (by decide) hcs.2⟩ ⟨Nat.le_trans (by decide) hR.1, Nat.le_trans (by decide) hR.2⟩ (Nat.le_of_ble_eq_true rfl) (fun H locs hP hS => ?_)
    exact sx_tiret X hr hlocks hS hP h dX7_undo_31 (by decide) (by decide)
  · replace h := sx_ifn h c2
    obtain ⟨q1, q2⟩ := Prod.mk.inj (Option.some.inj h)
    subst q1; subst q2
    exact sx_throw2 X hT hst hne hlocks hz hS hP hl.1 (is := 139) (List.mem_of_getElem? (i := 9) rfl) dX7_undo_10 dX7_undo_13 dX7_undo_14 dX7_undo_16 dX7_undo_19 ⟨Nat.le_trans (by decide) hR.1, Nat.le_trans (by decide) hR.2⟩ ⟨Nat.le_trans (by decide) hcs.1, Nat.le_trans (by decide) hcs.2⟩ rfl (by decide) (by decide)
set_option maxRecDepth 100000 in
theorem ct_7_undo (l : Launch) (hst : l.stackTraces = false) (C : sx_C) (hG : sx_G C) (M0 : sx_M) (r : Nat ⊕ Int32) (M' : sx_M) (h : f7_undo M0 = some (r, M')) : vx_Met l yX7_undo (.code yX7_undo cX7_undo 1 (some .int) :: sx_T) ({ frames := 6, cells := 1, slots := 6, locals := 82 } : Room) (sx_PcT C M0 [.ref (sx_ad C 0 0)]) (sx_QN C (sx_oi r) M') (sx_QX C (sx_oi r) M') 1 6 (sx_A C) := by
  refine vx_ofW (cc := cX7_undo) (maxL := 1) (ret := (some .int)) (by decide) rfl ?_
  intro p e s m args below meth c s₁ B hml hne hv
  obtain ⟨rfl, hz, hP, hK, hT⟩ := hv
  have hl := lv_entry ([.ref (sx_ad C 0 0)]) (n := 1) (Nat.le_of_ble_eq_true rfl)
  rw [lg_entry_eq]
  generalize (lg_sl ([.ref (sx_ad C 0 0)]) ++ List.replicate (1 - (lg_sl ([.ref (sx_ad C 0 0)])).length) Slot.unset).toArray = ls at hl ⊢
  exact wk_7_undo ⟨B.exec, B.bytes, hml, findClass_of_methodNamed B.named, fun w hw => atoms_spec B.pre w (List.mem_cons_of_mem _ hw), hK⟩ B.returns B.notSynchronized hG hz hT hst hne ⟨Nat.le_refl _, Nat.le_refl _⟩ ⟨Nat.le_refl _, Nat.le_refl _⟩ M0 r M' h hl hP va_S.rf
theorem clT_L_62 (X : sx_X C p m c cc nL s args RL) (hT : sx_thr C s) (hst : l.stackTraces = false) (hG : sx_G C) (hP : sx_W C M0 H) (hz : sx_sz C ≤ s.heap.size) (hS : va_S (sx_A C) s.heap H locs) {r : Nat ⊕ Int32} {M' : sx_M} (h : f7_undo M0 = some (r, M')) (hsz : ls.size = nL) (hdg : decode cc pc = .ok (.invokevirtual 62, 3)) (hcs : cells + 1 ≤ R.cells ∧ slots + 6 ≤ R.slots) (hR : 6 + 1 ≤ R.frames ∧ 8 + (1 + 11) + 82 ≤ R.locals) (hrest : (rest.map fun v => v.category).sum ≤ 8) (kx : ∀ (k : Nat) (ce : Cell) (q9 : Addr) (H1 : Heap) (locs1 : List Loc), r = .inl k → sx_W C M' H1 → va_S (sx_A C) s.heap H1 locs1 → H1[q9]? = some ce → ce.vm = .none → s.vm.findClass (sx_exn k) = some ce.cls → vx_W p l e R s m args below meth c H1 locs1 (cells + 1) (slots + 6) Q (F0 m pc ls rest) q9) (kk : ∀ (v : Int32) (H1 : Heap) (locs1 : List Loc), r = .inr v → sx_W C M' H1 → va_S (sx_A C) s.heap H1 locs1 → W p l e R s m args below meth c H1 locs1 (cells + 1) (slots + 6) Q (F0 m (pc + 3) ls (.int v :: rest))) : W p l e R s m args below meth c H locs cells slots Q (F0 m pc ls (.ref (sx_ad C 0 0) :: rest)) := by
  exact sx_callVT (n := 0) (As := []) (k0 := 0) (s0 := 0) X hT hP hz hS (by decide) rfl rfl (sx_goodV tw_831 tw_832 tw_833 tw_64 tw_834) (by decide +kernel) rfl rfl hR (ct_7_undo l hst C hG M0 r M' h) rfl rfl hrest hsz hdg hcs (fun k ce q9 H1 locs1 ho => kx k ce q9 H1 locs1 (sx_oi_l ho)) (fun rv H1 locs1 ho hW hS1 => by obtain ⟨v, e1, rfl⟩ := sx_oi_r ho; exact kk v H1 locs1 e1 hW hS1)
-- StringShed.falls(II)I
def f7_falls (a1 : Int32) (a2 : Int32) (M0 : sx_M) : Option ((Nat ⊕ Int32) × sx_M) :=
  (f3_faultOf 0 (3 : Int32) a1 a2 M0).bind fun v1 =>
  sx_bT (f7_refuse v1 M0) fun _ M3 =>
  (f4_find 0 a1 a2 M3).bind fun v4 =>
  (f3_weightUnder 0 v4 M3).bind fun v5 =>
  some (.inr v5, M3)
set_option maxRecDepth 100000 in
set_option maxHeartbeats 4000000 in
theorem wk_7_falls (X : sx_X C p m c cX7_falls 3 s args RX7) (hr : meth.sig.returnType = (some .int)) (hlocks : meth.locks = false) (hG : sx_G C) (hz : sx_sz C ≤ s.heap.size) (hT : sx_thr C s) (hst : l.stackTraces = false) (hne : ∀ x ∈ c.exceptionTable.toList, False) (hcs : 1 ≤ R.cells ∧ 6 ≤ R.slots) (hR : 7 ≤ R.frames ∧ 102 ≤ R.locals) (a1 : Int32) (a2 : Int32) (M0 : sx_M) (r : Nat ⊕ Int32) (M' : sx_M) (h : f7_falls a1 a2 M0 = some (r, M')) (hl : lv_has ls 3 [(0, .ref (sx_ad C 0 0)), (1, .int a1), (2, .int a2)]) (hP : sx_W C M0 H) (hS : va_S (sx_A C) s.heap H locs) : W p l e R s m args below meth c H locs 0 0 (vx_MQ below (sx_QN C (sx_oi r) M') (sx_QX C (sx_oi r) M') args s 1 6 (sx_A C)) (F0 m 0 ls []) := by
  obtain ⟨hx, hb, hml, hown, hts, hK⟩ := id X
  rw [f7_falls] at h
  refine lv_aload_n hx hb dX7_falls_0 rfl (lv_at hl 0 rfl) ?_
  refine gf_X7_12 X hP (by decide) dX7_falls_1 ?_
  refine lv_iconst (v := (3 : Int32)) hx hb dX7_falls_4 (by decide) ?_
  refine lv_iload_n hx hb dX7_falls_5 rfl (lv_at hl 1 rfl) ?_
  refine lv_iload_n hx hb dX7_falls_6 rfl (lv_at hl 2 rfl) ?_
  obtain ⟨v1, e_v1, h⟩ := sx_bnd h
  refine cl_X7_145 X hG hP hz hS (by decide) e_v1 hl.1 dX7_falls_7 ⟨Nat.le_trans (by decide) hcs.1, Nat.le_trans (by decide) hcs.2⟩ ⟨Nat.le_trans (by decide) hR.1, Nat.le_trans (by decide) hR.2⟩ (Nat.le_of_ble_eq_true rfl) (fun H locs hP hS => ?_)
  obtain ⟨q2, M3, e_q2, hk_q2, hv_q2⟩ := sx_bTe h
  refine clT_X7_102 X hT hst hG hP hz hS  e_q2 hl.1 dX7_falls_10 ⟨Nat.le_trans (by decide) hcs.1, Nat.le_trans (by decide) hcs.2⟩ ⟨Nat.le_trans (by decide) hR.1, Nat.le_trans (by decide) hR.2⟩ (Nat.le_of_ble_eq_true rfl) (fun k ce q9 H locs ho hP hS g1 g2 g3 => ?_) (fun H locs ho hP hS => ?_)
  · obtain ⟨q1, q2⟩ := hk_q2 k ho
    subst q1; subst q2
    exact sx_out hne hlocks hS hP rfl g1 g2 g3 (by decide) (by decide)
  replace h := hv_q2 () ho
  refine lv_aload_n hx hb dX7_falls_13 rfl (lv_at hl 0 rfl) ?_
  refine gf_X7_12 X hP (by decide) dX7_falls_14 ?_
  refine lv_aload_n hx hb dX7_falls_17 rfl (lv_at hl 0 rfl) ?_
  refine gf_X7_12 X hP (by decide) dX7_falls_18 ?_
  refine gf_X7_115 X hP (by decide) dX7_falls_21 ?_
  refine lv_iload_n hx hb dX7_falls_24 rfl (lv_at hl 1 rfl) ?_
  refine lv_iload_n hx hb dX7_falls_25 rfl (lv_at hl 2 rfl) ?_
  obtain ⟨v4, e_v4, h⟩ := sx_bnd h
  refine cl_X7_119 X hG hP hz hS (by decide) e_v4 hl.1 dX7_falls_26 ⟨Nat.le_trans (by decide) hcs.1, Nat.le_trans (by decide) hcs.2⟩ ⟨Nat.le_trans (by decide) hR.1, Nat.le_trans (by decide) hR.2⟩ (Nat.le_of_ble_eq_true rfl) (fun H locs hP hS => ?_)
  obtain ⟨v5, e_v5, h⟩ := sx_bnd h
  refine cl_X7_165 X hG hP hz hS (by decide) e_v5 hl.1 dX7_falls_29 ⟨Nat.le_trans (by decide) hcs.1, Nat.le_trans (by decide) hcs.2⟩ ⟨Nat.le_trans (by decide) hR.1, Nat.le_trans (by decide) hR.2⟩ (Nat.le_of_ble_eq_true rfl) (fun H locs hP hS => ?_)
  exact sx_tiret X hr hlocks hS hP h dX7_falls_32 (by decide) (by decide)
set_option maxRecDepth 100000 in
theorem ct_7_falls (l : Launch) (hst : l.stackTraces = false) (C : sx_C) (hG : sx_G C) (a1 : Int32) (a2 : Int32) (M0 : sx_M) (r : Nat ⊕ Int32) (M' : sx_M) (h : f7_falls a1 a2 M0 = some (r, M')) : vx_Met l yX7_falls (.code yX7_falls cX7_falls 3 (some .int) :: sx_T) ({ frames := 7, cells := 1, slots := 6, locals := 102 } : Room) (sx_PcT C M0 [.ref (sx_ad C 0 0), .int a1, .int a2]) (sx_QN C (sx_oi r) M') (sx_QX C (sx_oi r) M') 1 6 (sx_A C) := by
  refine vx_ofW (cc := cX7_falls) (maxL := 3) (ret := (some .int)) (by decide) rfl ?_
  intro p e s m args below meth c s₁ B hml hne hv
  obtain ⟨rfl, hz, hP, hK, hT⟩ := hv
  have hl := lv_entry ([.ref (sx_ad C 0 0), .int a1, .int a2]) (n := 3) (Nat.le_of_ble_eq_true rfl)
  rw [lg_entry_eq]
  generalize (lg_sl ([.ref (sx_ad C 0 0), .int a1, .int a2]) ++ List.replicate (3 - (lg_sl ([.ref (sx_ad C 0 0), .int a1, .int a2])).length) Slot.unset).toArray = ls at hl ⊢
  exact wk_7_falls ⟨B.exec, B.bytes, hml, findClass_of_methodNamed B.named, fun w hw => atoms_spec B.pre w (List.mem_cons_of_mem _ hw), hK⟩ B.returns B.notSynchronized hG hz hT hst hne ⟨Nat.le_refl _, Nat.le_refl _⟩ ⟨Nat.le_refl _, Nat.le_refl _⟩ a1 a2 M0 r M' h hl hP va_S.rf
theorem clT_L_65 (X : sx_X C p m c cc nL s args RL) (hT : sx_thr C s) (hst : l.stackTraces = false) (hG : sx_G C) (hP : sx_W C M0 H) (hz : sx_sz C ≤ s.heap.size) (hS : va_S (sx_A C) s.heap H locs) {a1 : Int32} {a2 : Int32} {r : Nat ⊕ Int32} {M' : sx_M} (h : f7_falls a1 a2 M0 = some (r, M')) (hsz : ls.size = nL) (hdg : decode cc pc = .ok (.invokevirtual 65, 3)) (hcs : cells + 1 ≤ R.cells ∧ slots + 6 ≤ R.slots) (hR : 7 + 1 ≤ R.frames ∧ 8 + (3 + 11) + 102 ≤ R.locals) (hrest : (rest.map fun v => v.category).sum ≤ 8) (kx : ∀ (k : Nat) (ce : Cell) (q9 : Addr) (H1 : Heap) (locs1 : List Loc), r = .inl k → sx_W C M' H1 → va_S (sx_A C) s.heap H1 locs1 → H1[q9]? = some ce → ce.vm = .none → s.vm.findClass (sx_exn k) = some ce.cls → vx_W p l e R s m args below meth c H1 locs1 (cells + 1) (slots + 6) Q (F0 m pc ls rest) q9) (kk : ∀ (v : Int32) (H1 : Heap) (locs1 : List Loc), r = .inr v → sx_W C M' H1 → va_S (sx_A C) s.heap H1 locs1 → W p l e R s m args below meth c H1 locs1 (cells + 1) (slots + 6) Q (F0 m (pc + 3) ls (.int v :: rest))) : W p l e R s m args below meth c H locs cells slots Q (F0 m pc ls (.int a2 :: .int a1 :: .ref (sx_ad C 0 0) :: rest)) := by
  exact sx_callVT (n := 2) (As := [.int a1, .int a2]) (k0 := 0) (s0 := 0) X hT hP hz hS (by decide) rfl rfl (sx_goodV tw_847 tw_848 tw_849 tw_64 tw_850) (by decide +kernel) rfl rfl hR (ct_7_falls l hst C hG a1 a2 M0 r M' h) rfl rfl hrest hsz hdg hcs (fun k ce q9 H1 locs1 ho => kx k ce q9 H1 locs1 (sx_oi_l ho)) (fun rv H1 locs1 ho hW hS1 => by obtain ⟨v, e1, rfl⟩ := sx_oi_r ho; exact kk v H1 locs1 e1 hW hS1)
-- StringShed.cuts(I)I
def f7_cuts (a1 : Int32) (M0 : sx_M) : Option ((Nat ⊕ Int32) × sx_M) :=
  (f3_partFault 0 a1 M0).bind fun v1 =>
  sx_bT (f7_refuse v1 M0) fun _ M3 =>
  (f3_isPinned 0 a1 M3).bind fun v4 =>
  sx_bd (fun (v5 : Int32) (M6 : sx_M) =>
    some (.inr v5, M6)) fun j49 =>
  if v4 = 0 then
    (f3_holders 0 M3).bind fun v8 =>
    sx_b2 (f0_fewest 0 v8 a1 M3) fun v9 M10 =>
    j49 v9 M10
  else
    j49 (-9 : Int32) M3
set_option maxRecDepth 100000 in
set_option maxHeartbeats 4000000 in
theorem wk_7_cuts (X : sx_X C p m c cX7_cuts 2 s args RX7) (hr : meth.sig.returnType = (some .int)) (hlocks : meth.locks = false) (hG : sx_G C) (hz : sx_sz C ≤ s.heap.size) (hT : sx_thr C s) (hst : l.stackTraces = false) (hne : ∀ x ∈ c.exceptionTable.toList, False) (hcs : 1 ≤ R.cells ∧ 6 ≤ R.slots) (hR : 7 ≤ R.frames ∧ 119 ≤ R.locals) (a1 : Int32) (M0 : sx_M) (r : Nat ⊕ Int32) (M' : sx_M) (h : f7_cuts a1 M0 = some (r, M')) (hl : lv_has ls 2 [(0, .ref (sx_ad C 0 0)), (1, .int a1)]) (hP : sx_W C M0 H) (hS : va_S (sx_A C) s.heap H locs) : W p l e R s m args below meth c H locs 0 0 (vx_MQ below (sx_QN C (sx_oi r) M') (sx_QX C (sx_oi r) M') args s 1 6 (sx_A C)) (F0 m 0 ls []) := by
  obtain ⟨hx, hb, hml, hown, hts, hK⟩ := id X
  rw [f7_cuts] at h
  refine lv_aload_n hx hb dX7_cuts_0 rfl (lv_at hl 0 rfl) ?_
  refine gf_X7_12 X hP (by decide) dX7_cuts_1 ?_
  refine lv_iload_n hx hb dX7_cuts_4 rfl (lv_at hl 1 rfl) ?_
  obtain ⟨v1, e_v1, h⟩ := sx_bnd h
  refine cl_X7_99 X hG hP hz hS (by decide) e_v1 hl.1 dX7_cuts_5 ⟨Nat.le_trans (by decide) hcs.1, Nat.le_trans (by decide) hcs.2⟩ ⟨Nat.le_trans (by decide) hR.1, Nat.le_trans (by decide) hR.2⟩ (Nat.le_of_ble_eq_true rfl) (fun H locs hP hS => ?_)
  obtain ⟨q2, M3, e_q2, hk_q2, hv_q2⟩ := sx_bTe h
  refine clT_X7_102 X hT hst hG hP hz hS  e_q2 hl.1 dX7_cuts_8 ⟨Nat.le_trans (by decide) hcs.1, Nat.le_trans (by decide) hcs.2⟩ ⟨Nat.le_trans (by decide) hR.1, Nat.le_trans (by decide) hR.2⟩ (Nat.le_of_ble_eq_true rfl) (fun k ce q9 H locs ho hP hS g1 g2 g3 => ?_) (fun H locs ho hP hS => ?_)
  · obtain ⟨q1, q2⟩ := hk_q2 k ho
    subst q1; subst q2
    exact sx_out hne hlocks hS hP rfl g1 g2 g3 (by decide) (by decide)
  replace h := hv_q2 () ho
  refine lv_aload_n hx hb dX7_cuts_11 rfl (lv_at hl 0 rfl) ?_
  refine gf_X7_12 X hP (by decide) dX7_cuts_12 ?_
  refine lv_iload_n hx hb dX7_cuts_15 rfl (lv_at hl 1 rfl) ?_
  obtain ⟨v4, e_v4, h⟩ := sx_bnd h
  refine cl_X7_168 X hG hP hz hS (by decide) e_v4 hl.1 dX7_cuts_16 ⟨Nat.le_trans (by decide) hcs.1, Nat.le_trans (by decide) hcs.2⟩ ⟨Nat.le_trans (by decide) hR.1, Nat.le_trans (by decide) hR.2⟩ (Nat.le_of_ble_eq_true rfl) (fun H locs hP hS => ?_)
  obtain ⟨j49, e_j49, h⟩ := sx_nm h
  have hj49 : ∀ (v5 : Int32) (M6 : sx_M) (H : Heap) (locs : List Loc) (ls : Array Slot), lv_has ls 2 [] → sx_W C M6 H → va_S (sx_A C) s.heap H locs → j49 v5 M6 = some (r, M') → W p l e R s m args below meth c H locs 1 6 (vx_MQ below (sx_QN C (sx_oi r) M') (sx_QX C (sx_oi r) M') args s 1 6 (sx_A C)) (F0 m 49 ls [.int v5]) := by
    intro v5 M6 H locs ls hl hP hS h
    subst e_j49
    exact sx_tiret X hr hlocks hS hP h dX7_cuts_49 (by decide) (by decide)
  clear e_j49
  refine lv_if_eq (tgt := 27) hx hb dX7_cuts_19 (by decide) (fun c7 => ?_) (fun c7 => ?_)
  · replace h := sx_ifp h c7
    refine lv_aload_n hx hb dX7_cuts_27 rfl (lv_at hl 0 rfl) ?_
    refine gf_X7_44 X hP (by decide) dX7_cuts_28 ?_
    refine lv_aload_n hx hb dX7_cuts_31 rfl (lv_at hl 0 rfl) ?_
    refine gf_X7_12 X hP (by decide) dX7_cuts_32 ?_
    refine gf_X7_115 X hP (by decide) dX7_cuts_35 ?_
    refine lv_aload_n hx hb dX7_cuts_38 rfl (lv_at hl 0 rfl) ?_
    refine gf_X7_12 X hP (by decide) dX7_cuts_39 ?_
    obtain ⟨v8, e_v8, h⟩ := sx_bnd h
    refine cl_X7_171 X hG hP hz hS (by decide) e_v8 hl.1 dX7_cuts_42 ⟨Nat.le_trans (by decide) hcs.1, Nat.le_trans (by decide) hcs.2⟩ ⟨Nat.le_trans (by decide) hR.1, Nat.le_trans (by decide) hR.2⟩ (Nat.le_of_ble_eq_true rfl) (fun H locs hP hS => ?_)
    refine lv_iload_n hx hb dX7_cuts_45 rfl (lv_at hl 1 rfl) ?_
    obtain ⟨v9, M10, e_v9, h⟩ := sx_bnd2 h
    refine cl_X7_174 X hG hP hz hS (by decide) e_v9 hl.1 dX7_cuts_46 ⟨Nat.le_trans (by decide) hcs.1, Nat.le_trans (by decide) hcs.2⟩ ⟨Nat.le_trans (by decide) hR.1, Nat.le_trans (by decide) hR.2⟩ (Nat.le_of_ble_eq_true rfl) (fun H locs hP hS => ?_)
    exact hj49 v9 M10 H locs ls (lv_sub hl [] rfl) hP hS h
  · replace h := sx_ifn h c7
    refine lv_bipush (v := (-9 : Int32)) hx hb dX7_cuts_22 (by decide) ?_
    refine lv_goto (tgt := 49) hx hb dX7_cuts_24 (by decide) ?_
    exact hj49 (-9 : Int32) M3 H locs ls (lv_sub hl [] rfl) hP hS h
set_option maxRecDepth 100000 in
theorem ct_7_cuts (l : Launch) (hst : l.stackTraces = false) (C : sx_C) (hG : sx_G C) (a1 : Int32) (M0 : sx_M) (r : Nat ⊕ Int32) (M' : sx_M) (h : f7_cuts a1 M0 = some (r, M')) : vx_Met l yX7_cuts (.code yX7_cuts cX7_cuts 2 (some .int) :: sx_T) ({ frames := 7, cells := 1, slots := 6, locals := 119 } : Room) (sx_PcT C M0 [.ref (sx_ad C 0 0), .int a1]) (sx_QN C (sx_oi r) M') (sx_QX C (sx_oi r) M') 1 6 (sx_A C) := by
  refine vx_ofW (cc := cX7_cuts) (maxL := 2) (ret := (some .int)) (by decide) rfl ?_
  intro p e s m args below meth c s₁ B hml hne hv
  obtain ⟨rfl, hz, hP, hK, hT⟩ := hv
  have hl := lv_entry ([.ref (sx_ad C 0 0), .int a1]) (n := 2) (Nat.le_of_ble_eq_true rfl)
  rw [lg_entry_eq]
  generalize (lg_sl ([.ref (sx_ad C 0 0), .int a1]) ++ List.replicate (2 - (lg_sl ([.ref (sx_ad C 0 0), .int a1])).length) Slot.unset).toArray = ls at hl ⊢
  exact wk_7_cuts ⟨B.exec, B.bytes, hml, findClass_of_methodNamed B.named, fun w hw => atoms_spec B.pre w (List.mem_cons_of_mem _ hw), hK⟩ B.returns B.notSynchronized hG hz hT hst hne ⟨Nat.le_refl _, Nat.le_refl _⟩ ⟨Nat.le_refl _, Nat.le_refl _⟩ a1 M0 r M' h hl hP va_S.rf
theorem clT_L_68 (X : sx_X C p m c cc nL s args RL) (hT : sx_thr C s) (hst : l.stackTraces = false) (hG : sx_G C) (hP : sx_W C M0 H) (hz : sx_sz C ≤ s.heap.size) (hS : va_S (sx_A C) s.heap H locs) {a1 : Int32} {r : Nat ⊕ Int32} {M' : sx_M} (h : f7_cuts a1 M0 = some (r, M')) (hsz : ls.size = nL) (hdg : decode cc pc = .ok (.invokevirtual 68, 3)) (hcs : cells + 1 ≤ R.cells ∧ slots + 6 ≤ R.slots) (hR : 7 + 1 ≤ R.frames ∧ 8 + (2 + 11) + 119 ≤ R.locals) (hrest : (rest.map fun v => v.category).sum ≤ 8) (kx : ∀ (k : Nat) (ce : Cell) (q9 : Addr) (H1 : Heap) (locs1 : List Loc), r = .inl k → sx_W C M' H1 → va_S (sx_A C) s.heap H1 locs1 → H1[q9]? = some ce → ce.vm = .none → s.vm.findClass (sx_exn k) = some ce.cls → vx_W p l e R s m args below meth c H1 locs1 (cells + 1) (slots + 6) Q (F0 m pc ls rest) q9) (kk : ∀ (v : Int32) (H1 : Heap) (locs1 : List Loc), r = .inr v → sx_W C M' H1 → va_S (sx_A C) s.heap H1 locs1 → W p l e R s m args below meth c H1 locs1 (cells + 1) (slots + 6) Q (F0 m (pc + 3) ls (.int v :: rest))) : W p l e R s m args below meth c H locs cells slots Q (F0 m pc ls (.int a1 :: .ref (sx_ad C 0 0) :: rest)) := by
  exact sx_callVT (n := 1) (As := [.int a1]) (k0 := 0) (s0 := 0) X hT hP hz hS (by decide) rfl rfl (sx_goodV tw_854 tw_855 tw_856 tw_64 tw_857) (by decide +kernel) rfl rfl hR (ct_7_cuts l hst C hG a1 M0 r M' h) rfl rfl hrest hsz hdg hcs (fun k ce q9 H1 locs1 ho => kx k ce q9 H1 locs1 (sx_oi_l ho)) (fun rv H1 locs1 ho hW hS1 => by obtain ⟨v, e1, rfl⟩ := sx_oi_r ho; exact kk v H1 locs1 e1 hW hS1)
-- StringShed.way(II)I
def f7_way (a1 : Int32) (a2 : Int32) (M0 : sx_M) : Option ((Nat ⊕ Int32) × sx_M) :=
  (f3_partFault 0 a1 M0).bind fun v1 =>
  sx_bT (f7_refuse v1 M0) fun _ M3 =>
  if 0 ≤ a2 then
    (f3_holders 0 M3).bind fun v5 =>
    (f4_onWay 0 v5 a1 a2 M3).bind fun v6 =>
    some (.inr v6, M3)
  else
    some (.inl 1, M3)
set_option maxRecDepth 100000 in
set_option maxHeartbeats 4000000 in
theorem wk_7_way (X : sx_X C p m c cX7_way 3 s args RX7) (hr : meth.sig.returnType = (some .int)) (hlocks : meth.locks = false) (hG : sx_G C) (hz : sx_sz C ≤ s.heap.size) (hT : sx_thr C s) (hst : l.stackTraces = false) (hne : ∀ x ∈ c.exceptionTable.toList, False) (hcs : 2 ≤ R.cells ∧ 12 ≤ R.slots) (hR : 7 ≤ R.frames ∧ 102 ≤ R.locals) (a1 : Int32) (a2 : Int32) (M0 : sx_M) (r : Nat ⊕ Int32) (M' : sx_M) (h : f7_way a1 a2 M0 = some (r, M')) (hl : lv_has ls 3 [(0, .ref (sx_ad C 0 0)), (1, .int a1), (2, .int a2)]) (hP : sx_W C M0 H) (hS : va_S (sx_A C) s.heap H locs) : W p l e R s m args below meth c H locs 0 0 (vx_MQ below (sx_QN C (sx_oi r) M') (sx_QX C (sx_oi r) M') args s 2 12 (sx_A C)) (F0 m 0 ls []) := by
  obtain ⟨hx, hb, hml, hown, hts, hK⟩ := id X
  rw [f7_way] at h
  refine lv_aload_n hx hb dX7_way_0 rfl (lv_at hl 0 rfl) ?_
  refine gf_X7_12 X hP (by decide) dX7_way_1 ?_
  refine lv_iload_n hx hb dX7_way_4 rfl (lv_at hl 1 rfl) ?_
  obtain ⟨v1, e_v1, h⟩ := sx_bnd h
  refine cl_X7_99 X hG hP hz hS (by decide) e_v1 hl.1 dX7_way_5 ⟨Nat.le_trans (by decide) hcs.1, Nat.le_trans (by decide) hcs.2⟩ ⟨Nat.le_trans (by decide) hR.1, Nat.le_trans (by decide) hR.2⟩ (Nat.le_of_ble_eq_true rfl) (fun H locs hP hS => ?_)
  obtain ⟨q2, M3, e_q2, hk_q2, hv_q2⟩ := sx_bTe h
  refine clT_X7_102 X hT hst hG hP hz hS  e_q2 hl.1 dX7_way_8 ⟨Nat.le_trans (by decide) hcs.1, Nat.le_trans (by decide) hcs.2⟩ ⟨Nat.le_trans (by decide) hR.1, Nat.le_trans (by decide) hR.2⟩ (Nat.le_of_ble_eq_true rfl) (fun k ce q9 H locs ho hP hS g1 g2 g3 => ?_) (fun H locs ho hP hS => ?_)
  · obtain ⟨q1, q2⟩ := hk_q2 k ho
    subst q1; subst q2
    exact sx_out hne hlocks hS hP rfl g1 g2 g3 (by decide) (by decide)
  replace h := hv_q2 () ho
  refine lv_iload_n hx hb dX7_way_11 rfl (lv_at hl 2 rfl) ?_
  refine lv_if_ge (tgt := 25) hx hb dX7_way_12 (by decide) (fun c4 => ?_) (fun c4 => ?_)
  · replace h := sx_ifp h c4
    refine lv_aload_n hx hb dX7_way_25 rfl (lv_at hl 0 rfl) ?_
    refine gf_X7_12 X hP (by decide) dX7_way_26 ?_
    refine gf_X7_115 X hP (by decide) dX7_way_29 ?_
    refine lv_aload_n hx hb dX7_way_32 rfl (lv_at hl 0 rfl) ?_
    refine gf_X7_12 X hP (by decide) dX7_way_33 ?_
    obtain ⟨v5, e_v5, h⟩ := sx_bnd h
    refine cl_X7_171 X hG hP hz hS (by decide) e_v5 hl.1 dX7_way_36 ⟨Nat.le_trans (by decide) hcs.1, Nat.le_trans (by decide) hcs.2⟩ ⟨Nat.le_trans (by decide) hR.1, Nat.le_trans (by decide) hR.2⟩ (Nat.le_of_ble_eq_true rfl) (fun H locs hP hS => ?_)
    refine lv_iload_n hx hb dX7_way_39 rfl (lv_at hl 1 rfl) ?_
    refine lv_iload_n hx hb dX7_way_40 rfl (lv_at hl 2 rfl) ?_
    obtain ⟨v6, e_v6, h⟩ := sx_bnd h
    refine cl_X7_211 X hG hP hz hS (by decide) e_v6 hl.1 dX7_way_41 ⟨Nat.le_trans (by decide) hcs.1, Nat.le_trans (by decide) hcs.2⟩ ⟨Nat.le_trans (by decide) hR.1, Nat.le_trans (by decide) hR.2⟩ (Nat.le_of_ble_eq_true rfl) (fun H locs hP hS => ?_)
    exact sx_tiret X hr hlocks hS hP h dX7_way_44 (by decide) (by decide)
  · replace h := sx_ifn h c4
    obtain ⟨q1, q2⟩ := Prod.mk.inj (Option.some.inj h)
    subst q1; subst q2
    exact sx_throw1 X hT hst hne hlocks hz hS hP hl.1 (is := 127) (List.mem_of_getElem? (i := 8) rfl) dX7_way_15 dX7_way_18 dX7_way_19 dX7_way_21 dX7_way_24 ⟨Nat.le_trans (by decide) hR.1, Nat.le_trans (by decide) hR.2⟩ ⟨Nat.le_trans (by decide) hcs.1, Nat.le_trans (by decide) hcs.2⟩ rfl (by decide) (by decide)
set_option maxRecDepth 100000 in
theorem ct_7_way (l : Launch) (hst : l.stackTraces = false) (C : sx_C) (hG : sx_G C) (a1 : Int32) (a2 : Int32) (M0 : sx_M) (r : Nat ⊕ Int32) (M' : sx_M) (h : f7_way a1 a2 M0 = some (r, M')) : vx_Met l yX7_way (.code yX7_way cX7_way 3 (some .int) :: sx_T) ({ frames := 7, cells := 2, slots := 12, locals := 102 } : Room) (sx_PcT C M0 [.ref (sx_ad C 0 0), .int a1, .int a2]) (sx_QN C (sx_oi r) M') (sx_QX C (sx_oi r) M') 2 12 (sx_A C) := by
  refine vx_ofW (cc := cX7_way) (maxL := 3) (ret := (some .int)) (by decide) rfl ?_
  intro p e s m args below meth c s₁ B hml hne hv
  obtain ⟨rfl, hz, hP, hK, hT⟩ := hv
  have hl := lv_entry ([.ref (sx_ad C 0 0), .int a1, .int a2]) (n := 3) (Nat.le_of_ble_eq_true rfl)
  rw [lg_entry_eq]
  generalize (lg_sl ([.ref (sx_ad C 0 0), .int a1, .int a2]) ++ List.replicate (3 - (lg_sl ([.ref (sx_ad C 0 0), .int a1, .int a2])).length) Slot.unset).toArray = ls at hl ⊢
  exact wk_7_way ⟨B.exec, B.bytes, hml, findClass_of_methodNamed B.named, fun w hw => atoms_spec B.pre w (List.mem_cons_of_mem _ hw), hK⟩ B.returns B.notSynchronized hG hz hT hst hne ⟨Nat.le_refl _, Nat.le_refl _⟩ ⟨Nat.le_refl _, Nat.le_refl _⟩ a1 a2 M0 r M' h hl hP va_S.rf
theorem clT_L_71 (X : sx_X C p m c cc nL s args RL) (hT : sx_thr C s) (hst : l.stackTraces = false) (hG : sx_G C) (hP : sx_W C M0 H) (hz : sx_sz C ≤ s.heap.size) (hS : va_S (sx_A C) s.heap H locs) {a1 : Int32} {a2 : Int32} {r : Nat ⊕ Int32} {M' : sx_M} (h : f7_way a1 a2 M0 = some (r, M')) (hsz : ls.size = nL) (hdg : decode cc pc = .ok (.invokevirtual 71, 3)) (hcs : cells + 2 ≤ R.cells ∧ slots + 12 ≤ R.slots) (hR : 7 + 1 ≤ R.frames ∧ 8 + (3 + 11) + 102 ≤ R.locals) (hrest : (rest.map fun v => v.category).sum ≤ 8) (kx : ∀ (k : Nat) (ce : Cell) (q9 : Addr) (H1 : Heap) (locs1 : List Loc), r = .inl k → sx_W C M' H1 → va_S (sx_A C) s.heap H1 locs1 → H1[q9]? = some ce → ce.vm = .none → s.vm.findClass (sx_exn k) = some ce.cls → vx_W p l e R s m args below meth c H1 locs1 (cells + 2) (slots + 12) Q (F0 m pc ls rest) q9) (kk : ∀ (v : Int32) (H1 : Heap) (locs1 : List Loc), r = .inr v → sx_W C M' H1 → va_S (sx_A C) s.heap H1 locs1 → W p l e R s m args below meth c H1 locs1 (cells + 2) (slots + 12) Q (F0 m (pc + 3) ls (.int v :: rest))) : W p l e R s m args below meth c H locs cells slots Q (F0 m pc ls (.int a2 :: .int a1 :: .ref (sx_ad C 0 0) :: rest)) := by
  exact sx_callVT (n := 2) (As := [.int a1, .int a2]) (k0 := 0) (s0 := 0) X hT hP hz hS (by decide) rfl rfl (sx_goodV tw_888 tw_889 tw_890 tw_64 tw_891) (by decide +kernel) rfl rfl hR (ct_7_way l hst C hG a1 a2 M0 r M' h) rfl rfl hrest hsz hdg hcs (fun k ce q9 H1 locs1 ho => kx k ce q9 H1 locs1 (sx_oi_l ho)) (fun rv H1 locs1 ho hW hS1 => by obtain ⟨v, e1, rfl⟩ := sx_oi_r ho; exact kk v H1 locs1 e1 hW hS1)
-- StringShed.runScript(IJ)I
def f7_runScript_L59 (w1 : Int32) (w2 : Int64) : Nat → Int32 → sx_M → Option ((Nat ⊕ Int32) × sx_M)
  | 0, _, _ => none
  | n + 1, x4, M =>
    if w1 ≤ x4 then
      some (.inr (-9 : Int32), M)
    else
      (f2_groupAt w2 ((w1 - (1 : Int32)) - x4) M).bind fun v8 =>
      sx_b2 (f2_succeeds 1 v8 M) fun v9 M10 =>
      if v9 = 0 then
        some (.inr x4, M10)
      else
        sx_bd (x4 + (1 : Int32)) fun v12 =>
        f7_runScript_L59 w1 w2 n v12 M10
def f7_runScript (a1 : Int32) (a2 : Int64) (M0 : sx_M) : Option ((Nat ⊕ Int32) × sx_M) :=
  sx_bd (fun (_ : Unit) =>
    some (.inl 1, M0)) fun j10 =>
  if a1 < (1 : Int32) then
    j10 ()
  else
    if a1 ≤ (3 : Int32) then
      sx_bd (fun (_ : Unit) =>
        some (.inl 1, M0)) fun j35 =>
      if (lg_cmp a2 (0 : Int64)) < 0 then
        j35 ()
      else
        (f2_limit a1 M0).bind fun v4 =>
        if (lg_cmp a2 v4) < 0 then
          (f3_copyFrom 1 0 M0).bind fun M6 =>
          f7_runScript_L59 a1 a2
            5000 (0 : Int32) M6
        else
          j35 ()
    else
      j10 ()
set_option maxRecDepth 100000 in
set_option maxHeartbeats 4000000 in
theorem wk_7_runScript (X : sx_X C p m c cX7_runScript 5 s args RX7) (hr : meth.sig.returnType = (some .int)) (hlocks : meth.locks = false) (hG : sx_G C) (hz : sx_sz C ≤ s.heap.size) (hT : sx_thr C s) (hst : l.stackTraces = false) (hne : ∀ x ∈ c.exceptionTable.toList, False) (hcs : 1 ≤ R.cells ∧ 6 ≤ R.slots) (hR : 6 ≤ R.frames ∧ 142 ≤ R.locals) (a1 : Int32) (a2 : Int64) (M0 : sx_M) (r : Nat ⊕ Int32) (M' : sx_M) (h : f7_runScript a1 a2 M0 = some (r, M')) (hl : lv_has ls 5 [(0, .ref (sx_ad C 0 0)), (1, .int a1), (2, .long a2)]) (hP : sx_W C M0 H) (hS : va_S (sx_A C) s.heap H locs) : W p l e R s m args below meth c H locs 0 0 (vx_MQ below (sx_QN C (sx_oi r) M') (sx_QX C (sx_oi r) M') args s 1 6 (sx_A C)) (F0 m 0 ls []) := by
  obtain ⟨hx, hb, hml, hown, hts, hK⟩ := id X
  rw [f7_runScript] at h
  have hf7_runScript_L59 : ∀ (w1 : Int32) (w2 : Int64) (n : Nat) (x4 : Int32) (M : sx_M) (H : Heap) (locs : List Loc) (ls : Array Slot), lv_has ls 5 [(0, .ref (sx_ad C 0 0)), (1, .int w1), (2, .long w2), (4, .int x4)] → sx_W C M H → va_S (sx_A C) s.heap H locs → f7_runScript_L59 w1 w2 n x4 M = some (r, M') → W p l e R s m args below meth c H locs 0 0 (vx_MQ below (sx_QN C (sx_oi r) M') (sx_QX C (sx_oi r) M') args s 1 6 (sx_A C)) (F0 m 59 ls []) := by
    intro w1 w2 n
    induction n with
    | zero => intro x4 M H locs ls hl hP hS h; exact absurd (show (none : Option ((Nat ⊕ Int32) × sx_M)) = some (r, M') from h) (fun q => nomatch q)
    | succ n ih =>
      intro x4 M H locs ls hl hP hS h
      rw [f7_runScript_L59] at h
      refine lv_iload hx hb dX7_runScript_59 (lv_at hl 3 rfl) ?_
      refine lv_iload_n hx hb dX7_runScript_61 rfl (lv_at hl 1 rfl) ?_
      refine lv_icmp_ge (tgt := 94) hx hb dX7_runScript_62 (by decide) (fun c7 => ?_) (fun c7 => ?_)
      · replace h := sx_ifp h c7
        refine lv_bipush (v := (-9 : Int32)) hx hb dX7_runScript_94 (by decide) ?_
        exact sx_tiret X hr hlocks hS hP h dX7_runScript_96 (by decide) (by decide)
      · replace h := sx_ifn h c7
        refine lv_aload_n hx hb dX7_runScript_65 rfl (lv_at hl 0 rfl) ?_
        refine gf_X7_16 X hP (by decide) dX7_runScript_66 ?_
        refine lv_lload_n hx hb dX7_runScript_69 rfl (lv_at hl 2 rfl) ?_
        refine lv_iload_n hx hb dX7_runScript_70 rfl (lv_at hl 1 rfl) ?_
        refine lv_iconst (v := (1 : Int32)) hx hb dX7_runScript_71 (by decide) ?_
        refine lv_isub hx hb dX7_runScript_72 ?_
        refine lv_iload hx hb dX7_runScript_73 (lv_at hl 3 rfl) ?_
        refine lv_isub hx hb dX7_runScript_75 ?_
        obtain ⟨v8, e_v8, h⟩ := sx_bnd h
        refine cl_X7_224 X hG hP hz hS  e_v8 hl.1 dX7_runScript_76 ⟨Nat.le_trans (by decide) hcs.1, Nat.le_trans (by decide) hcs.2⟩ ⟨Nat.le_trans (by decide) hR.1, Nat.le_trans (by decide) hR.2⟩ (Nat.le_of_ble_eq_true rfl) (fun H locs hP hS => ?_)
        obtain ⟨v9, M10, e_v9, h⟩ := sx_bnd2 h
        refine cl_X7_228 X hG hP hz hS (by decide) e_v9 hl.1 dX7_runScript_79 ⟨Nat.le_trans (by decide) hcs.1, Nat.le_trans (by decide) hcs.2⟩ ⟨Nat.le_trans (by decide) hR.1, Nat.le_trans (by decide) hR.2⟩ (Nat.le_of_ble_eq_true rfl) (fun H locs hP hS => ?_)
        refine lv_if_ne (tgt := 88) hx hb dX7_runScript_82 (by decide) (fun c11 => ?_) (fun c11 => ?_)
        · replace h := sx_ifn h c11
          obtain ⟨v12, e_v12, h⟩ := sx_nm h
          refine lv_iinc (v := v12) (lv' := [(4, .int v12), (0, .ref (sx_ad C 0 0)), (1, .int w1), (2, .long w2)]) hx hb dX7_runScript_88 hl (k := 3) rfl (by rw [← e_v12]; rfl) (by decide) rfl (fun ls hl => ?_)
          refine lv_goto (tgt := 59) hx hb dX7_runScript_91 (by decide) ?_
          exact ih v12 M10 H locs ls (lv_sub hl [1, 2, 3, 0] rfl) hP hS h
        · replace h := sx_ifp h c11
          refine lv_iload hx hb dX7_runScript_85 (lv_at hl 3 rfl) ?_
          exact sx_tiret X hr hlocks hS hP h dX7_runScript_87 (by decide) (by decide)
  refine lv_iload_n hx hb dX7_runScript_0 rfl (lv_at hl 1 rfl) ?_
  refine lv_iconst (v := (1 : Int32)) hx hb dX7_runScript_1 (by decide) ?_
  obtain ⟨j10, e_j10, h⟩ := sx_nm h
  have hj10 : ∀ (H : Heap) (locs : List Loc) (ls : Array Slot), lv_has ls 5 [] → sx_W C M0 H → va_S (sx_A C) s.heap H locs → j10 () = some (r, M') → W p l e R s m args below meth c H locs 0 0 (vx_MQ below (sx_QN C (sx_oi r) M') (sx_QX C (sx_oi r) M') args s 1 6 (sx_A C)) (F0 m 10 ls []) := by
    intro  H locs ls hl hP hS h
    subst e_j10
    obtain ⟨q1, q2⟩ := Prod.mk.inj (Option.some.inj h)
    subst q1; subst q2
    exact sx_throw1 X hT hst hne hlocks hz hS hP hl.1 (is := 214) (List.mem_of_getElem? (i := 10) rfl) dX7_runScript_10 dX7_runScript_13 dX7_runScript_14 dX7_runScript_16 dX7_runScript_19 ⟨Nat.le_trans (by decide) hR.1, Nat.le_trans (by decide) hR.2⟩ ⟨Nat.le_trans (by decide) hcs.1, Nat.le_trans (by decide) hcs.2⟩ rfl (by decide) (by decide)
  clear e_j10
  refine lv_icmp_lt (tgt := 10) hx hb dX7_runScript_2 (by decide) (fun c1 => ?_) (fun c1 => ?_)
  · replace h := sx_ifp h c1
    exact hj10 H locs ls (lv_sub hl [] rfl) hP hS h
  · replace h := sx_ifn h c1
    refine lv_iload_n hx hb dX7_runScript_5 rfl (lv_at hl 1 rfl) ?_
    refine lv_iconst (v := (3 : Int32)) hx hb dX7_runScript_6 (by decide) ?_
    refine lv_icmp_le (tgt := 20) hx hb dX7_runScript_7 (by decide) (fun c2 => ?_) (fun c2 => ?_)
    · replace h := sx_ifp h c2
      refine lv_lload_n hx hb dX7_runScript_20 rfl (lv_at hl 2 rfl) ?_
      refine lv_lconst (v := (0 : Int64)) hx hb dX7_runScript_21 (by decide) ?_
      refine W.lcmp hx hb dX7_runScript_22 ?_
      obtain ⟨j35, e_j35, h⟩ := sx_nm h
      have hj35 : ∀ (H : Heap) (locs : List Loc) (ls : Array Slot), lv_has ls 5 [] → sx_W C M0 H → va_S (sx_A C) s.heap H locs → j35 () = some (r, M') → W p l e R s m args below meth c H locs 0 0 (vx_MQ below (sx_QN C (sx_oi r) M') (sx_QX C (sx_oi r) M') args s 1 6 (sx_A C)) (F0 m 35 ls []) := by
        intro  H locs ls hl hP hS h
        subst e_j35
        obtain ⟨q1, q2⟩ := Prod.mk.inj (Option.some.inj h)
        subst q1; subst q2
        exact sx_throw1 X hT hst hne hlocks hz hS hP hl.1 (is := 222) (List.mem_of_getElem? (i := 11) rfl) dX7_runScript_35 dX7_runScript_38 dX7_runScript_39 dX7_runScript_41 dX7_runScript_44 ⟨Nat.le_trans (by decide) hR.1, Nat.le_trans (by decide) hR.2⟩ ⟨Nat.le_trans (by decide) hcs.1, Nat.le_trans (by decide) hcs.2⟩ rfl (by decide) (by decide)
      clear e_j35
      refine lv_if_lt (tgt := 35) hx hb dX7_runScript_23 (by decide) (fun c3 => ?_) (fun c3 => ?_)
      · replace h := sx_ifp h c3
        exact hj35 H locs ls (lv_sub hl [] rfl) hP hS h
      · replace h := sx_ifn h c3
        refine lv_lload_n hx hb dX7_runScript_26 rfl (lv_at hl 2 rfl) ?_
        refine lv_iload_n hx hb dX7_runScript_27 rfl (lv_at hl 1 rfl) ?_
        obtain ⟨v4, e_v4, h⟩ := sx_bnd h
        refine cl_X7_216 X hG hP hz hS  e_v4 hl.1 dX7_runScript_28 ⟨Nat.le_trans (by decide) hcs.1, Nat.le_trans (by decide) hcs.2⟩ ⟨Nat.le_trans (by decide) hR.1, Nat.le_trans (by decide) hR.2⟩ (Nat.le_of_ble_eq_true rfl) (fun H locs hP hS => ?_)
        refine W.lcmp hx hb dX7_runScript_31 ?_
        refine lv_if_lt (tgt := 45) hx hb dX7_runScript_32 (by decide) (fun c5 => ?_) (fun c5 => ?_)
        · replace h := sx_ifp h c5
          refine lv_aload_n hx hb dX7_runScript_45 rfl (lv_at hl 0 rfl) ?_
          refine gf_X7_16 X hP (by decide) dX7_runScript_46 ?_
          refine lv_aload_n hx hb dX7_runScript_49 rfl (lv_at hl 0 rfl) ?_
          refine gf_X7_12 X hP (by decide) dX7_runScript_50 ?_
          obtain ⟨M6, e_M6, h⟩ := sx_bnd h
          refine cl_X7_182 X hG hP hz hS (by decide) (by decide) e_M6 hl.1 dX7_runScript_53 ⟨Nat.le_trans (by decide) hcs.1, Nat.le_trans (by decide) hcs.2⟩ ⟨Nat.le_trans (by decide) hR.1, Nat.le_trans (by decide) hR.2⟩ (Nat.le_of_ble_eq_true rfl) (fun H locs hP hS => ?_)
          refine lv_iconst (v := (0 : Int32)) hx hb dX7_runScript_56 (by decide) ?_
          refine lv_istore (lv' := [(4, .int (0 : Int32)), (0, .ref (sx_ad C 0 0)), (1, .int a1), (2, .long a2)]) hx hb dX7_runScript_57 hl (by decide) rfl (fun ls hl => ?_)
          exact hf7_runScript_L59 a1 a2 5000 (0 : Int32) M6 H locs ls (lv_sub hl [1, 2, 3, 0] rfl) hP hS h
        · replace h := sx_ifn h c5
          exact hj35 H locs ls (lv_sub hl [] rfl) hP hS h
    · replace h := sx_ifn h c2
      exact hj10 H locs ls (lv_sub hl [] rfl) hP hS h
set_option maxRecDepth 100000 in
theorem ct_7_runScript (l : Launch) (hst : l.stackTraces = false) (C : sx_C) (hG : sx_G C) (a1 : Int32) (a2 : Int64) (M0 : sx_M) (r : Nat ⊕ Int32) (M' : sx_M) (h : f7_runScript a1 a2 M0 = some (r, M')) : vx_Met l yX7_runScript (.code yX7_runScript cX7_runScript 5 (some .int) :: sx_T) ({ frames := 6, cells := 1, slots := 6, locals := 142 } : Room) (sx_PcT C M0 [.ref (sx_ad C 0 0), .int a1, .long a2]) (sx_QN C (sx_oi r) M') (sx_QX C (sx_oi r) M') 1 6 (sx_A C) := by
  refine vx_ofW (cc := cX7_runScript) (maxL := 5) (ret := (some .int)) (by decide) rfl ?_
  intro p e s m args below meth c s₁ B hml hne hv
  obtain ⟨rfl, hz, hP, hK, hT⟩ := hv
  have hl := lv_entry ([.ref (sx_ad C 0 0), .int a1, .long a2]) (n := 5) (Nat.le_of_ble_eq_true rfl)
  rw [lg_entry_eq]
  generalize (lg_sl ([.ref (sx_ad C 0 0), .int a1, .long a2]) ++ List.replicate (5 - (lg_sl ([.ref (sx_ad C 0 0), .int a1, .long a2])).length) Slot.unset).toArray = ls at hl ⊢
  exact wk_7_runScript ⟨B.exec, B.bytes, hml, findClass_of_methodNamed B.named, fun w hw => atoms_spec B.pre w (List.mem_cons_of_mem _ hw), hK⟩ B.returns B.notSynchronized hG hz hT hst hne ⟨Nat.le_refl _, Nat.le_refl _⟩ ⟨Nat.le_refl _, Nat.le_refl _⟩ a1 a2 M0 r M' h hl hP va_S.rf
theorem clT_L_74 (X : sx_X C p m c cc nL s args RL) (hT : sx_thr C s) (hst : l.stackTraces = false) (hG : sx_G C) (hP : sx_W C M0 H) (hz : sx_sz C ≤ s.heap.size) (hS : va_S (sx_A C) s.heap H locs) {a1 : Int32} {a2 : Int64} {r : Nat ⊕ Int32} {M' : sx_M} (h : f7_runScript a1 a2 M0 = some (r, M')) (hsz : ls.size = nL) (hdg : decode cc pc = .ok (.invokevirtual 74, 3)) (hcs : cells + 1 ≤ R.cells ∧ slots + 6 ≤ R.slots) (hR : 6 + 1 ≤ R.frames ∧ 8 + (5 + 11) + 142 ≤ R.locals) (hrest : (rest.map fun v => v.category).sum ≤ 8) (kx : ∀ (k : Nat) (ce : Cell) (q9 : Addr) (H1 : Heap) (locs1 : List Loc), r = .inl k → sx_W C M' H1 → va_S (sx_A C) s.heap H1 locs1 → H1[q9]? = some ce → ce.vm = .none → s.vm.findClass (sx_exn k) = some ce.cls → vx_W p l e R s m args below meth c H1 locs1 (cells + 1) (slots + 6) Q (F0 m pc ls rest) q9) (kk : ∀ (v : Int32) (H1 : Heap) (locs1 : List Loc), r = .inr v → sx_W C M' H1 → va_S (sx_A C) s.heap H1 locs1 → W p l e R s m args below meth c H1 locs1 (cells + 1) (slots + 6) Q (F0 m (pc + 3) ls (.int v :: rest))) : W p l e R s m args below meth c H locs cells slots Q (F0 m pc ls (.long a2 :: .int a1 :: .ref (sx_ad C 0 0) :: rest)) := by
  exact sx_callVT (n := 2) (As := [.int a1, .long a2]) (k0 := 0) (s0 := 0) X hT hP hz hS (by decide) rfl rfl (sx_goodV tw_904 tw_905 tw_906 tw_64 tw_907) (by decide +kernel) rfl rfl hR (ct_7_runScript l hst C hG a1 a2 M0 r M' h) rfl rfl hrest hsz hdg hcs (fun k ce q9 H1 locs1 ho => kx k ce q9 H1 locs1 (sx_oi_l ho)) (fun rv H1 locs1 ho hW hS1 => by obtain ⟨v, e1, rfl⟩ := sx_oi_r ho; exact kk v H1 locs1 e1 hW hS1)
-- StringShed.simulate(JI)I
def f7_simulate_L39 (w3 : Int32) : Nat → Int64 → Int32 → sx_M → Option ((Nat ⊕ Int32) × sx_M)
  | 0, _, _, _ => none
  | n + 1, x4, x6, M =>
    if w3 ≤ x6 then
      (f3_swept 1 M).bind fun v5 =>
      (f3_swept 0 M).bind fun v6 =>
      (f3_held 1 M).bind fun v7 =>
      (f3_weightOf 1 v7 M).bind fun v8 =>
      some (.inr (((1000 : Int32) * (v5 - v6)) + v8), M)
    else
      sx_bd ((x4 * (6364136223846793005 : Int64)) + (1442695040888963407 : Int64)) fun v9 =>
      (f7_takeTurn (((v9.toUInt64 >>> ((33 : Int32).toInt64.toUInt64 &&& Int64.toUInt64 63)).toInt64).toInt32) M).bind fun M10 =>
      sx_bd (x6 + (1 : Int32)) fun v11 =>
      f7_simulate_L39 w3 n v9 v11 M10
def f7_simulate (a1 : Int64) (a3 : Int32) (M0 : sx_M) : Option ((Nat ⊕ Int32) × sx_M) :=
  sx_bd (fun (_ : Unit) =>
    some (.inl 1, M0)) fun j12 =>
  if a3 < (1 : Int32) then
    j12 ()
  else
    if a3 ≤ (200 : Int32) then
      (f3_copyFrom 1 0 M0).bind fun M3 =>
      f7_simulate_L39 a3
        5000 a1 (0 : Int32) M3
    else
      j12 ()
set_option maxRecDepth 100000 in
set_option maxHeartbeats 4000000 in
theorem wk_7_simulate (X : sx_X C p m c cX7_simulate 7 s args RX7) (hr : meth.sig.returnType = (some .int)) (hlocks : meth.locks = false) (hG : sx_G C) (hz : sx_sz C ≤ s.heap.size) (hT : sx_thr C s) (hst : l.stackTraces = false) (hne : ∀ x ∈ c.exceptionTable.toList, False) (hcs : 1 ≤ R.cells ∧ 6 ≤ R.slots) (hR : 6 ≤ R.frames ∧ 141 ≤ R.locals) (a1 : Int64) (a3 : Int32) (M0 : sx_M) (r : Nat ⊕ Int32) (M' : sx_M) (h : f7_simulate a1 a3 M0 = some (r, M')) (hl : lv_has ls 7 [(0, .ref (sx_ad C 0 0)), (1, .long a1), (3, .int a3)]) (hP : sx_W C M0 H) (hS : va_S (sx_A C) s.heap H locs) : W p l e R s m args below meth c H locs 0 0 (vx_MQ below (sx_QN C (sx_oi r) M') (sx_QX C (sx_oi r) M') args s 1 6 (sx_A C)) (F0 m 0 ls []) := by
  obtain ⟨hx, hb, hml, hown, hts, hK⟩ := id X
  rw [f7_simulate] at h
  have hf7_simulate_L39 : ∀ (w3 : Int32) (n : Nat) (x4 : Int64) (x6 : Int32) (M : sx_M) (H : Heap) (locs : List Loc) (ls : Array Slot), lv_has ls 7 [(0, .ref (sx_ad C 0 0)), (3, .int w3), (4, .long x4), (6, .int x6)] → sx_W C M H → va_S (sx_A C) s.heap H locs → f7_simulate_L39 w3 n x4 x6 M = some (r, M') → W p l e R s m args below meth c H locs 0 0 (vx_MQ below (sx_QN C (sx_oi r) M') (sx_QX C (sx_oi r) M') args s 1 6 (sx_A C)) (F0 m 39 ls []) := by
    intro w3 n
    induction n with
    | zero => intro x4 x6 M H locs ls hl hP hS h; exact absurd (show (none : Option ((Nat ⊕ Int32) × sx_M)) = some (r, M') from h) (fun q => nomatch q)
    | succ n ih =>
      intro x4 x6 M H locs ls hl hP hS h
      rw [f7_simulate_L39] at h
      refine lv_iload hx hb dX7_simulate_39 (lv_at hl 3 rfl) ?_
      refine lv_iload_n hx hb dX7_simulate_41 rfl (lv_at hl 1 rfl) ?_
      refine lv_icmp_ge (tgt := 73) hx hb dX7_simulate_42 (by decide) (fun c4 => ?_) (fun c4 => ?_)
      · replace h := sx_ifp h c4
        refine lv_sipush (v := (1000 : Int32)) hx hb dX7_simulate_73 (by decide) ?_
        refine lv_aload_n hx hb dX7_simulate_76 rfl (lv_at hl 0 rfl) ?_
        refine gf_X7_16 X hP (by decide) dX7_simulate_77 ?_
        obtain ⟨v5, e_v5, h⟩ := sx_bnd h
        refine cl_X7_188 X hG hP hz hS (by decide) e_v5 hl.1 dX7_simulate_80 ⟨Nat.le_trans (by decide) hcs.1, Nat.le_trans (by decide) hcs.2⟩ ⟨Nat.le_trans (by decide) hR.1, Nat.le_trans (by decide) hR.2⟩ (Nat.le_of_ble_eq_true rfl) (fun H locs hP hS => ?_)
        refine lv_aload_n hx hb dX7_simulate_83 rfl (lv_at hl 0 rfl) ?_
        refine gf_X7_12 X hP (by decide) dX7_simulate_84 ?_
        obtain ⟨v6, e_v6, h⟩ := sx_bnd h
        refine cl_X7_188 X hG hP hz hS (by decide) e_v6 hl.1 dX7_simulate_87 ⟨Nat.le_trans (by decide) hcs.1, Nat.le_trans (by decide) hcs.2⟩ ⟨Nat.le_trans (by decide) hR.1, Nat.le_trans (by decide) hR.2⟩ (Nat.le_of_ble_eq_true rfl) (fun H locs hP hS => ?_)
        refine lv_isub hx hb dX7_simulate_90 ?_
        refine lv_imul hx hb dX7_simulate_91 ?_
        refine lv_aload_n hx hb dX7_simulate_92 rfl (lv_at hl 0 rfl) ?_
        refine gf_X7_16 X hP (by decide) dX7_simulate_93 ?_
        refine lv_aload_n hx hb dX7_simulate_96 rfl (lv_at hl 0 rfl) ?_
        refine gf_X7_16 X hP (by decide) dX7_simulate_97 ?_
        obtain ⟨v7, e_v7, h⟩ := sx_bnd h
        refine cl_X7_203 X hG hP hz hS (by decide) e_v7 hl.1 dX7_simulate_100 ⟨Nat.le_trans (by decide) hcs.1, Nat.le_trans (by decide) hcs.2⟩ ⟨Nat.le_trans (by decide) hR.1, Nat.le_trans (by decide) hR.2⟩ (Nat.le_of_ble_eq_true rfl) (fun H locs hP hS => ?_)
        obtain ⟨v8, e_v8, h⟩ := sx_bnd h
        refine cl_X7_241 X hG hP hz hS (by decide) e_v8 hl.1 dX7_simulate_103 ⟨Nat.le_trans (by decide) hcs.1, Nat.le_trans (by decide) hcs.2⟩ ⟨Nat.le_trans (by decide) hR.1, Nat.le_trans (by decide) hR.2⟩ (Nat.le_of_ble_eq_true rfl) (fun H locs hP hS => ?_)
        refine lv_iadd hx hb dX7_simulate_106 ?_
        exact sx_tiret X hr hlocks hS hP h dX7_simulate_107 (by decide) (by decide)
      · replace h := sx_ifn h c4
        refine lv_lload hx hb dX7_simulate_45 (lv_at hl 2 rfl) ?_
        refine lv_ldc2 (v := (6364136223846793005 : Int64)) hx hb hown (hts _ tw_941) dX7_simulate_47 ?_
        refine lv_lmul hx hb dX7_simulate_50 ?_
        refine lv_ldc2 (v := (1442695040888963407 : Int64)) hx hb hown (hts _ tw_942) dX7_simulate_51 ?_
        refine lv_ladd hx hb dX7_simulate_54 ?_
        obtain ⟨v9, e_v9, h⟩ := sx_nm h
        rw [e_v9]
        refine lv_lstore (lv' := [(4, .long v9), (0, .ref (sx_ad C 0 0)), (3, .int w3), (6, .int x6)]) hx hb dX7_simulate_55 hl (by decide) rfl (fun ls hl => ?_)
        refine lv_aload_n hx hb dX7_simulate_57 rfl (lv_at hl 1 rfl) ?_
        refine lv_lload hx hb dX7_simulate_58 (lv_at hl 0 rfl) ?_
        refine lv_bipush (v := (33 : Int32)) hx hb dX7_simulate_60 (by decide) ?_
        refine lv_lushr (v := (v9.toUInt64 >>> ((33 : Int32).toInt64.toUInt64 &&& Int64.toUInt64 63)).toInt64) hx hb dX7_simulate_62 rfl ?_
        refine lv_l2i (v := ((v9.toUInt64 >>> ((33 : Int32).toInt64.toUInt64 &&& Int64.toUInt64 63)).toInt64).toInt32) hx hb dX7_simulate_63 rfl ?_
        obtain ⟨M10, e_M10, h⟩ := sx_bnd h
        refine cl_X7_238 X hG hP hz hS  e_M10 hl.1 dX7_simulate_64 ⟨Nat.le_trans (by decide) hcs.1, Nat.le_trans (by decide) hcs.2⟩ ⟨Nat.le_trans (by decide) hR.1, Nat.le_trans (by decide) hR.2⟩ (Nat.le_of_ble_eq_true rfl) (fun H locs hP hS => ?_)
        obtain ⟨v11, e_v11, h⟩ := sx_nm h
        refine lv_iinc (v := v11) (lv' := [(6, .int v11), (4, .long v9), (0, .ref (sx_ad C 0 0)), (3, .int w3)]) hx hb dX7_simulate_67 hl (k := 3) rfl (by rw [← e_v11]; rfl) (by decide) rfl (fun ls hl => ?_)
        refine lv_goto (tgt := 39) hx hb dX7_simulate_70 (by decide) ?_
        exact ih v9 v11 M10 H locs ls (lv_sub hl [2, 3, 1, 0] rfl) hP hS h
  refine lv_iload_n hx hb dX7_simulate_0 rfl (lv_at hl 2 rfl) ?_
  refine lv_iconst (v := (1 : Int32)) hx hb dX7_simulate_1 (by decide) ?_
  obtain ⟨j12, e_j12, h⟩ := sx_nm h
  have hj12 : ∀ (H : Heap) (locs : List Loc) (ls : Array Slot), lv_has ls 7 [] → sx_W C M0 H → va_S (sx_A C) s.heap H locs → j12 () = some (r, M') → W p l e R s m args below meth c H locs 0 0 (vx_MQ below (sx_QN C (sx_oi r) M') (sx_QX C (sx_oi r) M') args s 1 6 (sx_A C)) (F0 m 12 ls []) := by
    intro  H locs ls hl hP hS h
    subst e_j12
    obtain ⟨q1, q2⟩ := Prod.mk.inj (Option.some.inj h)
    subst q1; subst q2
    exact sx_throw1 X hT hst hne hlocks hz hS hP hl.1 (is := 232) (List.mem_of_getElem? (i := 12) rfl) dX7_simulate_12 dX7_simulate_15 dX7_simulate_16 dX7_simulate_18 dX7_simulate_21 ⟨Nat.le_trans (by decide) hR.1, Nat.le_trans (by decide) hR.2⟩ ⟨Nat.le_trans (by decide) hcs.1, Nat.le_trans (by decide) hcs.2⟩ rfl (by decide) (by decide)
  clear e_j12
  refine lv_icmp_lt (tgt := 12) hx hb dX7_simulate_2 (by decide) (fun c1 => ?_) (fun c1 => ?_)
  · replace h := sx_ifp h c1
    exact hj12 H locs ls (lv_sub hl [] rfl) hP hS h
  · replace h := sx_ifn h c1
    refine lv_iload_n hx hb dX7_simulate_5 rfl (lv_at hl 2 rfl) ?_
    refine lv_sipush (v := (200 : Int32)) hx hb dX7_simulate_6 (by decide) ?_
    refine lv_icmp_le (tgt := 22) hx hb dX7_simulate_9 (by decide) (fun c2 => ?_) (fun c2 => ?_)
    · replace h := sx_ifp h c2
      refine lv_aload_n hx hb dX7_simulate_22 rfl (lv_at hl 0 rfl) ?_
      refine gf_X7_16 X hP (by decide) dX7_simulate_23 ?_
      refine lv_aload_n hx hb dX7_simulate_26 rfl (lv_at hl 0 rfl) ?_
      refine gf_X7_12 X hP (by decide) dX7_simulate_27 ?_
      obtain ⟨M3, e_M3, h⟩ := sx_bnd h
      refine cl_X7_182 X hG hP hz hS (by decide) (by decide) e_M3 hl.1 dX7_simulate_30 ⟨Nat.le_trans (by decide) hcs.1, Nat.le_trans (by decide) hcs.2⟩ ⟨Nat.le_trans (by decide) hR.1, Nat.le_trans (by decide) hR.2⟩ (Nat.le_of_ble_eq_true rfl) (fun H locs hP hS => ?_)
      refine lv_lload_n hx hb dX7_simulate_33 rfl (lv_at hl 1 rfl) ?_
      refine lv_lstore (lv' := [(4, .long a1), (0, .ref (sx_ad C 0 0)), (1, .long a1), (3, .int a3)]) hx hb dX7_simulate_34 hl (by decide) rfl (fun ls hl => ?_)
      refine lv_iconst (v := (0 : Int32)) hx hb dX7_simulate_36 (by decide) ?_
      refine lv_istore (lv' := [(6, .int (0 : Int32)), (4, .long a1), (0, .ref (sx_ad C 0 0)), (1, .long a1), (3, .int a3)]) hx hb dX7_simulate_37 hl (by decide) rfl (fun ls hl => ?_)
      exact hf7_simulate_L39 a3 5000 a1 (0 : Int32) M3 H locs ls (lv_sub hl [2, 4, 1, 0] rfl) hP hS h
    · replace h := sx_ifn h c2
      exact hj12 H locs ls (lv_sub hl [] rfl) hP hS h
set_option maxRecDepth 100000 in
theorem ct_7_simulate (l : Launch) (hst : l.stackTraces = false) (C : sx_C) (hG : sx_G C) (a1 : Int64) (a3 : Int32) (M0 : sx_M) (r : Nat ⊕ Int32) (M' : sx_M) (h : f7_simulate a1 a3 M0 = some (r, M')) : vx_Met l yX7_simulate (.code yX7_simulate cX7_simulate 7 (some .int) :: sx_T) ({ frames := 6, cells := 1, slots := 6, locals := 141 } : Room) (sx_PcT C M0 [.ref (sx_ad C 0 0), .long a1, .int a3]) (sx_QN C (sx_oi r) M') (sx_QX C (sx_oi r) M') 1 6 (sx_A C) := by
  refine vx_ofW (cc := cX7_simulate) (maxL := 7) (ret := (some .int)) (by decide) rfl ?_
  intro p e s m args below meth c s₁ B hml hne hv
  obtain ⟨rfl, hz, hP, hK, hT⟩ := hv
  have hl := lv_entry ([.ref (sx_ad C 0 0), .long a1, .int a3]) (n := 7) (Nat.le_of_ble_eq_true rfl)
  rw [lg_entry_eq]
  generalize (lg_sl ([.ref (sx_ad C 0 0), .long a1, .int a3]) ++ List.replicate (7 - (lg_sl ([.ref (sx_ad C 0 0), .long a1, .int a3])).length) Slot.unset).toArray = ls at hl ⊢
  exact wk_7_simulate ⟨B.exec, B.bytes, hml, findClass_of_methodNamed B.named, fun w hw => atoms_spec B.pre w (List.mem_cons_of_mem _ hw), hK⟩ B.returns B.notSynchronized hG hz hT hst hne ⟨Nat.le_refl _, Nat.le_refl _⟩ ⟨Nat.le_refl _, Nat.le_refl _⟩ a1 a3 M0 r M' h hl hP va_S.rf
theorem clT_L_78 (X : sx_X C p m c cc nL s args RL) (hT : sx_thr C s) (hst : l.stackTraces = false) (hG : sx_G C) (hP : sx_W C M0 H) (hz : sx_sz C ≤ s.heap.size) (hS : va_S (sx_A C) s.heap H locs) {a1 : Int64} {a3 : Int32} {r : Nat ⊕ Int32} {M' : sx_M} (h : f7_simulate a1 a3 M0 = some (r, M')) (hsz : ls.size = nL) (hdg : decode cc pc = .ok (.invokevirtual 78, 3)) (hcs : cells + 1 ≤ R.cells ∧ slots + 6 ≤ R.slots) (hR : 6 + 1 ≤ R.frames ∧ 8 + (7 + 11) + 141 ≤ R.locals) (hrest : (rest.map fun v => v.category).sum ≤ 8) (kx : ∀ (k : Nat) (ce : Cell) (q9 : Addr) (H1 : Heap) (locs1 : List Loc), r = .inl k → sx_W C M' H1 → va_S (sx_A C) s.heap H1 locs1 → H1[q9]? = some ce → ce.vm = .none → s.vm.findClass (sx_exn k) = some ce.cls → vx_W p l e R s m args below meth c H1 locs1 (cells + 1) (slots + 6) Q (F0 m pc ls rest) q9) (kk : ∀ (v : Int32) (H1 : Heap) (locs1 : List Loc), r = .inr v → sx_W C M' H1 → va_S (sx_A C) s.heap H1 locs1 → W p l e R s m args below meth c H1 locs1 (cells + 1) (slots + 6) Q (F0 m (pc + 3) ls (.int v :: rest))) : W p l e R s m args below meth c H locs cells slots Q (F0 m pc ls (.int a3 :: .long a1 :: .ref (sx_ad C 0 0) :: rest)) := by
  exact sx_callVT (n := 2) (As := [.long a1, .int a3]) (k0 := 0) (s0 := 0) X hT hP hz hS (by decide) rfl rfl (sx_goodV tw_936 tw_937 tw_938 tw_64 tw_939) (by decide +kernel) rfl rfl hR (ct_7_simulate l hst C hG a1 a3 M0 r M' h) rfl rfl hrest hsz hdg hcs (fun k ce q9 H1 locs1 ho => kx k ce q9 H1 locs1 (sx_oi_l ho)) (fun rv H1 locs1 ho hW hS1 => by obtain ⟨v, e1, rfl⟩ := sx_oi_r ho; exact kk v H1 locs1 e1 hW hS1)
-- StringShed.save(I)I
def f7_save (a1 : Int32) (M0 : sx_M) : Option ((Nat ⊕ Int32) × sx_M) :=
  sx_bd (fun (_ : Unit) =>
    some (.inl 0, M0)) fun j9 =>
  if a1 < 0 then
    j9 ()
  else
    if a1 < (2 : Int32) then
      if sx_in a1 2 then
      sx_bd (2 + (a1).toNatClampNeg) fun v3 =>
      (f3_copyFrom v3 0 M0).bind fun M4 =>
      if sx_in a1 2 ∧ ((1 : Int32) = 0 ∨ (1 : Int32) = 1) then
      sx_bd (sx_set M4 12 0 (a1).toNatClampNeg (1 : Int32)) fun M5 =>
      (f3_parts 0 M5).bind fun v6 =>
      (fJ6_bitCount_0f7a4 v6 M5).bind fun v7 =>
      some (.inr v7, M5)
      else none
      else none
    else
      j9 ()
set_option maxRecDepth 100000 in
set_option maxHeartbeats 4000000 in
theorem wk_7_save (X : sx_X C p m c cX7_save 3 s args RX7) (hr : meth.sig.returnType = (some .int)) (hlocks : meth.locks = false) (hG : sx_G C) (hz : sx_sz C ≤ s.heap.size) (hT : sx_thr C s) (hst : l.stackTraces = false) (hne : ∀ x ∈ c.exceptionTable.toList, False) (hcs : 1 ≤ R.cells ∧ 6 ≤ R.slots) (hR : 6 ≤ R.frames ∧ 82 ≤ R.locals) (a1 : Int32) (M0 : sx_M) (r : Nat ⊕ Int32) (M' : sx_M) (h : f7_save a1 M0 = some (r, M')) (hl : lv_has ls 3 [(0, .ref (sx_ad C 0 0)), (1, .int a1)]) (hP : sx_W C M0 H) (hS : va_S (sx_A C) s.heap H locs) : W p l e R s m args below meth c H locs 0 0 (vx_MQ below (sx_QN C (sx_oi r) M') (sx_QX C (sx_oi r) M') args s 1 6 (sx_A C)) (F0 m 0 ls []) := by
  obtain ⟨hx, hb, hml, hown, hts, hK⟩ := id X
  rw [f7_save] at h
  refine lv_iload_n hx hb dX7_save_0 rfl (lv_at hl 1 rfl) ?_
  obtain ⟨j9, e_j9, h⟩ := sx_nm h
  have hj9 : ∀ (H : Heap) (locs : List Loc) (ls : Array Slot), lv_has ls 3 [] → sx_W C M0 H → va_S (sx_A C) s.heap H locs → j9 () = some (r, M') → W p l e R s m args below meth c H locs 0 0 (vx_MQ below (sx_QN C (sx_oi r) M') (sx_QX C (sx_oi r) M') args s 1 6 (sx_A C)) (F0 m 9 ls []) := by
    intro  H locs ls hl hP hS h
    subst e_j9
    obtain ⟨q1, q2⟩ := Prod.mk.inj (Option.some.inj h)
    subst q1; subst q2
    exact sx_throw0 X hT hst hne hlocks hz hS hP hl.1 (is := 248) (List.mem_of_getElem? (i := 13) rfl) dX7_save_9 dX7_save_12 dX7_save_13 dX7_save_15 dX7_save_18 ⟨Nat.le_trans (by decide) hR.1, Nat.le_trans (by decide) hR.2⟩ ⟨Nat.le_trans (by decide) hcs.1, Nat.le_trans (by decide) hcs.2⟩ rfl (by decide) (by decide)
  clear e_j9
  refine lv_if_lt (tgt := 9) hx hb dX7_save_1 (by decide) (fun c1 => ?_) (fun c1 => ?_)
  · replace h := sx_ifp h c1
    exact hj9 H locs ls (lv_sub hl [] rfl) hP hS h
  · replace h := sx_ifn h c1
    refine lv_iload_n hx hb dX7_save_4 rfl (lv_at hl 1 rfl) ?_
    refine lv_iconst (v := (2 : Int32)) hx hb dX7_save_5 (by decide) ?_
    refine lv_icmp_lt (tgt := 19) hx hb dX7_save_6 (by decide) (fun c2 => ?_) (fun c2 => ?_)
    · replace h := sx_ifp h c2
      refine lv_aload_n hx hb dX7_save_19 rfl (lv_at hl 0 rfl) ?_
      refine gf_X7_26 X hP (by decide) dX7_save_20 ?_
      refine lv_iload_n hx hb dX7_save_23 rfl (lv_at hl 1 rfl) ?_
      refine sx_aald X hP 11 0 2 1 2 (by decide) (fun _ _ => rfl) dX7_save_24 h (fun v3 hs_v3 h => ?_)
      have hs_v3 : v3 < 18 := by omega
      refine lv_astore_n (lv' := [(2, .ref (sx_ad C 1 v3)), (0, .ref (sx_ad C 0 0)), (1, .int a1)]) hx hb dX7_save_25 rfl hl (by decide) rfl (fun ls hl => ?_)
      refine lv_aload_n hx hb dX7_save_26 rfl (lv_at hl 0 rfl) ?_
      refine lv_ifnull hx hb dX7_save_27 ?_
      refine lv_aload_n hx hb dX7_save_30 rfl (lv_at hl 0 rfl) ?_
      refine lv_aload_n hx hb dX7_save_31 rfl (lv_at hl 1 rfl) ?_
      refine gf_X7_12 X hP (by decide) dX7_save_32 ?_
      obtain ⟨M4, e_M4, h⟩ := sx_bnd h
      refine cl_X7_182 X hG hP hz hS hs_v3 (by decide) e_M4 hl.1 dX7_save_35 ⟨Nat.le_trans (by decide) hcs.1, Nat.le_trans (by decide) hcs.2⟩ ⟨Nat.le_trans (by decide) hR.1, Nat.le_trans (by decide) hR.2⟩ (Nat.le_of_ble_eq_true rfl) (fun H locs hP hS => ?_)
      refine lv_aload_n hx hb dX7_save_38 rfl (lv_at hl 1 rfl) ?_
      refine gf_X7_30 X hP (by decide) dX7_save_39 ?_
      refine lv_iload_n hx hb dX7_save_42 rfl (lv_at hl 2 rfl) ?_
      refine lv_iconst (v := (1 : Int32)) hx hb dX7_save_43 (by decide) ?_
      refine sx_zast X hG hP hS 12 0 2 (by decide) (fun _ _ => rfl) dX7_save_44 h (fun M5 H locs h hP hS => ?_)
      refine lv_aload_n hx hb dX7_save_45 rfl (lv_at hl 1 rfl) ?_
      refine gf_X7_12 X hP (by decide) dX7_save_46 ?_
      obtain ⟨v6, e_v6, h⟩ := sx_bnd h
      refine cl_X7_200 X hG hP hz hS (by decide) e_v6 hl.1 dX7_save_49 ⟨Nat.le_trans (by decide) hcs.1, Nat.le_trans (by decide) hcs.2⟩ ⟨Nat.le_trans (by decide) hR.1, Nat.le_trans (by decide) hR.2⟩ (Nat.le_of_ble_eq_true rfl) (fun H locs hP hS => ?_)
      obtain ⟨v7, e_v7, h⟩ := sx_bnd h
      refine cl_X7_206 X hG hP hz hS  e_v7 hl.1 dX7_save_52 ⟨Nat.le_trans (by decide) hcs.1, Nat.le_trans (by decide) hcs.2⟩ ⟨Nat.le_trans (by decide) hR.1, Nat.le_trans (by decide) hR.2⟩ (Nat.le_of_ble_eq_true rfl) (fun H locs hP hS => ?_)
      exact sx_tiret X hr hlocks hS hP h dX7_save_55 (by decide) (by decide)
    · replace h := sx_ifn h c2
      exact hj9 H locs ls (lv_sub hl [] rfl) hP hS h
set_option maxRecDepth 100000 in
theorem ct_7_save (l : Launch) (hst : l.stackTraces = false) (C : sx_C) (hG : sx_G C) (a1 : Int32) (M0 : sx_M) (r : Nat ⊕ Int32) (M' : sx_M) (h : f7_save a1 M0 = some (r, M')) : vx_Met l yX7_save (.code yX7_save cX7_save 3 (some .int) :: sx_T) ({ frames := 6, cells := 1, slots := 6, locals := 82 } : Room) (sx_PcT C M0 [.ref (sx_ad C 0 0), .int a1]) (sx_QN C (sx_oi r) M') (sx_QX C (sx_oi r) M') 1 6 (sx_A C) := by
  refine vx_ofW (cc := cX7_save) (maxL := 3) (ret := (some .int)) (by decide) rfl ?_
  intro p e s m args below meth c s₁ B hml hne hv
  obtain ⟨rfl, hz, hP, hK, hT⟩ := hv
  have hl := lv_entry ([.ref (sx_ad C 0 0), .int a1]) (n := 3) (Nat.le_of_ble_eq_true rfl)
  rw [lg_entry_eq]
  generalize (lg_sl ([.ref (sx_ad C 0 0), .int a1]) ++ List.replicate (3 - (lg_sl ([.ref (sx_ad C 0 0), .int a1])).length) Slot.unset).toArray = ls at hl ⊢
  exact wk_7_save ⟨B.exec, B.bytes, hml, findClass_of_methodNamed B.named, fun w hw => atoms_spec B.pre w (List.mem_cons_of_mem _ hw), hK⟩ B.returns B.notSynchronized hG hz hT hst hne ⟨Nat.le_refl _, Nat.le_refl _⟩ ⟨Nat.le_refl _, Nat.le_refl _⟩ a1 M0 r M' h hl hP va_S.rf
theorem clT_L_82 (X : sx_X C p m c cc nL s args RL) (hT : sx_thr C s) (hst : l.stackTraces = false) (hG : sx_G C) (hP : sx_W C M0 H) (hz : sx_sz C ≤ s.heap.size) (hS : va_S (sx_A C) s.heap H locs) {a1 : Int32} {r : Nat ⊕ Int32} {M' : sx_M} (h : f7_save a1 M0 = some (r, M')) (hsz : ls.size = nL) (hdg : decode cc pc = .ok (.invokevirtual 82, 3)) (hcs : cells + 1 ≤ R.cells ∧ slots + 6 ≤ R.slots) (hR : 6 + 1 ≤ R.frames ∧ 8 + (3 + 11) + 82 ≤ R.locals) (hrest : (rest.map fun v => v.category).sum ≤ 8) (kx : ∀ (k : Nat) (ce : Cell) (q9 : Addr) (H1 : Heap) (locs1 : List Loc), r = .inl k → sx_W C M' H1 → va_S (sx_A C) s.heap H1 locs1 → H1[q9]? = some ce → ce.vm = .none → s.vm.findClass (sx_exn k) = some ce.cls → vx_W p l e R s m args below meth c H1 locs1 (cells + 1) (slots + 6) Q (F0 m pc ls rest) q9) (kk : ∀ (v : Int32) (H1 : Heap) (locs1 : List Loc), r = .inr v → sx_W C M' H1 → va_S (sx_A C) s.heap H1 locs1 → W p l e R s m args below meth c H1 locs1 (cells + 1) (slots + 6) Q (F0 m (pc + 3) ls (.int v :: rest))) : W p l e R s m args below meth c H locs cells slots Q (F0 m pc ls (.int a1 :: .ref (sx_ad C 0 0) :: rest)) := by
  exact sx_callVT (n := 1) (As := [.int a1]) (k0 := 0) (s0 := 0) X hT hP hz hS (by decide) rfl rfl (sx_goodV tw_952 tw_953 tw_954 tw_64 tw_955) (by decide +kernel) rfl rfl hR (ct_7_save l hst C hG a1 M0 r M' h) rfl rfl hrest hsz hdg hcs (fun k ce q9 H1 locs1 ho => kx k ce q9 H1 locs1 (sx_oi_l ho)) (fun rv H1 locs1 ho hW hS1 => by obtain ⟨v, e1, rfl⟩ := sx_oi_r ho; exact kk v H1 locs1 e1 hW hS1)
-- StringShed.restore(I)I
def f7_restore (a1 : Int32) (M0 : sx_M) : Option ((Nat ⊕ Int32) × sx_M) :=
  sx_bd (fun (_ : Unit) =>
    some (.inl 0, M0)) fun j9 =>
  if a1 < 0 then
    j9 ()
  else
    if a1 < (2 : Int32) then
      if sx_in a1 2 then
      sx_bd (M0.1 12 0 (a1).toNatClampNeg) fun v3 =>
      if v3 = 0 then
        some (.inl 2, M0)
      else
        if sx_in a1 2 then
        sx_bd (2 + (a1).toNatClampNeg) fun v5 =>
        (f3_copyFrom 0 v5 M0).bind fun M6 =>
        (f1_forget M6).bind fun M7 =>
        (f3_parts 0 M7).bind fun v8 =>
        (fJ6_bitCount_0f7a4 v8 M7).bind fun v9 =>
        some (.inr v9, M7)
        else none
      else none
    else
      j9 ()
set_option maxRecDepth 100000 in
set_option maxHeartbeats 4000000 in
theorem wk_7_restore (X : sx_X C p m c cX7_restore 2 s args RX7) (hr : meth.sig.returnType = (some .int)) (hlocks : meth.locks = false) (hG : sx_G C) (hz : sx_sz C ≤ s.heap.size) (hT : sx_thr C s) (hst : l.stackTraces = false) (hne : ∀ x ∈ c.exceptionTable.toList, False) (hcs : 1 ≤ R.cells ∧ 6 ≤ R.slots) (hR : 6 ≤ R.frames ∧ 82 ≤ R.locals) (a1 : Int32) (M0 : sx_M) (r : Nat ⊕ Int32) (M' : sx_M) (h : f7_restore a1 M0 = some (r, M')) (hl : lv_has ls 2 [(0, .ref (sx_ad C 0 0)), (1, .int a1)]) (hP : sx_W C M0 H) (hS : va_S (sx_A C) s.heap H locs) : W p l e R s m args below meth c H locs 0 0 (vx_MQ below (sx_QN C (sx_oi r) M') (sx_QX C (sx_oi r) M') args s 1 6 (sx_A C)) (F0 m 0 ls []) := by
  obtain ⟨hx, hb, hml, hown, hts, hK⟩ := id X
  rw [f7_restore] at h
  refine lv_iload_n hx hb dX7_restore_0 rfl (lv_at hl 1 rfl) ?_
  obtain ⟨j9, e_j9, h⟩ := sx_nm h
  have hj9 : ∀ (H : Heap) (locs : List Loc) (ls : Array Slot), lv_has ls 2 [] → sx_W C M0 H → va_S (sx_A C) s.heap H locs → j9 () = some (r, M') → W p l e R s m args below meth c H locs 0 0 (vx_MQ below (sx_QN C (sx_oi r) M') (sx_QX C (sx_oi r) M') args s 1 6 (sx_A C)) (F0 m 9 ls []) := by
    intro  H locs ls hl hP hS h
    subst e_j9
    obtain ⟨q1, q2⟩ := Prod.mk.inj (Option.some.inj h)
    subst q1; subst q2
    exact sx_throw0 X hT hst hne hlocks hz hS hP hl.1 (is := 248) (List.mem_of_getElem? (i := 13) rfl) dX7_restore_9 dX7_restore_12 dX7_restore_13 dX7_restore_15 dX7_restore_18 ⟨Nat.le_trans (by decide) hR.1, Nat.le_trans (by decide) hR.2⟩ ⟨Nat.le_trans (by decide) hcs.1, Nat.le_trans (by decide) hcs.2⟩ rfl (by decide) (by decide)
  clear e_j9
  refine lv_if_lt (tgt := 9) hx hb dX7_restore_1 (by decide) (fun c1 => ?_) (fun c1 => ?_)
  · replace h := sx_ifp h c1
    exact hj9 H locs ls (lv_sub hl [] rfl) hP hS h
  · replace h := sx_ifn h c1
    refine lv_iload_n hx hb dX7_restore_4 rfl (lv_at hl 1 rfl) ?_
    refine lv_iconst (v := (2 : Int32)) hx hb dX7_restore_5 (by decide) ?_
    refine lv_icmp_lt (tgt := 19) hx hb dX7_restore_6 (by decide) (fun c2 => ?_) (fun c2 => ?_)
    · replace h := sx_ifp h c2
      refine lv_aload_n hx hb dX7_restore_19 rfl (lv_at hl 0 rfl) ?_
      refine gf_X7_30 X hP (by decide) dX7_restore_20 ?_
      refine lv_iload_n hx hb dX7_restore_23 rfl (lv_at hl 1 rfl) ?_
      refine sx_zald X hP 12 0 2 (by decide) (fun _ _ => rfl) dX7_restore_24 h (fun v3 h => ?_)
      refine lv_if_ne (tgt := 38) hx hb dX7_restore_25 (by decide) (fun c4 => ?_) (fun c4 => ?_)
      · replace h := sx_ifn h c4
        refine lv_aload_n hx hb dX7_restore_38 rfl (lv_at hl 0 rfl) ?_
        refine gf_X7_12 X hP (by decide) dX7_restore_39 ?_
        refine lv_aload_n hx hb dX7_restore_42 rfl (lv_at hl 0 rfl) ?_
        refine gf_X7_26 X hP (by decide) dX7_restore_43 ?_
        refine lv_iload_n hx hb dX7_restore_46 rfl (lv_at hl 1 rfl) ?_
        refine sx_aald X hP 11 0 2 1 2 (by decide) (fun _ _ => rfl) dX7_restore_47 h (fun v5 hs_v5 h => ?_)
        have hs_v5 : v5 < 18 := by omega
        obtain ⟨M6, e_M6, h⟩ := sx_bnd h
        refine cl_X7_182 X hG hP hz hS (by decide) hs_v5 e_M6 hl.1 dX7_restore_48 ⟨Nat.le_trans (by decide) hcs.1, Nat.le_trans (by decide) hcs.2⟩ ⟨Nat.le_trans (by decide) hR.1, Nat.le_trans (by decide) hR.2⟩ (Nat.le_of_ble_eq_true rfl) (fun H locs hP hS => ?_)
        refine lv_aload_n hx hb dX7_restore_51 rfl (lv_at hl 0 rfl) ?_
        refine gf_X7_22 X hP (by decide) dX7_restore_52 ?_
        obtain ⟨M7, e_M7, h⟩ := sx_bnd h
        refine cl_X7_80 X hG hP hz hS  e_M7 hl.1 dX7_restore_55 ⟨Nat.le_trans (by decide) hcs.1, Nat.le_trans (by decide) hcs.2⟩ ⟨Nat.le_trans (by decide) hR.1, Nat.le_trans (by decide) hR.2⟩ (Nat.le_of_ble_eq_true rfl) (fun H locs hP hS => ?_)
        refine lv_aload_n hx hb dX7_restore_58 rfl (lv_at hl 0 rfl) ?_
        refine gf_X7_12 X hP (by decide) dX7_restore_59 ?_
        obtain ⟨v8, e_v8, h⟩ := sx_bnd h
        refine cl_X7_200 X hG hP hz hS (by decide) e_v8 hl.1 dX7_restore_62 ⟨Nat.le_trans (by decide) hcs.1, Nat.le_trans (by decide) hcs.2⟩ ⟨Nat.le_trans (by decide) hR.1, Nat.le_trans (by decide) hR.2⟩ (Nat.le_of_ble_eq_true rfl) (fun H locs hP hS => ?_)
        obtain ⟨v9, e_v9, h⟩ := sx_bnd h
        refine cl_X7_206 X hG hP hz hS  e_v9 hl.1 dX7_restore_65 ⟨Nat.le_trans (by decide) hcs.1, Nat.le_trans (by decide) hcs.2⟩ ⟨Nat.le_trans (by decide) hR.1, Nat.le_trans (by decide) hR.2⟩ (Nat.le_of_ble_eq_true rfl) (fun H locs hP hS => ?_)
        exact sx_tiret X hr hlocks hS hP h dX7_restore_68 (by decide) (by decide)
      · replace h := sx_ifp h c4
        obtain ⟨q1, q2⟩ := Prod.mk.inj (Option.some.inj h)
        subst q1; subst q2
        exact sx_throw2 X hT hst hne hlocks hz hS hP hl.1 (is := 250) (List.mem_of_getElem? (i := 14) rfl) dX7_restore_28 dX7_restore_31 dX7_restore_32 dX7_restore_34 dX7_restore_37 ⟨Nat.le_trans (by decide) hR.1, Nat.le_trans (by decide) hR.2⟩ ⟨Nat.le_trans (by decide) hcs.1, Nat.le_trans (by decide) hcs.2⟩ rfl (by decide) (by decide)
    · replace h := sx_ifn h c2
      exact hj9 H locs ls (lv_sub hl [] rfl) hP hS h
set_option maxRecDepth 100000 in
theorem ct_7_restore (l : Launch) (hst : l.stackTraces = false) (C : sx_C) (hG : sx_G C) (a1 : Int32) (M0 : sx_M) (r : Nat ⊕ Int32) (M' : sx_M) (h : f7_restore a1 M0 = some (r, M')) : vx_Met l yX7_restore (.code yX7_restore cX7_restore 2 (some .int) :: sx_T) ({ frames := 6, cells := 1, slots := 6, locals := 82 } : Room) (sx_PcT C M0 [.ref (sx_ad C 0 0), .int a1]) (sx_QN C (sx_oi r) M') (sx_QX C (sx_oi r) M') 1 6 (sx_A C) := by
  refine vx_ofW (cc := cX7_restore) (maxL := 2) (ret := (some .int)) (by decide) rfl ?_
  intro p e s m args below meth c s₁ B hml hne hv
  obtain ⟨rfl, hz, hP, hK, hT⟩ := hv
  have hl := lv_entry ([.ref (sx_ad C 0 0), .int a1]) (n := 2) (Nat.le_of_ble_eq_true rfl)
  rw [lg_entry_eq]
  generalize (lg_sl ([.ref (sx_ad C 0 0), .int a1]) ++ List.replicate (2 - (lg_sl ([.ref (sx_ad C 0 0), .int a1])).length) Slot.unset).toArray = ls at hl ⊢
  exact wk_7_restore ⟨B.exec, B.bytes, hml, findClass_of_methodNamed B.named, fun w hw => atoms_spec B.pre w (List.mem_cons_of_mem _ hw), hK⟩ B.returns B.notSynchronized hG hz hT hst hne ⟨Nat.le_refl _, Nat.le_refl _⟩ ⟨Nat.le_refl _, Nat.le_refl _⟩ a1 M0 r M' h hl hP va_S.rf
theorem clT_L_85 (X : sx_X C p m c cc nL s args RL) (hT : sx_thr C s) (hst : l.stackTraces = false) (hG : sx_G C) (hP : sx_W C M0 H) (hz : sx_sz C ≤ s.heap.size) (hS : va_S (sx_A C) s.heap H locs) {a1 : Int32} {r : Nat ⊕ Int32} {M' : sx_M} (h : f7_restore a1 M0 = some (r, M')) (hsz : ls.size = nL) (hdg : decode cc pc = .ok (.invokevirtual 85, 3)) (hcs : cells + 1 ≤ R.cells ∧ slots + 6 ≤ R.slots) (hR : 6 + 1 ≤ R.frames ∧ 8 + (2 + 11) + 82 ≤ R.locals) (hrest : (rest.map fun v => v.category).sum ≤ 8) (kx : ∀ (k : Nat) (ce : Cell) (q9 : Addr) (H1 : Heap) (locs1 : List Loc), r = .inl k → sx_W C M' H1 → va_S (sx_A C) s.heap H1 locs1 → H1[q9]? = some ce → ce.vm = .none → s.vm.findClass (sx_exn k) = some ce.cls → vx_W p l e R s m args below meth c H1 locs1 (cells + 1) (slots + 6) Q (F0 m pc ls rest) q9) (kk : ∀ (v : Int32) (H1 : Heap) (locs1 : List Loc), r = .inr v → sx_W C M' H1 → va_S (sx_A C) s.heap H1 locs1 → W p l e R s m args below meth c H1 locs1 (cells + 1) (slots + 6) Q (F0 m (pc + 3) ls (.int v :: rest))) : W p l e R s m args below meth c H locs cells slots Q (F0 m pc ls (.int a1 :: .ref (sx_ad C 0 0) :: rest)) := by
  exact sx_callVT (n := 1) (As := [.int a1]) (k0 := 0) (s0 := 0) X hT hP hz hS (by decide) rfl rfl (sx_goodV tw_960 tw_961 tw_962 tw_64 tw_963) (by decide +kernel) rfl rfl hR (ct_7_restore l hst C hG a1 M0 r M' h) rfl rfl hrest hsz hdg hcs (fun k ce q9 H1 locs1 ho => kx k ce q9 H1 locs1 (sx_oi_l ho)) (fun rv H1 locs1 ho hW hS1 => by obtain ⟨v, e1, rfl⟩ := sx_oi_r ho; exact kk v H1 locs1 e1 hW hS1)
end SXM
