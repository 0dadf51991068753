section SXM
variable {p : Program} {l : Launch} {e : Env} {R : Room} {s : State} {m : MethodId} {args : Array Value} {below : List Frame} {meth : Method} {c : Code} {H : Heap} {locs : List Loc} {cells slots : Nat} {Q : State → Prop}
variable {O : Type} {out : O} {C : sx_C} {M M0 : sx_M} {cc : ByteArray} {nL : Nat} {own : String} {pc : Nat} {ls : Array Slot} {rest : List Value} {H0 : Heap}
-- StringShed$Cutter.isUsed(I)Z pure
def f0_isUsed (a1 : Int32) (M0 : sx_M) : Option (Int32) :=
  sx_bd (M0.2 15 0 1) fun v1 =>
  sx_bd (fun (v2 : Int32) =>
    if v2 = 0 ∨ v2 = 1 then some v2 else none) fun j18 =>
  if (lg_cmp ((v1 >>> (a1.toInt64 &&& 63)) &&& (1 : Int64)) (0 : Int64)) = 0 then
    j18 (0 : Int32)
  else
    j18 (1 : Int32)
set_option maxRecDepth 100000 in
set_option maxHeartbeats 4000000 in
theorem wk_0_isUsed (X : sx_X C p m c cX0_isUsed 2 s args RX0) (hr : meth.sig.returnType = (some .boolean)) (hlocks : meth.locks = false) (hG : sx_G C) (hz : sx_sz C ≤ s.heap.size) (hcs : 0 ≤ R.cells ∧ 0 ≤ R.slots) (hR : 0 ≤ R.frames ∧ 0 ≤ R.locals) (a1 : Int32) (M0 : sx_M) (r : Int32) (h : f0_isUsed a1 M0 = some r) (hl : lv_has ls 2 [(0, .ref (sx_ad C 15 0)), (1, .int a1)]) (hP : sx_W C M0 H) (hS : va_S (sx_A C) s.heap H locs) : W p l e R s m args below meth c H locs 0 0 (sx_Z C (some (.int r)) M0 below args s) (F0 m 0 ls []) := by
  obtain ⟨hx, hb, hml, hown, hts, hK⟩ := id X
  rw [f0_isUsed] at h
  refine lv_aload_n hx hb dX0_isUsed_0 rfl (lv_at hl 0 rfl) ?_
  refine gf_X0_15 X hP (by decide) dX0_isUsed_1 h (fun v1 h => ?_)
  refine lv_iload_n hx hb dX0_isUsed_4 rfl (lv_at hl 1 rfl) ?_
  refine lv_lshr (v := v1 >>> (a1.toInt64 &&& 63)) hx hb dX0_isUsed_5 rfl ?_
  refine lv_lconst (v := (1 : Int64)) hx hb dX0_isUsed_6 (by decide) ?_
  refine lv_land hx hb dX0_isUsed_7 ?_
  refine lv_lconst (v := (0 : Int64)) hx hb dX0_isUsed_8 (by decide) ?_
  refine W.lcmp hx hb dX0_isUsed_9 ?_
  obtain ⟨j18, e_j18, h⟩ := sx_nm h
  have hj18 : ∀ (v2 : Int32) (H : Heap) (locs : List Loc) (ls : Array Slot), lv_has ls 2 [] → sx_W C M0 H → va_S (sx_A C) s.heap H locs → j18 v2 = some r → W p l e R s m args below meth c H locs 0 0 (sx_Z C (some (.int r)) M0 below args s) (F0 m 18 ls [.int v2]) := by
    intro v2 H locs ls hl hP hS h
    subst e_j18
    obtain ⟨hz01, h⟩ := sx_ck h
    exact sx_zret X hr hlocks hS hP hz01 h dX0_isUsed_18
  clear e_j18
  refine lv_if_eq (tgt := 17) hx hb dX0_isUsed_10 (by decide) (fun c3 => ?_) (fun c3 => ?_)
  · replace h := sx_ifp h c3
    refine lv_iconst (v := (0 : Int32)) hx hb dX0_isUsed_17 (by decide) ?_
    exact hj18 (0 : Int32) H locs ls (lv_sub hl [] rfl) hP hS h
  · replace h := sx_ifn h c3
    refine lv_iconst (v := (1 : Int32)) hx hb dX0_isUsed_13 (by decide) ?_
    refine lv_goto (tgt := 18) hx hb dX0_isUsed_14 (by decide) ?_
    exact hj18 (1 : Int32) H locs ls (lv_sub hl [] rfl) hP hS h
set_option maxRecDepth 100000 in
theorem ct_0_isUsed (l : Launch) (C : sx_C) (hG : sx_G C) (a1 : Int32) (M0 : sx_M) (r : Int32) (h : f0_isUsed a1 M0 = some r) : Met l yX0_isUsed (.code yX0_isUsed cX0_isUsed 2 (some .boolean) :: sx_T) ({ frames := 0, cells := 0, slots := 0, locals := 0 } : Room) (sx_Pc C M0 [.ref (sx_ad C 15 0), .int a1]) (sx_Q C (some (.int r)) M0) 0 0 (sx_A C) := by
  refine Met.ofW (cc := cX0_isUsed) (maxL := 2) (ret := (some .boolean)) (by decide) rfl ?_
  intro p e s m args below meth c s₁ B hml hv
  obtain ⟨rfl, hz, hP, hK⟩ := hv
  have hl := lv_entry ([.ref (sx_ad C 15 0), .int a1]) (n := 2) (Nat.le_of_ble_eq_true rfl)
  rw [lg_entry_eq]
  generalize (lg_sl ([.ref (sx_ad C 15 0), .int a1]) ++ List.replicate (2 - (lg_sl ([.ref (sx_ad C 15 0), .int a1])).length) Slot.unset).toArray = ls at hl ⊢
  exact wk_0_isUsed ⟨B.exec, B.bytes, hml, findClass_of_methodNamed B.named, fun w hw => atoms_spec B.pre w (List.mem_cons_of_mem _ hw), hK⟩ B.returns B.notSynchronized hG hz ⟨Nat.zero_le _, Nat.zero_le _⟩ ⟨Nat.le_refl _, Nat.le_refl _⟩ a1 M0 r h hl hP va_S.rf
theorem cl_X0_41 (X : sx_X C p m c cc nL s args RX0) (hG : sx_G C) (hP : sx_W C M0 H) (hz : sx_sz C ≤ H0.size) (hS : va_S (sx_A C) H0 H locs) {a1 : Int32} {r : Int32} (h : f0_isUsed a1 M0 = some r) (hsz : ls.size = nL) (hdg : decode cc pc = .ok (.invokevirtual 41, 3)) (hcs : cells ≤ R.cells ∧ slots ≤ R.slots) (hR : 0 + 1 ≤ R.frames ∧ 8 + (2 + 11) + 0 ≤ R.locals) (hrest : (rest.map fun v => v.category).sum ≤ 8) (kk : ∀ (H1 : Heap) (locs1 : List Loc), sx_W C M0 H1 → va_S (sx_A C) H0 H1 locs1 → W p l e R s m args below meth c H1 locs1 cells slots Q (F0 m (pc + 3) ls ((.int r) :: rest))) : W p l e R s m args below meth c H locs cells slots Q (F0 m pc ls (.int a1 :: .ref (sx_ad C 15 0) :: rest)) :=
  sx_callV (n := 1) (As := [.int a1]) (k0 := 15) (s0 := 0) X hP hz hS (by decide) rfl rfl (sx_goodV tw_874 tw_876 tw_20 tw_70 tw_877) (by decide +kernel) rfl rfl hR (ct_0_isUsed l C hG a1 M0 r h) rfl rfl hrest hsz hdg hcs kk
-- StringShed$Cutter.spread(LStringShed$Strings;I)I
def f0_spread_L5 (s1 : Nat) : Nat → Int32 → Int32 → sx_M → Option (Int32 × sx_M)
  | 0, _, _, _ => none
  | n + 1, x3, x4, M =>
    (f4_size s1 M).bind fun v1 =>
    if v1 ≤ x4 then
      some (x3, M)
    else
      (f0_isUsed x4 M).bind fun v3 =>
      sx_bd (fun (v4 : Int32) =>
        (f0_isUsed x4 M).bind fun v5 =>
        sx_bd (fun (v6 : Int32) =>
          (f7_bitOf v4 M).bind fun v7 =>
          sx_bd (fun (v8 : Int32) =>
            sx_bd (fun (v9 : Int32) (M10 : sx_M) =>
              sx_bd (x4 + (1 : Int32)) fun v11 =>
              f0_spread_L5 s1 n v9 v11 M10) fun j136 =>
            if v8 = 0 then
              j136 x3 M
            else
              (f4_isSoundAt s1 x4 M).bind fun v13 =>
              if v13 = 0 then
                j136 x3 M
              else
                if v6 < 0 then
                  j136 x3 M
                else
                  if (24 : Int32) ≤ v6 then
                    j136 x3 M
                  else
                    if sx_in v6 24 then
                    sx_bd (sx_set M 16 0 (v6).toNatClampNeg x4) fun M17 =>
                    (f7_bitOf v6 M17).bind fun v18 =>
                    sx_bd (x3 ||| v18) fun v19 =>
                    j136 v19 M17
                    else none) fun j91 =>
          sx_bd (fun (_ : Unit) =>
            j91 (0 : Int32)) fun j90 =>
          if (x3 &&& v7) = 0 then
            j90 ()
          else
            (f7_bitOf v6 M).bind fun v21 =>
            if (x3 &&& v21) = 0 then
              j91 (1 : Int32)
            else
              j90 ()) fun j64 =>
        if v5 = 0 then
          (f4_belowAt s1 x4 M).bind fun v24 =>
          j64 v24
        else
          (f4_aboveAt s1 x4 M).bind fun v25 =>
          j64 v25) fun j38 =>
      if v3 = 0 then
        (f4_aboveAt s1 x4 M).bind fun v27 =>
        j38 v27
      else
        (f4_belowAt s1 x4 M).bind fun v28 =>
        j38 v28
def f0_spread (s1 : Nat) (a2 : Int32) (M0 : sx_M) : Option (Int32 × sx_M) :=
  f0_spread_L5 s1
    5000 a2 (0 : Int32) M0
set_option maxRecDepth 100000 in
set_option maxHeartbeats 4000000 in
theorem wk_0_spread (X : sx_X C p m c cX0_spread 8 s args RX0) (hr : meth.sig.returnType = (some .int)) (hlocks : meth.locks = false) (hG : sx_G C) (hz : sx_sz C ≤ s.heap.size) (hcs : 0 ≤ R.cells ∧ 0 ≤ R.slots) (hR : 2 ≤ R.frames ∧ 42 ≤ R.locals) (s1 : Nat) (a2 : Int32) (hs_s1 : s1 < 18) (M0 : sx_M) (r : Int32) (M' : sx_M) (h : f0_spread s1 a2 M0 = some (r, M')) (hl : lv_has ls 8 [(0, .ref (sx_ad C 15 0)), (1, .ref (sx_ad C 2 s1)), (2, .int a2)]) (hP : sx_W C M0 H) (hS : va_S (sx_A C) s.heap H locs) : W p l e R s m args below meth c H locs 0 0 (sx_Z C (some (.int r)) M' below args s) (F0 m 0 ls []) := by
  obtain ⟨hx, hb, hml, hown, hts, hK⟩ := id X
  rw [f0_spread] at h
  have hf0_spread_L5 : ∀ (s1 : Nat) (hs_s1 : s1 < 18) (n : Nat) (x3 : Int32) (x4 : Int32) (M : sx_M) (H : Heap) (locs : List Loc) (ls : Array Slot), lv_has ls 8 [(0, .ref (sx_ad C 15 0)), (1, .ref (sx_ad C 2 s1)), (3, .int x3), (4, .int x4)] → sx_W C M H → va_S (sx_A C) s.heap H locs → f0_spread_L5 s1 n x3 x4 M = some (r, M') → W p l e R s m args below meth c H locs 0 0 (sx_Z C (some (.int r)) M' below args s) (F0 m 5 ls []) := by
    intro s1 hs_s1 n
    induction n with
    | zero => intro x3 x4 M H locs ls hl hP hS h; exact absurd (show (none : Option (Int32 × sx_M)) = some (r, M') from h) (fun q => nomatch q)
    | succ n ih =>
      intro x3 x4 M H locs ls hl hP hS h
      rw [f0_spread_L5] at h
      refine lv_iload hx hb dX0_spread_5 (lv_at hl 3 rfl) ?_
      refine lv_aload_n hx hb dX0_spread_7 rfl (lv_at hl 1 rfl) ?_
      obtain ⟨v1, e_v1, h⟩ := sx_bnd h
      refine cl_X0_35 X hG hP hz hS hs_s1 e_v1 hl.1 dX0_spread_8 hcs ⟨Nat.le_trans (by decide) hR.1, Nat.le_trans (by decide) hR.2⟩ (Nat.le_of_ble_eq_true rfl) (fun H locs hP hS => ?_)
      refine lv_icmp_ge (tgt := 142) hx hb dX0_spread_11 (by decide) (fun c2 => ?_) (fun c2 => ?_)
      · replace h := sx_ifp h c2
        refine lv_iload_n hx hb dX0_spread_142 rfl (lv_at hl 2 rfl) ?_
        exact sx_iretM X hr hlocks hS hP h dX0_spread_143
      · replace h := sx_ifn h c2
        refine lv_aload_n hx hb dX0_spread_14 rfl (lv_at hl 0 rfl) ?_
        refine lv_iload hx hb dX0_spread_15 (lv_at hl 3 rfl) ?_
        obtain ⟨v3, e_v3, h⟩ := sx_bnd h
        refine cl_X0_41 X hG hP hz hS  e_v3 hl.1 dX0_spread_17 hcs ⟨Nat.le_trans (by decide) hR.1, Nat.le_trans (by decide) hR.2⟩ (Nat.le_of_ble_eq_true rfl) (fun H locs hP hS => ?_)
        obtain ⟨j38, e_j38, h⟩ := sx_nm h
        have hj38 : ∀ (v4 : Int32) (H : Heap) (locs : List Loc) (ls : Array Slot), lv_has ls 8 [(0, .ref (sx_ad C 15 0)), (1, .ref (sx_ad C 2 s1)), (3, .int x3), (4, .int x4)] → sx_W C M H → va_S (sx_A C) s.heap H locs → j38 v4 = some (r, M') → W p l e R s m args below meth c H locs 0 0 (sx_Z C (some (.int r)) M' below args s) (F0 m 38 ls [.int v4]) := by
          intro v4 H locs ls hl hP hS h
          subst e_j38
          refine lv_istore (lv' := [(5, .int v4), (0, .ref (sx_ad C 15 0)), (1, .ref (sx_ad C 2 s1)), (3, .int x3), (4, .int x4)]) hx hb dX0_spread_38 hl (by decide) rfl (fun ls hl => ?_)
          refine lv_aload_n hx hb dX0_spread_40 rfl (lv_at hl 1 rfl) ?_
          refine lv_iload hx hb dX0_spread_41 (lv_at hl 4 rfl) ?_
          obtain ⟨v5, e_v5, h⟩ := sx_bnd h
          refine cl_X0_41 X hG hP hz hS  e_v5 hl.1 dX0_spread_43 hcs ⟨Nat.le_trans (by decide) hR.1, Nat.le_trans (by decide) hR.2⟩ (Nat.le_of_ble_eq_true rfl) (fun H locs hP hS => ?_)
          obtain ⟨j64, e_j64, h⟩ := sx_nm h
          have hj64 : ∀ (v6 : Int32) (H : Heap) (locs : List Loc) (ls : Array Slot), lv_has ls 8 [(0, .ref (sx_ad C 15 0)), (1, .ref (sx_ad C 2 s1)), (3, .int x3), (4, .int x4), (5, .int v4)] → sx_W C M H → va_S (sx_A C) s.heap H locs → j64 v6 = some (r, M') → W p l e R s m args below meth c H locs 0 0 (sx_Z C (some (.int r)) M' below args s) (F0 m 64 ls [.int v6]) := by
            intro v6 H locs ls hl hP hS h
            subst e_j64
            refine lv_istore (lv' := [(6, .int v6), (0, .ref (sx_ad C 15 0)), (1, .ref (sx_ad C 2 s1)), (3, .int x3), (4, .int x4), (5, .int v4)]) hx hb dX0_spread_64 hl (by decide) rfl (fun ls hl => ?_)
            refine lv_iload_n hx hb dX0_spread_66 rfl (lv_at hl 3 rfl) ?_
            refine lv_iload hx hb dX0_spread_67 (lv_at hl 5 rfl) ?_
            obtain ⟨v7, e_v7, h⟩ := sx_bnd h
            refine cl_X0_27 X hG hP hz hS  e_v7 hl.1 dX0_spread_69 hcs ⟨Nat.le_trans (by decide) hR.1, Nat.le_trans (by decide) hR.2⟩ (Nat.le_of_ble_eq_true rfl) (fun H locs hP hS => ?_)
            refine lv_iand hx hb dX0_spread_72 ?_
            obtain ⟨j91, e_j91, h⟩ := sx_nm h
            have hj91 : ∀ (v8 : Int32) (H : Heap) (locs : List Loc) (ls : Array Slot), lv_has ls 8 [(0, .ref (sx_ad C 15 0)), (1, .ref (sx_ad C 2 s1)), (3, .int x3), (4, .int x4), (6, .int v6)] → sx_W C M H → va_S (sx_A C) s.heap H locs → j91 v8 = some (r, M') → W p l e R s m args below meth c H locs 0 0 (sx_Z C (some (.int r)) M' below args s) (F0 m 91 ls [.int v8]) := by
              intro v8 H locs ls hl hP hS h
              subst e_j91
              refine lv_istore (lv' := [(7, .int v8), (0, .ref (sx_ad C 15 0)), (1, .ref (sx_ad C 2 s1)), (3, .int x3), (4, .int x4), (6, .int v6)]) hx hb dX0_spread_91 hl (by decide) rfl (fun ls hl => ?_)
              refine lv_iload hx hb dX0_spread_93 (lv_at hl 0 rfl) ?_
              obtain ⟨j136, e_j136, h⟩ := sx_nm h
              have hj136 : ∀ (v9 : Int32) (M10 : sx_M) (H : Heap) (locs : List Loc) (ls : Array Slot), lv_has ls 8 [(0, .ref (sx_ad C 15 0)), (1, .ref (sx_ad C 2 s1)), (3, .int v9), (4, .int x4)] → sx_W C M10 H → va_S (sx_A C) s.heap H locs → j136 v9 M10 = some (r, M') → W p l e R s m args below meth c H locs 0 0 (sx_Z C (some (.int r)) M' below args s) (F0 m 136 ls []) := by
                intro v9 M10 H locs ls hl hP hS h
                subst e_j136
                obtain ⟨v11, e_v11, h⟩ := sx_nm h
                refine lv_iinc (v := v11) (lv' := [(4, .int v11), (0, .ref (sx_ad C 15 0)), (1, .ref (sx_ad C 2 s1)), (3, .int v9)]) hx hb dX0_spread_136 hl (k := 3) rfl (by rw [← e_v11]; rfl) (by decide) rfl (fun ls hl => ?_)
                refine lv_goto (tgt := 5) hx hb dX0_spread_139 (by decide) ?_
                exact ih v9 v11 M10 H locs ls (lv_sub hl [1, 2, 3, 0] rfl) hP hS h
              clear e_j136
              refine lv_if_eq (tgt := 136) hx hb dX0_spread_95 (by decide) (fun c12 => ?_) (fun c12 => ?_)
              · replace h := sx_ifp h c12
                exact hj136 x3 M H locs ls (lv_sub hl [1, 2, 3, 4] rfl) hP hS h
              · replace h := sx_ifn h c12
                refine lv_aload_n hx hb dX0_spread_98 rfl (lv_at hl 2 rfl) ?_
                refine lv_iload hx hb dX0_spread_99 (lv_at hl 4 rfl) ?_
                obtain ⟨v13, e_v13, h⟩ := sx_bnd h
                refine cl_X0_51 X hG hP hz hS hs_s1 e_v13 hl.1 dX0_spread_101 hcs ⟨Nat.le_trans (by decide) hR.1, Nat.le_trans (by decide) hR.2⟩ (Nat.le_of_ble_eq_true rfl) (fun H locs hP hS => ?_)
                refine lv_if_eq (tgt := 136) hx hb dX0_spread_104 (by decide) (fun c14 => ?_) (fun c14 => ?_)
                · replace h := sx_ifp h c14
                  exact hj136 x3 M H locs ls (lv_sub hl [1, 2, 3, 4] rfl) hP hS h
                · replace h := sx_ifn h c14
                  refine lv_iload hx hb dX0_spread_107 (lv_at hl 5 rfl) ?_
                  refine lv_if_lt (tgt := 136) hx hb dX0_spread_109 (by decide) (fun c15 => ?_) (fun c15 => ?_)
                  · replace h := sx_ifp h c15
                    exact hj136 x3 M H locs ls (lv_sub hl [1, 2, 3, 4] rfl) hP hS h
                  · replace h := sx_ifn h c15
                    refine lv_iload hx hb dX0_spread_112 (lv_at hl 5 rfl) ?_
                    refine lv_bipush (v := (24 : Int32)) hx hb dX0_spread_114 (by decide) ?_
                    refine lv_icmp_ge (tgt := 136) hx hb dX0_spread_116 (by decide) (fun c16 => ?_) (fun c16 => ?_)
                    · replace h := sx_ifp h c16
                      exact hj136 x3 M H locs ls (lv_sub hl [1, 2, 3, 4] rfl) hP hS h
                    · replace h := sx_ifn h c16
                      refine lv_aload_n hx hb dX0_spread_119 rfl (lv_at hl 1 rfl) ?_
                      refine gf_X0_9 X hP (by decide) dX0_spread_120 ?_
                      refine lv_iload hx hb dX0_spread_123 (lv_at hl 5 rfl) ?_
                      refine lv_iload hx hb dX0_spread_125 (lv_at hl 4 rfl) ?_
                      refine sx_iast X hG hP hS 16 0 24 (by decide) (fun _ _ => rfl) dX0_spread_127 h (fun M17 H locs h hP hS => ?_)
                      refine lv_iload_n hx hb dX0_spread_128 rfl (lv_at hl 3 rfl) ?_
                      refine lv_iload hx hb dX0_spread_129 (lv_at hl 5 rfl) ?_
                      obtain ⟨v18, e_v18, h⟩ := sx_bnd h
                      refine cl_X0_27 X hG hP hz hS  e_v18 hl.1 dX0_spread_131 hcs ⟨Nat.le_trans (by decide) hR.1, Nat.le_trans (by decide) hR.2⟩ (Nat.le_of_ble_eq_true rfl) (fun H locs hP hS => ?_)
                      refine lv_ior hx hb dX0_spread_134 ?_
                      obtain ⟨v19, e_v19, h⟩ := sx_nm h
                      rw [e_v19]
                      refine lv_istore_n (lv' := [(3, .int v19), (7, .int v8), (0, .ref (sx_ad C 15 0)), (1, .ref (sx_ad C 2 s1)), (4, .int x4), (6, .int v6)]) hx hb dX0_spread_135 rfl hl (by decide) rfl (fun ls hl => ?_)
                      exact hj136 v19 M17 H locs ls (lv_sub hl [2, 3, 0, 4] rfl) hP hS h
            clear e_j91
            obtain ⟨j90, e_j90, h⟩ := sx_nm h
            have hj90 : ∀ (H : Heap) (locs : List Loc) (ls : Array Slot), lv_has ls 8 [(0, .ref (sx_ad C 15 0)), (1, .ref (sx_ad C 2 s1)), (3, .int x3), (4, .int x4), (6, .int v6)] → sx_W C M H → va_S (sx_A C) s.heap H locs → j90 () = some (r, M') → W p l e R s m args below meth c H locs 0 0 (sx_Z C (some (.int r)) M' below args s) (F0 m 90 ls []) := by
              intro  H locs ls hl hP hS h
              subst e_j90
              refine lv_iconst (v := (0 : Int32)) hx hb dX0_spread_90 (by decide) ?_
              exact hj91 (0 : Int32) H locs ls (lv_sub hl [0, 1, 2, 3, 4] rfl) hP hS h
            clear e_j90
            refine lv_if_eq (tgt := 90) hx hb dX0_spread_73 (by decide) (fun c20 => ?_) (fun c20 => ?_)
            · replace h := sx_ifp h c20
              exact hj90 H locs ls (lv_sub hl [1, 2, 3, 4, 0] rfl) hP hS h
            · replace h := sx_ifn h c20
              refine lv_iload_n hx hb dX0_spread_76 rfl (lv_at hl 3 rfl) ?_
              refine lv_iload hx hb dX0_spread_77 (lv_at hl 0 rfl) ?_
              obtain ⟨v21, e_v21, h⟩ := sx_bnd h
              refine cl_X0_27 X hG hP hz hS  e_v21 hl.1 dX0_spread_79 hcs ⟨Nat.le_trans (by decide) hR.1, Nat.le_trans (by decide) hR.2⟩ (Nat.le_of_ble_eq_true rfl) (fun H locs hP hS => ?_)
              refine lv_iand hx hb dX0_spread_82 ?_
              refine lv_if_ne (tgt := 90) hx hb dX0_spread_83 (by decide) (fun c22 => ?_) (fun c22 => ?_)
              · replace h := sx_ifn h c22
                exact hj90 H locs ls (lv_sub hl [1, 2, 3, 4, 0] rfl) hP hS h
              · replace h := sx_ifp h c22
                refine lv_iconst (v := (1 : Int32)) hx hb dX0_spread_86 (by decide) ?_
                refine lv_goto (tgt := 91) hx hb dX0_spread_87 (by decide) ?_
                exact hj91 (1 : Int32) H locs ls (lv_sub hl [1, 2, 3, 4, 0] rfl) hP hS h
          clear e_j64
          refine lv_if_eq (tgt := 58) hx hb dX0_spread_46 (by decide) (fun c23 => ?_) (fun c23 => ?_)
          · replace h := sx_ifp h c23
            refine lv_aload_n hx hb dX0_spread_58 rfl (lv_at hl 2 rfl) ?_
            refine lv_iload hx hb dX0_spread_59 (lv_at hl 4 rfl) ?_
            obtain ⟨v24, e_v24, h⟩ := sx_bnd h
            refine cl_X0_45 X hG hP hz hS hs_s1 e_v24 hl.1 dX0_spread_61 hcs ⟨Nat.le_trans (by decide) hR.1, Nat.le_trans (by decide) hR.2⟩ (Nat.le_of_ble_eq_true rfl) (fun H locs hP hS => ?_)
            exact hj64 v24 H locs ls (lv_sub hl [1, 2, 3, 4, 0] rfl) hP hS h
          · replace h := sx_ifn h c23
            refine lv_aload_n hx hb dX0_spread_49 rfl (lv_at hl 2 rfl) ?_
            refine lv_iload hx hb dX0_spread_50 (lv_at hl 4 rfl) ?_
            obtain ⟨v25, e_v25, h⟩ := sx_bnd h
            refine cl_X0_48 X hG hP hz hS hs_s1 e_v25 hl.1 dX0_spread_52 hcs ⟨Nat.le_trans (by decide) hR.1, Nat.le_trans (by decide) hR.2⟩ (Nat.le_of_ble_eq_true rfl) (fun H locs hP hS => ?_)
            refine lv_goto (tgt := 64) hx hb dX0_spread_55 (by decide) ?_
            exact hj64 v25 H locs ls (lv_sub hl [1, 2, 3, 4, 0] rfl) hP hS h
        clear e_j38
        refine lv_if_eq (tgt := 32) hx hb dX0_spread_20 (by decide) (fun c26 => ?_) (fun c26 => ?_)
        · replace h := sx_ifp h c26
          refine lv_aload_n hx hb dX0_spread_32 rfl (lv_at hl 1 rfl) ?_
          refine lv_iload hx hb dX0_spread_33 (lv_at hl 3 rfl) ?_
          obtain ⟨v27, e_v27, h⟩ := sx_bnd h
          refine cl_X0_48 X hG hP hz hS hs_s1 e_v27 hl.1 dX0_spread_35 hcs ⟨Nat.le_trans (by decide) hR.1, Nat.le_trans (by decide) hR.2⟩ (Nat.le_of_ble_eq_true rfl) (fun H locs hP hS => ?_)
          exact hj38 v27 H locs ls (lv_sub hl [0, 1, 2, 3] rfl) hP hS h
        · replace h := sx_ifn h c26
          refine lv_aload_n hx hb dX0_spread_23 rfl (lv_at hl 1 rfl) ?_
          refine lv_iload hx hb dX0_spread_24 (lv_at hl 3 rfl) ?_
          obtain ⟨v28, e_v28, h⟩ := sx_bnd h
          refine cl_X0_45 X hG hP hz hS hs_s1 e_v28 hl.1 dX0_spread_26 hcs ⟨Nat.le_trans (by decide) hR.1, Nat.le_trans (by decide) hR.2⟩ (Nat.le_of_ble_eq_true rfl) (fun H locs hP hS => ?_)
          refine lv_goto (tgt := 38) hx hb dX0_spread_29 (by decide) ?_
          exact hj38 v28 H locs ls (lv_sub hl [0, 1, 2, 3] rfl) hP hS h
  refine lv_iload_n hx hb dX0_spread_0 rfl (lv_at hl 2 rfl) ?_
  refine lv_istore_n (lv' := [(3, .int a2), (0, .ref (sx_ad C 15 0)), (1, .ref (sx_ad C 2 s1)), (2, .int a2)]) hx hb dX0_spread_1 rfl hl (by decide) rfl (fun ls hl => ?_)
  refine lv_iconst (v := (0 : Int32)) hx hb dX0_spread_2 (by decide) ?_
  refine lv_istore (lv' := [(4, .int (0 : Int32)), (3, .int a2), (0, .ref (sx_ad C 15 0)), (1, .ref (sx_ad C 2 s1)), (2, .int a2)]) hx hb dX0_spread_3 hl (by decide) rfl (fun ls hl => ?_)
  exact hf0_spread_L5 s1 hs_s1 5000 a2 (0 : Int32) M0 H locs ls (lv_sub hl [2, 3, 1, 0] rfl) hP hS h
set_option maxRecDepth 100000 in
theorem ct_0_spread (l : Launch) (C : sx_C) (hG : sx_G C) (s1 : Nat) (a2 : Int32) (hs_s1 : s1 < 18) (M0 : sx_M) (r : Int32) (M' : sx_M) (h : f0_spread s1 a2 M0 = some (r, M')) : Met l yX0_spread (.code yX0_spread cX0_spread 8 (some .int) :: sx_T) ({ frames := 2, cells := 0, slots := 0, locals := 42 } : Room) (sx_Pc C M0 [.ref (sx_ad C 15 0), .ref (sx_ad C 2 s1), .int a2]) (sx_Q C (some (.int r)) M') 0 0 (sx_A C) := by
  refine Met.ofW (cc := cX0_spread) (maxL := 8) (ret := (some .int)) (by decide) rfl ?_
  intro p e s m args below meth c s₁ B hml hv
  obtain ⟨rfl, hz, hP, hK⟩ := hv
  have hl := lv_entry ([.ref (sx_ad C 15 0), .ref (sx_ad C 2 s1), .int a2]) (n := 8) (Nat.le_of_ble_eq_true rfl)
  rw [lg_entry_eq]
  generalize (lg_sl ([.ref (sx_ad C 15 0), .ref (sx_ad C 2 s1), .int a2]) ++ List.replicate (8 - (lg_sl ([.ref (sx_ad C 15 0), .ref (sx_ad C 2 s1), .int a2])).length) Slot.unset).toArray = ls at hl ⊢
  exact wk_0_spread ⟨B.exec, B.bytes, hml, findClass_of_methodNamed B.named, fun w hw => atoms_spec B.pre w (List.mem_cons_of_mem _ hw), hK⟩ B.returns B.notSynchronized hG hz ⟨Nat.zero_le _, Nat.zero_le _⟩ ⟨Nat.le_refl _, Nat.le_refl _⟩ s1 a2 hs_s1 M0 r M' h hl hP va_S.rf
theorem cl_X0_31 (X : sx_X C p m c cc nL s args RX0) (hG : sx_G C) (hP : sx_W C M0 H) (hz : sx_sz C ≤ H0.size) (hS : va_S (sx_A C) H0 H locs) {s1 : Nat} {a2 : Int32} (hs_s1 : s1 < 18) {r : Int32} {M' : sx_M} (h : f0_spread s1 a2 M0 = some (r, M')) (hsz : ls.size = nL) (hdg : decode cc pc = .ok (.invokevirtual 31, 3)) (hcs : cells ≤ R.cells ∧ slots ≤ R.slots) (hR : 2 + 1 ≤ R.frames ∧ 8 + (8 + 11) + 42 ≤ R.locals) (hrest : (rest.map fun v => v.category).sum ≤ 8) (kk : ∀ (H1 : Heap) (locs1 : List Loc), sx_W C M' H1 → va_S (sx_A C) H0 H1 locs1 → W p l e R s m args below meth c H1 locs1 cells slots Q (F0 m (pc + 3) ls ((.int r) :: rest))) : W p l e R s m args below meth c H locs cells slots Q (F0 m pc ls (.int a2 :: .ref (sx_ad C 2 s1) :: .ref (sx_ad C 15 0) :: rest)) :=
  sx_callV (n := 2) (As := [.ref (sx_ad C 2 s1), .int a2]) (k0 := 15) (s0 := 0) X hP hz hS (by decide) rfl rfl (sx_goodV tw_869 tw_871 tw_19 tw_70 tw_872) (by decide +kernel) rfl rfl hR (ct_0_spread l C hG s1 a2 hs_s1 M0 r M' h) rfl rfl hrest hsz hdg hcs kk
-- StringShed$Cutter.findWay(LStringShed$Strings;II)Z
def f0_findWay_L6 (s1 : Nat) (w3 : Int32) (k38 : (Int32 → sx_M → Option (Int32 × sx_M))) : Nat → Int32 → Int32 → sx_M → Option (Int32 × sx_M)
  | 0, _, _, _ => none
  | n + 1, x4, x5, M =>
    if (24 : Int32) ≤ x5 then
      k38 x4 M
    else
      (f7_bitOf w3 M).bind fun v2 =>
      if (x4 &&& v2) = 0 then
        sx_b2 (f0_spread s1 x4 M) fun v4 M5 =>
        sx_bd (x5 + (1 : Int32)) fun v6 =>
        f0_findWay_L6 s1 w3 k38 n v4 v6 M5
      else
        k38 x4 M
def f0_findWay (s1 : Nat) (a2 : Int32) (a3 : Int32) (M0 : sx_M) : Option (Int32 × sx_M) :=
  f0_findWay_L6 s1 a3
    (fun (v7 : Int32) (M8 : sx_M) =>
      (f7_bitOf a3 M8).bind fun v9 =>
      sx_bd (fun (v10 : Int32) =>
        if v10 = 0 ∨ v10 = 1 then some (v10, M8) else none) fun j53 =>
      if (v7 &&& v9) = 0 then
        j53 (0 : Int32)
      else
        j53 (1 : Int32))
    5000 a2 (0 : Int32) M0
set_option maxRecDepth 100000 in
set_option maxHeartbeats 4000000 in
theorem wk_0_findWay (X : sx_X C p m c cX0_findWay 6 s args RX0) (hr : meth.sig.returnType = (some .boolean)) (hlocks : meth.locks = false) (hG : sx_G C) (hz : sx_sz C ≤ s.heap.size) (hcs : 0 ≤ R.cells ∧ 0 ≤ R.slots) (hR : 3 ≤ R.frames ∧ 69 ≤ R.locals) (s1 : Nat) (a2 : Int32) (a3 : Int32) (hs_s1 : s1 < 18) (M0 : sx_M) (r : Int32) (M' : sx_M) (h : f0_findWay s1 a2 a3 M0 = some (r, M')) (hl : lv_has ls 6 [(0, .ref (sx_ad C 15 0)), (1, .ref (sx_ad C 2 s1)), (2, .int a2), (3, .int a3)]) (hP : sx_W C M0 H) (hS : va_S (sx_A C) s.heap H locs) : W p l e R s m args below meth c H locs 0 0 (sx_Z C (some (.int r)) M' below args s) (F0 m 0 ls []) := by
  obtain ⟨hx, hb, hml, hown, hts, hK⟩ := id X
  rw [f0_findWay] at h
  have hf0_findWay_L6 : ∀ (s1 : Nat) (w3 : Int32) (hs_s1 : s1 < 18) (k38 : (Int32 → sx_M → Option (Int32 × sx_M))) (n : Nat) (hk38 : (∀ (y4 : Int32) (M : sx_M) (H : Heap) (locs : List Loc) (ls : Array Slot), lv_has ls 6 [(3, .int w3), (4, .int y4)] → sx_W C M H → va_S (sx_A C) s.heap H locs → k38 y4 M = some (r, M') → W p l e R s m args below meth c H locs 0 0 (sx_Z C (some (.int r)) M' below args s) (F0 m 38 ls []))) (x4 : Int32) (x5 : Int32) (M : sx_M) (H : Heap) (locs : List Loc) (ls : Array Slot), lv_has ls 6 [(0, .ref (sx_ad C 15 0)), (1, .ref (sx_ad C 2 s1)), (3, .int w3), (4, .int x4), (5, .int x5)] → sx_W C M H → va_S (sx_A C) s.heap H locs → f0_findWay_L6 s1 w3 k38 n x4 x5 M = some (r, M') → W p l e R s m args below meth c H locs 0 0 (sx_Z C (some (.int r)) M' below args s) (F0 m 6 ls []) := by
    intro s1 w3 hs_s1 k38 n hk38
    induction n with
    | zero => intro x4 x5 M H locs ls hl hP hS h; exact absurd (show (none : Option (Int32 × sx_M)) = some (r, M') from h) (fun q => nomatch q)
    | succ n ih =>
      intro x4 x5 M H locs ls hl hP hS h
      rw [f0_findWay_L6] at h
      refine lv_iload hx hb dX0_findWay_6 (lv_at hl 4 rfl) ?_
      refine lv_bipush (v := (24 : Int32)) hx hb dX0_findWay_8 (by decide) ?_
      refine lv_icmp_ge (tgt := 38) hx hb dX0_findWay_10 (by decide) (fun c1 => ?_) (fun c1 => ?_)
      · replace h := sx_ifp h c1
        exact hk38 x4 M H locs ls (lv_sub hl [2, 3] rfl) hP hS h
      · replace h := sx_ifn h c1
        refine lv_iload hx hb dX0_findWay_13 (lv_at hl 3 rfl) ?_
        refine lv_iload_n hx hb dX0_findWay_15 rfl (lv_at hl 2 rfl) ?_
        obtain ⟨v2, e_v2, h⟩ := sx_bnd h
        refine cl_X0_27 X hG hP hz hS  e_v2 hl.1 dX0_findWay_16 hcs ⟨Nat.le_trans (by decide) hR.1, Nat.le_trans (by decide) hR.2⟩ (Nat.le_of_ble_eq_true rfl) (fun H locs hP hS => ?_)
        refine lv_iand hx hb dX0_findWay_19 ?_
        refine lv_if_ne (tgt := 38) hx hb dX0_findWay_20 (by decide) (fun c3 => ?_) (fun c3 => ?_)
        · replace h := sx_ifn h c3
          exact hk38 x4 M H locs ls (lv_sub hl [2, 3] rfl) hP hS h
        · replace h := sx_ifp h c3
          refine lv_aload_n hx hb dX0_findWay_23 rfl (lv_at hl 0 rfl) ?_
          refine lv_aload_n hx hb dX0_findWay_24 rfl (lv_at hl 1 rfl) ?_
          refine lv_iload hx hb dX0_findWay_25 (lv_at hl 3 rfl) ?_
          obtain ⟨v4, M5, e_v4, h⟩ := sx_bnd2 h
          refine cl_X0_31 X hG hP hz hS hs_s1 e_v4 hl.1 dX0_findWay_27 hcs ⟨Nat.le_trans (by decide) hR.1, Nat.le_trans (by decide) hR.2⟩ (Nat.le_of_ble_eq_true rfl) (fun H locs hP hS => ?_)
          refine lv_istore (lv' := [(4, .int v4), (0, .ref (sx_ad C 15 0)), (1, .ref (sx_ad C 2 s1)), (3, .int w3), (5, .int x5)]) hx hb dX0_findWay_30 hl (by decide) rfl (fun ls hl => ?_)
          obtain ⟨v6, e_v6, h⟩ := sx_nm h
          refine lv_iinc (v := v6) (lv' := [(5, .int v6), (4, .int v4), (0, .ref (sx_ad C 15 0)), (1, .ref (sx_ad C 2 s1)), (3, .int w3)]) hx hb dX0_findWay_32 hl (k := 4) rfl (by rw [← e_v6]; rfl) (by decide) rfl (fun ls hl => ?_)
          refine lv_goto (tgt := 6) hx hb dX0_findWay_35 (by decide) ?_
          exact ih v4 v6 M5 H locs ls (lv_sub hl [2, 3, 4, 1, 0] rfl) hP hS h
  refine lv_iload_n hx hb dX0_findWay_0 rfl (lv_at hl 2 rfl) ?_
  refine lv_istore (lv' := [(4, .int a2), (0, .ref (sx_ad C 15 0)), (1, .ref (sx_ad C 2 s1)), (2, .int a2), (3, .int a3)]) hx hb dX0_findWay_1 hl (by decide) rfl (fun ls hl => ?_)
  refine lv_iconst (v := (0 : Int32)) hx hb dX0_findWay_3 (by decide) ?_
  refine lv_istore (lv' := [(5, .int (0 : Int32)), (4, .int a2), (0, .ref (sx_ad C 15 0)), (1, .ref (sx_ad C 2 s1)), (2, .int a2), (3, .int a3)]) hx hb dX0_findWay_4 hl (by decide) rfl (fun ls hl => ?_)
  refine hf0_findWay_L6 s1 a3 hs_s1 _ 5000 ?_ a2 (0 : Int32) M0 H locs ls (lv_sub hl [2, 3, 5, 1, 0] rfl) hP hS h
  · intro v7 M8 H locs ls hl hP hS h
    refine lv_iload hx hb dX0_findWay_38 (lv_at hl 1 rfl) ?_
    refine lv_iload_n hx hb dX0_findWay_40 rfl (lv_at hl 0 rfl) ?_
    obtain ⟨v9, e_v9, h⟩ := sx_bnd h
    refine cl_X0_27 X hG hP hz hS  e_v9 hl.1 dX0_findWay_41 hcs ⟨Nat.le_trans (by decide) hR.1, Nat.le_trans (by decide) hR.2⟩ (Nat.le_of_ble_eq_true rfl) (fun H locs hP hS => ?_)
    refine lv_iand hx hb dX0_findWay_44 ?_
    obtain ⟨j53, e_j53, h⟩ := sx_nm h
    have hj53 : ∀ (v10 : Int32) (H : Heap) (locs : List Loc) (ls : Array Slot), lv_has ls 6 [] → sx_W C M8 H → va_S (sx_A C) s.heap H locs → j53 v10 = some (r, M') → W p l e R s m args below meth c H locs 0 0 (sx_Z C (some (.int r)) M' below args s) (F0 m 53 ls [.int v10]) := by
      intro v10 H locs ls hl hP hS h
      subst e_j53
      obtain ⟨hz01, h⟩ := sx_ck h
      exact sx_zretM X hr hlocks hS hP hz01 h dX0_findWay_53
    clear e_j53
    refine lv_if_eq (tgt := 52) hx hb dX0_findWay_45 (by decide) (fun c11 => ?_) (fun c11 => ?_)
    · replace h := sx_ifp h c11
      refine lv_iconst (v := (0 : Int32)) hx hb dX0_findWay_52 (by decide) ?_
      exact hj53 (0 : Int32) H locs ls (lv_sub hl [] rfl) hP hS h
    · replace h := sx_ifn h c11
      refine lv_iconst (v := (1 : Int32)) hx hb dX0_findWay_48 (by decide) ?_
      refine lv_goto (tgt := 53) hx hb dX0_findWay_49 (by decide) ?_
      exact hj53 (1 : Int32) H locs ls (lv_sub hl [] rfl) hP hS h
set_option maxRecDepth 100000 in
theorem ct_0_findWay (l : Launch) (C : sx_C) (hG : sx_G C) (s1 : Nat) (a2 : Int32) (a3 : Int32) (hs_s1 : s1 < 18) (M0 : sx_M) (r : Int32) (M' : sx_M) (h : f0_findWay s1 a2 a3 M0 = some (r, M')) : Met l yX0_findWay (.code yX0_findWay cX0_findWay 6 (some .boolean) :: sx_T) ({ frames := 3, cells := 0, slots := 0, locals := 69 } : Room) (sx_Pc C M0 [.ref (sx_ad C 15 0), .ref (sx_ad C 2 s1), .int a2, .int a3]) (sx_Q C (some (.int r)) M') 0 0 (sx_A C) := by
  refine Met.ofW (cc := cX0_findWay) (maxL := 6) (ret := (some .boolean)) (by decide) rfl ?_
  intro p e s m args below meth c s₁ B hml hv
  obtain ⟨rfl, hz, hP, hK⟩ := hv
  have hl := lv_entry ([.ref (sx_ad C 15 0), .ref (sx_ad C 2 s1), .int a2, .int a3]) (n := 6) (Nat.le_of_ble_eq_true rfl)
  rw [lg_entry_eq]
  generalize (lg_sl ([.ref (sx_ad C 15 0), .ref (sx_ad C 2 s1), .int a2, .int a3]) ++ List.replicate (6 - (lg_sl ([.ref (sx_ad C 15 0), .ref (sx_ad C 2 s1), .int a2, .int a3])).length) Slot.unset).toArray = ls at hl ⊢
  exact wk_0_findWay ⟨B.exec, B.bytes, hml, findClass_of_methodNamed B.named, fun w hw => atoms_spec B.pre w (List.mem_cons_of_mem _ hw), hK⟩ B.returns B.notSynchronized hG hz ⟨Nat.zero_le _, Nat.zero_le _⟩ ⟨Nat.le_refl _, Nat.le_refl _⟩ s1 a2 a3 hs_s1 M0 r M' h hl hP va_S.rf
theorem cl_X0_19 (X : sx_X C p m c cc nL s args RX0) (hG : sx_G C) (hP : sx_W C M0 H) (hz : sx_sz C ≤ H0.size) (hS : va_S (sx_A C) H0 H locs) {s1 : Nat} {a2 : Int32} {a3 : Int32} (hs_s1 : s1 < 18) {r : Int32} {M' : sx_M} (h : f0_findWay s1 a2 a3 M0 = some (r, M')) (hsz : ls.size = nL) (hdg : decode cc pc = .ok (.invokevirtual 19, 3)) (hcs : cells ≤ R.cells ∧ slots ≤ R.slots) (hR : 3 + 1 ≤ R.frames ∧ 8 + (6 + 11) + 69 ≤ R.locals) (hrest : (rest.map fun v => v.category).sum ≤ 8) (kk : ∀ (H1 : Heap) (locs1 : List Loc), sx_W C M' H1 → va_S (sx_A C) H0 H1 locs1 → W p l e R s m args below meth c H1 locs1 cells slots Q (F0 m (pc + 3) ls ((.int r) :: rest))) : W p l e R s m args below meth c H locs cells slots Q (F0 m pc ls (.int a3 :: .int a2 :: .ref (sx_ad C 2 s1) :: .ref (sx_ad C 15 0) :: rest)) :=
  sx_callV (n := 3) (As := [.ref (sx_ad C 2 s1), .int a2, .int a3]) (k0 := 15) (s0 := 0) X hP hz hS (by decide) rfl rfl (sx_goodV tw_864 tw_866 tw_18 tw_70 tw_867) (by decide +kernel) rfl rfl hR (ct_0_findWay l C hG s1 a2 a3 hs_s1 M0 r M' h) rfl rfl hrest hsz hdg hcs kk
-- StringShed$Cutter.takeWay(LStringShed$Strings;II)V
def f0_takeWay_L6 (s1 : Nat) (w2 : Int32) (k35 : (sx_M → Option (sx_M))) (k90 : (sx_M → Option (sx_M))) : Nat → Int32 → Int32 → sx_M → Option (sx_M)
  | 0, _, _, _ => none
  | n + 1, x4, x5, M =>
    if (24 : Int32) ≤ x5 then
      k90 M
    else
      (f7_bitOf x4 M).bind fun v2 =>
      if (w2 &&& v2) = 0 then
        if x4 < 0 then
          k35 M
        else
          if x4 < (24 : Int32) then
            if sx_in x4 24 then
            sx_bd (M.1 16 0 (x4).toNatClampNeg) fun v6 =>
            (f0_isUsed v6 M).bind fun v7 =>
            sx_bd (fun (v8 : Int32) =>
              sx_bd (M.2 15 0 1) fun v9 =>
              sx_bd (sx_setL M 15 0 1 (v9 ^^^ ((1 : Int64) <<< (v6.toInt64 &&& 63)))) fun M10 =>
              sx_bd (x5 + (1 : Int32)) fun v11 =>
              f0_takeWay_L6 s1 w2 k35 k90 n v8 v11 M10) fun j69 =>
            if v7 = 0 then
              (f4_aboveAt s1 v6 M).bind fun v13 =>
              j69 v13
            else
              (f4_belowAt s1 v6 M).bind fun v14 =>
              j69 v14
            else none
          else
            k35 M
      else
        k90 M
def f0_takeWay (s1 : Nat) (a2 : Int32) (a3 : Int32) (M0 : sx_M) : Option (sx_M) :=
  f0_takeWay_L6 s1 a2
    (fun (M15 : sx_M) =>
      some M15)
    (fun (M16 : sx_M) =>
      some M16)
    5000 a3 (0 : Int32) M0
set_option maxRecDepth 100000 in
set_option maxHeartbeats 4000000 in
theorem wk_0_takeWay (X : sx_X C p m c cX0_takeWay 7 s args RX0) (hr : meth.sig.returnType = none) (hlocks : meth.locks = false) (hG : sx_G C) (hz : sx_sz C ≤ s.heap.size) (hcs : 0 ≤ R.cells ∧ 0 ≤ R.slots) (hR : 2 ≤ R.frames ∧ 42 ≤ R.locals) (s1 : Nat) (a2 : Int32) (a3 : Int32) (hs_s1 : s1 < 18) (M0 : sx_M) (M' : sx_M) (h : f0_takeWay s1 a2 a3 M0 = some M') (hl : lv_has ls 7 [(0, .ref (sx_ad C 15 0)), (1, .ref (sx_ad C 2 s1)), (2, .int a2), (3, .int a3)]) (hP : sx_W C M0 H) (hS : va_S (sx_A C) s.heap H locs) : W p l e R s m args below meth c H locs 0 0 (sx_Z C none M' below args s) (F0 m 0 ls []) := by
  obtain ⟨hx, hb, hml, hown, hts, hK⟩ := id X
  rw [f0_takeWay] at h
  have hf0_takeWay_L6 : ∀ (s1 : Nat) (w2 : Int32) (hs_s1 : s1 < 18) (k35 : (sx_M → Option (sx_M))) (k90 : (sx_M → Option (sx_M))) (n : Nat) (hk35 : (∀ (M : sx_M) (H : Heap) (locs : List Loc) (ls : Array Slot), lv_has ls 7 [] → sx_W C M H → va_S (sx_A C) s.heap H locs → k35 M = some M' → W p l e R s m args below meth c H locs 0 0 (sx_Z C none M' below args s) (F0 m 35 ls []))) (hk90 : (∀ (M : sx_M) (H : Heap) (locs : List Loc) (ls : Array Slot), lv_has ls 7 [] → sx_W C M H → va_S (sx_A C) s.heap H locs → k90 M = some M' → W p l e R s m args below meth c H locs 0 0 (sx_Z C none M' below args s) (F0 m 90 ls []))) (x4 : Int32) (x5 : Int32) (M : sx_M) (H : Heap) (locs : List Loc) (ls : Array Slot), lv_has ls 7 [(0, .ref (sx_ad C 15 0)), (1, .ref (sx_ad C 2 s1)), (2, .int w2), (4, .int x4), (5, .int x5)] → sx_W C M H → va_S (sx_A C) s.heap H locs → f0_takeWay_L6 s1 w2 k35 k90 n x4 x5 M = some M' → W p l e R s m args below meth c H locs 0 0 (sx_Z C none M' below args s) (F0 m 6 ls []) := by
    intro s1 w2 hs_s1 k35 k90 n hk35 hk90
    induction n with
    | zero => intro x4 x5 M H locs ls hl hP hS h; exact absurd (show (none : Option (sx_M)) = some M' from h) (fun q => nomatch q)
    | succ n ih =>
      intro x4 x5 M H locs ls hl hP hS h
      rw [f0_takeWay_L6] at h
      refine lv_iload hx hb dX0_takeWay_6 (lv_at hl 4 rfl) ?_
      refine lv_bipush (v := (24 : Int32)) hx hb dX0_takeWay_8 (by decide) ?_
      refine lv_icmp_ge (tgt := 90) hx hb dX0_takeWay_10 (by decide) (fun c1 => ?_) (fun c1 => ?_)
      · replace h := sx_ifp h c1
        exact hk90 M H locs ls (lv_sub hl [] rfl) hP hS h
      · replace h := sx_ifn h c1
        refine lv_iload_n hx hb dX0_takeWay_13 rfl (lv_at hl 2 rfl) ?_
        refine lv_iload hx hb dX0_takeWay_14 (lv_at hl 3 rfl) ?_
        obtain ⟨v2, e_v2, h⟩ := sx_bnd h
        refine cl_X0_27 X hG hP hz hS  e_v2 hl.1 dX0_takeWay_16 hcs ⟨Nat.le_trans (by decide) hR.1, Nat.le_trans (by decide) hR.2⟩ (Nat.le_of_ble_eq_true rfl) (fun H locs hP hS => ?_)
        refine lv_iand hx hb dX0_takeWay_19 ?_
        refine lv_if_ne (tgt := 90) hx hb dX0_takeWay_20 (by decide) (fun c3 => ?_) (fun c3 => ?_)
        · replace h := sx_ifn h c3
          exact hk90 M H locs ls (lv_sub hl [] rfl) hP hS h
        · replace h := sx_ifp h c3
          refine lv_iload hx hb dX0_takeWay_23 (lv_at hl 3 rfl) ?_
          refine lv_if_lt (tgt := 35) hx hb dX0_takeWay_25 (by decide) (fun c4 => ?_) (fun c4 => ?_)
          · replace h := sx_ifp h c4
            exact hk35 M H locs ls (lv_sub hl [] rfl) hP hS h
          · replace h := sx_ifn h c4
            refine lv_iload hx hb dX0_takeWay_28 (lv_at hl 3 rfl) ?_
            refine lv_bipush (v := (24 : Int32)) hx hb dX0_takeWay_30 (by decide) ?_
            refine lv_icmp_lt (tgt := 36) hx hb dX0_takeWay_32 (by decide) (fun c5 => ?_) (fun c5 => ?_)
            · replace h := sx_ifp h c5
              refine lv_aload_n hx hb dX0_takeWay_36 rfl (lv_at hl 0 rfl) ?_
              refine gf_X0_9 X hP (by decide) dX0_takeWay_37 ?_
              refine lv_iload hx hb dX0_takeWay_40 (lv_at hl 3 rfl) ?_
              refine sx_iald X hP 16 0 24 (by decide) (fun _ _ => rfl) dX0_takeWay_42 h (fun v6 h => ?_)
              refine lv_istore (lv' := [(6, .int v6), (0, .ref (sx_ad C 15 0)), (1, .ref (sx_ad C 2 s1)), (2, .int w2), (4, .int x4), (5, .int x5)]) hx hb dX0_takeWay_43 hl (by decide) rfl (fun ls hl => ?_)
              refine lv_aload_n hx hb dX0_takeWay_45 rfl (lv_at hl 1 rfl) ?_
              refine lv_iload hx hb dX0_takeWay_46 (lv_at hl 0 rfl) ?_
              obtain ⟨v7, e_v7, h⟩ := sx_bnd h
              refine cl_X0_41 X hG hP hz hS  e_v7 hl.1 dX0_takeWay_48 hcs ⟨Nat.le_trans (by decide) hR.1, Nat.le_trans (by decide) hR.2⟩ (Nat.le_of_ble_eq_true rfl) (fun H locs hP hS => ?_)
              obtain ⟨j69, e_j69, h⟩ := sx_nm h
              have hj69 : ∀ (v8 : Int32) (H : Heap) (locs : List Loc) (ls : Array Slot), lv_has ls 7 [(0, .ref (sx_ad C 15 0)), (1, .ref (sx_ad C 2 s1)), (2, .int w2), (5, .int x5), (6, .int v6)] → sx_W C M H → va_S (sx_A C) s.heap H locs → j69 v8 = some M' → W p l e R s m args below meth c H locs 0 0 (sx_Z C none M' below args s) (F0 m 69 ls [.int v8]) := by
                intro v8 H locs ls hl hP hS h
                subst e_j69
                refine lv_istore (lv' := [(4, .int v8), (0, .ref (sx_ad C 15 0)), (1, .ref (sx_ad C 2 s1)), (2, .int w2), (5, .int x5), (6, .int v6)]) hx hb dX0_takeWay_69 hl (by decide) rfl (fun ls hl => ?_)
                refine lv_aload_n hx hb dX0_takeWay_71 rfl (lv_at hl 1 rfl) ?_
                refine lv_dup hx hb dX0_takeWay_72 rfl ?_
                refine gf_X0_15 X hP (by decide) dX0_takeWay_73 h (fun v9 h => ?_)
                refine lv_lconst (v := (1 : Int64)) hx hb dX0_takeWay_76 (by decide) ?_
                refine lv_iload hx hb dX0_takeWay_77 (lv_at hl 5 rfl) ?_
                refine lv_lshl (v := (1 : Int64) <<< (v6.toInt64 &&& 63)) hx hb dX0_takeWay_79 rfl ?_
                refine lv_lxor hx hb dX0_takeWay_80 ?_
                refine pf_X0_15 X hG hP hS (by decide) dX0_takeWay_81 h (fun M10 H locs h hP hS => ?_)
                obtain ⟨v11, e_v11, h⟩ := sx_nm h
                refine lv_iinc (v := v11) (lv' := [(5, .int v11), (4, .int v8), (0, .ref (sx_ad C 15 0)), (1, .ref (sx_ad C 2 s1)), (2, .int w2), (6, .int v6)]) hx hb dX0_takeWay_84 hl (k := 4) rfl (by rw [← e_v11]; rfl) (by decide) rfl (fun ls hl => ?_)
                refine lv_goto (tgt := 6) hx hb dX0_takeWay_87 (by decide) ?_
                exact ih v8 v11 M10 H locs ls (lv_sub hl [2, 3, 4, 1, 0] rfl) hP hS h
              clear e_j69
              refine lv_if_eq (tgt := 63) hx hb dX0_takeWay_51 (by decide) (fun c12 => ?_) (fun c12 => ?_)
              · replace h := sx_ifp h c12
                refine lv_aload_n hx hb dX0_takeWay_63 rfl (lv_at hl 2 rfl) ?_
                refine lv_iload hx hb dX0_takeWay_64 (lv_at hl 0 rfl) ?_
                obtain ⟨v13, e_v13, h⟩ := sx_bnd h
                refine cl_X0_48 X hG hP hz hS hs_s1 e_v13 hl.1 dX0_takeWay_66 hcs ⟨Nat.le_trans (by decide) hR.1, Nat.le_trans (by decide) hR.2⟩ (Nat.le_of_ble_eq_true rfl) (fun H locs hP hS => ?_)
                exact hj69 v13 H locs ls (lv_sub hl [1, 2, 3, 5, 0] rfl) hP hS h
              · replace h := sx_ifn h c12
                refine lv_aload_n hx hb dX0_takeWay_54 rfl (lv_at hl 2 rfl) ?_
                refine lv_iload hx hb dX0_takeWay_55 (lv_at hl 0 rfl) ?_
                obtain ⟨v14, e_v14, h⟩ := sx_bnd h
                refine cl_X0_45 X hG hP hz hS hs_s1 e_v14 hl.1 dX0_takeWay_57 hcs ⟨Nat.le_trans (by decide) hR.1, Nat.le_trans (by decide) hR.2⟩ (Nat.le_of_ble_eq_true rfl) (fun H locs hP hS => ?_)
                refine lv_goto (tgt := 69) hx hb dX0_takeWay_60 (by decide) ?_
                exact hj69 v14 H locs ls (lv_sub hl [1, 2, 3, 5, 0] rfl) hP hS h
            · replace h := sx_ifn h c5
              exact hk35 M H locs ls (lv_sub hl [] rfl) hP hS h
  refine lv_iload_n hx hb dX0_takeWay_0 rfl (lv_at hl 3 rfl) ?_
  refine lv_istore (lv' := [(4, .int a3), (0, .ref (sx_ad C 15 0)), (1, .ref (sx_ad C 2 s1)), (2, .int a2), (3, .int a3)]) hx hb dX0_takeWay_1 hl (by decide) rfl (fun ls hl => ?_)
  refine lv_iconst (v := (0 : Int32)) hx hb dX0_takeWay_3 (by decide) ?_
  refine lv_istore (lv' := [(5, .int (0 : Int32)), (4, .int a3), (0, .ref (sx_ad C 15 0)), (1, .ref (sx_ad C 2 s1)), (2, .int a2), (3, .int a3)]) hx hb dX0_takeWay_4 hl (by decide) rfl (fun ls hl => ?_)
  refine hf0_takeWay_L6 s1 a2 hs_s1 _ _ 5000 ?_ ?_ a3 (0 : Int32) M0 H locs ls (lv_sub hl [2, 3, 4, 1, 0] rfl) hP hS h
  · intro M15 H locs ls hl hP hS h
    exact sx_vret X hr hlocks hS hP h dX0_takeWay_35
  · intro M16 H locs ls hl hP hS h
    exact sx_vret X hr hlocks hS hP h dX0_takeWay_90
set_option maxRecDepth 100000 in
theorem ct_0_takeWay (l : Launch) (C : sx_C) (hG : sx_G C) (s1 : Nat) (a2 : Int32) (a3 : Int32) (hs_s1 : s1 < 18) (M0 : sx_M) (M' : sx_M) (h : f0_takeWay s1 a2 a3 M0 = some M') : Met l yX0_takeWay (.code yX0_takeWay cX0_takeWay 7 none :: sx_T) ({ frames := 2, cells := 0, slots := 0, locals := 42 } : Room) (sx_Pc C M0 [.ref (sx_ad C 15 0), .ref (sx_ad C 2 s1), .int a2, .int a3]) (sx_Q C none M') 0 0 (sx_A C) := by
  refine Met.ofW (cc := cX0_takeWay) (maxL := 7) (ret := none) (by decide) rfl ?_
  intro p e s m args below meth c s₁ B hml hv
  obtain ⟨rfl, hz, hP, hK⟩ := hv
  have hl := lv_entry ([.ref (sx_ad C 15 0), .ref (sx_ad C 2 s1), .int a2, .int a3]) (n := 7) (Nat.le_of_ble_eq_true rfl)
  rw [lg_entry_eq]
  generalize (lg_sl ([.ref (sx_ad C 15 0), .ref (sx_ad C 2 s1), .int a2, .int a3]) ++ List.replicate (7 - (lg_sl ([.ref (sx_ad C 15 0), .ref (sx_ad C 2 s1), .int a2, .int a3])).length) Slot.unset).toArray = ls at hl ⊢
  exact wk_0_takeWay ⟨B.exec, B.bytes, hml, findClass_of_methodNamed B.named, fun w hw => atoms_spec B.pre w (List.mem_cons_of_mem _ hw), hK⟩ B.returns B.notSynchronized hG hz ⟨Nat.zero_le _, Nat.zero_le _⟩ ⟨Nat.le_refl _, Nat.le_refl _⟩ s1 a2 a3 hs_s1 M0 M' h hl hP va_S.rf
theorem cl_X0_23 (X : sx_X C p m c cc nL s args RX0) (hG : sx_G C) (hP : sx_W C M0 H) (hz : sx_sz C ≤ H0.size) (hS : va_S (sx_A C) H0 H locs) {s1 : Nat} {a2 : Int32} {a3 : Int32} (hs_s1 : s1 < 18) {M' : sx_M} (h : f0_takeWay s1 a2 a3 M0 = some M') (hsz : ls.size = nL) (hdg : decode cc pc = .ok (.invokevirtual 23, 3)) (hcs : cells ≤ R.cells ∧ slots ≤ R.slots) (hR : 2 + 1 ≤ R.frames ∧ 8 + (7 + 11) + 42 ≤ R.locals) (hrest : (rest.map fun v => v.category).sum ≤ 8) (kk : ∀ (H1 : Heap) (locs1 : List Loc), sx_W C M' H1 → va_S (sx_A C) H0 H1 locs1 → W p l e R s m args below meth c H1 locs1 cells slots Q (F0 m (pc + 3) ls (rest))) : W p l e R s m args below meth c H locs cells slots Q (F0 m pc ls (.int a3 :: .int a2 :: .ref (sx_ad C 2 s1) :: .ref (sx_ad C 15 0) :: rest)) :=
  sx_callV (n := 3) (As := [.ref (sx_ad C 2 s1), .int a2, .int a3]) (k0 := 15) (s0 := 0) X hP hz hS (by decide) rfl rfl (sx_goodV tw_881 tw_883 tw_21 tw_70 tw_884) (by decide +kernel) rfl rfl hR (ct_0_takeWay l C hG s1 a2 a3 hs_s1 M0 M' h) rfl rfl hrest hsz hdg hcs kk
-- StringShed$Cutter.fewest(LStringShed$Strings;II)I
def f0_fewest_L11 (s1 : Nat) (w2 : Int32) (w3 : Int32) (k44 : (Int32 → sx_M → Option (Int32 × sx_M))) : Nat → Int32 → Int32 → sx_M → Option (Int32 × sx_M)
  | 0, _, _, _ => none
  | n + 1, x4, x5, M =>
    if (40 : Int32) ≤ x5 then
      k44 x4 M
    else
      sx_b2 (f0_findWay s1 w2 w3 M) fun v3 M4 =>
      if v3 = 0 then
        k44 x4 M4
      else
        (f0_takeWay s1 w2 w3 M4).bind fun M6 =>
        sx_bd (x4 + (1 : Int32)) fun v7 =>
        sx_bd (x5 + (1 : Int32)) fun v8 =>
        f0_fewest_L11 s1 w2 w3 k44 n v7 v8 M6
def f0_fewest (s1 : Nat) (a2 : Int32) (a3 : Int32) (M0 : sx_M) : Option (Int32 × sx_M) :=
  sx_bd (sx_setL M0 15 0 1 (0 : Int64)) fun M1 =>
  f0_fewest_L11 s1 a2 a3
    (fun (v9 : Int32) (M10 : sx_M) =>
      some (v9, M10))
    5000 (0 : Int32) (0 : Int32) M1
set_option maxRecDepth 100000 in
set_option maxHeartbeats 4000000 in
theorem wk_0_fewest (X : sx_X C p m c cX0_fewest 6 s args RX0) (hr : meth.sig.returnType = (some .int)) (hlocks : meth.locks = false) (hG : sx_G C) (hz : sx_sz C ≤ s.heap.size) (hcs : 0 ≤ R.cells ∧ 0 ≤ R.slots) (hR : 4 ≤ R.frames ∧ 94 ≤ R.locals) (s1 : Nat) (a2 : Int32) (a3 : Int32) (hs_s1 : s1 < 18) (M0 : sx_M) (r : Int32) (M' : sx_M) (h : f0_fewest s1 a2 a3 M0 = some (r, M')) (hl : lv_has ls 6 [(0, .ref (sx_ad C 15 0)), (1, .ref (sx_ad C 2 s1)), (2, .int a2), (3, .int a3)]) (hP : sx_W C M0 H) (hS : va_S (sx_A C) s.heap H locs) : W p l e R s m args below meth c H locs 0 0 (sx_Z C (some (.int r)) M' below args s) (F0 m 0 ls []) := by
  obtain ⟨hx, hb, hml, hown, hts, hK⟩ := id X
  rw [f0_fewest] at h
  have hf0_fewest_L11 : ∀ (s1 : Nat) (w2 : Int32) (w3 : Int32) (hs_s1 : s1 < 18) (k44 : (Int32 → sx_M → Option (Int32 × sx_M))) (n : Nat) (hk44 : (∀ (y4 : Int32) (M : sx_M) (H : Heap) (locs : List Loc) (ls : Array Slot), lv_has ls 6 [(4, .int y4)] → sx_W C M H → va_S (sx_A C) s.heap H locs → k44 y4 M = some (r, M') → W p l e R s m args below meth c H locs 0 0 (sx_Z C (some (.int r)) M' below args s) (F0 m 44 ls []))) (x4 : Int32) (x5 : Int32) (M : sx_M) (H : Heap) (locs : List Loc) (ls : Array Slot), lv_has ls 6 [(0, .ref (sx_ad C 15 0)), (1, .ref (sx_ad C 2 s1)), (2, .int w2), (3, .int w3), (4, .int x4), (5, .int x5)] → sx_W C M H → va_S (sx_A C) s.heap H locs → f0_fewest_L11 s1 w2 w3 k44 n x4 x5 M = some (r, M') → W p l e R s m args below meth c H locs 0 0 (sx_Z C (some (.int r)) M' below args s) (F0 m 11 ls []) := by
    intro s1 w2 w3 hs_s1 k44 n hk44
    induction n with
    | zero => intro x4 x5 M H locs ls hl hP hS h; exact absurd (show (none : Option (Int32 × sx_M)) = some (r, M') from h) (fun q => nomatch q)
    | succ n ih =>
      intro x4 x5 M H locs ls hl hP hS h
      rw [f0_fewest_L11] at h
      refine lv_iload hx hb dX0_fewest_11 (lv_at hl 5 rfl) ?_
      refine lv_bipush (v := (40 : Int32)) hx hb dX0_fewest_13 (by decide) ?_
      refine lv_icmp_ge (tgt := 44) hx hb dX0_fewest_15 (by decide) (fun c2 => ?_) (fun c2 => ?_)
      · replace h := sx_ifp h c2
        exact hk44 x4 M H locs ls (lv_sub hl [4] rfl) hP hS h
      · replace h := sx_ifn h c2
        refine lv_aload_n hx hb dX0_fewest_18 rfl (lv_at hl 0 rfl) ?_
        refine lv_aload_n hx hb dX0_fewest_19 rfl (lv_at hl 1 rfl) ?_
        refine lv_iload_n hx hb dX0_fewest_20 rfl (lv_at hl 2 rfl) ?_
        refine lv_iload_n hx hb dX0_fewest_21 rfl (lv_at hl 3 rfl) ?_
        obtain ⟨v3, M4, e_v3, h⟩ := sx_bnd2 h
        refine cl_X0_19 X hG hP hz hS hs_s1 e_v3 hl.1 dX0_fewest_22 hcs ⟨Nat.le_trans (by decide) hR.1, Nat.le_trans (by decide) hR.2⟩ (Nat.le_of_ble_eq_true rfl) (fun H locs hP hS => ?_)
        refine lv_if_eq (tgt := 44) hx hb dX0_fewest_25 (by decide) (fun c5 => ?_) (fun c5 => ?_)
        · replace h := sx_ifp h c5
          exact hk44 x4 M4 H locs ls (lv_sub hl [4] rfl) hP hS h
        · replace h := sx_ifn h c5
          refine lv_aload_n hx hb dX0_fewest_28 rfl (lv_at hl 0 rfl) ?_
          refine lv_aload_n hx hb dX0_fewest_29 rfl (lv_at hl 1 rfl) ?_
          refine lv_iload_n hx hb dX0_fewest_30 rfl (lv_at hl 2 rfl) ?_
          refine lv_iload_n hx hb dX0_fewest_31 rfl (lv_at hl 3 rfl) ?_
          obtain ⟨M6, e_M6, h⟩ := sx_bnd h
          refine cl_X0_23 X hG hP hz hS hs_s1 e_M6 hl.1 dX0_fewest_32 hcs ⟨Nat.le_trans (by decide) hR.1, Nat.le_trans (by decide) hR.2⟩ (Nat.le_of_ble_eq_true rfl) (fun H locs hP hS => ?_)
          obtain ⟨v7, e_v7, h⟩ := sx_nm h
          refine lv_iinc (v := v7) (lv' := [(4, .int v7), (0, .ref (sx_ad C 15 0)), (1, .ref (sx_ad C 2 s1)), (2, .int w2), (3, .int w3), (5, .int x5)]) hx hb dX0_fewest_35 hl (k := 4) rfl (by rw [← e_v7]; rfl) (by decide) rfl (fun ls hl => ?_)
          obtain ⟨v8, e_v8, h⟩ := sx_nm h
          refine lv_iinc (v := v8) (lv' := [(5, .int v8), (4, .int v7), (0, .ref (sx_ad C 15 0)), (1, .ref (sx_ad C 2 s1)), (2, .int w2), (3, .int w3)]) hx hb dX0_fewest_38 hl (k := 5) rfl (by rw [← e_v8]; rfl) (by decide) rfl (fun ls hl => ?_)
          refine lv_goto (tgt := 11) hx hb dX0_fewest_41 (by decide) ?_
          exact ih v7 v8 M6 H locs ls (lv_sub hl [2, 3, 4, 5, 1, 0] rfl) hP hS h
  refine lv_aload_n hx hb dX0_fewest_0 rfl (lv_at hl 0 rfl) ?_
  refine lv_lconst (v := (0 : Int64)) hx hb dX0_fewest_1 (by decide) ?_
  refine pf_X0_15 X hG hP hS (by decide) dX0_fewest_2 h (fun M1 H locs h hP hS => ?_)
  refine lv_iconst (v := (0 : Int32)) hx hb dX0_fewest_5 (by decide) ?_
  refine lv_istore (lv' := [(4, .int (0 : Int32)), (0, .ref (sx_ad C 15 0)), (1, .ref (sx_ad C 2 s1)), (2, .int a2), (3, .int a3)]) hx hb dX0_fewest_6 hl (by decide) rfl (fun ls hl => ?_)
  refine lv_iconst (v := (0 : Int32)) hx hb dX0_fewest_8 (by decide) ?_
  refine lv_istore (lv' := [(5, .int (0 : Int32)), (4, .int (0 : Int32)), (0, .ref (sx_ad C 15 0)), (1, .ref (sx_ad C 2 s1)), (2, .int a2), (3, .int a3)]) hx hb dX0_fewest_9 hl (by decide) rfl (fun ls hl => ?_)
  refine hf0_fewest_L11 s1 a2 a3 hs_s1 _ 5000 ?_ (0 : Int32) (0 : Int32) M1 H locs ls (lv_sub hl [2, 3, 4, 5, 1, 0] rfl) hP hS h
  · intro v9 M10 H locs ls hl hP hS h
    refine lv_iload hx hb dX0_fewest_44 (lv_at hl 0 rfl) ?_
    exact sx_iretM X hr hlocks hS hP h dX0_fewest_46
set_option maxRecDepth 100000 in
theorem ct_0_fewest (l : Launch) (C : sx_C) (hG : sx_G C) (s1 : Nat) (a2 : Int32) (a3 : Int32) (hs_s1 : s1 < 18) (M0 : sx_M) (r : Int32) (M' : sx_M) (h : f0_fewest s1 a2 a3 M0 = some (r, M')) : Met l yX0_fewest (.code yX0_fewest cX0_fewest 6 (some .int) :: sx_T) ({ frames := 4, cells := 0, slots := 0, locals := 94 } : Room) (sx_Pc C M0 [.ref (sx_ad C 15 0), .ref (sx_ad C 2 s1), .int a2, .int a3]) (sx_Q C (some (.int r)) M') 0 0 (sx_A C) := by
  refine Met.ofW (cc := cX0_fewest) (maxL := 6) (ret := (some .int)) (by decide) rfl ?_
  intro p e s m args below meth c s₁ B hml hv
  obtain ⟨rfl, hz, hP, hK⟩ := hv
  have hl := lv_entry ([.ref (sx_ad C 15 0), .ref (sx_ad C 2 s1), .int a2, .int a3]) (n := 6) (Nat.le_of_ble_eq_true rfl)
  rw [lg_entry_eq]
  generalize (lg_sl ([.ref (sx_ad C 15 0), .ref (sx_ad C 2 s1), .int a2, .int a3]) ++ List.replicate (6 - (lg_sl ([.ref (sx_ad C 15 0), .ref (sx_ad C 2 s1), .int a2, .int a3])).length) Slot.unset).toArray = ls at hl ⊢
  exact wk_0_fewest ⟨B.exec, B.bytes, hml, findClass_of_methodNamed B.named, fun w hw => atoms_spec B.pre w (List.mem_cons_of_mem _ hw), hK⟩ B.returns B.notSynchronized hG hz ⟨Nat.zero_le _, Nat.zero_le _⟩ ⟨Nat.le_refl _, Nat.le_refl _⟩ s1 a2 a3 hs_s1 M0 r M' h hl hP va_S.rf
theorem cl_X7_174 (X : sx_X C p m c cc nL s args RX7) (hG : sx_G C) (hP : sx_W C M0 H) (hz : sx_sz C ≤ H0.size) (hS : va_S (sx_A C) H0 H locs) {s1 : Nat} {a2 : Int32} {a3 : Int32} (hs_s1 : s1 < 18) {r : Int32} {M' : sx_M} (h : f0_fewest s1 a2 a3 M0 = some (r, M')) (hsz : ls.size = nL) (hdg : decode cc pc = .ok (.invokevirtual 174, 3)) (hcs : cells ≤ R.cells ∧ slots ≤ R.slots) (hR : 4 + 1 ≤ R.frames ∧ 8 + (6 + 11) + 94 ≤ R.locals) (hrest : (rest.map fun v => v.category).sum ≤ 8) (kk : ∀ (H1 : Heap) (locs1 : List Loc), sx_W C M' H1 → va_S (sx_A C) H0 H1 locs1 → W p l e R s m args below meth c H1 locs1 cells slots Q (F0 m (pc + 3) ls ((.int r) :: rest))) : W p l e R s m args below meth c H locs cells slots Q (F0 m pc ls (.int a3 :: .int a2 :: .ref (sx_ad C 2 s1) :: .ref (sx_ad C 15 0) :: rest)) :=
  sx_callV (n := 3) (As := [.ref (sx_ad C 2 s1), .int a2, .int a3]) (k0 := 15) (s0 := 0) X hP hz hS (by decide) rfl rfl (sx_goodV tw_860 tw_861 tw_862 tw_70 tw_863) (by decide +kernel) rfl rfl hR (ct_0_fewest l C hG s1 a2 a3 hs_s1 M0 r M' h) rfl rfl hrest hsz hdg hcs kk
end SXM
