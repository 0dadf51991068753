/-! THE LAW'S HELPERS. Written by wip/whole/wrap.py -/
section SXW
variable {p : Program} {l : Launch} {e : Env} {R : Room} {s : State} {m : MethodId} {args : Array Value} {below : List Frame} {meth : Method} {c : Code} {H : Heap} {locs : List Loc} {cells slots : Nat} {Q : State → Prop}
variable {C : sx_C} {M M0 M' : sx_M} {cc : ByteArray} {nL : Nat} {own : String} {pc : Nat} {ls : Array Slot} {rest st0 : List Value} {H0 : Heap} {mc ms : Nat} {a : Array Value} {rv : Option Value}
theorem sx_retW (hr : va_Run p l e R s m args below meth c H locs cells slots mc ms (F0 m pc ls st0) rest (sx_Q C rv M' a) (sx_A C)) (hS : va_S (sx_A C) H0 H locs)
    (kk : ∀ (H1 : Heap) (locs1 : List Loc), sx_W C M' H1 → va_S (sx_A C) H0 H1 locs1 → W p l e R s m args below meth c H1 locs1 (cells + mc) (slots + ms) Q (F0 m (pc + 3) ls (rv.toList ++ rest))) : W p l e R s m args below meth c H locs cells slots Q (F0 m pc ls st0) := by
  intro T hT X
  obtain ⟨v, st₀, t, T', L, h0, X', hL, e1, e2, ⟨⟨hv, hW⟩, hF⟩, st⟩ := hr T hT X
  cases hv
  obtain ⟨k1, k2, k3⟩ := vx_keep h0 e1 hS (fun _ _ h => h) (fun _ h => h) hL hF
  obtain ⟨t2, a1, b1⟩ := kk T'.heap (locs ++ L) (by rw [e1]; exact hW) k3 T' rfl X'
  exact ⟨t2, st t2 a1, b1⟩
theorem sx_wret (X : sx_X C p m c cc nL s args own) (hr : meth.sig.returnType = some .int) (hlocks : meth.locks = false) (hS : va_S (sx_A C) s.heap H locs) (hP : sx_W C M H) {v r : Int32} (h : some (v, M) = some (r, M')) (hdg : decode cc pc = .ok (.ireturn, 1)) : W p l e R s m args below meth c H locs cells slots (MQ below (sx_Q C (some (.int r)) M') args s cells slots (sx_A C)) (F0 m pc ls [.int v]) := by
  obtain ⟨rfl, rfl⟩ := Prod.mk.inj (Option.some.inj h)
  exact W.iret X.1 X.2.1 hr (sx_end hS hP rfl) hS.2.2 hdg hlocks
theorem sx_goodSW {idx : Nat} {y : MethodName} {b : ByteArray} {n : Nat} {ret : Option FieldType} {hh : List (Nat × Nat × Nat × Nat)} (h1 : Cond.methodLink own idx y ∈ sx_T) (h2 : Cond.static y ∈ sx_T) (h4 : Cond.initialized y.cls ∈ sx_T) (h5 : Cond.codeWith y b n ret hh ∈ sx_T) : GoodIn sx_T (va_wsS own idx y (.codeWith y b n ret hh :: sx_T)) := by
  intro w hw
  simp only [va_wsS, List.cons_append, List.nil_append, List.mem_cons] at hw
  rcases hw with rfl | rfl | rfl | rfl | hw
  · exact sx_good _ h1
  · exact sx_good _ h2
  · exact sx_good _ h4
  · exact sx_good _ h5
  · exact sx_good _ hw
theorem sx_callSW {y : MethodName} {bytes : ByteArray} {maxL n index : Nat} {ret : Option FieldType} {hh : List (Nat × Nat × Nat × Nat)} {rm : Room} {As : List Value} (X : sx_X C p m c cc nL s args own) (hT : sx_thr C s) (hP : sx_W C M H) (hz : sx_sz C ≤ s.heap.size) (hS : va_S (sx_A C) s.heap H locs)
    (hG : GoodIn sx_T (va_wsS own index y (.codeWith y bytes maxL ret hh :: sx_T))) (hd : y.cls ≠ "java/lang/invoke/MethodHandle" ∧ y.cls ≠ "java/lang/invoke/VarHandle" ∧ (parseMethodDescriptor y.desc).map (fun d => d.parameters.length) = some n) (hrc : rm.cells = mc) (hrs : rm.slots = ms) (hR : rm.frames + 1 ≤ R.frames ∧ 8 + (maxL + 11) + rm.locals ≤ R.locals)
    (hM : Met l y (.codeWith y bytes maxL ret hh :: sx_T) rm (sx_PcT C M As) (sx_Q C rv M') mc ms (sx_A C)) (hn : As.length = n) (hst : st0 = As.reverse ++ rest) (hrest : (rest.map fun v => v.category).sum ≤ 8) (hsz : ls.size = nL) (hdg : decode cc pc = .ok (.invokestatic index, 3)) (hcs : cells + mc ≤ R.cells ∧ slots + ms ≤ R.slots)
    (kk : ∀ (H1 : Heap) (locs1 : List Loc), sx_W C M' H1 → va_S (sx_A C) s.heap H1 locs1 → W p l e R s m args below meth c H1 locs1 (cells + mc) (slots + ms) Q (F0 m (pc + 3) ls (rv.toList ++ rest))) : W p l e R s m args below meth c H locs cells slots Q (F0 m pc ls st0) := by
  obtain ⟨hx, hb, hml, ho, hts, hK⟩ := X
  exact sx_retW (vx_runSW (As := As) (rest := rest) ⟨hx, hb, hml, ho, hts⟩ hM (vx_cwSW n hts hG rfl hrc hrs hd hR) ⟨sx_blindT C M _, fun U hU hW => ⟨rfl, by rw [hU]; exact Nat.le_trans hz hS.1, by rw [hU]; exact hP, hK.moved hW, hT.moved hW (by rw [hU]; exact hS)⟩⟩ rfl hn hsz hst (lv_room hrest) hdg hcs) hS kk
-- StringShedLaw.append
def fL_append (a1 : Int32) (M0 : sx_M) : Option (Int32 × sx_M) :=
  sx_b2 (f7_append a1 M0) fun o M1 => o.elim (fun k => if k = 1 then some ((1 : Int32), M1) else if k = 2 then some ((2 : Int32), M1) else none)
    (fun v => if sx_in (0 : Int32) 1 then sx_bd (sx_setL M1 30 0 ((0 : Int32)).toNatClampNeg v.toInt64) fun M2 => some ((0 : Int32), M2) else none)
set_option maxRecDepth 100000 in
set_option maxHeartbeats 4000000 in
theorem wk_L_append (X : sx_X C p m c cL_append 4 s args RL) (hr : meth.sig.returnType = some .int) (hlocks : meth.locks = false) (hG : sx_G C) (hz : sx_sz C ≤ s.heap.size) (hT : sx_thr C s) (hst : l.stackTraces = false) (htab : c.exceptionTable.toList = [⟨0, 9, 12, 13⟩, ⟨0, 9, 15, 15⟩]) (hcs : 1 ≤ R.cells ∧ 6 ≤ R.slots) (hR : 7 ≤ R.frames ∧ 103 ≤ R.locals) (a1 : Int32) (M0 : sx_M) (r : Int32) (M' : sx_M) (h : fL_append a1 M0 = some (r, M')) (hl : lv_has ls 4 [(0, .ref (sx_ad C 0 0)), (1, .int a1), (2, .ref (sx_ad C 30 0))]) (hP : sx_W C M0 H) (hS : va_S (sx_A C) s.heap H locs) : W p l e R s m args below meth c H locs 0 0 (MQ below (sx_Q C (some (.int r)) M') args s 1 6 (sx_A C)) (F0 m 0 ls []) := by
  obtain ⟨hx, hb, hml, hown, hts, hK⟩ := id X
  rw [fL_append] at h
  obtain ⟨o1, M1, e1, h⟩ := sx_bnd2 h
  refine lv_aload_n hx hb dL_append_0 rfl (lv_at hl 2 rfl) ?_
  refine lv_iconst (v := 0) hx hb dL_append_1 (by decide) ?_
  refine lv_aload_n hx hb dL_append_2 rfl (lv_at hl 0 rfl) ?_
  refine lv_iload_n hx hb dL_append_3 rfl (lv_at hl 1 rfl) ?_
  refine clT_L_7 X hT hst hG hP hz hS e1 hl.1 dL_append_4 ⟨Nat.le_trans (by decide) hcs.1, Nat.le_trans (by decide) hcs.2⟩ ⟨Nat.le_trans (by decide) hR.1, Nat.le_trans (by decide) hR.2⟩ (Nat.le_of_ble_eq_true rfl) (fun k ce q9 H locs ho hP hS g1 g2 g3 => ?_) (fun v H locs ho hP hS => ?_)
  · subst ho
    replace h : (if k = 1 then some ((1 : Int32), M1) else if k = 2 then some ((2 : Int32), M1) else none) = some (r, M') := h
    by_cases c1 : k = 1
    · subst c1
      replace h := sx_ifp h rfl
      refine vx_catch (own := RL) (name := "java/lang/IllegalArgumentException") (E := "java/lang/IllegalArgumentException") hown [] ⟨0, 9, 12, 13⟩ [⟨0, 9, 15, 15⟩] htab (fun z hz => absurd hz List.not_mem_nil) (by decide) (by decide) (hts _ tw_426) (va_Nw.use rfl (hT.2.2.2.1 (.castable "java/lang/IllegalArgumentException" "java/lang/IllegalArgumentException") (List.mem_of_getElem? (i := 1) rfl))) g1 g2 g3 ?_
      refine lv_astore_n (lv' := [(3, .ref q9), (0, .ref (sx_ad C 0 0)), (1, .int a1), (2, .ref (sx_ad C 30 0))]) hx hb dL_append_12 rfl hl (by decide) rfl (fun ls hl => ?_)
      refine lv_iconst (v := 1) hx hb dL_append_13 (by decide) ?_
      exact W.widen (by decide) (by decide) (sx_wret X hr hlocks hS hP h dL_append_14)
    replace h := sx_ifn h c1
    by_cases c2 : k = 2
    · subst c2
      replace h := sx_ifp h rfl
      refine vx_catch (own := RL) (name := "java/lang/IllegalStateException") (E := "java/lang/IllegalStateException") hown [⟨0, 9, 12, 13⟩] ⟨0, 9, 15, 15⟩ [] htab (fun z hz => by
        simp only [List.mem_cons, List.not_mem_nil, or_false] at hz
        rcases hz with rfl
        · exact Or.inr ⟨by decide, "java/lang/IllegalArgumentException", hts _ tw_426, hT.2.2.2.2 ("java/lang/IllegalStateException", "java/lang/IllegalArgumentException") (by decide)⟩) (by decide) (by decide) (hts _ tw_427) (va_Nw.use rfl (hT.2.2.2.1 (.castable "java/lang/IllegalStateException" "java/lang/IllegalStateException") (List.mem_of_getElem? (i := 2) rfl))) g1 g2 g3 ?_
      refine lv_astore_n (lv' := [(3, .ref q9), (0, .ref (sx_ad C 0 0)), (1, .int a1), (2, .ref (sx_ad C 30 0))]) hx hb dL_append_15 rfl hl (by decide) rfl (fun ls hl => ?_)
      refine lv_iconst (v := 2) hx hb dL_append_16 (by decide) ?_
      exact W.widen (by decide) (by decide) (sx_wret X hr hlocks hS hP h dL_append_17)
    replace h := sx_ifn h c2
    cases h
  · subst ho
    replace h : (if sx_in (0 : Int32) 1 then sx_bd (sx_setL M1 30 0 ((0 : Int32)).toNatClampNeg v.toInt64) fun M2 => some ((0 : Int32), M2) else none) = some (r, M') := h
    refine lv_i2l (v := v.toInt64) hx hb dL_append_7 rfl ?_
    refine sx_last X hG hP hS 30 0 1 (by decide) (fun _ _ => rfl) dL_append_8 h (fun M2 H locs h hP hS => ?_)
    refine lv_goto (tgt := 18) hx hb dL_append_9 (by decide) ?_
    refine lv_iconst (v := 0) hx hb dL_append_18 (by decide) ?_
    exact W.widen (by decide) (by decide) (sx_wret X hr hlocks hS hP h dL_append_19)
set_option maxRecDepth 100000 in
theorem ct_L_append (l : Launch) (hst : l.stackTraces = false) (C : sx_C) (hG : sx_G C) (a1 : Int32) (M0 : sx_M) (r : Int32) (M' : sx_M) (h : fL_append a1 M0 = some (r, M')) : Met l yL_append (.codeWith yL_append cL_append 4 (some .int) [(0, 9, 12, 13), (0, 9, 15, 15)] :: sx_T) ({ frames := 7, cells := 1, slots := 6, locals := 103 } : Room) (sx_PcT C M0 [.ref (sx_ad C 0 0), .int a1, .ref (sx_ad C 30 0)]) (sx_Q C (some (.int r)) M') 1 6 (sx_A C) := by
  refine va_MetW (cc := cL_append) (maxL := 4) (ret := some .int) (by decide) rfl ?_
  intro p e s m args below meth c s₁ B hml hv
  obtain ⟨rfl, hz, hP, hK, hT⟩ := hv
  have hts0 := atoms_spec B.pre
  have htab := vx_table (x := yL_append) B (hts0 _ List.mem_cons_self)
  have hl := lv_entry ([.ref (sx_ad C 0 0), .int a1, .ref (sx_ad C 30 0)]) (n := 4) (Nat.le_of_ble_eq_true rfl)
  rw [lg_entry_eq]
  generalize (lg_sl ([.ref (sx_ad C 0 0), .int a1, .ref (sx_ad C 30 0)]) ++ List.replicate (4 - (lg_sl ([.ref (sx_ad C 0 0), .int a1, .ref (sx_ad C 30 0)])).length) Slot.unset).toArray = ls at hl ⊢
  exact wk_L_append ⟨B.exec, B.bytes, hml, findClass_of_methodNamed B.named, fun w hw => hts0 w (List.mem_cons_of_mem _ hw), hK⟩ B.returns B.notSynchronized hG hz hT hst htab ⟨Nat.le_refl _, Nat.le_refl _⟩ ⟨Nat.le_refl _, Nat.le_refl _⟩ a1 M0 r M' h hl hP va_S.rf
theorem clW_L_92 (X : sx_X C p m c cc nL s args RL) (hT : sx_thr C s) (hst : l.stackTraces = false) (hG : sx_G C) (hP : sx_W C M0 H) (hz : sx_sz C ≤ s.heap.size) (hS : va_S (sx_A C) s.heap H locs) {a1 : Int32} {r : Int32} {M' : sx_M} (h : fL_append a1 M0 = some (r, M')) (hsz : ls.size = nL) (hdg : decode cc pc = .ok (.invokestatic 92, 3)) (hcs : cells + 1 ≤ R.cells ∧ slots + 6 ≤ R.slots) (hR : 7 + 1 ≤ R.frames ∧ 8 + (4 + 11) + 103 ≤ R.locals) (hrest : (rest.map fun v => v.category).sum ≤ 8) (kk : ∀ (H1 : Heap) (locs1 : List Loc), sx_W C M' H1 → va_S (sx_A C) s.heap H1 locs1 → W p l e R s m args below meth c H1 locs1 (cells + 1) (slots + 6) Q (F0 m (pc + 3) ls (.int r :: rest))) : W p l e R s m args below meth c H locs cells slots Q (F0 m pc ls (.ref (sx_ad C 30 0) :: .int a1 :: .ref (sx_ad C 0 0) :: rest)) :=
  sx_callSW (n := 3) (As := [.ref (sx_ad C 0 0), .int a1, .ref (sx_ad C 30 0)]) X hT hP hz hS (sx_goodSW tw_423 tw_424 tw_63 tw_425) (by decide +kernel) rfl rfl hR (ct_L_append l hst C hG a1 M0 r M' h) rfl rfl hrest hsz hdg hcs kk
-- StringShedLaw.load
def fL_load  (M0 : sx_M) : Option (Int32 × sx_M) :=
  sx_b2 (f7_load M0) fun o M1 => o.elim (fun k => if k = 2 then some ((1 : Int32), M1) else none)
    (fun v => if sx_in (0 : Int32) 1 then sx_bd (sx_setL M1 30 0 ((0 : Int32)).toNatClampNeg v.toInt64) fun M2 => some ((0 : Int32), M2) else none)
set_option maxRecDepth 100000 in
set_option maxHeartbeats 4000000 in
theorem wk_L_load (X : sx_X C p m c cL_load 3 s args RL) (hr : meth.sig.returnType = some .int) (hlocks : meth.locks = false) (hG : sx_G C) (hz : sx_sz C ≤ s.heap.size) (hT : sx_thr C s) (hst : l.stackTraces = false) (htab : c.exceptionTable.toList = [⟨0, 8, 11, 15⟩]) (hcs : 1 ≤ R.cells ∧ 6 ≤ R.slots) (hR : 7 ≤ R.frames ∧ 162 ≤ R.locals) (M0 : sx_M) (r : Int32) (M' : sx_M) (h : fL_load M0 = some (r, M')) (hl : lv_has ls 3 [(0, .ref (sx_ad C 0 0)), (1, .ref (sx_ad C 30 0))]) (hP : sx_W C M0 H) (hS : va_S (sx_A C) s.heap H locs) : W p l e R s m args below meth c H locs 0 0 (MQ below (sx_Q C (some (.int r)) M') args s 1 6 (sx_A C)) (F0 m 0 ls []) := by
  obtain ⟨hx, hb, hml, hown, hts, hK⟩ := id X
  rw [fL_load] at h
  obtain ⟨o1, M1, e1, h⟩ := sx_bnd2 h
  refine lv_aload_n hx hb dL_load_0 rfl (lv_at hl 1 rfl) ?_
  refine lv_iconst (v := 0) hx hb dL_load_1 (by decide) ?_
  refine lv_aload_n hx hb dL_load_2 rfl (lv_at hl 0 rfl) ?_
  refine clT_L_17 X hT hst hG hP hz hS e1 hl.1 dL_load_3 ⟨Nat.le_trans (by decide) hcs.1, Nat.le_trans (by decide) hcs.2⟩ ⟨Nat.le_trans (by decide) hR.1, Nat.le_trans (by decide) hR.2⟩ (Nat.le_of_ble_eq_true rfl) (fun k ce q9 H locs ho hP hS g1 g2 g3 => ?_) (fun v H locs ho hP hS => ?_)
  · subst ho
    replace h : (if k = 2 then some ((1 : Int32), M1) else none) = some (r, M') := h
    by_cases c2 : k = 2
    · subst c2
      replace h := sx_ifp h rfl
      refine vx_catch (own := RL) (name := "java/lang/IllegalStateException") (E := "java/lang/IllegalStateException") hown [] ⟨0, 8, 11, 15⟩ [] htab (fun z hz => absurd hz List.not_mem_nil) (by decide) (by decide) (hts _ tw_427) (va_Nw.use rfl (hT.2.2.2.1 (.castable "java/lang/IllegalStateException" "java/lang/IllegalStateException") (List.mem_of_getElem? (i := 2) rfl))) g1 g2 g3 ?_
      refine lv_astore_n (lv' := [(2, .ref q9), (0, .ref (sx_ad C 0 0)), (1, .ref (sx_ad C 30 0))]) hx hb dL_load_11 rfl hl (by decide) rfl (fun ls hl => ?_)
      refine lv_iconst (v := 1) hx hb dL_load_12 (by decide) ?_
      exact W.widen (by decide) (by decide) (sx_wret X hr hlocks hS hP h dL_load_13)
    replace h := sx_ifn h c2
    cases h
  · subst ho
    replace h : (if sx_in (0 : Int32) 1 then sx_bd (sx_setL M1 30 0 ((0 : Int32)).toNatClampNeg v.toInt64) fun M2 => some ((0 : Int32), M2) else none) = some (r, M') := h
    refine lv_i2l (v := v.toInt64) hx hb dL_load_6 rfl ?_
    refine sx_last X hG hP hS 30 0 1 (by decide) (fun _ _ => rfl) dL_load_7 h (fun M2 H locs h hP hS => ?_)
    refine lv_goto (tgt := 14) hx hb dL_load_8 (by decide) ?_
    refine lv_iconst (v := 0) hx hb dL_load_14 (by decide) ?_
    exact W.widen (by decide) (by decide) (sx_wret X hr hlocks hS hP h dL_load_15)
set_option maxRecDepth 100000 in
theorem ct_L_load (l : Launch) (hst : l.stackTraces = false) (C : sx_C) (hG : sx_G C) (M0 : sx_M) (r : Int32) (M' : sx_M) (h : fL_load M0 = some (r, M')) : Met l yL_load (.codeWith yL_load cL_load 3 (some .int) [(0, 8, 11, 15)] :: sx_T) ({ frames := 7, cells := 1, slots := 6, locals := 162 } : Room) (sx_PcT C M0 [.ref (sx_ad C 0 0), .ref (sx_ad C 30 0)]) (sx_Q C (some (.int r)) M') 1 6 (sx_A C) := by
  refine va_MetW (cc := cL_load) (maxL := 3) (ret := some .int) (by decide) rfl ?_
  intro p e s m args below meth c s₁ B hml hv
  obtain ⟨rfl, hz, hP, hK, hT⟩ := hv
  have hts0 := atoms_spec B.pre
  have htab := vx_table (x := yL_load) B (hts0 _ List.mem_cons_self)
  have hl := lv_entry ([.ref (sx_ad C 0 0), .ref (sx_ad C 30 0)]) (n := 3) (Nat.le_of_ble_eq_true rfl)
  rw [lg_entry_eq]
  generalize (lg_sl ([.ref (sx_ad C 0 0), .ref (sx_ad C 30 0)]) ++ List.replicate (3 - (lg_sl ([.ref (sx_ad C 0 0), .ref (sx_ad C 30 0)])).length) Slot.unset).toArray = ls at hl ⊢
  exact wk_L_load ⟨B.exec, B.bytes, hml, findClass_of_methodNamed B.named, fun w hw => hts0 w (List.mem_cons_of_mem _ hw), hK⟩ B.returns B.notSynchronized hG hz hT hst htab ⟨Nat.le_refl _, Nat.le_refl _⟩ ⟨Nat.le_refl _, Nat.le_refl _⟩ M0 r M' h hl hP va_S.rf
theorem clW_L_109 (X : sx_X C p m c cc nL s args RL) (hT : sx_thr C s) (hst : l.stackTraces = false) (hG : sx_G C) (hP : sx_W C M0 H) (hz : sx_sz C ≤ s.heap.size) (hS : va_S (sx_A C) s.heap H locs) {r : Int32} {M' : sx_M} (h : fL_load M0 = some (r, M')) (hsz : ls.size = nL) (hdg : decode cc pc = .ok (.invokestatic 109, 3)) (hcs : cells + 1 ≤ R.cells ∧ slots + 6 ≤ R.slots) (hR : 7 + 1 ≤ R.frames ∧ 8 + (3 + 11) + 162 ≤ R.locals) (hrest : (rest.map fun v => v.category).sum ≤ 8) (kk : ∀ (H1 : Heap) (locs1 : List Loc), sx_W C M' H1 → va_S (sx_A C) s.heap H1 locs1 → W p l e R s m args below meth c H1 locs1 (cells + 1) (slots + 6) Q (F0 m (pc + 3) ls (.int r :: rest))) : W p l e R s m args below meth c H locs cells slots Q (F0 m pc ls (.ref (sx_ad C 30 0) :: .ref (sx_ad C 0 0) :: rest)) :=
  sx_callSW (n := 2) (As := [.ref (sx_ad C 0 0), .ref (sx_ad C 30 0)]) X hT hP hz hS (sx_goodSW tw_524 tw_525 tw_63 tw_526) (by decide +kernel) rfl rfl hR (ct_L_load l hst C hG M0 r M' h) rfl rfl hrest hsz hdg hcs kk
-- StringShedLaw.about
def fL_about (a1 : Int32) (M0 : sx_M) : Option (Int32 × sx_M) :=
  sx_b2 (f7_about a1 M0) fun o M1 => o.elim (fun k => if k = 1 then some ((1 : Int32), M1) else none)
    (fun v => if sx_in (0 : Int32) 1 then sx_bd (sx_setL M1 30 0 ((0 : Int32)).toNatClampNeg v.toInt64) fun M2 => some ((0 : Int32), M2) else none)
set_option maxRecDepth 100000 in
set_option maxHeartbeats 4000000 in
theorem wk_L_about (X : sx_X C p m c cL_about 4 s args RL) (hr : meth.sig.returnType = some .int) (hlocks : meth.locks = false) (hG : sx_G C) (hz : sx_sz C ≤ s.heap.size) (hT : sx_thr C s) (hst : l.stackTraces = false) (htab : c.exceptionTable.toList = [⟨0, 9, 12, 13⟩]) (hcs : 1 ≤ R.cells ∧ 6 ≤ R.slots) (hR : 7 ≤ R.frames ∧ 103 ≤ R.locals) (a1 : Int32) (M0 : sx_M) (r : Int32) (M' : sx_M) (h : fL_about a1 M0 = some (r, M')) (hl : lv_has ls 4 [(0, .ref (sx_ad C 0 0)), (1, .int a1), (2, .ref (sx_ad C 30 0))]) (hP : sx_W C M0 H) (hS : va_S (sx_A C) s.heap H locs) : W p l e R s m args below meth c H locs 0 0 (MQ below (sx_Q C (some (.int r)) M') args s 1 6 (sx_A C)) (F0 m 0 ls []) := by
  obtain ⟨hx, hb, hml, hown, hts, hK⟩ := id X
  rw [fL_about] at h
  obtain ⟨o1, M1, e1, h⟩ := sx_bnd2 h
  refine lv_aload_n hx hb dL_about_0 rfl (lv_at hl 2 rfl) ?_
  refine lv_iconst (v := 0) hx hb dL_about_1 (by decide) ?_
  refine lv_aload_n hx hb dL_about_2 rfl (lv_at hl 0 rfl) ?_
  refine lv_iload_n hx hb dL_about_3 rfl (lv_at hl 1 rfl) ?_
  refine clT_L_21 X hT hst hG hP hz hS e1 hl.1 dL_about_4 ⟨Nat.le_trans (by decide) hcs.1, Nat.le_trans (by decide) hcs.2⟩ ⟨Nat.le_trans (by decide) hR.1, Nat.le_trans (by decide) hR.2⟩ (Nat.le_of_ble_eq_true rfl) (fun k ce q9 H locs ho hP hS g1 g2 g3 => ?_) (fun v H locs ho hP hS => ?_)
  · subst ho
    replace h : (if k = 1 then some ((1 : Int32), M1) else none) = some (r, M') := h
    by_cases c1 : k = 1
    · subst c1
      replace h := sx_ifp h rfl
      refine vx_catch (own := RL) (name := "java/lang/IllegalArgumentException") (E := "java/lang/IllegalArgumentException") hown [] ⟨0, 9, 12, 13⟩ [] htab (fun z hz => absurd hz List.not_mem_nil) (by decide) (by decide) (hts _ tw_426) (va_Nw.use rfl (hT.2.2.2.1 (.castable "java/lang/IllegalArgumentException" "java/lang/IllegalArgumentException") (List.mem_of_getElem? (i := 1) rfl))) g1 g2 g3 ?_
      refine lv_astore_n (lv' := [(3, .ref q9), (0, .ref (sx_ad C 0 0)), (1, .int a1), (2, .ref (sx_ad C 30 0))]) hx hb dL_about_12 rfl hl (by decide) rfl (fun ls hl => ?_)
      refine lv_iconst (v := 1) hx hb dL_about_13 (by decide) ?_
      exact W.widen (by decide) (by decide) (sx_wret X hr hlocks hS hP h dL_about_14)
    replace h := sx_ifn h c1
    cases h
  · subst ho
    replace h : (if sx_in (0 : Int32) 1 then sx_bd (sx_setL M1 30 0 ((0 : Int32)).toNatClampNeg v.toInt64) fun M2 => some ((0 : Int32), M2) else none) = some (r, M') := h
    refine lv_i2l (v := v.toInt64) hx hb dL_about_7 rfl ?_
    refine sx_last X hG hP hS 30 0 1 (by decide) (fun _ _ => rfl) dL_about_8 h (fun M2 H locs h hP hS => ?_)
    refine lv_goto (tgt := 15) hx hb dL_about_9 (by decide) ?_
    refine lv_iconst (v := 0) hx hb dL_about_15 (by decide) ?_
    exact W.widen (by decide) (by decide) (sx_wret X hr hlocks hS hP h dL_about_16)
set_option maxRecDepth 100000 in
theorem ct_L_about (l : Launch) (hst : l.stackTraces = false) (C : sx_C) (hG : sx_G C) (a1 : Int32) (M0 : sx_M) (r : Int32) (M' : sx_M) (h : fL_about a1 M0 = some (r, M')) : Met l yL_about (.codeWith yL_about cL_about 4 (some .int) [(0, 9, 12, 13)] :: sx_T) ({ frames := 7, cells := 1, slots := 6, locals := 103 } : Room) (sx_PcT C M0 [.ref (sx_ad C 0 0), .int a1, .ref (sx_ad C 30 0)]) (sx_Q C (some (.int r)) M') 1 6 (sx_A C) := by
  refine va_MetW (cc := cL_about) (maxL := 4) (ret := some .int) (by decide) rfl ?_
  intro p e s m args below meth c s₁ B hml hv
  obtain ⟨rfl, hz, hP, hK, hT⟩ := hv
  have hts0 := atoms_spec B.pre
  have htab := vx_table (x := yL_about) B (hts0 _ List.mem_cons_self)
  have hl := lv_entry ([.ref (sx_ad C 0 0), .int a1, .ref (sx_ad C 30 0)]) (n := 4) (Nat.le_of_ble_eq_true rfl)
  rw [lg_entry_eq]
  generalize (lg_sl ([.ref (sx_ad C 0 0), .int a1, .ref (sx_ad C 30 0)]) ++ List.replicate (4 - (lg_sl ([.ref (sx_ad C 0 0), .int a1, .ref (sx_ad C 30 0)])).length) Slot.unset).toArray = ls at hl ⊢
  exact wk_L_about ⟨B.exec, B.bytes, hml, findClass_of_methodNamed B.named, fun w hw => hts0 w (List.mem_cons_of_mem _ hw), hK⟩ B.returns B.notSynchronized hG hz hT hst htab ⟨Nat.le_refl _, Nat.le_refl _⟩ ⟨Nat.le_refl _, Nat.le_refl _⟩ a1 M0 r M' h hl hP va_S.rf
theorem clW_L_113 (X : sx_X C p m c cc nL s args RL) (hT : sx_thr C s) (hst : l.stackTraces = false) (hG : sx_G C) (hP : sx_W C M0 H) (hz : sx_sz C ≤ s.heap.size) (hS : va_S (sx_A C) s.heap H locs) {a1 : Int32} {r : Int32} {M' : sx_M} (h : fL_about a1 M0 = some (r, M')) (hsz : ls.size = nL) (hdg : decode cc pc = .ok (.invokestatic 113, 3)) (hcs : cells + 1 ≤ R.cells ∧ slots + 6 ≤ R.slots) (hR : 7 + 1 ≤ R.frames ∧ 8 + (4 + 11) + 103 ≤ R.locals) (hrest : (rest.map fun v => v.category).sum ≤ 8) (kk : ∀ (H1 : Heap) (locs1 : List Loc), sx_W C M' H1 → va_S (sx_A C) s.heap H1 locs1 → W p l e R s m args below meth c H1 locs1 (cells + 1) (slots + 6) Q (F0 m (pc + 3) ls (.int r :: rest))) : W p l e R s m args below meth c H locs cells slots Q (F0 m pc ls (.ref (sx_ad C 30 0) :: .int a1 :: .ref (sx_ad C 0 0) :: rest)) :=
  sx_callSW (n := 3) (As := [.ref (sx_ad C 0 0), .int a1, .ref (sx_ad C 30 0)]) X hT hP hz hS (sx_goodSW tw_656 tw_657 tw_63 tw_658) (by decide +kernel) rfl rfl hR (ct_L_about l hst C hG a1 M0 r M' h) rfl rfl hrest hsz hdg hcs kk
-- StringShedLaw.part
def fL_part (a1 : Int32) (a2 : Int32) (M0 : sx_M) : Option (Int32 × sx_M) :=
  sx_b2 (f7_part a1 a2 M0) fun o M1 => o.elim (fun k => if k = 0 then some ((1 : Int32), M1) else if k = 1 then some ((2 : Int32), M1) else none)
    (fun v => if sx_in (0 : Int32) 1 then sx_bd (sx_setL M1 30 0 ((0 : Int32)).toNatClampNeg v.toInt64) fun M2 => some ((0 : Int32), M2) else none)
set_option maxRecDepth 100000 in
set_option maxHeartbeats 4000000 in
theorem wk_L_part (X : sx_X C p m c cL_part 5 s args RL) (hr : meth.sig.returnType = some .int) (hlocks : meth.locks = false) (hG : sx_G C) (hz : sx_sz C ≤ s.heap.size) (hT : sx_thr C s) (hst : l.stackTraces = false) (htab : c.exceptionTable.toList = [⟨0, 10, 13, 28⟩, ⟨0, 10, 17, 13⟩]) (hcs : 2 ≤ R.cells ∧ 12 ≤ R.slots) (hR : 8 ≤ R.frames ∧ 124 ≤ R.locals) (a1 : Int32) (a2 : Int32) (M0 : sx_M) (r : Int32) (M' : sx_M) (h : fL_part a1 a2 M0 = some (r, M')) (hl : lv_has ls 5 [(0, .ref (sx_ad C 0 0)), (1, .int a1), (2, .int a2), (3, .ref (sx_ad C 30 0))]) (hP : sx_W C M0 H) (hS : va_S (sx_A C) s.heap H locs) : W p l e R s m args below meth c H locs 0 0 (MQ below (sx_Q C (some (.int r)) M') args s 2 12 (sx_A C)) (F0 m 0 ls []) := by
  obtain ⟨hx, hb, hml, hown, hts, hK⟩ := id X
  rw [fL_part] at h
  obtain ⟨o1, M1, e1, h⟩ := sx_bnd2 h
  refine lv_aload_n hx hb dL_part_0 rfl (lv_at hl 3 rfl) ?_
  refine lv_iconst (v := 0) hx hb dL_part_1 (by decide) ?_
  refine lv_aload_n hx hb dL_part_2 rfl (lv_at hl 0 rfl) ?_
  refine lv_iload_n hx hb dL_part_3 rfl (lv_at hl 1 rfl) ?_
  refine lv_iload_n hx hb dL_part_4 rfl (lv_at hl 2 rfl) ?_
  refine clT_L_24 X hT hst hG hP hz hS e1 hl.1 dL_part_5 ⟨Nat.le_trans (by decide) hcs.1, Nat.le_trans (by decide) hcs.2⟩ ⟨Nat.le_trans (by decide) hR.1, Nat.le_trans (by decide) hR.2⟩ (Nat.le_of_ble_eq_true rfl) (fun k ce q9 H locs ho hP hS g1 g2 g3 => ?_) (fun v H locs ho hP hS => ?_)
  · subst ho
    replace h : (if k = 0 then some ((1 : Int32), M1) else if k = 1 then some ((2 : Int32), M1) else none) = some (r, M') := h
    by_cases c0 : k = 0
    · subst c0
      replace h := sx_ifp h rfl
      refine vx_catch (own := RL) (name := "java/lang/IndexOutOfBoundsException") (E := "java/lang/IndexOutOfBoundsException") hown [] ⟨0, 10, 13, 28⟩ [⟨0, 10, 17, 13⟩] htab (fun z hz => absurd hz List.not_mem_nil) (by decide) (by decide) (hts _ tw_680) (va_Nw.use rfl (hT.2.2.2.1 (.castable "java/lang/IndexOutOfBoundsException" "java/lang/IndexOutOfBoundsException") (List.mem_of_getElem? (i := 0) rfl))) g1 g2 g3 ?_
      refine lv_astore (lv' := [(4, .ref q9), (0, .ref (sx_ad C 0 0)), (1, .int a1), (2, .int a2), (3, .ref (sx_ad C 30 0))]) hx hb dL_part_13 hl (by decide) rfl (fun ls hl => ?_)
      refine lv_iconst (v := 1) hx hb dL_part_15 (by decide) ?_
      exact W.widen (by decide) (by decide) (sx_wret X hr hlocks hS hP h dL_part_16)
    replace h := sx_ifn h c0
    by_cases c1 : k = 1
    · subst c1
      replace h := sx_ifp h rfl
      refine vx_catch (own := RL) (name := "java/lang/IllegalArgumentException") (E := "java/lang/IllegalArgumentException") hown [⟨0, 10, 13, 28⟩] ⟨0, 10, 17, 13⟩ [] htab (fun z hz => by
        simp only [List.mem_cons, List.not_mem_nil, or_false] at hz
        rcases hz with rfl
        · exact Or.inr ⟨by decide, "java/lang/IndexOutOfBoundsException", hts _ tw_680, hT.2.2.2.2 ("java/lang/IllegalArgumentException", "java/lang/IndexOutOfBoundsException") (by decide)⟩) (by decide) (by decide) (hts _ tw_426) (va_Nw.use rfl (hT.2.2.2.1 (.castable "java/lang/IllegalArgumentException" "java/lang/IllegalArgumentException") (List.mem_of_getElem? (i := 1) rfl))) g1 g2 g3 ?_
      refine lv_astore (lv' := [(4, .ref q9), (0, .ref (sx_ad C 0 0)), (1, .int a1), (2, .int a2), (3, .ref (sx_ad C 30 0))]) hx hb dL_part_17 hl (by decide) rfl (fun ls hl => ?_)
      refine lv_iconst (v := 2) hx hb dL_part_19 (by decide) ?_
      exact W.widen (by decide) (by decide) (sx_wret X hr hlocks hS hP h dL_part_20)
    replace h := sx_ifn h c1
    cases h
  · subst ho
    replace h : (if sx_in (0 : Int32) 1 then sx_bd (sx_setL M1 30 0 ((0 : Int32)).toNatClampNeg v.toInt64) fun M2 => some ((0 : Int32), M2) else none) = some (r, M') := h
    refine lv_i2l (v := v.toInt64) hx hb dL_part_8 rfl ?_
    refine sx_last X hG hP hS 30 0 1 (by decide) (fun _ _ => rfl) dL_part_9 h (fun M2 H locs h hP hS => ?_)
    refine lv_goto (tgt := 21) hx hb dL_part_10 (by decide) ?_
    refine lv_iconst (v := 0) hx hb dL_part_21 (by decide) ?_
    exact W.widen (by decide) (by decide) (sx_wret X hr hlocks hS hP h dL_part_22)
set_option maxRecDepth 100000 in
theorem ct_L_part (l : Launch) (hst : l.stackTraces = false) (C : sx_C) (hG : sx_G C) (a1 : Int32) (a2 : Int32) (M0 : sx_M) (r : Int32) (M' : sx_M) (h : fL_part a1 a2 M0 = some (r, M')) : Met l yL_part (.codeWith yL_part cL_part 5 (some .int) [(0, 10, 13, 28), (0, 10, 17, 13)] :: sx_T) ({ frames := 8, cells := 2, slots := 12, locals := 124 } : Room) (sx_PcT C M0 [.ref (sx_ad C 0 0), .int a1, .int a2, .ref (sx_ad C 30 0)]) (sx_Q C (some (.int r)) M') 2 12 (sx_A C) := by
  refine va_MetW (cc := cL_part) (maxL := 5) (ret := some .int) (by decide) rfl ?_
  intro p e s m args below meth c s₁ B hml hv
  obtain ⟨rfl, hz, hP, hK, hT⟩ := hv
  have hts0 := atoms_spec B.pre
  have htab := vx_table (x := yL_part) B (hts0 _ List.mem_cons_self)
  have hl := lv_entry ([.ref (sx_ad C 0 0), .int a1, .int a2, .ref (sx_ad C 30 0)]) (n := 5) (Nat.le_of_ble_eq_true rfl)
  rw [lg_entry_eq]
  generalize (lg_sl ([.ref (sx_ad C 0 0), .int a1, .int a2, .ref (sx_ad C 30 0)]) ++ List.replicate (5 - (lg_sl ([.ref (sx_ad C 0 0), .int a1, .int a2, .ref (sx_ad C 30 0)])).length) Slot.unset).toArray = ls at hl ⊢
  exact wk_L_part ⟨B.exec, B.bytes, hml, findClass_of_methodNamed B.named, fun w hw => hts0 w (List.mem_cons_of_mem _ hw), hK⟩ B.returns B.notSynchronized hG hz hT hst htab ⟨Nat.le_refl _, Nat.le_refl _⟩ ⟨Nat.le_refl _, Nat.le_refl _⟩ a1 a2 M0 r M' h hl hP va_S.rf
theorem clW_L_116 (X : sx_X C p m c cc nL s args RL) (hT : sx_thr C s) (hst : l.stackTraces = false) (hG : sx_G C) (hP : sx_W C M0 H) (hz : sx_sz C ≤ s.heap.size) (hS : va_S (sx_A C) s.heap H locs) {a1 : Int32} {a2 : Int32} {r : Int32} {M' : sx_M} (h : fL_part a1 a2 M0 = some (r, M')) (hsz : ls.size = nL) (hdg : decode cc pc = .ok (.invokestatic 116, 3)) (hcs : cells + 2 ≤ R.cells ∧ slots + 12 ≤ R.slots) (hR : 8 + 1 ≤ R.frames ∧ 8 + (5 + 11) + 124 ≤ R.locals) (hrest : (rest.map fun v => v.category).sum ≤ 8) (kk : ∀ (H1 : Heap) (locs1 : List Loc), sx_W C M' H1 → va_S (sx_A C) s.heap H1 locs1 → W p l e R s m args below meth c H1 locs1 (cells + 2) (slots + 12) Q (F0 m (pc + 3) ls (.int r :: rest))) : W p l e R s m args below meth c H locs cells slots Q (F0 m pc ls (.ref (sx_ad C 30 0) :: .int a2 :: .int a1 :: .ref (sx_ad C 0 0) :: rest)) :=
  sx_callSW (n := 4) (As := [.ref (sx_ad C 0 0), .int a1, .int a2, .ref (sx_ad C 30 0)]) X hT hP hz hS (sx_goodSW tw_677 tw_678 tw_63 tw_679) (by decide +kernel) rfl rfl hR (ct_L_part l hst C hG a1 a2 M0 r M' h) rfl rfl hrest hsz hdg hcs kk
-- StringShedLaw.string
def fL_string (a1 : Int32) (a2 : Int32) (M0 : sx_M) : Option (Int32 × sx_M) :=
  sx_b2 (f7_string a1 a2 M0) fun o M1 => o.elim (fun k => if k = 0 then some ((1 : Int32), M1) else none)
    (fun v => if sx_in (0 : Int32) 1 then sx_bd (sx_setL M1 30 0 ((0 : Int32)).toNatClampNeg v.toInt64) fun M2 => some ((0 : Int32), M2) else none)
set_option maxRecDepth 100000 in
set_option maxHeartbeats 4000000 in
theorem wk_L_string (X : sx_X C p m c cL_string 5 s args RL) (hr : meth.sig.returnType = some .int) (hlocks : meth.locks = false) (hG : sx_G C) (hz : sx_sz C ≤ s.heap.size) (hT : sx_thr C s) (hst : l.stackTraces = false) (htab : c.exceptionTable.toList = [⟨0, 10, 13, 28⟩]) (hcs : 1 ≤ R.cells ∧ 6 ≤ R.slots) (hR : 8 ≤ R.frames ∧ 124 ≤ R.locals) (a1 : Int32) (a2 : Int32) (M0 : sx_M) (r : Int32) (M' : sx_M) (h : fL_string a1 a2 M0 = some (r, M')) (hl : lv_has ls 5 [(0, .ref (sx_ad C 0 0)), (1, .int a1), (2, .int a2), (3, .ref (sx_ad C 30 0))]) (hP : sx_W C M0 H) (hS : va_S (sx_A C) s.heap H locs) : W p l e R s m args below meth c H locs 0 0 (MQ below (sx_Q C (some (.int r)) M') args s 1 6 (sx_A C)) (F0 m 0 ls []) := by
  obtain ⟨hx, hb, hml, hown, hts, hK⟩ := id X
  rw [fL_string] at h
  obtain ⟨o1, M1, e1, h⟩ := sx_bnd2 h
  refine lv_aload_n hx hb dL_string_0 rfl (lv_at hl 3 rfl) ?_
  refine lv_iconst (v := 0) hx hb dL_string_1 (by decide) ?_
  refine lv_aload_n hx hb dL_string_2 rfl (lv_at hl 0 rfl) ?_
  refine lv_iload_n hx hb dL_string_3 rfl (lv_at hl 1 rfl) ?_
  refine lv_iload_n hx hb dL_string_4 rfl (lv_at hl 2 rfl) ?_
  refine clT_L_30 X hT hst hG hP hz hS e1 hl.1 dL_string_5 ⟨Nat.le_trans (by decide) hcs.1, Nat.le_trans (by decide) hcs.2⟩ ⟨Nat.le_trans (by decide) hR.1, Nat.le_trans (by decide) hR.2⟩ (Nat.le_of_ble_eq_true rfl) (fun k ce q9 H locs ho hP hS g1 g2 g3 => ?_) (fun v H locs ho hP hS => ?_)
  · subst ho
    replace h : (if k = 0 then some ((1 : Int32), M1) else none) = some (r, M') := h
    by_cases c0 : k = 0
    · subst c0
      replace h := sx_ifp h rfl
      refine vx_catch (own := RL) (name := "java/lang/IndexOutOfBoundsException") (E := "java/lang/IndexOutOfBoundsException") hown [] ⟨0, 10, 13, 28⟩ [] htab (fun z hz => absurd hz List.not_mem_nil) (by decide) (by decide) (hts _ tw_680) (va_Nw.use rfl (hT.2.2.2.1 (.castable "java/lang/IndexOutOfBoundsException" "java/lang/IndexOutOfBoundsException") (List.mem_of_getElem? (i := 0) rfl))) g1 g2 g3 ?_
      refine lv_astore (lv' := [(4, .ref q9), (0, .ref (sx_ad C 0 0)), (1, .int a1), (2, .int a2), (3, .ref (sx_ad C 30 0))]) hx hb dL_string_13 hl (by decide) rfl (fun ls hl => ?_)
      refine lv_iconst (v := 1) hx hb dL_string_15 (by decide) ?_
      exact W.widen (by decide) (by decide) (sx_wret X hr hlocks hS hP h dL_string_16)
    replace h := sx_ifn h c0
    cases h
  · subst ho
    replace h : (if sx_in (0 : Int32) 1 then sx_bd (sx_setL M1 30 0 ((0 : Int32)).toNatClampNeg v.toInt64) fun M2 => some ((0 : Int32), M2) else none) = some (r, M') := h
    refine lv_i2l (v := v.toInt64) hx hb dL_string_8 rfl ?_
    refine sx_last X hG hP hS 30 0 1 (by decide) (fun _ _ => rfl) dL_string_9 h (fun M2 H locs h hP hS => ?_)
    refine lv_goto (tgt := 17) hx hb dL_string_10 (by decide) ?_
    refine lv_iconst (v := 0) hx hb dL_string_17 (by decide) ?_
    exact W.widen (by decide) (by decide) (sx_wret X hr hlocks hS hP h dL_string_18)
set_option maxRecDepth 100000 in
theorem ct_L_string (l : Launch) (hst : l.stackTraces = false) (C : sx_C) (hG : sx_G C) (a1 : Int32) (a2 : Int32) (M0 : sx_M) (r : Int32) (M' : sx_M) (h : fL_string a1 a2 M0 = some (r, M')) : Met l yL_string (.codeWith yL_string cL_string 5 (some .int) [(0, 10, 13, 28)] :: sx_T) ({ frames := 8, cells := 1, slots := 6, locals := 124 } : Room) (sx_PcT C M0 [.ref (sx_ad C 0 0), .int a1, .int a2, .ref (sx_ad C 30 0)]) (sx_Q C (some (.int r)) M') 1 6 (sx_A C) := by
  refine va_MetW (cc := cL_string) (maxL := 5) (ret := some .int) (by decide) rfl ?_
  intro p e s m args below meth c s₁ B hml hv
  obtain ⟨rfl, hz, hP, hK, hT⟩ := hv
  have hts0 := atoms_spec B.pre
  have htab := vx_table (x := yL_string) B (hts0 _ List.mem_cons_self)
  have hl := lv_entry ([.ref (sx_ad C 0 0), .int a1, .int a2, .ref (sx_ad C 30 0)]) (n := 5) (Nat.le_of_ble_eq_true rfl)
  rw [lg_entry_eq]
  generalize (lg_sl ([.ref (sx_ad C 0 0), .int a1, .int a2, .ref (sx_ad C 30 0)]) ++ List.replicate (5 - (lg_sl ([.ref (sx_ad C 0 0), .int a1, .int a2, .ref (sx_ad C 30 0)])).length) Slot.unset).toArray = ls at hl ⊢
  exact wk_L_string ⟨B.exec, B.bytes, hml, findClass_of_methodNamed B.named, fun w hw => hts0 w (List.mem_cons_of_mem _ hw), hK⟩ B.returns B.notSynchronized hG hz hT hst htab ⟨Nat.le_refl _, Nat.le_refl _⟩ ⟨Nat.le_refl _, Nat.le_refl _⟩ a1 a2 M0 r M' h hl hP va_S.rf
theorem clW_L_120 (X : sx_X C p m c cc nL s args RL) (hT : sx_thr C s) (hst : l.stackTraces = false) (hG : sx_G C) (hP : sx_W C M0 H) (hz : sx_sz C ≤ s.heap.size) (hS : va_S (sx_A C) s.heap H locs) {a1 : Int32} {a2 : Int32} {r : Int32} {M' : sx_M} (h : fL_string a1 a2 M0 = some (r, M')) (hsz : ls.size = nL) (hdg : decode cc pc = .ok (.invokestatic 120, 3)) (hcs : cells + 1 ≤ R.cells ∧ slots + 6 ≤ R.slots) (hR : 8 + 1 ≤ R.frames ∧ 8 + (5 + 11) + 124 ≤ R.locals) (hrest : (rest.map fun v => v.category).sum ≤ 8) (kk : ∀ (H1 : Heap) (locs1 : List Loc), sx_W C M' H1 → va_S (sx_A C) s.heap H1 locs1 → W p l e R s m args below meth c H1 locs1 (cells + 1) (slots + 6) Q (F0 m (pc + 3) ls (.int r :: rest))) : W p l e R s m args below meth c H locs cells slots Q (F0 m pc ls (.ref (sx_ad C 30 0) :: .int a2 :: .int a1 :: .ref (sx_ad C 0 0) :: rest)) :=
  sx_callSW (n := 4) (As := [.ref (sx_ad C 0 0), .int a1, .int a2, .ref (sx_ad C 30 0)]) X hT hP hz hS (sx_goodSW tw_733 tw_734 tw_63 tw_735) (by decide +kernel) rfl rfl hR (ct_L_string l hst C hG a1 a2 M0 r M' h) rfl rfl hrest hsz hdg hcs kk
-- StringShedLaw.stringAt
def fL_stringAt (a1 : Int32) (M0 : sx_M) : Option (Int32 × sx_M) :=
  sx_b2 (f7_stringAt a1 M0) fun o M1 => o.elim (fun k => if k = 1 then some ((1 : Int32), M1) else none)
    (fun v => if sx_in (0 : Int32) 1 then sx_bd (sx_setL M1 30 0 ((0 : Int32)).toNatClampNeg v.toInt64) fun M2 => some ((0 : Int32), M2) else none)
set_option maxRecDepth 100000 in
set_option maxHeartbeats 4000000 in
theorem wk_L_stringAt (X : sx_X C p m c cL_stringAt 4 s args RL) (hr : meth.sig.returnType = some .int) (hlocks : meth.locks = false) (hG : sx_G C) (hz : sx_sz C ≤ s.heap.size) (hT : sx_thr C s) (hst : l.stackTraces = false) (htab : c.exceptionTable.toList = [⟨0, 9, 12, 13⟩]) (hcs : 1 ≤ R.cells ∧ 6 ≤ R.slots) (hR : 7 ≤ R.frames ∧ 103 ≤ R.locals) (a1 : Int32) (M0 : sx_M) (r : Int32) (M' : sx_M) (h : fL_stringAt a1 M0 = some (r, M')) (hl : lv_has ls 4 [(0, .ref (sx_ad C 0 0)), (1, .int a1), (2, .ref (sx_ad C 30 0))]) (hP : sx_W C M0 H) (hS : va_S (sx_A C) s.heap H locs) : W p l e R s m args below meth c H locs 0 0 (MQ below (sx_Q C (some (.int r)) M') args s 1 6 (sx_A C)) (F0 m 0 ls []) := by
  obtain ⟨hx, hb, hml, hown, hts, hK⟩ := id X
  rw [fL_stringAt] at h
  obtain ⟨o1, M1, e1, h⟩ := sx_bnd2 h
  refine lv_aload_n hx hb dL_stringAt_0 rfl (lv_at hl 2 rfl) ?_
  refine lv_iconst (v := 0) hx hb dL_stringAt_1 (by decide) ?_
  refine lv_aload_n hx hb dL_stringAt_2 rfl (lv_at hl 0 rfl) ?_
  refine lv_iload_n hx hb dL_stringAt_3 rfl (lv_at hl 1 rfl) ?_
  refine clT_L_33 X hT hst hG hP hz hS e1 hl.1 dL_stringAt_4 ⟨Nat.le_trans (by decide) hcs.1, Nat.le_trans (by decide) hcs.2⟩ ⟨Nat.le_trans (by decide) hR.1, Nat.le_trans (by decide) hR.2⟩ (Nat.le_of_ble_eq_true rfl) (fun k ce q9 H locs ho hP hS g1 g2 g3 => ?_) (fun v H locs ho hP hS => ?_)
  · subst ho
    replace h : (if k = 1 then some ((1 : Int32), M1) else none) = some (r, M') := h
    by_cases c1 : k = 1
    · subst c1
      replace h := sx_ifp h rfl
      refine vx_catch (own := RL) (name := "java/lang/IllegalArgumentException") (E := "java/lang/IllegalArgumentException") hown [] ⟨0, 9, 12, 13⟩ [] htab (fun z hz => absurd hz List.not_mem_nil) (by decide) (by decide) (hts _ tw_426) (va_Nw.use rfl (hT.2.2.2.1 (.castable "java/lang/IllegalArgumentException" "java/lang/IllegalArgumentException") (List.mem_of_getElem? (i := 1) rfl))) g1 g2 g3 ?_
      refine lv_astore_n (lv' := [(3, .ref q9), (0, .ref (sx_ad C 0 0)), (1, .int a1), (2, .ref (sx_ad C 30 0))]) hx hb dL_stringAt_12 rfl hl (by decide) rfl (fun ls hl => ?_)
      refine lv_iconst (v := 1) hx hb dL_stringAt_13 (by decide) ?_
      exact W.widen (by decide) (by decide) (sx_wret X hr hlocks hS hP h dL_stringAt_14)
    replace h := sx_ifn h c1
    cases h
  · subst ho
    replace h : (if sx_in (0 : Int32) 1 then sx_bd (sx_setL M1 30 0 ((0 : Int32)).toNatClampNeg v.toInt64) fun M2 => some ((0 : Int32), M2) else none) = some (r, M') := h
    refine lv_i2l (v := v.toInt64) hx hb dL_stringAt_7 rfl ?_
    refine sx_last X hG hP hS 30 0 1 (by decide) (fun _ _ => rfl) dL_stringAt_8 h (fun M2 H locs h hP hS => ?_)
    refine lv_goto (tgt := 15) hx hb dL_stringAt_9 (by decide) ?_
    refine lv_iconst (v := 0) hx hb dL_stringAt_15 (by decide) ?_
    exact W.widen (by decide) (by decide) (sx_wret X hr hlocks hS hP h dL_stringAt_16)
set_option maxRecDepth 100000 in
theorem ct_L_stringAt (l : Launch) (hst : l.stackTraces = false) (C : sx_C) (hG : sx_G C) (a1 : Int32) (M0 : sx_M) (r : Int32) (M' : sx_M) (h : fL_stringAt a1 M0 = some (r, M')) : Met l yL_stringAt (.codeWith yL_stringAt cL_stringAt 4 (some .int) [(0, 9, 12, 13)] :: sx_T) ({ frames := 7, cells := 1, slots := 6, locals := 103 } : Room) (sx_PcT C M0 [.ref (sx_ad C 0 0), .int a1, .ref (sx_ad C 30 0)]) (sx_Q C (some (.int r)) M') 1 6 (sx_A C) := by
  refine va_MetW (cc := cL_stringAt) (maxL := 4) (ret := some .int) (by decide) rfl ?_
  intro p e s m args below meth c s₁ B hml hv
  obtain ⟨rfl, hz, hP, hK, hT⟩ := hv
  have hts0 := atoms_spec B.pre
  have htab := vx_table (x := yL_stringAt) B (hts0 _ List.mem_cons_self)
  have hl := lv_entry ([.ref (sx_ad C 0 0), .int a1, .ref (sx_ad C 30 0)]) (n := 4) (Nat.le_of_ble_eq_true rfl)
  rw [lg_entry_eq]
  generalize (lg_sl ([.ref (sx_ad C 0 0), .int a1, .ref (sx_ad C 30 0)]) ++ List.replicate (4 - (lg_sl ([.ref (sx_ad C 0 0), .int a1, .ref (sx_ad C 30 0)])).length) Slot.unset).toArray = ls at hl ⊢
  exact wk_L_stringAt ⟨B.exec, B.bytes, hml, findClass_of_methodNamed B.named, fun w hw => hts0 w (List.mem_cons_of_mem _ hw), hK⟩ B.returns B.notSynchronized hG hz hT hst htab ⟨Nat.le_refl _, Nat.le_refl _⟩ ⟨Nat.le_refl _, Nat.le_refl _⟩ a1 M0 r M' h hl hP va_S.rf
theorem clW_L_123 (X : sx_X C p m c cc nL s args RL) (hT : sx_thr C s) (hst : l.stackTraces = false) (hG : sx_G C) (hP : sx_W C M0 H) (hz : sx_sz C ≤ s.heap.size) (hS : va_S (sx_A C) s.heap H locs) {a1 : Int32} {r : Int32} {M' : sx_M} (h : fL_stringAt a1 M0 = some (r, M')) (hsz : ls.size = nL) (hdg : decode cc pc = .ok (.invokestatic 123, 3)) (hcs : cells + 1 ≤ R.cells ∧ slots + 6 ≤ R.slots) (hR : 7 + 1 ≤ R.frames ∧ 8 + (4 + 11) + 103 ≤ R.locals) (hrest : (rest.map fun v => v.category).sum ≤ 8) (kk : ∀ (H1 : Heap) (locs1 : List Loc), sx_W C M' H1 → va_S (sx_A C) s.heap H1 locs1 → W p l e R s m args below meth c H1 locs1 (cells + 1) (slots + 6) Q (F0 m (pc + 3) ls (.int r :: rest))) : W p l e R s m args below meth c H locs cells slots Q (F0 m pc ls (.ref (sx_ad C 30 0) :: .int a1 :: .ref (sx_ad C 0 0) :: rest)) :=
  sx_callSW (n := 3) (As := [.ref (sx_ad C 0 0), .int a1, .ref (sx_ad C 30 0)]) X hT hP hz hS (sx_goodSW tw_746 tw_747 tw_63 tw_748) (by decide +kernel) rfl rfl hR (ct_L_stringAt l hst C hG a1 M0 r M' h) rfl rfl hrest hsz hdg hcs kk
-- StringShedLaw.make
def fL_make (a1 : Int32) (M0 : sx_M) : Option (Int32 × sx_M) :=
  sx_b2 (f7_make a1 M0) fun o M1 => o.elim (fun k => if k = 1 then some ((1 : Int32), M1) else if k = 2 then some ((2 : Int32), M1) else none)
    (fun v => if sx_in (0 : Int32) 1 then sx_bd (sx_setL M1 30 0 ((0 : Int32)).toNatClampNeg v.toInt64) fun M2 => some ((0 : Int32), M2) else none)
set_option maxRecDepth 100000 in
set_option maxHeartbeats 4000000 in
theorem wk_L_make (X : sx_X C p m c cL_make 4 s args RL) (hr : meth.sig.returnType = some .int) (hlocks : meth.locks = false) (hG : sx_G C) (hz : sx_sz C ≤ s.heap.size) (hT : sx_thr C s) (hst : l.stackTraces = false) (htab : c.exceptionTable.toList = [⟨0, 9, 12, 13⟩, ⟨0, 9, 15, 15⟩]) (hcs : 1 ≤ R.cells ∧ 6 ≤ R.slots) (hR : 9 ≤ R.frames ∧ 147 ≤ R.locals) (a1 : Int32) (M0 : sx_M) (r : Int32) (M' : sx_M) (h : fL_make a1 M0 = some (r, M')) (hl : lv_has ls 4 [(0, .ref (sx_ad C 0 0)), (1, .int a1), (2, .ref (sx_ad C 30 0))]) (hP : sx_W C M0 H) (hS : va_S (sx_A C) s.heap H locs) : W p l e R s m args below meth c H locs 0 0 (MQ below (sx_Q C (some (.int r)) M') args s 1 6 (sx_A C)) (F0 m 0 ls []) := by
  obtain ⟨hx, hb, hml, hown, hts, hK⟩ := id X
  rw [fL_make] at h
  obtain ⟨o1, M1, e1, h⟩ := sx_bnd2 h
  refine lv_aload_n hx hb dL_make_0 rfl (lv_at hl 2 rfl) ?_
  refine lv_iconst (v := 0) hx hb dL_make_1 (by decide) ?_
  refine lv_aload_n hx hb dL_make_2 rfl (lv_at hl 0 rfl) ?_
  refine lv_iload_n hx hb dL_make_3 rfl (lv_at hl 1 rfl) ?_
  refine clT_L_36 X hT hst hG hP hz hS e1 hl.1 dL_make_4 ⟨Nat.le_trans (by decide) hcs.1, Nat.le_trans (by decide) hcs.2⟩ ⟨Nat.le_trans (by decide) hR.1, Nat.le_trans (by decide) hR.2⟩ (Nat.le_of_ble_eq_true rfl) (fun k ce q9 H locs ho hP hS g1 g2 g3 => ?_) (fun v H locs ho hP hS => ?_)
  · subst ho
    replace h : (if k = 1 then some ((1 : Int32), M1) else if k = 2 then some ((2 : Int32), M1) else none) = some (r, M') := h
    by_cases c1 : k = 1
    · subst c1
      replace h := sx_ifp h rfl
      refine vx_catch (own := RL) (name := "java/lang/IllegalArgumentException") (E := "java/lang/IllegalArgumentException") hown [] ⟨0, 9, 12, 13⟩ [⟨0, 9, 15, 15⟩] htab (fun z hz => absurd hz List.not_mem_nil) (by decide) (by decide) (hts _ tw_426) (va_Nw.use rfl (hT.2.2.2.1 (.castable "java/lang/IllegalArgumentException" "java/lang/IllegalArgumentException") (List.mem_of_getElem? (i := 1) rfl))) g1 g2 g3 ?_
      refine lv_astore_n (lv' := [(3, .ref q9), (0, .ref (sx_ad C 0 0)), (1, .int a1), (2, .ref (sx_ad C 30 0))]) hx hb dL_make_12 rfl hl (by decide) rfl (fun ls hl => ?_)
      refine lv_iconst (v := 1) hx hb dL_make_13 (by decide) ?_
      exact W.widen (by decide) (by decide) (sx_wret X hr hlocks hS hP h dL_make_14)
    replace h := sx_ifn h c1
    by_cases c2 : k = 2
    · subst c2
      replace h := sx_ifp h rfl
      refine vx_catch (own := RL) (name := "java/lang/IllegalStateException") (E := "java/lang/IllegalStateException") hown [⟨0, 9, 12, 13⟩] ⟨0, 9, 15, 15⟩ [] htab (fun z hz => by
        simp only [List.mem_cons, List.not_mem_nil, or_false] at hz
        rcases hz with rfl
        · exact Or.inr ⟨by decide, "java/lang/IllegalArgumentException", hts _ tw_426, hT.2.2.2.2 ("java/lang/IllegalStateException", "java/lang/IllegalArgumentException") (by decide)⟩) (by decide) (by decide) (hts _ tw_427) (va_Nw.use rfl (hT.2.2.2.1 (.castable "java/lang/IllegalStateException" "java/lang/IllegalStateException") (List.mem_of_getElem? (i := 2) rfl))) g1 g2 g3 ?_
      refine lv_astore_n (lv' := [(3, .ref q9), (0, .ref (sx_ad C 0 0)), (1, .int a1), (2, .ref (sx_ad C 30 0))]) hx hb dL_make_15 rfl hl (by decide) rfl (fun ls hl => ?_)
      refine lv_iconst (v := 2) hx hb dL_make_16 (by decide) ?_
      exact W.widen (by decide) (by decide) (sx_wret X hr hlocks hS hP h dL_make_17)
    replace h := sx_ifn h c2
    cases h
  · subst ho
    replace h : (if sx_in (0 : Int32) 1 then sx_bd (sx_setL M1 30 0 ((0 : Int32)).toNatClampNeg v.toInt64) fun M2 => some ((0 : Int32), M2) else none) = some (r, M') := h
    refine lv_i2l (v := v.toInt64) hx hb dL_make_7 rfl ?_
    refine sx_last X hG hP hS 30 0 1 (by decide) (fun _ _ => rfl) dL_make_8 h (fun M2 H locs h hP hS => ?_)
    refine lv_goto (tgt := 18) hx hb dL_make_9 (by decide) ?_
    refine lv_iconst (v := 0) hx hb dL_make_18 (by decide) ?_
    exact W.widen (by decide) (by decide) (sx_wret X hr hlocks hS hP h dL_make_19)
set_option maxRecDepth 100000 in
theorem ct_L_make (l : Launch) (hst : l.stackTraces = false) (C : sx_C) (hG : sx_G C) (a1 : Int32) (M0 : sx_M) (r : Int32) (M' : sx_M) (h : fL_make a1 M0 = some (r, M')) : Met l yL_make (.codeWith yL_make cL_make 4 (some .int) [(0, 9, 12, 13), (0, 9, 15, 15)] :: sx_T) ({ frames := 9, cells := 1, slots := 6, locals := 147 } : Room) (sx_PcT C M0 [.ref (sx_ad C 0 0), .int a1, .ref (sx_ad C 30 0)]) (sx_Q C (some (.int r)) M') 1 6 (sx_A C) := by
  refine va_MetW (cc := cL_make) (maxL := 4) (ret := some .int) (by decide) rfl ?_
  intro p e s m args below meth c s₁ B hml hv
  obtain ⟨rfl, hz, hP, hK, hT⟩ := hv
  have hts0 := atoms_spec B.pre
  have htab := vx_table (x := yL_make) B (hts0 _ List.mem_cons_self)
  have hl := lv_entry ([.ref (sx_ad C 0 0), .int a1, .ref (sx_ad C 30 0)]) (n := 4) (Nat.le_of_ble_eq_true rfl)
  rw [lg_entry_eq]
  generalize (lg_sl ([.ref (sx_ad C 0 0), .int a1, .ref (sx_ad C 30 0)]) ++ List.replicate (4 - (lg_sl ([.ref (sx_ad C 0 0), .int a1, .ref (sx_ad C 30 0)])).length) Slot.unset).toArray = ls at hl ⊢
  exact wk_L_make ⟨B.exec, B.bytes, hml, findClass_of_methodNamed B.named, fun w hw => hts0 w (List.mem_cons_of_mem _ hw), hK⟩ B.returns B.notSynchronized hG hz hT hst htab ⟨Nat.le_refl _, Nat.le_refl _⟩ ⟨Nat.le_refl _, Nat.le_refl _⟩ a1 M0 r M' h hl hP va_S.rf
theorem clW_L_126 (X : sx_X C p m c cc nL s args RL) (hT : sx_thr C s) (hst : l.stackTraces = false) (hG : sx_G C) (hP : sx_W C M0 H) (hz : sx_sz C ≤ s.heap.size) (hS : va_S (sx_A C) s.heap H locs) {a1 : Int32} {r : Int32} {M' : sx_M} (h : fL_make a1 M0 = some (r, M')) (hsz : ls.size = nL) (hdg : decode cc pc = .ok (.invokestatic 126, 3)) (hcs : cells + 1 ≤ R.cells ∧ slots + 6 ≤ R.slots) (hR : 9 + 1 ≤ R.frames ∧ 8 + (4 + 11) + 147 ≤ R.locals) (hrest : (rest.map fun v => v.category).sum ≤ 8) (kk : ∀ (H1 : Heap) (locs1 : List Loc), sx_W C M' H1 → va_S (sx_A C) s.heap H1 locs1 → W p l e R s m args below meth c H1 locs1 (cells + 1) (slots + 6) Q (F0 m (pc + 3) ls (.int r :: rest))) : W p l e R s m args below meth c H locs cells slots Q (F0 m pc ls (.ref (sx_ad C 30 0) :: .int a1 :: .ref (sx_ad C 0 0) :: rest)) :=
  sx_callSW (n := 3) (As := [.ref (sx_ad C 0 0), .int a1, .ref (sx_ad C 30 0)]) X hT hP hz hS (sx_goodSW tw_754 tw_755 tw_63 tw_756) (by decide +kernel) rfl rfl hR (ct_L_make l hst C hG a1 M0 r M' h) rfl rfl hrest hsz hdg hcs kk
-- StringShedLaw.tie
def fL_tie (a1 : Int32) (a2 : Int32) (a3 : Int32) (M0 : sx_M) : Option (Int32 × sx_M) :=
  sx_b2 (f7_tie a1 a2 a3 M0) fun o M1 => o.elim (fun k => if k = 0 then some ((1 : Int32), M1) else if k = 1 then some ((2 : Int32), M1) else if k = 2 then some ((3 : Int32), M1) else none)
    (fun v => if sx_in (0 : Int32) 1 then sx_bd (sx_setL M1 30 0 ((0 : Int32)).toNatClampNeg v.toInt64) fun M2 => some ((0 : Int32), M2) else none)
set_option maxRecDepth 100000 in
set_option maxHeartbeats 4000000 in
theorem wk_L_tie (X : sx_X C p m c cL_tie 6 s args RL) (hr : meth.sig.returnType = some .int) (hlocks : meth.locks = false) (hG : sx_G C) (hz : sx_sz C ≤ s.heap.size) (hT : sx_thr C s) (hst : l.stackTraces = false) (htab : c.exceptionTable.toList = [⟨0, 12, 15, 28⟩, ⟨0, 12, 19, 13⟩, ⟨0, 12, 23, 15⟩]) (hcs : 1 ≤ R.cells ∧ 6 ≤ R.slots) (hR : 9 ≤ R.frames ∧ 149 ≤ R.locals) (a1 : Int32) (a2 : Int32) (a3 : Int32) (M0 : sx_M) (r : Int32) (M' : sx_M) (h : fL_tie a1 a2 a3 M0 = some (r, M')) (hl : lv_has ls 6 [(0, .ref (sx_ad C 0 0)), (1, .int a1), (2, .int a2), (3, .int a3), (4, .ref (sx_ad C 30 0))]) (hP : sx_W C M0 H) (hS : va_S (sx_A C) s.heap H locs) : W p l e R s m args below meth c H locs 0 0 (MQ below (sx_Q C (some (.int r)) M') args s 1 6 (sx_A C)) (F0 m 0 ls []) := by
  obtain ⟨hx, hb, hml, hown, hts, hK⟩ := id X
  rw [fL_tie] at h
  obtain ⟨o1, M1, e1, h⟩ := sx_bnd2 h
  refine lv_aload hx hb dL_tie_0 (lv_at hl 4 rfl) ?_
  refine lv_iconst (v := 0) hx hb dL_tie_2 (by decide) ?_
  refine lv_aload_n hx hb dL_tie_3 rfl (lv_at hl 0 rfl) ?_
  refine lv_iload_n hx hb dL_tie_4 rfl (lv_at hl 1 rfl) ?_
  refine lv_iload_n hx hb dL_tie_5 rfl (lv_at hl 2 rfl) ?_
  refine lv_iload_n hx hb dL_tie_6 rfl (lv_at hl 3 rfl) ?_
  refine clT_L_39 X hT hst hG hP hz hS e1 hl.1 dL_tie_7 ⟨Nat.le_trans (by decide) hcs.1, Nat.le_trans (by decide) hcs.2⟩ ⟨Nat.le_trans (by decide) hR.1, Nat.le_trans (by decide) hR.2⟩ (Nat.le_of_ble_eq_true rfl) (fun k ce q9 H locs ho hP hS g1 g2 g3 => ?_) (fun v H locs ho hP hS => ?_)
  · subst ho
    replace h : (if k = 0 then some ((1 : Int32), M1) else if k = 1 then some ((2 : Int32), M1) else if k = 2 then some ((3 : Int32), M1) else none) = some (r, M') := h
    by_cases c0 : k = 0
    · subst c0
      replace h := sx_ifp h rfl
      refine vx_catch (own := RL) (name := "java/lang/IndexOutOfBoundsException") (E := "java/lang/IndexOutOfBoundsException") hown [] ⟨0, 12, 15, 28⟩ [⟨0, 12, 19, 13⟩, ⟨0, 12, 23, 15⟩] htab (fun z hz => absurd hz List.not_mem_nil) (by decide) (by decide) (hts _ tw_680) (va_Nw.use rfl (hT.2.2.2.1 (.castable "java/lang/IndexOutOfBoundsException" "java/lang/IndexOutOfBoundsException") (List.mem_of_getElem? (i := 0) rfl))) g1 g2 g3 ?_
      refine lv_astore (lv' := [(5, .ref q9), (0, .ref (sx_ad C 0 0)), (1, .int a1), (2, .int a2), (3, .int a3), (4, .ref (sx_ad C 30 0))]) hx hb dL_tie_15 hl (by decide) rfl (fun ls hl => ?_)
      refine lv_iconst (v := 1) hx hb dL_tie_17 (by decide) ?_
      exact W.widen (by decide) (by decide) (sx_wret X hr hlocks hS hP h dL_tie_18)
    replace h := sx_ifn h c0
    by_cases c1 : k = 1
    · subst c1
      replace h := sx_ifp h rfl
      refine vx_catch (own := RL) (name := "java/lang/IllegalArgumentException") (E := "java/lang/IllegalArgumentException") hown [⟨0, 12, 15, 28⟩] ⟨0, 12, 19, 13⟩ [⟨0, 12, 23, 15⟩] htab (fun z hz => by
        simp only [List.mem_cons, List.not_mem_nil, or_false] at hz
        rcases hz with rfl
        · exact Or.inr ⟨by decide, "java/lang/IndexOutOfBoundsException", hts _ tw_680, hT.2.2.2.2 ("java/lang/IllegalArgumentException", "java/lang/IndexOutOfBoundsException") (by decide)⟩) (by decide) (by decide) (hts _ tw_426) (va_Nw.use rfl (hT.2.2.2.1 (.castable "java/lang/IllegalArgumentException" "java/lang/IllegalArgumentException") (List.mem_of_getElem? (i := 1) rfl))) g1 g2 g3 ?_
      refine lv_astore (lv' := [(5, .ref q9), (0, .ref (sx_ad C 0 0)), (1, .int a1), (2, .int a2), (3, .int a3), (4, .ref (sx_ad C 30 0))]) hx hb dL_tie_19 hl (by decide) rfl (fun ls hl => ?_)
      refine lv_iconst (v := 2) hx hb dL_tie_21 (by decide) ?_
      exact W.widen (by decide) (by decide) (sx_wret X hr hlocks hS hP h dL_tie_22)
    replace h := sx_ifn h c1
    by_cases c2 : k = 2
    · subst c2
      replace h := sx_ifp h rfl
      refine vx_catch (own := RL) (name := "java/lang/IllegalStateException") (E := "java/lang/IllegalStateException") hown [⟨0, 12, 15, 28⟩, ⟨0, 12, 19, 13⟩] ⟨0, 12, 23, 15⟩ [] htab (fun z hz => by
        simp only [List.mem_cons, List.not_mem_nil, or_false] at hz
        rcases hz with rfl | rfl
        · exact Or.inr ⟨by decide, "java/lang/IndexOutOfBoundsException", hts _ tw_680, hT.2.2.2.2 ("java/lang/IllegalStateException", "java/lang/IndexOutOfBoundsException") (by decide)⟩
        · exact Or.inr ⟨by decide, "java/lang/IllegalArgumentException", hts _ tw_426, hT.2.2.2.2 ("java/lang/IllegalStateException", "java/lang/IllegalArgumentException") (by decide)⟩) (by decide) (by decide) (hts _ tw_427) (va_Nw.use rfl (hT.2.2.2.1 (.castable "java/lang/IllegalStateException" "java/lang/IllegalStateException") (List.mem_of_getElem? (i := 2) rfl))) g1 g2 g3 ?_
      refine lv_astore (lv' := [(5, .ref q9), (0, .ref (sx_ad C 0 0)), (1, .int a1), (2, .int a2), (3, .int a3), (4, .ref (sx_ad C 30 0))]) hx hb dL_tie_23 hl (by decide) rfl (fun ls hl => ?_)
      refine lv_iconst (v := 3) hx hb dL_tie_25 (by decide) ?_
      exact W.widen (by decide) (by decide) (sx_wret X hr hlocks hS hP h dL_tie_26)
    replace h := sx_ifn h c2
    cases h
  · subst ho
    replace h : (if sx_in (0 : Int32) 1 then sx_bd (sx_setL M1 30 0 ((0 : Int32)).toNatClampNeg v.toInt64) fun M2 => some ((0 : Int32), M2) else none) = some (r, M') := h
    refine lv_i2l (v := v.toInt64) hx hb dL_tie_10 rfl ?_
    refine sx_last X hG hP hS 30 0 1 (by decide) (fun _ _ => rfl) dL_tie_11 h (fun M2 H locs h hP hS => ?_)
    refine lv_goto (tgt := 27) hx hb dL_tie_12 (by decide) ?_
    refine lv_iconst (v := 0) hx hb dL_tie_27 (by decide) ?_
    exact W.widen (by decide) (by decide) (sx_wret X hr hlocks hS hP h dL_tie_28)
set_option maxRecDepth 100000 in
theorem ct_L_tie (l : Launch) (hst : l.stackTraces = false) (C : sx_C) (hG : sx_G C) (a1 : Int32) (a2 : Int32) (a3 : Int32) (M0 : sx_M) (r : Int32) (M' : sx_M) (h : fL_tie a1 a2 a3 M0 = some (r, M')) : Met l yL_tie (.codeWith yL_tie cL_tie 6 (some .int) [(0, 12, 15, 28), (0, 12, 19, 13), (0, 12, 23, 15)] :: sx_T) ({ frames := 9, cells := 1, slots := 6, locals := 149 } : Room) (sx_PcT C M0 [.ref (sx_ad C 0 0), .int a1, .int a2, .int a3, .ref (sx_ad C 30 0)]) (sx_Q C (some (.int r)) M') 1 6 (sx_A C) := by
  refine va_MetW (cc := cL_tie) (maxL := 6) (ret := some .int) (by decide) rfl ?_
  intro p e s m args below meth c s₁ B hml hv
  obtain ⟨rfl, hz, hP, hK, hT⟩ := hv
  have hts0 := atoms_spec B.pre
  have htab := vx_table (x := yL_tie) B (hts0 _ List.mem_cons_self)
  have hl := lv_entry ([.ref (sx_ad C 0 0), .int a1, .int a2, .int a3, .ref (sx_ad C 30 0)]) (n := 6) (Nat.le_of_ble_eq_true rfl)
  rw [lg_entry_eq]
  generalize (lg_sl ([.ref (sx_ad C 0 0), .int a1, .int a2, .int a3, .ref (sx_ad C 30 0)]) ++ List.replicate (6 - (lg_sl ([.ref (sx_ad C 0 0), .int a1, .int a2, .int a3, .ref (sx_ad C 30 0)])).length) Slot.unset).toArray = ls at hl ⊢
  exact wk_L_tie ⟨B.exec, B.bytes, hml, findClass_of_methodNamed B.named, fun w hw => hts0 w (List.mem_cons_of_mem _ hw), hK⟩ B.returns B.notSynchronized hG hz hT hst htab ⟨Nat.le_refl _, Nat.le_refl _⟩ ⟨Nat.le_refl _, Nat.le_refl _⟩ a1 a2 a3 M0 r M' h hl hP va_S.rf
theorem clW_L_129 (X : sx_X C p m c cc nL s args RL) (hT : sx_thr C s) (hst : l.stackTraces = false) (hG : sx_G C) (hP : sx_W C M0 H) (hz : sx_sz C ≤ s.heap.size) (hS : va_S (sx_A C) s.heap H locs) {a1 : Int32} {a2 : Int32} {a3 : Int32} {r : Int32} {M' : sx_M} (h : fL_tie a1 a2 a3 M0 = some (r, M')) (hsz : ls.size = nL) (hdg : decode cc pc = .ok (.invokestatic 129, 3)) (hcs : cells + 1 ≤ R.cells ∧ slots + 6 ≤ R.slots) (hR : 9 + 1 ≤ R.frames ∧ 8 + (6 + 11) + 149 ≤ R.locals) (hrest : (rest.map fun v => v.category).sum ≤ 8) (kk : ∀ (H1 : Heap) (locs1 : List Loc), sx_W C M' H1 → va_S (sx_A C) s.heap H1 locs1 → W p l e R s m args below meth c H1 locs1 (cells + 1) (slots + 6) Q (F0 m (pc + 3) ls (.int r :: rest))) : W p l e R s m args below meth c H locs cells slots Q (F0 m pc ls (.ref (sx_ad C 30 0) :: .int a3 :: .int a2 :: .int a1 :: .ref (sx_ad C 0 0) :: rest)) :=
  sx_callSW (n := 5) (As := [.ref (sx_ad C 0 0), .int a1, .int a2, .int a3, .ref (sx_ad C 30 0)]) X hT hP hz hS (sx_goodSW tw_779 tw_780 tw_63 tw_781) (by decide +kernel) rfl rfl hR (ct_L_tie l hst C hG a1 a2 a3 M0 r M' h) rfl rfl hrest hsz hdg hcs kk
-- StringShedLaw.cut
def fL_cut (a1 : Int32) (a2 : Int32) (M0 : sx_M) : Option (Int32 × sx_M) :=
  sx_b2 (f7_cut a1 a2 M0) fun o M1 => o.elim (fun k => if k = 0 then some ((1 : Int32), M1) else none)
    (fun v => if sx_in (0 : Int32) 1 then sx_bd (sx_setL M1 30 0 ((0 : Int32)).toNatClampNeg v.toInt64) fun M2 => some ((0 : Int32), M2) else none)
set_option maxRecDepth 100000 in
set_option maxHeartbeats 4000000 in
theorem wk_L_cut (X : sx_X C p m c cL_cut 5 s args RL) (hr : meth.sig.returnType = some .int) (hlocks : meth.locks = false) (hG : sx_G C) (hz : sx_sz C ≤ s.heap.size) (hT : sx_thr C s) (hst : l.stackTraces = false) (htab : c.exceptionTable.toList = [⟨0, 10, 13, 28⟩]) (hcs : 1 ≤ R.cells ∧ 6 ≤ R.slots) (hR : 9 ≤ R.frames ∧ 148 ≤ R.locals) (a1 : Int32) (a2 : Int32) (M0 : sx_M) (r : Int32) (M' : sx_M) (h : fL_cut a1 a2 M0 = some (r, M')) (hl : lv_has ls 5 [(0, .ref (sx_ad C 0 0)), (1, .int a1), (2, .int a2), (3, .ref (sx_ad C 30 0))]) (hP : sx_W C M0 H) (hS : va_S (sx_A C) s.heap H locs) : W p l e R s m args below meth c H locs 0 0 (MQ below (sx_Q C (some (.int r)) M') args s 1 6 (sx_A C)) (F0 m 0 ls []) := by
  obtain ⟨hx, hb, hml, hown, hts, hK⟩ := id X
  rw [fL_cut] at h
  obtain ⟨o1, M1, e1, h⟩ := sx_bnd2 h
  refine lv_aload_n hx hb dL_cut_0 rfl (lv_at hl 3 rfl) ?_
  refine lv_iconst (v := 0) hx hb dL_cut_1 (by decide) ?_
  refine lv_aload_n hx hb dL_cut_2 rfl (lv_at hl 0 rfl) ?_
  refine lv_iload_n hx hb dL_cut_3 rfl (lv_at hl 1 rfl) ?_
  refine lv_iload_n hx hb dL_cut_4 rfl (lv_at hl 2 rfl) ?_
  refine clT_L_43 X hT hst hG hP hz hS e1 hl.1 dL_cut_5 ⟨Nat.le_trans (by decide) hcs.1, Nat.le_trans (by decide) hcs.2⟩ ⟨Nat.le_trans (by decide) hR.1, Nat.le_trans (by decide) hR.2⟩ (Nat.le_of_ble_eq_true rfl) (fun k ce q9 H locs ho hP hS g1 g2 g3 => ?_) (fun v H locs ho hP hS => ?_)
  · subst ho
    replace h : (if k = 0 then some ((1 : Int32), M1) else none) = some (r, M') := h
    by_cases c0 : k = 0
    · subst c0
      replace h := sx_ifp h rfl
      refine vx_catch (own := RL) (name := "java/lang/IndexOutOfBoundsException") (E := "java/lang/IndexOutOfBoundsException") hown [] ⟨0, 10, 13, 28⟩ [] htab (fun z hz => absurd hz List.not_mem_nil) (by decide) (by decide) (hts _ tw_680) (va_Nw.use rfl (hT.2.2.2.1 (.castable "java/lang/IndexOutOfBoundsException" "java/lang/IndexOutOfBoundsException") (List.mem_of_getElem? (i := 0) rfl))) g1 g2 g3 ?_
      refine lv_astore (lv' := [(4, .ref q9), (0, .ref (sx_ad C 0 0)), (1, .int a1), (2, .int a2), (3, .ref (sx_ad C 30 0))]) hx hb dL_cut_13 hl (by decide) rfl (fun ls hl => ?_)
      refine lv_iconst (v := 1) hx hb dL_cut_15 (by decide) ?_
      exact W.widen (by decide) (by decide) (sx_wret X hr hlocks hS hP h dL_cut_16)
    replace h := sx_ifn h c0
    cases h
  · subst ho
    replace h : (if sx_in (0 : Int32) 1 then sx_bd (sx_setL M1 30 0 ((0 : Int32)).toNatClampNeg v.toInt64) fun M2 => some ((0 : Int32), M2) else none) = some (r, M') := h
    refine lv_i2l (v := v.toInt64) hx hb dL_cut_8 rfl ?_
    refine sx_last X hG hP hS 30 0 1 (by decide) (fun _ _ => rfl) dL_cut_9 h (fun M2 H locs h hP hS => ?_)
    refine lv_goto (tgt := 17) hx hb dL_cut_10 (by decide) ?_
    refine lv_iconst (v := 0) hx hb dL_cut_17 (by decide) ?_
    exact W.widen (by decide) (by decide) (sx_wret X hr hlocks hS hP h dL_cut_18)
set_option maxRecDepth 100000 in
theorem ct_L_cut (l : Launch) (hst : l.stackTraces = false) (C : sx_C) (hG : sx_G C) (a1 : Int32) (a2 : Int32) (M0 : sx_M) (r : Int32) (M' : sx_M) (h : fL_cut a1 a2 M0 = some (r, M')) : Met l yL_cut (.codeWith yL_cut cL_cut 5 (some .int) [(0, 10, 13, 28)] :: sx_T) ({ frames := 9, cells := 1, slots := 6, locals := 148 } : Room) (sx_PcT C M0 [.ref (sx_ad C 0 0), .int a1, .int a2, .ref (sx_ad C 30 0)]) (sx_Q C (some (.int r)) M') 1 6 (sx_A C) := by
  refine va_MetW (cc := cL_cut) (maxL := 5) (ret := some .int) (by decide) rfl ?_
  intro p e s m args below meth c s₁ B hml hv
  obtain ⟨rfl, hz, hP, hK, hT⟩ := hv
  have hts0 := atoms_spec B.pre
  have htab := vx_table (x := yL_cut) B (hts0 _ List.mem_cons_self)
  have hl := lv_entry ([.ref (sx_ad C 0 0), .int a1, .int a2, .ref (sx_ad C 30 0)]) (n := 5) (Nat.le_of_ble_eq_true rfl)
  rw [lg_entry_eq]
  generalize (lg_sl ([.ref (sx_ad C 0 0), .int a1, .int a2, .ref (sx_ad C 30 0)]) ++ List.replicate (5 - (lg_sl ([.ref (sx_ad C 0 0), .int a1, .int a2, .ref (sx_ad C 30 0)])).length) Slot.unset).toArray = ls at hl ⊢
  exact wk_L_cut ⟨B.exec, B.bytes, hml, findClass_of_methodNamed B.named, fun w hw => hts0 w (List.mem_cons_of_mem _ hw), hK⟩ B.returns B.notSynchronized hG hz hT hst htab ⟨Nat.le_refl _, Nat.le_refl _⟩ ⟨Nat.le_refl _, Nat.le_refl _⟩ a1 a2 M0 r M' h hl hP va_S.rf
theorem clW_L_133 (X : sx_X C p m c cc nL s args RL) (hT : sx_thr C s) (hst : l.stackTraces = false) (hG : sx_G C) (hP : sx_W C M0 H) (hz : sx_sz C ≤ s.heap.size) (hS : va_S (sx_A C) s.heap H locs) {a1 : Int32} {a2 : Int32} {r : Int32} {M' : sx_M} (h : fL_cut a1 a2 M0 = some (r, M')) (hsz : ls.size = nL) (hdg : decode cc pc = .ok (.invokestatic 133, 3)) (hcs : cells + 1 ≤ R.cells ∧ slots + 6 ≤ R.slots) (hR : 9 + 1 ≤ R.frames ∧ 8 + (5 + 11) + 148 ≤ R.locals) (hrest : (rest.map fun v => v.category).sum ≤ 8) (kk : ∀ (H1 : Heap) (locs1 : List Loc), sx_W C M' H1 → va_S (sx_A C) s.heap H1 locs1 → W p l e R s m args below meth c H1 locs1 (cells + 1) (slots + 6) Q (F0 m (pc + 3) ls (.int r :: rest))) : W p l e R s m args below meth c H locs cells slots Q (F0 m pc ls (.ref (sx_ad C 30 0) :: .int a2 :: .int a1 :: .ref (sx_ad C 0 0) :: rest)) :=
  sx_callSW (n := 4) (As := [.ref (sx_ad C 0 0), .int a1, .int a2, .ref (sx_ad C 30 0)]) X hT hP hz hS (sx_goodSW tw_786 tw_787 tw_63 tw_788) (by decide +kernel) rfl rfl hR (ct_L_cut l hst C hG a1 a2 M0 r M' h) rfl rfl hrest hsz hdg hcs kk
-- StringShedLaw.fray
def fL_fray (a1 : Int32) (a2 : Int32) (M0 : sx_M) : Option (Int32 × sx_M) :=
  sx_b2 (f7_fray a1 a2 M0) fun o M1 => o.elim (fun k => if k = 0 then some ((1 : Int32), M1) else if k = 2 then some ((2 : Int32), M1) else none)
    (fun v => if sx_in (0 : Int32) 1 then sx_bd (sx_setL M1 30 0 ((0 : Int32)).toNatClampNeg v.toInt64) fun M2 => some ((0 : Int32), M2) else none)
set_option maxRecDepth 100000 in
set_option maxHeartbeats 4000000 in
theorem wk_L_fray (X : sx_X C p m c cL_fray 5 s args RL) (hr : meth.sig.returnType = some .int) (hlocks : meth.locks = false) (hG : sx_G C) (hz : sx_sz C ≤ s.heap.size) (hT : sx_thr C s) (hst : l.stackTraces = false) (htab : c.exceptionTable.toList = [⟨0, 10, 13, 28⟩, ⟨0, 10, 17, 15⟩]) (hcs : 1 ≤ R.cells ∧ 6 ≤ R.slots) (hR : 9 ≤ R.frames ∧ 148 ≤ R.locals) (a1 : Int32) (a2 : Int32) (M0 : sx_M) (r : Int32) (M' : sx_M) (h : fL_fray a1 a2 M0 = some (r, M')) (hl : lv_has ls 5 [(0, .ref (sx_ad C 0 0)), (1, .int a1), (2, .int a2), (3, .ref (sx_ad C 30 0))]) (hP : sx_W C M0 H) (hS : va_S (sx_A C) s.heap H locs) : W p l e R s m args below meth c H locs 0 0 (MQ below (sx_Q C (some (.int r)) M') args s 1 6 (sx_A C)) (F0 m 0 ls []) := by
  obtain ⟨hx, hb, hml, hown, hts, hK⟩ := id X
  rw [fL_fray] at h
  obtain ⟨o1, M1, e1, h⟩ := sx_bnd2 h
  refine lv_aload_n hx hb dL_fray_0 rfl (lv_at hl 3 rfl) ?_
  refine lv_iconst (v := 0) hx hb dL_fray_1 (by decide) ?_
  refine lv_aload_n hx hb dL_fray_2 rfl (lv_at hl 0 rfl) ?_
  refine lv_iload_n hx hb dL_fray_3 rfl (lv_at hl 1 rfl) ?_
  refine lv_iload_n hx hb dL_fray_4 rfl (lv_at hl 2 rfl) ?_
  refine clT_L_46 X hT hst hG hP hz hS e1 hl.1 dL_fray_5 ⟨Nat.le_trans (by decide) hcs.1, Nat.le_trans (by decide) hcs.2⟩ ⟨Nat.le_trans (by decide) hR.1, Nat.le_trans (by decide) hR.2⟩ (Nat.le_of_ble_eq_true rfl) (fun k ce q9 H locs ho hP hS g1 g2 g3 => ?_) (fun v H locs ho hP hS => ?_)
  · subst ho
    replace h : (if k = 0 then some ((1 : Int32), M1) else if k = 2 then some ((2 : Int32), M1) else none) = some (r, M') := h
    by_cases c0 : k = 0
    · subst c0
      replace h := sx_ifp h rfl
      refine vx_catch (own := RL) (name := "java/lang/IndexOutOfBoundsException") (E := "java/lang/IndexOutOfBoundsException") hown [] ⟨0, 10, 13, 28⟩ [⟨0, 10, 17, 15⟩] htab (fun z hz => absurd hz List.not_mem_nil) (by decide) (by decide) (hts _ tw_680) (va_Nw.use rfl (hT.2.2.2.1 (.castable "java/lang/IndexOutOfBoundsException" "java/lang/IndexOutOfBoundsException") (List.mem_of_getElem? (i := 0) rfl))) g1 g2 g3 ?_
      refine lv_astore (lv' := [(4, .ref q9), (0, .ref (sx_ad C 0 0)), (1, .int a1), (2, .int a2), (3, .ref (sx_ad C 30 0))]) hx hb dL_fray_13 hl (by decide) rfl (fun ls hl => ?_)
      refine lv_iconst (v := 1) hx hb dL_fray_15 (by decide) ?_
      exact W.widen (by decide) (by decide) (sx_wret X hr hlocks hS hP h dL_fray_16)
    replace h := sx_ifn h c0
    by_cases c2 : k = 2
    · subst c2
      replace h := sx_ifp h rfl
      refine vx_catch (own := RL) (name := "java/lang/IllegalStateException") (E := "java/lang/IllegalStateException") hown [⟨0, 10, 13, 28⟩] ⟨0, 10, 17, 15⟩ [] htab (fun z hz => by
        simp only [List.mem_cons, List.not_mem_nil, or_false] at hz
        rcases hz with rfl
        · exact Or.inr ⟨by decide, "java/lang/IndexOutOfBoundsException", hts _ tw_680, hT.2.2.2.2 ("java/lang/IllegalStateException", "java/lang/IndexOutOfBoundsException") (by decide)⟩) (by decide) (by decide) (hts _ tw_427) (va_Nw.use rfl (hT.2.2.2.1 (.castable "java/lang/IllegalStateException" "java/lang/IllegalStateException") (List.mem_of_getElem? (i := 2) rfl))) g1 g2 g3 ?_
      refine lv_astore (lv' := [(4, .ref q9), (0, .ref (sx_ad C 0 0)), (1, .int a1), (2, .int a2), (3, .ref (sx_ad C 30 0))]) hx hb dL_fray_17 hl (by decide) rfl (fun ls hl => ?_)
      refine lv_iconst (v := 2) hx hb dL_fray_19 (by decide) ?_
      exact W.widen (by decide) (by decide) (sx_wret X hr hlocks hS hP h dL_fray_20)
    replace h := sx_ifn h c2
    cases h
  · subst ho
    replace h : (if sx_in (0 : Int32) 1 then sx_bd (sx_setL M1 30 0 ((0 : Int32)).toNatClampNeg v.toInt64) fun M2 => some ((0 : Int32), M2) else none) = some (r, M') := h
    refine lv_i2l (v := v.toInt64) hx hb dL_fray_8 rfl ?_
    refine sx_last X hG hP hS 30 0 1 (by decide) (fun _ _ => rfl) dL_fray_9 h (fun M2 H locs h hP hS => ?_)
    refine lv_goto (tgt := 21) hx hb dL_fray_10 (by decide) ?_
    refine lv_iconst (v := 0) hx hb dL_fray_21 (by decide) ?_
    exact W.widen (by decide) (by decide) (sx_wret X hr hlocks hS hP h dL_fray_22)
set_option maxRecDepth 100000 in
theorem ct_L_fray (l : Launch) (hst : l.stackTraces = false) (C : sx_C) (hG : sx_G C) (a1 : Int32) (a2 : Int32) (M0 : sx_M) (r : Int32) (M' : sx_M) (h : fL_fray a1 a2 M0 = some (r, M')) : Met l yL_fray (.codeWith yL_fray cL_fray 5 (some .int) [(0, 10, 13, 28), (0, 10, 17, 15)] :: sx_T) ({ frames := 9, cells := 1, slots := 6, locals := 148 } : Room) (sx_PcT C M0 [.ref (sx_ad C 0 0), .int a1, .int a2, .ref (sx_ad C 30 0)]) (sx_Q C (some (.int r)) M') 1 6 (sx_A C) := by
  refine va_MetW (cc := cL_fray) (maxL := 5) (ret := some .int) (by decide) rfl ?_
  intro p e s m args below meth c s₁ B hml hv
  obtain ⟨rfl, hz, hP, hK, hT⟩ := hv
  have hts0 := atoms_spec B.pre
  have htab := vx_table (x := yL_fray) B (hts0 _ List.mem_cons_self)
  have hl := lv_entry ([.ref (sx_ad C 0 0), .int a1, .int a2, .ref (sx_ad C 30 0)]) (n := 5) (Nat.le_of_ble_eq_true rfl)
  rw [lg_entry_eq]
  generalize (lg_sl ([.ref (sx_ad C 0 0), .int a1, .int a2, .ref (sx_ad C 30 0)]) ++ List.replicate (5 - (lg_sl ([.ref (sx_ad C 0 0), .int a1, .int a2, .ref (sx_ad C 30 0)])).length) Slot.unset).toArray = ls at hl ⊢
  exact wk_L_fray ⟨B.exec, B.bytes, hml, findClass_of_methodNamed B.named, fun w hw => hts0 w (List.mem_cons_of_mem _ hw), hK⟩ B.returns B.notSynchronized hG hz hT hst htab ⟨Nat.le_refl _, Nat.le_refl _⟩ ⟨Nat.le_refl _, Nat.le_refl _⟩ a1 a2 M0 r M' h hl hP va_S.rf
theorem clW_L_136 (X : sx_X C p m c cc nL s args RL) (hT : sx_thr C s) (hst : l.stackTraces = false) (hG : sx_G C) (hP : sx_W C M0 H) (hz : sx_sz C ≤ s.heap.size) (hS : va_S (sx_A C) s.heap H locs) {a1 : Int32} {a2 : Int32} {r : Int32} {M' : sx_M} (h : fL_fray a1 a2 M0 = some (r, M')) (hsz : ls.size = nL) (hdg : decode cc pc = .ok (.invokestatic 136, 3)) (hcs : cells + 1 ≤ R.cells ∧ slots + 6 ≤ R.slots) (hR : 9 + 1 ≤ R.frames ∧ 8 + (5 + 11) + 148 ≤ R.locals) (hrest : (rest.map fun v => v.category).sum ≤ 8) (kk : ∀ (H1 : Heap) (locs1 : List Loc), sx_W C M' H1 → va_S (sx_A C) s.heap H1 locs1 → W p l e R s m args below meth c H1 locs1 (cells + 1) (slots + 6) Q (F0 m (pc + 3) ls (.int r :: rest))) : W p l e R s m args below meth c H locs cells slots Q (F0 m pc ls (.ref (sx_ad C 30 0) :: .int a2 :: .int a1 :: .ref (sx_ad C 0 0) :: rest)) :=
  sx_callSW (n := 4) (As := [.ref (sx_ad C 0 0), .int a1, .int a2, .ref (sx_ad C 30 0)]) X hT hP hz hS (sx_goodSW tw_793 tw_794 tw_63 tw_795) (by decide +kernel) rfl rfl hR (ct_L_fray l hst C hG a1 a2 M0 r M' h) rfl rfl hrest hsz hdg hcs kk
-- StringShedLaw.mend
def fL_mend (a1 : Int32) (a2 : Int32) (M0 : sx_M) : Option (Int32 × sx_M) :=
  sx_b2 (f7_mend a1 a2 M0) fun o M1 => o.elim (fun k => if k = 0 then some ((1 : Int32), M1) else if k = 2 then some ((2 : Int32), M1) else none)
    (fun v => if sx_in (0 : Int32) 1 then sx_bd (sx_setL M1 30 0 ((0 : Int32)).toNatClampNeg v.toInt64) fun M2 => some ((0 : Int32), M2) else none)
set_option maxRecDepth 100000 in
set_option maxHeartbeats 4000000 in
theorem wk_L_mend (X : sx_X C p m c cL_mend 5 s args RL) (hr : meth.sig.returnType = some .int) (hlocks : meth.locks = false) (hG : sx_G C) (hz : sx_sz C ≤ s.heap.size) (hT : sx_thr C s) (hst : l.stackTraces = false) (htab : c.exceptionTable.toList = [⟨0, 10, 13, 28⟩, ⟨0, 10, 17, 15⟩]) (hcs : 1 ≤ R.cells ∧ 6 ≤ R.slots) (hR : 9 ≤ R.frames ∧ 148 ≤ R.locals) (a1 : Int32) (a2 : Int32) (M0 : sx_M) (r : Int32) (M' : sx_M) (h : fL_mend a1 a2 M0 = some (r, M')) (hl : lv_has ls 5 [(0, .ref (sx_ad C 0 0)), (1, .int a1), (2, .int a2), (3, .ref (sx_ad C 30 0))]) (hP : sx_W C M0 H) (hS : va_S (sx_A C) s.heap H locs) : W p l e R s m args below meth c H locs 0 0 (MQ below (sx_Q C (some (.int r)) M') args s 1 6 (sx_A C)) (F0 m 0 ls []) := by
  obtain ⟨hx, hb, hml, hown, hts, hK⟩ := id X
  rw [fL_mend] at h
  obtain ⟨o1, M1, e1, h⟩ := sx_bnd2 h
  refine lv_aload_n hx hb dL_mend_0 rfl (lv_at hl 3 rfl) ?_
  refine lv_iconst (v := 0) hx hb dL_mend_1 (by decide) ?_
  refine lv_aload_n hx hb dL_mend_2 rfl (lv_at hl 0 rfl) ?_
  refine lv_iload_n hx hb dL_mend_3 rfl (lv_at hl 1 rfl) ?_
  refine lv_iload_n hx hb dL_mend_4 rfl (lv_at hl 2 rfl) ?_
  refine clT_L_49 X hT hst hG hP hz hS e1 hl.1 dL_mend_5 ⟨Nat.le_trans (by decide) hcs.1, Nat.le_trans (by decide) hcs.2⟩ ⟨Nat.le_trans (by decide) hR.1, Nat.le_trans (by decide) hR.2⟩ (Nat.le_of_ble_eq_true rfl) (fun k ce q9 H locs ho hP hS g1 g2 g3 => ?_) (fun v H locs ho hP hS => ?_)
  · subst ho
    replace h : (if k = 0 then some ((1 : Int32), M1) else if k = 2 then some ((2 : Int32), M1) else none) = some (r, M') := h
    by_cases c0 : k = 0
    · subst c0
      replace h := sx_ifp h rfl
      refine vx_catch (own := RL) (name := "java/lang/IndexOutOfBoundsException") (E := "java/lang/IndexOutOfBoundsException") hown [] ⟨0, 10, 13, 28⟩ [⟨0, 10, 17, 15⟩] htab (fun z hz => absurd hz List.not_mem_nil) (by decide) (by decide) (hts _ tw_680) (va_Nw.use rfl (hT.2.2.2.1 (.castable "java/lang/IndexOutOfBoundsException" "java/lang/IndexOutOfBoundsException") (List.mem_of_getElem? (i := 0) rfl))) g1 g2 g3 ?_
      refine lv_astore (lv' := [(4, .ref q9), (0, .ref (sx_ad C 0 0)), (1, .int a1), (2, .int a2), (3, .ref (sx_ad C 30 0))]) hx hb dL_mend_13 hl (by decide) rfl (fun ls hl => ?_)
      refine lv_iconst (v := 1) hx hb dL_mend_15 (by decide) ?_
      exact W.widen (by decide) (by decide) (sx_wret X hr hlocks hS hP h dL_mend_16)
    replace h := sx_ifn h c0
    by_cases c2 : k = 2
    · subst c2
      replace h := sx_ifp h rfl
      refine vx_catch (own := RL) (name := "java/lang/IllegalStateException") (E := "java/lang/IllegalStateException") hown [⟨0, 10, 13, 28⟩] ⟨0, 10, 17, 15⟩ [] htab (fun z hz => by
        simp only [List.mem_cons, List.not_mem_nil, or_false] at hz
        rcases hz with rfl
        · exact Or.inr ⟨by decide, "java/lang/IndexOutOfBoundsException", hts _ tw_680, hT.2.2.2.2 ("java/lang/IllegalStateException", "java/lang/IndexOutOfBoundsException") (by decide)⟩) (by decide) (by decide) (hts _ tw_427) (va_Nw.use rfl (hT.2.2.2.1 (.castable "java/lang/IllegalStateException" "java/lang/IllegalStateException") (List.mem_of_getElem? (i := 2) rfl))) g1 g2 g3 ?_
      refine lv_astore (lv' := [(4, .ref q9), (0, .ref (sx_ad C 0 0)), (1, .int a1), (2, .int a2), (3, .ref (sx_ad C 30 0))]) hx hb dL_mend_17 hl (by decide) rfl (fun ls hl => ?_)
      refine lv_iconst (v := 2) hx hb dL_mend_19 (by decide) ?_
      exact W.widen (by decide) (by decide) (sx_wret X hr hlocks hS hP h dL_mend_20)
    replace h := sx_ifn h c2
    cases h
  · subst ho
    replace h : (if sx_in (0 : Int32) 1 then sx_bd (sx_setL M1 30 0 ((0 : Int32)).toNatClampNeg v.toInt64) fun M2 => some ((0 : Int32), M2) else none) = some (r, M') := h
    refine lv_i2l (v := v.toInt64) hx hb dL_mend_8 rfl ?_
    refine sx_last X hG hP hS 30 0 1 (by decide) (fun _ _ => rfl) dL_mend_9 h (fun M2 H locs h hP hS => ?_)
    refine lv_goto (tgt := 21) hx hb dL_mend_10 (by decide) ?_
    refine lv_iconst (v := 0) hx hb dL_mend_21 (by decide) ?_
    exact W.widen (by decide) (by decide) (sx_wret X hr hlocks hS hP h dL_mend_22)
set_option maxRecDepth 100000 in
theorem ct_L_mend (l : Launch) (hst : l.stackTraces = false) (C : sx_C) (hG : sx_G C) (a1 : Int32) (a2 : Int32) (M0 : sx_M) (r : Int32) (M' : sx_M) (h : fL_mend a1 a2 M0 = some (r, M')) : Met l yL_mend (.codeWith yL_mend cL_mend 5 (some .int) [(0, 10, 13, 28), (0, 10, 17, 15)] :: sx_T) ({ frames := 9, cells := 1, slots := 6, locals := 148 } : Room) (sx_PcT C M0 [.ref (sx_ad C 0 0), .int a1, .int a2, .ref (sx_ad C 30 0)]) (sx_Q C (some (.int r)) M') 1 6 (sx_A C) := by
  refine va_MetW (cc := cL_mend) (maxL := 5) (ret := some .int) (by decide) rfl ?_
  intro p e s m args below meth c s₁ B hml hv
  obtain ⟨rfl, hz, hP, hK, hT⟩ := hv
  have hts0 := atoms_spec B.pre
  have htab := vx_table (x := yL_mend) B (hts0 _ List.mem_cons_self)
  have hl := lv_entry ([.ref (sx_ad C 0 0), .int a1, .int a2, .ref (sx_ad C 30 0)]) (n := 5) (Nat.le_of_ble_eq_true rfl)
  rw [lg_entry_eq]
  generalize (lg_sl ([.ref (sx_ad C 0 0), .int a1, .int a2, .ref (sx_ad C 30 0)]) ++ List.replicate (5 - (lg_sl ([.ref (sx_ad C 0 0), .int a1, .int a2, .ref (sx_ad C 30 0)])).length) Slot.unset).toArray = ls at hl ⊢
  exact wk_L_mend ⟨B.exec, B.bytes, hml, findClass_of_methodNamed B.named, fun w hw => hts0 w (List.mem_cons_of_mem _ hw), hK⟩ B.returns B.notSynchronized hG hz hT hst htab ⟨Nat.le_refl _, Nat.le_refl _⟩ ⟨Nat.le_refl _, Nat.le_refl _⟩ a1 a2 M0 r M' h hl hP va_S.rf
theorem clW_L_139 (X : sx_X C p m c cc nL s args RL) (hT : sx_thr C s) (hst : l.stackTraces = false) (hG : sx_G C) (hP : sx_W C M0 H) (hz : sx_sz C ≤ s.heap.size) (hS : va_S (sx_A C) s.heap H locs) {a1 : Int32} {a2 : Int32} {r : Int32} {M' : sx_M} (h : fL_mend a1 a2 M0 = some (r, M')) (hsz : ls.size = nL) (hdg : decode cc pc = .ok (.invokestatic 139, 3)) (hcs : cells + 1 ≤ R.cells ∧ slots + 6 ≤ R.slots) (hR : 9 + 1 ≤ R.frames ∧ 8 + (5 + 11) + 148 ≤ R.locals) (hrest : (rest.map fun v => v.category).sum ≤ 8) (kk : ∀ (H1 : Heap) (locs1 : List Loc), sx_W C M' H1 → va_S (sx_A C) s.heap H1 locs1 → W p l e R s m args below meth c H1 locs1 (cells + 1) (slots + 6) Q (F0 m (pc + 3) ls (.int r :: rest))) : W p l e R s m args below meth c H locs cells slots Q (F0 m pc ls (.ref (sx_ad C 30 0) :: .int a2 :: .int a1 :: .ref (sx_ad C 0 0) :: rest)) :=
  sx_callSW (n := 4) (As := [.ref (sx_ad C 0 0), .int a1, .int a2, .ref (sx_ad C 30 0)]) X hT hP hz hS (sx_goodSW tw_800 tw_801 tw_63 tw_802) (by decide +kernel) rfl rfl hR (ct_L_mend l hst C hG a1 a2 M0 r M' h) rfl rfl hrest hsz hdg hcs kk
-- StringShedLaw.pin
def fL_pin (a1 : Int32) (a2 : Int32) (M0 : sx_M) : Option (Int32 × sx_M) :=
  sx_b2 (f7_pin a1 a2 M0) fun o M1 => o.elim (fun k => if k = 0 then some ((1 : Int32), M1) else none)
    (fun v => if sx_in (0 : Int32) 1 then sx_bd (sx_setL M1 30 0 ((0 : Int32)).toNatClampNeg v.toInt64) fun M2 => some ((0 : Int32), M2) else none)
set_option maxRecDepth 100000 in
set_option maxHeartbeats 4000000 in
theorem wk_L_pin (X : sx_X C p m c cL_pin 5 s args RL) (hr : meth.sig.returnType = some .int) (hlocks : meth.locks = false) (hG : sx_G C) (hz : sx_sz C ≤ s.heap.size) (hT : sx_thr C s) (hst : l.stackTraces = false) (htab : c.exceptionTable.toList = [⟨0, 10, 13, 28⟩]) (hcs : 1 ≤ R.cells ∧ 6 ≤ R.slots) (hR : 9 ≤ R.frames ∧ 148 ≤ R.locals) (a1 : Int32) (a2 : Int32) (M0 : sx_M) (r : Int32) (M' : sx_M) (h : fL_pin a1 a2 M0 = some (r, M')) (hl : lv_has ls 5 [(0, .ref (sx_ad C 0 0)), (1, .int a1), (2, .int a2), (3, .ref (sx_ad C 30 0))]) (hP : sx_W C M0 H) (hS : va_S (sx_A C) s.heap H locs) : W p l e R s m args below meth c H locs 0 0 (MQ below (sx_Q C (some (.int r)) M') args s 1 6 (sx_A C)) (F0 m 0 ls []) := by
  obtain ⟨hx, hb, hml, hown, hts, hK⟩ := id X
  rw [fL_pin] at h
  obtain ⟨o1, M1, e1, h⟩ := sx_bnd2 h
  refine lv_aload_n hx hb dL_pin_0 rfl (lv_at hl 3 rfl) ?_
  refine lv_iconst (v := 0) hx hb dL_pin_1 (by decide) ?_
  refine lv_aload_n hx hb dL_pin_2 rfl (lv_at hl 0 rfl) ?_
  refine lv_iload_n hx hb dL_pin_3 rfl (lv_at hl 1 rfl) ?_
  refine lv_iload_n hx hb dL_pin_4 rfl (lv_at hl 2 rfl) ?_
  refine clT_L_52 X hT hst hG hP hz hS e1 hl.1 dL_pin_5 ⟨Nat.le_trans (by decide) hcs.1, Nat.le_trans (by decide) hcs.2⟩ ⟨Nat.le_trans (by decide) hR.1, Nat.le_trans (by decide) hR.2⟩ (Nat.le_of_ble_eq_true rfl) (fun k ce q9 H locs ho hP hS g1 g2 g3 => ?_) (fun v H locs ho hP hS => ?_)
  · subst ho
    replace h : (if k = 0 then some ((1 : Int32), M1) else none) = some (r, M') := h
    by_cases c0 : k = 0
    · subst c0
      replace h := sx_ifp h rfl
      refine vx_catch (own := RL) (name := "java/lang/IndexOutOfBoundsException") (E := "java/lang/IndexOutOfBoundsException") hown [] ⟨0, 10, 13, 28⟩ [] htab (fun z hz => absurd hz List.not_mem_nil) (by decide) (by decide) (hts _ tw_680) (va_Nw.use rfl (hT.2.2.2.1 (.castable "java/lang/IndexOutOfBoundsException" "java/lang/IndexOutOfBoundsException") (List.mem_of_getElem? (i := 0) rfl))) g1 g2 g3 ?_
      refine lv_astore (lv' := [(4, .ref q9), (0, .ref (sx_ad C 0 0)), (1, .int a1), (2, .int a2), (3, .ref (sx_ad C 30 0))]) hx hb dL_pin_13 hl (by decide) rfl (fun ls hl => ?_)
      refine lv_iconst (v := 1) hx hb dL_pin_15 (by decide) ?_
      exact W.widen (by decide) (by decide) (sx_wret X hr hlocks hS hP h dL_pin_16)
    replace h := sx_ifn h c0
    cases h
  · subst ho
    replace h : (if sx_in (0 : Int32) 1 then sx_bd (sx_setL M1 30 0 ((0 : Int32)).toNatClampNeg v.toInt64) fun M2 => some ((0 : Int32), M2) else none) = some (r, M') := h
    refine lv_i2l (v := v.toInt64) hx hb dL_pin_8 rfl ?_
    refine sx_last X hG hP hS 30 0 1 (by decide) (fun _ _ => rfl) dL_pin_9 h (fun M2 H locs h hP hS => ?_)
    refine lv_goto (tgt := 17) hx hb dL_pin_10 (by decide) ?_
    refine lv_iconst (v := 0) hx hb dL_pin_17 (by decide) ?_
    exact W.widen (by decide) (by decide) (sx_wret X hr hlocks hS hP h dL_pin_18)
set_option maxRecDepth 100000 in
theorem ct_L_pin (l : Launch) (hst : l.stackTraces = false) (C : sx_C) (hG : sx_G C) (a1 : Int32) (a2 : Int32) (M0 : sx_M) (r : Int32) (M' : sx_M) (h : fL_pin a1 a2 M0 = some (r, M')) : Met l yL_pin (.codeWith yL_pin cL_pin 5 (some .int) [(0, 10, 13, 28)] :: sx_T) ({ frames := 9, cells := 1, slots := 6, locals := 148 } : Room) (sx_PcT C M0 [.ref (sx_ad C 0 0), .int a1, .int a2, .ref (sx_ad C 30 0)]) (sx_Q C (some (.int r)) M') 1 6 (sx_A C) := by
  refine va_MetW (cc := cL_pin) (maxL := 5) (ret := some .int) (by decide) rfl ?_
  intro p e s m args below meth c s₁ B hml hv
  obtain ⟨rfl, hz, hP, hK, hT⟩ := hv
  have hts0 := atoms_spec B.pre
  have htab := vx_table (x := yL_pin) B (hts0 _ List.mem_cons_self)
  have hl := lv_entry ([.ref (sx_ad C 0 0), .int a1, .int a2, .ref (sx_ad C 30 0)]) (n := 5) (Nat.le_of_ble_eq_true rfl)
  rw [lg_entry_eq]
  generalize (lg_sl ([.ref (sx_ad C 0 0), .int a1, .int a2, .ref (sx_ad C 30 0)]) ++ List.replicate (5 - (lg_sl ([.ref (sx_ad C 0 0), .int a1, .int a2, .ref (sx_ad C 30 0)])).length) Slot.unset).toArray = ls at hl ⊢
  exact wk_L_pin ⟨B.exec, B.bytes, hml, findClass_of_methodNamed B.named, fun w hw => hts0 w (List.mem_cons_of_mem _ hw), hK⟩ B.returns B.notSynchronized hG hz hT hst htab ⟨Nat.le_refl _, Nat.le_refl _⟩ ⟨Nat.le_refl _, Nat.le_refl _⟩ a1 a2 M0 r M' h hl hP va_S.rf
theorem clW_L_142 (X : sx_X C p m c cc nL s args RL) (hT : sx_thr C s) (hst : l.stackTraces = false) (hG : sx_G C) (hP : sx_W C M0 H) (hz : sx_sz C ≤ s.heap.size) (hS : va_S (sx_A C) s.heap H locs) {a1 : Int32} {a2 : Int32} {r : Int32} {M' : sx_M} (h : fL_pin a1 a2 M0 = some (r, M')) (hsz : ls.size = nL) (hdg : decode cc pc = .ok (.invokestatic 142, 3)) (hcs : cells + 1 ≤ R.cells ∧ slots + 6 ≤ R.slots) (hR : 9 + 1 ≤ R.frames ∧ 8 + (5 + 11) + 148 ≤ R.locals) (hrest : (rest.map fun v => v.category).sum ≤ 8) (kk : ∀ (H1 : Heap) (locs1 : List Loc), sx_W C M' H1 → va_S (sx_A C) s.heap H1 locs1 → W p l e R s m args below meth c H1 locs1 (cells + 1) (slots + 6) Q (F0 m (pc + 3) ls (.int r :: rest))) : W p l e R s m args below meth c H locs cells slots Q (F0 m pc ls (.ref (sx_ad C 30 0) :: .int a2 :: .int a1 :: .ref (sx_ad C 0 0) :: rest)) :=
  sx_callSW (n := 4) (As := [.ref (sx_ad C 0 0), .int a1, .int a2, .ref (sx_ad C 30 0)]) X hT hP hz hS (sx_goodSW tw_807 tw_808 tw_63 tw_809) (by decide +kernel) rfl rfl hR (ct_L_pin l hst C hG a1 a2 M0 r M' h) rfl rfl hrest hsz hdg hcs kk
-- StringShedLaw.begin
def fL_begin  (M0 : sx_M) : Option (Int32 × sx_M) :=
  sx_b2 (f7_begin M0) fun o M1 => o.elim (fun k => if k = 2 then some ((1 : Int32), M1) else none)
    (fun v => if sx_in (0 : Int32) 1 then sx_bd (sx_setL M1 30 0 ((0 : Int32)).toNatClampNeg v.toInt64) fun M2 => some ((0 : Int32), M2) else none)
set_option maxRecDepth 100000 in
set_option maxHeartbeats 4000000 in
theorem wk_L_begin (X : sx_X C p m c cL_begin 3 s args RL) (hr : meth.sig.returnType = some .int) (hlocks : meth.locks = false) (hG : sx_G C) (hz : sx_sz C ≤ s.heap.size) (hT : sx_thr C s) (hst : l.stackTraces = false) (htab : c.exceptionTable.toList = [⟨0, 8, 11, 15⟩]) (hcs : 1 ≤ R.cells ∧ 6 ≤ R.slots) (hR : 9 ≤ R.frames ∧ 146 ≤ R.locals) (M0 : sx_M) (r : Int32) (M' : sx_M) (h : fL_begin M0 = some (r, M')) (hl : lv_has ls 3 [(0, .ref (sx_ad C 0 0)), (1, .ref (sx_ad C 30 0))]) (hP : sx_W C M0 H) (hS : va_S (sx_A C) s.heap H locs) : W p l e R s m args below meth c H locs 0 0 (MQ below (sx_Q C (some (.int r)) M') args s 1 6 (sx_A C)) (F0 m 0 ls []) := by
  obtain ⟨hx, hb, hml, hown, hts, hK⟩ := id X
  rw [fL_begin] at h
  obtain ⟨o1, M1, e1, h⟩ := sx_bnd2 h
  refine lv_aload_n hx hb dL_begin_0 rfl (lv_at hl 1 rfl) ?_
  refine lv_iconst (v := 0) hx hb dL_begin_1 (by decide) ?_
  refine lv_aload_n hx hb dL_begin_2 rfl (lv_at hl 0 rfl) ?_
  refine clT_L_56 X hT hst hG hP hz hS e1 hl.1 dL_begin_3 ⟨Nat.le_trans (by decide) hcs.1, Nat.le_trans (by decide) hcs.2⟩ ⟨Nat.le_trans (by decide) hR.1, Nat.le_trans (by decide) hR.2⟩ (Nat.le_of_ble_eq_true rfl) (fun k ce q9 H locs ho hP hS g1 g2 g3 => ?_) (fun v H locs ho hP hS => ?_)
  · subst ho
    replace h : (if k = 2 then some ((1 : Int32), M1) else none) = some (r, M') := h
    by_cases c2 : k = 2
    · subst c2
      replace h := sx_ifp h rfl
      refine vx_catch (own := RL) (name := "java/lang/IllegalStateException") (E := "java/lang/IllegalStateException") hown [] ⟨0, 8, 11, 15⟩ [] htab (fun z hz => absurd hz List.not_mem_nil) (by decide) (by decide) (hts _ tw_427) (va_Nw.use rfl (hT.2.2.2.1 (.castable "java/lang/IllegalStateException" "java/lang/IllegalStateException") (List.mem_of_getElem? (i := 2) rfl))) g1 g2 g3 ?_
      refine lv_astore_n (lv' := [(2, .ref q9), (0, .ref (sx_ad C 0 0)), (1, .ref (sx_ad C 30 0))]) hx hb dL_begin_11 rfl hl (by decide) rfl (fun ls hl => ?_)
      refine lv_iconst (v := 1) hx hb dL_begin_12 (by decide) ?_
      exact W.widen (by decide) (by decide) (sx_wret X hr hlocks hS hP h dL_begin_13)
    replace h := sx_ifn h c2
    cases h
  · subst ho
    replace h : (if sx_in (0 : Int32) 1 then sx_bd (sx_setL M1 30 0 ((0 : Int32)).toNatClampNeg v.toInt64) fun M2 => some ((0 : Int32), M2) else none) = some (r, M') := h
    refine lv_i2l (v := v.toInt64) hx hb dL_begin_6 rfl ?_
    refine sx_last X hG hP hS 30 0 1 (by decide) (fun _ _ => rfl) dL_begin_7 h (fun M2 H locs h hP hS => ?_)
    refine lv_goto (tgt := 14) hx hb dL_begin_8 (by decide) ?_
    refine lv_iconst (v := 0) hx hb dL_begin_14 (by decide) ?_
    exact W.widen (by decide) (by decide) (sx_wret X hr hlocks hS hP h dL_begin_15)
set_option maxRecDepth 100000 in
theorem ct_L_begin (l : Launch) (hst : l.stackTraces = false) (C : sx_C) (hG : sx_G C) (M0 : sx_M) (r : Int32) (M' : sx_M) (h : fL_begin M0 = some (r, M')) : Met l yL_begin (.codeWith yL_begin cL_begin 3 (some .int) [(0, 8, 11, 15)] :: sx_T) ({ frames := 9, cells := 1, slots := 6, locals := 146 } : Room) (sx_PcT C M0 [.ref (sx_ad C 0 0), .ref (sx_ad C 30 0)]) (sx_Q C (some (.int r)) M') 1 6 (sx_A C) := by
  refine va_MetW (cc := cL_begin) (maxL := 3) (ret := some .int) (by decide) rfl ?_
  intro p e s m args below meth c s₁ B hml hv
  obtain ⟨rfl, hz, hP, hK, hT⟩ := hv
  have hts0 := atoms_spec B.pre
  have htab := vx_table (x := yL_begin) B (hts0 _ List.mem_cons_self)
  have hl := lv_entry ([.ref (sx_ad C 0 0), .ref (sx_ad C 30 0)]) (n := 3) (Nat.le_of_ble_eq_true rfl)
  rw [lg_entry_eq]
  generalize (lg_sl ([.ref (sx_ad C 0 0), .ref (sx_ad C 30 0)]) ++ List.replicate (3 - (lg_sl ([.ref (sx_ad C 0 0), .ref (sx_ad C 30 0)])).length) Slot.unset).toArray = ls at hl ⊢
  exact wk_L_begin ⟨B.exec, B.bytes, hml, findClass_of_methodNamed B.named, fun w hw => hts0 w (List.mem_cons_of_mem _ hw), hK⟩ B.returns B.notSynchronized hG hz hT hst htab ⟨Nat.le_refl _, Nat.le_refl _⟩ ⟨Nat.le_refl _, Nat.le_refl _⟩ M0 r M' h hl hP va_S.rf
theorem clW_L_146 (X : sx_X C p m c cc nL s args RL) (hT : sx_thr C s) (hst : l.stackTraces = false) (hG : sx_G C) (hP : sx_W C M0 H) (hz : sx_sz C ≤ s.heap.size) (hS : va_S (sx_A C) s.heap H locs) {r : Int32} {M' : sx_M} (h : fL_begin M0 = some (r, M')) (hsz : ls.size = nL) (hdg : decode cc pc = .ok (.invokestatic 146, 3)) (hcs : cells + 1 ≤ R.cells ∧ slots + 6 ≤ R.slots) (hR : 9 + 1 ≤ R.frames ∧ 8 + (3 + 11) + 146 ≤ R.locals) (hrest : (rest.map fun v => v.category).sum ≤ 8) (kk : ∀ (H1 : Heap) (locs1 : List Loc), sx_W C M' H1 → va_S (sx_A C) s.heap H1 locs1 → W p l e R s m args below meth c H1 locs1 (cells + 1) (slots + 6) Q (F0 m (pc + 3) ls (.int r :: rest))) : W p l e R s m args below meth c H locs cells slots Q (F0 m pc ls (.ref (sx_ad C 30 0) :: .ref (sx_ad C 0 0) :: rest)) :=
  sx_callSW (n := 2) (As := [.ref (sx_ad C 0 0), .ref (sx_ad C 30 0)]) X hT hP hz hS (sx_goodSW tw_814 tw_815 tw_63 tw_816) (by decide +kernel) rfl rfl hR (ct_L_begin l hst C hG M0 r M' h) rfl rfl hrest hsz hdg hcs kk
-- StringShedLaw.step
def fL_step  (M0 : sx_M) : Option (Int32 × sx_M) :=
  sx_b2 (f7_step M0) fun o M1 => o.elim (fun k => if k = 2 then some ((1 : Int32), M1) else none)
    (fun v => if sx_in (0 : Int32) 1 then sx_bd (sx_setL M1 30 0 ((0 : Int32)).toNatClampNeg v.toInt64) fun M2 => some ((0 : Int32), M2) else none)
set_option maxRecDepth 100000 in
set_option maxHeartbeats 4000000 in
theorem wk_L_step (X : sx_X C p m c cL_step 3 s args RL) (hr : meth.sig.returnType = some .int) (hlocks : meth.locks = false) (hG : sx_G C) (hz : sx_sz C ≤ s.heap.size) (hT : sx_thr C s) (hst : l.stackTraces = false) (htab : c.exceptionTable.toList = [⟨0, 8, 11, 15⟩]) (hcs : 1 ≤ R.cells ∧ 6 ≤ R.slots) (hR : 9 ≤ R.frames ∧ 146 ≤ R.locals) (M0 : sx_M) (r : Int32) (M' : sx_M) (h : fL_step M0 = some (r, M')) (hl : lv_has ls 3 [(0, .ref (sx_ad C 0 0)), (1, .ref (sx_ad C 30 0))]) (hP : sx_W C M0 H) (hS : va_S (sx_A C) s.heap H locs) : W p l e R s m args below meth c H locs 0 0 (MQ below (sx_Q C (some (.int r)) M') args s 1 6 (sx_A C)) (F0 m 0 ls []) := by
  obtain ⟨hx, hb, hml, hown, hts, hK⟩ := id X
  rw [fL_step] at h
  obtain ⟨o1, M1, e1, h⟩ := sx_bnd2 h
  refine lv_aload_n hx hb dL_step_0 rfl (lv_at hl 1 rfl) ?_
  refine lv_iconst (v := 0) hx hb dL_step_1 (by decide) ?_
  refine lv_aload_n hx hb dL_step_2 rfl (lv_at hl 0 rfl) ?_
  refine clT_L_59 X hT hst hG hP hz hS e1 hl.1 dL_step_3 ⟨Nat.le_trans (by decide) hcs.1, Nat.le_trans (by decide) hcs.2⟩ ⟨Nat.le_trans (by decide) hR.1, Nat.le_trans (by decide) hR.2⟩ (Nat.le_of_ble_eq_true rfl) (fun k ce q9 H locs ho hP hS g1 g2 g3 => ?_) (fun v H locs ho hP hS => ?_)
  · subst ho
    replace h : (if k = 2 then some ((1 : Int32), M1) else none) = some (r, M') := h
    by_cases c2 : k = 2
    · subst c2
      replace h := sx_ifp h rfl
      refine vx_catch (own := RL) (name := "java/lang/IllegalStateException") (E := "java/lang/IllegalStateException") hown [] ⟨0, 8, 11, 15⟩ [] htab (fun z hz => absurd hz List.not_mem_nil) (by decide) (by decide) (hts _ tw_427) (va_Nw.use rfl (hT.2.2.2.1 (.castable "java/lang/IllegalStateException" "java/lang/IllegalStateException") (List.mem_of_getElem? (i := 2) rfl))) g1 g2 g3 ?_
      refine lv_astore_n (lv' := [(2, .ref q9), (0, .ref (sx_ad C 0 0)), (1, .ref (sx_ad C 30 0))]) hx hb dL_step_11 rfl hl (by decide) rfl (fun ls hl => ?_)
      refine lv_iconst (v := 1) hx hb dL_step_12 (by decide) ?_
      exact W.widen (by decide) (by decide) (sx_wret X hr hlocks hS hP h dL_step_13)
    replace h := sx_ifn h c2
    cases h
  · subst ho
    replace h : (if sx_in (0 : Int32) 1 then sx_bd (sx_setL M1 30 0 ((0 : Int32)).toNatClampNeg v.toInt64) fun M2 => some ((0 : Int32), M2) else none) = some (r, M') := h
    refine lv_i2l (v := v.toInt64) hx hb dL_step_6 rfl ?_
    refine sx_last X hG hP hS 30 0 1 (by decide) (fun _ _ => rfl) dL_step_7 h (fun M2 H locs h hP hS => ?_)
    refine lv_goto (tgt := 14) hx hb dL_step_8 (by decide) ?_
    refine lv_iconst (v := 0) hx hb dL_step_14 (by decide) ?_
    exact W.widen (by decide) (by decide) (sx_wret X hr hlocks hS hP h dL_step_15)
set_option maxRecDepth 100000 in
theorem ct_L_step (l : Launch) (hst : l.stackTraces = false) (C : sx_C) (hG : sx_G C) (M0 : sx_M) (r : Int32) (M' : sx_M) (h : fL_step M0 = some (r, M')) : Met l yL_step (.codeWith yL_step cL_step 3 (some .int) [(0, 8, 11, 15)] :: sx_T) ({ frames := 9, cells := 1, slots := 6, locals := 146 } : Room) (sx_PcT C M0 [.ref (sx_ad C 0 0), .ref (sx_ad C 30 0)]) (sx_Q C (some (.int r)) M') 1 6 (sx_A C) := by
  refine va_MetW (cc := cL_step) (maxL := 3) (ret := some .int) (by decide) rfl ?_
  intro p e s m args below meth c s₁ B hml hv
  obtain ⟨rfl, hz, hP, hK, hT⟩ := hv
  have hts0 := atoms_spec B.pre
  have htab := vx_table (x := yL_step) B (hts0 _ List.mem_cons_self)
  have hl := lv_entry ([.ref (sx_ad C 0 0), .ref (sx_ad C 30 0)]) (n := 3) (Nat.le_of_ble_eq_true rfl)
  rw [lg_entry_eq]
  generalize (lg_sl ([.ref (sx_ad C 0 0), .ref (sx_ad C 30 0)]) ++ List.replicate (3 - (lg_sl ([.ref (sx_ad C 0 0), .ref (sx_ad C 30 0)])).length) Slot.unset).toArray = ls at hl ⊢
  exact wk_L_step ⟨B.exec, B.bytes, hml, findClass_of_methodNamed B.named, fun w hw => hts0 w (List.mem_cons_of_mem _ hw), hK⟩ B.returns B.notSynchronized hG hz hT hst htab ⟨Nat.le_refl _, Nat.le_refl _⟩ ⟨Nat.le_refl _, Nat.le_refl _⟩ M0 r M' h hl hP va_S.rf
theorem clW_L_149 (X : sx_X C p m c cc nL s args RL) (hT : sx_thr C s) (hst : l.stackTraces = false) (hG : sx_G C) (hP : sx_W C M0 H) (hz : sx_sz C ≤ s.heap.size) (hS : va_S (sx_A C) s.heap H locs) {r : Int32} {M' : sx_M} (h : fL_step M0 = some (r, M')) (hsz : ls.size = nL) (hdg : decode cc pc = .ok (.invokestatic 149, 3)) (hcs : cells + 1 ≤ R.cells ∧ slots + 6 ≤ R.slots) (hR : 9 + 1 ≤ R.frames ∧ 8 + (3 + 11) + 146 ≤ R.locals) (hrest : (rest.map fun v => v.category).sum ≤ 8) (kk : ∀ (H1 : Heap) (locs1 : List Loc), sx_W C M' H1 → va_S (sx_A C) s.heap H1 locs1 → W p l e R s m args below meth c H1 locs1 (cells + 1) (slots + 6) Q (F0 m (pc + 3) ls (.int r :: rest))) : W p l e R s m args below meth c H locs cells slots Q (F0 m pc ls (.ref (sx_ad C 30 0) :: .ref (sx_ad C 0 0) :: rest)) :=
  sx_callSW (n := 2) (As := [.ref (sx_ad C 0 0), .ref (sx_ad C 30 0)]) X hT hP hz hS (sx_goodSW tw_821 tw_822 tw_63 tw_823) (by decide +kernel) rfl rfl hR (ct_L_step l hst C hG M0 r M' h) rfl rfl hrest hsz hdg hcs kk
-- StringShedLaw.undo
def fL_undo  (M0 : sx_M) : Option (Int32 × sx_M) :=
  sx_b2 (f7_undo M0) fun o M1 => o.elim (fun k => if k = 2 then some ((1 : Int32), M1) else none)
    (fun v => if sx_in (0 : Int32) 1 then sx_bd (sx_setL M1 30 0 ((0 : Int32)).toNatClampNeg v.toInt64) fun M2 => some ((0 : Int32), M2) else none)
set_option maxRecDepth 100000 in
set_option maxHeartbeats 4000000 in
theorem wk_L_undo (X : sx_X C p m c cL_undo 3 s args RL) (hr : meth.sig.returnType = some .int) (hlocks : meth.locks = false) (hG : sx_G C) (hz : sx_sz C ≤ s.heap.size) (hT : sx_thr C s) (hst : l.stackTraces = false) (htab : c.exceptionTable.toList = [⟨0, 8, 11, 15⟩]) (hcs : 1 ≤ R.cells ∧ 6 ≤ R.slots) (hR : 7 ≤ R.frames ∧ 102 ≤ R.locals) (M0 : sx_M) (r : Int32) (M' : sx_M) (h : fL_undo M0 = some (r, M')) (hl : lv_has ls 3 [(0, .ref (sx_ad C 0 0)), (1, .ref (sx_ad C 30 0))]) (hP : sx_W C M0 H) (hS : va_S (sx_A C) s.heap H locs) : W p l e R s m args below meth c H locs 0 0 (MQ below (sx_Q C (some (.int r)) M') args s 1 6 (sx_A C)) (F0 m 0 ls []) := by
  obtain ⟨hx, hb, hml, hown, hts, hK⟩ := id X
  rw [fL_undo] at h
  obtain ⟨o1, M1, e1, h⟩ := sx_bnd2 h
  refine lv_aload_n hx hb dL_undo_0 rfl (lv_at hl 1 rfl) ?_
  refine lv_iconst (v := 0) hx hb dL_undo_1 (by decide) ?_
  refine lv_aload_n hx hb dL_undo_2 rfl (lv_at hl 0 rfl) ?_
  refine clT_L_62 X hT hst hG hP hz hS e1 hl.1 dL_undo_3 ⟨Nat.le_trans (by decide) hcs.1, Nat.le_trans (by decide) hcs.2⟩ ⟨Nat.le_trans (by decide) hR.1, Nat.le_trans (by decide) hR.2⟩ (Nat.le_of_ble_eq_true rfl) (fun k ce q9 H locs ho hP hS g1 g2 g3 => ?_) (fun v H locs ho hP hS => ?_)
  · subst ho
    replace h : (if k = 2 then some ((1 : Int32), M1) else none) = some (r, M') := h
    by_cases c2 : k = 2
    · subst c2
      replace h := sx_ifp h rfl
      refine vx_catch (own := RL) (name := "java/lang/IllegalStateException") (E := "java/lang/IllegalStateException") hown [] ⟨0, 8, 11, 15⟩ [] htab (fun z hz => absurd hz List.not_mem_nil) (by decide) (by decide) (hts _ tw_427) (va_Nw.use rfl (hT.2.2.2.1 (.castable "java/lang/IllegalStateException" "java/lang/IllegalStateException") (List.mem_of_getElem? (i := 2) rfl))) g1 g2 g3 ?_
      refine lv_astore_n (lv' := [(2, .ref q9), (0, .ref (sx_ad C 0 0)), (1, .ref (sx_ad C 30 0))]) hx hb dL_undo_11 rfl hl (by decide) rfl (fun ls hl => ?_)
      refine lv_iconst (v := 1) hx hb dL_undo_12 (by decide) ?_
      exact W.widen (by decide) (by decide) (sx_wret X hr hlocks hS hP h dL_undo_13)
    replace h := sx_ifn h c2
    cases h
  · subst ho
    replace h : (if sx_in (0 : Int32) 1 then sx_bd (sx_setL M1 30 0 ((0 : Int32)).toNatClampNeg v.toInt64) fun M2 => some ((0 : Int32), M2) else none) = some (r, M') := h
    refine lv_i2l (v := v.toInt64) hx hb dL_undo_6 rfl ?_
    refine sx_last X hG hP hS 30 0 1 (by decide) (fun _ _ => rfl) dL_undo_7 h (fun M2 H locs h hP hS => ?_)
    refine lv_goto (tgt := 14) hx hb dL_undo_8 (by decide) ?_
    refine lv_iconst (v := 0) hx hb dL_undo_14 (by decide) ?_
    exact W.widen (by decide) (by decide) (sx_wret X hr hlocks hS hP h dL_undo_15)
set_option maxRecDepth 100000 in
theorem ct_L_undo (l : Launch) (hst : l.stackTraces = false) (C : sx_C) (hG : sx_G C) (M0 : sx_M) (r : Int32) (M' : sx_M) (h : fL_undo M0 = some (r, M')) : Met l yL_undo (.codeWith yL_undo cL_undo 3 (some .int) [(0, 8, 11, 15)] :: sx_T) ({ frames := 7, cells := 1, slots := 6, locals := 102 } : Room) (sx_PcT C M0 [.ref (sx_ad C 0 0), .ref (sx_ad C 30 0)]) (sx_Q C (some (.int r)) M') 1 6 (sx_A C) := by
  refine va_MetW (cc := cL_undo) (maxL := 3) (ret := some .int) (by decide) rfl ?_
  intro p e s m args below meth c s₁ B hml hv
  obtain ⟨rfl, hz, hP, hK, hT⟩ := hv
  have hts0 := atoms_spec B.pre
  have htab := vx_table (x := yL_undo) B (hts0 _ List.mem_cons_self)
  have hl := lv_entry ([.ref (sx_ad C 0 0), .ref (sx_ad C 30 0)]) (n := 3) (Nat.le_of_ble_eq_true rfl)
  rw [lg_entry_eq]
  generalize (lg_sl ([.ref (sx_ad C 0 0), .ref (sx_ad C 30 0)]) ++ List.replicate (3 - (lg_sl ([.ref (sx_ad C 0 0), .ref (sx_ad C 30 0)])).length) Slot.unset).toArray = ls at hl ⊢
  exact wk_L_undo ⟨B.exec, B.bytes, hml, findClass_of_methodNamed B.named, fun w hw => hts0 w (List.mem_cons_of_mem _ hw), hK⟩ B.returns B.notSynchronized hG hz hT hst htab ⟨Nat.le_refl _, Nat.le_refl _⟩ ⟨Nat.le_refl _, Nat.le_refl _⟩ M0 r M' h hl hP va_S.rf
theorem clW_L_152 (X : sx_X C p m c cc nL s args RL) (hT : sx_thr C s) (hst : l.stackTraces = false) (hG : sx_G C) (hP : sx_W C M0 H) (hz : sx_sz C ≤ s.heap.size) (hS : va_S (sx_A C) s.heap H locs) {r : Int32} {M' : sx_M} (h : fL_undo M0 = some (r, M')) (hsz : ls.size = nL) (hdg : decode cc pc = .ok (.invokestatic 152, 3)) (hcs : cells + 1 ≤ R.cells ∧ slots + 6 ≤ R.slots) (hR : 7 + 1 ≤ R.frames ∧ 8 + (3 + 11) + 102 ≤ R.locals) (hrest : (rest.map fun v => v.category).sum ≤ 8) (kk : ∀ (H1 : Heap) (locs1 : List Loc), sx_W C M' H1 → va_S (sx_A C) s.heap H1 locs1 → W p l e R s m args below meth c H1 locs1 (cells + 1) (slots + 6) Q (F0 m (pc + 3) ls (.int r :: rest))) : W p l e R s m args below meth c H locs cells slots Q (F0 m pc ls (.ref (sx_ad C 30 0) :: .ref (sx_ad C 0 0) :: rest)) :=
  sx_callSW (n := 2) (As := [.ref (sx_ad C 0 0), .ref (sx_ad C 30 0)]) X hT hP hz hS (sx_goodSW tw_828 tw_829 tw_63 tw_830) (by decide +kernel) rfl rfl hR (ct_L_undo l hst C hG M0 r M' h) rfl rfl hrest hsz hdg hcs kk
-- StringShedLaw.falls
def fL_falls (a1 : Int32) (a2 : Int32) (M0 : sx_M) : Option (Int32 × sx_M) :=
  sx_b2 (f7_falls a1 a2 M0) fun o M1 => o.elim (fun k => if k = 0 then some ((1 : Int32), M1) else none)
    (fun v => if sx_in (0 : Int32) 1 then sx_bd (sx_setL M1 30 0 ((0 : Int32)).toNatClampNeg v.toInt64) fun M2 => some ((0 : Int32), M2) else none)
set_option maxRecDepth 100000 in
set_option maxHeartbeats 4000000 in
theorem wk_L_falls (X : sx_X C p m c cL_falls 5 s args RL) (hr : meth.sig.returnType = some .int) (hlocks : meth.locks = false) (hG : sx_G C) (hz : sx_sz C ≤ s.heap.size) (hT : sx_thr C s) (hst : l.stackTraces = false) (htab : c.exceptionTable.toList = [⟨0, 10, 13, 28⟩]) (hcs : 1 ≤ R.cells ∧ 6 ≤ R.slots) (hR : 8 ≤ R.frames ∧ 124 ≤ R.locals) (a1 : Int32) (a2 : Int32) (M0 : sx_M) (r : Int32) (M' : sx_M) (h : fL_falls a1 a2 M0 = some (r, M')) (hl : lv_has ls 5 [(0, .ref (sx_ad C 0 0)), (1, .int a1), (2, .int a2), (3, .ref (sx_ad C 30 0))]) (hP : sx_W C M0 H) (hS : va_S (sx_A C) s.heap H locs) : W p l e R s m args below meth c H locs 0 0 (MQ below (sx_Q C (some (.int r)) M') args s 1 6 (sx_A C)) (F0 m 0 ls []) := by
  obtain ⟨hx, hb, hml, hown, hts, hK⟩ := id X
  rw [fL_falls] at h
  obtain ⟨o1, M1, e1, h⟩ := sx_bnd2 h
  refine lv_aload_n hx hb dL_falls_0 rfl (lv_at hl 3 rfl) ?_
  refine lv_iconst (v := 0) hx hb dL_falls_1 (by decide) ?_
  refine lv_aload_n hx hb dL_falls_2 rfl (lv_at hl 0 rfl) ?_
  refine lv_iload_n hx hb dL_falls_3 rfl (lv_at hl 1 rfl) ?_
  refine lv_iload_n hx hb dL_falls_4 rfl (lv_at hl 2 rfl) ?_
  refine clT_L_65 X hT hst hG hP hz hS e1 hl.1 dL_falls_5 ⟨Nat.le_trans (by decide) hcs.1, Nat.le_trans (by decide) hcs.2⟩ ⟨Nat.le_trans (by decide) hR.1, Nat.le_trans (by decide) hR.2⟩ (Nat.le_of_ble_eq_true rfl) (fun k ce q9 H locs ho hP hS g1 g2 g3 => ?_) (fun v H locs ho hP hS => ?_)
  · subst ho
    replace h : (if k = 0 then some ((1 : Int32), M1) else none) = some (r, M') := h
    by_cases c0 : k = 0
    · subst c0
      replace h := sx_ifp h rfl
      refine vx_catch (own := RL) (name := "java/lang/IndexOutOfBoundsException") (E := "java/lang/IndexOutOfBoundsException") hown [] ⟨0, 10, 13, 28⟩ [] htab (fun z hz => absurd hz List.not_mem_nil) (by decide) (by decide) (hts _ tw_680) (va_Nw.use rfl (hT.2.2.2.1 (.castable "java/lang/IndexOutOfBoundsException" "java/lang/IndexOutOfBoundsException") (List.mem_of_getElem? (i := 0) rfl))) g1 g2 g3 ?_
      refine lv_astore (lv' := [(4, .ref q9), (0, .ref (sx_ad C 0 0)), (1, .int a1), (2, .int a2), (3, .ref (sx_ad C 30 0))]) hx hb dL_falls_13 hl (by decide) rfl (fun ls hl => ?_)
      refine lv_iconst (v := 1) hx hb dL_falls_15 (by decide) ?_
      exact W.widen (by decide) (by decide) (sx_wret X hr hlocks hS hP h dL_falls_16)
    replace h := sx_ifn h c0
    cases h
  · subst ho
    replace h : (if sx_in (0 : Int32) 1 then sx_bd (sx_setL M1 30 0 ((0 : Int32)).toNatClampNeg v.toInt64) fun M2 => some ((0 : Int32), M2) else none) = some (r, M') := h
    refine lv_i2l (v := v.toInt64) hx hb dL_falls_8 rfl ?_
    refine sx_last X hG hP hS 30 0 1 (by decide) (fun _ _ => rfl) dL_falls_9 h (fun M2 H locs h hP hS => ?_)
    refine lv_goto (tgt := 17) hx hb dL_falls_10 (by decide) ?_
    refine lv_iconst (v := 0) hx hb dL_falls_17 (by decide) ?_
    exact W.widen (by decide) (by decide) (sx_wret X hr hlocks hS hP h dL_falls_18)
set_option maxRecDepth 100000 in
theorem ct_L_falls (l : Launch) (hst : l.stackTraces = false) (C : sx_C) (hG : sx_G C) (a1 : Int32) (a2 : Int32) (M0 : sx_M) (r : Int32) (M' : sx_M) (h : fL_falls a1 a2 M0 = some (r, M')) : Met l yL_falls (.codeWith yL_falls cL_falls 5 (some .int) [(0, 10, 13, 28)] :: sx_T) ({ frames := 8, cells := 1, slots := 6, locals := 124 } : Room) (sx_PcT C M0 [.ref (sx_ad C 0 0), .int a1, .int a2, .ref (sx_ad C 30 0)]) (sx_Q C (some (.int r)) M') 1 6 (sx_A C) := by
  refine va_MetW (cc := cL_falls) (maxL := 5) (ret := some .int) (by decide) rfl ?_
  intro p e s m args below meth c s₁ B hml hv
  obtain ⟨rfl, hz, hP, hK, hT⟩ := hv
  have hts0 := atoms_spec B.pre
  have htab := vx_table (x := yL_falls) B (hts0 _ List.mem_cons_self)
  have hl := lv_entry ([.ref (sx_ad C 0 0), .int a1, .int a2, .ref (sx_ad C 30 0)]) (n := 5) (Nat.le_of_ble_eq_true rfl)
  rw [lg_entry_eq]
  generalize (lg_sl ([.ref (sx_ad C 0 0), .int a1, .int a2, .ref (sx_ad C 30 0)]) ++ List.replicate (5 - (lg_sl ([.ref (sx_ad C 0 0), .int a1, .int a2, .ref (sx_ad C 30 0)])).length) Slot.unset).toArray = ls at hl ⊢
  exact wk_L_falls ⟨B.exec, B.bytes, hml, findClass_of_methodNamed B.named, fun w hw => hts0 w (List.mem_cons_of_mem _ hw), hK⟩ B.returns B.notSynchronized hG hz hT hst htab ⟨Nat.le_refl _, Nat.le_refl _⟩ ⟨Nat.le_refl _, Nat.le_refl _⟩ a1 a2 M0 r M' h hl hP va_S.rf
theorem clW_L_155 (X : sx_X C p m c cc nL s args RL) (hT : sx_thr C s) (hst : l.stackTraces = false) (hG : sx_G C) (hP : sx_W C M0 H) (hz : sx_sz C ≤ s.heap.size) (hS : va_S (sx_A C) s.heap H locs) {a1 : Int32} {a2 : Int32} {r : Int32} {M' : sx_M} (h : fL_falls a1 a2 M0 = some (r, M')) (hsz : ls.size = nL) (hdg : decode cc pc = .ok (.invokestatic 155, 3)) (hcs : cells + 1 ≤ R.cells ∧ slots + 6 ≤ R.slots) (hR : 8 + 1 ≤ R.frames ∧ 8 + (5 + 11) + 124 ≤ R.locals) (hrest : (rest.map fun v => v.category).sum ≤ 8) (kk : ∀ (H1 : Heap) (locs1 : List Loc), sx_W C M' H1 → va_S (sx_A C) s.heap H1 locs1 → W p l e R s m args below meth c H1 locs1 (cells + 1) (slots + 6) Q (F0 m (pc + 3) ls (.int r :: rest))) : W p l e R s m args below meth c H locs cells slots Q (F0 m pc ls (.ref (sx_ad C 30 0) :: .int a2 :: .int a1 :: .ref (sx_ad C 0 0) :: rest)) :=
  sx_callSW (n := 4) (As := [.ref (sx_ad C 0 0), .int a1, .int a2, .ref (sx_ad C 30 0)]) X hT hP hz hS (sx_goodSW tw_844 tw_845 tw_63 tw_846) (by decide +kernel) rfl rfl hR (ct_L_falls l hst C hG a1 a2 M0 r M' h) rfl rfl hrest hsz hdg hcs kk
-- StringShedLaw.cuts
def fL_cuts (a1 : Int32) (M0 : sx_M) : Option (Int32 × sx_M) :=
  sx_b2 (f7_cuts a1 M0) fun o M1 => o.elim (fun k => if k = 0 then some ((1 : Int32), M1) else none)
    (fun v => if sx_in (0 : Int32) 1 then sx_bd (sx_setL M1 30 0 ((0 : Int32)).toNatClampNeg v.toInt64) fun M2 => some ((0 : Int32), M2) else none)
set_option maxRecDepth 100000 in
set_option maxHeartbeats 4000000 in
theorem wk_L_cuts (X : sx_X C p m c cL_cuts 4 s args RL) (hr : meth.sig.returnType = some .int) (hlocks : meth.locks = false) (hG : sx_G C) (hz : sx_sz C ≤ s.heap.size) (hT : sx_thr C s) (hst : l.stackTraces = false) (htab : c.exceptionTable.toList = [⟨0, 9, 12, 28⟩]) (hcs : 1 ≤ R.cells ∧ 6 ≤ R.slots) (hR : 8 ≤ R.frames ∧ 140 ≤ R.locals) (a1 : Int32) (M0 : sx_M) (r : Int32) (M' : sx_M) (h : fL_cuts a1 M0 = some (r, M')) (hl : lv_has ls 4 [(0, .ref (sx_ad C 0 0)), (1, .int a1), (2, .ref (sx_ad C 30 0))]) (hP : sx_W C M0 H) (hS : va_S (sx_A C) s.heap H locs) : W p l e R s m args below meth c H locs 0 0 (MQ below (sx_Q C (some (.int r)) M') args s 1 6 (sx_A C)) (F0 m 0 ls []) := by
  obtain ⟨hx, hb, hml, hown, hts, hK⟩ := id X
  rw [fL_cuts] at h
  obtain ⟨o1, M1, e1, h⟩ := sx_bnd2 h
  refine lv_aload_n hx hb dL_cuts_0 rfl (lv_at hl 2 rfl) ?_
  refine lv_iconst (v := 0) hx hb dL_cuts_1 (by decide) ?_
  refine lv_aload_n hx hb dL_cuts_2 rfl (lv_at hl 0 rfl) ?_
  refine lv_iload_n hx hb dL_cuts_3 rfl (lv_at hl 1 rfl) ?_
  refine clT_L_68 X hT hst hG hP hz hS e1 hl.1 dL_cuts_4 ⟨Nat.le_trans (by decide) hcs.1, Nat.le_trans (by decide) hcs.2⟩ ⟨Nat.le_trans (by decide) hR.1, Nat.le_trans (by decide) hR.2⟩ (Nat.le_of_ble_eq_true rfl) (fun k ce q9 H locs ho hP hS g1 g2 g3 => ?_) (fun v H locs ho hP hS => ?_)
  · subst ho
    replace h : (if k = 0 then some ((1 : Int32), M1) else none) = some (r, M') := h
    by_cases c0 : k = 0
    · subst c0
      replace h := sx_ifp h rfl
      refine vx_catch (own := RL) (name := "java/lang/IndexOutOfBoundsException") (E := "java/lang/IndexOutOfBoundsException") hown [] ⟨0, 9, 12, 28⟩ [] htab (fun z hz => absurd hz List.not_mem_nil) (by decide) (by decide) (hts _ tw_680) (va_Nw.use rfl (hT.2.2.2.1 (.castable "java/lang/IndexOutOfBoundsException" "java/lang/IndexOutOfBoundsException") (List.mem_of_getElem? (i := 0) rfl))) g1 g2 g3 ?_
      refine lv_astore_n (lv' := [(3, .ref q9), (0, .ref (sx_ad C 0 0)), (1, .int a1), (2, .ref (sx_ad C 30 0))]) hx hb dL_cuts_12 rfl hl (by decide) rfl (fun ls hl => ?_)
      refine lv_iconst (v := 1) hx hb dL_cuts_13 (by decide) ?_
      exact W.widen (by decide) (by decide) (sx_wret X hr hlocks hS hP h dL_cuts_14)
    replace h := sx_ifn h c0
    cases h
  · subst ho
    replace h : (if sx_in (0 : Int32) 1 then sx_bd (sx_setL M1 30 0 ((0 : Int32)).toNatClampNeg v.toInt64) fun M2 => some ((0 : Int32), M2) else none) = some (r, M') := h
    refine lv_i2l (v := v.toInt64) hx hb dL_cuts_7 rfl ?_
    refine sx_last X hG hP hS 30 0 1 (by decide) (fun _ _ => rfl) dL_cuts_8 h (fun M2 H locs h hP hS => ?_)
    refine lv_goto (tgt := 15) hx hb dL_cuts_9 (by decide) ?_
    refine lv_iconst (v := 0) hx hb dL_cuts_15 (by decide) ?_
    exact W.widen (by decide) (by decide) (sx_wret X hr hlocks hS hP h dL_cuts_16)
set_option maxRecDepth 100000 in
theorem ct_L_cuts (l : Launch) (hst : l.stackTraces = false) (C : sx_C) (hG : sx_G C) (a1 : Int32) (M0 : sx_M) (r : Int32) (M' : sx_M) (h : fL_cuts a1 M0 = some (r, M')) : Met l yL_cuts (.codeWith yL_cuts cL_cuts 4 (some .int) [(0, 9, 12, 28)] :: sx_T) ({ frames := 8, cells := 1, slots := 6, locals := 140 } : Room) (sx_PcT C M0 [.ref (sx_ad C 0 0), .int a1, .ref (sx_ad C 30 0)]) (sx_Q C (some (.int r)) M') 1 6 (sx_A C) := by
  refine va_MetW (cc := cL_cuts) (maxL := 4) (ret := some .int) (by decide) rfl ?_
  intro p e s m args below meth c s₁ B hml hv
  obtain ⟨rfl, hz, hP, hK, hT⟩ := hv
  have hts0 := atoms_spec B.pre
  have htab := vx_table (x := yL_cuts) B (hts0 _ List.mem_cons_self)
  have hl := lv_entry ([.ref (sx_ad C 0 0), .int a1, .ref (sx_ad C 30 0)]) (n := 4) (Nat.le_of_ble_eq_true rfl)
  rw [lg_entry_eq]
  generalize (lg_sl ([.ref (sx_ad C 0 0), .int a1, .ref (sx_ad C 30 0)]) ++ List.replicate (4 - (lg_sl ([.ref (sx_ad C 0 0), .int a1, .ref (sx_ad C 30 0)])).length) Slot.unset).toArray = ls at hl ⊢
  exact wk_L_cuts ⟨B.exec, B.bytes, hml, findClass_of_methodNamed B.named, fun w hw => hts0 w (List.mem_cons_of_mem _ hw), hK⟩ B.returns B.notSynchronized hG hz hT hst htab ⟨Nat.le_refl _, Nat.le_refl _⟩ ⟨Nat.le_refl _, Nat.le_refl _⟩ a1 M0 r M' h hl hP va_S.rf
theorem clW_L_158 (X : sx_X C p m c cc nL s args RL) (hT : sx_thr C s) (hst : l.stackTraces = false) (hG : sx_G C) (hP : sx_W C M0 H) (hz : sx_sz C ≤ s.heap.size) (hS : va_S (sx_A C) s.heap H locs) {a1 : Int32} {r : Int32} {M' : sx_M} (h : fL_cuts a1 M0 = some (r, M')) (hsz : ls.size = nL) (hdg : decode cc pc = .ok (.invokestatic 158, 3)) (hcs : cells + 1 ≤ R.cells ∧ slots + 6 ≤ R.slots) (hR : 8 + 1 ≤ R.frames ∧ 8 + (4 + 11) + 140 ≤ R.locals) (hrest : (rest.map fun v => v.category).sum ≤ 8) (kk : ∀ (H1 : Heap) (locs1 : List Loc), sx_W C M' H1 → va_S (sx_A C) s.heap H1 locs1 → W p l e R s m args below meth c H1 locs1 (cells + 1) (slots + 6) Q (F0 m (pc + 3) ls (.int r :: rest))) : W p l e R s m args below meth c H locs cells slots Q (F0 m pc ls (.ref (sx_ad C 30 0) :: .int a1 :: .ref (sx_ad C 0 0) :: rest)) :=
  sx_callSW (n := 3) (As := [.ref (sx_ad C 0 0), .int a1, .ref (sx_ad C 30 0)]) X hT hP hz hS (sx_goodSW tw_851 tw_852 tw_63 tw_853) (by decide +kernel) rfl rfl hR (ct_L_cuts l hst C hG a1 M0 r M' h) rfl rfl hrest hsz hdg hcs kk
-- StringShedLaw.way
def fL_way (a1 : Int32) (a2 : Int32) (M0 : sx_M) : Option (Int32 × sx_M) :=
  sx_b2 (f7_way a1 a2 M0) fun o M1 => o.elim (fun k => if k = 0 then some ((1 : Int32), M1) else if k = 1 then some ((2 : Int32), M1) else none)
    (fun v => if sx_in (0 : Int32) 1 then sx_bd (sx_setL M1 30 0 ((0 : Int32)).toNatClampNeg v.toInt64) fun M2 => some ((0 : Int32), M2) else none)
set_option maxRecDepth 100000 in
set_option maxHeartbeats 4000000 in
theorem wk_L_way (X : sx_X C p m c cL_way 5 s args RL) (hr : meth.sig.returnType = some .int) (hlocks : meth.locks = false) (hG : sx_G C) (hz : sx_sz C ≤ s.heap.size) (hT : sx_thr C s) (hst : l.stackTraces = false) (htab : c.exceptionTable.toList = [⟨0, 10, 13, 28⟩, ⟨0, 10, 17, 13⟩]) (hcs : 2 ≤ R.cells ∧ 12 ≤ R.slots) (hR : 8 ≤ R.frames ∧ 124 ≤ R.locals) (a1 : Int32) (a2 : Int32) (M0 : sx_M) (r : Int32) (M' : sx_M) (h : fL_way a1 a2 M0 = some (r, M')) (hl : lv_has ls 5 [(0, .ref (sx_ad C 0 0)), (1, .int a1), (2, .int a2), (3, .ref (sx_ad C 30 0))]) (hP : sx_W C M0 H) (hS : va_S (sx_A C) s.heap H locs) : W p l e R s m args below meth c H locs 0 0 (MQ below (sx_Q C (some (.int r)) M') args s 2 12 (sx_A C)) (F0 m 0 ls []) := by
  obtain ⟨hx, hb, hml, hown, hts, hK⟩ := id X
  rw [fL_way] at h
  obtain ⟨o1, M1, e1, h⟩ := sx_bnd2 h
  refine lv_aload_n hx hb dL_way_0 rfl (lv_at hl 3 rfl) ?_
  refine lv_iconst (v := 0) hx hb dL_way_1 (by decide) ?_
  refine lv_aload_n hx hb dL_way_2 rfl (lv_at hl 0 rfl) ?_
  refine lv_iload_n hx hb dL_way_3 rfl (lv_at hl 1 rfl) ?_
  refine lv_iload_n hx hb dL_way_4 rfl (lv_at hl 2 rfl) ?_
  refine clT_L_71 X hT hst hG hP hz hS e1 hl.1 dL_way_5 ⟨Nat.le_trans (by decide) hcs.1, Nat.le_trans (by decide) hcs.2⟩ ⟨Nat.le_trans (by decide) hR.1, Nat.le_trans (by decide) hR.2⟩ (Nat.le_of_ble_eq_true rfl) (fun k ce q9 H locs ho hP hS g1 g2 g3 => ?_) (fun v H locs ho hP hS => ?_)
  · subst ho
    replace h : (if k = 0 then some ((1 : Int32), M1) else if k = 1 then some ((2 : Int32), M1) else none) = some (r, M') := h
    by_cases c0 : k = 0
    · subst c0
      replace h := sx_ifp h rfl
      refine vx_catch (own := RL) (name := "java/lang/IndexOutOfBoundsException") (E := "java/lang/IndexOutOfBoundsException") hown [] ⟨0, 10, 13, 28⟩ [⟨0, 10, 17, 13⟩] htab (fun z hz => absurd hz List.not_mem_nil) (by decide) (by decide) (hts _ tw_680) (va_Nw.use rfl (hT.2.2.2.1 (.castable "java/lang/IndexOutOfBoundsException" "java/lang/IndexOutOfBoundsException") (List.mem_of_getElem? (i := 0) rfl))) g1 g2 g3 ?_
      refine lv_astore (lv' := [(4, .ref q9), (0, .ref (sx_ad C 0 0)), (1, .int a1), (2, .int a2), (3, .ref (sx_ad C 30 0))]) hx hb dL_way_13 hl (by decide) rfl (fun ls hl => ?_)
      refine lv_iconst (v := 1) hx hb dL_way_15 (by decide) ?_
      exact W.widen (by decide) (by decide) (sx_wret X hr hlocks hS hP h dL_way_16)
    replace h := sx_ifn h c0
    by_cases c1 : k = 1
    · subst c1
      replace h := sx_ifp h rfl
      refine vx_catch (own := RL) (name := "java/lang/IllegalArgumentException") (E := "java/lang/IllegalArgumentException") hown [⟨0, 10, 13, 28⟩] ⟨0, 10, 17, 13⟩ [] htab (fun z hz => by
        simp only [List.mem_cons, List.not_mem_nil, or_false] at hz
        rcases hz with rfl
        · exact Or.inr ⟨by decide, "java/lang/IndexOutOfBoundsException", hts _ tw_680, hT.2.2.2.2 ("java/lang/IllegalArgumentException", "java/lang/IndexOutOfBoundsException") (by decide)⟩) (by decide) (by decide) (hts _ tw_426) (va_Nw.use rfl (hT.2.2.2.1 (.castable "java/lang/IllegalArgumentException" "java/lang/IllegalArgumentException") (List.mem_of_getElem? (i := 1) rfl))) g1 g2 g3 ?_
      refine lv_astore (lv' := [(4, .ref q9), (0, .ref (sx_ad C 0 0)), (1, .int a1), (2, .int a2), (3, .ref (sx_ad C 30 0))]) hx hb dL_way_17 hl (by decide) rfl (fun ls hl => ?_)
      refine lv_iconst (v := 2) hx hb dL_way_19 (by decide) ?_
      exact W.widen (by decide) (by decide) (sx_wret X hr hlocks hS hP h dL_way_20)
    replace h := sx_ifn h c1
    cases h
  · subst ho
    replace h : (if sx_in (0 : Int32) 1 then sx_bd (sx_setL M1 30 0 ((0 : Int32)).toNatClampNeg v.toInt64) fun M2 => some ((0 : Int32), M2) else none) = some (r, M') := h
    refine lv_i2l (v := v.toInt64) hx hb dL_way_8 rfl ?_
    refine sx_last X hG hP hS 30 0 1 (by decide) (fun _ _ => rfl) dL_way_9 h (fun M2 H locs h hP hS => ?_)
    refine lv_goto (tgt := 21) hx hb dL_way_10 (by decide) ?_
    refine lv_iconst (v := 0) hx hb dL_way_21 (by decide) ?_
    exact W.widen (by decide) (by decide) (sx_wret X hr hlocks hS hP h dL_way_22)
set_option maxRecDepth 100000 in
theorem ct_L_way (l : Launch) (hst : l.stackTraces = false) (C : sx_C) (hG : sx_G C) (a1 : Int32) (a2 : Int32) (M0 : sx_M) (r : Int32) (M' : sx_M) (h : fL_way a1 a2 M0 = some (r, M')) : Met l yL_way (.codeWith yL_way cL_way 5 (some .int) [(0, 10, 13, 28), (0, 10, 17, 13)] :: sx_T) ({ frames := 8, cells := 2, slots := 12, locals := 124 } : Room) (sx_PcT C M0 [.ref (sx_ad C 0 0), .int a1, .int a2, .ref (sx_ad C 30 0)]) (sx_Q C (some (.int r)) M') 2 12 (sx_A C) := by
  refine va_MetW (cc := cL_way) (maxL := 5) (ret := some .int) (by decide) rfl ?_
  intro p e s m args below meth c s₁ B hml hv
  obtain ⟨rfl, hz, hP, hK, hT⟩ := hv
  have hts0 := atoms_spec B.pre
  have htab := vx_table (x := yL_way) B (hts0 _ List.mem_cons_self)
  have hl := lv_entry ([.ref (sx_ad C 0 0), .int a1, .int a2, .ref (sx_ad C 30 0)]) (n := 5) (Nat.le_of_ble_eq_true rfl)
  rw [lg_entry_eq]
  generalize (lg_sl ([.ref (sx_ad C 0 0), .int a1, .int a2, .ref (sx_ad C 30 0)]) ++ List.replicate (5 - (lg_sl ([.ref (sx_ad C 0 0), .int a1, .int a2, .ref (sx_ad C 30 0)])).length) Slot.unset).toArray = ls at hl ⊢
  exact wk_L_way ⟨B.exec, B.bytes, hml, findClass_of_methodNamed B.named, fun w hw => hts0 w (List.mem_cons_of_mem _ hw), hK⟩ B.returns B.notSynchronized hG hz hT hst htab ⟨Nat.le_refl _, Nat.le_refl _⟩ ⟨Nat.le_refl _, Nat.le_refl _⟩ a1 a2 M0 r M' h hl hP va_S.rf
theorem clW_L_177 (X : sx_X C p m c cc nL s args RL) (hT : sx_thr C s) (hst : l.stackTraces = false) (hG : sx_G C) (hP : sx_W C M0 H) (hz : sx_sz C ≤ s.heap.size) (hS : va_S (sx_A C) s.heap H locs) {a1 : Int32} {a2 : Int32} {r : Int32} {M' : sx_M} (h : fL_way a1 a2 M0 = some (r, M')) (hsz : ls.size = nL) (hdg : decode cc pc = .ok (.invokestatic 177, 3)) (hcs : cells + 2 ≤ R.cells ∧ slots + 12 ≤ R.slots) (hR : 8 + 1 ≤ R.frames ∧ 8 + (5 + 11) + 124 ≤ R.locals) (hrest : (rest.map fun v => v.category).sum ≤ 8) (kk : ∀ (H1 : Heap) (locs1 : List Loc), sx_W C M' H1 → va_S (sx_A C) s.heap H1 locs1 → W p l e R s m args below meth c H1 locs1 (cells + 2) (slots + 12) Q (F0 m (pc + 3) ls (.int r :: rest))) : W p l e R s m args below meth c H locs cells slots Q (F0 m pc ls (.ref (sx_ad C 30 0) :: .int a2 :: .int a1 :: .ref (sx_ad C 0 0) :: rest)) :=
  sx_callSW (n := 4) (As := [.ref (sx_ad C 0 0), .int a1, .int a2, .ref (sx_ad C 30 0)]) X hT hP hz hS (sx_goodSW tw_885 tw_886 tw_63 tw_887) (by decide +kernel) rfl rfl hR (ct_L_way l hst C hG a1 a2 M0 r M' h) rfl rfl hrest hsz hdg hcs kk
-- StringShedLaw.runScript
def fL_runScript (a1 : Int32) (a2 : Int64) (M0 : sx_M) : Option (Int32 × sx_M) :=
  sx_b2 (f7_runScript a1 a2 M0) fun o M1 => o.elim (fun k => if k = 1 then some ((1 : Int32), M1) else none)
    (fun v => if sx_in (0 : Int32) 1 then sx_bd (sx_setL M1 30 0 ((0 : Int32)).toNatClampNeg v.toInt64) fun M2 => some ((0 : Int32), M2) else none)
set_option maxRecDepth 100000 in
set_option maxHeartbeats 4000000 in
theorem wk_L_runScript (X : sx_X C p m c cL_runScript 6 s args RL) (hr : meth.sig.returnType = some .int) (hlocks : meth.locks = false) (hG : sx_G C) (hz : sx_sz C ≤ s.heap.size) (hT : sx_thr C s) (hst : l.stackTraces = false) (htab : c.exceptionTable.toList = [⟨0, 11, 14, 13⟩]) (hcs : 1 ≤ R.cells ∧ 6 ≤ R.slots) (hR : 7 ≤ R.frames ∧ 166 ≤ R.locals) (a1 : Int32) (a2 : Int64) (M0 : sx_M) (r : Int32) (M' : sx_M) (h : fL_runScript a1 a2 M0 = some (r, M')) (hl : lv_has ls 6 [(0, .ref (sx_ad C 0 0)), (1, .int a1), (2, .long a2), (4, .ref (sx_ad C 30 0))]) (hP : sx_W C M0 H) (hS : va_S (sx_A C) s.heap H locs) : W p l e R s m args below meth c H locs 0 0 (MQ below (sx_Q C (some (.int r)) M') args s 1 6 (sx_A C)) (F0 m 0 ls []) := by
  obtain ⟨hx, hb, hml, hown, hts, hK⟩ := id X
  rw [fL_runScript] at h
  obtain ⟨o1, M1, e1, h⟩ := sx_bnd2 h
  refine lv_aload hx hb dL_runScript_0 (lv_at hl 3 rfl) ?_
  refine lv_iconst (v := 0) hx hb dL_runScript_2 (by decide) ?_
  refine lv_aload_n hx hb dL_runScript_3 rfl (lv_at hl 0 rfl) ?_
  refine lv_iload_n hx hb dL_runScript_4 rfl (lv_at hl 1 rfl) ?_
  refine lv_lload_n hx hb dL_runScript_5 rfl (lv_at hl 2 rfl) ?_
  refine clT_L_74 X hT hst hG hP hz hS e1 hl.1 dL_runScript_6 ⟨Nat.le_trans (by decide) hcs.1, Nat.le_trans (by decide) hcs.2⟩ ⟨Nat.le_trans (by decide) hR.1, Nat.le_trans (by decide) hR.2⟩ (Nat.le_of_ble_eq_true rfl) (fun k ce q9 H locs ho hP hS g1 g2 g3 => ?_) (fun v H locs ho hP hS => ?_)
  · subst ho
    replace h : (if k = 1 then some ((1 : Int32), M1) else none) = some (r, M') := h
    by_cases c1 : k = 1
    · subst c1
      replace h := sx_ifp h rfl
      refine vx_catch (own := RL) (name := "java/lang/IllegalArgumentException") (E := "java/lang/IllegalArgumentException") hown [] ⟨0, 11, 14, 13⟩ [] htab (fun z hz => absurd hz List.not_mem_nil) (by decide) (by decide) (hts _ tw_426) (va_Nw.use rfl (hT.2.2.2.1 (.castable "java/lang/IllegalArgumentException" "java/lang/IllegalArgumentException") (List.mem_of_getElem? (i := 1) rfl))) g1 g2 g3 ?_
      refine lv_astore (lv' := [(5, .ref q9), (0, .ref (sx_ad C 0 0)), (1, .int a1), (2, .long a2), (4, .ref (sx_ad C 30 0))]) hx hb dL_runScript_14 hl (by decide) rfl (fun ls hl => ?_)
      refine lv_iconst (v := 1) hx hb dL_runScript_16 (by decide) ?_
      exact W.widen (by decide) (by decide) (sx_wret X hr hlocks hS hP h dL_runScript_17)
    replace h := sx_ifn h c1
    cases h
  · subst ho
    replace h : (if sx_in (0 : Int32) 1 then sx_bd (sx_setL M1 30 0 ((0 : Int32)).toNatClampNeg v.toInt64) fun M2 => some ((0 : Int32), M2) else none) = some (r, M') := h
    refine lv_i2l (v := v.toInt64) hx hb dL_runScript_9 rfl ?_
    refine sx_last X hG hP hS 30 0 1 (by decide) (fun _ _ => rfl) dL_runScript_10 h (fun M2 H locs h hP hS => ?_)
    refine lv_goto (tgt := 18) hx hb dL_runScript_11 (by decide) ?_
    refine lv_iconst (v := 0) hx hb dL_runScript_18 (by decide) ?_
    exact W.widen (by decide) (by decide) (sx_wret X hr hlocks hS hP h dL_runScript_19)
set_option maxRecDepth 100000 in
theorem ct_L_runScript (l : Launch) (hst : l.stackTraces = false) (C : sx_C) (hG : sx_G C) (a1 : Int32) (a2 : Int64) (M0 : sx_M) (r : Int32) (M' : sx_M) (h : fL_runScript a1 a2 M0 = some (r, M')) : Met l yL_runScript (.codeWith yL_runScript cL_runScript 6 (some .int) [(0, 11, 14, 13)] :: sx_T) ({ frames := 7, cells := 1, slots := 6, locals := 166 } : Room) (sx_PcT C M0 [.ref (sx_ad C 0 0), .int a1, .long a2, .ref (sx_ad C 30 0)]) (sx_Q C (some (.int r)) M') 1 6 (sx_A C) := by
  refine va_MetW (cc := cL_runScript) (maxL := 6) (ret := some .int) (by decide) rfl ?_
  intro p e s m args below meth c s₁ B hml hv
  obtain ⟨rfl, hz, hP, hK, hT⟩ := hv
  have hts0 := atoms_spec B.pre
  have htab := vx_table (x := yL_runScript) B (hts0 _ List.mem_cons_self)
  have hl := lv_entry ([.ref (sx_ad C 0 0), .int a1, .long a2, .ref (sx_ad C 30 0)]) (n := 6) (Nat.le_of_ble_eq_true rfl)
  rw [lg_entry_eq]
  generalize (lg_sl ([.ref (sx_ad C 0 0), .int a1, .long a2, .ref (sx_ad C 30 0)]) ++ List.replicate (6 - (lg_sl ([.ref (sx_ad C 0 0), .int a1, .long a2, .ref (sx_ad C 30 0)])).length) Slot.unset).toArray = ls at hl ⊢
  exact wk_L_runScript ⟨B.exec, B.bytes, hml, findClass_of_methodNamed B.named, fun w hw => hts0 w (List.mem_cons_of_mem _ hw), hK⟩ B.returns B.notSynchronized hG hz hT hst htab ⟨Nat.le_refl _, Nat.le_refl _⟩ ⟨Nat.le_refl _, Nat.le_refl _⟩ a1 a2 M0 r M' h hl hP va_S.rf
theorem clW_L_182 (X : sx_X C p m c cc nL s args RL) (hT : sx_thr C s) (hst : l.stackTraces = false) (hG : sx_G C) (hP : sx_W C M0 H) (hz : sx_sz C ≤ s.heap.size) (hS : va_S (sx_A C) s.heap H locs) {a1 : Int32} {a2 : Int64} {r : Int32} {M' : sx_M} (h : fL_runScript a1 a2 M0 = some (r, M')) (hsz : ls.size = nL) (hdg : decode cc pc = .ok (.invokestatic 182, 3)) (hcs : cells + 1 ≤ R.cells ∧ slots + 6 ≤ R.slots) (hR : 7 + 1 ≤ R.frames ∧ 8 + (6 + 11) + 166 ≤ R.locals) (hrest : (rest.map fun v => v.category).sum ≤ 8) (kk : ∀ (H1 : Heap) (locs1 : List Loc), sx_W C M' H1 → va_S (sx_A C) s.heap H1 locs1 → W p l e R s m args below meth c H1 locs1 (cells + 1) (slots + 6) Q (F0 m (pc + 3) ls (.int r :: rest))) : W p l e R s m args below meth c H locs cells slots Q (F0 m pc ls (.ref (sx_ad C 30 0) :: .long a2 :: .int a1 :: .ref (sx_ad C 0 0) :: rest)) :=
  sx_callSW (n := 4) (As := [.ref (sx_ad C 0 0), .int a1, .long a2, .ref (sx_ad C 30 0)]) X hT hP hz hS (sx_goodSW tw_901 tw_902 tw_63 tw_903) (by decide +kernel) rfl rfl hR (ct_L_runScript l hst C hG a1 a2 M0 r M' h) rfl rfl hrest hsz hdg hcs kk
-- StringShedLaw.simulate
def fL_simulate (a1 : Int64) (a3 : Int32) (M0 : sx_M) : Option (Int32 × sx_M) :=
  sx_b2 (f7_simulate a1 a3 M0) fun o M1 => o.elim (fun k => if k = 1 then some ((1 : Int32), M1) else none)
    (fun v => if sx_in (0 : Int32) 1 then sx_bd (sx_setL M1 30 0 ((0 : Int32)).toNatClampNeg v.toInt64) fun M2 => some ((0 : Int32), M2) else none)
set_option maxRecDepth 100000 in
set_option maxHeartbeats 4000000 in
theorem wk_L_simulate (X : sx_X C p m c cL_simulate 6 s args RL) (hr : meth.sig.returnType = some .int) (hlocks : meth.locks = false) (hG : sx_G C) (hz : sx_sz C ≤ s.heap.size) (hT : sx_thr C s) (hst : l.stackTraces = false) (htab : c.exceptionTable.toList = [⟨0, 11, 14, 13⟩]) (hcs : 1 ≤ R.cells ∧ 6 ≤ R.slots) (hR : 7 ≤ R.frames ∧ 167 ≤ R.locals) (a1 : Int64) (a3 : Int32) (M0 : sx_M) (r : Int32) (M' : sx_M) (h : fL_simulate a1 a3 M0 = some (r, M')) (hl : lv_has ls 6 [(0, .ref (sx_ad C 0 0)), (1, .long a1), (3, .int a3), (4, .ref (sx_ad C 30 0))]) (hP : sx_W C M0 H) (hS : va_S (sx_A C) s.heap H locs) : W p l e R s m args below meth c H locs 0 0 (MQ below (sx_Q C (some (.int r)) M') args s 1 6 (sx_A C)) (F0 m 0 ls []) := by
  obtain ⟨hx, hb, hml, hown, hts, hK⟩ := id X
  rw [fL_simulate] at h
  obtain ⟨o1, M1, e1, h⟩ := sx_bnd2 h
  refine lv_aload hx hb dL_simulate_0 (lv_at hl 3 rfl) ?_
  refine lv_iconst (v := 0) hx hb dL_simulate_2 (by decide) ?_
  refine lv_aload_n hx hb dL_simulate_3 rfl (lv_at hl 0 rfl) ?_
  refine lv_lload_n hx hb dL_simulate_4 rfl (lv_at hl 1 rfl) ?_
  refine lv_iload_n hx hb dL_simulate_5 rfl (lv_at hl 2 rfl) ?_
  refine clT_L_78 X hT hst hG hP hz hS e1 hl.1 dL_simulate_6 ⟨Nat.le_trans (by decide) hcs.1, Nat.le_trans (by decide) hcs.2⟩ ⟨Nat.le_trans (by decide) hR.1, Nat.le_trans (by decide) hR.2⟩ (Nat.le_of_ble_eq_true rfl) (fun k ce q9 H locs ho hP hS g1 g2 g3 => ?_) (fun v H locs ho hP hS => ?_)
  · subst ho
    replace h : (if k = 1 then some ((1 : Int32), M1) else none) = some (r, M') := h
    by_cases c1 : k = 1
    · subst c1
      replace h := sx_ifp h rfl
      refine vx_catch (own := RL) (name := "java/lang/IllegalArgumentException") (E := "java/lang/IllegalArgumentException") hown [] ⟨0, 11, 14, 13⟩ [] htab (fun z hz => absurd hz List.not_mem_nil) (by decide) (by decide) (hts _ tw_426) (va_Nw.use rfl (hT.2.2.2.1 (.castable "java/lang/IllegalArgumentException" "java/lang/IllegalArgumentException") (List.mem_of_getElem? (i := 1) rfl))) g1 g2 g3 ?_
      refine lv_astore (lv' := [(5, .ref q9), (0, .ref (sx_ad C 0 0)), (1, .long a1), (3, .int a3), (4, .ref (sx_ad C 30 0))]) hx hb dL_simulate_14 hl (by decide) rfl (fun ls hl => ?_)
      refine lv_iconst (v := 1) hx hb dL_simulate_16 (by decide) ?_
      exact W.widen (by decide) (by decide) (sx_wret X hr hlocks hS hP h dL_simulate_17)
    replace h := sx_ifn h c1
    cases h
  · subst ho
    replace h : (if sx_in (0 : Int32) 1 then sx_bd (sx_setL M1 30 0 ((0 : Int32)).toNatClampNeg v.toInt64) fun M2 => some ((0 : Int32), M2) else none) = some (r, M') := h
    refine lv_i2l (v := v.toInt64) hx hb dL_simulate_9 rfl ?_
    refine sx_last X hG hP hS 30 0 1 (by decide) (fun _ _ => rfl) dL_simulate_10 h (fun M2 H locs h hP hS => ?_)
    refine lv_goto (tgt := 18) hx hb dL_simulate_11 (by decide) ?_
    refine lv_iconst (v := 0) hx hb dL_simulate_18 (by decide) ?_
    exact W.widen (by decide) (by decide) (sx_wret X hr hlocks hS hP h dL_simulate_19)
set_option maxRecDepth 100000 in
theorem ct_L_simulate (l : Launch) (hst : l.stackTraces = false) (C : sx_C) (hG : sx_G C) (a1 : Int64) (a3 : Int32) (M0 : sx_M) (r : Int32) (M' : sx_M) (h : fL_simulate a1 a3 M0 = some (r, M')) : Met l yL_simulate (.codeWith yL_simulate cL_simulate 6 (some .int) [(0, 11, 14, 13)] :: sx_T) ({ frames := 7, cells := 1, slots := 6, locals := 167 } : Room) (sx_PcT C M0 [.ref (sx_ad C 0 0), .long a1, .int a3, .ref (sx_ad C 30 0)]) (sx_Q C (some (.int r)) M') 1 6 (sx_A C) := by
  refine va_MetW (cc := cL_simulate) (maxL := 6) (ret := some .int) (by decide) rfl ?_
  intro p e s m args below meth c s₁ B hml hv
  obtain ⟨rfl, hz, hP, hK, hT⟩ := hv
  have hts0 := atoms_spec B.pre
  have htab := vx_table (x := yL_simulate) B (hts0 _ List.mem_cons_self)
  have hl := lv_entry ([.ref (sx_ad C 0 0), .long a1, .int a3, .ref (sx_ad C 30 0)]) (n := 6) (Nat.le_of_ble_eq_true rfl)
  rw [lg_entry_eq]
  generalize (lg_sl ([.ref (sx_ad C 0 0), .long a1, .int a3, .ref (sx_ad C 30 0)]) ++ List.replicate (6 - (lg_sl ([.ref (sx_ad C 0 0), .long a1, .int a3, .ref (sx_ad C 30 0)])).length) Slot.unset).toArray = ls at hl ⊢
  exact wk_L_simulate ⟨B.exec, B.bytes, hml, findClass_of_methodNamed B.named, fun w hw => hts0 w (List.mem_cons_of_mem _ hw), hK⟩ B.returns B.notSynchronized hG hz hT hst htab ⟨Nat.le_refl _, Nat.le_refl _⟩ ⟨Nat.le_refl _, Nat.le_refl _⟩ a1 a3 M0 r M' h hl hP va_S.rf
theorem clW_L_186 (X : sx_X C p m c cc nL s args RL) (hT : sx_thr C s) (hst : l.stackTraces = false) (hG : sx_G C) (hP : sx_W C M0 H) (hz : sx_sz C ≤ s.heap.size) (hS : va_S (sx_A C) s.heap H locs) {a1 : Int64} {a3 : Int32} {r : Int32} {M' : sx_M} (h : fL_simulate a1 a3 M0 = some (r, M')) (hsz : ls.size = nL) (hdg : decode cc pc = .ok (.invokestatic 186, 3)) (hcs : cells + 1 ≤ R.cells ∧ slots + 6 ≤ R.slots) (hR : 7 + 1 ≤ R.frames ∧ 8 + (6 + 11) + 167 ≤ R.locals) (hrest : (rest.map fun v => v.category).sum ≤ 8) (kk : ∀ (H1 : Heap) (locs1 : List Loc), sx_W C M' H1 → va_S (sx_A C) s.heap H1 locs1 → W p l e R s m args below meth c H1 locs1 (cells + 1) (slots + 6) Q (F0 m (pc + 3) ls (.int r :: rest))) : W p l e R s m args below meth c H locs cells slots Q (F0 m pc ls (.ref (sx_ad C 30 0) :: .int a3 :: .long a1 :: .ref (sx_ad C 0 0) :: rest)) :=
  sx_callSW (n := 4) (As := [.ref (sx_ad C 0 0), .long a1, .int a3, .ref (sx_ad C 30 0)]) X hT hP hz hS (sx_goodSW tw_933 tw_934 tw_63 tw_935) (by decide +kernel) rfl rfl hR (ct_L_simulate l hst C hG a1 a3 M0 r M' h) rfl rfl hrest hsz hdg hcs kk
-- StringShedLaw.save
def fL_save (a1 : Int32) (M0 : sx_M) : Option (Int32 × sx_M) :=
  sx_b2 (f7_save a1 M0) fun o M1 => o.elim (fun k => if k = 0 then some ((1 : Int32), M1) else none)
    (fun v => if sx_in (0 : Int32) 1 then sx_bd (sx_setL M1 30 0 ((0 : Int32)).toNatClampNeg v.toInt64) fun M2 => some ((0 : Int32), M2) else none)
set_option maxRecDepth 100000 in
set_option maxHeartbeats 4000000 in
theorem wk_L_save (X : sx_X C p m c cL_save 4 s args RL) (hr : meth.sig.returnType = some .int) (hlocks : meth.locks = false) (hG : sx_G C) (hz : sx_sz C ≤ s.heap.size) (hT : sx_thr C s) (hst : l.stackTraces = false) (htab : c.exceptionTable.toList = [⟨0, 9, 12, 28⟩]) (hcs : 1 ≤ R.cells ∧ 6 ≤ R.slots) (hR : 7 ≤ R.frames ∧ 104 ≤ R.locals) (a1 : Int32) (M0 : sx_M) (r : Int32) (M' : sx_M) (h : fL_save a1 M0 = some (r, M')) (hl : lv_has ls 4 [(0, .ref (sx_ad C 0 0)), (1, .int a1), (2, .ref (sx_ad C 30 0))]) (hP : sx_W C M0 H) (hS : va_S (sx_A C) s.heap H locs) : W p l e R s m args below meth c H locs 0 0 (MQ below (sx_Q C (some (.int r)) M') args s 1 6 (sx_A C)) (F0 m 0 ls []) := by
  obtain ⟨hx, hb, hml, hown, hts, hK⟩ := id X
  rw [fL_save] at h
  obtain ⟨o1, M1, e1, h⟩ := sx_bnd2 h
  refine lv_aload_n hx hb dL_save_0 rfl (lv_at hl 2 rfl) ?_
  refine lv_iconst (v := 0) hx hb dL_save_1 (by decide) ?_
  refine lv_aload_n hx hb dL_save_2 rfl (lv_at hl 0 rfl) ?_
  refine lv_iload_n hx hb dL_save_3 rfl (lv_at hl 1 rfl) ?_
  refine clT_L_82 X hT hst hG hP hz hS e1 hl.1 dL_save_4 ⟨Nat.le_trans (by decide) hcs.1, Nat.le_trans (by decide) hcs.2⟩ ⟨Nat.le_trans (by decide) hR.1, Nat.le_trans (by decide) hR.2⟩ (Nat.le_of_ble_eq_true rfl) (fun k ce q9 H locs ho hP hS g1 g2 g3 => ?_) (fun v H locs ho hP hS => ?_)
  · subst ho
    replace h : (if k = 0 then some ((1 : Int32), M1) else none) = some (r, M') := h
    by_cases c0 : k = 0
    · subst c0
      replace h := sx_ifp h rfl
      refine vx_catch (own := RL) (name := "java/lang/IndexOutOfBoundsException") (E := "java/lang/IndexOutOfBoundsException") hown [] ⟨0, 9, 12, 28⟩ [] htab (fun z hz => absurd hz List.not_mem_nil) (by decide) (by decide) (hts _ tw_680) (va_Nw.use rfl (hT.2.2.2.1 (.castable "java/lang/IndexOutOfBoundsException" "java/lang/IndexOutOfBoundsException") (List.mem_of_getElem? (i := 0) rfl))) g1 g2 g3 ?_
      refine lv_astore_n (lv' := [(3, .ref q9), (0, .ref (sx_ad C 0 0)), (1, .int a1), (2, .ref (sx_ad C 30 0))]) hx hb dL_save_12 rfl hl (by decide) rfl (fun ls hl => ?_)
      refine lv_iconst (v := 1) hx hb dL_save_13 (by decide) ?_
      exact W.widen (by decide) (by decide) (sx_wret X hr hlocks hS hP h dL_save_14)
    replace h := sx_ifn h c0
    cases h
  · subst ho
    replace h : (if sx_in (0 : Int32) 1 then sx_bd (sx_setL M1 30 0 ((0 : Int32)).toNatClampNeg v.toInt64) fun M2 => some ((0 : Int32), M2) else none) = some (r, M') := h
    refine lv_i2l (v := v.toInt64) hx hb dL_save_7 rfl ?_
    refine sx_last X hG hP hS 30 0 1 (by decide) (fun _ _ => rfl) dL_save_8 h (fun M2 H locs h hP hS => ?_)
    refine lv_goto (tgt := 15) hx hb dL_save_9 (by decide) ?_
    refine lv_iconst (v := 0) hx hb dL_save_15 (by decide) ?_
    exact W.widen (by decide) (by decide) (sx_wret X hr hlocks hS hP h dL_save_16)
set_option maxRecDepth 100000 in
theorem ct_L_save (l : Launch) (hst : l.stackTraces = false) (C : sx_C) (hG : sx_G C) (a1 : Int32) (M0 : sx_M) (r : Int32) (M' : sx_M) (h : fL_save a1 M0 = some (r, M')) : Met l yL_save (.codeWith yL_save cL_save 4 (some .int) [(0, 9, 12, 28)] :: sx_T) ({ frames := 7, cells := 1, slots := 6, locals := 104 } : Room) (sx_PcT C M0 [.ref (sx_ad C 0 0), .int a1, .ref (sx_ad C 30 0)]) (sx_Q C (some (.int r)) M') 1 6 (sx_A C) := by
  refine va_MetW (cc := cL_save) (maxL := 4) (ret := some .int) (by decide) rfl ?_
  intro p e s m args below meth c s₁ B hml hv
  obtain ⟨rfl, hz, hP, hK, hT⟩ := hv
  have hts0 := atoms_spec B.pre
  have htab := vx_table (x := yL_save) B (hts0 _ List.mem_cons_self)
  have hl := lv_entry ([.ref (sx_ad C 0 0), .int a1, .ref (sx_ad C 30 0)]) (n := 4) (Nat.le_of_ble_eq_true rfl)
  rw [lg_entry_eq]
  generalize (lg_sl ([.ref (sx_ad C 0 0), .int a1, .ref (sx_ad C 30 0)]) ++ List.replicate (4 - (lg_sl ([.ref (sx_ad C 0 0), .int a1, .ref (sx_ad C 30 0)])).length) Slot.unset).toArray = ls at hl ⊢
  exact wk_L_save ⟨B.exec, B.bytes, hml, findClass_of_methodNamed B.named, fun w hw => hts0 w (List.mem_cons_of_mem _ hw), hK⟩ B.returns B.notSynchronized hG hz hT hst htab ⟨Nat.le_refl _, Nat.le_refl _⟩ ⟨Nat.le_refl _, Nat.le_refl _⟩ a1 M0 r M' h hl hP va_S.rf
theorem clW_L_190 (X : sx_X C p m c cc nL s args RL) (hT : sx_thr C s) (hst : l.stackTraces = false) (hG : sx_G C) (hP : sx_W C M0 H) (hz : sx_sz C ≤ s.heap.size) (hS : va_S (sx_A C) s.heap H locs) {a1 : Int32} {r : Int32} {M' : sx_M} (h : fL_save a1 M0 = some (r, M')) (hsz : ls.size = nL) (hdg : decode cc pc = .ok (.invokestatic 190, 3)) (hcs : cells + 1 ≤ R.cells ∧ slots + 6 ≤ R.slots) (hR : 7 + 1 ≤ R.frames ∧ 8 + (4 + 11) + 104 ≤ R.locals) (hrest : (rest.map fun v => v.category).sum ≤ 8) (kk : ∀ (H1 : Heap) (locs1 : List Loc), sx_W C M' H1 → va_S (sx_A C) s.heap H1 locs1 → W p l e R s m args below meth c H1 locs1 (cells + 1) (slots + 6) Q (F0 m (pc + 3) ls (.int r :: rest))) : W p l e R s m args below meth c H locs cells slots Q (F0 m pc ls (.ref (sx_ad C 30 0) :: .int a1 :: .ref (sx_ad C 0 0) :: rest)) :=
  sx_callSW (n := 3) (As := [.ref (sx_ad C 0 0), .int a1, .ref (sx_ad C 30 0)]) X hT hP hz hS (sx_goodSW tw_949 tw_950 tw_63 tw_951) (by decide +kernel) rfl rfl hR (ct_L_save l hst C hG a1 M0 r M' h) rfl rfl hrest hsz hdg hcs kk
-- StringShedLaw.restore
def fL_restore (a1 : Int32) (M0 : sx_M) : Option (Int32 × sx_M) :=
  sx_b2 (f7_restore a1 M0) fun o M1 => o.elim (fun k => if k = 0 then some ((1 : Int32), M1) else if k = 2 then some ((2 : Int32), M1) else none)
    (fun v => if sx_in (0 : Int32) 1 then sx_bd (sx_setL M1 30 0 ((0 : Int32)).toNatClampNeg v.toInt64) fun M2 => some ((0 : Int32), M2) else none)
set_option maxRecDepth 100000 in
set_option maxHeartbeats 4000000 in
theorem wk_L_restore (X : sx_X C p m c cL_restore 4 s args RL) (hr : meth.sig.returnType = some .int) (hlocks : meth.locks = false) (hG : sx_G C) (hz : sx_sz C ≤ s.heap.size) (hT : sx_thr C s) (hst : l.stackTraces = false) (htab : c.exceptionTable.toList = [⟨0, 9, 12, 28⟩, ⟨0, 9, 15, 15⟩]) (hcs : 1 ≤ R.cells ∧ 6 ≤ R.slots) (hR : 7 ≤ R.frames ∧ 103 ≤ R.locals) (a1 : Int32) (M0 : sx_M) (r : Int32) (M' : sx_M) (h : fL_restore a1 M0 = some (r, M')) (hl : lv_has ls 4 [(0, .ref (sx_ad C 0 0)), (1, .int a1), (2, .ref (sx_ad C 30 0))]) (hP : sx_W C M0 H) (hS : va_S (sx_A C) s.heap H locs) : W p l e R s m args below meth c H locs 0 0 (MQ below (sx_Q C (some (.int r)) M') args s 1 6 (sx_A C)) (F0 m 0 ls []) := by
  obtain ⟨hx, hb, hml, hown, hts, hK⟩ := id X
  rw [fL_restore] at h
  obtain ⟨o1, M1, e1, h⟩ := sx_bnd2 h
  refine lv_aload_n hx hb dL_restore_0 rfl (lv_at hl 2 rfl) ?_
  refine lv_iconst (v := 0) hx hb dL_restore_1 (by decide) ?_
  refine lv_aload_n hx hb dL_restore_2 rfl (lv_at hl 0 rfl) ?_
  refine lv_iload_n hx hb dL_restore_3 rfl (lv_at hl 1 rfl) ?_
  refine clT_L_85 X hT hst hG hP hz hS e1 hl.1 dL_restore_4 ⟨Nat.le_trans (by decide) hcs.1, Nat.le_trans (by decide) hcs.2⟩ ⟨Nat.le_trans (by decide) hR.1, Nat.le_trans (by decide) hR.2⟩ (Nat.le_of_ble_eq_true rfl) (fun k ce q9 H locs ho hP hS g1 g2 g3 => ?_) (fun v H locs ho hP hS => ?_)
  · subst ho
    replace h : (if k = 0 then some ((1 : Int32), M1) else if k = 2 then some ((2 : Int32), M1) else none) = some (r, M') := h
    by_cases c0 : k = 0
    · subst c0
      replace h := sx_ifp h rfl
      refine vx_catch (own := RL) (name := "java/lang/IndexOutOfBoundsException") (E := "java/lang/IndexOutOfBoundsException") hown [] ⟨0, 9, 12, 28⟩ [⟨0, 9, 15, 15⟩] htab (fun z hz => absurd hz List.not_mem_nil) (by decide) (by decide) (hts _ tw_680) (va_Nw.use rfl (hT.2.2.2.1 (.castable "java/lang/IndexOutOfBoundsException" "java/lang/IndexOutOfBoundsException") (List.mem_of_getElem? (i := 0) rfl))) g1 g2 g3 ?_
      refine lv_astore_n (lv' := [(3, .ref q9), (0, .ref (sx_ad C 0 0)), (1, .int a1), (2, .ref (sx_ad C 30 0))]) hx hb dL_restore_12 rfl hl (by decide) rfl (fun ls hl => ?_)
      refine lv_iconst (v := 1) hx hb dL_restore_13 (by decide) ?_
      exact W.widen (by decide) (by decide) (sx_wret X hr hlocks hS hP h dL_restore_14)
    replace h := sx_ifn h c0
    by_cases c2 : k = 2
    · subst c2
      replace h := sx_ifp h rfl
      refine vx_catch (own := RL) (name := "java/lang/IllegalStateException") (E := "java/lang/IllegalStateException") hown [⟨0, 9, 12, 28⟩] ⟨0, 9, 15, 15⟩ [] htab (fun z hz => by
        simp only [List.mem_cons, List.not_mem_nil, or_false] at hz
        rcases hz with rfl
        · exact Or.inr ⟨by decide, "java/lang/IndexOutOfBoundsException", hts _ tw_680, hT.2.2.2.2 ("java/lang/IllegalStateException", "java/lang/IndexOutOfBoundsException") (by decide)⟩) (by decide) (by decide) (hts _ tw_427) (va_Nw.use rfl (hT.2.2.2.1 (.castable "java/lang/IllegalStateException" "java/lang/IllegalStateException") (List.mem_of_getElem? (i := 2) rfl))) g1 g2 g3 ?_
      refine lv_astore_n (lv' := [(3, .ref q9), (0, .ref (sx_ad C 0 0)), (1, .int a1), (2, .ref (sx_ad C 30 0))]) hx hb dL_restore_15 rfl hl (by decide) rfl (fun ls hl => ?_)
      refine lv_iconst (v := 2) hx hb dL_restore_16 (by decide) ?_
      exact W.widen (by decide) (by decide) (sx_wret X hr hlocks hS hP h dL_restore_17)
    replace h := sx_ifn h c2
    cases h
  · subst ho
    replace h : (if sx_in (0 : Int32) 1 then sx_bd (sx_setL M1 30 0 ((0 : Int32)).toNatClampNeg v.toInt64) fun M2 => some ((0 : Int32), M2) else none) = some (r, M') := h
    refine lv_i2l (v := v.toInt64) hx hb dL_restore_7 rfl ?_
    refine sx_last X hG hP hS 30 0 1 (by decide) (fun _ _ => rfl) dL_restore_8 h (fun M2 H locs h hP hS => ?_)
    refine lv_goto (tgt := 18) hx hb dL_restore_9 (by decide) ?_
    refine lv_iconst (v := 0) hx hb dL_restore_18 (by decide) ?_
    exact W.widen (by decide) (by decide) (sx_wret X hr hlocks hS hP h dL_restore_19)
set_option maxRecDepth 100000 in
theorem ct_L_restore (l : Launch) (hst : l.stackTraces = false) (C : sx_C) (hG : sx_G C) (a1 : Int32) (M0 : sx_M) (r : Int32) (M' : sx_M) (h : fL_restore a1 M0 = some (r, M')) : Met l yL_restore (.codeWith yL_restore cL_restore 4 (some .int) [(0, 9, 12, 28), (0, 9, 15, 15)] :: sx_T) ({ frames := 7, cells := 1, slots := 6, locals := 103 } : Room) (sx_PcT C M0 [.ref (sx_ad C 0 0), .int a1, .ref (sx_ad C 30 0)]) (sx_Q C (some (.int r)) M') 1 6 (sx_A C) := by
  refine va_MetW (cc := cL_restore) (maxL := 4) (ret := some .int) (by decide) rfl ?_
  intro p e s m args below meth c s₁ B hml hv
  obtain ⟨rfl, hz, hP, hK, hT⟩ := hv
  have hts0 := atoms_spec B.pre
  have htab := vx_table (x := yL_restore) B (hts0 _ List.mem_cons_self)
  have hl := lv_entry ([.ref (sx_ad C 0 0), .int a1, .ref (sx_ad C 30 0)]) (n := 4) (Nat.le_of_ble_eq_true rfl)
  rw [lg_entry_eq]
  generalize (lg_sl ([.ref (sx_ad C 0 0), .int a1, .ref (sx_ad C 30 0)]) ++ List.replicate (4 - (lg_sl ([.ref (sx_ad C 0 0), .int a1, .ref (sx_ad C 30 0)])).length) Slot.unset).toArray = ls at hl ⊢
  exact wk_L_restore ⟨B.exec, B.bytes, hml, findClass_of_methodNamed B.named, fun w hw => hts0 w (List.mem_cons_of_mem _ hw), hK⟩ B.returns B.notSynchronized hG hz hT hst htab ⟨Nat.le_refl _, Nat.le_refl _⟩ ⟨Nat.le_refl _, Nat.le_refl _⟩ a1 M0 r M' h hl hP va_S.rf
theorem clW_L_193 (X : sx_X C p m c cc nL s args RL) (hT : sx_thr C s) (hst : l.stackTraces = false) (hG : sx_G C) (hP : sx_W C M0 H) (hz : sx_sz C ≤ s.heap.size) (hS : va_S (sx_A C) s.heap H locs) {a1 : Int32} {r : Int32} {M' : sx_M} (h : fL_restore a1 M0 = some (r, M')) (hsz : ls.size = nL) (hdg : decode cc pc = .ok (.invokestatic 193, 3)) (hcs : cells + 1 ≤ R.cells ∧ slots + 6 ≤ R.slots) (hR : 7 + 1 ≤ R.frames ∧ 8 + (4 + 11) + 103 ≤ R.locals) (hrest : (rest.map fun v => v.category).sum ≤ 8) (kk : ∀ (H1 : Heap) (locs1 : List Loc), sx_W C M' H1 → va_S (sx_A C) s.heap H1 locs1 → W p l e R s m args below meth c H1 locs1 (cells + 1) (slots + 6) Q (F0 m (pc + 3) ls (.int r :: rest))) : W p l e R s m args below meth c H locs cells slots Q (F0 m pc ls (.ref (sx_ad C 30 0) :: .int a1 :: .ref (sx_ad C 0 0) :: rest)) :=
  sx_callSW (n := 3) (As := [.ref (sx_ad C 0 0), .int a1, .ref (sx_ad C 30 0)]) X hT hP hz hS (sx_goodSW tw_957 tw_958 tw_63 tw_959) (by decide +kernel) rfl rfl hR (ct_L_restore l hst C hG a1 M0 r M' h) rfl rfl hrest hsz hdg hcs kk
end SXW
