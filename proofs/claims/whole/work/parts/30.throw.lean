/-! THROWS: exceptions that the class makes and throws. Written by wip/whole/throw.py -/
def sx_exn : Nat → String
  | 0 => "java/lang/IndexOutOfBoundsException"
  | 1 => "java/lang/IllegalArgumentException"
  | _ => "java/lang/IllegalStateException"
def sx_txt : List (Nat × String) := [(50, "not a character code"), (61, "the text is full"), (75, "the text is not a shed"), (94, "no such number of a shed"), (158, "no such hook, part or string"), (161, "an argument is out of its range"), (163, "this can't be done now"), (106, "no such number of a part"), (127, "a place is not negative"), (139, "no state is remembered"), (214, "a script has 1 to 3 commands"), (222, "too many digits for the commands"), (232, "1 to 200 turns"), (248, "no such save slot"), (250, "nothing is saved there")]
def sx_exw : List Cond := [.castable "java/lang/IndexOutOfBoundsException" "java/lang/IndexOutOfBoundsException", .castable "java/lang/IllegalArgumentException" "java/lang/IllegalArgumentException", .castable "java/lang/IllegalStateException" "java/lang/IllegalStateException", .declares ⟨"java/lang/RuntimeException", "<init>", "(Ljava/lang/String;)V"⟩, .declares ⟨"java/lang/Exception", "<init>", "(Ljava/lang/String;)V"⟩, .declares ⟨"java/lang/Throwable", "<init>", "(Ljava/lang/String;)V"⟩]
def sx_ncs : List (String × String) := [("java/lang/IndexOutOfBoundsException", "java/lang/IllegalArgumentException"), ("java/lang/IndexOutOfBoundsException", "java/lang/IllegalStateException"), ("java/lang/IllegalArgumentException", "java/lang/IndexOutOfBoundsException"), ("java/lang/IllegalArgumentException", "java/lang/IllegalStateException"), ("java/lang/IllegalStateException", "java/lang/IndexOutOfBoundsException"), ("java/lang/IllegalStateException", "java/lang/IllegalArgumentException")]
abbrev sx_tU : String := "UNASSIGNED_STACK"
/-- what a start says of exceptions: the texts, Throwable's two statics, casts -/
def sx_thr (C : sx_C) (U : State) : Prop := (∀ q ∈ sx_txt, ∃ a : Nat, vk_R RX7 q.1 q.2 a U) ∧ vx_Zq Bundle.tN "UNASSIGNED_STACK" Bundle.steD (sx_A C) U U.heap ∧ vx_Zq Bundle.tN "SUPPRESSED_SENTINEL" Bundle.listD (sx_A C) U U.heap ∧ (∀ w ∈ sx_exw, va_Nw w U) ∧ ∀ q ∈ sx_ncs, va_Nc q.1 q.2 U
theorem sx_thr.moved {C : sx_C} {s U : State} (hW : s.WarmedH U.vm) {locs : List Loc} (hS : va_S (sx_A C) s.heap U.heap locs) (h : sx_thr C s) : sx_thr C U := by
  obtain ⟨h1, h2, h3, h4, h5⟩ := h
  refine ⟨fun q hq => ?_, (h2.moved hW.alike).kept hS.2.1, (h3.moved hW.alike).kept hS.2.1, fun w hw => ?_, fun q hq => va_Nc.moved hW.alike (h5 q hq)⟩
  · obtain ⟨a, ha⟩ := h1 q hq
    exact ⟨a, ha.warm hW⟩
  · have h0 := h4 w hw
    simp only [sx_exw, List.mem_cons, List.not_mem_nil, or_false] at hw
    rcases hw with rfl | rfl | rfl | rfl | rfl | rfl
    all_goals first | exact va_Nw.warmC hW h0 | exact va_Nw.warmD hW h0
theorem sx_exw_ot : ∀ w ∈ sx_exw, w.onTables = true := by decide +kernel
theorem sx_thr.same {C : sx_C} {s U : State} (hv : s.vm = U.vm) (hh : U.heap = s.heap) (h : sx_thr C s) : sx_thr C U := by
  have hA : s.vm.Alike U.vm := by rw [hv]; exact Vm.Alike.refl U.vm
  obtain ⟨h1, h2, h3, h4, h5⟩ := h
  refine ⟨fun q hq => ?_, by rw [hh]; exact h2.moved hA, by rw [hh]; exact h3.moved hA, fun w hw => va_Nw.same (u := s) (sx_exw_ot w hw) hv (h4 w hw), fun q hq => va_Nc.moved hA (h5 q hq)⟩
  obtain ⟨a, ha⟩ := h1 q hq
  exact ⟨a, vk_R.same hv.symm ha⟩
def sx_PcT (C : sx_C) (M : sx_M) (av : List Value) : Array Value → State → Prop := va_Pc av (fun U => sx_sz C ≤ U.heap.size ∧ sx_W C M U.heap ∧ sx_K C U ∧ sx_thr C U)
def sx_QN (C : sx_C) (o : Nat ⊕ Option Value) (M' : sx_M) : Array Value → State → Outcome → State → Prop := fun _ st oc t => (∃ rv, o = .inr rv ∧ oc = .returned rv ∧ sx_W C M' t.heap) ∧ va_F (sx_A C) st t
def sx_QX (C : sx_C) (o : Nat ⊕ Option Value) (M' : sx_M) : String → State → State → Prop := fun E st t => (∃ k, o = .inl k ∧ E = sx_exn k ∧ sx_W C M' t.heap) ∧ va_F (sx_A C) st t
def sx_oi : Nat ⊕ Int32 → Nat ⊕ Option Value
  | .inl k => .inl k
  | .inr r => .inr (some (.int r))
def sx_ou : Nat ⊕ Unit → Nat ⊕ Option Value
  | .inl k => .inl k
  | .inr _ => .inr none
theorem sx_oi_l {r : Nat ⊕ Int32} {k : Nat} (h : sx_oi r = .inl k) : r = .inl k := by
  cases r with
  | inl j => cases h; rfl
  | inr v => cases h
theorem sx_oi_r {r : Nat ⊕ Int32} {rv : Option Value} (h : sx_oi r = .inr rv) : ∃ v, r = .inr v ∧ rv = some (.int v) := by
  cases r with
  | inl j => cases h
  | inr v => cases h; exact ⟨v, rfl, rfl⟩
theorem sx_ou_l {r : Nat ⊕ Unit} {k : Nat} (h : sx_ou r = .inl k) : r = .inl k := by
  cases r with
  | inl j => cases h; rfl
  | inr v => cases h
theorem sx_ou_r {r : Nat ⊕ Unit} {rv : Option Value} (h : sx_ou r = .inr rv) : r = .inr () ∧ rv = none := by
  cases r with
  | inl j => cases h
  | inr v => cases h; exact ⟨rfl, rfl⟩
/-- a call that may throw: what it throws goes on -/
def sx_bT {α β : Type} (x : Option ((Nat ⊕ α) × sx_M)) (f : α → sx_M → Option ((Nat ⊕ β) × sx_M)) : Option ((Nat ⊕ β) × sx_M) := x.bind fun q => q.1.elim (fun k => some (.inl k, q.2)) (fun v => f v q.2)
theorem sx_bTe {α β : Type} {x : Option ((Nat ⊕ α) × sx_M)} {f : α → sx_M → Option ((Nat ⊕ β) × sx_M)} {o : Nat ⊕ β} {M' : sx_M} (h : sx_bT x f = some (o, M')) : ∃ o1 M1, x = some (o1, M1) ∧ (∀ k, o1 = .inl k → o = .inl k ∧ M' = M1) ∧ ∀ v, o1 = .inr v → f v M1 = some (o, M') := by
  obtain ⟨⟨o1, M1⟩, h1, h2⟩ := Option.bind_eq_some_iff.mp h
  refine ⟨o1, M1, h1, fun k hk => ?_, fun v hv => ?_⟩
  · subst hk
    obtain ⟨a, b⟩ := Prod.mk.inj (Option.some.inj h2)
    exact ⟨a.symm, b.symm⟩
  · subst hv
    exact h2
theorem sx_W.kept {C : sx_C} {M : sx_M} {H H1 : Heap} (h : sx_W C M H) (hq : ∀ q : Nat, q < H.size → H1[q]? = H[q]?) : sx_W C M H1 := fun k s hs => (h k s hs).kept (hq _ (h k s hs).lt)
theorem sx_blindT (C : sx_C) (M : sx_M) (av : List Value) : FrameBlind (sx_PcT C M av) := fun a U g mk q => by
  obtain ⟨q0, q1, qP, qK, qT⟩ := q
  exact ⟨q0, q1, qP, sx_K.same (s := U) (U := U.calling g mk a) rfl qK, sx_thr.same (s := U) (U := U.calling g mk a) rfl rfl qT⟩
section SXT
variable {p : Program} {l : Launch} {e : Env} {R : Room} {s : State} {m : MethodId} {args : Array Value} {below : List Frame} {meth : Method} {c : Code} {H : Heap} {locs : List Loc} {cells slots : Nat} {Q : State → Prop}
variable {C : sx_C} {M M1 M' : sx_M} {cc : ByteArray} {nL : Nat} {own : String} {pc : Nat} {ls : Array Slot} {rest st0 : List Value} {H0 : Heap} {mc ms MC MS : Nat} {o o1 : Nat ⊕ Option Value} {a : Array Value}
theorem sx_retT (hr : vx_Run p l e R s m args below meth c H locs cells slots mc ms (F0 m pc ls st0) rest (sx_QN C o M1 a) (sx_QX C o M1) (sx_A C)) (hS : va_S (sx_A C) H0 H locs)
    (kx : ∀ (k : Nat) (ce : Cell) (q9 : Addr) (H1 : Heap) (locs1 : List Loc), o = .inl k → sx_W C M1 H1 → va_S (sx_A C) H0 H1 locs1 → H1[q9]? = some ce → ce.vm = .none → s.vm.findClass (sx_exn k) = some ce.cls → vx_W p l e R s m args below meth c H1 locs1 (cells + mc) (slots + ms) Q (F0 m pc ls rest) q9)
    (kk : ∀ (rv : Option Value) (H1 : Heap) (locs1 : List Loc), o = .inr rv → sx_W C M1 H1 → va_S (sx_A C) H0 H1 locs1 → W p l e R s m args below meth c H1 locs1 (cells + mc) (slots + ms) Q (F0 m (pc + 3) ls (rv.toList ++ rest))) : W p l e R s m args below meth c H locs cells slots Q (F0 m pc ls st0) := by
  intro T hT X
  rcases hr T hT X with ⟨v, st₀, t, T', L, h0, X', hL, e1, e2, ⟨⟨rv, ho, hv, hW⟩, hF⟩, st⟩ | ⟨q, st₀, t, T', L, E, ce, h0, X', hL, e1, e2, ⟨⟨k, ho, hE, hW⟩, hF⟩, hce, hcv, hcl, st⟩
  · cases hv
    obtain ⟨k1, k2, k3⟩ := vx_keep h0 e1 hS (fun _ _ h => h) (fun _ h => h) hL hF
    obtain ⟨t2, a1, b1⟩ := kk v T'.heap (locs ++ L) ho (by rw [e1]; exact hW) k3 T' rfl X'
    exact ⟨t2, st t2 a1, b1⟩
  · obtain ⟨k1, k2, k3⟩ := vx_keep h0 e1 hS (fun _ _ h => h) (fun _ h => h) hL hF
    subst hE
    obtain ⟨t2, a1, b1⟩ := kx k ce q T'.heap (locs ++ L) ho (by rw [e1]; exact hW) k3 (by rw [e1]; exact hce) hcv hcl T' rfl X'
    exact ⟨t2, st.trans a1, b1⟩
/-- it isn't caught here -/
theorem sx_out (hne : ∀ x ∈ c.exceptionTable.toList, False) (hlocks : meth.locks = false) (hS : va_S (sx_A C) s.heap H locs) (hP : sx_W C M H) {k : Nat} (ho : o = .inl k) {ce : Cell} {q9 : Addr} (h1 : H[q9]? = some ce) (h2 : ce.vm = .none) (h3 : s.vm.findClass (sx_exn k) = some ce.cls) (hc : cells ≤ MC) (hs : slots ≤ MS) :
    vx_W p l e R s m args below meth c H locs cells slots (vx_MQ below (sx_QN C o M) (sx_QX C o M) args s MC MS (sx_A C)) (F0 m pc ls rest) q9 :=
  vx_out (fun x hx => (hne x hx).elim) hlocks h1 h2 h3 (fun t ht hA => ⟨⟨k, ho, rfl, by rw [ht]; exact hP⟩, hS.F ht⟩) hS.2.2 hc hs
theorem sx_endT (hS : va_S (sx_A C) s.heap H locs) (hP : sx_W C M H) {rv : Option Value} (ho : o = .inr rv) : ∀ t : State, t.heap = H → s.WarmedH t.vm → sx_QN C o M args s (.returned rv) t := fun t ht _ => ⟨⟨rv, ho, rfl, by rw [ht]; exact hP⟩, hS.F ht⟩
theorem sx_tiret (X : sx_X C p m c cc nL s args own) (hr : meth.sig.returnType = some .int) (hlocks : meth.locks = false) (hS : va_S (sx_A C) s.heap H locs) (hP : sx_W C M H) {v : Int32} {r : Nat ⊕ Int32} (h : some ((.inr v : Nat ⊕ Int32), M) = some (r, M')) (hdg : decode cc pc = .ok (.ireturn, 1)) (hc : cells ≤ MC) (hs : slots ≤ MS) : W p l e R s m args below meth c H locs cells slots (vx_MQ below (sx_QN C (sx_oi r) M') (sx_QX C (sx_oi r) M') args s MC MS (sx_A C)) (F0 m pc ls [.int v]) := by
  obtain ⟨rfl, rfl⟩ := Prod.mk.inj (Option.some.inj h)
  exact W.widen hc hs (vx_ret (W.iret X.1 X.2.1 hr (sx_endT hS hP rfl) hS.2.2 hdg hlocks))
theorem sx_tvret (X : sx_X C p m c cc nL s args own) (hr : meth.sig.returnType = none) (hlocks : meth.locks = false) (hS : va_S (sx_A C) s.heap H locs) (hP : sx_W C M H) {r : Nat ⊕ Unit} (h : some ((.inr () : Nat ⊕ Unit), M) = some (r, M')) (hdg : decode cc pc = .ok (.return_, 1)) (hc : cells ≤ MC) (hs : slots ≤ MS) : W p l e R s m args below meth c H locs cells slots (vx_MQ below (sx_QN C (sx_ou r) M') (sx_QX C (sx_ou r) M') args s MC MS (sx_A C)) (F0 m pc ls []) := by
  obtain ⟨rfl, rfl⟩ := Prod.mk.inj (Option.some.inj h)
  exact W.widen hc hs (vx_ret (W.vret X.1 X.2.1 hr (sx_endT hS hP rfl) hS.2.2 hdg hlocks))
theorem sx_callVT {y : MethodName} {bytes : ByteArray} {maxL n index : Nat} {ret : Option FieldType} {rm : Room} {As : List Value} (X : sx_X C p m c cc nL s args own) (hT : sx_thr C s) (hP : sx_W C M H) (hz : sx_sz C ≤ s.heap.size) (hS : va_S (sx_A C) s.heap H locs) {k0 s0 ci N : Nat} {Cn : String} {T : u_T} {fs : List Value} (hs : s0 < sx_cnt k0) (he : sx_E C (M.1 k0 s0) (M.2 k0 s0) s0 k0 = .inr (ci, fs)) (hc : vwCl[ci]? = some (Cn, T, N))
    (hG : GoodIn sx_T (wsV own index Cn y (.code y bytes maxL ret :: sx_T))) (hd : y.cls = Cn ∧ y.cls ≠ "java/lang/invoke/MethodHandle" ∧ y.cls ≠ "java/lang/invoke/VarHandle" ∧ (parseMethodDescriptor y.desc).map (fun d => d.parameters.length) = some n) (hrc : rm.cells = mc) (hrs : rm.slots = ms) (hR : rm.frames + 1 ≤ R.frames ∧ 8 + (maxL + 11) + rm.locals ≤ R.locals)
    (hM : vx_Met l y (.code y bytes maxL ret :: sx_T) rm (sx_PcT C M (.ref (sx_ad C k0 s0) :: As)) (sx_QN C o M1) (sx_QX C o M1) mc ms (sx_A C)) (hn : As.length = n) (hst : st0 = As.reverse ++ .ref (sx_ad C k0 s0) :: rest) (hrest : (rest.map fun v => v.category).sum ≤ 8) (hsz : ls.size = nL) (hdg : decode cc pc = .ok (.invokevirtual index, 3)) (hcs : cells + mc ≤ R.cells ∧ slots + ms ≤ R.slots)
    (kx : ∀ (k : Nat) (ce : Cell) (q9 : Addr) (H1 : Heap) (locs1 : List Loc), o = .inl k → sx_W C M1 H1 → va_S (sx_A C) s.heap H1 locs1 → H1[q9]? = some ce → ce.vm = .none → s.vm.findClass (sx_exn k) = some ce.cls → vx_W p l e R s m args below meth c H1 locs1 (cells + mc) (slots + ms) Q (F0 m pc ls rest) q9)
    (kk : ∀ (rv : Option Value) (H1 : Heap) (locs1 : List Loc), o = .inr rv → sx_W C M1 H1 → va_S (sx_A C) s.heap H1 locs1 → W p l e R s m args below meth c H1 locs1 (cells + mc) (slots + ms) Q (F0 m (pc + 3) ls (rv.toList ++ rest))) : W p l e R s m args below meth c H locs cells slots Q (F0 m pc ls st0) := by
  obtain ⟨hx, hb, hml, ho, hts, hK⟩ := X
  refine sx_retT (vx_runV (As := As) (rest := rest) ⟨hx, hb, hml, ho, hts⟩ hM (cwV n hts hG rfl hrc hrs hd hR) ⟨sx_blindT C M _, ?_, fun U hU hW => ⟨rfl, by rw [hU]; exact Nat.le_trans hz hS.1, by rw [hU]; exact hP, hK.moved hW, hT.moved hW (by rw [hU]; exact hS)⟩⟩ rfl hn hsz hst (lv_room hrest) hdg hcs) hS kx kk
  have := va_recv hK.1 (sx_one hP hs he) hc (q0 := 0) rfl
  exact this
theorem sx_callST {y : MethodName} {bytes : ByteArray} {maxL n index : Nat} {ret : Option FieldType} {rm : Room} {As : List Value} (X : sx_X C p m c cc nL s args own) (hT : sx_thr C s) (hP : sx_W C M H) (hz : sx_sz C ≤ s.heap.size) (hS : va_S (sx_A C) s.heap H locs)
    (hG : GoodIn sx_T (va_wsS own index y (.code y bytes maxL ret :: sx_T))) (hd : y.cls ≠ "java/lang/invoke/MethodHandle" ∧ y.cls ≠ "java/lang/invoke/VarHandle" ∧ (parseMethodDescriptor y.desc).map (fun d => d.parameters.length) = some n) (hrc : rm.cells = mc) (hrs : rm.slots = ms) (hR : rm.frames + 1 ≤ R.frames ∧ 8 + (maxL + 11) + rm.locals ≤ R.locals)
    (hM : vx_Met l y (.code y bytes maxL ret :: sx_T) rm (sx_PcT C M As) (sx_QN C o M1) (sx_QX C o M1) mc ms (sx_A C)) (hn : As.length = n) (hst : st0 = As.reverse ++ rest) (hrest : (rest.map fun v => v.category).sum ≤ 8) (hsz : ls.size = nL) (hdg : decode cc pc = .ok (.invokestatic index, 3)) (hcs : cells + mc ≤ R.cells ∧ slots + ms ≤ R.slots)
    (kx : ∀ (k : Nat) (ce : Cell) (q9 : Addr) (H1 : Heap) (locs1 : List Loc), o = .inl k → sx_W C M1 H1 → va_S (sx_A C) s.heap H1 locs1 → H1[q9]? = some ce → ce.vm = .none → s.vm.findClass (sx_exn k) = some ce.cls → vx_W p l e R s m args below meth c H1 locs1 (cells + mc) (slots + ms) Q (F0 m pc ls rest) q9)
    (kk : ∀ (rv : Option Value) (H1 : Heap) (locs1 : List Loc), o = .inr rv → sx_W C M1 H1 → va_S (sx_A C) s.heap H1 locs1 → W p l e R s m args below meth c H1 locs1 (cells + mc) (slots + ms) Q (F0 m (pc + 3) ls (rv.toList ++ rest))) : W p l e R s m args below meth c H locs cells slots Q (F0 m pc ls st0) := by
  obtain ⟨hx, hb, hml, ho, hts, hK⟩ := X
  exact sx_retT (vx_runS (As := As) (rest := rest) ⟨hx, hb, hml, ho, hts⟩ hM (va_cwS n hts hG rfl hrc hrs hd hR) ⟨sx_blindT C M _, fun U hU hW => ⟨rfl, by rw [hU]; exact Nat.le_trans hz hS.1, by rw [hU]; exact hP, hK.moved hW, hT.moved hW (by rw [hU]; exact hS)⟩⟩ rfl hn hsz hst (lv_room hrest) hdg hcs) hS kx kk
theorem sx_thw0_0 : ∀ w ∈ (vx_atS RX7 160 "java/lang/IndexOutOfBoundsException" ["java/lang/RuntimeException", "java/lang/Exception"]).filter goodWord, w ∈ lw_tbl := by decide +kernel
theorem sx_thw0_1 : ∀ w ∈ (vx_atS RX7 160 "java/lang/IndexOutOfBoundsException" ["java/lang/RuntimeException", "java/lang/Exception"]).filter (fun w => !goodWord w), w ∈ sx_exw := by decide +kernel
theorem sx_thw0_2 : ∀ w ∈ Cond.classLink RX7 156 "java/lang/IndexOutOfBoundsException" :: Cond.initialized "java/lang/IndexOutOfBoundsException" :: vx_atS RX7 160 "java/lang/IndexOutOfBoundsException" ["java/lang/RuntimeException", "java/lang/Exception"], vx_ot w = true := by decide +kernel
theorem sx_thw0 (X : sx_X C p m c cc nL s args own) (hT : sx_thr C s) : ∀ w ∈ vx_atS RX7 160 "java/lang/IndexOutOfBoundsException" ["java/lang/RuntimeException", "java/lang/Exception"], w.before args s = true :=
  vx_hat (fun w hw => X.2.2.2.2.1 w (List.mem_filter.mpr ⟨sx_thw0_0 w hw, (List.mem_filter.mp hw).2⟩)) sx_thw0_1 (fun w hw => va_Nw.use (sx_exw_ot w hw) (hT.2.2.2.1 w hw))
theorem sx_throw0 (X : sx_X C p m c cc nL s args RX7) (hT : sx_thr C s) (hl : l.stackTraces = false) (hne : ∀ x ∈ c.exceptionTable.toList, False) (hlocks : meth.locks = false) (hz : sx_sz C ≤ s.heap.size) (hS : va_S (sx_A C) s.heap H locs) (hP : sx_W C M H) (hsize : ls.size = nL) {is : Nat} {text : String} (htx : (is, text) ∈ sx_txt)
    (d0 : decode cc pc = .ok (.new 156, 3)) (d3 : decode cc (pc + 3) = .ok (.dup, 1)) (d4 : decode cc (pc + 4) = .ok (.ldc is, 2)) (d6 : decode cc (pc + 6) = .ok (.invokespecial 160, 3)) (d9 : decode cc (pc + 9) = .ok (.athrow, 1)) (hR : 6 ≤ R.frames ∧ 82 ≤ R.locals) (hcs : cells + 1 ≤ R.cells ∧ slots + 6 ≤ R.slots) (ho : o = .inl 0) (hc : cells + 1 ≤ MC) (hs : slots + 6 ≤ MS) : W p l e R s m args below meth c H locs cells slots (vx_MQ below (sx_QN C o M) (sx_QX C o M) args s MC MS (sx_A C)) (F0 m pc ls []) := by
  obtain ⟨sa, hsa⟩ := hT.1 _ htx
  refine vx_throwS (own := RX7) (cls := "java/lang/IndexOutOfBoundsException") (text := text) (names := ["java/lang/RuntimeException", "java/lang/Exception"]) (A := sx_A C) (sa := sa) X.1 X.2.1 hl X.2.2.2.1 (by decide +kernel) (by decide +kernel) (X.2.2.2.2.1 _ tw_689) (X.2.2.2.2.1 _ tw_78) hsa (sx_thw0 X hT) sx_thw0_2 hT.2.1 hT.2.2.1 hS (hsize.trans X.2.2.1.symm) d0 d3 d4 d6 d9 (fun x hx => (hne x hx).elim) (Nat.lt_of_lt_of_le (by decide) hR.1) (Nat.le_trans (by decide) hR.2) hcs.1 hcs.2 hlocks (fun t hA h1 h2 => ⟨⟨0, ho, rfl, hP.kept h2⟩, ?_⟩) hS.2.2 hc hs
  exact ⟨Nat.le_trans hS.1 h1, fun q g1 g2 => (h2 q (Nat.lt_of_lt_of_le g1 hS.1)).trans (hS.2.1 q g1 g2)⟩
theorem sx_thw1_0 : ∀ w ∈ (vx_atS RX7 52 "java/lang/IllegalArgumentException" ["java/lang/RuntimeException", "java/lang/Exception"]).filter goodWord, w ∈ lw_tbl := by decide +kernel
theorem sx_thw1_1 : ∀ w ∈ (vx_atS RX7 52 "java/lang/IllegalArgumentException" ["java/lang/RuntimeException", "java/lang/Exception"]).filter (fun w => !goodWord w), w ∈ sx_exw := by decide +kernel
theorem sx_thw1_2 : ∀ w ∈ Cond.classLink RX7 48 "java/lang/IllegalArgumentException" :: Cond.initialized "java/lang/IllegalArgumentException" :: vx_atS RX7 52 "java/lang/IllegalArgumentException" ["java/lang/RuntimeException", "java/lang/Exception"], vx_ot w = true := by decide +kernel
theorem sx_thw1 (X : sx_X C p m c cc nL s args own) (hT : sx_thr C s) : ∀ w ∈ vx_atS RX7 52 "java/lang/IllegalArgumentException" ["java/lang/RuntimeException", "java/lang/Exception"], w.before args s = true :=
  vx_hat (fun w hw => X.2.2.2.2.1 w (List.mem_filter.mpr ⟨sx_thw1_0 w hw, (List.mem_filter.mp hw).2⟩)) sx_thw1_1 (fun w hw => va_Nw.use (sx_exw_ot w hw) (hT.2.2.2.1 w hw))
theorem sx_throw1 (X : sx_X C p m c cc nL s args RX7) (hT : sx_thr C s) (hl : l.stackTraces = false) (hne : ∀ x ∈ c.exceptionTable.toList, False) (hlocks : meth.locks = false) (hz : sx_sz C ≤ s.heap.size) (hS : va_S (sx_A C) s.heap H locs) (hP : sx_W C M H) (hsize : ls.size = nL) {is : Nat} {text : String} (htx : (is, text) ∈ sx_txt)
    (d0 : decode cc pc = .ok (.new 48, 3)) (d3 : decode cc (pc + 3) = .ok (.dup, 1)) (d4 : decode cc (pc + 4) = .ok (.ldc is, 2)) (d6 : decode cc (pc + 6) = .ok (.invokespecial 52, 3)) (d9 : decode cc (pc + 9) = .ok (.athrow, 1)) (hR : 6 ≤ R.frames ∧ 82 ≤ R.locals) (hcs : cells + 1 ≤ R.cells ∧ slots + 6 ≤ R.slots) (ho : o = .inl 1) (hc : cells + 1 ≤ MC) (hs : slots + 6 ≤ MS) : W p l e R s m args below meth c H locs cells slots (vx_MQ below (sx_QN C o M) (sx_QX C o M) args s MC MS (sx_A C)) (F0 m pc ls []) := by
  obtain ⟨sa, hsa⟩ := hT.1 _ htx
  refine vx_throwS (own := RX7) (cls := "java/lang/IllegalArgumentException") (text := text) (names := ["java/lang/RuntimeException", "java/lang/Exception"]) (A := sx_A C) (sa := sa) X.1 X.2.1 hl X.2.2.2.1 (by decide +kernel) (by decide +kernel) (X.2.2.2.2.1 _ tw_432) (X.2.2.2.2.1 _ tw_75) hsa (sx_thw1 X hT) sx_thw1_2 hT.2.1 hT.2.2.1 hS (hsize.trans X.2.2.1.symm) d0 d3 d4 d6 d9 (fun x hx => (hne x hx).elim) (Nat.lt_of_lt_of_le (by decide) hR.1) (Nat.le_trans (by decide) hR.2) hcs.1 hcs.2 hlocks (fun t hA h1 h2 => ⟨⟨1, ho, rfl, hP.kept h2⟩, ?_⟩) hS.2.2 hc hs
  exact ⟨Nat.le_trans hS.1 h1, fun q g1 g2 => (h2 q (Nat.lt_of_lt_of_le g1 hS.1)).trans (hS.2.1 q g1 g2)⟩
theorem sx_thw2_0 : ∀ w ∈ (vx_atS RX7 63 "java/lang/IllegalStateException" ["java/lang/RuntimeException", "java/lang/Exception"]).filter goodWord, w ∈ lw_tbl := by decide +kernel
theorem sx_thw2_1 : ∀ w ∈ (vx_atS RX7 63 "java/lang/IllegalStateException" ["java/lang/RuntimeException", "java/lang/Exception"]).filter (fun w => !goodWord w), w ∈ sx_exw := by decide +kernel
theorem sx_thw2_2 : ∀ w ∈ Cond.classLink RX7 59 "java/lang/IllegalStateException" :: Cond.initialized "java/lang/IllegalStateException" :: vx_atS RX7 63 "java/lang/IllegalStateException" ["java/lang/RuntimeException", "java/lang/Exception"], vx_ot w = true := by decide +kernel
theorem sx_thw2 (X : sx_X C p m c cc nL s args own) (hT : sx_thr C s) : ∀ w ∈ vx_atS RX7 63 "java/lang/IllegalStateException" ["java/lang/RuntimeException", "java/lang/Exception"], w.before args s = true :=
  vx_hat (fun w hw => X.2.2.2.2.1 w (List.mem_filter.mpr ⟨sx_thw2_0 w hw, (List.mem_filter.mp hw).2⟩)) sx_thw2_1 (fun w hw => va_Nw.use (sx_exw_ot w hw) (hT.2.2.2.1 w hw))
theorem sx_throw2 (X : sx_X C p m c cc nL s args RX7) (hT : sx_thr C s) (hl : l.stackTraces = false) (hne : ∀ x ∈ c.exceptionTable.toList, False) (hlocks : meth.locks = false) (hz : sx_sz C ≤ s.heap.size) (hS : va_S (sx_A C) s.heap H locs) (hP : sx_W C M H) (hsize : ls.size = nL) {is : Nat} {text : String} (htx : (is, text) ∈ sx_txt)
    (d0 : decode cc pc = .ok (.new 59, 3)) (d3 : decode cc (pc + 3) = .ok (.dup, 1)) (d4 : decode cc (pc + 4) = .ok (.ldc is, 2)) (d6 : decode cc (pc + 6) = .ok (.invokespecial 63, 3)) (d9 : decode cc (pc + 9) = .ok (.athrow, 1)) (hR : 6 ≤ R.frames ∧ 82 ≤ R.locals) (hcs : cells + 1 ≤ R.cells ∧ slots + 6 ≤ R.slots) (ho : o = .inl 2) (hc : cells + 1 ≤ MC) (hs : slots + 6 ≤ MS) : W p l e R s m args below meth c H locs cells slots (vx_MQ below (sx_QN C o M) (sx_QX C o M) args s MC MS (sx_A C)) (F0 m pc ls []) := by
  obtain ⟨sa, hsa⟩ := hT.1 _ htx
  refine vx_throwS (own := RX7) (cls := "java/lang/IllegalStateException") (text := text) (names := ["java/lang/RuntimeException", "java/lang/Exception"]) (A := sx_A C) (sa := sa) X.1 X.2.1 hl X.2.2.2.1 (by decide +kernel) (by decide +kernel) (X.2.2.2.2.1 _ tw_504) (X.2.2.2.2.1 _ tw_76) hsa (sx_thw2 X hT) sx_thw2_2 hT.2.1 hT.2.2.1 hS (hsize.trans X.2.2.1.symm) d0 d3 d4 d6 d9 (fun x hx => (hne x hx).elim) (Nat.lt_of_lt_of_le (by decide) hR.1) (Nat.le_trans (by decide) hR.2) hcs.1 hcs.2 hlocks (fun t hA h1 h2 => ⟨⟨2, ho, rfl, hP.kept h2⟩, ?_⟩) hS.2.2 hc hs
  exact ⟨Nat.le_trans hS.1 h1, fun q g1 g2 => (h2 q (Nat.lt_of_lt_of_le g1 hS.1)).trans (hS.2.1 q g1 g2)⟩
end SXT
