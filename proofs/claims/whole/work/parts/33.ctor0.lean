/-! CONSTRUCTORS: worlds as functions from addresses; a row for each instruction that makes or fills a cell. -/
abbrev cw_F : Type := Nat → Option va_E
def cw_W (C : sx_C) (w : cw_F) (H : Heap) : Prop := ∀ (a : Nat) (e : va_E), w a = some e → sx_sz C ≤ a ∧ va_at (sx_D C) vwCl (a, e) H
def cw_K (C : sx_C) (U : State) : Prop := sx_K C U ∧ va_AO "StringShed$Shed" U
def cw_Pc (C : sx_C) (w : cw_F) (av : List Value) : Array Value → State → Prop := va_Pc av (fun U => sx_sz C ≤ U.heap.size ∧ cw_W C w U.heap ∧ cw_K C U)
def cw_Q (C : sx_C) (post : cw_F → Prop) : Array Value → State → Outcome → State → Prop := fun _ st oc t => (oc = .returned none ∧ ∃ w, cw_W C w t.heap ∧ post w) ∧ va_F (sx_A C) st t
theorem cw_K.moved {C : sx_C} {s U : State} (hW : s.WarmedH U.vm) (h : cw_K C s) : cw_K C U := ⟨h.1.moved hW, h.2.moved hW.alike⟩
theorem cw_blind (C : sx_C) (w : cw_F) (av : List Value) : FrameBlind (cw_Pc C w av) := fun a U g mk q => by
  obtain ⟨q0, q1, qP, qK, qO⟩ := q
  exact ⟨q0, q1, qP, sx_K.same (s := U) (U := U.calling g mk a) rfl qK, va_AO.moved (u := U) (U := U.calling g mk a) (Vm.Alike.refl U.vm) qO⟩
theorem cw_ne {w : cw_F} {a b : Nat} {e : va_E} (h1 : w a = some e) (h2 : w b = none) : a ≠ b := fun z => by rw [z, h2] at h1; cases h1
theorem cw_new_none {C : sx_C} {w : cw_F} {H : Heap} (h : cw_W C w H) : w H.size = none := by
  cases hw : w H.size with
  | none => rfl
  | some e => exact absurd (h _ _ hw).2.lt (Nat.lt_irrefl _)
theorem cw_W.add {C : sx_C} {w : cw_F} {H H1 : Heap} {q : Nat} {e : va_E} (h : cw_W C w H) (hz : sx_sz C ≤ q) (he : va_at (sx_D C) vwCl (q, e) H1) (o1 : ∀ a : Nat, a ≠ q → a < H.size → H1[a]? = H[a]?) : cw_W C (va_up w q (some e)) H1 := by
  intro a f hf
  by_cases haq : a = q
  · subst haq
    rw [va_up_self] at hf
    cases hf
    exact ⟨hz, he⟩
  · rw [va_up_ne _ _ haq] at hf
    obtain ⟨h1, h2⟩ := h a f hf
    exact ⟨h1, h2.kept (o1 a haq h2.lt)⟩
section CWR
variable {p : Program} {l : Launch} {e : Env} {R : Room} {s : State} {m : MethodId} {args : Array Value} {below : List Frame} {meth : Method} {c : Code} {H : Heap} {locs : List Loc} {cells slots : Nat} {Q : State → Prop}
variable {C : sx_C} {w : cw_F} {cc : ByteArray} {nL : Nat} {own : String} {pc : Nat} {ls : Array Slot} {rest st0 : List Value}
theorem cw_new (X : sx_X C p m c cc nL s args own) (hz : sx_sz C ≤ s.heap.size) (hw : cw_W C w H) (hS : va_S (sx_A C) s.heap H locs) {ci N index : Nat} {Cn : String} {T : u_T} (hc : vwCl[ci]? = some (Cn, T, N)) (hin : ∀ w ∈ u_ws Cn T N, w ∈ sx_T) (ty : Nat → FieldType) (hty : ∀ k, k < N → parseFieldDescriptor (T k).2.2.1 = some (ty k)) (hcl : Cond.classLink own index Cn ∈ sx_T) (hinst : Cond.instantiable Cn N ∈ sx_T) (hini : Cond.initialized Cn ∈ sx_T) {fs : List Value} (hfs : ∀ j, j < N → defaultValue (ty j) = vp_V fs j) (hcells : cells + 1 ≤ R.cells) (hslots : slots + N ≤ R.slots) (hdg : decode cc pc = .ok (.new index, 3))
    (kk : ∀ (q : Nat) (w1 : cw_F) (H1 : Heap), w q = none → w1 q = some (.inr (ci, fs)) → (∀ a, a ≠ q → w1 a = w a) → cw_W C w1 H1 → va_S (sx_A C) s.heap H1 locs → W p l e R s m args below meth c H1 locs (cells + 1) (slots + N) Q (F0 m (pc + 3) ls (.ref q :: rest))) : W p l e R s m args below meth c H locs cells slots Q (F0 m pc ls rest) := by
  obtain ⟨hx, hb, -, ho, hts, hK, -⟩ := X
  have hKn := hK.1 ci _ hc
  refine W.newcK hx hb ho (hts _ hcl) (hts _ hinst) (hts _ hini) rfl hdg hcells hslots hKn.2.1 rfl fun H1 kC hkC e1 z1 o1 => ?_
  refine kk H.size (va_up w H.size (some (.inr (ci, fs)))) H1 (cw_new_none hw) (va_up_self _ _ _) (fun a ha => va_up_ne _ _ ha) (hw.add (Nat.le_trans hz hS.1) ?_ (fun a _ ha => o1 a ha)) ⟨Nat.le_trans hS.1 (by omega), fun x h1 h2 => (o1 x (Nat.lt_of_lt_of_le h1 hS.1)).trans (hS.2.1 x h1 h2), hS.2.2⟩
  exact ⟨_, hc, (u_born ty hts hin hKn hkC e1 hty).to hfs⟩
theorem cw_newa (X : sx_X C p m c cc nL s args own) (hz : sx_sz C ≤ s.heap.size) (hw : cw_W C w H) (hS : va_S (sx_A C) s.heap H locs) {atype : ArrayType} {ty : FieldType} (hty : newarray.typeOf atype = ty) (harr : Cond.arrayClass ty ∈ sx_T) {cA : ClassId} (hcA : s.vm.findClass ("[" ++ ty.toString) = some cA)
    {n : Int32} {N' : Nat} {a0 : vp_A} (ha : ∀ cA : ClassId, vp_cell cA a0 = arrV cA N' (fun _ => defaultValue ty)) (hn : ¬ n < 0) (hN : n.toNatClampNeg = N') (hbytes : N' * componentBytes ty ≤ 536870912) (hcells : cells + 1 ≤ R.cells) (hslots : slots + N' ≤ R.slots) (hdg : decode cc pc = .ok (.newarray atype, 2))
    (kk : ∀ (q : Nat) (w1 : cw_F) (H1 : Heap), w q = none → w1 q = some (.inl (cA, a0)) → (∀ a, a ≠ q → w1 a = w a) → cw_W C w1 H1 → va_S (sx_A C) s.heap H1 locs → W p l e R s m args below meth c H1 locs (cells + 1) (slots + N') Q (F0 m (pc + 2) ls (.ref q :: rest))) : W p l e R s m args below meth c H locs cells slots Q (F0 m pc ls (.int n :: rest)) := by
  obtain ⟨hx, hb, -, ho, hts, hK, -⟩ := X
  subst hty
  refine va_newaK hx hb (hts _ harr) rfl hdg rfl hn hN hbytes hcells hslots rfl fun H1 cA' e1 z1 o1 hAr hNm => ?_
  have hcc : cA' = cA := Option.some.inj (hNm.symm.trans hcA)
  subst hcc
  refine kk H.size (va_up w H.size (some (.inl (cA', a0)))) H1 (cw_new_none hw) (va_up_self _ _ _) (fun a ha => va_up_ne _ _ ha) (hw.add (Nat.le_trans hz hS.1) ?_ (fun a _ ha => o1 a ha)) ⟨Nat.le_trans hS.1 (by omega), fun x h1 h2 => (o1 x (Nat.lt_of_lt_of_le h1 hS.1)).trans (hS.2.1 x h1 h2), hS.2.2⟩
  show H1[H.size]? = some (vp_cell _ _)
  rw [ha]
  exact e1
theorem cw_newq (X : sx_X C p m c cc nL s args own) (hz : sx_sz C ≤ s.heap.size) (hw : cw_W C w H) (hS : va_S (sx_A C) s.heap H locs) (hO : va_AO "StringShed$Shed" s) {index : Nat} (hcl : Cond.classLink own index "StringShed$Shed" ∈ sx_T) {n : Int32} {N' : Nat} (hn : ¬ n < 0) (hN : n.toNatClampNeg = N') (hbytes : N' * 4 ≤ 536870912) (hcells : cells + 1 ≤ R.cells) (hslots : slots + N' ≤ R.slots) (hdg : decode cc pc = .ok (.anewarray index, 3))
    (kk : ∀ (q : Nat) (w1 : cw_F) (H1 : Heap), w q = none → w1 q = some (.inl (sx_cQ C, N', .inr (.inr (.inr (.inr (fun _ => none)))))) → (∀ a, a ≠ q → w1 a = w a) → cw_W C w1 H1 → va_S (sx_A C) s.heap H1 locs → W p l e R s m args below meth c H1 locs (cells + 1) (slots + N') Q (F0 m (pc + 3) ls (.ref q :: rest))) : W p l e R s m args below meth c H locs cells slots Q (F0 m pc ls (.int n :: rest)) := by
  obtain ⟨hx, hb, -, ho, hts, hK, -⟩ := X
  subst hN
  refine W.anew hx hb ho (hts _ hcl) (va_AO.use hO) rfl hdg rfl hn hbytes hcells hslots fun cA kA comp f1 f2 f3 f4 => ?_
  obtain ⟨_, _, _, _, _, f5⟩ := (hK.2 3 _ rfl).2
  have hcc : cA = sx_cQ C := Option.some.inj (f1.symm.trans f5)
  subst hcc
  generalize hH1 : H.push ({ cls := sx_cQ C, slots := Array.replicate n.toNatClampNeg .null, vm := .none } : Cell) = H1
  have z1 : H1.size = H.size + 1 := by rw [← hH1, Array.size_push]
  have e1 : H1[H.size]? = some (arrV (sx_cQ C) n.toNatClampNeg (fun _ => .null)) := by rw [← hH1, Array.getElem?_push_size, ← arrV_new]
  have o1 : ∀ q : Nat, q < H.size → H1[q]? = H[q]? := fun q hq => by rw [← hH1, Array.getElem?_push, if_neg (Nat.ne_of_lt hq)]
  refine kk H.size (va_up w H.size (some (.inl (sx_cQ C, n.toNatClampNeg, .inr (.inr (.inr (.inr (fun _ => none)))))))) H1 (cw_new_none hw) (va_up_self _ _ _) (fun a ha => va_up_ne _ _ ha) (hw.add (Nat.le_trans hz hS.1) ?_ (fun a _ ha => o1 a ha)) ⟨Nat.le_trans hS.1 (by omega), fun x h1 h2 => (o1 x (Nat.lt_of_lt_of_le h1 hS.1)).trans (hS.2.1 x h1 h2), hS.2.2⟩
  show H1[H.size]? = some (vp_cell _ _)
  rw [vp_cell_q]
  exact e1
theorem cw_put (X : sx_X C p m c cc nL s args own) (hw : cw_W C w H) (hS : va_S (sx_A C) s.heap H locs) {a ci N index j : Nat} {Cn : String} {T : u_T} {fs : List Value} {v : Value} (ha : w a = some (.inr (ci, fs))) (hc : vwCl[ci]? = some (Cn, T, N)) (hin : ∀ w ∈ u_ws Cn T N, w ∈ sx_T)
    (ty0 : Nat → FieldType) (hty : ∀ k, k < N → parseFieldDescriptor (T k).2.2.1 = some (ty0 k)) (hnm : ∀ a, a < N → ∀ b, b < N → a ≠ b → (T a).2.1 ≠ (T b).2.1) (hj : j < N) (hl : Cond.fieldLink own index (T j).1 (T j).2.1 (T j).2.2.1 ∈ sx_T) (hfin : (T j).2.2.2 = false ∨ ((T j).2.2.2 = true ∧ meth.name = "<init>" ∧ (T j).1 = own)) {ty : FieldType} (hd : parseFieldDescriptor (T j).2.2.1 = some ty) (hn : narrow ty v = v) (hfit : fits ty v = true) (hlen : j < fs.length)
    (hdg : decode cc pc = .ok (.putfield index, 3)) (kk : ∀ (w1 : cw_F) (H1 : Heap) (locs1 : List Loc), w1 a = some (.inr (ci, fs.set j v)) → (∀ b, b ≠ a → w1 b = w b) → cw_W C w1 H1 → va_S (sx_A C) s.heap H1 locs1 → W p l e R s m args below meth c H1 locs1 cells slots Q (F0 m (pc + 3) ls rest)) : W p l e R s m args below meth c H locs cells slots Q (F0 m pc ls (v :: .ref a :: rest)) := by
  obtain ⟨hx, hb, -, ho, hts, hK, -⟩ := X
  have hap := va_apart (own := own) hts hin ty0 hty hnm hK hc
  obtain ⟨hza, r, h1, cell, q1, q2, q3, q4⟩ := hw a _ ha
  have hr : r = (Cn, T, N) := Option.some.inj (h1.symm.trans hc)
  subst hr
  obtain ⟨hSl, hfc, kC, hkC, hkind⟩ := hK.1 ci _ hc
  obtain ⟨cf, kf, fi, f, hi, hsl⟩ := hSl j hj
  have hlay := hts _ (hin _ (u_in_lay hj))
  unfold u_lay at hlay
  have hst := (u_facts hfc hkC (u_lays hts hin hj) hi).1
  have fin : ∀ H' : Heap, H'[a]? = some (cell.setSlot f.slot v) → H'.size = H.size → (∀ q, q ≠ a → H'[q]? = H[q]?) → W p l e R s m args below meth c H' (locs ++ [⟨a, f.slot⟩]) cells slots Q (F0 m (pc + 3) ls rest) := by
    intro H' e1 e2 e3
    rw [hsl] at e1 ⊢
    exact kk (va_up w a (some (.inr (ci, fs.set j v)))) H' _ (va_up_self _ _ _) (fun b hb => va_up_ne _ _ hb) (hw.add hza ⟨_, hc, t_OB.to (V := updV (vp_V fs) j v) ⟨_, e1, q2, q3, t_set q4 hap hj v⟩ (fun i _ => vp_updV_set hlen v i)⟩ (fun b hb _ => e3 b hb)) (hS.put e2 e3 hza)
  rcases hfin with hfin | ⟨hfin, hin2, hdecl⟩
  · rw [if_neg (by rw [hfin]; decide)] at hlay
    have h6 := u_store hfc hkC hkind hlay hi hd hn hfit
    exact W.putK hx hb (f := f) ⟨ho, hts _ hl, ⟨_, _, _, hi⟩, hst⟩ (by rw [q2]; exact h6) q1 q3 (by rw [hsl]; exact k2_hasslot (q4 j hj)) rfl rfl hdg fin
  · rw [if_pos hfin] at hlay
    have hcf : m.cls = cf := by
      obtain ⟨_, _, c', _, _, _, -, -, hf', -, -, -, hown2, -⟩ := Cond.laysFinal_spec hlay
      have e1 : c' = cf := by have := hi.symm.trans hf'; simp at this; exact this.1.symm
      rw [hdecl] at hown2
      rw [← e1]; exact Option.some.inj (ho.symm.trans hown2)
    have h6 := u_fits hfc hkC hkind (Or.inr hlay) hi hd hn hfit
    exact W.putFinK hx hb ho (hts _ hl) hi hst hcf hin2 (by rw [q2]; exact h6) q1 q3 (by rw [hsl]; exact k2_hasslot (q4 j hj)) rfl rfl hdg fin
theorem cw_get (X : sx_X C p m c cc nL s args own) (hw : cw_W C w H) {a ci N index j : Nat} {Cn : String} {T : u_T} {fs : List Value} {v : Value} (ha : w a = some (.inr (ci, fs))) (hc : vwCl[ci]? = some (Cn, T, N)) (hin : ∀ w ∈ u_ws Cn T N, w ∈ sx_T) (hj : j < N) (hl : Cond.fieldLink own index (T j).1 (T j).2.1 (T j).2.2.1 ∈ sx_T) (hv : fs[j]? = some v) (hdg : decode cc pc = .ok (.getfield index, 3))
    (kk : W p l e R s m args below meth c H locs cells slots Q (F0 m (pc + 3) ls (v :: rest))) : W p l e R s m args below meth c H locs cells slots Q (F0 m pc ls (.ref a :: rest)) := by
  obtain ⟨hx, hb, -, ho, hts, hK, -⟩ := X
  have hP : va_P (sx_D C) vwCl [(a, .inr (ci, fs))] H := by
    intro i q hq
    have hz : i < 1 := (List.getElem?_eq_some_iff.mp hq).1
    rw [show i = 0 by omega] at hq
    cases hq
    exact (hw a _ ha).2
  exact va_get (D := sx_D C) (ref := (T j).1) hx hb hts hin ho hK hP 0 rfl hc j hj (hts _ hl) (fun _ h => h) hv hdg kk
theorem cw_astq (X : sx_X C p m c cc nL s args own) (hw : cw_W C w H) (hS : va_S (sx_A C) s.heap H locs) {a v n : Nat} {vs : List Value} {f : Nat → Option Nat} (ha : w a = some (.inl (sx_cQ C, n, .inr (.inr (.inr (.inr f)))))) (hv : w v = some (.inr (2, vs))) {i : Int32} (hin : vp_in i n) (hdg : decode cc pc = .ok (.aastore, 1))
    (kk : ∀ (w1 : cw_F) (H1 : Heap) (locs1 : List Loc), w1 a = some (.inl (sx_cQ C, n, .inr (.inr (.inr (.inr (va_up f i.toNatClampNeg (some v))))))) → (∀ b, b ≠ a → w1 b = w b) → cw_W C w1 H1 → va_S (sx_A C) s.heap H1 locs1 → W p l e R s m args below meth c H1 locs1 cells slots Q (F0 m (pc + 1) ls rest)) : W p l e R s m args below meth c H locs cells slots Q (F0 m pc ls (.ref v :: .int i :: .ref a :: rest)) := by
  obtain ⟨hx, hb, -, ho, hts, hK, -⟩ := X
  have hlt : i.toNatClampNeg < n := Nat.not_le.mp fun q => hin (Or.inr q)
  have h0 : ¬ i < 0 := fun q => hin (Or.inl q)
  obtain ⟨hza, hPa⟩ := hw a _ ha
  obtain ⟨-, r', hr', cellV, g1, g2, g3, -⟩ := hw v _ hv
  have hcls := (hK.1 2 _ rfl).2
  obtain ⟨kA, comp, k1, k2, k3, -⟩ := (hK.2 3 _ rfl).2
  have hcomp : comp = (sx_D C).1 2 := Option.some.inj (k3.symm.trans hcls.1)
  subst hcomp
  obtain ⟨kC, hkC, -⟩ := hcls.2
  refine W.aast hx hb hPa (fun q h => by cases h) (fun h => by cases h) k1 k2 rfl hkC ⟨h0, by show _ < (arrV _ _ _).slots.size; rw [arrV_size]; exact hlt⟩ g1 (fun q h => by rw [g3] at h; cases h) (by rw [g2]; exact hkC) (by rw [g2]; exact va_assign hcls) rfl rfl hdg fun H1 e z oq => ?_
  refine kk (va_up w a (some (.inl (sx_cQ C, n, .inr (.inr (.inr (.inr (va_up f i.toNatClampNeg (some v))))))))) H1 _ (va_up_self _ _ _) (fun b hb => va_up_ne _ _ hb) (hw.add hza ?_ (fun b hb _ => oq b hb)) (hS.put z oq hza)
  show H1[a]? = some (vp_cell _ _)
  rw [e]
  rw [vp_cell_q, vp_cell_q, arrV_store]
  congr 2
  funext q
  by_cases hq : q = i.toNatClampNeg
  · subst hq
    simp [updV, va_up, va_rf]
  · simp [updV, va_up, hq]
/-- behind a constructor's call -/
theorem cw_ret {post : cw_F → Prop} {a : Array Value} {mc ms : Nat} (hr : va_Run p l e R s m args below meth c H locs cells slots mc ms (F0 m pc ls st0) rest (cw_Q C post a) (sx_A C)) (hS : va_S (sx_A C) s.heap H locs)
    (kk : ∀ (w1 : cw_F) (H1 : Heap) (locs1 : List Loc), cw_W C w1 H1 → post w1 → va_S (sx_A C) s.heap H1 locs1 → W p l e R s m args below meth c H1 locs1 (cells + mc) (slots + ms) Q (F0 m (pc + 3) ls rest)) : W p l e R s m args below meth c H locs cells slots Q (F0 m pc ls st0) := by
  intro T hT X
  obtain ⟨v, st₀, t, T', L, h0, X', hL, e1, e2, ⟨⟨hv, w1, hW, hp⟩, hF⟩, st⟩ := hr T hT X
  cases hv
  obtain ⟨k1, k2, k3⟩ := vx_keep h0 e1 hS (fun _ _ h => h) (fun _ h => h) hL hF
  obtain ⟨t2, a1, b1⟩ := kk w1 T'.heap (locs ++ L) (by rw [e1]; exact hW) hp k3 T' rfl X'
  exact ⟨t2, st t2 a1, b1⟩
variable {y : MethodName} {bytes : ByteArray} {maxL index : Nat} {rm : Room} {mc ms : Nat} {post : cw_F → Prop} {b : Nat}
theorem cw_callI (X : sx_X C p m c cc nL s args own) (hO : va_AO "StringShed$Shed" s) (hz : sx_sz C ≤ s.heap.size) (hw : cw_W C w H) (hS : va_S (sx_A C) s.heap H locs)
    (hl : Cond.methodLink own index y ∈ sx_T) (hini : Cond.initialized y.cls ∈ sx_T) (hinst : Cond.instanceMethod y ∈ sx_T) (hcode : Cond.code y bytes maxL none ∈ sx_T) (hy1 : y.name = "<init>") (hd : y.cls ≠ "java/lang/invoke/MethodHandle" ∧ y.cls ≠ "java/lang/invoke/VarHandle" ∧ (parseMethodDescriptor y.desc).map (fun d => d.parameters.length) = some 0) (hrc : rm.cells = mc) (hrs : rm.slots = ms) (hR : rm.frames + 1 ≤ R.frames ∧ 8 + (maxL + 11) + rm.locals ≤ R.locals)
    (hM : Met l y (.code y bytes maxL none :: sx_T) rm (cw_Pc C w [.ref b]) (cw_Q C post) mc ms (sx_A C)) (hrest : (rest.map fun v => v.category).sum ≤ 8) (hsz : ls.size = nL) (hdg : decode cc pc = .ok (.invokespecial index, 3)) (hcs : cells + mc ≤ R.cells ∧ slots + ms ≤ R.slots)
    (kk : ∀ (w1 : cw_F) (H1 : Heap) (locs1 : List Loc), cw_W C w1 H1 → post w1 → va_S (sx_A C) s.heap H1 locs1 → W p l e R s m args below meth c H1 locs1 (cells + mc) (slots + ms) Q (F0 m (pc + 3) ls rest)) : W p l e R s m args below meth c H locs cells slots Q (F0 m pc ls (.ref b :: rest)) := by
  obtain ⟨hx, hb, hml, ho, hts, hK⟩ := X
  exact cw_ret (va_runI (As := []) (rest := rest) ⟨hx, hb, hml, ho, hts⟩ hM (cwI 0 hts (sx_goodN hcode) rfl hrc hrs (hts _ hini) (hts _ hl) (hts _ hinst) hy1 hd hR) ⟨cw_blind C w _, fun U hU hW => ⟨rfl, by rw [hU]; exact Nat.le_trans hz hS.1, by rw [hU]; exact hw, hK.moved hW, hO.moved hW.alike⟩⟩ rfl rfl hsz rfl (lv_room hrest) hdg hcs) hS kk
theorem cw_callIN (X : sx_X C p m c cc nL s args own) (hO : va_AO "StringShed$Shed" s) (hz : sx_sz C ≤ s.heap.size) (hw : cw_W C w H) (hS : va_S (sx_A C) s.heap H locs) {host : String}
    (hl : Cond.methodLinkNest own index y host ∈ sx_nest) (hini : Cond.initialized y.cls ∈ sx_T) (hinst : Cond.instanceMethod y ∈ sx_T) (hcode : Cond.code y bytes maxL none ∈ sx_T) (hy1 : y.name = "<init>") (hd : y.cls ≠ "java/lang/invoke/MethodHandle" ∧ y.cls ≠ "java/lang/invoke/VarHandle" ∧ (parseMethodDescriptor y.desc).map (fun d => d.parameters.length) = some 0) (hrc : rm.cells = mc) (hrs : rm.slots = ms) (hR : rm.frames + 1 ≤ R.frames ∧ 8 + (maxL + 11) + rm.locals ≤ R.locals)
    (hM : Met l y (.code y bytes maxL none :: sx_T) rm (cw_Pc C w [.ref b]) (cw_Q C post) mc ms (sx_A C)) (hrest : (rest.map fun v => v.category).sum ≤ 8) (hsz : ls.size = nL) (hdg : decode cc pc = .ok (.invokespecial index, 3)) (hcs : cells + mc ≤ R.cells ∧ slots + ms ≤ R.slots)
    (kk : ∀ (w1 : cw_F) (H1 : Heap) (locs1 : List Loc), cw_W C w1 H1 → post w1 → va_S (sx_A C) s.heap H1 locs1 → W p l e R s m args below meth c H1 locs1 (cells + mc) (slots + ms) Q (F0 m (pc + 3) ls rest)) : W p l e R s m args below meth c H locs cells slots Q (F0 m pc ls (.ref b :: rest)) := by
  obtain ⟨hx, hb, hml, ho, hts, hK⟩ := X
  exact cw_ret (va_runIN (host := host) (As := []) (rest := rest) ⟨hx, hb, hml, ho, hts⟩ hM ⟨va_cnB 0 hts (sx_goodN hcode) rfl hrc hrs (hK.2 _ hl) (hts _ hini) hd hR, hy1, hts _ hinst⟩ ⟨cw_blind C w _, fun U hU hW => ⟨rfl, by rw [hU]; exact Nat.le_trans hz hS.1, by rw [hU]; exact hw, hK.moved hW, hO.moved hW.alike⟩⟩ rfl rfl hsz rfl (lv_room hrest) hdg hcs) hS kk
theorem cw_vret {post : cw_F → Prop} (X : sx_X C p m c cc nL s args own) (hr : meth.sig.returnType = none) (hlocks : meth.locks = false) (hw : cw_W C w H) (hS : va_S (sx_A C) s.heap H locs) (hp : post w) (hdg : decode cc pc = .ok (.return_, 1)) : W p l e R s m args below meth c H locs cells slots (MQ below (cw_Q C post) args s cells slots (sx_A C)) (F0 m pc ls []) :=
  W.vret X.1 X.2.1 hr (fun t ht _ => ⟨⟨rfl, w, by rw [ht]; exact hw, hp⟩, hS.F ht⟩) hS.2.2 hdg hlocks
end CWR
