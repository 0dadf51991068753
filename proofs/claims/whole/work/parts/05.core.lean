/-! CORE: the system's memory by kinds of cells and their number; the world; a row for each instruction on the heap; calls. Written by wip/whole/core.py -/
abbrev sx_M : Type := (Nat → Nat → Nat → Int32) × (Nat → Nat → Nat → Int64)
/-- the memory with one int written -/
def sx_set (M : sx_M) (k s i : Nat) (v : Int32) : sx_M := (fun k' s' i' => if k' = k ∧ s' = s ∧ i' = i then v else M.1 k' s' i', M.2)
/-- the memory with one long written -/
def sx_setL (M : sx_M) (k s i : Nat) (v : Int64) : sx_M := (M.1, fun k' s' i' => if k' = k ∧ s' = s ∧ i' = i then v else M.2 k' s' i')
/-- an index inside a row -/
abbrev sx_in (i : Int32) (n : Nat) : Prop := ¬ i < 0 ∧ i.toNatClampNeg < n
theorem sx_in_v {i : Int32} {n : Nat} (h : sx_in i n) : vp_in i n := fun q => q.elim h.1 (fun z => Nat.not_lt.mpr z h.2)
def sx_bd {α β : Type} (x : α) (f : α → β) : β := f x
/-- where the cells are: addresses, the classes' numbers, the four array classes, where the law's own heap begins -/
abbrev sx_C : Type := (Nat → Nat → Nat) × va_G × ClassId × ClassId × ClassId × ClassId × Nat
abbrev sx_ad (C : sx_C) : Nat → Nat → Nat := C.1
abbrev sx_D (C : sx_C) : va_G := C.2.1
abbrev sx_cI (C : sx_C) : ClassId := C.2.2.1
abbrev sx_cZ (C : sx_C) : ClassId := C.2.2.2.1
abbrev sx_cJ (C : sx_C) : ClassId := C.2.2.2.2.1
abbrev sx_cQ (C : sx_C) : ClassId := C.2.2.2.2.2.1
abbrev sx_sz (C : sx_C) : Nat := C.2.2.2.2.2.2
def sx_A (C : sx_C) : Nat → Prop := fun q => sx_sz C ≤ q
abbrev sx_tys (C : sx_C) : List (ClassId × FieldType) := [(sx_cI C, .int), (sx_cZ C, .boolean), (sx_cJ C, .long), (sx_cQ C, .object "StringShed$Shed")]
/-- what a cell of a kind holds -/
def sx_E (C : sx_C) (f : Nat → Int32) (g : Nat → Int64) (s : Nat) : Nat → va_E
  | 0 => .inr (6, [.ref (C.1 1 0), .ref (C.1 1 1), .ref (C.1 9 0), .ref (C.1 11 0), .ref (C.1 12 0), .ref (C.1 13 0), .ref (C.1 15 0)])
  | 1 => .inr (2, [.ref (C.1 2 s), .ref (C.1 6 s), .ref (C.1 8 s), .int (f 3), .int (f 4), .int (f 5), .int (f 6), .int (f 7)])
  | 2 => .inr (3, [.ref (C.1 3 s), .ref (C.1 4 s), .ref (C.1 5 s), .int (f 3)])
  | 3 => .inl (sx_cI C, 40, .inl f)
  | 4 => .inl (sx_cI C, 40, .inl f)
  | 5 => .inl (sx_cZ C, 40, .inl f)
  | 6 => .inr (4, [.ref (C.1 7 s), .int (f 1), .int (f 2), .int (f 3), .int (f 4)])
  | 7 => .inl (sx_cI C, 24, .inl f)
  | 8 => .inl (sx_cI C, 24, .inl f)
  | 9 => .inr (1, [.ref (C.1 10 0), .int (f 1), .int (f 2)])
  | 10 => .inl (sx_cQ C, 14, .inr (.inr (.inr (.inr (fun j => some (C.1 1 (4 + j)))))))
  | 11 => .inl (sx_cQ C, 2, .inr (.inr (.inr (.inr (fun j => some (C.1 1 (2 + j)))))))
  | 12 => .inl (sx_cZ C, 2, .inl f)
  | 13 => .inr (5, [.ref (C.1 14 0), .int (f 1)])
  | 14 => .inl (sx_cI C, 120, .inl f)
  | 15 => .inr (0, [.ref (C.1 16 0), .long (g 1)])
  | 16 => .inl (sx_cI C, 24, .inl f)
  | 17 => .inr (7, [.int (f 0), .ref (C.1 18 0), .int (f 2), .int (f 3), .int (f 4), .int (f 5), .ref (C.1 19 0), .ref (C.1 20 0), .ref (C.1 21 0), .ref (C.1 22 0), .int (f 10), .ref (C.1 23 0), .ref (C.1 24 0), .ref (C.1 25 0), .ref (C.1 26 0), .ref (C.1 27 0), .ref (C.1 28 0), .ref (C.1 29 0)])
  | 18 => .inl (sx_cI C, 120, .inl f)
  | 19 => .inl (sx_cI C, 247, .inl f)
  | 20 => .inl (sx_cI C, 247, .inl f)
  | 21 => .inl (sx_cI C, 247, .inl f)
  | 22 => .inl (sx_cI C, 3458, .inl f)
  | 23 => .inl (sx_cI C, 494, .inl f)
  | 24 => .inl (sx_cZ C, 2, .inl f)
  | 25 => .inl (sx_cI C, 24, .inl f)
  | 26 => .inl (sx_cZ C, 24, .inl f)
  | 27 => .inl (sx_cZ C, 40, .inl f)
  | 28 => .inl (sx_cI C, 24, .inl f)
  | 29 => .inl (sx_cI C, 24, .inl f)
  | 30 => .inl (sx_cJ C, 1, .inr (.inl g))
  | _ => .inr (0, [])
def sx_cnt (k : Nat) : Nat := ([1, 18, 18, 18, 18, 18, 18, 18, 18, 1, 1, 1, 1, 1, 1, 1, 1, 1, 1, 1, 1, 1, 1, 1, 1, 1, 1, 1, 1, 1, 1] : List Nat).getD k 0
/-- the links of nest mates -/
def sx_nest : List Cond := [.methodLinkNest "StringShed" 11 ⟨"StringShed$Shed", "<init>", "()V"⟩ "StringShed", .methodLinkNest "StringShed$Shed" 11 ⟨"StringShed$Strings", "<init>", "()V"⟩ "StringShed", .methodLinkNest "StringShed$Shed" 20 ⟨"StringShed$Sweep", "<init>", "()V"⟩ "StringShed", .methodLinkNest "StringShed$Past" 24 ⟨"StringShed$Shed", "<init>", "()V"⟩ "StringShed", .methodLinkNest "StringShed" 36 ⟨"StringShed$Text", "<init>", "()V"⟩ "StringShed", .methodLinkNest "StringShed" 43 ⟨"StringShed$Cutter", "<init>", "()V"⟩ "StringShed", .methodLinkNest "StringShed$Shed" 64 ⟨"StringShed", "bitOf", "(I)I"⟩ "StringShed", .methodLinkNest "StringShed$Strings" 30 ⟨"StringShed", "bitOf", "(I)I"⟩ "StringShed", .methodLinkNest "StringShed$Sweep" 32 ⟨"StringShed", "bitOf", "(I)I"⟩ "StringShed", .methodLinkNest "StringShed$Cutter" 27 ⟨"StringShed", "bitOf", "(I)I"⟩ "StringShed", .fieldLinkNest "StringShed" 115 "StringShed$Shed" "strings" "LStringShed$Strings;" "StringShed", .fieldLinkNest "StringShed$Script" 41 "StringShed$Shed" "sweep" "LStringShed$Sweep;" "StringShed", .fieldLinkNest "StringShed" 191 "StringShed$Shed" "sweep" "LStringShed$Sweep;" "StringShed"]
def sx_N (U : State) : Prop := ∀ w ∈ sx_nest, va_Nw w U
def sx_K (C : sx_C) (U : State) : Prop := va_K (sx_D C) vwCl (sx_tys C) U ∧ sx_N U
/-- the world: every cell of every kind -/
def sx_W (C : sx_C) (M : sx_M) (H : Heap) : Prop := ∀ k s : Nat, s < sx_cnt k → va_at (sx_D C) vwCl (sx_ad C k s, sx_E C (M.1 k s) (M.2 k s) s k) H
/-- the addresses are apart, and of the law's own part of the heap -/
def sx_G (C : sx_C) : Prop := (∀ k s k' s' : Nat, s < sx_cnt k → s' < sx_cnt k' → sx_ad C k s = sx_ad C k' s' → k = k' ∧ s = s') ∧ ∀ k s : Nat, s < sx_cnt k → sx_sz C ≤ sx_ad C k s
/-- inside a method: the machine, the code, the words, the tables -/
def sx_X (C : sx_C) (p : Program) (m : MethodId) (c : Code) (cc : ByteArray) (nL : Nat) (s : State) (args : Array Value) (own : String) : Prop := p.tables.exec = Jvm.exec ∧ c.code = cc ∧ c.maxLocals = nL ∧ s.vm.findClass own = some m.cls ∧ (∀ w ∈ sx_T, w.before args s = true) ∧ sx_K C s
def sx_Pc (C : sx_C) (M : sx_M) (av : List Value) : Array Value → State → Prop := va_Pc av (fun U => sx_sz C ≤ U.heap.size ∧ sx_W C M U.heap ∧ sx_K C U)
def sx_Q (C : sx_C) (rv : Option Value) (M' : sx_M) : Array Value → State → Outcome → State → Prop := fun _ st oc t => (oc = .returned rv ∧ sx_W C M' t.heap) ∧ va_F (sx_A C) st t
theorem sx_N.moved {s U : State} (hW : s.WarmedH U.vm) (h : sx_N s) : sx_N U := by
  intro w hw
  have h0 := h w hw
  simp only [sx_nest, List.mem_cons, List.not_mem_nil, or_false] at hw
  rcases hw with rfl | rfl | rfl | rfl | rfl | rfl | rfl | rfl | rfl | rfl | rfl | rfl | rfl
  all_goals first | exact va_Nw.warmM hW h0 | exact va_Nw.warmF hW h0
theorem sx_K.moved {C : sx_C} {s U : State} (hW : s.WarmedH U.vm) (h : sx_K C s) : sx_K C U := ⟨va_K.moved hW.alike h.1, h.2.moved hW⟩
theorem sx_nest_good : ∀ w ∈ sx_nest, w.onTables = true := by decide +kernel
theorem sx_K.same {C : sx_C} {s U : State} (hW : s.vm = U.vm) (h : sx_K C s) : sx_K C U := ⟨va_K.moved (u := s) (U := U) (by rw [hW]; exact Vm.Alike.refl U.vm) h.1, fun w hw => va_Nw.same (sx_nest_good w hw) hW (h.2 w hw)⟩
theorem sx_E_put {C : sx_C} {M M' : sx_M} {H H1 : Heap} {k0 s0 : Nat} (hG : sx_G C) (hP : sx_W C M H) (hs : s0 < sx_cnt k0) (hM : ∀ k s, ¬ (k = k0 ∧ s = s0) → M'.1 k s = M.1 k s ∧ M'.2 k s = M.2 k s) (oq : ∀ q : Nat, q ≠ sx_ad C k0 s0 → H1[q]? = H[q]?) (he : va_at (sx_D C) vwCl (sx_ad C k0 s0, sx_E C (M'.1 k0 s0) (M'.2 k0 s0) s0 k0) H1) : sx_W C M' H1 := by
  intro k s hk
  by_cases h : k = k0 ∧ s = s0
  · obtain ⟨rfl, rfl⟩ := h
    exact he
  · rw [(hM k s h).1, (hM k s h).2]
    exact (hP k s hk).kept (oq _ (fun z => h (hG.1 k s k0 s0 hk hs z)))
theorem sx_one {C : sx_C} {M : sx_M} {H : Heap} (hP : sx_W C M H) {k s : Nat} (hs : s < sx_cnt k) {e : va_E} (he : sx_E C (M.1 k s) (M.2 k s) s k = e) : va_P (sx_D C) vwCl [(sx_ad C k s, e)] H := by
  intro i q hq
  have hz : i < 1 := (List.getElem?_eq_some_iff.mp hq).1
  rw [show i = 0 by omega] at hq
  cases hq
  rw [← he]
  exact hP k s hs
theorem sx_set_o {M : sx_M} {k0 s0 i : Nat} {v : Int32} : ∀ k s, ¬ (k = k0 ∧ s = s0) → (sx_set M k0 s0 i v).1 k s = M.1 k s ∧ (sx_set M k0 s0 i v).2 k s = M.2 k s := by
  intro k s h
  refine ⟨funext fun j => ?_, rfl⟩
  show (if k = k0 ∧ s = s0 ∧ j = i then v else M.1 k s j) = M.1 k s j
  rw [if_neg (fun q => h ⟨q.1, q.2.1⟩)]
theorem sx_setL_o {M : sx_M} {k0 s0 i : Nat} {v : Int64} : ∀ k s, ¬ (k = k0 ∧ s = s0) → (sx_setL M k0 s0 i v).1 k s = M.1 k s ∧ (sx_setL M k0 s0 i v).2 k s = M.2 k s := by
  intro k s h
  refine ⟨rfl, funext fun j => ?_⟩
  show (if k = k0 ∧ s = s0 ∧ j = i then v else M.2 k s j) = M.2 k s j
  rw [if_neg (fun q => h ⟨q.1, q.2.1⟩)]
theorem sx_set_at {M : sx_M} {k0 s0 i : Nat} {v : Int32} : (sx_set M k0 s0 i v).1 k0 s0 = upd (M.1 k0 s0) i v := by
  funext j
  show (if k0 = k0 ∧ s0 = s0 ∧ j = i then v else M.1 k0 s0 j) = if j = i then v else M.1 k0 s0 j
  simp
theorem sx_setL_at {M : sx_M} {k0 s0 i : Nat} {v : Int64} : (sx_setL M k0 s0 i v).2 k0 s0 = vp_updL (M.2 k0 s0) i v := by
  funext j
  show (if k0 = k0 ∧ s0 = s0 ∧ j = i then v else M.2 k0 s0 j) = if j = i then v else M.2 k0 s0 j
  simp
theorem sx_isb {x : Int32} (h : x = 0 ∨ x = 1) : narrow .boolean (.int x) = .int x := by
  rcases h with rfl | rfl <;> decide +kernel
theorem sx_isbf {x : Int32} (h : x = 0 ∨ x = 1) : fits .boolean (.int x) = true := by
  rcases h with rfl | rfl <;> decide +kernel
theorem sx_isbn {x : Int32} (h : x = 0 ∨ x = 1) : vp_nar .boolean x = x := by
  rcases h with rfl | rfl <;> decide +kernel
section SXR
variable {p : Program} {l : Launch} {e : Env} {R : Room} {s : State} {m : MethodId} {args : Array Value} {below : List Frame} {meth : Method} {c : Code} {H : Heap} {locs : List Loc} {cells slots : Nat} {Q : State → Prop}
variable {O : Type} {out : O} {C : sx_C} {M : sx_M} {cc : ByteArray} {nL : Nat} {own : String} {pc : Nat} {ls : Array Slot} {rest : List Value} {H0 : Heap}
theorem sx_get (X : sx_X C p m c cc nL s args own) (hP : sx_W C M H) {k0 s0 ci N index j : Nat} {Cn : String} {T : u_T} {fs : List Value} {v : Value} (hs : s0 < sx_cnt k0) (he : sx_E C (M.1 k0 s0) (M.2 k0 s0) s0 k0 = .inr (ci, fs)) (hc : vwCl[ci]? = some (Cn, T, N)) (hin : ∀ w ∈ u_ws Cn T N, w ∈ sx_T) (hj : j < N) (hl : Cond.fieldLink own index (T j).1 (T j).2.1 (T j).2.2.1 ∈ sx_T) (hv : fs[j]? = some v) (hdg : decode cc pc = .ok (.getfield index, 3))
    (kk : W p l e R s m args below meth c H locs cells slots Q (F0 m (pc + 3) ls (v :: rest))) : W p l e R s m args below meth c H locs cells slots Q (F0 m pc ls (.ref (sx_ad C k0 s0) :: rest)) := by
  obtain ⟨hx, hb, -, ho, hts, hK, -⟩ := X
  exact va_get (D := sx_D C) (ref := (T j).1) hx hb hts hin ho hK (sx_one hP hs he) 0 rfl hc j hj (hts _ hl) (fun _ h => h) hv hdg kk
theorem sx_getN (X : sx_X C p m c cc nL s args own) (hP : sx_W C M H) {k0 s0 ci N index j : Nat} {Cn host : String} {T : u_T} {fs : List Value} {v : Value} (hs : s0 < sx_cnt k0) (he : sx_E C (M.1 k0 s0) (M.2 k0 s0) s0 k0 = .inr (ci, fs)) (hc : vwCl[ci]? = some (Cn, T, N)) (hin : ∀ w ∈ u_ws Cn T N, w ∈ sx_T) (hj : j < N) (hl : Cond.fieldLinkNest own index (T j).1 (T j).2.1 (T j).2.2.1 host ∈ sx_nest) (hv : fs[j]? = some v) (hdg : decode cc pc = .ok (.getfield index, 3))
    (kk : W p l e R s m args below meth c H locs cells slots Q (F0 m (pc + 3) ls (v :: rest))) : W p l e R s m args below meth c H locs cells slots Q (F0 m pc ls (.ref (sx_ad C k0 s0) :: rest)) := by
  obtain ⟨hx, hb, -, ho, hts, hK, hN⟩ := X
  exact va_getN (D := sx_D C) (ref := (T j).1) (host := host) hx hb hts hin ho hK (sx_one hP hs he) 0 rfl hc j hj (va_Nw.use rfl (hN _ hl)) (fun _ h => h) hv hdg kk
theorem sx_put (X : sx_X C p m c cc nL s args own) (hG : sx_G C) (hP : sx_W C M H) (hS : va_S (sx_A C) H0 H locs) {M' : sx_M} {k0 s0 ci N index j : Nat} {Cn : String} {T : u_T} {fs : List Value} {v : Value} (hs : s0 < sx_cnt k0) (he : sx_E C (M.1 k0 s0) (M.2 k0 s0) s0 k0 = .inr (ci, fs)) (he' : sx_E C (M'.1 k0 s0) (M'.2 k0 s0) s0 k0 = .inr (ci, fs.set j v)) (hM : ∀ k s, ¬ (k = k0 ∧ s = s0) → M'.1 k s = M.1 k s ∧ M'.2 k s = M.2 k s) (hc : vwCl[ci]? = some (Cn, T, N)) (hin : ∀ w ∈ u_ws Cn T N, w ∈ sx_T)
    (ty0 : Nat → FieldType) (hty : ∀ k, k < N → parseFieldDescriptor (T k).2.2.1 = some (ty0 k)) (hnm : ∀ a, a < N → ∀ b, b < N → a ≠ b → (T a).2.1 ≠ (T b).2.1) (hj : j < N) (hl : Cond.fieldLink own index (T j).1 (T j).2.1 (T j).2.2.1 ∈ sx_T) (hfin : (T j).2.2.2 = false) {ty : FieldType} (hd : parseFieldDescriptor (T j).2.2.1 = some ty) (hn : narrow ty v = v) (hfit : fits ty v = true) (hlen : j < fs.length)
    (hdg : decode cc pc = .ok (.putfield index, 3)) (kk : ∀ (H1 : Heap) (locs1 : List Loc), sx_W C M' H1 → va_S (sx_A C) H0 H1 locs1 → W p l e R s m args below meth c H1 locs1 cells slots Q (F0 m (pc + 3) ls rest)) : W p l e R s m args below meth c H locs cells slots Q (F0 m pc ls (v :: .ref (sx_ad C k0 s0) :: rest)) := by
  obtain ⟨hx, hb, -, ho, hts, hK, -⟩ := X
  have hap := va_apart (own := own) hts hin ty0 hty hnm hK hc
  obtain ⟨r, h1, cell, q1, q2, q3, q4⟩ := (sx_one hP hs he) 0 _ rfl
  have hr : r = (Cn, T, N) := Option.some.inj (h1.symm.trans hc)
  subst hr
  obtain ⟨hSl, hfc, kC, hkC, hkind⟩ := hK.1 ci _ hc
  obtain ⟨cf, kf, fi, f, hi, hsl⟩ := hSl j hj
  have hlay := hts _ (hin _ (u_in_lay hj))
  unfold u_lay at hlay
  rw [if_neg (by rw [hfin]; decide)] at hlay
  have hst := (u_facts hfc hkC (u_lays hts hin hj) hi).1
  have h6 := u_store hfc hkC hkind hlay hi hd hn hfit
  refine W.putK hx hb (f := f) ⟨ho, hts _ hl, ⟨_, _, _, hi⟩, hst⟩ (by rw [q2]; exact h6) q1 q3 (by rw [hsl]; exact k2_hasslot (q4 j hj)) rfl rfl hdg fun H' e1 e2 e3 => ?_
  rw [hsl] at e1 ⊢
  refine kk H' _ (sx_E_put hG hP hs hM e3 ?_) (hS.put e2 e3 (hG.2 k0 s0 hs))
  rw [he']
  exact ⟨_, hc, t_OB.to (V := updV (vp_V fs) j v) ⟨_, e1, q2, q3, t_set q4 hap hj v⟩ (fun i _ => vp_updV_set hlen v i)⟩
theorem sx_iald (X : sx_X C p m c cc nL s args own) (hP : sx_W C M H) (k0 s0 n : Nat) (hs : s0 < sx_cnt k0) (he : ∀ f g, sx_E C f g s0 k0 = .inl (sx_cI C, n, .inl f)) {i : Int32} (hdg : decode cc pc = .ok (.iaload, 1)) {A : Int32 → Option O} (h : (if sx_in i n then sx_bd (M.1 k0 s0 i.toNatClampNeg) A else none) = some out)
    (kk : ∀ v, A v = some out → W p l e R s m args below meth c H locs cells slots Q (F0 m (pc + 1) ls (.int v :: rest))) : W p l e R s m args below meth c H locs cells slots Q (F0 m pc ls (.int i :: .ref (sx_ad C k0 s0) :: rest)) := by
  obtain ⟨hx, hb, -, ho, hts, hK, -⟩ := X
  by_cases hin : sx_in i n
  · rw [if_pos hin] at h
    exact va_iald (D := sx_D C) hx hb hK (sx_one hP hs (he _ _)) 0 0 rfl rfl (sx_in_v hin) hdg (kk _ h)
  · rw [if_neg hin] at h; cases h
theorem sx_zald (X : sx_X C p m c cc nL s args own) (hP : sx_W C M H) (k0 s0 n : Nat) (hs : s0 < sx_cnt k0) (he : ∀ f g, sx_E C f g s0 k0 = .inl (sx_cZ C, n, .inl f)) {i : Int32} (hdg : decode cc pc = .ok (.baload, 1)) {A : Int32 → Option O} (h : (if sx_in i n then sx_bd (M.1 k0 s0 i.toNatClampNeg) A else none) = some out)
    (kk : ∀ v, A v = some out → W p l e R s m args below meth c H locs cells slots Q (F0 m (pc + 1) ls (.int v :: rest))) : W p l e R s m args below meth c H locs cells slots Q (F0 m pc ls (.int i :: .ref (sx_ad C k0 s0) :: rest)) := by
  obtain ⟨hx, hb, -, ho, hts, hK, -⟩ := X
  by_cases hin : sx_in i n
  · rw [if_pos hin] at h
    exact va_zald (D := sx_D C) hx hb hK (sx_one hP hs (he _ _)) 0 1 rfl rfl (sx_in_v hin) hdg (kk _ h)
  · rw [if_neg hin] at h; cases h
theorem sx_lald (X : sx_X C p m c cc nL s args own) (hP : sx_W C M H) (k0 s0 n : Nat) (hs : s0 < sx_cnt k0) (he : ∀ f g, sx_E C f g s0 k0 = .inl (sx_cJ C, n, .inr (.inl g))) {i : Int32} (hdg : decode cc pc = .ok (.laload, 1)) {A : Int64 → Option O} (h : (if sx_in i n then sx_bd (M.2 k0 s0 i.toNatClampNeg) A else none) = some out)
    (kk : ∀ v, A v = some out → W p l e R s m args below meth c H locs cells slots Q (F0 m (pc + 1) ls (.long v :: rest))) : W p l e R s m args below meth c H locs cells slots Q (F0 m pc ls (.int i :: .ref (sx_ad C k0 s0) :: rest)) := by
  obtain ⟨hx, hb, -, ho, hts, hK, -⟩ := X
  by_cases hin : sx_in i n
  · rw [if_pos hin] at h
    exact va_lald (D := sx_D C) hx hb hK (sx_one hP hs (he _ _)) 0 2 rfl rfl (sx_in_v hin) hdg (kk _ h)
  · rw [if_neg hin] at h; cases h
theorem sx_aald (X : sx_X C p m c cc nL s args own) (hP : sx_W C M H) (k0 s0 n k1 b : Nat) (hs : s0 < sx_cnt k0) (he : ∀ f g, sx_E C f g s0 k0 = .inl (sx_cQ C, n, .inr (.inr (.inr (.inr (fun j => some (C.1 k1 (b + j)))))))) {i : Int32} (hdg : decode cc pc = .ok (.aaload, 1)) {A : Nat → Option O} (h : (if sx_in i n then sx_bd (b + i.toNatClampNeg) A else none) = some out)
    (kk : ∀ v, v < b + n → A v = some out → W p l e R s m args below meth c H locs cells slots Q (F0 m (pc + 1) ls (.ref (sx_ad C k1 v) :: rest))) : W p l e R s m args below meth c H locs cells slots Q (F0 m pc ls (.int i :: .ref (sx_ad C k0 s0) :: rest)) := by
  obtain ⟨hx, hb, -, ho, hts, hK, -⟩ := X
  by_cases hin : sx_in i n
  · rw [if_pos hin] at h
    have hlt : i.toNatClampNeg < n := hin.2
    exact va_aldq (D := sx_D C) hx hb hK (sx_one hP hs (he (M.1 k0 s0) (M.2 k0 s0))) 0 3 rfl rfl (sx_in_v hin) hdg (kk _ (by omega) h)
  · rw [if_neg hin] at h; cases h
theorem sx_iast (X : sx_X C p m c cc nL s args own) (hG : sx_G C) (hP : sx_W C M H) (hS : va_S (sx_A C) H0 H locs) (k0 s0 n : Nat) (hs : s0 < sx_cnt k0) (he : ∀ f g, sx_E C f g s0 k0 = .inl (sx_cI C, n, .inl f)) {i x : Int32} (hdg : decode cc pc = .ok (.iastore, 1)) {A : sx_M → Option O} (h : (if sx_in i n then sx_bd (sx_set M k0 s0 i.toNatClampNeg x) A else none) = some out)
    (kk : ∀ (M' : sx_M) (H1 : Heap) (locs1 : List Loc), A M' = some out → sx_W C M' H1 → va_S (sx_A C) H0 H1 locs1 → W p l e R s m args below meth c H1 locs1 cells slots Q (F0 m (pc + 1) ls rest)) : W p l e R s m args below meth c H locs cells slots Q (F0 m pc ls (.int x :: .int i :: .ref (sx_ad C k0 s0) :: rest)) := by
  obtain ⟨hx, hb, -, ho, hts, hK, -⟩ := X
  by_cases hin : sx_in i n
  · rw [if_pos hin] at h
    refine W.iast hx hb ((sx_one hP hs (he (M.1 k0 s0) (M.2 k0 s0))) 0 _ rfl) ((hK.2 0 _ rfl).1 n (fun j => .int (M.1 k0 s0 j))) (fun q => by cases q) (by show ¬ (i < 0 ∨ (arrV _ _ _).slots.size ≤ _); rw [arrV_size]; exact sx_in_v hin) rfl rfl hdg fun H1 e1 e2 e3 => ?_
    refine kk _ H1 _ h (sx_E_put hG hP hs sx_set_o e3 ?_) (hS.put e2 e3 (hG.2 k0 s0 hs))
    rw [he]
    show H1[sx_ad C k0 s0]? = some (vp_cell _ _)
    rw [e1, vp_cell_i, vp_cell_i, arrV_store, sx_set_at]
    congr 2
    funext q
    by_cases hq : q = i.toNatClampNeg
    · subst hq
      simp [updV, upd]
    · simp [updV, upd, hq]
  · rw [if_neg hin] at h; cases h
theorem sx_zast (X : sx_X C p m c cc nL s args own) (hG : sx_G C) (hP : sx_W C M H) (hS : va_S (sx_A C) H0 H locs) (k0 s0 n : Nat) (hs : s0 < sx_cnt k0) (he : ∀ f g, sx_E C f g s0 k0 = .inl (sx_cZ C, n, .inl f)) {i x : Int32} (hdg : decode cc pc = .ok (.bastore, 1)) {A : sx_M → Option O} (h : (if sx_in i n ∧ (x = 0 ∨ x = 1) then sx_bd (sx_set M k0 s0 i.toNatClampNeg x) A else none) = some out)
    (kk : ∀ (M' : sx_M) (H1 : Heap) (locs1 : List Loc), A M' = some out → sx_W C M' H1 → va_S (sx_A C) H0 H1 locs1 → W p l e R s m args below meth c H1 locs1 cells slots Q (F0 m (pc + 1) ls rest)) : W p l e R s m args below meth c H locs cells slots Q (F0 m pc ls (.int x :: .int i :: .ref (sx_ad C k0 s0) :: rest)) := by
  obtain ⟨hx, hb, -, ho, hts, hK, -⟩ := X
  by_cases hin : sx_in i n ∧ (x = 0 ∨ x = 1)
  · rw [if_pos hin] at h
    obtain ⟨hin, hb01⟩ := hin
    refine W.zast hx hb ((sx_one hP hs (he (M.1 k0 s0) (M.2 k0 s0))) 0 _ rfl) ((hK.2 1 _ rfl).1 n (fun j => .int (M.1 k0 s0 j))) (fun q => by cases q) (by show ¬ (i < 0 ∨ (arrV _ _ _).slots.size ≤ _); rw [arrV_size]; exact sx_in_v hin) rfl rfl hdg fun H1 e1 e2 e3 => ?_
    refine kk _ H1 _ h (sx_E_put hG hP hs sx_set_o e3 ?_) (hS.put e2 e3 (hG.2 k0 s0 hs))
    rw [he]
    show H1[sx_ad C k0 s0]? = some (vp_cell _ _)
    rw [e1, sx_isb hb01, vp_cell_i, vp_cell_i, arrV_store, sx_set_at]
    congr 2
    funext q
    by_cases hq : q = i.toNatClampNeg
    · subst hq
      simp [updV, upd]
    · simp [updV, upd, hq]
  · rw [if_neg hin] at h; cases h
theorem sx_last (X : sx_X C p m c cc nL s args own) (hG : sx_G C) (hP : sx_W C M H) (hS : va_S (sx_A C) H0 H locs) (k0 s0 n : Nat) (hs : s0 < sx_cnt k0) (he : ∀ f g, sx_E C f g s0 k0 = .inl (sx_cJ C, n, .inr (.inl g))) {i : Int32} {x : Int64} (hdg : decode cc pc = .ok (.lastore, 1)) {A : sx_M → Option O} (h : (if sx_in i n then sx_bd (sx_setL M k0 s0 i.toNatClampNeg x) A else none) = some out)
    (kk : ∀ (M' : sx_M) (H1 : Heap) (locs1 : List Loc), A M' = some out → sx_W C M' H1 → va_S (sx_A C) H0 H1 locs1 → W p l e R s m args below meth c H1 locs1 cells slots Q (F0 m (pc + 1) ls rest)) : W p l e R s m args below meth c H locs cells slots Q (F0 m pc ls (.long x :: .int i :: .ref (sx_ad C k0 s0) :: rest)) := by
  obtain ⟨hx, hb, -, ho, hts, hK, -⟩ := X
  by_cases hin : sx_in i n
  · rw [if_pos hin] at h
    refine W.last hx hb ((sx_one hP hs (he (M.1 k0 s0) (M.2 k0 s0))) 0 _ rfl) ((hK.2 2 _ rfl).1 n (fun j => .long (M.2 k0 s0 j))) (fun q => by cases q) (by show ¬ (i < 0 ∨ (arrV _ _ _).slots.size ≤ _); rw [arrV_size]; exact sx_in_v hin) rfl rfl hdg fun H1 e1 e2 e3 => ?_
    refine kk _ H1 _ h (sx_E_put hG hP hs sx_setL_o e3 ?_) (hS.put e2 e3 (hG.2 k0 s0 hs))
    rw [he]
    show H1[sx_ad C k0 s0]? = some (vp_cell _ _)
    rw [e1, vp_cell_l, vp_cell_l, arrV_store, sx_setL_at]
    congr 2
    funext q
    by_cases hq : q = i.toNatClampNeg
    · subst hq
      simp [updV, vp_updL]
    · simp [updV, vp_updL, hq]
  · rw [if_neg hin] at h; cases h
/-- names and branches over the residual program -/
theorem sx_br {P : Prop} [Decidable P] {A B : Option O} {G1 G2 : Prop} (h : (if P then A else B) = some out) (k1 : P → A = some out → G1) (k2 : ¬ P → B = some out → G2) : (P → G1) ∧ (¬ P → G2) :=
  ⟨fun q => k1 q (by rw [if_pos q] at h; exact h), fun q => k2 q (by rw [if_neg q] at h; exact h)⟩
theorem sx_ck {P : Prop} [Decidable P] {A : Option O} (h : (if P then A else none) = some out) : P ∧ A = some out := by
  by_cases q : P
  · rw [if_pos q] at h; exact ⟨q, h⟩
  · rw [if_neg q] at h; cases h
theorem sx_bnd {T : Type} {x : Option T} {g : T → Option O} (h : x.bind g = some out) : ∃ r, x = some r ∧ g r = some out := Option.bind_eq_some_iff.mp h
/-- behind a call -/
theorem sx_ret {a : Array Value} {st0 : List Value} {rv : Option Value} {M' : sx_M} (hr : va_Run p l e R s m args below meth c H locs cells slots 0 0 (F0 m pc ls st0) rest (sx_Q C rv M' a) (sx_A C)) (hS : va_S (sx_A C) H0 H locs)
    (kk : ∀ (H1 : Heap) (locs1 : List Loc), sx_W C M' H1 → va_S (sx_A C) H0 H1 locs1 → W p l e R s m args below meth c H1 locs1 cells slots Q (F0 m (pc + 3) ls (rv.toList ++ rest))) : W p l e R s m args below meth c H locs cells slots Q (F0 m pc ls st0) := by
  intro T hT X
  obtain ⟨v, st₀, t, T', L, h0, X', hL, e1, e2, ⟨⟨hv, hW⟩, hz, hk⟩, st⟩ := hr T hT X
  cases hv
  rw [h0] at hz hk
  obtain ⟨t2, a1, b1⟩ := kk T'.heap (locs ++ L) (by rw [e1]; exact hW)
    ⟨Nat.le_trans hS.1 (by rw [e1]; exact hz), fun q h1 h2 => by rw [e1, hk q (Nat.lt_of_lt_of_le h1 hS.1) h2]; exact hS.2.1 q h1 h2, fun q hq => by
      rcases List.mem_append.mp hq with h | h
      · exact hS.2.2 q h
      · exact hL q h⟩ T' rfl X'
  exact ⟨t2, st t2 a1, b1⟩
theorem sx_blind (M : sx_M) (av : List Value) : FrameBlind (sx_Pc C M av) := fun a U g mk q => by
  obtain ⟨q0, q1, qP, qK⟩ := q
  exact ⟨q0, q1, qP, sx_K.same (s := U) (U := U.calling g mk a) rfl qK⟩
theorem sx_goodV {idx : Nat} {Cn : String} {y : MethodName} {b : ByteArray} {n : Nat} {ret : Option FieldType} (h1 : Cond.methodLink own idx y ∈ sx_T) (h2 : Cond.instanceMethod y ∈ sx_T) (h3 : Cond.selects Cn y y ∈ sx_T) (h4 : Cond.initialized Cn ∈ sx_T) (h5 : Cond.code y b n ret ∈ sx_T) : GoodIn sx_T (wsV own idx Cn y (.code y b n ret :: sx_T)) := by
  intro w hw
  simp only [wsV, List.cons_append, List.nil_append, List.mem_cons] at hw
  rcases hw with rfl | rfl | rfl | rfl | rfl | hw
  · exact sx_good _ h1
  · exact sx_good _ h2
  · exact sx_good _ h3
  · exact sx_good _ h4
  · exact sx_good _ h5
  · exact sx_good _ hw
theorem sx_goodS {idx : Nat} {y : MethodName} {b : ByteArray} {n : Nat} {ret : Option FieldType} (h1 : Cond.methodLink own idx y ∈ sx_T) (h2 : Cond.static y ∈ sx_T) (h4 : Cond.initialized y.cls ∈ sx_T) (h5 : Cond.code y b n ret ∈ sx_T) : GoodIn sx_T (va_wsS own idx y (.code y b n ret :: sx_T)) := by
  intro w hw
  simp only [va_wsS, List.cons_append, List.nil_append, List.mem_cons] at hw
  rcases hw with rfl | rfl | rfl | rfl | hw
  · exact sx_good _ h1
  · exact sx_good _ h2
  · exact sx_good _ h4
  · exact sx_good _ h5
  · exact sx_good _ hw
theorem sx_goodN {y : MethodName} {b : ByteArray} {n : Nat} {ret : Option FieldType} (h5 : Cond.code y b n ret ∈ sx_T) : GoodIn sx_T (.code y b n ret :: sx_T) := by
  intro w hw
  rcases List.mem_cons.mp hw with rfl | hw
  · exact sx_good _ h5
  · exact sx_good _ hw
variable {y : MethodName} {bytes : ByteArray} {maxL n index : Nat} {ret : Option FieldType} {rm : Room} {rv : Option Value} {M' : sx_M} {As st0 : List Value}
theorem sx_callV (X : sx_X C p m c cc nL s args own) (hP : sx_W C M H) (hz : sx_sz C ≤ H0.size) (hS : va_S (sx_A C) H0 H locs) {k0 s0 ci N : Nat} {Cn : String} {T : u_T} {fs : List Value} (hs : s0 < sx_cnt k0) (he : sx_E C (M.1 k0 s0) (M.2 k0 s0) s0 k0 = .inr (ci, fs)) (hc : vwCl[ci]? = some (Cn, T, N))
    (hG : GoodIn sx_T (wsV own index Cn y (.code y bytes maxL ret :: sx_T))) (hd : y.cls = Cn ∧ y.cls ≠ "java/lang/invoke/MethodHandle" ∧ y.cls ≠ "java/lang/invoke/VarHandle" ∧ (parseMethodDescriptor y.desc).map (fun d => d.parameters.length) = some n) (hrc : rm.cells = 0) (hrs : rm.slots = 0) (hR : rm.frames + 1 ≤ R.frames ∧ 8 + (maxL + 11) + rm.locals ≤ R.locals)
    (hM : Met l y (.code y bytes maxL ret :: sx_T) rm (sx_Pc C M (.ref (sx_ad C k0 s0) :: As)) (sx_Q C rv M') 0 0 (sx_A C)) (hn : As.length = n) (hst : st0 = As.reverse ++ .ref (sx_ad C k0 s0) :: rest) (hrest : (rest.map fun v => v.category).sum ≤ 8) (hsz : ls.size = nL) (hdg : decode cc pc = .ok (.invokevirtual index, 3)) (hcs : cells ≤ R.cells ∧ slots ≤ R.slots)
    (kk : ∀ (H1 : Heap) (locs1 : List Loc), sx_W C M' H1 → va_S (sx_A C) H0 H1 locs1 → W p l e R s m args below meth c H1 locs1 cells slots Q (F0 m (pc + 3) ls (rv.toList ++ rest))) : W p l e R s m args below meth c H locs cells slots Q (F0 m pc ls st0) := by
  obtain ⟨hx, hb, hml, ho, hts, hK⟩ := X
  refine sx_ret (va_runV (As := As) (rest := rest) ⟨hx, hb, hml, ho, hts⟩ hM (cwV n hts hG rfl hrc hrs hd hR) ⟨sx_blind M _, ?_, fun U hU hW => ⟨rfl, by rw [hU]; exact Nat.le_trans hz hS.1, by rw [hU]; exact hP, hK.moved hW⟩⟩ rfl hn hsz hst (lv_room hrest) hdg hcs) hS kk
  have := va_recv hK.1 (sx_one hP hs he) hc (q0 := 0) rfl
  exact this
theorem sx_callS (X : sx_X C p m c cc nL s args own) (hP : sx_W C M H) (hz : sx_sz C ≤ H0.size) (hS : va_S (sx_A C) H0 H locs)
    (hG : GoodIn sx_T (va_wsS own index y (.code y bytes maxL ret :: sx_T))) (hd : y.cls ≠ "java/lang/invoke/MethodHandle" ∧ y.cls ≠ "java/lang/invoke/VarHandle" ∧ (parseMethodDescriptor y.desc).map (fun d => d.parameters.length) = some n) (hrc : rm.cells = 0) (hrs : rm.slots = 0) (hR : rm.frames + 1 ≤ R.frames ∧ 8 + (maxL + 11) + rm.locals ≤ R.locals)
    (hM : Met l y (.code y bytes maxL ret :: sx_T) rm (sx_Pc C M As) (sx_Q C rv M') 0 0 (sx_A C)) (hn : As.length = n) (hst : st0 = As.reverse ++ rest) (hrest : (rest.map fun v => v.category).sum ≤ 8) (hsz : ls.size = nL) (hdg : decode cc pc = .ok (.invokestatic index, 3)) (hcs : cells ≤ R.cells ∧ slots ≤ R.slots)
    (kk : ∀ (H1 : Heap) (locs1 : List Loc), sx_W C M' H1 → va_S (sx_A C) H0 H1 locs1 → W p l e R s m args below meth c H1 locs1 cells slots Q (F0 m (pc + 3) ls (rv.toList ++ rest))) : W p l e R s m args below meth c H locs cells slots Q (F0 m pc ls st0) := by
  obtain ⟨hx, hb, hml, ho, hts, hK⟩ := X
  exact sx_ret (va_runS (As := As) (rest := rest) ⟨hx, hb, hml, ho, hts⟩ hM (va_cwS n hts hG rfl hrc hrs hd hR) ⟨sx_blind M _, fun U hU hW => ⟨rfl, by rw [hU]; exact Nat.le_trans hz hS.1, by rw [hU]; exact hP, hK.moved hW⟩⟩ rfl hn hsz hst (lv_room hrest) hdg hcs) hS kk
theorem sx_callSN (X : sx_X C p m c cc nL s args own) (hP : sx_W C M H) (hz : sx_sz C ≤ H0.size) (hS : va_S (sx_A C) H0 H locs) {host : String}
    (hG : GoodIn sx_T (.code y bytes maxL ret :: sx_T)) (hl : Cond.methodLinkNest own index y host ∈ sx_nest) (hini : Cond.initialized y.cls ∈ sx_T) (hst' : Cond.static y ∈ sx_T) (hd : y.cls ≠ "java/lang/invoke/MethodHandle" ∧ y.cls ≠ "java/lang/invoke/VarHandle" ∧ (parseMethodDescriptor y.desc).map (fun d => d.parameters.length) = some n) (hrc : rm.cells = 0) (hrs : rm.slots = 0) (hR : rm.frames + 1 ≤ R.frames ∧ 8 + (maxL + 11) + rm.locals ≤ R.locals)
    (hM : Met l y (.code y bytes maxL ret :: sx_T) rm (sx_Pc C M As) (sx_Q C rv M') 0 0 (sx_A C)) (hn : As.length = n) (hst : st0 = As.reverse ++ rest) (hrest : (rest.map fun v => v.category).sum ≤ 8) (hsz : ls.size = nL) (hdg : decode cc pc = .ok (.invokestatic index, 3)) (hcs : cells ≤ R.cells ∧ slots ≤ R.slots)
    (kk : ∀ (H1 : Heap) (locs1 : List Loc), sx_W C M' H1 → va_S (sx_A C) H0 H1 locs1 → W p l e R s m args below meth c H1 locs1 cells slots Q (F0 m (pc + 3) ls (rv.toList ++ rest))) : W p l e R s m args below meth c H locs cells slots Q (F0 m pc ls st0) := by
  obtain ⟨hx, hb, hml, ho, hts, hK⟩ := X
  exact sx_ret (va_runSN (host := host) (As := As) (rest := rest) ⟨hx, hb, hml, ho, hts⟩ hM ⟨va_cnB n hts hG rfl hrc hrs (hK.2 _ hl) (hts _ hini) hd hR, hts _ hst', trivial⟩ ⟨sx_blind M _, fun U hU hW => ⟨rfl, by rw [hU]; exact Nat.le_trans hz hS.1, by rw [hU]; exact hP, hK.moved hW⟩⟩ rfl hn hsz hst (lv_room hrest) hdg hcs) hS kk
end SXR

/-! WALKS: what a generated walk needs -/
def sx_b2 {α β O : Type} (x : Option (α × β)) (f : α → β → Option O) : Option O := x.bind fun q => f q.1 q.2
theorem sx_nm {α O : Type} {out : O} {x : α} {A : α → Option O} (h : sx_bd x A = some out) : ∃ v, x = v ∧ A v = some out := ⟨x, rfl, h⟩
theorem sx_ckn {O : Type} {out : O} {P : Prop} [Decidable P] {A : Option O} (h : (if P then none else A) = some out) : ¬ P ∧ A = some out := by
  by_cases q : P
  · rw [if_pos q] at h; cases h
  · rw [if_neg q] at h; exact ⟨q, h⟩
theorem sx_ifp {O : Type} {out : O} {P : Prop} [Decidable P] {A B : Option O} (h : (if P then A else B) = some out) (q : P) : A = some out := by rw [if_pos q] at h; exact h
theorem sx_ifn {O : Type} {out : O} {P : Prop} [Decidable P] {A B : Option O} (h : (if P then A else B) = some out) (q : ¬ P) : B = some out := by rw [if_neg q] at h; exact h
theorem sx_bnd2 {α β O : Type} {out : O} {x : Option (α × β)} {f : α → β → Option O} (h : sx_b2 x f = some out) : ∃ a b, x = some (a, b) ∧ f a b = some out := by
  obtain ⟨⟨a, b⟩, h1, h2⟩ := Option.bind_eq_some_iff.mp h
  exact ⟨a, b, h1, h2⟩
abbrev sx_Z (C : sx_C) (rv : Option Value) (M' : sx_M) (below : List Frame) (args : Array Value) (s : State) : State → Prop := MQ below (sx_Q C rv M') args s 0 0 (sx_A C)
/-- the rows of the reference that its static methods get -/
def sx_row (k : Nat) : Prop := k = 19 ∨ k = 20 ∨ k = 21 ∨ k = 22 ∨ k = 23
def sx_len (k : Nat) : Nat := if k = 22 then 3458 else if k = 23 then 494 else 247
theorem sx_row_E {C : sx_C} {k : Nat} (h : sx_row k) {f : Nat → Int32} {g : Nat → Int64} : sx_E C f g 0 k = .inl (sx_cI C, sx_len k, .inl f) := by
  rcases h with rfl | rfl | rfl | rfl | rfl <;> rfl
theorem sx_row_cnt {k : Nat} (h : sx_row k) : 0 < sx_cnt k := by
  rcases h with rfl | rfl | rfl | rfl | rfl <;> decide
section SXE
variable {p : Program} {l : Launch} {e : Env} {R : Room} {s : State} {m : MethodId} {args : Array Value} {below : List Frame} {meth : Method} {c : Code} {H : Heap} {locs : List Loc}
variable {C : sx_C} {M M' : sx_M} {cc : ByteArray} {nL : Nat} {own : String} {pc : Nat} {ls : Array Slot}
theorem sx_end (hS : va_S (sx_A C) s.heap H locs) (hP : sx_W C M H) {rv rv' : Option Value} (e1 : rv = rv') : ∀ t : State, t.heap = H → s.WarmedH t.vm → sx_Q C rv' M args s (.returned rv) t := fun t ht _ => ⟨⟨by rw [e1], by rw [ht]; exact hP⟩, hS.F ht⟩
theorem sx_iret (X : sx_X C p m c cc nL s args own) (hr : meth.sig.returnType = some .int) (hlocks : meth.locks = false) (hS : va_S (sx_A C) s.heap H locs) (hP : sx_W C M H) {v r : Int32} (h : some v = some r) (hdg : decode cc pc = .ok (.ireturn, 1)) : W p l e R s m args below meth c H locs 0 0 (sx_Z C (some (.int r)) M below args s) (F0 m pc ls [.int v]) :=
  W.iret X.1 X.2.1 hr (sx_end hS hP (by rw [Option.some.inj h])) hS.2.2 hdg hlocks
theorem sx_iretM (X : sx_X C p m c cc nL s args own) (hr : meth.sig.returnType = some .int) (hlocks : meth.locks = false) (hS : va_S (sx_A C) s.heap H locs) (hP : sx_W C M H) {v r : Int32} (h : some (v, M) = some (r, M')) (hdg : decode cc pc = .ok (.ireturn, 1)) : W p l e R s m args below meth c H locs 0 0 (sx_Z C (some (.int r)) M' below args s) (F0 m pc ls [.int v]) := by
  obtain ⟨rfl, rfl⟩ := Prod.mk.inj (Option.some.inj h)
  exact W.iret X.1 X.2.1 hr (sx_end hS hP rfl) hS.2.2 hdg hlocks
theorem sx_zret (X : sx_X C p m c cc nL s args own) (hr : meth.sig.returnType = some .boolean) (hlocks : meth.locks = false) (hS : va_S (sx_A C) s.heap H locs) (hP : sx_W C M H) {v r : Int32} (hb : v = 0 ∨ v = 1) (h : some v = some r) (hdg : decode cc pc = .ok (.ireturn, 1)) : W p l e R s m args below meth c H locs 0 0 (sx_Z C (some (.int r)) M below args s) (F0 m pc ls [.int v]) :=
  W.zret X.1 X.2.1 hr (sx_isb hb) (sx_end hS hP (by rw [Option.some.inj h])) hS.2.2 hdg hlocks
theorem sx_zretM (X : sx_X C p m c cc nL s args own) (hr : meth.sig.returnType = some .boolean) (hlocks : meth.locks = false) (hS : va_S (sx_A C) s.heap H locs) (hP : sx_W C M H) {v r : Int32} (hb : v = 0 ∨ v = 1) (h : some (v, M) = some (r, M')) (hdg : decode cc pc = .ok (.ireturn, 1)) : W p l e R s m args below meth c H locs 0 0 (sx_Z C (some (.int r)) M' below args s) (F0 m pc ls [.int v]) := by
  obtain ⟨rfl, rfl⟩ := Prod.mk.inj (Option.some.inj h)
  exact W.zret X.1 X.2.1 hr (sx_isb hb) (sx_end hS hP rfl) hS.2.2 hdg hlocks
theorem sx_lret (X : sx_X C p m c cc nL s args own) (hr : meth.sig.returnType = some .long) (hlocks : meth.locks = false) (hS : va_S (sx_A C) s.heap H locs) (hP : sx_W C M H) {v r : Int64} (h : some v = some r) (hdg : decode cc pc = .ok (.lreturn, 1)) : W p l e R s m args below meth c H locs 0 0 (sx_Z C (some (.long r)) M below args s) (F0 m pc ls [.long v]) :=
  W.lret X.1 X.2.1 hr (sx_end hS hP (by rw [Option.some.inj h])) hS.2.2 hdg hlocks
theorem sx_aret (X : sx_X C p m c cc nL s args own) {rt : String} (hr : meth.sig.returnType = some (.object rt)) (hlocks : meth.locks = false) (hS : va_S (sx_A C) s.heap H locs) (hP : sx_W C M H) {k v r : Nat} (h : some v = some r) (hdg : decode cc pc = .ok (.areturn, 1)) : W p l e R s m args below meth c H locs 0 0 (sx_Z C (some (.ref (sx_ad C k r))) M below args s) (F0 m pc ls [.ref (sx_ad C k v)]) :=
  W.aret X.1 X.2.1 hr (Or.inl ⟨_, rfl⟩) (Or.inr ⟨_, rfl⟩) (sx_end hS hP (by rw [Option.some.inj h])) hS.2.2 hdg hlocks
theorem sx_vret (X : sx_X C p m c cc nL s args own) (hr : meth.sig.returnType = none) (hlocks : meth.locks = false) (hS : va_S (sx_A C) s.heap H locs) (hP : sx_W C M H) (h : some M = some M') (hdg : decode cc pc = .ok (.return_, 1)) : W p l e R s m args below meth c H locs 0 0 (sx_Z C none M' below args s) (F0 m pc ls []) := by
  obtain rfl := Option.some.inj h
  exact W.vret X.1 X.2.1 hr (sx_end hS hP rfl) hS.2.2 hdg hlocks
end SXE

