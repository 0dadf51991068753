/-! CONSTRUCTORS: contracts. Written by wip/whole/ctor.py -/
def cw_post (w w' : cw_F) (h0 : Nat) (e0 : va_E) (L : va_W) : Prop := w' h0 = some e0 ∧ (∀ x ∈ L, w' x.1 = some x.2 ∧ w x.1 = none) ∧ (L.map Prod.fst).Nodup ∧ ∀ b e, w b = some e → b ≠ h0 → w' b = some e
def cw_add (w w' : cw_F) (L : va_W) : Prop := (∀ x ∈ L, w' x.1 = some x.2 ∧ w x.1 = none) ∧ (L.map Prod.fst).Nodup ∧ ∀ b e, w b = some e → w' b = some e
theorem cp_start {w : cw_F} {h0 : Nat} {e0 : va_E} (h : w h0 = some e0) : cw_post w w h0 e0 [] := ⟨h, fun _ hx => absurd hx List.not_mem_nil, List.nodup_nil, fun _ _ h _ => h⟩
theorem ca_one {w w1 : cw_F} {q : Nat} {e : va_E} (h0 : w q = none) (h1 : w1 q = some e) (o : ∀ a, a ≠ q → w1 a = w a) : cw_add w w1 [(q, e)] :=
  ⟨fun x hx => by rw [List.mem_singleton.mp hx]; exact ⟨h1, h0⟩, by simp, fun b f hb => (o b (cw_ne hb h0)).trans hb⟩
theorem ca_obj {w w1 w2 : cw_F} {q : Nat} {eb e : va_E} {L : va_W} (h0 : w q = none) (h1 : w1 q = some eb) (o : ∀ a, a ≠ q → w1 a = w a) (P : cw_post w1 w2 q e L) : cw_add w w2 ((q, e) :: L) := by
  obtain ⟨p1, p2, p3, p4⟩ := P
  have hne : ∀ x ∈ L, x.1 ≠ q := fun x hx z => by have := (p2 x hx).2; rw [z, h1] at this; cases this
  refine ⟨fun x hx => ?_, ?_, fun b f hb => ?_⟩
  · rcases List.mem_cons.mp hx with rfl | hx
    · exact ⟨p1, h0⟩
    · exact ⟨(p2 x hx).1, by rw [← o x.1 (hne x hx)]; exact (p2 x hx).2⟩
  · rw [List.map_cons, List.nodup_cons]
    refine ⟨fun hm => ?_, p3⟩
    obtain ⟨x, hx, hxe⟩ := List.mem_map.mp hm
    exact hne x hx hxe
  · have hbq := cw_ne hb h0
    exact p4 b f ((o b hbq).trans hb) hbq
theorem ca_trans {w w1 w2 : cw_F} {L1 L2 : va_W} (A : cw_add w w1 L1) (B : cw_add w1 w2 L2) : cw_add w w2 (L1 ++ L2) := by
  obtain ⟨a1, a2, a3⟩ := A
  obtain ⟨b1, b2, b3⟩ := B
  refine ⟨fun x hx => ?_, ?_, fun b e hb => b3 b e (a3 b e hb)⟩
  · rcases List.mem_append.mp hx with hx | hx
    · exact ⟨b3 _ _ (a1 x hx).1, (a1 x hx).2⟩
    · refine ⟨(b1 x hx).1, ?_⟩
      cases hw : w x.1 with
      | none => rfl
      | some e => have := a3 _ _ hw; rw [(b1 x hx).2] at this; cases this
  · rw [List.map_append, List.nodup_append]
    refine ⟨a2, b2, fun p hp q hq z => ?_⟩
    obtain ⟨x, hx, rfl⟩ := List.mem_map.mp hp
    obtain ⟨y, hy, rfl⟩ := List.mem_map.mp hq
    have h1 := (a1 x hx).1
    rw [z, (b1 y hy).2] at h1
    cases h1
theorem cp_add {w0 w w2 : cw_F} {h0 : Nat} {e0 : va_E} {L L2 : va_W} (P : cw_post w0 w h0 e0 L) (A : cw_add w w2 L2) : cw_post w0 w2 h0 e0 (L ++ L2) := by
  obtain ⟨p1, p2, p3, p4⟩ := P
  obtain ⟨b1, b2, b3⟩ := A
  refine ⟨b3 _ _ p1, fun x hx => ?_, ?_, fun b e hb hne => b3 b e (p4 b e hb hne)⟩
  · rcases List.mem_append.mp hx with hx | hx
    · exact ⟨b3 _ _ (p2 x hx).1, (p2 x hx).2⟩
    · refine ⟨(b1 x hx).1, ?_⟩
      cases hw : w0 x.1 with
      | none => rfl
      | some e =>
        have hne : x.1 ≠ h0 := fun z => by have := (b1 x hx).2; rw [z, p1] at this; cases this
        have := p4 _ _ hw hne
        rw [(b1 x hx).2] at this
        cases this
  · rw [List.map_append, List.nodup_append]
    refine ⟨p3, b2, fun p hp q hq z => ?_⟩
    obtain ⟨x, hx, rfl⟩ := List.mem_map.mp hp
    obtain ⟨y, hy, rfl⟩ := List.mem_map.mp hq
    have h1 := (p2 x hx).1
    rw [z, (b1 y hy).2] at h1
    cases h1
theorem cp_put {w0 w w1 : cw_F} {h0 : Nat} {e0 e1 ex : va_E} {L : va_W} (P : cw_post w0 w h0 e0 L) (hx : w0 h0 = some ex) (h1 : w1 h0 = some e1) (o : ∀ b, b ≠ h0 → w1 b = w b) : cw_post w0 w1 h0 e1 L := by
  obtain ⟨p1, p2, p3, p4⟩ := P
  refine ⟨h1, fun x hxL => ⟨?_, (p2 x hxL).2⟩, p3, fun b e hb hne => (o b hne).trans (p4 b e hb hne)⟩
  have hne : x.1 ≠ h0 := fun z => by have := (p2 x hxL).2; rw [z, hx] at this; cases this
  exact (o _ hne).trans (p2 x hxL).1
theorem cp_set {w0 w w1 : cw_F} {h0 a : Nat} {e0 e e' ex : va_E} {L1 L2 : va_W} (P : cw_post w0 w h0 e0 (L1 ++ (a, e) :: L2)) (hx : w0 h0 = some ex) (h1 : w1 a = some e') (o : ∀ b, b ≠ a → w1 b = w b) : cw_post w0 w1 h0 e0 (L1 ++ (a, e') :: L2) := by
  obtain ⟨p1, p2, p3, p4⟩ := P
  have ha0 : w0 a = none := (p2 (a, e) (by simp)).2
  have hn := p3
  simp only [List.map_append, List.map_cons] at hn
  rw [List.nodup_append] at hn
  obtain ⟨n1, n2, n3⟩ := hn
  rw [List.nodup_cons] at n2
  refine ⟨(o h0 (fun z => by rw [z, ha0] at hx; cases hx)).trans p1, fun x hxL => ?_, by simpa only [List.map_append, List.map_cons] using p3, fun b f hb hne => (o b (cw_ne hb ha0)).trans (p4 b f hb hne)⟩
  rcases List.mem_append.mp hxL with hxL | hxL
  · have := p2 x (List.mem_append_left _ hxL)
    exact ⟨(o _ (fun z => n3 x.1 (List.mem_map.mpr ⟨x, hxL, rfl⟩) a (by simp) z)).trans this.1, this.2⟩
  · rcases List.mem_cons.mp hxL with rfl | hxL
    · exact ⟨h1, ha0⟩
    · have := p2 x (List.mem_append_right _ (List.mem_cons_of_mem _ hxL))
      exact ⟨(o _ (fun z => n2.1 (by rw [← z]; exact List.mem_map.mpr ⟨x, hxL, rfl⟩))).trans this.1, this.2⟩
theorem cp_at {w0 w : cw_F} {h0 : Nat} {e0 : va_E} {L : va_W} (P : cw_post w0 w h0 e0 L) {a : Nat} {e : va_E} (h : (a, e) ∈ L) : w a = some e := (P.2.1 _ h).1
set_option maxRecDepth 100000 in
theorem tw_oi : Cond.instanceMethod objectInit ∈ sx_T := sx_tin 87 rfl rfl
set_option maxRecDepth 100000 in
theorem tw_oc : Cond.code objectInit ⟨#[0xb1]⟩ 1 none ∈ sx_T := sx_tin 88 rfl rfl
set_option maxRecDepth 100000 in
theorem tw_oRX4 : Cond.methodLink RX4 3 objectInit ∈ sx_T := sx_tin 100 rfl rfl
set_option maxRecDepth 100000 in
set_option maxHeartbeats 4000000 in
theorem ci_X4 (l : Launch) (C : sx_C) (w0 : cw_F) (h0 : Nat) (hk0 : w0 h0 = some (.inr (3, [.null, .null, .null, .int 0]))) : Met l yX4_init (.code yX4_init cX4_init 1 none :: sx_T) ({ frames := 1, cells := 3, slots := 120, locals := 12 } : Room) (cw_Pc C w0 [.ref h0]) (cw_Q C (fun w' => ∃ q1 q3 q5 : Nat, cw_post w0 w' h0 (.inr (3, [.ref q1, .ref q3, .ref q5, .int 0])) [(q1, .inl (sx_cI C, 40, .inl (fun _ => 0))), (q3, .inl (sx_cI C, 40, .inl (fun _ => 0))), (q5, .inl (sx_cZ C, 40, .inl (fun _ => 0)))])) 3 120 (sx_A C) := by
  refine Met.ofW (cc := cX4_init) (maxL := 1) (ret := none) (by decide) rfl ?_
  intro p e s m args below meth c s₁ B hml hv
  obtain ⟨rfl, hz, hw, hK, hO⟩ := hv
  have X : sx_X C p m c cX4_init 1 s #[Value.ref h0] RX4 := ⟨B.exec, B.bytes, hml, findClass_of_methodNamed B.named, fun w hw => atoms_spec B.pre w (List.mem_cons_of_mem _ hw), hK⟩
  obtain ⟨hx, hb, -, hown, hts, -⟩ := id X
  have hr := B.returns
  have hlocks := B.notSynchronized
  have hin : meth.name = "<init>" := (name_of_methodNamed B.named B.method).1
  have hcI := (hK.1.2 0 _ rfl).2
  have hcZ := (hK.1.2 1 _ rfl).2
  have hS : va_S (sx_A C) s.heap s.heap [] := va_S.rf
  have hl := lv_entry ([.ref h0]) (n := 1) (Nat.le_of_ble_eq_true rfl)
  rw [lg_entry_eq]
  generalize (lg_sl ([.ref h0]) ++ List.replicate (1 - (lg_sl ([.ref h0])).length) Slot.unset).toArray = ls at hl ⊢
  have hl : lv_has ls 1 [(0, .ref h0)] := hl
  have P := cp_start hk0
  refine lv_aload_n hx hb dX4_init_0 rfl (lv_at hl 0 rfl) ?_
  refine W.objInit hx hb hown (hts _ tw_oRX4) (hts _ tw_oi) (hts _ tw_oc) rfl (by rw [hml]; exact hl.1) rfl dX4_init_1 (Nat.le_of_ble_eq_true rfl) (Nat.le_of_ble_eq_true rfl) ?_
  refine W.eq (g2 := F0 m 4 ls []) rfl ?_
  refine lv_aload_n hx hb dX4_init_4 rfl (lv_at hl 0 rfl) ?_
  refine lv_bipush (v := 40) hx hb dX4_init_5 (by decide) ?_
  refine cw_newa X hz hw hS (ty := .int) rfl tw_114 (cA := sx_cI C) hcI (N' := 40) (a0 := (40, .inl (fun _ => 0))) (fun _ => rfl) (by decide) (by decide) (Nat.le_of_ble_eq_true rfl) (Nat.le_of_ble_eq_true rfl) (Nat.le_of_ble_eq_true rfl) dX4_init_7 (fun q1 w1 H n_q1 k_q1 o_q1 hw hS => ?_)
  have P : cw_post w0 w1 h0 (.inr (3, [.null, .null, .null, .int 0])) [(q1, .inl (sx_cI C, 40, .inl (fun _ => 0)))] := cp_add P (ca_one n_q1 k_q1 o_q1)
  refine cw_put (j := 0) (ty := .array .int) X hw hS P.1 rfl inX4 tyX4 tyX4_ok nmX4 (by decide) tw_101 (Or.inr ⟨rfl, hin, rfl⟩) (by decide +kernel) rfl rfl (Nat.le_of_ble_eq_true rfl) dX4_init_9 (fun w2 H locs k_p o_p hw hS => ?_)
  have P : cw_post w0 w2 h0 (.inr (3, [.ref q1, .null, .null, .int 0])) [(q1, .inl (sx_cI C, 40, .inl (fun _ => 0)))] := cp_put P hk0 k_p o_p
  refine lv_aload_n hx hb dX4_init_12 rfl (lv_at hl 0 rfl) ?_
  refine lv_bipush (v := 40) hx hb dX4_init_13 (by decide) ?_
  refine cw_newa X hz hw hS (ty := .int) rfl tw_114 (cA := sx_cI C) hcI (N' := 40) (a0 := (40, .inl (fun _ => 0))) (fun _ => rfl) (by decide) (by decide) (Nat.le_of_ble_eq_true rfl) (Nat.le_of_ble_eq_true rfl) (Nat.le_of_ble_eq_true rfl) dX4_init_15 (fun q3 w3 H n_q3 k_q3 o_q3 hw hS => ?_)
  have P : cw_post w0 w3 h0 (.inr (3, [.ref q1, .null, .null, .int 0])) [(q1, .inl (sx_cI C, 40, .inl (fun _ => 0))), (q3, .inl (sx_cI C, 40, .inl (fun _ => 0)))] := cp_add P (ca_one n_q3 k_q3 o_q3)
  refine cw_put (j := 1) (ty := .array .int) X hw hS P.1 rfl inX4 tyX4 tyX4_ok nmX4 (by decide) tw_102 (Or.inr ⟨rfl, hin, rfl⟩) (by decide +kernel) rfl rfl (Nat.le_of_ble_eq_true rfl) dX4_init_17 (fun w4 H locs k_p o_p hw hS => ?_)
  have P : cw_post w0 w4 h0 (.inr (3, [.ref q1, .ref q3, .null, .int 0])) [(q1, .inl (sx_cI C, 40, .inl (fun _ => 0))), (q3, .inl (sx_cI C, 40, .inl (fun _ => 0)))] := cp_put P hk0 k_p o_p
  refine lv_aload_n hx hb dX4_init_20 rfl (lv_at hl 0 rfl) ?_
  refine lv_bipush (v := 40) hx hb dX4_init_21 (by decide) ?_
  refine cw_newa X hz hw hS (ty := .boolean) rfl tw_115 (cA := sx_cZ C) hcZ (N' := 40) (a0 := (40, .inl (fun _ => 0))) (fun _ => rfl) (by decide) (by decide) (Nat.le_of_ble_eq_true rfl) (Nat.le_of_ble_eq_true rfl) (Nat.le_of_ble_eq_true rfl) dX4_init_23 (fun q5 w5 H n_q5 k_q5 o_q5 hw hS => ?_)
  have P : cw_post w0 w5 h0 (.inr (3, [.ref q1, .ref q3, .null, .int 0])) [(q1, .inl (sx_cI C, 40, .inl (fun _ => 0))), (q3, .inl (sx_cI C, 40, .inl (fun _ => 0))), (q5, .inl (sx_cZ C, 40, .inl (fun _ => 0)))] := cp_add P (ca_one n_q5 k_q5 o_q5)
  refine cw_put (j := 2) (ty := .array .boolean) X hw hS P.1 rfl inX4 tyX4 tyX4_ok nmX4 (by decide) tw_103 (Or.inr ⟨rfl, hin, rfl⟩) (by decide +kernel) rfl rfl (Nat.le_of_ble_eq_true rfl) dX4_init_25 (fun w6 H locs k_p o_p hw hS => ?_)
  have P : cw_post w0 w6 h0 (.inr (3, [.ref q1, .ref q3, .ref q5, .int 0])) [(q1, .inl (sx_cI C, 40, .inl (fun _ => 0))), (q3, .inl (sx_cI C, 40, .inl (fun _ => 0))), (q5, .inl (sx_cZ C, 40, .inl (fun _ => 0)))] := cp_put P hk0 k_p o_p
  refine lv_aload_n hx hb dX4_init_28 rfl (lv_at hl 0 rfl) ?_
  refine lv_iconst (v := 0) hx hb dX4_init_29 (by decide) ?_
  refine cw_put (j := 3) (ty := .int) X hw hS P.1 rfl inX4 tyX4 tyX4_ok nmX4 (by decide) tw_104 (Or.inl rfl) (by decide +kernel) (by decide) (by decide) (Nat.le_of_ble_eq_true rfl) dX4_init_30 (fun w7 H locs k_p o_p hw hS => ?_)
  have P : cw_post w0 w7 h0 (.inr (3, [.ref q1, .ref q3, .ref q5, .int 0])) [(q1, .inl (sx_cI C, 40, .inl (fun _ => 0))), (q3, .inl (sx_cI C, 40, .inl (fun _ => 0))), (q5, .inl (sx_cZ C, 40, .inl (fun _ => 0)))] := cp_put P hk0 k_p o_p
  exact cw_vret X hr hlocks hw hS ⟨q1, q3, q5, P⟩ dX4_init_33
set_option maxRecDepth 100000 in
theorem tw_oRX5 : Cond.methodLink RX5 3 objectInit ∈ sx_T := sx_tin 121 rfl rfl
set_option maxRecDepth 100000 in
set_option maxHeartbeats 4000000 in
theorem ci_X5 (l : Launch) (C : sx_C) (w0 : cw_F) (h0 : Nat) (hk0 : w0 h0 = some (.inr (4, [.null, .int 0, .int 0, .int 0, .int 0]))) : Met l yX5_init (.code yX5_init cX5_init 1 none :: sx_T) ({ frames := 1, cells := 1, slots := 24, locals := 12 } : Room) (cw_Pc C w0 [.ref h0]) (cw_Q C (fun w' => ∃ q1 : Nat, cw_post w0 w' h0 (.inr (4, [.ref q1, .int 0, .int 0, .int 0, .int 0])) [(q1, .inl (sx_cI C, 24, .inl (fun _ => 0)))])) 1 24 (sx_A C) := by
  refine Met.ofW (cc := cX5_init) (maxL := 1) (ret := none) (by decide) rfl ?_
  intro p e s m args below meth c s₁ B hml hv
  obtain ⟨rfl, hz, hw, hK, hO⟩ := hv
  have X : sx_X C p m c cX5_init 1 s #[Value.ref h0] RX5 := ⟨B.exec, B.bytes, hml, findClass_of_methodNamed B.named, fun w hw => atoms_spec B.pre w (List.mem_cons_of_mem _ hw), hK⟩
  obtain ⟨hx, hb, -, hown, hts, -⟩ := id X
  have hr := B.returns
  have hlocks := B.notSynchronized
  have hin : meth.name = "<init>" := (name_of_methodNamed B.named B.method).1
  have hcI := (hK.1.2 0 _ rfl).2
  have hcZ := (hK.1.2 1 _ rfl).2
  have hS : va_S (sx_A C) s.heap s.heap [] := va_S.rf
  have hl := lv_entry ([.ref h0]) (n := 1) (Nat.le_of_ble_eq_true rfl)
  rw [lg_entry_eq]
  generalize (lg_sl ([.ref h0]) ++ List.replicate (1 - (lg_sl ([.ref h0])).length) Slot.unset).toArray = ls at hl ⊢
  have hl : lv_has ls 1 [(0, .ref h0)] := hl
  have P := cp_start hk0
  refine lv_aload_n hx hb dX5_init_0 rfl (lv_at hl 0 rfl) ?_
  refine W.objInit hx hb hown (hts _ tw_oRX5) (hts _ tw_oi) (hts _ tw_oc) rfl (by rw [hml]; exact hl.1) rfl dX5_init_1 (Nat.le_of_ble_eq_true rfl) (Nat.le_of_ble_eq_true rfl) ?_
  refine W.eq (g2 := F0 m 4 ls []) rfl ?_
  refine lv_aload_n hx hb dX5_init_4 rfl (lv_at hl 0 rfl) ?_
  refine lv_bipush (v := 24) hx hb dX5_init_5 (by decide) ?_
  refine cw_newa X hz hw hS (ty := .int) rfl tw_114 (cA := sx_cI C) hcI (N' := 24) (a0 := (24, .inl (fun _ => 0))) (fun _ => rfl) (by decide) (by decide) (Nat.le_of_ble_eq_true rfl) (Nat.le_of_ble_eq_true rfl) (Nat.le_of_ble_eq_true rfl) dX5_init_7 (fun q1 w1 H n_q1 k_q1 o_q1 hw hS => ?_)
  have P : cw_post w0 w1 h0 (.inr (4, [.null, .int 0, .int 0, .int 0, .int 0])) [(q1, .inl (sx_cI C, 24, .inl (fun _ => 0)))] := cp_add P (ca_one n_q1 k_q1 o_q1)
  refine cw_put (j := 0) (ty := .array .int) X hw hS P.1 rfl inX5 tyX5 tyX5_ok nmX5 (by decide) tw_122 (Or.inr ⟨rfl, hin, rfl⟩) (by decide +kernel) rfl rfl (Nat.le_of_ble_eq_true rfl) dX5_init_9 (fun w2 H locs k_p o_p hw hS => ?_)
  have P : cw_post w0 w2 h0 (.inr (4, [.ref q1, .int 0, .int 0, .int 0, .int 0])) [(q1, .inl (sx_cI C, 24, .inl (fun _ => 0)))] := cp_put P hk0 k_p o_p
  refine lv_aload_n hx hb dX5_init_12 rfl (lv_at hl 0 rfl) ?_
  refine lv_iconst (v := 0) hx hb dX5_init_13 (by decide) ?_
  refine cw_put (j := 1) (ty := .int) X hw hS P.1 rfl inX5 tyX5 tyX5_ok nmX5 (by decide) tw_123 (Or.inl rfl) (by decide +kernel) (by decide) (by decide) (Nat.le_of_ble_eq_true rfl) dX5_init_14 (fun w3 H locs k_p o_p hw hS => ?_)
  have P : cw_post w0 w3 h0 (.inr (4, [.ref q1, .int 0, .int 0, .int 0, .int 0])) [(q1, .inl (sx_cI C, 24, .inl (fun _ => 0)))] := cp_put P hk0 k_p o_p
  refine lv_aload_n hx hb dX5_init_17 rfl (lv_at hl 0 rfl) ?_
  refine lv_iconst (v := 0) hx hb dX5_init_18 (by decide) ?_
  refine cw_put (j := 2) (ty := .int) X hw hS P.1 rfl inX5 tyX5 tyX5_ok nmX5 (by decide) tw_124 (Or.inl rfl) (by decide +kernel) (by decide) (by decide) (Nat.le_of_ble_eq_true rfl) dX5_init_19 (fun w4 H locs k_p o_p hw hS => ?_)
  have P : cw_post w0 w4 h0 (.inr (4, [.ref q1, .int 0, .int 0, .int 0, .int 0])) [(q1, .inl (sx_cI C, 24, .inl (fun _ => 0)))] := cp_put P hk0 k_p o_p
  refine lv_aload_n hx hb dX5_init_22 rfl (lv_at hl 0 rfl) ?_
  refine lv_iconst (v := 0) hx hb dX5_init_23 (by decide) ?_
  refine cw_put (j := 3) (ty := .int) X hw hS P.1 rfl inX5 tyX5 tyX5_ok nmX5 (by decide) tw_125 (Or.inl rfl) (by decide +kernel) (by decide) (by decide) (Nat.le_of_ble_eq_true rfl) dX5_init_24 (fun w5 H locs k_p o_p hw hS => ?_)
  have P : cw_post w0 w5 h0 (.inr (4, [.ref q1, .int 0, .int 0, .int 0, .int 0])) [(q1, .inl (sx_cI C, 24, .inl (fun _ => 0)))] := cp_put P hk0 k_p o_p
  refine lv_aload_n hx hb dX5_init_27 rfl (lv_at hl 0 rfl) ?_
  refine lv_iconst (v := 0) hx hb dX5_init_28 (by decide) ?_
  refine cw_put (j := 4) (ty := .boolean) X hw hS P.1 rfl inX5 tyX5 tyX5_ok nmX5 (by decide) tw_126 (Or.inl rfl) (by decide +kernel) (by decide) (by decide) (Nat.le_of_ble_eq_true rfl) dX5_init_29 (fun w6 H locs k_p o_p hw hS => ?_)
  have P : cw_post w0 w6 h0 (.inr (4, [.ref q1, .int 0, .int 0, .int 0, .int 0])) [(q1, .inl (sx_cI C, 24, .inl (fun _ => 0)))] := cp_put P hk0 k_p o_p
  exact cw_vret X hr hlocks hw hS ⟨q1, P⟩ dX5_init_32
set_option maxRecDepth 100000 in
theorem tw_oRX6 : Cond.methodLink RX6 3 objectInit ∈ sx_T := sx_tin 190 rfl rfl
set_option maxRecDepth 100000 in
set_option maxHeartbeats 4000000 in
theorem ci_X6 (l : Launch) (C : sx_C) (w0 : cw_F) (h0 : Nat) (hk0 : w0 h0 = some (.inr (5, [.null, .int 0]))) : Met l yX6_init (.code yX6_init cX6_init 1 none :: sx_T) ({ frames := 1, cells := 1, slots := 120, locals := 12 } : Room) (cw_Pc C w0 [.ref h0]) (cw_Q C (fun w' => ∃ q1 : Nat, cw_post w0 w' h0 (.inr (5, [.ref q1, .int 0])) [(q1, .inl (sx_cI C, 120, .inl (fun _ => 0)))])) 1 120 (sx_A C) := by
  refine Met.ofW (cc := cX6_init) (maxL := 1) (ret := none) (by decide) rfl ?_
  intro p e s m args below meth c s₁ B hml hv
  obtain ⟨rfl, hz, hw, hK, hO⟩ := hv
  have X : sx_X C p m c cX6_init 1 s #[Value.ref h0] RX6 := ⟨B.exec, B.bytes, hml, findClass_of_methodNamed B.named, fun w hw => atoms_spec B.pre w (List.mem_cons_of_mem _ hw), hK⟩
  obtain ⟨hx, hb, -, hown, hts, -⟩ := id X
  have hr := B.returns
  have hlocks := B.notSynchronized
  have hin : meth.name = "<init>" := (name_of_methodNamed B.named B.method).1
  have hcI := (hK.1.2 0 _ rfl).2
  have hcZ := (hK.1.2 1 _ rfl).2
  have hS : va_S (sx_A C) s.heap s.heap [] := va_S.rf
  have hl := lv_entry ([.ref h0]) (n := 1) (Nat.le_of_ble_eq_true rfl)
  rw [lg_entry_eq]
  generalize (lg_sl ([.ref h0]) ++ List.replicate (1 - (lg_sl ([.ref h0])).length) Slot.unset).toArray = ls at hl ⊢
  have hl : lv_has ls 1 [(0, .ref h0)] := hl
  have P := cp_start hk0
  refine lv_aload_n hx hb dX6_init_0 rfl (lv_at hl 0 rfl) ?_
  refine W.objInit hx hb hown (hts _ tw_oRX6) (hts _ tw_oi) (hts _ tw_oc) rfl (by rw [hml]; exact hl.1) rfl dX6_init_1 (Nat.le_of_ble_eq_true rfl) (Nat.le_of_ble_eq_true rfl) ?_
  refine W.eq (g2 := F0 m 4 ls []) rfl ?_
  refine lv_aload_n hx hb dX6_init_4 rfl (lv_at hl 0 rfl) ?_
  refine lv_bipush (v := 120) hx hb dX6_init_5 (by decide) ?_
  refine cw_newa X hz hw hS (ty := .int) rfl tw_114 (cA := sx_cI C) hcI (N' := 120) (a0 := (120, .inl (fun _ => 0))) (fun _ => rfl) (by decide) (by decide) (Nat.le_of_ble_eq_true rfl) (Nat.le_of_ble_eq_true rfl) (Nat.le_of_ble_eq_true rfl) dX6_init_7 (fun q1 w1 H n_q1 k_q1 o_q1 hw hS => ?_)
  have P : cw_post w0 w1 h0 (.inr (5, [.null, .int 0])) [(q1, .inl (sx_cI C, 120, .inl (fun _ => 0)))] := cp_add P (ca_one n_q1 k_q1 o_q1)
  refine cw_put (j := 0) (ty := .array .int) X hw hS P.1 rfl inX6 tyX6 tyX6_ok nmX6 (by decide) tw_191 (Or.inr ⟨rfl, hin, rfl⟩) (by decide +kernel) rfl rfl (Nat.le_of_ble_eq_true rfl) dX6_init_9 (fun w2 H locs k_p o_p hw hS => ?_)
  have P : cw_post w0 w2 h0 (.inr (5, [.ref q1, .int 0])) [(q1, .inl (sx_cI C, 120, .inl (fun _ => 0)))] := cp_put P hk0 k_p o_p
  refine lv_aload_n hx hb dX6_init_12 rfl (lv_at hl 0 rfl) ?_
  refine lv_iconst (v := 0) hx hb dX6_init_13 (by decide) ?_
  refine cw_put (j := 1) (ty := .int) X hw hS P.1 rfl inX6 tyX6 tyX6_ok nmX6 (by decide) tw_192 (Or.inl rfl) (by decide +kernel) (by decide) (by decide) (Nat.le_of_ble_eq_true rfl) dX6_init_14 (fun w3 H locs k_p o_p hw hS => ?_)
  have P : cw_post w0 w3 h0 (.inr (5, [.ref q1, .int 0])) [(q1, .inl (sx_cI C, 120, .inl (fun _ => 0)))] := cp_put P hk0 k_p o_p
  exact cw_vret X hr hlocks hw hS ⟨q1, P⟩ dX6_init_17
set_option maxRecDepth 100000 in
theorem tw_oRX0 : Cond.methodLink RX0 3 objectInit ∈ sx_T := sx_tin 203 rfl rfl
set_option maxRecDepth 100000 in
set_option maxHeartbeats 4000000 in
theorem ci_X0 (l : Launch) (C : sx_C) (w0 : cw_F) (h0 : Nat) (hk0 : w0 h0 = some (.inr (0, [.null, .long 0]))) : Met l yX0_init (.code yX0_init cX0_init 1 none :: sx_T) ({ frames := 1, cells := 1, slots := 24, locals := 12 } : Room) (cw_Pc C w0 [.ref h0]) (cw_Q C (fun w' => ∃ q1 : Nat, cw_post w0 w' h0 (.inr (0, [.ref q1, .long 0])) [(q1, .inl (sx_cI C, 24, .inl (fun _ => 0)))])) 1 24 (sx_A C) := by
  refine Met.ofW (cc := cX0_init) (maxL := 1) (ret := none) (by decide) rfl ?_
  intro p e s m args below meth c s₁ B hml hv
  obtain ⟨rfl, hz, hw, hK, hO⟩ := hv
  have X : sx_X C p m c cX0_init 1 s #[Value.ref h0] RX0 := ⟨B.exec, B.bytes, hml, findClass_of_methodNamed B.named, fun w hw => atoms_spec B.pre w (List.mem_cons_of_mem _ hw), hK⟩
  obtain ⟨hx, hb, -, hown, hts, -⟩ := id X
  have hr := B.returns
  have hlocks := B.notSynchronized
  have hin : meth.name = "<init>" := (name_of_methodNamed B.named B.method).1
  have hcI := (hK.1.2 0 _ rfl).2
  have hcZ := (hK.1.2 1 _ rfl).2
  have hS : va_S (sx_A C) s.heap s.heap [] := va_S.rf
  have hl := lv_entry ([.ref h0]) (n := 1) (Nat.le_of_ble_eq_true rfl)
  rw [lg_entry_eq]
  generalize (lg_sl ([.ref h0]) ++ List.replicate (1 - (lg_sl ([.ref h0])).length) Slot.unset).toArray = ls at hl ⊢
  have hl : lv_has ls 1 [(0, .ref h0)] := hl
  have P := cp_start hk0
  refine lv_aload_n hx hb dX0_init_0 rfl (lv_at hl 0 rfl) ?_
  refine W.objInit hx hb hown (hts _ tw_oRX0) (hts _ tw_oi) (hts _ tw_oc) rfl (by rw [hml]; exact hl.1) rfl dX0_init_1 (Nat.le_of_ble_eq_true rfl) (Nat.le_of_ble_eq_true rfl) ?_
  refine W.eq (g2 := F0 m 4 ls []) rfl ?_
  refine lv_aload_n hx hb dX0_init_4 rfl (lv_at hl 0 rfl) ?_
  refine lv_bipush (v := 24) hx hb dX0_init_5 (by decide) ?_
  refine cw_newa X hz hw hS (ty := .int) rfl tw_114 (cA := sx_cI C) hcI (N' := 24) (a0 := (24, .inl (fun _ => 0))) (fun _ => rfl) (by decide) (by decide) (Nat.le_of_ble_eq_true rfl) (Nat.le_of_ble_eq_true rfl) (Nat.le_of_ble_eq_true rfl) dX0_init_7 (fun q1 w1 H n_q1 k_q1 o_q1 hw hS => ?_)
  have P : cw_post w0 w1 h0 (.inr (0, [.null, .long 0])) [(q1, .inl (sx_cI C, 24, .inl (fun _ => 0)))] := cp_add P (ca_one n_q1 k_q1 o_q1)
  refine cw_put (j := 0) (ty := .array .int) X hw hS P.1 rfl inX0 tyX0 tyX0_ok nmX0 (by decide) tw_204 (Or.inr ⟨rfl, hin, rfl⟩) (by decide +kernel) rfl rfl (Nat.le_of_ble_eq_true rfl) dX0_init_9 (fun w2 H locs k_p o_p hw hS => ?_)
  have P : cw_post w0 w2 h0 (.inr (0, [.ref q1, .long 0])) [(q1, .inl (sx_cI C, 24, .inl (fun _ => 0)))] := cp_put P hk0 k_p o_p
  refine lv_aload_n hx hb dX0_init_12 rfl (lv_at hl 0 rfl) ?_
  refine lv_lconst (v := 0) hx hb dX0_init_13 (by decide) ?_
  refine cw_put (j := 1) (ty := .long) X hw hS P.1 rfl inX0 tyX0 tyX0_ok nmX0 (by decide) tw_205 (Or.inl rfl) (by decide +kernel) rfl rfl (Nat.le_of_ble_eq_true rfl) dX0_init_14 (fun w3 H locs k_p o_p hw hS => ?_)
  have P : cw_post w0 w3 h0 (.inr (0, [.ref q1, .long 0])) [(q1, .inl (sx_cI C, 24, .inl (fun _ => 0)))] := cp_put P hk0 k_p o_p
  exact cw_vret X hr hlocks hw hS ⟨q1, P⟩ dX0_init_17
set_option maxRecDepth 100000 in
theorem tw_oRX8 : Cond.methodLink RX8 1 objectInit ∈ sx_T := sx_tin 970 rfl rfl
set_option maxRecDepth 100000 in
set_option maxHeartbeats 4000000 in
theorem ci_X8 (l : Launch) (C : sx_C) (w0 : cw_F) (h0 : Nat) (hk0 : w0 h0 = some (.inr (7, [.int 0, .null, .int 0, .int 0, .int 0, .int 0, .null, .null, .null, .null, .int 0, .null, .null, .null, .null, .null, .null, .null]))) : Met l yX8_init (.code yX8_init cX8_init 1 none :: sx_T) ({ frames := 1, cells := 12, slots := 4951, locals := 12 } : Room) (cw_Pc C w0 [.ref h0]) (cw_Q C (fun w' => ∃ q1 q3 q5 q7 q9 q11 q13 q15 q17 q19 q21 q23 : Nat, cw_post w0 w' h0 (.inr (7, [.int 0, .ref q1, .int 0, .int 0, .int 0, .int 0, .ref q3, .ref q5, .ref q7, .ref q9, .int 0, .ref q11, .ref q13, .ref q15, .ref q17, .ref q19, .ref q21, .ref q23])) [(q1, .inl (sx_cI C, 120, .inl (fun _ => 0))), (q3, .inl (sx_cI C, 247, .inl (fun _ => 0))), (q5, .inl (sx_cI C, 247, .inl (fun _ => 0))), (q7, .inl (sx_cI C, 247, .inl (fun _ => 0))), (q9, .inl (sx_cI C, 3458, .inl (fun _ => 0))), (q11, .inl (sx_cI C, 494, .inl (fun _ => 0))), (q13, .inl (sx_cZ C, 2, .inl (fun _ => 0))), (q15, .inl (sx_cI C, 24, .inl (fun _ => 0))), (q17, .inl (sx_cZ C, 24, .inl (fun _ => 0))), (q19, .inl (sx_cZ C, 40, .inl (fun _ => 0))), (q21, .inl (sx_cI C, 24, .inl (fun _ => 0))), (q23, .inl (sx_cI C, 24, .inl (fun _ => 0)))])) 12 4951 (sx_A C) := by
  refine Met.ofW (cc := cX8_init) (maxL := 1) (ret := none) (by decide) rfl ?_
  intro p e s m args below meth c s₁ B hml hv
  obtain ⟨rfl, hz, hw, hK, hO⟩ := hv
  have X : sx_X C p m c cX8_init 1 s #[Value.ref h0] RX8 := ⟨B.exec, B.bytes, hml, findClass_of_methodNamed B.named, fun w hw => atoms_spec B.pre w (List.mem_cons_of_mem _ hw), hK⟩
  obtain ⟨hx, hb, -, hown, hts, -⟩ := id X
  have hr := B.returns
  have hlocks := B.notSynchronized
  have hin : meth.name = "<init>" := (name_of_methodNamed B.named B.method).1
  have hcI := (hK.1.2 0 _ rfl).2
  have hcZ := (hK.1.2 1 _ rfl).2
  have hS : va_S (sx_A C) s.heap s.heap [] := va_S.rf
  have hl := lv_entry ([.ref h0]) (n := 1) (Nat.le_of_ble_eq_true rfl)
  rw [lg_entry_eq]
  generalize (lg_sl ([.ref h0]) ++ List.replicate (1 - (lg_sl ([.ref h0])).length) Slot.unset).toArray = ls at hl ⊢
  have hl : lv_has ls 1 [(0, .ref h0)] := hl
  have P := cp_start hk0
  refine lv_aload_n hx hb dX8_init_0 rfl (lv_at hl 0 rfl) ?_
  refine W.objInit hx hb hown (hts _ tw_oRX8) (hts _ tw_oi) (hts _ tw_oc) rfl (by rw [hml]; exact hl.1) rfl dX8_init_1 (Nat.le_of_ble_eq_true rfl) (Nat.le_of_ble_eq_true rfl) ?_
  refine W.eq (g2 := F0 m 4 ls []) rfl ?_
  refine lv_aload_n hx hb dX8_init_4 rfl (lv_at hl 0 rfl) ?_
  refine lv_bipush (v := 120) hx hb dX8_init_5 (by decide) ?_
  refine cw_newa X hz hw hS (ty := .int) rfl tw_114 (cA := sx_cI C) hcI (N' := 120) (a0 := (120, .inl (fun _ => 0))) (fun _ => rfl) (by decide) (by decide) (Nat.le_of_ble_eq_true rfl) (Nat.le_of_ble_eq_true rfl) (Nat.le_of_ble_eq_true rfl) dX8_init_7 (fun q1 w1 H n_q1 k_q1 o_q1 hw hS => ?_)
  have P : cw_post w0 w1 h0 (.inr (7, [.int 0, .null, .int 0, .int 0, .int 0, .int 0, .null, .null, .null, .null, .int 0, .null, .null, .null, .null, .null, .null, .null])) [(q1, .inl (sx_cI C, 120, .inl (fun _ => 0)))] := cp_add P (ca_one n_q1 k_q1 o_q1)
  refine cw_put (j := 1) (ty := .array .int) X hw hS P.1 rfl inX8 tyX8 tyX8_ok nmX8 (by decide) tw_972 (Or.inr ⟨rfl, hin, rfl⟩) (by decide +kernel) rfl rfl (Nat.le_of_ble_eq_true rfl) dX8_init_9 (fun w2 H locs k_p o_p hw hS => ?_)
  have P : cw_post w0 w2 h0 (.inr (7, [.int 0, .ref q1, .int 0, .int 0, .int 0, .int 0, .null, .null, .null, .null, .int 0, .null, .null, .null, .null, .null, .null, .null])) [(q1, .inl (sx_cI C, 120, .inl (fun _ => 0)))] := cp_put P hk0 k_p o_p
  refine lv_aload_n hx hb dX8_init_12 rfl (lv_at hl 0 rfl) ?_
  refine lv_sipush (v := 247) hx hb dX8_init_13 (by decide) ?_
  refine cw_newa X hz hw hS (ty := .int) rfl tw_114 (cA := sx_cI C) hcI (N' := 247) (a0 := (247, .inl (fun _ => 0))) (fun _ => rfl) (by decide) (by decide) (Nat.le_of_ble_eq_true rfl) (Nat.le_of_ble_eq_true rfl) (Nat.le_of_ble_eq_true rfl) dX8_init_16 (fun q3 w3 H n_q3 k_q3 o_q3 hw hS => ?_)
  have P : cw_post w0 w3 h0 (.inr (7, [.int 0, .ref q1, .int 0, .int 0, .int 0, .int 0, .null, .null, .null, .null, .int 0, .null, .null, .null, .null, .null, .null, .null])) [(q1, .inl (sx_cI C, 120, .inl (fun _ => 0))), (q3, .inl (sx_cI C, 247, .inl (fun _ => 0)))] := cp_add P (ca_one n_q3 k_q3 o_q3)
  refine cw_put (j := 6) (ty := .array .int) X hw hS P.1 rfl inX8 tyX8 tyX8_ok nmX8 (by decide) tw_977 (Or.inr ⟨rfl, hin, rfl⟩) (by decide +kernel) rfl rfl (Nat.le_of_ble_eq_true rfl) dX8_init_18 (fun w4 H locs k_p o_p hw hS => ?_)
  have P : cw_post w0 w4 h0 (.inr (7, [.int 0, .ref q1, .int 0, .int 0, .int 0, .int 0, .ref q3, .null, .null, .null, .int 0, .null, .null, .null, .null, .null, .null, .null])) [(q1, .inl (sx_cI C, 120, .inl (fun _ => 0))), (q3, .inl (sx_cI C, 247, .inl (fun _ => 0)))] := cp_put P hk0 k_p o_p
  refine lv_aload_n hx hb dX8_init_21 rfl (lv_at hl 0 rfl) ?_
  refine lv_sipush (v := 247) hx hb dX8_init_22 (by decide) ?_
  refine cw_newa X hz hw hS (ty := .int) rfl tw_114 (cA := sx_cI C) hcI (N' := 247) (a0 := (247, .inl (fun _ => 0))) (fun _ => rfl) (by decide) (by decide) (Nat.le_of_ble_eq_true rfl) (Nat.le_of_ble_eq_true rfl) (Nat.le_of_ble_eq_true rfl) dX8_init_25 (fun q5 w5 H n_q5 k_q5 o_q5 hw hS => ?_)
  have P : cw_post w0 w5 h0 (.inr (7, [.int 0, .ref q1, .int 0, .int 0, .int 0, .int 0, .ref q3, .null, .null, .null, .int 0, .null, .null, .null, .null, .null, .null, .null])) [(q1, .inl (sx_cI C, 120, .inl (fun _ => 0))), (q3, .inl (sx_cI C, 247, .inl (fun _ => 0))), (q5, .inl (sx_cI C, 247, .inl (fun _ => 0)))] := cp_add P (ca_one n_q5 k_q5 o_q5)
  refine cw_put (j := 7) (ty := .array .int) X hw hS P.1 rfl inX8 tyX8 tyX8_ok nmX8 (by decide) tw_978 (Or.inr ⟨rfl, hin, rfl⟩) (by decide +kernel) rfl rfl (Nat.le_of_ble_eq_true rfl) dX8_init_27 (fun w6 H locs k_p o_p hw hS => ?_)
  have P : cw_post w0 w6 h0 (.inr (7, [.int 0, .ref q1, .int 0, .int 0, .int 0, .int 0, .ref q3, .ref q5, .null, .null, .int 0, .null, .null, .null, .null, .null, .null, .null])) [(q1, .inl (sx_cI C, 120, .inl (fun _ => 0))), (q3, .inl (sx_cI C, 247, .inl (fun _ => 0))), (q5, .inl (sx_cI C, 247, .inl (fun _ => 0)))] := cp_put P hk0 k_p o_p
  refine lv_aload_n hx hb dX8_init_30 rfl (lv_at hl 0 rfl) ?_
  refine lv_sipush (v := 247) hx hb dX8_init_31 (by decide) ?_
  refine cw_newa X hz hw hS (ty := .int) rfl tw_114 (cA := sx_cI C) hcI (N' := 247) (a0 := (247, .inl (fun _ => 0))) (fun _ => rfl) (by decide) (by decide) (Nat.le_of_ble_eq_true rfl) (Nat.le_of_ble_eq_true rfl) (Nat.le_of_ble_eq_true rfl) dX8_init_34 (fun q7 w7 H n_q7 k_q7 o_q7 hw hS => ?_)
  have P : cw_post w0 w7 h0 (.inr (7, [.int 0, .ref q1, .int 0, .int 0, .int 0, .int 0, .ref q3, .ref q5, .null, .null, .int 0, .null, .null, .null, .null, .null, .null, .null])) [(q1, .inl (sx_cI C, 120, .inl (fun _ => 0))), (q3, .inl (sx_cI C, 247, .inl (fun _ => 0))), (q5, .inl (sx_cI C, 247, .inl (fun _ => 0))), (q7, .inl (sx_cI C, 247, .inl (fun _ => 0)))] := cp_add P (ca_one n_q7 k_q7 o_q7)
  refine cw_put (j := 8) (ty := .array .int) X hw hS P.1 rfl inX8 tyX8 tyX8_ok nmX8 (by decide) tw_979 (Or.inr ⟨rfl, hin, rfl⟩) (by decide +kernel) rfl rfl (Nat.le_of_ble_eq_true rfl) dX8_init_36 (fun w8 H locs k_p o_p hw hS => ?_)
  have P : cw_post w0 w8 h0 (.inr (7, [.int 0, .ref q1, .int 0, .int 0, .int 0, .int 0, .ref q3, .ref q5, .ref q7, .null, .int 0, .null, .null, .null, .null, .null, .null, .null])) [(q1, .inl (sx_cI C, 120, .inl (fun _ => 0))), (q3, .inl (sx_cI C, 247, .inl (fun _ => 0))), (q5, .inl (sx_cI C, 247, .inl (fun _ => 0))), (q7, .inl (sx_cI C, 247, .inl (fun _ => 0)))] := cp_put P hk0 k_p o_p
  refine lv_aload_n hx hb dX8_init_39 rfl (lv_at hl 0 rfl) ?_
  refine lv_sipush (v := 3458) hx hb dX8_init_40 (by decide) ?_
  refine cw_newa X hz hw hS (ty := .int) rfl tw_114 (cA := sx_cI C) hcI (N' := 3458) (a0 := (3458, .inl (fun _ => 0))) (fun _ => rfl) (by decide) (by decide) (Nat.le_of_ble_eq_true rfl) (Nat.le_of_ble_eq_true rfl) (Nat.le_of_ble_eq_true rfl) dX8_init_43 (fun q9 w9 H n_q9 k_q9 o_q9 hw hS => ?_)
  have P : cw_post w0 w9 h0 (.inr (7, [.int 0, .ref q1, .int 0, .int 0, .int 0, .int 0, .ref q3, .ref q5, .ref q7, .null, .int 0, .null, .null, .null, .null, .null, .null, .null])) [(q1, .inl (sx_cI C, 120, .inl (fun _ => 0))), (q3, .inl (sx_cI C, 247, .inl (fun _ => 0))), (q5, .inl (sx_cI C, 247, .inl (fun _ => 0))), (q7, .inl (sx_cI C, 247, .inl (fun _ => 0))), (q9, .inl (sx_cI C, 3458, .inl (fun _ => 0)))] := cp_add P (ca_one n_q9 k_q9 o_q9)
  refine cw_put (j := 9) (ty := .array .int) X hw hS P.1 rfl inX8 tyX8 tyX8_ok nmX8 (by decide) tw_980 (Or.inr ⟨rfl, hin, rfl⟩) (by decide +kernel) rfl rfl (Nat.le_of_ble_eq_true rfl) dX8_init_45 (fun w10 H locs k_p o_p hw hS => ?_)
  have P : cw_post w0 w10 h0 (.inr (7, [.int 0, .ref q1, .int 0, .int 0, .int 0, .int 0, .ref q3, .ref q5, .ref q7, .ref q9, .int 0, .null, .null, .null, .null, .null, .null, .null])) [(q1, .inl (sx_cI C, 120, .inl (fun _ => 0))), (q3, .inl (sx_cI C, 247, .inl (fun _ => 0))), (q5, .inl (sx_cI C, 247, .inl (fun _ => 0))), (q7, .inl (sx_cI C, 247, .inl (fun _ => 0))), (q9, .inl (sx_cI C, 3458, .inl (fun _ => 0)))] := cp_put P hk0 k_p o_p
  refine lv_aload_n hx hb dX8_init_48 rfl (lv_at hl 0 rfl) ?_
  refine lv_sipush (v := 494) hx hb dX8_init_49 (by decide) ?_
  refine cw_newa X hz hw hS (ty := .int) rfl tw_114 (cA := sx_cI C) hcI (N' := 494) (a0 := (494, .inl (fun _ => 0))) (fun _ => rfl) (by decide) (by decide) (Nat.le_of_ble_eq_true rfl) (Nat.le_of_ble_eq_true rfl) (Nat.le_of_ble_eq_true rfl) dX8_init_52 (fun q11 w11 H n_q11 k_q11 o_q11 hw hS => ?_)
  have P : cw_post w0 w11 h0 (.inr (7, [.int 0, .ref q1, .int 0, .int 0, .int 0, .int 0, .ref q3, .ref q5, .ref q7, .ref q9, .int 0, .null, .null, .null, .null, .null, .null, .null])) [(q1, .inl (sx_cI C, 120, .inl (fun _ => 0))), (q3, .inl (sx_cI C, 247, .inl (fun _ => 0))), (q5, .inl (sx_cI C, 247, .inl (fun _ => 0))), (q7, .inl (sx_cI C, 247, .inl (fun _ => 0))), (q9, .inl (sx_cI C, 3458, .inl (fun _ => 0))), (q11, .inl (sx_cI C, 494, .inl (fun _ => 0)))] := cp_add P (ca_one n_q11 k_q11 o_q11)
  refine cw_put (j := 11) (ty := .array .int) X hw hS P.1 rfl inX8 tyX8 tyX8_ok nmX8 (by decide) tw_982 (Or.inr ⟨rfl, hin, rfl⟩) (by decide +kernel) rfl rfl (Nat.le_of_ble_eq_true rfl) dX8_init_54 (fun w12 H locs k_p o_p hw hS => ?_)
  have P : cw_post w0 w12 h0 (.inr (7, [.int 0, .ref q1, .int 0, .int 0, .int 0, .int 0, .ref q3, .ref q5, .ref q7, .ref q9, .int 0, .ref q11, .null, .null, .null, .null, .null, .null])) [(q1, .inl (sx_cI C, 120, .inl (fun _ => 0))), (q3, .inl (sx_cI C, 247, .inl (fun _ => 0))), (q5, .inl (sx_cI C, 247, .inl (fun _ => 0))), (q7, .inl (sx_cI C, 247, .inl (fun _ => 0))), (q9, .inl (sx_cI C, 3458, .inl (fun _ => 0))), (q11, .inl (sx_cI C, 494, .inl (fun _ => 0)))] := cp_put P hk0 k_p o_p
  refine lv_aload_n hx hb dX8_init_57 rfl (lv_at hl 0 rfl) ?_
  refine lv_iconst (v := 2) hx hb dX8_init_58 (by decide) ?_
  refine cw_newa X hz hw hS (ty := .boolean) rfl tw_115 (cA := sx_cZ C) hcZ (N' := 2) (a0 := (2, .inl (fun _ => 0))) (fun _ => rfl) (by decide) (by decide) (Nat.le_of_ble_eq_true rfl) (Nat.le_of_ble_eq_true rfl) (Nat.le_of_ble_eq_true rfl) dX8_init_59 (fun q13 w13 H n_q13 k_q13 o_q13 hw hS => ?_)
  have P : cw_post w0 w13 h0 (.inr (7, [.int 0, .ref q1, .int 0, .int 0, .int 0, .int 0, .ref q3, .ref q5, .ref q7, .ref q9, .int 0, .ref q11, .null, .null, .null, .null, .null, .null])) [(q1, .inl (sx_cI C, 120, .inl (fun _ => 0))), (q3, .inl (sx_cI C, 247, .inl (fun _ => 0))), (q5, .inl (sx_cI C, 247, .inl (fun _ => 0))), (q7, .inl (sx_cI C, 247, .inl (fun _ => 0))), (q9, .inl (sx_cI C, 3458, .inl (fun _ => 0))), (q11, .inl (sx_cI C, 494, .inl (fun _ => 0))), (q13, .inl (sx_cZ C, 2, .inl (fun _ => 0)))] := cp_add P (ca_one n_q13 k_q13 o_q13)
  refine cw_put (j := 12) (ty := .array .boolean) X hw hS P.1 rfl inX8 tyX8 tyX8_ok nmX8 (by decide) tw_983 (Or.inr ⟨rfl, hin, rfl⟩) (by decide +kernel) rfl rfl (Nat.le_of_ble_eq_true rfl) dX8_init_61 (fun w14 H locs k_p o_p hw hS => ?_)
  have P : cw_post w0 w14 h0 (.inr (7, [.int 0, .ref q1, .int 0, .int 0, .int 0, .int 0, .ref q3, .ref q5, .ref q7, .ref q9, .int 0, .ref q11, .ref q13, .null, .null, .null, .null, .null])) [(q1, .inl (sx_cI C, 120, .inl (fun _ => 0))), (q3, .inl (sx_cI C, 247, .inl (fun _ => 0))), (q5, .inl (sx_cI C, 247, .inl (fun _ => 0))), (q7, .inl (sx_cI C, 247, .inl (fun _ => 0))), (q9, .inl (sx_cI C, 3458, .inl (fun _ => 0))), (q11, .inl (sx_cI C, 494, .inl (fun _ => 0))), (q13, .inl (sx_cZ C, 2, .inl (fun _ => 0)))] := cp_put P hk0 k_p o_p
  refine lv_aload_n hx hb dX8_init_64 rfl (lv_at hl 0 rfl) ?_
  refine lv_bipush (v := 24) hx hb dX8_init_65 (by decide) ?_
  refine cw_newa X hz hw hS (ty := .int) rfl tw_114 (cA := sx_cI C) hcI (N' := 24) (a0 := (24, .inl (fun _ => 0))) (fun _ => rfl) (by decide) (by decide) (Nat.le_of_ble_eq_true rfl) (Nat.le_of_ble_eq_true rfl) (Nat.le_of_ble_eq_true rfl) dX8_init_67 (fun q15 w15 H n_q15 k_q15 o_q15 hw hS => ?_)
  have P : cw_post w0 w15 h0 (.inr (7, [.int 0, .ref q1, .int 0, .int 0, .int 0, .int 0, .ref q3, .ref q5, .ref q7, .ref q9, .int 0, .ref q11, .ref q13, .null, .null, .null, .null, .null])) [(q1, .inl (sx_cI C, 120, .inl (fun _ => 0))), (q3, .inl (sx_cI C, 247, .inl (fun _ => 0))), (q5, .inl (sx_cI C, 247, .inl (fun _ => 0))), (q7, .inl (sx_cI C, 247, .inl (fun _ => 0))), (q9, .inl (sx_cI C, 3458, .inl (fun _ => 0))), (q11, .inl (sx_cI C, 494, .inl (fun _ => 0))), (q13, .inl (sx_cZ C, 2, .inl (fun _ => 0))), (q15, .inl (sx_cI C, 24, .inl (fun _ => 0)))] := cp_add P (ca_one n_q15 k_q15 o_q15)
  refine cw_put (j := 13) (ty := .array .int) X hw hS P.1 rfl inX8 tyX8 tyX8_ok nmX8 (by decide) tw_984 (Or.inr ⟨rfl, hin, rfl⟩) (by decide +kernel) rfl rfl (Nat.le_of_ble_eq_true rfl) dX8_init_69 (fun w16 H locs k_p o_p hw hS => ?_)
  have P : cw_post w0 w16 h0 (.inr (7, [.int 0, .ref q1, .int 0, .int 0, .int 0, .int 0, .ref q3, .ref q5, .ref q7, .ref q9, .int 0, .ref q11, .ref q13, .ref q15, .null, .null, .null, .null])) [(q1, .inl (sx_cI C, 120, .inl (fun _ => 0))), (q3, .inl (sx_cI C, 247, .inl (fun _ => 0))), (q5, .inl (sx_cI C, 247, .inl (fun _ => 0))), (q7, .inl (sx_cI C, 247, .inl (fun _ => 0))), (q9, .inl (sx_cI C, 3458, .inl (fun _ => 0))), (q11, .inl (sx_cI C, 494, .inl (fun _ => 0))), (q13, .inl (sx_cZ C, 2, .inl (fun _ => 0))), (q15, .inl (sx_cI C, 24, .inl (fun _ => 0)))] := cp_put P hk0 k_p o_p
  refine lv_aload_n hx hb dX8_init_72 rfl (lv_at hl 0 rfl) ?_
  refine lv_bipush (v := 24) hx hb dX8_init_73 (by decide) ?_
  refine cw_newa X hz hw hS (ty := .boolean) rfl tw_115 (cA := sx_cZ C) hcZ (N' := 24) (a0 := (24, .inl (fun _ => 0))) (fun _ => rfl) (by decide) (by decide) (Nat.le_of_ble_eq_true rfl) (Nat.le_of_ble_eq_true rfl) (Nat.le_of_ble_eq_true rfl) dX8_init_75 (fun q17 w17 H n_q17 k_q17 o_q17 hw hS => ?_)
  have P : cw_post w0 w17 h0 (.inr (7, [.int 0, .ref q1, .int 0, .int 0, .int 0, .int 0, .ref q3, .ref q5, .ref q7, .ref q9, .int 0, .ref q11, .ref q13, .ref q15, .null, .null, .null, .null])) [(q1, .inl (sx_cI C, 120, .inl (fun _ => 0))), (q3, .inl (sx_cI C, 247, .inl (fun _ => 0))), (q5, .inl (sx_cI C, 247, .inl (fun _ => 0))), (q7, .inl (sx_cI C, 247, .inl (fun _ => 0))), (q9, .inl (sx_cI C, 3458, .inl (fun _ => 0))), (q11, .inl (sx_cI C, 494, .inl (fun _ => 0))), (q13, .inl (sx_cZ C, 2, .inl (fun _ => 0))), (q15, .inl (sx_cI C, 24, .inl (fun _ => 0))), (q17, .inl (sx_cZ C, 24, .inl (fun _ => 0)))] := cp_add P (ca_one n_q17 k_q17 o_q17)
  refine cw_put (j := 14) (ty := .array .boolean) X hw hS P.1 rfl inX8 tyX8 tyX8_ok nmX8 (by decide) tw_985 (Or.inr ⟨rfl, hin, rfl⟩) (by decide +kernel) rfl rfl (Nat.le_of_ble_eq_true rfl) dX8_init_77 (fun w18 H locs k_p o_p hw hS => ?_)
  have P : cw_post w0 w18 h0 (.inr (7, [.int 0, .ref q1, .int 0, .int 0, .int 0, .int 0, .ref q3, .ref q5, .ref q7, .ref q9, .int 0, .ref q11, .ref q13, .ref q15, .ref q17, .null, .null, .null])) [(q1, .inl (sx_cI C, 120, .inl (fun _ => 0))), (q3, .inl (sx_cI C, 247, .inl (fun _ => 0))), (q5, .inl (sx_cI C, 247, .inl (fun _ => 0))), (q7, .inl (sx_cI C, 247, .inl (fun _ => 0))), (q9, .inl (sx_cI C, 3458, .inl (fun _ => 0))), (q11, .inl (sx_cI C, 494, .inl (fun _ => 0))), (q13, .inl (sx_cZ C, 2, .inl (fun _ => 0))), (q15, .inl (sx_cI C, 24, .inl (fun _ => 0))), (q17, .inl (sx_cZ C, 24, .inl (fun _ => 0)))] := cp_put P hk0 k_p o_p
  refine lv_aload_n hx hb dX8_init_80 rfl (lv_at hl 0 rfl) ?_
  refine lv_bipush (v := 40) hx hb dX8_init_81 (by decide) ?_
  refine cw_newa X hz hw hS (ty := .boolean) rfl tw_115 (cA := sx_cZ C) hcZ (N' := 40) (a0 := (40, .inl (fun _ => 0))) (fun _ => rfl) (by decide) (by decide) (Nat.le_of_ble_eq_true rfl) (Nat.le_of_ble_eq_true rfl) (Nat.le_of_ble_eq_true rfl) dX8_init_83 (fun q19 w19 H n_q19 k_q19 o_q19 hw hS => ?_)
  have P : cw_post w0 w19 h0 (.inr (7, [.int 0, .ref q1, .int 0, .int 0, .int 0, .int 0, .ref q3, .ref q5, .ref q7, .ref q9, .int 0, .ref q11, .ref q13, .ref q15, .ref q17, .null, .null, .null])) [(q1, .inl (sx_cI C, 120, .inl (fun _ => 0))), (q3, .inl (sx_cI C, 247, .inl (fun _ => 0))), (q5, .inl (sx_cI C, 247, .inl (fun _ => 0))), (q7, .inl (sx_cI C, 247, .inl (fun _ => 0))), (q9, .inl (sx_cI C, 3458, .inl (fun _ => 0))), (q11, .inl (sx_cI C, 494, .inl (fun _ => 0))), (q13, .inl (sx_cZ C, 2, .inl (fun _ => 0))), (q15, .inl (sx_cI C, 24, .inl (fun _ => 0))), (q17, .inl (sx_cZ C, 24, .inl (fun _ => 0))), (q19, .inl (sx_cZ C, 40, .inl (fun _ => 0)))] := cp_add P (ca_one n_q19 k_q19 o_q19)
  refine cw_put (j := 15) (ty := .array .boolean) X hw hS P.1 rfl inX8 tyX8 tyX8_ok nmX8 (by decide) tw_986 (Or.inr ⟨rfl, hin, rfl⟩) (by decide +kernel) rfl rfl (Nat.le_of_ble_eq_true rfl) dX8_init_85 (fun w20 H locs k_p o_p hw hS => ?_)
  have P : cw_post w0 w20 h0 (.inr (7, [.int 0, .ref q1, .int 0, .int 0, .int 0, .int 0, .ref q3, .ref q5, .ref q7, .ref q9, .int 0, .ref q11, .ref q13, .ref q15, .ref q17, .ref q19, .null, .null])) [(q1, .inl (sx_cI C, 120, .inl (fun _ => 0))), (q3, .inl (sx_cI C, 247, .inl (fun _ => 0))), (q5, .inl (sx_cI C, 247, .inl (fun _ => 0))), (q7, .inl (sx_cI C, 247, .inl (fun _ => 0))), (q9, .inl (sx_cI C, 3458, .inl (fun _ => 0))), (q11, .inl (sx_cI C, 494, .inl (fun _ => 0))), (q13, .inl (sx_cZ C, 2, .inl (fun _ => 0))), (q15, .inl (sx_cI C, 24, .inl (fun _ => 0))), (q17, .inl (sx_cZ C, 24, .inl (fun _ => 0))), (q19, .inl (sx_cZ C, 40, .inl (fun _ => 0)))] := cp_put P hk0 k_p o_p
  refine lv_aload_n hx hb dX8_init_88 rfl (lv_at hl 0 rfl) ?_
  refine lv_bipush (v := 24) hx hb dX8_init_89 (by decide) ?_
  refine cw_newa X hz hw hS (ty := .int) rfl tw_114 (cA := sx_cI C) hcI (N' := 24) (a0 := (24, .inl (fun _ => 0))) (fun _ => rfl) (by decide) (by decide) (Nat.le_of_ble_eq_true rfl) (Nat.le_of_ble_eq_true rfl) (Nat.le_of_ble_eq_true rfl) dX8_init_91 (fun q21 w21 H n_q21 k_q21 o_q21 hw hS => ?_)
  have P : cw_post w0 w21 h0 (.inr (7, [.int 0, .ref q1, .int 0, .int 0, .int 0, .int 0, .ref q3, .ref q5, .ref q7, .ref q9, .int 0, .ref q11, .ref q13, .ref q15, .ref q17, .ref q19, .null, .null])) [(q1, .inl (sx_cI C, 120, .inl (fun _ => 0))), (q3, .inl (sx_cI C, 247, .inl (fun _ => 0))), (q5, .inl (sx_cI C, 247, .inl (fun _ => 0))), (q7, .inl (sx_cI C, 247, .inl (fun _ => 0))), (q9, .inl (sx_cI C, 3458, .inl (fun _ => 0))), (q11, .inl (sx_cI C, 494, .inl (fun _ => 0))), (q13, .inl (sx_cZ C, 2, .inl (fun _ => 0))), (q15, .inl (sx_cI C, 24, .inl (fun _ => 0))), (q17, .inl (sx_cZ C, 24, .inl (fun _ => 0))), (q19, .inl (sx_cZ C, 40, .inl (fun _ => 0))), (q21, .inl (sx_cI C, 24, .inl (fun _ => 0)))] := cp_add P (ca_one n_q21 k_q21 o_q21)
  refine cw_put (j := 16) (ty := .array .int) X hw hS P.1 rfl inX8 tyX8 tyX8_ok nmX8 (by decide) tw_987 (Or.inr ⟨rfl, hin, rfl⟩) (by decide +kernel) rfl rfl (Nat.le_of_ble_eq_true rfl) dX8_init_93 (fun w22 H locs k_p o_p hw hS => ?_)
  have P : cw_post w0 w22 h0 (.inr (7, [.int 0, .ref q1, .int 0, .int 0, .int 0, .int 0, .ref q3, .ref q5, .ref q7, .ref q9, .int 0, .ref q11, .ref q13, .ref q15, .ref q17, .ref q19, .ref q21, .null])) [(q1, .inl (sx_cI C, 120, .inl (fun _ => 0))), (q3, .inl (sx_cI C, 247, .inl (fun _ => 0))), (q5, .inl (sx_cI C, 247, .inl (fun _ => 0))), (q7, .inl (sx_cI C, 247, .inl (fun _ => 0))), (q9, .inl (sx_cI C, 3458, .inl (fun _ => 0))), (q11, .inl (sx_cI C, 494, .inl (fun _ => 0))), (q13, .inl (sx_cZ C, 2, .inl (fun _ => 0))), (q15, .inl (sx_cI C, 24, .inl (fun _ => 0))), (q17, .inl (sx_cZ C, 24, .inl (fun _ => 0))), (q19, .inl (sx_cZ C, 40, .inl (fun _ => 0))), (q21, .inl (sx_cI C, 24, .inl (fun _ => 0)))] := cp_put P hk0 k_p o_p
  refine lv_aload_n hx hb dX8_init_96 rfl (lv_at hl 0 rfl) ?_
  refine lv_bipush (v := 24) hx hb dX8_init_97 (by decide) ?_
  refine cw_newa X hz hw hS (ty := .int) rfl tw_114 (cA := sx_cI C) hcI (N' := 24) (a0 := (24, .inl (fun _ => 0))) (fun _ => rfl) (by decide) (by decide) (Nat.le_of_ble_eq_true rfl) (Nat.le_of_ble_eq_true rfl) (Nat.le_of_ble_eq_true rfl) dX8_init_99 (fun q23 w23 H n_q23 k_q23 o_q23 hw hS => ?_)
  have P : cw_post w0 w23 h0 (.inr (7, [.int 0, .ref q1, .int 0, .int 0, .int 0, .int 0, .ref q3, .ref q5, .ref q7, .ref q9, .int 0, .ref q11, .ref q13, .ref q15, .ref q17, .ref q19, .ref q21, .null])) [(q1, .inl (sx_cI C, 120, .inl (fun _ => 0))), (q3, .inl (sx_cI C, 247, .inl (fun _ => 0))), (q5, .inl (sx_cI C, 247, .inl (fun _ => 0))), (q7, .inl (sx_cI C, 247, .inl (fun _ => 0))), (q9, .inl (sx_cI C, 3458, .inl (fun _ => 0))), (q11, .inl (sx_cI C, 494, .inl (fun _ => 0))), (q13, .inl (sx_cZ C, 2, .inl (fun _ => 0))), (q15, .inl (sx_cI C, 24, .inl (fun _ => 0))), (q17, .inl (sx_cZ C, 24, .inl (fun _ => 0))), (q19, .inl (sx_cZ C, 40, .inl (fun _ => 0))), (q21, .inl (sx_cI C, 24, .inl (fun _ => 0))), (q23, .inl (sx_cI C, 24, .inl (fun _ => 0)))] := cp_add P (ca_one n_q23 k_q23 o_q23)
  refine cw_put (j := 17) (ty := .array .int) X hw hS P.1 rfl inX8 tyX8 tyX8_ok nmX8 (by decide) tw_988 (Or.inr ⟨rfl, hin, rfl⟩) (by decide +kernel) rfl rfl (Nat.le_of_ble_eq_true rfl) dX8_init_101 (fun w24 H locs k_p o_p hw hS => ?_)
  have P : cw_post w0 w24 h0 (.inr (7, [.int 0, .ref q1, .int 0, .int 0, .int 0, .int 0, .ref q3, .ref q5, .ref q7, .ref q9, .int 0, .ref q11, .ref q13, .ref q15, .ref q17, .ref q19, .ref q21, .ref q23])) [(q1, .inl (sx_cI C, 120, .inl (fun _ => 0))), (q3, .inl (sx_cI C, 247, .inl (fun _ => 0))), (q5, .inl (sx_cI C, 247, .inl (fun _ => 0))), (q7, .inl (sx_cI C, 247, .inl (fun _ => 0))), (q9, .inl (sx_cI C, 3458, .inl (fun _ => 0))), (q11, .inl (sx_cI C, 494, .inl (fun _ => 0))), (q13, .inl (sx_cZ C, 2, .inl (fun _ => 0))), (q15, .inl (sx_cI C, 24, .inl (fun _ => 0))), (q17, .inl (sx_cZ C, 24, .inl (fun _ => 0))), (q19, .inl (sx_cZ C, 40, .inl (fun _ => 0))), (q21, .inl (sx_cI C, 24, .inl (fun _ => 0))), (q23, .inl (sx_cI C, 24, .inl (fun _ => 0)))] := cp_put P hk0 k_p o_p
  exact cw_vret X hr hlocks hw hS ⟨q1, q3, q5, q7, q9, q11, q13, q15, q17, q19, q21, q23, P⟩ dX8_init_104
set_option maxRecDepth 100000 in
theorem tw_oRX3 : Cond.methodLink RX3 3 objectInit ∈ sx_T := sx_tin 94 rfl rfl
set_option maxRecDepth 100000 in
set_option maxHeartbeats 4000000 in
theorem ci_X3 (l : Launch) (C : sx_C) (w0 : cw_F) (h0 : Nat) (hk0 : w0 h0 = some (.inr (2, [.null, .null, .null, .int 0, .int 0, .int 0, .int 0, .int 0]))) : Met l yX3_init (.code yX3_init cX3_init 1 none :: sx_T) ({ frames := 2, cells := 7, slots := 177, locals := 32 } : Room) (cw_Pc C w0 [.ref h0]) (cw_Q C (fun w' => ∃ q1 q3 q4 q5 q7 q9 q11 : Nat, cw_post w0 w' h0 (.inr (2, [.ref q1, .ref q7, .ref q11, .int 0, .int 0, .int 0, .int 0, .int 0])) [(q1, .inr (3, [.ref q3, .ref q4, .ref q5, .int 0])), (q3, .inl (sx_cI C, 40, .inl (fun _ => 0))), (q4, .inl (sx_cI C, 40, .inl (fun _ => 0))), (q5, .inl (sx_cZ C, 40, .inl (fun _ => 0))), (q7, .inr (4, [.ref q9, .int 0, .int 0, .int 0, .int 0])), (q9, .inl (sx_cI C, 24, .inl (fun _ => 0))), (q11, .inl (sx_cI C, 24, .inl (fun _ => 0)))])) 7 177 (sx_A C) := by
  refine Met.ofW (cc := cX3_init) (maxL := 1) (ret := none) (by decide) rfl ?_
  intro p e s m args below meth c s₁ B hml hv
  obtain ⟨rfl, hz, hw, hK, hO⟩ := hv
  have X : sx_X C p m c cX3_init 1 s #[Value.ref h0] RX3 := ⟨B.exec, B.bytes, hml, findClass_of_methodNamed B.named, fun w hw => atoms_spec B.pre w (List.mem_cons_of_mem _ hw), hK⟩
  obtain ⟨hx, hb, -, hown, hts, -⟩ := id X
  have hr := B.returns
  have hlocks := B.notSynchronized
  have hin : meth.name = "<init>" := (name_of_methodNamed B.named B.method).1
  have hcI := (hK.1.2 0 _ rfl).2
  have hcZ := (hK.1.2 1 _ rfl).2
  have hS : va_S (sx_A C) s.heap s.heap [] := va_S.rf
  have hl := lv_entry ([.ref h0]) (n := 1) (Nat.le_of_ble_eq_true rfl)
  rw [lg_entry_eq]
  generalize (lg_sl ([.ref h0]) ++ List.replicate (1 - (lg_sl ([.ref h0])).length) Slot.unset).toArray = ls at hl ⊢
  have hl : lv_has ls 1 [(0, .ref h0)] := hl
  have P := cp_start hk0
  refine lv_aload_n hx hb dX3_init_0 rfl (lv_at hl 0 rfl) ?_
  refine W.objInit hx hb hown (hts _ tw_oRX3) (hts _ tw_oi) (hts _ tw_oc) rfl (by rw [hml]; exact hl.1) rfl dX3_init_1 (Nat.le_of_ble_eq_true rfl) (Nat.le_of_ble_eq_true rfl) ?_
  refine W.eq (g2 := F0 m 4 ls []) rfl ?_
  refine lv_aload_n hx hb dX3_init_4 rfl (lv_at hl 0 rfl) ?_
  refine cw_new (ci := 3) (fs := [.null, .null, .null, .int 0]) X hz hw hS rfl inX4 tyX4 tyX4_ok tw_95 tw_96 tw_66 (fun j hj => by rcases (show j = 0 ∨ j = 1 ∨ j = 2 ∨ j = 3 by omega) with rfl | rfl | rfl | rfl <;> rfl) (Nat.le_of_ble_eq_true rfl) (Nat.le_of_ble_eq_true rfl) dX3_init_5 (fun q1 w1 H n_q1 k_q1 o_q1 hw hS => ?_)
  refine lv_dup hx hb dX3_init_8 rfl ?_
  refine cw_callIN (host := "StringShed") X hO hz hw hS (List.mem_of_getElem? (i := 1) rfl) tw_66 tw_98 tw_99 rfl (by decide +kernel) rfl rfl ⟨Nat.le_of_ble_eq_true rfl, Nat.le_of_ble_eq_true rfl⟩ (ci_X4 l C w1 q1 k_q1) (Nat.le_of_ble_eq_true rfl) hl.1 dX3_init_9 ⟨Nat.le_of_ble_eq_true rfl, Nat.le_of_ble_eq_true rfl⟩ (fun w2 H locs hw hp hS => ?_)
  obtain ⟨q3, q4, q5, hp⟩ := hp
  have P : cw_post w0 w2 h0 (.inr (2, [.null, .null, .null, .int 0, .int 0, .int 0, .int 0, .int 0])) [(q1, .inr (3, [.ref q3, .ref q4, .ref q5, .int 0])), (q3, .inl (sx_cI C, 40, .inl (fun _ => 0))), (q4, .inl (sx_cI C, 40, .inl (fun _ => 0))), (q5, .inl (sx_cZ C, 40, .inl (fun _ => 0)))] := cp_add P (ca_obj n_q1 k_q1 o_q1 hp)
  refine cw_put (j := 0) (ty := .object "StringShed$Strings") X hw hS P.1 rfl inX3 tyX3 tyX3_ok nmX3 (by decide) tw_138 (Or.inr ⟨rfl, hin, rfl⟩) (by decide +kernel) rfl rfl (Nat.le_of_ble_eq_true rfl) dX3_init_12 (fun w6 H locs k_p o_p hw hS => ?_)
  have P : cw_post w0 w6 h0 (.inr (2, [.ref q1, .null, .null, .int 0, .int 0, .int 0, .int 0, .int 0])) [(q1, .inr (3, [.ref q3, .ref q4, .ref q5, .int 0])), (q3, .inl (sx_cI C, 40, .inl (fun _ => 0))), (q4, .inl (sx_cI C, 40, .inl (fun _ => 0))), (q5, .inl (sx_cZ C, 40, .inl (fun _ => 0)))] := cp_put P hk0 k_p o_p
  refine lv_aload_n hx hb dX3_init_15 rfl (lv_at hl 0 rfl) ?_
  refine cw_new (ci := 4) (fs := [.null, .int 0, .int 0, .int 0, .int 0]) X hz hw hS rfl inX5 tyX5 tyX5_ok tw_116 tw_117 tw_67 (fun j hj => by rcases (show j = 0 ∨ j = 1 ∨ j = 2 ∨ j = 3 ∨ j = 4 by omega) with rfl | rfl | rfl | rfl | rfl <;> rfl) (Nat.le_of_ble_eq_true rfl) (Nat.le_of_ble_eq_true rfl) dX3_init_16 (fun q7 w7 H n_q7 k_q7 o_q7 hw hS => ?_)
  refine lv_dup hx hb dX3_init_19 rfl ?_
  refine cw_callIN (host := "StringShed") X hO hz hw hS (List.mem_of_getElem? (i := 2) rfl) tw_67 tw_119 tw_120 rfl (by decide +kernel) rfl rfl ⟨Nat.le_of_ble_eq_true rfl, Nat.le_of_ble_eq_true rfl⟩ (ci_X5 l C w7 q7 k_q7) (Nat.le_of_ble_eq_true rfl) hl.1 dX3_init_20 ⟨Nat.le_of_ble_eq_true rfl, Nat.le_of_ble_eq_true rfl⟩ (fun w8 H locs hw hp hS => ?_)
  obtain ⟨q9, hp⟩ := hp
  have P : cw_post w0 w8 h0 (.inr (2, [.ref q1, .null, .null, .int 0, .int 0, .int 0, .int 0, .int 0])) [(q1, .inr (3, [.ref q3, .ref q4, .ref q5, .int 0])), (q3, .inl (sx_cI C, 40, .inl (fun _ => 0))), (q4, .inl (sx_cI C, 40, .inl (fun _ => 0))), (q5, .inl (sx_cZ C, 40, .inl (fun _ => 0))), (q7, .inr (4, [.ref q9, .int 0, .int 0, .int 0, .int 0])), (q9, .inl (sx_cI C, 24, .inl (fun _ => 0)))] := cp_add P (ca_obj n_q7 k_q7 o_q7 hp)
  refine cw_put (j := 1) (ty := .object "StringShed$Sweep") X hw hS P.1 rfl inX3 tyX3 tyX3_ok nmX3 (by decide) tw_140 (Or.inr ⟨rfl, hin, rfl⟩) (by decide +kernel) rfl rfl (Nat.le_of_ble_eq_true rfl) dX3_init_23 (fun w10 H locs k_p o_p hw hS => ?_)
  have P : cw_post w0 w10 h0 (.inr (2, [.ref q1, .ref q7, .null, .int 0, .int 0, .int 0, .int 0, .int 0])) [(q1, .inr (3, [.ref q3, .ref q4, .ref q5, .int 0])), (q3, .inl (sx_cI C, 40, .inl (fun _ => 0))), (q4, .inl (sx_cI C, 40, .inl (fun _ => 0))), (q5, .inl (sx_cZ C, 40, .inl (fun _ => 0))), (q7, .inr (4, [.ref q9, .int 0, .int 0, .int 0, .int 0])), (q9, .inl (sx_cI C, 24, .inl (fun _ => 0)))] := cp_put P hk0 k_p o_p
  refine lv_aload_n hx hb dX3_init_26 rfl (lv_at hl 0 rfl) ?_
  refine lv_bipush (v := 24) hx hb dX3_init_27 (by decide) ?_
  refine cw_newa X hz hw hS (ty := .int) rfl tw_114 (cA := sx_cI C) hcI (N' := 24) (a0 := (24, .inl (fun _ => 0))) (fun _ => rfl) (by decide) (by decide) (Nat.le_of_ble_eq_true rfl) (Nat.le_of_ble_eq_true rfl) (Nat.le_of_ble_eq_true rfl) dX3_init_29 (fun q11 w11 H n_q11 k_q11 o_q11 hw hS => ?_)
  have P : cw_post w0 w11 h0 (.inr (2, [.ref q1, .ref q7, .null, .int 0, .int 0, .int 0, .int 0, .int 0])) [(q1, .inr (3, [.ref q3, .ref q4, .ref q5, .int 0])), (q3, .inl (sx_cI C, 40, .inl (fun _ => 0))), (q4, .inl (sx_cI C, 40, .inl (fun _ => 0))), (q5, .inl (sx_cZ C, 40, .inl (fun _ => 0))), (q7, .inr (4, [.ref q9, .int 0, .int 0, .int 0, .int 0])), (q9, .inl (sx_cI C, 24, .inl (fun _ => 0))), (q11, .inl (sx_cI C, 24, .inl (fun _ => 0)))] := cp_add P (ca_one n_q11 k_q11 o_q11)
  refine cw_put (j := 2) (ty := .array .int) X hw hS P.1 rfl inX3 tyX3 tyX3_ok nmX3 (by decide) tw_143 (Or.inr ⟨rfl, hin, rfl⟩) (by decide +kernel) rfl rfl (Nat.le_of_ble_eq_true rfl) dX3_init_31 (fun w12 H locs k_p o_p hw hS => ?_)
  have P : cw_post w0 w12 h0 (.inr (2, [.ref q1, .ref q7, .ref q11, .int 0, .int 0, .int 0, .int 0, .int 0])) [(q1, .inr (3, [.ref q3, .ref q4, .ref q5, .int 0])), (q3, .inl (sx_cI C, 40, .inl (fun _ => 0))), (q4, .inl (sx_cI C, 40, .inl (fun _ => 0))), (q5, .inl (sx_cZ C, 40, .inl (fun _ => 0))), (q7, .inr (4, [.ref q9, .int 0, .int 0, .int 0, .int 0])), (q9, .inl (sx_cI C, 24, .inl (fun _ => 0))), (q11, .inl (sx_cI C, 24, .inl (fun _ => 0)))] := cp_put P hk0 k_p o_p
  refine lv_aload_n hx hb dX3_init_34 rfl (lv_at hl 0 rfl) ?_
  refine lv_iconst (v := 0) hx hb dX3_init_35 (by decide) ?_
  refine cw_put (j := 3) (ty := .int) X hw hS P.1 rfl inX3 tyX3 tyX3_ok nmX3 (by decide) tw_144 (Or.inl rfl) (by decide +kernel) (by decide) (by decide) (Nat.le_of_ble_eq_true rfl) dX3_init_36 (fun w13 H locs k_p o_p hw hS => ?_)
  have P : cw_post w0 w13 h0 (.inr (2, [.ref q1, .ref q7, .ref q11, .int 0, .int 0, .int 0, .int 0, .int 0])) [(q1, .inr (3, [.ref q3, .ref q4, .ref q5, .int 0])), (q3, .inl (sx_cI C, 40, .inl (fun _ => 0))), (q4, .inl (sx_cI C, 40, .inl (fun _ => 0))), (q5, .inl (sx_cZ C, 40, .inl (fun _ => 0))), (q7, .inr (4, [.ref q9, .int 0, .int 0, .int 0, .int 0])), (q9, .inl (sx_cI C, 24, .inl (fun _ => 0))), (q11, .inl (sx_cI C, 24, .inl (fun _ => 0)))] := cp_put P hk0 k_p o_p
  refine lv_aload_n hx hb dX3_init_39 rfl (lv_at hl 0 rfl) ?_
  refine lv_iconst (v := 0) hx hb dX3_init_40 (by decide) ?_
  refine cw_put (j := 4) (ty := .int) X hw hS P.1 rfl inX3 tyX3 tyX3_ok nmX3 (by decide) tw_145 (Or.inl rfl) (by decide +kernel) (by decide) (by decide) (Nat.le_of_ble_eq_true rfl) dX3_init_41 (fun w14 H locs k_p o_p hw hS => ?_)
  have P : cw_post w0 w14 h0 (.inr (2, [.ref q1, .ref q7, .ref q11, .int 0, .int 0, .int 0, .int 0, .int 0])) [(q1, .inr (3, [.ref q3, .ref q4, .ref q5, .int 0])), (q3, .inl (sx_cI C, 40, .inl (fun _ => 0))), (q4, .inl (sx_cI C, 40, .inl (fun _ => 0))), (q5, .inl (sx_cZ C, 40, .inl (fun _ => 0))), (q7, .inr (4, [.ref q9, .int 0, .int 0, .int 0, .int 0])), (q9, .inl (sx_cI C, 24, .inl (fun _ => 0))), (q11, .inl (sx_cI C, 24, .inl (fun _ => 0)))] := cp_put P hk0 k_p o_p
  refine lv_aload_n hx hb dX3_init_44 rfl (lv_at hl 0 rfl) ?_
  refine lv_iconst (v := 0) hx hb dX3_init_45 (by decide) ?_
  refine cw_put (j := 5) (ty := .int) X hw hS P.1 rfl inX3 tyX3 tyX3_ok nmX3 (by decide) tw_146 (Or.inl rfl) (by decide +kernel) (by decide) (by decide) (Nat.le_of_ble_eq_true rfl) dX3_init_46 (fun w15 H locs k_p o_p hw hS => ?_)
  have P : cw_post w0 w15 h0 (.inr (2, [.ref q1, .ref q7, .ref q11, .int 0, .int 0, .int 0, .int 0, .int 0])) [(q1, .inr (3, [.ref q3, .ref q4, .ref q5, .int 0])), (q3, .inl (sx_cI C, 40, .inl (fun _ => 0))), (q4, .inl (sx_cI C, 40, .inl (fun _ => 0))), (q5, .inl (sx_cZ C, 40, .inl (fun _ => 0))), (q7, .inr (4, [.ref q9, .int 0, .int 0, .int 0, .int 0])), (q9, .inl (sx_cI C, 24, .inl (fun _ => 0))), (q11, .inl (sx_cI C, 24, .inl (fun _ => 0)))] := cp_put P hk0 k_p o_p
  refine lv_aload_n hx hb dX3_init_49 rfl (lv_at hl 0 rfl) ?_
  refine lv_iconst (v := 0) hx hb dX3_init_50 (by decide) ?_
  refine cw_put (j := 6) (ty := .int) X hw hS P.1 rfl inX3 tyX3 tyX3_ok nmX3 (by decide) tw_147 (Or.inl rfl) (by decide +kernel) (by decide) (by decide) (Nat.le_of_ble_eq_true rfl) dX3_init_51 (fun w16 H locs k_p o_p hw hS => ?_)
  have P : cw_post w0 w16 h0 (.inr (2, [.ref q1, .ref q7, .ref q11, .int 0, .int 0, .int 0, .int 0, .int 0])) [(q1, .inr (3, [.ref q3, .ref q4, .ref q5, .int 0])), (q3, .inl (sx_cI C, 40, .inl (fun _ => 0))), (q4, .inl (sx_cI C, 40, .inl (fun _ => 0))), (q5, .inl (sx_cZ C, 40, .inl (fun _ => 0))), (q7, .inr (4, [.ref q9, .int 0, .int 0, .int 0, .int 0])), (q9, .inl (sx_cI C, 24, .inl (fun _ => 0))), (q11, .inl (sx_cI C, 24, .inl (fun _ => 0)))] := cp_put P hk0 k_p o_p
  refine lv_aload_n hx hb dX3_init_54 rfl (lv_at hl 0 rfl) ?_
  refine lv_iconst (v := 0) hx hb dX3_init_55 (by decide) ?_
  refine cw_put (j := 7) (ty := .int) X hw hS P.1 rfl inX3 tyX3 tyX3_ok nmX3 (by decide) tw_148 (Or.inl rfl) (by decide +kernel) (by decide) (by decide) (Nat.le_of_ble_eq_true rfl) dX3_init_56 (fun w17 H locs k_p o_p hw hS => ?_)
  have P : cw_post w0 w17 h0 (.inr (2, [.ref q1, .ref q7, .ref q11, .int 0, .int 0, .int 0, .int 0, .int 0])) [(q1, .inr (3, [.ref q3, .ref q4, .ref q5, .int 0])), (q3, .inl (sx_cI C, 40, .inl (fun _ => 0))), (q4, .inl (sx_cI C, 40, .inl (fun _ => 0))), (q5, .inl (sx_cZ C, 40, .inl (fun _ => 0))), (q7, .inr (4, [.ref q9, .int 0, .int 0, .int 0, .int 0])), (q9, .inl (sx_cI C, 24, .inl (fun _ => 0))), (q11, .inl (sx_cI C, 24, .inl (fun _ => 0)))] := cp_put P hk0 k_p o_p
  exact cw_vret X hr hlocks hw hS ⟨q1, q3, q4, q5, q7, q9, q11, P⟩ dX3_init_59
