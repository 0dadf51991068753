/-! A TEXT READ TO ITS END -/
theorem RC.sh0 {M M' : sx_M} {l : List Nat} (h : TS M l) (hf : Fr (pSh 0) M M') : TS M' l := h.cong (hf.1 13 0 (fun q => by have := q.1; omega)) (hf.1 14 0 (fun q => by have := q.1; omega))
section
variable {l : List Nat}
theorem c_skip {p : Nat} (hp : p < l.length) (hs : sp 1 (l.getD p 0) = 99) {N x : Nat} {M : sx_M} (hT : TS M l) {Q : (Nat ⊕ Int32) × sx_M → Prop} (h : wp (f7_load_L60 N (nI x) (nI (p + 1)) M) Q) : wp (f7_load_L60 (N + 1) (nI x) (nI p) M) Q := by
  have hl := hT.1
  rw [f7_load_L60]
  refine wp_call (w6_size hT) ?_
  refine wp_ifn (by rw [iI_le (by omega) (by omega)]; omega) ?_
  refine wp_call (c_isCommand hT hp) ?_
  rw [decide_eq_false (fun q => q hs)]
  with_reducible refine wp_bd ?_
  with_reducible refine wp_bd ?_
  refine wp_ifp rfl ?_
  with_reducible refine wp_bd ?_
  with_reducible refine wp_bd ?_
  rw [iI_succ, Int32.add_zero]
  exact h
theorem c_skips {x : Nat} {M : sx_M} (hT : TS M l) {Q : (Nat ⊕ Int32) × sx_M → Prop} : ∀ (k p N : Nat), p + k ≤ l.length → (∀ j, p ≤ j → j < p + k → sp 1 (l.getD j 0) = 99) → wp (f7_load_L60 N (nI x) (nI (p + k)) M) Q → wp (f7_load_L60 (N + k) (nI x) (nI p) M) Q
  | 0, _, _, _, _, h => h
  | k + 1, p, N, hk, hs, h => by
    refine c_skip (N := N + k) (by omega) (hs p (Nat.le_refl _) (by omega)) hT ?_
    refine c_skips hT k (p + 1) N (by omega) (fun j h1 h2 => hs j (by omega) (by omega)) ?_
    rw [show p + 1 + k = p + (k + 1) by omega]; exact h
theorem load_loop (hlen : l.length ≤ 120) (hcs : ∀ c ∈ l, c < 256) : ∀ (r p : Nat) (A : SH), l.length - p = r → p ≤ l.length → rn l p = 1 → IS A →
    (∃ (Af : SH) (lof : Nat), rn l l.length = 1 ∧ IS Af ∧ lof ≤ l.length - p ∧ (∀ (N : Nat) (M : sx_M) (lo : Nat) (K : sx_M → Option (Int32 × sx_M)) (Q : Int32 × sx_M → Prop), l.length - p < N → TX M l true p → DS M 19 A → M.1 17 0 5 = nI lo → (∀ M', FRC M M' → TX M' l true l.length → DS M' 19 Af → M'.1 17 0 5 = nI (lo + lof) → wp (K M') Q) → wp (f8_readText_L47 K N M) Q) ∧ (∀ (N : Nat) (M : sx_M) (x : Nat), l.length - p < N → TS M l → CS M 0 A → wp (f7_load_L60 N (nI x) (nI p) M) (fun q => q.1 = .inr (nI (x + lof)) ∧ CS q.2 0 Af ∧ Fr (pSh 0) M q.2)))
    ∨ (∃ p', ERR l p' ∧ (∀ (N : Nat) (M : sx_M) (lo : Nat) (K : sx_M → Option (Int32 × sx_M)) (Q : Int32 × sx_M → Prop), l.length - p < N → TX M l true p → DS M 19 A → M.1 17 0 5 = nI lo → (∀ M', FRC M M' → TX M' l false p' → wp (K M') Q) → wp (f8_readText_L47 K N M) Q)) := by
  intro r
  induction r using Nat.strongRecOn with
  | ind r ih =>
    intro p A hr hpl hrn hI
    -- one pass of the reference's loop
    have mpre : ∀ (N : Nat) (M : sx_M) (K : sx_M → Option (Int32 × sx_M)) (Q : Int32 × sx_M → Prop), TX M l true p → wp (if nI l.length ≤ nI p then K M else (f8_readCommand M).bind fun M15 => f8_readText_L47 K N M15) Q → wp (f8_readText_L47 K (N + 1) M) Q := fun N M K Q h hQ => by
      rw [f8_readText_L47]
      have e4 : M.1 17 0 4 = bI01 true := h.2.2.2.2.2.1
      have e3 : M.1 17 0 3 = nI p := h.2.2.2.2.1
      have e2 : M.1 17 0 2 = nI l.length := h.2.2.1
      with_reducible refine wp_bd ?_
      rw [e4]
      refine wp_ifn (by decide) ?_
      with_reducible refine wp_bd ?_
      with_reducible refine wp_bd ?_
      rw [e3, e2]
      exact hQ
    by_cases hp : p < l.length
    · have hle : ¬ nI l.length ≤ nI p := by rw [iI_le (by omega) (by omega)]; omega
      rcases cmd_ex hlen hcs hrn hp hI with ⟨k, ok, A', hc⟩ | ⟨p', herr, hm⟩
      · obtain ⟨k1, k2, k3, k4, k5, k6, k7, k8⟩ := hc
        rcases ih (l.length - (p + k)) (by omega) (p + k) A' rfl k2 k3 k4 with ⟨Af, lof, g1, g2, g3, gm, gc⟩ | ⟨p', herr, gm⟩
        · left
          refine ⟨Af, lof + (if ok then 0 else 1), g1, g2, by split <;> omega, fun N M lo K Q hN h d h5 hK => ?_, fun N M x hN hT hC => ?_⟩
          · obtain ⟨N, rfl⟩ : ∃ N', N = N' + 1 := ⟨N - 1, by omega⟩
            refine mpre N M K Q h (wp_ifn hle ?_)
            obtain ⟨M1, e1, t1, d1, l1, f1⟩ := k8 M lo h d h5
            refine wp_call e1 ?_
            refine gm N M1 _ K Q (by omega) t1 d1 l1 (fun M' f' t' d' l' => hK M' (f1.trans f') t' d' ?_)
            rw [l']; congr 1; omega
          · obtain ⟨N, rfl⟩ : ∃ N', N = N' + 1 := ⟨N - 1, by omega⟩
            have hl := hT.1
            rw [f7_load_L60]
            refine wp_call (w6_size hT) ?_
            refine wp_ifn hle ?_
            refine wp_call (c_isCommand hT hp) ?_
            rw [decide_eq_true k5]
            with_reducible refine wp_bd ?_
            with_reducible refine wp_bd ?_
            refine wp_ifn (by decide) ?_
            obtain ⟨⟨v, M1⟩, e1, q1, q2, q3⟩ := k7 M hT hC
            dsimp only at q1 q2 q3
            subst q1
            refine wp_b2 e1 ?_
            have hT1 := RC.sh0 hT q3
            have rest : ∀ w : Nat, w = (if ok then 0 else 1) → wp (sx_bd (nI x + nI w) fun v14 => sx_bd (nI p + (1 : Int32)) fun v15 => f7_load_L60 N v14 v15 M1) (fun q => q.1 = .inr (nI (x + (lof + (if ok then 0 else 1)))) ∧ CS q.2 0 Af ∧ Fr (pSh 0) M q.2) := fun w hw => by
              with_reducible refine wp_bd ?_
              with_reducible refine wp_bd ?_
              rw [nI_add, iI_succ]
              obtain ⟨N', rfl⟩ : ∃ N', N = N' + (k - 1) := ⟨N - (k - 1), by omega⟩
              refine c_skips hT1 (k - 1) (p + 1) N' (by omega) (fun j h1 h2 => k6 j (by omega) (by omega)) ?_
              rw [show p + 1 + (k - 1) = p + k by omega]
              refine wp_mono (gc N' M1 (x + w) (by omega) hT1 q2) (fun q hq => ⟨?_, hq.2.1, q3.trans hq.2.2⟩)
              rw [hq.1, ← hw]; congr 2; omega
            cases ok with
            | false => exact wp_ifp rfl (rest 1 rfl)
            | true => exact wp_ifn (by decide) (rest 0 rfl)
        · right
          refine ⟨p', herr, fun N M lo K Q hN h d h5 hK => ?_⟩
          obtain ⟨N, rfl⟩ : ∃ N', N = N' + 1 := ⟨N - 1, by omega⟩
          refine mpre N M K Q h (wp_ifn hle ?_)
          obtain ⟨M1, e1, t1, d1, l1, f1⟩ := k8 M lo h d h5
          refine wp_call e1 ?_
          exact gm N M1 _ K Q (by omega) t1 d1 l1 (fun M' f' t' => hK M' (f1.trans f') t')
      · right
        refine ⟨p', herr, fun N M lo K Q hN h d h5 hK => ?_⟩
        obtain ⟨N, rfl⟩ : ∃ N', N = N' + 1 := ⟨N - 1, by omega⟩
        refine mpre N M K Q h (wp_ifn hle ?_)
        obtain ⟨M1, e1, t1, f1⟩ := hm M lo h d h5
        refine wp_call e1 ?_
        obtain ⟨N, rfl⟩ : ∃ N', N = N' + 1 := ⟨N - 1, by omega⟩
        rw [f8_readText_L47]
        have e4 : M1.1 17 0 4 = bI01 false := t1.2.2.2.2.2.1
        with_reducible refine wp_bd ?_
        rw [e4]
        refine wp_ifp rfl ?_
        exact hK M1 f1 t1
    · have hpe : p = l.length := by omega
      left
      refine ⟨A, 0, by rw [← hpe]; exact hrn, hI, Nat.zero_le _, fun N M lo K Q hN h d h5 hK => ?_, fun N M x hN hT hC => ?_⟩
      · obtain ⟨N, rfl⟩ : ∃ N', N = N' + 1 := ⟨N - 1, by omega⟩
        refine mpre N M K Q h (wp_ifp (by rw [iI_le (by omega) (by omega)]; omega) ?_)
        exact hK M (fun _ _ _ _ _ => rfl) (hpe ▸ h) d h5
      · obtain ⟨N, rfl⟩ : ∃ N', N = N' + 1 := ⟨N - 1, by omega⟩
        rw [f7_load_L60]
        refine wp_call (w6_size hT) ?_
        refine wp_ifp (by rw [iI_le (by omega) (by omega)]; omega) ?_
        exact wp_some ⟨rfl, hC, Fr.rf⟩
/-- the reference's reading, and the class's loading of a good text -/
theorem read_all (hlen : l.length ≤ 120) (hcs : ∀ c ∈ l, c < 256) :
    (∃ (Af : SH) (lof : Nat), rn l l.length = 1 ∧ IS Af ∧ (∀ (st : ST) (M : sx_M), st.l = l → RM M st → wp (f8_readText M) (fun q => q.1 = -9 ∧ RM q.2 st ∧ (∀ k s, k ≤ 16 → q.2.1 k s = M.1 k s) ∧ q.2.1 17 0 0 = M.1 17 0 0 ∧ DS q.2 19 Af ∧ q.2.1 17 0 5 = nI lof)) ∧ (∀ (M : sx_M), TS M l → CS M 0 SH.nil → wp (f7_load_L60 5000 (0 : Int32) (1 : Int32) M) (fun q => q.1 = .inr (nI lof) ∧ CS q.2 0 Af ∧ Fr (pSh 0) M q.2)))
    ∨ (∃ p', ERR l p' ∧ (∀ (st : ST) (M : sx_M), st.l = l → RM M st → wp (f8_readText M) (fun q => q.1 = nI p' ∧ RM q.2 st ∧ (∀ k s, k ≤ 16 → q.2.1 k s = M.1 k s) ∧ q.2.1 17 0 0 = M.1 17 0 0))) := by
  -- the beginning
  have start : ∀ (st : ST) (M : sx_M), st.l = l → RM M st → ∀ Q : Int32 × sx_M → Prop, (∀ M7, TX M7 l true 0 → DS M7 19 SH.nil → M7.1 17 0 5 = nI 0 → FRC M M7 → wp ((f8_isNext (83 : Int32) M7).bind fun v8 =>
      (f8_accept v8 M7).bind fun M9 =>
      f8_readText_L47 
        (fun (M16 : sx_M) =>
          sx_bd (M16.1 17 0 4) fun v17 =>
          sx_bd (fun (v18 : Int32) =>
            some (v18, M16)) fun j88 =>
          if v17 = 0 then
            sx_bd (M16.1 17 0 3) fun v20 =>
            j88 v20
          else
            j88 (-9 : Int32))
        5000 M9) Q) → wp (f8_readText M) Q := fun st M hst hM Q hQ => by
    subst hst
    obtain ⟨k1, k2, k3, k4, k5, k6, k7, k8, k9, k10⟩ := id hM
    rw [f8_readText]
    with_reducible refine wp_bd ?_
    refine wp_ifp (Or.inr rfl) ?_
    with_reducible refine wp_bd ?_
    with_reducible refine wp_bd ?_
    have o3 : ∀ k s i, ¬ (k = 17 ∧ s = 0 ∧ (i = 3 ∨ i = 4 ∨ i = 5)) → (sx_set (sx_set (sx_set M 17 0 3 (0 : Int32)) 17 0 4 (1 : Int32)) 17 0 5 (0 : Int32)).1 k s i = M.1 k s i := fun k s i hk => by
      rw [st_at, if_neg (by omega), st_at, if_neg (by omega), st_at, if_neg (by omega)]
    have v3 : (sx_set (sx_set (sx_set M 17 0 3 (0 : Int32)) 17 0 4 (1 : Int32)) 17 0 5 (0 : Int32)).1 17 0 3 = 0 := by
      rw [rd_n _ _ _ _ _ _ _ _ (by omega), rd_n _ _ _ _ _ _ _ _ (by omega), rd_e]
    have v4 : (sx_set (sx_set (sx_set M 17 0 3 (0 : Int32)) 17 0 4 (1 : Int32)) 17 0 5 (0 : Int32)).1 17 0 4 = 1 := by
      rw [rd_n _ _ _ _ _ _ _ _ (by omega), rd_e]
    have v5 : (sx_set (sx_set (sx_set M 17 0 3 (0 : Int32)) 17 0 4 (1 : Int32)) 17 0 5 (0 : Int32)).1 17 0 5 = 0 := rd_e _ _ _ _ _
    generalize sx_set (sx_set (sx_set M 17 0 3 (0 : Int32)) 17 0 4 (1 : Int32)) 17 0 5 (0 : Int32) = M3 at o3 v3 v4 v5 ⊢
    refine wp_up (F := fun m x1 M1 => f8_readText_L17 _ m x1 M1) 247 (fun j M1 => Fr (pRw 19) M3 M1 ∧ ∀ i, i < j → M1.1 19 0 i = 0) (fun m j M1 hj hI kk => ?_) (fun m M1 hI => ?_) 5000 0 M3 (by omega) (by omega) ⟨Fr.rf, fun i hi => absurd hi (Nat.not_lt_zero _)⟩
    · obtain ⟨f1, z1⟩ := hI
      show wp (f8_readText_L17 _ (m + 1) (nI j) M1) _
      rw [f8_readText_L17]
      refine wp_ifn (by rw [show (247 : Int32) = nI 247 from rfl, iI_le (by omega) (by omega)]; omega) ?_
      refine wp_ifp (sx_in_n hj (by omega)) ?_
      with_reducible refine wp_bd ?_
      with_reducible refine wp_bd ?_
      rw [nI_cl (by omega)]
      refine kk _ ⟨f1.set (pRw_i 19), fun i hi => ?_⟩
      by_cases q : i = j
      · subst q; rw [rd_e]
      · rw [rd_n _ _ _ _ _ _ _ _ q]; exact z1 i (by omega)
    · obtain ⟨f1, z1⟩ := hI
      show wp (f8_readText_L17 _ (m + 1) (nI 247) M1) _
      rw [f8_readText_L17]
      refine wp_ifp (by decide) ?_
      have o1 : ∀ k, k ≠ 19 → M1.1 k 0 = M3.1 k 0 := fun k hk => f1.1 k 0 (fun q => hk q.1)
      refine hQ M1 ⟨k7, k8, ?_, fun i hi => ?_, ?_, ?_, Nat.zero_le _⟩ ?_ ?_ (fun k s i h1 h2 => ?_)
      · rw [o1 17 (by omega), o3 17 0 2 (by omega)]; exact k9
      · rw [o1 18 (by omega), o3 18 0 i (by omega)]; exact k10 i hi
      · rw [o1 17 (by omega), v3]; rfl
      · rw [o1 17 (by omega), v4]; rfl
      · refine ⟨⟨Nat.zero_le _, z1 2 (by omega), fun i hi => absurd hi (Nat.not_lt_zero _)⟩, Nat.zero_le _, z1 0 (by omega), ?_, z1 3 (by omega), z1 4 (by omega), z1 5 (by omega), fun i hi => absurd hi (Nat.not_lt_zero _), fun q => (by cases q)⟩
        rw [z1 1 (by omega)]
        have : fb_ct SH.nil.T 24 = 0 := fb_ct_zero.mpr (fun _ _ => rfl)
        rw [this]; rfl
      · rw [o1 17 (by omega), v5]; rfl
      · rw [f1.1 k s (fun q => h1 q)]; exact o3 k s i h2
  have keep : ∀ (st : ST) (M M' : sx_M), RM M st → FRC M M' → RM M' st ∧ (∀ k s, k ≤ 16 → M'.1 k s = M.1 k s) ∧ M'.1 17 0 0 = M.1 17 0 0 := fun st M M' h f => by
    refine ⟨h.cong (fun k hk => ?_) (f 17 0 10 (by omega) (by omega)) (f 17 0 2 (by omega) (by omega)), fun k s hk => ?_, f 17 0 0 (by omega) (by omega)⟩
    · funext i; exact f k 0 i (by omega) (by omega)
    · funext i; exact f k s i (by omega) (by omega)
  by_cases hS : 0 < l.length ∧ l.getD 0 0 = 83
  · have e1 : rn l 1 = 1 := by show sp 0 (l.getD 0 0) = 1; rw [hS.2]; rfl
    have go : ∀ (st : ST) (M : sx_M), st.l = l → RM M st → ∀ Q : Int32 × sx_M → Prop, (∀ M9, TX M9 l true 1 → DS M9 19 SH.nil → M9.1 17 0 5 = nI 0 → FRC M M9 → wp (f8_readText_L47 
        (fun (M16 : sx_M) =>
          sx_bd (M16.1 17 0 4) fun v17 =>
          sx_bd (fun (v18 : Int32) =>
            some (v18, M16)) fun j88 =>
          if v17 = 0 then
            sx_bd (M16.1 17 0 3) fun v20 =>
            j88 v20
          else
            j88 (-9 : Int32))
        5000 M9) Q) → wp (f8_readText M) Q := fun st M hst hM Q hQ => by
      refine start st M hst hM Q (fun M7 t7 d7 l7 f7 => ?_)
      refine wp_call (nx_yes t7 hS.1 (x := 83) (by omega) hS.2) ?_
      obtain ⟨M9, e9, t9, f9⟩ := r_accept t7 true (fun _ _ => hS.1)
      refine wp_call e9 ?_
      exact hQ M9 t9 (f9.ds d7) (f9.lo.trans l7) (f7.trans f9.frc)
    rcases load_loop hlen hcs (l.length - 1) 1 SH.nil rfl hS.1 e1 IS.nil with ⟨Af, lof, g1, g2, g3, gm, gc⟩ | ⟨p', herr, gm⟩
    · left
      refine ⟨Af, lof, g1, g2, fun st M hst hM => ?_, fun M hT hC => ?_⟩
      · refine go st M hst hM _ (fun M9 t9 d9 l9 f9 => ?_)
        refine gm 5000 M9 0 _ _ (by omega) t9 d9 l9 (fun M' f' t' d' l' => ?_)
        have e4 : M'.1 17 0 4 = bI01 true := t'.2.2.2.2.2.1
        with_reducible refine wp_bd ?_
        with_reducible refine wp_bd ?_
        rw [e4]
        refine wp_ifn (by decide) ?_
        obtain ⟨y1, y2, y3⟩ := keep st M M' hM (f9.trans f')
        exact wp_some ⟨rfl, y1, y2, y3, d', by rw [l', Nat.zero_add]⟩
      · have := gc 5000 M 0 (by omega) hT hC
        rw [Nat.zero_add] at this
        exact this
    · right
      refine ⟨p', herr, fun st M hst hM => ?_⟩
      refine go st M hst hM _ (fun M9 t9 d9 l9 f9 => ?_)
      refine gm 5000 M9 0 _ _ (by omega) t9 d9 l9 (fun M' f' t' => ?_)
      have e4 : M'.1 17 0 4 = bI01 false := t'.2.2.2.2.2.1
      have e3 : M'.1 17 0 3 = nI p' := t'.2.2.2.2.1
      with_reducible refine wp_bd ?_
      with_reducible refine wp_bd ?_
      rw [e4]
      refine wp_ifp rfl ?_
      with_reducible refine wp_bd ?_
      obtain ⟨y1, y2, y3⟩ := keep st M M' hM (f9.trans f')
      exact wp_some ⟨e3, y1, y2, y3⟩
  · right
    refine ⟨0, ?_, fun st M hst hM => ?_⟩
    · have h0 : rn l 0 = 0 := rfl
      by_cases z : 0 < l.length
      · refine Or.inl ⟨z, by omega, ?_⟩
        show sp 0 (l.getD 0 0) = 99
        unfold sp
        rw [if_pos rfl, if_neg (fun q => hS ⟨z, q⟩)]
      · exact Or.inr ⟨by omega, by omega, by omega⟩
    · refine start st M hst hM _ (fun M7 t7 d7 l7 f7 => ?_)
      have hn : f8_isNext (83 : Int32) M7 = some 0 := by
        rw [show (83 : Int32) = nI 83 from rfl, r_isNext t7 (by omega), decide_eq_false hS]; rfl
      refine wp_call hn ?_
      obtain ⟨M9, e9, t9, f9⟩ := r_accept t7 false (fun _ q => by cases q)
      refine wp_call e9 ?_
      rw [f8_readText_L47]
      have t9' : TX M9 l false 0 := t9
      have e4 : M9.1 17 0 4 = bI01 false := t9'.2.2.2.2.2.1
      have e3 : M9.1 17 0 3 = nI 0 := t9'.2.2.2.2.1
      with_reducible refine wp_bd ?_
      refine wp_ifp (by rw [e4]; rfl) ?_
      with_reducible refine wp_bd ?_
      with_reducible refine wp_bd ?_
      refine wp_ifp (by rw [e4]; rfl) ?_
      with_reducible refine wp_bd ?_
      obtain ⟨y1, y2, y3⟩ := keep st M M9 hM (f7.trans f9.frc)
      exact wp_some ⟨e3, y1, y2, y3⟩
end
theorem pair_errorPosition : PAIR0 (fun M => (f7_errorPosition M).bind fun v => some (v, M)) (fun M => f8_errorPosition M) := by
  intro st M hI hR
  have hT := hR.2.2.2.2
  have cls : ∀ v : Int32, ((∃ i, ERR st.l i ∧ v = nI i) ∨ (rn st.l st.l.length = 1 ∧ v = -9)) → wp ((f7_errorPosition M).bind fun v => some (v, M)) (fun r => r.1 = v ∧ RC r.2 st ∧ ∀ k s, 17 ≤ k → r.2.1 k s = M.1 k s) := fun v hv => by
    obtain ⟨r, e, hr⟩ := w6_firstError hT
    have erv : r = v := by
      rcases hr with ⟨i, h1, rfl⟩ | ⟨h1, rfl⟩
      · rcases hv with ⟨j, h2, rfl⟩ | ⟨h2, -⟩
        · rw [ERR_uniq h1 h2]
        · exact absurd h2 (ERR_good h1)
      · rcases hv with ⟨j, h2, -⟩ | ⟨-, rfl⟩
        · exact absurd h1 (ERR_good h2)
        · rfl
    rw [f7_errorPosition, e]
    exact wp_some ⟨erv, hR, fun _ _ _ => rfl⟩
  have mdl : ∀ v : Int32, (∀ (M4 : sx_M), RM M4 st → wp (f8_readText M4) (fun q => q.1 = v ∧ RM q.2 st ∧ (∀ k s, k ≤ 16 → q.2.1 k s = M4.1 k s) ∧ q.2.1 17 0 0 = M4.1 17 0 0)) → ∀ M2, RM M2 st → wp (f8_errorPosition M2) (fun q => GOOD M2 st v q) := fun v hv M2 hM => by
    rw [f8_errorPosition]
    with_reducible refine wp_bd ?_
    obtain ⟨⟨w, M3⟩, e3, q1, q2, q3, q4⟩ := hv _ (hM.ref 0)
    refine wp_b2 e3 ?_
    refine wp_some ⟨q2, fun k s hk => ?_, q4.trans (rd_e _ _ _ _ _), q1⟩
    show M3.1 k s = M2.1 k s
    have q3' : M3.1 k s = (sx_set M2 17 0 0 0).1 k s := q3 k s hk
    rw [q3']
    funext i
    rw [st_at, if_neg (by omega)]
  rcases read_all hT.1 hT.2.1 with ⟨Af, lof, g1, g2, gm, -⟩ | ⟨p', herr, gm⟩
  · exact ⟨-9, st, hI, cls _ (Or.inr ⟨g1, rfl⟩), mdl _ (fun M4 h4 => wp_mono (gm st M4 rfl h4) (fun q hq => ⟨hq.1, hq.2.1, hq.2.2.1, hq.2.2.2.1⟩))⟩
  · exact ⟨nI p', st, hI, cls _ (Or.inl ⟨p', herr, rfl⟩), mdl _ (fun M4 h4 => gm st M4 rfl h4)⟩
theorem pair_load {ex : Nat → Int32} (h2 : ex 2 = nI 1) : PAIR (fun M => f7_load M) (fun M => f8_load M) ex := by
  intro st M hI hR
  obtain ⟨A, L, S, l⟩ := st
  have hT : TS M l := hR.2.2.2.2
  rcases read_all hT.1 hT.2.1 with ⟨Af, lof, g1, g2, gm, gc⟩ | ⟨p', herr, gm⟩
  · refine ⟨.inr (nI lof), (Af, [], (none, none), l), ⟨g2, fun C hC => absurd hC List.not_mem_nil, fun B hB => (by cases hB), fun B hB => (by cases hB)⟩, ?_, fun M2 hM => ?_⟩
    · show wp (f7_load M) _
      rw [f7_load]
      obtain ⟨r, e, hr⟩ := w6_firstError hT
      have er : r = -9 := by
        rcases hr with ⟨i, h1, -⟩ | ⟨-, q⟩
        · exact absurd g1 (ERR_good h1)
        · exact q
      subst er
      refine wp_call e ?_
      refine wp_ifp rfl ?_
      obtain ⟨M3, e3, c3, f3⟩ := w3_clear M 0
      refine wp_call e3 ?_
      have o3 : ∀ k s, (k = 0 ∨ 9 ≤ k ∨ s ≠ 0) → M3.1 k s = M.1 k s := fun k s hk => f3.1 k s (fun q => by have := q.1; have := q.2; omega)
      obtain ⟨M4, e4, p4, f4⟩ := w1_forget (hR.2.1.cong (M' := M3) (fun k s hk hs => o3 k s (by omega)))
      refine wp_call e4 ?_
      have o4 : ∀ k s, ¬ pPa k s → M4.1 k s = M3.1 k s := f4.1
      have np : ∀ k s, 1 ≤ k → k ≤ 8 → s < 4 → ¬ pPa k s := fun k s k1 k2 hs q => by
        rcases q with q | q
        · omega
        · have := q.2; omega
      have n12 : ∀ k, 10 ≤ k → ¬ pPa k 0 := fun k hk q => by
        rcases q with q | q
        · omega
        · have := q.1; omega
      have n17 : ∀ k s, 17 ≤ k → ¬ pPa k s := fun k s hk q => by
        rcases q with q | q
        · omega
        · have := q.1; omega
      have c4 : CS M4 0 SH.nil := c3.cong (fun k k1 k2 => o4 k 0 (np k 0 k1 k2 (by omega)))
      have t4 : TS M4 l := hT.cong ((o4 13 0 (n12 13 (by omega))).trans (o3 13 0 (by omega))) ((o4 14 0 (n12 14 (by omega))).trans (o3 14 0 (by omega)))
      refine wp_up (F := fun m x1 M1 => f7_load_L38 _ m x1 M1) 2 (fun j M1 => Fr (fun k s => k = 12 ∧ s = 0) M4 M1 ∧ ∀ i, i < j → M1.1 12 0 i = 0) (fun m j M1 hj hI kk => ?_) (fun m M1 hI => ?_) 5000 0 M4 (by omega) (by omega) ⟨Fr.rf, fun i hi => absurd hi (Nat.not_lt_zero _)⟩
      · obtain ⟨f1, z1⟩ := hI
        show wp (f7_load_L38 _ (m + 1) (nI j) M1) _
        rw [f7_load_L38]
        refine wp_ifn (by rw [show (2 : Int32) = nI 2 from rfl, iI_le (by omega) (by omega)]; omega) ?_
        refine wp_ifp ⟨sx_in_n hj (by omega), Or.inl rfl⟩ ?_
        with_reducible refine wp_bd ?_
        with_reducible refine wp_bd ?_
        rw [nI_cl (by omega)]
        refine kk _ ⟨f1.set ⟨rfl, rfl⟩, fun i hi => ?_⟩
        by_cases q : i = j
        · subst q; rw [rd_e]
        · rw [rd_n _ _ _ _ _ _ _ _ q]; exact z1 i (by omega)
      · obtain ⟨f1, z1⟩ := hI
        show wp (f7_load_L38 _ (m + 1) (nI 2) M1) _
        rw [f7_load_L38]
        refine wp_ifp (by decide) ?_
        have o1 : ∀ k s, k ≠ 12 → M1.1 k s = M4.1 k s := fun k s hk => f1.1 k s (fun q => hk q.1)
        have c1 : CS M1 0 SH.nil := c4.cong (fun k k1 k2 => o1 k 0 (by omega))
        have t1 : TS M1 l := t4.cong (o1 13 0 (by omega)) (o1 14 0 (by omega))
        obtain ⟨⟨v, M9⟩, e9, q1, q2, q3⟩ := gc M1 t1 c1
        refine wp_eq e9 ?_
        have o9 : ∀ k s, (k = 0 ∨ 9 ≤ k ∨ s ≠ 0) → M9.1 k s = M1.1 k s := fun k s hk => q3.1 k s (fun q => by have := q.1; have := q.2; omega)
        have p9 : PS M9 [] := p4.cong (fun k s hk hs => (o9 k s (by omega)).trans (o1 k s (by omega)))
        refine ⟨q1, ⟨q2, p9, ⟨?_, fun B hB => (by cases hB)⟩, ⟨?_, fun B hB => (by cases hB)⟩, t1.cong (o9 13 0 (by omega)) (o9 14 0 (by omega))⟩, fun k s hk => ?_⟩
        · show M9.1 12 0 0 = 0
          rw [o9 12 0 (by omega)]; exact z1 0 (by omega)
        · show M9.1 12 0 1 = 0
          rw [o9 12 0 (by omega)]; exact z1 1 (by omega)
        · show M9.1 k s = M.1 k s
          rw [o9 k s (by omega), o1 k s (by omega), o4 k s (n17 k s hk), o3 k s (by omega)]
    · show wp (f8_load M2) _
      rw [f8_load]
      obtain ⟨⟨v, M3⟩, e3, q1, q2, q3, q4, q5, q6⟩ := gm _ M2 rfl hM
      dsimp only at q1 q2 q3 q4 q5 q6
      subst q1
      refine wp_b2 e3 ?_
      with_reducible refine wp_bd ?_
      refine wp_ifp rfl ?_
      refine m_yes ?_
      have r4 := q2.ref 0
      have z4 : (sx_set M3 17 0 0 0).1 17 0 0 = 0 := rd_e _ _ _ _ _
      have z5 : (sx_set M3 17 0 0 0).1 17 0 5 = nI lof := by rw [rd_n _ _ _ _ _ _ _ _ (by omega)]; exact q6
      have d4 : DS (sx_set M3 17 0 0 0) 19 Af := by
        have e : (sx_set M3 17 0 0 0).1 19 0 = M3.1 19 0 := by funext i; rw [st_at, if_neg (by omega)]
        rw [DAt_iff, e]; exact q5
      have f4 : ∀ k s, k ≤ 16 → (sx_set M3 17 0 0 0).1 k s = M2.1 k s := fun k s hk => by
        rw [← q3 k s hk]
        funext i; rw [st_at, if_neg (by omega)]
      generalize sx_set M3 17 0 0 0 = M5 at r4 z4 z5 d4 f4
      obtain ⟨M7, e7, c1, c2, f7⟩ := w8_copy (M := M5) (ka := 19) (kb := 20) (a := 0) (b := 0) (n := 247) (by omega) (by show 0 + 247 ≤ 247; omega) (by show 0 + 247 ≤ 247; omega) (Or.inl (by omega))
      refine wp_call e7 ?_
      with_reducible refine wp_bd ?_
      refine wp_ifp ⟨⟨by decide, by decide⟩, Or.inl rfl⟩ ?_
      with_reducible refine wp_bd ?_
      refine wp_ifp ⟨⟨by decide, by decide⟩, Or.inl rfl⟩ ?_
      with_reducible refine wp_bd ?_
      have o7 : ∀ k s, k ≠ 20 → M7.1 k s = M5.1 k s := fun k s hk => f7.1 k s (fun q => hk q.1)
      have oA : ∀ k s i, ¬ (k = 17 ∧ s = 0 ∧ i = 10) → ¬ (k = 24 ∧ s = 0 ∧ (i = 0 ∨ i = 1)) → (sx_set (sx_set (sx_set M7 17 0 10 (0 : Int32)) 24 0 0 (0 : Int32)) 24 0 1 (0 : Int32)).1 k s i = M7.1 k s i := fun k s i h1 h2 => by
        rw [st_at, if_neg (by omega), st_at, if_neg (by omega), st_at, if_neg (by omega)]
      have oAk : ∀ k s, k ≠ 17 → k ≠ 24 → (sx_set (sx_set (sx_set M7 17 0 10 (0 : Int32)) 24 0 0 (0 : Int32)) 24 0 1 (0 : Int32)).1 k s = M7.1 k s := fun k s h1 h2 => by funext i; exact oA k s i (fun q => h1 q.1) (fun q => h2 q.1)
      have key : GOOD M2 (Af, [], (none, none), l) (nI lof) ((sx_set (sx_set (sx_set M7 17 0 10 (0 : Int32)) 24 0 0 (0 : Int32)) 24 0 1 (0 : Int32)).1 17 0 5, sx_set (sx_set (sx_set M7 17 0 10 (0 : Int32)) 24 0 0 (0 : Int32)) 24 0 1 (0 : Int32)) := by
        obtain ⟨k1, k2, k3, k4, k5, k6, k7, k8, k9, k10⟩ := r4
        refine ⟨⟨?_, ?_, Nat.zero_le _, fun i hi => absurd hi (Nat.not_lt_zero _), ⟨?_, fun B hB => (by cases hB)⟩, ⟨?_, fun B hB => (by cases hB)⟩, k7, k8, ?_, fun i hi => ?_⟩, fun k s hk => ?_, ?_, ?_⟩
        · rw [DAt_iff, oAk 20 0 (by omega) (by omega)]
          refine DAt.cong (DAt_iff.mp d4) g2 (fun j hj => ?_)
          have := c1 j hj
          rwa [Nat.zero_add] at this
        · show (sx_set (sx_set (sx_set M7 17 0 10 (0 : Int32)) 24 0 0 (0 : Int32)) 24 0 1 (0 : Int32)).1 17 0 10 = nI 0
          rw [rd_n _ _ _ _ _ _ _ _ (by omega), rd_n _ _ _ _ _ _ _ _ (by omega), rd_e]; rfl
        · show (sx_set (sx_set (sx_set M7 17 0 10 (0 : Int32)) 24 0 0 (0 : Int32)) 24 0 1 (0 : Int32)).1 24 0 0 = 0
          rw [rd_n _ _ _ _ _ _ _ _ (by omega), rd_e]
        · exact rd_e _ _ _ _ _
        · show (sx_set (sx_set (sx_set M7 17 0 10 (0 : Int32)) 24 0 0 (0 : Int32)) 24 0 1 (0 : Int32)).1 17 0 2 = _
          rw [oA 17 0 2 (by omega) (by omega), o7 17 0 (by omega)]; exact k9
        · show (sx_set (sx_set (sx_set M7 17 0 10 (0 : Int32)) 24 0 0 (0 : Int32)) 24 0 1 (0 : Int32)).1 18 0 i = _
          rw [oA 18 0 i (by omega) (by omega), o7 18 0 (by omega)]; exact k10 i hi
        · show (sx_set (sx_set (sx_set M7 17 0 10 (0 : Int32)) 24 0 0 (0 : Int32)) 24 0 1 (0 : Int32)).1 k s = M2.1 k s
          rw [oAk k s (by omega) (by omega), o7 k s (by omega)]; exact f4 k s hk
        · show (sx_set (sx_set (sx_set M7 17 0 10 (0 : Int32)) 24 0 0 (0 : Int32)) 24 0 1 (0 : Int32)).1 17 0 0 = 0
          rw [oA 17 0 0 (by omega) (by omega), o7 17 0 (by omega)]; exact z4
        · show (sx_set (sx_set (sx_set M7 17 0 10 (0 : Int32)) 24 0 0 (0 : Int32)) 24 0 1 (0 : Int32)).1 17 0 5 = nI lof
          rw [oA 17 0 5 (by omega) (by omega), o7 17 0 (by omega)]; exact z5
      with_reducible refine wp_bd ?_
      exact wp_some key.to
  · refine ⟨.inl 2, (A, L, S, l), hI, ?_, fun M2 hM => ?_⟩
    · show wp (f7_load M) _
      rw [f7_load]
      have hl := hT.1
      obtain ⟨r, e, hr⟩ := w6_firstError hT
      refine wp_call e ?_
      have er : r ≠ -9 := by
        rcases hr with ⟨i, h1, rfl⟩ | ⟨q, -⟩
        · have : i ≤ l.length := by rcases h1 with ⟨q, -⟩ | ⟨q, -⟩ <;> omega
          exact nI_ne_m9 (by omega)
        · exact absurd q (ERR_good herr)
      exact wp_ifn er (wp_some ⟨rfl, hR, fun _ _ _ => rfl⟩)
    · show wp (f8_load M2) _
      rw [f8_load]
      have hl := hT.1
      obtain ⟨⟨v, M3⟩, e3, q1, q2, q3, q4⟩ := gm _ M2 rfl hM
      dsimp only at q1 q2 q3 q4
      subst q1
      refine wp_b2 e3 ?_
      with_reducible refine wp_bd ?_
      have : p' ≤ l.length := by rcases herr with ⟨q, -⟩ | ⟨q, -⟩ <;> omega
      refine wp_ifn (nI_ne_m9 (by omega)) ?_
      refine wp_mono (m_no q2 (n := 1) (by omega) (by omega) h2) (fun q hq => ⟨hq.1, fun k s hk => (hq.2.1 k s hk).trans (q3 k s hk), hq.2.2⟩)
