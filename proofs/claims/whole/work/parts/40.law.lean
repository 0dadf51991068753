/-! THE CLAIM OUT OF ONE WALK OF THE LAW'S BODY. Your part is whole_start (and what it stands on); all else here is the same for every law, but numbers. -/
def R_law : String := "StringShedLaw"
def lw_P (b : Addr) (xs : List Int32) (args : Array Value) (s : State) : Prop := args = #[.ref b] ∧ s.IntsAt b xs ∧ xs.length ≤ 2048 ∧ (Jvm.Cond.and given_1 narrow_1).before args s = true
def lw_Q (_ : Array Value) (s : State) (o : Outcome) (t : State) : Prop := o = .returned (some (.int 1)) ∧ Framed s o t [] 601024 7293034
def lw_Z (below : List Frame) (a : Array Value) (s : State) : State → Prop := fun t => ∃ o, t.status = .running ∧ Ended t below o ∧ lw_Q a s o t
/-- the law's own end, with 1 on the stack, nothing written that was there before, its room as the claim has it -/
theorem lw_ret {p : Program} {l : Launch} {e : Env} {s : State} {m : MethodId} {below : List Frame} {meth : Method} {c : Code} {b : Nat} (hx : p.tables.exec = Jvm.exec) (hb : c.code = code) (hr : meth.sig.returnType = ret) (hlocks : meth.locks = false) {pc : Nat} {H : Heap} {ls : Array Slot} (hdg : decode code pc = .ok (.ireturn, 1)) : W p l e room_1 s m #[Value.ref b] below meth c H [] 601024 7293034 (lw_Z below #[Value.ref b] s) (F0 m pc ls [.int 1]) := by
  intro T hT X
  obtain ⟨fs, hret, hrun, hended, hW, hframe⟩ := X.leave (v := some (.int 1)) (hlocks := hlocks) (fun h => by rw [hr] at h; cases h)
  have hmeth' : T.vm.method? m = some meth := X.method'
  refine ⟨T.setFrames fs, ?_, .returned (some (.int 1)), hrun, hended, rfl, ⟨_, rfl⟩, hW, hframe⟩
  jvm_step X.here [X.here.top, hx, hb, hdg, hmeth', hr, ret, narrow_b1]
  (try refine ⟨rfl, ?_⟩); (try refine ⟨rfl, ?_⟩)
  first | (intro acts; rw [hret _ acts rfl rfl rfl]) | rw [hret _ _ rfl rfl rfl]
  exact Steps.refl _
/-- what holds at the law's entry: the machine, the code, the tables' words (any of lw_tbl by 'hts w (by decide +kernel)'), the script of L ints xs at the cell b, what the Statement gives of the start (any of its parts by flat_of_before) -/
def lw_At (p : Program) (s : State) (m : MethodId) (meth : Method) (c : Code) (b L : Nat) (xs : Nat → Int32) : Prop :=
  p.tables.exec = Jvm.exec ∧ c.code = code ∧ meth.sig.returnType = ret ∧ c.maxLocals = 7 ∧ s.vm.findClass R_law = some m.cls ∧ (∀ w ∈ lw_tbl, w.before #[Value.ref b] s = true) ∧ va_X b L xs s s.heap ∧ b < s.heap.size ∧ meth.locks = false ∧ (Jvm.Cond.and given_1 narrow_1).before #[Value.ref b] s = true
theorem sx_add4 (j : Nat) : nI (4 * j) + 4 = nI (4 * (j + 1)) := by
  rw [show (4 : Int32) = nI 4 from rfl, nI_add, Nat.mul_add]
theorem sx_lawj {L j : Nat} (hL : L ≤ 2048) (hj : j ≤ 512) (h : ¬ (Int32.ofNat L) - (4 : Int32) < nI (4 * j)) : 4 * j + 4 ≤ L := by
  have h1 : (nI L - nI 4).toInt = (L : Int) - (4 : Nat) := pk_sub_toInt (by omega) (by omega)
  have h2 : (nI (4 * j)).toInt = ((4 * j : Nat) : Int) := nI_toInt (by omega)
  have h3 : ¬ (nI L - nI 4) < nI (4 * j) := h
  rw [Int32.lt_iff_toInt_lt, h1, h2] at h3
  omega
section SXL
variable {p : Program} {l : Launch} {e : Env} {R : Room} {s : State} {m : MethodId} {args : Array Value} {below : List Frame} {meth : Method} {c : Code} {H : Heap} {locs : List Loc} {cells slots : Nat} {Q : State → Prop} {cc : ByteArray} {pc : Nat} {ls : Array Slot} {rest : List Value} {H0 : Heap}
theorem sx_sld {O : Type} {out : O} {A0 : Nat → Prop} (hexec : p.tables.exec = Jvm.exec) (hb : c.code = cc) {b L : Nat} {xs : Nat → Int32} (hX : va_X b L xs s H0) (hbl : b < H0.size) (hbA : ¬ A0 b) (hS : va_S A0 H0 H locs) {i : Int32} (hdg : decode cc pc = .ok (.iaload, 1)) {A : Int32 → Option O} (h : (if sx_in i L then sx_bd (xs i.toNatClampNeg) A else none) = some out)
    (kk : ∀ v, A v = some out → W p l e R s m args below meth c H locs cells slots Q (F0 m (pc + 1) ls (.int v :: rest))) : W p l e R s m args below meth c H locs cells slots Q (F0 m pc ls (.int i :: .ref b :: rest)) := by
  obtain ⟨hin, h⟩ := sx_ck h
  exact va_sld hexec hb hX hbl hbA hS (sx_in_v hin) hdg (kk _ h)
end SXL
def fL_law_L23 (L : Nat) (xs : Nat → Int32) : Nat → Int32 → sx_M → Option Int32
  | 0, _, _ => none
  | n + 1, x4, M =>
    if ((Int32.ofNat L) - (4 : Int32)) < x4 then
      some (1 : Int32)
    else
      if sx_in x4 L then
      sx_bd (xs (x4).toNatClampNeg) fun v2 =>
      sx_bd (fun (M3 : sx_M) =>
        sx_bd (x4 + (4 : Int32)) fun v4 =>
        fL_law_L23 L xs n v4 M3) fun j1666 =>
      if (v2 &&& (31 : Int32)) = (0 : Int32) then
        if sx_in (x4 + (1 : Int32)) L then
        sx_bd (xs (x4 + (1 : Int32)).toNatClampNeg) fun v6 =>
        sx_b2 (fL_append v6 M) fun v7 M8 =>
        if sx_in (x4 + (1 : Int32)) L then
        sx_bd (xs (x4 + (1 : Int32)).toNatClampNeg) fun v9 =>
        sx_b2 (f8_append v9 M8) fun v10 M11 =>
        (f8_thrown M11).bind fun v12 =>
        if v12 = v7 then
          sx_bd (fun (_ : Unit) =>
            j1666 M11) fun j217 =>
          if v7 = 0 then
            if sx_in (0 : Int32) 1 then
            sx_bd (M11.2 30 0 ((0 : Int32)).toNatClampNeg) fun v15 =>
            if (lg_cmp v15 v10.toInt64) = 0 then
              j217 ()
            else
              some (0 : Int32)
            else none
          else
            j217 ()
        else
          some (0 : Int32)
        else none
        else none
      else
      if (v2 &&& (31 : Int32)) = (1 : Int32) then
        sx_b2 (f7_clearText M) fun v18 M19 =>
        sx_b2 (f8_clearText M19) fun v20 M21 =>
        if v18 = v20 then
          j1666 M21
        else
          some (0 : Int32)
      else
      if (v2 &&& (31 : Int32)) = (2 : Int32) then
        (f7_errorPosition M).bind fun v24 =>
        sx_b2 (f8_errorPosition M) fun v25 M26 =>
        if v24 = v25 then
          j1666 M26
        else
          some (0 : Int32)
      else
      if (v2 &&& (31 : Int32)) = (3 : Int32) then
        sx_b2 (fL_load M) fun v29 M30 =>
        sx_b2 (f8_load M30) fun v31 M32 =>
        (f8_thrown M32).bind fun v33 =>
        if v33 = v29 then
          sx_bd (fun (_ : Unit) =>
            j1666 M32) fun j287 =>
          if v29 = 0 then
            if sx_in (0 : Int32) 1 then
            sx_bd (M32.2 30 0 ((0 : Int32)).toNatClampNeg) fun v36 =>
            if (lg_cmp v36 v31.toInt64) = 0 then
              j287 ()
            else
              some (0 : Int32)
            else none
          else
            j287 ()
        else
          some (0 : Int32)
      else
      if (v2 &&& (31 : Int32)) = (4 : Int32) then
        if sx_in (x4 + (1 : Int32)) L then
        sx_bd (xs (x4 + (1 : Int32)).toNatClampNeg) fun v39 =>
        sx_b2 (fL_about v39 M) fun v40 M41 =>
        if sx_in (x4 + (1 : Int32)) L then
        sx_bd (xs (x4 + (1 : Int32)).toNatClampNeg) fun v42 =>
        sx_b2 (f8_about v42 M41) fun v43 M44 =>
        (f8_thrown M44).bind fun v45 =>
        if v45 = v40 then
          sx_bd (fun (_ : Unit) =>
            j1666 M44) fun j343 =>
          if v40 = 0 then
            if sx_in (0 : Int32) 1 then
            sx_bd (M44.2 30 0 ((0 : Int32)).toNatClampNeg) fun v48 =>
            if (lg_cmp v48 v43.toInt64) = 0 then
              j343 ()
            else
              some (0 : Int32)
            else none
          else
            j343 ()
        else
          some (0 : Int32)
        else none
        else none
      else
      if (v2 &&& (31 : Int32)) = (5 : Int32) then
        if sx_in (x4 + (1 : Int32)) L then
        sx_bd (xs (x4 + (1 : Int32)).toNatClampNeg) fun v51 =>
        if sx_in (x4 + (2 : Int32)) L then
        sx_bd (xs (x4 + (2 : Int32)).toNatClampNeg) fun v52 =>
        sx_b2 (fL_part v51 v52 M) fun v53 M54 =>
        if sx_in (x4 + (1 : Int32)) L then
        sx_bd (xs (x4 + (1 : Int32)).toNatClampNeg) fun v55 =>
        if sx_in (x4 + (2 : Int32)) L then
        sx_bd (xs (x4 + (2 : Int32)).toNatClampNeg) fun v56 =>
        sx_b2 (f8_part v55 v56 M54) fun v57 M58 =>
        (f8_thrown M58).bind fun v59 =>
        if v59 = v53 then
          sx_bd (fun (_ : Unit) =>
            j1666 M58) fun j411 =>
          if v53 = 0 then
            if sx_in (0 : Int32) 1 then
            sx_bd (M58.2 30 0 ((0 : Int32)).toNatClampNeg) fun v62 =>
            if (lg_cmp v62 v57.toInt64) = 0 then
              j411 ()
            else
              some (0 : Int32)
            else none
          else
            j411 ()
        else
          some (0 : Int32)
        else none
        else none
        else none
        else none
      else
      if (v2 &&& (31 : Int32)) = (6 : Int32) then
        if sx_in (x4 + (1 : Int32)) L then
        sx_bd (xs (x4 + (1 : Int32)).toNatClampNeg) fun v65 =>
        if sx_in (x4 + (2 : Int32)) L then
        sx_bd (xs (x4 + (2 : Int32)).toNatClampNeg) fun v66 =>
        sx_b2 (fL_string v65 v66 M) fun v67 M68 =>
        if sx_in (x4 + (1 : Int32)) L then
        sx_bd (xs (x4 + (1 : Int32)).toNatClampNeg) fun v69 =>
        if sx_in (x4 + (2 : Int32)) L then
        sx_bd (xs (x4 + (2 : Int32)).toNatClampNeg) fun v70 =>
        sx_b2 (f8_string v69 v70 M68) fun v71 M72 =>
        (f8_thrown M72).bind fun v73 =>
        if v73 = v67 then
          sx_bd (fun (_ : Unit) =>
            j1666 M72) fun j479 =>
          if v67 = 0 then
            if sx_in (0 : Int32) 1 then
            sx_bd (M72.2 30 0 ((0 : Int32)).toNatClampNeg) fun v76 =>
            if (lg_cmp v76 v71.toInt64) = 0 then
              j479 ()
            else
              some (0 : Int32)
            else none
          else
            j479 ()
        else
          some (0 : Int32)
        else none
        else none
        else none
        else none
      else
      if (v2 &&& (31 : Int32)) = (7 : Int32) then
        if sx_in (x4 + (1 : Int32)) L then
        sx_bd (xs (x4 + (1 : Int32)).toNatClampNeg) fun v79 =>
        sx_b2 (fL_stringAt v79 M) fun v80 M81 =>
        if sx_in (x4 + (1 : Int32)) L then
        sx_bd (xs (x4 + (1 : Int32)).toNatClampNeg) fun v82 =>
        sx_b2 (f8_stringAt v82 M81) fun v83 M84 =>
        (f8_thrown M84).bind fun v85 =>
        if v85 = v80 then
          sx_bd (fun (_ : Unit) =>
            j1666 M84) fun j535 =>
          if v80 = 0 then
            if sx_in (0 : Int32) 1 then
            sx_bd (M84.2 30 0 ((0 : Int32)).toNatClampNeg) fun v88 =>
            if (lg_cmp v88 v83.toInt64) = 0 then
              j535 ()
            else
              some (0 : Int32)
            else none
          else
            j535 ()
        else
          some (0 : Int32)
        else none
        else none
      else
      if (v2 &&& (31 : Int32)) = (8 : Int32) then
        if sx_in (x4 + (1 : Int32)) L then
        sx_bd (xs (x4 + (1 : Int32)).toNatClampNeg) fun v91 =>
        sx_b2 (fL_make v91 M) fun v92 M93 =>
        if sx_in (x4 + (1 : Int32)) L then
        sx_bd (xs (x4 + (1 : Int32)).toNatClampNeg) fun v94 =>
        sx_b2 (f8_make v94 M93) fun v95 M96 =>
        (f8_thrown M96).bind fun v97 =>
        if v97 = v92 then
          sx_bd (fun (_ : Unit) =>
            j1666 M96) fun j591 =>
          if v92 = 0 then
            if sx_in (0 : Int32) 1 then
            sx_bd (M96.2 30 0 ((0 : Int32)).toNatClampNeg) fun v100 =>
            if (lg_cmp v100 v95.toInt64) = 0 then
              j591 ()
            else
              some (0 : Int32)
            else none
          else
            j591 ()
        else
          some (0 : Int32)
        else none
        else none
      else
      if (v2 &&& (31 : Int32)) = (9 : Int32) then
        if sx_in (x4 + (1 : Int32)) L then
        sx_bd (xs (x4 + (1 : Int32)).toNatClampNeg) fun v103 =>
        if sx_in (x4 + (2 : Int32)) L then
        sx_bd (xs (x4 + (2 : Int32)).toNatClampNeg) fun v104 =>
        if sx_in (x4 + (3 : Int32)) L then
        sx_bd (xs (x4 + (3 : Int32)).toNatClampNeg) fun v105 =>
        sx_bd (fun (v106 : Int32) =>
          sx_b2 (fL_tie v103 v104 v106 M) fun v107 M108 =>
          if sx_in (x4 + (1 : Int32)) L then
          sx_bd (xs (x4 + (1 : Int32)).toNatClampNeg) fun v109 =>
          if sx_in (x4 + (2 : Int32)) L then
          sx_bd (xs (x4 + (2 : Int32)).toNatClampNeg) fun v110 =>
          if sx_in (x4 + (3 : Int32)) L then
          sx_bd (xs (x4 + (3 : Int32)).toNatClampNeg) fun v111 =>
          sx_bd (fun (v112 : Int32) =>
            sx_b2 (f8_tie v109 v110 v112 M108) fun v113 M114 =>
            (f8_thrown M114).bind fun v115 =>
            if v115 = v107 then
              sx_bd (fun (_ : Unit) =>
                j1666 M114) fun j687 =>
              if v107 = 0 then
                if sx_in (0 : Int32) 1 then
                sx_bd (M114.2 30 0 ((0 : Int32)).toNatClampNeg) fun v118 =>
                if (lg_cmp v118 v113.toInt64) = 0 then
                  j687 ()
                else
                  some (0 : Int32)
                else none
              else
                j687 ()
            else
              some (0 : Int32)) fun j654 =>
          if v111 = 0 then
            j654 (0 : Int32)
          else
            j654 (1 : Int32)
          else none
          else none
          else none) fun j621 =>
        if v105 = 0 then
          j621 (0 : Int32)
        else
          j621 (1 : Int32)
        else none
        else none
        else none
      else
      if (v2 &&& (31 : Int32)) = (10 : Int32) then
        if sx_in (x4 + (1 : Int32)) L then
        sx_bd (xs (x4 + (1 : Int32)).toNatClampNeg) fun v123 =>
        if sx_in (x4 + (2 : Int32)) L then
        sx_bd (xs (x4 + (2 : Int32)).toNatClampNeg) fun v124 =>
        sx_b2 (fL_cut v123 v124 M) fun v125 M126 =>
        if sx_in (x4 + (1 : Int32)) L then
        sx_bd (xs (x4 + (1 : Int32)).toNatClampNeg) fun v127 =>
        if sx_in (x4 + (2 : Int32)) L then
        sx_bd (xs (x4 + (2 : Int32)).toNatClampNeg) fun v128 =>
        sx_b2 (f8_cut v127 v128 M126) fun v129 M130 =>
        (f8_thrown M130).bind fun v131 =>
        if v131 = v125 then
          sx_bd (fun (_ : Unit) =>
            j1666 M130) fun j755 =>
          if v125 = 0 then
            if sx_in (0 : Int32) 1 then
            sx_bd (M130.2 30 0 ((0 : Int32)).toNatClampNeg) fun v134 =>
            if (lg_cmp v134 v129.toInt64) = 0 then
              j755 ()
            else
              some (0 : Int32)
            else none
          else
            j755 ()
        else
          some (0 : Int32)
        else none
        else none
        else none
        else none
      else
      if (v2 &&& (31 : Int32)) = (11 : Int32) then
        if sx_in (x4 + (1 : Int32)) L then
        sx_bd (xs (x4 + (1 : Int32)).toNatClampNeg) fun v137 =>
        if sx_in (x4 + (2 : Int32)) L then
        sx_bd (xs (x4 + (2 : Int32)).toNatClampNeg) fun v138 =>
        sx_b2 (fL_fray v137 v138 M) fun v139 M140 =>
        if sx_in (x4 + (1 : Int32)) L then
        sx_bd (xs (x4 + (1 : Int32)).toNatClampNeg) fun v141 =>
        if sx_in (x4 + (2 : Int32)) L then
        sx_bd (xs (x4 + (2 : Int32)).toNatClampNeg) fun v142 =>
        sx_b2 (f8_fray v141 v142 M140) fun v143 M144 =>
        (f8_thrown M144).bind fun v145 =>
        if v145 = v139 then
          sx_bd (fun (_ : Unit) =>
            j1666 M144) fun j823 =>
          if v139 = 0 then
            if sx_in (0 : Int32) 1 then
            sx_bd (M144.2 30 0 ((0 : Int32)).toNatClampNeg) fun v148 =>
            if (lg_cmp v148 v143.toInt64) = 0 then
              j823 ()
            else
              some (0 : Int32)
            else none
          else
            j823 ()
        else
          some (0 : Int32)
        else none
        else none
        else none
        else none
      else
      if (v2 &&& (31 : Int32)) = (12 : Int32) then
        if sx_in (x4 + (1 : Int32)) L then
        sx_bd (xs (x4 + (1 : Int32)).toNatClampNeg) fun v151 =>
        if sx_in (x4 + (2 : Int32)) L then
        sx_bd (xs (x4 + (2 : Int32)).toNatClampNeg) fun v152 =>
        sx_b2 (fL_mend v151 v152 M) fun v153 M154 =>
        if sx_in (x4 + (1 : Int32)) L then
        sx_bd (xs (x4 + (1 : Int32)).toNatClampNeg) fun v155 =>
        if sx_in (x4 + (2 : Int32)) L then
        sx_bd (xs (x4 + (2 : Int32)).toNatClampNeg) fun v156 =>
        sx_b2 (f8_mend v155 v156 M154) fun v157 M158 =>
        (f8_thrown M158).bind fun v159 =>
        if v159 = v153 then
          sx_bd (fun (_ : Unit) =>
            j1666 M158) fun j891 =>
          if v153 = 0 then
            if sx_in (0 : Int32) 1 then
            sx_bd (M158.2 30 0 ((0 : Int32)).toNatClampNeg) fun v162 =>
            if (lg_cmp v162 v157.toInt64) = 0 then
              j891 ()
            else
              some (0 : Int32)
            else none
          else
            j891 ()
        else
          some (0 : Int32)
        else none
        else none
        else none
        else none
      else
      if (v2 &&& (31 : Int32)) = (13 : Int32) then
        if sx_in (x4 + (1 : Int32)) L then
        sx_bd (xs (x4 + (1 : Int32)).toNatClampNeg) fun v165 =>
        if sx_in (x4 + (2 : Int32)) L then
        sx_bd (xs (x4 + (2 : Int32)).toNatClampNeg) fun v166 =>
        sx_bd (fun (v167 : Int32) =>
          sx_b2 (fL_pin v165 v167 M) fun v168 M169 =>
          if sx_in (x4 + (1 : Int32)) L then
          sx_bd (xs (x4 + (1 : Int32)).toNatClampNeg) fun v170 =>
          if sx_in (x4 + (2 : Int32)) L then
          sx_bd (xs (x4 + (2 : Int32)).toNatClampNeg) fun v171 =>
          sx_bd (fun (v172 : Int32) =>
            sx_b2 (f8_pin v170 v172 M169) fun v173 M174 =>
            (f8_thrown M174).bind fun v175 =>
            if v175 = v168 then
              sx_bd (fun (_ : Unit) =>
                j1666 M174) fun j975 =>
              if v168 = 0 then
                if sx_in (0 : Int32) 1 then
                sx_bd (M174.2 30 0 ((0 : Int32)).toNatClampNeg) fun v178 =>
                if (lg_cmp v178 v173.toInt64) = 0 then
                  j975 ()
                else
                  some (0 : Int32)
                else none
              else
                j975 ()
            else
              some (0 : Int32)) fun j942 =>
          if v171 = 0 then
            j942 (0 : Int32)
          else
            j942 (1 : Int32)
          else none
          else none) fun j915 =>
        if v166 = 0 then
          j915 (0 : Int32)
        else
          j915 (1 : Int32)
        else none
        else none
      else
      if (v2 &&& (31 : Int32)) = (14 : Int32) then
        sx_b2 (fL_begin M) fun v183 M184 =>
        sx_b2 (f8_begin M184) fun v185 M186 =>
        (f8_thrown M186).bind fun v187 =>
        if v187 = v183 then
          sx_bd (fun (_ : Unit) =>
            j1666 M186) fun j1019 =>
          if v183 = 0 then
            if sx_in (0 : Int32) 1 then
            sx_bd (M186.2 30 0 ((0 : Int32)).toNatClampNeg) fun v190 =>
            if (lg_cmp v190 v185.toInt64) = 0 then
              j1019 ()
            else
              some (0 : Int32)
            else none
          else
            j1019 ()
        else
          some (0 : Int32)
      else
      if (v2 &&& (31 : Int32)) = (15 : Int32) then
        sx_b2 (fL_step M) fun v193 M194 =>
        sx_b2 (f8_step M194) fun v195 M196 =>
        (f8_thrown M196).bind fun v197 =>
        if v197 = v193 then
          sx_bd (fun (_ : Unit) =>
            j1666 M196) fun j1063 =>
          if v193 = 0 then
            if sx_in (0 : Int32) 1 then
            sx_bd (M196.2 30 0 ((0 : Int32)).toNatClampNeg) fun v200 =>
            if (lg_cmp v200 v195.toInt64) = 0 then
              j1063 ()
            else
              some (0 : Int32)
            else none
          else
            j1063 ()
        else
          some (0 : Int32)
      else
      if (v2 &&& (31 : Int32)) = (16 : Int32) then
        sx_b2 (fL_undo M) fun v203 M204 =>
        sx_b2 (f8_undo M204) fun v205 M206 =>
        (f8_thrown M206).bind fun v207 =>
        if v207 = v203 then
          sx_bd (fun (_ : Unit) =>
            j1666 M206) fun j1107 =>
          if v203 = 0 then
            if sx_in (0 : Int32) 1 then
            sx_bd (M206.2 30 0 ((0 : Int32)).toNatClampNeg) fun v210 =>
            if (lg_cmp v210 v205.toInt64) = 0 then
              j1107 ()
            else
              some (0 : Int32)
            else none
          else
            j1107 ()
        else
          some (0 : Int32)
      else
      if (v2 &&& (31 : Int32)) = (17 : Int32) then
        if sx_in (x4 + (1 : Int32)) L then
        sx_bd (xs (x4 + (1 : Int32)).toNatClampNeg) fun v213 =>
        if sx_in (x4 + (2 : Int32)) L then
        sx_bd (xs (x4 + (2 : Int32)).toNatClampNeg) fun v214 =>
        sx_b2 (fL_falls v213 v214 M) fun v215 M216 =>
        if sx_in (x4 + (1 : Int32)) L then
        sx_bd (xs (x4 + (1 : Int32)).toNatClampNeg) fun v217 =>
        if sx_in (x4 + (2 : Int32)) L then
        sx_bd (xs (x4 + (2 : Int32)).toNatClampNeg) fun v218 =>
        sx_b2 (f8_falls v217 v218 M216) fun v219 M220 =>
        (f8_thrown M220).bind fun v221 =>
        if v221 = v215 then
          sx_bd (fun (_ : Unit) =>
            j1666 M220) fun j1175 =>
          if v215 = 0 then
            if sx_in (0 : Int32) 1 then
            sx_bd (M220.2 30 0 ((0 : Int32)).toNatClampNeg) fun v224 =>
            if (lg_cmp v224 v219.toInt64) = 0 then
              j1175 ()
            else
              some (0 : Int32)
            else none
          else
            j1175 ()
        else
          some (0 : Int32)
        else none
        else none
        else none
        else none
      else
      if (v2 &&& (31 : Int32)) = (18 : Int32) then
        if sx_in (x4 + (1 : Int32)) L then
        sx_bd (xs (x4 + (1 : Int32)).toNatClampNeg) fun v227 =>
        sx_b2 (fL_cuts v227 M) fun v228 M229 =>
        if sx_in (x4 + (1 : Int32)) L then
        sx_bd (xs (x4 + (1 : Int32)).toNatClampNeg) fun v230 =>
        sx_b2 (f8_cuts v230 M229) fun v231 M232 =>
        (f8_thrown M232).bind fun v233 =>
        if v233 = v228 then
          sx_bd (fun (_ : Unit) =>
            j1666 M232) fun j1231 =>
          if v228 = 0 then
            if sx_in (0 : Int32) 1 then
            sx_bd (M232.2 30 0 ((0 : Int32)).toNatClampNeg) fun v236 =>
            if (lg_cmp v236 v231.toInt64) = 0 then
              j1231 ()
            else
              some (0 : Int32)
            else none
          else
            j1231 ()
        else
          some (0 : Int32)
        else none
        else none
      else
      if (v2 &&& (31 : Int32)) = (19 : Int32) then
        (f7_heaviest M).bind fun v239 =>
        sx_b2 (f8_heaviest M) fun v240 M241 =>
        if v239 = v240 then
          j1666 M241
        else
          some (0 : Int32)
      else
      if (v2 &&& (31 : Int32)) = (20 : Int32) then
        (f7_rings M).bind fun v244 =>
        sx_b2 (f8_rings M) fun v245 M246 =>
        if v244 = v245 then
          j1666 M246
        else
          some (0 : Int32)
      else
      if (v2 &&& (31 : Int32)) = (21 : Int32) then
        sx_b2 (f7_takes M) fun v249 M250 =>
        sx_b2 (f8_takes M250) fun v251 M252 =>
        if v249 = v251 then
          j1666 M252
        else
          some (0 : Int32)
      else
      if (v2 &&& (31 : Int32)) = (22 : Int32) then
        sx_b2 (f7_spares M) fun v255 M256 =>
        sx_b2 (f8_spares M256) fun v257 M258 =>
        if v255 = v257 then
          j1666 M258
        else
          some (0 : Int32)
      else
      if (v2 &&& (31 : Int32)) = (23 : Int32) then
        if sx_in (x4 + (1 : Int32)) L then
        sx_bd (xs (x4 + (1 : Int32)).toNatClampNeg) fun v261 =>
        if sx_in (x4 + (2 : Int32)) L then
        sx_bd (xs (x4 + (2 : Int32)).toNatClampNeg) fun v262 =>
        sx_b2 (fL_way v261 v262 M) fun v263 M264 =>
        if sx_in (x4 + (1 : Int32)) L then
        sx_bd (xs (x4 + (1 : Int32)).toNatClampNeg) fun v265 =>
        if sx_in (x4 + (2 : Int32)) L then
        sx_bd (xs (x4 + (2 : Int32)).toNatClampNeg) fun v266 =>
        sx_b2 (f8_way v265 v266 M264) fun v267 M268 =>
        (f8_thrown M268).bind fun v269 =>
        if v269 = v263 then
          sx_bd (fun (_ : Unit) =>
            j1666 M268) fun j1351 =>
          if v263 = 0 then
            if sx_in (0 : Int32) 1 then
            sx_bd (M268.2 30 0 ((0 : Int32)).toNatClampNeg) fun v272 =>
            if (lg_cmp v272 v267.toInt64) = 0 then
              j1351 ()
            else
              some (0 : Int32)
            else none
          else
            j1351 ()
        else
          some (0 : Int32)
        else none
        else none
        else none
        else none
      else
      if (v2 &&& (31 : Int32)) = (24 : Int32) then
        if sx_in (x4 + (1 : Int32)) L then
        sx_bd (xs (x4 + (1 : Int32)).toNatClampNeg) fun v275 =>
        if sx_in (x4 + (2 : Int32)) L then
        sx_bd (xs (x4 + (2 : Int32)).toNatClampNeg) fun v276 =>
        if sx_in (x4 + (3 : Int32)) L then
        sx_bd (xs (x4 + (3 : Int32)).toNatClampNeg) fun v277 =>
        sx_b2 (fL_runScript v275 ((v276.toInt64 <<< ((32 : Int32).toInt64 &&& 63)) ||| (v277.toInt64 &&& (4294967295 : Int64))) M) fun v278 M279 =>
        if sx_in (x4 + (1 : Int32)) L then
        sx_bd (xs (x4 + (1 : Int32)).toNatClampNeg) fun v280 =>
        if sx_in (x4 + (2 : Int32)) L then
        sx_bd (xs (x4 + (2 : Int32)).toNatClampNeg) fun v281 =>
        if sx_in (x4 + (3 : Int32)) L then
        sx_bd (xs (x4 + (3 : Int32)).toNatClampNeg) fun v282 =>
        sx_b2 (f8_runScript v280 ((v281.toInt64 <<< ((32 : Int32).toInt64 &&& 63)) ||| (v282.toInt64 &&& (4294967295 : Int64))) M279) fun v283 M284 =>
        (f8_thrown M284).bind fun v285 =>
        if v285 = v278 then
          sx_bd (fun (_ : Unit) =>
            j1666 M284) fun j1451 =>
          if v278 = 0 then
            if sx_in (0 : Int32) 1 then
            sx_bd (M284.2 30 0 ((0 : Int32)).toNatClampNeg) fun v288 =>
            if (lg_cmp v288 v283.toInt64) = 0 then
              j1451 ()
            else
              some (0 : Int32)
            else none
          else
            j1451 ()
        else
          some (0 : Int32)
        else none
        else none
        else none
        else none
        else none
        else none
      else
      if (v2 &&& (31 : Int32)) = (25 : Int32) then
        if sx_in (x4 + (1 : Int32)) L then
        sx_bd (xs (x4 + (1 : Int32)).toNatClampNeg) fun v291 =>
        if sx_in (x4 + (2 : Int32)) L then
        sx_bd (xs (x4 + (2 : Int32)).toNatClampNeg) fun v292 =>
        if sx_in (x4 + (3 : Int32)) L then
        sx_bd (xs (x4 + (3 : Int32)).toNatClampNeg) fun v293 =>
        sx_b2 (fL_simulate ((v291.toInt64 <<< ((32 : Int32).toInt64 &&& 63)) ||| (v292.toInt64 &&& (4294967295 : Int64))) v293 M) fun v294 M295 =>
        if sx_in (x4 + (1 : Int32)) L then
        sx_bd (xs (x4 + (1 : Int32)).toNatClampNeg) fun v296 =>
        if sx_in (x4 + (2 : Int32)) L then
        sx_bd (xs (x4 + (2 : Int32)).toNatClampNeg) fun v297 =>
        if sx_in (x4 + (3 : Int32)) L then
        sx_bd (xs (x4 + (3 : Int32)).toNatClampNeg) fun v298 =>
        sx_b2 (f8_simulate ((v296.toInt64 <<< ((32 : Int32).toInt64 &&& 63)) ||| (v297.toInt64 &&& (4294967295 : Int64))) v298 M295) fun v299 M300 =>
        (f8_thrown M300).bind fun v301 =>
        if v301 = v294 then
          sx_bd (fun (_ : Unit) =>
            j1666 M300) fun j1551 =>
          if v294 = 0 then
            if sx_in (0 : Int32) 1 then
            sx_bd (M300.2 30 0 ((0 : Int32)).toNatClampNeg) fun v304 =>
            if (lg_cmp v304 v299.toInt64) = 0 then
              j1551 ()
            else
              some (0 : Int32)
            else none
          else
            j1551 ()
        else
          some (0 : Int32)
        else none
        else none
        else none
        else none
        else none
        else none
      else
      if (v2 &&& (31 : Int32)) = (26 : Int32) then
        if sx_in (x4 + (1 : Int32)) L then
        sx_bd (xs (x4 + (1 : Int32)).toNatClampNeg) fun v307 =>
        sx_b2 (fL_save v307 M) fun v308 M309 =>
        if sx_in (x4 + (1 : Int32)) L then
        sx_bd (xs (x4 + (1 : Int32)).toNatClampNeg) fun v310 =>
        sx_b2 (f8_save v310 M309) fun v311 M312 =>
        (f8_thrown M312).bind fun v313 =>
        if v313 = v308 then
          sx_bd (fun (_ : Unit) =>
            j1666 M312) fun j1607 =>
          if v308 = 0 then
            if sx_in (0 : Int32) 1 then
            sx_bd (M312.2 30 0 ((0 : Int32)).toNatClampNeg) fun v316 =>
            if (lg_cmp v316 v311.toInt64) = 0 then
              j1607 ()
            else
              some (0 : Int32)
            else none
          else
            j1607 ()
        else
          some (0 : Int32)
        else none
        else none
      else
      if (v2 &&& (31 : Int32)) = (27 : Int32) then
        if sx_in (x4 + (1 : Int32)) L then
        sx_bd (xs (x4 + (1 : Int32)).toNatClampNeg) fun v319 =>
        sx_b2 (fL_restore v319 M) fun v320 M321 =>
        if sx_in (x4 + (1 : Int32)) L then
        sx_bd (xs (x4 + (1 : Int32)).toNatClampNeg) fun v322 =>
        sx_b2 (f8_restore v322 M321) fun v323 M324 =>
        (f8_thrown M324).bind fun v325 =>
        if v325 = v320 then
          sx_bd (fun (_ : Unit) =>
            j1666 M324) fun j1663 =>
          if v320 = 0 then
            if sx_in (0 : Int32) 1 then
            sx_bd (M324.2 30 0 ((0 : Int32)).toNatClampNeg) fun v328 =>
            if (lg_cmp v328 v323.toInt64) = 0 then
              j1663 ()
            else
              some (0 : Int32)
            else none
          else
            j1663 ()
        else
          some (0 : Int32)
        else none
        else none
      else
        j1666 M
      else none
set_option maxRecDepth 100000 in
set_option maxHeartbeats 40000000 in
/-- the law's loop: at its head, with 4 * j ints read -/
theorem wk_law {p : Program} {l : Launch} {e : Env} {s : State} {m : MethodId} {below : List Frame} {meth : Method} {c : Code} {C : sx_C} {b L : Nat} {xs : Nat → Int32} (X : sx_X C p m c cL_law 7 s #[Value.ref b] RL) (hr : meth.sig.returnType = ret) (hlocks : meth.locks = false) (hG : sx_G C) (hsz : sx_sz C = s.heap.size) (hT : sx_thr C s) (hst : l.stackTraces = false) (hL : L ≤ 2048) (hX : va_X b L xs s s.heap) (hbl : b < s.heap.size) :
    ∀ (n j : Nat) (x4 : Int32) (M : sx_M) (H : Heap) (locs : List Loc) (ls : Array Slot), j ≤ 512 → x4 = nI (4 * j) → lv_has ls 7 [(0, .ref b), (1, .ref (sx_ad C 0 0)), (2, .ref (sx_ad C 17 0)), (3, .ref (sx_ad C 30 0)), (4, .int x4)] → sx_W C M H → va_S (sx_A C) s.heap H locs → fL_law_L23 L xs n x4 M = some 1 → W p l e room_1 s m #[Value.ref b] below meth c H locs (200 + 2 * j) (10000 + 12 * j) (lw_Z below #[Value.ref b] s) (F0 m 23 ls []) := by
  obtain ⟨hx, hb, hml, hown, hts, hK⟩ := id X
  have hz : sx_sz C ≤ s.heap.size := Nat.le_of_eq hsz
  have hbA : ¬ sx_A C b := fun q => Nat.not_le.mpr hbl (Nat.le_trans (Nat.le_of_eq hsz.symm) q)
  intro n
  induction n with
  | zero => intro j x4 M H locs ls hj hx4 hl hP hS h; exact absurd (show (none : Option Int32) = some 1 from h) (fun q => nomatch q)
  | succ n ih =>
    intro j x4 M H locs ls hj hx4 hl hP hS h
    rw [fL_law_L23] at h
    refine lv_iload hx hb dL_law_23 (lv_at hl 4 rfl) ?_
    refine lv_aload_n hx hb dL_law_25 rfl (lv_at hl 0 rfl) ?_
    refine va_slen hx hb hX hbl hbA hS dL_law_26 ?_
    refine lv_iconst (v := (4 : Int32)) hx hb dL_law_27 (by decide) ?_
    refine lv_isub hx hb dL_law_28 ?_
    refine lv_icmp_gt (tgt := 1672) hx hb dL_law_29 (by decide) (fun c1 => ?_) (fun c1 => ?_)
    · replace h := sx_ifp h c1
      refine lv_iconst (v := (1 : Int32)) hx hb dL_law_1672 (by decide) ?_
      exact va_forget (fun q hq => Nat.le_trans (Nat.le_of_eq hsz.symm) (hS.2.2 q hq)) (W.widen (by omega) (by omega) (lw_ret hx hb hr hlocks dL_law_1673))
    · replace h := sx_ifn h c1
      have hj1 : 4 * j + 4 ≤ L := sx_lawj hL hj (by rw [← hx4]; exact c1)
      have hcs : 200 + 2 * j + 2 ≤ room_1.cells ∧ 10000 + 12 * j + 12 ≤ room_1.slots := ⟨show 200 + 2 * j + 2 ≤ 601024 by omega, show 10000 + 12 * j + 12 ≤ 7293034 by omega⟩
      refine lv_aload_n hx hb dL_law_32 rfl (lv_at hl 0 rfl) ?_
      refine lv_iload hx hb dL_law_33 (lv_at hl 4 rfl) ?_
      refine sx_sld hx hb hX hbl hbA hS dL_law_35 h (fun v2 h => ?_)
      refine lv_bipush (v := (31 : Int32)) hx hb dL_law_36 (by decide) ?_
      refine lv_iand hx hb dL_law_38 ?_
      obtain ⟨j1666, e_j1666, h⟩ := sx_nm h
      have hj1666 : ∀ (M3 : sx_M) (H : Heap) (locs : List Loc) (ls : Array Slot), lv_has ls 7 [(0, .ref b), (1, .ref (sx_ad C 0 0)), (2, .ref (sx_ad C 17 0)), (3, .ref (sx_ad C 30 0)), (4, .int x4)] → sx_W C M3 H → va_S (sx_A C) s.heap H locs → j1666 M3 = some 1 → W p l e room_1 s m #[Value.ref b] below meth c H locs (200 + 2 * j + 2) (10000 + 12 * j + 12) (lw_Z below #[Value.ref b] s) (F0 m 1666 ls []) := by
        intro M3 H locs ls hl hP hS h
        subst e_j1666
        obtain ⟨v4, e_v4, h⟩ := sx_nm h
        refine lv_iinc (v := v4) (lv' := [(4, .int v4), (0, .ref b), (1, .ref (sx_ad C 0 0)), (2, .ref (sx_ad C 17 0)), (3, .ref (sx_ad C 30 0))]) hx hb dL_law_1666 hl (k := 4) rfl (by rw [← e_v4]; rfl) (by decide) rfl (fun ls hl => ?_)
        refine lv_goto (tgt := 23) hx hb dL_law_1669 (by decide) ?_
        exact W.widen (by omega) (by omega) (ih (j + 1) v4 M3 H locs ls (by omega) (by rw [← e_v4, hx4]; exact sx_add4 j) (lv_sub hl [1, 2, 3, 4, 0] rfl) hP hS h)
      clear e_j1666
      by_cases c5 : (v2 &&& (31 : Int32)) = (0 : Int32)
      · replace h := sx_ifp h c5
        refine lv_tableIn (tgt := 164) hx hb dL_law_39 (by rw [c5]; decide) (by rw [c5]; decide) (by rw [c5]; rfl) (by decide) ?_
        refine lv_aload_n hx hb dL_law_164 rfl (lv_at hl 1 rfl) ?_
        refine lv_aload_n hx hb dL_law_165 rfl (lv_at hl 0 rfl) ?_
        refine lv_iload hx hb dL_law_166 (lv_at hl 4 rfl) ?_
        refine lv_iconst (v := (1 : Int32)) hx hb dL_law_168 (by decide) ?_
        refine lv_iadd hx hb dL_law_169 ?_
        refine sx_sld hx hb hX hbl hbA hS dL_law_170 h (fun v6 h => ?_)
        refine lv_aload_n hx hb dL_law_171 rfl (lv_at hl 3 rfl) ?_
        obtain ⟨v7, M8, e_v7, h⟩ := sx_bnd2 h
        refine clW_L_92 X hT hst hG hP hz hS e_v7 hl.1 dL_law_172 ⟨Nat.le_trans (by omega) hcs.1, Nat.le_trans (by omega) hcs.2⟩ ⟨Nat.le_of_ble_eq_true rfl, Nat.le_of_ble_eq_true rfl⟩ (Nat.le_of_ble_eq_true rfl) (fun H locs hP hS => ?_)
        refine lv_istore (lv' := [(5, .int v7), (0, .ref b), (1, .ref (sx_ad C 0 0)), (2, .ref (sx_ad C 17 0)), (3, .ref (sx_ad C 30 0)), (4, .int x4)]) hx hb dL_law_175 hl (by decide) rfl (fun ls hl => ?_)
        refine lv_aload_n hx hb dL_law_177 rfl (lv_at hl 3 rfl) ?_
        refine lv_aload_n hx hb dL_law_178 rfl (lv_at hl 1 rfl) ?_
        refine lv_iload hx hb dL_law_179 (lv_at hl 5 rfl) ?_
        refine lv_iconst (v := (1 : Int32)) hx hb dL_law_181 (by decide) ?_
        refine lv_iadd hx hb dL_law_182 ?_
        refine sx_sld hx hb hX hbl hbA hS dL_law_183 h (fun v9 h => ?_)
        obtain ⟨v10, M11, e_v10, h⟩ := sx_bnd2 h
        refine cl_L_97 X hG hP hz hS  e_v10 hl.1 dL_law_184 ⟨Nat.le_trans (by omega) hcs.1, Nat.le_trans (by omega) hcs.2⟩ ⟨Nat.le_of_ble_eq_true rfl, Nat.le_of_ble_eq_true rfl⟩ (Nat.le_of_ble_eq_true rfl) (fun H locs hP hS => ?_)
        refine lv_istore (lv' := [(6, .int v10), (5, .int v7), (0, .ref b), (1, .ref (sx_ad C 0 0)), (2, .ref (sx_ad C 17 0)), (3, .ref (sx_ad C 30 0)), (4, .int x4)]) hx hb dL_law_187 hl (by decide) rfl (fun ls hl => ?_)
        refine lv_aload_n hx hb dL_law_189 rfl (lv_at hl 4 rfl) ?_
        obtain ⟨v12, e_v12, h⟩ := sx_bnd h
        refine cl_L_98 X hG hP hz hS  e_v12 hl.1 dL_law_190 ⟨Nat.le_trans (by omega) hcs.1, Nat.le_trans (by omega) hcs.2⟩ ⟨Nat.le_of_ble_eq_true rfl, Nat.le_of_ble_eq_true rfl⟩ (Nat.le_of_ble_eq_true rfl) (fun H locs hP hS => ?_)
        refine lv_iload hx hb dL_law_193 (lv_at hl 1 rfl) ?_
        refine lv_icmp_eq (tgt := 200) hx hb dL_law_195 (by decide) (fun c13 => ?_) (fun c13 => ?_)
        · replace h := sx_ifp h c13
          refine lv_iload hx hb dL_law_200 (lv_at hl 1 rfl) ?_
          obtain ⟨j217, e_j217, h⟩ := sx_nm h
          have hj217 : ∀ (H : Heap) (locs : List Loc) (ls : Array Slot), lv_has ls 7 [(0, .ref b), (1, .ref (sx_ad C 0 0)), (2, .ref (sx_ad C 17 0)), (3, .ref (sx_ad C 30 0)), (4, .int x4)] → sx_W C M11 H → va_S (sx_A C) s.heap H locs → j217 () = some 1 → W p l e room_1 s m #[Value.ref b] below meth c H locs (200 + 2 * j + 1) (10000 + 12 * j + 6) (lw_Z below #[Value.ref b] s) (F0 m 217 ls []) := by
            intro  H locs ls hl hP hS h
            subst e_j217
            refine lv_goto (tgt := 1666) hx hb dL_law_217 (by decide) ?_
            exact W.widen (by omega) (by omega) (hj1666 M11 H locs ls (lv_sub hl [0, 1, 2, 3, 4] rfl) hP hS h)
          clear e_j217
          refine lv_if_ne (tgt := 217) hx hb dL_law_202 (by decide) (fun c14 => ?_) (fun c14 => ?_)
          · replace h := sx_ifn h c14
            exact W.widen (by omega) (by omega) (hj217 H locs ls (lv_sub hl [2, 3, 4, 5, 6] rfl) hP hS h)
          · replace h := sx_ifp h c14
            refine lv_aload_n hx hb dL_law_205 rfl (lv_at hl 5 rfl) ?_
            refine lv_iconst (v := (0 : Int32)) hx hb dL_law_206 (by decide) ?_
            refine sx_lald X hP 30 0 1 (by decide) (fun _ _ => rfl) dL_law_207 h (fun v15 h => ?_)
            refine lv_iload hx hb dL_law_208 (lv_at hl 0 rfl) ?_
            refine lv_i2l (v := v10.toInt64) hx hb dL_law_210 rfl ?_
            refine W.lcmp hx hb dL_law_211 ?_
            refine lv_if_eq (tgt := 217) hx hb dL_law_212 (by decide) (fun c16 => ?_) (fun c16 => ?_)
            · replace h := sx_ifp h c16
              exact W.widen (by omega) (by omega) (hj217 H locs ls (lv_sub hl [2, 3, 4, 5, 6] rfl) hP hS h)
            · replace h := sx_ifn h c16
              refine lv_iconst (v := (0 : Int32)) hx hb dL_law_215 (by decide) ?_
              exact absurd (Option.some.inj h) (by decide)
        · replace h := sx_ifn h c13
          refine lv_iconst (v := (0 : Int32)) hx hb dL_law_198 (by decide) ?_
          exact absurd (Option.some.inj h) (by decide)
      replace h := sx_ifn h c5
      by_cases c17 : (v2 &&& (31 : Int32)) = (1 : Int32)
      · replace h := sx_ifp h c17
        refine lv_tableIn (tgt := 220) hx hb dL_law_39 (by rw [c17]; decide) (by rw [c17]; decide) (by rw [c17]; rfl) (by decide) ?_
        refine lv_aload_n hx hb dL_law_220 rfl (lv_at hl 1 rfl) ?_
        obtain ⟨v18, M19, e_v18, h⟩ := sx_bnd2 h
        refine cl_L_101 X hG hP hz hS  e_v18 hl.1 dL_law_221 ⟨Nat.le_trans (by omega) hcs.1, Nat.le_trans (by omega) hcs.2⟩ ⟨Nat.le_of_ble_eq_true rfl, Nat.le_of_ble_eq_true rfl⟩ (Nat.le_of_ble_eq_true rfl) (fun H locs hP hS => ?_)
        refine lv_aload_n hx hb dL_law_224 rfl (lv_at hl 2 rfl) ?_
        obtain ⟨v20, M21, e_v20, h⟩ := sx_bnd2 h
        refine cl_L_104 X hG hP hz hS  e_v20 hl.1 dL_law_225 ⟨Nat.le_trans (by omega) hcs.1, Nat.le_trans (by omega) hcs.2⟩ ⟨Nat.le_of_ble_eq_true rfl, Nat.le_of_ble_eq_true rfl⟩ (Nat.le_of_ble_eq_true rfl) (fun H locs hP hS => ?_)
        refine lv_icmp_eq (tgt := 1666) hx hb dL_law_228 (by decide) (fun c22 => ?_) (fun c22 => ?_)
        · replace h := sx_ifp h c22
          exact W.widen (by omega) (by omega) (hj1666 M21 H locs ls (lv_sub hl [0, 1, 2, 3, 4] rfl) hP hS h)
        · replace h := sx_ifn h c22
          refine lv_iconst (v := (0 : Int32)) hx hb dL_law_231 (by decide) ?_
          exact absurd (Option.some.inj h) (by decide)
      replace h := sx_ifn h c17
      by_cases c23 : (v2 &&& (31 : Int32)) = (2 : Int32)
      · replace h := sx_ifp h c23
        refine lv_tableIn (tgt := 233) hx hb dL_law_39 (by rw [c23]; decide) (by rw [c23]; decide) (by rw [c23]; rfl) (by decide) ?_
        refine lv_aload_n hx hb dL_law_233 rfl (lv_at hl 1 rfl) ?_
        obtain ⟨v24, e_v24, h⟩ := sx_bnd h
        refine cl_L_105 X hG hP hz hS  e_v24 hl.1 dL_law_234 ⟨Nat.le_trans (by omega) hcs.1, Nat.le_trans (by omega) hcs.2⟩ ⟨Nat.le_of_ble_eq_true rfl, Nat.le_of_ble_eq_true rfl⟩ (Nat.le_of_ble_eq_true rfl) (fun H locs hP hS => ?_)
        refine lv_aload_n hx hb dL_law_237 rfl (lv_at hl 2 rfl) ?_
        obtain ⟨v25, M26, e_v25, h⟩ := sx_bnd2 h
        refine cl_L_108 X hG hP hz hS  e_v25 hl.1 dL_law_238 ⟨Nat.le_trans (by omega) hcs.1, Nat.le_trans (by omega) hcs.2⟩ ⟨Nat.le_of_ble_eq_true rfl, Nat.le_of_ble_eq_true rfl⟩ (Nat.le_of_ble_eq_true rfl) (fun H locs hP hS => ?_)
        refine lv_icmp_eq (tgt := 1666) hx hb dL_law_241 (by decide) (fun c27 => ?_) (fun c27 => ?_)
        · replace h := sx_ifp h c27
          exact W.widen (by omega) (by omega) (hj1666 M26 H locs ls (lv_sub hl [0, 1, 2, 3, 4] rfl) hP hS h)
        · replace h := sx_ifn h c27
          refine lv_iconst (v := (0 : Int32)) hx hb dL_law_244 (by decide) ?_
          exact absurd (Option.some.inj h) (by decide)
      replace h := sx_ifn h c23
      by_cases c28 : (v2 &&& (31 : Int32)) = (3 : Int32)
      · replace h := sx_ifp h c28
        refine lv_tableIn (tgt := 246) hx hb dL_law_39 (by rw [c28]; decide) (by rw [c28]; decide) (by rw [c28]; rfl) (by decide) ?_
        refine lv_aload_n hx hb dL_law_246 rfl (lv_at hl 1 rfl) ?_
        refine lv_aload_n hx hb dL_law_247 rfl (lv_at hl 3 rfl) ?_
        obtain ⟨v29, M30, e_v29, h⟩ := sx_bnd2 h
        refine clW_L_109 X hT hst hG hP hz hS e_v29 hl.1 dL_law_248 ⟨Nat.le_trans (by omega) hcs.1, Nat.le_trans (by omega) hcs.2⟩ ⟨Nat.le_of_ble_eq_true rfl, Nat.le_of_ble_eq_true rfl⟩ (Nat.le_of_ble_eq_true rfl) (fun H locs hP hS => ?_)
        refine lv_istore (lv' := [(5, .int v29), (0, .ref b), (1, .ref (sx_ad C 0 0)), (2, .ref (sx_ad C 17 0)), (3, .ref (sx_ad C 30 0)), (4, .int x4)]) hx hb dL_law_251 hl (by decide) rfl (fun ls hl => ?_)
        refine lv_aload_n hx hb dL_law_253 rfl (lv_at hl 3 rfl) ?_
        obtain ⟨v31, M32, e_v31, h⟩ := sx_bnd2 h
        refine cl_L_112 X hG hP hz hS  e_v31 hl.1 dL_law_254 ⟨Nat.le_trans (by omega) hcs.1, Nat.le_trans (by omega) hcs.2⟩ ⟨Nat.le_of_ble_eq_true rfl, Nat.le_of_ble_eq_true rfl⟩ (Nat.le_of_ble_eq_true rfl) (fun H locs hP hS => ?_)
        refine lv_istore (lv' := [(6, .int v31), (5, .int v29), (0, .ref b), (1, .ref (sx_ad C 0 0)), (2, .ref (sx_ad C 17 0)), (3, .ref (sx_ad C 30 0)), (4, .int x4)]) hx hb dL_law_257 hl (by decide) rfl (fun ls hl => ?_)
        refine lv_aload_n hx hb dL_law_259 rfl (lv_at hl 4 rfl) ?_
        obtain ⟨v33, e_v33, h⟩ := sx_bnd h
        refine cl_L_98 X hG hP hz hS  e_v33 hl.1 dL_law_260 ⟨Nat.le_trans (by omega) hcs.1, Nat.le_trans (by omega) hcs.2⟩ ⟨Nat.le_of_ble_eq_true rfl, Nat.le_of_ble_eq_true rfl⟩ (Nat.le_of_ble_eq_true rfl) (fun H locs hP hS => ?_)
        refine lv_iload hx hb dL_law_263 (lv_at hl 1 rfl) ?_
        refine lv_icmp_eq (tgt := 270) hx hb dL_law_265 (by decide) (fun c34 => ?_) (fun c34 => ?_)
        · replace h := sx_ifp h c34
          refine lv_iload hx hb dL_law_270 (lv_at hl 1 rfl) ?_
          obtain ⟨j287, e_j287, h⟩ := sx_nm h
          have hj287 : ∀ (H : Heap) (locs : List Loc) (ls : Array Slot), lv_has ls 7 [(0, .ref b), (1, .ref (sx_ad C 0 0)), (2, .ref (sx_ad C 17 0)), (3, .ref (sx_ad C 30 0)), (4, .int x4)] → sx_W C M32 H → va_S (sx_A C) s.heap H locs → j287 () = some 1 → W p l e room_1 s m #[Value.ref b] below meth c H locs (200 + 2 * j + 1) (10000 + 12 * j + 6) (lw_Z below #[Value.ref b] s) (F0 m 287 ls []) := by
            intro  H locs ls hl hP hS h
            subst e_j287
            refine lv_goto (tgt := 1666) hx hb dL_law_287 (by decide) ?_
            exact W.widen (by omega) (by omega) (hj1666 M32 H locs ls (lv_sub hl [0, 1, 2, 3, 4] rfl) hP hS h)
          clear e_j287
          refine lv_if_ne (tgt := 287) hx hb dL_law_272 (by decide) (fun c35 => ?_) (fun c35 => ?_)
          · replace h := sx_ifn h c35
            exact W.widen (by omega) (by omega) (hj287 H locs ls (lv_sub hl [2, 3, 4, 5, 6] rfl) hP hS h)
          · replace h := sx_ifp h c35
            refine lv_aload_n hx hb dL_law_275 rfl (lv_at hl 5 rfl) ?_
            refine lv_iconst (v := (0 : Int32)) hx hb dL_law_276 (by decide) ?_
            refine sx_lald X hP 30 0 1 (by decide) (fun _ _ => rfl) dL_law_277 h (fun v36 h => ?_)
            refine lv_iload hx hb dL_law_278 (lv_at hl 0 rfl) ?_
            refine lv_i2l (v := v31.toInt64) hx hb dL_law_280 rfl ?_
            refine W.lcmp hx hb dL_law_281 ?_
            refine lv_if_eq (tgt := 287) hx hb dL_law_282 (by decide) (fun c37 => ?_) (fun c37 => ?_)
            · replace h := sx_ifp h c37
              exact W.widen (by omega) (by omega) (hj287 H locs ls (lv_sub hl [2, 3, 4, 5, 6] rfl) hP hS h)
            · replace h := sx_ifn h c37
              refine lv_iconst (v := (0 : Int32)) hx hb dL_law_285 (by decide) ?_
              exact absurd (Option.some.inj h) (by decide)
        · replace h := sx_ifn h c34
          refine lv_iconst (v := (0 : Int32)) hx hb dL_law_268 (by decide) ?_
          exact absurd (Option.some.inj h) (by decide)
      replace h := sx_ifn h c28
      by_cases c38 : (v2 &&& (31 : Int32)) = (4 : Int32)
      · replace h := sx_ifp h c38
        refine lv_tableIn (tgt := 290) hx hb dL_law_39 (by rw [c38]; decide) (by rw [c38]; decide) (by rw [c38]; rfl) (by decide) ?_
        refine lv_aload_n hx hb dL_law_290 rfl (lv_at hl 1 rfl) ?_
        refine lv_aload_n hx hb dL_law_291 rfl (lv_at hl 0 rfl) ?_
        refine lv_iload hx hb dL_law_292 (lv_at hl 4 rfl) ?_
        refine lv_iconst (v := (1 : Int32)) hx hb dL_law_294 (by decide) ?_
        refine lv_iadd hx hb dL_law_295 ?_
        refine sx_sld hx hb hX hbl hbA hS dL_law_296 h (fun v39 h => ?_)
        refine lv_aload_n hx hb dL_law_297 rfl (lv_at hl 3 rfl) ?_
        obtain ⟨v40, M41, e_v40, h⟩ := sx_bnd2 h
        refine clW_L_113 X hT hst hG hP hz hS e_v40 hl.1 dL_law_298 ⟨Nat.le_trans (by omega) hcs.1, Nat.le_trans (by omega) hcs.2⟩ ⟨Nat.le_of_ble_eq_true rfl, Nat.le_of_ble_eq_true rfl⟩ (Nat.le_of_ble_eq_true rfl) (fun H locs hP hS => ?_)
        refine lv_istore (lv' := [(5, .int v40), (0, .ref b), (1, .ref (sx_ad C 0 0)), (2, .ref (sx_ad C 17 0)), (3, .ref (sx_ad C 30 0)), (4, .int x4)]) hx hb dL_law_301 hl (by decide) rfl (fun ls hl => ?_)
        refine lv_aload_n hx hb dL_law_303 rfl (lv_at hl 3 rfl) ?_
        refine lv_aload_n hx hb dL_law_304 rfl (lv_at hl 1 rfl) ?_
        refine lv_iload hx hb dL_law_305 (lv_at hl 5 rfl) ?_
        refine lv_iconst (v := (1 : Int32)) hx hb dL_law_307 (by decide) ?_
        refine lv_iadd hx hb dL_law_308 ?_
        refine sx_sld hx hb hX hbl hbA hS dL_law_309 h (fun v42 h => ?_)
        obtain ⟨v43, M44, e_v43, h⟩ := sx_bnd2 h
        refine cl_L_115 X hG hP hz hS  e_v43 hl.1 dL_law_310 ⟨Nat.le_trans (by omega) hcs.1, Nat.le_trans (by omega) hcs.2⟩ ⟨Nat.le_of_ble_eq_true rfl, Nat.le_of_ble_eq_true rfl⟩ (Nat.le_of_ble_eq_true rfl) (fun H locs hP hS => ?_)
        refine lv_istore (lv' := [(6, .int v43), (5, .int v40), (0, .ref b), (1, .ref (sx_ad C 0 0)), (2, .ref (sx_ad C 17 0)), (3, .ref (sx_ad C 30 0)), (4, .int x4)]) hx hb dL_law_313 hl (by decide) rfl (fun ls hl => ?_)
        refine lv_aload_n hx hb dL_law_315 rfl (lv_at hl 4 rfl) ?_
        obtain ⟨v45, e_v45, h⟩ := sx_bnd h
        refine cl_L_98 X hG hP hz hS  e_v45 hl.1 dL_law_316 ⟨Nat.le_trans (by omega) hcs.1, Nat.le_trans (by omega) hcs.2⟩ ⟨Nat.le_of_ble_eq_true rfl, Nat.le_of_ble_eq_true rfl⟩ (Nat.le_of_ble_eq_true rfl) (fun H locs hP hS => ?_)
        refine lv_iload hx hb dL_law_319 (lv_at hl 1 rfl) ?_
        refine lv_icmp_eq (tgt := 326) hx hb dL_law_321 (by decide) (fun c46 => ?_) (fun c46 => ?_)
        · replace h := sx_ifp h c46
          refine lv_iload hx hb dL_law_326 (lv_at hl 1 rfl) ?_
          obtain ⟨j343, e_j343, h⟩ := sx_nm h
          have hj343 : ∀ (H : Heap) (locs : List Loc) (ls : Array Slot), lv_has ls 7 [(0, .ref b), (1, .ref (sx_ad C 0 0)), (2, .ref (sx_ad C 17 0)), (3, .ref (sx_ad C 30 0)), (4, .int x4)] → sx_W C M44 H → va_S (sx_A C) s.heap H locs → j343 () = some 1 → W p l e room_1 s m #[Value.ref b] below meth c H locs (200 + 2 * j + 1) (10000 + 12 * j + 6) (lw_Z below #[Value.ref b] s) (F0 m 343 ls []) := by
            intro  H locs ls hl hP hS h
            subst e_j343
            refine lv_goto (tgt := 1666) hx hb dL_law_343 (by decide) ?_
            exact W.widen (by omega) (by omega) (hj1666 M44 H locs ls (lv_sub hl [0, 1, 2, 3, 4] rfl) hP hS h)
          clear e_j343
          refine lv_if_ne (tgt := 343) hx hb dL_law_328 (by decide) (fun c47 => ?_) (fun c47 => ?_)
          · replace h := sx_ifn h c47
            exact W.widen (by omega) (by omega) (hj343 H locs ls (lv_sub hl [2, 3, 4, 5, 6] rfl) hP hS h)
          · replace h := sx_ifp h c47
            refine lv_aload_n hx hb dL_law_331 rfl (lv_at hl 5 rfl) ?_
            refine lv_iconst (v := (0 : Int32)) hx hb dL_law_332 (by decide) ?_
            refine sx_lald X hP 30 0 1 (by decide) (fun _ _ => rfl) dL_law_333 h (fun v48 h => ?_)
            refine lv_iload hx hb dL_law_334 (lv_at hl 0 rfl) ?_
            refine lv_i2l (v := v43.toInt64) hx hb dL_law_336 rfl ?_
            refine W.lcmp hx hb dL_law_337 ?_
            refine lv_if_eq (tgt := 343) hx hb dL_law_338 (by decide) (fun c49 => ?_) (fun c49 => ?_)
            · replace h := sx_ifp h c49
              exact W.widen (by omega) (by omega) (hj343 H locs ls (lv_sub hl [2, 3, 4, 5, 6] rfl) hP hS h)
            · replace h := sx_ifn h c49
              refine lv_iconst (v := (0 : Int32)) hx hb dL_law_341 (by decide) ?_
              exact absurd (Option.some.inj h) (by decide)
        · replace h := sx_ifn h c46
          refine lv_iconst (v := (0 : Int32)) hx hb dL_law_324 (by decide) ?_
          exact absurd (Option.some.inj h) (by decide)
      replace h := sx_ifn h c38
      by_cases c50 : (v2 &&& (31 : Int32)) = (5 : Int32)
      · replace h := sx_ifp h c50
        refine lv_tableIn (tgt := 346) hx hb dL_law_39 (by rw [c50]; decide) (by rw [c50]; decide) (by rw [c50]; rfl) (by decide) ?_
        refine lv_aload_n hx hb dL_law_346 rfl (lv_at hl 1 rfl) ?_
        refine lv_aload_n hx hb dL_law_347 rfl (lv_at hl 0 rfl) ?_
        refine lv_iload hx hb dL_law_348 (lv_at hl 4 rfl) ?_
        refine lv_iconst (v := (1 : Int32)) hx hb dL_law_350 (by decide) ?_
        refine lv_iadd hx hb dL_law_351 ?_
        refine sx_sld hx hb hX hbl hbA hS dL_law_352 h (fun v51 h => ?_)
        refine lv_aload_n hx hb dL_law_353 rfl (lv_at hl 0 rfl) ?_
        refine lv_iload hx hb dL_law_354 (lv_at hl 4 rfl) ?_
        refine lv_iconst (v := (2 : Int32)) hx hb dL_law_356 (by decide) ?_
        refine lv_iadd hx hb dL_law_357 ?_
        refine sx_sld hx hb hX hbl hbA hS dL_law_358 h (fun v52 h => ?_)
        refine lv_aload_n hx hb dL_law_359 rfl (lv_at hl 3 rfl) ?_
        obtain ⟨v53, M54, e_v53, h⟩ := sx_bnd2 h
        refine clW_L_116 X hT hst hG hP hz hS e_v53 hl.1 dL_law_360 ⟨Nat.le_trans (by omega) hcs.1, Nat.le_trans (by omega) hcs.2⟩ ⟨Nat.le_of_ble_eq_true rfl, Nat.le_of_ble_eq_true rfl⟩ (Nat.le_of_ble_eq_true rfl) (fun H locs hP hS => ?_)
        refine lv_istore (lv' := [(5, .int v53), (0, .ref b), (1, .ref (sx_ad C 0 0)), (2, .ref (sx_ad C 17 0)), (3, .ref (sx_ad C 30 0)), (4, .int x4)]) hx hb dL_law_363 hl (by decide) rfl (fun ls hl => ?_)
        refine lv_aload_n hx hb dL_law_365 rfl (lv_at hl 3 rfl) ?_
        refine lv_aload_n hx hb dL_law_366 rfl (lv_at hl 1 rfl) ?_
        refine lv_iload hx hb dL_law_367 (lv_at hl 5 rfl) ?_
        refine lv_iconst (v := (1 : Int32)) hx hb dL_law_369 (by decide) ?_
        refine lv_iadd hx hb dL_law_370 ?_
        refine sx_sld hx hb hX hbl hbA hS dL_law_371 h (fun v55 h => ?_)
        refine lv_aload_n hx hb dL_law_372 rfl (lv_at hl 1 rfl) ?_
        refine lv_iload hx hb dL_law_373 (lv_at hl 5 rfl) ?_
        refine lv_iconst (v := (2 : Int32)) hx hb dL_law_375 (by decide) ?_
        refine lv_iadd hx hb dL_law_376 ?_
        refine sx_sld hx hb hX hbl hbA hS dL_law_377 h (fun v56 h => ?_)
        obtain ⟨v57, M58, e_v57, h⟩ := sx_bnd2 h
        refine cl_L_119 X hG hP hz hS  e_v57 hl.1 dL_law_378 ⟨Nat.le_trans (by omega) hcs.1, Nat.le_trans (by omega) hcs.2⟩ ⟨Nat.le_of_ble_eq_true rfl, Nat.le_of_ble_eq_true rfl⟩ (Nat.le_of_ble_eq_true rfl) (fun H locs hP hS => ?_)
        refine lv_istore (lv' := [(6, .int v57), (5, .int v53), (0, .ref b), (1, .ref (sx_ad C 0 0)), (2, .ref (sx_ad C 17 0)), (3, .ref (sx_ad C 30 0)), (4, .int x4)]) hx hb dL_law_381 hl (by decide) rfl (fun ls hl => ?_)
        refine lv_aload_n hx hb dL_law_383 rfl (lv_at hl 4 rfl) ?_
        obtain ⟨v59, e_v59, h⟩ := sx_bnd h
        refine cl_L_98 X hG hP hz hS  e_v59 hl.1 dL_law_384 ⟨Nat.le_trans (by omega) hcs.1, Nat.le_trans (by omega) hcs.2⟩ ⟨Nat.le_of_ble_eq_true rfl, Nat.le_of_ble_eq_true rfl⟩ (Nat.le_of_ble_eq_true rfl) (fun H locs hP hS => ?_)
        refine lv_iload hx hb dL_law_387 (lv_at hl 1 rfl) ?_
        refine lv_icmp_eq (tgt := 394) hx hb dL_law_389 (by decide) (fun c60 => ?_) (fun c60 => ?_)
        · replace h := sx_ifp h c60
          refine lv_iload hx hb dL_law_394 (lv_at hl 1 rfl) ?_
          obtain ⟨j411, e_j411, h⟩ := sx_nm h
          have hj411 : ∀ (H : Heap) (locs : List Loc) (ls : Array Slot), lv_has ls 7 [(0, .ref b), (1, .ref (sx_ad C 0 0)), (2, .ref (sx_ad C 17 0)), (3, .ref (sx_ad C 30 0)), (4, .int x4)] → sx_W C M58 H → va_S (sx_A C) s.heap H locs → j411 () = some 1 → W p l e room_1 s m #[Value.ref b] below meth c H locs (200 + 2 * j + 2) (10000 + 12 * j + 12) (lw_Z below #[Value.ref b] s) (F0 m 411 ls []) := by
            intro  H locs ls hl hP hS h
            subst e_j411
            refine lv_goto (tgt := 1666) hx hb dL_law_411 (by decide) ?_
            exact W.widen (by omega) (by omega) (hj1666 M58 H locs ls (lv_sub hl [0, 1, 2, 3, 4] rfl) hP hS h)
          clear e_j411
          refine lv_if_ne (tgt := 411) hx hb dL_law_396 (by decide) (fun c61 => ?_) (fun c61 => ?_)
          · replace h := sx_ifn h c61
            exact W.widen (by omega) (by omega) (hj411 H locs ls (lv_sub hl [2, 3, 4, 5, 6] rfl) hP hS h)
          · replace h := sx_ifp h c61
            refine lv_aload_n hx hb dL_law_399 rfl (lv_at hl 5 rfl) ?_
            refine lv_iconst (v := (0 : Int32)) hx hb dL_law_400 (by decide) ?_
            refine sx_lald X hP 30 0 1 (by decide) (fun _ _ => rfl) dL_law_401 h (fun v62 h => ?_)
            refine lv_iload hx hb dL_law_402 (lv_at hl 0 rfl) ?_
            refine lv_i2l (v := v57.toInt64) hx hb dL_law_404 rfl ?_
            refine W.lcmp hx hb dL_law_405 ?_
            refine lv_if_eq (tgt := 411) hx hb dL_law_406 (by decide) (fun c63 => ?_) (fun c63 => ?_)
            · replace h := sx_ifp h c63
              exact W.widen (by omega) (by omega) (hj411 H locs ls (lv_sub hl [2, 3, 4, 5, 6] rfl) hP hS h)
            · replace h := sx_ifn h c63
              refine lv_iconst (v := (0 : Int32)) hx hb dL_law_409 (by decide) ?_
              exact absurd (Option.some.inj h) (by decide)
        · replace h := sx_ifn h c60
          refine lv_iconst (v := (0 : Int32)) hx hb dL_law_392 (by decide) ?_
          exact absurd (Option.some.inj h) (by decide)
      replace h := sx_ifn h c50
      by_cases c64 : (v2 &&& (31 : Int32)) = (6 : Int32)
      · replace h := sx_ifp h c64
        refine lv_tableIn (tgt := 414) hx hb dL_law_39 (by rw [c64]; decide) (by rw [c64]; decide) (by rw [c64]; rfl) (by decide) ?_
        refine lv_aload_n hx hb dL_law_414 rfl (lv_at hl 1 rfl) ?_
        refine lv_aload_n hx hb dL_law_415 rfl (lv_at hl 0 rfl) ?_
        refine lv_iload hx hb dL_law_416 (lv_at hl 4 rfl) ?_
        refine lv_iconst (v := (1 : Int32)) hx hb dL_law_418 (by decide) ?_
        refine lv_iadd hx hb dL_law_419 ?_
        refine sx_sld hx hb hX hbl hbA hS dL_law_420 h (fun v65 h => ?_)
        refine lv_aload_n hx hb dL_law_421 rfl (lv_at hl 0 rfl) ?_
        refine lv_iload hx hb dL_law_422 (lv_at hl 4 rfl) ?_
        refine lv_iconst (v := (2 : Int32)) hx hb dL_law_424 (by decide) ?_
        refine lv_iadd hx hb dL_law_425 ?_
        refine sx_sld hx hb hX hbl hbA hS dL_law_426 h (fun v66 h => ?_)
        refine lv_aload_n hx hb dL_law_427 rfl (lv_at hl 3 rfl) ?_
        obtain ⟨v67, M68, e_v67, h⟩ := sx_bnd2 h
        refine clW_L_120 X hT hst hG hP hz hS e_v67 hl.1 dL_law_428 ⟨Nat.le_trans (by omega) hcs.1, Nat.le_trans (by omega) hcs.2⟩ ⟨Nat.le_of_ble_eq_true rfl, Nat.le_of_ble_eq_true rfl⟩ (Nat.le_of_ble_eq_true rfl) (fun H locs hP hS => ?_)
        refine lv_istore (lv' := [(5, .int v67), (0, .ref b), (1, .ref (sx_ad C 0 0)), (2, .ref (sx_ad C 17 0)), (3, .ref (sx_ad C 30 0)), (4, .int x4)]) hx hb dL_law_431 hl (by decide) rfl (fun ls hl => ?_)
        refine lv_aload_n hx hb dL_law_433 rfl (lv_at hl 3 rfl) ?_
        refine lv_aload_n hx hb dL_law_434 rfl (lv_at hl 1 rfl) ?_
        refine lv_iload hx hb dL_law_435 (lv_at hl 5 rfl) ?_
        refine lv_iconst (v := (1 : Int32)) hx hb dL_law_437 (by decide) ?_
        refine lv_iadd hx hb dL_law_438 ?_
        refine sx_sld hx hb hX hbl hbA hS dL_law_439 h (fun v69 h => ?_)
        refine lv_aload_n hx hb dL_law_440 rfl (lv_at hl 1 rfl) ?_
        refine lv_iload hx hb dL_law_441 (lv_at hl 5 rfl) ?_
        refine lv_iconst (v := (2 : Int32)) hx hb dL_law_443 (by decide) ?_
        refine lv_iadd hx hb dL_law_444 ?_
        refine sx_sld hx hb hX hbl hbA hS dL_law_445 h (fun v70 h => ?_)
        obtain ⟨v71, M72, e_v71, h⟩ := sx_bnd2 h
        refine cl_L_122 X hG hP hz hS  e_v71 hl.1 dL_law_446 ⟨Nat.le_trans (by omega) hcs.1, Nat.le_trans (by omega) hcs.2⟩ ⟨Nat.le_of_ble_eq_true rfl, Nat.le_of_ble_eq_true rfl⟩ (Nat.le_of_ble_eq_true rfl) (fun H locs hP hS => ?_)
        refine lv_istore (lv' := [(6, .int v71), (5, .int v67), (0, .ref b), (1, .ref (sx_ad C 0 0)), (2, .ref (sx_ad C 17 0)), (3, .ref (sx_ad C 30 0)), (4, .int x4)]) hx hb dL_law_449 hl (by decide) rfl (fun ls hl => ?_)
        refine lv_aload_n hx hb dL_law_451 rfl (lv_at hl 4 rfl) ?_
        obtain ⟨v73, e_v73, h⟩ := sx_bnd h
        refine cl_L_98 X hG hP hz hS  e_v73 hl.1 dL_law_452 ⟨Nat.le_trans (by omega) hcs.1, Nat.le_trans (by omega) hcs.2⟩ ⟨Nat.le_of_ble_eq_true rfl, Nat.le_of_ble_eq_true rfl⟩ (Nat.le_of_ble_eq_true rfl) (fun H locs hP hS => ?_)
        refine lv_iload hx hb dL_law_455 (lv_at hl 1 rfl) ?_
        refine lv_icmp_eq (tgt := 462) hx hb dL_law_457 (by decide) (fun c74 => ?_) (fun c74 => ?_)
        · replace h := sx_ifp h c74
          refine lv_iload hx hb dL_law_462 (lv_at hl 1 rfl) ?_
          obtain ⟨j479, e_j479, h⟩ := sx_nm h
          have hj479 : ∀ (H : Heap) (locs : List Loc) (ls : Array Slot), lv_has ls 7 [(0, .ref b), (1, .ref (sx_ad C 0 0)), (2, .ref (sx_ad C 17 0)), (3, .ref (sx_ad C 30 0)), (4, .int x4)] → sx_W C M72 H → va_S (sx_A C) s.heap H locs → j479 () = some 1 → W p l e room_1 s m #[Value.ref b] below meth c H locs (200 + 2 * j + 1) (10000 + 12 * j + 6) (lw_Z below #[Value.ref b] s) (F0 m 479 ls []) := by
            intro  H locs ls hl hP hS h
            subst e_j479
            refine lv_goto (tgt := 1666) hx hb dL_law_479 (by decide) ?_
            exact W.widen (by omega) (by omega) (hj1666 M72 H locs ls (lv_sub hl [0, 1, 2, 3, 4] rfl) hP hS h)
          clear e_j479
          refine lv_if_ne (tgt := 479) hx hb dL_law_464 (by decide) (fun c75 => ?_) (fun c75 => ?_)
          · replace h := sx_ifn h c75
            exact W.widen (by omega) (by omega) (hj479 H locs ls (lv_sub hl [2, 3, 4, 5, 6] rfl) hP hS h)
          · replace h := sx_ifp h c75
            refine lv_aload_n hx hb dL_law_467 rfl (lv_at hl 5 rfl) ?_
            refine lv_iconst (v := (0 : Int32)) hx hb dL_law_468 (by decide) ?_
            refine sx_lald X hP 30 0 1 (by decide) (fun _ _ => rfl) dL_law_469 h (fun v76 h => ?_)
            refine lv_iload hx hb dL_law_470 (lv_at hl 0 rfl) ?_
            refine lv_i2l (v := v71.toInt64) hx hb dL_law_472 rfl ?_
            refine W.lcmp hx hb dL_law_473 ?_
            refine lv_if_eq (tgt := 479) hx hb dL_law_474 (by decide) (fun c77 => ?_) (fun c77 => ?_)
            · replace h := sx_ifp h c77
              exact W.widen (by omega) (by omega) (hj479 H locs ls (lv_sub hl [2, 3, 4, 5, 6] rfl) hP hS h)
            · replace h := sx_ifn h c77
              refine lv_iconst (v := (0 : Int32)) hx hb dL_law_477 (by decide) ?_
              exact absurd (Option.some.inj h) (by decide)
        · replace h := sx_ifn h c74
          refine lv_iconst (v := (0 : Int32)) hx hb dL_law_460 (by decide) ?_
          exact absurd (Option.some.inj h) (by decide)
      replace h := sx_ifn h c64
      by_cases c78 : (v2 &&& (31 : Int32)) = (7 : Int32)
      · replace h := sx_ifp h c78
        refine lv_tableIn (tgt := 482) hx hb dL_law_39 (by rw [c78]; decide) (by rw [c78]; decide) (by rw [c78]; rfl) (by decide) ?_
        refine lv_aload_n hx hb dL_law_482 rfl (lv_at hl 1 rfl) ?_
        refine lv_aload_n hx hb dL_law_483 rfl (lv_at hl 0 rfl) ?_
        refine lv_iload hx hb dL_law_484 (lv_at hl 4 rfl) ?_
        refine lv_iconst (v := (1 : Int32)) hx hb dL_law_486 (by decide) ?_
        refine lv_iadd hx hb dL_law_487 ?_
        refine sx_sld hx hb hX hbl hbA hS dL_law_488 h (fun v79 h => ?_)
        refine lv_aload_n hx hb dL_law_489 rfl (lv_at hl 3 rfl) ?_
        obtain ⟨v80, M81, e_v80, h⟩ := sx_bnd2 h
        refine clW_L_123 X hT hst hG hP hz hS e_v80 hl.1 dL_law_490 ⟨Nat.le_trans (by omega) hcs.1, Nat.le_trans (by omega) hcs.2⟩ ⟨Nat.le_of_ble_eq_true rfl, Nat.le_of_ble_eq_true rfl⟩ (Nat.le_of_ble_eq_true rfl) (fun H locs hP hS => ?_)
        refine lv_istore (lv' := [(5, .int v80), (0, .ref b), (1, .ref (sx_ad C 0 0)), (2, .ref (sx_ad C 17 0)), (3, .ref (sx_ad C 30 0)), (4, .int x4)]) hx hb dL_law_493 hl (by decide) rfl (fun ls hl => ?_)
        refine lv_aload_n hx hb dL_law_495 rfl (lv_at hl 3 rfl) ?_
        refine lv_aload_n hx hb dL_law_496 rfl (lv_at hl 1 rfl) ?_
        refine lv_iload hx hb dL_law_497 (lv_at hl 5 rfl) ?_
        refine lv_iconst (v := (1 : Int32)) hx hb dL_law_499 (by decide) ?_
        refine lv_iadd hx hb dL_law_500 ?_
        refine sx_sld hx hb hX hbl hbA hS dL_law_501 h (fun v82 h => ?_)
        obtain ⟨v83, M84, e_v83, h⟩ := sx_bnd2 h
        refine cl_L_125 X hG hP hz hS  e_v83 hl.1 dL_law_502 ⟨Nat.le_trans (by omega) hcs.1, Nat.le_trans (by omega) hcs.2⟩ ⟨Nat.le_of_ble_eq_true rfl, Nat.le_of_ble_eq_true rfl⟩ (Nat.le_of_ble_eq_true rfl) (fun H locs hP hS => ?_)
        refine lv_istore (lv' := [(6, .int v83), (5, .int v80), (0, .ref b), (1, .ref (sx_ad C 0 0)), (2, .ref (sx_ad C 17 0)), (3, .ref (sx_ad C 30 0)), (4, .int x4)]) hx hb dL_law_505 hl (by decide) rfl (fun ls hl => ?_)
        refine lv_aload_n hx hb dL_law_507 rfl (lv_at hl 4 rfl) ?_
        obtain ⟨v85, e_v85, h⟩ := sx_bnd h
        refine cl_L_98 X hG hP hz hS  e_v85 hl.1 dL_law_508 ⟨Nat.le_trans (by omega) hcs.1, Nat.le_trans (by omega) hcs.2⟩ ⟨Nat.le_of_ble_eq_true rfl, Nat.le_of_ble_eq_true rfl⟩ (Nat.le_of_ble_eq_true rfl) (fun H locs hP hS => ?_)
        refine lv_iload hx hb dL_law_511 (lv_at hl 1 rfl) ?_
        refine lv_icmp_eq (tgt := 518) hx hb dL_law_513 (by decide) (fun c86 => ?_) (fun c86 => ?_)
        · replace h := sx_ifp h c86
          refine lv_iload hx hb dL_law_518 (lv_at hl 1 rfl) ?_
          obtain ⟨j535, e_j535, h⟩ := sx_nm h
          have hj535 : ∀ (H : Heap) (locs : List Loc) (ls : Array Slot), lv_has ls 7 [(0, .ref b), (1, .ref (sx_ad C 0 0)), (2, .ref (sx_ad C 17 0)), (3, .ref (sx_ad C 30 0)), (4, .int x4)] → sx_W C M84 H → va_S (sx_A C) s.heap H locs → j535 () = some 1 → W p l e room_1 s m #[Value.ref b] below meth c H locs (200 + 2 * j + 1) (10000 + 12 * j + 6) (lw_Z below #[Value.ref b] s) (F0 m 535 ls []) := by
            intro  H locs ls hl hP hS h
            subst e_j535
            refine lv_goto (tgt := 1666) hx hb dL_law_535 (by decide) ?_
            exact W.widen (by omega) (by omega) (hj1666 M84 H locs ls (lv_sub hl [0, 1, 2, 3, 4] rfl) hP hS h)
          clear e_j535
          refine lv_if_ne (tgt := 535) hx hb dL_law_520 (by decide) (fun c87 => ?_) (fun c87 => ?_)
          · replace h := sx_ifn h c87
            exact W.widen (by omega) (by omega) (hj535 H locs ls (lv_sub hl [2, 3, 4, 5, 6] rfl) hP hS h)
          · replace h := sx_ifp h c87
            refine lv_aload_n hx hb dL_law_523 rfl (lv_at hl 5 rfl) ?_
            refine lv_iconst (v := (0 : Int32)) hx hb dL_law_524 (by decide) ?_
            refine sx_lald X hP 30 0 1 (by decide) (fun _ _ => rfl) dL_law_525 h (fun v88 h => ?_)
            refine lv_iload hx hb dL_law_526 (lv_at hl 0 rfl) ?_
            refine lv_i2l (v := v83.toInt64) hx hb dL_law_528 rfl ?_
            refine W.lcmp hx hb dL_law_529 ?_
            refine lv_if_eq (tgt := 535) hx hb dL_law_530 (by decide) (fun c89 => ?_) (fun c89 => ?_)
            · replace h := sx_ifp h c89
              exact W.widen (by omega) (by omega) (hj535 H locs ls (lv_sub hl [2, 3, 4, 5, 6] rfl) hP hS h)
            · replace h := sx_ifn h c89
              refine lv_iconst (v := (0 : Int32)) hx hb dL_law_533 (by decide) ?_
              exact absurd (Option.some.inj h) (by decide)
        · replace h := sx_ifn h c86
          refine lv_iconst (v := (0 : Int32)) hx hb dL_law_516 (by decide) ?_
          exact absurd (Option.some.inj h) (by decide)
      replace h := sx_ifn h c78
      by_cases c90 : (v2 &&& (31 : Int32)) = (8 : Int32)
      · replace h := sx_ifp h c90
        refine lv_tableIn (tgt := 538) hx hb dL_law_39 (by rw [c90]; decide) (by rw [c90]; decide) (by rw [c90]; rfl) (by decide) ?_
        refine lv_aload_n hx hb dL_law_538 rfl (lv_at hl 1 rfl) ?_
        refine lv_aload_n hx hb dL_law_539 rfl (lv_at hl 0 rfl) ?_
        refine lv_iload hx hb dL_law_540 (lv_at hl 4 rfl) ?_
        refine lv_iconst (v := (1 : Int32)) hx hb dL_law_542 (by decide) ?_
        refine lv_iadd hx hb dL_law_543 ?_
        refine sx_sld hx hb hX hbl hbA hS dL_law_544 h (fun v91 h => ?_)
        refine lv_aload_n hx hb dL_law_545 rfl (lv_at hl 3 rfl) ?_
        obtain ⟨v92, M93, e_v92, h⟩ := sx_bnd2 h
        refine clW_L_126 X hT hst hG hP hz hS e_v92 hl.1 dL_law_546 ⟨Nat.le_trans (by omega) hcs.1, Nat.le_trans (by omega) hcs.2⟩ ⟨Nat.le_of_ble_eq_true rfl, Nat.le_of_ble_eq_true rfl⟩ (Nat.le_of_ble_eq_true rfl) (fun H locs hP hS => ?_)
        refine lv_istore (lv' := [(5, .int v92), (0, .ref b), (1, .ref (sx_ad C 0 0)), (2, .ref (sx_ad C 17 0)), (3, .ref (sx_ad C 30 0)), (4, .int x4)]) hx hb dL_law_549 hl (by decide) rfl (fun ls hl => ?_)
        refine lv_aload_n hx hb dL_law_551 rfl (lv_at hl 3 rfl) ?_
        refine lv_aload_n hx hb dL_law_552 rfl (lv_at hl 1 rfl) ?_
        refine lv_iload hx hb dL_law_553 (lv_at hl 5 rfl) ?_
        refine lv_iconst (v := (1 : Int32)) hx hb dL_law_555 (by decide) ?_
        refine lv_iadd hx hb dL_law_556 ?_
        refine sx_sld hx hb hX hbl hbA hS dL_law_557 h (fun v94 h => ?_)
        obtain ⟨v95, M96, e_v95, h⟩ := sx_bnd2 h
        refine cl_L_128 X hG hP hz hS  e_v95 hl.1 dL_law_558 ⟨Nat.le_trans (by omega) hcs.1, Nat.le_trans (by omega) hcs.2⟩ ⟨Nat.le_of_ble_eq_true rfl, Nat.le_of_ble_eq_true rfl⟩ (Nat.le_of_ble_eq_true rfl) (fun H locs hP hS => ?_)
        refine lv_istore (lv' := [(6, .int v95), (5, .int v92), (0, .ref b), (1, .ref (sx_ad C 0 0)), (2, .ref (sx_ad C 17 0)), (3, .ref (sx_ad C 30 0)), (4, .int x4)]) hx hb dL_law_561 hl (by decide) rfl (fun ls hl => ?_)
        refine lv_aload_n hx hb dL_law_563 rfl (lv_at hl 4 rfl) ?_
        obtain ⟨v97, e_v97, h⟩ := sx_bnd h
        refine cl_L_98 X hG hP hz hS  e_v97 hl.1 dL_law_564 ⟨Nat.le_trans (by omega) hcs.1, Nat.le_trans (by omega) hcs.2⟩ ⟨Nat.le_of_ble_eq_true rfl, Nat.le_of_ble_eq_true rfl⟩ (Nat.le_of_ble_eq_true rfl) (fun H locs hP hS => ?_)
        refine lv_iload hx hb dL_law_567 (lv_at hl 1 rfl) ?_
        refine lv_icmp_eq (tgt := 574) hx hb dL_law_569 (by decide) (fun c98 => ?_) (fun c98 => ?_)
        · replace h := sx_ifp h c98
          refine lv_iload hx hb dL_law_574 (lv_at hl 1 rfl) ?_
          obtain ⟨j591, e_j591, h⟩ := sx_nm h
          have hj591 : ∀ (H : Heap) (locs : List Loc) (ls : Array Slot), lv_has ls 7 [(0, .ref b), (1, .ref (sx_ad C 0 0)), (2, .ref (sx_ad C 17 0)), (3, .ref (sx_ad C 30 0)), (4, .int x4)] → sx_W C M96 H → va_S (sx_A C) s.heap H locs → j591 () = some 1 → W p l e room_1 s m #[Value.ref b] below meth c H locs (200 + 2 * j + 1) (10000 + 12 * j + 6) (lw_Z below #[Value.ref b] s) (F0 m 591 ls []) := by
            intro  H locs ls hl hP hS h
            subst e_j591
            refine lv_goto (tgt := 1666) hx hb dL_law_591 (by decide) ?_
            exact W.widen (by omega) (by omega) (hj1666 M96 H locs ls (lv_sub hl [0, 1, 2, 3, 4] rfl) hP hS h)
          clear e_j591
          refine lv_if_ne (tgt := 591) hx hb dL_law_576 (by decide) (fun c99 => ?_) (fun c99 => ?_)
          · replace h := sx_ifn h c99
            exact W.widen (by omega) (by omega) (hj591 H locs ls (lv_sub hl [2, 3, 4, 5, 6] rfl) hP hS h)
          · replace h := sx_ifp h c99
            refine lv_aload_n hx hb dL_law_579 rfl (lv_at hl 5 rfl) ?_
            refine lv_iconst (v := (0 : Int32)) hx hb dL_law_580 (by decide) ?_
            refine sx_lald X hP 30 0 1 (by decide) (fun _ _ => rfl) dL_law_581 h (fun v100 h => ?_)
            refine lv_iload hx hb dL_law_582 (lv_at hl 0 rfl) ?_
            refine lv_i2l (v := v95.toInt64) hx hb dL_law_584 rfl ?_
            refine W.lcmp hx hb dL_law_585 ?_
            refine lv_if_eq (tgt := 591) hx hb dL_law_586 (by decide) (fun c101 => ?_) (fun c101 => ?_)
            · replace h := sx_ifp h c101
              exact W.widen (by omega) (by omega) (hj591 H locs ls (lv_sub hl [2, 3, 4, 5, 6] rfl) hP hS h)
            · replace h := sx_ifn h c101
              refine lv_iconst (v := (0 : Int32)) hx hb dL_law_589 (by decide) ?_
              exact absurd (Option.some.inj h) (by decide)
        · replace h := sx_ifn h c98
          refine lv_iconst (v := (0 : Int32)) hx hb dL_law_572 (by decide) ?_
          exact absurd (Option.some.inj h) (by decide)
      replace h := sx_ifn h c90
      by_cases c102 : (v2 &&& (31 : Int32)) = (9 : Int32)
      · replace h := sx_ifp h c102
        refine lv_tableIn (tgt := 594) hx hb dL_law_39 (by rw [c102]; decide) (by rw [c102]; decide) (by rw [c102]; rfl) (by decide) ?_
        refine lv_aload_n hx hb dL_law_594 rfl (lv_at hl 1 rfl) ?_
        refine lv_aload_n hx hb dL_law_595 rfl (lv_at hl 0 rfl) ?_
        refine lv_iload hx hb dL_law_596 (lv_at hl 4 rfl) ?_
        refine lv_iconst (v := (1 : Int32)) hx hb dL_law_598 (by decide) ?_
        refine lv_iadd hx hb dL_law_599 ?_
        refine sx_sld hx hb hX hbl hbA hS dL_law_600 h (fun v103 h => ?_)
        refine lv_aload_n hx hb dL_law_601 rfl (lv_at hl 0 rfl) ?_
        refine lv_iload hx hb dL_law_602 (lv_at hl 4 rfl) ?_
        refine lv_iconst (v := (2 : Int32)) hx hb dL_law_604 (by decide) ?_
        refine lv_iadd hx hb dL_law_605 ?_
        refine sx_sld hx hb hX hbl hbA hS dL_law_606 h (fun v104 h => ?_)
        refine lv_aload_n hx hb dL_law_607 rfl (lv_at hl 0 rfl) ?_
        refine lv_iload hx hb dL_law_608 (lv_at hl 4 rfl) ?_
        refine lv_iconst (v := (3 : Int32)) hx hb dL_law_610 (by decide) ?_
        refine lv_iadd hx hb dL_law_611 ?_
        refine sx_sld hx hb hX hbl hbA hS dL_law_612 h (fun v105 h => ?_)
        obtain ⟨j621, e_j621, h⟩ := sx_nm h
        have hj621 : ∀ (v106 : Int32) (H : Heap) (locs : List Loc) (ls : Array Slot), lv_has ls 7 [(0, .ref b), (1, .ref (sx_ad C 0 0)), (2, .ref (sx_ad C 17 0)), (3, .ref (sx_ad C 30 0)), (4, .int x4)] → sx_W C M H → va_S (sx_A C) s.heap H locs → j621 v106 = some 1 → W p l e room_1 s m #[Value.ref b] below meth c H locs (200 + 2 * j) (10000 + 12 * j) (lw_Z below #[Value.ref b] s) (F0 m 621 ls [.int v106, .int v104, .int v103, .ref (sx_ad C 0 0)]) := by
          intro v106 H locs ls hl hP hS h
          subst e_j621
          refine lv_aload_n hx hb dL_law_621 rfl (lv_at hl 3 rfl) ?_
          obtain ⟨v107, M108, e_v107, h⟩ := sx_bnd2 h
          refine clW_L_129 X hT hst hG hP hz hS e_v107 hl.1 dL_law_622 ⟨Nat.le_trans (by omega) hcs.1, Nat.le_trans (by omega) hcs.2⟩ ⟨Nat.le_of_ble_eq_true rfl, Nat.le_of_ble_eq_true rfl⟩ (Nat.le_of_ble_eq_true rfl) (fun H locs hP hS => ?_)
          refine lv_istore (lv' := [(5, .int v107), (0, .ref b), (1, .ref (sx_ad C 0 0)), (2, .ref (sx_ad C 17 0)), (3, .ref (sx_ad C 30 0)), (4, .int x4)]) hx hb dL_law_625 hl (by decide) rfl (fun ls hl => ?_)
          refine lv_aload_n hx hb dL_law_627 rfl (lv_at hl 3 rfl) ?_
          refine lv_aload_n hx hb dL_law_628 rfl (lv_at hl 1 rfl) ?_
          refine lv_iload hx hb dL_law_629 (lv_at hl 5 rfl) ?_
          refine lv_iconst (v := (1 : Int32)) hx hb dL_law_631 (by decide) ?_
          refine lv_iadd hx hb dL_law_632 ?_
          refine sx_sld hx hb hX hbl hbA hS dL_law_633 h (fun v109 h => ?_)
          refine lv_aload_n hx hb dL_law_634 rfl (lv_at hl 1 rfl) ?_
          refine lv_iload hx hb dL_law_635 (lv_at hl 5 rfl) ?_
          refine lv_iconst (v := (2 : Int32)) hx hb dL_law_637 (by decide) ?_
          refine lv_iadd hx hb dL_law_638 ?_
          refine sx_sld hx hb hX hbl hbA hS dL_law_639 h (fun v110 h => ?_)
          refine lv_aload_n hx hb dL_law_640 rfl (lv_at hl 1 rfl) ?_
          refine lv_iload hx hb dL_law_641 (lv_at hl 5 rfl) ?_
          refine lv_iconst (v := (3 : Int32)) hx hb dL_law_643 (by decide) ?_
          refine lv_iadd hx hb dL_law_644 ?_
          refine sx_sld hx hb hX hbl hbA hS dL_law_645 h (fun v111 h => ?_)
          obtain ⟨j654, e_j654, h⟩ := sx_nm h
          have hj654 : ∀ (v112 : Int32) (H : Heap) (locs : List Loc) (ls : Array Slot), lv_has ls 7 [(0, .ref b), (1, .ref (sx_ad C 0 0)), (2, .ref (sx_ad C 17 0)), (3, .ref (sx_ad C 30 0)), (4, .int x4), (5, .int v107)] → sx_W C M108 H → va_S (sx_A C) s.heap H locs → j654 v112 = some 1 → W p l e room_1 s m #[Value.ref b] below meth c H locs (200 + 2 * j + 1) (10000 + 12 * j + 6) (lw_Z below #[Value.ref b] s) (F0 m 654 ls [.int v112, .int v110, .int v109, .ref (sx_ad C 17 0)]) := by
            intro v112 H locs ls hl hP hS h
            subst e_j654
            obtain ⟨v113, M114, e_v113, h⟩ := sx_bnd2 h
            refine cl_L_132 X hG hP hz hS  e_v113 hl.1 dL_law_654 ⟨Nat.le_trans (by omega) hcs.1, Nat.le_trans (by omega) hcs.2⟩ ⟨Nat.le_of_ble_eq_true rfl, Nat.le_of_ble_eq_true rfl⟩ (Nat.le_of_ble_eq_true rfl) (fun H locs hP hS => ?_)
            refine lv_istore (lv' := [(6, .int v113), (0, .ref b), (1, .ref (sx_ad C 0 0)), (2, .ref (sx_ad C 17 0)), (3, .ref (sx_ad C 30 0)), (4, .int x4), (5, .int v107)]) hx hb dL_law_657 hl (by decide) rfl (fun ls hl => ?_)
            refine lv_aload_n hx hb dL_law_659 rfl (lv_at hl 3 rfl) ?_
            obtain ⟨v115, e_v115, h⟩ := sx_bnd h
            refine cl_L_98 X hG hP hz hS  e_v115 hl.1 dL_law_660 ⟨Nat.le_trans (by omega) hcs.1, Nat.le_trans (by omega) hcs.2⟩ ⟨Nat.le_of_ble_eq_true rfl, Nat.le_of_ble_eq_true rfl⟩ (Nat.le_of_ble_eq_true rfl) (fun H locs hP hS => ?_)
            refine lv_iload hx hb dL_law_663 (lv_at hl 6 rfl) ?_
            refine lv_icmp_eq (tgt := 670) hx hb dL_law_665 (by decide) (fun c116 => ?_) (fun c116 => ?_)
            · replace h := sx_ifp h c116
              refine lv_iload hx hb dL_law_670 (lv_at hl 6 rfl) ?_
              obtain ⟨j687, e_j687, h⟩ := sx_nm h
              have hj687 : ∀ (H : Heap) (locs : List Loc) (ls : Array Slot), lv_has ls 7 [(0, .ref b), (1, .ref (sx_ad C 0 0)), (2, .ref (sx_ad C 17 0)), (3, .ref (sx_ad C 30 0)), (4, .int x4)] → sx_W C M114 H → va_S (sx_A C) s.heap H locs → j687 () = some 1 → W p l e room_1 s m #[Value.ref b] below meth c H locs (200 + 2 * j + 1) (10000 + 12 * j + 6) (lw_Z below #[Value.ref b] s) (F0 m 687 ls []) := by
                intro  H locs ls hl hP hS h
                subst e_j687
                refine lv_goto (tgt := 1666) hx hb dL_law_687 (by decide) ?_
                exact W.widen (by omega) (by omega) (hj1666 M114 H locs ls (lv_sub hl [0, 1, 2, 3, 4] rfl) hP hS h)
              clear e_j687
              refine lv_if_ne (tgt := 687) hx hb dL_law_672 (by decide) (fun c117 => ?_) (fun c117 => ?_)
              · replace h := sx_ifn h c117
                exact W.widen (by omega) (by omega) (hj687 H locs ls (lv_sub hl [1, 2, 3, 4, 5] rfl) hP hS h)
              · replace h := sx_ifp h c117
                refine lv_aload_n hx hb dL_law_675 rfl (lv_at hl 4 rfl) ?_
                refine lv_iconst (v := (0 : Int32)) hx hb dL_law_676 (by decide) ?_
                refine sx_lald X hP 30 0 1 (by decide) (fun _ _ => rfl) dL_law_677 h (fun v118 h => ?_)
                refine lv_iload hx hb dL_law_678 (lv_at hl 0 rfl) ?_
                refine lv_i2l (v := v113.toInt64) hx hb dL_law_680 rfl ?_
                refine W.lcmp hx hb dL_law_681 ?_
                refine lv_if_eq (tgt := 687) hx hb dL_law_682 (by decide) (fun c119 => ?_) (fun c119 => ?_)
                · replace h := sx_ifp h c119
                  exact W.widen (by omega) (by omega) (hj687 H locs ls (lv_sub hl [1, 2, 3, 4, 5] rfl) hP hS h)
                · replace h := sx_ifn h c119
                  refine lv_iconst (v := (0 : Int32)) hx hb dL_law_685 (by decide) ?_
                  exact absurd (Option.some.inj h) (by decide)
            · replace h := sx_ifn h c116
              refine lv_iconst (v := (0 : Int32)) hx hb dL_law_668 (by decide) ?_
              exact absurd (Option.some.inj h) (by decide)
          clear e_j654
          refine lv_if_eq (tgt := 653) hx hb dL_law_646 (by decide) (fun c120 => ?_) (fun c120 => ?_)
          · replace h := sx_ifp h c120
            refine lv_iconst (v := (0 : Int32)) hx hb dL_law_653 (by decide) ?_
            exact W.widen (by omega) (by omega) (hj654 (0 : Int32) H locs ls (lv_sub hl [1, 2, 3, 4, 5, 0] rfl) hP hS h)
          · replace h := sx_ifn h c120
            refine lv_iconst (v := (1 : Int32)) hx hb dL_law_649 (by decide) ?_
            refine lv_goto (tgt := 654) hx hb dL_law_650 (by decide) ?_
            exact W.widen (by omega) (by omega) (hj654 (1 : Int32) H locs ls (lv_sub hl [1, 2, 3, 4, 5, 0] rfl) hP hS h)
        clear e_j621
        refine lv_if_eq (tgt := 620) hx hb dL_law_613 (by decide) (fun c121 => ?_) (fun c121 => ?_)
        · replace h := sx_ifp h c121
          refine lv_iconst (v := (0 : Int32)) hx hb dL_law_620 (by decide) ?_
          exact W.widen (by omega) (by omega) (hj621 (0 : Int32) H locs ls (lv_sub hl [0, 1, 2, 3, 4] rfl) hP hS h)
        · replace h := sx_ifn h c121
          refine lv_iconst (v := (1 : Int32)) hx hb dL_law_616 (by decide) ?_
          refine lv_goto (tgt := 621) hx hb dL_law_617 (by decide) ?_
          exact W.widen (by omega) (by omega) (hj621 (1 : Int32) H locs ls (lv_sub hl [0, 1, 2, 3, 4] rfl) hP hS h)
      replace h := sx_ifn h c102
      by_cases c122 : (v2 &&& (31 : Int32)) = (10 : Int32)
      · replace h := sx_ifp h c122
        refine lv_tableIn (tgt := 690) hx hb dL_law_39 (by rw [c122]; decide) (by rw [c122]; decide) (by rw [c122]; rfl) (by decide) ?_
        refine lv_aload_n hx hb dL_law_690 rfl (lv_at hl 1 rfl) ?_
        refine lv_aload_n hx hb dL_law_691 rfl (lv_at hl 0 rfl) ?_
        refine lv_iload hx hb dL_law_692 (lv_at hl 4 rfl) ?_
        refine lv_iconst (v := (1 : Int32)) hx hb dL_law_694 (by decide) ?_
        refine lv_iadd hx hb dL_law_695 ?_
        refine sx_sld hx hb hX hbl hbA hS dL_law_696 h (fun v123 h => ?_)
        refine lv_aload_n hx hb dL_law_697 rfl (lv_at hl 0 rfl) ?_
        refine lv_iload hx hb dL_law_698 (lv_at hl 4 rfl) ?_
        refine lv_iconst (v := (2 : Int32)) hx hb dL_law_700 (by decide) ?_
        refine lv_iadd hx hb dL_law_701 ?_
        refine sx_sld hx hb hX hbl hbA hS dL_law_702 h (fun v124 h => ?_)
        refine lv_aload_n hx hb dL_law_703 rfl (lv_at hl 3 rfl) ?_
        obtain ⟨v125, M126, e_v125, h⟩ := sx_bnd2 h
        refine clW_L_133 X hT hst hG hP hz hS e_v125 hl.1 dL_law_704 ⟨Nat.le_trans (by omega) hcs.1, Nat.le_trans (by omega) hcs.2⟩ ⟨Nat.le_of_ble_eq_true rfl, Nat.le_of_ble_eq_true rfl⟩ (Nat.le_of_ble_eq_true rfl) (fun H locs hP hS => ?_)
        refine lv_istore (lv' := [(5, .int v125), (0, .ref b), (1, .ref (sx_ad C 0 0)), (2, .ref (sx_ad C 17 0)), (3, .ref (sx_ad C 30 0)), (4, .int x4)]) hx hb dL_law_707 hl (by decide) rfl (fun ls hl => ?_)
        refine lv_aload_n hx hb dL_law_709 rfl (lv_at hl 3 rfl) ?_
        refine lv_aload_n hx hb dL_law_710 rfl (lv_at hl 1 rfl) ?_
        refine lv_iload hx hb dL_law_711 (lv_at hl 5 rfl) ?_
        refine lv_iconst (v := (1 : Int32)) hx hb dL_law_713 (by decide) ?_
        refine lv_iadd hx hb dL_law_714 ?_
        refine sx_sld hx hb hX hbl hbA hS dL_law_715 h (fun v127 h => ?_)
        refine lv_aload_n hx hb dL_law_716 rfl (lv_at hl 1 rfl) ?_
        refine lv_iload hx hb dL_law_717 (lv_at hl 5 rfl) ?_
        refine lv_iconst (v := (2 : Int32)) hx hb dL_law_719 (by decide) ?_
        refine lv_iadd hx hb dL_law_720 ?_
        refine sx_sld hx hb hX hbl hbA hS dL_law_721 h (fun v128 h => ?_)
        obtain ⟨v129, M130, e_v129, h⟩ := sx_bnd2 h
        refine cl_L_135 X hG hP hz hS  e_v129 hl.1 dL_law_722 ⟨Nat.le_trans (by omega) hcs.1, Nat.le_trans (by omega) hcs.2⟩ ⟨Nat.le_of_ble_eq_true rfl, Nat.le_of_ble_eq_true rfl⟩ (Nat.le_of_ble_eq_true rfl) (fun H locs hP hS => ?_)
        refine lv_istore (lv' := [(6, .int v129), (5, .int v125), (0, .ref b), (1, .ref (sx_ad C 0 0)), (2, .ref (sx_ad C 17 0)), (3, .ref (sx_ad C 30 0)), (4, .int x4)]) hx hb dL_law_725 hl (by decide) rfl (fun ls hl => ?_)
        refine lv_aload_n hx hb dL_law_727 rfl (lv_at hl 4 rfl) ?_
        obtain ⟨v131, e_v131, h⟩ := sx_bnd h
        refine cl_L_98 X hG hP hz hS  e_v131 hl.1 dL_law_728 ⟨Nat.le_trans (by omega) hcs.1, Nat.le_trans (by omega) hcs.2⟩ ⟨Nat.le_of_ble_eq_true rfl, Nat.le_of_ble_eq_true rfl⟩ (Nat.le_of_ble_eq_true rfl) (fun H locs hP hS => ?_)
        refine lv_iload hx hb dL_law_731 (lv_at hl 1 rfl) ?_
        refine lv_icmp_eq (tgt := 738) hx hb dL_law_733 (by decide) (fun c132 => ?_) (fun c132 => ?_)
        · replace h := sx_ifp h c132
          refine lv_iload hx hb dL_law_738 (lv_at hl 1 rfl) ?_
          obtain ⟨j755, e_j755, h⟩ := sx_nm h
          have hj755 : ∀ (H : Heap) (locs : List Loc) (ls : Array Slot), lv_has ls 7 [(0, .ref b), (1, .ref (sx_ad C 0 0)), (2, .ref (sx_ad C 17 0)), (3, .ref (sx_ad C 30 0)), (4, .int x4)] → sx_W C M130 H → va_S (sx_A C) s.heap H locs → j755 () = some 1 → W p l e room_1 s m #[Value.ref b] below meth c H locs (200 + 2 * j + 1) (10000 + 12 * j + 6) (lw_Z below #[Value.ref b] s) (F0 m 755 ls []) := by
            intro  H locs ls hl hP hS h
            subst e_j755
            refine lv_goto (tgt := 1666) hx hb dL_law_755 (by decide) ?_
            exact W.widen (by omega) (by omega) (hj1666 M130 H locs ls (lv_sub hl [0, 1, 2, 3, 4] rfl) hP hS h)
          clear e_j755
          refine lv_if_ne (tgt := 755) hx hb dL_law_740 (by decide) (fun c133 => ?_) (fun c133 => ?_)
          · replace h := sx_ifn h c133
            exact W.widen (by omega) (by omega) (hj755 H locs ls (lv_sub hl [2, 3, 4, 5, 6] rfl) hP hS h)
          · replace h := sx_ifp h c133
            refine lv_aload_n hx hb dL_law_743 rfl (lv_at hl 5 rfl) ?_
            refine lv_iconst (v := (0 : Int32)) hx hb dL_law_744 (by decide) ?_
            refine sx_lald X hP 30 0 1 (by decide) (fun _ _ => rfl) dL_law_745 h (fun v134 h => ?_)
            refine lv_iload hx hb dL_law_746 (lv_at hl 0 rfl) ?_
            refine lv_i2l (v := v129.toInt64) hx hb dL_law_748 rfl ?_
            refine W.lcmp hx hb dL_law_749 ?_
            refine lv_if_eq (tgt := 755) hx hb dL_law_750 (by decide) (fun c135 => ?_) (fun c135 => ?_)
            · replace h := sx_ifp h c135
              exact W.widen (by omega) (by omega) (hj755 H locs ls (lv_sub hl [2, 3, 4, 5, 6] rfl) hP hS h)
            · replace h := sx_ifn h c135
              refine lv_iconst (v := (0 : Int32)) hx hb dL_law_753 (by decide) ?_
              exact absurd (Option.some.inj h) (by decide)
        · replace h := sx_ifn h c132
          refine lv_iconst (v := (0 : Int32)) hx hb dL_law_736 (by decide) ?_
          exact absurd (Option.some.inj h) (by decide)
      replace h := sx_ifn h c122
      by_cases c136 : (v2 &&& (31 : Int32)) = (11 : Int32)
      · replace h := sx_ifp h c136
        refine lv_tableIn (tgt := 758) hx hb dL_law_39 (by rw [c136]; decide) (by rw [c136]; decide) (by rw [c136]; rfl) (by decide) ?_
        refine lv_aload_n hx hb dL_law_758 rfl (lv_at hl 1 rfl) ?_
        refine lv_aload_n hx hb dL_law_759 rfl (lv_at hl 0 rfl) ?_
        refine lv_iload hx hb dL_law_760 (lv_at hl 4 rfl) ?_
        refine lv_iconst (v := (1 : Int32)) hx hb dL_law_762 (by decide) ?_
        refine lv_iadd hx hb dL_law_763 ?_
        refine sx_sld hx hb hX hbl hbA hS dL_law_764 h (fun v137 h => ?_)
        refine lv_aload_n hx hb dL_law_765 rfl (lv_at hl 0 rfl) ?_
        refine lv_iload hx hb dL_law_766 (lv_at hl 4 rfl) ?_
        refine lv_iconst (v := (2 : Int32)) hx hb dL_law_768 (by decide) ?_
        refine lv_iadd hx hb dL_law_769 ?_
        refine sx_sld hx hb hX hbl hbA hS dL_law_770 h (fun v138 h => ?_)
        refine lv_aload_n hx hb dL_law_771 rfl (lv_at hl 3 rfl) ?_
        obtain ⟨v139, M140, e_v139, h⟩ := sx_bnd2 h
        refine clW_L_136 X hT hst hG hP hz hS e_v139 hl.1 dL_law_772 ⟨Nat.le_trans (by omega) hcs.1, Nat.le_trans (by omega) hcs.2⟩ ⟨Nat.le_of_ble_eq_true rfl, Nat.le_of_ble_eq_true rfl⟩ (Nat.le_of_ble_eq_true rfl) (fun H locs hP hS => ?_)
        refine lv_istore (lv' := [(5, .int v139), (0, .ref b), (1, .ref (sx_ad C 0 0)), (2, .ref (sx_ad C 17 0)), (3, .ref (sx_ad C 30 0)), (4, .int x4)]) hx hb dL_law_775 hl (by decide) rfl (fun ls hl => ?_)
        refine lv_aload_n hx hb dL_law_777 rfl (lv_at hl 3 rfl) ?_
        refine lv_aload_n hx hb dL_law_778 rfl (lv_at hl 1 rfl) ?_
        refine lv_iload hx hb dL_law_779 (lv_at hl 5 rfl) ?_
        refine lv_iconst (v := (1 : Int32)) hx hb dL_law_781 (by decide) ?_
        refine lv_iadd hx hb dL_law_782 ?_
        refine sx_sld hx hb hX hbl hbA hS dL_law_783 h (fun v141 h => ?_)
        refine lv_aload_n hx hb dL_law_784 rfl (lv_at hl 1 rfl) ?_
        refine lv_iload hx hb dL_law_785 (lv_at hl 5 rfl) ?_
        refine lv_iconst (v := (2 : Int32)) hx hb dL_law_787 (by decide) ?_
        refine lv_iadd hx hb dL_law_788 ?_
        refine sx_sld hx hb hX hbl hbA hS dL_law_789 h (fun v142 h => ?_)
        obtain ⟨v143, M144, e_v143, h⟩ := sx_bnd2 h
        refine cl_L_138 X hG hP hz hS  e_v143 hl.1 dL_law_790 ⟨Nat.le_trans (by omega) hcs.1, Nat.le_trans (by omega) hcs.2⟩ ⟨Nat.le_of_ble_eq_true rfl, Nat.le_of_ble_eq_true rfl⟩ (Nat.le_of_ble_eq_true rfl) (fun H locs hP hS => ?_)
        refine lv_istore (lv' := [(6, .int v143), (5, .int v139), (0, .ref b), (1, .ref (sx_ad C 0 0)), (2, .ref (sx_ad C 17 0)), (3, .ref (sx_ad C 30 0)), (4, .int x4)]) hx hb dL_law_793 hl (by decide) rfl (fun ls hl => ?_)
        refine lv_aload_n hx hb dL_law_795 rfl (lv_at hl 4 rfl) ?_
        obtain ⟨v145, e_v145, h⟩ := sx_bnd h
        refine cl_L_98 X hG hP hz hS  e_v145 hl.1 dL_law_796 ⟨Nat.le_trans (by omega) hcs.1, Nat.le_trans (by omega) hcs.2⟩ ⟨Nat.le_of_ble_eq_true rfl, Nat.le_of_ble_eq_true rfl⟩ (Nat.le_of_ble_eq_true rfl) (fun H locs hP hS => ?_)
        refine lv_iload hx hb dL_law_799 (lv_at hl 1 rfl) ?_
        refine lv_icmp_eq (tgt := 806) hx hb dL_law_801 (by decide) (fun c146 => ?_) (fun c146 => ?_)
        · replace h := sx_ifp h c146
          refine lv_iload hx hb dL_law_806 (lv_at hl 1 rfl) ?_
          obtain ⟨j823, e_j823, h⟩ := sx_nm h
          have hj823 : ∀ (H : Heap) (locs : List Loc) (ls : Array Slot), lv_has ls 7 [(0, .ref b), (1, .ref (sx_ad C 0 0)), (2, .ref (sx_ad C 17 0)), (3, .ref (sx_ad C 30 0)), (4, .int x4)] → sx_W C M144 H → va_S (sx_A C) s.heap H locs → j823 () = some 1 → W p l e room_1 s m #[Value.ref b] below meth c H locs (200 + 2 * j + 1) (10000 + 12 * j + 6) (lw_Z below #[Value.ref b] s) (F0 m 823 ls []) := by
            intro  H locs ls hl hP hS h
            subst e_j823
            refine lv_goto (tgt := 1666) hx hb dL_law_823 (by decide) ?_
            exact W.widen (by omega) (by omega) (hj1666 M144 H locs ls (lv_sub hl [0, 1, 2, 3, 4] rfl) hP hS h)
          clear e_j823
          refine lv_if_ne (tgt := 823) hx hb dL_law_808 (by decide) (fun c147 => ?_) (fun c147 => ?_)
          · replace h := sx_ifn h c147
            exact W.widen (by omega) (by omega) (hj823 H locs ls (lv_sub hl [2, 3, 4, 5, 6] rfl) hP hS h)
          · replace h := sx_ifp h c147
            refine lv_aload_n hx hb dL_law_811 rfl (lv_at hl 5 rfl) ?_
            refine lv_iconst (v := (0 : Int32)) hx hb dL_law_812 (by decide) ?_
            refine sx_lald X hP 30 0 1 (by decide) (fun _ _ => rfl) dL_law_813 h (fun v148 h => ?_)
            refine lv_iload hx hb dL_law_814 (lv_at hl 0 rfl) ?_
            refine lv_i2l (v := v143.toInt64) hx hb dL_law_816 rfl ?_
            refine W.lcmp hx hb dL_law_817 ?_
            refine lv_if_eq (tgt := 823) hx hb dL_law_818 (by decide) (fun c149 => ?_) (fun c149 => ?_)
            · replace h := sx_ifp h c149
              exact W.widen (by omega) (by omega) (hj823 H locs ls (lv_sub hl [2, 3, 4, 5, 6] rfl) hP hS h)
            · replace h := sx_ifn h c149
              refine lv_iconst (v := (0 : Int32)) hx hb dL_law_821 (by decide) ?_
              exact absurd (Option.some.inj h) (by decide)
        · replace h := sx_ifn h c146
          refine lv_iconst (v := (0 : Int32)) hx hb dL_law_804 (by decide) ?_
          exact absurd (Option.some.inj h) (by decide)
      replace h := sx_ifn h c136
      by_cases c150 : (v2 &&& (31 : Int32)) = (12 : Int32)
      · replace h := sx_ifp h c150
        refine lv_tableIn (tgt := 826) hx hb dL_law_39 (by rw [c150]; decide) (by rw [c150]; decide) (by rw [c150]; rfl) (by decide) ?_
        refine lv_aload_n hx hb dL_law_826 rfl (lv_at hl 1 rfl) ?_
        refine lv_aload_n hx hb dL_law_827 rfl (lv_at hl 0 rfl) ?_
        refine lv_iload hx hb dL_law_828 (lv_at hl 4 rfl) ?_
        refine lv_iconst (v := (1 : Int32)) hx hb dL_law_830 (by decide) ?_
        refine lv_iadd hx hb dL_law_831 ?_
        refine sx_sld hx hb hX hbl hbA hS dL_law_832 h (fun v151 h => ?_)
        refine lv_aload_n hx hb dL_law_833 rfl (lv_at hl 0 rfl) ?_
        refine lv_iload hx hb dL_law_834 (lv_at hl 4 rfl) ?_
        refine lv_iconst (v := (2 : Int32)) hx hb dL_law_836 (by decide) ?_
        refine lv_iadd hx hb dL_law_837 ?_
        refine sx_sld hx hb hX hbl hbA hS dL_law_838 h (fun v152 h => ?_)
        refine lv_aload_n hx hb dL_law_839 rfl (lv_at hl 3 rfl) ?_
        obtain ⟨v153, M154, e_v153, h⟩ := sx_bnd2 h
        refine clW_L_139 X hT hst hG hP hz hS e_v153 hl.1 dL_law_840 ⟨Nat.le_trans (by omega) hcs.1, Nat.le_trans (by omega) hcs.2⟩ ⟨Nat.le_of_ble_eq_true rfl, Nat.le_of_ble_eq_true rfl⟩ (Nat.le_of_ble_eq_true rfl) (fun H locs hP hS => ?_)
        refine lv_istore (lv' := [(5, .int v153), (0, .ref b), (1, .ref (sx_ad C 0 0)), (2, .ref (sx_ad C 17 0)), (3, .ref (sx_ad C 30 0)), (4, .int x4)]) hx hb dL_law_843 hl (by decide) rfl (fun ls hl => ?_)
        refine lv_aload_n hx hb dL_law_845 rfl (lv_at hl 3 rfl) ?_
        refine lv_aload_n hx hb dL_law_846 rfl (lv_at hl 1 rfl) ?_
        refine lv_iload hx hb dL_law_847 (lv_at hl 5 rfl) ?_
        refine lv_iconst (v := (1 : Int32)) hx hb dL_law_849 (by decide) ?_
        refine lv_iadd hx hb dL_law_850 ?_
        refine sx_sld hx hb hX hbl hbA hS dL_law_851 h (fun v155 h => ?_)
        refine lv_aload_n hx hb dL_law_852 rfl (lv_at hl 1 rfl) ?_
        refine lv_iload hx hb dL_law_853 (lv_at hl 5 rfl) ?_
        refine lv_iconst (v := (2 : Int32)) hx hb dL_law_855 (by decide) ?_
        refine lv_iadd hx hb dL_law_856 ?_
        refine sx_sld hx hb hX hbl hbA hS dL_law_857 h (fun v156 h => ?_)
        obtain ⟨v157, M158, e_v157, h⟩ := sx_bnd2 h
        refine cl_L_141 X hG hP hz hS  e_v157 hl.1 dL_law_858 ⟨Nat.le_trans (by omega) hcs.1, Nat.le_trans (by omega) hcs.2⟩ ⟨Nat.le_of_ble_eq_true rfl, Nat.le_of_ble_eq_true rfl⟩ (Nat.le_of_ble_eq_true rfl) (fun H locs hP hS => ?_)
        refine lv_istore (lv' := [(6, .int v157), (5, .int v153), (0, .ref b), (1, .ref (sx_ad C 0 0)), (2, .ref (sx_ad C 17 0)), (3, .ref (sx_ad C 30 0)), (4, .int x4)]) hx hb dL_law_861 hl (by decide) rfl (fun ls hl => ?_)
        refine lv_aload_n hx hb dL_law_863 rfl (lv_at hl 4 rfl) ?_
        obtain ⟨v159, e_v159, h⟩ := sx_bnd h
        refine cl_L_98 X hG hP hz hS  e_v159 hl.1 dL_law_864 ⟨Nat.le_trans (by omega) hcs.1, Nat.le_trans (by omega) hcs.2⟩ ⟨Nat.le_of_ble_eq_true rfl, Nat.le_of_ble_eq_true rfl⟩ (Nat.le_of_ble_eq_true rfl) (fun H locs hP hS => ?_)
        refine lv_iload hx hb dL_law_867 (lv_at hl 1 rfl) ?_
        refine lv_icmp_eq (tgt := 874) hx hb dL_law_869 (by decide) (fun c160 => ?_) (fun c160 => ?_)
        · replace h := sx_ifp h c160
          refine lv_iload hx hb dL_law_874 (lv_at hl 1 rfl) ?_
          obtain ⟨j891, e_j891, h⟩ := sx_nm h
          have hj891 : ∀ (H : Heap) (locs : List Loc) (ls : Array Slot), lv_has ls 7 [(0, .ref b), (1, .ref (sx_ad C 0 0)), (2, .ref (sx_ad C 17 0)), (3, .ref (sx_ad C 30 0)), (4, .int x4)] → sx_W C M158 H → va_S (sx_A C) s.heap H locs → j891 () = some 1 → W p l e room_1 s m #[Value.ref b] below meth c H locs (200 + 2 * j + 1) (10000 + 12 * j + 6) (lw_Z below #[Value.ref b] s) (F0 m 891 ls []) := by
            intro  H locs ls hl hP hS h
            subst e_j891
            refine lv_goto (tgt := 1666) hx hb dL_law_891 (by decide) ?_
            exact W.widen (by omega) (by omega) (hj1666 M158 H locs ls (lv_sub hl [0, 1, 2, 3, 4] rfl) hP hS h)
          clear e_j891
          refine lv_if_ne (tgt := 891) hx hb dL_law_876 (by decide) (fun c161 => ?_) (fun c161 => ?_)
          · replace h := sx_ifn h c161
            exact W.widen (by omega) (by omega) (hj891 H locs ls (lv_sub hl [2, 3, 4, 5, 6] rfl) hP hS h)
          · replace h := sx_ifp h c161
            refine lv_aload_n hx hb dL_law_879 rfl (lv_at hl 5 rfl) ?_
            refine lv_iconst (v := (0 : Int32)) hx hb dL_law_880 (by decide) ?_
            refine sx_lald X hP 30 0 1 (by decide) (fun _ _ => rfl) dL_law_881 h (fun v162 h => ?_)
            refine lv_iload hx hb dL_law_882 (lv_at hl 0 rfl) ?_
            refine lv_i2l (v := v157.toInt64) hx hb dL_law_884 rfl ?_
            refine W.lcmp hx hb dL_law_885 ?_
            refine lv_if_eq (tgt := 891) hx hb dL_law_886 (by decide) (fun c163 => ?_) (fun c163 => ?_)
            · replace h := sx_ifp h c163
              exact W.widen (by omega) (by omega) (hj891 H locs ls (lv_sub hl [2, 3, 4, 5, 6] rfl) hP hS h)
            · replace h := sx_ifn h c163
              refine lv_iconst (v := (0 : Int32)) hx hb dL_law_889 (by decide) ?_
              exact absurd (Option.some.inj h) (by decide)
        · replace h := sx_ifn h c160
          refine lv_iconst (v := (0 : Int32)) hx hb dL_law_872 (by decide) ?_
          exact absurd (Option.some.inj h) (by decide)
      replace h := sx_ifn h c150
      by_cases c164 : (v2 &&& (31 : Int32)) = (13 : Int32)
      · replace h := sx_ifp h c164
        refine lv_tableIn (tgt := 894) hx hb dL_law_39 (by rw [c164]; decide) (by rw [c164]; decide) (by rw [c164]; rfl) (by decide) ?_
        refine lv_aload_n hx hb dL_law_894 rfl (lv_at hl 1 rfl) ?_
        refine lv_aload_n hx hb dL_law_895 rfl (lv_at hl 0 rfl) ?_
        refine lv_iload hx hb dL_law_896 (lv_at hl 4 rfl) ?_
        refine lv_iconst (v := (1 : Int32)) hx hb dL_law_898 (by decide) ?_
        refine lv_iadd hx hb dL_law_899 ?_
        refine sx_sld hx hb hX hbl hbA hS dL_law_900 h (fun v165 h => ?_)
        refine lv_aload_n hx hb dL_law_901 rfl (lv_at hl 0 rfl) ?_
        refine lv_iload hx hb dL_law_902 (lv_at hl 4 rfl) ?_
        refine lv_iconst (v := (2 : Int32)) hx hb dL_law_904 (by decide) ?_
        refine lv_iadd hx hb dL_law_905 ?_
        refine sx_sld hx hb hX hbl hbA hS dL_law_906 h (fun v166 h => ?_)
        obtain ⟨j915, e_j915, h⟩ := sx_nm h
        have hj915 : ∀ (v167 : Int32) (H : Heap) (locs : List Loc) (ls : Array Slot), lv_has ls 7 [(0, .ref b), (1, .ref (sx_ad C 0 0)), (2, .ref (sx_ad C 17 0)), (3, .ref (sx_ad C 30 0)), (4, .int x4)] → sx_W C M H → va_S (sx_A C) s.heap H locs → j915 v167 = some 1 → W p l e room_1 s m #[Value.ref b] below meth c H locs (200 + 2 * j) (10000 + 12 * j) (lw_Z below #[Value.ref b] s) (F0 m 915 ls [.int v167, .int v165, .ref (sx_ad C 0 0)]) := by
          intro v167 H locs ls hl hP hS h
          subst e_j915
          refine lv_aload_n hx hb dL_law_915 rfl (lv_at hl 3 rfl) ?_
          obtain ⟨v168, M169, e_v168, h⟩ := sx_bnd2 h
          refine clW_L_142 X hT hst hG hP hz hS e_v168 hl.1 dL_law_916 ⟨Nat.le_trans (by omega) hcs.1, Nat.le_trans (by omega) hcs.2⟩ ⟨Nat.le_of_ble_eq_true rfl, Nat.le_of_ble_eq_true rfl⟩ (Nat.le_of_ble_eq_true rfl) (fun H locs hP hS => ?_)
          refine lv_istore (lv' := [(5, .int v168), (0, .ref b), (1, .ref (sx_ad C 0 0)), (2, .ref (sx_ad C 17 0)), (3, .ref (sx_ad C 30 0)), (4, .int x4)]) hx hb dL_law_919 hl (by decide) rfl (fun ls hl => ?_)
          refine lv_aload_n hx hb dL_law_921 rfl (lv_at hl 3 rfl) ?_
          refine lv_aload_n hx hb dL_law_922 rfl (lv_at hl 1 rfl) ?_
          refine lv_iload hx hb dL_law_923 (lv_at hl 5 rfl) ?_
          refine lv_iconst (v := (1 : Int32)) hx hb dL_law_925 (by decide) ?_
          refine lv_iadd hx hb dL_law_926 ?_
          refine sx_sld hx hb hX hbl hbA hS dL_law_927 h (fun v170 h => ?_)
          refine lv_aload_n hx hb dL_law_928 rfl (lv_at hl 1 rfl) ?_
          refine lv_iload hx hb dL_law_929 (lv_at hl 5 rfl) ?_
          refine lv_iconst (v := (2 : Int32)) hx hb dL_law_931 (by decide) ?_
          refine lv_iadd hx hb dL_law_932 ?_
          refine sx_sld hx hb hX hbl hbA hS dL_law_933 h (fun v171 h => ?_)
          obtain ⟨j942, e_j942, h⟩ := sx_nm h
          have hj942 : ∀ (v172 : Int32) (H : Heap) (locs : List Loc) (ls : Array Slot), lv_has ls 7 [(0, .ref b), (1, .ref (sx_ad C 0 0)), (2, .ref (sx_ad C 17 0)), (3, .ref (sx_ad C 30 0)), (4, .int x4), (5, .int v168)] → sx_W C M169 H → va_S (sx_A C) s.heap H locs → j942 v172 = some 1 → W p l e room_1 s m #[Value.ref b] below meth c H locs (200 + 2 * j + 1) (10000 + 12 * j + 6) (lw_Z below #[Value.ref b] s) (F0 m 942 ls [.int v172, .int v170, .ref (sx_ad C 17 0)]) := by
            intro v172 H locs ls hl hP hS h
            subst e_j942
            obtain ⟨v173, M174, e_v173, h⟩ := sx_bnd2 h
            refine cl_L_145 X hG hP hz hS  e_v173 hl.1 dL_law_942 ⟨Nat.le_trans (by omega) hcs.1, Nat.le_trans (by omega) hcs.2⟩ ⟨Nat.le_of_ble_eq_true rfl, Nat.le_of_ble_eq_true rfl⟩ (Nat.le_of_ble_eq_true rfl) (fun H locs hP hS => ?_)
            refine lv_istore (lv' := [(6, .int v173), (0, .ref b), (1, .ref (sx_ad C 0 0)), (2, .ref (sx_ad C 17 0)), (3, .ref (sx_ad C 30 0)), (4, .int x4), (5, .int v168)]) hx hb dL_law_945 hl (by decide) rfl (fun ls hl => ?_)
            refine lv_aload_n hx hb dL_law_947 rfl (lv_at hl 3 rfl) ?_
            obtain ⟨v175, e_v175, h⟩ := sx_bnd h
            refine cl_L_98 X hG hP hz hS  e_v175 hl.1 dL_law_948 ⟨Nat.le_trans (by omega) hcs.1, Nat.le_trans (by omega) hcs.2⟩ ⟨Nat.le_of_ble_eq_true rfl, Nat.le_of_ble_eq_true rfl⟩ (Nat.le_of_ble_eq_true rfl) (fun H locs hP hS => ?_)
            refine lv_iload hx hb dL_law_951 (lv_at hl 6 rfl) ?_
            refine lv_icmp_eq (tgt := 958) hx hb dL_law_953 (by decide) (fun c176 => ?_) (fun c176 => ?_)
            · replace h := sx_ifp h c176
              refine lv_iload hx hb dL_law_958 (lv_at hl 6 rfl) ?_
              obtain ⟨j975, e_j975, h⟩ := sx_nm h
              have hj975 : ∀ (H : Heap) (locs : List Loc) (ls : Array Slot), lv_has ls 7 [(0, .ref b), (1, .ref (sx_ad C 0 0)), (2, .ref (sx_ad C 17 0)), (3, .ref (sx_ad C 30 0)), (4, .int x4)] → sx_W C M174 H → va_S (sx_A C) s.heap H locs → j975 () = some 1 → W p l e room_1 s m #[Value.ref b] below meth c H locs (200 + 2 * j + 1) (10000 + 12 * j + 6) (lw_Z below #[Value.ref b] s) (F0 m 975 ls []) := by
                intro  H locs ls hl hP hS h
                subst e_j975
                refine lv_goto (tgt := 1666) hx hb dL_law_975 (by decide) ?_
                exact W.widen (by omega) (by omega) (hj1666 M174 H locs ls (lv_sub hl [0, 1, 2, 3, 4] rfl) hP hS h)
              clear e_j975
              refine lv_if_ne (tgt := 975) hx hb dL_law_960 (by decide) (fun c177 => ?_) (fun c177 => ?_)
              · replace h := sx_ifn h c177
                exact W.widen (by omega) (by omega) (hj975 H locs ls (lv_sub hl [1, 2, 3, 4, 5] rfl) hP hS h)
              · replace h := sx_ifp h c177
                refine lv_aload_n hx hb dL_law_963 rfl (lv_at hl 4 rfl) ?_
                refine lv_iconst (v := (0 : Int32)) hx hb dL_law_964 (by decide) ?_
                refine sx_lald X hP 30 0 1 (by decide) (fun _ _ => rfl) dL_law_965 h (fun v178 h => ?_)
                refine lv_iload hx hb dL_law_966 (lv_at hl 0 rfl) ?_
                refine lv_i2l (v := v173.toInt64) hx hb dL_law_968 rfl ?_
                refine W.lcmp hx hb dL_law_969 ?_
                refine lv_if_eq (tgt := 975) hx hb dL_law_970 (by decide) (fun c179 => ?_) (fun c179 => ?_)
                · replace h := sx_ifp h c179
                  exact W.widen (by omega) (by omega) (hj975 H locs ls (lv_sub hl [1, 2, 3, 4, 5] rfl) hP hS h)
                · replace h := sx_ifn h c179
                  refine lv_iconst (v := (0 : Int32)) hx hb dL_law_973 (by decide) ?_
                  exact absurd (Option.some.inj h) (by decide)
            · replace h := sx_ifn h c176
              refine lv_iconst (v := (0 : Int32)) hx hb dL_law_956 (by decide) ?_
              exact absurd (Option.some.inj h) (by decide)
          clear e_j942
          refine lv_if_eq (tgt := 941) hx hb dL_law_934 (by decide) (fun c180 => ?_) (fun c180 => ?_)
          · replace h := sx_ifp h c180
            refine lv_iconst (v := (0 : Int32)) hx hb dL_law_941 (by decide) ?_
            exact W.widen (by omega) (by omega) (hj942 (0 : Int32) H locs ls (lv_sub hl [1, 2, 3, 4, 5, 0] rfl) hP hS h)
          · replace h := sx_ifn h c180
            refine lv_iconst (v := (1 : Int32)) hx hb dL_law_937 (by decide) ?_
            refine lv_goto (tgt := 942) hx hb dL_law_938 (by decide) ?_
            exact W.widen (by omega) (by omega) (hj942 (1 : Int32) H locs ls (lv_sub hl [1, 2, 3, 4, 5, 0] rfl) hP hS h)
        clear e_j915
        refine lv_if_eq (tgt := 914) hx hb dL_law_907 (by decide) (fun c181 => ?_) (fun c181 => ?_)
        · replace h := sx_ifp h c181
          refine lv_iconst (v := (0 : Int32)) hx hb dL_law_914 (by decide) ?_
          exact W.widen (by omega) (by omega) (hj915 (0 : Int32) H locs ls (lv_sub hl [0, 1, 2, 3, 4] rfl) hP hS h)
        · replace h := sx_ifn h c181
          refine lv_iconst (v := (1 : Int32)) hx hb dL_law_910 (by decide) ?_
          refine lv_goto (tgt := 915) hx hb dL_law_911 (by decide) ?_
          exact W.widen (by omega) (by omega) (hj915 (1 : Int32) H locs ls (lv_sub hl [0, 1, 2, 3, 4] rfl) hP hS h)
      replace h := sx_ifn h c164
      by_cases c182 : (v2 &&& (31 : Int32)) = (14 : Int32)
      · replace h := sx_ifp h c182
        refine lv_tableIn (tgt := 978) hx hb dL_law_39 (by rw [c182]; decide) (by rw [c182]; decide) (by rw [c182]; rfl) (by decide) ?_
        refine lv_aload_n hx hb dL_law_978 rfl (lv_at hl 1 rfl) ?_
        refine lv_aload_n hx hb dL_law_979 rfl (lv_at hl 3 rfl) ?_
        obtain ⟨v183, M184, e_v183, h⟩ := sx_bnd2 h
        refine clW_L_146 X hT hst hG hP hz hS e_v183 hl.1 dL_law_980 ⟨Nat.le_trans (by omega) hcs.1, Nat.le_trans (by omega) hcs.2⟩ ⟨Nat.le_of_ble_eq_true rfl, Nat.le_of_ble_eq_true rfl⟩ (Nat.le_of_ble_eq_true rfl) (fun H locs hP hS => ?_)
        refine lv_istore (lv' := [(5, .int v183), (0, .ref b), (1, .ref (sx_ad C 0 0)), (2, .ref (sx_ad C 17 0)), (3, .ref (sx_ad C 30 0)), (4, .int x4)]) hx hb dL_law_983 hl (by decide) rfl (fun ls hl => ?_)
        refine lv_aload_n hx hb dL_law_985 rfl (lv_at hl 3 rfl) ?_
        obtain ⟨v185, M186, e_v185, h⟩ := sx_bnd2 h
        refine cl_L_148 X hG hP hz hS  e_v185 hl.1 dL_law_986 ⟨Nat.le_trans (by omega) hcs.1, Nat.le_trans (by omega) hcs.2⟩ ⟨Nat.le_of_ble_eq_true rfl, Nat.le_of_ble_eq_true rfl⟩ (Nat.le_of_ble_eq_true rfl) (fun H locs hP hS => ?_)
        refine lv_istore (lv' := [(6, .int v185), (5, .int v183), (0, .ref b), (1, .ref (sx_ad C 0 0)), (2, .ref (sx_ad C 17 0)), (3, .ref (sx_ad C 30 0)), (4, .int x4)]) hx hb dL_law_989 hl (by decide) rfl (fun ls hl => ?_)
        refine lv_aload_n hx hb dL_law_991 rfl (lv_at hl 4 rfl) ?_
        obtain ⟨v187, e_v187, h⟩ := sx_bnd h
        refine cl_L_98 X hG hP hz hS  e_v187 hl.1 dL_law_992 ⟨Nat.le_trans (by omega) hcs.1, Nat.le_trans (by omega) hcs.2⟩ ⟨Nat.le_of_ble_eq_true rfl, Nat.le_of_ble_eq_true rfl⟩ (Nat.le_of_ble_eq_true rfl) (fun H locs hP hS => ?_)
        refine lv_iload hx hb dL_law_995 (lv_at hl 1 rfl) ?_
        refine lv_icmp_eq (tgt := 1002) hx hb dL_law_997 (by decide) (fun c188 => ?_) (fun c188 => ?_)
        · replace h := sx_ifp h c188
          refine lv_iload hx hb dL_law_1002 (lv_at hl 1 rfl) ?_
          obtain ⟨j1019, e_j1019, h⟩ := sx_nm h
          have hj1019 : ∀ (H : Heap) (locs : List Loc) (ls : Array Slot), lv_has ls 7 [(0, .ref b), (1, .ref (sx_ad C 0 0)), (2, .ref (sx_ad C 17 0)), (3, .ref (sx_ad C 30 0)), (4, .int x4)] → sx_W C M186 H → va_S (sx_A C) s.heap H locs → j1019 () = some 1 → W p l e room_1 s m #[Value.ref b] below meth c H locs (200 + 2 * j + 1) (10000 + 12 * j + 6) (lw_Z below #[Value.ref b] s) (F0 m 1019 ls []) := by
            intro  H locs ls hl hP hS h
            subst e_j1019
            refine lv_goto (tgt := 1666) hx hb dL_law_1019 (by decide) ?_
            exact W.widen (by omega) (by omega) (hj1666 M186 H locs ls (lv_sub hl [0, 1, 2, 3, 4] rfl) hP hS h)
          clear e_j1019
          refine lv_if_ne (tgt := 1019) hx hb dL_law_1004 (by decide) (fun c189 => ?_) (fun c189 => ?_)
          · replace h := sx_ifn h c189
            exact W.widen (by omega) (by omega) (hj1019 H locs ls (lv_sub hl [2, 3, 4, 5, 6] rfl) hP hS h)
          · replace h := sx_ifp h c189
            refine lv_aload_n hx hb dL_law_1007 rfl (lv_at hl 5 rfl) ?_
            refine lv_iconst (v := (0 : Int32)) hx hb dL_law_1008 (by decide) ?_
            refine sx_lald X hP 30 0 1 (by decide) (fun _ _ => rfl) dL_law_1009 h (fun v190 h => ?_)
            refine lv_iload hx hb dL_law_1010 (lv_at hl 0 rfl) ?_
            refine lv_i2l (v := v185.toInt64) hx hb dL_law_1012 rfl ?_
            refine W.lcmp hx hb dL_law_1013 ?_
            refine lv_if_eq (tgt := 1019) hx hb dL_law_1014 (by decide) (fun c191 => ?_) (fun c191 => ?_)
            · replace h := sx_ifp h c191
              exact W.widen (by omega) (by omega) (hj1019 H locs ls (lv_sub hl [2, 3, 4, 5, 6] rfl) hP hS h)
            · replace h := sx_ifn h c191
              refine lv_iconst (v := (0 : Int32)) hx hb dL_law_1017 (by decide) ?_
              exact absurd (Option.some.inj h) (by decide)
        · replace h := sx_ifn h c188
          refine lv_iconst (v := (0 : Int32)) hx hb dL_law_1000 (by decide) ?_
          exact absurd (Option.some.inj h) (by decide)
      replace h := sx_ifn h c182
      by_cases c192 : (v2 &&& (31 : Int32)) = (15 : Int32)
      · replace h := sx_ifp h c192
        refine lv_tableIn (tgt := 1022) hx hb dL_law_39 (by rw [c192]; decide) (by rw [c192]; decide) (by rw [c192]; rfl) (by decide) ?_
        refine lv_aload_n hx hb dL_law_1022 rfl (lv_at hl 1 rfl) ?_
        refine lv_aload_n hx hb dL_law_1023 rfl (lv_at hl 3 rfl) ?_
        obtain ⟨v193, M194, e_v193, h⟩ := sx_bnd2 h
        refine clW_L_149 X hT hst hG hP hz hS e_v193 hl.1 dL_law_1024 ⟨Nat.le_trans (by omega) hcs.1, Nat.le_trans (by omega) hcs.2⟩ ⟨Nat.le_of_ble_eq_true rfl, Nat.le_of_ble_eq_true rfl⟩ (Nat.le_of_ble_eq_true rfl) (fun H locs hP hS => ?_)
        refine lv_istore (lv' := [(5, .int v193), (0, .ref b), (1, .ref (sx_ad C 0 0)), (2, .ref (sx_ad C 17 0)), (3, .ref (sx_ad C 30 0)), (4, .int x4)]) hx hb dL_law_1027 hl (by decide) rfl (fun ls hl => ?_)
        refine lv_aload_n hx hb dL_law_1029 rfl (lv_at hl 3 rfl) ?_
        obtain ⟨v195, M196, e_v195, h⟩ := sx_bnd2 h
        refine cl_L_151 X hG hP hz hS  e_v195 hl.1 dL_law_1030 ⟨Nat.le_trans (by omega) hcs.1, Nat.le_trans (by omega) hcs.2⟩ ⟨Nat.le_of_ble_eq_true rfl, Nat.le_of_ble_eq_true rfl⟩ (Nat.le_of_ble_eq_true rfl) (fun H locs hP hS => ?_)
        refine lv_istore (lv' := [(6, .int v195), (5, .int v193), (0, .ref b), (1, .ref (sx_ad C 0 0)), (2, .ref (sx_ad C 17 0)), (3, .ref (sx_ad C 30 0)), (4, .int x4)]) hx hb dL_law_1033 hl (by decide) rfl (fun ls hl => ?_)
        refine lv_aload_n hx hb dL_law_1035 rfl (lv_at hl 4 rfl) ?_
        obtain ⟨v197, e_v197, h⟩ := sx_bnd h
        refine cl_L_98 X hG hP hz hS  e_v197 hl.1 dL_law_1036 ⟨Nat.le_trans (by omega) hcs.1, Nat.le_trans (by omega) hcs.2⟩ ⟨Nat.le_of_ble_eq_true rfl, Nat.le_of_ble_eq_true rfl⟩ (Nat.le_of_ble_eq_true rfl) (fun H locs hP hS => ?_)
        refine lv_iload hx hb dL_law_1039 (lv_at hl 1 rfl) ?_
        refine lv_icmp_eq (tgt := 1046) hx hb dL_law_1041 (by decide) (fun c198 => ?_) (fun c198 => ?_)
        · replace h := sx_ifp h c198
          refine lv_iload hx hb dL_law_1046 (lv_at hl 1 rfl) ?_
          obtain ⟨j1063, e_j1063, h⟩ := sx_nm h
          have hj1063 : ∀ (H : Heap) (locs : List Loc) (ls : Array Slot), lv_has ls 7 [(0, .ref b), (1, .ref (sx_ad C 0 0)), (2, .ref (sx_ad C 17 0)), (3, .ref (sx_ad C 30 0)), (4, .int x4)] → sx_W C M196 H → va_S (sx_A C) s.heap H locs → j1063 () = some 1 → W p l e room_1 s m #[Value.ref b] below meth c H locs (200 + 2 * j + 1) (10000 + 12 * j + 6) (lw_Z below #[Value.ref b] s) (F0 m 1063 ls []) := by
            intro  H locs ls hl hP hS h
            subst e_j1063
            refine lv_goto (tgt := 1666) hx hb dL_law_1063 (by decide) ?_
            exact W.widen (by omega) (by omega) (hj1666 M196 H locs ls (lv_sub hl [0, 1, 2, 3, 4] rfl) hP hS h)
          clear e_j1063
          refine lv_if_ne (tgt := 1063) hx hb dL_law_1048 (by decide) (fun c199 => ?_) (fun c199 => ?_)
          · replace h := sx_ifn h c199
            exact W.widen (by omega) (by omega) (hj1063 H locs ls (lv_sub hl [2, 3, 4, 5, 6] rfl) hP hS h)
          · replace h := sx_ifp h c199
            refine lv_aload_n hx hb dL_law_1051 rfl (lv_at hl 5 rfl) ?_
            refine lv_iconst (v := (0 : Int32)) hx hb dL_law_1052 (by decide) ?_
            refine sx_lald X hP 30 0 1 (by decide) (fun _ _ => rfl) dL_law_1053 h (fun v200 h => ?_)
            refine lv_iload hx hb dL_law_1054 (lv_at hl 0 rfl) ?_
            refine lv_i2l (v := v195.toInt64) hx hb dL_law_1056 rfl ?_
            refine W.lcmp hx hb dL_law_1057 ?_
            refine lv_if_eq (tgt := 1063) hx hb dL_law_1058 (by decide) (fun c201 => ?_) (fun c201 => ?_)
            · replace h := sx_ifp h c201
              exact W.widen (by omega) (by omega) (hj1063 H locs ls (lv_sub hl [2, 3, 4, 5, 6] rfl) hP hS h)
            · replace h := sx_ifn h c201
              refine lv_iconst (v := (0 : Int32)) hx hb dL_law_1061 (by decide) ?_
              exact absurd (Option.some.inj h) (by decide)
        · replace h := sx_ifn h c198
          refine lv_iconst (v := (0 : Int32)) hx hb dL_law_1044 (by decide) ?_
          exact absurd (Option.some.inj h) (by decide)
      replace h := sx_ifn h c192
      by_cases c202 : (v2 &&& (31 : Int32)) = (16 : Int32)
      · replace h := sx_ifp h c202
        refine lv_tableIn (tgt := 1066) hx hb dL_law_39 (by rw [c202]; decide) (by rw [c202]; decide) (by rw [c202]; rfl) (by decide) ?_
        refine lv_aload_n hx hb dL_law_1066 rfl (lv_at hl 1 rfl) ?_
        refine lv_aload_n hx hb dL_law_1067 rfl (lv_at hl 3 rfl) ?_
        obtain ⟨v203, M204, e_v203, h⟩ := sx_bnd2 h
        refine clW_L_152 X hT hst hG hP hz hS e_v203 hl.1 dL_law_1068 ⟨Nat.le_trans (by omega) hcs.1, Nat.le_trans (by omega) hcs.2⟩ ⟨Nat.le_of_ble_eq_true rfl, Nat.le_of_ble_eq_true rfl⟩ (Nat.le_of_ble_eq_true rfl) (fun H locs hP hS => ?_)
        refine lv_istore (lv' := [(5, .int v203), (0, .ref b), (1, .ref (sx_ad C 0 0)), (2, .ref (sx_ad C 17 0)), (3, .ref (sx_ad C 30 0)), (4, .int x4)]) hx hb dL_law_1071 hl (by decide) rfl (fun ls hl => ?_)
        refine lv_aload_n hx hb dL_law_1073 rfl (lv_at hl 3 rfl) ?_
        obtain ⟨v205, M206, e_v205, h⟩ := sx_bnd2 h
        refine cl_L_154 X hG hP hz hS  e_v205 hl.1 dL_law_1074 ⟨Nat.le_trans (by omega) hcs.1, Nat.le_trans (by omega) hcs.2⟩ ⟨Nat.le_of_ble_eq_true rfl, Nat.le_of_ble_eq_true rfl⟩ (Nat.le_of_ble_eq_true rfl) (fun H locs hP hS => ?_)
        refine lv_istore (lv' := [(6, .int v205), (5, .int v203), (0, .ref b), (1, .ref (sx_ad C 0 0)), (2, .ref (sx_ad C 17 0)), (3, .ref (sx_ad C 30 0)), (4, .int x4)]) hx hb dL_law_1077 hl (by decide) rfl (fun ls hl => ?_)
        refine lv_aload_n hx hb dL_law_1079 rfl (lv_at hl 4 rfl) ?_
        obtain ⟨v207, e_v207, h⟩ := sx_bnd h
        refine cl_L_98 X hG hP hz hS  e_v207 hl.1 dL_law_1080 ⟨Nat.le_trans (by omega) hcs.1, Nat.le_trans (by omega) hcs.2⟩ ⟨Nat.le_of_ble_eq_true rfl, Nat.le_of_ble_eq_true rfl⟩ (Nat.le_of_ble_eq_true rfl) (fun H locs hP hS => ?_)
        refine lv_iload hx hb dL_law_1083 (lv_at hl 1 rfl) ?_
        refine lv_icmp_eq (tgt := 1090) hx hb dL_law_1085 (by decide) (fun c208 => ?_) (fun c208 => ?_)
        · replace h := sx_ifp h c208
          refine lv_iload hx hb dL_law_1090 (lv_at hl 1 rfl) ?_
          obtain ⟨j1107, e_j1107, h⟩ := sx_nm h
          have hj1107 : ∀ (H : Heap) (locs : List Loc) (ls : Array Slot), lv_has ls 7 [(0, .ref b), (1, .ref (sx_ad C 0 0)), (2, .ref (sx_ad C 17 0)), (3, .ref (sx_ad C 30 0)), (4, .int x4)] → sx_W C M206 H → va_S (sx_A C) s.heap H locs → j1107 () = some 1 → W p l e room_1 s m #[Value.ref b] below meth c H locs (200 + 2 * j + 1) (10000 + 12 * j + 6) (lw_Z below #[Value.ref b] s) (F0 m 1107 ls []) := by
            intro  H locs ls hl hP hS h
            subst e_j1107
            refine lv_goto (tgt := 1666) hx hb dL_law_1107 (by decide) ?_
            exact W.widen (by omega) (by omega) (hj1666 M206 H locs ls (lv_sub hl [0, 1, 2, 3, 4] rfl) hP hS h)
          clear e_j1107
          refine lv_if_ne (tgt := 1107) hx hb dL_law_1092 (by decide) (fun c209 => ?_) (fun c209 => ?_)
          · replace h := sx_ifn h c209
            exact W.widen (by omega) (by omega) (hj1107 H locs ls (lv_sub hl [2, 3, 4, 5, 6] rfl) hP hS h)
          · replace h := sx_ifp h c209
            refine lv_aload_n hx hb dL_law_1095 rfl (lv_at hl 5 rfl) ?_
            refine lv_iconst (v := (0 : Int32)) hx hb dL_law_1096 (by decide) ?_
            refine sx_lald X hP 30 0 1 (by decide) (fun _ _ => rfl) dL_law_1097 h (fun v210 h => ?_)
            refine lv_iload hx hb dL_law_1098 (lv_at hl 0 rfl) ?_
            refine lv_i2l (v := v205.toInt64) hx hb dL_law_1100 rfl ?_
            refine W.lcmp hx hb dL_law_1101 ?_
            refine lv_if_eq (tgt := 1107) hx hb dL_law_1102 (by decide) (fun c211 => ?_) (fun c211 => ?_)
            · replace h := sx_ifp h c211
              exact W.widen (by omega) (by omega) (hj1107 H locs ls (lv_sub hl [2, 3, 4, 5, 6] rfl) hP hS h)
            · replace h := sx_ifn h c211
              refine lv_iconst (v := (0 : Int32)) hx hb dL_law_1105 (by decide) ?_
              exact absurd (Option.some.inj h) (by decide)
        · replace h := sx_ifn h c208
          refine lv_iconst (v := (0 : Int32)) hx hb dL_law_1088 (by decide) ?_
          exact absurd (Option.some.inj h) (by decide)
      replace h := sx_ifn h c202
      by_cases c212 : (v2 &&& (31 : Int32)) = (17 : Int32)
      · replace h := sx_ifp h c212
        refine lv_tableIn (tgt := 1110) hx hb dL_law_39 (by rw [c212]; decide) (by rw [c212]; decide) (by rw [c212]; rfl) (by decide) ?_
        refine lv_aload_n hx hb dL_law_1110 rfl (lv_at hl 1 rfl) ?_
        refine lv_aload_n hx hb dL_law_1111 rfl (lv_at hl 0 rfl) ?_
        refine lv_iload hx hb dL_law_1112 (lv_at hl 4 rfl) ?_
        refine lv_iconst (v := (1 : Int32)) hx hb dL_law_1114 (by decide) ?_
        refine lv_iadd hx hb dL_law_1115 ?_
        refine sx_sld hx hb hX hbl hbA hS dL_law_1116 h (fun v213 h => ?_)
        refine lv_aload_n hx hb dL_law_1117 rfl (lv_at hl 0 rfl) ?_
        refine lv_iload hx hb dL_law_1118 (lv_at hl 4 rfl) ?_
        refine lv_iconst (v := (2 : Int32)) hx hb dL_law_1120 (by decide) ?_
        refine lv_iadd hx hb dL_law_1121 ?_
        refine sx_sld hx hb hX hbl hbA hS dL_law_1122 h (fun v214 h => ?_)
        refine lv_aload_n hx hb dL_law_1123 rfl (lv_at hl 3 rfl) ?_
        obtain ⟨v215, M216, e_v215, h⟩ := sx_bnd2 h
        refine clW_L_155 X hT hst hG hP hz hS e_v215 hl.1 dL_law_1124 ⟨Nat.le_trans (by omega) hcs.1, Nat.le_trans (by omega) hcs.2⟩ ⟨Nat.le_of_ble_eq_true rfl, Nat.le_of_ble_eq_true rfl⟩ (Nat.le_of_ble_eq_true rfl) (fun H locs hP hS => ?_)
        refine lv_istore (lv' := [(5, .int v215), (0, .ref b), (1, .ref (sx_ad C 0 0)), (2, .ref (sx_ad C 17 0)), (3, .ref (sx_ad C 30 0)), (4, .int x4)]) hx hb dL_law_1127 hl (by decide) rfl (fun ls hl => ?_)
        refine lv_aload_n hx hb dL_law_1129 rfl (lv_at hl 3 rfl) ?_
        refine lv_aload_n hx hb dL_law_1130 rfl (lv_at hl 1 rfl) ?_
        refine lv_iload hx hb dL_law_1131 (lv_at hl 5 rfl) ?_
        refine lv_iconst (v := (1 : Int32)) hx hb dL_law_1133 (by decide) ?_
        refine lv_iadd hx hb dL_law_1134 ?_
        refine sx_sld hx hb hX hbl hbA hS dL_law_1135 h (fun v217 h => ?_)
        refine lv_aload_n hx hb dL_law_1136 rfl (lv_at hl 1 rfl) ?_
        refine lv_iload hx hb dL_law_1137 (lv_at hl 5 rfl) ?_
        refine lv_iconst (v := (2 : Int32)) hx hb dL_law_1139 (by decide) ?_
        refine lv_iadd hx hb dL_law_1140 ?_
        refine sx_sld hx hb hX hbl hbA hS dL_law_1141 h (fun v218 h => ?_)
        obtain ⟨v219, M220, e_v219, h⟩ := sx_bnd2 h
        refine cl_L_157 X hG hP hz hS  e_v219 hl.1 dL_law_1142 ⟨Nat.le_trans (by omega) hcs.1, Nat.le_trans (by omega) hcs.2⟩ ⟨Nat.le_of_ble_eq_true rfl, Nat.le_of_ble_eq_true rfl⟩ (Nat.le_of_ble_eq_true rfl) (fun H locs hP hS => ?_)
        refine lv_istore (lv' := [(6, .int v219), (5, .int v215), (0, .ref b), (1, .ref (sx_ad C 0 0)), (2, .ref (sx_ad C 17 0)), (3, .ref (sx_ad C 30 0)), (4, .int x4)]) hx hb dL_law_1145 hl (by decide) rfl (fun ls hl => ?_)
        refine lv_aload_n hx hb dL_law_1147 rfl (lv_at hl 4 rfl) ?_
        obtain ⟨v221, e_v221, h⟩ := sx_bnd h
        refine cl_L_98 X hG hP hz hS  e_v221 hl.1 dL_law_1148 ⟨Nat.le_trans (by omega) hcs.1, Nat.le_trans (by omega) hcs.2⟩ ⟨Nat.le_of_ble_eq_true rfl, Nat.le_of_ble_eq_true rfl⟩ (Nat.le_of_ble_eq_true rfl) (fun H locs hP hS => ?_)
        refine lv_iload hx hb dL_law_1151 (lv_at hl 1 rfl) ?_
        refine lv_icmp_eq (tgt := 1158) hx hb dL_law_1153 (by decide) (fun c222 => ?_) (fun c222 => ?_)
        · replace h := sx_ifp h c222
          refine lv_iload hx hb dL_law_1158 (lv_at hl 1 rfl) ?_
          obtain ⟨j1175, e_j1175, h⟩ := sx_nm h
          have hj1175 : ∀ (H : Heap) (locs : List Loc) (ls : Array Slot), lv_has ls 7 [(0, .ref b), (1, .ref (sx_ad C 0 0)), (2, .ref (sx_ad C 17 0)), (3, .ref (sx_ad C 30 0)), (4, .int x4)] → sx_W C M220 H → va_S (sx_A C) s.heap H locs → j1175 () = some 1 → W p l e room_1 s m #[Value.ref b] below meth c H locs (200 + 2 * j + 1) (10000 + 12 * j + 6) (lw_Z below #[Value.ref b] s) (F0 m 1175 ls []) := by
            intro  H locs ls hl hP hS h
            subst e_j1175
            refine lv_goto (tgt := 1666) hx hb dL_law_1175 (by decide) ?_
            exact W.widen (by omega) (by omega) (hj1666 M220 H locs ls (lv_sub hl [0, 1, 2, 3, 4] rfl) hP hS h)
          clear e_j1175
          refine lv_if_ne (tgt := 1175) hx hb dL_law_1160 (by decide) (fun c223 => ?_) (fun c223 => ?_)
          · replace h := sx_ifn h c223
            exact W.widen (by omega) (by omega) (hj1175 H locs ls (lv_sub hl [2, 3, 4, 5, 6] rfl) hP hS h)
          · replace h := sx_ifp h c223
            refine lv_aload_n hx hb dL_law_1163 rfl (lv_at hl 5 rfl) ?_
            refine lv_iconst (v := (0 : Int32)) hx hb dL_law_1164 (by decide) ?_
            refine sx_lald X hP 30 0 1 (by decide) (fun _ _ => rfl) dL_law_1165 h (fun v224 h => ?_)
            refine lv_iload hx hb dL_law_1166 (lv_at hl 0 rfl) ?_
            refine lv_i2l (v := v219.toInt64) hx hb dL_law_1168 rfl ?_
            refine W.lcmp hx hb dL_law_1169 ?_
            refine lv_if_eq (tgt := 1175) hx hb dL_law_1170 (by decide) (fun c225 => ?_) (fun c225 => ?_)
            · replace h := sx_ifp h c225
              exact W.widen (by omega) (by omega) (hj1175 H locs ls (lv_sub hl [2, 3, 4, 5, 6] rfl) hP hS h)
            · replace h := sx_ifn h c225
              refine lv_iconst (v := (0 : Int32)) hx hb dL_law_1173 (by decide) ?_
              exact absurd (Option.some.inj h) (by decide)
        · replace h := sx_ifn h c222
          refine lv_iconst (v := (0 : Int32)) hx hb dL_law_1156 (by decide) ?_
          exact absurd (Option.some.inj h) (by decide)
      replace h := sx_ifn h c212
      by_cases c226 : (v2 &&& (31 : Int32)) = (18 : Int32)
      · replace h := sx_ifp h c226
        refine lv_tableIn (tgt := 1178) hx hb dL_law_39 (by rw [c226]; decide) (by rw [c226]; decide) (by rw [c226]; rfl) (by decide) ?_
        refine lv_aload_n hx hb dL_law_1178 rfl (lv_at hl 1 rfl) ?_
        refine lv_aload_n hx hb dL_law_1179 rfl (lv_at hl 0 rfl) ?_
        refine lv_iload hx hb dL_law_1180 (lv_at hl 4 rfl) ?_
        refine lv_iconst (v := (1 : Int32)) hx hb dL_law_1182 (by decide) ?_
        refine lv_iadd hx hb dL_law_1183 ?_
        refine sx_sld hx hb hX hbl hbA hS dL_law_1184 h (fun v227 h => ?_)
        refine lv_aload_n hx hb dL_law_1185 rfl (lv_at hl 3 rfl) ?_
        obtain ⟨v228, M229, e_v228, h⟩ := sx_bnd2 h
        refine clW_L_158 X hT hst hG hP hz hS e_v228 hl.1 dL_law_1186 ⟨Nat.le_trans (by omega) hcs.1, Nat.le_trans (by omega) hcs.2⟩ ⟨Nat.le_of_ble_eq_true rfl, Nat.le_of_ble_eq_true rfl⟩ (Nat.le_of_ble_eq_true rfl) (fun H locs hP hS => ?_)
        refine lv_istore (lv' := [(5, .int v228), (0, .ref b), (1, .ref (sx_ad C 0 0)), (2, .ref (sx_ad C 17 0)), (3, .ref (sx_ad C 30 0)), (4, .int x4)]) hx hb dL_law_1189 hl (by decide) rfl (fun ls hl => ?_)
        refine lv_aload_n hx hb dL_law_1191 rfl (lv_at hl 3 rfl) ?_
        refine lv_aload_n hx hb dL_law_1192 rfl (lv_at hl 1 rfl) ?_
        refine lv_iload hx hb dL_law_1193 (lv_at hl 5 rfl) ?_
        refine lv_iconst (v := (1 : Int32)) hx hb dL_law_1195 (by decide) ?_
        refine lv_iadd hx hb dL_law_1196 ?_
        refine sx_sld hx hb hX hbl hbA hS dL_law_1197 h (fun v230 h => ?_)
        obtain ⟨v231, M232, e_v231, h⟩ := sx_bnd2 h
        refine cl_L_160 X hG hP hz hS  e_v231 hl.1 dL_law_1198 ⟨Nat.le_trans (by omega) hcs.1, Nat.le_trans (by omega) hcs.2⟩ ⟨Nat.le_of_ble_eq_true rfl, Nat.le_of_ble_eq_true rfl⟩ (Nat.le_of_ble_eq_true rfl) (fun H locs hP hS => ?_)
        refine lv_istore (lv' := [(6, .int v231), (5, .int v228), (0, .ref b), (1, .ref (sx_ad C 0 0)), (2, .ref (sx_ad C 17 0)), (3, .ref (sx_ad C 30 0)), (4, .int x4)]) hx hb dL_law_1201 hl (by decide) rfl (fun ls hl => ?_)
        refine lv_aload_n hx hb dL_law_1203 rfl (lv_at hl 4 rfl) ?_
        obtain ⟨v233, e_v233, h⟩ := sx_bnd h
        refine cl_L_98 X hG hP hz hS  e_v233 hl.1 dL_law_1204 ⟨Nat.le_trans (by omega) hcs.1, Nat.le_trans (by omega) hcs.2⟩ ⟨Nat.le_of_ble_eq_true rfl, Nat.le_of_ble_eq_true rfl⟩ (Nat.le_of_ble_eq_true rfl) (fun H locs hP hS => ?_)
        refine lv_iload hx hb dL_law_1207 (lv_at hl 1 rfl) ?_
        refine lv_icmp_eq (tgt := 1214) hx hb dL_law_1209 (by decide) (fun c234 => ?_) (fun c234 => ?_)
        · replace h := sx_ifp h c234
          refine lv_iload hx hb dL_law_1214 (lv_at hl 1 rfl) ?_
          obtain ⟨j1231, e_j1231, h⟩ := sx_nm h
          have hj1231 : ∀ (H : Heap) (locs : List Loc) (ls : Array Slot), lv_has ls 7 [(0, .ref b), (1, .ref (sx_ad C 0 0)), (2, .ref (sx_ad C 17 0)), (3, .ref (sx_ad C 30 0)), (4, .int x4)] → sx_W C M232 H → va_S (sx_A C) s.heap H locs → j1231 () = some 1 → W p l e room_1 s m #[Value.ref b] below meth c H locs (200 + 2 * j + 1) (10000 + 12 * j + 6) (lw_Z below #[Value.ref b] s) (F0 m 1231 ls []) := by
            intro  H locs ls hl hP hS h
            subst e_j1231
            refine lv_goto (tgt := 1666) hx hb dL_law_1231 (by decide) ?_
            exact W.widen (by omega) (by omega) (hj1666 M232 H locs ls (lv_sub hl [0, 1, 2, 3, 4] rfl) hP hS h)
          clear e_j1231
          refine lv_if_ne (tgt := 1231) hx hb dL_law_1216 (by decide) (fun c235 => ?_) (fun c235 => ?_)
          · replace h := sx_ifn h c235
            exact W.widen (by omega) (by omega) (hj1231 H locs ls (lv_sub hl [2, 3, 4, 5, 6] rfl) hP hS h)
          · replace h := sx_ifp h c235
            refine lv_aload_n hx hb dL_law_1219 rfl (lv_at hl 5 rfl) ?_
            refine lv_iconst (v := (0 : Int32)) hx hb dL_law_1220 (by decide) ?_
            refine sx_lald X hP 30 0 1 (by decide) (fun _ _ => rfl) dL_law_1221 h (fun v236 h => ?_)
            refine lv_iload hx hb dL_law_1222 (lv_at hl 0 rfl) ?_
            refine lv_i2l (v := v231.toInt64) hx hb dL_law_1224 rfl ?_
            refine W.lcmp hx hb dL_law_1225 ?_
            refine lv_if_eq (tgt := 1231) hx hb dL_law_1226 (by decide) (fun c237 => ?_) (fun c237 => ?_)
            · replace h := sx_ifp h c237
              exact W.widen (by omega) (by omega) (hj1231 H locs ls (lv_sub hl [2, 3, 4, 5, 6] rfl) hP hS h)
            · replace h := sx_ifn h c237
              refine lv_iconst (v := (0 : Int32)) hx hb dL_law_1229 (by decide) ?_
              exact absurd (Option.some.inj h) (by decide)
        · replace h := sx_ifn h c234
          refine lv_iconst (v := (0 : Int32)) hx hb dL_law_1212 (by decide) ?_
          exact absurd (Option.some.inj h) (by decide)
      replace h := sx_ifn h c226
      by_cases c238 : (v2 &&& (31 : Int32)) = (19 : Int32)
      · replace h := sx_ifp h c238
        refine lv_tableIn (tgt := 1234) hx hb dL_law_39 (by rw [c238]; decide) (by rw [c238]; decide) (by rw [c238]; rfl) (by decide) ?_
        refine lv_aload_n hx hb dL_law_1234 rfl (lv_at hl 1 rfl) ?_
        obtain ⟨v239, e_v239, h⟩ := sx_bnd h
        refine cl_L_161 X hG hP hz hS  e_v239 hl.1 dL_law_1235 ⟨Nat.le_trans (by omega) hcs.1, Nat.le_trans (by omega) hcs.2⟩ ⟨Nat.le_of_ble_eq_true rfl, Nat.le_of_ble_eq_true rfl⟩ (Nat.le_of_ble_eq_true rfl) (fun H locs hP hS => ?_)
        refine lv_aload_n hx hb dL_law_1238 rfl (lv_at hl 2 rfl) ?_
        obtain ⟨v240, M241, e_v240, h⟩ := sx_bnd2 h
        refine cl_L_164 X hG hP hz hS  e_v240 hl.1 dL_law_1239 ⟨Nat.le_trans (by omega) hcs.1, Nat.le_trans (by omega) hcs.2⟩ ⟨Nat.le_of_ble_eq_true rfl, Nat.le_of_ble_eq_true rfl⟩ (Nat.le_of_ble_eq_true rfl) (fun H locs hP hS => ?_)
        refine lv_icmp_eq (tgt := 1666) hx hb dL_law_1242 (by decide) (fun c242 => ?_) (fun c242 => ?_)
        · replace h := sx_ifp h c242
          exact W.widen (by omega) (by omega) (hj1666 M241 H locs ls (lv_sub hl [0, 1, 2, 3, 4] rfl) hP hS h)
        · replace h := sx_ifn h c242
          refine lv_iconst (v := (0 : Int32)) hx hb dL_law_1245 (by decide) ?_
          exact absurd (Option.some.inj h) (by decide)
      replace h := sx_ifn h c238
      by_cases c243 : (v2 &&& (31 : Int32)) = (20 : Int32)
      · replace h := sx_ifp h c243
        refine lv_tableIn (tgt := 1247) hx hb dL_law_39 (by rw [c243]; decide) (by rw [c243]; decide) (by rw [c243]; rfl) (by decide) ?_
        refine lv_aload_n hx hb dL_law_1247 rfl (lv_at hl 1 rfl) ?_
        obtain ⟨v244, e_v244, h⟩ := sx_bnd h
        refine cl_L_165 X hG hP hz hS  e_v244 hl.1 dL_law_1248 ⟨Nat.le_trans (by omega) hcs.1, Nat.le_trans (by omega) hcs.2⟩ ⟨Nat.le_of_ble_eq_true rfl, Nat.le_of_ble_eq_true rfl⟩ (Nat.le_of_ble_eq_true rfl) (fun H locs hP hS => ?_)
        refine lv_aload_n hx hb dL_law_1251 rfl (lv_at hl 2 rfl) ?_
        obtain ⟨v245, M246, e_v245, h⟩ := sx_bnd2 h
        refine cl_L_168 X hG hP hz hS  e_v245 hl.1 dL_law_1252 ⟨Nat.le_trans (by omega) hcs.1, Nat.le_trans (by omega) hcs.2⟩ ⟨Nat.le_of_ble_eq_true rfl, Nat.le_of_ble_eq_true rfl⟩ (Nat.le_of_ble_eq_true rfl) (fun H locs hP hS => ?_)
        refine lv_icmp_eq (tgt := 1666) hx hb dL_law_1255 (by decide) (fun c247 => ?_) (fun c247 => ?_)
        · replace h := sx_ifp h c247
          exact W.widen (by omega) (by omega) (hj1666 M246 H locs ls (lv_sub hl [0, 1, 2, 3, 4] rfl) hP hS h)
        · replace h := sx_ifn h c247
          refine lv_iconst (v := (0 : Int32)) hx hb dL_law_1258 (by decide) ?_
          exact absurd (Option.some.inj h) (by decide)
      replace h := sx_ifn h c243
      by_cases c248 : (v2 &&& (31 : Int32)) = (21 : Int32)
      · replace h := sx_ifp h c248
        refine lv_tableIn (tgt := 1260) hx hb dL_law_39 (by rw [c248]; decide) (by rw [c248]; decide) (by rw [c248]; rfl) (by decide) ?_
        refine lv_aload_n hx hb dL_law_1260 rfl (lv_at hl 1 rfl) ?_
        obtain ⟨v249, M250, e_v249, h⟩ := sx_bnd2 h
        refine cl_L_169 X hG hP hz hS  e_v249 hl.1 dL_law_1261 ⟨Nat.le_trans (by omega) hcs.1, Nat.le_trans (by omega) hcs.2⟩ ⟨Nat.le_of_ble_eq_true rfl, Nat.le_of_ble_eq_true rfl⟩ (Nat.le_of_ble_eq_true rfl) (fun H locs hP hS => ?_)
        refine lv_aload_n hx hb dL_law_1264 rfl (lv_at hl 2 rfl) ?_
        obtain ⟨v251, M252, e_v251, h⟩ := sx_bnd2 h
        refine cl_L_172 X hG hP hz hS  e_v251 hl.1 dL_law_1265 ⟨Nat.le_trans (by omega) hcs.1, Nat.le_trans (by omega) hcs.2⟩ ⟨Nat.le_of_ble_eq_true rfl, Nat.le_of_ble_eq_true rfl⟩ (Nat.le_of_ble_eq_true rfl) (fun H locs hP hS => ?_)
        refine lv_icmp_eq (tgt := 1666) hx hb dL_law_1268 (by decide) (fun c253 => ?_) (fun c253 => ?_)
        · replace h := sx_ifp h c253
          exact W.widen (by omega) (by omega) (hj1666 M252 H locs ls (lv_sub hl [0, 1, 2, 3, 4] rfl) hP hS h)
        · replace h := sx_ifn h c253
          refine lv_iconst (v := (0 : Int32)) hx hb dL_law_1271 (by decide) ?_
          exact absurd (Option.some.inj h) (by decide)
      replace h := sx_ifn h c248
      by_cases c254 : (v2 &&& (31 : Int32)) = (22 : Int32)
      · replace h := sx_ifp h c254
        refine lv_tableIn (tgt := 1273) hx hb dL_law_39 (by rw [c254]; decide) (by rw [c254]; decide) (by rw [c254]; rfl) (by decide) ?_
        refine lv_aload_n hx hb dL_law_1273 rfl (lv_at hl 1 rfl) ?_
        obtain ⟨v255, M256, e_v255, h⟩ := sx_bnd2 h
        refine cl_L_173 X hG hP hz hS  e_v255 hl.1 dL_law_1274 ⟨Nat.le_trans (by omega) hcs.1, Nat.le_trans (by omega) hcs.2⟩ ⟨Nat.le_of_ble_eq_true rfl, Nat.le_of_ble_eq_true rfl⟩ (Nat.le_of_ble_eq_true rfl) (fun H locs hP hS => ?_)
        refine lv_aload_n hx hb dL_law_1277 rfl (lv_at hl 2 rfl) ?_
        obtain ⟨v257, M258, e_v257, h⟩ := sx_bnd2 h
        refine cl_L_176 X hG hP hz hS  e_v257 hl.1 dL_law_1278 ⟨Nat.le_trans (by omega) hcs.1, Nat.le_trans (by omega) hcs.2⟩ ⟨Nat.le_of_ble_eq_true rfl, Nat.le_of_ble_eq_true rfl⟩ (Nat.le_of_ble_eq_true rfl) (fun H locs hP hS => ?_)
        refine lv_icmp_eq (tgt := 1666) hx hb dL_law_1281 (by decide) (fun c259 => ?_) (fun c259 => ?_)
        · replace h := sx_ifp h c259
          exact W.widen (by omega) (by omega) (hj1666 M258 H locs ls (lv_sub hl [0, 1, 2, 3, 4] rfl) hP hS h)
        · replace h := sx_ifn h c259
          refine lv_iconst (v := (0 : Int32)) hx hb dL_law_1284 (by decide) ?_
          exact absurd (Option.some.inj h) (by decide)
      replace h := sx_ifn h c254
      by_cases c260 : (v2 &&& (31 : Int32)) = (23 : Int32)
      · replace h := sx_ifp h c260
        refine lv_tableIn (tgt := 1286) hx hb dL_law_39 (by rw [c260]; decide) (by rw [c260]; decide) (by rw [c260]; rfl) (by decide) ?_
        refine lv_aload_n hx hb dL_law_1286 rfl (lv_at hl 1 rfl) ?_
        refine lv_aload_n hx hb dL_law_1287 rfl (lv_at hl 0 rfl) ?_
        refine lv_iload hx hb dL_law_1288 (lv_at hl 4 rfl) ?_
        refine lv_iconst (v := (1 : Int32)) hx hb dL_law_1290 (by decide) ?_
        refine lv_iadd hx hb dL_law_1291 ?_
        refine sx_sld hx hb hX hbl hbA hS dL_law_1292 h (fun v261 h => ?_)
        refine lv_aload_n hx hb dL_law_1293 rfl (lv_at hl 0 rfl) ?_
        refine lv_iload hx hb dL_law_1294 (lv_at hl 4 rfl) ?_
        refine lv_iconst (v := (2 : Int32)) hx hb dL_law_1296 (by decide) ?_
        refine lv_iadd hx hb dL_law_1297 ?_
        refine sx_sld hx hb hX hbl hbA hS dL_law_1298 h (fun v262 h => ?_)
        refine lv_aload_n hx hb dL_law_1299 rfl (lv_at hl 3 rfl) ?_
        obtain ⟨v263, M264, e_v263, h⟩ := sx_bnd2 h
        refine clW_L_177 X hT hst hG hP hz hS e_v263 hl.1 dL_law_1300 ⟨Nat.le_trans (by omega) hcs.1, Nat.le_trans (by omega) hcs.2⟩ ⟨Nat.le_of_ble_eq_true rfl, Nat.le_of_ble_eq_true rfl⟩ (Nat.le_of_ble_eq_true rfl) (fun H locs hP hS => ?_)
        refine lv_istore (lv' := [(5, .int v263), (0, .ref b), (1, .ref (sx_ad C 0 0)), (2, .ref (sx_ad C 17 0)), (3, .ref (sx_ad C 30 0)), (4, .int x4)]) hx hb dL_law_1303 hl (by decide) rfl (fun ls hl => ?_)
        refine lv_aload_n hx hb dL_law_1305 rfl (lv_at hl 3 rfl) ?_
        refine lv_aload_n hx hb dL_law_1306 rfl (lv_at hl 1 rfl) ?_
        refine lv_iload hx hb dL_law_1307 (lv_at hl 5 rfl) ?_
        refine lv_iconst (v := (1 : Int32)) hx hb dL_law_1309 (by decide) ?_
        refine lv_iadd hx hb dL_law_1310 ?_
        refine sx_sld hx hb hX hbl hbA hS dL_law_1311 h (fun v265 h => ?_)
        refine lv_aload_n hx hb dL_law_1312 rfl (lv_at hl 1 rfl) ?_
        refine lv_iload hx hb dL_law_1313 (lv_at hl 5 rfl) ?_
        refine lv_iconst (v := (2 : Int32)) hx hb dL_law_1315 (by decide) ?_
        refine lv_iadd hx hb dL_law_1316 ?_
        refine sx_sld hx hb hX hbl hbA hS dL_law_1317 h (fun v266 h => ?_)
        obtain ⟨v267, M268, e_v267, h⟩ := sx_bnd2 h
        refine cl_L_179 X hG hP hz hS  e_v267 hl.1 dL_law_1318 ⟨Nat.le_trans (by omega) hcs.1, Nat.le_trans (by omega) hcs.2⟩ ⟨Nat.le_of_ble_eq_true rfl, Nat.le_of_ble_eq_true rfl⟩ (Nat.le_of_ble_eq_true rfl) (fun H locs hP hS => ?_)
        refine lv_istore (lv' := [(6, .int v267), (5, .int v263), (0, .ref b), (1, .ref (sx_ad C 0 0)), (2, .ref (sx_ad C 17 0)), (3, .ref (sx_ad C 30 0)), (4, .int x4)]) hx hb dL_law_1321 hl (by decide) rfl (fun ls hl => ?_)
        refine lv_aload_n hx hb dL_law_1323 rfl (lv_at hl 4 rfl) ?_
        obtain ⟨v269, e_v269, h⟩ := sx_bnd h
        refine cl_L_98 X hG hP hz hS  e_v269 hl.1 dL_law_1324 ⟨Nat.le_trans (by omega) hcs.1, Nat.le_trans (by omega) hcs.2⟩ ⟨Nat.le_of_ble_eq_true rfl, Nat.le_of_ble_eq_true rfl⟩ (Nat.le_of_ble_eq_true rfl) (fun H locs hP hS => ?_)
        refine lv_iload hx hb dL_law_1327 (lv_at hl 1 rfl) ?_
        refine lv_icmp_eq (tgt := 1334) hx hb dL_law_1329 (by decide) (fun c270 => ?_) (fun c270 => ?_)
        · replace h := sx_ifp h c270
          refine lv_iload hx hb dL_law_1334 (lv_at hl 1 rfl) ?_
          obtain ⟨j1351, e_j1351, h⟩ := sx_nm h
          have hj1351 : ∀ (H : Heap) (locs : List Loc) (ls : Array Slot), lv_has ls 7 [(0, .ref b), (1, .ref (sx_ad C 0 0)), (2, .ref (sx_ad C 17 0)), (3, .ref (sx_ad C 30 0)), (4, .int x4)] → sx_W C M268 H → va_S (sx_A C) s.heap H locs → j1351 () = some 1 → W p l e room_1 s m #[Value.ref b] below meth c H locs (200 + 2 * j + 2) (10000 + 12 * j + 12) (lw_Z below #[Value.ref b] s) (F0 m 1351 ls []) := by
            intro  H locs ls hl hP hS h
            subst e_j1351
            refine lv_goto (tgt := 1666) hx hb dL_law_1351 (by decide) ?_
            exact W.widen (by omega) (by omega) (hj1666 M268 H locs ls (lv_sub hl [0, 1, 2, 3, 4] rfl) hP hS h)
          clear e_j1351
          refine lv_if_ne (tgt := 1351) hx hb dL_law_1336 (by decide) (fun c271 => ?_) (fun c271 => ?_)
          · replace h := sx_ifn h c271
            exact W.widen (by omega) (by omega) (hj1351 H locs ls (lv_sub hl [2, 3, 4, 5, 6] rfl) hP hS h)
          · replace h := sx_ifp h c271
            refine lv_aload_n hx hb dL_law_1339 rfl (lv_at hl 5 rfl) ?_
            refine lv_iconst (v := (0 : Int32)) hx hb dL_law_1340 (by decide) ?_
            refine sx_lald X hP 30 0 1 (by decide) (fun _ _ => rfl) dL_law_1341 h (fun v272 h => ?_)
            refine lv_iload hx hb dL_law_1342 (lv_at hl 0 rfl) ?_
            refine lv_i2l (v := v267.toInt64) hx hb dL_law_1344 rfl ?_
            refine W.lcmp hx hb dL_law_1345 ?_
            refine lv_if_eq (tgt := 1351) hx hb dL_law_1346 (by decide) (fun c273 => ?_) (fun c273 => ?_)
            · replace h := sx_ifp h c273
              exact W.widen (by omega) (by omega) (hj1351 H locs ls (lv_sub hl [2, 3, 4, 5, 6] rfl) hP hS h)
            · replace h := sx_ifn h c273
              refine lv_iconst (v := (0 : Int32)) hx hb dL_law_1349 (by decide) ?_
              exact absurd (Option.some.inj h) (by decide)
        · replace h := sx_ifn h c270
          refine lv_iconst (v := (0 : Int32)) hx hb dL_law_1332 (by decide) ?_
          exact absurd (Option.some.inj h) (by decide)
      replace h := sx_ifn h c260
      by_cases c274 : (v2 &&& (31 : Int32)) = (24 : Int32)
      · replace h := sx_ifp h c274
        refine lv_tableIn (tgt := 1354) hx hb dL_law_39 (by rw [c274]; decide) (by rw [c274]; decide) (by rw [c274]; rfl) (by decide) ?_
        refine lv_aload_n hx hb dL_law_1354 rfl (lv_at hl 1 rfl) ?_
        refine lv_aload_n hx hb dL_law_1355 rfl (lv_at hl 0 rfl) ?_
        refine lv_iload hx hb dL_law_1356 (lv_at hl 4 rfl) ?_
        refine lv_iconst (v := (1 : Int32)) hx hb dL_law_1358 (by decide) ?_
        refine lv_iadd hx hb dL_law_1359 ?_
        refine sx_sld hx hb hX hbl hbA hS dL_law_1360 h (fun v275 h => ?_)
        refine lv_aload_n hx hb dL_law_1361 rfl (lv_at hl 0 rfl) ?_
        refine lv_iload hx hb dL_law_1362 (lv_at hl 4 rfl) ?_
        refine lv_iconst (v := (2 : Int32)) hx hb dL_law_1364 (by decide) ?_
        refine lv_iadd hx hb dL_law_1365 ?_
        refine sx_sld hx hb hX hbl hbA hS dL_law_1366 h (fun v276 h => ?_)
        refine lv_i2l (v := v276.toInt64) hx hb dL_law_1367 rfl ?_
        refine lv_bipush (v := (32 : Int32)) hx hb dL_law_1368 (by decide) ?_
        refine lv_lshl (v := v276.toInt64 <<< ((32 : Int32).toInt64 &&& 63)) hx hb dL_law_1370 rfl ?_
        refine lv_aload_n hx hb dL_law_1371 rfl (lv_at hl 0 rfl) ?_
        refine lv_iload hx hb dL_law_1372 (lv_at hl 4 rfl) ?_
        refine lv_iconst (v := (3 : Int32)) hx hb dL_law_1374 (by decide) ?_
        refine lv_iadd hx hb dL_law_1375 ?_
        refine sx_sld hx hb hX hbl hbA hS dL_law_1376 h (fun v277 h => ?_)
        refine lv_i2l (v := v277.toInt64) hx hb dL_law_1377 rfl ?_
        refine lv_ldc2 (v := (4294967295 : Int64)) hx hb hown (hts _ tw_1376) dL_law_1378 ?_
        refine lv_land hx hb dL_law_1381 ?_
        refine lv_lor hx hb dL_law_1382 ?_
        refine lv_aload_n hx hb dL_law_1383 rfl (lv_at hl 3 rfl) ?_
        obtain ⟨v278, M279, e_v278, h⟩ := sx_bnd2 h
        refine clW_L_182 X hT hst hG hP hz hS e_v278 hl.1 dL_law_1384 ⟨Nat.le_trans (by omega) hcs.1, Nat.le_trans (by omega) hcs.2⟩ ⟨Nat.le_of_ble_eq_true rfl, Nat.le_of_ble_eq_true rfl⟩ (Nat.le_of_ble_eq_true rfl) (fun H locs hP hS => ?_)
        refine lv_istore (lv' := [(5, .int v278), (0, .ref b), (1, .ref (sx_ad C 0 0)), (2, .ref (sx_ad C 17 0)), (3, .ref (sx_ad C 30 0)), (4, .int x4)]) hx hb dL_law_1387 hl (by decide) rfl (fun ls hl => ?_)
        refine lv_aload_n hx hb dL_law_1389 rfl (lv_at hl 3 rfl) ?_
        refine lv_aload_n hx hb dL_law_1390 rfl (lv_at hl 1 rfl) ?_
        refine lv_iload hx hb dL_law_1391 (lv_at hl 5 rfl) ?_
        refine lv_iconst (v := (1 : Int32)) hx hb dL_law_1393 (by decide) ?_
        refine lv_iadd hx hb dL_law_1394 ?_
        refine sx_sld hx hb hX hbl hbA hS dL_law_1395 h (fun v280 h => ?_)
        refine lv_aload_n hx hb dL_law_1396 rfl (lv_at hl 1 rfl) ?_
        refine lv_iload hx hb dL_law_1397 (lv_at hl 5 rfl) ?_
        refine lv_iconst (v := (2 : Int32)) hx hb dL_law_1399 (by decide) ?_
        refine lv_iadd hx hb dL_law_1400 ?_
        refine sx_sld hx hb hX hbl hbA hS dL_law_1401 h (fun v281 h => ?_)
        refine lv_i2l (v := v281.toInt64) hx hb dL_law_1402 rfl ?_
        refine lv_bipush (v := (32 : Int32)) hx hb dL_law_1403 (by decide) ?_
        refine lv_lshl (v := v281.toInt64 <<< ((32 : Int32).toInt64 &&& 63)) hx hb dL_law_1405 rfl ?_
        refine lv_aload_n hx hb dL_law_1406 rfl (lv_at hl 1 rfl) ?_
        refine lv_iload hx hb dL_law_1407 (lv_at hl 5 rfl) ?_
        refine lv_iconst (v := (3 : Int32)) hx hb dL_law_1409 (by decide) ?_
        refine lv_iadd hx hb dL_law_1410 ?_
        refine sx_sld hx hb hX hbl hbA hS dL_law_1411 h (fun v282 h => ?_)
        refine lv_i2l (v := v282.toInt64) hx hb dL_law_1412 rfl ?_
        refine lv_ldc2 (v := (4294967295 : Int64)) hx hb hown (hts _ tw_1376) dL_law_1413 ?_
        refine lv_land hx hb dL_law_1416 ?_
        refine lv_lor hx hb dL_law_1417 ?_
        obtain ⟨v283, M284, e_v283, h⟩ := sx_bnd2 h
        refine cl_L_185 X hG hP hz hS  e_v283 hl.1 dL_law_1418 ⟨Nat.le_trans (by omega) hcs.1, Nat.le_trans (by omega) hcs.2⟩ ⟨Nat.le_of_ble_eq_true rfl, Nat.le_of_ble_eq_true rfl⟩ (Nat.le_of_ble_eq_true rfl) (fun H locs hP hS => ?_)
        refine lv_istore (lv' := [(6, .int v283), (5, .int v278), (0, .ref b), (1, .ref (sx_ad C 0 0)), (2, .ref (sx_ad C 17 0)), (3, .ref (sx_ad C 30 0)), (4, .int x4)]) hx hb dL_law_1421 hl (by decide) rfl (fun ls hl => ?_)
        refine lv_aload_n hx hb dL_law_1423 rfl (lv_at hl 4 rfl) ?_
        obtain ⟨v285, e_v285, h⟩ := sx_bnd h
        refine cl_L_98 X hG hP hz hS  e_v285 hl.1 dL_law_1424 ⟨Nat.le_trans (by omega) hcs.1, Nat.le_trans (by omega) hcs.2⟩ ⟨Nat.le_of_ble_eq_true rfl, Nat.le_of_ble_eq_true rfl⟩ (Nat.le_of_ble_eq_true rfl) (fun H locs hP hS => ?_)
        refine lv_iload hx hb dL_law_1427 (lv_at hl 1 rfl) ?_
        refine lv_icmp_eq (tgt := 1434) hx hb dL_law_1429 (by decide) (fun c286 => ?_) (fun c286 => ?_)
        · replace h := sx_ifp h c286
          refine lv_iload hx hb dL_law_1434 (lv_at hl 1 rfl) ?_
          obtain ⟨j1451, e_j1451, h⟩ := sx_nm h
          have hj1451 : ∀ (H : Heap) (locs : List Loc) (ls : Array Slot), lv_has ls 7 [(0, .ref b), (1, .ref (sx_ad C 0 0)), (2, .ref (sx_ad C 17 0)), (3, .ref (sx_ad C 30 0)), (4, .int x4)] → sx_W C M284 H → va_S (sx_A C) s.heap H locs → j1451 () = some 1 → W p l e room_1 s m #[Value.ref b] below meth c H locs (200 + 2 * j + 1) (10000 + 12 * j + 6) (lw_Z below #[Value.ref b] s) (F0 m 1451 ls []) := by
            intro  H locs ls hl hP hS h
            subst e_j1451
            refine lv_goto (tgt := 1666) hx hb dL_law_1451 (by decide) ?_
            exact W.widen (by omega) (by omega) (hj1666 M284 H locs ls (lv_sub hl [0, 1, 2, 3, 4] rfl) hP hS h)
          clear e_j1451
          refine lv_if_ne (tgt := 1451) hx hb dL_law_1436 (by decide) (fun c287 => ?_) (fun c287 => ?_)
          · replace h := sx_ifn h c287
            exact W.widen (by omega) (by omega) (hj1451 H locs ls (lv_sub hl [2, 3, 4, 5, 6] rfl) hP hS h)
          · replace h := sx_ifp h c287
            refine lv_aload_n hx hb dL_law_1439 rfl (lv_at hl 5 rfl) ?_
            refine lv_iconst (v := (0 : Int32)) hx hb dL_law_1440 (by decide) ?_
            refine sx_lald X hP 30 0 1 (by decide) (fun _ _ => rfl) dL_law_1441 h (fun v288 h => ?_)
            refine lv_iload hx hb dL_law_1442 (lv_at hl 0 rfl) ?_
            refine lv_i2l (v := v283.toInt64) hx hb dL_law_1444 rfl ?_
            refine W.lcmp hx hb dL_law_1445 ?_
            refine lv_if_eq (tgt := 1451) hx hb dL_law_1446 (by decide) (fun c289 => ?_) (fun c289 => ?_)
            · replace h := sx_ifp h c289
              exact W.widen (by omega) (by omega) (hj1451 H locs ls (lv_sub hl [2, 3, 4, 5, 6] rfl) hP hS h)
            · replace h := sx_ifn h c289
              refine lv_iconst (v := (0 : Int32)) hx hb dL_law_1449 (by decide) ?_
              exact absurd (Option.some.inj h) (by decide)
        · replace h := sx_ifn h c286
          refine lv_iconst (v := (0 : Int32)) hx hb dL_law_1432 (by decide) ?_
          exact absurd (Option.some.inj h) (by decide)
      replace h := sx_ifn h c274
      by_cases c290 : (v2 &&& (31 : Int32)) = (25 : Int32)
      · replace h := sx_ifp h c290
        refine lv_tableIn (tgt := 1454) hx hb dL_law_39 (by rw [c290]; decide) (by rw [c290]; decide) (by rw [c290]; rfl) (by decide) ?_
        refine lv_aload_n hx hb dL_law_1454 rfl (lv_at hl 1 rfl) ?_
        refine lv_aload_n hx hb dL_law_1455 rfl (lv_at hl 0 rfl) ?_
        refine lv_iload hx hb dL_law_1456 (lv_at hl 4 rfl) ?_
        refine lv_iconst (v := (1 : Int32)) hx hb dL_law_1458 (by decide) ?_
        refine lv_iadd hx hb dL_law_1459 ?_
        refine sx_sld hx hb hX hbl hbA hS dL_law_1460 h (fun v291 h => ?_)
        refine lv_i2l (v := v291.toInt64) hx hb dL_law_1461 rfl ?_
        refine lv_bipush (v := (32 : Int32)) hx hb dL_law_1462 (by decide) ?_
        refine lv_lshl (v := v291.toInt64 <<< ((32 : Int32).toInt64 &&& 63)) hx hb dL_law_1464 rfl ?_
        refine lv_aload_n hx hb dL_law_1465 rfl (lv_at hl 0 rfl) ?_
        refine lv_iload hx hb dL_law_1466 (lv_at hl 4 rfl) ?_
        refine lv_iconst (v := (2 : Int32)) hx hb dL_law_1468 (by decide) ?_
        refine lv_iadd hx hb dL_law_1469 ?_
        refine sx_sld hx hb hX hbl hbA hS dL_law_1470 h (fun v292 h => ?_)
        refine lv_i2l (v := v292.toInt64) hx hb dL_law_1471 rfl ?_
        refine lv_ldc2 (v := (4294967295 : Int64)) hx hb hown (hts _ tw_1376) dL_law_1472 ?_
        refine lv_land hx hb dL_law_1475 ?_
        refine lv_lor hx hb dL_law_1476 ?_
        refine lv_aload_n hx hb dL_law_1477 rfl (lv_at hl 0 rfl) ?_
        refine lv_iload hx hb dL_law_1478 (lv_at hl 4 rfl) ?_
        refine lv_iconst (v := (3 : Int32)) hx hb dL_law_1480 (by decide) ?_
        refine lv_iadd hx hb dL_law_1481 ?_
        refine sx_sld hx hb hX hbl hbA hS dL_law_1482 h (fun v293 h => ?_)
        refine lv_aload_n hx hb dL_law_1483 rfl (lv_at hl 3 rfl) ?_
        obtain ⟨v294, M295, e_v294, h⟩ := sx_bnd2 h
        refine clW_L_186 X hT hst hG hP hz hS e_v294 hl.1 dL_law_1484 ⟨Nat.le_trans (by omega) hcs.1, Nat.le_trans (by omega) hcs.2⟩ ⟨Nat.le_of_ble_eq_true rfl, Nat.le_of_ble_eq_true rfl⟩ (Nat.le_of_ble_eq_true rfl) (fun H locs hP hS => ?_)
        refine lv_istore (lv' := [(5, .int v294), (0, .ref b), (1, .ref (sx_ad C 0 0)), (2, .ref (sx_ad C 17 0)), (3, .ref (sx_ad C 30 0)), (4, .int x4)]) hx hb dL_law_1487 hl (by decide) rfl (fun ls hl => ?_)
        refine lv_aload_n hx hb dL_law_1489 rfl (lv_at hl 3 rfl) ?_
        refine lv_aload_n hx hb dL_law_1490 rfl (lv_at hl 1 rfl) ?_
        refine lv_iload hx hb dL_law_1491 (lv_at hl 5 rfl) ?_
        refine lv_iconst (v := (1 : Int32)) hx hb dL_law_1493 (by decide) ?_
        refine lv_iadd hx hb dL_law_1494 ?_
        refine sx_sld hx hb hX hbl hbA hS dL_law_1495 h (fun v296 h => ?_)
        refine lv_i2l (v := v296.toInt64) hx hb dL_law_1496 rfl ?_
        refine lv_bipush (v := (32 : Int32)) hx hb dL_law_1497 (by decide) ?_
        refine lv_lshl (v := v296.toInt64 <<< ((32 : Int32).toInt64 &&& 63)) hx hb dL_law_1499 rfl ?_
        refine lv_aload_n hx hb dL_law_1500 rfl (lv_at hl 1 rfl) ?_
        refine lv_iload hx hb dL_law_1501 (lv_at hl 5 rfl) ?_
        refine lv_iconst (v := (2 : Int32)) hx hb dL_law_1503 (by decide) ?_
        refine lv_iadd hx hb dL_law_1504 ?_
        refine sx_sld hx hb hX hbl hbA hS dL_law_1505 h (fun v297 h => ?_)
        refine lv_i2l (v := v297.toInt64) hx hb dL_law_1506 rfl ?_
        refine lv_ldc2 (v := (4294967295 : Int64)) hx hb hown (hts _ tw_1376) dL_law_1507 ?_
        refine lv_land hx hb dL_law_1510 ?_
        refine lv_lor hx hb dL_law_1511 ?_
        refine lv_aload_n hx hb dL_law_1512 rfl (lv_at hl 1 rfl) ?_
        refine lv_iload hx hb dL_law_1513 (lv_at hl 5 rfl) ?_
        refine lv_iconst (v := (3 : Int32)) hx hb dL_law_1515 (by decide) ?_
        refine lv_iadd hx hb dL_law_1516 ?_
        refine sx_sld hx hb hX hbl hbA hS dL_law_1517 h (fun v298 h => ?_)
        obtain ⟨v299, M300, e_v299, h⟩ := sx_bnd2 h
        refine cl_L_189 X hG hP hz hS  e_v299 hl.1 dL_law_1518 ⟨Nat.le_trans (by omega) hcs.1, Nat.le_trans (by omega) hcs.2⟩ ⟨Nat.le_of_ble_eq_true rfl, Nat.le_of_ble_eq_true rfl⟩ (Nat.le_of_ble_eq_true rfl) (fun H locs hP hS => ?_)
        refine lv_istore (lv' := [(6, .int v299), (5, .int v294), (0, .ref b), (1, .ref (sx_ad C 0 0)), (2, .ref (sx_ad C 17 0)), (3, .ref (sx_ad C 30 0)), (4, .int x4)]) hx hb dL_law_1521 hl (by decide) rfl (fun ls hl => ?_)
        refine lv_aload_n hx hb dL_law_1523 rfl (lv_at hl 4 rfl) ?_
        obtain ⟨v301, e_v301, h⟩ := sx_bnd h
        refine cl_L_98 X hG hP hz hS  e_v301 hl.1 dL_law_1524 ⟨Nat.le_trans (by omega) hcs.1, Nat.le_trans (by omega) hcs.2⟩ ⟨Nat.le_of_ble_eq_true rfl, Nat.le_of_ble_eq_true rfl⟩ (Nat.le_of_ble_eq_true rfl) (fun H locs hP hS => ?_)
        refine lv_iload hx hb dL_law_1527 (lv_at hl 1 rfl) ?_
        refine lv_icmp_eq (tgt := 1534) hx hb dL_law_1529 (by decide) (fun c302 => ?_) (fun c302 => ?_)
        · replace h := sx_ifp h c302
          refine lv_iload hx hb dL_law_1534 (lv_at hl 1 rfl) ?_
          obtain ⟨j1551, e_j1551, h⟩ := sx_nm h
          have hj1551 : ∀ (H : Heap) (locs : List Loc) (ls : Array Slot), lv_has ls 7 [(0, .ref b), (1, .ref (sx_ad C 0 0)), (2, .ref (sx_ad C 17 0)), (3, .ref (sx_ad C 30 0)), (4, .int x4)] → sx_W C M300 H → va_S (sx_A C) s.heap H locs → j1551 () = some 1 → W p l e room_1 s m #[Value.ref b] below meth c H locs (200 + 2 * j + 1) (10000 + 12 * j + 6) (lw_Z below #[Value.ref b] s) (F0 m 1551 ls []) := by
            intro  H locs ls hl hP hS h
            subst e_j1551
            refine lv_goto (tgt := 1666) hx hb dL_law_1551 (by decide) ?_
            exact W.widen (by omega) (by omega) (hj1666 M300 H locs ls (lv_sub hl [0, 1, 2, 3, 4] rfl) hP hS h)
          clear e_j1551
          refine lv_if_ne (tgt := 1551) hx hb dL_law_1536 (by decide) (fun c303 => ?_) (fun c303 => ?_)
          · replace h := sx_ifn h c303
            exact W.widen (by omega) (by omega) (hj1551 H locs ls (lv_sub hl [2, 3, 4, 5, 6] rfl) hP hS h)
          · replace h := sx_ifp h c303
            refine lv_aload_n hx hb dL_law_1539 rfl (lv_at hl 5 rfl) ?_
            refine lv_iconst (v := (0 : Int32)) hx hb dL_law_1540 (by decide) ?_
            refine sx_lald X hP 30 0 1 (by decide) (fun _ _ => rfl) dL_law_1541 h (fun v304 h => ?_)
            refine lv_iload hx hb dL_law_1542 (lv_at hl 0 rfl) ?_
            refine lv_i2l (v := v299.toInt64) hx hb dL_law_1544 rfl ?_
            refine W.lcmp hx hb dL_law_1545 ?_
            refine lv_if_eq (tgt := 1551) hx hb dL_law_1546 (by decide) (fun c305 => ?_) (fun c305 => ?_)
            · replace h := sx_ifp h c305
              exact W.widen (by omega) (by omega) (hj1551 H locs ls (lv_sub hl [2, 3, 4, 5, 6] rfl) hP hS h)
            · replace h := sx_ifn h c305
              refine lv_iconst (v := (0 : Int32)) hx hb dL_law_1549 (by decide) ?_
              exact absurd (Option.some.inj h) (by decide)
        · replace h := sx_ifn h c302
          refine lv_iconst (v := (0 : Int32)) hx hb dL_law_1532 (by decide) ?_
          exact absurd (Option.some.inj h) (by decide)
      replace h := sx_ifn h c290
      by_cases c306 : (v2 &&& (31 : Int32)) = (26 : Int32)
      · replace h := sx_ifp h c306
        refine lv_tableIn (tgt := 1554) hx hb dL_law_39 (by rw [c306]; decide) (by rw [c306]; decide) (by rw [c306]; rfl) (by decide) ?_
        refine lv_aload_n hx hb dL_law_1554 rfl (lv_at hl 1 rfl) ?_
        refine lv_aload_n hx hb dL_law_1555 rfl (lv_at hl 0 rfl) ?_
        refine lv_iload hx hb dL_law_1556 (lv_at hl 4 rfl) ?_
        refine lv_iconst (v := (1 : Int32)) hx hb dL_law_1558 (by decide) ?_
        refine lv_iadd hx hb dL_law_1559 ?_
        refine sx_sld hx hb hX hbl hbA hS dL_law_1560 h (fun v307 h => ?_)
        refine lv_aload_n hx hb dL_law_1561 rfl (lv_at hl 3 rfl) ?_
        obtain ⟨v308, M309, e_v308, h⟩ := sx_bnd2 h
        refine clW_L_190 X hT hst hG hP hz hS e_v308 hl.1 dL_law_1562 ⟨Nat.le_trans (by omega) hcs.1, Nat.le_trans (by omega) hcs.2⟩ ⟨Nat.le_of_ble_eq_true rfl, Nat.le_of_ble_eq_true rfl⟩ (Nat.le_of_ble_eq_true rfl) (fun H locs hP hS => ?_)
        refine lv_istore (lv' := [(5, .int v308), (0, .ref b), (1, .ref (sx_ad C 0 0)), (2, .ref (sx_ad C 17 0)), (3, .ref (sx_ad C 30 0)), (4, .int x4)]) hx hb dL_law_1565 hl (by decide) rfl (fun ls hl => ?_)
        refine lv_aload_n hx hb dL_law_1567 rfl (lv_at hl 3 rfl) ?_
        refine lv_aload_n hx hb dL_law_1568 rfl (lv_at hl 1 rfl) ?_
        refine lv_iload hx hb dL_law_1569 (lv_at hl 5 rfl) ?_
        refine lv_iconst (v := (1 : Int32)) hx hb dL_law_1571 (by decide) ?_
        refine lv_iadd hx hb dL_law_1572 ?_
        refine sx_sld hx hb hX hbl hbA hS dL_law_1573 h (fun v310 h => ?_)
        obtain ⟨v311, M312, e_v311, h⟩ := sx_bnd2 h
        refine cl_L_192 X hG hP hz hS  e_v311 hl.1 dL_law_1574 ⟨Nat.le_trans (by omega) hcs.1, Nat.le_trans (by omega) hcs.2⟩ ⟨Nat.le_of_ble_eq_true rfl, Nat.le_of_ble_eq_true rfl⟩ (Nat.le_of_ble_eq_true rfl) (fun H locs hP hS => ?_)
        refine lv_istore (lv' := [(6, .int v311), (5, .int v308), (0, .ref b), (1, .ref (sx_ad C 0 0)), (2, .ref (sx_ad C 17 0)), (3, .ref (sx_ad C 30 0)), (4, .int x4)]) hx hb dL_law_1577 hl (by decide) rfl (fun ls hl => ?_)
        refine lv_aload_n hx hb dL_law_1579 rfl (lv_at hl 4 rfl) ?_
        obtain ⟨v313, e_v313, h⟩ := sx_bnd h
        refine cl_L_98 X hG hP hz hS  e_v313 hl.1 dL_law_1580 ⟨Nat.le_trans (by omega) hcs.1, Nat.le_trans (by omega) hcs.2⟩ ⟨Nat.le_of_ble_eq_true rfl, Nat.le_of_ble_eq_true rfl⟩ (Nat.le_of_ble_eq_true rfl) (fun H locs hP hS => ?_)
        refine lv_iload hx hb dL_law_1583 (lv_at hl 1 rfl) ?_
        refine lv_icmp_eq (tgt := 1590) hx hb dL_law_1585 (by decide) (fun c314 => ?_) (fun c314 => ?_)
        · replace h := sx_ifp h c314
          refine lv_iload hx hb dL_law_1590 (lv_at hl 1 rfl) ?_
          obtain ⟨j1607, e_j1607, h⟩ := sx_nm h
          have hj1607 : ∀ (H : Heap) (locs : List Loc) (ls : Array Slot), lv_has ls 7 [(0, .ref b), (1, .ref (sx_ad C 0 0)), (2, .ref (sx_ad C 17 0)), (3, .ref (sx_ad C 30 0)), (4, .int x4)] → sx_W C M312 H → va_S (sx_A C) s.heap H locs → j1607 () = some 1 → W p l e room_1 s m #[Value.ref b] below meth c H locs (200 + 2 * j + 1) (10000 + 12 * j + 6) (lw_Z below #[Value.ref b] s) (F0 m 1607 ls []) := by
            intro  H locs ls hl hP hS h
            subst e_j1607
            refine lv_goto (tgt := 1666) hx hb dL_law_1607 (by decide) ?_
            exact W.widen (by omega) (by omega) (hj1666 M312 H locs ls (lv_sub hl [0, 1, 2, 3, 4] rfl) hP hS h)
          clear e_j1607
          refine lv_if_ne (tgt := 1607) hx hb dL_law_1592 (by decide) (fun c315 => ?_) (fun c315 => ?_)
          · replace h := sx_ifn h c315
            exact W.widen (by omega) (by omega) (hj1607 H locs ls (lv_sub hl [2, 3, 4, 5, 6] rfl) hP hS h)
          · replace h := sx_ifp h c315
            refine lv_aload_n hx hb dL_law_1595 rfl (lv_at hl 5 rfl) ?_
            refine lv_iconst (v := (0 : Int32)) hx hb dL_law_1596 (by decide) ?_
            refine sx_lald X hP 30 0 1 (by decide) (fun _ _ => rfl) dL_law_1597 h (fun v316 h => ?_)
            refine lv_iload hx hb dL_law_1598 (lv_at hl 0 rfl) ?_
            refine lv_i2l (v := v311.toInt64) hx hb dL_law_1600 rfl ?_
            refine W.lcmp hx hb dL_law_1601 ?_
            refine lv_if_eq (tgt := 1607) hx hb dL_law_1602 (by decide) (fun c317 => ?_) (fun c317 => ?_)
            · replace h := sx_ifp h c317
              exact W.widen (by omega) (by omega) (hj1607 H locs ls (lv_sub hl [2, 3, 4, 5, 6] rfl) hP hS h)
            · replace h := sx_ifn h c317
              refine lv_iconst (v := (0 : Int32)) hx hb dL_law_1605 (by decide) ?_
              exact absurd (Option.some.inj h) (by decide)
        · replace h := sx_ifn h c314
          refine lv_iconst (v := (0 : Int32)) hx hb dL_law_1588 (by decide) ?_
          exact absurd (Option.some.inj h) (by decide)
      replace h := sx_ifn h c306
      by_cases c318 : (v2 &&& (31 : Int32)) = (27 : Int32)
      · replace h := sx_ifp h c318
        refine lv_tableIn (tgt := 1610) hx hb dL_law_39 (by rw [c318]; decide) (by rw [c318]; decide) (by rw [c318]; rfl) (by decide) ?_
        refine lv_aload_n hx hb dL_law_1610 rfl (lv_at hl 1 rfl) ?_
        refine lv_aload_n hx hb dL_law_1611 rfl (lv_at hl 0 rfl) ?_
        refine lv_iload hx hb dL_law_1612 (lv_at hl 4 rfl) ?_
        refine lv_iconst (v := (1 : Int32)) hx hb dL_law_1614 (by decide) ?_
        refine lv_iadd hx hb dL_law_1615 ?_
        refine sx_sld hx hb hX hbl hbA hS dL_law_1616 h (fun v319 h => ?_)
        refine lv_aload_n hx hb dL_law_1617 rfl (lv_at hl 3 rfl) ?_
        obtain ⟨v320, M321, e_v320, h⟩ := sx_bnd2 h
        refine clW_L_193 X hT hst hG hP hz hS e_v320 hl.1 dL_law_1618 ⟨Nat.le_trans (by omega) hcs.1, Nat.le_trans (by omega) hcs.2⟩ ⟨Nat.le_of_ble_eq_true rfl, Nat.le_of_ble_eq_true rfl⟩ (Nat.le_of_ble_eq_true rfl) (fun H locs hP hS => ?_)
        refine lv_istore (lv' := [(5, .int v320), (0, .ref b), (1, .ref (sx_ad C 0 0)), (2, .ref (sx_ad C 17 0)), (3, .ref (sx_ad C 30 0)), (4, .int x4)]) hx hb dL_law_1621 hl (by decide) rfl (fun ls hl => ?_)
        refine lv_aload_n hx hb dL_law_1623 rfl (lv_at hl 3 rfl) ?_
        refine lv_aload_n hx hb dL_law_1624 rfl (lv_at hl 1 rfl) ?_
        refine lv_iload hx hb dL_law_1625 (lv_at hl 5 rfl) ?_
        refine lv_iconst (v := (1 : Int32)) hx hb dL_law_1627 (by decide) ?_
        refine lv_iadd hx hb dL_law_1628 ?_
        refine sx_sld hx hb hX hbl hbA hS dL_law_1629 h (fun v322 h => ?_)
        obtain ⟨v323, M324, e_v323, h⟩ := sx_bnd2 h
        refine cl_L_195 X hG hP hz hS  e_v323 hl.1 dL_law_1630 ⟨Nat.le_trans (by omega) hcs.1, Nat.le_trans (by omega) hcs.2⟩ ⟨Nat.le_of_ble_eq_true rfl, Nat.le_of_ble_eq_true rfl⟩ (Nat.le_of_ble_eq_true rfl) (fun H locs hP hS => ?_)
        refine lv_istore (lv' := [(6, .int v323), (5, .int v320), (0, .ref b), (1, .ref (sx_ad C 0 0)), (2, .ref (sx_ad C 17 0)), (3, .ref (sx_ad C 30 0)), (4, .int x4)]) hx hb dL_law_1633 hl (by decide) rfl (fun ls hl => ?_)
        refine lv_aload_n hx hb dL_law_1635 rfl (lv_at hl 4 rfl) ?_
        obtain ⟨v325, e_v325, h⟩ := sx_bnd h
        refine cl_L_98 X hG hP hz hS  e_v325 hl.1 dL_law_1636 ⟨Nat.le_trans (by omega) hcs.1, Nat.le_trans (by omega) hcs.2⟩ ⟨Nat.le_of_ble_eq_true rfl, Nat.le_of_ble_eq_true rfl⟩ (Nat.le_of_ble_eq_true rfl) (fun H locs hP hS => ?_)
        refine lv_iload hx hb dL_law_1639 (lv_at hl 1 rfl) ?_
        refine lv_icmp_eq (tgt := 1646) hx hb dL_law_1641 (by decide) (fun c326 => ?_) (fun c326 => ?_)
        · replace h := sx_ifp h c326
          refine lv_iload hx hb dL_law_1646 (lv_at hl 1 rfl) ?_
          obtain ⟨j1663, e_j1663, h⟩ := sx_nm h
          have hj1663 : ∀ (H : Heap) (locs : List Loc) (ls : Array Slot), lv_has ls 7 [(0, .ref b), (1, .ref (sx_ad C 0 0)), (2, .ref (sx_ad C 17 0)), (3, .ref (sx_ad C 30 0)), (4, .int x4)] → sx_W C M324 H → va_S (sx_A C) s.heap H locs → j1663 () = some 1 → W p l e room_1 s m #[Value.ref b] below meth c H locs (200 + 2 * j + 1) (10000 + 12 * j + 6) (lw_Z below #[Value.ref b] s) (F0 m 1663 ls []) := by
            intro  H locs ls hl hP hS h
            subst e_j1663
            refine lv_goto (tgt := 1666) hx hb dL_law_1663 (by decide) ?_
            exact W.widen (by omega) (by omega) (hj1666 M324 H locs ls (lv_sub hl [0, 1, 2, 3, 4] rfl) hP hS h)
          clear e_j1663
          refine lv_if_ne (tgt := 1663) hx hb dL_law_1648 (by decide) (fun c327 => ?_) (fun c327 => ?_)
          · replace h := sx_ifn h c327
            exact W.widen (by omega) (by omega) (hj1663 H locs ls (lv_sub hl [2, 3, 4, 5, 6] rfl) hP hS h)
          · replace h := sx_ifp h c327
            refine lv_aload_n hx hb dL_law_1651 rfl (lv_at hl 5 rfl) ?_
            refine lv_iconst (v := (0 : Int32)) hx hb dL_law_1652 (by decide) ?_
            refine sx_lald X hP 30 0 1 (by decide) (fun _ _ => rfl) dL_law_1653 h (fun v328 h => ?_)
            refine lv_iload hx hb dL_law_1654 (lv_at hl 0 rfl) ?_
            refine lv_i2l (v := v323.toInt64) hx hb dL_law_1656 rfl ?_
            refine W.lcmp hx hb dL_law_1657 ?_
            refine lv_if_eq (tgt := 1663) hx hb dL_law_1658 (by decide) (fun c329 => ?_) (fun c329 => ?_)
            · replace h := sx_ifp h c329
              exact W.widen (by omega) (by omega) (hj1663 H locs ls (lv_sub hl [2, 3, 4, 5, 6] rfl) hP hS h)
            · replace h := sx_ifn h c329
              refine lv_iconst (v := (0 : Int32)) hx hb dL_law_1661 (by decide) ?_
              exact absurd (Option.some.inj h) (by decide)
        · replace h := sx_ifn h c326
          refine lv_iconst (v := (0 : Int32)) hx hb dL_law_1644 (by decide) ?_
          exact absurd (Option.some.inj h) (by decide)
      replace h := sx_ifn h c318
      have t_c5 := lv_neT (a := 0) c5 (by decide)
      have t_c17 := lv_neT (a := 1) c17 (by decide)
      have t_c23 := lv_neT (a := 2) c23 (by decide)
      have t_c28 := lv_neT (a := 3) c28 (by decide)
      have t_c38 := lv_neT (a := 4) c38 (by decide)
      have t_c50 := lv_neT (a := 5) c50 (by decide)
      have t_c64 := lv_neT (a := 6) c64 (by decide)
      have t_c78 := lv_neT (a := 7) c78 (by decide)
      have t_c90 := lv_neT (a := 8) c90 (by decide)
      have t_c102 := lv_neT (a := 9) c102 (by decide)
      have t_c122 := lv_neT (a := 10) c122 (by decide)
      have t_c136 := lv_neT (a := 11) c136 (by decide)
      have t_c150 := lv_neT (a := 12) c150 (by decide)
      have t_c164 := lv_neT (a := 13) c164 (by decide)
      have t_c182 := lv_neT (a := 14) c182 (by decide)
      have t_c192 := lv_neT (a := 15) c192 (by decide)
      have t_c202 := lv_neT (a := 16) c202 (by decide)
      have t_c212 := lv_neT (a := 17) c212 (by decide)
      have t_c226 := lv_neT (a := 18) c226 (by decide)
      have t_c238 := lv_neT (a := 19) c238 (by decide)
      have t_c243 := lv_neT (a := 20) c243 (by decide)
      have t_c248 := lv_neT (a := 21) c248 (by decide)
      have t_c254 := lv_neT (a := 22) c254 (by decide)
      have t_c260 := lv_neT (a := 23) c260 (by decide)
      have t_c274 := lv_neT (a := 24) c274 (by decide)
      have t_c290 := lv_neT (a := 25) c290 (by decide)
      have t_c306 := lv_neT (a := 26) c306 (by decide)
      have t_c318 := lv_neT (a := 27) c318 (by decide)
      refine lv_tableOut (tgt := 1666) hx hb dL_law_39 (by omega) (by decide) ?_
      exact W.widen (by omega) (by omega) (hj1666 M H locs ls (lv_sub hl [0, 1, 2, 3, 4] rfl) hP hS h)
