/-! HOW MANY BITS -/
theorem and256 {a b x y : Nat} (ha : a < 256) (hb : b < 256) : (a + 256 * x) &&& (b + 256 * y) = (a &&& b) + 256 * (x &&& y) := by
  have hab : (a &&& b) < 2 ^ 8 := Nat.and_lt_two_pow _ (show b < 2 ^ 8 from hb)
  apply Nat.eq_of_testBit_eq
  intro j
  rw [Nat.testBit_and, Nat.add_comm a, Nat.add_comm b, Nat.add_comm (a &&& b), show (256 : Nat) = 2 ^ 8 from rfl, Nat.testBit_two_pow_mul_add _ (show a < 2 ^ 8 from ha), Nat.testBit_two_pow_mul_add _ (show b < 2 ^ 8 from hb), Nat.testBit_two_pow_mul_add _ hab]
  by_cases h : j < 8
  · rw [if_pos h, if_pos h, if_pos h, Nat.testBit_and]
  · rw [if_neg h, if_neg h, if_neg h, Nat.testBit_and]
def pc1 (c : Nat) : Nat := c - (c / 2 &&& 85)
def pc2 (c : Nat) : Nat := (c &&& 51) + (c / 4 &&& 51)
def pc3 (c : Nat) : Nat := (c + c / 16) &&& 15
theorem pc1_k : ∀ c, c < 256 → ∀ x, x < 2 → ((c / 2 + 128 * x) &&& 85) = (c / 2 &&& 85) ∧ (c / 2 &&& 85) ≤ c := by decide +kernel
theorem pc2_k : ∀ c, c < 256 → ∀ x, x < 4 → ((c / 4 + 64 * x) &&& 51) = (c / 4 &&& 51) := by decide +kernel
theorem pc3_k : ∀ c, c < 69 → ∀ x, x < 5 → ((c + c / 16 + 16 * x) &&& 15) = ((c + c / 16) &&& 15) := by decide +kernel
theorem pc_k : ∀ c, c < 256 → pc3 (pc2 (pc1 c)) = fb_ct (fun i => c.testBit i) 8 ∧ pc1 c < 256 ∧ pc2 (pc1 c) < 69 ∧ pc2 (pc1 c) % 16 < 5 ∧ fb_ct (fun i => c.testBit i) 8 ≤ 8 := by decide +kernel
theorem pc1_step {c n M : Nat} (hc : c < 256) (hM : (n / 2 &&& M) ≤ n) : (c + 256 * n) - ((c + 256 * n) / 2 &&& (85 + 256 * M)) = pc1 c + 256 * (n - (n / 2 &&& M)) ∧ ((c + 256 * n) / 2 &&& (85 + 256 * M)) ≤ c + 256 * n := by
  have e : (c + 256 * n) / 2 = (c / 2 + 128 * (n % 2)) + 256 * (n / 2) := by omega
  obtain ⟨k1, k2⟩ := pc1_k c hc (n % 2) (by omega)
  rw [e, and256 (by omega) (by omega), k1]
  unfold pc1
  omega
theorem pc2_step {c n M : Nat} (hc : c < 256) : ((c + 256 * n) &&& (51 + 256 * M)) + ((c + 256 * n) / 4 &&& (51 + 256 * M)) = pc2 c + 256 * ((n &&& M) + (n / 4 &&& M)) := by
  have e : (c + 256 * n) / 4 = (c / 4 + 64 * (n % 4)) + 256 * (n / 4) := by omega
  have k := pc2_k c hc (n % 4) (by omega)
  rw [e, and256 (by omega) (by omega), and256 (by omega) (by omega), k]
  unfold pc2
  omega
theorem pc3_step {c n M : Nat} (hc : c < 69) (hn : n % 16 < 5) : (((c + 256 * n) + (c + 256 * n) / 16) &&& (15 + 256 * M)) = pc3 c + 256 * ((n + n / 16) &&& M) := by
  have e : (c + 256 * n) + (c + 256 * n) / 16 = (c + c / 16 + 16 * (n % 16)) + 256 * (n + n / 16) := by omega
  have k := pc3_k c hc (n % 16) hn
  rw [e, and256 (by omega) (by omega), k]
  rfl
/-- the whole sum over numbers -/
theorem pc_nat {c0 c1 c2 c3 : Nat} (h0 : c0 < 256) (h1 : c1 < 256) (h2 : c2 < 256) (h3 : c3 < 256) : let n := c0 + 256 * (c1 + 256 * (c2 + 256 * c3))
    (n / 2 &&& 1431655765) ≤ n ∧ (let v1 := n - (n / 2 &&& 1431655765)
      let v2 := (v1 &&& 858993459) + (v1 / 4 &&& 858993459)
      ((v2 + v2 / 16) &&& 252645135) = pc3 (pc2 (pc1 c0)) + 256 * (pc3 (pc2 (pc1 c1)) + 256 * (pc3 (pc2 (pc1 c2)) + 256 * pc3 (pc2 (pc1 c3)))) ∧ v1 < 4294967296 ∧ v2 < 4294967296) := by
  intro n
  obtain ⟨-, a0, b0, d0, -⟩ := pc_k c0 h0
  obtain ⟨-, a1, b1, d1, -⟩ := pc_k c1 h1
  obtain ⟨-, a2, b2, d2, -⟩ := pc_k c2 h2
  obtain ⟨-, a3, b3, d3, -⟩ := pc_k c3 h3
  have t3 : (c3 / 2 &&& 85) ≤ c3 := (pc1_k c3 h3 0 (by omega)).2
  have t2 := pc1_step (c := c2) (n := c3) (M := 85) h2 t3
  have t1 := pc1_step (c := c1) (n := c2 + 256 * c3) (M := 85 + 256 * 85) h1 t2.2
  have t0 := pc1_step (c := c0) (n := c1 + 256 * (c2 + 256 * c3)) (M := 85 + 256 * (85 + 256 * 85)) h0 t1.2
  refine ⟨t0.2, ?_⟩
  have e1 : n - (n / 2 &&& 1431655765) = pc1 c0 + 256 * (pc1 c1 + 256 * (pc1 c2 + 256 * pc1 c3)) := by
    have := t0.1
    rw [t1.1, t2.1] at this
    exact this
  intro v1 v2
  have e1' : v1 = pc1 c0 + 256 * (pc1 c1 + 256 * (pc1 c2 + 256 * pc1 c3)) := e1
  have u2 := pc2_step (c := pc1 c2) (n := pc1 c3) (M := 51) a2
  have u1 := pc2_step (c := pc1 c1) (n := pc1 c2 + 256 * pc1 c3) (M := 51 + 256 * 51) a1
  have u0 := pc2_step (c := pc1 c0) (n := pc1 c1 + 256 * (pc1 c2 + 256 * pc1 c3)) (M := 51 + 256 * (51 + 256 * 51)) a0
  have e2 : v2 = pc2 (pc1 c0) + 256 * (pc2 (pc1 c1) + 256 * (pc2 (pc1 c2) + 256 * pc2 (pc1 c3))) := by
    rw [u1, u2] at u0
    show (v1 &&& 858993459) + (v1 / 4 &&& 858993459) = _
    rw [e1']
    exact u0
  have w2 := pc3_step (c := pc2 (pc1 c2)) (n := pc2 (pc1 c3)) (M := 15) b2 d3
  have w1 := pc3_step (c := pc2 (pc1 c1)) (n := pc2 (pc1 c2) + 256 * pc2 (pc1 c3)) (M := 15 + 256 * 15) b1 (by omega)
  have w0 := pc3_step (c := pc2 (pc1 c0)) (n := pc2 (pc1 c1) + 256 * (pc2 (pc1 c2) + 256 * pc2 (pc1 c3))) (M := 15 + 256 * (15 + 256 * 15)) b0 (by omega)
  refine ⟨?_, by rw [e1']; omega, by rw [e2]; omega⟩
  rw [w1, w2] at w0
  rw [e2]
  exact w0
theorem bt_nI (n : Nat) {i : Nat} (hi : i < 32) : bt (nI n) i = n.testBit i := by
  show (BitVec.ofNat 32 n).getLsbD i = _
  rw [BitVec.getLsbD_ofNat]
  simp [hi]
theorem nI_ush {n k : Nat} (hn : n < 4294967296) (hk : k < 32) : ((nI n).toUInt32 >>> ((nI k).toUInt32 &&& Int32.toUInt32 31)).toInt32 = nI (n / 2 ^ k) := by
  refine b_ext (fun i hi => ?_)
  rw [b_ushr k hk, bt_nI _ hi, Nat.testBit_div_two_pow]
  by_cases h : k + i < 32
  · rw [bt_nI _ h, Nat.add_comm]
  · rw [b_big (by omega)]
    symm
    exact Nat.testBit_lt_two_pow (Nat.lt_of_lt_of_le hn (by rw [show 4294967296 = 2 ^ 32 from rfl]; exact Nat.pow_le_pow_right (by omega) (by omega)))
theorem fb_ct_byte {c n : Nat} (hc : c < 256) (m : Nat) : fb_ct (fun i => (c + 256 * n).testBit i) (8 + m) = fb_ct (fun i => c.testBit i) 8 + fb_ct (fun i => n.testBit i) m := by
  have hb : ∀ j, (c + 256 * n).testBit j = if j < 8 then c.testBit j else n.testBit (j - 8) := fun j => by
    rw [Nat.add_comm, show (256 : Nat) = 2 ^ 8 from rfl, Nat.testBit_two_pow_mul_add _ (show c < 2 ^ 8 from hc)]
  rw [fb_ct_split]
  congr 1
  · exact fb_ct_cong (fun k hk => by rw [hb, if_pos hk])
  · exact fb_ct_cong (fun k hk => by rw [hb, if_neg (by omega), Nat.add_sub_cancel_left])
theorem wJ_bitCount (x : Int32) (M : sx_M) : fJ6_bitCount_0f7a4 x M = some (nI (fb_ct (bt x) 32)) := by
  obtain ⟨n, hn, rfl⟩ : ∃ n, n < 4294967296 ∧ x = nI n := ⟨x.toBitVec.toNat, x.toBitVec.isLt, Int32.toBitVec_inj.mp (by show _ = BitVec.ofNat 32 _; simp)⟩
  obtain ⟨c0, c1, c2, c3, h0, h1, h2, h3, rfl⟩ : ∃ c0 c1 c2 c3 : Nat, c0 < 256 ∧ c1 < 256 ∧ c2 < 256 ∧ c3 < 256 ∧ n = c0 + 256 * (c1 + 256 * (c2 + 256 * c3)) := ⟨n % 256, n / 256 % 256, n / 65536 % 256, n / 16777216, by omega, by omega, by omega, by omega, by omega⟩
  have hct : fb_ct (bt (nI (c0 + 256 * (c1 + 256 * (c2 + 256 * c3))))) 32 = fb_ct (fun i => c0.testBit i) 8 + (fb_ct (fun i => c1.testBit i) 8 + (fb_ct (fun i => c2.testBit i) 8 + fb_ct (fun i => c3.testBit i) 8)) := by
    rw [fb_ct_cong (q := fun i => (c0 + 256 * (c1 + 256 * (c2 + 256 * c3))).testBit i) (fun k hk => bt_nI _ hk)]
    rw [show (32 : Nat) = 8 + 24 from rfl, fb_ct_byte h0, show (24 : Nat) = 8 + 16 from rfl, fb_ct_byte h1, show (16 : Nat) = 8 + 8 from rfl, fb_ct_byte h2]
  obtain ⟨k0, -, -, -, m0⟩ := pc_k c0 h0
  obtain ⟨k1, -, -, -, m1⟩ := pc_k c1 h1
  obtain ⟨k2, -, -, -, m2⟩ := pc_k c2 h2
  obtain ⟨k3, -, -, -, m3⟩ := pc_k c3 h3
  obtain ⟨p1, p2, p3, p4⟩ := pc_nat h0 h1 h2 h3
  rw [k0, k1, k2, k3] at p2
  rw [hct]
  generalize fb_ct (fun i => c0.testBit i) 8 = f0 at *
  generalize fb_ct (fun i => c1.testBit i) 8 = f1 at *
  generalize fb_ct (fun i => c2.testBit i) 8 = f2 at *
  generalize fb_ct (fun i => c3.testBit i) 8 = f3 at *
  generalize c0 + 256 * (c1 + 256 * (c2 + 256 * c3)) = n at *
  refine wp_get ?_
  rw [fJ6_bitCount_0f7a4]
  have s1 : nI n - (((nI n).toUInt32 >>> ((1 : Int32).toUInt32 &&& Int32.toUInt32 31)).toInt32 &&& (1431655765 : Int32)) = nI (n - (n / 2 &&& 1431655765)) := by
    rw [show (1 : Int32) = nI 1 from rfl, nI_ush hn (by omega), show (1431655765 : Int32) = nI 1431655765 from rfl, fa_and, nI_sub p1]
  rw [s1]
  generalize n - (n / 2 &&& 1431655765) = v1 at *
  have s2 : (nI v1 &&& (858993459 : Int32)) + (((nI v1).toUInt32 >>> ((2 : Int32).toUInt32 &&& Int32.toUInt32 31)).toInt32 &&& (858993459 : Int32)) = nI ((v1 &&& 858993459) + (v1 / 4 &&& 858993459)) := by
    rw [show (2 : Int32) = nI 2 from rfl, nI_ush p3 (by omega), show (858993459 : Int32) = nI 858993459 from rfl, fa_and, fa_and, nI_add]
  with_reducible refine wp_bd ?_
  rw [s2]
  generalize (v1 &&& 858993459) + (v1 / 4 &&& 858993459) = v2 at *
  have s3 : (nI v2 + ((nI v2).toUInt32 >>> ((4 : Int32).toUInt32 &&& Int32.toUInt32 31)).toInt32) &&& (252645135 : Int32) = nI ((v2 + v2 / 16) &&& 252645135) := by
    rw [show (4 : Int32) = nI 4 from rfl, nI_ush p4 (by omega), show (252645135 : Int32) = nI 252645135 from rfl, nI_add, fa_and]
  with_reducible refine wp_bd ?_
  rw [s3, p2]
  generalize hv3 : f0 + 256 * (f1 + 256 * (f2 + 256 * f3)) = v3
  have s4 : nI v3 + ((nI v3).toUInt32 >>> ((8 : Int32).toUInt32 &&& Int32.toUInt32 31)).toInt32 = nI (v3 + v3 / 256) := by
    rw [show (8 : Int32) = nI 8 from rfl, nI_ush (by omega) (by omega), nI_add]
  with_reducible refine wp_bd ?_
  rw [s4]
  generalize hv4 : v3 + v3 / 256 = v4
  have s5 : nI v4 + ((nI v4).toUInt32 >>> ((16 : Int32).toUInt32 &&& Int32.toUInt32 31)).toInt32 = nI (v4 + v4 / 65536) := by
    rw [show (16 : Int32) = nI 16 from rfl, nI_ush (by omega) (by omega), nI_add]
  with_reducible refine wp_bd ?_
  rw [s5]
  with_reducible refine wp_bd ?_
  refine wp_some ?_
  rw [show (63 : Int32) = nI (2 ^ 6 - 1) from rfl, fa_mask]
  congr 1
  have q1 : v3 / 256 = f1 + 256 * (f2 + 256 * f3) := by omega
  have q2 : v4 = (f0 + f1) + 256 * (f1 + f2) + 65536 * ((f2 + f3) + 256 * f3) := by omega
  have q3 : v4 / 65536 = (f2 + f3) + 256 * f3 := by omega
  rw [q3, q2]
  clear p2 s5 s4 s3 s2 s1
  omega
