/-! ===== how many bits: the reference's loop ===== -/
theorem m_ones (x : Int32) : f_X4_ones x = some (nI (fb_ct (bt x) 12)) := by
  unfold f_X4_ones
  refine lp_q (F := fun n (y : Int32) i => f_X4_ones_4 n x y i) (J := fun c y => y = nI (fb_ct (bt x) c)) (N := 12) (Q := fun o => o = some (nI (fb_ct (bt x) 12))) ?_ ?_ 0 tfu 0 (Nat.zero_le _) (tfu_gt (by omega)) rfl
  · intro n y hy
    show f_X4_ones_4 (n + 1) x y (nI 12) = _
    rw [f_X4_ones_4, if_pos (show (12 : Int32) ≤ nI 12 from nI_le (a := 12) (b := 12) (by omega) (by omega)), hy]
  · intro n y c hc hy ih
    show f_X4_ones_4 (n + 1) x y (nI c) = _
    rw [f_X4_ones_4, if_neg (show ¬ (12 : Int32) ≤ nI c from nI_ge (a := c) (b := 12) hc (by omega)), b_look (by omega)]
    simp only [tlet, nI_1]
    refine ih _ ?_
    rw [fb_ct_succ, hy, ← nI_add]
    cases bt x c <;> rfl
/-! ===== the JDK's Integer.bitCount, for sets of changes ===== -/
theorem bt_nI (n i : Nat) (hi : i < 32) : bt (nI n) i = n.testBit i := by
  show (BitVec.ofNat 32 n).getLsbD i = _
  rw [BitVec.getLsbD_ofNat]
  simp [hi]
theorem okS_big {a : AB} (hI : Inv a) {S : Int32} (h : okS a S) : ∀ i, 12 ≤ i → bt S i = false := by
  intro i hi
  cases hb : bt S i
  · rfl
  · have := h i hb
    have := hI.nC
    omega
/-! ===== the JDK's Long.bitCount ===== -/
theorem an_split {m k : Nat} (x : Nat) (hk : k < 256) : x &&& (256 * m + k) = 256 * (x / 256 &&& m) + (x % 256 &&& k) := by
  have h1 := Nat.and_div_two_pow (a := x) (b := 256 * m + k) (n := 8)
  have h2 := Nat.and_mod_two_pow (a := x) (b := 256 * m + k) (n := 8)
  have e1 : (256 * m + k) / 2 ^ 8 = m := by show (256 * m + k) / 256 = m; omega
  have e2 : (256 * m + k) % 2 ^ 8 = k := by show (256 * m + k) % 256 = k; omega
  rw [e1] at h1
  rw [e2] at h2
  have h1 : (x &&& (256 * m + k)) / 256 = x / 256 &&& m := h1
  have h2 : (x &&& (256 * m + k)) % 256 = x % 256 &&& k := h2
  omega
def q_m (b : Nat) : Nat → Nat
  | 0 => 0
  | k + 1 => 256 * q_m b k + b
def q_A (k n : Nat) : Nat := n - (n / 2 &&& q_m 0x55 k)
def q_B (k n : Nat) : Nat := (n &&& q_m 0x33 k) + (n / 4 &&& q_m 0x33 k)
def q_C (k n : Nat) : Nat := (n + n / 16) &&& q_m 0x0f k
def q_p (r : Nat) : Nat := fb_ct (fun i => r.testBit i) 8
theorem q_55 : ∀ s : Fin 2, ∀ t : Fin 128, (128 * s.val + t.val) &&& 0x55 = t.val &&& 0x55 := by decide +kernel
theorem q_33 : ∀ s : Fin 4, ∀ t : Fin 64, (64 * s.val + t.val) &&& 0x33 = t.val &&& 0x33 := by decide +kernel
theorem q_by : ∀ r : Fin 256, (r.val - (r.val / 2 &&& 0x55) < 256) ∧ ((r.val - (r.val / 2 &&& 0x55)) &&& 0x33) + ((r.val - (r.val / 2 &&& 0x55)) / 4 &&& 0x33) ≤ 0x44 ∧ (((r.val - (r.val / 2 &&& 0x55)) &&& 0x33) + ((r.val - (r.val / 2 &&& 0x55)) / 4 &&& 0x33)) % 16 ≤ 4 ∧ ((((r.val - (r.val / 2 &&& 0x55)) &&& 0x33) + ((r.val - (r.val / 2 &&& 0x55)) / 4 &&& 0x33)) + (((r.val - (r.val / 2 &&& 0x55)) &&& 0x33) + ((r.val - (r.val / 2 &&& 0x55)) / 4 &&& 0x33)) / 16) &&& 0x0f = q_p r.val ∧ q_p r.val ≤ 8 := by decide +kernel
def q_a (r : Nat) : Nat := r - (r / 2 &&& 0x55)
def q_b (r : Nat) : Nat := (q_a r &&& 0x33) + (q_a r / 4 &&& 0x33)
theorem q_by' {r : Nat} (h : r < 256) : q_a r < 256 ∧ q_b r ≤ 0x44 ∧ q_b r % 16 ≤ 4 ∧ (q_b r + q_b r / 16) &&& 0x0f = q_p r ∧ q_p r ≤ 8 := q_by ⟨r, h⟩
theorem q_A_s (k n : Nat) : q_A (k + 1) n = 256 * q_A k (n / 256) + q_a (n % 256) := by
  unfold q_A
  rw [q_m, an_split _ (by decide)]
  have e1 : n / 2 / 256 = n / 256 / 2 := by omega
  have e2 : n / 2 % 256 = 128 * (n / 256 % 2) + n % 256 / 2 := by omega
  have e3 := q_55 ⟨n / 256 % 2, by omega⟩ ⟨n % 256 / 2, by omega⟩
  dsimp only at e3
  rw [e1, e2, e3]
  have h1 : n / 256 / 2 &&& q_m 0x55 k ≤ n / 256 / 2 := Nat.and_le_left
  have h2 : n % 256 / 2 &&& 0x55 ≤ n % 256 / 2 := Nat.and_le_left
  unfold q_a
  omega
theorem q_B_s (k n : Nat) : q_B (k + 1) n = 256 * q_B k (n / 256) + ((n % 256 &&& 0x33) + (n % 256 / 4 &&& 0x33)) := by
  unfold q_B
  rw [q_m, an_split n (by decide), an_split (n / 4) (by decide)]
  have e1 : n / 4 / 256 = n / 256 / 4 := by omega
  have e2 : n / 4 % 256 = 64 * (n / 256 % 4) + n % 256 / 4 := by omega
  have e3 := q_33 ⟨n / 256 % 4, by omega⟩ ⟨n % 256 / 4, by omega⟩
  dsimp only at e3
  rw [e1, e2, e3]
  omega
theorem q_C_s (k n : Nat) (h1 : n % 256 ≤ 0x44) (h2 : n / 256 % 16 ≤ 4) : q_C (k + 1) n = 256 * q_C k (n / 256) + ((n % 256 + n % 256 / 16) &&& 0x0f) := by
  unfold q_C
  rw [q_m, an_split _ (by decide)]
  have e1 : (n + n / 16) / 256 = n / 256 + n / 256 / 16 := by omega
  rw [e1]
  congr 1
  have e2 : (n + n / 16) % 256 = 16 * (n / 256 % 16) + (n % 256 + n % 256 / 16) := by omega
  rw [e2]
  have m1 : ∀ z : Nat, z &&& 0x0f = z % 16 := fun z => Nat.and_two_pow_sub_one_eq_mod z 4
  rw [m1, m1]
  omega
theorem q_AB (k n : Nat) : q_B (k + 1) (q_A (k + 1) n) = 256 * q_B k (q_A k (n / 256)) + q_b (n % 256) := by
  have h := (q_by' (show n % 256 < 256 by omega)).1
  rw [q_B_s, q_A_s]
  have e1 : (256 * q_A k (n / 256) + q_a (n % 256)) / 256 = q_A k (n / 256) := by omega
  have e2 : (256 * q_A k (n / 256) + q_a (n % 256)) % 256 = q_a (n % 256) := by omega
  rw [e1, e2]
  rfl
theorem q_low (k n : Nat) : q_B k (q_A k n) % 16 ≤ 4 := by
  cases k with
  | zero => simp [q_B, q_m]
  | succ k =>
    have h := (q_by' (show n % 256 < 256 by omega))
    rw [q_AB]
    omega
theorem q_ABC (k n : Nat) : q_C (k + 1) (q_B (k + 1) (q_A (k + 1) n)) = 256 * q_C k (q_B k (q_A k (n / 256))) + q_p (n % 256) := by
  have h := (q_by' (show n % 256 < 256 by omega))
  have hl := q_low k (n / 256)
  have e1 : q_B (k + 1) (q_A (k + 1) n) / 256 = q_B k (q_A k (n / 256)) := by rw [q_AB]; omega
  have e2 : q_B (k + 1) (q_A (k + 1) n) % 256 = q_b (n % 256) := by rw [q_AB]; omega
  rw [q_C_s _ _ (by rw [e2]; exact h.2.1) (by rw [e1]; exact hl), e1, e2, h.2.2.2.1]
theorem q_ct (k n : Nat) : fb_ct (fun i => n.testBit i) (8 * (k + 1)) = q_p (n % 256) + fb_ct (fun i => (n / 256).testBit i) (8 * k) := by
  rw [show 8 * (k + 1) = 8 + 8 * k by omega, fb_ct_split]
  congr 1
  · unfold q_p
    refine fb_ct_cong (fun i hi => ?_)
    show n.testBit i = (n % 2 ^ 8).testBit i
    rw [Nat.testBit_mod_two_pow]
    simp [hi]
  · refine fb_ct_cong (fun i hi => ?_)
    show n.testBit (8 + i) = (n / 2 ^ 8).testBit i
    rw [Nat.testBit_div_two_pow, Nat.add_comm]
theorem q_k1 {c c1 p0 : Nat} (hc : c = 256 * c1 + p0) (b0 : p0 ≤ 8) : c / 256 = c1 := by omega
theorem q_k2 {c c1 c2 c3 p0 p1 p2 : Nat} (hc : c = 256 * c1 + p0) (h1 : c1 = 256 * c2 + p1) (h2 : c2 = 256 * c3 + p2) (b0 : p0 ≤ 8) (b1 : p1 ≤ 8) (b2 : p2 ≤ 8) : (c + c1) / 65536 = c2 + c3 := by
  have e : c + c1 = 65536 * (c2 + c3) + (256 * (p1 + p2) + p0 + p1) := by omega
  generalize c2 + c3 = T at *
  rw [e]
  clear e hc h1 h2
  omega
theorem q_m4 {c c1 c2 c3 c4 p0 p1 p2 p3 : Nat} (hc : c = 256 * c1 + p0) (h1 : c1 = 256 * c2 + p1) (h2 : c2 = 256 * c3 + p2) (h3 : c3 = 256 * c4 + p3) (b0 : p0 ≤ 8) (b1 : p1 ≤ 8) (b2 : p2 ≤ 8) (b3 : p3 ≤ 8) : ∃ R, R ≤ 134744072 ∧ c = 4294967296 * c4 + R := ⟨p0 + 256 * p1 + 65536 * p2 + 16777216 * p3, by omega, by omega⟩
theorem q_k4 {T R : Nat} (h : R < 4294967296) : (4294967296 * T + R) / 4294967296 = T := by omega
theorem q_bd {c c1 p B : Nat} (h : c = 256 * c1 + p) (h1 : c1 ≤ B) (b : p ≤ 8) : c ≤ 256 * B + 8 := by omega
theorem q_sum {c c1 c2 c3 c4 c5 c6 c7 c8 p0 p1 p2 p3 p4 p5 p6 p7 : Nat} (hc : c = 256 * c1 + p0) (h1 : c1 = 256 * c2 + p1) (h2 : c2 = 256 * c3 + p2) (h3 : c3 = 256 * c4 + p3) (h4 : c4 = 256 * c5 + p4) (h5 : c5 = 256 * c6 + p5) (h6 : c6 = 256 * c7 + p6) (h7 : c7 = 256 * c8 + p7) : c + c1 + c2 + c3 + (c4 + c5 + c6 + c7) = 256 * (c1 + c2 + c3 + c4 + c5 + c6 + c7 + c8) + (p0 + (p1 + (p2 + (p3 + (p4 + (p5 + (p6 + (p7 + 0)))))))) := by
  rw [Nat.mul_add, Nat.mul_add, Nat.mul_add, Nat.mul_add, Nat.mul_add, Nat.mul_add, Nat.mul_add]
  generalize 256 * c1 = y1 at *
  generalize 256 * c2 = y2 at *
  generalize 256 * c3 = y3 at *
  generalize 256 * c4 = y4 at *
  generalize 256 * c5 = y5 at *
  generalize 256 * c6 = y6 at *
  generalize 256 * c7 = y7 at *
  generalize 256 * c8 = y8 at *
  subst hc h1 h2 h3 h4 h5 h6 h7
  omega
theorem q_m128 {X P : Nat} (h : P ≤ 64) : (256 * X + P) % 128 = P := by omega
theorem q_fin {c p0 p1 p2 p3 p4 p5 p6 p7 : Nat} (hc : c = 256 * (256 * (256 * (256 * (256 * (256 * (256 * (256 * 0 + p7) + p6) + p5) + p4) + p3) + p2) + p1) + p0) (b0 : p0 ≤ 8) (b1 : p1 ≤ 8) (b2 : p2 ≤ 8) (b3 : p3 ≤ 8) (b4 : p4 ≤ 8) (b5 : p5 ≤ 8) (b6 : p6 ≤ 8) (b7 : p7 ≤ 8) : c < 1152921504606846976 ∧ ∀ d e f, d = c + c / 256 → e = d + d / 65536 → f = e + e / 4294967296 → f < 18446744073709551616 ∧ f % 128 = p0 + (p1 + (p2 + (p3 + (p4 + (p5 + (p6 + (p7 + 0))))))) := by
  obtain ⟨c8, h8⟩ : ∃ x : Nat, x = 0 := ⟨_, rfl⟩
  rw [← h8] at hc
  obtain ⟨c7, h7⟩ : ∃ x, x = 256 * c8 + p7 := ⟨_, rfl⟩
  rw [← h7] at hc
  obtain ⟨c6, h6⟩ : ∃ x, x = 256 * c7 + p6 := ⟨_, rfl⟩
  rw [← h6] at hc
  obtain ⟨c5, h5⟩ : ∃ x, x = 256 * c6 + p5 := ⟨_, rfl⟩
  rw [← h5] at hc
  obtain ⟨c4, h4⟩ : ∃ x, x = 256 * c5 + p4 := ⟨_, rfl⟩
  rw [← h4] at hc
  obtain ⟨c3, h3⟩ : ∃ x, x = 256 * c4 + p3 := ⟨_, rfl⟩
  rw [← h3] at hc
  obtain ⟨c2, h2⟩ : ∃ x, x = 256 * c3 + p2 := ⟨_, rfl⟩
  rw [← h2] at hc
  obtain ⟨c1, h1⟩ : ∃ x, x = 256 * c2 + p1 := ⟨_, rfl⟩
  rw [← h1] at hc
  obtain ⟨R4, r4, m4⟩ := q_m4 h4 h5 h6 h7 b4 b5 b6 b7
  obtain ⟨R0, r0, m0⟩ := q_m4 hc h1 h2 h3 b0 b1 b2 b3
  obtain ⟨R1, r1, m1⟩ := q_m4 h1 h2 h3 h4 b1 b2 b3 b4
  obtain ⟨R2, r2, m2⟩ := q_m4 h2 h3 h4 h5 b2 b3 b4 b5
  obtain ⟨R3, r3, m3⟩ := q_m4 h3 h4 h5 h6 b3 b4 b5 b6
  have k1 := q_k1 hc b0
  have k2 := q_k2 hc h1 h2 b0 b1 b2
  have z7 := q_bd h7 (Nat.le_of_eq h8) b7
  have z6 := q_bd h6 z7 b6
  have z5 := q_bd h5 z6 b5
  have z4 := q_bd h4 z5 b4
  have sm := q_sum hc h1 h2 h3 h4 h5 h6 h7
  clear hc h1 h2 h3 h4 h5 h6 h7 m4 r4
  refine ⟨?_, ?_⟩
  · clear sm k1 k2 m1 m2 m3
    omega
  · intro d e f hd he hf
    rw [k1] at hd
    rw [hd, k2] at he
    have ee : e = 4294967296 * (c4 + c5 + c6 + c7) + (R0 + R1 + R2 + R3) := by
      rw [he, m0, m1, m2, m3]
      clear sm k1 k2 hd he hf
      omega
    have fe : f = c + c1 + c2 + c3 + (c4 + c5 + c6 + c7) := by
      rw [hf]
      rw [show e / 4294967296 = c4 + c5 + c6 + c7 by rw [ee]; exact q_k4 (by clear sm k1 k2 hd he hf ee; omega)]
      rw [he]
      clear sm k1 k2 hd hf ee m0 m1 m2 m3
      omega
    refine ⟨?_, ?_⟩
    · rw [hf, show e / 4294967296 = c4 + c5 + c6 + c7 by rw [ee]; exact q_k4 (by clear sm k1 k2 hd he hf ee fe; omega), ee]
      clear sm k1 k2 hd he hf ee fe m0 m1 m2 m3
      omega
    · rw [fe, sm]
      exact q_m128 (by clear sm k1 k2 hd he hf ee fe m0 m1 m2 m3; omega)
theorem q_end {c n : Nat} (hc : c = q_C 8 (q_B 8 (q_A 8 n))) (hn : n < 2 ^ 64) : c < 1152921504606846976 ∧ ∀ d e f, d = c + c / 256 → e = d + d / 65536 → f = e + e / 4294967296 → f < 18446744073709551616 ∧ f % 128 = fb_ct (fun i => n.testBit i) 64 := by
  rw [q_ABC, q_ABC, q_ABC, q_ABC, q_ABC, q_ABC, q_ABC, q_ABC] at hc
  have hz : ∀ m, q_C 0 m = 0 := fun m => by simp [q_C, q_m]
  rw [hz] at hc
  have ec : fb_ct (fun i => n.testBit i) 64 = _ := (q_ct 7 n).trans (by rw [q_ct 6, q_ct 5, q_ct 4, q_ct 3, q_ct 2, q_ct 1, q_ct 0])
  rw [ec]
  have b0 := (q_by' (show n % 256 < 256 by omega)).2.2.2.2
  have b1 := (q_by' (show n / 256 % 256 < 256 by omega)).2.2.2.2
  have b2 := (q_by' (show n / 256 / 256 % 256 < 256 by omega)).2.2.2.2
  have b3 := (q_by' (show n / 256 / 256 / 256 % 256 < 256 by omega)).2.2.2.2
  have b4 := (q_by' (show n / 256 / 256 / 256 / 256 % 256 < 256 by omega)).2.2.2.2
  have b5 := (q_by' (show n / 256 / 256 / 256 / 256 / 256 % 256 < 256 by omega)).2.2.2.2
  have b6 := (q_by' (show n / 256 / 256 / 256 / 256 / 256 / 256 % 256 < 256 by omega)).2.2.2.2
  have b7 := (q_by' (show n / 256 / 256 / 256 / 256 / 256 / 256 / 256 % 256 < 256 by omega)).2.2.2.2
  generalize q_p (n % 256) = p0 at *
  generalize q_p (n / 256 % 256) = p1 at *
  generalize q_p (n / 256 / 256 % 256) = p2 at *
  generalize q_p (n / 256 / 256 / 256 % 256) = p3 at *
  generalize q_p (n / 256 / 256 / 256 / 256 % 256) = p4 at *
  generalize q_p (n / 256 / 256 / 256 / 256 / 256 % 256) = p5 at *
  generalize q_p (n / 256 / 256 / 256 / 256 / 256 / 256 % 256) = p6 at *
  generalize q_p (n / 256 / 256 / 256 / 256 / 256 / 256 / 256 % 256) = p7 at *
  have e0 : fb_ct (fun i => (n / 256 / 256 / 256 / 256 / 256 / 256 / 256 / 256).testBit i) (8 * 0) = 0 := rfl
  rw [e0]
  exact q_fin hc b0 b1 b2 b3 b4 b5 b6 b7
def uL (x : Int64) : Nat := x.toBitVec.toNat
theorem uL_lt (x : Int64) : uL x < 18446744073709551616 := x.toBitVec.isLt
theorem uL_sub {x y : Int64} (h : uL y ≤ uL x) : uL (x - y) = uL x - uL y := by
  unfold uL at *
  rw [Int64.toBitVec_sub, BitVec.toNat_sub_of_le (by rw [BitVec.le_def]; exact h)]
theorem uL_add {x y : Int64} (h : uL x + uL y < 18446744073709551616) : uL (x + y) = uL x + uL y := by
  unfold uL at *
  rw [Int64.toBitVec_add, BitVec.toNat_add, Nat.mod_eq_of_lt h]
theorem uL_and (x y : Int64) : uL (x &&& y) = uL x &&& uL y := by
  unfold uL
  rw [Int64.toBitVec_and, BitVec.toNat_and]
theorem uL_shr {n : Nat} (hn : n < 64) (x : Int64) : uL ((x.toUInt64 >>> ((nI n).toInt64.toUInt64 &&& Int64.toUInt64 63)).toInt64) = uL x / 2 ^ n := by
  show (x.toUInt64 >>> ((nI n).toInt64.toUInt64 &&& Int64.toUInt64 63)).toBitVec.toNat = _
  rw [UInt64.toBitVec_shiftRight]
  show (x.toUInt64.toBitVec >>> (((nI n).toInt64.toUInt64 &&& Int64.toUInt64 63).toBitVec % 64).toNat).toNat = _
  rw [l_su n hn, BitVec.toNat_ushiftRight, Nat.shiftRight_eq_div_pow]
  rfl
theorem bl_uL (x : Int64) (i : Nat) : bl x i = (uL x).testBit i := rfl
theorem b_127 : ∀ i, i < 32 → bt 127 i = decide (i < 7) := by decide +kernel
theorem b_63 : ∀ i, i < 32 → bt 63 i = decide (i < 6) := by decide +kernel
theorem bt_l2i (x : Int64) {i : Nat} (hi : i < 32) : bt x.toInt32 i = bl x i := by
  show (x.toBitVec.signExtend 32).getLsbD i = x.toBitVec.getLsbD i
  rw [BitVec.getLsbD_signExtend]
  simp [hi]
  omega
theorem l_127 (x : Int64) : x.toInt32 &&& 127 = nI (uL x % 128) := by
  refine b_ext (fun i hi => ?_)
  rw [b_and, bt_l2i x hi, b_127 i hi, bt_nI _ _ hi, bl_uL, show (128 : Nat) = 2 ^ 7 from rfl, Nat.testBit_mod_two_pow, Bool.and_comm]
theorem j13_count (x : Int64) : f_J13_bitCount_95d88 x = some (nI (fb_ct (bl x) 64)) := by
  unfold f_J13_bitCount_95d88
  simp only [tlet]
  obtain ⟨n, hn⟩ : ∃ n, n = uL x := ⟨_, rfl⟩
  have hlt := uL_lt x
  rw [← hn] at hlt
  have hA : uL (x - (((x.toUInt64 >>> ((1 : Int32).toInt64.toUInt64 &&& Int64.toUInt64 63)).toInt64) &&& (6148914691236517205 : Int64))) = q_A 8 n := by
    have e1 := uL_shr (n := 1) (by omega) x
    have e2 : uL (((x.toUInt64 >>> ((1 : Int32).toInt64.toUInt64 &&& Int64.toUInt64 63)).toInt64) &&& (6148914691236517205 : Int64)) = n / 2 &&& q_m 0x55 8 := by
      rw [uL_and]
      show uL ((x.toUInt64 >>> ((nI 1).toInt64.toUInt64 &&& Int64.toUInt64 63)).toInt64) &&& 6148914691236517205 = _
      rw [e1, ← hn]; rfl
    have e3 : n / 2 &&& q_m 0x55 8 ≤ n / 2 := Nat.and_le_left
    rw [uL_sub (by rw [e2, ← hn]; omega), e2, ← hn]; rfl
  obtain ⟨j1, h1⟩ : ∃ j1, j1 = x - (((x.toUInt64 >>> ((1 : Int32).toInt64.toUInt64 &&& Int64.toUInt64 63)).toInt64) &&& (6148914691236517205 : Int64)) := ⟨_, rfl⟩
  rw [← h1] at hA ⊢
  have hB : uL ((j1 &&& (3689348814741910323 : Int64)) + (((j1.toUInt64 >>> ((2 : Int32).toInt64.toUInt64 &&& Int64.toUInt64 63)).toInt64) &&& (3689348814741910323 : Int64))) = q_B 8 (q_A 8 n) := by
    have e1 := uL_shr (n := 2) (by omega) j1
    have e2 : uL (((j1.toUInt64 >>> ((2 : Int32).toInt64.toUInt64 &&& Int64.toUInt64 63)).toInt64) &&& (3689348814741910323 : Int64)) = q_A 8 n / 4 &&& q_m 0x33 8 := by
      rw [uL_and]
      show uL ((j1.toUInt64 >>> ((nI 2).toInt64.toUInt64 &&& Int64.toUInt64 63)).toInt64) &&& 3689348814741910323 = _
      rw [e1, hA]; rfl
    have e3 : uL (j1 &&& (3689348814741910323 : Int64)) = q_A 8 n &&& q_m 0x33 8 := by rw [uL_and, hA]; rfl
    have e4 : q_A 8 n / 4 &&& q_m 0x33 8 ≤ q_m 0x33 8 := Nat.and_le_right
    have e5 : q_A 8 n &&& q_m 0x33 8 ≤ q_m 0x33 8 := Nat.and_le_right
    have e6 : q_m 0x33 8 = 3689348814741910323 := by decide
    rw [uL_add (by rw [e2, e3]; omega), e2, e3]; rfl
  obtain ⟨j2, h2⟩ : ∃ j2, j2 = (j1 &&& (3689348814741910323 : Int64)) + (((j1.toUInt64 >>> ((2 : Int32).toInt64.toUInt64 &&& Int64.toUInt64 63)).toInt64) &&& (3689348814741910323 : Int64)) := ⟨_, rfl⟩
  rw [← h2] at hB ⊢
  have hB2 : q_B 8 (q_A 8 n) ≤ 7378697629483820646 := by
    have e4 : q_A 8 n / 4 &&& q_m 0x33 8 ≤ q_m 0x33 8 := Nat.and_le_right
    have e5 : q_A 8 n &&& q_m 0x33 8 ≤ q_m 0x33 8 := Nat.and_le_right
    have e6 : q_m 0x33 8 = 3689348814741910323 := by decide
    unfold q_B
    omega
  have hC : uL ((j2 + ((j2.toUInt64 >>> ((4 : Int32).toInt64.toUInt64 &&& Int64.toUInt64 63)).toInt64)) &&& (1085102592571150095 : Int64)) = q_C 8 (q_B 8 (q_A 8 n)) := by
    have e1 : uL ((j2.toUInt64 >>> ((4 : Int32).toInt64.toUInt64 &&& Int64.toUInt64 63)).toInt64) = q_B 8 (q_A 8 n) / 16 := by rw [← hB]; exact uL_shr (n := 4) (by omega) j2
    rw [uL_and, uL_add (by rw [e1, hB]; omega), e1, hB]; rfl
  obtain ⟨j3, h3⟩ : ∃ j3, j3 = (j2 + ((j2.toUInt64 >>> ((4 : Int32).toInt64.toUInt64 &&& Int64.toUInt64 63)).toInt64)) &&& (1085102592571150095 : Int64) := ⟨_, rfl⟩
  rw [← h3] at hC ⊢
  obtain ⟨g1, g2⟩ := q_end hC hlt
  have hDe : uL (j3 + ((j3.toUInt64 >>> ((8 : Int32).toInt64.toUInt64 &&& Int64.toUInt64 63)).toInt64)) = uL j3 + uL j3 / 256 := by
    have e1 : uL ((j3.toUInt64 >>> ((8 : Int32).toInt64.toUInt64 &&& Int64.toUInt64 63)).toInt64) = uL j3 / 256 := uL_shr (n := 8) (by omega) j3
    rw [uL_add (by rw [e1]; omega), e1]
  obtain ⟨j4, h4⟩ : ∃ j4, j4 = j3 + ((j3.toUInt64 >>> ((8 : Int32).toInt64.toUInt64 &&& Int64.toUInt64 63)).toInt64) := ⟨_, rfl⟩
  rw [← h4] at hDe ⊢
  have hEe : uL (j4 + ((j4.toUInt64 >>> ((16 : Int32).toInt64.toUInt64 &&& Int64.toUInt64 63)).toInt64)) = uL j4 + uL j4 / 65536 := by
    have e1 : uL ((j4.toUInt64 >>> ((16 : Int32).toInt64.toUInt64 &&& Int64.toUInt64 63)).toInt64) = uL j4 / 65536 := uL_shr (n := 16) (by omega) j4
    rw [uL_add (by rw [e1]; omega), e1]
  obtain ⟨j5, h5⟩ : ∃ j5, j5 = j4 + ((j4.toUInt64 >>> ((16 : Int32).toInt64.toUInt64 &&& Int64.toUInt64 63)).toInt64) := ⟨_, rfl⟩
  rw [← h5] at hEe ⊢
  obtain ⟨f1, f2⟩ := g2 _ _ _ hDe hEe rfl
  have hFe : uL (j5 + ((j5.toUInt64 >>> ((32 : Int32).toInt64.toUInt64 &&& Int64.toUInt64 63)).toInt64)) = uL j5 + uL j5 / 4294967296 := by
    have e1 : uL ((j5.toUInt64 >>> ((32 : Int32).toInt64.toUInt64 &&& Int64.toUInt64 63)).toInt64) = uL j5 / 4294967296 := uL_shr (n := 32) (by omega) j5
    rw [uL_add (by rw [e1]; exact f1), e1]
  rw [l_127, hFe, f2]
  congr 2
  refine fb_ct_cong (fun i hi => ?_)
  rw [bl_uL, hn]
def uI (x : Int32) : Nat := x.toBitVec.toNat
theorem uI_lt (x : Int32) : uI x < 4294967296 := x.toBitVec.isLt
theorem uI_sub {x y : Int32} (h : uI y ≤ uI x) : uI (x - y) = uI x - uI y := by
  unfold uI at *
  rw [Int32.toBitVec_sub, BitVec.toNat_sub_of_le (by rw [BitVec.le_def]; exact h)]
theorem uI_add {x y : Int32} (h : uI x + uI y < 4294967296) : uI (x + y) = uI x + uI y := by
  unfold uI at *
  rw [Int32.toBitVec_add, BitVec.toNat_add, Nat.mod_eq_of_lt h]
theorem uI_and (x y : Int32) : uI (x &&& y) = uI x &&& uI y := by
  unfold uI
  rw [Int32.toBitVec_and, BitVec.toNat_and]
theorem uI_shr {n : Nat} (hn : n < 32) (x : Int32) : uI ((x.toUInt32 >>> ((nI n).toUInt32 &&& Int32.toUInt32 31)).toInt32) = uI x / 2 ^ n := by
  show (x.toUInt32 >>> ((nI n).toUInt32 &&& Int32.toUInt32 31)).toBitVec.toNat = _
  rw [UInt32.toBitVec_shiftRight]
  show (x.toUInt32.toBitVec >>> (((nI n).toUInt32 &&& Int32.toUInt32 31).toBitVec % 32).toNat).toNat = _
  rw [s_u n hn, BitVec.toNat_ushiftRight, Nat.shiftRight_eq_div_pow]
  rfl
theorem bt_uI (x : Int32) (i : Nat) : bt x i = (uI x).testBit i := rfl
theorem b_and63 (x : Int32) : x &&& 63 = nI (uI x % 64) := by
  refine b_ext (fun i hi => ?_)
  rw [b_and, b_63 i hi, bt_nI _ _ hi, bt_uI, show (64 : Nat) = 2 ^ 6 from rfl, Nat.testBit_mod_two_pow, Bool.and_comm]
theorem q_sum4 {c c1 c2 c3 c4 p0 p1 p2 p3 : Nat} (hc : c = 256 * c1 + p0) (h1 : c1 = 256 * c2 + p1) (h2 : c2 = 256 * c3 + p2) (h3 : c3 = 256 * c4 + p3) : c + c1 + (c2 + c3) = 256 * (c1 + c2 + c3 + c4) + (p0 + (p1 + (p2 + (p3 + 0)))) := by omega
theorem q_end4 {c n : Nat} (hc : c = q_C 4 (q_B 4 (q_A 4 n))) : c < 268435456 ∧ ∀ d e, d = c + c / 256 → e = d + d / 65536 → e < 4294967296 ∧ e % 64 = fb_ct (fun i => n.testBit i) 32 := by
  rw [q_ABC, q_ABC, q_ABC, q_ABC] at hc
  have hz : ∀ m, q_C 0 m = 0 := fun m => by simp [q_C, q_m]
  rw [hz] at hc
  have ec : fb_ct (fun i => n.testBit i) 32 = _ := (q_ct 3 n).trans (by rw [q_ct 2, q_ct 1, q_ct 0])
  rw [ec]
  have b0 := (q_by' (show n % 256 < 256 by omega)).2.2.2.2
  have b1 := (q_by' (show n / 256 % 256 < 256 by omega)).2.2.2.2
  have b2 := (q_by' (show n / 256 / 256 % 256 < 256 by omega)).2.2.2.2
  have b3 := (q_by' (show n / 256 / 256 / 256 % 256 < 256 by omega)).2.2.2.2
  generalize q_p (n % 256) = p0 at *
  generalize q_p (n / 256 % 256) = p1 at *
  generalize q_p (n / 256 / 256 % 256) = p2 at *
  generalize q_p (n / 256 / 256 / 256 % 256) = p3 at *
  have e0 : fb_ct (fun i => (n / 256 / 256 / 256 / 256).testBit i) (8 * 0) = 0 := rfl
  rw [e0]
  obtain ⟨c4, h4⟩ : ∃ x : Nat, x = 0 := ⟨_, rfl⟩
  rw [← h4] at hc
  obtain ⟨c3, h3⟩ : ∃ x, x = 256 * c4 + p3 := ⟨_, rfl⟩
  rw [← h3] at hc
  obtain ⟨c2, h2⟩ : ∃ x, x = 256 * c3 + p2 := ⟨_, rfl⟩
  rw [← h2] at hc
  obtain ⟨c1, h1⟩ : ∃ x, x = 256 * c2 + p1 := ⟨_, rfl⟩
  rw [← h1] at hc
  have k1 := q_k1 hc b0
  have k2 := q_k2 hc h1 h2 b0 b1 b2
  have sm := q_sum4 hc h1 h2 h3
  have z3 := q_bd h3 (Nat.le_of_eq h4) b3
  have z2 := q_bd h2 z3 b2
  have z1 := q_bd h1 z2 b1
  have z0 := q_bd hc z1 b0
  clear hc h1 h2 h3
  refine ⟨by omega, fun d e hd he => ?_⟩
  rw [k1] at hd
  rw [hd, k2] at he
  refine ⟨by omega, ?_⟩
  rw [he, sm]
  omega
theorem j6_all (x : Int32) : f_J6_bitCount_0f7a4 x = some (nI (fb_ct (bt x) 32)) := by
  unfold f_J6_bitCount_0f7a4
  simp only [tlet]
  obtain ⟨n, hn⟩ : ∃ n, n = uI x := ⟨_, rfl⟩
  have hlt := uI_lt x
  rw [← hn] at hlt
  have hA : uI (x - (((x.toUInt32 >>> ((1 : Int32).toUInt32 &&& Int32.toUInt32 31)).toInt32) &&& (1431655765 : Int32))) = q_A 4 n := by
    have e2 : uI (((x.toUInt32 >>> ((1 : Int32).toUInt32 &&& Int32.toUInt32 31)).toInt32) &&& (1431655765 : Int32)) = n / 2 &&& q_m 0x55 4 := by
      rw [uI_and, show uI ((x.toUInt32 >>> ((1 : Int32).toUInt32 &&& Int32.toUInt32 31)).toInt32) = n / 2 by rw [hn]; exact uI_shr (n := 1) (by omega) x]; rfl
    have e3 : n / 2 &&& q_m 0x55 4 ≤ n / 2 := Nat.and_le_left
    rw [uI_sub (by rw [e2, ← hn]; omega), e2, ← hn]; rfl
  obtain ⟨j1, h1⟩ : ∃ j1, j1 = x - (((x.toUInt32 >>> ((1 : Int32).toUInt32 &&& Int32.toUInt32 31)).toInt32) &&& (1431655765 : Int32)) := ⟨_, rfl⟩
  rw [← h1] at hA ⊢
  have e4 : q_A 4 n / 4 &&& q_m 0x33 4 ≤ q_m 0x33 4 := Nat.and_le_right
  have e5 : q_A 4 n &&& q_m 0x33 4 ≤ q_m 0x33 4 := Nat.and_le_right
  have e6 : q_m 0x33 4 = 858993459 := by decide
  have hB : uI ((j1 &&& (858993459 : Int32)) + (((j1.toUInt32 >>> ((2 : Int32).toUInt32 &&& Int32.toUInt32 31)).toInt32) &&& (858993459 : Int32))) = q_B 4 (q_A 4 n) := by
    have e2 : uI (((j1.toUInt32 >>> ((2 : Int32).toUInt32 &&& Int32.toUInt32 31)).toInt32) &&& (858993459 : Int32)) = q_A 4 n / 4 &&& q_m 0x33 4 := by
      rw [uI_and, show uI ((j1.toUInt32 >>> ((2 : Int32).toUInt32 &&& Int32.toUInt32 31)).toInt32) = q_A 4 n / 4 by rw [← hA]; exact uI_shr (n := 2) (by omega) j1]; rfl
    have e3 : uI (j1 &&& (858993459 : Int32)) = q_A 4 n &&& q_m 0x33 4 := by rw [uI_and, hA]; rfl
    rw [uI_add (by rw [e2, e3]; omega), e2, e3]; rfl
  obtain ⟨j2, h2⟩ : ∃ j2, j2 = (j1 &&& (858993459 : Int32)) + (((j1.toUInt32 >>> ((2 : Int32).toUInt32 &&& Int32.toUInt32 31)).toInt32) &&& (858993459 : Int32)) := ⟨_, rfl⟩
  rw [← h2] at hB ⊢
  have hB2 : q_B 4 (q_A 4 n) ≤ 1717986918 := by unfold q_B; omega
  have hC : uI ((j2 + ((j2.toUInt32 >>> ((4 : Int32).toUInt32 &&& Int32.toUInt32 31)).toInt32)) &&& (252645135 : Int32)) = q_C 4 (q_B 4 (q_A 4 n)) := by
    have e1 : uI ((j2.toUInt32 >>> ((4 : Int32).toUInt32 &&& Int32.toUInt32 31)).toInt32) = q_B 4 (q_A 4 n) / 16 := by rw [← hB]; exact uI_shr (n := 4) (by omega) j2
    rw [uI_and, uI_add (by rw [e1, hB]; omega), e1, hB]; rfl
  obtain ⟨j3, h3⟩ : ∃ j3, j3 = (j2 + ((j2.toUInt32 >>> ((4 : Int32).toUInt32 &&& Int32.toUInt32 31)).toInt32)) &&& (252645135 : Int32) := ⟨_, rfl⟩
  rw [← h3] at hC ⊢
  obtain ⟨g1, g2⟩ := q_end4 hC
  have hDe : uI (j3 + ((j3.toUInt32 >>> ((8 : Int32).toUInt32 &&& Int32.toUInt32 31)).toInt32)) = uI j3 + uI j3 / 256 := by
    have e1 : uI ((j3.toUInt32 >>> ((8 : Int32).toUInt32 &&& Int32.toUInt32 31)).toInt32) = uI j3 / 256 := uI_shr (n := 8) (by omega) j3
    rw [uI_add (by rw [e1]; omega), e1]
  obtain ⟨j4, h4⟩ : ∃ j4, j4 = j3 + ((j3.toUInt32 >>> ((8 : Int32).toUInt32 &&& Int32.toUInt32 31)).toInt32) := ⟨_, rfl⟩
  rw [← h4] at hDe ⊢
  obtain ⟨f1, f2⟩ := g2 _ _ hDe rfl
  have hEe : uI (j4 + ((j4.toUInt32 >>> ((16 : Int32).toUInt32 &&& Int32.toUInt32 31)).toInt32)) = uI j4 + uI j4 / 65536 := by
    have e1 : uI ((j4.toUInt32 >>> ((16 : Int32).toUInt32 &&& Int32.toUInt32 31)).toInt32) = uI j4 / 65536 := uI_shr (n := 16) (by omega) j4
    rw [uI_add (by rw [e1]; exact f1), e1]
  rw [b_and63, hEe, f2]
  congr 2
  refine fb_ct_cong (fun i hi => ?_)
  rw [bt_uI, hn]
theorem j6_count {x : Int32} (h : ∀ i, 12 ≤ i → bt x i = false) : f_J6_bitCount_0f7a4 x = some (nI (fb_ct (bt x) 12)) := by
  rw [j6_all, show (32 : Nat) = 12 + 20 from rfl, fb_ct_split, fb_ct_zero.mpr (fun k _ => h (12 + k) (by omega)), Nat.add_zero]
