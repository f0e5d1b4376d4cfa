/-! ===== Long.bitCount counts bits: byte by byte ===== -/
def mk8 (m : Nat) : Nat → Nat
  | 0 => 0
  | k + 1 => m + 256 * mk8 m k
def q1 (m n : Nat) : Nat := n - ((n / 2) &&& m)
def q2 (m n : Nat) : Nat := (n &&& m) + ((n / 4) &&& m)
def q3 (m n : Nat) : Nat := (n + n / 16) &&& m
def q8 (v : Nat) : Nat := q3 15 (q2 51 (q1 85 v))
def qs : Nat → Nat → Nat
  | 0, _ => 0
  | k + 1, n => q8 (n % 256) + 256 * qs k (n / 256)
theorem and8 {a b m M : Nat} (ha : a < 256) (hm : m < 256) : (a + 256 * b) &&& (m + 256 * M) = (a &&& m) + 256 * (b &&& M) := by
  have e1 : ((a + 256 * b) &&& (m + 256 * M)) % 2 ^ 8 = (a &&& m) := by
    rw [Nat.and_mod_two_pow]
    rw [show (a + 256 * b) % 2 ^ 8 = a by omega, show (m + 256 * M) % 2 ^ 8 = m by omega]
  have e2 : ((a + 256 * b) &&& (m + 256 * M)) / 2 ^ 8 = (b &&& M) := by
    rw [Nat.and_div_two_pow]
    rw [show (a + 256 * b) / 2 ^ 8 = b by omega, show (m + 256 * M) / 2 ^ 8 = M by omega]
  omega
theorem k1 : ∀ v, v < 256 → ∀ b, b < 2 → ((v / 2 + 128 * b) &&& 85) = ((v / 2) &&& 85) := by decide +kernel
theorem k2 : ∀ v, v < 256 → ∀ b, b < 4 → ((v / 4 + 64 * b) &&& 51) = ((v / 4) &&& 51) := by decide +kernel
theorem k3 : ∀ v, v < 256 → q2 51 (q1 85 v) ≤ 68 ∧ q2 51 (q1 85 v) % 16 ≤ 4 ∧ ((v / 2) &&& 85) ≤ v := by decide +kernel
theorem k4 : ∀ v, v < 256 → ∀ b, b < 5 → ((q2 51 (q1 85 v) + q2 51 (q1 85 v) / 16 + 16 * b) &&& 15) = q8 v := by decide +kernel
theorem k5 : ∀ v, v < 256 → q8 v = cnt (fun j => v.testBit j) 8 := by decide +kernel
theorem k6 : ∀ v, v < 256 → q8 v ≤ 8 := by decide +kernel
theorem q1_le (m n : Nat) : ((n / 2) &&& m) ≤ n := Nat.le_trans Nat.and_le_left (Nat.div_le_self n 2)
theorem q1_s {v X M : Nat} (hv : v < 256) : q1 (85 + 256 * M) (v + 256 * X) = q1 85 v + 256 * q1 M X := by
  unfold q1
  rw [show (v + 256 * X) / 2 = (v / 2 + 128 * (X % 2)) + 256 * (X / 2) by omega, and8 (by omega) (by decide), k1 v hv _ (by omega)]
  have h1 := (k3 v hv).2.2
  have h2 := q1_le M X
  omega
theorem q2_s {v X M : Nat} (hv : v < 256) : q2 (51 + 256 * M) (v + 256 * X) = q2 51 v + 256 * q2 M X := by
  unfold q2
  rw [show (v + 256 * X) / 4 = (v / 4 + 64 * (X % 4)) + 256 * (X / 4) by omega, and8 hv (by decide), and8 (by omega) (by decide), k2 v hv _ (by omega)]
  omega
theorem qs_ok : ∀ k n, n < 256 ^ k → q2 (mk8 51 k) (q1 (mk8 85 k) n) % 16 ≤ 4 ∧ q3 (mk8 15 k) (q2 (mk8 51 k) (q1 (mk8 85 k) n)) = qs k n
  | 0, n, h => by
    have : n = 0 := by simpa using h
    subst this
    decide
  | k + 1, n, h => by
    have hX : n / 256 < 256 ^ k := by
      rw [Nat.pow_succ] at h
      exact Nat.div_lt_of_lt_mul (by rw [Nat.mul_comm]; exact h)
    obtain ⟨i1, i2⟩ := qs_ok k (n / 256) hX
    have hv : n % 256 < 256 := Nat.mod_lt _ (by decide)
    have en : n = n % 256 + 256 * (n / 256) := by omega
    have e1 : q1 (mk8 85 (k + 1)) n = q1 85 (n % 256) + 256 * q1 (mk8 85 k) (n / 256) := by
      have := q1_s (M := mk8 85 k) (X := n / 256) hv
      rw [← en] at this
      exact this
    have hv1 : q1 85 (n % 256) < 256 := by unfold q1; omega
    have e2 : q2 (mk8 51 (k + 1)) (q1 (mk8 85 (k + 1)) n) = q2 51 (q1 85 (n % 256)) + 256 * q2 (mk8 51 k) (q1 (mk8 85 k) (n / 256)) := by
      rw [e1]
      exact q2_s hv1
    have h3 := k3 (n % 256) hv
    rw [e2]
    generalize hY : q2 (mk8 51 k) (q1 (mk8 85 k) (n / 256)) = Y at i1 i2
    generalize hy : q2 51 (q1 85 (n % 256)) = y at h3
    refine ⟨by omega, ?_⟩
    show ((y + 256 * Y) + (y + 256 * Y) / 16) &&& (15 + 256 * mk8 15 k) = q8 (n % 256) + 256 * qs k (n / 256)
    rw [show (y + 256 * Y) + (y + 256 * Y) / 16 = (y + y / 16 + 16 * (Y % 16)) + 256 * (Y + Y / 16) by omega, and8 (by omega) (by decide)]
    have h4 := k4 (n % 256) hv (Y % 16) (by omega)
    rw [hy] at h4
    rw [h4, ← i2]
    rfl
theorem dv8 {r q : Nat} (h : r < 256) : (r + 256 * q) / 256 = q := by omega
theorem m128 {s A t B : Nat} (h : s + t < 128) : ((s + 256 * A) + (t + 256 * B)) % 128 = s + t := by omega
def g8 (p0 p1 p2 p3 p4 p5 p6 p7 : Nat) : Nat := p0 + 256 * (p1 + 256 * (p2 + 256 * (p3 + 256 * (p4 + 256 * (p5 + 256 * (p6 + 256 * p7))))))
set_option maxHeartbeats 40000 in
theorem g8_add (p0 p1 p2 p3 p4 p5 p6 p7 r0 r1 r2 r3 r4 r5 r6 r7 : Nat) : g8 p0 p1 p2 p3 p4 p5 p6 p7 + g8 r0 r1 r2 r3 r4 r5 r6 r7 = g8 (p0 + r0) (p1 + r1) (p2 + r2) (p3 + r3) (p4 + r4) (p5 + r5) (p6 + r6) (p7 + r7) := by
  unfold g8
  omega
theorem g8_div {p0 : Nat} (p1 p2 p3 p4 p5 p6 p7 : Nat) (h : p0 < 256) : g8 p0 p1 p2 p3 p4 p5 p6 p7 / 256 = g8 p1 p2 p3 p4 p5 p6 p7 0 := dv8 h
theorem g8_div2 {p0 p1 : Nat} (p2 p3 p4 p5 p6 p7 : Nat) (h0 : p0 < 256) (h1 : p1 < 256) : g8 p0 p1 p2 p3 p4 p5 p6 p7 / 65536 = g8 p2 p3 p4 p5 p6 p7 0 0 := by
  have e := Nat.div_div_eq_div_mul (g8 p0 p1 p2 p3 p4 p5 p6 p7) 256 256
  rw [g8_div _ _ _ _ _ _ _ h0, g8_div _ _ _ _ _ _ _ h1] at e
  exact e.symm
theorem g8_div4 {p0 p1 p2 p3 : Nat} (p4 p5 p6 p7 : Nat) (h0 : p0 < 256) (h1 : p1 < 256) (h2 : p2 < 256) (h3 : p3 < 256) : g8 p0 p1 p2 p3 p4 p5 p6 p7 / 4294967296 = g8 p4 p5 p6 p7 0 0 0 0 := by
  have e := Nat.div_div_eq_div_mul (g8 p0 p1 p2 p3 p4 p5 p6 p7) 65536 65536
  rw [g8_div2 _ _ _ _ _ _ h0 h1, g8_div2 _ _ _ _ _ _ h2 h3] at e
  exact e.symm
set_option maxHeartbeats 40000 in
theorem g8_lt {p0 p1 p2 p3 p4 p5 p6 p7 : Nat} (h0 : p0 < 256) (h1 : p1 < 256) (h2 : p2 < 256) (h3 : p3 < 256) (h4 : p4 < 256) (h5 : p5 < 256) (h6 : p6 < 256) (h7 : p7 < 256) : g8 p0 p1 p2 p3 p4 p5 p6 p7 < 18446744073709551616 := by
  have s : ∀ {a b M : Nat}, a < 256 → b < M → a + 256 * b < 256 * M := fun ha hb => by omega
  exact s h0 (s h1 (s h2 (s h3 (s h4 (s h5 (s h6 h7))))))
theorem g8_mod {p0 p1 p2 p3 p4 p5 p6 p7 : Nat} (h0 : p0 < 128) : g8 p0 p1 p2 p3 p4 p5 p6 p7 % 128 = p0 := by
  unfold g8
  omega
theorem pop_sum {p0 p1 p2 p3 p4 p5 p6 p7 : Nat} (h0 : p0 ≤ 8) (h1 : p1 ≤ 8) (h2 : p2 ≤ 8) (h3 : p3 ≤ 8) (h4 : p4 ≤ 8) (h5 : p5 ≤ 8) (h6 : p6 ≤ 8) (h7 : p7 ≤ 8) (y : Nat)
    (hy : y = g8 p0 p1 p2 p3 p4 p5 p6 p7) :
    y + y / 256 < 18446744073709551616 ∧ (y + y / 256) + (y + y / 256) / 65536 < 18446744073709551616 ∧
    ((y + y / 256) + (y + y / 256) / 65536) + ((y + y / 256) + (y + y / 256) / 65536) / 4294967296 < 18446744073709551616 ∧
    (((y + y / 256) + (y + y / 256) / 65536) + ((y + y / 256) + (y + y / 256) / 65536) / 4294967296) % 128 = p0 + p1 + p2 + p3 + p4 + p5 + p6 + p7 := by
  have a4 : y + y / 256 = g8 (p0 + p1) (p1 + p2) (p2 + p3) (p3 + p4) (p4 + p5) (p5 + p6) (p6 + p7) (p7 + 0) := by
    rw [hy, g8_div _ _ _ _ _ _ _ (by omega), g8_add]
  rw [a4]
  have a5 := g8_div2 (p2 + p3) (p3 + p4) (p4 + p5) (p5 + p6) (p6 + p7) (p7 + 0) (show p0 + p1 < 256 by omega) (show p1 + p2 < 256 by omega)
  rw [a5, g8_add]
  have a6 := g8_div4 (p4 + p5 + (p6 + p7)) (p5 + p6 + (p7 + 0)) (p6 + p7 + 0) (p7 + 0 + 0) (show p0 + p1 + (p2 + p3) < 256 by omega) (show p1 + p2 + (p3 + p4) < 256 by omega) (show p2 + p3 + (p4 + p5) < 256 by omega) (show p3 + p4 + (p5 + p6) < 256 by omega)
  rw [a6, g8_add, g8_mod (by omega)]
  refine ⟨g8_lt (by omega) (by omega) (by omega) (by omega) (by omega) (by omega) (by omega) (by omega), g8_lt (by omega) (by omega) (by omega) (by omega) (by omega) (by omega) (by omega) (by omega), g8_lt (by omega) (by omega) (by omega) (by omega) (by omega) (by omega) (by omega) (by omega), by omega⟩
theorem cnt_byte (n m : Nat) : cnt (fun j => n.testBit (m + j)) 8 = q8 (n / 2 ^ m % 256) := by
  rw [k5 _ (Nat.mod_lt _ (by decide))]
  refine cnt_congr (fun j hj => ?_)
  rw [show (256 : Nat) = 2 ^ 8 from rfl, Nat.testBit_mod_two_pow, decide_eq_true hj, Bool.true_and, Nat.testBit_div_two_pow]
  congr 1
  omega
theorem pop_bytes (n : Nat) : cnt (fun i => n.testBit i) 64 = q8 (n % 256) + q8 (n / 256 % 256) + q8 (n / 256 / 256 % 256) + q8 (n / 256 / 256 / 256 % 256) + q8 (n / 256 / 256 / 256 / 256 % 256) + q8 (n / 256 / 256 / 256 / 256 / 256 % 256) + q8 (n / 256 / 256 / 256 / 256 / 256 / 256 % 256) + q8 (n / 256 / 256 / 256 / 256 / 256 / 256 / 256 % 256) := by
  have h0 := cnt_byte n 0
  have h1 := cnt_byte n 8
  have h2 := cnt_byte n 16
  have h3 := cnt_byte n 24
  have h4 := cnt_byte n 32
  have h5 := cnt_byte n 40
  have h6 := cnt_byte n 48
  have h7 := cnt_byte n 56
  have s1 := cnt_add (fun i => n.testBit i) 56 8
  have s2 := cnt_add (fun i => n.testBit i) 48 8
  have s3 := cnt_add (fun i => n.testBit i) 40 8
  have s4 := cnt_add (fun i => n.testBit i) 32 8
  have s5 := cnt_add (fun i => n.testBit i) 24 8
  have s6 := cnt_add (fun i => n.testBit i) 16 8
  have s7 := cnt_add (fun i => n.testBit i) 8 8
  have s8 := cnt_add (fun i => n.testBit i) 0 8
  have z : cnt (fun i => n.testBit i) 0 = 0 := rfl
  simp only [Nat.reduceAdd] at s1 s2 s3 s4 s5 s6 s7 s8
  rw [show n / 256 = n / 2 ^ 8 from rfl]
  simp only [Nat.div_div_eq_div_mul]
  rw [show (2 ^ 8 * 256 : Nat) = 2 ^ 16 from rfl, show (2 ^ 16 * 256 : Nat) = 2 ^ 24 from rfl, show (2 ^ 24 * 256 : Nat) = 2 ^ 32 from rfl, show (2 ^ 32 * 256 : Nat) = 2 ^ 40 from rfl, show (2 ^ 40 * 256 : Nat) = 2 ^ 48 from rfl, show (2 ^ 48 * 256 : Nat) = 2 ^ 56 from rfl]
  rw [Nat.pow_zero, Nat.div_one] at h0
  omega
def uV (x : Int64) : Nat := x.toBitVec.toNat
theorem uV_lt (x : Int64) : uV x < 18446744073709551616 := x.toBitVec.isLt
theorem lb_uV (x : Int64) (i : Nat) : lb x i = (uV x).testBit i := rfl
theorem uV_add (x y : Int64) : uV (x + y) = (uV x + uV y) % 18446744073709551616 := by
  unfold uV
  rw [Int64.toBitVec_add, BitVec.toNat_add]
theorem uV_sub {x y : Int64} (h : uV y ≤ uV x) : uV (x - y) = uV x - uV y := by
  unfold uV at *
  rw [Int64.toBitVec_sub, BitVec.toNat_sub]
  have := x.toBitVec.isLt
  have := y.toBitVec.isLt
  omega
theorem uV_and (x y : Int64) : uV (x &&& y) = uV x &&& uV y := by
  unfold uV
  rw [Int64.toBitVec_and, BitVec.toNat_and]
theorem uV_ushr (x : Int64) {k : Nat} (hk : k < 64) : uV (zUshr x (nI k)) = uV x / 2 ^ k := by
  show (x.toUInt64 >>> ((nI k).toInt64.toUInt64 &&& Int64.toUInt64 63)).toBitVec.toNat = _
  rw [UInt64.toBitVec_shiftRight]
  show (x.toUInt64.toBitVec >>> (((nI k).toInt64.toUInt64 &&& Int64.toUInt64 63).toBitVec % 64).toNat).toNat = _
  rw [s_u64 k hk, BitVec.toNat_ushiftRight, Nat.shiftRight_eq_div_pow]
  rfl
theorem uV_l2i (x : Int64) : (Int64.toInt32 x &&& 127) = nI (uV x % 128) := by
  rw [pk_and (Int64.toInt32 x) 7 (by decide)]
  congr 1
  show (x.toInt32).toBitVec.toNat % 2 ^ 7 = uV x % 128
  rw [show (x.toInt32).toBitVec = x.toBitVec.signExtend 32 from rfl, BitVec.signExtend_eq_setWidth_of_le _ (by decide), BitVec.toNat_setWidth]
  show uV x % 2 ^ 32 % 2 ^ 7 = uV x % 128
  omega
theorem ok_bitCount {a : Int64} {Post : Int32 → Prop} (h : Post (nI (pop a))) : wJ13_bitCount_95d88 a Post := by
  unfold wJ13_bitCount_95d88
  intro x1 e1 x2 e2 x3 e3 x4 e4 x5 e5 x6 e6
  have hn := uV_lt a
  have c1 : uV 6148914691236517205 = mk8 85 8 := by decide +kernel
  have c2 : uV 3689348814741910323 = mk8 51 8 := by decide +kernel
  have c3 : uV 1085102592571150095 = mk8 15 8 := by decide +kernel
  have s1 : uV x1 = q1 (mk8 85 8) (uV a) := by
    have e : uV ((zUshr a 1) &&& 6148914691236517205) = (uV a / 2) &&& mk8 85 8 := by
      rw [uV_and, c1, show (1 : Int32) = nI 1 from rfl, uV_ushr a (by decide)]
    have hle : uV ((zUshr a 1) &&& 6148914691236517205) ≤ uV a := by rw [e]; exact q1_le _ _
    rw [e1, uV_sub hle, e]
    rfl
  have hb1 : uV x1 < 18446744073709551616 := uV_lt x1
  have b8 : ∀ v, v < 256 → q2 51 (q1 85 v) ≤ 68 := fun v hv => (k3 v hv).1
  have q2le : ∀ m n : Nat, q2 m n ≤ n + n / 4 := fun m n => Nat.add_le_add Nat.and_le_left Nat.and_le_left
  have qb2 : q2 (mk8 51 8) (uV x1) ≤ mk8 51 8 + mk8 51 8 := Nat.add_le_add Nat.and_le_right Nat.and_le_right
  have m2 : mk8 51 8 + mk8 51 8 < 9223372036854775808 := by decide +kernel
  have s2 : uV x2 = q2 (mk8 51 8) (uV x1) := by
    have e : uV ((zUshr x1 2) &&& 3689348814741910323) = (uV x1 / 4) &&& mk8 51 8 := by
      rw [uV_and, c2, show (2 : Int32) = nI 2 from rfl, uV_ushr x1 (by decide)]
    rw [e2, uV_add, e, uV_and, c2, Nat.mod_eq_of_lt]
    · rfl
    · show q2 (mk8 51 8) (uV x1) < _
      omega
  have s3 : uV x3 = q3 (mk8 15 8) (uV x2) := by
    rw [e3, uV_and, c3, uV_add, show (4 : Int32) = nI 4 from rfl, uV_ushr x2 (by decide), Nat.mod_eq_of_lt]
    · rfl
    · show uV x2 + uV x2 / 2 ^ 4 < _
      rw [s2]
      omega
  have s4 : uV x3 = qs 8 (uV a) := by
    rw [s3, s2, s1]
    exact (qs_ok 8 (uV a) hn).2
  have t := pop_sum (k6 (uV a % 256) (Nat.mod_lt _ (by decide))) (k6 (uV a / 256 % 256) (Nat.mod_lt _ (by decide))) (k6 (uV a / 256 / 256 % 256) (Nat.mod_lt _ (by decide))) (k6 (uV a / 256 / 256 / 256 % 256) (Nat.mod_lt _ (by decide))) (k6 (uV a / 256 / 256 / 256 / 256 % 256) (Nat.mod_lt _ (by decide))) (k6 (uV a / 256 / 256 / 256 / 256 / 256 % 256) (Nat.mod_lt _ (by decide))) (k6 (uV a / 256 / 256 / 256 / 256 / 256 / 256 % 256) (Nat.mod_lt _ (by decide))) (k6 (uV a / 256 / 256 / 256 / 256 / 256 / 256 / 256 % 256) (Nat.mod_lt _ (by decide))) (uV x3) (by rw [s4]; rfl)
  obtain ⟨t1, t2, t3, t4⟩ := t
  have s5 : uV x4 = uV x3 + uV x3 / 256 := by
    rw [e4, uV_add, show (8 : Int32) = nI 8 from rfl, uV_ushr x3 (by decide), Nat.mod_eq_of_lt]
    exact t1
  have s6 : uV x5 = uV x4 + uV x4 / 65536 := by
    rw [e5, uV_add, show (16 : Int32) = nI 16 from rfl, uV_ushr x4 (by decide), Nat.mod_eq_of_lt]
    rw [s5]; exact t2
  have s7 : uV x6 = uV x5 + uV x5 / 4294967296 := by
    rw [e6, uV_add, show (32 : Int32) = nI 32 from rfl, uV_ushr x5 (by decide), Nat.mod_eq_of_lt]
    rw [s6, s5]; exact t3
  rw [uV_l2i, s7, s6, s5, t4]
  have e : pop a = cnt (fun i => (uV a).testBit i) 64 := rfl
  rw [e, pop_bytes] at h
  exact h
