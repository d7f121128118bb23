/-! ===== how many bits a long has ===== -/
def zpc (f : Nat → Bool) : Nat → Nat
  | 0 => 0
  | k + 1 => zpc f k + (if f k then 1 else 0)
theorem zpc_s {f : Nat → Bool} {k : Nat} : zpc f (k + 1) = zpc f k + (if f k then 1 else 0) := rfl
theorem zpc_le {f : Nat → Bool} : ∀ k, zpc f k ≤ k
  | 0 => Nat.le_refl 0
  | k + 1 => by
    have := zpc_le (f := f) k
    rw [zpc_s]
    split <;> omega
theorem zpc_add {f : Nat → Bool} {a : Nat} : ∀ b, zpc f (a + b) = zpc f a + zpc (fun i => f (a + i)) b
  | 0 => rfl
  | b + 1 => by
    rw [← Nat.add_assoc, zpc_s, zpc_s, zpc_add b, Nat.add_assoc]
theorem zpc_eq {f g : Nat → Bool} : ∀ k, (∀ i, i < k → f i = g i) → zpc f k = zpc g k
  | 0, _ => rfl
  | k + 1, h => by
    rw [zpc_s, zpc_s, zpc_eq k (fun i hi => h i (by omega)), h k (by omega)]
def tN (x : Int64) : Nat := x.toBitVec.toNat
theorem tN_lt (x : Int64) : tN x < 2 ^ 64 := x.toBitVec.isLt
theorem tN_bit (x : Int64) (i : Nat) : lb x i = (tN x).testBit i := rfl
theorem tN_and (x y : Int64) : tN (x &&& y) = tN x &&& tN y := by unfold tN; rw [Int64.toBitVec_and, BitVec.toNat_and]
theorem tN_add {x y : Int64} (h : tN x + tN y < 2 ^ 64) : tN (x + y) = tN x + tN y := by
  unfold tN at *
  rw [Int64.toBitVec_add, BitVec.toNat_add, Nat.mod_eq_of_lt h]
theorem tN_sub {x y : Int64} (h : tN y ≤ tN x) : tN (x - y) = tN x - tN y := by
  have hx := tN_lt x
  have hy := tN_lt y
  unfold tN at *
  rw [Int64.toBitVec_sub, BitVec.toNat_sub]
  omega
theorem tN_ushr (x : Int64) {k : Nat} (hk : k < 64) : tN (zlushr x (nI k)) = tN x / 2 ^ k := by
  have hc : ∀ k, k < 64 → ((((nI k).toInt64.toUInt64 &&& Int64.toUInt64 63).toBitVec) % 64).toNat = k := by decide +kernel
  have e : zlushr x (nI k) = ⟨⟨x.toBitVec >>> k⟩⟩ := by
    apply Int64.toBitVec_inj.mp
    show (x.toUInt64 >>> ((nI k).toInt64.toUInt64 &&& Int64.toUInt64 63)).toBitVec = x.toBitVec >>> k
    rw [UInt64.toBitVec_shiftRight, BitVec.ushiftRight_eq', hc k hk]
    rfl
  unfold tN
  rw [e]
  show (x.toBitVec >>> k).toNat = _
  rw [BitVec.toNat_ushiftRight, Nat.shiftRight_eq_div_pow]
theorem tN_i (x : Int64) : x.toInt32 = nI (tN x) := by
  apply Int32.toBitVec_inj.mp
  show BitVec.signExtend 32 x.toBitVec = BitVec.ofNat 32 x.toBitVec.toNat
  rw [BitVec.signExtend_eq_setWidth_of_le _ (by omega), BitVec.ofNat_toNat]
def zb1 (x : Int64) : Int64 := x - (zlushr x 1 &&& 6148914691236517205)
def zb2 (y : Int64) : Int64 := (y &&& 3689348814741910323) + (zlushr y 2 &&& 3689348814741910323)
def zb3 (y : Int64) : Int64 := (y + zlushr y 4) &&& 1085102592571150095
def zb4 (y : Int64) : Int64 := y + zlushr y 8
def zb5 (y : Int64) : Int64 := y + zlushr y 16
def zb6 (y : Int64) : Int64 := y + zlushr y 32
theorem zbc_q (d : Nat) (x : Int64) (A : zA) (L : zL) : zJL_bitCount d x A L = some (some (.int ((zb6 (zb5 (zb4 (zb3 (zb2 (zb1 x)))))).toInt32 &&& 127)), A, L) := zJL_bitCount_q d x A L
theorem zlan {a m Y M : Nat} (ha : a < 256) (hm : m < 256) : (a + 256 * Y) &&& (m + 256 * M) = (a &&& m) + 256 * (Y &&& M) := by
  apply Nat.eq_of_testBit_eq
  intro i
  have h3 : a &&& m < 2 ^ 8 := Nat.and_lt_two_pow (n := 8) _ hm
  rw [Nat.testBit_and, show a + 256 * Y = 2 ^ 8 * Y + a by omega, show m + 256 * M = 2 ^ 8 * M + m by omega, show (a &&& m) + 256 * (Y &&& M) = 2 ^ 8 * (Y &&& M) + (a &&& m) by omega, Nat.testBit_two_pow_mul_add _ ha, Nat.testBit_two_pow_mul_add _ hm, Nat.testBit_two_pow_mul_add _ h3]
  split
  · rw [Nat.testBit_and]
  · rw [Nat.testBit_and]
def zS8 (a0 a1 a2 a3 a4 a5 a6 a7 : Nat) : Nat := a0 + 256 * (a1 + 256 * (a2 + 256 * (a3 + 256 * (a4 + 256 * (a5 + 256 * (a6 + 256 * a7))))))
theorem zS8_and {a0 a1 a2 a3 a4 a5 a6 a7 m : Nat} (h0 : a0 < 256) (h1 : a1 < 256) (h2 : a2 < 256) (h3 : a3 < 256) (h4 : a4 < 256) (h5 : a5 < 256) (h6 : a6 < 256) (hm : m < 256) : zS8 a0 a1 a2 a3 a4 a5 a6 a7 &&& zS8 m m m m m m m m = zS8 (a0 &&& m) (a1 &&& m) (a2 &&& m) (a3 &&& m) (a4 &&& m) (a5 &&& m) (a6 &&& m) (a7 &&& m) := by
  unfold zS8
  rw [zlan h0 hm, zlan h1 hm, zlan h2 hm, zlan h3 hm, zlan h4 hm, zlan h5 hm, zlan h6 hm]
def zd1 (b : Nat) : Nat := b - (b / 2 &&& 85)
def zd2 (b : Nat) : Nat := (zd1 b &&& 51) + (zd1 b / 4 &&& 51)
theorem zd1_k : ∀ b, b < 256 → ∀ e, e < 2 → (b / 2 + 128 * e) &&& 85 = b / 2 &&& 85 := by decide +kernel
theorem zd1_l : ∀ b, b < 256 → (b / 2 &&& 85) ≤ b := by decide +kernel
theorem zd2_k : ∀ b, b < 256 → ∀ e, e < 4 → (zd1 b / 4 + 64 * e) &&& 51 = zd1 b / 4 &&& 51 := by decide +kernel
theorem zd2_l : ∀ b, b < 256 → zd2 b ≤ 68 ∧ zd2 b % 16 ≤ 4 := by decide +kernel
theorem zd3_k : ∀ b, b < 256 → ∀ e, e < 5 → (zd2 b + zd2 b / 16 + 16 * e) &&& 15 = zpc b.testBit 8 := by decide +kernel
theorem zS8_l {a0 a1 a2 a3 a4 a5 a6 a7 : Nat} (h0 : a0 < 256) (h1 : a1 < 256) (h2 : a2 < 256) (h3 : a3 < 256) (h4 : a4 < 256) (h5 : a5 < 256) (h6 : a6 < 256) (h7 : a7 < 256) : zS8 a0 a1 a2 a3 a4 a5 a6 a7 < 2 ^ 64 := by
  unfold zS8
  omega
theorem zb1_n {x : Int64} {b0 b1 b2 b3 b4 b5 b6 b7 : Nat} (h0 : b0 < 256) (h1 : b1 < 256) (h2 : b2 < 256) (h3 : b3 < 256) (h4 : b4 < 256) (h5 : b5 < 256) (h6 : b6 < 256) (h7 : b7 < 256) (hx : tN x = zS8 b0 b1 b2 b3 b4 b5 b6 b7) :
    tN (zb1 x) = zS8 (zd1 b0) (zd1 b1) (zd1 b2) (zd1 b3) (zd1 b4) (zd1 b5) (zd1 b6) (zd1 b7) := by
  have e2 : tN x / 2 = zS8 (b0 / 2 + 128 * (b1 % 2)) (b1 / 2 + 128 * (b2 % 2)) (b2 / 2 + 128 * (b3 % 2)) (b3 / 2 + 128 * (b4 % 2)) (b4 / 2 + 128 * (b5 % 2)) (b5 / 2 + 128 * (b6 % 2)) (b6 / 2 + 128 * (b7 % 2)) (b7 / 2 + 128 * (0 % 2)) := by
    rw [hx]; unfold zS8; omega
  have e3 : tN (zlushr x 1 &&& 6148914691236517205) = zS8 (b0 / 2 &&& 85) (b1 / 2 &&& 85) (b2 / 2 &&& 85) (b3 / 2 &&& 85) (b4 / 2 &&& 85) (b5 / 2 &&& 85) (b6 / 2 &&& 85) (b7 / 2 &&& 85) := by
    rw [tN_and, show (1 : Int32) = nI 1 from rfl, tN_ushr x (by omega), show (2 : Nat) ^ 1 = 2 from rfl, e2, show tN 6148914691236517205 = zS8 85 85 85 85 85 85 85 85 by decide, zS8_and (by omega) (by omega) (by omega) (by omega) (by omega) (by omega) (by omega) (by omega), zd1_k b0 h0 _ (by omega), zd1_k b1 h1 _ (by omega), zd1_k b2 h2 _ (by omega), zd1_k b3 h3 _ (by omega), zd1_k b4 h4 _ (by omega), zd1_k b5 h5 _ (by omega), zd1_k b6 h6 _ (by omega), zd1_k b7 h7 _ (by omega)]
  have l0 := zd1_l b0 h0
  have l1 := zd1_l b1 h1
  have l2 := zd1_l b2 h2
  have l3 := zd1_l b3 h3
  have l4 := zd1_l b4 h4
  have l5 := zd1_l b5 h5
  have l6 := zd1_l b6 h6
  have l7 := zd1_l b7 h7
  have hle : zS8 (b0 / 2 &&& 85) (b1 / 2 &&& 85) (b2 / 2 &&& 85) (b3 / 2 &&& 85) (b4 / 2 &&& 85) (b5 / 2 &&& 85) (b6 / 2 &&& 85) (b7 / 2 &&& 85) ≤ zS8 b0 b1 b2 b3 b4 b5 b6 b7 := by
    unfold zS8; omega
  unfold zb1
  rw [tN_sub (by rw [e3, hx]; exact hle), e3, hx]
  unfold zS8 zd1
  omega
theorem zb2_n {x : Int64} {b0 b1 b2 b3 b4 b5 b6 b7 : Nat} (h0 : b0 < 256) (h1 : b1 < 256) (h2 : b2 < 256) (h3 : b3 < 256) (h4 : b4 < 256) (h5 : b5 < 256) (h6 : b6 < 256) (h7 : b7 < 256) (hx : tN x = zS8 (zd1 b0) (zd1 b1) (zd1 b2) (zd1 b3) (zd1 b4) (zd1 b5) (zd1 b6) (zd1 b7)) :
    tN (zb2 x) = zS8 (zd2 b0) (zd2 b1) (zd2 b2) (zd2 b3) (zd2 b4) (zd2 b5) (zd2 b6) (zd2 b7) := by
  have hd : ∀ b, b < 256 → zd1 b < 256 := fun b hb => by unfold zd1; omega
  have e2 : tN x / 4 = zS8 (zd1 b0 / 4 + 64 * (zd1 b1 % 4)) (zd1 b1 / 4 + 64 * (zd1 b2 % 4)) (zd1 b2 / 4 + 64 * (zd1 b3 % 4)) (zd1 b3 / 4 + 64 * (zd1 b4 % 4)) (zd1 b4 / 4 + 64 * (zd1 b5 % 4)) (zd1 b5 / 4 + 64 * (zd1 b6 % 4)) (zd1 b6 / 4 + 64 * (zd1 b7 % 4)) (zd1 b7 / 4 + 64 * (0 % 4)) := by
    have q0 := hd b0 h0
    have q1 := hd b1 h1
    have q2 := hd b2 h2
    have q3 := hd b3 h3
    have q4 := hd b4 h4
    have q5 := hd b5 h5
    have q6 := hd b6 h6
    have q7 := hd b7 h7
    rw [hx]
    generalize zd1 b0 = c0 at *; generalize zd1 b1 = c1 at *; generalize zd1 b2 = c2 at *; generalize zd1 b3 = c3 at *; generalize zd1 b4 = c4 at *; generalize zd1 b5 = c5 at *; generalize zd1 b6 = c6 at *; generalize zd1 b7 = c7 at *
    unfold zS8; omega
  have q0 := hd b0 h0
  have q1 := hd b1 h1
  have q2 := hd b2 h2
  have q3 := hd b3 h3
  have q4 := hd b4 h4
  have q5 := hd b5 h5
  have q6 := hd b6 h6
  have q7 := hd b7 h7
  have em : tN 3689348814741910323 = zS8 51 51 51 51 51 51 51 51 := by decide
  have e3 : tN (zlushr x 2 &&& 3689348814741910323) = zS8 (zd1 b0 / 4 &&& 51) (zd1 b1 / 4 &&& 51) (zd1 b2 / 4 &&& 51) (zd1 b3 / 4 &&& 51) (zd1 b4 / 4 &&& 51) (zd1 b5 / 4 &&& 51) (zd1 b6 / 4 &&& 51) (zd1 b7 / 4 &&& 51) := by
    rw [tN_and, show (2 : Int32) = nI 2 from rfl, tN_ushr x (by omega), show (2 : Nat) ^ 2 = 4 from rfl, e2, em, zS8_and (by omega) (by omega) (by omega) (by omega) (by omega) (by omega) (by omega) (by omega), zd2_k b0 h0 _ (by omega), zd2_k b1 h1 _ (by omega), zd2_k b2 h2 _ (by omega), zd2_k b3 h3 _ (by omega), zd2_k b4 h4 _ (by omega), zd2_k b5 h5 _ (by omega), zd2_k b6 h6 _ (by omega), zd2_k b7 h7 _ (by omega)]
  have e4 : tN (x &&& 3689348814741910323) = zS8 (zd1 b0 &&& 51) (zd1 b1 &&& 51) (zd1 b2 &&& 51) (zd1 b3 &&& 51) (zd1 b4 &&& 51) (zd1 b5 &&& 51) (zd1 b6 &&& 51) (zd1 b7 &&& 51) := by
    rw [tN_and, hx, em, zS8_and q0 q1 q2 q3 q4 q5 q6 (by omega)]
  have l0 := (zd2_l b0 h0).1
  have l1 := (zd2_l b1 h1).1
  have l2 := (zd2_l b2 h2).1
  have l3 := (zd2_l b3 h3).1
  have l4 := (zd2_l b4 h4).1
  have l5 := (zd2_l b5 h5).1
  have l6 := (zd2_l b6 h6).1
  have l7 := (zd2_l b7 h7).1
  have hsum : zS8 (zd1 b0 &&& 51) (zd1 b1 &&& 51) (zd1 b2 &&& 51) (zd1 b3 &&& 51) (zd1 b4 &&& 51) (zd1 b5 &&& 51) (zd1 b6 &&& 51) (zd1 b7 &&& 51) + zS8 (zd1 b0 / 4 &&& 51) (zd1 b1 / 4 &&& 51) (zd1 b2 / 4 &&& 51) (zd1 b3 / 4 &&& 51) (zd1 b4 / 4 &&& 51) (zd1 b5 / 4 &&& 51) (zd1 b6 / 4 &&& 51) (zd1 b7 / 4 &&& 51) = zS8 (zd2 b0) (zd2 b1) (zd2 b2) (zd2 b3) (zd2 b4) (zd2 b5) (zd2 b6) (zd2 b7) := by
    unfold zS8 zd2; omega
  unfold zb2
  rw [tN_add (by rw [e3, e4, hsum]; exact zS8_l (by omega) (by omega) (by omega) (by omega) (by omega) (by omega) (by omega) (by omega)), e3, e4, hsum]
theorem zb3_n {x : Int64} {b0 b1 b2 b3 b4 b5 b6 b7 : Nat} (h0 : b0 < 256) (h1 : b1 < 256) (h2 : b2 < 256) (h3 : b3 < 256) (h4 : b4 < 256) (h5 : b5 < 256) (h6 : b6 < 256) (h7 : b7 < 256) (hx : tN x = zS8 (zd2 b0) (zd2 b1) (zd2 b2) (zd2 b3) (zd2 b4) (zd2 b5) (zd2 b6) (zd2 b7)) :
    tN (zb3 x) = zS8 (zpc b0.testBit 8) (zpc b1.testBit 8) (zpc b2.testBit 8) (zpc b3.testBit 8) (zpc b4.testBit 8) (zpc b5.testBit 8) (zpc b6.testBit 8) (zpc b7.testBit 8) := by
  have l0 := zd2_l b0 h0
  have l1 := zd2_l b1 h1
  have l2 := zd2_l b2 h2
  have l3 := zd2_l b3 h3
  have l4 := zd2_l b4 h4
  have l5 := zd2_l b5 h5
  have l6 := zd2_l b6 h6
  have l7 := zd2_l b7 h7
  have e2 : tN x + tN x / 16 = zS8 (zd2 b0 + zd2 b0 / 16 + 16 * (zd2 b1 % 16)) (zd2 b1 + zd2 b1 / 16 + 16 * (zd2 b2 % 16)) (zd2 b2 + zd2 b2 / 16 + 16 * (zd2 b3 % 16)) (zd2 b3 + zd2 b3 / 16 + 16 * (zd2 b4 % 16)) (zd2 b4 + zd2 b4 / 16 + 16 * (zd2 b5 % 16)) (zd2 b5 + zd2 b5 / 16 + 16 * (zd2 b6 % 16)) (zd2 b6 + zd2 b6 / 16 + 16 * (zd2 b7 % 16)) (zd2 b7 + zd2 b7 / 16 + 16 * (0 % 16)) := by
    rw [hx]
    generalize zd2 b0 = c0 at *; generalize zd2 b1 = c1 at *; generalize zd2 b2 = c2 at *; generalize zd2 b3 = c3 at *; generalize zd2 b4 = c4 at *; generalize zd2 b5 = c5 at *; generalize zd2 b6 = c6 at *; generalize zd2 b7 = c7 at *
    unfold zS8; omega
  have e16 : tN (zlushr x 4) = tN x / 16 := by rw [show (4 : Int32) = nI 4 from rfl, tN_ushr x (by omega)]
  have hlt : tN x + tN x / 16 < 2 ^ 64 := by
    rw [e2]; exact zS8_l (by omega) (by omega) (by omega) (by omega) (by omega) (by omega) (by omega) (by omega)
  unfold zb3
  rw [tN_and, tN_add (by rw [e16]; exact hlt), e16, e2, show tN 1085102592571150095 = zS8 15 15 15 15 15 15 15 15 by decide, zS8_and (by omega) (by omega) (by omega) (by omega) (by omega) (by omega) (by omega) (by omega), zd3_k b0 h0 _ (by omega), zd3_k b1 h1 _ (by omega), zd3_k b2 h2 _ (by omega), zd3_k b3 h3 _ (by omega), zd3_k b4 h4 _ (by omega), zd3_k b5 h5 _ (by omega), zd3_k b6 h6 _ (by omega), zd3_k b7 h7 _ (by omega)]
theorem zb6_n {x : Int64} {p0 p1 p2 p3 p4 p5 p6 p7 : Nat} (h0 : p0 ≤ 8) (h1 : p1 ≤ 8) (h2 : p2 ≤ 8) (h3 : p3 ≤ 8) (h4 : p4 ≤ 8) (h5 : p5 ≤ 8) (h6 : p6 ≤ 8) (h7 : p7 ≤ 8) (hx : tN x = zS8 p0 p1 p2 p3 p4 p5 p6 p7) :
    tN (zb6 (zb5 (zb4 x))) % 128 = p0 + p1 + p2 + p3 + p4 + p5 + p6 + p7 := by
  have e4 : tN (zb4 x) = zS8 (p0 + p1) (p1 + p2) (p2 + p3) (p3 + p4) (p4 + p5) (p5 + p6) (p6 + p7) p7 := by
    have e : tN (zlushr x 8) = zS8 p1 p2 p3 p4 p5 p6 p7 0 := by
      rw [show (8 : Int32) = nI 8 from rfl, tN_ushr x (by omega), hx]; unfold zS8; omega
    unfold zb4
    rw [tN_add (by rw [e, hx]; unfold zS8; omega), e, hx]
    unfold zS8; omega
  have e5 : tN (zb5 (zb4 x)) = zS8 (p0 + p1 + p2 + p3) (p1 + p2 + p3 + p4) (p2 + p3 + p4 + p5) (p3 + p4 + p5 + p6) (p4 + p5 + p6 + p7) (p5 + p6 + p7) (p6 + p7) p7 := by
    have e : tN (zlushr (zb4 x) 16) = zS8 (p2 + p3) (p3 + p4) (p4 + p5) (p5 + p6) (p6 + p7) p7 0 0 := by
      rw [show (16 : Int32) = nI 16 from rfl, tN_ushr _ (by omega), e4]; unfold zS8; omega
    unfold zb5
    rw [tN_add (by rw [e, e4]; unfold zS8; omega), e, e4]
    unfold zS8; omega
  have e6 : tN (zlushr (zb5 (zb4 x)) 32) = zS8 (p4 + p5 + p6 + p7) (p5 + p6 + p7) (p6 + p7) p7 0 0 0 0 := by
    rw [show (32 : Int32) = nI 32 from rfl, tN_ushr _ (by omega), e5]; unfold zS8; omega
  show tN (zb5 (zb4 x) + zlushr (zb5 (zb4 x)) 32) % 128 = _
  rw [tN_add (by rw [e5, e6]; unfold zS8; omega), e5, e6]
  unfold zS8; omega
theorem zBitCount (d : Nat) (x : Int64) (A : zA) (L : zL) : zJL_bitCount d x A L = some (some (.int (nI (zpc (lb x) 64))), A, L) := by
  have hX := tN_lt x
  obtain ⟨b, hb⟩ : ∃ b : Nat → Nat, ∀ j, b j = tN x / 2 ^ (8 * j) % 256 := ⟨_, fun _ => rfl⟩
  have hlt : ∀ j, b j < 256 := fun j => by rw [hb]; omega
  have hS : tN x = zS8 (b 0) (b 1) (b 2) (b 3) (b 4) (b 5) (b 6) (b 7) := by
    simp only [hb]
    unfold zS8
    omega
  have hbits : ∀ j i, i < 8 → lb x (8 * j + i) = (b j).testBit i := fun j i hi => by
    rw [hb, show (256 : Nat) = 2 ^ 8 from rfl, Nat.testBit_mod_two_pow, Nat.testBit_div_two_pow, decide_eq_true hi, Bool.true_and, tN_bit, Nat.add_comm]
  have hp : ∀ j, zpc (fun i => lb x (8 * j + i)) 8 = zpc (b j).testBit 8 := fun j => zpc_eq 8 (fun i hi => hbits j i hi)
  have h8 : ∀ j, zpc (b j).testBit 8 ≤ 8 := fun j => zpc_le 8
  have hsum : zpc (lb x) 64 = zpc (b 0).testBit 8 + zpc (b 1).testBit 8 + zpc (b 2).testBit 8 + zpc (b 3).testBit 8 + zpc (b 4).testBit 8 + zpc (b 5).testBit 8 + zpc (b 6).testBit 8 + zpc (b 7).testBit 8 := by
    rw [show 64 = 8 * 7 + 8 by rfl, zpc_add, hp 7, show 8 * 7 = 8 * 6 + 8 by rfl, zpc_add, hp 6, show 8 * 6 = 8 * 5 + 8 by rfl, zpc_add, hp 5, show 8 * 5 = 8 * 4 + 8 by rfl, zpc_add, hp 4, show 8 * 4 = 8 * 3 + 8 by rfl, zpc_add, hp 3, show 8 * 3 = 8 * 2 + 8 by rfl, zpc_add, hp 2, show 8 * 2 = 8 * 1 + 8 by rfl, zpc_add, hp 1, show 8 * 1 = 8 * 0 + 8 by rfl, zpc_add, hp 0]
    show 0 + _ + _ + _ + _ + _ + _ + _ + _ = _
    omega
  have e := zb6_n (h8 0) (h8 1) (h8 2) (h8 3) (h8 4) (h8 5) (h8 6) (h8 7) (zb3_n (hlt 0) (hlt 1) (hlt 2) (hlt 3) (hlt 4) (hlt 5) (hlt 6) (hlt 7) (zb2_n (hlt 0) (hlt 1) (hlt 2) (hlt 3) (hlt 4) (hlt 5) (hlt 6) (hlt 7) (zb1_n (hlt 0) (hlt 1) (hlt 2) (hlt 3) (hlt 4) (hlt 5) (hlt 6) (hlt 7) hS)))
  rw [zbc_q, tN_i, show (127 : Int32) = nI 127 from rfl, nI_and, show (127 : Nat) = 2 ^ 7 - 1 from rfl, nI_mask, show (2 : Nat) ^ 7 = 128 from rfl, e, hsum]
/-- of an int of nine bits -/
def zi1 (x : Int32) : Int32 := x - (zushr x 1 &&& 1431655765)
def zi2 (y : Int32) : Int32 := (y &&& 858993459) + (zushr y 2 &&& 858993459)
def zi3 (y : Int32) : Int32 := (y + zushr y 4) &&& 252645135
def zi4 (y : Int32) : Int32 := y + zushr y 8
def zi5 (y : Int32) : Int32 := y + zushr y 16
theorem zic_q (d : Nat) (x : Int32) (A : zA) (L : zL) : zJ_bitCount d x A L = some (some (.int (zi5 (zi4 (zi3 (zi2 (zi1 x)))) &&& 63)), A, L) := zJ_bitCount_q d x A L
theorem zic_9 : ∀ a, a < 512 → zi5 (zi4 (zi3 (zi2 (zi1 (nI a))))) &&& 63 = nI (zpc a.testBit 9) := by decide +kernel
theorem zBitCount9 (d : Nat) (A : zA) (L : zL) (a : Nat) (ha : a < 512) : zJ_bitCount d (nI a) A L = some (some (.int (nI (zpc a.testBit 9))), A, L) := by
  rw [zic_q, zic_9 a ha]
