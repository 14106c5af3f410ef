/-! 42.bytes: the bytes of a number -/
def byteI (x : Int32) (i : Nat) : Nat := x.toBitVec.toNat / 256 ^ i % 256
def byteL (x : Int64) (i : Nat) : Nat := x.toBitVec.toNat / 256 ^ i % 256
theorem byteI_lt (x : Int32) (i : Nat) : byteI x i < 256 := Nat.mod_lt _ (by decide)
theorem byteL_lt (x : Int64) (i : Nat) : byteL x i < 256 := Nat.mod_lt _ (by decide)
theorem tb256 (n i j : Nat) : (n / 256 ^ i % 256).testBit j = (decide (j < 8) && n.testBit (8 * i + j)) := by
  rw [show (256 : Nat) ^ i = 2 ^ (8 * i) by rw [Nat.pow_mul], show (256 : Nat) = 2 ^ 8 from rfl, Nat.testBit_mod_two_pow, Nat.testBit_div_two_pow, Nat.add_comm]
theorem byteI_ext {x y : Int32} {i k : Nat} (h : ∀ j, j < 8 → x.toBitVec.getLsbD (8 * i + j) = y.toBitVec.getLsbD (8 * k + j)) : byteI x i = byteI y k := by
  apply Nat.eq_of_testBit_eq
  intro j
  unfold byteI
  rw [tb256, tb256]
  by_cases hj : j < 8
  · rw [BitVec.testBit_toNat, BitVec.testBit_toNat, h j hj]
  · simp [hj]
theorem byteIL_ext {x : Int32} {y : Int64} {i k : Nat} (h : ∀ j, j < 8 → x.toBitVec.getLsbD (8 * i + j) = y.toBitVec.getLsbD (8 * k + j)) : byteI x i = byteL y k := by
  apply Nat.eq_of_testBit_eq
  intro j
  unfold byteI byteL
  rw [tb256, tb256]
  by_cases hj : j < 8
  · rw [BitVec.testBit_toNat, BitVec.testBit_toNat, h j hj]
  · simp [hj]
theorem shr_bit (n : Nat) (hn : n < 32) (x : Int32) {i : Nat} (hi : n + i < 32) : (x >>> (nI n &&& 31)).toBitVec.getLsbD i = x.toBitVec.getLsbD (n + i) := by
  have h := b_sshr n hn x (i := i) (by omega)
  rw [if_pos hi] at h
  exact h
theorem byteI_s8 (x : Int32) : byteI (x >>> ((8 : Int32) &&& 31)) 0 = byteI x 1 := byteI_ext (fun j hj => by
  rw [show (x >>> ((8 : Int32) &&& 31)).toBitVec.getLsbD (8 * 0 + j) = x.toBitVec.getLsbD (8 + (8 * 0 + j)) from shr_bit 8 (by omega) x (by omega)]
  congr 1
  omega)
theorem byteI_s16 (x : Int32) (i : Nat) (hi : i < 2) : byteI (x >>> ((16 : Int32) &&& 31)) i = byteI x (i + 2) := byteI_ext (fun j hj => by
  rw [show (x >>> ((16 : Int32) &&& 31)).toBitVec.getLsbD (8 * i + j) = x.toBitVec.getLsbD (16 + (8 * i + j)) from shr_bit 16 (by omega) x (by omega)]
  congr 1
  omega)
theorem l2i_bit (x : Int64) {i : Nat} (hi : i < 32) : x.toInt32.toBitVec.getLsbD i = x.toBitVec.getLsbD i := by
  rw [Int64.toBitVec_toInt32, BitVec.getLsbD_signExtend]
  simp [hi, show i < 64 by omega]
theorem byteI_l2i (x : Int64) (i : Nat) (hi : i < 4) : byteI x.toInt32 i = byteL x i := byteIL_ext (fun j hj => l2i_bit x (by omega))
theorem i2l_bit (x : Int32) {i : Nat} (hi : i < 32) : x.toInt64.toBitVec.getLsbD i = x.toBitVec.getLsbD i := by
  rw [Int32.toBitVec_toInt64, BitVec.getLsbD_signExtend]
  simp [hi, show i < 64 by omega]
theorem byteL_i2l (x : Int32) (i : Nat) (hi : i < 4) : byteL x.toInt64 i = byteI x i := (byteIL_ext (x := x) (y := x.toInt64) (fun j hj => (i2l_bit x (by omega)).symm)).symm
theorem jlshr_bit (x : Int64) {i : Nat} (hi : i < 32) : (jlshr x (32 : Int32)).toBitVec.getLsbD i = x.toBitVec.getLsbD (32 + i) := by
  unfold jlshr
  have e : ((32 : Int32).toInt64 &&& 63).toBitVec.smod 64 = 32#64 := by decide
  rw [Int64.toBitVec_shiftRight, e]
  show (x.toBitVec.sshiftRight 32).getLsbD i = _
  rw [BitVec.getLsbD_sshiftRight]
  simp [show ¬ 64 ≤ i by omega, show 32 + i < 64 by omega]
theorem byteI_hi (x : Int64) (i : Nat) (hi : i < 4) : byteI (jlshr x (32 : Int32)).toInt32 i = byteL x (i + 4) := byteIL_ext (fun j hj => by
  rw [l2i_bit _ (by omega), jlshr_bit x (by omega)]
  congr 1
  omega)
/-- the low byte, as both put it into a row of bytes -/
theorem i8_low (x : Int32) : x.toInt8.toInt32 = sb_b (byteI x 0) := by
  unfold sb_b byteI
  apply Int32.toBitVec_inj.mp
  have h : x.toInt8 = (nI (x.toBitVec.toNat / 256 ^ 0 % 256)).toInt8 := by
    apply Int8.toBitVec_inj.mp
    apply BitVec.eq_of_toNat_eq
    rw [Int32.toBitVec_toInt8, Int32.toBitVec_toInt8, BitVec.toNat_signExtend, BitVec.toNat_signExtend]
    simp only [BitVec.toNat_setWidth]
    rw [pk_tn (n := x.toBitVec.toNat / 256 ^ 0 % 256) (by have := Nat.mod_lt (x.toBitVec.toNat / 256 ^ 0) (show 256 > 0 by decide); omega)]
    simp
  rw [h]
theorem vp_sb (n : Nat) : vp_nar .byte (sb_b n) = sb_b n := pk_vb _
theorem vp_i8 (x : Int32) : vp_nar .byte (x.toInt8.toInt32) = sb_b (byteI x 0) := by rw [i8_low, vp_sb]
/-- the octet that the class's pen makes -/
theorem oct_ok (v : Int64) (i : Nat) (hi : i < 8) : ((jlushr v ((8 : Int32) * nI i)).toInt32) &&& (255 : Int32) = nI (byteL v i) := by
  have e8 : (8 : Int32) * nI i = nI (8 * i) := pk_mul 8 i
  rw [e8, pk_and _ (m := 255) 8 (by decide)]
  have h : (jlushr v (nI (8 * i))).toBitVec.toNat = v.toBitVec.toNat / 2 ^ (8 * i) := uN_sk v (k := 8 * i) (by omega)
  congr 1
  apply Nat.eq_of_testBit_eq
  intro j
  rw [show (2 : Nat) ^ 8 = 256 from rfl]
  unfold byteL
  rw [tb256]
  have t := tb256 (jlushr v (nI (8 * i))).toInt32.toBitVec.toNat 0 j
  rw [show (256 : Nat) ^ 0 = 1 from rfl, Nat.div_one] at t
  rw [t]
  by_cases hj : j < 8
  · rw [BitVec.testBit_toNat, l2i_bit _ (by omega), ← BitVec.testBit_toNat, h, Nat.testBit_div_two_pow]
    congr 2
    omega
  · simp [hj]
