/-! bytes of an int, values of up to four bytes -/
def lq_by (d : Int32) (i : Nat) : Nat := d.toBitVec.toNat / 2 ^ (8 * i) % 256
def lq_lo (d : Int32) (s : Nat) : Nat := d.toBitVec.toNat % 2 ^ (8 * s)
def lq_vs (f : Nat → Nat) : Nat → Nat
  | 0 => 0
  | n + 1 => lq_vs f n + f n * 2 ^ (8 * n)
theorem lq_by_lt (d : Int32) (i : Nat) : lq_by d i < 256 := Nat.mod_lt _ (by decide)
theorem lq_pw (n : Nat) : 2 ^ (8 * (n + 1)) = 2 ^ (8 * n) * 256 := by
  rw [show 8 * (n + 1) = 8 * n + 8 by omega, Nat.pow_add]
theorem lq_vs_lt (f : Nat → Nat) (h : ∀ i, f i < 256) : ∀ n, lq_vs f n < 2 ^ (8 * n)
  | 0 => Nat.two_pow_pos _
  | n + 1 => by
    have h1 := lq_vs_lt f h n
    have hf := h n
    rw [lq_pw]
    show lq_vs f n + f n * 2 ^ (8 * n) < _
    generalize 2 ^ (8 * n) = q at *
    have h2 : f n * q ≤ 255 * q := Nat.mul_le_mul_right q (by omega)
    omega
theorem lq_vs_cong {f g : Nat → Nat} : ∀ n, (∀ i, i < n → f i = g i) → lq_vs f n = lq_vs g n
  | 0, _ => rfl
  | n + 1, h => by
    show lq_vs f n + f n * 2 ^ (8 * n) = lq_vs g n + g n * 2 ^ (8 * n)
    rw [lq_vs_cong n (fun i hi => h i (by omega)), h n (by omega)]
theorem lq_vs_by (d : Int32) : ∀ s, lq_vs (lq_by d) s = lq_lo d s
  | 0 => by
    show 0 = _ % 2 ^ (8 * 0)
    rw [Nat.mul_zero, Nat.pow_zero, Nat.mod_one]
  | s + 1 => by
    show lq_vs (lq_by d) s + lq_by d s * 2 ^ (8 * s) = _
    rw [lq_vs_by d s]
    unfold lq_lo lq_by
    rw [lq_pw, Nat.mod_mul, Nat.mul_comm (2 ^ (8 * s))]
theorem lq_lo_by (d : Int32) {o s : Nat} (h : o < s) : lq_lo d s / 2 ^ (8 * o) % 256 = lq_by d o := by
  unfold lq_lo lq_by
  generalize d.toBitVec.toNat = n
  show n % 2 ^ (8 * s) / 2 ^ (8 * o) % 2 ^ 8 = n / 2 ^ (8 * o) % 2 ^ 8
  apply Nat.eq_of_testBit_eq
  intro i
  rw [Nat.testBit_mod_two_pow, Nat.testBit_mod_two_pow, Nat.testBit_div_two_pow, Nat.testBit_div_two_pow, Nat.testBit_mod_two_pow]
  by_cases hi : i < 8
  · have h1 : 8 * o + i < 8 * s := by omega
    have h2 : i + 8 * o < 8 * s := by omega
    simp [hi, h1, h2]
  · simp [hi]
theorem lq_lo_lt (d : Int32) {s : Nat} (h : s ≤ 4) : lq_lo d s < 2 ^ 32 :=
  Nat.lt_of_lt_of_le (Nat.mod_lt _ (Nat.two_pow_pos _)) (Nat.pow_le_pow_right (by decide) (by omega))
theorem lq_yb (d : Int32) {n : Nat} (hn : n < 4) : (d >>> (nI (8 * n) &&& 31)) &&& 255 = nI (lq_by d n) := by
  apply b_ext
  intro i hi
  rw [b_and, b_255, b_sshr (8 * n) (by omega) d hi]
  unfold bt lq_by
  show _ = (BitVec.ofNat 32 (d.toBitVec.toNat / 2 ^ (8 * n) % 2 ^ 8)).getLsbD i
  rw [BitVec.getLsbD_ofNat, Nat.testBit_mod_two_pow, Nat.testBit_div_two_pow, BitVec.testBit_toNat]
  by_cases h8 : i < 8
  · have h1 : 8 * n + i < 32 := by omega
    rw [if_pos h1, Nat.add_comm]
    simp [h8, hi]
  · simp [h8]
theorem lq_xb {m n : Nat} (hm : m < 2 ^ 32) (hn : n < 4) : (((lN m).toUInt64 >>> ((nI (8 * n)).toInt64.toUInt64 &&& Int64.toUInt64 63)).toInt64).toInt32 &&& 255 = nI (m / 2 ^ (8 * n) % 256) := by
  show _ = nI (m / 2 ^ (8 * n) % 2 ^ 8)
  rw [wb_shr (by omega) (by omega), lN_i, pk_andN (Nat.lt_of_le_of_lt (Nat.div_le_self _ _) hm) 8 (by decide)]
theorem lq_sxm (d : Int32) : d.toInt64.toBitVec.toNat % 4294967296 = d.toBitVec.toNat := by
  have hd := d.toBitVec.isLt
  rw [Int32.toBitVec_toInt64, BitVec.toNat_signExtend, BitVec.toNat_setWidth]
  split <;> omega
theorem lq_low (d : Int32) {s : Nat} (hs : s = 1 ∨ s = 2 ∨ s = 4) : d.toInt64 &&& ((4294967295 : Int64).toUInt64 >>> ((32 - 8 * nI s).toInt64.toUInt64 &&& Int64.toUInt64 63)).toInt64 = lN (lq_lo d s) := by
  have e : ((4294967295 : Int64).toUInt64 >>> ((32 - 8 * nI s).toInt64.toUInt64 &&& Int64.toUInt64 63)).toInt64 = lN (2 ^ (8 * s) - 1) := by
    rcases hs with rfl | rfl | rfl <;> decide +kernel
  have h1 := lq_sxm d
  have h2 : d.toInt64 = lN d.toInt64.toBitVec.toNat := wb_inj (by rw [wb_tb]; simp)
  have h3 := d.toInt64.toBitVec.isLt
  rw [e, h2]
  generalize d.toInt64.toBitVec.toNat = n at *
  rw [wb_mask h3 (by omega)]
  unfold lq_lo
  generalize d.toBitVec.toNat = m at *
  rcases hs with rfl | rfl | rfl
  · exact congrArg lN (show n % 256 = m % 256 by omega)
  · exact congrArg lN (show n % 65536 = m % 65536 by omega)
  · exact congrArg lN (show n % 4294967296 = m % 4294967296 by omega)
/-- a step of the sum, and of the 'or' -/
theorem lq_vadd (f : Nat → Nat) (n : Nat) (hn : n < 4) (hf : f n < 256) : lN (lq_vs f n) + (nI (f n)).toInt64 <<< ((nI (8 * n)).toInt64 &&& 63) = lN (lq_vs f (n + 1)) := by
  rw [nI_l (by omega), wb_shl _ (by omega), lN_add]
  rfl
theorem lq_vor (f : Nat → Nat) (h : ∀ i, f i < 256) (n : Nat) (hn : n < 4) : lN (lq_vs f n) ||| (nI (f n)).toInt64 <<< ((nI (8 * n)).toInt64 &&& 63) = lN (lq_vs f (n + 1)) := by
  have h1 := h n
  have h2 := lq_vs_lt f h n
  have h3 := lq_vs_lt f h (n + 1)
  have h4 : 2 ^ (8 * (n + 1)) ≤ 2 ^ 32 := Nat.pow_le_pow_right (by decide) (by omega)
  rw [nI_l (by omega), wb_shl _ (by omega)]
  exact g_or' (k := 8 * n) rfl h2 (show lq_vs f (n + 1) < 2 ^ 64 by omega)
