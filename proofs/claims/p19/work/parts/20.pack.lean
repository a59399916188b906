/-! numbers packed into a long: w bits each -/
def lq_vw (w : Nat) (f : Nat → Nat) : Nat → Nat
  | 0 => 0
  | n + 1 => lq_vw w f n + f n * 2 ^ (w * n)
theorem lq_vw_lt (w : Nat) (f : Nat → Nat) (h : ∀ i, f i < 2 ^ w) : ∀ n, lq_vw w f n < 2 ^ (w * n)
  | 0 => Nat.two_pow_pos _
  | n + 1 => by
    have h1 := lq_vw_lt w f h n
    have hf := h n
    rw [show w * (n + 1) = w * n + w by rw [Nat.mul_succ], Nat.pow_add]
    show lq_vw w f n + f n * 2 ^ (w * n) < _
    generalize 2 ^ (w * n) = q at *
    have h2 : f n * q ≤ (2 ^ w - 1) * q := Nat.mul_le_mul_right q (by omega)
    have h3 : (2 ^ w - 1) * q = 2 ^ w * q - q := by rw [Nat.sub_mul, Nat.one_mul]
    have h4 : q ≤ 2 ^ w * q := Nat.le_mul_of_pos_left q (Nat.two_pow_pos w)
    rw [Nat.mul_comm q]
    omega
theorem lq_vw_bit (w : Nat) (hw : 0 < w) (f : Nat → Nat) (h : ∀ i, f i < 2 ^ w) (j : Nat) : ∀ n, (lq_vw w f n).testBit j = (decide (j < w * n) && (f (j / w)).testBit (j % w))
  | 0 => by
    show (0 : Nat).testBit j = _
    rw [Nat.zero_testBit, Nat.mul_zero, decide_eq_false (by omega), Bool.false_and]
  | n + 1 => by
    have ih := lq_vw_bit w hw f h j n
    have hl := lq_vw_lt w f h n
    show (lq_vw w f n + f n * 2 ^ (w * n)).testBit j = _
    rw [Nat.add_comm, Nat.mul_comm (f n), Nat.testBit_two_pow_mul_add _ hl]
    rw [Nat.mul_succ]
    by_cases z : j < w * n
    · rw [if_pos z, ih, decide_eq_true z, decide_eq_true (show j < w * n + w by omega)]
    · rw [if_neg z]
      by_cases y : j < w * n + w
      · have e1 : j / w = n := by
          apply Nat.div_eq_of_lt_le
          · rw [Nat.mul_comm]; omega
          · rw [Nat.mul_comm, Nat.mul_succ]; omega
        have e2 : j % w = j - w * n := by
          have := Nat.div_add_mod j w
          rw [e1] at this
          omega
        rw [e1, e2, decide_eq_true y, Bool.true_and]
      · rw [decide_eq_false y, Bool.false_and]
        exact Nat.testBit_lt_two_pow (Nat.lt_of_lt_of_le (h n) (Nat.pow_le_pow_right (by decide) (by omega)))
/-! Int64 by its bits -/
def lq_bl (x : Int64) (j : Nat) : Bool := x.toBitVec.getLsbD j
theorem lq_bl_ext {x y : Int64} (h : ∀ j, j < 64 → lq_bl x j = lq_bl y j) : x = y := Int64.toBitVec_inj.mp (BitVec.eq_of_getLsbD_eq (fun i hi => h i hi))
theorem lq_bl_and (x y : Int64) (j : Nat) : lq_bl (x &&& y) j = (lq_bl x j && lq_bl y j) := by unfold lq_bl; rw [Int64.toBitVec_and, BitVec.getLsbD_and]
theorem lq_bl_or (x y : Int64) (j : Nat) : lq_bl (x ||| y) j = (lq_bl x j || lq_bl y j) := by unfold lq_bl; rw [Int64.toBitVec_or, BitVec.getLsbD_or]
theorem lq_bl_m1 : ∀ j, j < 64 → lq_bl (-1) j = true := by decide +kernel
theorem lq_bl_not (x : Int64) {j : Nat} (hj : j < 64) : lq_bl (x ^^^ (-1)) j = !lq_bl x j := by
  have h := lq_bl_m1 j hj
  unfold lq_bl at *
  rw [Int64.toBitVec_xor, BitVec.getLsbD_xor, h, Bool.xor_true]
theorem lq_bl_lN (n : Nat) {j : Nat} (hj : j < 64) : lq_bl (lN n) j = n.testBit j := by
  unfold lq_bl
  show (BitVec.ofNat 64 n).getLsbD j = _
  rw [BitVec.getLsbD_ofNat, decide_eq_true hj, Bool.true_and]
theorem lq_bl_shl (x : Int64) {k j : Nat} (hk : k < 64) (hj : j < 64) : lq_bl (x <<< ((nI k).toInt64 &&& 63)) j = (decide (k ≤ j) && lq_bl x (j - k)) := by
  obtain ⟨n, hn, rfl⟩ := wb_of x
  rw [wb_shl n hk, lq_bl_lN _ hj, Nat.testBit_mul_two_pow]
  by_cases z : k ≤ j
  · rw [lq_bl_lN _ (show j - k < 64 by omega)]
  · rw [decide_eq_false z, Bool.false_and, Bool.false_and]
theorem lq_bl_shr (x : Int64) {k j : Nat} (hk : k < 64) (hj : j < 64) : lq_bl ((x.toUInt64 >>> ((nI k).toInt64.toUInt64 &&& Int64.toUInt64 63)).toInt64) j = (decide (k + j < 64) && lq_bl x (k + j)) := by
  obtain ⟨n, hn, rfl⟩ := wb_of x
  rw [wb_shr hn hk, lq_bl_lN _ hj, Nat.testBit_div_two_pow, Nat.add_comm]
  by_cases z : k + j < 64
  · rw [lq_bl_lN _ z, decide_eq_true z, Bool.true_and]
  · rw [decide_eq_false z, Bool.false_and]
    exact Nat.testBit_lt_two_pow (Nat.lt_of_lt_of_le hn (Nat.pow_le_pow_right (by decide) (by omega)))
theorem lq_bl_i (d : Int32) {j : Nat} (hj : j < 32) : lq_bl d.toInt64 j = d.toBitVec.toNat.testBit j := by
  unfold lq_bl
  rw [Int32.toBitVec_toInt64, BitVec.getLsbD_signExtend, BitVec.testBit_toNat]
  simp [hj, show j < 64 by omega]
theorem lq_by_bit (d : Int32) (i : Nat) {j : Nat} (hj : j < 8) : (lq_by d i).testBit j = d.toBitVec.toNat.testBit (8 * i + j) := by
  unfold lq_by
  show (_ % 2 ^ 8).testBit j = _
  rw [Nat.testBit_mod_two_pow, Nat.testBit_div_two_pow, decide_eq_true hj, Bool.true_and, Nat.add_comm]
/-- eight bytes as a long -/
def lq_L (f : Nat → Nat) : Int64 := lN (lq_vw 8 f 8)
theorem lq_L_bit (f : Nat → Nat) (h : ∀ i, f i < 256) {j : Nat} (hj : j < 64) : lq_bl (lq_L f) j = (f (j / 8)).testBit (j % 8) := by
  unfold lq_L
  rw [lq_bl_lN _ hj, lq_vw_bit 8 (by decide) f h j 8, decide_eq_true (show j < 8 * 8 by omega), Bool.true_and]
def lq_wr (f : Nat → Nat) (s ad : Nat) (d : Int32) : Nat → Nat := fun a => if ad ≤ a ∧ a < ad + s then lq_by d (a - ad) else f a
theorem lq_wr_lt {f : Nat → Nat} (h : ∀ i, f i < 256) (s ad : Nat) (d : Int32) (i : Nat) : lq_wr f s ad d i < 256 := by
  unfold lq_wr
  split
  · exact lq_by_lt _ _
  · exact h i
theorem lq_mk_bit {s j : Nat} (hj : j < 64) : lq_bl (lN (2 ^ (8 * s) - 1)) j = decide (j < 8 * s) := by
  rw [lq_bl_lN _ hj, Nat.testBit_two_pow_sub_one]
theorem lq_L_wr (f : Nat → Nat) (h : ∀ i, f i < 256) {s ad : Nat} (d : Int32) (hs : s ≤ 4) (ha : ad + s ≤ 8) (h0 : 0 < s) : (lq_L f &&& ((lN (2 ^ (8 * s) - 1) <<< ((nI (8 * ad)).toInt64 &&& 63)) ^^^ (-1))) ||| ((d.toInt64 &&& lN (2 ^ (8 * s) - 1)) <<< ((nI (8 * ad)).toInt64 &&& 63)) = lq_L (lq_wr f s ad d) := by
  apply lq_bl_ext
  intro j hj
  rw [lq_bl_or, lq_bl_and, lq_bl_not _ hj, lq_bl_shl _ (by omega) hj, lq_bl_shl _ (by omega) hj, lq_bl_and, lq_L_bit f h hj, lq_L_bit _ (lq_wr_lt h s ad d) hj, lq_mk_bit (by omega)]
  unfold lq_wr
  by_cases z1 : 8 * ad ≤ j
  · by_cases z2 : j - 8 * ad < 8 * s
    · rw [if_pos ⟨by omega, by omega⟩, decide_eq_true z1, decide_eq_true z2, lq_bl_i d (by omega), lq_by_bit d _ (by omega), show 8 * (j / 8 - ad) + j % 8 = j - 8 * ad by omega]
      simp
    · rw [if_neg (by omega), decide_eq_true z1, decide_eq_false z2]
      simp
  · rw [if_neg (by omega), decide_eq_false z1]
    simp
theorem lq_L_rd (f : Nat → Nat) (h : ∀ i, f i < 256) {s ad : Nat} (hs : s ≤ 4) (ha : ad + s ≤ 8) (h0 : 0 < s) : ((lq_L f).toUInt64 >>> ((nI (8 * ad)).toInt64.toUInt64 &&& Int64.toUInt64 63)).toInt64 &&& lN (2 ^ (8 * s) - 1) = lN (lq_vw 8 (fun i => f (ad + i)) s) := by
  apply lq_bl_ext
  intro j hj
  rw [lq_bl_and, lq_bl_shr _ (by omega) hj, lq_mk_bit hj, lq_bl_lN _ hj, lq_vw_bit 8 (by decide) _ (fun i => h (ad + i))]
  by_cases z : j < 8 * s
  · rw [decide_eq_true z, decide_eq_true (show 8 * ad + j < 64 by omega), lq_L_bit f h (by omega), show (8 * ad + j) / 8 = ad + j / 8 by omega, show (8 * ad + j) % 8 = j % 8 by omega]
    simp
  · rw [decide_eq_false z]
    simp
theorem lq_L_at (f : Nat → Nat) (h : ∀ i, f i < 256) {a : Nat} (ha : a < 8) : ((((lq_L f).toUInt64 >>> ((nI (8 * a)).toInt64.toUInt64 &&& Int64.toUInt64 63)).toInt64) &&& 255).toInt32 = nI (f a) := by
  have e : ((lq_L f).toUInt64 >>> ((nI (8 * a)).toInt64.toUInt64 &&& Int64.toUInt64 63)).toInt64 &&& 255 = lN (f a) := by
    apply lq_bl_ext
    intro j hj
    have hm : lq_bl 255 j = decide (j < 8) := lq_mk_bit (s := 1) hj
    rw [lq_bl_and, lq_bl_shr _ (by omega) hj, hm, lq_bl_lN _ hj]
    by_cases z : j < 8
    · rw [decide_eq_true z, decide_eq_true (show 8 * a + j < 64 by omega), lq_L_bit f h (by omega), show (8 * a + j) / 8 = a by omega, show (8 * a + j) % 8 = j by omega]
      simp
    · rw [decide_eq_false z, Nat.testBit_lt_two_pow (Nat.lt_of_lt_of_le (h a) (Nat.pow_le_pow_right (n := 2) (i := 8) (by decide) (by omega)))]
      simp
  rw [e, lN_i]
theorem lq_L_inj {f g : Nat → Nat} (h : ∀ i, i < 8 → f i = g i) : lq_L f = lq_L g := by
  have e : ∀ n, n ≤ 8 → lq_vw 8 f n = lq_vw 8 g n := by
    intro n
    induction n with
    | zero => intro _; rfl
    | succ n ih =>
      intro hn
      show lq_vw 8 f n + f n * _ = lq_vw 8 g n + g n * _
      rw [ih (by omega), h n (by omega)]
  unfold lq_L
  rw [e 8 (by omega)]
/-- four ids as a long -/
def lq_I (f : Nat → Nat) : Int64 := lN (lq_vw 16 f 4)
theorem lq_I_bit (f : Nat → Nat) (h : ∀ i, f i < 65536) {j : Nat} (hj : j < 64) : lq_bl (lq_I f) j = (f (j / 16)).testBit (j % 16) := by
  unfold lq_I
  rw [lq_bl_lN _ hj, lq_vw_bit 16 (by decide) f h j 4, decide_eq_true (show j < 16 * 4 by omega), Bool.true_and]
theorem lq_ffff {j : Nat} (hj : j < 64) : lq_bl 65535 j = decide (j < 16) := lq_mk_bit (s := 2) hj
theorem lq_I_at (f : Nat → Nat) (h : ∀ i, f i < 65536) {i : Nat} (hi : i < 4) : ((((lq_I f).toUInt64 >>> ((nI (16 * i)).toInt64.toUInt64 &&& Int64.toUInt64 63)).toInt64) &&& 65535).toInt32 = nI (f i) := by
  have e : ((lq_I f).toUInt64 >>> ((nI (16 * i)).toInt64.toUInt64 &&& Int64.toUInt64 63)).toInt64 &&& 65535 = lN (f i) := by
    apply lq_bl_ext
    intro j hj
    rw [lq_bl_and, lq_bl_shr _ (by omega) hj, lq_ffff hj, lq_bl_lN _ hj]
    by_cases z : j < 16
    · rw [decide_eq_true z, decide_eq_true (show 16 * i + j < 64 by omega), lq_I_bit f h (by omega), show (16 * i + j) / 16 = i by omega, show (16 * i + j) % 16 = j by omega]
      simp
    · rw [decide_eq_false z, Nat.testBit_lt_two_pow (Nat.lt_of_lt_of_le (h i) (Nat.pow_le_pow_right (n := 2) (i := 16) (by decide) (by omega)))]
      simp
  rw [e, lN_i]
theorem lq_I_0 (f : Nat → Nat) (h : ∀ i, f i < 65536) : (lq_I f &&& 65535).toInt32 = nI (f 0) := by
  have e : lq_I f &&& 65535 = lN (f 0) := by
    apply lq_bl_ext
    intro j hj
    rw [lq_bl_and, lq_ffff hj, lq_bl_lN _ hj, lq_I_bit f h hj]
    by_cases z : j < 16
    · rw [decide_eq_true z, show j / 16 = 0 by omega, show j % 16 = j by omega]
      simp
    · rw [decide_eq_false z, Nat.testBit_lt_two_pow (Nat.lt_of_lt_of_le (h 0) (Nat.pow_le_pow_right (n := 2) (i := 16) (by decide) (by omega)))]
      simp
  rw [e, lN_i]
theorem lq_I_set (f : Nat → Nat) (h : ∀ i, f i < 65536) {i x : Nat} (hi : i < 4) (hx : x < 65536) : (lq_I f &&& (((65535 : Int64) <<< ((nI (16 * i)).toInt64 &&& 63)) ^^^ (-1))) ||| ((nI x).toInt64 <<< ((nI (16 * i)).toInt64 &&& 63)) = lq_I (lq_un f i x) := by
  apply lq_bl_ext
  intro j hj
  rw [lq_bl_or, lq_bl_and, lq_bl_not _ hj, lq_bl_shl _ (by omega) hj, lq_bl_shl _ (by omega) hj, lq_I_bit f h hj, lq_I_bit _ (lq_unp (P := fun y => y < 65536) h hx) hj, lq_ffff (by omega), nI_l (by omega), lq_bl_lN _ (by omega)]
  unfold lq_un
  by_cases z1 : 16 * i ≤ j
  · by_cases z2 : j - 16 * i < 16
    · rw [if_pos (by omega), decide_eq_true z1, decide_eq_true z2, show j % 16 = j - 16 * i by omega]
      simp
    · rw [if_neg (by omega), decide_eq_true z1, decide_eq_false z2, Nat.testBit_lt_two_pow (Nat.lt_of_lt_of_le hx (Nat.pow_le_pow_right (n := 2) (i := 16) (by decide) (by omega)))]
      simp
  · rw [if_neg (by omega), decide_eq_false z1]
    simp
theorem lq_I_or (f : Nat → Nat) (h : ∀ i, f i < 65536) {i x : Nat} (hi : i < 4) (hx : x < 65536) (h0 : f i = 0) : lq_I f ||| ((nI x).toInt64 <<< ((nI (16 * i)).toInt64 &&& 63)) = lq_I (lq_un f i x) := by
  apply lq_bl_ext
  intro j hj
  rw [lq_bl_or, lq_bl_shl _ (by omega) hj, lq_I_bit f h hj, lq_I_bit _ (lq_unp (P := fun y => y < 65536) h hx) hj, nI_l (by omega), lq_bl_lN _ (by omega)]
  unfold lq_un
  by_cases z1 : 16 * i ≤ j
  · by_cases z2 : j - 16 * i < 16
    · rw [if_pos (by omega), decide_eq_true z1, show j % 16 = j - 16 * i by omega, show j / 16 = i by omega, h0]
      simp
    · rw [if_neg (by omega), decide_eq_true z1, Nat.testBit_lt_two_pow (x := x) (Nat.lt_of_lt_of_le hx (Nat.pow_le_pow_right (n := 2) (i := 16) (by decide) (by omega)))]
      simp
  · rw [if_neg (by omega), decide_eq_false z1]
    simp
theorem lq_I_shr (f : Nat → Nat) (h : ∀ i, f i < 65536) : ((lq_I f).toUInt64 >>> ((16 : Int32).toInt64.toUInt64 &&& Int64.toUInt64 63)).toInt64 = lq_I (fun i => if i < 3 then f (i + 1) else 0) := by
  apply lq_bl_ext
  intro j hj
  have e := lq_bl_shr (lq_I f) (k := 16) (by omega) hj
  have hg : ∀ i, (fun i => if i < 3 then f (i + 1) else 0) i < 65536 := fun i => by
    dsimp only
    split
    · exact h _
    · omega
  rw [lq_I_bit _ hg hj]
  refine Eq.trans e ?_
  by_cases z : 16 + j < 64
  · rw [decide_eq_true z, lq_I_bit f h z, if_pos (by omega), show (16 + j) / 16 = j / 16 + 1 by omega, show (16 + j) % 16 = j % 16 by omega]
    simp
  · rw [decide_eq_false z, if_neg (by omega)]
    simp
theorem lq_I_next (f g : Nat → Nat) (h : ∀ i, f i < 65536) (h' : ∀ i, g i < 65536) : ((lq_I f).toUInt64 >>> ((16 : Int32).toInt64.toUInt64 &&& Int64.toUInt64 63)).toInt64 ||| (lq_I g <<< ((48 : Int32).toInt64 &&& 63)) = lq_I (fun i => if i < 3 then f (i + 1) else g 0) := by
  apply lq_bl_ext
  intro j hj
  have e := lq_bl_shr (lq_I f) (k := 16) (by omega) hj
  have e2 := lq_bl_shl (lq_I g) (k := 48) (by omega) hj
  have hg : ∀ i, (fun i => if i < 3 then f (i + 1) else g 0) i < 65536 := fun i => by
    dsimp only
    split
    · exact h _
    · exact h' _
  rw [lq_I_bit _ hg hj, lq_bl_or]
  refine Eq.trans (congr (congrArg or e) e2) ?_
  by_cases z : 16 + j < 64
  · rw [decide_eq_true z, lq_I_bit f h z, if_pos (by omega), show (16 + j) / 16 = j / 16 + 1 by omega, show (16 + j) % 16 = j % 16 by omega, decide_eq_false (show ¬ 48 ≤ j by omega)]
    simp
  · rw [decide_eq_false z, if_neg (by omega), decide_eq_true (show 48 ≤ j by omega), lq_I_bit g h' (by omega), show (j - 48) / 16 = 0 by omega, show (j - 48) % 16 = j % 16 by omega]
    simp
