section
/-! rows taken from kit/rows (starting texts) -/
def bt (x : Int32) (i : Nat) : Bool := x.toBitVec.getLsbD i
theorem b_ext {x y : Int32} (h : ∀ i, i < 32 → bt x i = bt y i) : x = y := Int32.toBitVec_inj.mp (BitVec.eq_of_getLsbD_eq (fun i hi => h i hi))
theorem b_and (x y : Int32) (i : Nat) : bt (x &&& y) i = (bt x i && bt y i) := by unfold bt; rw [Int32.toBitVec_and, BitVec.getLsbD_and]
theorem b_big {x : Int32} {i : Nat} (h : 32 ≤ i) : bt x i = false := BitVec.getLsbD_of_ge _ _ h
theorem b_255 (i : Nat) : bt 255 i = decide (i < 8) := by
  rcases Nat.lt_or_ge i 32 with h | h
  · exact (by decide +kernel : ∀ i, i < 32 → bt 255 i = decide (i < 8)) i h
  · rw [b_big h, decide_eq_false (by omega)]
theorem s_l : ∀ n, n < 32 → ((nI n &&& 31).toBitVec.smod 32).toNat = n := by decide +kernel
theorem b_sshr (n : Nat) (hn : n < 32) (x : Int32) {i : Nat} (hi : i < 32) : bt (x >>> (nI n &&& 31)) i = if n + i < 32 then bt x (n + i) else bt x 31 := by
  unfold bt
  rw [Int32.toBitVec_shiftRight]
  show (x.toBitVec.sshiftRight ((nI n &&& 31).toBitVec.smod 32).toNat).getLsbD i = _
  rw [s_l n hn, BitVec.getLsbD_sshiftRight, BitVec.msb_eq_getLsbD_last]
  simp [hi]
theorem wb_tb (n : Nat) : (lN n).toBitVec = BitVec.ofNat 64 n := rfl
theorem wb_inj {a b : Int64} (h : a.toBitVec = b.toBitVec) : a = b := Int64.toBitVec_inj.mp h
theorem wb_tn {n : Nat} (h : n < 2 ^ 64) : (lN n).toBitVec.toNat = n := by rw [wb_tb, BitVec.toNat_ofNat, Nat.mod_eq_of_lt h]
theorem wb_of (x : Int64) : ∃ n, n < 2 ^ 64 ∧ x = lN n := ⟨x.toBitVec.toNat, x.toBitVec.isLt, wb_inj (by rw [wb_tb]; simp)⟩
theorem wb_c : ∀ k, k < 64 → ((nI k).toInt64 &&& 63) = lN k := by decide +kernel
theorem wb_cu : ∀ k, k < 64 → ((nI k).toInt64.toUInt64 &&& Int64.toUInt64 63) = UInt64.ofNat k := by decide +kernel
theorem wb_sm : ∀ k, k < 64 → (BitVec.ofNat 64 k).smod 64 = BitVec.ofNat 64 k := by decide +kernel
theorem wb_lt2 {a b : Nat} (h : a < b) : 2 ^ a < 2 ^ b := Nat.pow_lt_pow_right (by decide) h
theorem wb_shr {n k : Nat} (hn : n < 2 ^ 64) (hk : k < 64) : ((lN n).toUInt64 >>> ((nI k).toInt64.toUInt64 &&& Int64.toUInt64 63)).toInt64 = lN (n / 2 ^ k) := by
  rw [wb_cu k hk]
  apply wb_inj
  apply BitVec.eq_of_toNat_eq
  show ((lN n).toUInt64 >>> UInt64.ofNat k).toNat = (BitVec.ofNat 64 _).toNat
  have h1 : (UInt64.ofNat k).toNat = k := by
    show (BitVec.ofNat 64 k).toNat = k
    rw [BitVec.toNat_ofNat, Nat.mod_eq_of_lt (by omega)]
  have h2 : (lN n).toUInt64.toNat = n := wb_tn hn
  rw [UInt64.toNat_shiftRight, h1, h2, Nat.mod_eq_of_lt hk, Nat.shiftRight_eq_div_pow, BitVec.toNat_ofNat, Nat.mod_eq_of_lt (Nat.lt_of_le_of_lt (Nat.div_le_self _ _) hn)]
theorem wb_shl (n : Nat) {k : Nat} (hk : k < 64) : lN n <<< ((nI k).toInt64 &&& 63) = lN (n * 2 ^ k) := by
  rw [wb_c k hk]
  apply wb_inj
  rw [Int64.toBitVec_shiftLeft, wb_tb, wb_tb, wb_tb, wb_sm k hk]
  apply BitVec.eq_of_toNat_eq
  rw [BitVec.shiftLeft_eq', BitVec.toNat_shiftLeft, BitVec.toNat_ofNat, BitVec.toNat_ofNat, BitVec.toNat_ofNat, Nat.mod_eq_of_lt (show k < 2 ^ 64 by omega), Nat.shiftLeft_eq, Nat.mul_mod, Nat.mod_mod, ← Nat.mul_mod]
theorem wb_and {a b : Nat} (ha : a < 2 ^ 64) (hb : b < 2 ^ 64) : lN a &&& lN b = lN (a &&& b) := by
  apply wb_inj
  rw [Int64.toBitVec_and, wb_tb, wb_tb, wb_tb]
  apply BitVec.eq_of_toNat_eq
  rw [BitVec.toNat_and, BitVec.toNat_ofNat, BitVec.toNat_ofNat, BitVec.toNat_ofNat, Nat.mod_eq_of_lt ha, Nat.mod_eq_of_lt hb, Nat.mod_eq_of_lt (Nat.and_lt_two_pow _ hb)]
theorem wb_mask {n k : Nat} (hn : n < 2 ^ 64) (hk : k < 64) : lN n &&& lN (2 ^ k - 1) = lN (n % 2 ^ k) := by
  rw [wb_and hn (by have := wb_lt2 hk; omega), Nat.and_two_pow_sub_one_eq_mod]
theorem u_tn {n : Nat} (h : n < 2 ^ 64) : (UInt64.ofNat n).toNat = n := Nat.mod_eq_of_lt h
theorem g_or {k p a b : Nat} (hp : 2 ^ k = p) (ha : a < p) (h : b * p + a < 2 ^ 64) : lN (b * p) ||| lN a = lN (b * p + a) := by
  subst hp
  have h1 : b * 2 ^ k ||| a = b * 2 ^ k + a := by rw [← Nat.shiftLeft_eq, Nat.shiftLeft_add_eq_or_of_lt ha]
  have h3 : UInt64.ofNat (b * 2 ^ k) ||| UInt64.ofNat a = UInt64.ofNat (b * 2 ^ k + a) := UInt64.toNat_inj.mp (by rw [UInt64.toNat_or, u_tn (by omega), u_tn (by omega), u_tn h, h1])
  have h2 := congrArg UInt64.toInt64 h3
  exact h2
theorem g_or' {k p a b : Nat} (hp : 2 ^ k = p) (ha : a < p) (h : a + b * p < 2 ^ 64) : lN a ||| lN (b * p) = lN (a + b * p) := by
  rw [Int64.or_comm, g_or hp ha (by omega), Nat.add_comm]
end
section
/-! bytes of an int, values of up to four bytes -/
def lq_by (d : Int32) (i : Nat) : Nat := d.toBitVec.toNat / 2 ^ (8 * i) % 256
def lq_lo (d : Int32) (s : Nat) : Nat := d.toBitVec.toNat % 2 ^ (8 * s)
def lq_vs (f : Nat → Nat) : Nat → Nat
  | 0 => 0
  | n + 1 => lq_vs f n + f n * 2 ^ (8 * n)
theorem lq_by_lt (d : Int32) (i : Nat) : lq_by d i < 256 := Nat.mod_lt _ (by decide)
theorem lq_pw (n : Nat) : 2 ^ (8 * (n + 1)) = 2 ^ (8 * n) * 256 := by
  rw [show 8 * (n + 1) = 8 * n + 8 by omega, Nat.pow_add]
theorem lq_vs_lt (f : Nat → Nat) (h : ∀ i, f i < 256) : ∀ n, lq_vs f n < 2 ^ (8 * n)
  | 0 => Nat.two_pow_pos _
  | n + 1 => by
    have h1 := lq_vs_lt f h n
    have hf := h n
    rw [lq_pw]
    show lq_vs f n + f n * 2 ^ (8 * n) < _
    generalize 2 ^ (8 * n) = q at *
    have h2 : f n * q ≤ 255 * q := Nat.mul_le_mul_right q (by omega)
    omega
theorem lq_vs_cong {f g : Nat → Nat} : ∀ n, (∀ i, i < n → f i = g i) → lq_vs f n = lq_vs g n
  | 0, _ => rfl
  | n + 1, h => by
    show lq_vs f n + f n * 2 ^ (8 * n) = lq_vs g n + g n * 2 ^ (8 * n)
    rw [lq_vs_cong n (fun i hi => h i (by omega)), h n (by omega)]
theorem lq_vs_by (d : Int32) : ∀ s, lq_vs (lq_by d) s = lq_lo d s
  | 0 => by
    show 0 = _ % 2 ^ (8 * 0)
    rw [Nat.mul_zero, Nat.pow_zero, Nat.mod_one]
  | s + 1 => by
    show lq_vs (lq_by d) s + lq_by d s * 2 ^ (8 * s) = _
    rw [lq_vs_by d s]
    unfold lq_lo lq_by
    rw [lq_pw, Nat.mod_mul, Nat.mul_comm (2 ^ (8 * s))]
theorem lq_lo_by (d : Int32) {o s : Nat} (h : o < s) : lq_lo d s / 2 ^ (8 * o) % 256 = lq_by d o := by
  unfold lq_lo lq_by
  generalize d.toBitVec.toNat = n
  show n % 2 ^ (8 * s) / 2 ^ (8 * o) % 2 ^ 8 = n / 2 ^ (8 * o) % 2 ^ 8
  apply Nat.eq_of_testBit_eq
  intro i
  rw [Nat.testBit_mod_two_pow, Nat.testBit_mod_two_pow, Nat.testBit_div_two_pow, Nat.testBit_div_two_pow, Nat.testBit_mod_two_pow]
  by_cases hi : i < 8
  · have h1 : 8 * o + i < 8 * s := by omega
    have h2 : i + 8 * o < 8 * s := by omega
    simp [hi, h1, h2]
  · simp [hi]
theorem lq_lo_lt (d : Int32) {s : Nat} (h : s ≤ 4) : lq_lo d s < 2 ^ 32 :=
  Nat.lt_of_lt_of_le (Nat.mod_lt _ (Nat.two_pow_pos _)) (Nat.pow_le_pow_right (by decide) (by omega))
theorem lq_yb (d : Int32) {n : Nat} (hn : n < 4) : (d >>> (nI (8 * n) &&& 31)) &&& 255 = nI (lq_by d n) := by
  apply b_ext
  intro i hi
  rw [b_and, b_255, b_sshr (8 * n) (by omega) d hi]
  unfold bt lq_by
  show _ = (BitVec.ofNat 32 (d.toBitVec.toNat / 2 ^ (8 * n) % 2 ^ 8)).getLsbD i
  rw [BitVec.getLsbD_ofNat, Nat.testBit_mod_two_pow, Nat.testBit_div_two_pow, BitVec.testBit_toNat]
  by_cases h8 : i < 8
  · have h1 : 8 * n + i < 32 := by omega
    rw [if_pos h1, Nat.add_comm]
    simp [h8, hi]
  · simp [h8]
theorem lq_xb {m n : Nat} (hm : m < 2 ^ 32) (hn : n < 4) : (((lN m).toUInt64 >>> ((nI (8 * n)).toInt64.toUInt64 &&& Int64.toUInt64 63)).toInt64).toInt32 &&& 255 = nI (m / 2 ^ (8 * n) % 256) := by
  show _ = nI (m / 2 ^ (8 * n) % 2 ^ 8)
  rw [wb_shr (by omega) (by omega), lN_i, pk_andN (Nat.lt_of_le_of_lt (Nat.div_le_self _ _) hm) 8 (by decide)]
theorem lq_sxm (d : Int32) : d.toInt64.toBitVec.toNat % 4294967296 = d.toBitVec.toNat := by
  have hd := d.toBitVec.isLt
  rw [Int32.toBitVec_toInt64, BitVec.toNat_signExtend, BitVec.toNat_setWidth]
  split <;> omega
theorem lq_low (d : Int32) {s : Nat} (hs : s = 1 ∨ s = 2 ∨ s = 4) : d.toInt64 &&& ((4294967295 : Int64).toUInt64 >>> ((32 - 8 * nI s).toInt64.toUInt64 &&& Int64.toUInt64 63)).toInt64 = lN (lq_lo d s) := by
  have e : ((4294967295 : Int64).toUInt64 >>> ((32 - 8 * nI s).toInt64.toUInt64 &&& Int64.toUInt64 63)).toInt64 = lN (2 ^ (8 * s) - 1) := by
    rcases hs with rfl | rfl | rfl <;> decide +kernel
  have h1 := lq_sxm d
  have h2 : d.toInt64 = lN d.toInt64.toBitVec.toNat := wb_inj (by rw [wb_tb]; simp)
  have h3 := d.toInt64.toBitVec.isLt
  rw [e, h2]
  generalize d.toInt64.toBitVec.toNat = n at *
  rw [wb_mask h3 (by omega)]
  unfold lq_lo
  generalize d.toBitVec.toNat = m at *
  rcases hs with rfl | rfl | rfl
  · exact congrArg lN (show n % 256 = m % 256 by omega)
  · exact congrArg lN (show n % 65536 = m % 65536 by omega)
  · exact congrArg lN (show n % 4294967296 = m % 4294967296 by omega)
/-- a step of the sum, and of the 'or' -/
theorem lq_vadd (f : Nat → Nat) (n : Nat) (hn : n < 4) (hf : f n < 256) : lN (lq_vs f n) + (nI (f n)).toInt64 <<< ((nI (8 * n)).toInt64 &&& 63) = lN (lq_vs f (n + 1)) := by
  rw [nI_l (by omega), wb_shl _ (by omega), lN_add]
  rfl
theorem lq_vor (f : Nat → Nat) (h : ∀ i, f i < 256) (n : Nat) (hn : n < 4) : lN (lq_vs f n) ||| (nI (f n)).toInt64 <<< ((nI (8 * n)).toInt64 &&& 63) = lN (lq_vs f (n + 1)) := by
  have h1 := h n
  have h2 := lq_vs_lt f h n
  have h3 := lq_vs_lt f h (n + 1)
  have h4 : 2 ^ (8 * (n + 1)) ≤ 2 ^ 32 := Nat.pow_le_pow_right (by decide) (by omega)
  rw [nI_l (by omega), wb_shl _ (by omega)]
  exact g_or' (k := 8 * n) rfl h2 (show lq_vs f (n + 1) < 2 ^ 64 by omega)
end
section
/-! the window: who covers a cell, the source, the byte that a position sees -/
def lq_un (f : Nat → Nat) (k x : Nat) : Nat → Nat := fun j => if j = k then x else f j
theorem lq_us {f : Nat → Nat} {k x : Nat} : lq_un f k x k = x := if_pos rfl
theorem lq_ui {f : Nat → Nat} {k x j : Nat} (h : j ≠ k) : lq_un f k x j = f j := if_neg h
theorem lq_upd (f : Nat → Nat) (k x : Nat) : upd (fun i => nI (f i)) k (nI x) = fun i => nI (lq_un f k x i) := by
  funext j
  unfold upd lq_un
  split <;> rfl
abbrev lq_cov (k s kn ad : Nat → Nat) (c i : Nat) : Prop := k i = 1 ∧ kn i = 1 ∧ ad i ≤ c ∧ c < ad i + s i
def lq_src (k s kn ad : Nat → Nat) (c : Nat) : Nat → Option Nat
  | 0 => none
  | p + 1 => if lq_cov k s kn ad c p then some p else lq_src k s kn ad c p
def lq_lb (k s kn ad : Nat → Nat) (D : Nat → Int32) (base : Nat → Nat) (c : Nat) : Nat → Nat
  | 0 => base c
  | p + 1 => if lq_cov k s kn ad c p then lq_by (D p) (c - ad p) else lq_lb k s kn ad D base c p
def lq_ar (k s r kn ad : Nat → Nat) (c : Nat) : Nat → Prop
  | 0 => True
  | p + 1 => (lq_cov k s kn ad c p → r p = 1) ∧ (¬ lq_cov k s kn ad c p → lq_ar k s r kn ad c p)
def lq_en : Option Nat → Int32
  | none => -1
  | some i => nI i
theorem lq_lb_lt (k s kn ad : Nat → Nat) (D : Nat → Int32) (base : Nat → Nat) (c : Nat) (hb : base c < 256) : ∀ p, lq_lb k s kn ad D base c p < 256
  | 0 => hb
  | p + 1 => by
    unfold lq_lb
    split
    · exact lq_by_lt _ _
    · exact lq_lb_lt k s kn ad D base c hb p
theorem lq_src_lt {k s kn ad : Nat → Nat} {c i : Nat} : ∀ p, lq_src k s kn ad c p = some i → i < p ∧ lq_cov k s kn ad c i
  | 0, h => by cases h
  | p + 1, h => by
    unfold lq_src at h
    by_cases z : lq_cov k s kn ad c p
    · rw [if_pos z] at h
      cases h
      exact ⟨by omega, z⟩
    · rw [if_neg z] at h
      have := lq_src_lt p h
      exact ⟨by omega, this.2⟩
theorem lq_lb_none {k s kn ad : Nat → Nat} {D : Nat → Int32} {base : Nat → Nat} {c : Nat} : ∀ p, lq_src k s kn ad c p = none → lq_lb k s kn ad D base c p = base c
  | 0, _ => rfl
  | p + 1, h => by
    unfold lq_src at h
    unfold lq_lb
    by_cases z : lq_cov k s kn ad c p
    · rw [if_pos z] at h
      cases h
    · rw [if_neg z] at h
      rw [if_neg z]
      exact lq_lb_none p h
theorem lq_lb_some {k s kn ad : Nat → Nat} {D : Nat → Int32} {base : Nat → Nat} {c i : Nat} : ∀ p, lq_src k s kn ad c p = some i → lq_lb k s kn ad D base c p = lq_by (D i) (c - ad i)
  | 0, h => by cases h
  | p + 1, h => by
    unfold lq_src at h
    unfold lq_lb
    by_cases z : lq_cov k s kn ad c p
    · rw [if_pos z] at h
      cases h
      rw [if_pos z]
    · rw [if_neg z] at h
      rw [if_neg z]
      exact lq_lb_some p h
theorem lq_ar_src {k s r kn ad : Nat → Nat} {c : Nat} : ∀ p, lq_ar k s r kn ad c p ↔ ∀ i, lq_src k s kn ad c p = some i → r i = 1
  | 0 => ⟨fun _ i h => (by cases h), fun _ => True.intro⟩
  | p + 1 => by
    unfold lq_src lq_ar
    by_cases z : lq_cov k s kn ad c p
    · rw [if_pos z]
      exact ⟨fun h i e => by cases e; exact h.1 z, fun h => ⟨fun _ => h p rfl, fun n => absurd z n⟩⟩
    · rw [if_neg z]
      have := lq_ar_src (k := k) (s := s) (r := r) (kn := kn) (ad := ad) (c := c) p
      exact ⟨fun h => this.mp (h.2 z), fun h => ⟨fun y => absurd y z, fun _ => this.mpr h⟩⟩
/-- what a ready load saw, it still sees -/
theorem lq_keep {k s r kn ad k' s' r' kn' ad' : Nat → Nat} {D D' : Nat → Int32} {base base' : Nat → Nat} {c : Nat} : ∀ p, (∀ i, i < p → (lq_cov k s kn ad c i ↔ lq_cov k' s' kn' ad' c i)) → (∀ i, i < p → lq_cov k s kn ad c i → r i = 1 → r' i = 1 ∧ lq_by (D' i) (c - ad' i) = lq_by (D i) (c - ad i)) → base' c = base c → lq_ar k s r kn ad c p → lq_ar k' s' r' kn' ad' c p ∧ lq_lb k' s' kn' ad' D' base' c p = lq_lb k s kn ad D base c p
  | 0, _, _, hb, _ => ⟨True.intro, hb⟩
  | p + 1, hc, hD, hb, ha => by
    unfold lq_ar at ha
    unfold lq_ar lq_lb
    by_cases z : lq_cov k s kn ad c p
    · have z' := (hc p (by omega)).mp z
      have e := hD p (by omega) z (ha.1 z)
      rw [if_pos z, if_pos z']
      exact ⟨⟨fun _ => e.1, fun n => absurd z' n⟩, e.2⟩
    · have z' : ¬ lq_cov k' s' kn' ad' c p := fun y => z ((hc p (by omega)).mpr y)
      have ih := lq_keep p (fun i hi => hc i (by omega)) (fun i hi => hD i (by omega)) hb (ha.2 z)
      rw [if_neg z, if_neg z']
      exact ⟨⟨fun y => absurd y z', fun _ => ih.1⟩, ih.2⟩
/-- a store's address becomes known: a load draws from it, or sees what it saw -/
theorem lq_new {k s r kn ad kn' ad' : Nat → Nat} {D : Nat → Int32} {base : Nat → Nat} {c p : Nat} (hn : ¬ lq_cov k s kn ad c p) (hk : ∀ i, i ≠ p → kn' i = kn i ∧ ad' i = ad i) : ∀ j, lq_src k s kn' ad' c j = some p ∨ ((lq_ar k s r kn ad c j → lq_ar k s r kn' ad' c j) ∧ lq_lb k s kn' ad' D base c j = lq_lb k s kn ad D base c j)
  | 0 => Or.inr ⟨id, rfl⟩
  | j + 1 => by
    have ih := lq_new hn hk (r := r) (D := D) (base := base) j
    unfold lq_src lq_ar lq_lb
    by_cases hj : j = p
    · subst hj
      by_cases z : lq_cov k s kn' ad' c j
      · rw [if_pos z]
        exact Or.inl rfl
      · rw [if_neg z, if_neg z, if_neg hn]
        rcases ih with ih | ih
        · exact Or.inl ih
        · exact Or.inr ⟨fun h => ⟨fun y => absurd y z, fun _ => ih.1 (h.2 hn)⟩, ih.2⟩
    · have e : lq_cov k s kn' ad' c j ↔ lq_cov k s kn ad c j := by
        unfold lq_cov
        rw [(hk j hj).1, (hk j hj).2]
      by_cases z : lq_cov k s kn ad c j
      · have z' := e.mpr z
        rw [if_pos z', if_pos z', if_pos z, (hk j hj).2]
        exact Or.inr ⟨fun h => ⟨fun _ => h.1 z, fun n => absurd z' n⟩, rfl⟩
      · have z' : ¬ lq_cov k s kn' ad' c j := fun y => z (e.mp y)
        rw [if_neg z', if_neg z', if_neg z]
        rcases ih with ih | ih
        · exact Or.inl ih
        · exact Or.inr ⟨fun h => ⟨fun y => absurd y z', fun _ => ih.1 (h.2 z)⟩, ih.2⟩
/-- the oldest leaves the window -/
theorem lq_shift {k s r kn ad k' s' r' kn' ad' : Nat → Nat} {D D' : Nat → Int32} {base base' : Nat → Nat} {c : Nat} (hb : base' c = lq_lb k s kn ad D base c 1) : ∀ j, (∀ i, i < j → k' i = k (i + 1) ∧ s' i = s (i + 1) ∧ r' i = r (i + 1) ∧ kn' i = kn (i + 1) ∧ ad' i = ad (i + 1) ∧ D' i = D (i + 1)) → (lq_ar k s r kn ad c (j + 1) → lq_ar k' s' r' kn' ad' c j) ∧ lq_lb k' s' kn' ad' D' base' c j = lq_lb k s kn ad D base c (j + 1)
  | 0, _ => ⟨fun _ => True.intro, hb⟩
  | j + 1, h => by
    have ih := lq_shift hb j (fun i hi => h i (by omega))
    obtain ⟨h1, h2, h3, h4, h5, h6⟩ := h j (by omega)
    have e : lq_cov k' s' kn' ad' c j ↔ lq_cov k s kn ad c (j + 1) := by
      unfold lq_cov
      rw [h1, h2, h4, h5]
    rw [lq_ar.eq_def k s r kn ad c (j + 1 + 1), lq_lb.eq_def k s kn ad D base c (j + 1 + 1), lq_ar.eq_def k' s' r' kn' ad' c (j + 1), lq_lb.eq_def k' s' kn' ad' D' base' c (j + 1)]
    dsimp only
    by_cases z : lq_cov k s kn ad c (j + 1)
    · have z' := e.mpr z
      rw [if_pos z', if_pos z, h5, h6, h3]
      exact ⟨fun h => ⟨fun _ => h.1 z, fun n => absurd z' n⟩, rfl⟩
    · have z' : ¬ lq_cov k' s' kn' ad' c j := fun y => z (e.mp y)
      rw [if_neg z', if_neg z]
      exact ⟨fun h => ⟨fun y => absurd y z', fun _ => ih.1 (h.2 z)⟩, ih.2⟩
/-! the buffer -/
def lq_mb (bs ba : Nat → Nat) (BD : Nat → Int32) (ce : Nat → Nat) (a : Nat) : Nat → Nat
  | 0 => ce a
  | n + 1 => if ba n ≤ a ∧ a < ba n + bs n then lq_by (BD n) (a - ba n) else lq_mb bs ba BD ce a n
theorem lq_mb_lt (bs ba : Nat → Nat) (BD : Nat → Int32) (ce : Nat → Nat) (a : Nat) (h : ce a < 256) : ∀ n, lq_mb bs ba BD ce a n < 256
  | 0 => h
  | n + 1 => by
    unfold lq_mb
    split
    · exact lq_by_lt _ _
    · exact lq_mb_lt bs ba BD ce a h n
theorem lq_mb_cong {bs ba bs' ba' : Nat → Nat} {BD BD' : Nat → Int32} {ce : Nat → Nat} {a : Nat} : ∀ n, (∀ i, i < n → bs' i = bs i ∧ ba' i = ba i ∧ BD' i = BD i) → lq_mb bs' ba' BD' ce a n = lq_mb bs ba BD ce a n
  | 0, _ => rfl
  | n + 1, h => by
    obtain ⟨h1, h2, h3⟩ := h n (by omega)
    unfold lq_mb
    rw [h1, h2, h3, lq_mb_cong n (fun i hi => h i (by omega))]
theorem lq_mb_shift {bs ba bs' ba' : Nat → Nat} {BD BD' : Nat → Int32} {ce ce' : Nat → Nat} {a : Nat} (hc : ce' a = lq_mb bs ba BD ce a 1) : ∀ n, (∀ i, i < n → bs' i = bs (i + 1) ∧ ba' i = ba (i + 1) ∧ BD' i = BD (i + 1)) → lq_mb bs' ba' BD' ce' a n = lq_mb bs ba BD ce a (n + 1)
  | 0, _ => hc
  | n + 1, h => by
    obtain ⟨h1, h2, h3⟩ := h n (by omega)
    rw [lq_mb.eq_def bs' ba' BD' ce' a (n + 1), lq_mb.eq_def bs ba BD ce a (n + 1 + 1)]
    dsimp only
    rw [h1, h2, h3, lq_mb_shift hc n (fun i hi => h i (by omega))]
end
section
/-! the sets: names on one side, pairs on the other -/
theorem lq_m1 {n : Nat} (h : n < 2 ^ 31) : nI n ≠ -1 := by
  intro e
  have := congrArg Int32.toInt e
  rw [nI_toInt h, show (-1 : Int32).toInt = -1 from by decide] at this
  omega
def lq_S4 (st : Nat → Int32) : Prop := ∀ x, x < 16 → st x = -1 ∨ ∃ n, n < 16 ∧ st x = nI n ∧ st n = nI n
def lq_S (st : Nat → Int32) (pr : Nat → Nat) : Prop :=
  (∀ x y, x < 16 → y < 16 → pr (16 * x + y) = 1 → st x ≠ -1 ∧ st x = st y) ∧
  (∀ Q : Nat → Prop, (∀ x y, x < 16 → y < 16 → pr (16 * x + y) = 1 → Q x → Q y) → ∀ x y, x < 16 → y < 16 → st x ≠ -1 → st x = st y → Q x → Q y) ∧
  (∀ x, x < 16 → st x ≠ -1 → ∃ y, y < 16 ∧ pr (16 * x + y) = 1) ∧ lq_S4 st
def lq_nm (st : Nat → Int32) (a : Nat) : Nat → Int32 := if st a = -1 then upd st a (nI a) else st
theorem lq_nm0 {st : Nat → Int32} {a x : Nat} (h : st x ≠ -1) : lq_nm st a x = st x := by
  unfold lq_nm
  split
  · rename_i z
    exact pk_un (fun e => h (by rw [e]; exact z))
  · rfl
theorem lq_nm1 {st : Nat → Int32} {a : Nat} (ha : a < 16) : lq_nm st a a ≠ -1 := by
  unfold lq_nm
  split
  · rw [pk_us]
    exact lq_m1 (by omega)
  · assumption
theorem lq_nm2 {st : Nat → Int32} {a x : Nat} (h : st x = -1) (hx : x ≠ a) : lq_nm st a x = -1 := by
  unfold lq_nm
  split
  · rw [pk_un hx]
    exact h
  · exact h
theorem lq_nm3 {st : Nat → Int32} {a : Nat} (ha : a < 16) (h4 : lq_S4 st) : lq_S4 (lq_nm st a) := by
  intro x hx
  by_cases z : st a = -1
  · by_cases e : x = a
    · subst e
      refine Or.inr ⟨x, hx, ?_, ?_⟩ <;> (unfold lq_nm; rw [if_pos z, pk_us])
    · rcases h4 x hx with h | ⟨n, hn, h1, h2⟩
      · exact Or.inl (lq_nm2 h e)
      · refine Or.inr ⟨n, hn, ?_, ?_⟩
        · rw [lq_nm0 (by rw [h1]; exact lq_m1 (by omega)), h1]
        · rw [lq_nm0 (by rw [h2]; exact lq_m1 (by omega)), h2]
  · unfold lq_nm
    rw [if_neg z]
    exact h4 x hx
theorem lq_nm4 {st : Nat → Int32} {a x y : Nat} (ha : a < 16) (hy : y < 16) (h4 : lq_S4 st) (hx : st x = -1) (h : lq_nm st a x ≠ -1) (e : lq_nm st a x = lq_nm st a y) : x = y := by
  by_cases xa : x = a
  · subst xa
    by_cases ya : y = x
    · exact ya.symm
    · have e1 : lq_nm st x x = nI x := by
        unfold lq_nm
        rw [if_pos hx, pk_us]
      have e2 : lq_nm st x y = st y := by
        unfold lq_nm
        rw [if_pos hx, pk_un ya]
      rw [e1, e2] at e
      rcases h4 y hy with h5 | ⟨n, hn, h1, h2⟩
      · exact absurd (e.trans h5) (lq_m1 (by omega))
      · rw [h1, nI_eq (by omega) (by omega)] at e
        subst e
        rw [hx] at h2
        exact absurd h2.symm (lq_m1 (by omega))
  · exact absurd (lq_nm2 hx xa) h
def lq_mg (t : Nat → Int32) (kept merged : Int32) (n : Nat) : Nat → Int32 := fun x => if x < n ∧ t x = merged then kept else t x
theorem lq_mg0 (t : Nat → Int32) (kept merged : Int32) : lq_mg t kept merged 0 = t := by
  funext x
  exact if_neg (fun h => by omega)
theorem lq_mgs (t : Nat → Int32) (kept merged : Int32) (n : Nat) : lq_mg t kept merged n n = t n := if_neg (fun h => by omega)
theorem lq_mg1 (t : Nat → Int32) (kept merged : Int32) (n : Nat) (h : t n = merged) : upd (lq_mg t kept merged n) n kept = lq_mg t kept merged (n + 1) := by
  funext x
  unfold upd lq_mg
  by_cases e : x = n
  · subst e
    rw [if_pos rfl, if_pos ⟨by omega, h⟩]
  · rw [if_neg e]
    by_cases z : x < n ∧ t x = merged
    · rw [if_pos z, if_pos ⟨by omega, z.2⟩]
    · rw [if_neg z, if_neg (fun y => z ⟨by omega, y.2⟩)]
theorem lq_mg2 (t : Nat → Int32) (kept merged : Int32) (n : Nat) (h : t n ≠ merged) : lq_mg t kept merged n = lq_mg t kept merged (n + 1) := by
  funext x
  unfold lq_mg
  by_cases z : x < n ∧ t x = merged
  · rw [if_pos z, if_pos ⟨by omega, z.2⟩]
  · rw [if_neg z, if_neg]
    intro y
    by_cases e : x = n
    · subst e
      exact h y.2
    · exact z ⟨by omega, y.2⟩
def lq_t (st : Nat → Int32) (a b : Nat) : Nat → Int32 := lq_nm (lq_nm st a) b
def lq_rp (st : Nat → Int32) (a b : Nat) : Nat → Int32 := lq_mg (lq_t st a b) (lq_t st a b a) (lq_t st a b b) 16
def lq_pp (pr : Nat → Nat) (a b : Nat) : Nat → Nat := lq_un (lq_un pr (16 * a + b) 1) (16 * b + a) 1
theorem lq_pp_old {pr : Nat → Nat} {a b n : Nat} (h : pr n = 1) : lq_pp pr a b n = 1 := by
  unfold lq_pp lq_un
  split
  · rfl
  · split
    · rfl
    · exact h
theorem lq_pp_ab (pr : Nat → Nat) (a b : Nat) : lq_pp pr a b (16 * a + b) = 1 := by
  unfold lq_pp lq_un
  split
  · rfl
  · exact if_pos rfl
theorem lq_pp_ba (pr : Nat → Nat) (a b : Nat) : lq_pp pr a b (16 * b + a) = 1 := by
  unfold lq_pp lq_un
  exact if_pos rfl
theorem lq_pp_inv {pr : Nat → Nat} {a b x y : Nat} (ha : a < 16) (hb : b < 16) (hx : x < 16) (hy : y < 16) (h : lq_pp pr a b (16 * x + y) = 1) : pr (16 * x + y) = 1 ∨ (x = a ∧ y = b) ∨ (x = b ∧ y = a) := by
  unfold lq_pp lq_un at h
  by_cases z : 16 * x + y = 16 * b + a
  · exact Or.inr (Or.inr ⟨by omega, by omega⟩)
  · rw [if_neg z] at h
    by_cases w : 16 * x + y = 16 * a + b
    · exact Or.inr (Or.inl ⟨by omega, by omega⟩)
    · rw [if_neg w] at h
      exact Or.inl h
theorem lq_pp_le {pr : Nat → Nat} {a b : Nat} (h : ∀ i, pr i ≤ 1) (i : Nat) : lq_pp pr a b i ≤ 1 := by
  unfold lq_pp lq_un
  split
  · omega
  · split
    · omega
    · exact h i
theorem lq_rp_S {st : Nat → Int32} {pr : Nat → Nat} {a b : Nat} (ha : a < 16) (hb : b < 16) (h : lq_S st pr) : lq_S (lq_rp st a b) (lq_pp pr a b) := by
  obtain ⟨h1, h2, h3, h4⟩ := h
  have n4 := lq_nm3 ha h4
  have t0 : ∀ x, st x ≠ -1 → lq_t st a b x = st x := fun x hx => by
    unfold lq_t
    rw [lq_nm0 (by rw [lq_nm0 hx]; exact hx), lq_nm0 hx]
  have ta : lq_t st a b a ≠ -1 := by
    unfold lq_t
    rw [lq_nm0 (lq_nm1 ha)]
    exact lq_nm1 ha
  have tb : lq_t st a b b ≠ -1 := lq_nm1 hb
  have t2 : ∀ x, st x = -1 → x ≠ a → x ≠ b → lq_t st a b x = -1 := fun x hx xa xb => lq_nm2 (lq_nm2 hx xa) xb
  have t3 : lq_S4 (lq_t st a b) := lq_nm3 hb n4
  have t4 : ∀ x y, x < 16 → y < 16 → st x = -1 → lq_t st a b x ≠ -1 → lq_t st a b x = lq_t st a b y → x = y := by
    intro x y hx hy sx tx e
    by_cases z : lq_nm st a x = -1
    · exact lq_nm4 hb hy n4 z tx e
    · have ex : lq_t st a b x = lq_nm st a x := lq_nm0 z
      by_cases w : lq_nm st a y = -1
      · exact (lq_nm4 hb hx n4 w (by rw [e] at tx; exact tx) e.symm).symm
      · have ey : lq_t st a b y = lq_nm st a y := lq_nm0 w
        rw [ex, ey] at e
        exact lq_nm4 ha hy h4 sx z e
  unfold lq_rp
  generalize lq_t st a b = t at *
  have g : ∀ x, x < 16 → lq_mg t (t a) (t b) 16 x = if t x = t b then t a else t x := fun x hx => by
    unfold lq_mg
    by_cases z : t x = t b
    · rw [if_pos ⟨hx, z⟩, if_pos z]
    · rw [if_neg (fun y => z y.2), if_neg z]
  have g0 : ∀ x, x < 16 → (lq_mg t (t a) (t b) 16 x ≠ -1 ↔ t x ≠ -1) := fun x hx => by
    rw [g x hx]
    by_cases z : t x = t b
    · rw [if_pos z, z]
      exact ⟨fun _ => tb, fun _ => ta⟩
    · rw [if_neg z]
  have gab : lq_mg t (t a) (t b) 16 a = lq_mg t (t a) (t b) 16 b := by
    rw [g a ha, g b hb, if_pos rfl]
    split <;> rfl
  refine ⟨?_, ?_, ?_, ?_⟩
  · intro x y hx hy hp
    rcases lq_pp_inv ha hb hx hy hp with hp | ⟨rfl, rfl⟩ | ⟨rfl, rfl⟩
    · obtain ⟨i1, i2⟩ := h1 x y hx hy hp
      have i3 : st y ≠ -1 := by rw [← i2]; exact i1
      refine ⟨(g0 x hx).mpr (by rw [t0 x i1]; exact i1), ?_⟩
      rw [g x hx, g y hy, t0 x i1, t0 y i3, i2]
    · exact ⟨(g0 x hx).mpr ta, gab⟩
    · exact ⟨(g0 x hx).mpr tb, gab.symm⟩
  · intro Q hQ x y hx hy hn he hq
    have Qold : ∀ x y, x < 16 → y < 16 → pr (16 * x + y) = 1 → Q x → Q y := fun x y hx hy hp => hQ x y hx hy (lq_pp_old hp)
    have Qab : Q a → Q b := hQ a b ha hb (lq_pp_ab pr a b)
    have Qba : Q b → Q a := hQ b a hb ha (lq_pp_ba pr a b)
    have L : ∀ x y, x < 16 → y < 16 → t x ≠ -1 → t x = t y → Q x → Q y := by
      intro x y hx hy tx e q
      by_cases sx : st x = -1
      · rw [← t4 x y hx hy sx tx e]
        exact q
      · by_cases sy : st y = -1
        · rw [t4 y x hy hx sy (by rw [← e]; exact tx) e.symm]
          exact q
        · rw [t0 x sx, t0 y sy] at e
          exact h2 Q Qold x y hx hy sx e q
    have tx := (g0 x hx).mp hn
    rw [g x hx, g y hy] at he
    by_cases zx : t x = t b
    · by_cases zy : t y = t b
      · exact L x y hx hy tx (zx.trans zy.symm) hq
      · rw [if_pos zx, if_neg zy] at he
        exact L a y ha hy ta he (Qba (L x b hx hb tx zx hq))
    · by_cases zy : t y = t b
      · rw [if_neg zx, if_pos zy] at he
        exact L b y hb hy tb zy.symm (Qab (L x a hx ha tx he hq))
      · rw [if_neg zx, if_neg zy] at he
        exact L x y hx hy tx he hq
  · intro x hx hn
    have tx := (g0 x hx).mp hn
    by_cases sx : st x = -1
    · by_cases xa : x = a
      · exact ⟨b, hb, by rw [xa]; exact lq_pp_ab pr a b⟩
      · by_cases xb : x = b
        · exact ⟨a, ha, by rw [xb]; exact lq_pp_ba pr a b⟩
        · exact absurd (t2 x sx xa xb) tx
    · obtain ⟨y, hy, hp⟩ := h3 x hx sx
      exact ⟨y, hy, lq_pp_old hp⟩
  · intro x hx
    by_cases z : t x = t b
    · rcases t3 a ha with h5 | ⟨n, hn, e1, e2⟩
      · exact absurd h5 ta
      · refine Or.inr ⟨n, hn, by rw [g x hx, if_pos z, e1], ?_⟩
        rw [g n hn]
        split
        · exact e1
        · exact e2
    · rcases t3 x hx with h5 | ⟨n, hn, e1, e2⟩
      · exact Or.inl (by rw [g x hx, if_neg z, h5])
      · refine Or.inr ⟨n, hn, by rw [g x hx, if_neg z, e1], ?_⟩
        rw [g n hn, if_neg (by rw [e2, ← e1]; exact z), e2]
theorem lq_S0 {st : Nat → Int32} {pr : Nat → Nat} (hs : ∀ x, x < 16 → st x = -1) (hp : ∀ i, i < 256 → pr i = 0) : lq_S st pr := by
  refine ⟨?_, ?_, ?_, ?_⟩
  · intro x y hx hy h
    rw [hp _ (by omega)] at h
    cases h
  · intro Q _ x y hx _ hn
    exact absurd (hs x hx) hn
  · intro x hx hn
    exact absurd (hs x hx) hn
  · intro x hx
    exact Or.inl (hs x hx)
/-! the sweep over the pairs -/
def lq_sw (pr rc : Nat → Nat) : Nat → (Nat → Nat)
  | 0 => rc
  | n + 1 => if lq_sw pr rc n (n / 16) = 1 ∧ pr n = 1 then lq_un (lq_sw pr rc n) (n % 16) 1 else lq_sw pr rc n
def lq_it (pr rc : Nat → Nat) : Nat → (Nat → Nat)
  | 0 => rc
  | n + 1 => lq_sw pr (lq_it pr rc n) 256
theorem lq_sw1 {pr rc : Nat → Nat} {n i : Nat} (h : lq_sw pr rc n i = 1) : lq_sw pr rc (n + 1) i = 1 := by
  unfold lq_sw
  split
  · unfold lq_un
    split
    · rfl
    · exact h
  · exact h
theorem lq_sw2 {pr rc : Nat → Nat} {n i : Nat} (h : lq_sw pr rc n i = 1) : ∀ d, lq_sw pr rc (n + d) i = 1
  | 0 => h
  | d + 1 => lq_sw1 (lq_sw2 h d)
theorem lq_swle {pr rc : Nat → Nat} (h : ∀ i, rc i ≤ 1) : ∀ n i, lq_sw pr rc n i ≤ 1
  | 0, i => h i
  | n + 1, i => by
    unfold lq_sw
    split
    · unfold lq_un
      split
      · omega
      · exact lq_swle h n i
    · exact lq_swle h n i
theorem lq_itle {pr rc : Nat → Nat} (h : ∀ i, rc i ≤ 1) : ∀ n i, lq_it pr rc n i ≤ 1
  | 0, i => h i
  | n + 1, i => lq_swle (lq_itle h n) 256 i
theorem lq_it1 {pr rc : Nat → Nat} {i : Nat} (h : rc i = 1) : ∀ n, lq_it pr rc n i = 1
  | 0 => h
  | n + 1 => by
    have := lq_sw2 (pr := pr) (rc := lq_it pr rc n) (n := 0) (i := i) (lq_it1 h n) 256
    exact this
theorem lq_swS {pr rc : Nat → Nat} {R : Nat → Prop} (hr : ∀ i, i < 16 → rc i = 1 → R i) (hp : ∀ x y, x < 16 → y < 16 → pr (16 * x + y) = 1 → R x → R y) : ∀ n, n ≤ 256 → ∀ i, i < 16 → lq_sw pr rc n i = 1 → R i
  | 0, _, i, hi, h => hr i hi h
  | n + 1, hn, i, hi, h => by
    unfold lq_sw at h
    by_cases z : lq_sw pr rc n (n / 16) = 1 ∧ pr n = 1
    · rw [if_pos z] at h
      by_cases e : i = n % 16
      · have r1 := lq_swS hr hp n (by omega) (n / 16) (by omega) z.1
        rw [e]
        exact hp (n / 16) (n % 16) (by omega) (by omega) (by rw [show 16 * (n / 16) + n % 16 = n by omega]; exact z.2) r1
      · rw [lq_ui e] at h
        exact lq_swS hr hp n (by omega) i hi h
    · rw [if_neg z] at h
      exact lq_swS hr hp n (by omega) i hi h
theorem lq_itS {pr rc : Nat → Nat} {R : Nat → Prop} (hr : ∀ i, i < 16 → rc i = 1 → R i) (hp : ∀ x y, x < 16 → y < 16 → pr (16 * x + y) = 1 → R x → R y) (n : Nat) : ∀ i, i < 16 → lq_it pr rc n i = 1 → R i := by
  induction n with
  | zero => exact hr
  | succ n ih =>
    intro i hi h
    rw [lq_it] at h
    exact lq_swS ih hp 256 (Nat.le_refl _) i hi h
def lq_Cl (pr rc : Nat → Nat) : Prop := ∀ x y, x < 16 → y < 16 → pr (16 * x + y) = 1 → rc x = 1 → rc y = 1
theorem lq_swC {pr rc : Nat → Nat} (h : lq_Cl pr rc) : ∀ n, n ≤ 256 → lq_sw pr rc n = rc
  | 0, _ => rfl
  | n + 1, hn => by
    unfold lq_sw
    rw [lq_swC h n (by omega)]
    split
    · rename_i z
      have e : rc (n % 16) = 1 := h (n / 16) (n % 16) (by omega) (by omega) (by rw [show 16 * (n / 16) + n % 16 = n by omega]; exact z.2) z.1
      funext i
      unfold lq_un
      split
      · rename_i w
        rw [w, e]
      · rfl
    · rfl
def lq_cn (f : Nat → Nat) : Nat → Nat
  | 0 => 0
  | n + 1 => lq_cn f n + f n
theorem lq_cnle {f g : Nat → Nat} (h : ∀ i, f i ≤ g i) : ∀ n, lq_cn f n ≤ lq_cn g n
  | 0 => Nat.le_refl _
  | n + 1 => Nat.add_le_add (lq_cnle h n) (h n)
theorem lq_cnlt {f g : Nat → Nat} (h : ∀ i, f i ≤ g i) {y : Nat} (hy : f y < g y) : ∀ n, y < n → lq_cn f n < lq_cn g n
  | 0, hn => by omega
  | n + 1, hn => by
    show lq_cn f n + f n < lq_cn g n + g n
    have h0 := h n
    by_cases e : y = n
    · have h1 := lq_cnle h n
      rw [e] at hy
      omega
    · have h1 := lq_cnlt h hy n (by omega)
      omega
theorem lq_cnall {f : Nat → Nat} (h : ∀ i, f i ≤ 1) : ∀ n, lq_cn f n ≤ n ∧ (n ≤ lq_cn f n → ∀ i, i < n → f i = 1)
  | 0 => ⟨Nat.le_refl _, fun _ i hi => by omega⟩
  | n + 1 => by
    have ih := lq_cnall h n
    have h0 := h n
    have e : lq_cn f (n + 1) = lq_cn f n + f n := rfl
    refine ⟨by omega, fun hn i hi => ?_⟩
    by_cases z : i = n
    · rw [z]; omega
    · exact ih.2 (by omega) i (by omega)
theorem lq_itC {pr rc : Nat → Nat} (hr : ∀ i, rc i ≤ 1) : ∀ n, lq_Cl pr (lq_it pr rc n) ∨ n ≤ lq_cn (lq_it pr rc n) 16
  | 0 => Or.inr (Nat.zero_le _)
  | n + 1 => by
    have le1 := lq_itle (pr := pr) hr n
    have le2 := lq_itle (pr := pr) hr (n + 1)
    by_cases c : lq_Cl pr (lq_it pr rc n)
    · left
      show lq_Cl pr (lq_sw pr (lq_it pr rc n) 256)
      rw [lq_swC c 256 (by omega)]
      exact c
    · rcases lq_itC hr n with c' | hc
      · exact absurd c' c
      · right
        have mono : ∀ i, lq_it pr rc n i = 1 → lq_it pr rc (n + 1) i = 1 := fun i hi => lq_sw2 (pr := pr) (rc := lq_it pr rc n) (n := 0) hi 256
        have hle : ∀ i, lq_it pr rc n i ≤ lq_it pr rc (n + 1) i := fun i => by
          have a1 := le1 i
          have a2 := mono i
          omega
        have : ∃ y, y < 16 ∧ lq_it pr rc n y < lq_it pr rc (n + 1) y := by
          apply Classical.byContradiction
          intro no
          apply c
          intro x y hx hy hp hx1
          have a1 := le1 y
          have : lq_it pr rc (n + 1) y = 1 := by
            have s1 : lq_sw pr (lq_it pr rc n) (16 * x + y) x = 1 := by
              have := lq_sw2 (pr := pr) (rc := lq_it pr rc n) (n := 0) (i := x) hx1 (16 * x + y)
              rw [Nat.zero_add] at this
              exact this
            have s2 : lq_sw pr (lq_it pr rc n) (16 * x + y + 1) y = 1 := by
              unfold lq_sw
              rw [show (16 * x + y) / 16 = x by omega, show (16 * x + y) % 16 = y by omega, if_pos ⟨s1, hp⟩]
              exact lq_us
            have s3 := lq_sw2 s2 (256 - (16 * x + y + 1))
            rw [show 16 * x + y + 1 + (256 - (16 * x + y + 1)) = 256 by omega] at s3
            exact s3
          apply Classical.byContradiction
          intro ny
          exact no ⟨y, hy, by omega⟩
        obtain ⟨y, hy, hlt⟩ := this
        have := lq_cnlt hle hlt 16 hy
        omega
/-- what the sweep finds from a is what bears a's name -/
theorem lq_reach {st : Nat → Int32} {pr rc : Nat → Nat} {a b : Nat} (h : lq_S st pr) (ha : a < 16) (hb : b < 16) (hr : ∀ i, rc i ≤ 1) (hrc : ∀ x, x < 16 → rc x = pr (16 * a + x)) : lq_it pr rc 16 b = 1 ↔ (st a ≠ -1 ∧ st a = st b) := by
  obtain ⟨h1, h2, h3, h4⟩ := h
  constructor
  · intro hit
    exact lq_itS (R := fun i => st a ≠ -1 ∧ st a = st i) (fun i hi e => h1 a i ha hi (by rw [← hrc i hi]; exact e)) (fun x y hx hy hp hR => ⟨hR.1, hR.2.trans (h1 x y hx hy hp).2⟩) 16 b hb hit
  · intro hab
    have cl : lq_Cl pr (lq_it pr rc 16) := by
      rcases lq_itC (pr := pr) hr 16 with c | c
      · exact c
      · intro x y hx hy _ _
        exact (lq_cnall (lq_itle hr 16) 16).2 c y hy
    obtain ⟨y, hy, hp⟩ := h3 a ha hab.1
    have e := h1 a y ha hy hp
    have hy1 : lq_it pr rc 16 y = 1 := lq_it1 (by rw [hrc y hy]; exact hp) 16
    exact h2 (fun i => lq_it pr rc 16 i = 1) cl y b hy hb (by rw [← e.2]; exact e.1) (e.2.symm.trans hab.2) hy1
end
section
/-! what the relation holds of the window, and how each call keeps it -/
def lq_ok (k s r kn ad : Nat → Nat) (V : Nat → Int64) (D : Nat → Int32) (base : Nat → Nat) (j : Nat) : Prop :=
  (k j = 1 → V j = lN (lq_lo (D j) (s j))) ∧
  (k j ≠ 1 → kn j = 1 ∧ V j = lN (lq_vs (fun i => lq_lb k s kn ad D base (ad j + i) j) (s j)) ∧ ∀ i, i < s j → lq_ar k s r kn ad (ad j + i) j)
def lq_W (m c : Nat) (k s r kn ad : Nat → Nat) (A : Nat → Int32) (V : Nat → Int64) (D : Nat → Int32) (base : Nat → Nat) : Prop :=
  ∀ j, j < c → (s j = 1 ∨ s j = 2 ∨ s j = 4) ∧ (kn j = 1 → ad j + s j ≤ m) ∧ A j = (if kn j = 1 then nI (ad j) else -1) ∧ (r j = 1 → lq_ok k s r kn ad V D base j)
def lq_B (k p r kn : Nat → Nat) : Prop := ∀ i, k i ≤ 1 ∧ p i < 16 ∧ r i ≤ 1 ∧ kn i ≤ 1
def lq_Q (m q : Nat) (bs ba : Nat → Nat) (BV : Nat → Int64) (BD : Nat → Int32) : Prop := ∀ i, i < q → (bs i = 1 ∨ bs i = 2 ∨ bs i = 4) ∧ ba i + bs i ≤ m ∧ BV i = lN (lq_lo (BD i) (bs i))
theorem lq_okK {k s r kn ad k' s' r' kn' ad' : Nat → Nat} {V V' : Nat → Int64} {D D' : Nat → Int32} {base base' : Nat → Nat} {j : Nat} (e1 : k' j = k j) (e2 : s' j = s j) (e3 : V' j = V j) (eD : k j = 1 → D' j = D j) (eL : k j ≠ 1 → kn j = 1 → kn' j = 1 ∧ ad' j = ad j) (hc : ∀ c i, i < j → (lq_cov k s kn ad c i ↔ lq_cov k' s' kn' ad' c i)) (hD : ∀ c i, i < j → lq_cov k s kn ad c i → r i = 1 → r' i = 1 ∧ lq_by (D' i) (c - ad' i) = lq_by (D i) (c - ad i)) (hb : ∀ c, base' c = base c) (h : lq_ok k s r kn ad V D base j) : lq_ok k' s' r' kn' ad' V' D' base' j := by
  refine ⟨fun z => ?_, fun z => ?_⟩
  · rw [e1] at z
    rw [e3, e2, eD z]
    exact h.1 z
  · rw [e1] at z
    obtain ⟨i1, i2, i3⟩ := h.2 z
    obtain ⟨l1, l2⟩ := eL z i1
    rw [e2, e3, l2]
    refine ⟨l1, ?_, fun i hi => (lq_keep j (hc _) (hD _) (hb _) (i3 i hi)).1⟩
    rw [i2]
    exact congrArg lN (lq_vs_cong _ (fun i hi => (lq_keep j (hc _) (hD _) (hb _) (i3 i hi)).2.symm))
theorem lq_Wenter {m c : Nat} {k s r kn ad : Nat → Nat} {A : Nat → Int32} {V : Nat → Int64} {D : Nat → Int32} {base : Nat → Nat} (h : lq_W m c k s r kn ad A V D base) (x y : Nat) (hy : y = 1 ∨ y = 2 ∨ y = 4) : lq_W m (c + 1) (lq_un k c x) (lq_un s c y) (lq_un r c 0) (lq_un kn c 0) (lq_un ad c 0) (upd A c (-1)) V (upd D c 0) base := by
  intro j hj
  by_cases e : j = c
  · subst e
    rw [lq_us, lq_us, lq_us, lq_us, pk_us]
    exact ⟨hy, fun z => (by cases z), rfl, fun z => (by cases z)⟩
  · obtain ⟨h1, h2, h3, h4⟩ := h j (by omega)
    rw [lq_ui e, lq_ui e, lq_ui e, lq_ui e, pk_un e]
    refine ⟨h1, h2, h3, fun z => lq_okK (lq_ui e) (lq_ui e) rfl (fun _ => pk_un e) (fun _ w => ⟨(lq_ui e).trans w, lq_ui e⟩) ?_ ?_ (fun _ => rfl) (h4 z)⟩
    · intro c' i hi
      have ei : i ≠ c := by omega
      unfold lq_cov
      rw [lq_ui ei, lq_ui ei, lq_ui ei, lq_ui ei]
    · intro c' i hi _ w
      have ei : i ≠ c := by omega
      rw [lq_ui ei, lq_ui ei, pk_un ei]
      exact ⟨w, rfl⟩
theorem lq_WaddrL {m c p a : Nat} {k s r kn ad : Nat → Nat} {A : Nat → Int32} {V : Nat → Int64} {D : Nat → Int32} {base : Nat → Nat} (h : lq_W m c k s r kn ad A V D base) (hp : p < c) (hk : k p ≠ 1) (hn : kn p ≠ 1) (ha : a + s p ≤ m) : lq_W m c k s r (lq_un kn p 1) (lq_un ad p a) (upd A p (nI a)) V D base := by
  intro j hj
  obtain ⟨h1, h2, h3, h4⟩ := h j hj
  by_cases e : j = p
  · subst e
    rw [lq_us, lq_us, pk_us]
    exact ⟨h1, fun _ => ha, (if_pos rfl).symm, fun z => absurd ((h4 z).2 hk).1 hn⟩
  · rw [lq_ui e, lq_ui e, pk_un e]
    refine ⟨h1, h2, h3, fun z => lq_okK rfl rfl rfl (fun _ => rfl) (fun _ w => ⟨(lq_ui e).trans w, lq_ui e⟩) ?_ ?_ (fun _ => rfl) (h4 z)⟩
    · intro c' i hi
      by_cases ei : i = p
      · subst ei
        exact ⟨fun w => absurd w.1 hk, fun w => absurd w.1 hk⟩
      · unfold lq_cov
        rw [lq_ui ei, lq_ui ei]
    · intro c' i hi co w
      have ei : i ≠ p := fun ei => hk (by rw [← ei]; exact co.1)
      rw [lq_ui ei]
      exact ⟨w, rfl⟩
/-- a load that is to be sent back: it draws from p -/
def lq_ms (k s r kn ad : Nat → Nat) (p j : Nat) : Prop := k j = 0 ∧ r j = 1 ∧ ∃ x, x < s j ∧ lq_src k s kn ad (ad j + x) j = some p
theorem lq_WaddrS {m c p a : Nat} {k s r kn ad r' : Nat → Nat} {A : Nat → Int32} {V : Nat → Int64} {D : Nat → Int32} {base : Nat → Nat} (h : lq_W m c k s r kn ad A V D base) (hB : ∀ i, k i ≤ 1) (hk : k p = 1) (hn : kn p ≠ 1) (ha : a + s p ≤ m) (hr : ∀ j, r' j = 1 → r j = 1) (hr1 : ∀ j, k j = 1 → r j = 1 → r' j = 1) (hr2 : ∀ j, p < j → j < c → lq_ms k s r (lq_un kn p 1) (lq_un ad p a) p j → r' j ≠ 1) : lq_W m c k s r' (lq_un kn p 1) (lq_un ad p a) (upd A p (nI a)) V D base := by
  intro j hj
  obtain ⟨h1, h2, h3, h4⟩ := h j hj
  by_cases e : j = p
  · subst e
    rw [lq_us, lq_us, pk_us]
    exact ⟨h1, fun _ => ha, (if_pos rfl).symm, fun z => ⟨fun w => (h4 (hr j z)).1 w, fun w => absurd hk w⟩⟩
  · rw [lq_ui e, lq_ui e, pk_un e]
    refine ⟨h1, h2, h3, fun z => ⟨fun w => (h4 (hr j z)).1 w, fun w => ?_⟩⟩
    obtain ⟨i1, i2, i3⟩ := (h4 (hr j z)).2 w
    rw [lq_ui e, lq_ui e]
    have key : ∀ x, x < s j → lq_ar k s r' (lq_un kn p 1) (lq_un ad p a) (ad j + x) j ∧ lq_lb k s (lq_un kn p 1) (lq_un ad p a) D base (ad j + x) j = lq_lb k s kn ad D base (ad j + x) j := by
      intro x hx
      rcases lq_new (k := k) (s := s) (r := r) (kn := kn) (ad := ad) (kn' := lq_un kn p 1) (ad' := lq_un ad p a) (D := D) (base := base) (c := ad j + x) (p := p) (fun co => hn co.2.1) (fun i hi => ⟨lq_ui hi, lq_ui hi⟩) j with hs | ⟨n1, n2⟩
      · have hpj := (lq_src_lt j hs).1
        have hkj := hB j
        exact absurd z (hr2 j hpj hj ⟨by omega, hr j z, x, hx, by rw [lq_ui e]; exact hs⟩)
      · refine ⟨?_, n2⟩
        exact (lq_keep (D := D) (D' := D) (base := base) (base' := base) j (fun i _ => Iff.rfl) (fun i _ co w => ⟨hr1 i co.1 w, rfl⟩) rfl (n1 (i3 x hx))).1
    exact ⟨i1, i2.trans (congrArg lN (lq_vs_cong _ (fun x hx => (key x hx).2.symm))), fun x hx => (key x hx).1⟩
theorem lq_Wdata {m c p : Nat} {d : Int32} {k s r kn ad : Nat → Nat} {A : Nat → Int32} {V : Nat → Int64} {D : Nat → Int32} {base : Nat → Nat} (h : lq_W m c k s r kn ad A V D base) (hk : k p = 1) (hr : r p ≠ 1) : lq_W m c k s (lq_un r p 1) kn ad A (vp_updL V p (lN (lq_lo d (s p)))) (upd D p d) base := by
  intro j hj
  obtain ⟨h1, h2, h3, h4⟩ := h j hj
  refine ⟨h1, h2, h3, fun z => ?_⟩
  by_cases e : j = p
  · subst e
    refine ⟨fun _ => by rw [pk_uLs, pk_us], fun w => absurd hk w⟩
  · rw [lq_ui e] at z
    refine lq_okK rfl rfl (pk_uLn e) (fun _ => pk_un e) (fun _ w => ⟨w, rfl⟩) (fun _ _ _ => Iff.rfl) ?_ (fun _ => rfl) (h4 z)
    intro c' i hi co w
    have ei : i ≠ p := fun ei => hr (by rw [← ei]; exact w)
    rw [lq_ui ei, pk_un ei]
    exact ⟨w, rfl⟩
theorem lq_Wexec {m c p : Nat} {k s r kn ad : Nat → Nat} {A : Nat → Int32} {V : Nat → Int64} {D : Nat → Int32} {base : Nat → Nat} (h : lq_W m c k s r kn ad A V D base) (hk : k p ≠ 1) (hn : kn p = 1) (ha : ∀ i, i < s p → lq_ar k s r kn ad (ad p + i) p) : lq_W m c k s (lq_un r p 1) kn ad A (vp_updL V p (lN (lq_vs (fun i => lq_lb k s kn ad D base (ad p + i) p) (s p)))) D base := by
  have up : ∀ i, r i = 1 → lq_un r p 1 i = 1 := fun i w => by
    unfold lq_un
    split
    · rfl
    · exact w
  intro j hj
  obtain ⟨h1, h2, h3, h4⟩ := h j hj
  refine ⟨h1, h2, h3, fun z => ?_⟩
  by_cases e : j = p
  · subst e
    refine ⟨fun w => absurd w hk, fun _ => ⟨hn, pk_uLs, fun i hi => ?_⟩⟩
    exact (lq_keep (D := D) (D' := D) (base := base) (base' := base) j (fun _ _ => Iff.rfl) (fun i _ _ w => ⟨up i w, rfl⟩) rfl (ha i hi)).1
  · rw [lq_ui e] at z
    exact lq_okK rfl rfl (pk_uLn e) (fun _ => rfl) (fun _ w => ⟨w, rfl⟩) (fun _ _ _ => Iff.rfl) (fun _ i _ _ w => ⟨up i w, rfl⟩) (fun _ => rfl) (h4 z)
theorem lq_Wcommit {m c : Nat} {k s r kn ad k' s' r' kn' ad' : Nat → Nat} {A A' : Nat → Int32} {V V' : Nat → Int64} {D D' : Nat → Int32} {base base' : Nat → Nat} (h : lq_W m (c + 1) k s r kn ad A V D base) (hs : ∀ i, i < c → k' i = k (i + 1) ∧ s' i = s (i + 1) ∧ r' i = r (i + 1) ∧ kn' i = kn (i + 1) ∧ ad' i = ad (i + 1) ∧ D' i = D (i + 1)) (hA : ∀ i, i < c → A' i = A (i + 1)) (hV : ∀ i, i < c → V' i = V (i + 1)) (hb : ∀ x, base' x = lq_lb k s kn ad D base x 1) : lq_W m c k' s' r' kn' ad' A' V' D' base' := by
  intro j hj
  obtain ⟨h1, h2, h3, h4⟩ := h (j + 1) (by omega)
  obtain ⟨e1, e2, e3, e4, e5, e6⟩ := hs j hj
  have sh := fun x => lq_shift (k := k) (s := s) (r := r) (kn := kn) (ad := ad) (k' := k') (s' := s') (r' := r') (kn' := kn') (ad' := ad') (D := D) (D' := D') (base := base) (base' := base') (c := x) (hb x) j (fun i hi => hs i (by omega))
  rw [e2, e3, e4, e5, hA j hj]
  refine ⟨h1, h2, h3, fun z => ⟨fun w => ?_, fun w => ?_⟩⟩
  · rw [e1] at w
    rw [hV j hj, e2, e6]
    exact (h4 z).1 w
  · rw [e1] at w
    obtain ⟨i1, i2, i3⟩ := (h4 z).2 w
    rw [hV j hj, e2, e4, e5]
    exact ⟨i1, i2.trans (congrArg lN (lq_vs_cong _ (fun i _ => (sh _).2.symm))), fun i hi => (sh _).1 (i3 i hi)⟩
theorem lq_Wbase {m c : Nat} {k s r kn ad : Nat → Nat} {A : Nat → Int32} {V : Nat → Int64} {D : Nat → Int32} {base base' : Nat → Nat} (h : lq_W m c k s r kn ad A V D base) (hb : ∀ x, base' x = base x) : lq_W m c k s r kn ad A V D base' := by
  have e : base' = base := funext hb
  rw [e]
  exact h
/-! shifting an array by one -/
def lq_sh {α : Type} (c : Nat) (a : Nat → α) : Nat → α := fun j => if j + 1 < c then a (j + 1) else a j
theorem lq_sh1 {α : Type} (a : Nat → α) : lq_sh 1 a = a := by
  funext j
  exact if_neg (by omega)
theorem lq_shi {α : Type} {c i : Nat} (a : Nat → α) (h : i + 1 < c) : lq_sh c a i = a (i + 1) := if_pos h
theorem lq_shv {α : Type} (c : Nat) (a : Nat → α) : lq_sh (c + 1) a (c + 1) = a (c + 1) := if_neg (by omega)
theorem lq_shu (c : Nat) (a : Nat → Int32) : upd (lq_sh (c + 1) a) c (a (c + 1)) = lq_sh (c + 2) a := by
  funext j
  unfold upd lq_sh
  by_cases e : j = c
  · subst e
    rw [if_pos rfl, if_pos (by omega)]
  · rw [if_neg e]
    by_cases z : j + 1 < c + 1
    · rw [if_pos z, if_pos (by omega)]
    · rw [if_neg z, if_neg (by omega)]
theorem lq_shL (c : Nat) (a : Nat → Int64) : vp_updL (lq_sh (c + 1) a) c (a (c + 1)) = lq_sh (c + 2) a := by
  funext j
  unfold vp_updL lq_sh
  by_cases e : j = c
  · subst e
    rw [if_pos rfl, if_pos (by omega)]
  · rw [if_neg e]
    by_cases z : j + 1 < c + 1
    · rw [if_pos z, if_pos (by omega)]
    · rw [if_neg z, if_neg (by omega)]
theorem lq_shn (c : Nat) (f : Nat → Nat) : lq_sh c (fun i => nI (f i)) = fun i => nI (lq_sh c f i) := by
  funext j
  unfold lq_sh
  split <;> rfl
theorem lq_shp {c : Nat} {f : Nat → Nat} {P : Nat → Prop} (h : ∀ i, P (f i)) (i : Nat) : P (lq_sh c f i) := by
  unfold lq_sh
  split <;> exact h _
theorem lq_unp {k x : Nat} {f : Nat → Nat} {P : Nat → Prop} (h : ∀ i, P (f i)) (hx : P x) (i : Nat) : P (lq_un f k x i) := by
  unfold lq_un
  split
  · exact hx
  · exact h _
end
section
/-! the picture of the class's state, kept by each call -/
def lq_XI (w b m c q : Nat) (k p s r kn ad : Nat → Nat) (A : Nat → Int32) (V : Nat → Int64) (D : Nat → Int32) (bs ba : Nat → Nat) (BV : Nat → Int64) (BD : Nat → Int32) (ce : Nat → Nat) : Prop :=
  (4 ≤ w ∧ w ≤ 32 ∧ 1 ≤ b ∧ b ≤ 8 ∧ 8 ≤ m ∧ m ≤ 64 ∧ c ≤ w ∧ q ≤ b) ∧ lq_B k p r kn ∧ lq_W m c k s r kn ad A V D (fun a => lq_mb bs ba BD ce a q) ∧ lq_Q m q bs ba BV BD ∧ (∀ a, ce a < 256)
theorem lq_XIenter {w b m c q : Nat} {k p s r kn ad : Nat → Nat} {A : Nat → Int32} {V : Nat → Int64} {D : Nat → Int32} {bs ba : Nat → Nat} {BV : Nat → Int64} {BD : Nat → Int32} {ce : Nat → Nat} (h : lq_XI w b m c q k p s r kn ad A V D bs ba BV BD ce) (hc : c < w) {x y z : Nat} (hx : x ≤ 1) (hy : y < 16) (hz : z = 1 ∨ z = 2 ∨ z = 4) : lq_XI w b m (c + 1) q (lq_un k c x) (lq_un p c y) (lq_un s c z) (lq_un r c 0) (lq_un kn c 0) (lq_un ad c 0) (upd A c (-1)) V (upd D c 0) bs ba BV BD ce := by
  obtain ⟨h1, h2, h3, h4, h5⟩ := h
  refine ⟨by omega, fun i => ⟨?_, ?_, ?_, ?_⟩, lq_Wenter h3 x z hz, h4, h5⟩
  · exact lq_unp (P := fun y => y ≤ 1) (fun i => (h2 i).1) hx i
  · exact lq_unp (P := fun y => y < 16) (fun i => (h2 i).2.1) hy i
  · exact lq_unp (P := fun y => y ≤ 1) (fun i => (h2 i).2.2.1) (by omega) i
  · exact lq_unp (P := fun y => y ≤ 1) (fun i => (h2 i).2.2.2) (by omega) i
theorem lq_XIaddrL {w b m c q : Nat} {k p s r kn ad : Nat → Nat} {A : Nat → Int32} {V : Nat → Int64} {D : Nat → Int32} {bs ba : Nat → Nat} {BV : Nat → Int64} {BD : Nat → Int32} {ce : Nat → Nat} (h : lq_XI w b m c q k p s r kn ad A V D bs ba BV BD ce) {j a : Nat} (hj : j < c) (hk : k j ≠ 1) (hn : kn j ≠ 1) (ha : a + s j ≤ m) : lq_XI w b m c q k p s r (lq_un kn j 1) (lq_un ad j a) (upd A j (nI a)) V D bs ba BV BD ce := by
  obtain ⟨h1, h2, h3, h4, h5⟩ := h
  exact ⟨h1, fun i => ⟨(h2 i).1, (h2 i).2.1, (h2 i).2.2.1, lq_unp (P := fun y => y ≤ 1) (fun i => (h2 i).2.2.2) (by omega) i⟩, lq_WaddrL h3 hj hk hn ha, h4, h5⟩
theorem lq_XIaddrS {w b m c q : Nat} {k p s r kn ad r' : Nat → Nat} {A : Nat → Int32} {V : Nat → Int64} {D : Nat → Int32} {bs ba : Nat → Nat} {BV : Nat → Int64} {BD : Nat → Int32} {ce : Nat → Nat} (h : lq_XI w b m c q k p s r kn ad A V D bs ba BV BD ce) {j a : Nat} (hk : k j = 1) (hn : kn j ≠ 1) (ha : a + s j ≤ m) (hr : ∀ i, r' i ≤ r i) (hr1 : ∀ i, k i = 1 → r i = 1 → r' i = 1) (hr2 : ∀ i, j < i → i < c → lq_ms k s r (lq_un kn j 1) (lq_un ad j a) j i → r' i ≠ 1) : lq_XI w b m c q k p s r' (lq_un kn j 1) (lq_un ad j a) (upd A j (nI a)) V D bs ba BV BD ce := by
  obtain ⟨h1, h2, h3, h4, h5⟩ := h
  refine ⟨h1, fun i => ⟨(h2 i).1, (h2 i).2.1, ?_, lq_unp (P := fun y => y ≤ 1) (fun i => (h2 i).2.2.2) (by omega) i⟩, lq_WaddrS h3 (fun i => (h2 i).1) hk hn ha (fun i z => ?_) hr1 hr2, h4, h5⟩
  · exact Nat.le_trans (hr i) (h2 i).2.2.1
  · have a1 := hr i
    have a2 := (h2 i).2.2.1
    omega
theorem lq_XIdata {w b m c q : Nat} {k p s r kn ad : Nat → Nat} {A : Nat → Int32} {V : Nat → Int64} {D : Nat → Int32} {bs ba : Nat → Nat} {BV : Nat → Int64} {BD : Nat → Int32} {ce : Nat → Nat} (h : lq_XI w b m c q k p s r kn ad A V D bs ba BV BD ce) {j : Nat} (d : Int32) (hk : k j = 1) (hr : r j ≠ 1) : lq_XI w b m c q k p s (lq_un r j 1) kn ad A (vp_updL V j (lN (lq_lo d (s j)))) (upd D j d) bs ba BV BD ce := by
  obtain ⟨h1, h2, h3, h4, h5⟩ := h
  exact ⟨h1, fun i => ⟨(h2 i).1, (h2 i).2.1, lq_unp (P := fun y => y ≤ 1) (fun i => (h2 i).2.2.1) (by omega) i, (h2 i).2.2.2⟩, lq_Wdata h3 hk hr, h4, h5⟩
theorem lq_XIexec {w b m c q : Nat} {k p s r kn ad : Nat → Nat} {A : Nat → Int32} {V : Nat → Int64} {D : Nat → Int32} {bs ba : Nat → Nat} {BV : Nat → Int64} {BD : Nat → Int32} {ce : Nat → Nat} (h : lq_XI w b m c q k p s r kn ad A V D bs ba BV BD ce) {j : Nat} (hk : k j ≠ 1) (hn : kn j = 1) (ha : ∀ i, i < s j → lq_ar k s r kn ad (ad j + i) j) : lq_XI w b m c q k p s (lq_un r j 1) kn ad A (vp_updL V j (lN (lq_vs (fun i => lq_lb k s kn ad D (fun a => lq_mb bs ba BD ce a q) (ad j + i) j) (s j)))) D bs ba BV BD ce := by
  obtain ⟨h1, h2, h3, h4, h5⟩ := h
  exact ⟨h1, fun i => ⟨(h2 i).1, (h2 i).2.1, lq_unp (P := fun y => y ≤ 1) (fun i => (h2 i).2.2.1) (by omega) i, (h2 i).2.2.2⟩, lq_Wexec h3 hk hn ha, h4, h5⟩
theorem lq_Bsh {c : Nat} {k p r kn : Nat → Nat} (h : lq_B k p r kn) : lq_B (lq_sh c k) (lq_sh c p) (lq_sh c r) (lq_sh c kn) := fun i => ⟨lq_shp (P := fun y => y ≤ 1) (fun i => (h i).1) i, lq_shp (P := fun y => y < 16) (fun i => (h i).2.1) i, lq_shp (P := fun y => y ≤ 1) (fun i => (h i).2.2.1) i, lq_shp (P := fun y => y ≤ 1) (fun i => (h i).2.2.2) i⟩
theorem lq_XIcommitL {w b m c q : Nat} {k p s r kn ad : Nat → Nat} {A : Nat → Int32} {V : Nat → Int64} {D : Nat → Int32} {bs ba : Nat → Nat} {BV : Nat → Int64} {BD : Nat → Int32} {ce : Nat → Nat} (h : lq_XI w b m (c + 1) q k p s r kn ad A V D bs ba BV BD ce) (hk : k 0 ≠ 1) : lq_XI w b m c q (lq_sh (c + 1) k) (lq_sh (c + 1) p) (lq_sh (c + 1) s) (lq_sh (c + 1) r) (lq_sh (c + 1) kn) (lq_sh (c + 1) ad) (lq_sh (c + 1) A) (lq_sh (c + 1) V) (lq_sh (c + 1) D) bs ba BV BD ce := by
  obtain ⟨h1, h2, h3, h4, h5⟩ := h
  refine ⟨by omega, lq_Bsh h2, lq_Wcommit h3 (fun i hi => ?_) (fun i hi => lq_shi _ (by omega)) (fun i hi => lq_shi _ (by omega)) (fun x => ?_), h4, h5⟩
  · exact ⟨lq_shi _ (by omega), lq_shi _ (by omega), lq_shi _ (by omega), lq_shi _ (by omega), lq_shi _ (by omega), lq_shi _ (by omega)⟩
  · show _ = if lq_cov k s kn ad x 0 then _ else _
    rw [if_neg (fun z => hk z.1)]
    rfl
theorem lq_XIcommitS {w b m c q : Nat} {k p s r kn ad : Nat → Nat} {A : Nat → Int32} {V : Nat → Int64} {D : Nat → Int32} {bs ba : Nat → Nat} {BV : Nat → Int64} {BD : Nat → Int32} {ce : Nat → Nat} (h : lq_XI w b m (c + 1) q k p s r kn ad A V D bs ba BV BD ce) (hk : k 0 = 1) (hn : kn 0 = 1) (hr : r 0 = 1) (hq : q < b) : lq_XI w b m c (q + 1) (lq_sh (c + 1) k) (lq_sh (c + 1) p) (lq_sh (c + 1) s) (lq_sh (c + 1) r) (lq_sh (c + 1) kn) (lq_sh (c + 1) ad) (lq_sh (c + 1) A) (lq_sh (c + 1) V) (lq_sh (c + 1) D) (lq_un bs q (s 0)) (lq_un ba q (ad 0)) (vp_updL BV q (V 0)) (upd BD q (D 0)) ce := by
  obtain ⟨h1, h2, h3, h4, h5⟩ := h
  obtain ⟨w1, w2, w3, w4⟩ := h3 0 (by omega)
  refine ⟨by omega, lq_Bsh h2, lq_Wcommit h3 (fun i hi => ?_) (fun i hi => lq_shi _ (by omega)) (fun i hi => lq_shi _ (by omega)) (fun x => ?_), fun i hi => ?_, h5⟩
  · exact ⟨lq_shi _ (by omega), lq_shi _ (by omega), lq_shi _ (by omega), lq_shi _ (by omega), lq_shi _ (by omega), lq_shi _ (by omega)⟩
  · show (if lq_un ba q (ad 0) q ≤ x ∧ x < lq_un ba q (ad 0) q + lq_un bs q (s 0) q then lq_by (upd BD q (D 0) q) (x - lq_un ba q (ad 0) q) else lq_mb (lq_un bs q (s 0)) (lq_un ba q (ad 0)) (upd BD q (D 0)) ce x q) = if lq_cov k s kn ad x 0 then lq_by (D 0) (x - ad 0) else lq_mb bs ba BD ce x q
    rw [lq_us, lq_us, pk_us]
    have e : lq_mb (lq_un bs q (s 0)) (lq_un ba q (ad 0)) (upd BD q (D 0)) ce x q = lq_mb bs ba BD ce x q := lq_mb_cong q (fun i hi => ⟨lq_ui (by omega), lq_ui (by omega), pk_un (by omega)⟩)
    rw [e]
    by_cases z : ad 0 ≤ x ∧ x < ad 0 + s 0
    · rw [if_pos z, if_pos ⟨hk, hn, z.1, z.2⟩]
    · rw [if_neg z, if_neg (fun y => z y.2.2)]
  · by_cases e : i = q
    · subst e
      rw [lq_us, lq_us, pk_uLs, pk_us]
      exact ⟨w1, w2 hn, (w4 hr).1 hk⟩
    · rw [lq_ui e, lq_ui e, pk_uLn e, pk_un e]
      exact h4 i (by omega)
theorem lq_XIdrain {w b m c q : Nat} {k p s r kn ad : Nat → Nat} {A : Nat → Int32} {V : Nat → Int64} {D : Nat → Int32} {bs ba : Nat → Nat} {BV : Nat → Int64} {BD : Nat → Int32} {ce : Nat → Nat} (h : lq_XI w b m c (q + 1) k p s r kn ad A V D bs ba BV BD ce) : lq_XI w b m c q k p s r kn ad A V D (lq_sh (q + 1) bs) (lq_sh (q + 1) ba) (lq_sh (q + 1) BV) (lq_sh (q + 1) BD) (fun a => lq_mb bs ba BD ce a 1) := by
  obtain ⟨h1, h2, h3, h4, h5⟩ := h
  refine ⟨by omega, h2, lq_Wbase h3 (fun x => ?_), fun i hi => ?_, fun a => lq_mb_lt bs ba BD ce a (h5 a) 1⟩
  · exact lq_mb_shift (ce' := fun a => lq_mb bs ba BD ce a 1) rfl q (fun i hi => ⟨lq_shi _ (by omega), lq_shi _ (by omega), lq_shi _ (by omega)⟩)
  · rw [lq_shi _ (by omega), lq_shi _ (by omega), lq_shi _ (by omega), lq_shi _ (by omega)]
    exact h4 (i + 1) (by omega)
theorem lq_XIdiscard {w b m c q : Nat} {k p s r kn ad : Nat → Nat} {A : Nat → Int32} {V : Nat → Int64} {D : Nat → Int32} {bs ba : Nat → Nat} {BV : Nat → Int64} {BD : Nat → Int32} {ce : Nat → Nat} (h : lq_XI w b m c q k p s r kn ad A V D bs ba BV BD ce) {c' : Nat} (hc : c' ≤ c) : lq_XI w b m c' q k p s r kn ad A V D bs ba BV BD ce := by
  obtain ⟨h1, h2, h3, h4, h5⟩ := h
  exact ⟨by omega, h2, fun j hj => h3 j (by omega), h4, h5⟩
theorem lq_XI0 {w b m : Nat} {A : Nat → Int32} {V : Nat → Int64} {D : Nat → Int32} {BV : Nat → Int64} {BD : Nat → Int32} {ce : Nat → Nat} (h : 4 ≤ w ∧ w ≤ 32 ∧ 1 ≤ b ∧ b ≤ 8 ∧ 8 ≤ m ∧ m ≤ 64) (hc : ∀ a, ce a < 256) : lq_XI w b m 0 0 (fun _ => 0) (fun _ => 0) (fun _ => 0) (fun _ => 0) (fun _ => 0) (fun _ => 0) A V D (fun _ => 0) (fun _ => 0) BV BD ce :=
  ⟨by omega, fun _ => ⟨Nat.zero_le 1, Nat.zero_lt_succ 15, Nat.zero_le 1, Nat.zero_le 1⟩, fun j hj => absurd hj (by omega), fun i hi => absurd hi (by omega), hc⟩
end
section
/-! booleans, counters that run down, comparisons with literals -/
theorem lq_nb {x : Nat} (h : x ≤ 1) : vp_nar .boolean (nI x) = nI x := by
  have : x = 0 ∨ x = 1 := by omega
  rcases this with rfl | rfl <;> rfl
theorem lq_nb0 : vp_nar .boolean 0 = 0 := rfl
theorem lq_nb1 : vp_nar .boolean 1 = 1 := rfl
theorem lq_nr {x : Nat} (h : x ≤ 1) : narrow .boolean (.int (nI x)) = .int (nI x) := by
  have : x = 0 ∨ x = 1 := by omega
  rcases this with rfl | rfl <;> rfl
theorem lq_nr0 : narrow .boolean (.int 0) = .int 0 := rfl
theorem lq_nr1 : narrow .boolean (.int 1) = .int 1 := rfl
theorem lq_eq0 {a : Nat} (h : a < 2 ^ 31) : nI a = 0 ↔ a = 0 := nI_eq (b := 0) h (by decide)
theorem lq_eq1 {a : Nat} (h : a < 2 ^ 31) : nI a = 1 ↔ a = 1 := nI_eq (b := 1) h (by decide)
theorem lq_eqm {a : Nat} (h : a < 2 ^ 31) : nI a = -1 ↔ False := ⟨fun e => lq_m1 h e, False.elim⟩
theorem lq_lt0 {a : Nat} (h : a < 2 ^ 31) : nI a < 0 ↔ False := ⟨fun e => nI_pos h e, False.elim⟩
theorem lq_vin {a n : Nat} (h : a < n) (hn : n < 2 ^ 31) : vp_in (nI a) n ↔ True := ⟨fun _ => True.intro, fun _ => vp_in_nI h hn⟩
/-- a counter that runs down: one below j -/
theorem lq_dn (j : Nat) : nI (j + 1) - 1 = nI j := nI_pred j
theorem lq_dn0 : nI 0 - 1 = -1 := by decide
theorem lq_sub1 (j : Nat) : nI j + (-1) = nI j - 1 := by
  rw [Int32.sub_eq_add_neg]
end
section
/-! the loads sent back, one after the other -/
noncomputable def lq_rb (M : Nat → Prop) (r : Nat → Nat) (n : Nat) : Nat → Nat := fun i => @ite _ (i < n ∧ M i) (Classical.propDecidable _) 0 (r i)
noncomputable def lq_ct (M : Nat → Prop) : Nat → Nat
  | 0 => 0
  | n + 1 => @ite _ (M n) (Classical.propDecidable _) (lq_ct M n + 1) (lq_ct M n)
noncomputable def lq_sf (M : Nat → Prop) (p : Nat → Nat) (b : Nat) (st : Nat → Int32) : Nat → (Nat → Int32)
  | 0 => st
  | n + 1 => @ite _ (M n) (Classical.propDecidable _) (lq_rp (lq_sf M p b st n) (p n) b) (lq_sf M p b st n)
noncomputable def lq_pf (M : Nat → Prop) (p : Nat → Nat) (b : Nat) (pr : Nat → Nat) : Nat → (Nat → Nat)
  | 0 => pr
  | n + 1 => @ite _ (M n) (Classical.propDecidable _) (lq_pp (lq_pf M p b pr n) (p n) b) (lq_pf M p b pr n)
theorem lq_rb_at (M : Nat → Prop) (r : Nat → Nat) (n : Nat) : lq_rb M r n n = r n := if_neg (fun h => by omega)
theorem lq_rb_t {M : Nat → Prop} {r : Nat → Nat} {n : Nat} (h : M n) : lq_un (lq_rb M r n) n 0 = lq_rb M r (n + 1) := by
  funext i
  unfold lq_un lq_rb
  by_cases e : i = n
  · subst e
    rw [if_pos rfl, if_pos ⟨by omega, h⟩]
  · rw [if_neg e]
    by_cases z : i < n ∧ M i
    · rw [if_pos z, if_pos ⟨by omega, z.2⟩]
    · rw [if_neg z, if_neg (fun y => z ⟨by omega, y.2⟩)]
theorem lq_rb_f {M : Nat → Prop} {r : Nat → Nat} {n : Nat} (h : ¬ M n) : lq_rb M r n = lq_rb M r (n + 1) := by
  funext i
  unfold lq_rb
  by_cases z : i < n ∧ M i
  · rw [if_pos z, if_pos ⟨by omega, z.2⟩]
  · rw [if_neg z, if_neg]
    intro y
    by_cases e : i = n
    · subst e
      exact h y.2
    · exact z ⟨by omega, y.2⟩
theorem lq_rb_0 {M : Nat → Prop} {r : Nat → Nat} {n : Nat} (h : ∀ i, i < n → ¬ M i) : lq_rb M r n = r := by
  funext i
  exact if_neg (fun z => h i z.1 z.2)
theorem lq_rb_le (M : Nat → Prop) (r : Nat → Nat) (n i : Nat) : lq_rb M r n i ≤ r i := by
  unfold lq_rb
  by_cases z : i < n ∧ M i
  · rw [if_pos z]; omega
  · rw [if_neg z]; omega
theorem lq_ct_t {M : Nat → Prop} {n : Nat} (h : M n) : lq_ct M (n + 1) = lq_ct M n + 1 := if_pos h
theorem lq_ct_f {M : Nat → Prop} {n : Nat} (h : ¬ M n) : lq_ct M (n + 1) = lq_ct M n := if_neg h
theorem lq_ct_0 {M : Nat → Prop} : ∀ n, (∀ i, i < n → ¬ M i) → lq_ct M n = 0
  | 0, _ => rfl
  | n + 1, h => by rw [lq_ct_f (h n (by omega)), lq_ct_0 n (fun i hi => h i (by omega))]
theorem lq_ct_le (M : Nat → Prop) : ∀ n, lq_ct M n ≤ n
  | 0 => Nat.le_refl _
  | n + 1 => by
    have := lq_ct_le M n
    by_cases z : M n
    · rw [lq_ct_t z]; omega
    · rw [lq_ct_f z]; omega
theorem lq_sf_t {M : Nat → Prop} {p : Nat → Nat} {b : Nat} {st : Nat → Int32} {n : Nat} (h : M n) : lq_sf M p b st (n + 1) = lq_rp (lq_sf M p b st n) (p n) b := if_pos h
theorem lq_sf_f {M : Nat → Prop} {p : Nat → Nat} {b : Nat} {st : Nat → Int32} {n : Nat} (h : ¬ M n) : lq_sf M p b st (n + 1) = lq_sf M p b st n := if_neg h
theorem lq_sf_0 {M : Nat → Prop} {p : Nat → Nat} {b : Nat} {st : Nat → Int32} : ∀ n, (∀ i, i < n → ¬ M i) → lq_sf M p b st n = st
  | 0, _ => rfl
  | n + 1, h => by rw [lq_sf_f (h n (by omega)), lq_sf_0 n (fun i hi => h i (by omega))]
theorem lq_pf_t {M : Nat → Prop} {p : Nat → Nat} {b : Nat} {pr : Nat → Nat} {n : Nat} (h : M n) : lq_pf M p b pr (n + 1) = lq_pp (lq_pf M p b pr n) (p n) b := if_pos h
theorem lq_pf_f {M : Nat → Prop} {p : Nat → Nat} {b : Nat} {pr : Nat → Nat} {n : Nat} (h : ¬ M n) : lq_pf M p b pr (n + 1) = lq_pf M p b pr n := if_neg h
theorem lq_pf_0 {M : Nat → Prop} {p : Nat → Nat} {b : Nat} {pr : Nat → Nat} : ∀ n, (∀ i, i < n → ¬ M i) → lq_pf M p b pr n = pr
  | 0, _ => rfl
  | n + 1, h => by rw [lq_pf_f (h n (by omega)), lq_pf_0 n (fun i hi => h i (by omega))]
theorem lq_pf_le {M : Nat → Prop} {p : Nat → Nat} {b : Nat} {pr : Nat → Nat} (h : ∀ i, pr i ≤ 1) : ∀ n i, lq_pf M p b pr n i ≤ 1
  | 0, i => h i
  | n + 1, i => by
    by_cases z : M n
    · rw [lq_pf_t z]
      exact lq_pp_le (lq_pf_le h n) i
    · rw [lq_pf_f z]
      exact lq_pf_le h n i
theorem lq_f_S {M : Nat → Prop} {p : Nat → Nat} {b : Nat} {st : Nat → Int32} {pr : Nat → Nat} (hp : ∀ i, p i < 16) (hb : b < 16) (h : lq_S st pr) : ∀ n, lq_S (lq_sf M p b st n) (lq_pf M p b pr n)
  | 0 => h
  | n + 1 => by
    by_cases z : M n
    · rw [lq_sf_t z, lq_pf_t z]
      exact lq_rp_S (hp n) hb (lq_f_S hp hb h n)
    · rw [lq_sf_f z, lq_pf_f z]
      exact lq_f_S hp hb h n
/-- the loads that a store at j, its address now known, sends back -/
def lq_M (k s r kn ad : Nat → Nat) (j i : Nat) : Prop := j < i ∧ lq_ms k s r kn ad j i
theorem lq_XIsend {w b m c q : Nat} {k p s r kn ad : Nat → Nat} {A : Nat → Int32} {V : Nat → Int64} {D : Nat → Int32} {bs ba : Nat → Nat} {BV : Nat → Int64} {BD : Nat → Int32} {ce : Nat → Nat} (h : lq_XI w b m c q k p s r kn ad A V D bs ba BV BD ce) {j a : Nat} (hk : k j = 1) (hn : kn j ≠ 1) (ha : a + s j ≤ m) : lq_XI w b m c q k p s (lq_rb (lq_M k s r (lq_un kn j 1) (lq_un ad j a) j) r c) (lq_un kn j 1) (lq_un ad j a) (upd A j (nI a)) V D bs ba BV BD ce := by
  refine lq_XIaddrS h hk hn ha (fun i => lq_rb_le _ _ _ _) (fun i z y => ?_) (fun i h1 h2 h3 => ?_)
  · unfold lq_rb
    rw [if_neg]
    · exact y
    · intro ⟨_, _, x, _⟩
      omega
  · unfold lq_rb
    rw [if_pos ⟨h2, h1, h3⟩]
    omega
/-! what execute does at position j -/
def lq_wt (k p kn : Nat → Nat) (st : Nat → Int32) (j : Nat) : Prop := ∃ i, i < j ∧ k i = 1 ∧ kn i ≠ 1 ∧ st (p i) ≠ -1 ∧ st (p i) = st (p j)
def lq_lk (k s r kn ad : Nat → Nat) (j : Nat) : Prop := ∃ x, x < s j ∧ ¬ lq_ar k s r kn ad (ad j + x) j
def lq_EX (k p s r kn ad : Nat → Nat) (V : Nat → Int64) (D : Nat → Int32) (base : Nat → Nat) (st : Nat → Int32) (j : Nat) (ans : Int32) (r' : Nat → Nat) (V' : Nat → Int64) : Prop :=
  (k j = 1 ∧ ans = -2 ∧ r' = r ∧ V' = V) ∨
  (k j ≠ 1 ∧ r j = 1 ∧ ans = -4 ∧ r' = r ∧ V' = V) ∨
  (k j ≠ 1 ∧ r j ≠ 1 ∧ kn j ≠ 1 ∧ ans = -6 ∧ r' = r ∧ V' = V) ∨
  (k j ≠ 1 ∧ r j ≠ 1 ∧ kn j = 1 ∧ lq_wt k p kn st j ∧ ans = -7 ∧ r' = r ∧ V' = V) ∨
  (k j ≠ 1 ∧ r j ≠ 1 ∧ kn j = 1 ∧ ¬ lq_wt k p kn st j ∧ lq_lk k s r kn ad j ∧ ans = -8 ∧ r' = r ∧ V' = V) ∨
  (k j ≠ 1 ∧ r j ≠ 1 ∧ kn j = 1 ∧ ¬ lq_wt k p kn st j ∧ ¬ lq_lk k s r kn ad j ∧ ans = 0 ∧ r' = lq_un r j 1 ∧ V' = vp_updL V j (lN (lq_vs (fun i => lq_lb k s kn ad D base (ad j + i) j) (s j))))
theorem lq_EXex (k p s r kn ad : Nat → Nat) (V : Nat → Int64) (D : Nat → Int32) (base : Nat → Nat) (st : Nat → Int32) (j : Nat) : ∃ ans r' V', lq_EX k p s r kn ad V D base st j ans r' V' := by
  by_cases h1 : k j = 1
  · exact ⟨_, _, _, Or.inl ⟨h1, rfl, rfl, rfl⟩⟩
  · by_cases h2 : r j = 1
    · exact ⟨_, _, _, Or.inr (Or.inl ⟨h1, h2, rfl, rfl, rfl⟩)⟩
    · by_cases h3 : kn j = 1
      · by_cases h4 : lq_wt k p kn st j
        · exact ⟨_, _, _, Or.inr (Or.inr (Or.inr (Or.inl ⟨h1, h2, h3, h4, rfl, rfl, rfl⟩)))⟩
        · by_cases h5 : lq_lk k s r kn ad j
          · exact ⟨_, _, _, Or.inr (Or.inr (Or.inr (Or.inr (Or.inl ⟨h1, h2, h3, h4, h5, rfl, rfl, rfl⟩))))⟩
          · exact ⟨_, _, _, Or.inr (Or.inr (Or.inr (Or.inr (Or.inr ⟨h1, h2, h3, h4, h5, rfl, rfl, rfl⟩))))⟩
      · exact ⟨_, _, _, Or.inr (Or.inr (Or.inl ⟨h1, h2, h3, rfl, rfl, rfl⟩))⟩
theorem lq_XIex {w b m c q : Nat} {k p s r kn ad : Nat → Nat} {A : Nat → Int32} {V : Nat → Int64} {D : Nat → Int32} {bs ba : Nat → Nat} {BV : Nat → Int64} {BD : Nat → Int32} {ce : Nat → Nat} (h : lq_XI w b m c q k p s r kn ad A V D bs ba BV BD ce) {st : Nat → Int32} {j : Nat} {ans : Int32} {r' : Nat → Nat} {V' : Nat → Int64} (e : lq_EX k p s r kn ad V D (fun a => lq_mb bs ba BD ce a q) st j ans r' V') : lq_XI w b m c q k p s r' kn ad A V' D bs ba BV BD ce := by
  rcases e with ⟨_, _, rfl, rfl⟩ | ⟨_, _, _, rfl, rfl⟩ | ⟨_, _, _, _, rfl, rfl⟩ | ⟨_, _, _, _, _, rfl, rfl⟩ | ⟨_, _, _, _, _, _, rfl, rfl⟩ | ⟨h1, h2, h3, h4, h5, _, rfl, rfl⟩
  · exact h
  · exact h
  · exact h
  · exact h
  · exact h
  · refine lq_XIexec h h1 h3 (fun i hi => ?_)
    apply Classical.byContradiction
    intro z
    exact h5 ⟨i, hi, z⟩
end
section
/-! the class: source, draws, waits, lacks, byte after drains, gather -/
section
variable {w b m c q : Nat} {k p s r kn ad : Nat → Nat} {A : Nat → Int32} {V : Nat → Int64} {D : Nat → Int32} {bs ba : Nat → Nat} {BV : Nat → Int64} {BD : Nat → Int32} {ce : Nat → Nat} {st : Nat → Int32}
def lq_G (m c : Nat) (k p s r kn ad : Nat → Nat) (A : Nat → Int32) : Prop := m ≤ 64 ∧ c ≤ 32 ∧ lq_B k p r kn ∧ ∀ j, j < c → (s j = 1 ∨ s j = 2 ∨ s j = 4) ∧ (kn j = 1 → ad j + s j ≤ m) ∧ A j = (if kn j = 1 then nI (ad j) else -1)
theorem lq_XIG (h : lq_XI w b m c q k p s r kn ad A V D bs ba BV BD ce) : lq_G m c k p s r kn ad A := ⟨by have := h.1; omega, by have := h.1; omega, h.2.1, fun j hj => ⟨(h.2.2.1 j hj).1, (h.2.2.1 j hj).2.1, (h.2.2.1 j hj).2.2.1⟩⟩
theorem lx_cov {post : Int32 → Prop} (a t x : Nat) (ha : a ≤ 128) (ht : t ≤ 4) (hx : x ≤ 128) (hp : a ≤ x ∧ x < a + t → post 1) (hn : ¬ (a ≤ x ∧ x < a + t) → post 0) : wpX_covers post () (nI a) (nI t) (nI x) := by
  unfold wpX_covers
  rw [nI_add]
  exact pk_lt x a (fun z => hn (by omega)) (fun z => pk_le (a + t) x (fun y => hn (by omega)) (fun y => hp (by omega)))
theorem lx_by {post : Int32 → Prop} {d : Int32} {o t : Nat} (ho : o < t) (ht : t ≤ 4) (hp : post (nI (lq_by d o))) : wpX_byteOf post () (lN (lq_lo d t)) (nI o) := by
  unfold wpX_byteOf
  have e : (8 : Int32) * nI o = nI (8 * o) := pk_mul 8 o
  rw [e, lq_xb (lq_lo_lt d ht) (by omega), lq_lo_by d ho]
  exact hp
theorem lx_src4 (h : lq_G m c k p s r kn ad A) {x : Nat} (hx : x ≤ 128) {post : Int32 → Prop} : ∀ j n, j ≤ c → j < n → post (lq_en (lq_src k s kn ad x j)) → wX_sourceOf_4 post (nI x) (nI w) (nI b) (nI m) (nI c) (nI q) (fun i => nI (k i)) (fun i => nI (p i)) (fun i => nI (s i)) A (fun i => nI (r i)) V (fun i => nI (bs i)) (fun i => nI (ba i)) BV (fun i => nI (ce i)) st n (nI j - 1) := by
  obtain ⟨h1, h0, h2, h3⟩ := h
  intro j
  induction j with
  | zero =>
    intro n _ hn hp
    obtain ⟨n, rfl⟩ : ∃ t, n = t + 1 := ⟨n - 1, by omega⟩
    rw [lq_dn0]
    exact br_t (by decide) hp
  | succ j ih =>
    intro n hj hn hp
    obtain ⟨n, rfl⟩ : ∃ t, n = t + 1 := ⟨n - 1, by omega⟩
    have ih' := ih n (by omega) (by omega)
    obtain ⟨w1, w2, w3⟩ := h3 j (by omega)
    have b1 := h2 j
    have I : vp_in (nI j) 32 := vp_in_nI (by omega) (by omega)
    have ef : ¬ lq_cov k s kn ad x j → wX_sourceOf_4 post (nI x) (nI w) (nI b) (nI m) (nI c) (nI q) (fun i => nI (k i)) (fun i => nI (p i)) (fun i => nI (s i)) A (fun i => nI (r i)) V (fun i => nI (bs i)) (fun i => nI (ba i)) BV (fun i => nI (ce i)) st n (nI j - 1) := fun z => ih' (by
      have e : lq_src k s kn ad x (j + 1) = lq_src k s kn ad x j := if_neg z
      rw [e] at hp
      exact hp)
    have et : lq_cov k s kn ad x j → post (nI j) := fun z => by
      have e : lq_src k s kn ad x (j + 1) = some j := if_pos z
      rw [e] at hp
      exact hp
    rw [lq_dn]
    refine br_f (nI_pos (by omega)) ⟨I, ?_⟩
    rw [nI_clamp (show j < 2 ^ 31 by omega)]
    refine pk_eq (k j) 1 (fun zk => ⟨I, ?_⟩) (fun zk => nm_r (lq_sub1 j) (ef (fun z => zk z.1)))
    by_cases zn : kn j = 1
    · rw [if_pos zn] at w3
      have w2' := w2 zn
      rw [w3]
      refine br_f (lq_m1 (by omega)) ⟨I, I, ?_⟩
      exact lx_cov (ad j) (s j) x (by omega) (by omega) hx (fun z => br_f (by decide) (et ⟨zk, zn, z.1, z.2⟩)) (fun z => br_t rfl (nm_r (lq_sub1 j) (ef (fun y => z y.2.2))))
    · rw [if_neg zn] at w3
      rw [w3]
      exact br_t rfl (nm_r (lq_sub1 j) (ef (fun z => zn z.2.1)))
theorem lx_src (h : lq_G m c k p s r kn ad A) {x j : Nat} (hx : x ≤ 128) (hj : j ≤ c) {post : Int32 → Prop} (hp : post (lq_en (lq_src k s kn ad x j))) : wpX_sourceOf post (nI w, nI b, nI m, nI c, nI q, (fun i => nI (k i)), (fun i => nI (p i)), (fun i => nI (s i)), A, (fun i => nI (r i)), V, (fun i => nI (bs i)), (fun i => nI (ba i)), BV, (fun i => nI (ce i)), st) (nI j) (nI x) := by
  unfold wpX_sourceOf
  exact nm_e ⟨j + 1, lx_src4 h hx j (j + 1) hj (by omega) hp⟩
theorem lq_en_eq {o : Option Nat} {t : Nat} (h : ∀ i, o = some i → i < 64) (ht : t < 64) : lq_en o = nI t ↔ o = some t := by
  cases o with
  | none => exact ⟨fun e => absurd e.symm (lq_m1 (by omega)), fun e => by cases e⟩
  | some i =>
    have := h i rfl
    show nI i = nI t ↔ _
    rw [nI_eq (by omega) (by omega)]
    exact ⟨fun e => by rw [e], fun e => by cases e; rfl⟩
theorem lx_draws (h : lq_G m c k p s r kn ad A) {j t : Nat} (hj : j < c) (ht : t < 64) (hk : kn j = 1) {post : Int32 → Prop} (hp : (∃ x, x < s j ∧ lq_src k s kn ad (ad j + x) j = some t) → post 1) (hn : ¬ (∃ x, x < s j ∧ lq_src k s kn ad (ad j + x) j = some t) → post 0) : wpX_drawsFrom post (nI w, nI b, nI m, nI c, nI q, (fun i => nI (k i)), (fun i => nI (p i)), (fun i => nI (s i)), A, (fun i => nI (r i)), V, (fun i => nI (bs i)), (fun i => nI (ba i)), BV, (fun i => nI (ce i)), st) (nI j) (nI t) := by
  have h' := h
  obtain ⟨h1, h0, h2, h3⟩ := h
  obtain ⟨w1, w2, w3⟩ := h3 j hj
  have w2' := w2 hk
  rw [if_pos hk] at w3
  have I : vp_in (nI j) 32 := vp_in_nI (by omega) (by omega)
  have main : ∀ d i n, i + d = s j → d < n → (∀ x, x < i → lq_src k s kn ad (ad j + x) j ≠ some t) → wX_drawsFrom_2 post (nI j) (nI t) (nI w) (nI b) (nI m) (nI c) (nI q) (fun i => nI (k i)) (fun i => nI (p i)) (fun i => nI (s i)) A (fun i => nI (r i)) V (fun i => nI (bs i)) (fun i => nI (ba i)) BV (fun i => nI (ce i)) st n (nI i) := by
    intro d
    induction d with
    | zero =>
      intro i n hi hd hx
      obtain ⟨n, rfl⟩ : ∃ t, n = t + 1 := ⟨n - 1, by omega⟩
      refine ⟨I, ?_⟩
      rw [nI_clamp (show j < 2 ^ 31 by omega)]
      exact pk_le (s j) i (fun _ => hn (fun ⟨x, x1, x2⟩ => hx x (by omega) x2)) (fun z => absurd z (by omega))
    | succ d ih =>
      intro i n hi hd hx
      obtain ⟨n, rfl⟩ : ∃ t, n = t + 1 := ⟨n - 1, by omega⟩
      refine ⟨I, ?_⟩
      rw [nI_clamp (show j < 2 ^ 31 by omega)]
      refine pk_le (s j) i (fun z => absurd z (by omega)) (fun _ => ⟨I, ?_⟩)
      rw [w3, nI_add]
      refine lx_src h' (by omega) (by omega) ?_
      have lt : ∀ y, lq_src k s kn ad (ad j + i) j = some y → y < 64 := fun y hy => by
        have := (lq_src_lt j hy).1
        omega
      by_cases z : lq_src k s kn ad (ad j + i) j = some t
      · exact br_t ((lq_en_eq lt ht).mpr z) (hp ⟨i, by omega, z⟩)
      · refine br_f (fun y => z ((lq_en_eq lt ht).mp y)) (nm_r (nI_1 i) (ih (i + 1) n (by omega) (by omega) (fun x hx' => ?_)))
        by_cases e : x = i
        · rw [e]; exact z
        · exact hx x (by omega)
  unfold wpX_drawsFrom
  exact ⟨s j + 1, main (s j) 0 (s j + 1) (by omega) (by omega) (fun x hx => absurd hx (by omega))⟩
theorem lx_share {a e : Nat} (ha : a < 16) (he : e < 16) {post : Int32 → Prop} (hp : st a ≠ -1 ∧ st a = st e → post 1) (hn : ¬ (st a ≠ -1 ∧ st a = st e) → post 0) : wpX_shareSet post (nI w, nI b, nI m, nI c, nI q, (fun i => nI (k i)), (fun i => nI (p i)), (fun i => nI (s i)), A, (fun i => nI (r i)), V, (fun i => nI (bs i)), (fun i => nI (ba i)), BV, (fun i => nI (ce i)), st) (nI a) (nI e) := by
  unfold wpX_shareSet
  have I1 : vp_in (nI a) 16 := vp_in_nI ha (by omega)
  have I2 : vp_in (nI e) 16 := vp_in_nI he (by omega)
  refine ⟨I1, ?_⟩
  rw [nI_clamp (show a < 2 ^ 31 by omega), nI_clamp (show e < 2 ^ 31 by omega)]
  exact br_c (fun z => hn (fun y => y.1 z)) (fun z => ⟨I1, I2, br_c (fun y => hp ⟨z, y⟩) (fun y => hn (fun x => y x.2))⟩)
theorem lx_waits (h : lq_XI w b m c q k p s r kn ad A V D bs ba BV BD ce) {j : Nat} (hj : j < c) {post : Int32 → Prop} (hp : lq_wt k p kn st j → post 1) (hn : ¬ lq_wt k p kn st j → post 0) : wpX_waitsForItsSet post (nI w, nI b, nI m, nI c, nI q, (fun i => nI (k i)), (fun i => nI (p i)), (fun i => nI (s i)), A, (fun i => nI (r i)), V, (fun i => nI (bs i)), (fun i => nI (ba i)), BV, (fun i => nI (ce i)), st) (nI j) := by
  obtain ⟨h1, h2, h3, h4, h5⟩ := h
  have Ij : vp_in (nI j) 32 := vp_in_nI (by omega) (by omega)
  have main : ∀ d i n, i + d = j → d < n → (∀ x, x < i → ¬ (k x = 1 ∧ kn x ≠ 1 ∧ st (p x) ≠ -1 ∧ st (p x) = st (p j))) → wX_waitsForItsSet_2 post (nI j) (nI w) (nI b) (nI m) (nI c) (nI q) (fun i => nI (k i)) (fun i => nI (p i)) (fun i => nI (s i)) A (fun i => nI (r i)) V (fun i => nI (bs i)) (fun i => nI (ba i)) BV (fun i => nI (ce i)) st n (nI i) := by
    intro d
    induction d with
    | zero =>
      intro i n hi hd hx
      obtain ⟨n, rfl⟩ : ∃ t, n = t + 1 := ⟨n - 1, by omega⟩
      exact pk_le j i (fun _ => hn (fun ⟨x, x1, x2⟩ => hx x (by omega) x2)) (fun z => absurd z (by omega))
    | succ d ih =>
      intro i n hi hd hx
      obtain ⟨n, rfl⟩ : ∃ t, n = t + 1 := ⟨n - 1, by omega⟩
      obtain ⟨w1, w2, w3, _⟩ := h3 i (by omega)
      have I : vp_in (nI i) 32 := vp_in_nI (by omega) (by omega)
      have go : ¬ (k i = 1 ∧ kn i ≠ 1 ∧ st (p i) ≠ -1 ∧ st (p i) = st (p j)) → wX_waitsForItsSet_2 post (nI j) (nI w) (nI b) (nI m) (nI c) (nI q) (fun i => nI (k i)) (fun i => nI (p i)) (fun i => nI (s i)) A (fun i => nI (r i)) V (fun i => nI (bs i)) (fun i => nI (ba i)) BV (fun i => nI (ce i)) st n (nI (i + 1)) := fun z => ih (i + 1) n (by omega) (by omega) (fun x hx' => by
        by_cases e : x = i
        · rw [e]; exact z
        · exact hx x (by omega))
      refine pk_le j i (fun z => absurd z (by omega)) (fun _ => ⟨I, ?_⟩)
      have b1 := h2 i
      rw [nI_clamp (show i < 2 ^ 31 by omega), nI_clamp (show j < 2 ^ 31 by omega)]
      refine pk_eq (k i) 1 (fun zk => ⟨I, ?_⟩) (fun zk => nm_r (nI_1 i) (go (fun z => zk z.1)))
      by_cases zn : kn i = 1
      · have w2' := w2 zn
        rw [if_pos zn] at w3
        rw [w3]
        exact br_f (lq_m1 (by omega)) (nm_r (nI_1 i) (go (fun z => z.2.1 zn)))
      · rw [if_neg zn] at w3
        rw [w3]
        refine br_t rfl ⟨I, Ij, ?_⟩
        exact lx_share (h2 i).2.1 (h2 j).2.1 (fun z => br_f (by decide) (hp ⟨i, by omega, zk, zn, z.1, z.2⟩)) (fun z => br_t rfl (nm_r (nI_1 i) (go (fun y => z ⟨y.2.2.1, y.2.2.2⟩))))
  unfold wpX_waitsForItsSet
  exact ⟨j + 1, main j 0 (j + 1) (by omega) (by omega) (fun x hx => absurd hx (by omega))⟩
theorem lx_lacks (h : lq_XI w b m c q k p s r kn ad A V D bs ba BV BD ce) {j : Nat} (hj : j < c) (hk : kn j = 1) {post : Int32 → Prop} (hp : lq_lk k s r kn ad j → post 1) (hn : ¬ lq_lk k s r kn ad j → post 0) : wpX_lacksData post (nI w, nI b, nI m, nI c, nI q, (fun i => nI (k i)), (fun i => nI (p i)), (fun i => nI (s i)), A, (fun i => nI (r i)), V, (fun i => nI (bs i)), (fun i => nI (ba i)), BV, (fun i => nI (ce i)), st) (nI j) := by
  have h' := h
  obtain ⟨h1, h2, h3, h4, h5⟩ := h
  obtain ⟨w1, w2, w3, _⟩ := h3 j hj
  have w2' := w2 hk
  rw [if_pos hk] at w3
  have I : vp_in (nI j) 32 := vp_in_nI (by omega) (by omega)
  have main : ∀ d i n, i + d = s j → d < n → (∀ x, x < i → lq_ar k s r kn ad (ad j + x) j) → wX_lacksData_2 post (nI j) (nI w) (nI b) (nI m) (nI c) (nI q) (fun i => nI (k i)) (fun i => nI (p i)) (fun i => nI (s i)) A (fun i => nI (r i)) V (fun i => nI (bs i)) (fun i => nI (ba i)) BV (fun i => nI (ce i)) st n (nI i) := by
    intro d
    induction d with
    | zero =>
      intro i n hi hd hx
      obtain ⟨n, rfl⟩ : ∃ t, n = t + 1 := ⟨n - 1, by omega⟩
      refine ⟨I, ?_⟩
      rw [nI_clamp (show j < 2 ^ 31 by omega)]
      exact pk_le (s j) i (fun _ => hn (fun ⟨x, x1, x2⟩ => x2 (hx x (by omega)))) (fun z => absurd z (by omega))
    | succ d ih =>
      intro i n hi hd hx
      obtain ⟨n, rfl⟩ : ∃ t, n = t + 1 := ⟨n - 1, by omega⟩
      have go : lq_ar k s r kn ad (ad j + i) j → wX_lacksData_2 post (nI j) (nI w) (nI b) (nI m) (nI c) (nI q) (fun i => nI (k i)) (fun i => nI (p i)) (fun i => nI (s i)) A (fun i => nI (r i)) V (fun i => nI (bs i)) (fun i => nI (ba i)) BV (fun i => nI (ce i)) st n (nI (i + 1)) := fun z => ih (i + 1) n (by omega) (by omega) (fun x hx' => by
        by_cases e : x = i
        · rw [e]; exact z
        · exact hx x (by omega))
      refine ⟨I, ?_⟩
      rw [nI_clamp (show j < 2 ^ 31 by omega)]
      refine pk_le (s j) i (fun z => absurd z (by omega)) (fun _ => ⟨I, ?_⟩)
      rw [w3, nI_add]
      refine lx_src (lq_XIG h') (by omega) (by omega) ?_
      cases e : lq_src k s kn ad (ad j + i) j with
      | none => exact br_t rfl (nm_r (nI_1 i) (go ((lq_ar_src j).mpr (fun t ht => by rw [e] at ht; cases ht))))
      | some t =>
        have tl := (lq_src_lt j e).1
        have b1 := h2 t
        refine br_f (lq_m1 (show t < 2 ^ 31 by omega)) ⟨vp_in_nI (show t < 32 by omega) (by omega), ?_⟩
        have el : (lq_en (some t)).toNatClampNeg = t := nI_clamp (show t < 2 ^ 31 by omega)
        rw [el]
        refine pk_eq (r t) 0 (fun z => hp ⟨i, by omega, fun y => ?_⟩) (fun z => nm_r (nI_1 i) (go ((lq_ar_src j).mpr (fun t' ht => ?_))))
        · have := (lq_ar_src j).mp y t e
          omega
        · rw [e] at ht
          cases ht
          omega
  unfold wpX_lacksData
  exact ⟨s j + 1, main (s j) 0 (s j + 1) (by omega) (by omega) (fun x hx => absurd hx (by omega))⟩
theorem lx_bad4 (h : lq_XI w b m c q k p s r kn ad A V D bs ba BV BD ce) {x : Nat} (hx : x < m) {post : Int32 → Prop} : ∀ j n, j ≤ q → j < n → post (nI (lq_mb bs ba BD ce x j)) → wX_byteAfterDrains_4 post (nI x) (nI w) (nI b) (nI m) (nI c) (nI q) (fun i => nI (k i)) (fun i => nI (p i)) (fun i => nI (s i)) A (fun i => nI (r i)) V (fun i => nI (bs i)) (fun i => nI (ba i)) BV (fun i => nI (ce i)) st n (nI j - 1) := by
  obtain ⟨h1, h2, h3, h4, h5⟩ := h
  intro j
  induction j with
  | zero =>
    intro n _ hn hp
    obtain ⟨n, rfl⟩ : ∃ t, n = t + 1 := ⟨n - 1, by omega⟩
    rw [lq_dn0]
    refine br_t (by decide) ⟨vp_in_nI (by omega) (by omega), ?_⟩
    rw [nI_clamp (show x < 2 ^ 31 by omega)]
    exact hp
  | succ j ih =>
    intro n hj hn hp
    obtain ⟨n, rfl⟩ : ∃ t, n = t + 1 := ⟨n - 1, by omega⟩
    have ih' := ih n (by omega) (by omega)
    obtain ⟨w1, w2, w3⟩ := h4 j (by omega)
    have I : vp_in (nI j) 8 := vp_in_nI (by omega) (by omega)
    have hp' : post (nI (if ba j ≤ x ∧ x < ba j + bs j then lq_by (BD j) (x - ba j) else lq_mb bs ba BD ce x j)) := hp
    rw [lq_dn]
    refine br_f (nI_pos (by omega)) ⟨I, I, ?_⟩
    rw [nI_clamp (show j < 2 ^ 31 by omega)]
    refine lx_cov (ba j) (bs j) x (by omega) (by omega) (by omega) (fun z => br_f (by decide) ⟨I, I, ?_⟩) (fun z => br_t rfl (nm_r (lq_sub1 j) (ih' ?_)))
    · rw [w3]
      show wpX_byteOf _ () _ (nI x - nI (ba j))
      rw [pk_sub z.1]
      rw [if_pos z] at hp'
      exact lx_by (by omega) (by omega) hp'
    · rw [if_neg z] at hp'
      exact hp'
theorem lx_bad (h : lq_XI w b m c q k p s r kn ad A V D bs ba BV BD ce) {x j : Nat} (hx : x < m) (hj : j ≤ q) {post : Int32 → Prop} (hp : post (nI (lq_mb bs ba BD ce x j))) : wpX_byteAfterDrains post (nI w, nI b, nI m, nI c, nI q, (fun i => nI (k i)), (fun i => nI (p i)), (fun i => nI (s i)), A, (fun i => nI (r i)), V, (fun i => nI (bs i)), (fun i => nI (ba i)), BV, (fun i => nI (ce i)), st) (nI x) (nI j) := by
  unfold wpX_byteAfterDrains
  exact nm_e ⟨j + 1, lx_bad4 h hx j (j + 1) hj (by omega) hp⟩
theorem lx_gather (h : lq_XI w b m c q k p s r kn ad A V D bs ba BV BD ce) {j : Nat} (hj : j < c) (hk : kn j = 1) (har : ∀ x, x < s j → lq_ar k s r kn ad (ad j + x) j) {post : Int64 → Prop} (hp : post (lN (lq_vs (fun i => lq_lb k s kn ad D (fun a => lq_mb bs ba BD ce a q) (ad j + i) j) (s j)))) : wpX_gatherValue post (nI w, nI b, nI m, nI c, nI q, (fun i => nI (k i)), (fun i => nI (p i)), (fun i => nI (s i)), A, (fun i => nI (r i)), V, (fun i => nI (bs i)), (fun i => nI (ba i)), BV, (fun i => nI (ce i)), st) (nI j) := by
  have h' := h
  obtain ⟨h1, h2, h3, h4, h5⟩ := h
  obtain ⟨w1, w2, w3, _⟩ := h3 j hj
  have w2' := w2 hk
  rw [if_pos hk] at w3
  have I : vp_in (nI j) 32 := vp_in_nI (by omega) (by omega)
  have lt : ∀ i, (fun i => lq_lb k s kn ad D (fun a => lq_mb bs ba BD ce a q) (ad j + i) j) i < 256 := fun i => lq_lb_lt k s kn ad D (fun a => lq_mb bs ba BD ce a q) (ad j + i) (lq_mb_lt bs ba BD ce (ad j + i) (h5 _) q) j
  generalize hf : (fun i => lq_lb k s kn ad D (fun a => lq_mb bs ba BD ce a q) (ad j + i) j) = f at *
  have main : ∀ d i n, i + d = s j → d < n → wX_gatherValue_5 post (nI j) (nI w) (nI b) (nI m) (nI c) (nI q) (fun i => nI (k i)) (fun i => nI (p i)) (fun i => nI (s i)) A (fun i => nI (r i)) V (fun i => nI (bs i)) (fun i => nI (ba i)) BV (fun i => nI (ce i)) st n (lN (lq_vs f i)) (nI i) := by
    intro d
    induction d with
    | zero =>
      intro i n hi hd
      obtain ⟨n, rfl⟩ : ∃ t, n = t + 1 := ⟨n - 1, by omega⟩
      refine ⟨I, ?_⟩
      rw [nI_clamp (show j < 2 ^ 31 by omega)]
      refine pk_le (s j) i (fun _ => ?_) (fun z => absurd z (by omega))
      rw [show i = s j by omega]
      exact hp
    | succ d ih =>
      intro i n hi hd
      obtain ⟨n, rfl⟩ : ∃ t, n = t + 1 := ⟨n - 1, by omega⟩
      have go : ∀ z0 : Int32, z0 = nI (f i) → wX_gatherValue_77 post (wX_gatherValue_5 post (nI j) (nI w) (nI b) (nI m) (nI c) (nI q) (fun i => nI (k i)) (fun i => nI (p i)) (fun i => nI (s i)) A (fun i => nI (r i)) V (fun i => nI (bs i)) (fun i => nI (ba i)) BV (fun i => nI (ce i)) st n) (nI j) (lN (lq_vs f i)) (nI i) z0.toInt64 (nI w) (nI b) (nI m) (nI c) (nI q) (fun i => nI (k i)) (fun i => nI (p i)) (fun i => nI (s i)) A (fun i => nI (r i)) V (fun i => nI (bs i)) (fun i => nI (ba i)) BV (fun i => nI (ce i)) st := fun z0 ez => by
        rw [ez]
        unfold wX_gatherValue_77
        have e8 : (8 : Int32) * nI i = nI (8 * i) := pk_mul 8 i
        rw [e8, lq_vor f lt i (by omega), nI_1 i]
        exact nm_e (nm_e (ih (i + 1) n (by omega) (by omega)))
      have fi : f i = lq_lb k s kn ad D (fun a => lq_mb bs ba BD ce a q) (ad j + i) j := by rw [← hf]
      refine ⟨I, ?_⟩
      rw [nI_clamp (show j < 2 ^ 31 by omega)]
      refine pk_le (s j) i (fun z => absurd z (by omega)) (fun _ => ⟨I, ?_⟩)
      rw [w3, nI_add]
      refine nm_e ?_
      refine lx_src (lq_XIG h') (by omega) (by omega) ?_
      cases e : lq_src k s kn ad (ad j + i) j with
      | none =>
        refine br_t rfl (lx_bad h' (by omega) (Nat.le_refl q) (go _ ?_))
        rw [fi, lq_lb_none j e]
      | some t =>
        obtain ⟨tl, tc⟩ := lq_src_lt j e
        obtain ⟨t1, t2, t3, t4⟩ := h3 t (by omega)
        have tr := (lq_ar_src j).mp (har i (by omega)) t e
        have tv := (t4 tr).1 tc.1
        rw [if_pos tc.2.1] at t3
        have It : vp_in (nI t) 32 := vp_in_nI (by omega) (by omega)
        refine br_f (lq_m1 (show t < 2 ^ 31 by omega)) ⟨It, It, ?_⟩
        show wpX_byteOf _ () (V (nI t).toNatClampNeg) (nI (ad j + i) - A (nI t).toNatClampNeg)
        rw [nI_clamp (show t < 2 ^ 31 by omega), tv, t3, pk_sub tc.2.2.1]
        refine lx_by (by have := tc.2.2.2; omega) (by omega) (go _ ?_)
        rw [fi, lq_lb_some j e]
  unfold wpX_gatherValue
  exact ⟨s j + 1, main (s j) 0 (s j + 1) (by omega) (by omega)⟩
end
end
section
/-! the class: positions, pcs, sizes, pairs, the loads sent back, setAddress, setData, execute -/
section
variable {w b m c q : Nat} {k p s r kn ad : Nat → Nat} {A : Nat → Int32} {V : Nat → Int64} {D : Nat → Int32} {bs ba : Nat → Nat} {BV : Nat → Int64} {BD : Nat → Int32} {ce : Nat → Nat} {st : Nat → Int32}
theorem lx_pos {post : Int32 → Prop} {j : Nat} (hj : j < c) (hc : c ≤ 32) (hp : post 1) : wpX_isPosition post (nI w, nI b, nI m, nI c, nI q, (fun i => nI (k i)), (fun i => nI (p i)), (fun i => nI (s i)), A, (fun i => nI (r i)), V, (fun i => nI (bs i)), (fun i => nI (ba i)), BV, (fun i => nI (ce i)), st) (nI j) := by
  unfold wpX_isPosition
  exact br_f (nI_pos (by omega)) (br_f (nI_ge hj (by omega)) hp)
theorem lx_npos {post : Int32 → Prop} {v : Int32} (hv : v < 0 ∨ nI c ≤ v) (hp : post 0) : wpX_isPosition post (nI w, nI b, nI m, nI c, nI q, (fun i => nI (k i)), (fun i => nI (p i)), (fun i => nI (s i)), A, (fun i => nI (r i)), V, (fun i => nI (bs i)), (fun i => nI (ba i)), BV, (fun i => nI (ce i)), st) v := by
  unfold wpX_isPosition
  rcases hv with hv | hv
  · exact br_t hv hp
  · exact br_c (fun _ => hp) (fun _ => br_t hv hp)
theorem lx_pc {post : Int32 → Prop} {y : Nat} (hy : y < 16) (hp : post 1) : wpX_isPc post () (nI y) := br_f (nI_pos (by omega)) (br_f (nI_ge (b := 16) hy (by decide)) hp)
theorem lx_npc {post : Int32 → Prop} {v : Int32} (hv : v < 0 ∨ nI 16 ≤ v) (hp : post 0) : wpX_isPc post () v := by
  rcases hv with hv | hv
  · exact br_t hv hp
  · exact br_c (fun _ => hp) (fun _ => br_t hv hp)
theorem lx_size {post : Int32 → Prop} {v : Int32} (hp : v = 1 ∨ v = 2 ∨ v = 4 → post 1) (hn : ¬ (v = 1 ∨ v = 2 ∨ v = 4) → post 0) : wpX_isSize post () v :=
  br_c (fun z => hp (Or.inl z)) (fun z1 => br_c (fun z => hp (Or.inr (Or.inl z))) (fun z2 => br_c (fun z => hp (Or.inr (Or.inr z))) (fun z3 => hn (fun z => by
    rcases z with z | z | z
    · exact z1 z
    · exact z2 z
    · exact z3 z))))
theorem lx_rem52 {post : St2 → Prop} {K P S : Nat → Int32} {R : Nat → Int32} {BS BA CE : Nat → Int32} {t : Nat → Int32} {kept merged : Int32} (hp : post (nI w, nI b, nI m, nI c, nI q, K, P, S, A, R, V, BS, BA, BV, CE, lq_mg t kept merged 16)) : ∀ d i n, i + d = 16 → d < n → wX_rememberPair_52 post kept merged (nI w) (nI b) (nI m) (nI c) (nI q) n (nI i) K P S A R V BS BA BV CE (lq_mg t kept merged i) := by
  intro d
  induction d with
  | zero =>
    intro i n hi hd
    obtain ⟨n, rfl⟩ : ∃ t, n = t + 1 := ⟨n - 1, by omega⟩
    obtain rfl : i = 16 := by omega
    exact br_t (by decide) hp
  | succ d ih =>
    intro i n hi hd
    obtain ⟨n, rfl⟩ : ∃ t, n = t + 1 := ⟨n - 1, by omega⟩
    have I : vp_in (nI i) 16 := vp_in_nI (by omega) (by omega)
    have ih' := ih (i + 1) n (by omega) (by omega)
    refine br_f (nI_ge (b := 16) (by omega) (by decide)) ⟨I, ?_⟩
    rw [nI_clamp (show i < 2 ^ 31 by omega), lq_mgs]
    refine br_c (fun z => ⟨I, nm_r (lq_mg1 t kept merged i z) (nm_r (nI_1 i) ih')⟩) (fun z => nm_r (nI_1 i) ?_)
    rw [lq_mg2 t kept merged i z]
    exact ih'
theorem lx_rem {post : St2 → Prop} {K P S : Nat → Int32} {R : Nat → Int32} {BS BA CE : Nat → Int32} {a e : Nat} (ha : a < 16) (he : e < 16) (hp : post (nI w, nI b, nI m, nI c, nI q, K, P, S, A, R, V, BS, BA, BV, CE, lq_rp st a e)) : wpX_rememberPair post (nI w, nI b, nI m, nI c, nI q, K, P, S, A, R, V, BS, BA, BV, CE, st) (nI a) (nI e) := by
  have Ia : vp_in (nI a) 16 := vp_in_nI (by omega) (by omega)
  have Ie : vp_in (nI e) 16 := vp_in_nI (by omega) (by omega)
  have ca : (nI a).toNatClampNeg = a := nI_clamp (by omega)
  have ce' : (nI e).toNatClampNeg = e := nI_clamp (by omega)
  have s34 : wX_rememberPair_34 post (nI a) (nI e) (nI w) (nI b) (nI m) (nI c) (nI q) K P S A R V BS BA BV CE (lq_t st a e) := by
    unfold wX_rememberPair_34
    rw [ca, ce']
    have l := lx_rem52 (t := lq_t st a e) (kept := lq_t st a e a) (merged := lq_t st a e e) hp 16 0 17 (by omega) (by omega)
    rw [lq_mg0] at l
    exact ⟨Ia, nm_e ⟨Ie, nm_e ⟨17, l⟩⟩⟩
  have s17 : wX_rememberPair_17 post (nI a) (nI e) (nI w) (nI b) (nI m) (nI c) (nI q) K P S A R V BS BA BV CE (lq_nm st a) := by
    unfold wX_rememberPair_17
    rw [ce']
    refine ⟨Ie, br_c (fun z => ⟨Ie, nm_r (e' := lq_t st a e) ?_ s34⟩) (fun z => ?_)⟩
    · have e1 : lq_t st a e = upd (lq_nm st a) e (nI e) := if_pos z
      exact e1.symm
    · have e1 : lq_t st a e = lq_nm st a := if_neg z
      rw [e1] at s34
      exact s34
  unfold wpX_rememberPair
  refine ⟨Ia, ?_⟩
  rw [ca]
  refine br_c (fun z => ⟨Ia, nm_r (e' := lq_nm st a) ?_ s17⟩) (fun z => ?_)
  · unfold lq_nm
    rw [if_pos z]
  · have e1 : lq_nm st a = st := if_neg z
    rw [e1] at s17
    exact s17
theorem lx_send (h : lq_G m c k p s r kn ad A) {j : Nat} (hj : j < c) (hL : ∀ i, i < c → k i ≠ 1 → r i = 1 → kn i = 1) {post : Int32 → St2 → Prop} (hp : post (nI (lq_ct (lq_M k s r kn ad j) c)) (nI w, nI b, nI m, nI c, nI q, (fun i => nI (k i)), (fun i => nI (p i)), (fun i => nI (s i)), A, (fun iz => nI ((lq_rb (lq_M k s r kn ad j) r c) iz)), V, (fun i => nI (bs i)), (fun i => nI (ba i)), BV, (fun i => nI (ce i)), lq_sf (lq_M k s r kn ad j) p (p j) st c)) : wpX_sendBackLoadsThatMissed post (nI w, nI b, nI m, nI c, nI q, (fun i => nI (k i)), (fun i => nI (p i)), (fun i => nI (s i)), A, (fun i => nI (r i)), V, (fun i => nI (bs i)), (fun i => nI (ba i)), BV, (fun i => nI (ce i)), st) (nI j) := by
  have h' := h
  obtain ⟨h1, h0, h2, h3⟩ := h
  generalize hM : lq_M k s r kn ad j = M at *
  have Ij : vp_in (nI j) 32 := vp_in_nI (by omega) (by omega)
  have cj : (nI j).toNatClampNeg = j := nI_clamp (by omega)
  have main : ∀ d i n, i + d = c → d < n → j < i → wX_sendBackLoadsThatMissed_6 post (nI j) n (nI (lq_ct M i)) (nI i) (nI w) (nI b) (nI m) (nI c) (nI q) (fun i => nI (k i)) (fun i => nI (p i)) (fun i => nI (s i)) A (fun iz => nI ((lq_rb M r i) iz)) V (fun i => nI (bs i)) (fun i => nI (ba i)) BV (fun i => nI (ce i)) (lq_sf M p (p j) st i) := by
    intro d
    induction d with
    | zero =>
      intro i n hi hd hji
      obtain ⟨n, rfl⟩ : ∃ t, n = t + 1 := ⟨n - 1, by omega⟩
      obtain rfl : i = c := by omega
      exact br_t (nI_le (Nat.le_refl _) (by omega)) hp
    | succ d ih =>
      intro i n hi hd hji
      obtain ⟨n, rfl⟩ : ∃ t, n = t + 1 := ⟨n - 1, by omega⟩
      have I : vp_in (nI i) 32 := vp_in_nI (by omega) (by omega)
      have b1 := h2 i
      have ih' := ih (i + 1) n (by omega) (by omega) (by omega)
      have skip : ¬ M i → wX_sendBackLoadsThatMissed_6 post (nI j) n (nI (lq_ct M i)) (nI (i + 1)) (nI w) (nI b) (nI m) (nI c) (nI q) (fun i => nI (k i)) (fun i => nI (p i)) (fun i => nI (s i)) A (fun iz => nI ((lq_rb M r i) iz)) V (fun i => nI (bs i)) (fun i => nI (ba i)) BV (fun i => nI (ce i)) (lq_sf M p (p j) st i) := fun z => by
        rw [lq_ct_f z, ← lq_rb_f z, lq_sf_f z] at ih'
        exact ih'
      have mi : M i ↔ j < i ∧ k i = 0 ∧ r i = 1 ∧ ∃ x, x < s i ∧ lq_src k s kn ad (ad i + x) i = some j := by
        rw [← hM]
        exact Iff.rfl
      refine br_f (nI_ge (by omega) (by omega)) ⟨I, ?_⟩
      rw [nI_clamp (show i < 2 ^ 31 by omega), cj]
      refine pk_eq (k i) 0 (fun zk => ⟨I, ?_⟩) (fun zk => nm_r (nI_1 i) (skip (fun z => zk (mi.mp z).2.1)))
      refine pk_eq (r i) 0 (fun zr => nm_r (nI_1 i) (skip (fun z => by have := (mi.mp z).2.2.1; omega))) (fun zr => ?_) (congrArg nI (lq_rb_at M r i))
      have G' : lq_G m c k p s (lq_rb M r i) kn ad A := ⟨h1, h0, fun y => ⟨(h2 y).1, (h2 y).2.1, Nat.le_trans (lq_rb_le M r i y) (h2 y).2.2.1, (h2 y).2.2.2⟩, h3⟩
      refine lx_draws G' (by omega) (by omega) (hL i (by omega) (by omega) (by omega)) (fun z => br_f (by decide) ⟨I, ?_⟩) (fun z => br_t rfl (nm_r (nI_1 i) (skip (fun y => z (mi.mp y).2.2.2))))
      have z' : M i := mi.mpr ⟨hji, zk, by omega, z⟩
      refine nm_r (e' := fun iz => nI (lq_rb M r (i + 1) iz)) ?_ ⟨I, Ij, ?_⟩
      · rw [← lq_rb_t z']
        exact lq_upd _ i 0
      · refine lx_rem (h2 i).2.1 (h2 j).2.1 (nm_r (e' := nI (lq_ct M (i + 1))) ?_ (nm_r (nI_1 i) ?_))
        · rw [nI_1, ← lq_ct_t z']
        · rw [lq_sf_t z'] at ih'
          exact ih'
  have none : ∀ i, i < j + 1 → ¬ M i := fun i hi z => by
    rw [← hM] at z
    have := z.1
    omega
  have l := main (c - (j + 1)) (j + 1) (c - j) (by omega) (by omega) (by omega)
  rw [lq_ct_0 (j + 1) none, lq_rb_0 none, lq_sf_0 (j + 1) none] at l
  unfold wpX_sendBackLoadsThatMissed
  exact nm_r (nI_1 j) ⟨c - j, l⟩
end
end
section
/-! the class: enter, setAddress, setData, execute, executeReady, discard -/
section
variable {w b m c q : Nat} {k p s r kn ad : Nat → Nat} {A : Nat → Int32} {V : Nat → Int64} {D : Nat → Int32} {bs ba : Nat → Nat} {BV : Nat → Int64} {BD : Nat → Int32} {ce : Nat → Nat} {st : Nat → Int32}
theorem lx_enter (hw : w ≤ 32) {x y z : Nat} (hx : x ≤ 1) (hy : y < 16) (hz : z = 1 ∨ z = 2 ∨ z = 4) (hc : c ≤ w) {post : Int32 → St2 → Prop} (hf : c = w → post (-5) (nI w, nI b, nI m, nI c, nI q, (fun i => nI (k i)), (fun i => nI (p i)), (fun i => nI (s i)), A, (fun i => nI (r i)), V, (fun i => nI (bs i)), (fun i => nI (ba i)), BV, (fun i => nI (ce i)), st)) (hp : c < w → post (nI c) (nI w, nI b, nI m, nI (c + 1), nI q, (fun iz => nI ((lq_un k c x) iz)), (fun iz => nI ((lq_un p c y) iz)), (fun iz => nI ((lq_un s c z) iz)), upd A c (-1), (fun iz => nI ((lq_un r c 0) iz)), V, (fun i => nI (bs i)), (fun i => nI (ba i)), BV, (fun i => nI (ce i)), st)) : wpX_enter post (nI w, nI b, nI m, nI c, nI q, (fun i => nI (k i)), (fun i => nI (p i)), (fun i => nI (s i)), A, (fun i => nI (r i)), V, (fun i => nI (bs i)), (fun i => nI (ba i)), BV, (fun i => nI (ce i)), st) (nI x) (nI y) (nI z) := by
  have main : wX_enter_12 post (nI x) (nI y) (nI z) (nI w) (nI b) (nI m) (nI c) (nI q) (fun i => nI (k i)) (fun i => nI (p i)) (fun i => nI (s i)) A (fun i => nI (r i)) V (fun i => nI (bs i)) (fun i => nI (ba i)) BV (fun i => nI (ce i)) st := by
    unfold wX_enter_12
    refine lx_pc hy (br_f (by decide) (lx_size (fun _ => br_f (by decide) ?_) (fun n => absurd ?_ n)))
    · refine pk_lt c w (fun l => ?_) (fun l => hf (by omega))
      have I : vp_in (nI c) 32 := vp_in_nI (by omega) (by omega)
      rw [nI_clamp (show c < 2 ^ 31 by omega)]
      refine ⟨I, nm_r (lq_upd k c x) ⟨I, nm_r (lq_upd p c y) ⟨I, nm_r (lq_upd s c z) ⟨I, nm_e ⟨I, nm_r ?_ (nm_r (nI_1 c) (hp l))⟩⟩⟩⟩⟩
      exact lq_upd r c 0
    · rcases hz with rfl | rfl | rfl
      · exact Or.inl rfl
      · exact Or.inr (Or.inl rfl)
      · exact Or.inr (Or.inr rfl)
  unfold wpX_enter
  exact pk_eq x 0 (fun _ => main) (fun _ => pk_eq x 1 (fun _ => main) (fun _ => absurd hx (by omega)))
theorem lx_enterK {post : Int32 → St2 → Prop} {v1 v2 v3 : Int32} (h0 : ¬ v1 = 0) (h1 : ¬ v1 = 1) (hp : post (-2) (nI w, nI b, nI m, nI c, nI q, (fun i => nI (k i)), (fun i => nI (p i)), (fun i => nI (s i)), A, (fun i => nI (r i)), V, (fun i => nI (bs i)), (fun i => nI (ba i)), BV, (fun i => nI (ce i)), st)) : wpX_enter post (nI w, nI b, nI m, nI c, nI q, (fun i => nI (k i)), (fun i => nI (p i)), (fun i => nI (s i)), A, (fun i => nI (r i)), V, (fun i => nI (bs i)), (fun i => nI (ba i)), BV, (fun i => nI (ce i)), st) v1 v2 v3 := by
  unfold wpX_enter
  exact br_f h0 (br_f h1 hp)
theorem lx_enterA {post : Int32 → St2 → Prop} {v1 v2 v3 : Int32} (h0 : v1 = 0 ∨ v1 = 1) (h1 : v2 < 0 ∨ nI 16 ≤ v2) (hp : post (-3) (nI w, nI b, nI m, nI c, nI q, (fun i => nI (k i)), (fun i => nI (p i)), (fun i => nI (s i)), A, (fun i => nI (r i)), V, (fun i => nI (bs i)), (fun i => nI (ba i)), BV, (fun i => nI (ce i)), st)) : wpX_enter post (nI w, nI b, nI m, nI c, nI q, (fun i => nI (k i)), (fun i => nI (p i)), (fun i => nI (s i)), A, (fun i => nI (r i)), V, (fun i => nI (bs i)), (fun i => nI (ba i)), BV, (fun i => nI (ce i)), st) v1 v2 v3 := by
  have main : wX_enter_12 post v1 v2 v3 (nI w) (nI b) (nI m) (nI c) (nI q) (fun i => nI (k i)) (fun i => nI (p i)) (fun i => nI (s i)) A (fun i => nI (r i)) V (fun i => nI (bs i)) (fun i => nI (ba i)) BV (fun i => nI (ce i)) st := lx_npc h1 (br_t rfl hp)
  unfold wpX_enter
  exact br_c (fun _ => main) (fun z => br_t (by rcases h0 with h0 | h0; exact absurd h0 z; exact h0) main)
theorem lx_enterS {post : Int32 → St2 → Prop} {v1 v3 : Int32} {y : Nat} (hy : y < 16) (h0 : v1 = 0 ∨ v1 = 1) (h1 : ¬ (v3 = 1 ∨ v3 = 2 ∨ v3 = 4)) (hp : post (-3) (nI w, nI b, nI m, nI c, nI q, (fun i => nI (k i)), (fun i => nI (p i)), (fun i => nI (s i)), A, (fun i => nI (r i)), V, (fun i => nI (bs i)), (fun i => nI (ba i)), BV, (fun i => nI (ce i)), st)) : wpX_enter post (nI w, nI b, nI m, nI c, nI q, (fun i => nI (k i)), (fun i => nI (p i)), (fun i => nI (s i)), A, (fun i => nI (r i)), V, (fun i => nI (bs i)), (fun i => nI (ba i)), BV, (fun i => nI (ce i)), st) v1 (nI y) v3 := by
  have main : wX_enter_12 post v1 (nI y) v3 (nI w) (nI b) (nI m) (nI c) (nI q) (fun i => nI (k i)) (fun i => nI (p i)) (fun i => nI (s i)) A (fun i => nI (r i)) V (fun i => nI (bs i)) (fun i => nI (ba i)) BV (fun i => nI (ce i)) st := lx_pc hy (br_f (by decide) (lx_size (fun z => absurd z h1) (fun _ => br_t rfl hp)))
  unfold wpX_enter
  exact br_c (fun _ => main) (fun z => br_t (by rcases h0 with h0 | h0; exact absurd h0 z; exact h0) main)
theorem lx_addr (h : lq_XI w b m c q k p s r kn ad A V D bs ba BV BD ce) {j : Nat} (hj : j < c) {v : Int32} {post : Int32 → St2 → Prop} (hk : kn j = 1 → post (-4) (nI w, nI b, nI m, nI c, nI q, (fun i => nI (k i)), (fun i => nI (p i)), (fun i => nI (s i)), A, (fun i => nI (r i)), V, (fun i => nI (bs i)), (fun i => nI (ba i)), BV, (fun i => nI (ce i)), st)) (hb : kn j ≠ 1 → v < 0 ∨ nI (m - s j + 1) ≤ v → post (-3) (nI w, nI b, nI m, nI c, nI q, (fun i => nI (k i)), (fun i => nI (p i)), (fun i => nI (s i)), A, (fun i => nI (r i)), V, (fun i => nI (bs i)), (fun i => nI (ba i)), BV, (fun i => nI (ce i)), st)) (hl : ∀ a, kn j ≠ 1 → v = nI a → a + s j ≤ m → k j ≠ 1 → post 0 (nI w, nI b, nI m, nI c, nI q, (fun i => nI (k i)), (fun i => nI (p i)), (fun i => nI (s i)), upd A j (nI a), (fun i => nI (r i)), V, (fun i => nI (bs i)), (fun i => nI (ba i)), BV, (fun i => nI (ce i)), st)) (hs : ∀ a, kn j ≠ 1 → v = nI a → a + s j ≤ m → k j = 1 → post (nI (lq_ct (lq_M k s r (lq_un kn j 1) (lq_un ad j a) j) c)) (nI w, nI b, nI m, nI c, nI q, (fun i => nI (k i)), (fun i => nI (p i)), (fun i => nI (s i)), upd A j (nI a), (fun iz => nI ((lq_rb (lq_M k s r (lq_un kn j 1) (lq_un ad j a) j) r c) iz)), V, (fun i => nI (bs i)), (fun i => nI (ba i)), BV, (fun i => nI (ce i)), lq_sf (lq_M k s r (lq_un kn j 1) (lq_un ad j a) j) p (p j) st c)) : wpX_setAddress post (nI w, nI b, nI m, nI c, nI q, (fun i => nI (k i)), (fun i => nI (p i)), (fun i => nI (s i)), A, (fun i => nI (r i)), V, (fun i => nI (bs i)), (fun i => nI (ba i)), BV, (fun i => nI (ce i)), st) (nI j) v := by
  have h' := h
  obtain ⟨h1, h2, h3, h4, h5⟩ := h
  obtain ⟨w1, w2, w3, w4⟩ := h3 j hj
  have I : vp_in (nI j) 32 := vp_in_nI (by omega) (by omega)
  unfold wpX_setAddress
  refine lx_pos hj (by omega) (br_f (by decide) ⟨I, ?_⟩)
  rw [nI_clamp (show j < 2 ^ 31 by omega)]
  by_cases zn : kn j = 1
  · have w2' := w2 zn
    rw [if_pos zn] at w3
    rw [w3]
    exact br_f (lq_m1 (by omega)) (hk zn)
  · rw [if_neg zn] at w3
    refine br_t w3 ?_
    have e : nI m - (fun i => nI (s i)) j = nI (m - s j) := pk_sub (by omega)
    rw [e]
    rcases pk_ix v (n := m - s j + 1) (by omega) with hv | hv | ⟨a, ha, rfl⟩
    · exact br_t hv (hb zn (Or.inl hv))
    · refine br_c (fun _ => hb zn (Or.inr hv)) (fun hv0 => ⟨I, br_f ?_ (hb zn (Or.inr hv))⟩)
      obtain ⟨a, ha, rfl⟩ := nI_of hv0
      rw [nI_leI (by omega) ha] at hv
      rw [nI_leI ha (by omega)]
      omega
    · refine br_f (nI_pos (by omega)) ⟨I, br_t (nI_le (by omega) (by omega)) ⟨I, nm_e ⟨I, ?_⟩⟩⟩
      have b1 := h2 j
      refine pk_eq (k j) 1 (fun zk => ?_) (fun zk => hl a zn rfl (by omega) zk)
      have G' : lq_G m c k p s r (lq_un kn j 1) (lq_un ad j a) (upd A j (nI a)) := by
        refine ⟨by omega, by omega, fun i => ⟨(h2 i).1, (h2 i).2.1, (h2 i).2.2.1, lq_unp (P := fun y => y ≤ 1) (fun i => (h2 i).2.2.2) (by omega) i⟩, fun i hi => ?_⟩
        by_cases e : i = j
        · subst e
          rw [lq_us, lq_us, pk_us]
          exact ⟨w1, fun _ => by omega, (if_pos rfl).symm⟩
        · rw [lq_ui e, lq_ui e, pk_un e]
          exact ⟨(h3 i hi).1, (h3 i hi).2.1, (h3 i hi).2.2.1⟩
      refine lx_send G' hj (fun i hi z1 z2 => ?_) (hs a zn rfl (by omega) zk)
      have := (((h3 i hi).2.2.2 z2).2 z1).1
      exact lq_unp (P := fun y => y = 1) (fun _ => this) rfl i
theorem lx_data (h : lq_XI w b m c q k p s r kn ad A V D bs ba BV BD ce) {j : Nat} (hj : j < c) {v : Int32} {post : Int32 → St2 → Prop} (hk : k j ≠ 1 → post (-2) (nI w, nI b, nI m, nI c, nI q, (fun i => nI (k i)), (fun i => nI (p i)), (fun i => nI (s i)), A, (fun i => nI (r i)), V, (fun i => nI (bs i)), (fun i => nI (ba i)), BV, (fun i => nI (ce i)), st)) (hr : k j = 1 → r j = 1 → post (-4) (nI w, nI b, nI m, nI c, nI q, (fun i => nI (k i)), (fun i => nI (p i)), (fun i => nI (s i)), A, (fun i => nI (r i)), V, (fun i => nI (bs i)), (fun i => nI (ba i)), BV, (fun i => nI (ce i)), st)) (hp : k j = 1 → r j ≠ 1 → post 0 (nI w, nI b, nI m, nI c, nI q, (fun i => nI (k i)), (fun i => nI (p i)), (fun i => nI (s i)), A, (fun iz => nI ((lq_un r j 1) iz)), vp_updL V j (lN (lq_lo v (s j))), (fun i => nI (bs i)), (fun i => nI (ba i)), BV, (fun i => nI (ce i)), st)) : wpX_setData post (nI w, nI b, nI m, nI c, nI q, (fun i => nI (k i)), (fun i => nI (p i)), (fun i => nI (s i)), A, (fun i => nI (r i)), V, (fun i => nI (bs i)), (fun i => nI (ba i)), BV, (fun i => nI (ce i)), st) (nI j) v := by
  obtain ⟨h1, h2, h3, h4, h5⟩ := h
  obtain ⟨w1, w2, w3, w4⟩ := h3 j hj
  have b1 := h2 j
  have I : vp_in (nI j) 32 := vp_in_nI (by omega) (by omega)
  unfold wpX_setData
  refine lx_pos hj (by omega) (br_f (by decide) ⟨I, ?_⟩)
  rw [nI_clamp (show j < 2 ^ 31 by omega)]
  refine pk_eq (k j) 0 (fun z => hk (by omega)) (fun z => ⟨I, pk_eq (r j) 0 (fun y => ⟨I, ?_⟩) (fun y => hr (by omega) (by omega))⟩)
  unfold wpX_lowBytes
  dsimp only
  rw [lq_low v w1]
  refine ⟨I, nm_e ⟨I, nm_r ?_ (hp (by omega) (by omega))⟩⟩
  exact lq_upd r j 1
theorem lx_exec (h : lq_XI w b m c q k p s r kn ad A V D bs ba BV BD ce) {j : Nat} (hj : j < c) {ans : Int32} {r' : Nat → Nat} {V' : Nat → Int64} (e : lq_EX k p s r kn ad V D (fun a => lq_mb bs ba BD ce a q) st j ans r' V') {post : Int32 → St2 → Prop} (hp : post ans (nI w, nI b, nI m, nI c, nI q, (fun i => nI (k i)), (fun i => nI (p i)), (fun i => nI (s i)), A, (fun iz => nI (r' iz)), V', (fun i => nI (bs i)), (fun i => nI (ba i)), BV, (fun i => nI (ce i)), st)) : wpX_execute post (nI w, nI b, nI m, nI c, nI q, (fun i => nI (k i)), (fun i => nI (p i)), (fun i => nI (s i)), A, (fun i => nI (r i)), V, (fun i => nI (bs i)), (fun i => nI (ba i)), BV, (fun i => nI (ce i)), st) (nI j) := by
  have h' := h
  obtain ⟨h1, h2, h3, h4, h5⟩ := h
  obtain ⟨w1, w2, w3, w4⟩ := h3 j hj
  have b1 := h2 j
  have I : vp_in (nI j) 32 := vp_in_nI (by omega) (by omega)
  unfold wpX_execute
  refine lx_pos hj (by omega) (br_f (by decide) ⟨I, ?_⟩)
  rw [nI_clamp (show j < 2 ^ 31 by omega)]
  rcases e with ⟨e1, ea, er, eV⟩ | ⟨e1, e2, ea, er, eV⟩ | ⟨e1, e2, e3, ea, er, eV⟩ | ⟨e1, e2, e3, e4, ea, er, eV⟩ | ⟨e1, e2, e3, e4, e5, ea, er, eV⟩ | ⟨e1, e2, e3, e4, e5, ea, er, eV⟩
  all_goals rw [ea, er, eV] at hp
  · exact pk_eq (k j) 1 (fun z => hp) (fun z => absurd e1 z)
  · exact pk_eq (k j) 1 (fun z => absurd z e1) (fun z => ⟨I, pk_eq (r j) 0 (fun y => absurd e2 (by omega)) (fun y => hp)⟩)
  · refine pk_eq (k j) 1 (fun z => absurd z e1) (fun z => ⟨I, pk_eq (r j) 0 (fun y => ⟨I, br_t ?_ hp⟩) (fun y => absurd e2 (by omega))⟩)
    rw [w3, if_neg e3]
  all_goals
    have a1 : ¬ A j = -1 := by
      rw [w3, if_pos e3]
      exact lq_m1 (by have := w2 e3; omega)
    refine pk_eq (k j) 1 (fun z => absurd z e1) (fun z => ⟨I, pk_eq (r j) 0 (fun y => ⟨I, br_f a1 ?_⟩) (fun y => absurd e2 (by omega))⟩)
  · exact lx_waits h' hj (fun _ => br_f (by decide) hp) (fun n => absurd e4 n)
  · exact lx_waits h' hj (fun n => absurd n e4) (fun _ => br_t rfl (lx_lacks h' hj e3 (fun _ => br_f (by decide) hp) (fun n => absurd e5 n)))
  · have ar : ∀ x, x < s j → lq_ar k s r kn ad (ad j + x) j := fun x hx => Classical.byContradiction (fun n => e5 ⟨x, hx, n⟩)
    refine lx_waits h' hj (fun n => absurd n e4) (fun _ => br_t rfl (lx_lacks h' hj e3 (fun n => absurd n e5) (fun _ => br_t rfl (lx_gather h' hj e3 ar ⟨I, nm_e ⟨I, nm_r ?_ hp⟩⟩))))
    exact lq_upd r j 1
/-- executeReady from position i on -/
def lq_ER (k p s kn ad : Nat → Nat) (D : Nat → Int32) (base : Nat → Nat) (st : Nat → Int32) : Nat → Nat → (Nat → Nat) → (Nat → Int64) → Nat → (Nat → Nat) → (Nat → Int64) → Prop
  | 0, _, r, V, n, r', V' => n = 0 ∧ r' = r ∧ V' = V
  | d + 1, i, r, V, n, r', V' => ∃ ans r1 V1 n1, lq_EX k p s r kn ad V D base st i ans r1 V1 ∧ lq_ER k p s kn ad D base st d (i + 1) r1 V1 n1 r' V' ∧ ((ans = 0 ∧ n = n1 + 1) ∨ (ans ≠ 0 ∧ n = n1))
theorem lq_ERex (k p s kn ad : Nat → Nat) (D : Nat → Int32) (base : Nat → Nat) (st : Nat → Int32) : ∀ d i r V, ∃ n r' V', n ≤ d ∧ lq_ER k p s kn ad D base st d i r V n r' V'
  | 0, _, r, V => ⟨0, r, V, Nat.le_refl _, rfl, rfl, rfl⟩
  | d + 1, i, r, V => by
    obtain ⟨ans, r1, V1, e⟩ := lq_EXex k p s r kn ad V D base st i
    obtain ⟨n1, r', V', hn, e2⟩ := lq_ERex k p s kn ad D base st d (i + 1) r1 V1
    by_cases z : ans = 0
    · exact ⟨n1 + 1, r', V', by omega, ans, r1, V1, n1, e, e2, Or.inl ⟨z, rfl⟩⟩
    · exact ⟨n1, r', V', by omega, ans, r1, V1, n1, e, e2, Or.inr ⟨z, rfl⟩⟩
theorem lq_XIer {d : Nat} : ∀ {i : Nat} {r : Nat → Nat} {V : Nat → Int64} {n : Nat} {r' : Nat → Nat} {V' : Nat → Int64}, lq_XI w b m c q k p s r kn ad A V D bs ba BV BD ce → lq_ER k p s kn ad D (fun a => lq_mb bs ba BD ce a q) st d i r V n r' V' → lq_XI w b m c q k p s r' kn ad A V' D bs ba BV BD ce := by
  induction d with
  | zero =>
    intro i r V n r' V' h ⟨_, e1, e2⟩
    rw [e1, e2]
    exact h
  | succ d ih =>
    intro i r V n r' V' h ⟨ans, r1, V1, n1, e1, e2, _⟩
    exact ih (lq_XIex h e1) e2
theorem lx_er4 {post : Int32 → St2 → Prop} : ∀ d i fu {r : Nat → Nat} {V : Nat → Int64} {n n0 : Nat} {r' : Nat → Nat} {V' : Nat → Int64}, lq_XI w b m c q k p s r kn ad A V D bs ba BV BD ce → lq_ER k p s kn ad D (fun a => lq_mb bs ba BD ce a q) st d i r V n r' V' → i + d = c → d < fu → post (nI (n0 + n)) (nI w, nI b, nI m, nI c, nI q, (fun i => nI (k i)), (fun i => nI (p i)), (fun i => nI (s i)), A, (fun iz => nI (r' iz)), V', (fun i => nI (bs i)), (fun i => nI (ba i)), BV, (fun i => nI (ce i)), st) → wX_executeReady_4 post fu (nI n0) (nI i) (nI w) (nI b) (nI m) (nI c) (nI q) (fun i => nI (k i)) (fun i => nI (p i)) (fun i => nI (s i)) A (fun i => nI (r i)) V (fun i => nI (bs i)) (fun i => nI (ba i)) BV (fun i => nI (ce i)) st := by
  intro d
  induction d with
  | zero =>
    intro i fu r V n n0 r' V' h ⟨e0, e1, e2⟩ hi hd hp
    subst e0 e1 e2
    obtain ⟨fu, rfl⟩ : ∃ t, fu = t + 1 := ⟨fu - 1, by omega⟩
    have := h.1
    exact br_t (nI_le (by omega) (by omega)) hp
  | succ d ih =>
    intro i fu r V n n0 r' V' h ⟨ans, r1, V1, n1, e1, e2, e3⟩ hi hd hp
    obtain ⟨fu, rfl⟩ : ∃ t, fu = t + 1 := ⟨fu - 1, by omega⟩
    have := h.1
    refine br_f (nI_ge (by omega) (by omega)) (lx_exec h (by omega) e1 ?_)
    rcases e3 with ⟨z, e3⟩ | ⟨z, e3⟩
    · refine br_t z (nm_r (nI_1 n0) (nm_r (nI_1 i) (ih (i + 1) fu (n0 := n0 + 1) (lq_XIex h e1) e2 (by omega) (by omega) ?_)))
      rw [show n0 + 1 + n1 = n0 + n by omega]
      exact hp
    · refine br_f z (nm_r (nI_1 i) (ih (i + 1) fu (n0 := n0) (lq_XIex h e1) e2 (by omega) (by omega) ?_))
      rw [← e3]
      exact hp
theorem lx_er (h : lq_XI w b m c q k p s r kn ad A V D bs ba BV BD ce) {n : Nat} {r' : Nat → Nat} {V' : Nat → Int64} (e : lq_ER k p s kn ad D (fun a => lq_mb bs ba BD ce a q) st c 0 r V n r' V') {post : Int32 → St2 → Prop} (hp : post (nI n) (nI w, nI b, nI m, nI c, nI q, (fun i => nI (k i)), (fun i => nI (p i)), (fun i => nI (s i)), A, (fun iz => nI (r' iz)), V', (fun i => nI (bs i)), (fun i => nI (ba i)), BV, (fun i => nI (ce i)), st)) : wpX_executeReady post (nI w, nI b, nI m, nI c, nI q, (fun i => nI (k i)), (fun i => nI (p i)), (fun i => nI (s i)), A, (fun i => nI (r i)), V, (fun i => nI (bs i)), (fun i => nI (ba i)), BV, (fun i => nI (ce i)), st) := by
  unfold wpX_executeReady
  refine ⟨c + 1, lx_er4 c 0 (c + 1) (n0 := 0) h e (by omega) (by omega) ?_⟩
  rw [Nat.zero_add]
  exact hp
theorem lx_disc {j : Nat} (hj : j < c) (hc : c ≤ 32) {post : Int32 → St2 → Prop} (hp : post (nI (c - j)) (nI w, nI b, nI m, nI j, nI q, (fun i => nI (k i)), (fun i => nI (p i)), (fun i => nI (s i)), A, (fun i => nI (r i)), V, (fun i => nI (bs i)), (fun i => nI (ba i)), BV, (fun i => nI (ce i)), st)) : wpX_discard post (nI w, nI b, nI m, nI c, nI q, (fun i => nI (k i)), (fun i => nI (p i)), (fun i => nI (s i)), A, (fun i => nI (r i)), V, (fun i => nI (bs i)), (fun i => nI (ba i)), BV, (fun i => nI (ce i)), st) (nI j) := by
  unfold wpX_discard
  exact lx_pos hj hc (br_f (by decide) (nm_r (pk_sub (by omega)) hp))
end
end
section
/-! the class: commit, drain, the sets forgotten, the start, the readers -/
section
variable {w b m c q : Nat} {k p s r kn ad : Nat → Nat} {A : Nat → Int32} {V : Nat → Int64} {D : Nat → Int32} {bs ba : Nat → Nat} {BV : Nat → Int64} {BD : Nat → Int32} {ce : Nat → Nat} {st : Nat → Int32}
theorem lq_shx (i : Nat) (a : Nat → Int32) : upd (lq_sh (i + 1) a) i (lq_sh (i + 1) a (i + 1)) = lq_sh (i + 1 + 1) a := by rw [lq_shv]; exact lq_shu i a
theorem lq_shy (i : Nat) (a : Nat → Int64) : vp_updL (lq_sh (i + 1) a) i (lq_sh (i + 1) a (i + 1)) = lq_sh (i + 1 + 1) a := by rw [lq_shv]; exact lq_shL i a
theorem lq_shb (i : Nat) {f : Nat → Nat} (h : ∀ i, f i ≤ 1) : upd (lq_sh (i + 1) (fun i => nI (f i))) i (vp_nar .boolean (lq_sh (i + 1) (fun i => nI (f i)) (i + 1))) = lq_sh (i + 1 + 1) (fun i => nI (f i)) := by
  rw [lq_shv, lq_nb (h _)]
  exact lq_shu i (fun i => nI (f i))
theorem lx_shw {post : St2 → Prop} {BS BA : Nat → Int32} (hc : c < 32) (hr : ∀ i, r i ≤ 1) (hp : post (nI w, nI b, nI m, nI c, nI q, (fun iz => nI ((lq_sh (c + 1) k) iz)), (fun iz => nI ((lq_sh (c + 1) p) iz)), (fun iz => nI ((lq_sh (c + 1) s) iz)), lq_sh (c + 1) A, (fun iz => nI ((lq_sh (c + 1) r) iz)), lq_sh (c + 1) V, BS, BA, BV, (fun i => nI (ce i)), st)) : wpX_removeOldestFromWindow post (nI w, nI b, nI m, nI (c + 1), nI q, (fun i => nI (k i)), (fun i => nI (p i)), (fun i => nI (s i)), A, (fun i => nI (r i)), V, BS, BA, BV, (fun i => nI (ce i)), st) := by
  have main : ∀ d i n, i + d = c → d < n → wX_removeOldestFromWindow_2 post (nI w) (nI b) (nI m) (nI (c + 1)) (nI q) n (nI (i + 1)) (lq_sh (i + 1) (fun i => nI (k i))) (lq_sh (i + 1) (fun i => nI (p i))) (lq_sh (i + 1) (fun i => nI (s i))) (lq_sh (i + 1) A) (lq_sh (i + 1) (fun i => nI (r i))) (lq_sh (i + 1) V) BS BA BV (fun i => nI (ce i)) st := by
    intro d
    induction d with
    | zero =>
      intro i n hi hd
      obtain ⟨n, rfl⟩ : ∃ t, n = t + 1 := ⟨n - 1, by omega⟩
      obtain rfl : i = c := by omega
      rw [← lq_shn, ← lq_shn, ← lq_shn, ← lq_shn] at hp
      exact br_t (nI_le (Nat.le_refl _) (by omega)) (nm_r (nI_pred i) hp)
    | succ d ih =>
      intro i n hi hd
      obtain ⟨n, rfl⟩ : ∃ t, n = t + 1 := ⟨n - 1, by omega⟩
      have I : vp_in (nI i) 32 := vp_in_nI (by omega) (by omega)
      have I1 : vp_in (nI (i + 1)) 32 := vp_in_nI (by omega) (by omega)
      refine br_f (nI_ge (by omega) (by omega)) ?_
      rw [nI_pred i, nI_clamp (show i + 1 < 2 ^ 31 by omega), nI_clamp (show i < 2 ^ 31 by omega)]
      exact ⟨I1, I, nm_r (lq_shx i _) ⟨I1, I, nm_r (lq_shx i _) ⟨I1, I, nm_r (lq_shx i _) ⟨I1, I, nm_r (lq_shx i _) ⟨I1, I, nm_r (lq_shb i hr) ⟨I1, I, nm_r (lq_shy i _) (nm_r (nI_1 (i + 1)) (ih (i + 1) n (by omega) (by omega)))⟩⟩⟩⟩⟩⟩
  have l := main c 0 (c + 1) (by omega) (by omega)
  rw [Nat.zero_add, lq_sh1, lq_sh1, lq_sh1, lq_sh1, lq_sh1, lq_sh1] at l
  unfold wpX_removeOldestFromWindow
  exact ⟨c + 1, l⟩
theorem lx_com0 {post : Int64 → St2 → Prop} (hp : post (-10) (nI w, nI b, nI m, nI 0, nI q, (fun i => nI (k i)), (fun i => nI (p i)), (fun i => nI (s i)), A, (fun i => nI (r i)), V, (fun i => nI (bs i)), (fun i => nI (ba i)), BV, (fun i => nI (ce i)), st)) : wpX_commit post (nI w, nI b, nI m, nI 0, nI q, (fun i => nI (k i)), (fun i => nI (p i)), (fun i => nI (s i)), A, (fun i => nI (r i)), V, (fun i => nI (bs i)), (fun i => nI (ba i)), BV, (fun i => nI (ce i)), st) := by
  unfold wpX_commit
  exact br_t rfl hp
theorem lx_comN (h : lq_XI w b m (c + 1) q k p s r kn ad A V D bs ba BV BD ce) {post : Int64 → St2 → Prop} (hr : r 0 ≠ 1 ∨ kn 0 ≠ 1) (hp : post (-9) (nI w, nI b, nI m, nI (c + 1), nI q, (fun i => nI (k i)), (fun i => nI (p i)), (fun i => nI (s i)), A, (fun i => nI (r i)), V, (fun i => nI (bs i)), (fun i => nI (ba i)), BV, (fun i => nI (ce i)), st)) : wpX_commit post (nI w, nI b, nI m, nI (c + 1), nI q, (fun i => nI (k i)), (fun i => nI (p i)), (fun i => nI (s i)), A, (fun i => nI (r i)), V, (fun i => nI (bs i)), (fun i => nI (ba i)), BV, (fun i => nI (ce i)), st) := by
  obtain ⟨h1, h2, h3, h4, h5⟩ := h
  obtain ⟨w1, w2, w3, w4⟩ := h3 0 (by omega)
  have b1 := h2 0
  unfold wpX_commit
  refine br_f (nI_ne0 (by omega) (by omega)) (pk_eq (r 0) 0 (fun _ => hp) (fun z => br_t ?_ hp))
  rw [w3, if_neg (by omega)]
theorem lx_comL (h : lq_XI w b m (c + 1) q k p s r kn ad A V D bs ba BV BD ce) {post : Int64 → St2 → Prop} (hk : k 0 ≠ 1) (hr : r 0 = 1) (hp : post (V 0) (nI w, nI b, nI m, nI c, nI q, (fun iz => nI ((lq_sh (c + 1) k) iz)), (fun iz => nI ((lq_sh (c + 1) p) iz)), (fun iz => nI ((lq_sh (c + 1) s) iz)), lq_sh (c + 1) A, (fun iz => nI ((lq_sh (c + 1) r) iz)), lq_sh (c + 1) V, (fun i => nI (bs i)), (fun i => nI (ba i)), BV, (fun i => nI (ce i)), st)) : wpX_commit post (nI w, nI b, nI m, nI (c + 1), nI q, (fun i => nI (k i)), (fun i => nI (p i)), (fun i => nI (s i)), A, (fun i => nI (r i)), V, (fun i => nI (bs i)), (fun i => nI (ba i)), BV, (fun i => nI (ce i)), st) := by
  obtain ⟨h1, h2, h3, h4, h5⟩ := h
  obtain ⟨w1, w2, w3, w4⟩ := h3 0 (by omega)
  have b1 := h2 0
  have kn0 := ((w4 hr).2 hk).1
  have w2' := w2 kn0
  unfold wpX_commit
  refine br_f (nI_ne0 (by omega) (by omega)) (pk_eq (r 0) 0 (fun z => absurd hr (by omega)) (fun z => br_f ?_ (nm_e (pk_eq (k 0) 1 (fun z => absurd z hk) (fun _ => ?_)))))
  · rw [w3, if_pos kn0]
    exact lq_m1 (by omega)
  · unfold wX_commit_74
    exact lx_shw (by omega) (fun i => (h2 i).2.2.1) hp
theorem lx_comS (h : lq_XI w b m (c + 1) q k p s r kn ad A V D bs ba BV BD ce) {post : Int64 → St2 → Prop} (hk : k 0 = 1) (hr : r 0 = 1) (hn : kn 0 = 1) (hf : q = b → post (-5) (nI w, nI b, nI m, nI (c + 1), nI q, (fun i => nI (k i)), (fun i => nI (p i)), (fun i => nI (s i)), A, (fun i => nI (r i)), V, (fun i => nI (bs i)), (fun i => nI (ba i)), BV, (fun i => nI (ce i)), st)) (hp : q < b → post (-11) (nI w, nI b, nI m, nI c, nI (q + 1), (fun iz => nI ((lq_sh (c + 1) k) iz)), (fun iz => nI ((lq_sh (c + 1) p) iz)), (fun iz => nI ((lq_sh (c + 1) s) iz)), lq_sh (c + 1) A, (fun iz => nI ((lq_sh (c + 1) r) iz)), lq_sh (c + 1) V, (fun iz => nI ((lq_un bs q (s 0)) iz)), (fun iz => nI ((lq_un ba q (ad 0)) iz)), vp_updL BV q (V 0), (fun i => nI (ce i)), st)) : wpX_commit post (nI w, nI b, nI m, nI (c + 1), nI q, (fun i => nI (k i)), (fun i => nI (p i)), (fun i => nI (s i)), A, (fun i => nI (r i)), V, (fun i => nI (bs i)), (fun i => nI (ba i)), BV, (fun i => nI (ce i)), st) := by
  obtain ⟨h1, h2, h3, h4, h5⟩ := h
  obtain ⟨w1, w2, w3, w4⟩ := h3 0 (by omega)
  have b1 := h2 0
  have w2' := w2 hn
  rw [if_pos hn] at w3
  unfold wpX_commit
  refine br_f (nI_ne0 (by omega) (by omega)) (pk_eq (r 0) 0 (fun z => absurd hr (by omega)) (fun z => br_f ?_ (nm_e (pk_eq (k 0) 1 (fun _ => pk_lt q b (fun l => ?_) (fun l => hf (by omega))) (fun z => absurd hk z)))))
  · rw [w3]
    exact lq_m1 (by omega)
  · have I : vp_in (nI q) 8 := vp_in_nI (by omega) (by omega)
    unfold wpX_moveOldestIntoBuffer
    refine ⟨I, ?_⟩
    rw [nI_clamp (show q < 2 ^ 31 by omega), w3]
    refine nm_r (lq_upd bs q (s 0)) ⟨I, nm_r (lq_upd ba q (ad 0)) ⟨I, nm_e (nm_r (nI_1 q) ?_)⟩⟩
    show wX_commit_74 post (-11) (nI w) (nI b) (nI m) (nI (c + 1)) (nI (q + 1)) (fun i => nI (k i)) (fun i => nI (p i)) (fun i => nI (s i)) A (fun i => nI (r i)) V (fun iz => nI ((lq_un bs q (s 0)) iz)) (fun iz => nI ((lq_un ba q (ad 0)) iz)) (vp_updL BV q (V 0)) (fun i => nI (ce i)) st
    unfold wX_commit_74
    exact lx_shw (by omega) (fun i => (h2 i).2.2.1) (hp l)
theorem lx_shb {post : St2 → Prop} {CE : Nat → Int32} (hq : q < 8) (hp : post (nI w, nI b, nI m, nI c, nI q, (fun i => nI (k i)), (fun i => nI (p i)), (fun i => nI (s i)), A, (fun i => nI (r i)), V, (fun iz => nI ((lq_sh (q + 1) bs) iz)), (fun iz => nI ((lq_sh (q + 1) ba) iz)), lq_sh (q + 1) BV, CE, st)) : wpX_removeOldestFromBuffer post (nI w, nI b, nI m, nI c, nI (q + 1), (fun i => nI (k i)), (fun i => nI (p i)), (fun i => nI (s i)), A, (fun i => nI (r i)), V, (fun i => nI (bs i)), (fun i => nI (ba i)), BV, CE, st) := by
  have main : ∀ d i n, i + d = q → d < n → wX_removeOldestFromBuffer_2 post (nI w) (nI b) (nI m) (nI c) (nI (q + 1)) n (nI (i + 1)) (fun i => nI (k i)) (fun i => nI (p i)) (fun i => nI (s i)) A (fun i => nI (r i)) V (lq_sh (i + 1) (fun i => nI (bs i))) (lq_sh (i + 1) (fun i => nI (ba i))) (lq_sh (i + 1) BV) CE st := by
    intro d
    induction d with
    | zero =>
      intro i n hi hd
      obtain ⟨n, rfl⟩ : ∃ t, n = t + 1 := ⟨n - 1, by omega⟩
      obtain rfl : i = q := by omega
      rw [← lq_shn, ← lq_shn] at hp
      exact br_t (nI_le (Nat.le_refl _) (by omega)) (nm_r (nI_pred i) hp)
    | succ d ih =>
      intro i n hi hd
      obtain ⟨n, rfl⟩ : ∃ t, n = t + 1 := ⟨n - 1, by omega⟩
      have I : vp_in (nI i) 8 := vp_in_nI (by omega) (by omega)
      have I1 : vp_in (nI (i + 1)) 8 := vp_in_nI (by omega) (by omega)
      refine br_f (nI_ge (by omega) (by omega)) ?_
      rw [nI_pred i, nI_clamp (show i + 1 < 2 ^ 31 by omega), nI_clamp (show i < 2 ^ 31 by omega)]
      exact ⟨I1, I, nm_r (lq_shx i _) ⟨I1, I, nm_r (lq_shx i _) ⟨I1, I, nm_r (lq_shy i _) (nm_r (nI_1 (i + 1)) (ih (i + 1) n (by omega) (by omega)))⟩⟩⟩
  have l := main q 0 (q + 1) (by omega) (by omega)
  rw [Nat.zero_add, lq_sh1, lq_sh1, lq_sh1] at l
  unfold wpX_removeOldestFromBuffer
  exact ⟨q + 1, l⟩
def lq_wc (ce : Nat → Nat) (a0 : Nat) (d : Int32) (i : Nat) : Nat → Nat := fun a => if a0 ≤ a ∧ a < a0 + i then lq_by d (a - a0) else ce a
theorem lq_wc0 (ce : Nat → Nat) (a0 : Nat) (d : Int32) : lq_wc ce a0 d 0 = ce := by
  funext a
  exact if_neg (fun h => by omega)
theorem lq_wc1 (ce : Nat → Nat) (a0 : Nat) (d : Int32) (i : Nat) : lq_un (lq_wc ce a0 d i) (a0 + i) (lq_by d i) = lq_wc ce a0 d (i + 1) := by
  funext a
  unfold lq_un lq_wc
  by_cases e : a = a0 + i
  · rw [if_pos e, if_pos ⟨by omega, by omega⟩, e, Nat.add_sub_cancel_left]
  · rw [if_neg e]
    by_cases z : a0 ≤ a ∧ a < a0 + i
    · rw [if_pos z, if_pos ⟨by omega, by omega⟩]
    · rw [if_neg z, if_neg (fun y => z ⟨by omega, by omega⟩)]
theorem lx_drain0 {post : Int32 → St2 → Prop} (hp : post (-10) (nI w, nI b, nI m, nI c, nI 0, (fun i => nI (k i)), (fun i => nI (p i)), (fun i => nI (s i)), A, (fun i => nI (r i)), V, (fun i => nI (bs i)), (fun i => nI (ba i)), BV, (fun i => nI (ce i)), st)) : wpX_drain post (nI w, nI b, nI m, nI c, nI 0, (fun i => nI (k i)), (fun i => nI (p i)), (fun i => nI (s i)), A, (fun i => nI (r i)), V, (fun i => nI (bs i)), (fun i => nI (ba i)), BV, (fun i => nI (ce i)), st) := by
  unfold wpX_drain
  exact br_t rfl hp
theorem lx_drain (h : lq_XI w b m c (q + 1) k p s r kn ad A V D bs ba BV BD ce) {post : Int32 → St2 → Prop} (hp : post 0 (nI w, nI b, nI m, nI c, nI q, (fun i => nI (k i)), (fun i => nI (p i)), (fun i => nI (s i)), A, (fun i => nI (r i)), V, (fun iz => nI ((lq_sh (q + 1) bs) iz)), (fun iz => nI ((lq_sh (q + 1) ba) iz)), lq_sh (q + 1) BV, (fun iz => nI (lq_mb bs ba BD ce iz 1)), st)) : wpX_drain post (nI w, nI b, nI m, nI c, nI (q + 1), (fun i => nI (k i)), (fun i => nI (p i)), (fun i => nI (s i)), A, (fun i => nI (r i)), V, (fun i => nI (bs i)), (fun i => nI (ba i)), BV, (fun i => nI (ce i)), st) := by
  obtain ⟨h1, h2, h3, h4, h5⟩ := h
  obtain ⟨w1, w2, w3⟩ := h4 0 (by omega)
  have main : ∀ d i n, i + d = bs 0 → d < n → wX_drain_12 post (nI w) (nI b) (nI m) (nI c) (nI (q + 1)) n (nI i) (fun i => nI (k i)) (fun i => nI (p i)) (fun i => nI (s i)) A (fun i => nI (r i)) V (fun i => nI (bs i)) (fun i => nI (ba i)) BV (fun iz => nI ((lq_wc ce (ba 0) (BD 0) i) iz)) st := by
    intro d
    induction d with
    | zero =>
      intro i n hi hd
      obtain ⟨n, rfl⟩ : ∃ t, n = t + 1 := ⟨n - 1, by omega⟩
      refine br_t (nI_le (by omega) (by omega)) (lx_shb (by omega) ?_)
      have e : lq_wc ce (ba 0) (BD 0) i = fun iz => lq_mb bs ba BD ce iz 1 := by
        funext a
        show (if ba 0 ≤ a ∧ a < ba 0 + i then _ else _) = if ba 0 ≤ a ∧ a < ba 0 + bs 0 then _ else _
        rw [show i = bs 0 by omega]
        rfl
      rw [e]
      exact hp
    | succ d ih =>
      intro i n hi hd
      obtain ⟨n, rfl⟩ : ∃ t, n = t + 1 := ⟨n - 1, by omega⟩
      refine br_f (nI_ge (by omega) (by omega)) ?_
      rw [w3]
      refine lx_by (by omega) (by omega) ?_
      show vp_in (nI (ba 0) + nI i) 64 ∧ ∀ y, y = upd _ (nI (ba 0) + nI i).toNatClampNeg _ → _
      rw [nI_add, nI_clamp (show ba 0 + i < 2 ^ 31 by omega)]
      refine ⟨vp_in_nI (by omega) (by omega), nm_r ?_ (nm_r (nI_1 i) (ih (i + 1) n (by omega) (by omega)))⟩
      rw [← lq_wc1]
      exact lq_upd _ _ _
  have l := main (bs 0) 0 (bs 0 + 1) (by omega) (by omega)
  rw [lq_wc0] at l
  unfold wpX_drain
  exact br_f (nI_ne0 (by omega) (by omega)) ⟨bs 0 + 1, l⟩
def lq_fp (st : Nat → Int32) (i : Nat) : Nat → Int32 := fun x => if x < i then -1 else st x
theorem lq_fp0 (st : Nat → Int32) : lq_fp st 0 = st := by
  funext x
  exact if_neg (by omega)
theorem lq_fp1 (st : Nat → Int32) (i : Nat) : upd (lq_fp st i) i (-1) = lq_fp st (i + 1) := by
  funext x
  unfold upd lq_fp
  by_cases e : x = i
  · rw [if_pos e, if_pos (by omega)]
  · rw [if_neg e]
    by_cases z : x < i
    · rw [if_pos z, if_pos (by omega)]
    · rw [if_neg z, if_neg (by omega)]
theorem lx_forget {post : St2 → Prop} {K P S R BS BA CE : Nat → Int32} (hp : post (nI w, nI b, nI m, nI c, nI q, K, P, S, A, R, V, BS, BA, BV, CE, lq_fp st 16)) : wpX_forgetPairs post (nI w, nI b, nI m, nI c, nI q, K, P, S, A, R, V, BS, BA, BV, CE, st) := by
  have main : ∀ d i n, i + d = 16 → d < n → wX_forgetPairs_2 post (nI w) (nI b) (nI m) (nI c) (nI q) n (nI i) K P S A R V BS BA BV CE (lq_fp st i) := by
    intro d
    induction d with
    | zero =>
      intro i n hi hd
      obtain ⟨n, rfl⟩ : ∃ t, n = t + 1 := ⟨n - 1, by omega⟩
      obtain rfl : i = 16 := by omega
      exact br_t (by decide) hp
    | succ d ih =>
      intro i n hi hd
      obtain ⟨n, rfl⟩ : ∃ t, n = t + 1 := ⟨n - 1, by omega⟩
      refine br_f (nI_ge (b := 16) (by omega) (by decide)) ⟨vp_in_nI (by omega) (by omega), ?_⟩
      rw [nI_clamp (show i < 2 ^ 31 by omega), lq_fp1]
      exact nm_e (nm_r (nI_1 i) (ih (i + 1) n (by omega) (by omega)))
  have l := main 16 0 17 (by omega) (by omega)
  rw [lq_fp0] at l
  unfold wpX_forgetPairs
  exact ⟨17, l⟩
theorem lx_clear {post : St2 → Prop} (hp : post (nI w, nI b, nI m, nI c, nI q, (fun i => nI (k i)), (fun i => nI (p i)), (fun i => nI (s i)), A, (fun i => nI (r i)), V, (fun i => nI (bs i)), (fun i => nI (ba i)), BV, (fun i => nI (ce i)), lq_fp st 16)) : wpX_clearSets post (nI w, nI b, nI m, nI c, nI q, (fun i => nI (k i)), (fun i => nI (p i)), (fun i => nI (s i)), A, (fun i => nI (r i)), V, (fun i => nI (bs i)), (fun i => nI (ba i)), BV, (fun i => nI (ce i)), st) := by
  unfold wpX_clearSets
  exact lx_forget hp
def lq_c0 (i : Nat) : Nat → Nat := fun a => if a < i then 3 * a + 1 else 0
theorem lq_c00 : (fun i => nI (lq_c0 0 i)) = fun _ => 0 := by
  funext a
  show nI (if a < 0 then 3 * a + 1 else 0) = 0
  rw [if_neg (by omega)]
  rfl
theorem lq_c01 (i : Nat) : upd (fun iz => nI (lq_c0 i iz)) i (3 * nI i + 1) = fun iz => nI (lq_c0 (i + 1) iz) := by
  have e : (3 : Int32) * nI i + 1 = nI (3 * i + 1) := by
    rw [show (3 : Int32) * nI i = nI (3 * i) from pk_mul 3 i, nI_1]
  rw [e, lq_upd]
  have e2 : lq_un (lq_c0 i) i (3 * i + 1) = lq_c0 (i + 1) := by
    funext x
    unfold lq_un lq_c0
    by_cases e : x = i
    · rw [if_pos e, if_pos (by omega), e]
    · rw [if_neg e]
      by_cases z : x < i
      · rw [if_pos z, if_pos (by omega)]
      · rw [if_neg z, if_neg (by omega)]
  rw [e2]
theorem lq_c0lt (a : Nat) : lq_c0 64 a < 256 := by
  unfold lq_c0
  split <;> omega
theorem lq_clm {lo hi : Nat} (h : lo ≤ hi) (hh : hi < 2 ^ 31) (v : Int32) : ∃ x, lo ≤ x ∧ x ≤ hi ∧ ∀ P : Int32 → Prop, P (nI x) → ((nI lo ≤ v → ((v ≤ nI hi → P v) ∧ (¬ v ≤ nI hi → P (nI hi)))) ∧ (¬ nI lo ≤ v → P (nI lo))) := by
  by_cases h1 : nI lo ≤ v
  · by_cases h2 : v ≤ nI hi
    · have h0 : ¬ v < 0 := fun z => by
        have a1 : (0 : Int32) ≤ nI lo := nI_pos' (by omega)
        have a2 := Int32.le_trans a1 h1
        exact Int32.not_lt.mpr a2 z
      obtain ⟨x, hx, rfl⟩ := nI_of h0
      rw [nI_leI (by omega) hx] at h1
      have h2' := (nI_leI hx hh).mp h2
      exact ⟨x, h1, h2', fun P hP => br_t (nI_le h1 hx) (br_t h2 hP)⟩
    · exact ⟨hi, h, Nat.le_refl _, fun P hP => br_t h1 (br_f h2 hP)⟩
  · exact ⟨lo, Nat.le_refl _, h, fun P hP => br_f h1 hP⟩
theorem lx_mem (h : lq_XI w b m c q k p s r kn ad A V D bs ba BV BD ce) {x j : Nat} (hx : x < m) (hj : j ≤ q) {post : Int32 → Prop} (hp : post (nI (lq_mb bs ba BD ce x j))) : wpX_memory post (nI w, nI b, nI m, nI c, nI q, (fun i => nI (k i)), (fun i => nI (p i)), (fun i => nI (s i)), A, (fun i => nI (r i)), V, (fun i => nI (bs i)), (fun i => nI (ba i)), BV, (fun i => nI (ce i)), st) (nI x) (nI j) := by
  have := h.1
  unfold wpX_memory
  exact br_f (nI_pos (by omega)) (br_f (nI_ge (by omega) (by omega)) (br_f (nI_pos (by omega)) (br_t (nI_le (by omega) (by omega)) (lx_bad h hx hj hp))))
theorem lx_memB {v1 v2 : Int32} (hv : v1 < 0 ∨ nI m ≤ v1 ∨ v2 < 0 ∨ ¬ v2 ≤ nI q) {post : Int32 → Prop} (hp : post (-3)) : wpX_memory post (nI w, nI b, nI m, nI c, nI q, (fun i => nI (k i)), (fun i => nI (p i)), (fun i => nI (s i)), A, (fun i => nI (r i)), V, (fun i => nI (bs i)), (fun i => nI (ba i)), BV, (fun i => nI (ce i)), st) v1 v2 := by
  unfold wpX_memory
  rcases hv with hv | hv | hv | hv
  · exact br_t hv hp
  · exact br_c (fun _ => hp) (fun _ => br_t hv hp)
  · exact br_c (fun _ => hp) (fun _ => br_c (fun _ => hp) (fun _ => br_t hv hp))
  · exact br_c (fun _ => hp) (fun _ => br_c (fun _ => hp) (fun _ => br_c (fun _ => hp) (fun _ => br_f hv hp)))
end
end
section
/-! numbers packed into a long: w bits each -/
def lq_vw (w : Nat) (f : Nat → Nat) : Nat → Nat
  | 0 => 0
  | n + 1 => lq_vw w f n + f n * 2 ^ (w * n)
theorem lq_vw_lt (w : Nat) (f : Nat → Nat) (h : ∀ i, f i < 2 ^ w) : ∀ n, lq_vw w f n < 2 ^ (w * n)
  | 0 => Nat.two_pow_pos _
  | n + 1 => by
    have h1 := lq_vw_lt w f h n
    have hf := h n
    rw [show w * (n + 1) = w * n + w by rw [Nat.mul_succ], Nat.pow_add]
    show lq_vw w f n + f n * 2 ^ (w * n) < _
    generalize 2 ^ (w * n) = q at *
    have h2 : f n * q ≤ (2 ^ w - 1) * q := Nat.mul_le_mul_right q (by omega)
    have h3 : (2 ^ w - 1) * q = 2 ^ w * q - q := by rw [Nat.sub_mul, Nat.one_mul]
    have h4 : q ≤ 2 ^ w * q := Nat.le_mul_of_pos_left q (Nat.two_pow_pos w)
    rw [Nat.mul_comm q]
    omega
theorem lq_vw_bit (w : Nat) (hw : 0 < w) (f : Nat → Nat) (h : ∀ i, f i < 2 ^ w) (j : Nat) : ∀ n, (lq_vw w f n).testBit j = (decide (j < w * n) && (f (j / w)).testBit (j % w))
  | 0 => by
    show (0 : Nat).testBit j = _
    rw [Nat.zero_testBit, Nat.mul_zero, decide_eq_false (by omega), Bool.false_and]
  | n + 1 => by
    have ih := lq_vw_bit w hw f h j n
    have hl := lq_vw_lt w f h n
    show (lq_vw w f n + f n * 2 ^ (w * n)).testBit j = _
    rw [Nat.add_comm, Nat.mul_comm (f n), Nat.testBit_two_pow_mul_add _ hl]
    rw [Nat.mul_succ]
    by_cases z : j < w * n
    · rw [if_pos z, ih, decide_eq_true z, decide_eq_true (show j < w * n + w by omega)]
    · rw [if_neg z]
      by_cases y : j < w * n + w
      · have e1 : j / w = n := by
          apply Nat.div_eq_of_lt_le
          · rw [Nat.mul_comm]; omega
          · rw [Nat.mul_comm, Nat.mul_succ]; omega
        have e2 : j % w = j - w * n := by
          have := Nat.div_add_mod j w
          rw [e1] at this
          omega
        rw [e1, e2, decide_eq_true y, Bool.true_and]
      · rw [decide_eq_false y, Bool.false_and]
        exact Nat.testBit_lt_two_pow (Nat.lt_of_lt_of_le (h n) (Nat.pow_le_pow_right (by decide) (by omega)))
/-! Int64 by its bits -/
def lq_bl (x : Int64) (j : Nat) : Bool := x.toBitVec.getLsbD j
theorem lq_bl_ext {x y : Int64} (h : ∀ j, j < 64 → lq_bl x j = lq_bl y j) : x = y := Int64.toBitVec_inj.mp (BitVec.eq_of_getLsbD_eq (fun i hi => h i hi))
theorem lq_bl_and (x y : Int64) (j : Nat) : lq_bl (x &&& y) j = (lq_bl x j && lq_bl y j) := by unfold lq_bl; rw [Int64.toBitVec_and, BitVec.getLsbD_and]
theorem lq_bl_or (x y : Int64) (j : Nat) : lq_bl (x ||| y) j = (lq_bl x j || lq_bl y j) := by unfold lq_bl; rw [Int64.toBitVec_or, BitVec.getLsbD_or]
theorem lq_bl_m1 : ∀ j, j < 64 → lq_bl (-1) j = true := by decide +kernel
theorem lq_bl_not (x : Int64) {j : Nat} (hj : j < 64) : lq_bl (x ^^^ (-1)) j = !lq_bl x j := by
  have h := lq_bl_m1 j hj
  unfold lq_bl at *
  rw [Int64.toBitVec_xor, BitVec.getLsbD_xor, h, Bool.xor_true]
theorem lq_bl_lN (n : Nat) {j : Nat} (hj : j < 64) : lq_bl (lN n) j = n.testBit j := by
  unfold lq_bl
  show (BitVec.ofNat 64 n).getLsbD j = _
  rw [BitVec.getLsbD_ofNat, decide_eq_true hj, Bool.true_and]
theorem lq_bl_shl (x : Int64) {k j : Nat} (hk : k < 64) (hj : j < 64) : lq_bl (x <<< ((nI k).toInt64 &&& 63)) j = (decide (k ≤ j) && lq_bl x (j - k)) := by
  obtain ⟨n, hn, rfl⟩ := wb_of x
  rw [wb_shl n hk, lq_bl_lN _ hj, Nat.testBit_mul_two_pow]
  by_cases z : k ≤ j
  · rw [lq_bl_lN _ (show j - k < 64 by omega)]
  · rw [decide_eq_false z, Bool.false_and, Bool.false_and]
theorem lq_bl_shr (x : Int64) {k j : Nat} (hk : k < 64) (hj : j < 64) : lq_bl ((x.toUInt64 >>> ((nI k).toInt64.toUInt64 &&& Int64.toUInt64 63)).toInt64) j = (decide (k + j < 64) && lq_bl x (k + j)) := by
  obtain ⟨n, hn, rfl⟩ := wb_of x
  rw [wb_shr hn hk, lq_bl_lN _ hj, Nat.testBit_div_two_pow, Nat.add_comm]
  by_cases z : k + j < 64
  · rw [lq_bl_lN _ z, decide_eq_true z, Bool.true_and]
  · rw [decide_eq_false z, Bool.false_and]
    exact Nat.testBit_lt_two_pow (Nat.lt_of_lt_of_le hn (Nat.pow_le_pow_right (by decide) (by omega)))
theorem lq_bl_i (d : Int32) {j : Nat} (hj : j < 32) : lq_bl d.toInt64 j = d.toBitVec.toNat.testBit j := by
  unfold lq_bl
  rw [Int32.toBitVec_toInt64, BitVec.getLsbD_signExtend, BitVec.testBit_toNat]
  simp [hj, show j < 64 by omega]
theorem lq_by_bit (d : Int32) (i : Nat) {j : Nat} (hj : j < 8) : (lq_by d i).testBit j = d.toBitVec.toNat.testBit (8 * i + j) := by
  unfold lq_by
  show (_ % 2 ^ 8).testBit j = _
  rw [Nat.testBit_mod_two_pow, Nat.testBit_div_two_pow, decide_eq_true hj, Bool.true_and, Nat.add_comm]
/-- eight bytes as a long -/
def lq_L (f : Nat → Nat) : Int64 := lN (lq_vw 8 f 8)
theorem lq_L_bit (f : Nat → Nat) (h : ∀ i, f i < 256) {j : Nat} (hj : j < 64) : lq_bl (lq_L f) j = (f (j / 8)).testBit (j % 8) := by
  unfold lq_L
  rw [lq_bl_lN _ hj, lq_vw_bit 8 (by decide) f h j 8, decide_eq_true (show j < 8 * 8 by omega), Bool.true_and]
def lq_wr (f : Nat → Nat) (s ad : Nat) (d : Int32) : Nat → Nat := fun a => if ad ≤ a ∧ a < ad + s then lq_by d (a - ad) else f a
theorem lq_wr_lt {f : Nat → Nat} (h : ∀ i, f i < 256) (s ad : Nat) (d : Int32) (i : Nat) : lq_wr f s ad d i < 256 := by
  unfold lq_wr
  split
  · exact lq_by_lt _ _
  · exact h i
theorem lq_mk_bit {s j : Nat} (hj : j < 64) : lq_bl (lN (2 ^ (8 * s) - 1)) j = decide (j < 8 * s) := by
  rw [lq_bl_lN _ hj, Nat.testBit_two_pow_sub_one]
theorem lq_L_wr (f : Nat → Nat) (h : ∀ i, f i < 256) {s ad : Nat} (d : Int32) (hs : s ≤ 4) (ha : ad + s ≤ 8) (h0 : 0 < s) : (lq_L f &&& ((lN (2 ^ (8 * s) - 1) <<< ((nI (8 * ad)).toInt64 &&& 63)) ^^^ (-1))) ||| ((d.toInt64 &&& lN (2 ^ (8 * s) - 1)) <<< ((nI (8 * ad)).toInt64 &&& 63)) = lq_L (lq_wr f s ad d) := by
  apply lq_bl_ext
  intro j hj
  rw [lq_bl_or, lq_bl_and, lq_bl_not _ hj, lq_bl_shl _ (by omega) hj, lq_bl_shl _ (by omega) hj, lq_bl_and, lq_L_bit f h hj, lq_L_bit _ (lq_wr_lt h s ad d) hj, lq_mk_bit (by omega)]
  unfold lq_wr
  by_cases z1 : 8 * ad ≤ j
  · by_cases z2 : j - 8 * ad < 8 * s
    · rw [if_pos ⟨by omega, by omega⟩, decide_eq_true z1, decide_eq_true z2, lq_bl_i d (by omega), lq_by_bit d _ (by omega), show 8 * (j / 8 - ad) + j % 8 = j - 8 * ad by omega]
      simp
    · rw [if_neg (by omega), decide_eq_true z1, decide_eq_false z2]
      simp
  · rw [if_neg (by omega), decide_eq_false z1]
    simp
theorem lq_L_rd (f : Nat → Nat) (h : ∀ i, f i < 256) {s ad : Nat} (hs : s ≤ 4) (ha : ad + s ≤ 8) (h0 : 0 < s) : ((lq_L f).toUInt64 >>> ((nI (8 * ad)).toInt64.toUInt64 &&& Int64.toUInt64 63)).toInt64 &&& lN (2 ^ (8 * s) - 1) = lN (lq_vw 8 (fun i => f (ad + i)) s) := by
  apply lq_bl_ext
  intro j hj
  rw [lq_bl_and, lq_bl_shr _ (by omega) hj, lq_mk_bit hj, lq_bl_lN _ hj, lq_vw_bit 8 (by decide) _ (fun i => h (ad + i))]
  by_cases z : j < 8 * s
  · rw [decide_eq_true z, decide_eq_true (show 8 * ad + j < 64 by omega), lq_L_bit f h (by omega), show (8 * ad + j) / 8 = ad + j / 8 by omega, show (8 * ad + j) % 8 = j % 8 by omega]
    simp
  · rw [decide_eq_false z]
    simp
theorem lq_L_at (f : Nat → Nat) (h : ∀ i, f i < 256) {a : Nat} (ha : a < 8) : ((((lq_L f).toUInt64 >>> ((nI (8 * a)).toInt64.toUInt64 &&& Int64.toUInt64 63)).toInt64) &&& 255).toInt32 = nI (f a) := by
  have e : ((lq_L f).toUInt64 >>> ((nI (8 * a)).toInt64.toUInt64 &&& Int64.toUInt64 63)).toInt64 &&& 255 = lN (f a) := by
    apply lq_bl_ext
    intro j hj
    have hm : lq_bl 255 j = decide (j < 8) := lq_mk_bit (s := 1) hj
    rw [lq_bl_and, lq_bl_shr _ (by omega) hj, hm, lq_bl_lN _ hj]
    by_cases z : j < 8
    · rw [decide_eq_true z, decide_eq_true (show 8 * a + j < 64 by omega), lq_L_bit f h (by omega), show (8 * a + j) / 8 = a by omega, show (8 * a + j) % 8 = j by omega]
      simp
    · rw [decide_eq_false z, Nat.testBit_lt_two_pow (Nat.lt_of_lt_of_le (h a) (Nat.pow_le_pow_right (n := 2) (i := 8) (by decide) (by omega)))]
      simp
  rw [e, lN_i]
theorem lq_L_inj {f g : Nat → Nat} (h : ∀ i, i < 8 → f i = g i) : lq_L f = lq_L g := by
  have e : ∀ n, n ≤ 8 → lq_vw 8 f n = lq_vw 8 g n := by
    intro n
    induction n with
    | zero => intro _; rfl
    | succ n ih =>
      intro hn
      show lq_vw 8 f n + f n * _ = lq_vw 8 g n + g n * _
      rw [ih (by omega), h n (by omega)]
  unfold lq_L
  rw [e 8 (by omega)]
/-- four ids as a long -/
def lq_I (f : Nat → Nat) : Int64 := lN (lq_vw 16 f 4)
theorem lq_I_bit (f : Nat → Nat) (h : ∀ i, f i < 65536) {j : Nat} (hj : j < 64) : lq_bl (lq_I f) j = (f (j / 16)).testBit (j % 16) := by
  unfold lq_I
  rw [lq_bl_lN _ hj, lq_vw_bit 16 (by decide) f h j 4, decide_eq_true (show j < 16 * 4 by omega), Bool.true_and]
theorem lq_ffff {j : Nat} (hj : j < 64) : lq_bl 65535 j = decide (j < 16) := lq_mk_bit (s := 2) hj
theorem lq_I_at (f : Nat → Nat) (h : ∀ i, f i < 65536) {i : Nat} (hi : i < 4) : ((((lq_I f).toUInt64 >>> ((nI (16 * i)).toInt64.toUInt64 &&& Int64.toUInt64 63)).toInt64) &&& 65535).toInt32 = nI (f i) := by
  have e : ((lq_I f).toUInt64 >>> ((nI (16 * i)).toInt64.toUInt64 &&& Int64.toUInt64 63)).toInt64 &&& 65535 = lN (f i) := by
    apply lq_bl_ext
    intro j hj
    rw [lq_bl_and, lq_bl_shr _ (by omega) hj, lq_ffff hj, lq_bl_lN _ hj]
    by_cases z : j < 16
    · rw [decide_eq_true z, decide_eq_true (show 16 * i + j < 64 by omega), lq_I_bit f h (by omega), show (16 * i + j) / 16 = i by omega, show (16 * i + j) % 16 = j by omega]
      simp
    · rw [decide_eq_false z, Nat.testBit_lt_two_pow (Nat.lt_of_lt_of_le (h i) (Nat.pow_le_pow_right (n := 2) (i := 16) (by decide) (by omega)))]
      simp
  rw [e, lN_i]
theorem lq_I_0 (f : Nat → Nat) (h : ∀ i, f i < 65536) : (lq_I f &&& 65535).toInt32 = nI (f 0) := by
  have e : lq_I f &&& 65535 = lN (f 0) := by
    apply lq_bl_ext
    intro j hj
    rw [lq_bl_and, lq_ffff hj, lq_bl_lN _ hj, lq_I_bit f h hj]
    by_cases z : j < 16
    · rw [decide_eq_true z, show j / 16 = 0 by omega, show j % 16 = j by omega]
      simp
    · rw [decide_eq_false z, Nat.testBit_lt_two_pow (Nat.lt_of_lt_of_le (h 0) (Nat.pow_le_pow_right (n := 2) (i := 16) (by decide) (by omega)))]
      simp
  rw [e, lN_i]
theorem lq_I_set (f : Nat → Nat) (h : ∀ i, f i < 65536) {i x : Nat} (hi : i < 4) (hx : x < 65536) : (lq_I f &&& (((65535 : Int64) <<< ((nI (16 * i)).toInt64 &&& 63)) ^^^ (-1))) ||| ((nI x).toInt64 <<< ((nI (16 * i)).toInt64 &&& 63)) = lq_I (lq_un f i x) := by
  apply lq_bl_ext
  intro j hj
  rw [lq_bl_or, lq_bl_and, lq_bl_not _ hj, lq_bl_shl _ (by omega) hj, lq_bl_shl _ (by omega) hj, lq_I_bit f h hj, lq_I_bit _ (lq_unp (P := fun y => y < 65536) h hx) hj, lq_ffff (by omega), nI_l (by omega), lq_bl_lN _ (by omega)]
  unfold lq_un
  by_cases z1 : 16 * i ≤ j
  · by_cases z2 : j - 16 * i < 16
    · rw [if_pos (by omega), decide_eq_true z1, decide_eq_true z2, show j % 16 = j - 16 * i by omega]
      simp
    · rw [if_neg (by omega), decide_eq_true z1, decide_eq_false z2, Nat.testBit_lt_two_pow (Nat.lt_of_lt_of_le hx (Nat.pow_le_pow_right (n := 2) (i := 16) (by decide) (by omega)))]
      simp
  · rw [if_neg (by omega), decide_eq_false z1]
    simp
theorem lq_I_or (f : Nat → Nat) (h : ∀ i, f i < 65536) {i x : Nat} (hi : i < 4) (hx : x < 65536) (h0 : f i = 0) : lq_I f ||| ((nI x).toInt64 <<< ((nI (16 * i)).toInt64 &&& 63)) = lq_I (lq_un f i x) := by
  apply lq_bl_ext
  intro j hj
  rw [lq_bl_or, lq_bl_shl _ (by omega) hj, lq_I_bit f h hj, lq_I_bit _ (lq_unp (P := fun y => y < 65536) h hx) hj, nI_l (by omega), lq_bl_lN _ (by omega)]
  unfold lq_un
  by_cases z1 : 16 * i ≤ j
  · by_cases z2 : j - 16 * i < 16
    · rw [if_pos (by omega), decide_eq_true z1, show j % 16 = j - 16 * i by omega, show j / 16 = i by omega, h0]
      simp
    · rw [if_neg (by omega), decide_eq_true z1, Nat.testBit_lt_two_pow (x := x) (Nat.lt_of_lt_of_le hx (Nat.pow_le_pow_right (n := 2) (i := 16) (by decide) (by omega)))]
      simp
  · rw [if_neg (by omega), decide_eq_false z1]
    simp
theorem lq_I_shr (f : Nat → Nat) (h : ∀ i, f i < 65536) : ((lq_I f).toUInt64 >>> ((16 : Int32).toInt64.toUInt64 &&& Int64.toUInt64 63)).toInt64 = lq_I (fun i => if i < 3 then f (i + 1) else 0) := by
  apply lq_bl_ext
  intro j hj
  have e := lq_bl_shr (lq_I f) (k := 16) (by omega) hj
  have hg : ∀ i, (fun i => if i < 3 then f (i + 1) else 0) i < 65536 := fun i => by
    dsimp only
    split
    · exact h _
    · omega
  rw [lq_I_bit _ hg hj]
  refine Eq.trans e ?_
  by_cases z : 16 + j < 64
  · rw [decide_eq_true z, lq_I_bit f h z, if_pos (by omega), show (16 + j) / 16 = j / 16 + 1 by omega, show (16 + j) % 16 = j % 16 by omega]
    simp
  · rw [decide_eq_false z, if_neg (by omega)]
    simp
theorem lq_I_next (f g : Nat → Nat) (h : ∀ i, f i < 65536) (h' : ∀ i, g i < 65536) : ((lq_I f).toUInt64 >>> ((16 : Int32).toInt64.toUInt64 &&& Int64.toUInt64 63)).toInt64 ||| (lq_I g <<< ((48 : Int32).toInt64 &&& 63)) = lq_I (fun i => if i < 3 then f (i + 1) else g 0) := by
  apply lq_bl_ext
  intro j hj
  have e := lq_bl_shr (lq_I f) (k := 16) (by omega) hj
  have e2 := lq_bl_shl (lq_I g) (k := 48) (by omega) hj
  have hg : ∀ i, (fun i => if i < 3 then f (i + 1) else g 0) i < 65536 := fun i => by
    dsimp only
    split
    · exact h _
    · exact h' _
  rw [lq_I_bit _ hg hj, lq_bl_or]
  refine Eq.trans (congr (congrArg or e) e2) ?_
  by_cases z : 16 + j < 64
  · rw [decide_eq_true z, lq_I_bit f h z, if_pos (by omega), show (16 + j) / 16 = j / 16 + 1 by omega, show (16 + j) % 16 = j % 16 by omega, decide_eq_false (show ¬ 48 ≤ j by omega)]
    simp
  · rw [decide_eq_false z, if_neg (by omega), decide_eq_true (show 48 ≤ j by omega), lq_I_bit g h' (by omega), show (j - 48) / 16 = 0 by omega, show (j - 48) % 16 = j % 16 by omega]
    simp
end
section
/-! the law's helpers -/
def lp_cell (L : Nat) (xs : Nat → Int32) (n : Nat) : Int32 := if n < L then xs n else 0
theorem lp_cellw {post : Int32 → Prop} {L : Nat} {xs : Nat → Int32} {n : Nat} (hL : L ≤ 260) (hn : n < 2 ^ 20) (hp : post (lp_cell L xs n)) : wpL_cell post L xs () (nI n) := by
  unfold lp_cell at hp
  by_cases z : n < L
  · rw [if_pos z] at hp
    refine br_f (nI_ge z (by omega)) ⟨vp_in_nI z (by omega), ?_⟩
    rw [nI_clamp (by omega)]
    exact hp
  · rw [if_neg z] at hp
    exact br_t (nI_le (by omega) (by omega)) hp
theorem lp_mixe (a b : Int32) : ∃ v : Int32, ∀ post : Int32 → Prop, post v → wpL_mix post () a b := ⟨_, fun _ hp => nm_e (nm_e (nm_e (nm_e (nm_e (nm_e hp)))))⟩
noncomputable def lp_mix (a b : Int32) : Int32 := Classical.choose (lp_mixe a b)
theorem lp_mixw (a b : Int32) {post : Int32 → Prop} (hp : post (lp_mix a b)) : wpL_mix post () a b := Classical.choose_spec (lp_mixe a b) post hp
noncomputable def lp_g (L : Nat) (xs : Nat → Int32) (id : Nat) : Int32 := lp_mix (lp_cell L xs (id / 4)) (nI id + 100003)
noncomputable def lp_d (L : Nat) (xs : Nat → Int32) (id : Nat) : Int32 := lp_mix (lp_cell L xs (id / 4)) (nI id + 200003)
theorem lp_sh2 {n : Nat} (h : n < 2 ^ 31) : nI n >>> ((2 : Int32) &&& 31) = nI (n / 4) := pk_shrN h _ 2 (by decide)
theorem lp_gw {post : Int32 → Prop} {L : Nat} {xs : Nat → Int32} {id : Nat} (hL : L ≤ 260) (hn : id < 65536) (hp : post (lp_g L xs id)) : wpL_plan post L xs () (nI id) := by
  unfold wpL_plan
  rw [lp_sh2 (by omega)]
  exact lp_cellw hL (by omega) (lp_mixw _ _ hp)
theorem lp_dw {post : Int32 → Prop} {L : Nat} {xs : Nat → Int32} {id : Nat} (hL : L ≤ 260) (hn : id < 65536) (hp : post (lp_d L xs id)) : wpL_data post L xs () (nI id) := by
  unfold wpL_data
  rw [lp_sh2 (by omega)]
  exact lp_cellw hL (by omega) (lp_mixw _ _ hp)
def lp_k (g : Int32) : Nat := g.toBitVec.toNat % 2 ^ 1
def lp_p (g : Int32) : Nat := ((g.toUInt32 >>> ((9 : Int32).toUInt32 &&& Int32.toUInt32 31)).toInt32).toBitVec.toNat % 2 ^ 4
def lp_x (g : Int32) : Nat := ((g.toUInt32 >>> ((1 : Int32).toUInt32 &&& Int32.toUInt32 31)).toInt32).toBitVec.toNat % 2 ^ 8
def lp_s (g : Int32) : Nat := 2 ^ (lp_x g % 3)
def lp_y (g : Int32) : Nat := ((g.toUInt32 >>> ((16 : Int32).toUInt32 &&& Int32.toUInt32 31)).toInt32).toBitVec.toNat % 2 ^ 10
def lp_a (g : Int32) : Nat := lp_y g % (9 - lp_s g)
theorem lp_k1 (g : Int32) : lp_k g ≤ 1 := by
  have : lp_k g < 2 ^ 1 := Nat.mod_lt _ (by decide)
  omega
theorem lp_p16 (g : Int32) : lp_p g < 16 := Nat.mod_lt _ (by decide)
theorem lp_s124 (g : Int32) : lp_s g = 1 ∨ lp_s g = 2 ∨ lp_s g = 4 := by
  unfold lp_s
  have : lp_x g % 3 < 3 := Nat.mod_lt _ (by decide)
  generalize lp_x g % 3 = t at *
  have : t = 0 ∨ t = 1 ∨ t = 2 := by omega
  rcases this with rfl | rfl | rfl
  · exact Or.inl rfl
  · exact Or.inr (Or.inl rfl)
  · exact Or.inr (Or.inr rfl)
theorem lp_as (g : Int32) : lp_a g + lp_s g ≤ 8 := by
  have h := lp_s124 g
  have h2 : lp_a g < 9 - lp_s g := Nat.mod_lt _ (by omega)
  omega
theorem lp_kw {post : Int32 → Prop} (g : Int32) (hp : post (nI (lp_k g))) : wpL_kindOf post () g := by
  unfold wpL_kindOf
  rw [pk_and g 1 (by decide)]
  exact hp
theorem lp_pw {post : Int32 → Prop} (g : Int32) (hp : post (nI (lp_p g))) : wpL_pcOf post () g := by
  unfold wpL_pcOf
  rw [pk_and _ 4 (by decide)]
  exact hp
theorem lp_1sh : ∀ t, t < 3 → (1 : Int32) <<< (nI t &&& 31) = nI (2 ^ t) := by decide +kernel
theorem lp_sw {post : Int32 → Prop} (g : Int32) (hp : post (nI (lp_s g))) : wpL_sizeOf post () g := by
  unfold wpL_sizeOf
  refine ⟨by decide, ?_⟩
  have e0 : ((g.toUInt32 >>> ((1 : Int32).toUInt32 &&& Int32.toUInt32 31)).toInt32) &&& 255 = nI (lp_x g) := pk_and _ 8 (by decide)
  have e : nI (lp_x g) - nI (lp_x g) / 3 * 3 = nI (lp_x g % 3) := pk_rem (d := 3) (by have : lp_x g < 2 ^ 8 := Nat.mod_lt _ (by decide); omega) (by decide) (by decide)
  have e2 := lp_1sh (lp_x g % 3) (Nat.mod_lt _ (by decide))
  rw [e0, e, e2]
  exact hp
theorem lp_aw {post : Int32 → Prop} (g : Int32) (hp : post (nI (lp_a g))) : wpL_addrOf post () g := by
  unfold wpL_addrOf
  refine lp_sw g ?_
  have h := lp_s124 g
  rw [show (9 : Int32) - nI (lp_s g) = nI (9 - lp_s g) from pk_sub (a := 9) (by omega)]
  refine ⟨nI_ne0 (by omega) (by omega), ?_⟩
  have e0 : ((g.toUInt32 >>> ((16 : Int32).toUInt32 &&& Int32.toUInt32 31)).toInt32) &&& 1023 = nI (lp_y g) := pk_and _ 10 (by decide)
  have e : nI (lp_y g) - nI (lp_y g) / nI (9 - lp_s g) * nI (9 - lp_s g) = nI (lp_y g % (9 - lp_s g)) := pk_rem (by have : lp_y g < 2 ^ 10 := Nat.mod_lt _ (by decide); omega) (by omega) (by omega)
  rw [e0, e]
  exact hp
theorem lp_msk {s : Nat} (h : s = 1 ∨ s = 2 ∨ s = 4) : ((1 : Int64) <<< ((8 * nI s).toInt64 &&& 63)) - 1 = lN (2 ^ (8 * s) - 1) := by
  rcases h with rfl | rfl | rfl <;> decide +kernel
theorem lp_mw {post : Int64 → Prop} (g : Int32) (hp : post (lN (2 ^ (8 * lp_s g) - 1))) : wpL_maskOf post () g := by
  unfold wpL_maskOf
  refine lp_sw g ?_
  rw [lp_msk (lp_s124 g)]
  exact hp
theorem lp_ww {post : Int64 → Prop} {f : Nat → Nat} (hf : ∀ i, f i < 256) (g d : Int32) (hp : post (lq_L (lq_wr f (lp_s g) (lp_a g) d))) : wpL_write post () (lq_L f) g d := by
  have h := lp_s124 g
  unfold wpL_write
  refine lp_aw g (nm_r (pk_mul 8 (lp_a g)) (lp_mw g (lp_mw g ?_)))
  rw [lq_L_wr f hf d (by omega) (lp_as g) (by omega)]
  exact hp
theorem lq_vw8 (f : Nat → Nat) : ∀ n, lq_vw 8 f n = lq_vs f n
  | 0 => rfl
  | n + 1 => by
    show lq_vw 8 f n + _ = lq_vs f n + _
    rw [lq_vw8 f n]
theorem lp_rw {post : Int64 → Prop} {f : Nat → Nat} (hf : ∀ i, f i < 256) (g : Int32) (hp : post (lN (lq_vs (fun i => f (lp_a g + i)) (lp_s g)))) : wpL_read post () (lq_L f) g := by
  have h := lp_s124 g
  unfold wpL_read
  refine lp_aw g (lp_mw g ?_)
  rw [show (8 : Int32) * nI (lp_a g) = nI (8 * lp_a g) from pk_mul 8 _, lq_L_rd f hf (by omega) (lp_as g) (by omega), lq_vw8]
  exact hp
def lp_hi (ids : Nat → Nat) : Int64 := lq_I (fun i => ids (4 + i))
theorem lp_id {post : Int32 → Prop} {ids : Nat → Nat} (h : ∀ i, ids i < 65536) {j : Nat} (hj : j < 8) (hp : post (nI (ids j))) : wpL_idAt post () (lq_I ids) (lp_hi ids) (nI j) := by
  unfold wpL_idAt
  refine pk_le 4 j (fun z => ?_) (fun z => ?_)
  · have e := lq_I_at (fun i => ids (4 + i)) (fun i => h (4 + i)) (i := j - 4) (by omega)
    rw [show (16 : Int32) * (nI j - 4) = nI (16 * (j - 4)) by
      rw [show nI j - 4 = nI (j - 4) from pk_sub (b := 4) z]
      exact pk_mul 16 _]
    unfold lp_hi
    rw [e, show 4 + (j - 4) = j by omega]
    exact hp
  · rw [show (16 : Int32) * nI j = nI (16 * j) from pk_mul 16 j, lq_I_at ids h z]
    exact hp
end
section
/-! the law's check behind each step -/
abbrev lp_J : Type := Int64 → Int64 → Int64 → Int64 → Int64 → Int32 → Int32 → Int32 → Int32 → Int32 → Int32 → Int32 → Int32 → (Nat → Int32) → (Nat → Int32) → (Nat → Int32) → (Nat → Int32) → (Nat → Int32) → (Nat → Int64) → (Nat → Int32) → (Nat → Int32) → (Nat → Int64) → (Nat → Int32) → (Nat → Int32) → Prop
def lp_LI (L : Nat) (xs : Nat → Int32) (w b c q : Nat) (k p s r kn ad : Nat → Nat) (A : Nat → Int32) (V : Nat → Int64) (D : Nat → Int32) (bs ba : Nat → Nat) (BV : Nat → Int64) (BD : Nat → Int32) (ce ids bid : Nat → Nat) : Prop :=
  lq_XI w b 8 c q k p s r kn ad A V D bs ba BV BD ce ∧ w ≤ 8 ∧ b ≤ 4 ∧ (∀ i, ids i < 65536) ∧ (∀ i, bid i < 65536) ∧ (∀ i, q ≤ i → bid i = 0) ∧
  (∀ i, i < c → k i = lp_k (lp_g L xs (ids i)) ∧ s i = lp_s (lp_g L xs (ids i)) ∧ (kn i = 1 → ad i = lp_a (lp_g L xs (ids i))) ∧ (k i = 1 → r i = 1 → D i = lp_d L xs (ids i))) ∧
  (∀ i, i < q → bs i = lp_s (lp_g L xs (bid i)) ∧ ba i = lp_a (lp_g L xs (bid i)) ∧ BD i = lp_d L xs (bid i))
section
variable {L : Nat} {xs : Nat → Int32} {w b c q n kk kc ks : Nat} {k p s r kn ad : Nat → Nat} {A : Nat → Int32} {V : Nat → Int64} {D : Nat → Int32} {bs ba : Nat → Nat} {BV : Nat → Int64} {BD : Nat → Int32} {ce : Nat → Nat} {st : Nat → Int32} {ids bid : Nat → Nat} {post : Int32 → Prop} {J : lp_J}
theorem lp_810 (hL : L ≤ 260) (h : lp_LI L xs w b c q k p s r kn ad A V D bs ba BV BD ce ids bid) {j : Nat} (hj : j ≤ q) {J8 : Int64 → Int32 → Prop} (h1 : j = q → J8 (lq_L (fun az => lq_mb bs ba BD ce az j)) (nI (j + 1))) (h2 : j < q → J8 (lq_L (fun az => lq_mb bs ba BD ce az (j + 1))) (nI (j + 1))) : ∀ d a f, a + d = 8 → d < f → wL_law_810 post L xs J J8 (nI w) (nI b) (lq_I ids) (lp_hi ids) (lq_I bid) (lq_L ce) (lq_L (fun az => lq_mb bs ba BD ce az q)) (nI c) (nI q) (nI n) (nI kk) (lq_L (fun az => lq_mb bs ba BD ce az j)) (nI j) kc ks (nI w) (nI b) (nI 8) (nI c) (nI q) (fun i => nI (k i)) (fun i => nI (p i)) (fun i => nI (s i)) A (fun i => nI (r i)) V (fun i => nI (bs i)) (fun i => nI (ba i)) BV (fun i => nI (ce i)) st f (nI a) := by
  obtain ⟨hX, hw, hb, hi, hbi, hb0, hc, hq⟩ := h
  have e0 := hX.1
  have lt : ∀ i, (fun az => lq_mb bs ba BD ce az j) i < 256 := fun i => lq_mb_lt bs ba BD ce i (hX.2.2.2.2 i) j
  intro d
  induction d with
  | zero =>
    intro a f ha hd
    obtain ⟨f, rfl⟩ : ∃ t, f = t + 1 := ⟨f - 1, by omega⟩
    refine br_t (by rw [show a = 8 by omega]; decide) (pk_le q j (fun z => nm_r (nI_1 j) (h1 (by omega))) (fun z => ?_))
    rw [show (16 : Int32) * nI j = nI (16 * j) from pk_mul 16 j, lq_I_at bid hbi (show j < 4 by omega)]
    refine nm_e (lp_gw hL (hbi j) (lp_dw hL (hbi j) (lp_ww lt _ _ (nm_r (nI_1 j) ?_))))
    obtain ⟨q1, q2, q3⟩ := hq j z
    have e : lq_wr (fun az => lq_mb bs ba BD ce az j) (lp_s (lp_g L xs (bid j))) (lp_a (lp_g L xs (bid j))) (lp_d L xs (bid j)) = fun az => lq_mb bs ba BD ce az (j + 1) := by
      funext az
      show _ = if ba j ≤ az ∧ az < ba j + bs j then lq_by (BD j) (az - ba j) else lq_mb bs ba BD ce az j
      rw [q1, q2, q3]
      rfl
    rw [e]
    exact h2 z
  | succ d ih =>
    intro a f ha hd
    obtain ⟨f, rfl⟩ : ∃ t, f = t + 1 := ⟨f - 1, by omega⟩
    refine br_f (nI_ge (b := 8) (by omega) (by decide)) (lx_mem hX (by omega) hj ?_)
    rw [show (8 : Int32) * nI a = nI (8 * a) from pk_mul 8 a, lq_L_at _ lt (by omega)]
    exact br_t rfl (nm_r (nI_1 a) (ih (a + 1) f (by omega) (by omega)))
theorem lp_chk (hL : L ≤ 260) (h : lp_LI L xs w b c q k p s r kn ad A V D bs ba BV BD ce ids bid) (hJ : J (lq_I ids) (lp_hi ids) (lq_I bid) (lq_L ce) (lq_L (fun az => lq_mb bs ba BD ce az q)) (nI c) (nI q) (nI (kk + 1)) (nI w) (nI b) (nI 8) (nI c) (nI q) (fun iz => nI (k iz)) (fun iz => nI (p iz)) (fun iz => nI (s iz)) A (fun iz => nI (r iz)) V (fun iz => nI (bs iz)) (fun iz => nI (ba iz)) BV (fun iz => nI (ce iz)) st) : wL_law_771 post L xs J (nI w) (nI b) (lq_I ids) (lp_hi ids) (lq_I bid) (lq_L ce) (lq_L (fun az => lq_mb bs ba BD ce az q)) (nI c) (nI q) (nI n) (nI kk) kc ks (nI w) (nI b) (nI 8) (nI c) (nI q) (fun i => nI (k i)) (fun i => nI (p i)) (fun i => nI (s i)) A (fun i => nI (r i)) V (fun i => nI (bs i)) (fun i => nI (ba i)) BV (fun i => nI (ce i)) st := by
  have h' := h
  obtain ⟨hX, hw, hb, hi, hbi, hb0, hc, hq⟩ := h
  have e0 := hX.1
  have main : ∀ d j f, j + d = q + 1 → d < f → wL_law_800 post L xs J (nI w) (nI b) (lq_I ids) (lp_hi ids) (lq_I bid) (lq_L ce) (lq_L (fun az => lq_mb bs ba BD ce az q)) (nI c) (nI q) (nI n) (nI kk) kc ks (nI w) (nI b) (nI 8) (nI c) (nI q) (fun i => nI (k i)) (fun i => nI (p i)) (fun i => nI (s i)) A (fun i => nI (r i)) V (fun i => nI (bs i)) (fun i => nI (ba i)) BV (fun i => nI (ce i)) st f (lq_L (fun az => lq_mb bs ba BD ce az (if j ≤ q then j else q))) (nI j) := by
    intro d
    induction d with
    | zero =>
      intro j f hj hd
      obtain ⟨f, rfl⟩ : ∃ t, f = t + 1 := ⟨f - 1, by omega⟩
      rw [if_neg (show ¬ j ≤ q by omega)]
      exact br_t (nI_lt (by omega) (by omega)) (br_t rfl (nm_r (nI_1 kk) hJ))
    | succ d ih =>
      intro j f hj hd
      obtain ⟨f, rfl⟩ : ∃ t, f = t + 1 := ⟨f - 1, by omega⟩
      have ih' := ih (j + 1) f (by omega) (by omega)
      rw [if_pos (show j ≤ q by omega)]
      refine br_f (nI_nlt (by omega) (by omega)) ⟨9, lp_810 hL h' (by omega) (fun z => ?_) (fun z => ?_) 8 0 9 (by omega) (by omega)⟩
      · rw [if_neg (show ¬ j + 1 ≤ q by omega), ← z] at ih'
        rw [← z]
        exact ih'
      · rw [if_pos (show j + 1 ≤ q by omega)] at ih'
        exact ih'
  have l := main (q + 1) 0 (q + 2) (by omega) (by omega)
  rw [if_pos (show 0 ≤ q by omega)] at l
  unfold wL_law_771
  refine br_t rfl (br_t rfl ⟨q + 2, ?_⟩)
  exact l
end
end
section
/-! the law's actions -/
section
variable {L : Nat} {xs : Nat → Int32} {w b c q n kk kc ks : Nat} {k p s r kn ad : Nat → Nat} {A : Nat → Int32} {V : Nat → Int64} {D : Nat → Int32} {bs ba : Nat → Nat} {BV : Nat → Int64} {BD : Nat → Int32} {ce : Nat → Nat} {st : Nat → Int32} {ids bid : Nat → Nat} {post : Int32 → Prop} {J : lp_J}
theorem lp_I_cong {f g : Nat → Nat} (h : ∀ i, i < 4 → f i = g i) : lq_I f = lq_I g := by
  have e : ∀ n, n ≤ 4 → lq_vw 16 f n = lq_vw 16 g n := by
    intro n
    induction n with
    | zero => intro _; rfl
    | succ n ih =>
      intro hn
      show lq_vw 16 f n + f n * _ = lq_vw 16 g n + g n * _
      rw [ih (by omega), h n (by omega)]
  unfold lq_I
  rw [e 4 (by omega)]
theorem lp_enter (hL : L ≤ 260) (hk : kk < 65536) (h : lp_LI L xs w b c q k p s r kn ad A V D bs ba BV BD ce ids bid) (h0 : J (lq_I ids) (lp_hi ids) (lq_I bid) (lq_L ce) (lq_L (fun az => lq_mb bs ba BD ce az q)) (nI c) (nI q) (nI (kk + 1)) (nI w) (nI b) (nI 8) (nI c) (nI q) (fun iz => nI (k iz)) (fun iz => nI (p iz)) (fun iz => nI (s iz)) A (fun iz => nI (r iz)) V (fun iz => nI (bs iz)) (fun iz => nI (ba iz)) BV (fun iz => nI (ce iz)) st) (h1 : c < w → lp_LI L xs w b (c + 1) q (lq_un k c (lp_k (lp_g L xs kk))) (lq_un p c (lp_p (lp_g L xs kk))) (lq_un s c (lp_s (lp_g L xs kk))) (lq_un r c 0) (lq_un kn c 0) (lq_un ad c 0) (upd A c (-1)) V (upd D c 0) bs ba BV BD ce (lq_un ids c kk) bid → J (lq_I (lq_un ids c kk)) (lp_hi (lq_un ids c kk)) (lq_I bid) (lq_L ce) (lq_L (fun az => lq_mb bs ba BD ce az q)) (nI (c + 1)) (nI q) (nI (kk + 1)) (nI w) (nI b) (nI 8) (nI (c + 1)) (nI q) (fun iz => nI ((lq_un k c (lp_k (lp_g L xs kk))) iz)) (fun iz => nI ((lq_un p c (lp_p (lp_g L xs kk))) iz)) (fun iz => nI ((lq_un s c (lp_s (lp_g L xs kk))) iz)) (upd A c (-1)) (fun iz => nI ((lq_un r c 0) iz)) V (fun iz => nI (bs iz)) (fun iz => nI (ba iz)) BV (fun iz => nI (ce iz)) st) {x22 : Int32} : wL_law_282 post L xs J (nI w) (nI b) (lq_I ids) (lp_hi ids) (lq_I bid) (lq_L ce) (lq_L (fun az => lq_mb bs ba BD ce az q)) (nI c) (nI q) (nI n) (nI kk) 0 x22 kc ks (nI w) (nI b) (nI 8) (nI c) (nI q) (fun i => nI (k i)) (fun i => nI (p i)) (fun i => nI (s i)) A (fun i => nI (r i)) V (fun i => nI (bs i)) (fun i => nI (ba i)) BV (fun i => nI (ce i)) st := by
  have h' := h
  obtain ⟨hX, hw, hb, hi, hbi, hb0, hc, hq⟩ := h
  have e0 := hX.1
  unfold wL_law_282
  refine br_t rfl ?_
  rw [show nI kk &&& 65535 = nI kk by
    rw [pk_andN (show kk < 2 ^ 32 by omega) 16 (by decide), Nat.mod_eq_of_lt (by omega)]]
  refine nm_e (lp_gw hL hk (lp_kw _ (lp_pw _ (lp_sw _ (lx_enter (by omega) (lp_k1 _) (lp_p16 _) (lp_s124 _) (by omega) (fun f => br_t (by decide) ?_) (fun l => br_f (nI_pos (by omega)) (br_t rfl (br_t (nI_lt l (by omega)) ?_))))))))
  · exact lp_chk hL h' h0
  · have LI' : lp_LI L xs w b (c + 1) q (lq_un k c (lp_k (lp_g L xs kk))) (lq_un p c (lp_p (lp_g L xs kk))) (lq_un s c (lp_s (lp_g L xs kk))) (lq_un r c 0) (lq_un kn c 0) (lq_un ad c 0) (upd A c (-1)) V (upd D c 0) bs ba BV BD ce (lq_un ids c kk) bid := by
      refine ⟨lq_XIenter hX l (lp_k1 _) (lp_p16 _) (lp_s124 _), hw, hb, lq_unp (P := fun y => y < 65536) hi hk, hbi, hb0, fun i hi' => ?_, hq⟩
      by_cases e : i = c
      · subst e
        rw [lq_us, lq_us, lq_us, lq_us, lq_us]
        exact ⟨rfl, rfl, fun z => (by cases z), fun _ z => absurd ((lq_us (f := r) (k := i) (x := 0)).symm.trans z) (by decide)⟩
      · rw [lq_ui e, lq_ui e, lq_ui e, lq_ui e, lq_ui e, lq_ui e, pk_un e]
        exact hc i (by omega)
    have e3 : nI c &&& 3 = nI (c % 4) := pk_andN (by omega) 2 (by decide)
    rw [e3, show (16 : Int32) * nI (c % 4) = nI (16 * (c % 4)) from pk_mul 16 _]
    refine nm_e (pk_le 4 c (fun z => nm_r (e' := lp_hi (lq_un ids c kk)) ?_ ?_) (fun z => nm_r (e' := lq_I (lq_un ids c kk)) ?_ ?_))
    · have e := lq_I_set (fun i => ids (4 + i)) (fun i => hi (4 + i)) (i := c % 4) (x := kk) (by omega) hk
      refine Eq.trans e ?_
      refine congrArg lq_I ?_
      funext i
      unfold lq_un
      by_cases y : i = c % 4
      · rw [if_pos y, if_pos (by omega)]
      · rw [if_neg y, if_neg (by omega)]
    · have e : lq_I ids = lq_I (lq_un ids c kk) := lp_I_cong (fun i hi => (lq_ui (by omega)).symm)
      rw [e]
      exact nm_r (nI_1 c) (lp_chk hL LI' (h1 l LI'))
    · have e := lq_I_set ids hi (i := c % 4) (x := kk) (by omega) hk
      rw [show c % 4 = c by omega] at e ⊢
      exact e
    · have e : lp_hi ids = lp_hi (lq_un ids c kk) := lp_I_cong (fun i hi => (lq_ui (by omega)).symm)
      rw [e]
      exact nm_r (nI_1 c) (lp_chk hL LI' (h1 l LI'))
theorem lp_setA (hL : L ≤ 260) (h : lp_LI L xs w b c q k p s r kn ad A V D bs ba BV BD ce ids bid) {j : Nat} (hj : j < 8) (hJ : ∀ r' kn' ad' A' st', lp_LI L xs w b c q k p s r' kn' ad' A' V D bs ba BV BD ce ids bid → (∀ i, kn i = 1 → kn' i = 1) → (∀ i, k i = 1 → r i = 1 → r' i = 1) → (j < c → kn' j = 1) → J (lq_I ids) (lp_hi ids) (lq_I bid) (lq_L ce) (lq_L (fun az => lq_mb bs ba BD ce az q)) (nI c) (nI q) (nI (kk + 1)) (nI w) (nI b) (nI 8) (nI c) (nI q) (fun iz => nI (k iz)) (fun iz => nI (p iz)) (fun iz => nI (s iz)) A' (fun iz => nI (r' iz)) V (fun iz => nI (bs iz)) (fun iz => nI (ba iz)) BV (fun iz => nI (ce iz)) st') : wL_law_282 post L xs J (nI w) (nI b) (lq_I ids) (lp_hi ids) (lq_I bid) (lq_L ce) (lq_L (fun az => lq_mb bs ba BD ce az q)) (nI c) (nI q) (nI n) (nI kk) 1 (nI j) kc ks (nI w) (nI b) (nI 8) (nI c) (nI q) (fun i => nI (k i)) (fun i => nI (p i)) (fun i => nI (s i)) A (fun i => nI (r i)) V (fun i => nI (bs i)) (fun i => nI (ba i)) BV (fun i => nI (ce i)) st := by
  have h' := h
  obtain ⟨hX, hw, hb, hi, hbi, hb0, hc, hq⟩ := h
  have e0 := hX.1
  unfold wL_law_282
  refine br_f (by decide) (br_t rfl (lp_id hi hj (lp_gw hL (hi j) (lp_aw _ ?_))))
  by_cases z : j < c
  · obtain ⟨c1, c2, c3, c4⟩ := hc j z
    have as := lp_as (lp_g L xs (ids j))
    have w1 := (hX.2.2.1 j z).1
    refine lx_addr hX z (fun zn => lp_chk hL h' (hJ r kn ad A st h' (fun _ y => y) (fun _ _ y => y) (fun _ => zn))) (fun zn hv => ?_) (fun a zn ea ha zk => ?_) (fun a zn ea ha zk => ?_)
    · exfalso
      rcases hv with hv | hv
      · exact nI_pos (by omega) hv
      · rw [nI_leI (by omega) (by omega)] at hv
        omega
    all_goals
      have ea' : lp_a (lp_g L xs (ids j)) = a := by
        rw [nI_eq (by omega) (by omega)] at ea
        exact ea
      have kn1 : ∀ i, kn i = 1 → lq_un kn j 1 i = 1 := fun i y => by
        unfold lq_un
        split
        · rfl
        · exact y
      have knj : j < c → lq_un kn j 1 j = 1 := fun _ => lq_us
    · have X' := lq_XIaddrL hX z zk zn ha
      have LI' : lp_LI L xs w b c q k p s r (lq_un kn j 1) (lq_un ad j a) (upd A j (nI a)) V D bs ba BV BD ce ids bid := by
        refine ⟨X', hw, hb, hi, hbi, hb0, fun i hi' => ?_, hq⟩
        obtain ⟨d1, d2, d3, d4⟩ := hc i hi'
        refine ⟨d1, d2, fun y => ?_, d4⟩
        by_cases e : i = j
        · rw [e, lq_us]
          exact ea'.symm
        · rw [lq_ui e] at y ⊢
          exact d3 y
      exact lp_chk hL LI' (hJ _ _ _ _ _ LI' kn1 (fun _ _ y => y) knj)
    · have X' := lq_XIsend hX zk zn ha
      have LI' : lp_LI L xs w b c q k p s (lq_rb (lq_M k s r (lq_un kn j 1) (lq_un ad j a) j) r c) (lq_un kn j 1) (lq_un ad j a) (upd A j (nI a)) V D bs ba BV BD ce ids bid := by
        refine ⟨X', hw, hb, hi, hbi, hb0, fun i hi' => ?_, hq⟩
        obtain ⟨d1, d2, d3, d4⟩ := hc i hi'
        refine ⟨d1, d2, fun y => ?_, fun y1 y2 => d4 y1 ?_⟩
        · by_cases e : i = j
          · rw [e, lq_us]
            exact ea'.symm
          · rw [lq_ui e] at y ⊢
            exact d3 y
        · have a1 := lq_rb_le (lq_M k s r (lq_un kn j 1) (lq_un ad j a) j) r c i
          have a2 := (hX.2.1 i).2.2.1
          omega
      refine lp_chk hL LI' (hJ _ _ _ _ _ LI' kn1 (fun i y1 y2 => ?_) knj)
      unfold lq_rb
      rw [if_neg]
      · exact y2
      · intro ⟨_, _, x, _⟩
        omega
  · unfold wpX_setAddress
    exact lx_npos (Or.inr (nI_le (by omega) (by omega))) (br_t rfl (lp_chk hL h' (hJ r kn ad A st h' (fun _ y => y) (fun _ _ y => y) (fun y => absurd y z))))
theorem lp_setD (hL : L ≤ 260) (h : lp_LI L xs w b c q k p s r kn ad A V D bs ba BV BD ce ids bid) {j : Nat} (hj : j < 8) (hJ : ∀ r' V' D', lp_LI L xs w b c q k p s r' kn ad A V' D' bs ba BV BD ce ids bid → (∀ i, r i = 1 → r' i = 1) → (j < c → k j = 1 → r' j = 1) → J (lq_I ids) (lp_hi ids) (lq_I bid) (lq_L ce) (lq_L (fun az => lq_mb bs ba BD ce az q)) (nI c) (nI q) (nI (kk + 1)) (nI w) (nI b) (nI 8) (nI c) (nI q) (fun iz => nI (k iz)) (fun iz => nI (p iz)) (fun iz => nI (s iz)) A (fun iz => nI (r' iz)) V' (fun iz => nI (bs iz)) (fun iz => nI (ba iz)) BV (fun iz => nI (ce iz)) st) : wL_law_282 post L xs J (nI w) (nI b) (lq_I ids) (lp_hi ids) (lq_I bid) (lq_L ce) (lq_L (fun az => lq_mb bs ba BD ce az q)) (nI c) (nI q) (nI n) (nI kk) 2 (nI j) kc ks (nI w) (nI b) (nI 8) (nI c) (nI q) (fun i => nI (k i)) (fun i => nI (p i)) (fun i => nI (s i)) A (fun i => nI (r i)) V (fun i => nI (bs i)) (fun i => nI (ba i)) BV (fun i => nI (ce i)) st := by
  have h' := h
  obtain ⟨hX, hw, hb, hi, hbi, hb0, hc, hq⟩ := h
  have e0 := hX.1
  unfold wL_law_282
  refine br_f (by decide) (br_f (by decide) (br_t rfl (lp_id hi hj (lp_dw hL (hi j) ?_))))
  by_cases z : j < c
  · refine lx_data hX z (fun zk => lp_chk hL h' (hJ r V D h' (fun _ y => y) (fun _ y => absurd y zk))) (fun zk zr => lp_chk hL h' (hJ r V D h' (fun _ y => y) (fun _ _ => zr))) (fun zk zr => ?_)
    have X' := lq_XIdata hX (lp_d L xs (ids j)) zk zr
    have LI' : lp_LI L xs w b c q k p s (lq_un r j 1) kn ad A (vp_updL V j (lN (lq_lo (lp_d L xs (ids j)) (s j)))) (upd D j (lp_d L xs (ids j))) bs ba BV BD ce ids bid := by
      refine ⟨X', hw, hb, hi, hbi, hb0, fun i hi' => ?_, hq⟩
      obtain ⟨d1, d2, d3, d4⟩ := hc i hi'
      refine ⟨d1, d2, d3, fun y1 y2 => ?_⟩
      by_cases e : i = j
      · rw [e, pk_us]
      · rw [pk_un e]
        rw [lq_ui e] at y2
        exact d4 y1 y2
    refine lp_chk hL LI' (hJ _ _ _ LI' (fun i y => ?_) (fun _ _ => lq_us))
    unfold lq_un
    split
    · rfl
    · exact y
  · unfold wpX_setData
    exact lx_npos (Or.inr (nI_le (by omega) (by omega))) (br_t rfl (lp_chk hL h' (hJ r V D h' (fun _ y => y) (fun y => absurd y z))))
theorem lq_EXf {base : Nat → Nat} {j : Nat} {ans : Int32} {r' : Nat → Nat} {V' : Nat → Int64} (e : lq_EX k p s r kn ad V D base st j ans r' V') : (∀ x, r x = 1 → r' x = 1) ∧ (∀ x, k x = 1 → r' x = r x) ∧ ((∀ x, x ≤ j → kn x = 1 ∧ (k x = 1 → r x = 1)) → r' j = 1) := by
  rcases e with ⟨e1, ea, er, eV⟩ | ⟨e1, e2, ea, er, eV⟩ | ⟨e1, e2, e3, ea, er, eV⟩ | ⟨e1, e2, e3, e4, ea, er, eV⟩ | ⟨e1, e2, e3, e4, e5, ea, er, eV⟩ | ⟨e1, e2, e3, e4, e5, ea, er, eV⟩
  all_goals rw [er]
  · exact ⟨fun _ y => y, fun _ _ => rfl, fun H => (H j (Nat.le_refl _)).2 e1⟩
  · exact ⟨fun _ y => y, fun _ _ => rfl, fun H => e2⟩
  · exact ⟨fun _ y => y, fun _ _ => rfl, fun H => absurd (H j (Nat.le_refl _)).1 e3⟩
  · refine ⟨fun _ y => y, fun _ _ => rfl, fun H => ?_⟩
    obtain ⟨i, i1, i2, i3, _⟩ := e4
    exact absurd (H i (by omega)).1 i3
  · refine ⟨fun _ y => y, fun _ _ => rfl, fun H => ?_⟩
    obtain ⟨x, x1, x2⟩ := e5
    refine absurd ((lq_ar_src j).mpr (fun i hi => ?_)) x2
    obtain ⟨i1, i2⟩ := lq_src_lt j hi
    exact (H i (by omega)).2 i2.1
  · refine ⟨fun x y => ?_, fun x y => lq_ui (fun ex => e1 (by rw [← ex]; exact y)), fun _ => lq_us⟩
    unfold lq_un
    split
    · rfl
    · exact y
theorem lq_ERf {base : Nat → Nat} : ∀ d i {r : Nat → Nat} {V : Nat → Int64} {n : Nat} {r' : Nat → Nat} {V' : Nat → Int64}, lq_ER k p s kn ad D base st d i r V n r' V' → (∀ x, r x = 1 → r' x = 1) ∧ (∀ x, k x = 1 → r' x = r x) ∧ ((∀ x, x < i + d → kn x = 1 ∧ (k x = 1 → r x = 1)) → ∀ x, i ≤ x → x < i + d → r' x = 1) := by
  intro d
  induction d with
  | zero =>
    intro i r V n r' V' ⟨_, e1, _⟩
    rw [e1]
    exact ⟨fun _ y => y, fun _ _ => rfl, fun _ x h1 h2 => absurd h1 (by omega)⟩
  | succ d ih =>
    intro i r V n r' V' ⟨ans, r1, V1, n1, e1, e2, _⟩
    obtain ⟨f1, f2, f3⟩ := lq_EXf e1
    obtain ⟨g1, g2, g3⟩ := ih (i + 1) e2
    refine ⟨fun x y => g1 x (f1 x y), fun x y => (g2 x y).trans (f2 x y), fun H x h1 h2 => ?_⟩
    by_cases e : x = i
    · rw [e]
      exact g1 i (f3 (fun y hy => H y (by omega)))
    · refine g3 (fun y hy => ⟨(H y (by omega)).1, fun yk => ?_⟩) x (by omega) (by omega)
      rw [f2 y yk]
      exact (H y (by omega)).2 yk
theorem lp_LIr {r' : Nat → Nat} {V' : Nat → Int64} (h : lp_LI L xs w b c q k p s r kn ad A V D bs ba BV BD ce ids bid) (X' : lq_XI w b 8 c q k p s r' kn ad A V' D bs ba BV BD ce) (hr : ∀ x, k x = 1 → r' x = r x) : lp_LI L xs w b c q k p s r' kn ad A V' D bs ba BV BD ce ids bid := by
  obtain ⟨hX, hw, hb, hi, hbi, hb0, hc, hq⟩ := h
  refine ⟨X', hw, hb, hi, hbi, hb0, fun i hi' => ?_, hq⟩
  obtain ⟨d1, d2, d3, d4⟩ := hc i hi'
  refine ⟨d1, d2, d3, fun y1 y2 => d4 y1 ?_⟩
  rw [← hr i y1]
  exact y2
theorem lp_exe (hL : L ≤ 260) (h : lp_LI L xs w b c q k p s r kn ad A V D bs ba BV BD ce ids bid) {j : Nat} (hj : j < 8) (hJ : ∀ r' V', lp_LI L xs w b c q k p s r' kn ad A V' D bs ba BV BD ce ids bid → J (lq_I ids) (lp_hi ids) (lq_I bid) (lq_L ce) (lq_L (fun az => lq_mb bs ba BD ce az q)) (nI c) (nI q) (nI (kk + 1)) (nI w) (nI b) (nI 8) (nI c) (nI q) (fun iz => nI (k iz)) (fun iz => nI (p iz)) (fun iz => nI (s iz)) A (fun iz => nI (r' iz)) V' (fun iz => nI (bs iz)) (fun iz => nI (ba iz)) BV (fun iz => nI (ce iz)) st) : wL_law_282 post L xs J (nI w) (nI b) (lq_I ids) (lp_hi ids) (lq_I bid) (lq_L ce) (lq_L (fun az => lq_mb bs ba BD ce az q)) (nI c) (nI q) (nI n) (nI kk) 3 (nI j) kc ks (nI w) (nI b) (nI 8) (nI c) (nI q) (fun i => nI (k i)) (fun i => nI (p i)) (fun i => nI (s i)) A (fun i => nI (r i)) V (fun i => nI (bs i)) (fun i => nI (ba i)) BV (fun i => nI (ce i)) st := by
  have h' := h
  obtain ⟨hX, hw, hb, hi, hbi, hb0, hc, hq⟩ := h
  have e0 := hX.1
  unfold wL_law_282
  refine br_f (by decide) (br_f (by decide) (br_f (by decide) (br_t rfl ?_)))
  by_cases z : j < c
  · obtain ⟨ans, r', V', ex⟩ := lq_EXex k p s r kn ad V D (fun a => lq_mb bs ba BD ce a q) st j
    have LI' := lp_LIr h' (lq_XIex hX ex) (lq_EXf ex).2.1
    exact lx_exec hX z ex (lp_chk hL LI' (hJ r' V' LI'))
  · unfold wpX_execute
    exact lx_npos (Or.inr (nI_le (by omega) (by omega))) (br_t rfl (lp_chk hL h' (hJ r V h')))
theorem lp_exr (hL : L ≤ 260) (h : lp_LI L xs w b c q k p s r kn ad A V D bs ba BV BD ce ids bid) (hJ : ∀ r' V', lp_LI L xs w b c q k p s r' kn ad A V' D bs ba BV BD ce ids bid → (∀ x, r x = 1 → r' x = 1) → ((∀ x, x < c → kn x = 1 ∧ (k x = 1 → r x = 1)) → ∀ x, x < c → r' x = 1) → J (lq_I ids) (lp_hi ids) (lq_I bid) (lq_L ce) (lq_L (fun az => lq_mb bs ba BD ce az q)) (nI c) (nI q) (nI (kk + 1)) (nI w) (nI b) (nI 8) (nI c) (nI q) (fun iz => nI (k iz)) (fun iz => nI (p iz)) (fun iz => nI (s iz)) A (fun iz => nI (r' iz)) V' (fun iz => nI (bs iz)) (fun iz => nI (ba iz)) BV (fun iz => nI (ce iz)) st) {x22 : Int32} : wL_law_282 post L xs J (nI w) (nI b) (lq_I ids) (lp_hi ids) (lq_I bid) (lq_L ce) (lq_L (fun az => lq_mb bs ba BD ce az q)) (nI c) (nI q) (nI n) (nI kk) 4 x22 kc ks (nI w) (nI b) (nI 8) (nI c) (nI q) (fun i => nI (k i)) (fun i => nI (p i)) (fun i => nI (s i)) A (fun i => nI (r i)) V (fun i => nI (bs i)) (fun i => nI (ba i)) BV (fun i => nI (ce i)) st := by
  have h' := h
  obtain ⟨hX, hw, hb, hi, hbi, hb0, hc, hq⟩ := h
  unfold wL_law_282
  refine br_f (by decide) (br_f (by decide) (br_f (by decide) (br_f (by decide) (br_t rfl ?_))))
  obtain ⟨n0, r', V', _, ex⟩ := lq_ERex k p s kn ad D (fun a => lq_mb bs ba BD ce a q) st c 0 r V
  obtain ⟨f1, f2, f3⟩ := lq_ERf c 0 ex
  have LI' := lp_LIr h' (lq_XIer hX ex) f2
  refine lx_er hX ex (lp_chk hL LI' (hJ r' V' LI' f1 (fun H x hx => f3 (fun y hy => H y (by omega)) x (by omega) (by omega))))
theorem lp_dis (hL : L ≤ 260) (h : lp_LI L xs w b c q k p s r kn ad A V D bs ba BV BD ce ids bid) (hJ : ∀ c', c' ≤ c → lp_LI L xs w b c' q k p s r kn ad A V D bs ba BV BD ce ids bid → J (lq_I ids) (lp_hi ids) (lq_I bid) (lq_L ce) (lq_L (fun az => lq_mb bs ba BD ce az q)) (nI c') (nI q) (nI (kk + 1)) (nI w) (nI b) (nI 8) (nI c') (nI q) (fun iz => nI (k iz)) (fun iz => nI (p iz)) (fun iz => nI (s iz)) A (fun iz => nI (r iz)) V (fun iz => nI (bs iz)) (fun iz => nI (ba iz)) BV (fun iz => nI (ce iz)) st) {x22 : Int32} : wL_law_282 post L xs J (nI w) (nI b) (lq_I ids) (lp_hi ids) (lq_I bid) (lq_L ce) (lq_L (fun az => lq_mb bs ba BD ce az q)) (nI c) (nI q) (nI n) (nI kk) 7 x22 kc ks (nI w) (nI b) (nI 8) (nI c) (nI q) (fun i => nI (k i)) (fun i => nI (p i)) (fun i => nI (s i)) A (fun i => nI (r i)) V (fun i => nI (bs i)) (fun i => nI (ba i)) BV (fun i => nI (ce i)) st := by
  have h' := h
  obtain ⟨hX, hw, hb, hi, hbi, hb0, hc, hq⟩ := h
  have e0 := hX.1
  unfold wL_law_282
  refine br_f (by decide) (br_f (by decide) (br_f (by decide) (br_f (by decide) (br_f (by decide) (br_f (by decide) (br_f (by decide) (br_t rfl ?_)))))))
  rcases pk_ix x22 (n := c) (by omega) with hv | hv | ⟨j, hj, rfl⟩
  · unfold wpX_discard
    exact lx_npos (Or.inl hv) (br_t rfl (br_t (by decide) (lp_chk hL h' (hJ c (Nat.le_refl _) h'))))
  · unfold wpX_discard
    exact lx_npos (Or.inr hv) (br_t rfl (br_t (by decide) (lp_chk hL h' (hJ c (Nat.le_refl _) h'))))
  · have LI' : lp_LI L xs w b j q k p s r kn ad A V D bs ba BV BD ce ids bid := ⟨lq_XIdiscard hX (by omega), hw, hb, hi, hbi, hb0, fun i hi' => hc i (by omega), hq⟩
    exact lx_disc hj (by omega) (br_f (nI_pos (by omega)) (lp_chk hL LI' (hJ j (by omega) LI')))
theorem lp_clr (hL : L ≤ 260) (h : lp_LI L xs w b c q k p s r kn ad A V D bs ba BV BD ce ids bid) (hJ : ∀ st', J (lq_I ids) (lp_hi ids) (lq_I bid) (lq_L ce) (lq_L (fun az => lq_mb bs ba BD ce az q)) (nI c) (nI q) (nI (kk + 1)) (nI w) (nI b) (nI 8) (nI c) (nI q) (fun iz => nI (k iz)) (fun iz => nI (p iz)) (fun iz => nI (s iz)) A (fun iz => nI (r iz)) V (fun iz => nI (bs iz)) (fun iz => nI (ba iz)) BV (fun iz => nI (ce iz)) st') {x22 : Int32} : wL_law_282 post L xs J (nI w) (nI b) (lq_I ids) (lp_hi ids) (lq_I bid) (lq_L ce) (lq_L (fun az => lq_mb bs ba BD ce az q)) (nI c) (nI q) (nI n) (nI kk) 8 x22 kc ks (nI w) (nI b) (nI 8) (nI c) (nI q) (fun i => nI (k i)) (fun i => nI (p i)) (fun i => nI (s i)) A (fun i => nI (r i)) V (fun i => nI (bs i)) (fun i => nI (ba i)) BV (fun i => nI (ce i)) st := by
  unfold wL_law_282
  refine br_f (by decide) (br_f (by decide) (br_f (by decide) (br_f (by decide) (br_f (by decide) (br_f (by decide) (br_f (by decide) (br_f (by decide) ?_)))))))
  exact lx_clear (lp_chk hL h (hJ _))
end
end
section
/-! the law's commit and drain -/
section
variable {L : Nat} {xs : Nat → Int32} {w b c q n kk kc ks : Nat} {k p s r kn ad : Nat → Nat} {A : Nat → Int32} {V : Nat → Int64} {D : Nat → Int32} {bs ba : Nat → Nat} {BV : Nat → Int64} {BD : Nat → Int32} {ce : Nat → Nat} {st : Nat → Int32} {ids bid : Nat → Nat} {post : Int32 → Prop} {J : lp_J}
def lp_nx (ids : Nat → Nat) : Nat → Nat := fun i => if i < 7 then ids (i + 1) else 0
theorem lp_nxlt {ids : Nat → Nat} (h : ∀ i, ids i < 65536) (i : Nat) : lp_nx ids i < 65536 := by
  unfold lp_nx
  split
  · exact h _
  · omega
theorem lp_653 (hL : L ≤ 260) (hi : ∀ i, ids i < 65536) (hI : lp_LI L xs w b c q k p s r kn ad A V D bs ba BV BD ce (lp_nx ids) bid) (hJ : J (lq_I (lp_nx ids)) (lp_hi (lp_nx ids)) (lq_I bid) (lq_L ce) (lq_L (fun az => lq_mb bs ba BD ce az q)) (nI c) (nI q) (nI (kk + 1)) (nI w) (nI b) (nI 8) (nI c) (nI q) (fun iz => nI (k iz)) (fun iz => nI (p iz)) (fun iz => nI (s iz)) A (fun iz => nI (r iz)) V (fun iz => nI (bs iz)) (fun iz => nI (ba iz)) BV (fun iz => nI (ce iz)) st) : wL_law_653 post L xs J (nI w) (nI b) (lq_I ids) (lp_hi ids) (lq_I bid) (lq_L ce) (lq_L (fun az => lq_mb bs ba BD ce az q)) (nI (c + 1)) (nI q) (nI n) (nI kk) kc ks (nI w) (nI b) (nI 8) (nI c) (nI q) (fun i => nI (k i)) (fun i => nI (p i)) (fun i => nI (s i)) A (fun i => nI (r i)) V (fun i => nI (bs i)) (fun i => nI (ba i)) BV (fun i => nI (ce i)) st := by
  unfold wL_law_653 wL_law_676
  have e1 : ((lq_I ids).toUInt64 >>> ((16 : Int32).toInt64.toUInt64 &&& Int64.toUInt64 63)).toInt64 ||| (lp_hi ids <<< ((48 : Int32).toInt64 &&& 63)) = lq_I (lp_nx ids) := by
    unfold lp_hi
    rw [lq_I_next ids (fun i => ids (4 + i)) hi (fun i => hi (4 + i))]
    refine lp_I_cong (fun i h4 => ?_)
    unfold lp_nx
    rw [if_pos (show i < 7 by omega)]
    by_cases z : i < 3
    · rw [if_pos z]
    · rw [if_neg z, show i = 3 by omega]
  have e2 : ((lp_hi ids).toUInt64 >>> ((16 : Int32).toInt64.toUInt64 &&& Int64.toUInt64 63)).toInt64 = lp_hi (lp_nx ids) := by
    unfold lp_hi
    rw [lq_I_shr (fun i => ids (4 + i)) (fun i => hi (4 + i))]
    refine lp_I_cong (fun i h4 => ?_)
    unfold lp_nx
    by_cases z : i < 3
    · rw [if_pos z, if_pos (by omega)]
      rfl
    · rw [if_neg z, if_neg (by omega)]
  exact nm_r e1 (nm_r e2 (nm_r (pk_m1 c) (lp_chk hL hI hJ)))
theorem lp_com0 (hL : L ≤ 260) (h : lp_LI L xs w b 0 q k p s r kn ad A V D bs ba BV BD ce ids bid) (hJ : J (lq_I ids) (lp_hi ids) (lq_I bid) (lq_L ce) (lq_L (fun az => lq_mb bs ba BD ce az q)) (nI 0) (nI q) (nI (kk + 1)) (nI w) (nI b) (nI 8) (nI 0) (nI q) (fun iz => nI (k iz)) (fun iz => nI (p iz)) (fun iz => nI (s iz)) A (fun iz => nI (r iz)) V (fun iz => nI (bs iz)) (fun iz => nI (ba iz)) BV (fun iz => nI (ce iz)) st) {x22 : Int32} : wL_law_282 post L xs J (nI w) (nI b) (lq_I ids) (lp_hi ids) (lq_I bid) (lq_L ce) (lq_L (fun az => lq_mb bs ba BD ce az q)) (nI 0) (nI q) (nI n) (nI kk) 5 x22 kc ks (nI w) (nI b) (nI 8) (nI 0) (nI q) (fun i => nI (k i)) (fun i => nI (p i)) (fun i => nI (s i)) A (fun i => nI (r i)) V (fun i => nI (bs i)) (fun i => nI (ba i)) BV (fun i => nI (ce i)) st := by
  unfold wL_law_282 wL_law_676
  refine br_f (by decide) (br_f (by decide) (br_f (by decide) (br_f (by decide) (br_f (by decide) (br_t rfl (lx_com0 (br_f (by decide) (br_f (by decide) ?_))))))))
  exact lp_chk hL h hJ
theorem lp_com (hL : L ≤ 260) (h : lp_LI L xs w b (c + 1) q k p s r kn ad A V D bs ba BV BD ce ids bid) (h0 : r 0 ≠ 1 ∨ kn 0 ≠ 1 ∨ (k 0 = 1 ∧ q = b) → J (lq_I ids) (lp_hi ids) (lq_I bid) (lq_L ce) (lq_L (fun az => lq_mb bs ba BD ce az q)) (nI (c + 1)) (nI q) (nI (kk + 1)) (nI w) (nI b) (nI 8) (nI (c + 1)) (nI q) (fun iz => nI (k iz)) (fun iz => nI (p iz)) (fun iz => nI (s iz)) A (fun iz => nI (r iz)) V (fun iz => nI (bs iz)) (fun iz => nI (ba iz)) BV (fun iz => nI (ce iz)) st)
    (hl : k 0 ≠ 1 → r 0 = 1 → lp_LI L xs w b c q (lq_sh (c + 1) k) (lq_sh (c + 1) p) (lq_sh (c + 1) s) (lq_sh (c + 1) r) (lq_sh (c + 1) kn) (lq_sh (c + 1) ad) (lq_sh (c + 1) A) (lq_sh (c + 1) V) (lq_sh (c + 1) D) bs ba BV BD ce (lp_nx ids) bid → J (lq_I (lp_nx ids)) (lp_hi (lp_nx ids)) (lq_I bid) (lq_L ce) (lq_L (fun az => lq_mb bs ba BD ce az q)) (nI c) (nI q) (nI (kk + 1)) (nI w) (nI b) (nI 8) (nI c) (nI q) (fun iz => nI ((lq_sh (c + 1) k) iz)) (fun iz => nI ((lq_sh (c + 1) p) iz)) (fun iz => nI ((lq_sh (c + 1) s) iz)) (lq_sh (c + 1) A) (fun iz => nI ((lq_sh (c + 1) r) iz)) (lq_sh (c + 1) V) (fun iz => nI (bs iz)) (fun iz => nI (ba iz)) BV (fun iz => nI (ce iz)) st)
    (hs : k 0 = 1 → r 0 = 1 → kn 0 = 1 → q < b → lp_LI L xs w b c (q + 1) (lq_sh (c + 1) k) (lq_sh (c + 1) p) (lq_sh (c + 1) s) (lq_sh (c + 1) r) (lq_sh (c + 1) kn) (lq_sh (c + 1) ad) (lq_sh (c + 1) A) (lq_sh (c + 1) V) (lq_sh (c + 1) D) (lq_un bs q (s 0)) (lq_un ba q (ad 0)) (vp_updL BV q (V 0)) (upd BD q (D 0)) ce (lp_nx ids) (lq_un bid q (ids 0)) → J (lq_I (lp_nx ids)) (lp_hi (lp_nx ids)) (lq_I (lq_un bid q (ids 0))) (lq_L ce) (lq_L (fun az => lq_mb (lq_un bs q (s 0)) (lq_un ba q (ad 0)) (upd BD q (D 0)) ce az (q + 1))) (nI c) (nI (q + 1)) (nI (kk + 1)) (nI w) (nI b) (nI 8) (nI c) (nI (q + 1)) (fun iz => nI ((lq_sh (c + 1) k) iz)) (fun iz => nI ((lq_sh (c + 1) p) iz)) (fun iz => nI ((lq_sh (c + 1) s) iz)) (lq_sh (c + 1) A) (fun iz => nI ((lq_sh (c + 1) r) iz)) (lq_sh (c + 1) V) (fun iz => nI ((lq_un bs q (s 0)) iz)) (fun iz => nI ((lq_un ba q (ad 0)) iz)) (vp_updL BV q (V 0)) (fun iz => nI (ce iz)) st) {x22 : Int32} : wL_law_282 post L xs J (nI w) (nI b) (lq_I ids) (lp_hi ids) (lq_I bid) (lq_L ce) (lq_L (fun az => lq_mb bs ba BD ce az q)) (nI (c + 1)) (nI q) (nI n) (nI kk) 5 x22 kc ks (nI w) (nI b) (nI 8) (nI (c + 1)) (nI q) (fun i => nI (k i)) (fun i => nI (p i)) (fun i => nI (s i)) A (fun i => nI (r i)) V (fun i => nI (bs i)) (fun i => nI (ba i)) BV (fun i => nI (ce i)) st := by
  have h' := h
  obtain ⟨hX, hw, hb, hi, hbi, hb0, hc, hq⟩ := h
  have e0 := hX.1
  obtain ⟨c1, c2, c3, c4⟩ := hc 0 (by omega)
  obtain ⟨w1, w2, w3, w4⟩ := hX.2.2.1 0 (by omega)
  have shc : ∀ i, i < c → lq_sh (c + 1) k i = lp_k (lp_g L xs (lp_nx ids i)) ∧ lq_sh (c + 1) s i = lp_s (lp_g L xs (lp_nx ids i)) ∧ (lq_sh (c + 1) kn i = 1 → lq_sh (c + 1) ad i = lp_a (lp_g L xs (lp_nx ids i))) ∧ (lq_sh (c + 1) k i = 1 → lq_sh (c + 1) r i = 1 → lq_sh (c + 1) D i = lp_d L xs (lp_nx ids i)) := fun i hi' => by
    have e : lp_nx ids i = ids (i + 1) := if_pos (by omega)
    rw [e, lq_shi k (by omega), lq_shi s (by omega), lq_shi kn (by omega), lq_shi ad (by omega), lq_shi r (by omega), lq_shi D (by omega)]
    exact hc (i + 1) (by omega)
  have cn : ¬ nI (c + 1) = 0 := nI_ne0 (by omega) (by omega)
  unfold wL_law_282
  refine br_f (by decide) (br_f (by decide) (br_f (by decide) (br_f (by decide) (br_f (by decide) (br_t rfl ?_)))))
  by_cases z : r 0 ≠ 1 ∨ kn 0 ≠ 1
  · refine lx_comN hX z (br_f (by decide) (br_f (by decide) ?_))
    unfold wL_law_676
    exact lp_chk hL h' (h0 (by rcases z with z | z; exact Or.inl z; exact Or.inr (Or.inl z)))
  · have zr : r 0 = 1 := by omega
    have zn : kn 0 = 1 := by omega
    by_cases zk : k 0 = 1
    · refine lx_comS hX zk zr zn (fun f => br_f (by decide) (br_f (by decide) ?_)) (fun l => br_f (by decide) (br_t rfl ?_))
      · unfold wL_law_676
        exact lp_chk hL h' (h0 (Or.inr (Or.inr ⟨zk, f⟩)))
      · unfold wL_law_536
        refine br_f cn (lp_id (j := 0) hi (by omega) (lp_gw hL (hi 0) (br_t (by decide) ?_)))
        unfold wL_law_573
        refine lp_kw _ (br_f ?_ ?_)
        · rw [← c1, zk]
          decide
        · unfold wL_law_586
          have lt : ∀ i, (fun az => lq_mb bs ba BD ce az q) i < 256 := fun i => lq_mb_lt bs ba BD ce i (hX.2.2.2.2 i) q
          refine br_t rfl (br_t (by decide) (br_t (nI_lt l (by omega)) (lp_dw hL (hi 0) (lp_ww lt _ _ ?_))))
          have X' := lq_XIcommitS hX zk zn zr l
          have LI' : lp_LI L xs w b c (q + 1) (lq_sh (c + 1) k) (lq_sh (c + 1) p) (lq_sh (c + 1) s) (lq_sh (c + 1) r) (lq_sh (c + 1) kn) (lq_sh (c + 1) ad) (lq_sh (c + 1) A) (lq_sh (c + 1) V) (lq_sh (c + 1) D) (lq_un bs q (s 0)) (lq_un ba q (ad 0)) (vp_updL BV q (V 0)) (upd BD q (D 0)) ce (lp_nx ids) (lq_un bid q (ids 0)) := by
            refine ⟨X', hw, hb, lp_nxlt hi, lq_unp (P := fun y => y < 65536) hbi (hi 0), fun i hi' => ?_, shc, fun i hi' => ?_⟩
            · rw [lq_ui (by omega)]
              exact hb0 i (by omega)
            · by_cases e : i = q
              · subst e
                rw [lq_us, lq_us, lq_us, pk_us]
                exact ⟨c2, c3 zn, c4 zk zr⟩
              · rw [lq_ui e, lq_ui e, lq_ui e, pk_un e]
                exact hq i (by omega)
          have ear : lq_wr (fun az => lq_mb bs ba BD ce az q) (lp_s (lp_g L xs (ids 0))) (lp_a (lp_g L xs (ids 0))) (lp_d L xs (ids 0)) = fun az => lq_mb (lq_un bs q (s 0)) (lq_un ba q (ad 0)) (upd BD q (D 0)) ce az (q + 1) := by
            funext az
            show _ = if lq_un ba q (ad 0) q ≤ az ∧ az < lq_un ba q (ad 0) q + lq_un bs q (s 0) q then lq_by (upd BD q (D 0) q) (az - lq_un ba q (ad 0) q) else lq_mb (lq_un bs q (s 0)) (lq_un ba q (ad 0)) (upd BD q (D 0)) ce az q
            rw [lq_us, lq_us, pk_us, c2, c3 zn, c4 zk zr]
            have e : lq_mb (lq_un bs q (lp_s (lp_g L xs (ids 0)))) (lq_un ba q (lp_a (lp_g L xs (ids 0)))) (upd BD q (lp_d L xs (ids 0))) ce az q = lq_mb bs ba BD ce az q := lq_mb_cong q (fun i hi => ⟨lq_ui (by omega), lq_ui (by omega), pk_un (by omega)⟩)
            rw [e]
            rfl
          rw [ear, show (16 : Int32) * nI q = nI (16 * q) from pk_mul 16 q]
          refine nm_r (lq_I_or bid hbi (i := q) (x := ids 0) (by omega) (hi 0) (hb0 q (Nat.le_refl _))) (nm_r (nI_1 q) ?_)
          exact lp_653 hL hi LI' (hs zk zr zn l LI')
    · have X' := lq_XIcommitL hX zk
      have LI' : lp_LI L xs w b c q (lq_sh (c + 1) k) (lq_sh (c + 1) p) (lq_sh (c + 1) s) (lq_sh (c + 1) r) (lq_sh (c + 1) kn) (lq_sh (c + 1) ad) (lq_sh (c + 1) A) (lq_sh (c + 1) V) (lq_sh (c + 1) D) bs ba BV BD ce (lp_nx ids) bid := ⟨X', hw, hb, lp_nxlt hi, hbi, hb0, shc, hq⟩
      have v0 := ((w4 zr).2 zk).2.1
      have lt : ∀ i, (fun az => lq_mb bs ba BD ce az q) i < 256 := fun i => lq_mb_lt bs ba BD ce i (hX.2.2.2.2 i) q
      have v1 : V 0 = lN (lq_vs (fun i => (fun az => lq_mb bs ba BD ce az q) (lp_a (lp_g L xs (ids 0)) + i)) (lp_s (lp_g L xs (ids 0)))) := by
        rw [v0, c3 zn, c2]
        rfl
      have vlt := lq_vs_lt (fun i => (fun az => lq_mb bs ba BD ce az q) (lp_a (lp_g L xs (ids 0)) + i)) (fun i => lt _) (lp_s (lp_g L xs (ids 0)))
      have s4 := lp_s124 (lp_g L xs (ids 0))
      have v32 : 2 ^ (8 * lp_s (lp_g L xs (ids 0))) ≤ 2 ^ 32 := Nat.pow_le_pow_right (by decide) (by omega)
      have pos : (0 : Int64) ≤ V 0 := by
        rw [v1]
        exact (pk_lLE (a := 0) (by decide) (by omega)).mpr (Nat.zero_le _)
      have npos : ¬ V 0 < 0 := Int64.not_lt.mpr pos
      refine lx_comL hX zk zr (br_t pos ?_)
      unfold wL_law_536
      refine br_f cn (lp_id (j := 0) hi (by omega) (lp_gw hL (hi 0) (br_f npos ?_)))
      unfold wL_law_573
      refine lp_kw _ (br_t ?_ ?_)
      · rw [← c1, show k 0 = 0 by have := (hX.2.1 0).1; omega]
        rfl
      · unfold wL_law_586
        refine br_t rfl (br_f npos (lp_rw lt _ (br_t v1 ?_)))
        exact lp_653 hL hi LI' (hl zk zr LI')
theorem lp_dr0 (hL : L ≤ 260) (h : lp_LI L xs w b c 0 k p s r kn ad A V D bs ba BV BD ce ids bid) (hJ : J (lq_I ids) (lp_hi ids) (lq_I bid) (lq_L ce) (lq_L (fun az => lq_mb bs ba BD ce az 0)) (nI c) (nI 0) (nI (kk + 1)) (nI w) (nI b) (nI 8) (nI c) (nI 0) (fun iz => nI (k iz)) (fun iz => nI (p iz)) (fun iz => nI (s iz)) A (fun iz => nI (r iz)) V (fun iz => nI (bs iz)) (fun iz => nI (ba iz)) BV (fun iz => nI (ce iz)) st) {x22 : Int32} : wL_law_282 post L xs J (nI w) (nI b) (lq_I ids) (lp_hi ids) (lq_I bid) (lq_L ce) (lq_L (fun az => lq_mb bs ba BD ce az 0)) (nI c) (nI 0) (nI n) (nI kk) 6 x22 kc ks (nI w) (nI b) (nI 8) (nI c) (nI 0) (fun i => nI (k i)) (fun i => nI (p i)) (fun i => nI (s i)) A (fun i => nI (r i)) V (fun i => nI (bs i)) (fun i => nI (ba i)) BV (fun i => nI (ce i)) st := by
  unfold wL_law_282
  refine br_f (by decide) (br_f (by decide) (br_f (by decide) (br_f (by decide) (br_f (by decide) (br_f (by decide) (br_t rfl (lx_drain0 (br_f (by decide) ?_))))))))
  exact lp_chk hL h hJ
def lp_nb (bid : Nat → Nat) : Nat → Nat := fun i => if i < 3 then bid (i + 1) else 0
theorem lp_dr (hL : L ≤ 260) (h : lp_LI L xs w b c (q + 1) k p s r kn ad A V D bs ba BV BD ce ids bid) (hJ : lp_LI L xs w b c q k p s r kn ad A V D (lq_sh (q + 1) bs) (lq_sh (q + 1) ba) (lq_sh (q + 1) BV) (lq_sh (q + 1) BD) (fun a => lq_mb bs ba BD ce a 1) ids (lp_nb bid) → J (lq_I ids) (lp_hi ids) (lq_I (lp_nb bid)) (lq_L (fun a => lq_mb bs ba BD ce a 1)) (lq_L (fun az => lq_mb (lq_sh (q + 1) bs) (lq_sh (q + 1) ba) (lq_sh (q + 1) BD) (fun a => lq_mb bs ba BD ce a 1) az q)) (nI c) (nI q) (nI (kk + 1)) (nI w) (nI b) (nI 8) (nI c) (nI q) (fun iz => nI (k iz)) (fun iz => nI (p iz)) (fun iz => nI (s iz)) A (fun iz => nI (r iz)) V (fun iz => nI ((lq_sh (q + 1) bs) iz)) (fun iz => nI ((lq_sh (q + 1) ba) iz)) (lq_sh (q + 1) BV) (fun iz => nI ((fun a => lq_mb bs ba BD ce a 1) iz)) st) {x22 : Int32} : wL_law_282 post L xs J (nI w) (nI b) (lq_I ids) (lp_hi ids) (lq_I bid) (lq_L ce) (lq_L (fun az => lq_mb bs ba BD ce az (q + 1))) (nI c) (nI (q + 1)) (nI n) (nI kk) 6 x22 kc ks (nI w) (nI b) (nI 8) (nI c) (nI (q + 1)) (fun i => nI (k i)) (fun i => nI (p i)) (fun i => nI (s i)) A (fun i => nI (r i)) V (fun i => nI (bs i)) (fun i => nI (ba i)) BV (fun i => nI (ce i)) st := by
  have h' := h
  obtain ⟨hX, hw, hb, hi, hbi, hb0, hc, hq⟩ := h
  have e0 := hX.1
  obtain ⟨q1, q2, q3⟩ := hq 0 (by omega)
  unfold wL_law_282
  refine br_f (by decide) (br_f (by decide) (br_f (by decide) (br_f (by decide) (br_f (by decide) (br_f (by decide) (br_t rfl (lx_drain hX (br_t rfl (br_f (nI_ne0 (by omega) (by omega)) ?_)))))))))
  have LI' : lp_LI L xs w b c q k p s r kn ad A V D (lq_sh (q + 1) bs) (lq_sh (q + 1) ba) (lq_sh (q + 1) BV) (lq_sh (q + 1) BD) (fun a => lq_mb bs ba BD ce a 1) ids (lp_nb bid) := by
    refine ⟨lq_XIdrain hX, hw, hb, hi, fun i => ?_, fun i hi' => ?_, hc, fun i hi' => ?_⟩
    · unfold lp_nb
      split
      · exact hbi _
      · omega
    · unfold lp_nb
      split
      · exact hb0 _ (by omega)
      · rfl
    · have e : lp_nb bid i = bid (i + 1) := if_pos (by omega)
      rw [e, lq_shi bs (by omega), lq_shi ba (by omega), lq_shi BD (by omega)]
      exact hq (i + 1) (by omega)
  have ear : (fun az => lq_mb bs ba BD ce az (q + 1)) = fun az => lq_mb (lq_sh (q + 1) bs) (lq_sh (q + 1) ba) (lq_sh (q + 1) BD) (fun a => lq_mb bs ba BD ce a 1) az q := by
    funext az
    exact (lq_mb_shift (ce' := fun a => lq_mb bs ba BD ce a 1) rfl q (fun i hi => ⟨lq_shi _ (by omega), lq_shi _ (by omega), lq_shi _ (by omega)⟩)).symm
  have ebs : lq_wr ce (lp_s (lp_g L xs (bid 0))) (lp_a (lp_g L xs (bid 0))) (lp_d L xs (bid 0)) = fun a => lq_mb bs ba BD ce a 1 := by
    funext az
    show _ = if ba 0 ≤ az ∧ az < ba 0 + bs 0 then lq_by (BD 0) (az - ba 0) else ce az
    rw [q1, q2, q3]
    rfl
  have hJ' := hJ LI'
  rw [← ear] at hJ'
  rw [lq_I_0 bid hbi]
  refine nm_e (lp_gw hL (hbi 0) (lp_dw hL (hbi 0) (lp_ww hX.2.2.2.2 _ _ ?_)))
  rw [ebs]
  refine nm_r (lq_I_shr bid hbi) (nm_r (pk_m1 q) ?_)
  rw [ear] at hJ' ⊢
  exact lp_chk hL LI' hJ'
end
end
section
/-! the law's loop -/
def lp_PH (T c q b : Nat) (k r kn : Nat → Nat) : Prop :=
  (∀ i, i < c → (21 < T + 3 * i → k i = 1 → r i = 1) ∧ (22 < T + 3 * i → kn i = 1)) ∧
  (24 ≤ T → ∀ i, i < c → r i = 1) ∧
  (24 ≤ T → T ≤ 40 → c + (T - 24) / 2 ≤ 8) ∧
  (24 ≤ T → T < 40 → T % 2 = 1 → q < b) ∧
  (40 ≤ T → c = 0 ∧ q + (T - 40) ≤ 4)
theorem lp_PH0 {c q b : Nat} {k r kn : Nat → Nat} (hc : c ≤ 8) : lp_PH 0 c q b k r kn := ⟨fun i hi => ⟨fun z => absurd z (by omega), fun z => absurd z (by omega)⟩, fun z => absurd z (by omega), fun z => absurd z (by omega), fun z => absurd z (by omega), fun z => absurd z (by omega)⟩
theorem lp_actw {post : Int32 → Prop} (h : Int32) (h0 : post 0) (h1 : post 1) (h2 : post 2) (h3 : post 3) (h4 : post 4) (h5 : post 5) (h6 : post 6) (h7 : post 7) (h8 : post 8) : wpL_action post () h :=
  nm_e (br_c (fun _ => br_c (fun _ => br_c (fun _ => br_c (fun _ => br_c (fun _ => br_c (fun _ => br_c (fun _ => nm_e (br_c (fun _ => h8) (fun _ => br_c (fun _ => h6) (fun _ => h7)))) (fun _ => h6)) (fun _ => h5)) (fun _ => h4)) (fun _ => h3)) (fun _ => h2)) (fun _ => h1)) (fun _ => h0))
section
variable {L : Nat} {xs : Nat → Int32} {w b c q n kk kc ks : Nat} {k p s r kn ad : Nat → Nat} {A : Nat → Int32} {V : Nat → Int64} {D : Nat → Int32} {bs ba : Nat → Nat} {BV : Nat → Int64} {BD : Nat → Int32} {ce : Nat → Nat} {st : Nat → Int32} {ids bid : Nat → Nat} {post : Int32 → Prop} {J : lp_J}
/-- what the loop is owed behind a step -/
def lp_go (L : Nat) (xs : Nat → Int32) (w b T kk : Nat) (J : lp_J) : Prop := ∀ (c q : Nat) (k p s r kn ad : Nat → Nat) (A : Nat → Int32) (V : Nat → Int64) (D : Nat → Int32) (bs ba : Nat → Nat) (BV : Nat → Int64) (BD : Nat → Int32) (ce : Nat → Nat) (st : Nat → Int32) (ids bid : Nat → Nat), lp_LI L xs w b c q k p s r kn ad A V D bs ba BV BD ce ids bid → lp_PH T c q b k r kn → J (lq_I ids) (lp_hi ids) (lq_I bid) (lq_L ce) (lq_L (fun az => lq_mb bs ba BD ce az q)) (nI c) (nI q) (nI (kk + 1)) (nI w) (nI b) (nI 8) (nI c) (nI q) (fun iz => nI (k iz)) (fun iz => nI (p iz)) (fun iz => nI (s iz)) A (fun iz => nI (r iz)) V (fun iz => nI (bs iz)) (fun iz => nI (ba iz)) BV (fun iz => nI (ce iz)) st
theorem lp_LIc (h : lp_LI L xs w b c q k p s r kn ad A V D bs ba BV BD ce ids bid) : c ≤ 8 ∧ q ≤ b ∧ b ≤ 4 ∧ 1 ≤ b := by
  have := h.1.1
  have := h.2.1
  have := h.2.2.1
  omega
/-- any drawn action -/
theorem lp_draw (hL : L ≤ 260) (hk : kk < 65536) (h : lp_LI L xs w b c q k p s r kn ad A V D bs ba BV BD ce ids bid) (go : lp_go L xs w b 0 kk J) {a h20 : Int32} (ha : a = 0 ∨ a = 1 ∨ a = 2 ∨ a = 3 ∨ a = 4 ∨ a = 5 ∨ a = 6 ∨ a = 7 ∨ a = 8) {j : Nat} (hj : j < 8) : wL_law_185 post L xs J (nI w) (nI b) (lq_I ids) (lp_hi ids) (lq_I bid) (lq_L ce) (lq_L (fun az => lq_mb bs ba BD ce az q)) (nI c) (nI q) (nI n) (nI kk) h20 a (nI j) kc ks (nI w) (nI b) (nI 8) (nI c) (nI q) (fun i => nI (k i)) (fun i => nI (p i)) (fun i => nI (s i)) A (fun i => nI (r i)) V (fun i => nI (bs i)) (fun i => nI (ba i)) BV (fun i => nI (ce i)) st := by
  have same : J (lq_I ids) (lp_hi ids) (lq_I bid) (lq_L ce) (lq_L (fun az => lq_mb bs ba BD ce az q)) (nI c) (nI q) (nI (kk + 1)) (nI w) (nI b) (nI 8) (nI c) (nI q) (fun iz => nI (k iz)) (fun iz => nI (p iz)) (fun iz => nI (s iz)) A (fun iz => nI (r iz)) V (fun iz => nI (bs iz)) (fun iz => nI (ba iz)) BV (fun iz => nI (ce iz)) st := go _ _ _ _ _ _ _ _ _ _ _ _ _ _ _ _ _ _ _ h (lp_PH0 (lp_LIc h).1)
  unfold wL_law_185
  rcases ha with rfl | rfl | rfl | rfl | rfl | rfl | rfl | rfl | rfl
  · exact br_f (by decide) (lp_enter hL hk h same (fun _ h' => go _ _ _ _ _ _ _ _ _ _ _ _ _ _ _ _ _ _ _ h' (lp_PH0 (lp_LIc h').1)))
  · exact br_f (by decide) (lp_setA hL h hj (fun _ _ _ _ _ h' _ _ _ => go _ _ _ _ _ _ _ _ _ _ _ _ _ _ _ _ _ _ _ h' (lp_PH0 (lp_LIc h').1)))
  · exact br_f (by decide) (lp_setD hL h hj (fun _ _ _ h' _ _ => go _ _ _ _ _ _ _ _ _ _ _ _ _ _ _ _ _ _ _ h' (lp_PH0 (lp_LIc h').1)))
  · exact br_f (by decide) (lp_exe hL h hj (fun _ _ h' => go _ _ _ _ _ _ _ _ _ _ _ _ _ _ _ _ _ _ _ h' (lp_PH0 (lp_LIc h').1)))
  · exact br_f (by decide) (lp_exr hL h (fun _ _ h' _ _ => go _ _ _ _ _ _ _ _ _ _ _ _ _ _ _ _ _ _ _ h' (lp_PH0 (lp_LIc h').1)))
  · refine br_f (by decide) ?_
    cases c with
    | zero => exact lp_com0 hL h same
    | succ c => exact lp_com hL h (fun _ => same) (fun _ _ h' => go _ _ _ _ _ _ _ _ _ _ _ _ _ _ _ _ _ _ _ h' (lp_PH0 (lp_LIc h').1)) (fun _ _ _ _ h' => go _ _ _ _ _ _ _ _ _ _ _ _ _ _ _ _ _ _ _ h' (lp_PH0 (lp_LIc h').1))
  · refine br_f (by decide) ?_
    cases q with
    | zero => exact lp_dr0 hL h same
    | succ q => exact lp_dr hL h (fun h' => go _ _ _ _ _ _ _ _ _ _ _ _ _ _ _ _ _ _ _ h' (lp_PH0 (lp_LIc h').1))
  · exact br_t rfl (nm_e (lp_dis hL h (fun _ _ h' => go _ _ _ _ _ _ _ _ _ _ _ _ _ _ _ _ _ _ _ h' (lp_PH0 (lp_LIc h').1))))
  · exact br_f (by decide) (lp_clr hL h (fun _ => go _ _ _ _ _ _ _ _ _ _ _ _ _ _ _ _ _ _ _ h (lp_PH0 (lp_LIc h).1)))
theorem lp_f2 (hL : L ≤ 260) (h : lp_LI L xs w b c q k p s r kn ad A V D bs ba BV BD ce ids bid) {T : Nat} (hP : lp_PH T c q b k r kn) (hT : T < 24) (h3 : T % 3 = 0) (go : lp_go L xs w b (T + 1) kk J) : wL_law_282 post L xs J (nI w) (nI b) (lq_I ids) (lp_hi ids) (lq_I bid) (lq_L ce) (lq_L (fun az => lq_mb bs ba BD ce az q)) (nI c) (nI q) (nI n) (nI kk) 2 (nI (7 - T / 3)) kc ks (nI w) (nI b) (nI 8) (nI c) (nI q) (fun i => nI (k i)) (fun i => nI (p i)) (fun i => nI (s i)) A (fun i => nI (r i)) V (fun i => nI (bs i)) (fun i => nI (ba i)) BV (fun i => nI (ce i)) st := by
  obtain ⟨p1, p2, p3, p4, p5⟩ := hP
  have hc := (lp_LIc h).1
  refine lp_setD hL h (by omega) (fun r' V' D' h' f1 f2 => go _ _ _ _ _ _ _ _ _ _ _ _ _ _ _ _ _ _ _ h' ⟨fun i hi => ⟨fun z zk => ?_, fun z => (p1 i hi).2 (by omega)⟩, fun z => absurd z (by omega), fun z => absurd z (by omega), fun z => absurd z (by omega), fun z => absurd z (by omega)⟩)
  by_cases e : i = 7 - T / 3
  · rw [← e] at f2
    exact f2 hi zk
  · exact f1 i ((p1 i hi).1 (by omega) zk)
theorem lp_f1 (hL : L ≤ 260) (h : lp_LI L xs w b c q k p s r kn ad A V D bs ba BV BD ce ids bid) {T : Nat} (hP : lp_PH T c q b k r kn) (hT : T < 24) (h3 : T % 3 = 1) (go : lp_go L xs w b (T + 1) kk J) : wL_law_282 post L xs J (nI w) (nI b) (lq_I ids) (lp_hi ids) (lq_I bid) (lq_L ce) (lq_L (fun az => lq_mb bs ba BD ce az q)) (nI c) (nI q) (nI n) (nI kk) 1 (nI (7 - T / 3)) kc ks (nI w) (nI b) (nI 8) (nI c) (nI q) (fun i => nI (k i)) (fun i => nI (p i)) (fun i => nI (s i)) A (fun i => nI (r i)) V (fun i => nI (bs i)) (fun i => nI (ba i)) BV (fun i => nI (ce i)) st := by
  obtain ⟨p1, p2, p3, p4, p5⟩ := hP
  have hc := (lp_LIc h).1
  refine lp_setA hL h (by omega) (fun r' kn' ad' A' st' h' f1 f2 f3 => go _ _ _ _ _ _ _ _ _ _ _ _ _ _ _ _ _ _ _ h' ⟨fun i hi => ⟨fun z zk => f2 i zk ((p1 i hi).1 (by omega) zk), fun z => ?_⟩, fun z => absurd z (by omega), fun z => absurd z (by omega), fun z => absurd z (by omega), fun z => absurd z (by omega)⟩)
  by_cases e : i = 7 - T / 3
  · rw [← e] at f3
    exact f3 hi
  · exact f1 i ((p1 i hi).2 (by omega))
theorem lp_f4 (hL : L ≤ 260) (h : lp_LI L xs w b c q k p s r kn ad A V D bs ba BV BD ce ids bid) {T : Nat} (hP : lp_PH T c q b k r kn) (hT : T < 24) (h3 : T % 3 = 2) (go : lp_go L xs w b (T + 1) kk J) {x22 : Int32} : wL_law_282 post L xs J (nI w) (nI b) (lq_I ids) (lp_hi ids) (lq_I bid) (lq_L ce) (lq_L (fun az => lq_mb bs ba BD ce az q)) (nI c) (nI q) (nI n) (nI kk) 4 x22 kc ks (nI w) (nI b) (nI 8) (nI c) (nI q) (fun i => nI (k i)) (fun i => nI (p i)) (fun i => nI (s i)) A (fun i => nI (r i)) V (fun i => nI (bs i)) (fun i => nI (ba i)) BV (fun i => nI (ce i)) st := by
  obtain ⟨p1, p2, p3, p4, p5⟩ := hP
  have hc := (lp_LIc h).1
  refine lp_exr hL h (fun r' V' h' f1 f2 => go _ _ _ _ _ _ _ _ _ _ _ _ _ _ _ _ _ _ _ h' ⟨fun i hi => ⟨fun z zk => f1 i ((p1 i hi).1 (by omega) zk), fun z => (p1 i hi).2 (by omega)⟩, fun z => f2 (fun x hx => ⟨(p1 x hx).2 (by omega), (p1 x hx).1 (by omega)⟩), fun z1 z2 => (by omega), fun z1 z2 z3 => absurd z3 (by omega), fun z => absurd z (by omega)⟩)
theorem lp_f5 (hL : L ≤ 260) (h : lp_LI L xs w b c q k p s r kn ad A V D bs ba BV BD ce ids bid) {T : Nat} (hP : lp_PH T c q b k r kn) (hT : 24 ≤ T) (hT' : T < 40) (h2 : T % 2 = 1) (go : lp_go L xs w b (T + 1) kk J) {x22 : Int32} : wL_law_282 post L xs J (nI w) (nI b) (lq_I ids) (lp_hi ids) (lq_I bid) (lq_L ce) (lq_L (fun az => lq_mb bs ba BD ce az q)) (nI c) (nI q) (nI n) (nI kk) 5 x22 kc ks (nI w) (nI b) (nI 8) (nI c) (nI q) (fun i => nI (k i)) (fun i => nI (p i)) (fun i => nI (s i)) A (fun i => nI (r i)) V (fun i => nI (bs i)) (fun i => nI (ba i)) BV (fun i => nI (ce i)) st := by
  obtain ⟨p1, p2, p3, p4, p5⟩ := hP
  have hc := lp_LIc h
  have q3 := p3 hT (by omega)
  have q4 := p4 hT hT' h2
  cases c with
  | zero => exact lp_com0 hL h (go _ _ _ _ _ _ _ _ _ _ _ _ _ _ _ _ _ _ _ h ⟨fun i hi => absurd hi (by omega), fun _ i hi => absurd hi (by omega), fun z1 z2 => (by omega), fun z1 z2 z3 => absurd z3 (by omega), fun z => (by omega)⟩)
  | succ c =>
    have r0 : r 0 = 1 := p2 hT 0 (by omega)
    have n0 : kn 0 = 1 := (p1 0 (by omega)).2 (by omega)
    have shr : ∀ i, i < c → lq_sh (c + 1) r i = 1 := fun i hi => by
      rw [lq_shi r (by omega)]
      exact p2 hT (i + 1) (by omega)
    have shn : ∀ i, i < c → lq_sh (c + 1) kn i = 1 := fun i hi => by
      rw [lq_shi kn (by omega)]
      exact (p1 (i + 1) (by omega)).2 (by omega)
    refine lp_com hL h (fun z => absurd z (by omega)) (fun zk zr h' => go _ _ _ _ _ _ _ _ _ _ _ _ _ _ _ _ _ _ _ h' ?_) (fun zk zr zn l h' => go _ _ _ _ _ _ _ _ _ _ _ _ _ _ _ _ _ _ _ h' ?_)
    · exact ⟨fun i hi => ⟨fun _ _ => shr i hi, fun _ => shn i hi⟩, fun _ => shr, fun z1 z2 => (by omega), fun z1 z2 z3 => absurd z3 (by omega), fun z => (by omega)⟩
    · exact ⟨fun i hi => ⟨fun _ _ => shr i hi, fun _ => shn i hi⟩, fun _ => shr, fun z1 z2 => (by omega), fun z1 z2 z3 => absurd z3 (by omega), fun z => (by omega)⟩
theorem lp_f6 (hL : L ≤ 260) (h : lp_LI L xs w b c q k p s r kn ad A V D bs ba BV BD ce ids bid) {T : Nat} (hP : lp_PH T c q b k r kn) (hT : 24 ≤ T) (hT' : T < 44) (h2 : 40 ≤ T ∨ T % 2 = 0) (go : lp_go L xs w b (T + 1) kk J) {x22 : Int32} : wL_law_282 post L xs J (nI w) (nI b) (lq_I ids) (lp_hi ids) (lq_I bid) (lq_L ce) (lq_L (fun az => lq_mb bs ba BD ce az q)) (nI c) (nI q) (nI n) (nI kk) 6 x22 kc ks (nI w) (nI b) (nI 8) (nI c) (nI q) (fun i => nI (k i)) (fun i => nI (p i)) (fun i => nI (s i)) A (fun i => nI (r i)) V (fun i => nI (bs i)) (fun i => nI (ba i)) BV (fun i => nI (ce i)) st := by
  obtain ⟨p1, p2, p3, p4, p5⟩ := hP
  have hc := lp_LIc h
  have r1 := p2 hT
  have n1 : ∀ i, i < c → kn i = 1 := fun i hi => (p1 i hi).2 (by omega)
  cases q with
  | zero => exact lp_dr0 hL h (go _ _ _ _ _ _ _ _ _ _ _ _ _ _ _ _ _ _ _ h ⟨fun i hi => ⟨fun _ _ => r1 i hi, fun _ => n1 i hi⟩, fun _ => r1, fun z1 z2 => (by have := p3 hT (by omega); omega), fun z1 z2 z3 => (by omega), fun z => (by have := p5; omega)⟩)
  | succ q => exact lp_dr hL h (fun h' => go _ _ _ _ _ _ _ _ _ _ _ _ _ _ _ _ _ _ _ h' ⟨fun i hi => ⟨fun _ _ => r1 i hi, fun _ => n1 i hi⟩, fun _ => r1, fun z1 z2 => (by have := p3 hT (by omega); omega), fun z1 z2 z3 => (by omega), fun z => (by have := p5; omega)⟩)
theorem lp_main (hL : L ≤ 260) (hn : n ≤ 1040) : ∀ d kk fu, kk + d = n + 44 → d < fu → ∀ (c q : Nat) (k p s r kn ad : Nat → Nat) (A : Nat → Int32) (V : Nat → Int64) (D : Nat → Int32) (bs ba : Nat → Nat) (BV : Nat → Int64) (BD : Nat → Int32) (ce : Nat → Nat) (st : Nat → Int32) (ids bid : Nat → Nat), lp_LI L xs w b c q k p s r kn ad A V D bs ba BV BD ce ids bid → lp_PH (kk - n) c q b k r kn → wL_law_108 (fun r => r = 1) L xs (nI w) (nI b) (nI n) kc ks fu (lq_I ids) (lp_hi ids) (lq_I bid) (lq_L ce) (lq_L (fun az => lq_mb bs ba BD ce az q)) (nI c) (nI q) (nI kk) (nI w) (nI b) (nI 8) (nI c) (nI q) (fun i => nI (k i)) (fun i => nI (p i)) (fun i => nI (s i)) A (fun i => nI (r i)) V (fun i => nI (bs i)) (fun i => nI (ba i)) BV (fun i => nI (ce i)) st := by
  intro d
  induction d with
  | zero =>
    intro kk fu hk hd c q k p s r kn ad A V D bs ba BV BD ce st ids bid h hP
    obtain ⟨fu, rfl⟩ : ∃ t, fu = t + 1 := ⟨fu - 1, by omega⟩
    obtain ⟨c0, q0⟩ := hP.2.2.2.2 (by omega)
    obtain rfl : q = 0 := by omega
    subst c0
    refine br_t ?_ (br_t rfl (br_t rfl rfl))
    rw [show nI n + 44 = nI (n + 44) from nI_add n 44]
    exact nI_le (by omega) (by omega)
  | succ d ih =>
    intro kk fu hk hd c q k p s r kn ad A V D bs ba BV BD ce st ids bid h hP
    obtain ⟨fu, rfl⟩ : ∃ t, fu = t + 1 := ⟨fu - 1, by omega⟩
    have hc := lp_LIc h
    have go : lp_go L xs w b (kk + 1 - n) kk (wL_law_108 (fun r => r = 1) L xs (nI w) (nI b) (nI n) kc ks fu) := fun c q k p s r kn ad A V D bs ba BV BD ce st ids bid h' hP' => ih (kk + 1) fu (by omega) (by omega) c q k p s r kn ad A V D bs ba BV BD ce st ids bid h' hP'
    refine br_f ?_ ?_
    · rw [show nI n + 44 = nI (n + 44) from nI_add n 44]
      exact nI_ge (by omega) (by omega)
    · rw [lp_sh2 (show kk < 2 ^ 31 by omega)]
      by_cases z : kk < n
      · refine nm_e (lp_cellw hL (by omega) (lp_mixw _ _ (br_f (Int32.not_le.mpr (pk_sneg (by omega) z)) ?_)))
        rw [show kk + 1 - n = 0 by omega] at go
        generalize lp_mix (lp_cell L xs (kk / 4)) (nI kk) = hh
        have step : ∀ a : Int32, (a = 0 ∨ a = 1 ∨ a = 2 ∨ a = 3 ∨ a = 4 ∨ a = 5 ∨ a = 6 ∨ a = 7 ∨ a = 8) → ((nI c = 0 → wL_law_185 (fun r => r = 1) L xs (wL_law_108 (fun r => r = 1) L xs (nI w) (nI b) (nI n) kc ks fu) (nI w) (nI b) (lq_I ids) (lp_hi ids) (lq_I bid) (lq_L ce) (lq_L (fun az => lq_mb bs ba BD ce az q)) (nI c) (nI q) (nI n) (nI kk) hh a 0 kc ks (nI w) (nI b) (nI 8) (nI c) (nI q) (fun i => nI (k i)) (fun i => nI (p i)) (fun i => nI (s i)) A (fun i => nI (r i)) V (fun i => nI (bs i)) (fun i => nI (ba i)) BV (fun i => nI (ce i)) st) ∧ (¬ nI c = 0 → (¬ nI c = 0 ∧ (¬ (1 + ((((hh.toUInt32 >>> ((16 : Int32).toUInt32 &&& Int32.toUInt32 31)).toInt32) &&& 255) - (((hh.toUInt32 >>> ((16 : Int32).toUInt32 &&& Int32.toUInt32 31)).toInt32) &&& 255) / nI c * nI c)) = 0 ∧ (wL_law_185 (fun r => r = 1) L xs (wL_law_108 (fun r => r = 1) L xs (nI w) (nI b) (nI n) kc ks fu) (nI w) (nI b) (lq_I ids) (lp_hi ids) (lq_I bid) (lq_L ce) (lq_L (fun az => lq_mb bs ba BD ce az q)) (nI c) (nI q) (nI n) (nI kk) hh a ((((hh.toUInt32 >>> ((8 : Int32).toUInt32 &&& Int32.toUInt32 31)).toInt32) &&& 255) - (((hh.toUInt32 >>> ((8 : Int32).toUInt32 &&& Int32.toUInt32 31)).toInt32) &&& 255) / (1 + ((((hh.toUInt32 >>> ((16 : Int32).toUInt32 &&& Int32.toUInt32 31)).toInt32) &&& 255) - (((hh.toUInt32 >>> ((16 : Int32).toUInt32 &&& Int32.toUInt32 31)).toInt32) &&& 255) / nI c * nI c)) * (1 + ((((hh.toUInt32 >>> ((16 : Int32).toUInt32 &&& Int32.toUInt32 31)).toInt32) &&& 255) - (((hh.toUInt32 >>> ((16 : Int32).toUInt32 &&& Int32.toUInt32 31)).toInt32) &&& 255) / nI c * nI c))) kc ks (nI w) (nI b) (nI 8) (nI c) (nI q) (fun i => nI (k i)) (fun i => nI (p i)) (fun i => nI (s i)) A (fun i => nI (r i)) V (fun i => nI (bs i)) (fun i => nI (ba i)) BV (fun i => nI (ce i)) st))))) := by
          intro a ha
          refine br_c (fun _ => lp_draw (j := 0) hL (by omega) h go ha (by omega)) (fun cz => ⟨cz, ?_⟩)
          have c0 : 0 < c := by
            apply Classical.byContradiction
            intro y
            exact cz (by rw [show c = 0 by omega]; rfl)
          obtain ⟨x, hx, ex⟩ := pk_andE ((hh.toUInt32 >>> ((16 : Int32).toUInt32 &&& Int32.toUInt32 31)).toInt32) (m := 255) 8 (by decide)
          obtain ⟨y, hy, ey⟩ := pk_andE ((hh.toUInt32 >>> ((8 : Int32).toUInt32 &&& Int32.toUInt32 31)).toInt32) (m := 255) 8 (by decide)
          have xc : x % c < c := Nat.mod_lt _ c0
          have yc : y % (1 + x % c) < 1 + x % c := Nat.mod_lt _ (by omega)
          rw [ex, ey, pk_rem (by omega) c0 (by omega), show (1 : Int32) + nI (x % c) = nI (1 + x % c) from nI_add 1 _, pk_rem (by omega) (by omega) (by omega)]
          exact ⟨nI_ne0 (by omega) (by omega), lp_draw hL (by omega) h go ha (by omega)⟩
        exact lp_actw hh (step 0 (by decide)) (step 1 (by decide)) (step 2 (by decide)) (step 3 (by decide)) (step 4 (by decide)) (step 5 (by decide)) (step 6 (by decide)) (step 7 (by decide)) (step 8 (by decide))
      · have eT : nI kk - nI n = nI (kk - n) := pk_sub (by omega)
        have T1 : kk + 1 - n = (kk - n) + 1 := by omega
        rw [T1] at go
        generalize hT : kk - n = T at *
        refine nm_r eT (lp_cellw hL (by omega) (lp_mixw _ _ (br_t (nI_pos' (by omega)) ?_)))
        refine pk_le 24 T (fun z24 => ?_) (fun z24 => ⟨by decide, ?_⟩)
        · refine pk_le 40 T (fun z40 => ?_) (fun z40 => ⟨by decide, ?_⟩)
          · unfold wL_law_278 wL_law_280
            exact lp_f6 hL h hP z24 (by omega) (Or.inl z40) go
          · have e2 : nI T - nI T / 2 * 2 = nI (T % 2) := pk_rem (d := 2) (by omega) (by decide) (by decide)
            rw [e2]
            refine pk_eq (T % 2) 1 (fun y => ?_) (fun y => ?_)
            · unfold wL_law_280
              exact lp_f5 hL h hP z24 (by omega) y go
            · unfold wL_law_278 wL_law_280
              exact lp_f6 hL h hP z24 (by omega) (Or.inr (by omega)) go
        · have e3 : nI T - nI T / 3 * 3 = nI (T % 3) := pk_rem (d := 3) (by omega) (by decide) (by decide)
          have e4 : (7 : Int32) - nI T / 3 = nI (7 - T / 3) := by
            rw [show nI T / 3 = nI (T / 3) from pk_div (d := 3) (by omega) (by decide) (by decide)]
            exact pk_sub (a := 7) (by omega)
          rw [e3, e4]
          unfold wL_law_251
          refine nm_e ⟨by decide, pk_eq (T % 3) 0 (fun y => ?_) (fun y => ⟨by decide, pk_eq (T % 3) 1 (fun y1 => ?_) (fun y1 => ?_)⟩)⟩
          · exact lp_f2 hL h hP (by omega) y go
          · exact lp_f1 hL h hP (by omega) y1 go
          · exact lp_f4 hL h hP (by omega) (by omega) go
end
end
section
/-! the start, and what is owed -/
theorem lp_clamp {post : Int32 → Prop} {x lo hi : Nat} (h1 : lo ≤ x) (h2 : x ≤ hi) (hh : hi < 2 ^ 31) (hp : post (nI x)) : wpX_clamp post () (nI x) (nI lo) (nI hi) := br_t (nI_le h1 (by omega)) (br_t (nI_le h2 hh) hp)
theorem lp_init139 {w b mc ms kc ks : Nat} {post : St2 → Prop} (hp : post (nI w, nI b, nI 8, 0, 0, (fun _ => 0), (fun _ => 0), (fun _ => 0), (fun _ => 0), (fun _ => 0), (fun _ => 0), (fun _ => 0), (fun _ => 0), (fun _ => 0), (fun i => nI (lq_c0 64 i)), lq_fp (fun _ => 0) 16)) : ∃ n, wX_init_139 post mc ms kc ks (nI w) (nI b) (nI 8) 0 0 n 0 (fun _ => 0) (fun _ => 0) (fun _ => 0) (fun _ => 0) (fun _ => 0) (fun _ => 0) (fun _ => 0) (fun _ => 0) (fun _ => 0) (fun _ => 0) (fun _ => 0) := by
  have main : ∀ d i n, i + d = 64 → d < n → wX_init_139 post mc ms kc ks (nI w) (nI b) (nI 8) 0 0 n (nI i) (fun _ => 0) (fun _ => 0) (fun _ => 0) (fun _ => 0) (fun _ => 0) (fun _ => 0) (fun _ => 0) (fun _ => 0) (fun _ => 0) (fun iz => nI (lq_c0 i iz)) (fun _ => 0) := by
    intro d
    induction d with
    | zero =>
      intro i n hi hd
      obtain ⟨n, rfl⟩ : ∃ t, n = t + 1 := ⟨n - 1, by omega⟩
      obtain rfl : i = 64 := by omega
      exact br_t (by decide) (lx_forget (c := 0) (q := 0) (m := 8) hp)
    | succ d ih =>
      intro i n hi hd
      obtain ⟨n, rfl⟩ : ∃ t, n = t + 1 := ⟨n - 1, by omega⟩
      refine br_f (nI_ge (b := 64) (by omega) (by decide)) ⟨vp_in_nI (by omega) (by omega), ?_⟩
      rw [nI_clamp (show i < 2 ^ 31 by omega), lq_c01]
      exact nm_e (nm_r (nI_1 i) (ih (i + 1) n (by omega) (by omega)))
  have l := main 64 0 65 (by omega) (by omega)
  rw [lq_c00] at l
  exact ⟨65, l⟩
theorem lp_init {w b : Nat} (hw : 4 ≤ w ∧ w ≤ 8) (hb : 1 ≤ b ∧ b ≤ 4) {post : St2 → Prop} (hp : post (nI w, nI b, nI 8, 0, 0, (fun _ => 0), (fun _ => 0), (fun _ => 0), (fun _ => 0), (fun _ => 0), (fun _ => 0), (fun _ => 0), (fun _ => 0), (fun _ => 0), (fun i => nI (lq_c0 64 i)), lq_fp (fun _ => 0) 16)) : wpX_init post 11 296 (0, 0, 0, 0, 0) (nI w) (nI b) 8 := by
  unfold wpX_init
  refine ⟨by decide, by decide, by decide, by decide, by decide, by decide, by decide, by decide, by decide, by decide, by decide, by decide, by decide, by decide, by decide, by decide, by decide, by decide, by decide, by decide, by decide, by decide, ?_⟩
  exact lp_clamp (lo := 4) (hi := 32) (by omega) (by omega) (by decide) (lp_clamp (lo := 1) (hi := 8) (by omega) (by omega) (by decide) (lp_clamp (x := 8) (lo := 8) (hi := 64) (by omega) (by omega) (by decide) (lp_init139 hp)))
theorem lq_vor8 (f : Nat → Nat) (h : ∀ i, f i < 256) (n : Nat) (hn : n < 8) : lN (lq_vs f n) ||| (nI (f n)).toInt64 <<< ((nI (8 * n)).toInt64 &&& 63) = lN (lq_vs f (n + 1)) := by
  have h1 := h n
  have h2 := lq_vs_lt f h n
  have h3 := lq_vs_lt f h (n + 1)
  have h4 : 2 ^ (8 * (n + 1)) ≤ 2 ^ 64 := Nat.pow_le_pow_right (by decide) (by omega)
  rw [nI_l (by omega), wb_shl _ (by omega)]
  exact g_or' (k := 8 * n) rfl h2 (show lq_vs f (n + 1) < 2 ^ 64 by omega)
theorem lp_I0 : lq_I (fun _ => 0) = 0 := rfl
theorem lp_58 {L : Nat} {xs : Nat → Int32} {w b kc ks : Nat} (hL : L ≤ 260) (hw : 4 ≤ w ∧ w ≤ 8) (hb : 1 ≤ b ∧ b ≤ 4) : ∀ d i f, i + d = 8 → d < f → wL_law_58 (fun r => r = 1) L xs (nI w) (nI b) 0 0 0 kc ks (nI w) (nI b) (nI 8) 0 0 (fun _ => 0) (fun _ => 0) (fun _ => 0) (fun _ => 0) (fun _ => 0) (fun _ => 0) (fun _ => 0) (fun _ => 0) (fun _ => 0) (fun i => nI (lq_c0 64 i)) (lq_fp (fun _ => 0) 16) f (lN (lq_vs (lq_c0 64) i)) (nI i) := by
  intro d
  induction d with
  | zero =>
    intro i f hi hd
    obtain ⟨f, rfl⟩ : ∃ t, f = t + 1 := ⟨f - 1, by omega⟩
    obtain rfl : i = 8 := by omega
    refine br_t (by decide) (nm_r (pk_mul 4 L) ⟨4 * L + 45, ?_⟩)
    have hX : lq_XI w b 8 0 0 (fun _ => 0) (fun _ => 0) (fun _ => 0) (fun _ => 0) (fun _ => 0) (fun _ => 0) (fun _ => 0) (fun _ => 0) (fun _ => 0) (fun _ => 0) (fun _ => 0) (fun _ => 0) (fun _ => 0) (lq_c0 64) := lq_XI0 (by omega) lq_c0lt
    have hI : lp_LI L xs w b 0 0 (fun _ => 0) (fun _ => 0) (fun _ => 0) (fun _ => 0) (fun _ => 0) (fun _ => 0) (fun _ => 0) (fun _ => 0) (fun _ => 0) (fun _ => 0) (fun _ => 0) (fun _ => 0) (fun _ => 0) (lq_c0 64) (fun _ => 0) (fun _ => 0) := ⟨hX, hw.2, hb.2, fun _ => Nat.zero_lt_succ 65535, fun _ => Nat.zero_lt_succ 65535, fun _ _ => rfl, fun i hi => absurd hi (by omega), fun i hi => absurd hi (by omega)⟩
    have l := lp_main (kc := kc) (ks := ks) hL (n := 4 * L) (by omega) (4 * L + 44) 0 (4 * L + 45) (by omega) (by omega) 0 0 _ _ _ _ _ _ _ _ _ _ _ _ _ _ (lq_fp (fun _ => 0) 16) _ _ hI (by rw [Nat.zero_sub]; exact lp_PH0 (by omega))
    have e : lN (lq_vs (lq_c0 64) 8) = lq_L (lq_c0 64) := by
      unfold lq_L
      rw [lq_vw8]
    rw [e]
    exact l
  | succ d ih =>
    intro i f hi hd
    obtain ⟨f, rfl⟩ : ∃ t, f = t + 1 := ⟨f - 1, by omega⟩
    refine br_f (nI_ge (b := 8) (by omega) (by decide)) ?_
    have e1 : (3 : Int32) * nI i + 1 = nI (lq_c0 64 i) := by
      rw [show (3 : Int32) * nI i = nI (3 * i) from pk_mul 3 i, nI_1]
      exact congrArg nI (if_pos (show i < 64 by omega)).symm
    rw [e1, show (8 : Int32) * nI i = nI (8 * i) from pk_mul 8 i, lq_vor8 (lq_c0 64) lq_c0lt i (by omega)]
    exact nm_e (nm_r (nI_1 i) (ih (i + 1) f (by omega) (by omega)))
theorem i_vc (xs : Nat → Int32) (L : Nat) (hL : L ≤ 260) : wpL_law (fun r => r = 1) L xs := by
  unfold wpL_law
  refine lp_cellw (n := 0) hL (by omega) (lp_mixw _ _ ⟨by decide, ?_⟩)
  generalize lp_mix (lp_cell L xs 0) 77 = hh
  obtain ⟨x, hx, ex⟩ := pk_andE ((hh.toUInt32 >>> ((16 : Int32).toUInt32 &&& Int32.toUInt32 31)).toInt32) (m := 255) 8 (by decide)
  obtain ⟨y, hy, ey⟩ := pk_andE hh (m := 3) 2 (by decide)
  have e5 : nI x - nI x / 5 * 5 = nI (x % 5) := pk_rem (d := 5) (by omega) (by decide) (by decide)
  rw [ex, ey, e5]
  have x5 : x % 5 < 5 := Nat.mod_lt _ (by decide)
  refine nm_r (nI_add 4 (x % 5)) (nm_r (nI_add 1 y) ⟨11, 296, by decide, by decide, ?_⟩)
  exact lp_init (w := 4 + x % 5) (b := 1 + y) (by omega) (by omega) ⟨9, lp_58 hL (by omega) (by omega) 8 0 9 (by omega) (by omega)⟩
end
