section
/-! rows taken from kit/rows (starting texts) -/
theorem pk_us {f : Nat → Int32} {k : Nat} {x : Int32} : upd f k x k = x := if_pos rfl
theorem pk_un {f : Nat → Int32} {k j : Nat} {x : Int32} (h : j ≠ k) : upd f k x j = f j := if_neg h
theorem pk_uLs {f : Nat → Int64} {k : Nat} {x : Int64} : vp_updL f k x k = x := if_pos rfl
theorem pk_uLn {f : Nat → Int64} {k j : Nat} {x : Int64} (h : j ≠ k) : vp_updL f k x j = f j := if_neg h
theorem pk_sub {a b : Nat} (h : b ≤ a) : nI a - nI b = nI (a - b) := by
  obtain ⟨c, rfl⟩ : ∃ c, a = c + b := ⟨a - b, by omega⟩
  rw [← nI_add, Int32.add_sub_cancel, Nat.add_sub_cancel]
theorem pk_m1 (n : Nat) : nI (n + 1) + (-1) = nI n := by
  rw [← nI_1, Int32.add_assoc, show (1 : Int32) + (-1) = 0 from rfl, Int32.add_zero]
theorem pk_mul (a b : Nat) : nI a * nI b = nI (a * b) := (Int32.ofNat_mul a b).symm
theorem pk_div {a d : Nat} (ha : a < 2 ^ 31) (h0 : 0 < d) (hd : d < 2 ^ 31) : nI a / nI d = nI (a / d) := by
  apply Int32.toInt_inj.mp
  rw [lg_idiv_nonneg (by rw [nI_toInt ha]; omega) (by rw [nI_toInt hd]; omega), nI_toInt ha, nI_toInt hd, nI_toInt (Nat.lt_of_le_of_lt (Nat.div_le_self a d) ha)]
  first | rfl | exact (Int.natCast_ediv _ _).symm
theorem pk_sub_toInt {a b : Nat} (ha : a < 2 ^ 30) (hb : b < 2 ^ 30) : (nI a - nI b).toInt = (a : Int) - b := by
  rw [Int32.toInt_sub, nI_toInt (by omega), nI_toInt (by omega)]
  exact Int.bmod_eq_of_le (by omega) (by omega)
theorem pk_ix (x : Int32) {n : Nat} (hn : n < 2 ^ 31) : x < 0 ∨ nI n ≤ x ∨ ∃ j : Nat, j < n ∧ x = nI j := by
  by_cases h : x < 0
  · exact Or.inl h
  · obtain ⟨j, hj, rfl⟩ := nI_of h
    by_cases h2 : j < n
    · exact Or.inr (Or.inr ⟨j, h2, rfl⟩)
    · exact Or.inr (Or.inl (nI_le (by omega) hj))
theorem pk_le {x y : Int32} {A B : Prop} (a b : Nat) (f : a ≤ b → A) (g : b < a → B) (hx : x = nI a := by rfl) (hy : y = nI b := by rfl) (ha : a < 2 ^ 31 := by omega) (hb : b < 2 ^ 31 := by omega) : (x ≤ y → A) ∧ (¬ x ≤ y → B) := by
  subst hx hy
  rw [nI_leI ha hb]
  exact ⟨f, fun z => g (by omega)⟩
theorem pk_lt {x y : Int32} {A B : Prop} (a b : Nat) (f : a < b → A) (g : b ≤ a → B) (hx : x = nI a := by rfl) (hy : y = nI b := by rfl) (ha : a < 2 ^ 31 := by omega) (hb : b < 2 ^ 31 := by omega) : (x < y → A) ∧ (¬ x < y → B) := by
  subst hx hy
  rw [nI_ltI ha hb]
  exact ⟨f, fun z => g (by omega)⟩
theorem pk_eq {x y : Int32} {A B : Prop} (a b : Nat) (f : a = b → A) (g : a ≠ b → B) (hx : x = nI a := by rfl) (hy : y = nI b := by rfl) (ha : a < 2 ^ 31 := by omega) (hb : b < 2 ^ 31 := by omega) : (x = y → A) ∧ (¬ x = y → B) := by
  subst hx hy
  rw [nI_eq ha hb]
  exact ⟨f, g⟩
theorem pk_in {x : Int32} (n N : Nat) (h : n < N) (hx : x = nI n := by rfl) (hN : N < 2 ^ 31 := by omega) : vp_in x N := by
  subst hx
  exact vp_in_nI h hN
theorem pk_cl {x : Int32} (n : Nat) (hx : x = nI n := by rfl) (h : n < 2 ^ 31 := by omega) : x.toNatClampNeg = n := by
  subst hx
  exact nI_clamp h
theorem pk_tn {n : Nat} (h : n < 2 ^ 32) : (nI n).toBitVec.toNat = n := Nat.mod_eq_of_lt h
theorem pk_and (x : Int32) {m : Int32} (k : Nat) (hm : m.toBitVec.toNat = 2 ^ k - 1) : x &&& m = nI (x.toBitVec.toNat % 2 ^ k) := by
  apply Int32.toBitVec_inj.mp
  apply BitVec.eq_of_toNat_eq
  rw [Int32.toBitVec_and, BitVec.toNat_and, hm, Nat.and_two_pow_sub_one_eq_mod]
  show _ = (BitVec.ofNat 32 _).toNat
  rw [BitVec.toNat_ofNat]
  exact (Nat.mod_eq_of_lt (Nat.lt_of_le_of_lt (Nat.mod_le _ _) x.toBitVec.isLt)).symm
theorem pk_andN {n : Nat} (h : n < 2 ^ 32) {m : Int32} (k : Nat) (hm : m.toBitVec.toNat = 2 ^ k - 1) : nI n &&& m = nI (n % 2 ^ k) := by
  rw [pk_and _ k hm, pk_tn h]
theorem pk_loop {σ : Type} (W : Nat → Nat → σ → Prop) (I : Nat → σ → Prop) (e i0 : Nat) (s : σ) (hi : i0 ≤ e) (h0 : I i0 s) (hx : ∀ n s, I e s → W (n + 1) e s)
    (hs : ∀ n i s, i < e → I i s → (∀ s', I (i + 1) s' → W n (i + 1) s') → W (n + 1) i s) : ∃ n, W n i0 s :=
  ⟨e + 1, loop_i W I e hx hs (e + 1) i0 s hi (by omega) h0⟩
theorem pk_loopD {σ : Type} (W : Nat → Nat → σ → Prop) (I : Nat → σ → Prop) (hx : ∀ n s, I 0 s → W (n + 1) 0 s)
    (hs : ∀ n i s, I (i + 1) s → (∀ s', I i s' → W n i s') → W (n + 1) (i + 1) s) : ∀ (e : Nat) (s : σ), I e s → W (e + 1) e s := by
  intro e
  induction e with
  | zero => exact fun s h => hx 0 s h
  | succ e ih => exact fun s h => hs (e + 1) e s h (fun s' h' => ih s' h')
def bt (x : Int32) (i : Nat) : Bool := x.toBitVec.getLsbD i
theorem b_ext {x y : Int32} (h : ∀ i, i < 32 → bt x i = bt y i) : x = y := Int32.toBitVec_inj.mp (BitVec.eq_of_getLsbD_eq (fun i hi => h i hi))
theorem b_and (x y : Int32) (i : Nat) : bt (x &&& y) i = (bt x i && bt y i) := by unfold bt; rw [Int32.toBitVec_and, BitVec.getLsbD_and]
theorem b_big {x : Int32} {i : Nat} (h : 32 ≤ i) : bt x i = false := BitVec.getLsbD_of_ge _ _ h
theorem b_255 (i : Nat) : bt 255 i = decide (i < 8) := by
  rcases Nat.lt_or_ge i 32 with h | h
  · exact (by decide +kernel : ∀ i, i < 32 → bt 255 i = decide (i < 8)) i h
  · rw [b_big h, decide_eq_false (by omega)]
theorem s_l : ∀ n, n < 32 → ((nI n &&& 31).toBitVec.smod 32).toNat = n := by decide +kernel
theorem b_sshr (n : Nat) (hn : n < 32) (x : Int32) {i : Nat} (hi : i < 32) : bt (x >>> (nI n &&& 31)) i = if n + i < 32 then bt x (n + i) else bt x 31 := by
  unfold bt
  rw [Int32.toBitVec_shiftRight]
  show (x.toBitVec.sshiftRight ((nI n &&& 31).toBitVec.smod 32).toNat).getLsbD i = _
  rw [s_l n hn, BitVec.getLsbD_sshiftRight, BitVec.msb_eq_getLsbD_last]
  simp [hi]
theorem wb_tb (n : Nat) : (lN n).toBitVec = BitVec.ofNat 64 n := rfl
theorem wb_inj {a b : Int64} (h : a.toBitVec = b.toBitVec) : a = b := Int64.toBitVec_inj.mp h
theorem wb_tn {n : Nat} (h : n < 2 ^ 64) : (lN n).toBitVec.toNat = n := by rw [wb_tb, BitVec.toNat_ofNat, Nat.mod_eq_of_lt h]
theorem wb_of (x : Int64) : ∃ n, n < 2 ^ 64 ∧ x = lN n := ⟨x.toBitVec.toNat, x.toBitVec.isLt, wb_inj (by rw [wb_tb]; simp)⟩
theorem wb_c : ∀ k, k < 64 → ((nI k).toInt64 &&& 63) = lN k := by decide +kernel
theorem wb_cu : ∀ k, k < 64 → ((nI k).toInt64.toUInt64 &&& Int64.toUInt64 63) = UInt64.ofNat k := by decide +kernel
theorem wb_sm : ∀ k, k < 64 → (BitVec.ofNat 64 k).smod 64 = BitVec.ofNat 64 k := by decide +kernel
theorem wb_lt2 {a b : Nat} (h : a < b) : 2 ^ a < 2 ^ b := Nat.pow_lt_pow_right (by decide) h
theorem wb_shr {n k : Nat} (hn : n < 2 ^ 64) (hk : k < 64) : ((lN n).toUInt64 >>> ((nI k).toInt64.toUInt64 &&& Int64.toUInt64 63)).toInt64 = lN (n / 2 ^ k) := by
  rw [wb_cu k hk]
  apply wb_inj
  apply BitVec.eq_of_toNat_eq
  show ((lN n).toUInt64 >>> UInt64.ofNat k).toNat = (BitVec.ofNat 64 _).toNat
  have h1 : (UInt64.ofNat k).toNat = k := by
    show (BitVec.ofNat 64 k).toNat = k
    rw [BitVec.toNat_ofNat, Nat.mod_eq_of_lt (by omega)]
  have h2 : (lN n).toUInt64.toNat = n := wb_tn hn
  rw [UInt64.toNat_shiftRight, h1, h2, Nat.mod_eq_of_lt hk, Nat.shiftRight_eq_div_pow, BitVec.toNat_ofNat, Nat.mod_eq_of_lt (Nat.lt_of_le_of_lt (Nat.div_le_self _ _) hn)]
theorem wb_shl (n : Nat) {k : Nat} (hk : k < 64) : lN n <<< ((nI k).toInt64 &&& 63) = lN (n * 2 ^ k) := by
  rw [wb_c k hk]
  apply wb_inj
  rw [Int64.toBitVec_shiftLeft, wb_tb, wb_tb, wb_tb, wb_sm k hk]
  apply BitVec.eq_of_toNat_eq
  rw [BitVec.shiftLeft_eq', BitVec.toNat_shiftLeft, BitVec.toNat_ofNat, BitVec.toNat_ofNat, BitVec.toNat_ofNat, Nat.mod_eq_of_lt (show k < 2 ^ 64 by omega), Nat.shiftLeft_eq, Nat.mul_mod, Nat.mod_mod, ← Nat.mul_mod]
theorem wb_and {a b : Nat} (ha : a < 2 ^ 64) (hb : b < 2 ^ 64) : lN a &&& lN b = lN (a &&& b) := by
  apply wb_inj
  rw [Int64.toBitVec_and, wb_tb, wb_tb, wb_tb]
  apply BitVec.eq_of_toNat_eq
  rw [BitVec.toNat_and, BitVec.toNat_ofNat, BitVec.toNat_ofNat, BitVec.toNat_ofNat, Nat.mod_eq_of_lt ha, Nat.mod_eq_of_lt hb, Nat.mod_eq_of_lt (Nat.and_lt_two_pow _ hb)]
theorem wb_mask {n k : Nat} (hn : n < 2 ^ 64) (hk : k < 64) : lN n &&& lN (2 ^ k - 1) = lN (n % 2 ^ k) := by
  rw [wb_and hn (by have := wb_lt2 hk; omega), Nat.and_two_pow_sub_one_eq_mod]
theorem u_tn {n : Nat} (h : n < 2 ^ 64) : (UInt64.ofNat n).toNat = n := Nat.mod_eq_of_lt h
theorem g_or {k p a b : Nat} (hp : 2 ^ k = p) (ha : a < p) (h : b * p + a < 2 ^ 64) : lN (b * p) ||| lN a = lN (b * p + a) := by
  subst hp
  have h1 : b * 2 ^ k ||| a = b * 2 ^ k + a := by rw [← Nat.shiftLeft_eq, Nat.shiftLeft_add_eq_or_of_lt ha]
  have h3 : UInt64.ofNat (b * 2 ^ k) ||| UInt64.ofNat a = UInt64.ofNat (b * 2 ^ k + a) := UInt64.toNat_inj.mp (by rw [UInt64.toNat_or, u_tn (by omega), u_tn (by omega), u_tn h, h1])
  have h2 := congrArg UInt64.toInt64 h3
  exact h2
theorem g_or' {k p a b : Nat} (hp : 2 ^ k = p) (ha : a < p) (h : a + b * p < 2 ^ 64) : lN a ||| lN (b * p) = lN (a + b * p) := by
  rw [Int64.or_comm, g_or hp ha (by omega), Nat.add_comm]
end
section
/-! bytes of an int, values of up to four bytes -/
def lq_by (d : Int32) (i : Nat) : Nat := d.toBitVec.toNat / 2 ^ (8 * i) % 256
def lq_lo (d : Int32) (s : Nat) : Nat := d.toBitVec.toNat % 2 ^ (8 * s)
def lq_vs (f : Nat → Nat) : Nat → Nat
  | 0 => 0
  | n + 1 => lq_vs f n + f n * 2 ^ (8 * n)
theorem lq_by_lt (d : Int32) (i : Nat) : lq_by d i < 256 := Nat.mod_lt _ (by decide)
theorem lq_pw (n : Nat) : 2 ^ (8 * (n + 1)) = 2 ^ (8 * n) * 256 := by
  rw [show 8 * (n + 1) = 8 * n + 8 by omega, Nat.pow_add]
theorem lq_vs_lt (f : Nat → Nat) (h : ∀ i, f i < 256) : ∀ n, lq_vs f n < 2 ^ (8 * n)
  | 0 => Nat.two_pow_pos _
  | n + 1 => by
    have h1 := lq_vs_lt f h n
    have hf := h n
    rw [lq_pw]
    show lq_vs f n + f n * 2 ^ (8 * n) < _
    generalize 2 ^ (8 * n) = q at *
    have h2 : f n * q ≤ 255 * q := Nat.mul_le_mul_right q (by omega)
    omega
theorem lq_vs_cong {f g : Nat → Nat} : ∀ n, (∀ i, i < n → f i = g i) → lq_vs f n = lq_vs g n
  | 0, _ => rfl
  | n + 1, h => by
    show lq_vs f n + f n * 2 ^ (8 * n) = lq_vs g n + g n * 2 ^ (8 * n)
    rw [lq_vs_cong n (fun i hi => h i (by omega)), h n (by omega)]
theorem lq_vs_by (d : Int32) : ∀ s, lq_vs (lq_by d) s = lq_lo d s
  | 0 => by
    show 0 = _ % 2 ^ (8 * 0)
    rw [Nat.mul_zero, Nat.pow_zero, Nat.mod_one]
  | s + 1 => by
    show lq_vs (lq_by d) s + lq_by d s * 2 ^ (8 * s) = _
    rw [lq_vs_by d s]
    unfold lq_lo lq_by
    rw [lq_pw, Nat.mod_mul, Nat.mul_comm (2 ^ (8 * s))]
theorem lq_lo_by (d : Int32) {o s : Nat} (h : o < s) : lq_lo d s / 2 ^ (8 * o) % 256 = lq_by d o := by
  unfold lq_lo lq_by
  generalize d.toBitVec.toNat = n
  show n % 2 ^ (8 * s) / 2 ^ (8 * o) % 2 ^ 8 = n / 2 ^ (8 * o) % 2 ^ 8
  apply Nat.eq_of_testBit_eq
  intro i
  rw [Nat.testBit_mod_two_pow, Nat.testBit_mod_two_pow, Nat.testBit_div_two_pow, Nat.testBit_div_two_pow, Nat.testBit_mod_two_pow]
  by_cases hi : i < 8
  · have h1 : 8 * o + i < 8 * s := by omega
    have h2 : i + 8 * o < 8 * s := by omega
    simp [hi, h1, h2]
  · simp [hi]
theorem lq_lo_lt (d : Int32) {s : Nat} (h : s ≤ 4) : lq_lo d s < 2 ^ 32 :=
  Nat.lt_of_lt_of_le (Nat.mod_lt _ (Nat.two_pow_pos _)) (Nat.pow_le_pow_right (by decide) (by omega))
theorem lq_yb (d : Int32) {n : Nat} (hn : n < 4) : (d >>> (nI (8 * n) &&& 31)) &&& 255 = nI (lq_by d n) := by
  apply b_ext
  intro i hi
  rw [b_and, b_255, b_sshr (8 * n) (by omega) d hi]
  unfold bt lq_by
  show _ = (BitVec.ofNat 32 (d.toBitVec.toNat / 2 ^ (8 * n) % 2 ^ 8)).getLsbD i
  rw [BitVec.getLsbD_ofNat, Nat.testBit_mod_two_pow, Nat.testBit_div_two_pow, BitVec.testBit_toNat]
  by_cases h8 : i < 8
  · have h1 : 8 * n + i < 32 := by omega
    rw [if_pos h1, Nat.add_comm]
    simp [h8, hi]
  · simp [h8]
theorem lq_xb {m n : Nat} (hm : m < 2 ^ 32) (hn : n < 4) : (((lN m).toUInt64 >>> ((nI (8 * n)).toInt64.toUInt64 &&& Int64.toUInt64 63)).toInt64).toInt32 &&& 255 = nI (m / 2 ^ (8 * n) % 256) := by
  show _ = nI (m / 2 ^ (8 * n) % 2 ^ 8)
  rw [wb_shr (by omega) (by omega), lN_i, pk_andN (Nat.lt_of_le_of_lt (Nat.div_le_self _ _) hm) 8 (by decide)]
theorem lq_sxm (d : Int32) : d.toInt64.toBitVec.toNat % 4294967296 = d.toBitVec.toNat := by
  have hd := d.toBitVec.isLt
  rw [Int32.toBitVec_toInt64, BitVec.toNat_signExtend, BitVec.toNat_setWidth]
  split <;> omega
theorem lq_low (d : Int32) {s : Nat} (hs : s = 1 ∨ s = 2 ∨ s = 4) : d.toInt64 &&& ((4294967295 : Int64).toUInt64 >>> ((32 - 8 * nI s).toInt64.toUInt64 &&& Int64.toUInt64 63)).toInt64 = lN (lq_lo d s) := by
  have e : ((4294967295 : Int64).toUInt64 >>> ((32 - 8 * nI s).toInt64.toUInt64 &&& Int64.toUInt64 63)).toInt64 = lN (2 ^ (8 * s) - 1) := by
    rcases hs with rfl | rfl | rfl <;> decide +kernel
  have h1 := lq_sxm d
  have h2 : d.toInt64 = lN d.toInt64.toBitVec.toNat := wb_inj (by rw [wb_tb]; simp)
  have h3 := d.toInt64.toBitVec.isLt
  rw [e, h2]
  generalize d.toInt64.toBitVec.toNat = n at *
  rw [wb_mask h3 (by omega)]
  unfold lq_lo
  generalize d.toBitVec.toNat = m at *
  rcases hs with rfl | rfl | rfl
  · exact congrArg lN (show n % 256 = m % 256 by omega)
  · exact congrArg lN (show n % 65536 = m % 65536 by omega)
  · exact congrArg lN (show n % 4294967296 = m % 4294967296 by omega)
/-- a step of the sum, and of the 'or' -/
theorem lq_vadd (f : Nat → Nat) (n : Nat) (hn : n < 4) (hf : f n < 256) : lN (lq_vs f n) + (nI (f n)).toInt64 <<< ((nI (8 * n)).toInt64 &&& 63) = lN (lq_vs f (n + 1)) := by
  rw [nI_l (by omega), wb_shl _ (by omega), lN_add]
  rfl
theorem lq_vor (f : Nat → Nat) (h : ∀ i, f i < 256) (n : Nat) (hn : n < 4) : lN (lq_vs f n) ||| (nI (f n)).toInt64 <<< ((nI (8 * n)).toInt64 &&& 63) = lN (lq_vs f (n + 1)) := by
  have h1 := h n
  have h2 := lq_vs_lt f h n
  have h3 := lq_vs_lt f h (n + 1)
  have h4 : 2 ^ (8 * (n + 1)) ≤ 2 ^ 32 := Nat.pow_le_pow_right (by decide) (by omega)
  rw [nI_l (by omega), wb_shl _ (by omega)]
  exact g_or' (k := 8 * n) rfl h2 (show lq_vs f (n + 1) < 2 ^ 64 by omega)
end
section
/-! the window: who covers a cell, the source, the byte that a position sees -/
def lq_un (f : Nat → Nat) (k x : Nat) : Nat → Nat := fun j => if j = k then x else f j
theorem lq_us {f : Nat → Nat} {k x : Nat} : lq_un f k x k = x := if_pos rfl
theorem lq_ui {f : Nat → Nat} {k x j : Nat} (h : j ≠ k) : lq_un f k x j = f j := if_neg h
theorem lq_upd (f : Nat → Nat) (k x : Nat) : upd (fun i => nI (f i)) k (nI x) = fun i => nI (lq_un f k x i) := by
  funext j
  unfold upd lq_un
  split <;> rfl
abbrev lq_cov (k s kn ad : Nat → Nat) (c i : Nat) : Prop := k i = 1 ∧ kn i = 1 ∧ ad i ≤ c ∧ c < ad i + s i
def lq_src (k s kn ad : Nat → Nat) (c : Nat) : Nat → Option Nat
  | 0 => none
  | p + 1 => if lq_cov k s kn ad c p then some p else lq_src k s kn ad c p
def lq_lb (k s kn ad : Nat → Nat) (D : Nat → Int32) (base : Nat → Nat) (c : Nat) : Nat → Nat
  | 0 => base c
  | p + 1 => if lq_cov k s kn ad c p then lq_by (D p) (c - ad p) else lq_lb k s kn ad D base c p
def lq_ar (k s r kn ad : Nat → Nat) (c : Nat) : Nat → Prop
  | 0 => True
  | p + 1 => (lq_cov k s kn ad c p → r p = 1) ∧ (¬ lq_cov k s kn ad c p → lq_ar k s r kn ad c p)
def lq_en : Option Nat → Int32
  | none => -1
  | some i => nI i
theorem lq_lb_lt (k s kn ad : Nat → Nat) (D : Nat → Int32) (base : Nat → Nat) (c : Nat) (hb : base c < 256) : ∀ p, lq_lb k s kn ad D base c p < 256
  | 0 => hb
  | p + 1 => by
    unfold lq_lb
    split
    · exact lq_by_lt _ _
    · exact lq_lb_lt k s kn ad D base c hb p
theorem lq_src_lt {k s kn ad : Nat → Nat} {c i : Nat} : ∀ p, lq_src k s kn ad c p = some i → i < p ∧ lq_cov k s kn ad c i
  | 0, h => by cases h
  | p + 1, h => by
    unfold lq_src at h
    by_cases z : lq_cov k s kn ad c p
    · rw [if_pos z] at h
      cases h
      exact ⟨by omega, z⟩
    · rw [if_neg z] at h
      have := lq_src_lt p h
      exact ⟨by omega, this.2⟩
theorem lq_lb_none {k s kn ad : Nat → Nat} {D : Nat → Int32} {base : Nat → Nat} {c : Nat} : ∀ p, lq_src k s kn ad c p = none → lq_lb k s kn ad D base c p = base c
  | 0, _ => rfl
  | p + 1, h => by
    unfold lq_src at h
    unfold lq_lb
    by_cases z : lq_cov k s kn ad c p
    · rw [if_pos z] at h
      cases h
    · rw [if_neg z] at h
      rw [if_neg z]
      exact lq_lb_none p h
theorem lq_lb_some {k s kn ad : Nat → Nat} {D : Nat → Int32} {base : Nat → Nat} {c i : Nat} : ∀ p, lq_src k s kn ad c p = some i → lq_lb k s kn ad D base c p = lq_by (D i) (c - ad i)
  | 0, h => by cases h
  | p + 1, h => by
    unfold lq_src at h
    unfold lq_lb
    by_cases z : lq_cov k s kn ad c p
    · rw [if_pos z] at h
      cases h
      rw [if_pos z]
    · rw [if_neg z] at h
      rw [if_neg z]
      exact lq_lb_some p h
theorem lq_ar_src {k s r kn ad : Nat → Nat} {c : Nat} : ∀ p, lq_ar k s r kn ad c p ↔ ∀ i, lq_src k s kn ad c p = some i → r i = 1
  | 0 => ⟨fun _ i h => (by cases h), fun _ => True.intro⟩
  | p + 1 => by
    unfold lq_src lq_ar
    by_cases z : lq_cov k s kn ad c p
    · rw [if_pos z]
      exact ⟨fun h i e => by cases e; exact h.1 z, fun h => ⟨fun _ => h p rfl, fun n => absurd z n⟩⟩
    · rw [if_neg z]
      have := lq_ar_src (k := k) (s := s) (r := r) (kn := kn) (ad := ad) (c := c) p
      exact ⟨fun h => this.mp (h.2 z), fun h => ⟨fun y => absurd y z, fun _ => this.mpr h⟩⟩
/-- what a ready load saw, it still sees -/
theorem lq_keep {k s r kn ad k' s' r' kn' ad' : Nat → Nat} {D D' : Nat → Int32} {base base' : Nat → Nat} {c : Nat} : ∀ p, (∀ i, i < p → (lq_cov k s kn ad c i ↔ lq_cov k' s' kn' ad' c i)) → (∀ i, i < p → lq_cov k s kn ad c i → r i = 1 → r' i = 1 ∧ lq_by (D' i) (c - ad' i) = lq_by (D i) (c - ad i)) → base' c = base c → lq_ar k s r kn ad c p → lq_ar k' s' r' kn' ad' c p ∧ lq_lb k' s' kn' ad' D' base' c p = lq_lb k s kn ad D base c p
  | 0, _, _, hb, _ => ⟨True.intro, hb⟩
  | p + 1, hc, hD, hb, ha => by
    unfold lq_ar at ha
    unfold lq_ar lq_lb
    by_cases z : lq_cov k s kn ad c p
    · have z' := (hc p (by omega)).mp z
      have e := hD p (by omega) z (ha.1 z)
      rw [if_pos z, if_pos z']
      exact ⟨⟨fun _ => e.1, fun n => absurd z' n⟩, e.2⟩
    · have z' : ¬ lq_cov k' s' kn' ad' c p := fun y => z ((hc p (by omega)).mpr y)
      have ih := lq_keep p (fun i hi => hc i (by omega)) (fun i hi => hD i (by omega)) hb (ha.2 z)
      rw [if_neg z, if_neg z']
      exact ⟨⟨fun y => absurd y z', fun _ => ih.1⟩, ih.2⟩
/-- a store's address becomes known: a load draws from it, or sees what it saw -/
theorem lq_new {k s r kn ad kn' ad' : Nat → Nat} {D : Nat → Int32} {base : Nat → Nat} {c p : Nat} (hn : ¬ lq_cov k s kn ad c p) (hk : ∀ i, i ≠ p → kn' i = kn i ∧ ad' i = ad i) : ∀ j, lq_src k s kn' ad' c j = some p ∨ ((lq_ar k s r kn ad c j → lq_ar k s r kn' ad' c j) ∧ lq_lb k s kn' ad' D base c j = lq_lb k s kn ad D base c j)
  | 0 => Or.inr ⟨id, rfl⟩
  | j + 1 => by
    have ih := lq_new hn hk (r := r) (D := D) (base := base) j
    unfold lq_src lq_ar lq_lb
    by_cases hj : j = p
    · subst hj
      by_cases z : lq_cov k s kn' ad' c j
      · rw [if_pos z]
        exact Or.inl rfl
      · rw [if_neg z, if_neg z, if_neg hn]
        rcases ih with ih | ih
        · exact Or.inl ih
        · exact Or.inr ⟨fun h => ⟨fun y => absurd y z, fun _ => ih.1 (h.2 hn)⟩, ih.2⟩
    · have e : lq_cov k s kn' ad' c j ↔ lq_cov k s kn ad c j := by
        unfold lq_cov
        rw [(hk j hj).1, (hk j hj).2]
      by_cases z : lq_cov k s kn ad c j
      · have z' := e.mpr z
        rw [if_pos z', if_pos z', if_pos z, (hk j hj).2]
        exact Or.inr ⟨fun h => ⟨fun _ => h.1 z, fun n => absurd z' n⟩, rfl⟩
      · have z' : ¬ lq_cov k s kn' ad' c j := fun y => z (e.mp y)
        rw [if_neg z', if_neg z', if_neg z]
        rcases ih with ih | ih
        · exact Or.inl ih
        · exact Or.inr ⟨fun h => ⟨fun y => absurd y z', fun _ => ih.1 (h.2 z)⟩, ih.2⟩
/-- the oldest leaves the window -/
theorem lq_shift {k s r kn ad k' s' r' kn' ad' : Nat → Nat} {D D' : Nat → Int32} {base base' : Nat → Nat} {c : Nat} (hb : base' c = lq_lb k s kn ad D base c 1) : ∀ j, (∀ i, i < j → k' i = k (i + 1) ∧ s' i = s (i + 1) ∧ r' i = r (i + 1) ∧ kn' i = kn (i + 1) ∧ ad' i = ad (i + 1) ∧ D' i = D (i + 1)) → (lq_ar k s r kn ad c (j + 1) → lq_ar k' s' r' kn' ad' c j) ∧ lq_lb k' s' kn' ad' D' base' c j = lq_lb k s kn ad D base c (j + 1)
  | 0, _ => ⟨fun _ => True.intro, hb⟩
  | j + 1, h => by
    have ih := lq_shift hb j (fun i hi => h i (by omega))
    obtain ⟨h1, h2, h3, h4, h5, h6⟩ := h j (by omega)
    have e : lq_cov k' s' kn' ad' c j ↔ lq_cov k s kn ad c (j + 1) := by
      unfold lq_cov
      rw [h1, h2, h4, h5]
    rw [lq_ar.eq_def k s r kn ad c (j + 1 + 1), lq_lb.eq_def k s kn ad D base c (j + 1 + 1), lq_ar.eq_def k' s' r' kn' ad' c (j + 1), lq_lb.eq_def k' s' kn' ad' D' base' c (j + 1)]
    dsimp only
    by_cases z : lq_cov k s kn ad c (j + 1)
    · have z' := e.mpr z
      rw [if_pos z', if_pos z, h5, h6, h3]
      exact ⟨fun h => ⟨fun _ => h.1 z, fun n => absurd z' n⟩, rfl⟩
    · have z' : ¬ lq_cov k' s' kn' ad' c j := fun y => z (e.mp y)
      rw [if_neg z', if_neg z]
      exact ⟨fun h => ⟨fun y => absurd y z', fun _ => ih.1 (h.2 z)⟩, ih.2⟩
/-! the buffer -/
def lq_mb (bs ba : Nat → Nat) (BD : Nat → Int32) (ce : Nat → Nat) (a : Nat) : Nat → Nat
  | 0 => ce a
  | n + 1 => if ba n ≤ a ∧ a < ba n + bs n then lq_by (BD n) (a - ba n) else lq_mb bs ba BD ce a n
theorem lq_mb_lt (bs ba : Nat → Nat) (BD : Nat → Int32) (ce : Nat → Nat) (a : Nat) (h : ce a < 256) : ∀ n, lq_mb bs ba BD ce a n < 256
  | 0 => h
  | n + 1 => by
    unfold lq_mb
    split
    · exact lq_by_lt _ _
    · exact lq_mb_lt bs ba BD ce a h n
theorem lq_mb_cong {bs ba bs' ba' : Nat → Nat} {BD BD' : Nat → Int32} {ce : Nat → Nat} {a : Nat} : ∀ n, (∀ i, i < n → bs' i = bs i ∧ ba' i = ba i ∧ BD' i = BD i) → lq_mb bs' ba' BD' ce a n = lq_mb bs ba BD ce a n
  | 0, _ => rfl
  | n + 1, h => by
    obtain ⟨h1, h2, h3⟩ := h n (by omega)
    unfold lq_mb
    rw [h1, h2, h3, lq_mb_cong n (fun i hi => h i (by omega))]
theorem lq_mb_shift {bs ba bs' ba' : Nat → Nat} {BD BD' : Nat → Int32} {ce ce' : Nat → Nat} {a : Nat} (hc : ce' a = lq_mb bs ba BD ce a 1) : ∀ n, (∀ i, i < n → bs' i = bs (i + 1) ∧ ba' i = ba (i + 1) ∧ BD' i = BD (i + 1)) → lq_mb bs' ba' BD' ce' a n = lq_mb bs ba BD ce a (n + 1)
  | 0, _ => hc
  | n + 1, h => by
    obtain ⟨h1, h2, h3⟩ := h n (by omega)
    rw [lq_mb.eq_def bs' ba' BD' ce' a (n + 1), lq_mb.eq_def bs ba BD ce a (n + 1 + 1)]
    dsimp only
    rw [h1, h2, h3, lq_mb_shift hc n (fun i hi => h i (by omega))]
end
section
/-! the sets: names on one side, pairs on the other -/
theorem lq_m1 {n : Nat} (h : n < 2 ^ 31) : nI n ≠ -1 := by
  intro e
  have := congrArg Int32.toInt e
  rw [nI_toInt h, show (-1 : Int32).toInt = -1 from by decide] at this
  omega
def lq_S4 (st : Nat → Int32) : Prop := ∀ x, x < 16 → st x = -1 ∨ ∃ n, n < 16 ∧ st x = nI n ∧ st n = nI n
def lq_S (st : Nat → Int32) (pr : Nat → Nat) : Prop :=
  (∀ x y, x < 16 → y < 16 → pr (16 * x + y) = 1 → st x ≠ -1 ∧ st x = st y) ∧
  (∀ Q : Nat → Prop, (∀ x y, x < 16 → y < 16 → pr (16 * x + y) = 1 → Q x → Q y) → ∀ x y, x < 16 → y < 16 → st x ≠ -1 → st x = st y → Q x → Q y) ∧
  (∀ x, x < 16 → st x ≠ -1 → ∃ y, y < 16 ∧ pr (16 * x + y) = 1) ∧ lq_S4 st
def lq_nm (st : Nat → Int32) (a : Nat) : Nat → Int32 := if st a = -1 then upd st a (nI a) else st
theorem lq_nm0 {st : Nat → Int32} {a x : Nat} (h : st x ≠ -1) : lq_nm st a x = st x := by
  unfold lq_nm
  split
  · rename_i z
    exact pk_un (fun e => h (by rw [e]; exact z))
  · rfl
theorem lq_nm1 {st : Nat → Int32} {a : Nat} (ha : a < 16) : lq_nm st a a ≠ -1 := by
  unfold lq_nm
  split
  · rw [pk_us]
    exact lq_m1 (by omega)
  · assumption
theorem lq_nm2 {st : Nat → Int32} {a x : Nat} (h : st x = -1) (hx : x ≠ a) : lq_nm st a x = -1 := by
  unfold lq_nm
  split
  · rw [pk_un hx]
    exact h
  · exact h
theorem lq_nm3 {st : Nat → Int32} {a : Nat} (ha : a < 16) (h4 : lq_S4 st) : lq_S4 (lq_nm st a) := by
  intro x hx
  by_cases z : st a = -1
  · by_cases e : x = a
    · subst e
      refine Or.inr ⟨x, hx, ?_, ?_⟩ <;> (unfold lq_nm; rw [if_pos z, pk_us])
    · rcases h4 x hx with h | ⟨n, hn, h1, h2⟩
      · exact Or.inl (lq_nm2 h e)
      · refine Or.inr ⟨n, hn, ?_, ?_⟩
        · rw [lq_nm0 (by rw [h1]; exact lq_m1 (by omega)), h1]
        · rw [lq_nm0 (by rw [h2]; exact lq_m1 (by omega)), h2]
  · unfold lq_nm
    rw [if_neg z]
    exact h4 x hx
theorem lq_nm4 {st : Nat → Int32} {a x y : Nat} (ha : a < 16) (hy : y < 16) (h4 : lq_S4 st) (hx : st x = -1) (h : lq_nm st a x ≠ -1) (e : lq_nm st a x = lq_nm st a y) : x = y := by
  by_cases xa : x = a
  · subst xa
    by_cases ya : y = x
    · exact ya.symm
    · have e1 : lq_nm st x x = nI x := by
        unfold lq_nm
        rw [if_pos hx, pk_us]
      have e2 : lq_nm st x y = st y := by
        unfold lq_nm
        rw [if_pos hx, pk_un ya]
      rw [e1, e2] at e
      rcases h4 y hy with h5 | ⟨n, hn, h1, h2⟩
      · exact absurd (e.trans h5) (lq_m1 (by omega))
      · rw [h1, nI_eq (by omega) (by omega)] at e
        subst e
        rw [hx] at h2
        exact absurd h2.symm (lq_m1 (by omega))
  · exact absurd (lq_nm2 hx xa) h
def lq_mg (t : Nat → Int32) (kept merged : Int32) (n : Nat) : Nat → Int32 := fun x => if x < n ∧ t x = merged then kept else t x
theorem lq_mg0 (t : Nat → Int32) (kept merged : Int32) : lq_mg t kept merged 0 = t := by
  funext x
  exact if_neg (fun h => by omega)
theorem lq_mgs (t : Nat → Int32) (kept merged : Int32) (n : Nat) : lq_mg t kept merged n n = t n := if_neg (fun h => by omega)
theorem lq_mg1 (t : Nat → Int32) (kept merged : Int32) (n : Nat) (h : t n = merged) : upd (lq_mg t kept merged n) n kept = lq_mg t kept merged (n + 1) := by
  funext x
  unfold upd lq_mg
  by_cases e : x = n
  · subst e
    rw [if_pos rfl, if_pos ⟨by omega, h⟩]
  · rw [if_neg e]
    by_cases z : x < n ∧ t x = merged
    · rw [if_pos z, if_pos ⟨by omega, z.2⟩]
    · rw [if_neg z, if_neg (fun y => z ⟨by omega, y.2⟩)]
theorem lq_mg2 (t : Nat → Int32) (kept merged : Int32) (n : Nat) (h : t n ≠ merged) : lq_mg t kept merged n = lq_mg t kept merged (n + 1) := by
  funext x
  unfold lq_mg
  by_cases z : x < n ∧ t x = merged
  · rw [if_pos z, if_pos ⟨by omega, z.2⟩]
  · rw [if_neg z, if_neg]
    intro y
    by_cases e : x = n
    · subst e
      exact h y.2
    · exact z ⟨by omega, y.2⟩
def lq_t (st : Nat → Int32) (a b : Nat) : Nat → Int32 := lq_nm (lq_nm st a) b
def lq_rp (st : Nat → Int32) (a b : Nat) : Nat → Int32 := lq_mg (lq_t st a b) (lq_t st a b a) (lq_t st a b b) 16
def lq_pp (pr : Nat → Nat) (a b : Nat) : Nat → Nat := lq_un (lq_un pr (16 * a + b) 1) (16 * b + a) 1
theorem lq_pp_old {pr : Nat → Nat} {a b n : Nat} (h : pr n = 1) : lq_pp pr a b n = 1 := by
  unfold lq_pp lq_un
  split
  · rfl
  · split
    · rfl
    · exact h
theorem lq_pp_ab (pr : Nat → Nat) (a b : Nat) : lq_pp pr a b (16 * a + b) = 1 := by
  unfold lq_pp lq_un
  split
  · rfl
  · exact if_pos rfl
theorem lq_pp_ba (pr : Nat → Nat) (a b : Nat) : lq_pp pr a b (16 * b + a) = 1 := by
  unfold lq_pp lq_un
  exact if_pos rfl
theorem lq_pp_inv {pr : Nat → Nat} {a b x y : Nat} (ha : a < 16) (hb : b < 16) (hx : x < 16) (hy : y < 16) (h : lq_pp pr a b (16 * x + y) = 1) : pr (16 * x + y) = 1 ∨ (x = a ∧ y = b) ∨ (x = b ∧ y = a) := by
  unfold lq_pp lq_un at h
  by_cases z : 16 * x + y = 16 * b + a
  · exact Or.inr (Or.inr ⟨by omega, by omega⟩)
  · rw [if_neg z] at h
    by_cases w : 16 * x + y = 16 * a + b
    · exact Or.inr (Or.inl ⟨by omega, by omega⟩)
    · rw [if_neg w] at h
      exact Or.inl h
theorem lq_pp_le {pr : Nat → Nat} {a b : Nat} (h : ∀ i, pr i ≤ 1) (i : Nat) : lq_pp pr a b i ≤ 1 := by
  unfold lq_pp lq_un
  split
  · omega
  · split
    · omega
    · exact h i
theorem lq_rp_S {st : Nat → Int32} {pr : Nat → Nat} {a b : Nat} (ha : a < 16) (hb : b < 16) (h : lq_S st pr) : lq_S (lq_rp st a b) (lq_pp pr a b) := by
  obtain ⟨h1, h2, h3, h4⟩ := h
  have n4 := lq_nm3 ha h4
  have t0 : ∀ x, st x ≠ -1 → lq_t st a b x = st x := fun x hx => by
    unfold lq_t
    rw [lq_nm0 (by rw [lq_nm0 hx]; exact hx), lq_nm0 hx]
  have ta : lq_t st a b a ≠ -1 := by
    unfold lq_t
    rw [lq_nm0 (lq_nm1 ha)]
    exact lq_nm1 ha
  have tb : lq_t st a b b ≠ -1 := lq_nm1 hb
  have t2 : ∀ x, st x = -1 → x ≠ a → x ≠ b → lq_t st a b x = -1 := fun x hx xa xb => lq_nm2 (lq_nm2 hx xa) xb
  have t3 : lq_S4 (lq_t st a b) := lq_nm3 hb n4
  have t4 : ∀ x y, x < 16 → y < 16 → st x = -1 → lq_t st a b x ≠ -1 → lq_t st a b x = lq_t st a b y → x = y := by
    intro x y hx hy sx tx e
    by_cases z : lq_nm st a x = -1
    · exact lq_nm4 hb hy n4 z tx e
    · have ex : lq_t st a b x = lq_nm st a x := lq_nm0 z
      by_cases w : lq_nm st a y = -1
      · exact (lq_nm4 hb hx n4 w (by rw [e] at tx; exact tx) e.symm).symm
      · have ey : lq_t st a b y = lq_nm st a y := lq_nm0 w
        rw [ex, ey] at e
        exact lq_nm4 ha hy h4 sx z e
  unfold lq_rp
  generalize lq_t st a b = t at *
  have g : ∀ x, x < 16 → lq_mg t (t a) (t b) 16 x = if t x = t b then t a else t x := fun x hx => by
    unfold lq_mg
    by_cases z : t x = t b
    · rw [if_pos ⟨hx, z⟩, if_pos z]
    · rw [if_neg (fun y => z y.2), if_neg z]
  have g0 : ∀ x, x < 16 → (lq_mg t (t a) (t b) 16 x ≠ -1 ↔ t x ≠ -1) := fun x hx => by
    rw [g x hx]
    by_cases z : t x = t b
    · rw [if_pos z, z]
      exact ⟨fun _ => tb, fun _ => ta⟩
    · rw [if_neg z]
  have gab : lq_mg t (t a) (t b) 16 a = lq_mg t (t a) (t b) 16 b := by
    rw [g a ha, g b hb, if_pos rfl]
    split <;> rfl
  refine ⟨?_, ?_, ?_, ?_⟩
  · intro x y hx hy hp
    rcases lq_pp_inv ha hb hx hy hp with hp | ⟨rfl, rfl⟩ | ⟨rfl, rfl⟩
    · obtain ⟨i1, i2⟩ := h1 x y hx hy hp
      have i3 : st y ≠ -1 := by rw [← i2]; exact i1
      refine ⟨(g0 x hx).mpr (by rw [t0 x i1]; exact i1), ?_⟩
      rw [g x hx, g y hy, t0 x i1, t0 y i3, i2]
    · exact ⟨(g0 x hx).mpr ta, gab⟩
    · exact ⟨(g0 x hx).mpr tb, gab.symm⟩
  · intro Q hQ x y hx hy hn he hq
    have Qold : ∀ x y, x < 16 → y < 16 → pr (16 * x + y) = 1 → Q x → Q y := fun x y hx hy hp => hQ x y hx hy (lq_pp_old hp)
    have Qab : Q a → Q b := hQ a b ha hb (lq_pp_ab pr a b)
    have Qba : Q b → Q a := hQ b a hb ha (lq_pp_ba pr a b)
    have L : ∀ x y, x < 16 → y < 16 → t x ≠ -1 → t x = t y → Q x → Q y := by
      intro x y hx hy tx e q
      by_cases sx : st x = -1
      · rw [← t4 x y hx hy sx tx e]
        exact q
      · by_cases sy : st y = -1
        · rw [t4 y x hy hx sy (by rw [← e]; exact tx) e.symm]
          exact q
        · rw [t0 x sx, t0 y sy] at e
          exact h2 Q Qold x y hx hy sx e q
    have tx := (g0 x hx).mp hn
    rw [g x hx, g y hy] at he
    by_cases zx : t x = t b
    · by_cases zy : t y = t b
      · exact L x y hx hy tx (zx.trans zy.symm) hq
      · rw [if_pos zx, if_neg zy] at he
        exact L a y ha hy ta he (Qba (L x b hx hb tx zx hq))
    · by_cases zy : t y = t b
      · rw [if_neg zx, if_pos zy] at he
        exact L b y hb hy tb zy.symm (Qab (L x a hx ha tx he hq))
      · rw [if_neg zx, if_neg zy] at he
        exact L x y hx hy tx he hq
  · intro x hx hn
    have tx := (g0 x hx).mp hn
    by_cases sx : st x = -1
    · by_cases xa : x = a
      · exact ⟨b, hb, by rw [xa]; exact lq_pp_ab pr a b⟩
      · by_cases xb : x = b
        · exact ⟨a, ha, by rw [xb]; exact lq_pp_ba pr a b⟩
        · exact absurd (t2 x sx xa xb) tx
    · obtain ⟨y, hy, hp⟩ := h3 x hx sx
      exact ⟨y, hy, lq_pp_old hp⟩
  · intro x hx
    by_cases z : t x = t b
    · rcases t3 a ha with h5 | ⟨n, hn, e1, e2⟩
      · exact absurd h5 ta
      · refine Or.inr ⟨n, hn, by rw [g x hx, if_pos z, e1], ?_⟩
        rw [g n hn]
        split
        · exact e1
        · exact e2
    · rcases t3 x hx with h5 | ⟨n, hn, e1, e2⟩
      · exact Or.inl (by rw [g x hx, if_neg z, h5])
      · refine Or.inr ⟨n, hn, by rw [g x hx, if_neg z, e1], ?_⟩
        rw [g n hn, if_neg (by rw [e2, ← e1]; exact z), e2]
theorem lq_S0 {st : Nat → Int32} {pr : Nat → Nat} (hs : ∀ x, x < 16 → st x = -1) (hp : ∀ i, i < 256 → pr i = 0) : lq_S st pr := by
  refine ⟨?_, ?_, ?_, ?_⟩
  · intro x y hx hy h
    rw [hp _ (by omega)] at h
    cases h
  · intro Q _ x y hx _ hn
    exact absurd (hs x hx) hn
  · intro x hx hn
    exact absurd (hs x hx) hn
  · intro x hx
    exact Or.inl (hs x hx)
/-! the sweep over the pairs -/
def lq_sw (pr rc : Nat → Nat) : Nat → (Nat → Nat)
  | 0 => rc
  | n + 1 => if lq_sw pr rc n (n / 16) = 1 ∧ pr n = 1 then lq_un (lq_sw pr rc n) (n % 16) 1 else lq_sw pr rc n
def lq_it (pr rc : Nat → Nat) : Nat → (Nat → Nat)
  | 0 => rc
  | n + 1 => lq_sw pr (lq_it pr rc n) 256
theorem lq_sw1 {pr rc : Nat → Nat} {n i : Nat} (h : lq_sw pr rc n i = 1) : lq_sw pr rc (n + 1) i = 1 := by
  unfold lq_sw
  split
  · unfold lq_un
    split
    · rfl
    · exact h
  · exact h
theorem lq_sw2 {pr rc : Nat → Nat} {n i : Nat} (h : lq_sw pr rc n i = 1) : ∀ d, lq_sw pr rc (n + d) i = 1
  | 0 => h
  | d + 1 => lq_sw1 (lq_sw2 h d)
theorem lq_swle {pr rc : Nat → Nat} (h : ∀ i, rc i ≤ 1) : ∀ n i, lq_sw pr rc n i ≤ 1
  | 0, i => h i
  | n + 1, i => by
    unfold lq_sw
    split
    · unfold lq_un
      split
      · omega
      · exact lq_swle h n i
    · exact lq_swle h n i
theorem lq_itle {pr rc : Nat → Nat} (h : ∀ i, rc i ≤ 1) : ∀ n i, lq_it pr rc n i ≤ 1
  | 0, i => h i
  | n + 1, i => lq_swle (lq_itle h n) 256 i
theorem lq_it1 {pr rc : Nat → Nat} {i : Nat} (h : rc i = 1) : ∀ n, lq_it pr rc n i = 1
  | 0 => h
  | n + 1 => by
    have := lq_sw2 (pr := pr) (rc := lq_it pr rc n) (n := 0) (i := i) (lq_it1 h n) 256
    exact this
theorem lq_swS {pr rc : Nat → Nat} {R : Nat → Prop} (hr : ∀ i, i < 16 → rc i = 1 → R i) (hp : ∀ x y, x < 16 → y < 16 → pr (16 * x + y) = 1 → R x → R y) : ∀ n, n ≤ 256 → ∀ i, i < 16 → lq_sw pr rc n i = 1 → R i
  | 0, _, i, hi, h => hr i hi h
  | n + 1, hn, i, hi, h => by
    unfold lq_sw at h
    by_cases z : lq_sw pr rc n (n / 16) = 1 ∧ pr n = 1
    · rw [if_pos z] at h
      by_cases e : i = n % 16
      · have r1 := lq_swS hr hp n (by omega) (n / 16) (by omega) z.1
        rw [e]
        exact hp (n / 16) (n % 16) (by omega) (by omega) (by rw [show 16 * (n / 16) + n % 16 = n by omega]; exact z.2) r1
      · rw [lq_ui e] at h
        exact lq_swS hr hp n (by omega) i hi h
    · rw [if_neg z] at h
      exact lq_swS hr hp n (by omega) i hi h
theorem lq_itS {pr rc : Nat → Nat} {R : Nat → Prop} (hr : ∀ i, i < 16 → rc i = 1 → R i) (hp : ∀ x y, x < 16 → y < 16 → pr (16 * x + y) = 1 → R x → R y) (n : Nat) : ∀ i, i < 16 → lq_it pr rc n i = 1 → R i := by
  induction n with
  | zero => exact hr
  | succ n ih =>
    intro i hi h
    rw [lq_it] at h
    exact lq_swS ih hp 256 (Nat.le_refl _) i hi h
def lq_Cl (pr rc : Nat → Nat) : Prop := ∀ x y, x < 16 → y < 16 → pr (16 * x + y) = 1 → rc x = 1 → rc y = 1
theorem lq_swC {pr rc : Nat → Nat} (h : lq_Cl pr rc) : ∀ n, n ≤ 256 → lq_sw pr rc n = rc
  | 0, _ => rfl
  | n + 1, hn => by
    unfold lq_sw
    rw [lq_swC h n (by omega)]
    split
    · rename_i z
      have e : rc (n % 16) = 1 := h (n / 16) (n % 16) (by omega) (by omega) (by rw [show 16 * (n / 16) + n % 16 = n by omega]; exact z.2) z.1
      funext i
      unfold lq_un
      split
      · rename_i w
        rw [w, e]
      · rfl
    · rfl
def lq_cn (f : Nat → Nat) : Nat → Nat
  | 0 => 0
  | n + 1 => lq_cn f n + f n
theorem lq_cnle {f g : Nat → Nat} (h : ∀ i, f i ≤ g i) : ∀ n, lq_cn f n ≤ lq_cn g n
  | 0 => Nat.le_refl _
  | n + 1 => Nat.add_le_add (lq_cnle h n) (h n)
theorem lq_cnlt {f g : Nat → Nat} (h : ∀ i, f i ≤ g i) {y : Nat} (hy : f y < g y) : ∀ n, y < n → lq_cn f n < lq_cn g n
  | 0, hn => by omega
  | n + 1, hn => by
    show lq_cn f n + f n < lq_cn g n + g n
    have h0 := h n
    by_cases e : y = n
    · have h1 := lq_cnle h n
      rw [e] at hy
      omega
    · have h1 := lq_cnlt h hy n (by omega)
      omega
theorem lq_cnall {f : Nat → Nat} (h : ∀ i, f i ≤ 1) : ∀ n, lq_cn f n ≤ n ∧ (n ≤ lq_cn f n → ∀ i, i < n → f i = 1)
  | 0 => ⟨Nat.le_refl _, fun _ i hi => by omega⟩
  | n + 1 => by
    have ih := lq_cnall h n
    have h0 := h n
    have e : lq_cn f (n + 1) = lq_cn f n + f n := rfl
    refine ⟨by omega, fun hn i hi => ?_⟩
    by_cases z : i = n
    · rw [z]; omega
    · exact ih.2 (by omega) i (by omega)
theorem lq_itC {pr rc : Nat → Nat} (hr : ∀ i, rc i ≤ 1) : ∀ n, lq_Cl pr (lq_it pr rc n) ∨ n ≤ lq_cn (lq_it pr rc n) 16
  | 0 => Or.inr (Nat.zero_le _)
  | n + 1 => by
    have le1 := lq_itle (pr := pr) hr n
    have le2 := lq_itle (pr := pr) hr (n + 1)
    by_cases c : lq_Cl pr (lq_it pr rc n)
    · left
      show lq_Cl pr (lq_sw pr (lq_it pr rc n) 256)
      rw [lq_swC c 256 (by omega)]
      exact c
    · rcases lq_itC hr n with c' | hc
      · exact absurd c' c
      · right
        have mono : ∀ i, lq_it pr rc n i = 1 → lq_it pr rc (n + 1) i = 1 := fun i hi => lq_sw2 (pr := pr) (rc := lq_it pr rc n) (n := 0) hi 256
        have hle : ∀ i, lq_it pr rc n i ≤ lq_it pr rc (n + 1) i := fun i => by
          have a1 := le1 i
          have a2 := mono i
          omega
        have : ∃ y, y < 16 ∧ lq_it pr rc n y < lq_it pr rc (n + 1) y := by
          apply Classical.byContradiction
          intro no
          apply c
          intro x y hx hy hp hx1
          have a1 := le1 y
          have : lq_it pr rc (n + 1) y = 1 := by
            have s1 : lq_sw pr (lq_it pr rc n) (16 * x + y) x = 1 := by
              have := lq_sw2 (pr := pr) (rc := lq_it pr rc n) (n := 0) (i := x) hx1 (16 * x + y)
              rw [Nat.zero_add] at this
              exact this
            have s2 : lq_sw pr (lq_it pr rc n) (16 * x + y + 1) y = 1 := by
              unfold lq_sw
              rw [show (16 * x + y) / 16 = x by omega, show (16 * x + y) % 16 = y by omega, if_pos ⟨s1, hp⟩]
              exact lq_us
            have s3 := lq_sw2 s2 (256 - (16 * x + y + 1))
            rw [show 16 * x + y + 1 + (256 - (16 * x + y + 1)) = 256 by omega] at s3
            exact s3
          apply Classical.byContradiction
          intro ny
          exact no ⟨y, hy, by omega⟩
        obtain ⟨y, hy, hlt⟩ := this
        have := lq_cnlt hle hlt 16 hy
        omega
/-- what the sweep finds from a is what bears a's name -/
theorem lq_reach {st : Nat → Int32} {pr rc : Nat → Nat} {a b : Nat} (h : lq_S st pr) (ha : a < 16) (hb : b < 16) (hr : ∀ i, rc i ≤ 1) (hrc : ∀ x, x < 16 → rc x = pr (16 * a + x)) : lq_it pr rc 16 b = 1 ↔ (st a ≠ -1 ∧ st a = st b) := by
  obtain ⟨h1, h2, h3, h4⟩ := h
  constructor
  · intro hit
    exact lq_itS (R := fun i => st a ≠ -1 ∧ st a = st i) (fun i hi e => h1 a i ha hi (by rw [← hrc i hi]; exact e)) (fun x y hx hy hp hR => ⟨hR.1, hR.2.trans (h1 x y hx hy hp).2⟩) 16 b hb hit
  · intro hab
    have cl : lq_Cl pr (lq_it pr rc 16) := by
      rcases lq_itC (pr := pr) hr 16 with c | c
      · exact c
      · intro x y hx hy _ _
        exact (lq_cnall (lq_itle hr 16) 16).2 c y hy
    obtain ⟨y, hy, hp⟩ := h3 a ha hab.1
    have e := h1 a y ha hy hp
    have hy1 : lq_it pr rc 16 y = 1 := lq_it1 (by rw [hrc y hy]; exact hp) 16
    exact h2 (fun i => lq_it pr rc 16 i = 1) cl y b hy hb (by rw [← e.2]; exact e.1) (e.2.symm.trans hab.2) hy1
end
section
/-! what the relation holds of the window, and how each call keeps it -/
def lq_ok (k s r kn ad : Nat → Nat) (V : Nat → Int64) (D : Nat → Int32) (base : Nat → Nat) (j : Nat) : Prop :=
  (k j = 1 → V j = lN (lq_lo (D j) (s j))) ∧
  (k j ≠ 1 → kn j = 1 ∧ V j = lN (lq_vs (fun i => lq_lb k s kn ad D base (ad j + i) j) (s j)) ∧ ∀ i, i < s j → lq_ar k s r kn ad (ad j + i) j)
def lq_W (m c : Nat) (k s r kn ad : Nat → Nat) (A : Nat → Int32) (V : Nat → Int64) (D : Nat → Int32) (base : Nat → Nat) : Prop :=
  ∀ j, j < c → (s j = 1 ∨ s j = 2 ∨ s j = 4) ∧ (kn j = 1 → ad j + s j ≤ m) ∧ A j = (if kn j = 1 then nI (ad j) else -1) ∧ (r j = 1 → lq_ok k s r kn ad V D base j)
def lq_B (k p r kn : Nat → Nat) : Prop := ∀ i, k i ≤ 1 ∧ p i < 16 ∧ r i ≤ 1 ∧ kn i ≤ 1
def lq_Q (m q : Nat) (bs ba : Nat → Nat) (BV : Nat → Int64) (BD : Nat → Int32) : Prop := ∀ i, i < q → (bs i = 1 ∨ bs i = 2 ∨ bs i = 4) ∧ ba i + bs i ≤ m ∧ BV i = lN (lq_lo (BD i) (bs i))
theorem lq_okK {k s r kn ad k' s' r' kn' ad' : Nat → Nat} {V V' : Nat → Int64} {D D' : Nat → Int32} {base base' : Nat → Nat} {j : Nat} (e1 : k' j = k j) (e2 : s' j = s j) (e3 : V' j = V j) (eD : k j = 1 → D' j = D j) (eL : k j ≠ 1 → kn j = 1 → kn' j = 1 ∧ ad' j = ad j) (hc : ∀ c i, i < j → (lq_cov k s kn ad c i ↔ lq_cov k' s' kn' ad' c i)) (hD : ∀ c i, i < j → lq_cov k s kn ad c i → r i = 1 → r' i = 1 ∧ lq_by (D' i) (c - ad' i) = lq_by (D i) (c - ad i)) (hb : ∀ c, base' c = base c) (h : lq_ok k s r kn ad V D base j) : lq_ok k' s' r' kn' ad' V' D' base' j := by
  refine ⟨fun z => ?_, fun z => ?_⟩
  · rw [e1] at z
    rw [e3, e2, eD z]
    exact h.1 z
  · rw [e1] at z
    obtain ⟨i1, i2, i3⟩ := h.2 z
    obtain ⟨l1, l2⟩ := eL z i1
    rw [e2, e3, l2]
    refine ⟨l1, ?_, fun i hi => (lq_keep j (hc _) (hD _) (hb _) (i3 i hi)).1⟩
    rw [i2]
    exact congrArg lN (lq_vs_cong _ (fun i hi => (lq_keep j (hc _) (hD _) (hb _) (i3 i hi)).2.symm))
theorem lq_Wenter {m c : Nat} {k s r kn ad : Nat → Nat} {A : Nat → Int32} {V : Nat → Int64} {D : Nat → Int32} {base : Nat → Nat} (h : lq_W m c k s r kn ad A V D base) (x y : Nat) (hy : y = 1 ∨ y = 2 ∨ y = 4) : lq_W m (c + 1) (lq_un k c x) (lq_un s c y) (lq_un r c 0) (lq_un kn c 0) (lq_un ad c 0) (upd A c (-1)) V (upd D c 0) base := by
  intro j hj
  by_cases e : j = c
  · subst e
    rw [lq_us, lq_us, lq_us, lq_us, pk_us]
    exact ⟨hy, fun z => (by cases z), rfl, fun z => (by cases z)⟩
  · obtain ⟨h1, h2, h3, h4⟩ := h j (by omega)
    rw [lq_ui e, lq_ui e, lq_ui e, lq_ui e, pk_un e]
    refine ⟨h1, h2, h3, fun z => lq_okK (lq_ui e) (lq_ui e) rfl (fun _ => pk_un e) (fun _ w => ⟨(lq_ui e).trans w, lq_ui e⟩) ?_ ?_ (fun _ => rfl) (h4 z)⟩
    · intro c' i hi
      have ei : i ≠ c := by omega
      unfold lq_cov
      rw [lq_ui ei, lq_ui ei, lq_ui ei, lq_ui ei]
    · intro c' i hi _ w
      have ei : i ≠ c := by omega
      rw [lq_ui ei, lq_ui ei, pk_un ei]
      exact ⟨w, rfl⟩
theorem lq_WaddrL {m c p a : Nat} {k s r kn ad : Nat → Nat} {A : Nat → Int32} {V : Nat → Int64} {D : Nat → Int32} {base : Nat → Nat} (h : lq_W m c k s r kn ad A V D base) (hp : p < c) (hk : k p ≠ 1) (hn : kn p ≠ 1) (ha : a + s p ≤ m) : lq_W m c k s r (lq_un kn p 1) (lq_un ad p a) (upd A p (nI a)) V D base := by
  intro j hj
  obtain ⟨h1, h2, h3, h4⟩ := h j hj
  by_cases e : j = p
  · subst e
    rw [lq_us, lq_us, pk_us]
    exact ⟨h1, fun _ => ha, (if_pos rfl).symm, fun z => absurd ((h4 z).2 hk).1 hn⟩
  · rw [lq_ui e, lq_ui e, pk_un e]
    refine ⟨h1, h2, h3, fun z => lq_okK rfl rfl rfl (fun _ => rfl) (fun _ w => ⟨(lq_ui e).trans w, lq_ui e⟩) ?_ ?_ (fun _ => rfl) (h4 z)⟩
    · intro c' i hi
      by_cases ei : i = p
      · subst ei
        exact ⟨fun w => absurd w.1 hk, fun w => absurd w.1 hk⟩
      · unfold lq_cov
        rw [lq_ui ei, lq_ui ei]
    · intro c' i hi co w
      have ei : i ≠ p := fun ei => hk (by rw [← ei]; exact co.1)
      rw [lq_ui ei]
      exact ⟨w, rfl⟩
/-- a load that is to be sent back: it draws from p -/
def lq_ms (k s r kn ad : Nat → Nat) (p j : Nat) : Prop := k j = 0 ∧ r j = 1 ∧ ∃ x, x < s j ∧ lq_src k s kn ad (ad j + x) j = some p
theorem lq_WaddrS {m c p a : Nat} {k s r kn ad r' : Nat → Nat} {A : Nat → Int32} {V : Nat → Int64} {D : Nat → Int32} {base : Nat → Nat} (h : lq_W m c k s r kn ad A V D base) (hB : ∀ i, k i ≤ 1) (hk : k p = 1) (hn : kn p ≠ 1) (ha : a + s p ≤ m) (hr : ∀ j, r' j = 1 → r j = 1) (hr1 : ∀ j, k j = 1 → r j = 1 → r' j = 1) (hr2 : ∀ j, p < j → j < c → lq_ms k s r (lq_un kn p 1) (lq_un ad p a) p j → r' j ≠ 1) : lq_W m c k s r' (lq_un kn p 1) (lq_un ad p a) (upd A p (nI a)) V D base := by
  intro j hj
  obtain ⟨h1, h2, h3, h4⟩ := h j hj
  by_cases e : j = p
  · subst e
    rw [lq_us, lq_us, pk_us]
    exact ⟨h1, fun _ => ha, (if_pos rfl).symm, fun z => ⟨fun w => (h4 (hr j z)).1 w, fun w => absurd hk w⟩⟩
  · rw [lq_ui e, lq_ui e, pk_un e]
    refine ⟨h1, h2, h3, fun z => ⟨fun w => (h4 (hr j z)).1 w, fun w => ?_⟩⟩
    obtain ⟨i1, i2, i3⟩ := (h4 (hr j z)).2 w
    rw [lq_ui e, lq_ui e]
    have key : ∀ x, x < s j → lq_ar k s r' (lq_un kn p 1) (lq_un ad p a) (ad j + x) j ∧ lq_lb k s (lq_un kn p 1) (lq_un ad p a) D base (ad j + x) j = lq_lb k s kn ad D base (ad j + x) j := by
      intro x hx
      rcases lq_new (k := k) (s := s) (r := r) (kn := kn) (ad := ad) (kn' := lq_un kn p 1) (ad' := lq_un ad p a) (D := D) (base := base) (c := ad j + x) (p := p) (fun co => hn co.2.1) (fun i hi => ⟨lq_ui hi, lq_ui hi⟩) j with hs | ⟨n1, n2⟩
      · have hpj := (lq_src_lt j hs).1
        have hkj := hB j
        exact absurd z (hr2 j hpj hj ⟨by omega, hr j z, x, hx, by rw [lq_ui e]; exact hs⟩)
      · refine ⟨?_, n2⟩
        exact (lq_keep (D := D) (D' := D) (base := base) (base' := base) j (fun i _ => Iff.rfl) (fun i _ co w => ⟨hr1 i co.1 w, rfl⟩) rfl (n1 (i3 x hx))).1
    exact ⟨i1, i2.trans (congrArg lN (lq_vs_cong _ (fun x hx => (key x hx).2.symm))), fun x hx => (key x hx).1⟩
theorem lq_Wdata {m c p : Nat} {d : Int32} {k s r kn ad : Nat → Nat} {A : Nat → Int32} {V : Nat → Int64} {D : Nat → Int32} {base : Nat → Nat} (h : lq_W m c k s r kn ad A V D base) (hk : k p = 1) (hr : r p ≠ 1) : lq_W m c k s (lq_un r p 1) kn ad A (vp_updL V p (lN (lq_lo d (s p)))) (upd D p d) base := by
  intro j hj
  obtain ⟨h1, h2, h3, h4⟩ := h j hj
  refine ⟨h1, h2, h3, fun z => ?_⟩
  by_cases e : j = p
  · subst e
    refine ⟨fun _ => by rw [pk_uLs, pk_us], fun w => absurd hk w⟩
  · rw [lq_ui e] at z
    refine lq_okK rfl rfl (pk_uLn e) (fun _ => pk_un e) (fun _ w => ⟨w, rfl⟩) (fun _ _ _ => Iff.rfl) ?_ (fun _ => rfl) (h4 z)
    intro c' i hi co w
    have ei : i ≠ p := fun ei => hr (by rw [← ei]; exact w)
    rw [lq_ui ei, pk_un ei]
    exact ⟨w, rfl⟩
theorem lq_Wexec {m c p : Nat} {k s r kn ad : Nat → Nat} {A : Nat → Int32} {V : Nat → Int64} {D : Nat → Int32} {base : Nat → Nat} (h : lq_W m c k s r kn ad A V D base) (hk : k p ≠ 1) (hn : kn p = 1) (ha : ∀ i, i < s p → lq_ar k s r kn ad (ad p + i) p) : lq_W m c k s (lq_un r p 1) kn ad A (vp_updL V p (lN (lq_vs (fun i => lq_lb k s kn ad D base (ad p + i) p) (s p)))) D base := by
  have up : ∀ i, r i = 1 → lq_un r p 1 i = 1 := fun i w => by
    unfold lq_un
    split
    · rfl
    · exact w
  intro j hj
  obtain ⟨h1, h2, h3, h4⟩ := h j hj
  refine ⟨h1, h2, h3, fun z => ?_⟩
  by_cases e : j = p
  · subst e
    refine ⟨fun w => absurd w hk, fun _ => ⟨hn, pk_uLs, fun i hi => ?_⟩⟩
    exact (lq_keep (D := D) (D' := D) (base := base) (base' := base) j (fun _ _ => Iff.rfl) (fun i _ _ w => ⟨up i w, rfl⟩) rfl (ha i hi)).1
  · rw [lq_ui e] at z
    exact lq_okK rfl rfl (pk_uLn e) (fun _ => rfl) (fun _ w => ⟨w, rfl⟩) (fun _ _ _ => Iff.rfl) (fun _ i _ _ w => ⟨up i w, rfl⟩) (fun _ => rfl) (h4 z)
theorem lq_Wcommit {m c : Nat} {k s r kn ad k' s' r' kn' ad' : Nat → Nat} {A A' : Nat → Int32} {V V' : Nat → Int64} {D D' : Nat → Int32} {base base' : Nat → Nat} (h : lq_W m (c + 1) k s r kn ad A V D base) (hs : ∀ i, i < c → k' i = k (i + 1) ∧ s' i = s (i + 1) ∧ r' i = r (i + 1) ∧ kn' i = kn (i + 1) ∧ ad' i = ad (i + 1) ∧ D' i = D (i + 1)) (hA : ∀ i, i < c → A' i = A (i + 1)) (hV : ∀ i, i < c → V' i = V (i + 1)) (hb : ∀ x, base' x = lq_lb k s kn ad D base x 1) : lq_W m c k' s' r' kn' ad' A' V' D' base' := by
  intro j hj
  obtain ⟨h1, h2, h3, h4⟩ := h (j + 1) (by omega)
  obtain ⟨e1, e2, e3, e4, e5, e6⟩ := hs j hj
  have sh := fun x => lq_shift (k := k) (s := s) (r := r) (kn := kn) (ad := ad) (k' := k') (s' := s') (r' := r') (kn' := kn') (ad' := ad') (D := D) (D' := D') (base := base) (base' := base') (c := x) (hb x) j (fun i hi => hs i (by omega))
  rw [e2, e3, e4, e5, hA j hj]
  refine ⟨h1, h2, h3, fun z => ⟨fun w => ?_, fun w => ?_⟩⟩
  · rw [e1] at w
    rw [hV j hj, e2, e6]
    exact (h4 z).1 w
  · rw [e1] at w
    obtain ⟨i1, i2, i3⟩ := (h4 z).2 w
    rw [hV j hj, e2, e4, e5]
    exact ⟨i1, i2.trans (congrArg lN (lq_vs_cong _ (fun i _ => (sh _).2.symm))), fun i hi => (sh _).1 (i3 i hi)⟩
theorem lq_Wbase {m c : Nat} {k s r kn ad : Nat → Nat} {A : Nat → Int32} {V : Nat → Int64} {D : Nat → Int32} {base base' : Nat → Nat} (h : lq_W m c k s r kn ad A V D base) (hb : ∀ x, base' x = base x) : lq_W m c k s r kn ad A V D base' := by
  have e : base' = base := funext hb
  rw [e]
  exact h
/-! shifting an array by one -/
def lq_sh {α : Type} (c : Nat) (a : Nat → α) : Nat → α := fun j => if j + 1 < c then a (j + 1) else a j
theorem lq_sh1 {α : Type} (a : Nat → α) : lq_sh 1 a = a := by
  funext j
  exact if_neg (by omega)
theorem lq_shi {α : Type} {c i : Nat} (a : Nat → α) (h : i + 1 < c) : lq_sh c a i = a (i + 1) := if_pos h
theorem lq_shv {α : Type} (c : Nat) (a : Nat → α) : lq_sh (c + 1) a (c + 1) = a (c + 1) := if_neg (by omega)
theorem lq_shu (c : Nat) (a : Nat → Int32) : upd (lq_sh (c + 1) a) c (a (c + 1)) = lq_sh (c + 2) a := by
  funext j
  unfold upd lq_sh
  by_cases e : j = c
  · subst e
    rw [if_pos rfl, if_pos (by omega)]
  · rw [if_neg e]
    by_cases z : j + 1 < c + 1
    · rw [if_pos z, if_pos (by omega)]
    · rw [if_neg z, if_neg (by omega)]
theorem lq_shL (c : Nat) (a : Nat → Int64) : vp_updL (lq_sh (c + 1) a) c (a (c + 1)) = lq_sh (c + 2) a := by
  funext j
  unfold vp_updL lq_sh
  by_cases e : j = c
  · subst e
    rw [if_pos rfl, if_pos (by omega)]
  · rw [if_neg e]
    by_cases z : j + 1 < c + 1
    · rw [if_pos z, if_pos (by omega)]
    · rw [if_neg z, if_neg (by omega)]
theorem lq_shn (c : Nat) (f : Nat → Nat) : lq_sh c (fun i => nI (f i)) = fun i => nI (lq_sh c f i) := by
  funext j
  unfold lq_sh
  split <;> rfl
theorem lq_shp {c : Nat} {f : Nat → Nat} {P : Nat → Prop} (h : ∀ i, P (f i)) (i : Nat) : P (lq_sh c f i) := by
  unfold lq_sh
  split <;> exact h _
theorem lq_unp {k x : Nat} {f : Nat → Nat} {P : Nat → Prop} (h : ∀ i, P (f i)) (hx : P x) (i : Nat) : P (lq_un f k x i) := by
  unfold lq_un
  split
  · exact hx
  · exact h _
end
section
/-! the picture of the class's state, kept by each call -/
def lq_XI (w b m c q : Nat) (k p s r kn ad : Nat → Nat) (A : Nat → Int32) (V : Nat → Int64) (D : Nat → Int32) (bs ba : Nat → Nat) (BV : Nat → Int64) (BD : Nat → Int32) (ce : Nat → Nat) : Prop :=
  (4 ≤ w ∧ w ≤ 32 ∧ 1 ≤ b ∧ b ≤ 8 ∧ 8 ≤ m ∧ m ≤ 64 ∧ c ≤ w ∧ q ≤ b) ∧ lq_B k p r kn ∧ lq_W m c k s r kn ad A V D (fun a => lq_mb bs ba BD ce a q) ∧ lq_Q m q bs ba BV BD ∧ (∀ a, ce a < 256)
theorem lq_XIenter {w b m c q : Nat} {k p s r kn ad : Nat → Nat} {A : Nat → Int32} {V : Nat → Int64} {D : Nat → Int32} {bs ba : Nat → Nat} {BV : Nat → Int64} {BD : Nat → Int32} {ce : Nat → Nat} (h : lq_XI w b m c q k p s r kn ad A V D bs ba BV BD ce) (hc : c < w) {x y z : Nat} (hx : x ≤ 1) (hy : y < 16) (hz : z = 1 ∨ z = 2 ∨ z = 4) : lq_XI w b m (c + 1) q (lq_un k c x) (lq_un p c y) (lq_un s c z) (lq_un r c 0) (lq_un kn c 0) (lq_un ad c 0) (upd A c (-1)) V (upd D c 0) bs ba BV BD ce := by
  obtain ⟨h1, h2, h3, h4, h5⟩ := h
  refine ⟨by omega, fun i => ⟨?_, ?_, ?_, ?_⟩, lq_Wenter h3 x z hz, h4, h5⟩
  · exact lq_unp (P := fun y => y ≤ 1) (fun i => (h2 i).1) hx i
  · exact lq_unp (P := fun y => y < 16) (fun i => (h2 i).2.1) hy i
  · exact lq_unp (P := fun y => y ≤ 1) (fun i => (h2 i).2.2.1) (by omega) i
  · exact lq_unp (P := fun y => y ≤ 1) (fun i => (h2 i).2.2.2) (by omega) i
theorem lq_XIaddrL {w b m c q : Nat} {k p s r kn ad : Nat → Nat} {A : Nat → Int32} {V : Nat → Int64} {D : Nat → Int32} {bs ba : Nat → Nat} {BV : Nat → Int64} {BD : Nat → Int32} {ce : Nat → Nat} (h : lq_XI w b m c q k p s r kn ad A V D bs ba BV BD ce) {j a : Nat} (hj : j < c) (hk : k j ≠ 1) (hn : kn j ≠ 1) (ha : a + s j ≤ m) : lq_XI w b m c q k p s r (lq_un kn j 1) (lq_un ad j a) (upd A j (nI a)) V D bs ba BV BD ce := by
  obtain ⟨h1, h2, h3, h4, h5⟩ := h
  exact ⟨h1, fun i => ⟨(h2 i).1, (h2 i).2.1, (h2 i).2.2.1, lq_unp (P := fun y => y ≤ 1) (fun i => (h2 i).2.2.2) (by omega) i⟩, lq_WaddrL h3 hj hk hn ha, h4, h5⟩
theorem lq_XIaddrS {w b m c q : Nat} {k p s r kn ad r' : Nat → Nat} {A : Nat → Int32} {V : Nat → Int64} {D : Nat → Int32} {bs ba : Nat → Nat} {BV : Nat → Int64} {BD : Nat → Int32} {ce : Nat → Nat} (h : lq_XI w b m c q k p s r kn ad A V D bs ba BV BD ce) {j a : Nat} (hk : k j = 1) (hn : kn j ≠ 1) (ha : a + s j ≤ m) (hr : ∀ i, r' i ≤ r i) (hr1 : ∀ i, k i = 1 → r i = 1 → r' i = 1) (hr2 : ∀ i, j < i → i < c → lq_ms k s r (lq_un kn j 1) (lq_un ad j a) j i → r' i ≠ 1) : lq_XI w b m c q k p s r' (lq_un kn j 1) (lq_un ad j a) (upd A j (nI a)) V D bs ba BV BD ce := by
  obtain ⟨h1, h2, h3, h4, h5⟩ := h
  refine ⟨h1, fun i => ⟨(h2 i).1, (h2 i).2.1, ?_, lq_unp (P := fun y => y ≤ 1) (fun i => (h2 i).2.2.2) (by omega) i⟩, lq_WaddrS h3 (fun i => (h2 i).1) hk hn ha (fun i z => ?_) hr1 hr2, h4, h5⟩
  · exact Nat.le_trans (hr i) (h2 i).2.2.1
  · have a1 := hr i
    have a2 := (h2 i).2.2.1
    omega
theorem lq_XIdata {w b m c q : Nat} {k p s r kn ad : Nat → Nat} {A : Nat → Int32} {V : Nat → Int64} {D : Nat → Int32} {bs ba : Nat → Nat} {BV : Nat → Int64} {BD : Nat → Int32} {ce : Nat → Nat} (h : lq_XI w b m c q k p s r kn ad A V D bs ba BV BD ce) {j : Nat} (d : Int32) (hk : k j = 1) (hr : r j ≠ 1) : lq_XI w b m c q k p s (lq_un r j 1) kn ad A (vp_updL V j (lN (lq_lo d (s j)))) (upd D j d) bs ba BV BD ce := by
  obtain ⟨h1, h2, h3, h4, h5⟩ := h
  exact ⟨h1, fun i => ⟨(h2 i).1, (h2 i).2.1, lq_unp (P := fun y => y ≤ 1) (fun i => (h2 i).2.2.1) (by omega) i, (h2 i).2.2.2⟩, lq_Wdata h3 hk hr, h4, h5⟩
theorem lq_XIexec {w b m c q : Nat} {k p s r kn ad : Nat → Nat} {A : Nat → Int32} {V : Nat → Int64} {D : Nat → Int32} {bs ba : Nat → Nat} {BV : Nat → Int64} {BD : Nat → Int32} {ce : Nat → Nat} (h : lq_XI w b m c q k p s r kn ad A V D bs ba BV BD ce) {j : Nat} (hk : k j ≠ 1) (hn : kn j = 1) (ha : ∀ i, i < s j → lq_ar k s r kn ad (ad j + i) j) : lq_XI w b m c q k p s (lq_un r j 1) kn ad A (vp_updL V j (lN (lq_vs (fun i => lq_lb k s kn ad D (fun a => lq_mb bs ba BD ce a q) (ad j + i) j) (s j)))) D bs ba BV BD ce := by
  obtain ⟨h1, h2, h3, h4, h5⟩ := h
  exact ⟨h1, fun i => ⟨(h2 i).1, (h2 i).2.1, lq_unp (P := fun y => y ≤ 1) (fun i => (h2 i).2.2.1) (by omega) i, (h2 i).2.2.2⟩, lq_Wexec h3 hk hn ha, h4, h5⟩
theorem lq_Bsh {c : Nat} {k p r kn : Nat → Nat} (h : lq_B k p r kn) : lq_B (lq_sh c k) (lq_sh c p) (lq_sh c r) (lq_sh c kn) := fun i => ⟨lq_shp (P := fun y => y ≤ 1) (fun i => (h i).1) i, lq_shp (P := fun y => y < 16) (fun i => (h i).2.1) i, lq_shp (P := fun y => y ≤ 1) (fun i => (h i).2.2.1) i, lq_shp (P := fun y => y ≤ 1) (fun i => (h i).2.2.2) i⟩
theorem lq_XIcommitL {w b m c q : Nat} {k p s r kn ad : Nat → Nat} {A : Nat → Int32} {V : Nat → Int64} {D : Nat → Int32} {bs ba : Nat → Nat} {BV : Nat → Int64} {BD : Nat → Int32} {ce : Nat → Nat} (h : lq_XI w b m (c + 1) q k p s r kn ad A V D bs ba BV BD ce) (hk : k 0 ≠ 1) : lq_XI w b m c q (lq_sh (c + 1) k) (lq_sh (c + 1) p) (lq_sh (c + 1) s) (lq_sh (c + 1) r) (lq_sh (c + 1) kn) (lq_sh (c + 1) ad) (lq_sh (c + 1) A) (lq_sh (c + 1) V) (lq_sh (c + 1) D) bs ba BV BD ce := by
  obtain ⟨h1, h2, h3, h4, h5⟩ := h
  refine ⟨by omega, lq_Bsh h2, lq_Wcommit h3 (fun i hi => ?_) (fun i hi => lq_shi _ (by omega)) (fun i hi => lq_shi _ (by omega)) (fun x => ?_), h4, h5⟩
  · exact ⟨lq_shi _ (by omega), lq_shi _ (by omega), lq_shi _ (by omega), lq_shi _ (by omega), lq_shi _ (by omega), lq_shi _ (by omega)⟩
  · show _ = if lq_cov k s kn ad x 0 then _ else _
    rw [if_neg (fun z => hk z.1)]
    rfl
theorem lq_XIcommitS {w b m c q : Nat} {k p s r kn ad : Nat → Nat} {A : Nat → Int32} {V : Nat → Int64} {D : Nat → Int32} {bs ba : Nat → Nat} {BV : Nat → Int64} {BD : Nat → Int32} {ce : Nat → Nat} (h : lq_XI w b m (c + 1) q k p s r kn ad A V D bs ba BV BD ce) (hk : k 0 = 1) (hn : kn 0 = 1) (hr : r 0 = 1) (hq : q < b) : lq_XI w b m c (q + 1) (lq_sh (c + 1) k) (lq_sh (c + 1) p) (lq_sh (c + 1) s) (lq_sh (c + 1) r) (lq_sh (c + 1) kn) (lq_sh (c + 1) ad) (lq_sh (c + 1) A) (lq_sh (c + 1) V) (lq_sh (c + 1) D) (lq_un bs q (s 0)) (lq_un ba q (ad 0)) (vp_updL BV q (V 0)) (upd BD q (D 0)) ce := by
  obtain ⟨h1, h2, h3, h4, h5⟩ := h
  obtain ⟨w1, w2, w3, w4⟩ := h3 0 (by omega)
  refine ⟨by omega, lq_Bsh h2, lq_Wcommit h3 (fun i hi => ?_) (fun i hi => lq_shi _ (by omega)) (fun i hi => lq_shi _ (by omega)) (fun x => ?_), fun i hi => ?_, h5⟩
  · exact ⟨lq_shi _ (by omega), lq_shi _ (by omega), lq_shi _ (by omega), lq_shi _ (by omega), lq_shi _ (by omega), lq_shi _ (by omega)⟩
  · show (if lq_un ba q (ad 0) q ≤ x ∧ x < lq_un ba q (ad 0) q + lq_un bs q (s 0) q then lq_by (upd BD q (D 0) q) (x - lq_un ba q (ad 0) q) else lq_mb (lq_un bs q (s 0)) (lq_un ba q (ad 0)) (upd BD q (D 0)) ce x q) = if lq_cov k s kn ad x 0 then lq_by (D 0) (x - ad 0) else lq_mb bs ba BD ce x q
    rw [lq_us, lq_us, pk_us]
    have e : lq_mb (lq_un bs q (s 0)) (lq_un ba q (ad 0)) (upd BD q (D 0)) ce x q = lq_mb bs ba BD ce x q := lq_mb_cong q (fun i hi => ⟨lq_ui (by omega), lq_ui (by omega), pk_un (by omega)⟩)
    rw [e]
    by_cases z : ad 0 ≤ x ∧ x < ad 0 + s 0
    · rw [if_pos z, if_pos ⟨hk, hn, z.1, z.2⟩]
    · rw [if_neg z, if_neg (fun y => z y.2.2)]
  · by_cases e : i = q
    · subst e
      rw [lq_us, lq_us, pk_uLs, pk_us]
      exact ⟨w1, w2 hn, (w4 hr).1 hk⟩
    · rw [lq_ui e, lq_ui e, pk_uLn e, pk_un e]
      exact h4 i (by omega)
theorem lq_XIdrain {w b m c q : Nat} {k p s r kn ad : Nat → Nat} {A : Nat → Int32} {V : Nat → Int64} {D : Nat → Int32} {bs ba : Nat → Nat} {BV : Nat → Int64} {BD : Nat → Int32} {ce : Nat → Nat} (h : lq_XI w b m c (q + 1) k p s r kn ad A V D bs ba BV BD ce) : lq_XI w b m c q k p s r kn ad A V D (lq_sh (q + 1) bs) (lq_sh (q + 1) ba) (lq_sh (q + 1) BV) (lq_sh (q + 1) BD) (fun a => lq_mb bs ba BD ce a 1) := by
  obtain ⟨h1, h2, h3, h4, h5⟩ := h
  refine ⟨by omega, h2, lq_Wbase h3 (fun x => ?_), fun i hi => ?_, fun a => lq_mb_lt bs ba BD ce a (h5 a) 1⟩
  · exact lq_mb_shift (ce' := fun a => lq_mb bs ba BD ce a 1) rfl q (fun i hi => ⟨lq_shi _ (by omega), lq_shi _ (by omega), lq_shi _ (by omega)⟩)
  · rw [lq_shi _ (by omega), lq_shi _ (by omega), lq_shi _ (by omega), lq_shi _ (by omega)]
    exact h4 (i + 1) (by omega)
theorem lq_XIdiscard {w b m c q : Nat} {k p s r kn ad : Nat → Nat} {A : Nat → Int32} {V : Nat → Int64} {D : Nat → Int32} {bs ba : Nat → Nat} {BV : Nat → Int64} {BD : Nat → Int32} {ce : Nat → Nat} (h : lq_XI w b m c q k p s r kn ad A V D bs ba BV BD ce) {c' : Nat} (hc : c' ≤ c) : lq_XI w b m c' q k p s r kn ad A V D bs ba BV BD ce := by
  obtain ⟨h1, h2, h3, h4, h5⟩ := h
  exact ⟨by omega, h2, fun j hj => h3 j (by omega), h4, h5⟩
theorem lq_XI0 {w b m : Nat} {A : Nat → Int32} {V : Nat → Int64} {D : Nat → Int32} {BV : Nat → Int64} {BD : Nat → Int32} {ce : Nat → Nat} (h : 4 ≤ w ∧ w ≤ 32 ∧ 1 ≤ b ∧ b ≤ 8 ∧ 8 ≤ m ∧ m ≤ 64) (hc : ∀ a, ce a < 256) : lq_XI w b m 0 0 (fun _ => 0) (fun _ => 0) (fun _ => 0) (fun _ => 0) (fun _ => 0) (fun _ => 0) A V D (fun _ => 0) (fun _ => 0) BV BD ce :=
  ⟨by omega, fun _ => ⟨Nat.zero_le 1, Nat.zero_lt_succ 15, Nat.zero_le 1, Nat.zero_le 1⟩, fun j hj => absurd hj (by omega), fun i hi => absurd hi (by omega), hc⟩
end
section
/-! booleans, counters that run down, comparisons with literals -/
theorem lq_nb {x : Nat} (h : x ≤ 1) : vp_nar .boolean (nI x) = nI x := by
  have : x = 0 ∨ x = 1 := by omega
  rcases this with rfl | rfl <;> rfl
theorem lq_nb0 : vp_nar .boolean 0 = 0 := rfl
theorem lq_nb1 : vp_nar .boolean 1 = 1 := rfl
theorem lq_nr {x : Nat} (h : x ≤ 1) : narrow .boolean (.int (nI x)) = .int (nI x) := by
  have : x = 0 ∨ x = 1 := by omega
  rcases this with rfl | rfl <;> rfl
theorem lq_nr0 : narrow .boolean (.int 0) = .int 0 := rfl
theorem lq_nr1 : narrow .boolean (.int 1) = .int 1 := rfl
theorem lq_eq0 {a : Nat} (h : a < 2 ^ 31) : nI a = 0 ↔ a = 0 := nI_eq (b := 0) h (by decide)
theorem lq_eq1 {a : Nat} (h : a < 2 ^ 31) : nI a = 1 ↔ a = 1 := nI_eq (b := 1) h (by decide)
theorem lq_eqm {a : Nat} (h : a < 2 ^ 31) : nI a = -1 ↔ False := ⟨fun e => lq_m1 h e, False.elim⟩
theorem lq_lt0 {a : Nat} (h : a < 2 ^ 31) : nI a < 0 ↔ False := ⟨fun e => nI_pos h e, False.elim⟩
theorem lq_vin {a n : Nat} (h : a < n) (hn : n < 2 ^ 31) : vp_in (nI a) n ↔ True := ⟨fun _ => True.intro, fun _ => vp_in_nI h hn⟩
/-- a counter that runs down: one below j -/
theorem lq_dn (j : Nat) : nI (j + 1) - 1 = nI j := nI_pred j
theorem lq_dn0 : nI 0 - 1 = -1 := by decide
theorem lq_sub1 (j : Nat) : nI j + (-1) = nI j - 1 := by
  rw [Int32.sub_eq_add_neg]
end
section
/-! the loads sent back, one after the other -/
noncomputable def lq_rb (M : Nat → Prop) (r : Nat → Nat) (n : Nat) : Nat → Nat := fun i => @ite _ (i < n ∧ M i) (Classical.propDecidable _) 0 (r i)
noncomputable def lq_ct (M : Nat → Prop) : Nat → Nat
  | 0 => 0
  | n + 1 => @ite _ (M n) (Classical.propDecidable _) (lq_ct M n + 1) (lq_ct M n)
noncomputable def lq_sf (M : Nat → Prop) (p : Nat → Nat) (b : Nat) (st : Nat → Int32) : Nat → (Nat → Int32)
  | 0 => st
  | n + 1 => @ite _ (M n) (Classical.propDecidable _) (lq_rp (lq_sf M p b st n) (p n) b) (lq_sf M p b st n)
noncomputable def lq_pf (M : Nat → Prop) (p : Nat → Nat) (b : Nat) (pr : Nat → Nat) : Nat → (Nat → Nat)
  | 0 => pr
  | n + 1 => @ite _ (M n) (Classical.propDecidable _) (lq_pp (lq_pf M p b pr n) (p n) b) (lq_pf M p b pr n)
theorem lq_rb_at (M : Nat → Prop) (r : Nat → Nat) (n : Nat) : lq_rb M r n n = r n := if_neg (fun h => by omega)
theorem lq_rb_t {M : Nat → Prop} {r : Nat → Nat} {n : Nat} (h : M n) : lq_un (lq_rb M r n) n 0 = lq_rb M r (n + 1) := by
  funext i
  unfold lq_un lq_rb
  by_cases e : i = n
  · subst e
    rw [if_pos rfl, if_pos ⟨by omega, h⟩]
  · rw [if_neg e]
    by_cases z : i < n ∧ M i
    · rw [if_pos z, if_pos ⟨by omega, z.2⟩]
    · rw [if_neg z, if_neg (fun y => z ⟨by omega, y.2⟩)]
theorem lq_rb_f {M : Nat → Prop} {r : Nat → Nat} {n : Nat} (h : ¬ M n) : lq_rb M r n = lq_rb M r (n + 1) := by
  funext i
  unfold lq_rb
  by_cases z : i < n ∧ M i
  · rw [if_pos z, if_pos ⟨by omega, z.2⟩]
  · rw [if_neg z, if_neg]
    intro y
    by_cases e : i = n
    · subst e
      exact h y.2
    · exact z ⟨by omega, y.2⟩
theorem lq_rb_0 {M : Nat → Prop} {r : Nat → Nat} {n : Nat} (h : ∀ i, i < n → ¬ M i) : lq_rb M r n = r := by
  funext i
  exact if_neg (fun z => h i z.1 z.2)
theorem lq_rb_le (M : Nat → Prop) (r : Nat → Nat) (n i : Nat) : lq_rb M r n i ≤ r i := by
  unfold lq_rb
  by_cases z : i < n ∧ M i
  · rw [if_pos z]; omega
  · rw [if_neg z]; omega
theorem lq_ct_t {M : Nat → Prop} {n : Nat} (h : M n) : lq_ct M (n + 1) = lq_ct M n + 1 := if_pos h
theorem lq_ct_f {M : Nat → Prop} {n : Nat} (h : ¬ M n) : lq_ct M (n + 1) = lq_ct M n := if_neg h
theorem lq_ct_0 {M : Nat → Prop} : ∀ n, (∀ i, i < n → ¬ M i) → lq_ct M n = 0
  | 0, _ => rfl
  | n + 1, h => by rw [lq_ct_f (h n (by omega)), lq_ct_0 n (fun i hi => h i (by omega))]
theorem lq_ct_le (M : Nat → Prop) : ∀ n, lq_ct M n ≤ n
  | 0 => Nat.le_refl _
  | n + 1 => by
    have := lq_ct_le M n
    by_cases z : M n
    · rw [lq_ct_t z]; omega
    · rw [lq_ct_f z]; omega
theorem lq_sf_t {M : Nat → Prop} {p : Nat → Nat} {b : Nat} {st : Nat → Int32} {n : Nat} (h : M n) : lq_sf M p b st (n + 1) = lq_rp (lq_sf M p b st n) (p n) b := if_pos h
theorem lq_sf_f {M : Nat → Prop} {p : Nat → Nat} {b : Nat} {st : Nat → Int32} {n : Nat} (h : ¬ M n) : lq_sf M p b st (n + 1) = lq_sf M p b st n := if_neg h
theorem lq_sf_0 {M : Nat → Prop} {p : Nat → Nat} {b : Nat} {st : Nat → Int32} : ∀ n, (∀ i, i < n → ¬ M i) → lq_sf M p b st n = st
  | 0, _ => rfl
  | n + 1, h => by rw [lq_sf_f (h n (by omega)), lq_sf_0 n (fun i hi => h i (by omega))]
theorem lq_pf_t {M : Nat → Prop} {p : Nat → Nat} {b : Nat} {pr : Nat → Nat} {n : Nat} (h : M n) : lq_pf M p b pr (n + 1) = lq_pp (lq_pf M p b pr n) (p n) b := if_pos h
theorem lq_pf_f {M : Nat → Prop} {p : Nat → Nat} {b : Nat} {pr : Nat → Nat} {n : Nat} (h : ¬ M n) : lq_pf M p b pr (n + 1) = lq_pf M p b pr n := if_neg h
theorem lq_pf_0 {M : Nat → Prop} {p : Nat → Nat} {b : Nat} {pr : Nat → Nat} : ∀ n, (∀ i, i < n → ¬ M i) → lq_pf M p b pr n = pr
  | 0, _ => rfl
  | n + 1, h => by rw [lq_pf_f (h n (by omega)), lq_pf_0 n (fun i hi => h i (by omega))]
theorem lq_pf_le {M : Nat → Prop} {p : Nat → Nat} {b : Nat} {pr : Nat → Nat} (h : ∀ i, pr i ≤ 1) : ∀ n i, lq_pf M p b pr n i ≤ 1
  | 0, i => h i
  | n + 1, i => by
    by_cases z : M n
    · rw [lq_pf_t z]
      exact lq_pp_le (lq_pf_le h n) i
    · rw [lq_pf_f z]
      exact lq_pf_le h n i
theorem lq_f_S {M : Nat → Prop} {p : Nat → Nat} {b : Nat} {st : Nat → Int32} {pr : Nat → Nat} (hp : ∀ i, p i < 16) (hb : b < 16) (h : lq_S st pr) : ∀ n, lq_S (lq_sf M p b st n) (lq_pf M p b pr n)
  | 0 => h
  | n + 1 => by
    by_cases z : M n
    · rw [lq_sf_t z, lq_pf_t z]
      exact lq_rp_S (hp n) hb (lq_f_S hp hb h n)
    · rw [lq_sf_f z, lq_pf_f z]
      exact lq_f_S hp hb h n
/-- the loads that a store at j, its address now known, sends back -/
def lq_M (k s r kn ad : Nat → Nat) (j i : Nat) : Prop := j < i ∧ lq_ms k s r kn ad j i
theorem lq_XIsend {w b m c q : Nat} {k p s r kn ad : Nat → Nat} {A : Nat → Int32} {V : Nat → Int64} {D : Nat → Int32} {bs ba : Nat → Nat} {BV : Nat → Int64} {BD : Nat → Int32} {ce : Nat → Nat} (h : lq_XI w b m c q k p s r kn ad A V D bs ba BV BD ce) {j a : Nat} (hk : k j = 1) (hn : kn j ≠ 1) (ha : a + s j ≤ m) : lq_XI w b m c q k p s (lq_rb (lq_M k s r (lq_un kn j 1) (lq_un ad j a) j) r c) (lq_un kn j 1) (lq_un ad j a) (upd A j (nI a)) V D bs ba BV BD ce := by
  refine lq_XIaddrS h hk hn ha (fun i => lq_rb_le _ _ _ _) (fun i z y => ?_) (fun i h1 h2 h3 => ?_)
  · unfold lq_rb
    rw [if_neg]
    · exact y
    · intro ⟨_, _, x, _⟩
      omega
  · unfold lq_rb
    rw [if_pos ⟨h2, h1, h3⟩]
    omega
/-! what execute does at position j -/
def lq_wt (k p kn : Nat → Nat) (st : Nat → Int32) (j : Nat) : Prop := ∃ i, i < j ∧ k i = 1 ∧ kn i ≠ 1 ∧ st (p i) ≠ -1 ∧ st (p i) = st (p j)
def lq_lk (k s r kn ad : Nat → Nat) (j : Nat) : Prop := ∃ x, x < s j ∧ ¬ lq_ar k s r kn ad (ad j + x) j
def lq_EX (k p s r kn ad : Nat → Nat) (V : Nat → Int64) (D : Nat → Int32) (base : Nat → Nat) (st : Nat → Int32) (j : Nat) (ans : Int32) (r' : Nat → Nat) (V' : Nat → Int64) : Prop :=
  (k j = 1 ∧ ans = -2 ∧ r' = r ∧ V' = V) ∨
  (k j ≠ 1 ∧ r j = 1 ∧ ans = -4 ∧ r' = r ∧ V' = V) ∨
  (k j ≠ 1 ∧ r j ≠ 1 ∧ kn j ≠ 1 ∧ ans = -6 ∧ r' = r ∧ V' = V) ∨
  (k j ≠ 1 ∧ r j ≠ 1 ∧ kn j = 1 ∧ lq_wt k p kn st j ∧ ans = -7 ∧ r' = r ∧ V' = V) ∨
  (k j ≠ 1 ∧ r j ≠ 1 ∧ kn j = 1 ∧ ¬ lq_wt k p kn st j ∧ lq_lk k s r kn ad j ∧ ans = -8 ∧ r' = r ∧ V' = V) ∨
  (k j ≠ 1 ∧ r j ≠ 1 ∧ kn j = 1 ∧ ¬ lq_wt k p kn st j ∧ ¬ lq_lk k s r kn ad j ∧ ans = 0 ∧ r' = lq_un r j 1 ∧ V' = vp_updL V j (lN (lq_vs (fun i => lq_lb k s kn ad D base (ad j + i) j) (s j))))
theorem lq_EXex (k p s r kn ad : Nat → Nat) (V : Nat → Int64) (D : Nat → Int32) (base : Nat → Nat) (st : Nat → Int32) (j : Nat) : ∃ ans r' V', lq_EX k p s r kn ad V D base st j ans r' V' := by
  by_cases h1 : k j = 1
  · exact ⟨_, _, _, Or.inl ⟨h1, rfl, rfl, rfl⟩⟩
  · by_cases h2 : r j = 1
    · exact ⟨_, _, _, Or.inr (Or.inl ⟨h1, h2, rfl, rfl, rfl⟩)⟩
    · by_cases h3 : kn j = 1
      · by_cases h4 : lq_wt k p kn st j
        · exact ⟨_, _, _, Or.inr (Or.inr (Or.inr (Or.inl ⟨h1, h2, h3, h4, rfl, rfl, rfl⟩)))⟩
        · by_cases h5 : lq_lk k s r kn ad j
          · exact ⟨_, _, _, Or.inr (Or.inr (Or.inr (Or.inr (Or.inl ⟨h1, h2, h3, h4, h5, rfl, rfl, rfl⟩))))⟩
          · exact ⟨_, _, _, Or.inr (Or.inr (Or.inr (Or.inr (Or.inr ⟨h1, h2, h3, h4, h5, rfl, rfl, rfl⟩))))⟩
      · exact ⟨_, _, _, Or.inr (Or.inr (Or.inl ⟨h1, h2, h3, rfl, rfl, rfl⟩))⟩
theorem lq_XIex {w b m c q : Nat} {k p s r kn ad : Nat → Nat} {A : Nat → Int32} {V : Nat → Int64} {D : Nat → Int32} {bs ba : Nat → Nat} {BV : Nat → Int64} {BD : Nat → Int32} {ce : Nat → Nat} (h : lq_XI w b m c q k p s r kn ad A V D bs ba BV BD ce) {st : Nat → Int32} {j : Nat} {ans : Int32} {r' : Nat → Nat} {V' : Nat → Int64} (e : lq_EX k p s r kn ad V D (fun a => lq_mb bs ba BD ce a q) st j ans r' V') : lq_XI w b m c q k p s r' kn ad A V' D bs ba BV BD ce := by
  rcases e with ⟨_, _, rfl, rfl⟩ | ⟨_, _, _, rfl, rfl⟩ | ⟨_, _, _, _, rfl, rfl⟩ | ⟨_, _, _, _, _, rfl, rfl⟩ | ⟨_, _, _, _, _, _, rfl, rfl⟩ | ⟨h1, h2, h3, h4, h5, _, rfl, rfl⟩
  · exact h
  · exact h
  · exact h
  · exact h
  · exact h
  · refine lq_XIexec h h1 h3 (fun i hi => ?_)
    apply Classical.byContradiction
    intro z
    exact h5 ⟨i, hi, z⟩
end
section
/-! the class: source, draws, waits, lacks, byte after drains, gather -/
section
variable {w b m c q : Nat} {k p s r kn ad : Nat → Nat} {A : Nat → Int32} {V : Nat → Int64} {D : Nat → Int32} {bs ba : Nat → Nat} {BV : Nat → Int64} {BD : Nat → Int32} {ce : Nat → Nat} {st : Nat → Int32}
def lq_G (m c : Nat) (k p s r kn ad : Nat → Nat) (A : Nat → Int32) : Prop := m ≤ 64 ∧ c ≤ 32 ∧ lq_B k p r kn ∧ ∀ j, j < c → (s j = 1 ∨ s j = 2 ∨ s j = 4) ∧ (kn j = 1 → ad j + s j ≤ m) ∧ A j = (if kn j = 1 then nI (ad j) else -1)
theorem lq_XIG (h : lq_XI w b m c q k p s r kn ad A V D bs ba BV BD ce) : lq_G m c k p s r kn ad A := ⟨by have := h.1; omega, by have := h.1; omega, h.2.1, fun j hj => ⟨(h.2.2.1 j hj).1, (h.2.2.1 j hj).2.1, (h.2.2.1 j hj).2.2.1⟩⟩
theorem lx_cov {post : Int32 → Prop} (a t x : Nat) (ha : a ≤ 128) (ht : t ≤ 4) (hx : x ≤ 128) (hp : a ≤ x ∧ x < a + t → post 1) (hn : ¬ (a ≤ x ∧ x < a + t) → post 0) : wpX_covers post (nI a) (nI t) (nI x) := by
  unfold wpX_covers
  rw [nI_add]
  exact pk_lt x a (fun z => hn (by omega)) (fun z => pk_le (a + t) x (fun y => hn (by omega)) (fun y => hp (by omega)))
theorem lx_by {post : Int32 → Prop} {d : Int32} {o t : Nat} (ho : o < t) (ht : t ≤ 4) (hp : post (nI (lq_by d o))) : wpX_byteOf post (lN (lq_lo d t)) (nI o) := by
  unfold wpX_byteOf
  have e : (8 : Int32) * nI o = nI (8 * o) := pk_mul 8 o
  rw [e, lq_xb (lq_lo_lt d ht) (by omega), lq_lo_by d ho]
  exact hp
theorem lx_src4 (h : lq_G m c k p s r kn ad A) {x : Nat} (hx : x ≤ 128) {post : Int32 → Prop} : ∀ j n, j ≤ c → j < n → post (lq_en (lq_src k s kn ad x j)) → wX_sourceOf_4 post (nI x) (nI w) (nI b) (nI m) (nI c) (nI q) (fun i => nI (k i)) (fun i => nI (p i)) (fun i => nI (s i)) A (fun i => nI (r i)) V (fun i => nI (bs i)) (fun i => nI (ba i)) BV (fun i => nI (ce i)) st n (nI j - 1) := by
  obtain ⟨h1, h0, h2, h3⟩ := h
  intro j
  induction j with
  | zero =>
    intro n _ hn hp
    obtain ⟨n, rfl⟩ : ∃ t, n = t + 1 := ⟨n - 1, by omega⟩
    rw [lq_dn0]
    exact br_t (by decide) hp
  | succ j ih =>
    intro n hj hn hp
    obtain ⟨n, rfl⟩ : ∃ t, n = t + 1 := ⟨n - 1, by omega⟩
    have ih' := ih n (by omega) (by omega)
    obtain ⟨w1, w2, w3⟩ := h3 j (by omega)
    have b1 := h2 j
    have I : vp_in (nI j) 32 := vp_in_nI (by omega) (by omega)
    have ef : ¬ lq_cov k s kn ad x j → wX_sourceOf_4 post (nI x) (nI w) (nI b) (nI m) (nI c) (nI q) (fun i => nI (k i)) (fun i => nI (p i)) (fun i => nI (s i)) A (fun i => nI (r i)) V (fun i => nI (bs i)) (fun i => nI (ba i)) BV (fun i => nI (ce i)) st n (nI j - 1) := fun z => ih' (by
      have e : lq_src k s kn ad x (j + 1) = lq_src k s kn ad x j := if_neg z
      rw [e] at hp
      exact hp)
    have et : lq_cov k s kn ad x j → post (nI j) := fun z => by
      have e : lq_src k s kn ad x (j + 1) = some j := if_pos z
      rw [e] at hp
      exact hp
    rw [lq_dn]
    refine br_f (nI_pos (by omega)) ⟨I, ?_⟩
    rw [nI_clamp (show j < 2 ^ 31 by omega)]
    refine pk_eq (k j) 1 (fun zk => ⟨I, ?_⟩) (fun zk => nm_r (lq_sub1 j) (ef (fun z => zk z.1)))
    by_cases zn : kn j = 1
    · rw [if_pos zn] at w3
      have w2' := w2 zn
      rw [w3]
      refine br_f (lq_m1 (by omega)) ⟨I, I, ?_⟩
      exact lx_cov (ad j) (s j) x (by omega) (by omega) hx (fun z => br_f (by decide) (et ⟨zk, zn, z.1, z.2⟩)) (fun z => br_t rfl (nm_r (lq_sub1 j) (ef (fun y => z y.2.2))))
    · rw [if_neg zn] at w3
      rw [w3]
      exact br_t rfl (nm_r (lq_sub1 j) (ef (fun z => zn z.2.1)))
theorem lx_src (h : lq_G m c k p s r kn ad A) {x j : Nat} (hx : x ≤ 128) (hj : j ≤ c) {post : Int32 → Prop} (hp : post (lq_en (lq_src k s kn ad x j))) : wpX_sourceOf post (nI w, nI b, nI m, nI c, nI q, (fun i => nI (k i)), (fun i => nI (p i)), (fun i => nI (s i)), A, (fun i => nI (r i)), V, (fun i => nI (bs i)), (fun i => nI (ba i)), BV, (fun i => nI (ce i)), st) (nI j) (nI x) := by
  unfold wpX_sourceOf
  exact nm_e ⟨j + 1, lx_src4 h hx j (j + 1) hj (by omega) hp⟩
theorem lq_en_eq {o : Option Nat} {t : Nat} (h : ∀ i, o = some i → i < 64) (ht : t < 64) : lq_en o = nI t ↔ o = some t := by
  cases o with
  | none => exact ⟨fun e => absurd e.symm (lq_m1 (by omega)), fun e => by cases e⟩
  | some i =>
    have := h i rfl
    show nI i = nI t ↔ _
    rw [nI_eq (by omega) (by omega)]
    exact ⟨fun e => by rw [e], fun e => by cases e; rfl⟩
theorem lx_draws (h : lq_G m c k p s r kn ad A) {j t : Nat} (hj : j < c) (ht : t < 64) (hk : kn j = 1) {post : Int32 → Prop} (hp : (∃ x, x < s j ∧ lq_src k s kn ad (ad j + x) j = some t) → post 1) (hn : ¬ (∃ x, x < s j ∧ lq_src k s kn ad (ad j + x) j = some t) → post 0) : wpX_drawsFrom post (nI w, nI b, nI m, nI c, nI q, (fun i => nI (k i)), (fun i => nI (p i)), (fun i => nI (s i)), A, (fun i => nI (r i)), V, (fun i => nI (bs i)), (fun i => nI (ba i)), BV, (fun i => nI (ce i)), st) (nI j) (nI t) := by
  have h' := h
  obtain ⟨h1, h0, h2, h3⟩ := h
  obtain ⟨w1, w2, w3⟩ := h3 j hj
  have w2' := w2 hk
  rw [if_pos hk] at w3
  have I : vp_in (nI j) 32 := vp_in_nI (by omega) (by omega)
  have main : ∀ d i n, i + d = s j → d < n → (∀ x, x < i → lq_src k s kn ad (ad j + x) j ≠ some t) → wX_drawsFrom_2 post (nI j) (nI t) (nI w) (nI b) (nI m) (nI c) (nI q) (fun i => nI (k i)) (fun i => nI (p i)) (fun i => nI (s i)) A (fun i => nI (r i)) V (fun i => nI (bs i)) (fun i => nI (ba i)) BV (fun i => nI (ce i)) st n (nI i) := by
    intro d
    induction d with
    | zero =>
      intro i n hi hd hx
      obtain ⟨n, rfl⟩ : ∃ t, n = t + 1 := ⟨n - 1, by omega⟩
      refine ⟨I, ?_⟩
      rw [nI_clamp (show j < 2 ^ 31 by omega)]
      exact pk_le (s j) i (fun _ => hn (fun ⟨x, x1, x2⟩ => hx x (by omega) x2)) (fun z => absurd z (by omega))
    | succ d ih =>
      intro i n hi hd hx
      obtain ⟨n, rfl⟩ : ∃ t, n = t + 1 := ⟨n - 1, by omega⟩
      refine ⟨I, ?_⟩
      rw [nI_clamp (show j < 2 ^ 31 by omega)]
      refine pk_le (s j) i (fun z => absurd z (by omega)) (fun _ => ⟨I, ?_⟩)
      rw [w3, nI_add]
      refine lx_src h' (by omega) (by omega) ?_
      have lt : ∀ y, lq_src k s kn ad (ad j + i) j = some y → y < 64 := fun y hy => by
        have := (lq_src_lt j hy).1
        omega
      by_cases z : lq_src k s kn ad (ad j + i) j = some t
      · exact br_t ((lq_en_eq lt ht).mpr z) (hp ⟨i, by omega, z⟩)
      · refine br_f (fun y => z ((lq_en_eq lt ht).mp y)) (nm_r (nI_1 i) (ih (i + 1) n (by omega) (by omega) (fun x hx' => ?_)))
        by_cases e : x = i
        · rw [e]; exact z
        · exact hx x (by omega)
  unfold wpX_drawsFrom
  exact ⟨s j + 1, main (s j) 0 (s j + 1) (by omega) (by omega) (fun x hx => absurd hx (by omega))⟩
theorem lx_share {a e : Nat} (ha : a < 16) (he : e < 16) {post : Int32 → Prop} (hp : st a ≠ -1 ∧ st a = st e → post 1) (hn : ¬ (st a ≠ -1 ∧ st a = st e) → post 0) : wpX_shareSet post (nI w, nI b, nI m, nI c, nI q, (fun i => nI (k i)), (fun i => nI (p i)), (fun i => nI (s i)), A, (fun i => nI (r i)), V, (fun i => nI (bs i)), (fun i => nI (ba i)), BV, (fun i => nI (ce i)), st) (nI a) (nI e) := by
  unfold wpX_shareSet
  have I1 : vp_in (nI a) 16 := vp_in_nI ha (by omega)
  have I2 : vp_in (nI e) 16 := vp_in_nI he (by omega)
  refine ⟨I1, ?_⟩
  rw [nI_clamp (show a < 2 ^ 31 by omega), nI_clamp (show e < 2 ^ 31 by omega)]
  exact br_c (fun z => hn (fun y => y.1 z)) (fun z => ⟨I1, I2, br_c (fun y => hp ⟨z, y⟩) (fun y => hn (fun x => y x.2))⟩)
theorem lx_waits (h : lq_XI w b m c q k p s r kn ad A V D bs ba BV BD ce) {j : Nat} (hj : j < c) {post : Int32 → Prop} (hp : lq_wt k p kn st j → post 1) (hn : ¬ lq_wt k p kn st j → post 0) : wpX_waitsForItsSet post (nI w, nI b, nI m, nI c, nI q, (fun i => nI (k i)), (fun i => nI (p i)), (fun i => nI (s i)), A, (fun i => nI (r i)), V, (fun i => nI (bs i)), (fun i => nI (ba i)), BV, (fun i => nI (ce i)), st) (nI j) := by
  obtain ⟨h1, h2, h3, h4, h5⟩ := h
  have Ij : vp_in (nI j) 32 := vp_in_nI (by omega) (by omega)
  have main : ∀ d i n, i + d = j → d < n → (∀ x, x < i → ¬ (k x = 1 ∧ kn x ≠ 1 ∧ st (p x) ≠ -1 ∧ st (p x) = st (p j))) → wX_waitsForItsSet_2 post (nI j) (nI w) (nI b) (nI m) (nI c) (nI q) (fun i => nI (k i)) (fun i => nI (p i)) (fun i => nI (s i)) A (fun i => nI (r i)) V (fun i => nI (bs i)) (fun i => nI (ba i)) BV (fun i => nI (ce i)) st n (nI i) := by
    intro d
    induction d with
    | zero =>
      intro i n hi hd hx
      obtain ⟨n, rfl⟩ : ∃ t, n = t + 1 := ⟨n - 1, by omega⟩
      exact pk_le j i (fun _ => hn (fun ⟨x, x1, x2⟩ => hx x (by omega) x2)) (fun z => absurd z (by omega))
    | succ d ih =>
      intro i n hi hd hx
      obtain ⟨n, rfl⟩ : ∃ t, n = t + 1 := ⟨n - 1, by omega⟩
      obtain ⟨w1, w2, w3, _⟩ := h3 i (by omega)
      have I : vp_in (nI i) 32 := vp_in_nI (by omega) (by omega)
      have go : ¬ (k i = 1 ∧ kn i ≠ 1 ∧ st (p i) ≠ -1 ∧ st (p i) = st (p j)) → wX_waitsForItsSet_2 post (nI j) (nI w) (nI b) (nI m) (nI c) (nI q) (fun i => nI (k i)) (fun i => nI (p i)) (fun i => nI (s i)) A (fun i => nI (r i)) V (fun i => nI (bs i)) (fun i => nI (ba i)) BV (fun i => nI (ce i)) st n (nI (i + 1)) := fun z => ih (i + 1) n (by omega) (by omega) (fun x hx' => by
        by_cases e : x = i
        · rw [e]; exact z
        · exact hx x (by omega))
      refine pk_le j i (fun z => absurd z (by omega)) (fun _ => ⟨I, ?_⟩)
      have b1 := h2 i
      rw [nI_clamp (show i < 2 ^ 31 by omega), nI_clamp (show j < 2 ^ 31 by omega)]
      refine pk_eq (k i) 1 (fun zk => ⟨I, ?_⟩) (fun zk => nm_r (nI_1 i) (go (fun z => zk z.1)))
      by_cases zn : kn i = 1
      · have w2' := w2 zn
        rw [if_pos zn] at w3
        rw [w3]
        exact br_f (lq_m1 (by omega)) (nm_r (nI_1 i) (go (fun z => z.2.1 zn)))
      · rw [if_neg zn] at w3
        rw [w3]
        refine br_t rfl ⟨I, Ij, ?_⟩
        exact lx_share (h2 i).2.1 (h2 j).2.1 (fun z => br_f (by decide) (hp ⟨i, by omega, zk, zn, z.1, z.2⟩)) (fun z => br_t rfl (nm_r (nI_1 i) (go (fun y => z ⟨y.2.2.1, y.2.2.2⟩))))
  unfold wpX_waitsForItsSet
  exact ⟨j + 1, main j 0 (j + 1) (by omega) (by omega) (fun x hx => absurd hx (by omega))⟩
theorem lx_lacks (h : lq_XI w b m c q k p s r kn ad A V D bs ba BV BD ce) {j : Nat} (hj : j < c) (hk : kn j = 1) {post : Int32 → Prop} (hp : lq_lk k s r kn ad j → post 1) (hn : ¬ lq_lk k s r kn ad j → post 0) : wpX_lacksData post (nI w, nI b, nI m, nI c, nI q, (fun i => nI (k i)), (fun i => nI (p i)), (fun i => nI (s i)), A, (fun i => nI (r i)), V, (fun i => nI (bs i)), (fun i => nI (ba i)), BV, (fun i => nI (ce i)), st) (nI j) := by
  have h' := h
  obtain ⟨h1, h2, h3, h4, h5⟩ := h
  obtain ⟨w1, w2, w3, _⟩ := h3 j hj
  have w2' := w2 hk
  rw [if_pos hk] at w3
  have I : vp_in (nI j) 32 := vp_in_nI (by omega) (by omega)
  have main : ∀ d i n, i + d = s j → d < n → (∀ x, x < i → lq_ar k s r kn ad (ad j + x) j) → wX_lacksData_2 post (nI j) (nI w) (nI b) (nI m) (nI c) (nI q) (fun i => nI (k i)) (fun i => nI (p i)) (fun i => nI (s i)) A (fun i => nI (r i)) V (fun i => nI (bs i)) (fun i => nI (ba i)) BV (fun i => nI (ce i)) st n (nI i) := by
    intro d
    induction d with
    | zero =>
      intro i n hi hd hx
      obtain ⟨n, rfl⟩ : ∃ t, n = t + 1 := ⟨n - 1, by omega⟩
      refine ⟨I, ?_⟩
      rw [nI_clamp (show j < 2 ^ 31 by omega)]
      exact pk_le (s j) i (fun _ => hn (fun ⟨x, x1, x2⟩ => x2 (hx x (by omega)))) (fun z => absurd z (by omega))
    | succ d ih =>
      intro i n hi hd hx
      obtain ⟨n, rfl⟩ : ∃ t, n = t + 1 := ⟨n - 1, by omega⟩
      have go : lq_ar k s r kn ad (ad j + i) j → wX_lacksData_2 post (nI j) (nI w) (nI b) (nI m) (nI c) (nI q) (fun i => nI (k i)) (fun i => nI (p i)) (fun i => nI (s i)) A (fun i => nI (r i)) V (fun i => nI (bs i)) (fun i => nI (ba i)) BV (fun i => nI (ce i)) st n (nI (i + 1)) := fun z => ih (i + 1) n (by omega) (by omega) (fun x hx' => by
        by_cases e : x = i
        · rw [e]; exact z
        · exact hx x (by omega))
      refine ⟨I, ?_⟩
      rw [nI_clamp (show j < 2 ^ 31 by omega)]
      refine pk_le (s j) i (fun z => absurd z (by omega)) (fun _ => ⟨I, ?_⟩)
      rw [w3, nI_add]
      refine lx_src (lq_XIG h') (by omega) (by omega) ?_
      cases e : lq_src k s kn ad (ad j + i) j with
      | none => exact br_t rfl (nm_r (nI_1 i) (go ((lq_ar_src j).mpr (fun t ht => by rw [e] at ht; cases ht))))
      | some t =>
        have tl := (lq_src_lt j e).1
        have b1 := h2 t
        refine br_f (lq_m1 (show t < 2 ^ 31 by omega)) ⟨vp_in_nI (show t < 32 by omega) (by omega), ?_⟩
        have el : (lq_en (some t)).toNatClampNeg = t := nI_clamp (show t < 2 ^ 31 by omega)
        rw [el]
        refine pk_eq (r t) 0 (fun z => hp ⟨i, by omega, fun y => ?_⟩) (fun z => nm_r (nI_1 i) (go ((lq_ar_src j).mpr (fun t' ht => ?_))))
        · have := (lq_ar_src j).mp y t e
          omega
        · rw [e] at ht
          cases ht
          omega
  unfold wpX_lacksData
  exact ⟨s j + 1, main (s j) 0 (s j + 1) (by omega) (by omega) (fun x hx => absurd hx (by omega))⟩
theorem lx_bad4 (h : lq_XI w b m c q k p s r kn ad A V D bs ba BV BD ce) {x : Nat} (hx : x < m) {post : Int32 → Prop} : ∀ j n, j ≤ q → j < n → post (nI (lq_mb bs ba BD ce x j)) → wX_byteAfterDrains_4 post (nI x) (nI w) (nI b) (nI m) (nI c) (nI q) (fun i => nI (k i)) (fun i => nI (p i)) (fun i => nI (s i)) A (fun i => nI (r i)) V (fun i => nI (bs i)) (fun i => nI (ba i)) BV (fun i => nI (ce i)) st n (nI j - 1) := by
  obtain ⟨h1, h2, h3, h4, h5⟩ := h
  intro j
  induction j with
  | zero =>
    intro n _ hn hp
    obtain ⟨n, rfl⟩ : ∃ t, n = t + 1 := ⟨n - 1, by omega⟩
    rw [lq_dn0]
    refine br_t (by decide) ⟨vp_in_nI (by omega) (by omega), ?_⟩
    rw [nI_clamp (show x < 2 ^ 31 by omega)]
    exact hp
  | succ j ih =>
    intro n hj hn hp
    obtain ⟨n, rfl⟩ : ∃ t, n = t + 1 := ⟨n - 1, by omega⟩
    have ih' := ih n (by omega) (by omega)
    obtain ⟨w1, w2, w3⟩ := h4 j (by omega)
    have I : vp_in (nI j) 8 := vp_in_nI (by omega) (by omega)
    have hp' : post (nI (if ba j ≤ x ∧ x < ba j + bs j then lq_by (BD j) (x - ba j) else lq_mb bs ba BD ce x j)) := hp
    rw [lq_dn]
    refine br_f (nI_pos (by omega)) ⟨I, I, ?_⟩
    rw [nI_clamp (show j < 2 ^ 31 by omega)]
    refine lx_cov (ba j) (bs j) x (by omega) (by omega) (by omega) (fun z => br_f (by decide) ⟨I, I, ?_⟩) (fun z => br_t rfl (nm_r (lq_sub1 j) (ih' ?_)))
    · rw [w3]
      show wpX_byteOf _ _ (nI x - nI (ba j))
      rw [pk_sub z.1]
      rw [if_pos z] at hp'
      exact lx_by (by omega) (by omega) hp'
    · rw [if_neg z] at hp'
      exact hp'
theorem lx_bad (h : lq_XI w b m c q k p s r kn ad A V D bs ba BV BD ce) {x j : Nat} (hx : x < m) (hj : j ≤ q) {post : Int32 → Prop} (hp : post (nI (lq_mb bs ba BD ce x j))) : wpX_byteAfterDrains post (nI w, nI b, nI m, nI c, nI q, (fun i => nI (k i)), (fun i => nI (p i)), (fun i => nI (s i)), A, (fun i => nI (r i)), V, (fun i => nI (bs i)), (fun i => nI (ba i)), BV, (fun i => nI (ce i)), st) (nI x) (nI j) := by
  unfold wpX_byteAfterDrains
  exact nm_e ⟨j + 1, lx_bad4 h hx j (j + 1) hj (by omega) hp⟩
theorem lx_gather (h : lq_XI w b m c q k p s r kn ad A V D bs ba BV BD ce) {j : Nat} (hj : j < c) (hk : kn j = 1) (har : ∀ x, x < s j → lq_ar k s r kn ad (ad j + x) j) {post : Int64 → Prop} (hp : post (lN (lq_vs (fun i => lq_lb k s kn ad D (fun a => lq_mb bs ba BD ce a q) (ad j + i) j) (s j)))) : wpX_gatherValue post (nI w, nI b, nI m, nI c, nI q, (fun i => nI (k i)), (fun i => nI (p i)), (fun i => nI (s i)), A, (fun i => nI (r i)), V, (fun i => nI (bs i)), (fun i => nI (ba i)), BV, (fun i => nI (ce i)), st) (nI j) := by
  have h' := h
  obtain ⟨h1, h2, h3, h4, h5⟩ := h
  obtain ⟨w1, w2, w3, _⟩ := h3 j hj
  have w2' := w2 hk
  rw [if_pos hk] at w3
  have I : vp_in (nI j) 32 := vp_in_nI (by omega) (by omega)
  have lt : ∀ i, (fun i => lq_lb k s kn ad D (fun a => lq_mb bs ba BD ce a q) (ad j + i) j) i < 256 := fun i => lq_lb_lt k s kn ad D (fun a => lq_mb bs ba BD ce a q) (ad j + i) (lq_mb_lt bs ba BD ce (ad j + i) (h5 _) q) j
  generalize hf : (fun i => lq_lb k s kn ad D (fun a => lq_mb bs ba BD ce a q) (ad j + i) j) = f at *
  have main : ∀ d i n, i + d = s j → d < n → wX_gatherValue_5 post (nI j) (nI w) (nI b) (nI m) (nI c) (nI q) (fun i => nI (k i)) (fun i => nI (p i)) (fun i => nI (s i)) A (fun i => nI (r i)) V (fun i => nI (bs i)) (fun i => nI (ba i)) BV (fun i => nI (ce i)) st n (lN (lq_vs f i)) (nI i) := by
    intro d
    induction d with
    | zero =>
      intro i n hi hd
      obtain ⟨n, rfl⟩ : ∃ t, n = t + 1 := ⟨n - 1, by omega⟩
      refine ⟨I, ?_⟩
      rw [nI_clamp (show j < 2 ^ 31 by omega)]
      refine pk_le (s j) i (fun _ => ?_) (fun z => absurd z (by omega))
      rw [show i = s j by omega]
      exact hp
    | succ d ih =>
      intro i n hi hd
      obtain ⟨n, rfl⟩ : ∃ t, n = t + 1 := ⟨n - 1, by omega⟩
      have go : ∀ z0 : Int32, z0 = nI (f i) → wX_gatherValue_77 post (wX_gatherValue_5 post (nI j) (nI w) (nI b) (nI m) (nI c) (nI q) (fun i => nI (k i)) (fun i => nI (p i)) (fun i => nI (s i)) A (fun i => nI (r i)) V (fun i => nI (bs i)) (fun i => nI (ba i)) BV (fun i => nI (ce i)) st n) (nI j) (lN (lq_vs f i)) (nI i) z0.toInt64 (nI w) (nI b) (nI m) (nI c) (nI q) (fun i => nI (k i)) (fun i => nI (p i)) (fun i => nI (s i)) A (fun i => nI (r i)) V (fun i => nI (bs i)) (fun i => nI (ba i)) BV (fun i => nI (ce i)) st := fun z0 ez => by
        rw [ez]
        unfold wX_gatherValue_77
        have e8 : (8 : Int32) * nI i = nI (8 * i) := pk_mul 8 i
        rw [e8, lq_vor f lt i (by omega), nI_1 i]
        exact nm_e (nm_e (ih (i + 1) n (by omega) (by omega)))
      have fi : f i = lq_lb k s kn ad D (fun a => lq_mb bs ba BD ce a q) (ad j + i) j := by rw [← hf]
      refine ⟨I, ?_⟩
      rw [nI_clamp (show j < 2 ^ 31 by omega)]
      refine pk_le (s j) i (fun z => absurd z (by omega)) (fun _ => ⟨I, ?_⟩)
      rw [w3, nI_add]
      refine nm_e ?_
      refine lx_src (lq_XIG h') (by omega) (by omega) ?_
      cases e : lq_src k s kn ad (ad j + i) j with
      | none =>
        refine br_t rfl (lx_bad h' (by omega) (Nat.le_refl q) (go _ ?_))
        rw [fi, lq_lb_none j e]
      | some t =>
        obtain ⟨tl, tc⟩ := lq_src_lt j e
        obtain ⟨t1, t2, t3, t4⟩ := h3 t (by omega)
        have tr := (lq_ar_src j).mp (har i (by omega)) t e
        have tv := (t4 tr).1 tc.1
        rw [if_pos tc.2.1] at t3
        have It : vp_in (nI t) 32 := vp_in_nI (by omega) (by omega)
        refine br_f (lq_m1 (show t < 2 ^ 31 by omega)) ⟨It, It, ?_⟩
        show wpX_byteOf _ (V (nI t).toNatClampNeg) (nI (ad j + i) - A (nI t).toNatClampNeg)
        rw [nI_clamp (show t < 2 ^ 31 by omega), tv, t3, pk_sub tc.2.2.1]
        refine lx_by (by have := tc.2.2.2; omega) (by omega) (go _ ?_)
        rw [fi, lq_lb_some j e]
  unfold wpX_gatherValue
  exact ⟨s j + 1, main (s j) 0 (s j + 1) (by omega) (by omega)⟩
end
end
section
/-! the class: positions, pcs, sizes, pairs, the loads sent back, setAddress, setData, execute -/
section
variable {w b m c q : Nat} {k p s r kn ad : Nat → Nat} {A : Nat → Int32} {V : Nat → Int64} {D : Nat → Int32} {bs ba : Nat → Nat} {BV : Nat → Int64} {BD : Nat → Int32} {ce : Nat → Nat} {st : Nat → Int32}
theorem lx_pos {post : Int32 → Prop} {j : Nat} (hj : j < c) (hc : c ≤ 32) (hp : post 1) : wpX_isPosition post (nI w, nI b, nI m, nI c, nI q, (fun i => nI (k i)), (fun i => nI (p i)), (fun i => nI (s i)), A, (fun i => nI (r i)), V, (fun i => nI (bs i)), (fun i => nI (ba i)), BV, (fun i => nI (ce i)), st) (nI j) := by
  unfold wpX_isPosition
  exact br_f (nI_pos (by omega)) (br_f (nI_ge hj (by omega)) hp)
theorem lx_npos {post : Int32 → Prop} {v : Int32} (hv : v < 0 ∨ nI c ≤ v) (hp : post 0) : wpX_isPosition post (nI w, nI b, nI m, nI c, nI q, (fun i => nI (k i)), (fun i => nI (p i)), (fun i => nI (s i)), A, (fun i => nI (r i)), V, (fun i => nI (bs i)), (fun i => nI (ba i)), BV, (fun i => nI (ce i)), st) v := by
  unfold wpX_isPosition
  rcases hv with hv | hv
  · exact br_t hv hp
  · exact br_c (fun _ => hp) (fun _ => br_t hv hp)
theorem lx_pc {post : Int32 → Prop} {y : Nat} (hy : y < 16) (hp : post 1) : wpX_isPc post (nI y) := br_f (nI_pos (by omega)) (br_f (nI_ge (b := 16) hy (by decide)) hp)
theorem lx_npc {post : Int32 → Prop} {v : Int32} (hv : v < 0 ∨ nI 16 ≤ v) (hp : post 0) : wpX_isPc post v := by
  rcases hv with hv | hv
  · exact br_t hv hp
  · exact br_c (fun _ => hp) (fun _ => br_t hv hp)
theorem lx_size {post : Int32 → Prop} {v : Int32} (hp : v = 1 ∨ v = 2 ∨ v = 4 → post 1) (hn : ¬ (v = 1 ∨ v = 2 ∨ v = 4) → post 0) : wpX_isSize post v :=
  br_c (fun z => hp (Or.inl z)) (fun z1 => br_c (fun z => hp (Or.inr (Or.inl z))) (fun z2 => br_c (fun z => hp (Or.inr (Or.inr z))) (fun z3 => hn (fun z => by
    rcases z with z | z | z
    · exact z1 z
    · exact z2 z
    · exact z3 z))))
theorem lx_rem52 {post : SX → Prop} {K P S : Nat → Int32} {R : Nat → Int32} {BS BA CE : Nat → Int32} {t : Nat → Int32} {kept merged : Int32} (hp : post (nI w, nI b, nI m, nI c, nI q, K, P, S, A, R, V, BS, BA, BV, CE, lq_mg t kept merged 16)) : ∀ d i n, i + d = 16 → d < n → wX_rememberPair_52 post kept merged (nI w) (nI b) (nI m) (nI c) (nI q) n (nI i) K P S A R V BS BA BV CE (lq_mg t kept merged i) := by
  intro d
  induction d with
  | zero =>
    intro i n hi hd
    obtain ⟨n, rfl⟩ : ∃ t, n = t + 1 := ⟨n - 1, by omega⟩
    obtain rfl : i = 16 := by omega
    exact br_t (by decide) hp
  | succ d ih =>
    intro i n hi hd
    obtain ⟨n, rfl⟩ : ∃ t, n = t + 1 := ⟨n - 1, by omega⟩
    have I : vp_in (nI i) 16 := vp_in_nI (by omega) (by omega)
    have ih' := ih (i + 1) n (by omega) (by omega)
    refine br_f (nI_ge (b := 16) (by omega) (by decide)) ⟨I, ?_⟩
    rw [nI_clamp (show i < 2 ^ 31 by omega), lq_mgs]
    refine br_c (fun z => ⟨I, nm_r (lq_mg1 t kept merged i z) (nm_r (nI_1 i) ih')⟩) (fun z => nm_r (nI_1 i) ?_)
    rw [lq_mg2 t kept merged i z]
    exact ih'
theorem lx_rem {post : SX → Prop} {K P S : Nat → Int32} {R : Nat → Int32} {BS BA CE : Nat → Int32} {a e : Nat} (ha : a < 16) (he : e < 16) (hp : post (nI w, nI b, nI m, nI c, nI q, K, P, S, A, R, V, BS, BA, BV, CE, lq_rp st a e)) : wpX_rememberPair post (nI w, nI b, nI m, nI c, nI q, K, P, S, A, R, V, BS, BA, BV, CE, st) (nI a) (nI e) := by
  have Ia : vp_in (nI a) 16 := vp_in_nI (by omega) (by omega)
  have Ie : vp_in (nI e) 16 := vp_in_nI (by omega) (by omega)
  have ca : (nI a).toNatClampNeg = a := nI_clamp (by omega)
  have ce' : (nI e).toNatClampNeg = e := nI_clamp (by omega)
  have s34 : wX_rememberPair_34 post (nI a) (nI e) (nI w) (nI b) (nI m) (nI c) (nI q) K P S A R V BS BA BV CE (lq_t st a e) := by
    unfold wX_rememberPair_34
    rw [ca, ce']
    have l := lx_rem52 (t := lq_t st a e) (kept := lq_t st a e a) (merged := lq_t st a e e) hp 16 0 17 (by omega) (by omega)
    rw [lq_mg0] at l
    exact ⟨Ia, nm_e ⟨Ie, nm_e ⟨17, l⟩⟩⟩
  have s17 : wX_rememberPair_17 post (nI a) (nI e) (nI w) (nI b) (nI m) (nI c) (nI q) K P S A R V BS BA BV CE (lq_nm st a) := by
    unfold wX_rememberPair_17
    rw [ce']
    refine ⟨Ie, br_c (fun z => ⟨Ie, nm_r (e' := lq_t st a e) ?_ s34⟩) (fun z => ?_)⟩
    · have e1 : lq_t st a e = upd (lq_nm st a) e (nI e) := if_pos z
      exact e1.symm
    · have e1 : lq_t st a e = lq_nm st a := if_neg z
      rw [e1] at s34
      exact s34
  unfold wpX_rememberPair
  refine ⟨Ia, ?_⟩
  rw [ca]
  refine br_c (fun z => ⟨Ia, nm_r (e' := lq_nm st a) ?_ s17⟩) (fun z => ?_)
  · unfold lq_nm
    rw [if_pos z]
  · have e1 : lq_nm st a = st := if_neg z
    rw [e1] at s17
    exact s17
theorem lx_send (h : lq_G m c k p s r kn ad A) {j : Nat} (hj : j < c) (hL : ∀ i, i < c → k i ≠ 1 → r i = 1 → kn i = 1) {post : Int32 → SX → Prop} (hp : post (nI (lq_ct (lq_M k s r kn ad j) c)) (nI w, nI b, nI m, nI c, nI q, (fun i => nI (k i)), (fun i => nI (p i)), (fun i => nI (s i)), A, (fun iz => nI ((lq_rb (lq_M k s r kn ad j) r c) iz)), V, (fun i => nI (bs i)), (fun i => nI (ba i)), BV, (fun i => nI (ce i)), lq_sf (lq_M k s r kn ad j) p (p j) st c)) : wpX_sendBackLoadsThatMissed post (nI w, nI b, nI m, nI c, nI q, (fun i => nI (k i)), (fun i => nI (p i)), (fun i => nI (s i)), A, (fun i => nI (r i)), V, (fun i => nI (bs i)), (fun i => nI (ba i)), BV, (fun i => nI (ce i)), st) (nI j) := by
  have h' := h
  obtain ⟨h1, h0, h2, h3⟩ := h
  generalize hM : lq_M k s r kn ad j = M at *
  have Ij : vp_in (nI j) 32 := vp_in_nI (by omega) (by omega)
  have cj : (nI j).toNatClampNeg = j := nI_clamp (by omega)
  have main : ∀ d i n, i + d = c → d < n → j < i → wX_sendBackLoadsThatMissed_6 post (nI j) n (nI (lq_ct M i)) (nI i) (nI w) (nI b) (nI m) (nI c) (nI q) (fun i => nI (k i)) (fun i => nI (p i)) (fun i => nI (s i)) A (fun iz => nI ((lq_rb M r i) iz)) V (fun i => nI (bs i)) (fun i => nI (ba i)) BV (fun i => nI (ce i)) (lq_sf M p (p j) st i) := by
    intro d
    induction d with
    | zero =>
      intro i n hi hd hji
      obtain ⟨n, rfl⟩ : ∃ t, n = t + 1 := ⟨n - 1, by omega⟩
      obtain rfl : i = c := by omega
      exact br_t (nI_le (Nat.le_refl _) (by omega)) hp
    | succ d ih =>
      intro i n hi hd hji
      obtain ⟨n, rfl⟩ : ∃ t, n = t + 1 := ⟨n - 1, by omega⟩
      have I : vp_in (nI i) 32 := vp_in_nI (by omega) (by omega)
      have b1 := h2 i
      have ih' := ih (i + 1) n (by omega) (by omega) (by omega)
      have skip : ¬ M i → wX_sendBackLoadsThatMissed_6 post (nI j) n (nI (lq_ct M i)) (nI (i + 1)) (nI w) (nI b) (nI m) (nI c) (nI q) (fun i => nI (k i)) (fun i => nI (p i)) (fun i => nI (s i)) A (fun iz => nI ((lq_rb M r i) iz)) V (fun i => nI (bs i)) (fun i => nI (ba i)) BV (fun i => nI (ce i)) (lq_sf M p (p j) st i) := fun z => by
        rw [lq_ct_f z, ← lq_rb_f z, lq_sf_f z] at ih'
        exact ih'
      have mi : M i ↔ j < i ∧ k i = 0 ∧ r i = 1 ∧ ∃ x, x < s i ∧ lq_src k s kn ad (ad i + x) i = some j := by
        rw [← hM]
        exact Iff.rfl
      refine br_f (nI_ge (by omega) (by omega)) ⟨I, ?_⟩
      rw [nI_clamp (show i < 2 ^ 31 by omega), cj]
      refine pk_eq (k i) 0 (fun zk => ⟨I, ?_⟩) (fun zk => nm_r (nI_1 i) (skip (fun z => zk (mi.mp z).2.1)))
      refine pk_eq (r i) 0 (fun zr => nm_r (nI_1 i) (skip (fun z => by have := (mi.mp z).2.2.1; omega))) (fun zr => ?_) (congrArg nI (lq_rb_at M r i))
      have G' : lq_G m c k p s (lq_rb M r i) kn ad A := ⟨h1, h0, fun y => ⟨(h2 y).1, (h2 y).2.1, Nat.le_trans (lq_rb_le M r i y) (h2 y).2.2.1, (h2 y).2.2.2⟩, h3⟩
      refine lx_draws G' (by omega) (by omega) (hL i (by omega) (by omega) (by omega)) (fun z => br_f (by decide) ⟨I, ?_⟩) (fun z => br_t rfl (nm_r (nI_1 i) (skip (fun y => z (mi.mp y).2.2.2))))
      have z' : M i := mi.mpr ⟨hji, zk, by omega, z⟩
      refine nm_r (e' := fun iz => nI (lq_rb M r (i + 1) iz)) ?_ ⟨I, Ij, ?_⟩
      · rw [lq_nb0, ← lq_rb_t z']
        exact lq_upd _ i 0
      · refine lx_rem (h2 i).2.1 (h2 j).2.1 (nm_r (e' := nI (lq_ct M (i + 1))) ?_ (nm_r (nI_1 i) ?_))
        · rw [nI_1, ← lq_ct_t z']
        · rw [lq_sf_t z'] at ih'
          exact ih'
  have none : ∀ i, i < j + 1 → ¬ M i := fun i hi z => by
    rw [← hM] at z
    have := z.1
    omega
  have l := main (c - (j + 1)) (j + 1) (c - j) (by omega) (by omega) (by omega)
  rw [lq_ct_0 (j + 1) none, lq_rb_0 none, lq_sf_0 (j + 1) none] at l
  unfold wpX_sendBackLoadsThatMissed
  exact nm_r (nI_1 j) ⟨c - j, l⟩
end
end
section
/-! the class: enter, setAddress, setData, execute, executeReady, discard -/
section
variable {w b m c q : Nat} {k p s r kn ad : Nat → Nat} {A : Nat → Int32} {V : Nat → Int64} {D : Nat → Int32} {bs ba : Nat → Nat} {BV : Nat → Int64} {BD : Nat → Int32} {ce : Nat → Nat} {st : Nat → Int32}
theorem lx_enter (hw : w ≤ 32) {x y z : Nat} (hx : x ≤ 1) (hy : y < 16) (hz : z = 1 ∨ z = 2 ∨ z = 4) (hc : c ≤ w) {post : Int32 → SX → Prop} (hf : c = w → post (-5) (nI w, nI b, nI m, nI c, nI q, (fun i => nI (k i)), (fun i => nI (p i)), (fun i => nI (s i)), A, (fun i => nI (r i)), V, (fun i => nI (bs i)), (fun i => nI (ba i)), BV, (fun i => nI (ce i)), st)) (hp : c < w → post (nI c) (nI w, nI b, nI m, nI (c + 1), nI q, (fun iz => nI ((lq_un k c x) iz)), (fun iz => nI ((lq_un p c y) iz)), (fun iz => nI ((lq_un s c z) iz)), upd A c (-1), (fun iz => nI ((lq_un r c 0) iz)), V, (fun i => nI (bs i)), (fun i => nI (ba i)), BV, (fun i => nI (ce i)), st)) : wpX_enter post (nI w, nI b, nI m, nI c, nI q, (fun i => nI (k i)), (fun i => nI (p i)), (fun i => nI (s i)), A, (fun i => nI (r i)), V, (fun i => nI (bs i)), (fun i => nI (ba i)), BV, (fun i => nI (ce i)), st) (nI x) (nI y) (nI z) := by
  have main : wX_enter_12 post (nI x) (nI y) (nI z) (nI w) (nI b) (nI m) (nI c) (nI q) (fun i => nI (k i)) (fun i => nI (p i)) (fun i => nI (s i)) A (fun i => nI (r i)) V (fun i => nI (bs i)) (fun i => nI (ba i)) BV (fun i => nI (ce i)) st := by
    unfold wX_enter_12
    refine lx_pc hy (br_f (by decide) (lx_size (fun _ => br_f (by decide) ?_) (fun n => absurd ?_ n)))
    · refine pk_lt c w (fun l => ?_) (fun l => hf (by omega))
      have I : vp_in (nI c) 32 := vp_in_nI (by omega) (by omega)
      rw [nI_clamp (show c < 2 ^ 31 by omega)]
      refine ⟨I, nm_r (lq_upd k c x) ⟨I, nm_r (lq_upd p c y) ⟨I, nm_r (lq_upd s c z) ⟨I, nm_e ⟨I, nm_r ?_ (nm_r (nI_1 c) (hp l))⟩⟩⟩⟩⟩
      rw [lq_nb0]
      exact lq_upd r c 0
    · rcases hz with rfl | rfl | rfl
      · exact Or.inl rfl
      · exact Or.inr (Or.inl rfl)
      · exact Or.inr (Or.inr rfl)
  unfold wpX_enter
  exact pk_eq x 0 (fun _ => main) (fun _ => pk_eq x 1 (fun _ => main) (fun _ => absurd hx (by omega)))
theorem lx_enterK {post : Int32 → SX → Prop} {v1 v2 v3 : Int32} (h0 : ¬ v1 = 0) (h1 : ¬ v1 = 1) (hp : post (-2) (nI w, nI b, nI m, nI c, nI q, (fun i => nI (k i)), (fun i => nI (p i)), (fun i => nI (s i)), A, (fun i => nI (r i)), V, (fun i => nI (bs i)), (fun i => nI (ba i)), BV, (fun i => nI (ce i)), st)) : wpX_enter post (nI w, nI b, nI m, nI c, nI q, (fun i => nI (k i)), (fun i => nI (p i)), (fun i => nI (s i)), A, (fun i => nI (r i)), V, (fun i => nI (bs i)), (fun i => nI (ba i)), BV, (fun i => nI (ce i)), st) v1 v2 v3 := by
  unfold wpX_enter
  exact br_f h0 (br_f h1 hp)
theorem lx_enterA {post : Int32 → SX → Prop} {v1 v2 v3 : Int32} (h0 : v1 = 0 ∨ v1 = 1) (h1 : v2 < 0 ∨ nI 16 ≤ v2) (hp : post (-3) (nI w, nI b, nI m, nI c, nI q, (fun i => nI (k i)), (fun i => nI (p i)), (fun i => nI (s i)), A, (fun i => nI (r i)), V, (fun i => nI (bs i)), (fun i => nI (ba i)), BV, (fun i => nI (ce i)), st)) : wpX_enter post (nI w, nI b, nI m, nI c, nI q, (fun i => nI (k i)), (fun i => nI (p i)), (fun i => nI (s i)), A, (fun i => nI (r i)), V, (fun i => nI (bs i)), (fun i => nI (ba i)), BV, (fun i => nI (ce i)), st) v1 v2 v3 := by
  have main : wX_enter_12 post v1 v2 v3 (nI w) (nI b) (nI m) (nI c) (nI q) (fun i => nI (k i)) (fun i => nI (p i)) (fun i => nI (s i)) A (fun i => nI (r i)) V (fun i => nI (bs i)) (fun i => nI (ba i)) BV (fun i => nI (ce i)) st := lx_npc h1 (br_t rfl hp)
  unfold wpX_enter
  exact br_c (fun _ => main) (fun z => br_t (by rcases h0 with h0 | h0; exact absurd h0 z; exact h0) main)
theorem lx_enterS {post : Int32 → SX → Prop} {v1 v3 : Int32} {y : Nat} (hy : y < 16) (h0 : v1 = 0 ∨ v1 = 1) (h1 : ¬ (v3 = 1 ∨ v3 = 2 ∨ v3 = 4)) (hp : post (-3) (nI w, nI b, nI m, nI c, nI q, (fun i => nI (k i)), (fun i => nI (p i)), (fun i => nI (s i)), A, (fun i => nI (r i)), V, (fun i => nI (bs i)), (fun i => nI (ba i)), BV, (fun i => nI (ce i)), st)) : wpX_enter post (nI w, nI b, nI m, nI c, nI q, (fun i => nI (k i)), (fun i => nI (p i)), (fun i => nI (s i)), A, (fun i => nI (r i)), V, (fun i => nI (bs i)), (fun i => nI (ba i)), BV, (fun i => nI (ce i)), st) v1 (nI y) v3 := by
  have main : wX_enter_12 post v1 (nI y) v3 (nI w) (nI b) (nI m) (nI c) (nI q) (fun i => nI (k i)) (fun i => nI (p i)) (fun i => nI (s i)) A (fun i => nI (r i)) V (fun i => nI (bs i)) (fun i => nI (ba i)) BV (fun i => nI (ce i)) st := lx_pc hy (br_f (by decide) (lx_size (fun z => absurd z h1) (fun _ => br_t rfl hp)))
  unfold wpX_enter
  exact br_c (fun _ => main) (fun z => br_t (by rcases h0 with h0 | h0; exact absurd h0 z; exact h0) main)
theorem lx_addr (h : lq_XI w b m c q k p s r kn ad A V D bs ba BV BD ce) {j : Nat} (hj : j < c) {v : Int32} {post : Int32 → SX → Prop} (hk : kn j = 1 → post (-4) (nI w, nI b, nI m, nI c, nI q, (fun i => nI (k i)), (fun i => nI (p i)), (fun i => nI (s i)), A, (fun i => nI (r i)), V, (fun i => nI (bs i)), (fun i => nI (ba i)), BV, (fun i => nI (ce i)), st)) (hb : kn j ≠ 1 → v < 0 ∨ nI (m - s j + 1) ≤ v → post (-3) (nI w, nI b, nI m, nI c, nI q, (fun i => nI (k i)), (fun i => nI (p i)), (fun i => nI (s i)), A, (fun i => nI (r i)), V, (fun i => nI (bs i)), (fun i => nI (ba i)), BV, (fun i => nI (ce i)), st)) (hl : ∀ a, kn j ≠ 1 → v = nI a → a + s j ≤ m → k j ≠ 1 → post 0 (nI w, nI b, nI m, nI c, nI q, (fun i => nI (k i)), (fun i => nI (p i)), (fun i => nI (s i)), upd A j (nI a), (fun i => nI (r i)), V, (fun i => nI (bs i)), (fun i => nI (ba i)), BV, (fun i => nI (ce i)), st)) (hs : ∀ a, kn j ≠ 1 → v = nI a → a + s j ≤ m → k j = 1 → post (nI (lq_ct (lq_M k s r (lq_un kn j 1) (lq_un ad j a) j) c)) (nI w, nI b, nI m, nI c, nI q, (fun i => nI (k i)), (fun i => nI (p i)), (fun i => nI (s i)), upd A j (nI a), (fun iz => nI ((lq_rb (lq_M k s r (lq_un kn j 1) (lq_un ad j a) j) r c) iz)), V, (fun i => nI (bs i)), (fun i => nI (ba i)), BV, (fun i => nI (ce i)), lq_sf (lq_M k s r (lq_un kn j 1) (lq_un ad j a) j) p (p j) st c)) : wpX_setAddress post (nI w, nI b, nI m, nI c, nI q, (fun i => nI (k i)), (fun i => nI (p i)), (fun i => nI (s i)), A, (fun i => nI (r i)), V, (fun i => nI (bs i)), (fun i => nI (ba i)), BV, (fun i => nI (ce i)), st) (nI j) v := by
  have h' := h
  obtain ⟨h1, h2, h3, h4, h5⟩ := h
  obtain ⟨w1, w2, w3, w4⟩ := h3 j hj
  have I : vp_in (nI j) 32 := vp_in_nI (by omega) (by omega)
  unfold wpX_setAddress
  refine lx_pos hj (by omega) (br_f (by decide) ⟨I, ?_⟩)
  rw [nI_clamp (show j < 2 ^ 31 by omega)]
  by_cases zn : kn j = 1
  · have w2' := w2 zn
    rw [if_pos zn] at w3
    rw [w3]
    exact br_f (lq_m1 (by omega)) (hk zn)
  · rw [if_neg zn] at w3
    refine br_t w3 ?_
    have e : nI m - (fun i => nI (s i)) j = nI (m - s j) := pk_sub (by omega)
    rw [e]
    rcases pk_ix v (n := m - s j + 1) (by omega) with hv | hv | ⟨a, ha, rfl⟩
    · exact br_t hv (hb zn (Or.inl hv))
    · refine br_c (fun _ => hb zn (Or.inr hv)) (fun hv0 => ⟨I, br_f ?_ (hb zn (Or.inr hv))⟩)
      obtain ⟨a, ha, rfl⟩ := nI_of hv0
      rw [nI_leI (by omega) ha] at hv
      rw [nI_leI ha (by omega)]
      omega
    · refine br_f (nI_pos (by omega)) ⟨I, br_t (nI_le (by omega) (by omega)) ⟨I, nm_e ⟨I, ?_⟩⟩⟩
      have b1 := h2 j
      refine pk_eq (k j) 1 (fun zk => ?_) (fun zk => hl a zn rfl (by omega) zk)
      have G' : lq_G m c k p s r (lq_un kn j 1) (lq_un ad j a) (upd A j (nI a)) := by
        refine ⟨by omega, by omega, fun i => ⟨(h2 i).1, (h2 i).2.1, (h2 i).2.2.1, lq_unp (P := fun y => y ≤ 1) (fun i => (h2 i).2.2.2) (by omega) i⟩, fun i hi => ?_⟩
        by_cases e : i = j
        · subst e
          rw [lq_us, lq_us, pk_us]
          exact ⟨w1, fun _ => by omega, (if_pos rfl).symm⟩
        · rw [lq_ui e, lq_ui e, pk_un e]
          exact ⟨(h3 i hi).1, (h3 i hi).2.1, (h3 i hi).2.2.1⟩
      refine lx_send G' hj (fun i hi z1 z2 => ?_) (hs a zn rfl (by omega) zk)
      have := (((h3 i hi).2.2.2 z2).2 z1).1
      exact lq_unp (P := fun y => y = 1) (fun _ => this) rfl i
theorem lx_data (h : lq_XI w b m c q k p s r kn ad A V D bs ba BV BD ce) {j : Nat} (hj : j < c) {v : Int32} {post : Int32 → SX → Prop} (hk : k j ≠ 1 → post (-2) (nI w, nI b, nI m, nI c, nI q, (fun i => nI (k i)), (fun i => nI (p i)), (fun i => nI (s i)), A, (fun i => nI (r i)), V, (fun i => nI (bs i)), (fun i => nI (ba i)), BV, (fun i => nI (ce i)), st)) (hr : k j = 1 → r j = 1 → post (-4) (nI w, nI b, nI m, nI c, nI q, (fun i => nI (k i)), (fun i => nI (p i)), (fun i => nI (s i)), A, (fun i => nI (r i)), V, (fun i => nI (bs i)), (fun i => nI (ba i)), BV, (fun i => nI (ce i)), st)) (hp : k j = 1 → r j ≠ 1 → post 0 (nI w, nI b, nI m, nI c, nI q, (fun i => nI (k i)), (fun i => nI (p i)), (fun i => nI (s i)), A, (fun iz => nI ((lq_un r j 1) iz)), vp_updL V j (lN (lq_lo v (s j))), (fun i => nI (bs i)), (fun i => nI (ba i)), BV, (fun i => nI (ce i)), st)) : wpX_setData post (nI w, nI b, nI m, nI c, nI q, (fun i => nI (k i)), (fun i => nI (p i)), (fun i => nI (s i)), A, (fun i => nI (r i)), V, (fun i => nI (bs i)), (fun i => nI (ba i)), BV, (fun i => nI (ce i)), st) (nI j) v := by
  obtain ⟨h1, h2, h3, h4, h5⟩ := h
  obtain ⟨w1, w2, w3, w4⟩ := h3 j hj
  have b1 := h2 j
  have I : vp_in (nI j) 32 := vp_in_nI (by omega) (by omega)
  unfold wpX_setData
  refine lx_pos hj (by omega) (br_f (by decide) ⟨I, ?_⟩)
  rw [nI_clamp (show j < 2 ^ 31 by omega)]
  refine pk_eq (k j) 0 (fun z => hk (by omega)) (fun z => ⟨I, pk_eq (r j) 0 (fun y => ⟨I, ?_⟩) (fun y => hr (by omega) (by omega))⟩)
  unfold wpX_lowBytes
  dsimp only
  rw [lq_low v w1]
  refine ⟨I, nm_e ⟨I, nm_r ?_ (hp (by omega) (by omega))⟩⟩
  rw [lq_nb1]
  exact lq_upd r j 1
theorem lx_exec (h : lq_XI w b m c q k p s r kn ad A V D bs ba BV BD ce) {j : Nat} (hj : j < c) {ans : Int32} {r' : Nat → Nat} {V' : Nat → Int64} (e : lq_EX k p s r kn ad V D (fun a => lq_mb bs ba BD ce a q) st j ans r' V') {post : Int32 → SX → Prop} (hp : post ans (nI w, nI b, nI m, nI c, nI q, (fun i => nI (k i)), (fun i => nI (p i)), (fun i => nI (s i)), A, (fun iz => nI (r' iz)), V', (fun i => nI (bs i)), (fun i => nI (ba i)), BV, (fun i => nI (ce i)), st)) : wpX_execute post (nI w, nI b, nI m, nI c, nI q, (fun i => nI (k i)), (fun i => nI (p i)), (fun i => nI (s i)), A, (fun i => nI (r i)), V, (fun i => nI (bs i)), (fun i => nI (ba i)), BV, (fun i => nI (ce i)), st) (nI j) := by
  have h' := h
  obtain ⟨h1, h2, h3, h4, h5⟩ := h
  obtain ⟨w1, w2, w3, w4⟩ := h3 j hj
  have b1 := h2 j
  have I : vp_in (nI j) 32 := vp_in_nI (by omega) (by omega)
  unfold wpX_execute
  refine lx_pos hj (by omega) (br_f (by decide) ⟨I, ?_⟩)
  rw [nI_clamp (show j < 2 ^ 31 by omega)]
  rcases e with ⟨e1, ea, er, eV⟩ | ⟨e1, e2, ea, er, eV⟩ | ⟨e1, e2, e3, ea, er, eV⟩ | ⟨e1, e2, e3, e4, ea, er, eV⟩ | ⟨e1, e2, e3, e4, e5, ea, er, eV⟩ | ⟨e1, e2, e3, e4, e5, ea, er, eV⟩
  all_goals rw [ea, er, eV] at hp
  · exact pk_eq (k j) 1 (fun z => hp) (fun z => absurd e1 z)
  · exact pk_eq (k j) 1 (fun z => absurd z e1) (fun z => ⟨I, pk_eq (r j) 0 (fun y => absurd e2 (by omega)) (fun y => hp)⟩)
  · refine pk_eq (k j) 1 (fun z => absurd z e1) (fun z => ⟨I, pk_eq (r j) 0 (fun y => ⟨I, br_t ?_ hp⟩) (fun y => absurd e2 (by omega))⟩)
    rw [w3, if_neg e3]
  all_goals
    have a1 : ¬ A j = -1 := by
      rw [w3, if_pos e3]
      exact lq_m1 (by have := w2 e3; omega)
    refine pk_eq (k j) 1 (fun z => absurd z e1) (fun z => ⟨I, pk_eq (r j) 0 (fun y => ⟨I, br_f a1 ?_⟩) (fun y => absurd e2 (by omega))⟩)
  · exact lx_waits h' hj (fun _ => br_f (by decide) hp) (fun n => absurd e4 n)
  · exact lx_waits h' hj (fun n => absurd n e4) (fun _ => br_t rfl (lx_lacks h' hj e3 (fun _ => br_f (by decide) hp) (fun n => absurd e5 n)))
  · have ar : ∀ x, x < s j → lq_ar k s r kn ad (ad j + x) j := fun x hx => Classical.byContradiction (fun n => e5 ⟨x, hx, n⟩)
    refine lx_waits h' hj (fun n => absurd n e4) (fun _ => br_t rfl (lx_lacks h' hj e3 (fun n => absurd n e5) (fun _ => br_t rfl (lx_gather h' hj e3 ar ⟨I, nm_e ⟨I, nm_r ?_ hp⟩⟩))))
    rw [lq_nb1]
    exact lq_upd r j 1
/-- executeReady from position i on -/
def lq_ER (k p s kn ad : Nat → Nat) (D : Nat → Int32) (base : Nat → Nat) (st : Nat → Int32) : Nat → Nat → (Nat → Nat) → (Nat → Int64) → Nat → (Nat → Nat) → (Nat → Int64) → Prop
  | 0, _, r, V, n, r', V' => n = 0 ∧ r' = r ∧ V' = V
  | d + 1, i, r, V, n, r', V' => ∃ ans r1 V1 n1, lq_EX k p s r kn ad V D base st i ans r1 V1 ∧ lq_ER k p s kn ad D base st d (i + 1) r1 V1 n1 r' V' ∧ ((ans = 0 ∧ n = n1 + 1) ∨ (ans ≠ 0 ∧ n = n1))
theorem lq_ERex (k p s kn ad : Nat → Nat) (D : Nat → Int32) (base : Nat → Nat) (st : Nat → Int32) : ∀ d i r V, ∃ n r' V', n ≤ d ∧ lq_ER k p s kn ad D base st d i r V n r' V'
  | 0, _, r, V => ⟨0, r, V, Nat.le_refl _, rfl, rfl, rfl⟩
  | d + 1, i, r, V => by
    obtain ⟨ans, r1, V1, e⟩ := lq_EXex k p s r kn ad V D base st i
    obtain ⟨n1, r', V', hn, e2⟩ := lq_ERex k p s kn ad D base st d (i + 1) r1 V1
    by_cases z : ans = 0
    · exact ⟨n1 + 1, r', V', by omega, ans, r1, V1, n1, e, e2, Or.inl ⟨z, rfl⟩⟩
    · exact ⟨n1, r', V', by omega, ans, r1, V1, n1, e, e2, Or.inr ⟨z, rfl⟩⟩
theorem lq_XIer {d : Nat} : ∀ {i : Nat} {r : Nat → Nat} {V : Nat → Int64} {n : Nat} {r' : Nat → Nat} {V' : Nat → Int64}, lq_XI w b m c q k p s r kn ad A V D bs ba BV BD ce → lq_ER k p s kn ad D (fun a => lq_mb bs ba BD ce a q) st d i r V n r' V' → lq_XI w b m c q k p s r' kn ad A V' D bs ba BV BD ce := by
  induction d with
  | zero =>
    intro i r V n r' V' h ⟨_, e1, e2⟩
    rw [e1, e2]
    exact h
  | succ d ih =>
    intro i r V n r' V' h ⟨ans, r1, V1, n1, e1, e2, _⟩
    exact ih (lq_XIex h e1) e2
theorem lx_er4 {post : Int32 → SX → Prop} : ∀ d i fu {r : Nat → Nat} {V : Nat → Int64} {n n0 : Nat} {r' : Nat → Nat} {V' : Nat → Int64}, lq_XI w b m c q k p s r kn ad A V D bs ba BV BD ce → lq_ER k p s kn ad D (fun a => lq_mb bs ba BD ce a q) st d i r V n r' V' → i + d = c → d < fu → post (nI (n0 + n)) (nI w, nI b, nI m, nI c, nI q, (fun i => nI (k i)), (fun i => nI (p i)), (fun i => nI (s i)), A, (fun iz => nI (r' iz)), V', (fun i => nI (bs i)), (fun i => nI (ba i)), BV, (fun i => nI (ce i)), st) → wX_executeReady_4 post fu (nI n0) (nI i) (nI w) (nI b) (nI m) (nI c) (nI q) (fun i => nI (k i)) (fun i => nI (p i)) (fun i => nI (s i)) A (fun i => nI (r i)) V (fun i => nI (bs i)) (fun i => nI (ba i)) BV (fun i => nI (ce i)) st := by
  intro d
  induction d with
  | zero =>
    intro i fu r V n n0 r' V' h ⟨e0, e1, e2⟩ hi hd hp
    subst e0 e1 e2
    obtain ⟨fu, rfl⟩ : ∃ t, fu = t + 1 := ⟨fu - 1, by omega⟩
    have := h.1
    exact br_t (nI_le (by omega) (by omega)) hp
  | succ d ih =>
    intro i fu r V n n0 r' V' h ⟨ans, r1, V1, n1, e1, e2, e3⟩ hi hd hp
    obtain ⟨fu, rfl⟩ : ∃ t, fu = t + 1 := ⟨fu - 1, by omega⟩
    have := h.1
    refine br_f (nI_ge (by omega) (by omega)) (lx_exec h (by omega) e1 ?_)
    rcases e3 with ⟨z, e3⟩ | ⟨z, e3⟩
    · refine br_t z (nm_r (nI_1 n0) (nm_r (nI_1 i) (ih (i + 1) fu (n0 := n0 + 1) (lq_XIex h e1) e2 (by omega) (by omega) ?_)))
      rw [show n0 + 1 + n1 = n0 + n by omega]
      exact hp
    · refine br_f z (nm_r (nI_1 i) (ih (i + 1) fu (n0 := n0) (lq_XIex h e1) e2 (by omega) (by omega) ?_))
      rw [← e3]
      exact hp
theorem lx_er (h : lq_XI w b m c q k p s r kn ad A V D bs ba BV BD ce) {n : Nat} {r' : Nat → Nat} {V' : Nat → Int64} (e : lq_ER k p s kn ad D (fun a => lq_mb bs ba BD ce a q) st c 0 r V n r' V') {post : Int32 → SX → Prop} (hp : post (nI n) (nI w, nI b, nI m, nI c, nI q, (fun i => nI (k i)), (fun i => nI (p i)), (fun i => nI (s i)), A, (fun iz => nI (r' iz)), V', (fun i => nI (bs i)), (fun i => nI (ba i)), BV, (fun i => nI (ce i)), st)) : wpX_executeReady post (nI w, nI b, nI m, nI c, nI q, (fun i => nI (k i)), (fun i => nI (p i)), (fun i => nI (s i)), A, (fun i => nI (r i)), V, (fun i => nI (bs i)), (fun i => nI (ba i)), BV, (fun i => nI (ce i)), st) := by
  unfold wpX_executeReady
  refine ⟨c + 1, lx_er4 c 0 (c + 1) (n0 := 0) h e (by omega) (by omega) ?_⟩
  rw [Nat.zero_add]
  exact hp
theorem lx_disc {j : Nat} (hj : j < c) (hc : c ≤ 32) {post : Int32 → SX → Prop} (hp : post (nI (c - j)) (nI w, nI b, nI m, nI j, nI q, (fun i => nI (k i)), (fun i => nI (p i)), (fun i => nI (s i)), A, (fun i => nI (r i)), V, (fun i => nI (bs i)), (fun i => nI (ba i)), BV, (fun i => nI (ce i)), st)) : wpX_discard post (nI w, nI b, nI m, nI c, nI q, (fun i => nI (k i)), (fun i => nI (p i)), (fun i => nI (s i)), A, (fun i => nI (r i)), V, (fun i => nI (bs i)), (fun i => nI (ba i)), BV, (fun i => nI (ce i)), st) (nI j) := by
  unfold wpX_discard
  exact lx_pos hj hc (br_f (by decide) (nm_r (pk_sub (by omega)) hp))
end
end
section
/-! the class: commit, drain, the sets forgotten, the start, the readers -/
section
variable {w b m c q : Nat} {k p s r kn ad : Nat → Nat} {A : Nat → Int32} {V : Nat → Int64} {D : Nat → Int32} {bs ba : Nat → Nat} {BV : Nat → Int64} {BD : Nat → Int32} {ce : Nat → Nat} {st : Nat → Int32}
theorem lq_shx (i : Nat) (a : Nat → Int32) : upd (lq_sh (i + 1) a) i (lq_sh (i + 1) a (i + 1)) = lq_sh (i + 1 + 1) a := by rw [lq_shv]; exact lq_shu i a
theorem lq_shy (i : Nat) (a : Nat → Int64) : vp_updL (lq_sh (i + 1) a) i (lq_sh (i + 1) a (i + 1)) = lq_sh (i + 1 + 1) a := by rw [lq_shv]; exact lq_shL i a
theorem lq_shb (i : Nat) {f : Nat → Nat} (h : ∀ i, f i ≤ 1) : upd (lq_sh (i + 1) (fun i => nI (f i))) i (vp_nar .boolean (lq_sh (i + 1) (fun i => nI (f i)) (i + 1))) = lq_sh (i + 1 + 1) (fun i => nI (f i)) := by
  rw [lq_shv, lq_nb (h _)]
  exact lq_shu i (fun i => nI (f i))
theorem lx_shw {post : SX → Prop} {BS BA : Nat → Int32} (hc : c < 32) (hr : ∀ i, r i ≤ 1) (hp : post (nI w, nI b, nI m, nI c, nI q, (fun iz => nI ((lq_sh (c + 1) k) iz)), (fun iz => nI ((lq_sh (c + 1) p) iz)), (fun iz => nI ((lq_sh (c + 1) s) iz)), lq_sh (c + 1) A, (fun iz => nI ((lq_sh (c + 1) r) iz)), lq_sh (c + 1) V, BS, BA, BV, (fun i => nI (ce i)), st)) : wpX_removeOldestFromWindow post (nI w, nI b, nI m, nI (c + 1), nI q, (fun i => nI (k i)), (fun i => nI (p i)), (fun i => nI (s i)), A, (fun i => nI (r i)), V, BS, BA, BV, (fun i => nI (ce i)), st) := by
  have main : ∀ d i n, i + d = c → d < n → wX_removeOldestFromWindow_2 post (nI w) (nI b) (nI m) (nI (c + 1)) (nI q) n (nI (i + 1)) (lq_sh (i + 1) (fun i => nI (k i))) (lq_sh (i + 1) (fun i => nI (p i))) (lq_sh (i + 1) (fun i => nI (s i))) (lq_sh (i + 1) A) (lq_sh (i + 1) (fun i => nI (r i))) (lq_sh (i + 1) V) BS BA BV (fun i => nI (ce i)) st := by
    intro d
    induction d with
    | zero =>
      intro i n hi hd
      obtain ⟨n, rfl⟩ : ∃ t, n = t + 1 := ⟨n - 1, by omega⟩
      obtain rfl : i = c := by omega
      rw [← lq_shn, ← lq_shn, ← lq_shn, ← lq_shn] at hp
      exact br_t (nI_le (Nat.le_refl _) (by omega)) (nm_r (nI_pred i) hp)
    | succ d ih =>
      intro i n hi hd
      obtain ⟨n, rfl⟩ : ∃ t, n = t + 1 := ⟨n - 1, by omega⟩
      have I : vp_in (nI i) 32 := vp_in_nI (by omega) (by omega)
      have I1 : vp_in (nI (i + 1)) 32 := vp_in_nI (by omega) (by omega)
      refine br_f (nI_ge (by omega) (by omega)) ?_
      rw [nI_pred i, nI_clamp (show i + 1 < 2 ^ 31 by omega), nI_clamp (show i < 2 ^ 31 by omega)]
      exact ⟨I1, I, nm_r (lq_shx i _) ⟨I1, I, nm_r (lq_shx i _) ⟨I1, I, nm_r (lq_shx i _) ⟨I1, I, nm_r (lq_shx i _) ⟨I1, I, nm_r (lq_shb i hr) ⟨I1, I, nm_r (lq_shy i _) (nm_r (nI_1 (i + 1)) (ih (i + 1) n (by omega) (by omega)))⟩⟩⟩⟩⟩⟩
  have l := main c 0 (c + 1) (by omega) (by omega)
  rw [Nat.zero_add, lq_sh1, lq_sh1, lq_sh1, lq_sh1, lq_sh1, lq_sh1] at l
  unfold wpX_removeOldestFromWindow
  exact ⟨c + 1, l⟩
theorem lx_com0 {post : Int64 → SX → Prop} (hp : post (-10) (nI w, nI b, nI m, nI 0, nI q, (fun i => nI (k i)), (fun i => nI (p i)), (fun i => nI (s i)), A, (fun i => nI (r i)), V, (fun i => nI (bs i)), (fun i => nI (ba i)), BV, (fun i => nI (ce i)), st)) : wpX_commit post (nI w, nI b, nI m, nI 0, nI q, (fun i => nI (k i)), (fun i => nI (p i)), (fun i => nI (s i)), A, (fun i => nI (r i)), V, (fun i => nI (bs i)), (fun i => nI (ba i)), BV, (fun i => nI (ce i)), st) := by
  unfold wpX_commit
  exact br_t rfl hp
theorem lx_comN (h : lq_XI w b m (c + 1) q k p s r kn ad A V D bs ba BV BD ce) {post : Int64 → SX → Prop} (hr : r 0 ≠ 1 ∨ kn 0 ≠ 1) (hp : post (-9) (nI w, nI b, nI m, nI (c + 1), nI q, (fun i => nI (k i)), (fun i => nI (p i)), (fun i => nI (s i)), A, (fun i => nI (r i)), V, (fun i => nI (bs i)), (fun i => nI (ba i)), BV, (fun i => nI (ce i)), st)) : wpX_commit post (nI w, nI b, nI m, nI (c + 1), nI q, (fun i => nI (k i)), (fun i => nI (p i)), (fun i => nI (s i)), A, (fun i => nI (r i)), V, (fun i => nI (bs i)), (fun i => nI (ba i)), BV, (fun i => nI (ce i)), st) := by
  obtain ⟨h1, h2, h3, h4, h5⟩ := h
  obtain ⟨w1, w2, w3, w4⟩ := h3 0 (by omega)
  have b1 := h2 0
  unfold wpX_commit
  refine br_f (nI_ne0 (by omega) (by omega)) (pk_eq (r 0) 0 (fun _ => hp) (fun z => br_t ?_ hp))
  rw [w3, if_neg (by omega)]
theorem lx_comL (h : lq_XI w b m (c + 1) q k p s r kn ad A V D bs ba BV BD ce) {post : Int64 → SX → Prop} (hk : k 0 ≠ 1) (hr : r 0 = 1) (hp : post (V 0) (nI w, nI b, nI m, nI c, nI q, (fun iz => nI ((lq_sh (c + 1) k) iz)), (fun iz => nI ((lq_sh (c + 1) p) iz)), (fun iz => nI ((lq_sh (c + 1) s) iz)), lq_sh (c + 1) A, (fun iz => nI ((lq_sh (c + 1) r) iz)), lq_sh (c + 1) V, (fun i => nI (bs i)), (fun i => nI (ba i)), BV, (fun i => nI (ce i)), st)) : wpX_commit post (nI w, nI b, nI m, nI (c + 1), nI q, (fun i => nI (k i)), (fun i => nI (p i)), (fun i => nI (s i)), A, (fun i => nI (r i)), V, (fun i => nI (bs i)), (fun i => nI (ba i)), BV, (fun i => nI (ce i)), st) := by
  obtain ⟨h1, h2, h3, h4, h5⟩ := h
  obtain ⟨w1, w2, w3, w4⟩ := h3 0 (by omega)
  have b1 := h2 0
  have kn0 := ((w4 hr).2 hk).1
  have w2' := w2 kn0
  unfold wpX_commit
  refine br_f (nI_ne0 (by omega) (by omega)) (pk_eq (r 0) 0 (fun z => absurd hr (by omega)) (fun z => br_f ?_ (nm_e (pk_eq (k 0) 1 (fun z => absurd z hk) (fun _ => ?_)))))
  · rw [w3, if_pos kn0]
    exact lq_m1 (by omega)
  · unfold wX_commit_74
    exact lx_shw (by omega) (fun i => (h2 i).2.2.1) hp
theorem lx_comS (h : lq_XI w b m (c + 1) q k p s r kn ad A V D bs ba BV BD ce) {post : Int64 → SX → Prop} (hk : k 0 = 1) (hr : r 0 = 1) (hn : kn 0 = 1) (hf : q = b → post (-5) (nI w, nI b, nI m, nI (c + 1), nI q, (fun i => nI (k i)), (fun i => nI (p i)), (fun i => nI (s i)), A, (fun i => nI (r i)), V, (fun i => nI (bs i)), (fun i => nI (ba i)), BV, (fun i => nI (ce i)), st)) (hp : q < b → post (-11) (nI w, nI b, nI m, nI c, nI (q + 1), (fun iz => nI ((lq_sh (c + 1) k) iz)), (fun iz => nI ((lq_sh (c + 1) p) iz)), (fun iz => nI ((lq_sh (c + 1) s) iz)), lq_sh (c + 1) A, (fun iz => nI ((lq_sh (c + 1) r) iz)), lq_sh (c + 1) V, (fun iz => nI ((lq_un bs q (s 0)) iz)), (fun iz => nI ((lq_un ba q (ad 0)) iz)), vp_updL BV q (V 0), (fun i => nI (ce i)), st)) : wpX_commit post (nI w, nI b, nI m, nI (c + 1), nI q, (fun i => nI (k i)), (fun i => nI (p i)), (fun i => nI (s i)), A, (fun i => nI (r i)), V, (fun i => nI (bs i)), (fun i => nI (ba i)), BV, (fun i => nI (ce i)), st) := by
  obtain ⟨h1, h2, h3, h4, h5⟩ := h
  obtain ⟨w1, w2, w3, w4⟩ := h3 0 (by omega)
  have b1 := h2 0
  have w2' := w2 hn
  rw [if_pos hn] at w3
  unfold wpX_commit
  refine br_f (nI_ne0 (by omega) (by omega)) (pk_eq (r 0) 0 (fun z => absurd hr (by omega)) (fun z => br_f ?_ (nm_e (pk_eq (k 0) 1 (fun _ => pk_lt q b (fun l => ?_) (fun l => hf (by omega))) (fun z => absurd hk z)))))
  · rw [w3]
    exact lq_m1 (by omega)
  · have I : vp_in (nI q) 8 := vp_in_nI (by omega) (by omega)
    unfold wpX_moveOldestIntoBuffer
    refine ⟨I, ?_⟩
    rw [nI_clamp (show q < 2 ^ 31 by omega), w3]
    refine nm_r (lq_upd bs q (s 0)) ⟨I, nm_r (lq_upd ba q (ad 0)) ⟨I, nm_e (nm_r (nI_1 q) ?_)⟩⟩
    show wX_commit_74 post (-11) (nI w) (nI b) (nI m) (nI (c + 1)) (nI (q + 1)) (fun i => nI (k i)) (fun i => nI (p i)) (fun i => nI (s i)) A (fun i => nI (r i)) V (fun iz => nI ((lq_un bs q (s 0)) iz)) (fun iz => nI ((lq_un ba q (ad 0)) iz)) (vp_updL BV q (V 0)) (fun i => nI (ce i)) st
    unfold wX_commit_74
    exact lx_shw (by omega) (fun i => (h2 i).2.2.1) (hp l)
theorem lx_shb {post : SX → Prop} {CE : Nat → Int32} (hq : q < 8) (hp : post (nI w, nI b, nI m, nI c, nI q, (fun i => nI (k i)), (fun i => nI (p i)), (fun i => nI (s i)), A, (fun i => nI (r i)), V, (fun iz => nI ((lq_sh (q + 1) bs) iz)), (fun iz => nI ((lq_sh (q + 1) ba) iz)), lq_sh (q + 1) BV, CE, st)) : wpX_removeOldestFromBuffer post (nI w, nI b, nI m, nI c, nI (q + 1), (fun i => nI (k i)), (fun i => nI (p i)), (fun i => nI (s i)), A, (fun i => nI (r i)), V, (fun i => nI (bs i)), (fun i => nI (ba i)), BV, CE, st) := by
  have main : ∀ d i n, i + d = q → d < n → wX_removeOldestFromBuffer_2 post (nI w) (nI b) (nI m) (nI c) (nI (q + 1)) n (nI (i + 1)) (fun i => nI (k i)) (fun i => nI (p i)) (fun i => nI (s i)) A (fun i => nI (r i)) V (lq_sh (i + 1) (fun i => nI (bs i))) (lq_sh (i + 1) (fun i => nI (ba i))) (lq_sh (i + 1) BV) CE st := by
    intro d
    induction d with
    | zero =>
      intro i n hi hd
      obtain ⟨n, rfl⟩ : ∃ t, n = t + 1 := ⟨n - 1, by omega⟩
      obtain rfl : i = q := by omega
      rw [← lq_shn, ← lq_shn] at hp
      exact br_t (nI_le (Nat.le_refl _) (by omega)) (nm_r (nI_pred i) hp)
    | succ d ih =>
      intro i n hi hd
      obtain ⟨n, rfl⟩ : ∃ t, n = t + 1 := ⟨n - 1, by omega⟩
      have I : vp_in (nI i) 8 := vp_in_nI (by omega) (by omega)
      have I1 : vp_in (nI (i + 1)) 8 := vp_in_nI (by omega) (by omega)
      refine br_f (nI_ge (by omega) (by omega)) ?_
      rw [nI_pred i, nI_clamp (show i + 1 < 2 ^ 31 by omega), nI_clamp (show i < 2 ^ 31 by omega)]
      exact ⟨I1, I, nm_r (lq_shx i _) ⟨I1, I, nm_r (lq_shx i _) ⟨I1, I, nm_r (lq_shy i _) (nm_r (nI_1 (i + 1)) (ih (i + 1) n (by omega) (by omega)))⟩⟩⟩
  have l := main q 0 (q + 1) (by omega) (by omega)
  rw [Nat.zero_add, lq_sh1, lq_sh1, lq_sh1] at l
  unfold wpX_removeOldestFromBuffer
  exact ⟨q + 1, l⟩
def lq_wc (ce : Nat → Nat) (a0 : Nat) (d : Int32) (i : Nat) : Nat → Nat := fun a => if a0 ≤ a ∧ a < a0 + i then lq_by d (a - a0) else ce a
theorem lq_wc0 (ce : Nat → Nat) (a0 : Nat) (d : Int32) : lq_wc ce a0 d 0 = ce := by
  funext a
  exact if_neg (fun h => by omega)
theorem lq_wc1 (ce : Nat → Nat) (a0 : Nat) (d : Int32) (i : Nat) : lq_un (lq_wc ce a0 d i) (a0 + i) (lq_by d i) = lq_wc ce a0 d (i + 1) := by
  funext a
  unfold lq_un lq_wc
  by_cases e : a = a0 + i
  · rw [if_pos e, if_pos ⟨by omega, by omega⟩, e, Nat.add_sub_cancel_left]
  · rw [if_neg e]
    by_cases z : a0 ≤ a ∧ a < a0 + i
    · rw [if_pos z, if_pos ⟨by omega, by omega⟩]
    · rw [if_neg z, if_neg (fun y => z ⟨by omega, by omega⟩)]
theorem lx_drain0 {post : Int32 → SX → Prop} (hp : post (-10) (nI w, nI b, nI m, nI c, nI 0, (fun i => nI (k i)), (fun i => nI (p i)), (fun i => nI (s i)), A, (fun i => nI (r i)), V, (fun i => nI (bs i)), (fun i => nI (ba i)), BV, (fun i => nI (ce i)), st)) : wpX_drain post (nI w, nI b, nI m, nI c, nI 0, (fun i => nI (k i)), (fun i => nI (p i)), (fun i => nI (s i)), A, (fun i => nI (r i)), V, (fun i => nI (bs i)), (fun i => nI (ba i)), BV, (fun i => nI (ce i)), st) := by
  unfold wpX_drain
  exact br_t rfl hp
theorem lx_drain (h : lq_XI w b m c (q + 1) k p s r kn ad A V D bs ba BV BD ce) {post : Int32 → SX → Prop} (hp : post 0 (nI w, nI b, nI m, nI c, nI q, (fun i => nI (k i)), (fun i => nI (p i)), (fun i => nI (s i)), A, (fun i => nI (r i)), V, (fun iz => nI ((lq_sh (q + 1) bs) iz)), (fun iz => nI ((lq_sh (q + 1) ba) iz)), lq_sh (q + 1) BV, (fun iz => nI (lq_mb bs ba BD ce iz 1)), st)) : wpX_drain post (nI w, nI b, nI m, nI c, nI (q + 1), (fun i => nI (k i)), (fun i => nI (p i)), (fun i => nI (s i)), A, (fun i => nI (r i)), V, (fun i => nI (bs i)), (fun i => nI (ba i)), BV, (fun i => nI (ce i)), st) := by
  obtain ⟨h1, h2, h3, h4, h5⟩ := h
  obtain ⟨w1, w2, w3⟩ := h4 0 (by omega)
  have main : ∀ d i n, i + d = bs 0 → d < n → wX_drain_12 post (nI w) (nI b) (nI m) (nI c) (nI (q + 1)) n (nI i) (fun i => nI (k i)) (fun i => nI (p i)) (fun i => nI (s i)) A (fun i => nI (r i)) V (fun i => nI (bs i)) (fun i => nI (ba i)) BV (fun iz => nI ((lq_wc ce (ba 0) (BD 0) i) iz)) st := by
    intro d
    induction d with
    | zero =>
      intro i n hi hd
      obtain ⟨n, rfl⟩ : ∃ t, n = t + 1 := ⟨n - 1, by omega⟩
      refine br_t (nI_le (by omega) (by omega)) (lx_shb (by omega) ?_)
      have e : lq_wc ce (ba 0) (BD 0) i = fun iz => lq_mb bs ba BD ce iz 1 := by
        funext a
        show (if ba 0 ≤ a ∧ a < ba 0 + i then _ else _) = if ba 0 ≤ a ∧ a < ba 0 + bs 0 then _ else _
        rw [show i = bs 0 by omega]
        rfl
      rw [e]
      exact hp
    | succ d ih =>
      intro i n hi hd
      obtain ⟨n, rfl⟩ : ∃ t, n = t + 1 := ⟨n - 1, by omega⟩
      refine br_f (nI_ge (by omega) (by omega)) ?_
      rw [w3]
      refine lx_by (by omega) (by omega) ?_
      show vp_in (nI (ba 0) + nI i) 64 ∧ ∀ y, y = upd _ (nI (ba 0) + nI i).toNatClampNeg _ → _
      rw [nI_add, nI_clamp (show ba 0 + i < 2 ^ 31 by omega)]
      refine ⟨vp_in_nI (by omega) (by omega), nm_r ?_ (nm_r (nI_1 i) (ih (i + 1) n (by omega) (by omega)))⟩
      rw [← lq_wc1]
      exact lq_upd _ _ _
  have l := main (bs 0) 0 (bs 0 + 1) (by omega) (by omega)
  rw [lq_wc0] at l
  unfold wpX_drain
  exact br_f (nI_ne0 (by omega) (by omega)) ⟨bs 0 + 1, l⟩
def lq_fp (st : Nat → Int32) (i : Nat) : Nat → Int32 := fun x => if x < i then -1 else st x
theorem lq_fp0 (st : Nat → Int32) : lq_fp st 0 = st := by
  funext x
  exact if_neg (by omega)
theorem lq_fp1 (st : Nat → Int32) (i : Nat) : upd (lq_fp st i) i (-1) = lq_fp st (i + 1) := by
  funext x
  unfold upd lq_fp
  by_cases e : x = i
  · rw [if_pos e, if_pos (by omega)]
  · rw [if_neg e]
    by_cases z : x < i
    · rw [if_pos z, if_pos (by omega)]
    · rw [if_neg z, if_neg (by omega)]
theorem lx_forget {post : SX → Prop} {K P S R BS BA CE : Nat → Int32} (hp : post (nI w, nI b, nI m, nI c, nI q, K, P, S, A, R, V, BS, BA, BV, CE, lq_fp st 16)) : wpX_forgetPairs post (nI w, nI b, nI m, nI c, nI q, K, P, S, A, R, V, BS, BA, BV, CE, st) := by
  have main : ∀ d i n, i + d = 16 → d < n → wX_forgetPairs_2 post (nI w) (nI b) (nI m) (nI c) (nI q) n (nI i) K P S A R V BS BA BV CE (lq_fp st i) := by
    intro d
    induction d with
    | zero =>
      intro i n hi hd
      obtain ⟨n, rfl⟩ : ∃ t, n = t + 1 := ⟨n - 1, by omega⟩
      obtain rfl : i = 16 := by omega
      exact br_t (by decide) hp
    | succ d ih =>
      intro i n hi hd
      obtain ⟨n, rfl⟩ : ∃ t, n = t + 1 := ⟨n - 1, by omega⟩
      refine br_f (nI_ge (b := 16) (by omega) (by decide)) ⟨vp_in_nI (by omega) (by omega), ?_⟩
      rw [nI_clamp (show i < 2 ^ 31 by omega), lq_fp1]
      exact nm_e (nm_r (nI_1 i) (ih (i + 1) n (by omega) (by omega)))
  have l := main 16 0 17 (by omega) (by omega)
  rw [lq_fp0] at l
  unfold wpX_forgetPairs
  exact ⟨17, l⟩
theorem lx_clear {post : SX → Prop} (hp : post (nI w, nI b, nI m, nI c, nI q, (fun i => nI (k i)), (fun i => nI (p i)), (fun i => nI (s i)), A, (fun i => nI (r i)), V, (fun i => nI (bs i)), (fun i => nI (ba i)), BV, (fun i => nI (ce i)), lq_fp st 16)) : wpX_clearSets post (nI w, nI b, nI m, nI c, nI q, (fun i => nI (k i)), (fun i => nI (p i)), (fun i => nI (s i)), A, (fun i => nI (r i)), V, (fun i => nI (bs i)), (fun i => nI (ba i)), BV, (fun i => nI (ce i)), st) := by
  unfold wpX_clearSets
  exact lx_forget hp
def lq_c0 (i : Nat) : Nat → Nat := fun a => if a < i then 3 * a + 1 else 0
theorem lq_c00 : (fun i => nI (lq_c0 0 i)) = fun _ => 0 := by
  funext a
  show nI (if a < 0 then 3 * a + 1 else 0) = 0
  rw [if_neg (by omega)]
  rfl
theorem lq_c01 (i : Nat) : upd (fun iz => nI (lq_c0 i iz)) i (3 * nI i + 1) = fun iz => nI (lq_c0 (i + 1) iz) := by
  have e : (3 : Int32) * nI i + 1 = nI (3 * i + 1) := by
    rw [show (3 : Int32) * nI i = nI (3 * i) from pk_mul 3 i, nI_1]
  rw [e, lq_upd]
  have e2 : lq_un (lq_c0 i) i (3 * i + 1) = lq_c0 (i + 1) := by
    funext x
    unfold lq_un lq_c0
    by_cases e : x = i
    · rw [if_pos e, if_pos (by omega), e]
    · rw [if_neg e]
      by_cases z : x < i
      · rw [if_pos z, if_pos (by omega)]
      · rw [if_neg z, if_neg (by omega)]
  rw [e2]
theorem lq_c0lt (a : Nat) : lq_c0 64 a < 256 := by
  unfold lq_c0
  split <;> omega
theorem lq_clm {lo hi : Nat} (h : lo ≤ hi) (hh : hi < 2 ^ 31) (v : Int32) : ∃ x, lo ≤ x ∧ x ≤ hi ∧ ∀ P : Int32 → Prop, P (nI x) → ((nI lo ≤ v → ((v ≤ nI hi → P v) ∧ (¬ v ≤ nI hi → P (nI hi)))) ∧ (¬ nI lo ≤ v → P (nI lo))) := by
  by_cases h1 : nI lo ≤ v
  · by_cases h2 : v ≤ nI hi
    · have h0 : ¬ v < 0 := fun z => by
        have a1 : (0 : Int32) ≤ nI lo := nI_pos' (by omega)
        have a2 := Int32.le_trans a1 h1
        exact Int32.not_lt.mpr a2 z
      obtain ⟨x, hx, rfl⟩ := nI_of h0
      rw [nI_leI (by omega) hx] at h1
      have h2' := (nI_leI hx hh).mp h2
      exact ⟨x, h1, h2', fun P hP => br_t (nI_le h1 hx) (br_t h2 hP)⟩
    · exact ⟨hi, h, Nat.le_refl _, fun P hP => br_t h1 (br_f h2 hP)⟩
  · exact ⟨lo, Nat.le_refl _, h, fun P hP => br_f h1 hP⟩
theorem lx_init139 {post : SX → Prop} (hp : post (nI w, nI b, nI m, 0, 0, (fun _ => 0), (fun _ => 0), (fun _ => 0), (fun _ => 0), (fun _ => 0), (fun _ => 0), (fun _ => 0), (fun _ => 0), (fun _ => 0), (fun i => nI (lq_c0 64 i)), lq_fp (fun _ => 0) 16)) : ∃ n, wX_init_139 post (nI w) (nI b) (nI m) 0 0 n 0 (fun _ => 0) (fun _ => 0) (fun _ => 0) (fun _ => 0) (fun _ => 0) (fun _ => 0) (fun _ => 0) (fun _ => 0) (fun _ => 0) (fun _ => 0) (fun _ => 0) := by
  have main : ∀ d i n, i + d = 64 → d < n → wX_init_139 post (nI w) (nI b) (nI m) 0 0 n (nI i) (fun _ => 0) (fun _ => 0) (fun _ => 0) (fun _ => 0) (fun _ => 0) (fun _ => 0) (fun _ => 0) (fun _ => 0) (fun _ => 0) (fun iz => nI (lq_c0 i iz)) (fun _ => 0) := by
    intro d
    induction d with
    | zero =>
      intro i n hi hd
      obtain ⟨n, rfl⟩ : ∃ t, n = t + 1 := ⟨n - 1, by omega⟩
      obtain rfl : i = 64 := by omega
      exact br_t (by decide) (lx_forget (c := 0) (q := 0) hp)
    | succ d ih =>
      intro i n hi hd
      obtain ⟨n, rfl⟩ : ∃ t, n = t + 1 := ⟨n - 1, by omega⟩
      refine br_f (nI_ge (b := 64) (by omega) (by decide)) ⟨vp_in_nI (by omega) (by omega), ?_⟩
      rw [nI_clamp (show i < 2 ^ 31 by omega), lq_c01]
      exact nm_e (nm_r (nI_1 i) (ih (i + 1) n (by omega) (by omega)))
  have l := main 64 0 65 (by omega) (by omega)
  rw [lq_c00] at l
  exact ⟨65, l⟩
theorem lx_addrR (h : lq_XI w b m c q k p s r kn ad A V D bs ba BV BD ce) {j : Nat} (hj : j < c) {post : Int32 → Prop} (hp : kn j = 1 → post (nI (ad j))) (hn : kn j ≠ 1 → post (-6)) : wpX_address post (nI w, nI b, nI m, nI c, nI q, (fun i => nI (k i)), (fun i => nI (p i)), (fun i => nI (s i)), A, (fun i => nI (r i)), V, (fun i => nI (bs i)), (fun i => nI (ba i)), BV, (fun i => nI (ce i)), st) (nI j) := by
  obtain ⟨h1, h2, h3, h4, h5⟩ := h
  obtain ⟨w1, w2, w3, w4⟩ := h3 j hj
  have I : vp_in (nI j) 32 := vp_in_nI (by omega) (by omega)
  unfold wpX_address
  refine lx_pos hj (by omega) (br_f (by decide) ⟨I, ?_⟩)
  rw [nI_clamp (show j < 2 ^ 31 by omega)]
  by_cases z : kn j = 1
  · have w2' := w2 z
    rw [w3, if_pos z]
    exact br_f (lq_m1 (by omega)) ⟨I, hp z⟩
  · rw [w3, if_neg z]
    exact br_t rfl (hn z)
theorem lx_value (h : lq_XI w b m c q k p s r kn ad A V D bs ba BV BD ce) {j : Nat} (hj : j < c) {post : Int64 → Prop} (hp : r j = 1 → post (V j)) (hn : r j ≠ 1 → post (-9)) : wpX_value post (nI w, nI b, nI m, nI c, nI q, (fun i => nI (k i)), (fun i => nI (p i)), (fun i => nI (s i)), A, (fun i => nI (r i)), V, (fun i => nI (bs i)), (fun i => nI (ba i)), BV, (fun i => nI (ce i)), st) (nI j) := by
  obtain ⟨h1, h2, h3, h4, h5⟩ := h
  have b1 := h2 j
  have I : vp_in (nI j) 32 := vp_in_nI (by omega) (by omega)
  unfold wpX_value
  refine lx_pos hj (by omega) (br_f (by decide) ⟨I, ?_⟩)
  rw [nI_clamp (show j < 2 ^ 31 by omega)]
  exact pk_eq (r j) 0 (fun z => hn (by omega)) (fun z => ⟨I, hp (by omega)⟩)
theorem lx_desc (h : lq_XI w b m c q k p s r kn ad A V D bs ba BV BD ce) {j : Nat} (hj : j < c) {post : Int32 → Prop} (hp : post ((((nI (p j) * 32 + nI (s j / 2) * 8) + nI (k j) * 4) + nI (kn j) * 2) + nI (r j))) : wpX_describe post (nI w, nI b, nI m, nI c, nI q, (fun i => nI (k i)), (fun i => nI (p i)), (fun i => nI (s i)), A, (fun i => nI (r i)), V, (fun i => nI (bs i)), (fun i => nI (ba i)), BV, (fun i => nI (ce i)), st) (nI j) := by
  obtain ⟨h1, h2, h3, h4, h5⟩ := h
  obtain ⟨w1, w2, w3, w4⟩ := h3 j hj
  have b1 := h2 j
  have I : vp_in (nI j) 32 := vp_in_nI (by omega) (by omega)
  have cj : (nI j).toNatClampNeg = j := nI_clamp (by omega)
  have s34 : wX_describe_34 post (nI j) (nI (s j / 2)) (nI (kn j)) (nI w) (nI b) (nI m) (nI c) (nI q) (fun i => nI (k i)) (fun i => nI (p i)) (fun i => nI (s i)) A (fun i => nI (r i)) V (fun i => nI (bs i)) (fun i => nI (ba i)) BV (fun i => nI (ce i)) st := by
    unfold wX_describe_34 wX_describe_49
    rw [cj]
    refine ⟨I, pk_eq (r j) 0 (fun z => ⟨I, I, ?_⟩) (fun z => ⟨I, I, ?_⟩)⟩
    · rw [z] at hp
      exact hp
    · rw [show r j = 1 by omega] at hp
      exact hp
  unfold wpX_describe
  refine lx_pos hj (by omega) (br_f (by decide) ⟨I, by decide, ?_⟩)
  rw [cj]
  refine nm_r (pk_div (show s j < 2 ^ 31 by omega) (show 0 < 2 by decide) (by decide)) ⟨I, ?_⟩
  by_cases z : kn j = 1
  · have w2' := w2 z
    rw [z] at s34
    rw [w3, if_pos z]
    exact br_f (lq_m1 (by omega)) s34
  · rw [show kn j = 0 by omega] at s34
    rw [w3, if_neg z]
    exact br_t rfl s34
theorem lx_mem (h : lq_XI w b m c q k p s r kn ad A V D bs ba BV BD ce) {x j : Nat} (hx : x < m) (hj : j ≤ q) {post : Int32 → Prop} (hp : post (nI (lq_mb bs ba BD ce x j))) : wpX_memory post (nI w, nI b, nI m, nI c, nI q, (fun i => nI (k i)), (fun i => nI (p i)), (fun i => nI (s i)), A, (fun i => nI (r i)), V, (fun i => nI (bs i)), (fun i => nI (ba i)), BV, (fun i => nI (ce i)), st) (nI x) (nI j) := by
  have := h.1
  unfold wpX_memory
  exact br_f (nI_pos (by omega)) (br_f (nI_ge (by omega) (by omega)) (br_f (nI_pos (by omega)) (br_t (nI_le (by omega) (by omega)) (lx_bad h hx hj hp))))
theorem lx_memB {v1 v2 : Int32} (hv : v1 < 0 ∨ nI m ≤ v1 ∨ v2 < 0 ∨ ¬ v2 ≤ nI q) {post : Int32 → Prop} (hp : post (-3)) : wpX_memory post (nI w, nI b, nI m, nI c, nI q, (fun i => nI (k i)), (fun i => nI (p i)), (fun i => nI (s i)), A, (fun i => nI (r i)), V, (fun i => nI (bs i)), (fun i => nI (ba i)), BV, (fun i => nI (ce i)), st) v1 v2 := by
  unfold wpX_memory
  rcases hv with hv | hv | hv | hv
  · exact br_t hv hp
  · exact br_c (fun _ => hp) (fun _ => br_t hv hp)
  · exact br_c (fun _ => hp) (fun _ => br_c (fun _ => hp) (fun _ => br_t hv hp))
  · exact br_c (fun _ => hp) (fun _ => br_c (fun _ => hp) (fun _ => br_c (fun _ => hp) (fun _ => br_f hv hp)))
theorem lx_same {x y : Nat} (hx : x < 16) (hy : y < 16) {post : Int32 → Prop} (hp : st x ≠ -1 ∧ st x = st y → post 1) (hn : ¬ (st x ≠ -1 ∧ st x = st y) → post 0) : wpX_sameSet post (nI w, nI b, nI m, nI c, nI q, (fun i => nI (k i)), (fun i => nI (p i)), (fun i => nI (s i)), A, (fun i => nI (r i)), V, (fun i => nI (bs i)), (fun i => nI (ba i)), BV, (fun i => nI (ce i)), st) (nI x) (nI y) := by
  unfold wpX_sameSet
  exact lx_pc hx (br_f (by decide) (lx_pc hy (br_f (by decide) (lx_share hx hy (fun z => br_f (by decide) (hp z)) (fun z => br_t rfl (hn z))))))
theorem lx_sameB {v1 v2 : Int32} (hv : (v1 < 0 ∨ nI 16 ≤ v1) ∨ ((∃ x, x < 16 ∧ v1 = nI x) ∧ (v2 < 0 ∨ nI 16 ≤ v2))) {post : Int32 → Prop} (hp : post (-3)) : wpX_sameSet post (nI w, nI b, nI m, nI c, nI q, (fun i => nI (k i)), (fun i => nI (p i)), (fun i => nI (s i)), A, (fun i => nI (r i)), V, (fun i => nI (bs i)), (fun i => nI (ba i)), BV, (fun i => nI (ce i)), st) v1 v2 := by
  unfold wpX_sameSet
  rcases hv with hv | ⟨⟨x, hx, rfl⟩, hv⟩
  · exact lx_npc hv (br_t rfl hp)
  · exact lx_pc hx (br_f (by decide) (lx_npc hv (br_t rfl hp)))
end
end
section
/-! the reference: source, memory, value, sameSet -/
section
variable {w b m c q : Nat} {k p s r kn ad : Nat → Nat} {A : Nat → Int32} {V : Nat → Int64} {D : Nat → Int32} {bs ba : Nat → Nat} {BV : Nat → Int64} {BD : Nat → Int32} {ce : Nat → Nat} {st : Nat → Int32} {pr rc : Nat → Nat}
theorem lq_sneg {a e : Nat} (he : e < 2 ^ 30) (h : a < e) : nI a - nI e < 0 := by
  rw [Int32.lt_iff_toInt_lt, pk_sub_toInt (by omega) he, show (0 : Int32).toInt = 0 from by decide]
  omega
theorem ly_src (h : lq_G m c k p s r kn ad A) {x j : Nat} (hx : x ≤ 128) (hj : j ≤ c) {post : Int32 → Prop} (hp : post (lq_en (lq_src k s kn ad x j))) : wpY_source post (nI w, nI b, nI m, nI c, nI q, (fun i => nI (k i)), (fun i => nI (p i)), (fun i => nI (s i)), (fun i => nI (kn i)), (fun i => nI (ad i)), (fun i => nI (r i)), D, (fun i => nI (bs i)), (fun i => nI (ba i)), BD, (fun i => nI (ce i)), (fun i => nI (pr i)), (fun i => nI (rc i))) (nI j) (nI x) := by
  obtain ⟨h1, h0, h2, h3⟩ := h
  have main : ∀ d i n, i + d = j → d < n → wY_source_5 post (nI j) (nI x) (nI w) (nI b) (nI m) (nI c) (nI q) (fun i => nI (k i)) (fun i => nI (p i)) (fun i => nI (s i)) (fun i => nI (kn i)) (fun i => nI (ad i)) (fun i => nI (r i)) D (fun i => nI (bs i)) (fun i => nI (ba i)) BD (fun i => nI (ce i)) (fun i => nI (pr i)) (fun i => nI (rc i)) n (lq_en (lq_src k s kn ad x i)) (nI i) := by
    intro d
    induction d with
    | zero =>
      intro i n hi hd
      obtain ⟨n, rfl⟩ : ∃ t, n = t + 1 := ⟨n - 1, by omega⟩
      obtain rfl : i = j := by omega
      exact br_t (nI_le (Nat.le_refl _) (by omega)) hp
    | succ d ih =>
      intro i n hi hd
      obtain ⟨n, rfl⟩ : ∃ t, n = t + 1 := ⟨n - 1, by omega⟩
      have ih' := ih (i + 1) n (by omega) (by omega)
      obtain ⟨w1, w2, w3⟩ := h3 i (by omega)
      have b1 := h2 i
      have I : vp_in (nI i) 32 := vp_in_nI (by omega) (by omega)
      have ef : ¬ lq_cov k s kn ad x i → wY_source_5 post (nI j) (nI x) (nI w) (nI b) (nI m) (nI c) (nI q) (fun i => nI (k i)) (fun i => nI (p i)) (fun i => nI (s i)) (fun i => nI (kn i)) (fun i => nI (ad i)) (fun i => nI (r i)) D (fun i => nI (bs i)) (fun i => nI (ba i)) BD (fun i => nI (ce i)) (fun i => nI (pr i)) (fun i => nI (rc i)) n (lq_en (lq_src k s kn ad x i)) (nI (i + 1)) := fun z => by
        have e : lq_src k s kn ad x (i + 1) = lq_src k s kn ad x i := if_neg z
        rw [e] at ih'
        exact ih'
      have et : lq_cov k s kn ad x i → wY_source_5 post (nI j) (nI x) (nI w) (nI b) (nI m) (nI c) (nI q) (fun i => nI (k i)) (fun i => nI (p i)) (fun i => nI (s i)) (fun i => nI (kn i)) (fun i => nI (ad i)) (fun i => nI (r i)) D (fun i => nI (bs i)) (fun i => nI (ba i)) BD (fun i => nI (ce i)) (fun i => nI (pr i)) (fun i => nI (rc i)) n (nI i) (nI (i + 1)) := fun z => by
        have e : lq_src k s kn ad x (i + 1) = some i := if_pos z
        rw [e] at ih'
        exact ih'
      refine br_f (nI_ge (by omega) (by omega)) (br_f (nI_ge (by omega) (by omega)) ⟨I, ?_⟩)
      rw [nI_clamp (show i < 2 ^ 31 by omega)]
      refine pk_eq (k i) 1 (fun zk => ⟨I, ?_⟩) (fun zk => nm_r (nI_1 i) (ef (fun z => zk z.1)))
      refine pk_eq (kn i) 0 (fun zn => nm_r (nI_1 i) (ef (fun z => by have := z.2.1; omega))) (fun zn => ⟨I, ?_⟩)
      have w2' := w2 (by omega)
      refine pk_lt x (ad i) (fun z => nm_r (nI_1 i) (ef (fun y => by have := y.2.2.1; omega))) (fun z => ⟨I, I, ?_⟩)
      refine pk_le (ad i + s i) x (fun y => nm_r (nI_1 i) (ef (fun u => by have := u.2.2.2; omega))) (fun y => nm_r (nI_1 i) (et ⟨zk, by omega, z, y⟩)) (nI_add _ _)
  unfold wpY_source
  exact ⟨j + 1, main j 0 (j + 1) (by omega) (by omega)⟩
theorem ly_mem (hm : m ≤ 64) (hq : q ≤ 8) (hQ : lq_Q m q bs ba BV BD) {x j : Nat} (hx : x < m) (hj : j ≤ q) {post : Int32 → Prop} (hp : post (nI (lq_mb bs ba BD ce x j))) : wpY_memory post (nI w, nI b, nI m, nI c, nI q, (fun i => nI (k i)), (fun i => nI (p i)), (fun i => nI (s i)), (fun i => nI (kn i)), (fun i => nI (ad i)), (fun i => nI (r i)), D, (fun i => nI (bs i)), (fun i => nI (ba i)), BD, (fun i => nI (ce i)), (fun i => nI (pr i)), (fun i => nI (rc i))) (nI x) (nI j) := by
  have main : ∀ d i n, i + d = j → d < n → wY_memory_37 post (nI x) (nI j) (nI w) (nI b) (nI m) (nI c) (nI q) (fun i => nI (k i)) (fun i => nI (p i)) (fun i => nI (s i)) (fun i => nI (kn i)) (fun i => nI (ad i)) (fun i => nI (r i)) D (fun i => nI (bs i)) (fun i => nI (ba i)) BD (fun i => nI (ce i)) (fun i => nI (pr i)) (fun i => nI (rc i)) n (nI (lq_mb bs ba BD ce x i)) (nI i) := by
    intro d
    induction d with
    | zero =>
      intro i n hi hd
      obtain ⟨n, rfl⟩ : ∃ t, n = t + 1 := ⟨n - 1, by omega⟩
      obtain rfl : i = j := by omega
      exact br_t (nI_le (Nat.le_refl _) (by omega)) hp
    | succ d ih =>
      intro i n hi hd
      obtain ⟨n, rfl⟩ : ∃ t, n = t + 1 := ⟨n - 1, by omega⟩
      have ih' := ih (i + 1) n (by omega) (by omega)
      obtain ⟨w1, w2, w3⟩ := hQ i (by omega)
      have I : vp_in (nI i) 8 := vp_in_nI (by omega) (by omega)
      have ef : ¬ (ba i ≤ x ∧ x < ba i + bs i) → wY_memory_37 post (nI x) (nI j) (nI w) (nI b) (nI m) (nI c) (nI q) (fun i => nI (k i)) (fun i => nI (p i)) (fun i => nI (s i)) (fun i => nI (kn i)) (fun i => nI (ad i)) (fun i => nI (r i)) D (fun i => nI (bs i)) (fun i => nI (ba i)) BD (fun i => nI (ce i)) (fun i => nI (pr i)) (fun i => nI (rc i)) n (nI (lq_mb bs ba BD ce x i)) (nI (i + 1)) := fun z => by
        have e : lq_mb bs ba BD ce x (i + 1) = lq_mb bs ba BD ce x i := if_neg z
        rw [e] at ih'
        exact ih'
      refine br_f (nI_ge (by omega) (by omega)) ⟨I, ?_⟩
      rw [nI_clamp (show i < 2 ^ 31 by omega)]
      by_cases z : ba i ≤ x
      · refine nm_r (pk_sub z) (br_f (nI_pos (by omega)) ⟨I, pk_le (bs i) (x - ba i) (fun y => nm_r (nI_1 i) (ef (by omega))) (fun y => ⟨I, nm_r (e' := nI (lq_by (BD i) (x - ba i))) ?_ (nm_r (nI_1 i) ?_)⟩)⟩)
        · rw [show (8 : Int32) * nI (x - ba i) = nI (8 * (x - ba i)) from pk_mul 8 _]
          exact lq_yb _ (by omega)
        · have e : lq_mb bs ba BD ce x (i + 1) = lq_by (BD i) (x - ba i) := if_pos ⟨z, by omega⟩
          rw [e] at ih'
          exact ih'
      · exact nm_e (br_t (lq_sneg (by omega) (by omega)) (nm_r (nI_1 i) (ef (fun y => z y.1))))
  have l := main j 0 (j + 1) (by omega) (by omega)
  unfold wpY_memory
  refine br_f (nI_pos (by omega)) (br_f (nI_ge (by omega) (by omega)) (br_f (nI_pos (by omega)) (br_t (nI_le (by omega) (by omega)) ⟨vp_in_nI (by omega) (by omega), ?_⟩)))
  rw [nI_clamp (show x < 2 ^ 31 by omega)]
  exact nm_e ⟨j + 1, l⟩
theorem ly_memB {v1 v2 : Int32} (hv : v1 < 0 ∨ nI m ≤ v1 ∨ v2 < 0 ∨ ¬ v2 ≤ nI q) {post : Int32 → Prop} (hp : post (-3)) : wpY_memory post (nI w, nI b, nI m, nI c, nI q, (fun i => nI (k i)), (fun i => nI (p i)), (fun i => nI (s i)), (fun i => nI (kn i)), (fun i => nI (ad i)), (fun i => nI (r i)), D, (fun i => nI (bs i)), (fun i => nI (ba i)), BD, (fun i => nI (ce i)), (fun i => nI (pr i)), (fun i => nI (rc i))) v1 v2 := by
  unfold wpY_memory
  rcases hv with hv | hv | hv | hv
  · exact br_t hv hp
  · exact br_c (fun _ => hp) (fun _ => br_t hv hp)
  · exact br_c (fun _ => hp) (fun _ => br_c (fun _ => hp) (fun _ => br_t hv hp))
  · exact br_c (fun _ => hp) (fun _ => br_c (fun _ => hp) (fun _ => br_c (fun _ => hp) (fun _ => br_f hv hp)))
theorem ly_val34 (h : lq_XI w b m c q k p s r kn ad A V D bs ba BV BD ce) {j : Nat} (hj : j < c) (hn : k j ≠ 1 → kn j = 1) {f : Nat → Nat} (hf : f = if k j = 1 then lq_by (D j) else fun i => lq_lb k s kn ad D (fun a => lq_mb bs ba BD ce a q) (ad j + i) j) {post : Int64 → Prop} (hp : post (lN (lq_vs f (s j)))) : ∃ n, wY_value_34 post (nI j) (nI w) (nI b) (nI m) (nI c) (nI q) (fun i => nI (k i)) (fun i => nI (p i)) (fun i => nI (s i)) (fun i => nI (kn i)) (fun i => nI (ad i)) (fun i => nI (r i)) D (fun i => nI (bs i)) (fun i => nI (ba i)) BD (fun i => nI (ce i)) (fun i => nI (pr i)) (fun i => nI (rc i)) n 0 0 := by
  have h' := h
  obtain ⟨h1, h2, h3, h4, h5⟩ := h
  obtain ⟨w1, w2, w3, _⟩ := h3 j hj
  have b1 := h2 j
  have I : vp_in (nI j) 32 := vp_in_nI (by omega) (by omega)
  have lt : ∀ i, f i < 256 := fun i => by
    rw [hf]
    split
    · exact lq_by_lt _ _
    · exact lq_lb_lt k s kn ad D (fun a => lq_mb bs ba BD ce a q) (ad j + i) (lq_mb_lt bs ba BD ce (ad j + i) (h5 _) q) j
  have main : ∀ d i n, i + d = s j → d < n → wY_value_34 post (nI j) (nI w) (nI b) (nI m) (nI c) (nI q) (fun i => nI (k i)) (fun i => nI (p i)) (fun i => nI (s i)) (fun i => nI (kn i)) (fun i => nI (ad i)) (fun i => nI (r i)) D (fun i => nI (bs i)) (fun i => nI (ba i)) BD (fun i => nI (ce i)) (fun i => nI (pr i)) (fun i => nI (rc i)) n (lN (lq_vs f i)) (nI i) := by
    intro d
    induction d with
    | zero =>
      intro i n hi hd
      obtain ⟨n, rfl⟩ : ∃ t, n = t + 1 := ⟨n - 1, by omega⟩
      refine ⟨I, ?_⟩
      rw [nI_clamp (show j < 2 ^ 31 by omega)]
      refine pk_le (s j) i (fun _ => ?_) (fun z => absurd z (by omega))
      rw [show i = s j by omega]
      exact hp
    | succ d ih =>
      intro i n hi hd
      obtain ⟨n, rfl⟩ : ∃ t, n = t + 1 := ⟨n - 1, by omega⟩
      have go : ∀ z0 : Int32, z0 = nI (f i) → wY_value_146 post (wY_value_34 post (nI j) (nI w) (nI b) (nI m) (nI c) (nI q) (fun i => nI (k i)) (fun i => nI (p i)) (fun i => nI (s i)) (fun i => nI (kn i)) (fun i => nI (ad i)) (fun i => nI (r i)) D (fun i => nI (bs i)) (fun i => nI (ba i)) BD (fun i => nI (ce i)) (fun i => nI (pr i)) (fun i => nI (rc i)) n) (nI j) (lN (lq_vs f i)) (nI i) z0 (nI w) (nI b) (nI m) (nI c) (nI q) (fun i => nI (k i)) (fun i => nI (p i)) (fun i => nI (s i)) (fun i => nI (kn i)) (fun i => nI (ad i)) (fun i => nI (r i)) D (fun i => nI (bs i)) (fun i => nI (ba i)) BD (fun i => nI (ce i)) (fun i => nI (pr i)) (fun i => nI (rc i)) := fun z0 ez => by
        rw [ez]
        unfold wY_value_146
        rw [show (8 : Int32) * nI i = nI (8 * i) from pk_mul 8 i, lq_vadd f i (by omega) (lt i), nI_1 i]
        exact nm_e (nm_e (ih (i + 1) n (by omega) (by omega)))
      refine ⟨I, ?_⟩
      rw [nI_clamp (show j < 2 ^ 31 by omega)]
      refine pk_le (s j) i (fun z => absurd z (by omega)) (fun _ => ⟨I, pk_eq (k j) 1 (fun zk => ⟨I, nm_r (e' := nI (f i)) ?_ (go _ rfl)⟩) (fun zk => ⟨I, ?_⟩)⟩)
      · rw [show (8 : Int32) * nI i = nI (8 * i) from pk_mul 8 i, lq_yb _ (by omega), hf, if_pos zk]
      · have fi : f i = lq_lb k s kn ad D (fun a => lq_mb bs ba BD ce a q) (ad j + i) j := by rw [hf, if_neg zk]
        have w2' := w2 (hn zk)
        refine nm_r (nI_add (ad j) i) (ly_src (lq_XIG h') (by omega) (by omega) ?_)
        cases e : lq_src k s kn ad (ad j + i) j with
        | none =>
          refine br_t (by decide) (ly_mem (by omega) (by omega) h4 (by omega) (Nat.le_refl q) (go _ ?_))
          rw [fi, lq_lb_none j e]
        | some t =>
          obtain ⟨tl, tc⟩ := lq_src_lt j e
          obtain ⟨t1, t2, t3, t4⟩ := h3 t (by omega)
          have It : vp_in (nI t) 32 := vp_in_nI (by omega) (by omega)
          have el : (lq_en (some t)).toNatClampNeg = t := nI_clamp (show t < 2 ^ 31 by omega)
          refine br_f (nI_pos (show t < 2 ^ 31 by omega)) ⟨It, It, ?_⟩
          rw [el]
          refine nm_r (e' := nI (f i)) ?_ (go _ rfl)
          show D t >>> ((8 * (nI (ad j + i) - nI (ad t))) &&& 31) &&& 255 = _
          have t5 := tc.2.2
          rw [pk_sub tc.2.2.1, show (8 : Int32) * nI (ad j + i - ad t) = nI (8 * (ad j + i - ad t)) from pk_mul 8 _, lq_yb _ (by omega), fi, lq_lb_some j e]
  exact ⟨s j + 1, main (s j) 0 (s j + 1) (by omega) (by omega)⟩
theorem ly_value (h : lq_XI w b m c q k p s r kn ad A V D bs ba BV BD ce) {j : Nat} (hj : j < c) {post : Int64 → Prop} (hp : r j = 1 → post (V j)) (hn : r j ≠ 1 → post (-9)) : wpY_value post (nI w, nI b, nI m, nI c, nI q, (fun i => nI (k i)), (fun i => nI (p i)), (fun i => nI (s i)), (fun i => nI (kn i)), (fun i => nI (ad i)), (fun i => nI (r i)), D, (fun i => nI (bs i)), (fun i => nI (ba i)), BD, (fun i => nI (ce i)), (fun i => nI (pr i)), (fun i => nI (rc i))) (nI j) := by
  have h' := h
  obtain ⟨h1, h2, h3, h4, h5⟩ := h
  obtain ⟨w1, w2, w3, w4⟩ := h3 j hj
  have b1 := h2 j
  have I : vp_in (nI j) 32 := vp_in_nI (by omega) (by omega)
  unfold wpY_value
  refine br_f (nI_pos (by omega)) (br_t (nI_lt hj (by omega)) ⟨I, ?_⟩)
  rw [nI_clamp (show j < 2 ^ 31 by omega)]
  refine pk_eq (r j) 0 (fun z => hn (by omega)) (fun z => ?_)
  have zr : r j = 1 := by omega
  have ok := w4 zr
  by_cases zk : k j = 1
  · refine ly_val34 h' hj (fun n => absurd zk n) (if_pos zk).symm ?_
    rw [lq_vs_by, ← ok.1 zk]
    exact hp zr
  · refine ly_val34 h' hj (fun n => (ok.2 n).1) (if_neg zk).symm ?_
    rw [← (ok.2 zk).2.1]
    exact hp zr
/-! sameSet -/
theorem lq_sw_t {pr rc : Nat → Nat} {n : Nat} (h : lq_sw pr rc n (n / 16) = 1 ∧ pr n = 1) : lq_sw pr rc (n + 1) = lq_un (lq_sw pr rc n) (n % 16) 1 := by
  rw [lq_sw, if_pos h]
theorem lq_sw_f {pr rc : Nat → Nat} {n : Nat} (h : ¬ (lq_sw pr rc n (n / 16) = 1 ∧ pr n = 1)) : lq_sw pr rc (n + 1) = lq_sw pr rc n := by
  rw [lq_sw, if_neg h]
theorem ly_s75 {post : Int32 → SY → Prop} {J56 J65 : Int32 → (Nat → Int32) → (Nat → Int32) → (Nat → Int32) → (Nat → Int32) → (Nat → Int32) → (Nat → Int32) → (Nat → Int32) → (Nat → Int32) → (Nat → Int32) → (Nat → Int32) → (Nat → Int32) → (Nat → Int32) → (Nat → Int32) → Prop} {x2 x3 : Int32} {x : Nat} (hx : x < 16) (hpr : ∀ i, pr i ≤ 1) (hrc : ∀ i, rc i ≤ 1) (hJ : J65 (nI (x + 1)) (fun i => nI (k i)) (fun i => nI (p i)) (fun i => nI (s i)) (fun i => nI (kn i)) (fun i => nI (ad i)) (fun i => nI (r i)) D (fun i => nI (bs i)) (fun i => nI (ba i)) BD (fun i => nI (ce i)) (fun i => nI (pr i)) (fun iz => nI ((lq_sw pr rc (16 * (x + 1))) iz))) : ∀ d y n, y + d = 16 → d < n → wY_sameSet_75 post J56 J65 x2 x3 (nI x) (nI w) (nI b) (nI m) (nI c) (nI q) n (nI y) (fun i => nI (k i)) (fun i => nI (p i)) (fun i => nI (s i)) (fun i => nI (kn i)) (fun i => nI (ad i)) (fun i => nI (r i)) D (fun i => nI (bs i)) (fun i => nI (ba i)) BD (fun i => nI (ce i)) (fun i => nI (pr i)) (fun iz => nI ((lq_sw pr rc (16 * x + y)) iz)) := by
  intro d
  induction d with
  | zero =>
    intro y n hy hd
    obtain ⟨n, rfl⟩ : ∃ t, n = t + 1 := ⟨n - 1, by omega⟩
    rw [show 16 * x + y = 16 * (x + 1) by omega, show y = 16 by omega]
    exact br_t (by decide) (nm_r (nI_1 x) hJ)
  | succ d ih =>
    intro y n hy hd
    obtain ⟨n, rfl⟩ : ∃ t, n = t + 1 := ⟨n - 1, by omega⟩
    have ih' := ih (y + 1) n (by omega) (by omega)
    have Ix : vp_in (nI x) 16 := vp_in_nI (by omega) (by omega)
    have Iy : vp_in (nI y) 16 := vp_in_nI (by omega) (by omega)
    have sle := lq_swle (pr := pr) hrc (16 * x + y) x
    have ple := hpr (16 * x + y)
    have d1 : (16 * x + y) / 16 = x := by omega
    have d2 : (16 * x + y) % 16 = y := by omega
    have skip : ¬ (lq_sw pr rc (16 * x + y) x = 1 ∧ pr (16 * x + y) = 1) → wY_sameSet_75 post J56 J65 x2 x3 (nI x) (nI w) (nI b) (nI m) (nI c) (nI q) n (nI (y + 1)) (fun i => nI (k i)) (fun i => nI (p i)) (fun i => nI (s i)) (fun i => nI (kn i)) (fun i => nI (ad i)) (fun i => nI (r i)) D (fun i => nI (bs i)) (fun i => nI (ba i)) BD (fun i => nI (ce i)) (fun i => nI (pr i)) (fun iz => nI ((lq_sw pr rc (16 * x + y)) iz)) := fun z => by
      have e : lq_sw pr rc (16 * x + (y + 1)) = lq_sw pr rc (16 * x + y) := lq_sw_f (n := 16 * x + y) (by rw [d1]; exact z)
      rw [e] at ih'
      exact ih'
    refine br_f (nI_ge (b := 16) (by omega) (by decide)) ⟨Ix, ?_⟩
    rw [nI_clamp (show x < 2 ^ 31 by omega), show (16 : Int32) * nI x = nI (16 * x) from pk_mul 16 x, nI_add, nI_clamp (show 16 * x + y < 2 ^ 31 by omega), nI_clamp (show y < 2 ^ 31 by omega)]
    refine pk_eq (lq_sw pr rc (16 * x + y) x) 0 (fun z => nm_r (nI_1 y) (skip (by omega))) (fun z => ⟨vp_in_nI (by omega) (by omega), pk_eq (pr (16 * x + y)) 0 (fun u => nm_r (nI_1 y) (skip (by omega))) (fun u => ⟨Iy, nm_r (e' := fun iz => nI (lq_sw pr rc (16 * x + (y + 1)) iz)) ?_ (nm_r (nI_1 y) ih')⟩)⟩)
    have e : lq_sw pr rc (16 * x + (y + 1)) = lq_un (lq_sw pr rc (16 * x + y)) y 1 := by
      have := lq_sw_t (pr := pr) (rc := rc) (n := 16 * x + y) (by rw [d1]; omega)
      rw [d2] at this
      exact this
    rw [lq_nb1, e]
    exact lq_upd _ y 1
theorem ly_s65 {post : Int32 → SY → Prop} {J56 : Int32 → (Nat → Int32) → (Nat → Int32) → (Nat → Int32) → (Nat → Int32) → (Nat → Int32) → (Nat → Int32) → (Nat → Int32) → (Nat → Int32) → (Nat → Int32) → (Nat → Int32) → (Nat → Int32) → (Nat → Int32) → (Nat → Int32) → Prop} {x2 : Int32} {t : Nat} (hpr : ∀ i, pr i ≤ 1) (hrc : ∀ i, rc i ≤ 1) (hJ : ∀ g, g = 256 → J56 (nI (t + 1)) (fun i => nI (k i)) (fun i => nI (p i)) (fun i => nI (s i)) (fun i => nI (kn i)) (fun i => nI (ad i)) (fun i => nI (r i)) D (fun i => nI (bs i)) (fun i => nI (ba i)) BD (fun i => nI (ce i)) (fun i => nI (pr i)) (fun iz => nI ((lq_sw pr rc g) iz))) : ∀ d x n, x + d = 16 → d < n → wY_sameSet_65 post J56 x2 (nI t) (nI w) (nI b) (nI m) (nI c) (nI q) n (nI x) (fun i => nI (k i)) (fun i => nI (p i)) (fun i => nI (s i)) (fun i => nI (kn i)) (fun i => nI (ad i)) (fun i => nI (r i)) D (fun i => nI (bs i)) (fun i => nI (ba i)) BD (fun i => nI (ce i)) (fun i => nI (pr i)) (fun iz => nI ((lq_sw pr rc (16 * x)) iz)) := by
  intro d
  induction d with
  | zero =>
    intro x n hx hd
    obtain ⟨n, rfl⟩ : ∃ t, n = t + 1 := ⟨n - 1, by omega⟩
    have hJ' := hJ (16 * x) (by omega)
    refine br_t ?_ (nm_r (nI_1 t) hJ')
    rw [show x = 16 by omega]
    decide
  | succ d ih =>
    intro x n hx hd
    obtain ⟨n, rfl⟩ : ∃ t, n = t + 1 := ⟨n - 1, by omega⟩
    have l := ly_s75 (post := post) (J56 := J56) (J65 := wY_sameSet_65 post J56 x2 (nI t) (nI w) (nI b) (nI m) (nI c) (nI q) n) (x2 := x2) (x3 := nI t) (x := x) (w := w) (b := b) (m := m) (c := c) (q := q) (by omega) hpr hrc (ih (x + 1) n (by omega) (by omega)) 16 0 17 (by omega) (by omega)
    exact br_f (nI_ge (b := 16) (by omega) (by decide)) ⟨17, l⟩
theorem ly_s56 {post : Int32 → SY → Prop} {e : Nat} (he : e < 16) (hpr : ∀ i, pr i ≤ 1) (hrc : ∀ i, rc i ≤ 1) (h0 : lq_it pr rc 16 e ≠ 1 → post 0 (nI w, nI b, nI m, nI c, nI q, (fun i => nI (k i)), (fun i => nI (p i)), (fun i => nI (s i)), (fun i => nI (kn i)), (fun i => nI (ad i)), (fun i => nI (r i)), D, (fun i => nI (bs i)), (fun i => nI (ba i)), BD, (fun i => nI (ce i)), (fun i => nI (pr i)), (fun iz => nI ((lq_it pr rc 16) iz)))) (h1 : lq_it pr rc 16 e = 1 → post 1 (nI w, nI b, nI m, nI c, nI q, (fun i => nI (k i)), (fun i => nI (p i)), (fun i => nI (s i)), (fun i => nI (kn i)), (fun i => nI (ad i)), (fun i => nI (r i)), D, (fun i => nI (bs i)), (fun i => nI (ba i)), BD, (fun i => nI (ce i)), (fun i => nI (pr i)), (fun iz => nI ((lq_it pr rc 16) iz)))) : ∀ d t n, t + d = 16 → d < n → wY_sameSet_56 post (nI e) (nI w) (nI b) (nI m) (nI c) (nI q) n (nI t) (fun i => nI (k i)) (fun i => nI (p i)) (fun i => nI (s i)) (fun i => nI (kn i)) (fun i => nI (ad i)) (fun i => nI (r i)) D (fun i => nI (bs i)) (fun i => nI (ba i)) BD (fun i => nI (ce i)) (fun i => nI (pr i)) (fun iz => nI ((lq_it pr rc t) iz)) := by
  intro d
  induction d with
  | zero =>
    intro t n ht hd
    obtain ⟨n, rfl⟩ : ∃ t, n = t + 1 := ⟨n - 1, by omega⟩
    have le := lq_itle (pr := pr) hrc t e
    rw [show (16 : Nat) = t by omega] at h0 h1
    refine br_t (by rw [show t = 16 by omega]; decide) ⟨vp_in_nI (by omega) (by omega), ?_⟩
    rw [nI_clamp (show e < 2 ^ 31 by omega)]
    exact pk_eq (lq_it pr rc t e) 0 (fun z => h0 (by omega)) (fun z => h1 (by omega))
  | succ d ih =>
    intro t n ht hd
    obtain ⟨n, rfl⟩ : ∃ t, n = t + 1 := ⟨n - 1, by omega⟩
    have ih' := ih (t + 1) n (by omega) (by omega)
    rw [lq_it] at ih'
    have l := ly_s65 (post := post) (J56 := wY_sameSet_56 post (nI e) (nI w) (nI b) (nI m) (nI c) (nI q) n) (x2 := nI e) (t := t) (rc := lq_it pr rc t) (w := w) (b := b) (m := m) (c := c) (q := q) hpr (lq_itle hrc t) (fun g hg => by rw [hg]; exact ih') 16 0 17 (by omega) (by omega)
    exact br_f (nI_ge (b := 16) (by omega) (by decide)) ⟨17, l⟩
def lq_ri (pr rc : Nat → Nat) (a i : Nat) : Nat → Nat := fun x => if x < i then pr (16 * a + x) else rc x
theorem lq_ri0 (pr rc : Nat → Nat) (a : Nat) : lq_ri pr rc a 0 = rc := by
  funext x
  exact if_neg (by omega)
theorem lq_ri1 (pr rc : Nat → Nat) (a i : Nat) : lq_un (lq_ri pr rc a i) i (pr (16 * a + i)) = lq_ri pr rc a (i + 1) := by
  funext x
  unfold lq_un lq_ri
  by_cases e : x = i
  · rw [if_pos e, if_pos (by omega), e]
  · rw [if_neg e]
    by_cases z : x < i
    · rw [if_pos z, if_pos (by omega)]
    · rw [if_neg z, if_neg (by omega)]
theorem ly_same (hS : lq_S st pr) (hpr : ∀ i, pr i ≤ 1) (hrc : ∀ i, rc i ≤ 1) {a e : Nat} (ha : a < 16) (he : e < 16) : ∃ rc' : Nat → Nat, (∀ i, rc' i ≤ 1) ∧ ∀ (w b m c q : Nat) (k p s kn ad r : Nat → Nat) (D : Nat → Int32) (bs ba : Nat → Nat) (BD : Nat → Int32) (ce : Nat → Nat) (post : Int32 → SY → Prop), (st a ≠ -1 ∧ st a = st e → post 1 (nI w, nI b, nI m, nI c, nI q, (fun i => nI (k i)), (fun i => nI (p i)), (fun i => nI (s i)), (fun i => nI (kn i)), (fun i => nI (ad i)), (fun i => nI (r i)), D, (fun i => nI (bs i)), (fun i => nI (ba i)), BD, (fun i => nI (ce i)), (fun i => nI (pr i)), (fun iz => nI (rc' iz)))) → (¬ (st a ≠ -1 ∧ st a = st e) → post 0 (nI w, nI b, nI m, nI c, nI q, (fun i => nI (k i)), (fun i => nI (p i)), (fun i => nI (s i)), (fun i => nI (kn i)), (fun i => nI (ad i)), (fun i => nI (r i)), D, (fun i => nI (bs i)), (fun i => nI (ba i)), BD, (fun i => nI (ce i)), (fun i => nI (pr i)), (fun iz => nI (rc' iz)))) → wpY_sameSet post (nI w, nI b, nI m, nI c, nI q, (fun i => nI (k i)), (fun i => nI (p i)), (fun i => nI (s i)), (fun i => nI (kn i)), (fun i => nI (ad i)), (fun i => nI (r i)), D, (fun i => nI (bs i)), (fun i => nI (ba i)), BD, (fun i => nI (ce i)), (fun i => nI (pr i)), (fun i => nI (rc i))) (nI a) (nI e) := by
  have hri : ∀ i, lq_ri pr rc a 16 i ≤ 1 := fun i => by
    unfold lq_ri
    split
    · exact hpr _
    · exact hrc _
  have key := lq_reach (rc := lq_ri pr rc a 16) hS ha he hri (fun x hx => if_pos hx)
  refine ⟨lq_it pr (lq_ri pr rc a 16) 16, lq_itle hri 16, fun w b m c q k p s kn ad r D bs ba BD ce post hp hn => ?_⟩
  have l56 : ∃ n, wY_sameSet_56 post (nI e) (nI w) (nI b) (nI m) (nI c) (nI q) n 0 (fun i => nI (k i)) (fun i => nI (p i)) (fun i => nI (s i)) (fun i => nI (kn i)) (fun i => nI (ad i)) (fun i => nI (r i)) D (fun i => nI (bs i)) (fun i => nI (ba i)) BD (fun i => nI (ce i)) (fun i => nI (pr i)) (fun iz => nI ((lq_ri pr rc a 16) iz)) := ⟨17, ly_s56 (rc := lq_ri pr rc a 16) he hpr hri (fun z => hn (fun y => z (key.mpr y))) (fun z => hp (key.mp z)) 16 0 17 (by omega) (by omega)⟩
  have main : ∀ d i n, i + d = 16 → d < n → wY_sameSet_25 post (nI a) (nI e) (nI w) (nI b) (nI m) (nI c) (nI q) n (nI i) (fun i => nI (k i)) (fun i => nI (p i)) (fun i => nI (s i)) (fun i => nI (kn i)) (fun i => nI (ad i)) (fun i => nI (r i)) D (fun i => nI (bs i)) (fun i => nI (ba i)) BD (fun i => nI (ce i)) (fun i => nI (pr i)) (fun iz => nI ((lq_ri pr rc a i) iz)) := by
    intro d
    induction d with
    | zero =>
      intro i n hi hd
      obtain ⟨n, rfl⟩ : ∃ t, n = t + 1 := ⟨n - 1, by omega⟩
      obtain rfl : i = 16 := by omega
      exact br_t (by decide) l56
    | succ d ih =>
      intro i n hi hd
      obtain ⟨n, rfl⟩ : ∃ t, n = t + 1 := ⟨n - 1, by omega⟩
      refine br_f (nI_ge (b := 16) (by omega) (by decide)) ?_
      rw [show (16 : Int32) * nI a = nI (16 * a) from pk_mul 16 a, nI_add, nI_clamp (show 16 * a + i < 2 ^ 31 by omega), nI_clamp (show i < 2 ^ 31 by omega)]
      refine ⟨vp_in_nI (by omega) (by omega), vp_in_nI (by omega) (by omega), nm_r (e' := fun iz => nI (lq_ri pr rc a (i + 1) iz)) ?_ (nm_r (nI_1 i) (ih (i + 1) n (by omega) (by omega)))⟩
      rw [lq_nb (hpr _), ← lq_ri1]
      exact lq_upd _ i _
  have l := main 16 0 17 (by omega) (by omega)
  rw [lq_ri0] at l
  unfold wpY_sameSet
  exact br_f (nI_pos (by omega)) (br_f (nI_nlt (a := 15) (b := a) (by omega) (by decide)) (br_f (nI_pos (by omega)) (br_t (nI_le (b := 15) (by omega) (by decide)) ⟨17, l⟩)))
end
end
section
/-! the reference: enter, setAddress, setData, execute, executeReady -/
section
variable {w b m c q : Nat} {k p s r kn ad : Nat → Nat} {A : Nat → Int32} {V : Nat → Int64} {D : Nat → Int32} {bs ba : Nat → Nat} {BV : Nat → Int64} {BD : Nat → Int32} {ce : Nat → Nat} {st : Nat → Int32} {pr rc : Nat → Nat}
theorem ly_enter (hw : w ≤ 32) {x y z : Nat} (hx : x ≤ 1) (hy : y < 16) (hz : z = 1 ∨ z = 2 ∨ z = 4) (hc : c ≤ w) {post : Int32 → SY → Prop} (hf : c = w → post (-5) (nI w, nI b, nI m, nI c, nI q, (fun i => nI (k i)), (fun i => nI (p i)), (fun i => nI (s i)), (fun i => nI (kn i)), (fun i => nI (ad i)), (fun i => nI (r i)), D, (fun i => nI (bs i)), (fun i => nI (ba i)), BD, (fun i => nI (ce i)), (fun i => nI (pr i)), (fun i => nI (rc i)))) (hp : c < w → post (nI c) (nI w, nI b, nI m, nI (c + 1), nI q, (fun iz => nI ((lq_un k c x) iz)), (fun iz => nI ((lq_un p c y) iz)), (fun iz => nI ((lq_un s c z) iz)), (fun iz => nI ((lq_un kn c 0) iz)), (fun iz => nI ((lq_un ad c 0) iz)), (fun iz => nI ((lq_un r c 0) iz)), upd D c 0, (fun i => nI (bs i)), (fun i => nI (ba i)), BD, (fun i => nI (ce i)), (fun i => nI (pr i)), (fun i => nI (rc i)))) : wpY_enter post (nI w, nI b, nI m, nI c, nI q, (fun i => nI (k i)), (fun i => nI (p i)), (fun i => nI (s i)), (fun i => nI (kn i)), (fun i => nI (ad i)), (fun i => nI (r i)), D, (fun i => nI (bs i)), (fun i => nI (ba i)), BD, (fun i => nI (ce i)), (fun i => nI (pr i)), (fun i => nI (rc i))) (nI x) (nI y) (nI z) := by
  have l43 : wY_enter_43 post (nI x) (nI y) (nI z) (nI w) (nI b) (nI m) (nI c) (nI q) (fun i => nI (k i)) (fun i => nI (p i)) (fun i => nI (s i)) (fun i => nI (kn i)) (fun i => nI (ad i)) (fun i => nI (r i)) D (fun i => nI (bs i)) (fun i => nI (ba i)) BD (fun i => nI (ce i)) (fun i => nI (pr i)) (fun i => nI (rc i)) := by
    unfold wY_enter_43
    refine pk_lt c w (fun l => ?_) (fun l => hf (by omega))
    have I : vp_in (nI c) 32 := vp_in_nI (by omega) (by omega)
    rw [nI_clamp (show c < 2 ^ 31 by omega), lq_nb0]
    refine ⟨I, nm_r (lq_upd k c x) ⟨I, nm_r (lq_upd p c y) ⟨I, nm_r (lq_upd s c z) ⟨I, nm_r (lq_upd kn c 0) ⟨I, nm_r (lq_upd ad c 0) ⟨I, nm_r (lq_upd r c 0) ⟨I, nm_e (nm_r (nI_1 c) ?_)⟩⟩⟩⟩⟩⟩⟩
    rw [nI_pred]
    exact hp l
  have main : wY_enter_12 post (nI x) (nI y) (nI z) (nI w) (nI b) (nI m) (nI c) (nI q) (fun i => nI (k i)) (fun i => nI (p i)) (fun i => nI (s i)) (fun i => nI (kn i)) (fun i => nI (ad i)) (fun i => nI (r i)) D (fun i => nI (bs i)) (fun i => nI (ba i)) BD (fun i => nI (ce i)) (fun i => nI (pr i)) (fun i => nI (rc i)) := by
    unfold wY_enter_12
    refine br_f (nI_pos (by omega)) (br_t (nI_le (b := 15) (by omega) (by decide)) ?_)
    exact pk_eq z 1 (fun _ => l43) (fun z1 => pk_eq z 2 (fun _ => l43) (fun z2 => pk_eq z 4 (fun _ => l43) (fun z3 => absurd hz (by omega))))
  unfold wpY_enter
  exact pk_eq x 0 (fun _ => main) (fun _ => pk_eq x 1 (fun _ => main) (fun _ => absurd hx (by omega)))
theorem ly_enterK {post : Int32 → SY → Prop} {v1 v2 v3 : Int32} (h0 : ¬ v1 = 0) (h1 : ¬ v1 = 1) (hp : post (-2) (nI w, nI b, nI m, nI c, nI q, (fun i => nI (k i)), (fun i => nI (p i)), (fun i => nI (s i)), (fun i => nI (kn i)), (fun i => nI (ad i)), (fun i => nI (r i)), D, (fun i => nI (bs i)), (fun i => nI (ba i)), BD, (fun i => nI (ce i)), (fun i => nI (pr i)), (fun i => nI (rc i)))) : wpY_enter post (nI w, nI b, nI m, nI c, nI q, (fun i => nI (k i)), (fun i => nI (p i)), (fun i => nI (s i)), (fun i => nI (kn i)), (fun i => nI (ad i)), (fun i => nI (r i)), D, (fun i => nI (bs i)), (fun i => nI (ba i)), BD, (fun i => nI (ce i)), (fun i => nI (pr i)), (fun i => nI (rc i))) v1 v2 v3 := by
  unfold wpY_enter
  exact br_f h0 (br_f h1 hp)
theorem ly_npc {A B : Prop} {v : Int32} (hv : v < 0 ∨ nI 16 ≤ v) (a : A) : (v < 0 → A) ∧ (¬ v < 0 → ((v ≤ 15 → B) ∧ (¬ v ≤ 15 → A))) := by
  refine br_c (fun _ => a) (fun h0 => br_f (fun h => ?_) a)
  rcases hv with hv | hv
  · exact h0 hv
  · obtain ⟨x, hx, rfl⟩ := nI_of h0
    have h1 := (nI_leI (b := 15) hx (by decide)).mp h
    have h2 := (nI_leI (a := 16) (by decide) hx).mp hv
    omega
theorem ly_enterA {post : Int32 → SY → Prop} {v1 v2 v3 : Int32} (h0 : v1 = 0 ∨ v1 = 1) (h1 : v2 < 0 ∨ nI 16 ≤ v2) (hp : post (-3) (nI w, nI b, nI m, nI c, nI q, (fun i => nI (k i)), (fun i => nI (p i)), (fun i => nI (s i)), (fun i => nI (kn i)), (fun i => nI (ad i)), (fun i => nI (r i)), D, (fun i => nI (bs i)), (fun i => nI (ba i)), BD, (fun i => nI (ce i)), (fun i => nI (pr i)), (fun i => nI (rc i)))) : wpY_enter post (nI w, nI b, nI m, nI c, nI q, (fun i => nI (k i)), (fun i => nI (p i)), (fun i => nI (s i)), (fun i => nI (kn i)), (fun i => nI (ad i)), (fun i => nI (r i)), D, (fun i => nI (bs i)), (fun i => nI (ba i)), BD, (fun i => nI (ce i)), (fun i => nI (pr i)), (fun i => nI (rc i))) v1 v2 v3 := by
  have main : wY_enter_12 post v1 v2 v3 (nI w) (nI b) (nI m) (nI c) (nI q) (fun i => nI (k i)) (fun i => nI (p i)) (fun i => nI (s i)) (fun i => nI (kn i)) (fun i => nI (ad i)) (fun i => nI (r i)) D (fun i => nI (bs i)) (fun i => nI (ba i)) BD (fun i => nI (ce i)) (fun i => nI (pr i)) (fun i => nI (rc i)) := by
    unfold wY_enter_12
    exact ly_npc h1 hp
  unfold wpY_enter
  exact br_c (fun _ => main) (fun z => br_t (by rcases h0 with h0 | h0; exact absurd h0 z; exact h0) main)
theorem ly_enterS {post : Int32 → SY → Prop} {v1 v3 : Int32} {y : Nat} (hy : y < 16) (h0 : v1 = 0 ∨ v1 = 1) (h1 : ¬ (v3 = 1 ∨ v3 = 2 ∨ v3 = 4)) (hp : post (-3) (nI w, nI b, nI m, nI c, nI q, (fun i => nI (k i)), (fun i => nI (p i)), (fun i => nI (s i)), (fun i => nI (kn i)), (fun i => nI (ad i)), (fun i => nI (r i)), D, (fun i => nI (bs i)), (fun i => nI (ba i)), BD, (fun i => nI (ce i)), (fun i => nI (pr i)), (fun i => nI (rc i)))) : wpY_enter post (nI w, nI b, nI m, nI c, nI q, (fun i => nI (k i)), (fun i => nI (p i)), (fun i => nI (s i)), (fun i => nI (kn i)), (fun i => nI (ad i)), (fun i => nI (r i)), D, (fun i => nI (bs i)), (fun i => nI (ba i)), BD, (fun i => nI (ce i)), (fun i => nI (pr i)), (fun i => nI (rc i))) v1 (nI y) v3 := by
  have main : wY_enter_12 post v1 (nI y) v3 (nI w) (nI b) (nI m) (nI c) (nI q) (fun i => nI (k i)) (fun i => nI (p i)) (fun i => nI (s i)) (fun i => nI (kn i)) (fun i => nI (ad i)) (fun i => nI (r i)) D (fun i => nI (bs i)) (fun i => nI (ba i)) BD (fun i => nI (ce i)) (fun i => nI (pr i)) (fun i => nI (rc i)) := by
    unfold wY_enter_12
    exact br_f (nI_pos (by omega)) (br_t (nI_le (b := 15) (by omega) (by decide)) (br_f (fun z => h1 (Or.inl z)) (br_f (fun z => h1 (Or.inr (Or.inl z))) (br_f (fun z => h1 (Or.inr (Or.inr z))) hp))))
  unfold wpY_enter
  exact br_c (fun _ => main) (fun z => br_t (by rcases h0 with h0 | h0; exact absurd h0 z; exact h0) main)
theorem ly_a115 (h : lq_G m c k p s r kn ad A) {post : Int32 → SY → Prop} {J80 : Int32 → Int32 → (Nat → Int32) → (Nat → Int32) → (Nat → Int32) → (Nat → Int32) → (Nat → Int32) → (Nat → Int32) → (Nat → Int32) → (Nat → Int32) → (Nat → Int32) → (Nat → Int32) → (Nat → Int32) → (Nat → Int32) → (Nat → Int32) → Prop} {j i t : Nat} (hj : j < c) (hi : i < c) (hk : kn i = 1) (hn : (¬ ∃ x, x < s i ∧ lq_src k s kn ad (ad i + x) i = some j) → J80 (nI t) (nI (i + 1)) (fun i => nI (k i)) (fun i => nI (p i)) (fun i => nI (s i)) (fun i => nI (kn i)) (fun i => nI (ad i)) (fun i => nI (r i)) D (fun i => nI (bs i)) (fun i => nI (ba i)) BD (fun i => nI (ce i)) (fun i => nI (pr i)) (fun i => nI (rc i))) (hp : (∃ x, x < s i ∧ lq_src k s kn ad (ad i + x) i = some j) → J80 (nI (t + 1)) (nI (i + 1)) (fun i => nI (k i)) (fun i => nI (p i)) (fun i => nI (s i)) (fun i => nI (kn i)) (fun i => nI (ad i)) (fun iz => nI ((lq_un r i 0) iz)) D (fun i => nI (bs i)) (fun i => nI (ba i)) BD (fun i => nI (ce i)) (fun iz => nI ((lq_pp pr (p i) (p j)) iz)) (fun i => nI (rc i))) : ∀ d x n f, x + d = s i → d < n → (f = 0 ∧ (∀ y, y < x → lq_src k s kn ad (ad i + y) i ≠ some j) ∨ f = 1 ∧ ∃ y, y < x ∧ lq_src k s kn ad (ad i + y) i = some j) → wY_setAddress_115 post J80 (nI j) (nI t) (nI i) (nI w) (nI b) (nI m) (nI c) (nI q) (fun i => nI (k i)) (fun i => nI (p i)) (fun i => nI (s i)) (fun i => nI (kn i)) (fun i => nI (ad i)) (fun i => nI (r i)) D (fun i => nI (bs i)) (fun i => nI (ba i)) BD (fun i => nI (ce i)) (fun i => nI (pr i)) (fun i => nI (rc i)) n (nI f) (nI x) := by
  have h' := h
  obtain ⟨h1, h0, h2, h3⟩ := h
  obtain ⟨w1, w2, w3⟩ := h3 i hi
  have w2' := w2 hk
  have I : vp_in (nI i) 32 := vp_in_nI (by omega) (by omega)
  have Ij : vp_in (nI j) 32 := vp_in_nI (by omega) (by omega)
  have bi := (h2 i).2.1
  have bj := (h2 j).2.1
  intro d
  induction d with
  | zero =>
    intro x n f hx hd hf
    obtain ⟨n, rfl⟩ : ∃ t, n = t + 1 := ⟨n - 1, by omega⟩
    refine ⟨I, ?_⟩
    rw [nI_clamp (show i < 2 ^ 31 by omega), nI_clamp (show j < 2 ^ 31 by omega)]
    refine pk_le (s i) x (fun _ => ?_) (fun z => absurd z (by omega))
    rcases hf with ⟨rfl, hf⟩ | ⟨rfl, y, hy, hf⟩
    · exact br_t rfl (nm_r (nI_1 i) (hn (fun ⟨y, y1, y2⟩ => hf y (by omega) y2)))
    · refine br_f (by decide) ?_
      have e1 : (16 : Int32) * (fun i => nI (p i)) i + (fun i => nI (p i)) j = nI (16 * p i + p j) := by
        show (16 : Int32) * nI (p i) + nI (p j) = _
        rw [show (16 : Int32) * nI (p i) = nI (16 * p i) from pk_mul 16 _, nI_add]
      have e2 : (16 : Int32) * (fun i => nI (p i)) j + (fun i => nI (p i)) i = nI (16 * p j + p i) := by
        show (16 : Int32) * nI (p j) + nI (p i) = _
        rw [show (16 : Int32) * nI (p j) = nI (16 * p j) from pk_mul 16 _, nI_add]
      rw [e1, e2, nI_clamp (show 16 * p i + p j < 2 ^ 31 by omega), nI_clamp (show 16 * p j + p i < 2 ^ 31 by omega), lq_nb0, lq_nb1]
      exact ⟨I, nm_r (lq_upd r i 0) ⟨I, Ij, vp_in_nI (by omega) (by omega), nm_r (lq_upd pr _ 1) ⟨Ij, I, vp_in_nI (by omega) (by omega), nm_r (lq_upd _ _ 1) (nm_r (nI_1 t) (nm_r (nI_1 i) (hp ⟨y, by omega, hf⟩)))⟩⟩⟩
  | succ d ih =>
    intro x n f hx hd hf
    obtain ⟨n, rfl⟩ : ∃ t, n = t + 1 := ⟨n - 1, by omega⟩
    refine ⟨I, ?_⟩
    have lt : ∀ y, lq_src k s kn ad (ad i + x) i = some y → y < 64 := fun y hy => by
      have := (lq_src_lt i hy).1
      omega
    refine pk_le (s i) x (fun z => absurd z (by omega)) (fun _ => ⟨I, ?_⟩) (congrArg (fun g => nI (s g)) (nI_clamp (show i < 2 ^ 31 by omega)))
    have e1 : (fun i => nI (ad i)) (nI i).toNatClampNeg + nI x = nI (ad i + x) := by
      rw [nI_clamp (show i < 2 ^ 31 by omega)]
      exact nI_add _ _
    rw [e1]
    refine ly_src h' (by omega) (by omega) ?_
    by_cases z : lq_src k s kn ad (ad i + x) i = some j
    · exact br_t ((lq_en_eq lt (by omega)).mpr z) (nm_r (nI_1 x) (ih (x + 1) n 1 (by omega) (by omega) (Or.inr ⟨rfl, x, by omega, z⟩)))
    · refine br_f (fun y => z ((lq_en_eq lt (by omega)).mp y)) (nm_r (nI_1 x) (ih (x + 1) n f (by omega) (by omega) ?_))
      rcases hf with ⟨e, hf⟩ | ⟨e, y, hy, hf⟩
      · refine Or.inl ⟨e, fun y hy => ?_⟩
        by_cases ey : y = x
        · rw [ey]; exact z
        · exact hf y (by omega)
      · exact Or.inr ⟨e, y, by omega, hf⟩
theorem ly_a80 (h : lq_G m c k p s r kn ad A) {j : Nat} (hj : j < c) (hL : ∀ i, i < c → k i ≠ 1 → r i = 1 → kn i = 1) {post : Int32 → SY → Prop} (hp : post (nI (lq_ct (lq_M k s r kn ad j) c)) (nI w, nI b, nI m, nI c, nI q, (fun i => nI (k i)), (fun i => nI (p i)), (fun i => nI (s i)), (fun i => nI (kn i)), (fun i => nI (ad i)), (fun iz => nI ((lq_rb (lq_M k s r kn ad j) r c) iz)), D, (fun i => nI (bs i)), (fun i => nI (ba i)), BD, (fun i => nI (ce i)), (fun iz => nI ((lq_pf (lq_M k s r kn ad j) p (p j) pr c) iz)), (fun i => nI (rc i)))) : ∃ n, wY_setAddress_80 post (nI j) (nI w) (nI b) (nI m) (nI c) (nI q) n 0 (nI (j + 1)) (fun i => nI (k i)) (fun i => nI (p i)) (fun i => nI (s i)) (fun i => nI (kn i)) (fun i => nI (ad i)) (fun i => nI (r i)) D (fun i => nI (bs i)) (fun i => nI (ba i)) BD (fun i => nI (ce i)) (fun i => nI (pr i)) (fun i => nI (rc i)) := by
  have h' := h
  obtain ⟨h1, h0, h2, h3⟩ := h
  generalize hM : lq_M k s r kn ad j = M at *
  have main : ∀ d i n, i + d = c → d < n → j < i → wY_setAddress_80 post (nI j) (nI w) (nI b) (nI m) (nI c) (nI q) n (nI (lq_ct M i)) (nI i) (fun i => nI (k i)) (fun i => nI (p i)) (fun i => nI (s i)) (fun i => nI (kn i)) (fun i => nI (ad i)) (fun iz => nI ((lq_rb M r i) iz)) D (fun i => nI (bs i)) (fun i => nI (ba i)) BD (fun i => nI (ce i)) (fun iz => nI ((lq_pf M p (p j) pr i) iz)) (fun i => nI (rc i)) := by
    intro d
    induction d with
    | zero =>
      intro i n hi hd hji
      obtain ⟨n, rfl⟩ : ∃ t, n = t + 1 := ⟨n - 1, by omega⟩
      obtain rfl : i = c := by omega
      exact br_t (nI_le (Nat.le_refl _) (by omega)) hp
    | succ d ih =>
      intro i n hi hd hji
      obtain ⟨n, rfl⟩ : ∃ t, n = t + 1 := ⟨n - 1, by omega⟩
      have I : vp_in (nI i) 32 := vp_in_nI (by omega) (by omega)
      have b1 := h2 i
      have ih' := ih (i + 1) n (by omega) (by omega) (by omega)
      have skip : ¬ M i → wY_setAddress_80 post (nI j) (nI w) (nI b) (nI m) (nI c) (nI q) n (nI (lq_ct M i)) (nI (i + 1)) (fun i => nI (k i)) (fun i => nI (p i)) (fun i => nI (s i)) (fun i => nI (kn i)) (fun i => nI (ad i)) (fun iz => nI ((lq_rb M r i) iz)) D (fun i => nI (bs i)) (fun i => nI (ba i)) BD (fun i => nI (ce i)) (fun iz => nI ((lq_pf M p (p j) pr i) iz)) (fun i => nI (rc i)) := fun z => by
        rw [lq_ct_f z, ← lq_rb_f z, lq_pf_f z] at ih'
        exact ih'
      have mi : M i ↔ j < i ∧ k i = 0 ∧ r i = 1 ∧ ∃ x, x < s i ∧ lq_src k s kn ad (ad i + x) i = some j := by
        rw [← hM]
        exact Iff.rfl
      refine br_f (nI_ge (by omega) (by omega)) ⟨I, ?_⟩
      rw [nI_clamp (show i < 2 ^ 31 by omega)]
      refine pk_eq (k i) 0 (fun zk => ⟨I, ?_⟩) (fun zk => nm_r (nI_1 i) (skip (fun z => zk (mi.mp z).2.1)))
      refine pk_eq (r i) 0 (fun zr => nm_r (nI_1 i) (skip (fun z => by have := (mi.mp z).2.2.1; omega))) (fun zr => ?_) (congrArg nI (lq_rb_at M r i))
      have G' : lq_G m c k p s (lq_rb M r i) kn ad A := ⟨h1, h0, fun y => ⟨(h2 y).1, (h2 y).2.1, Nat.le_trans (lq_rb_le M r i y) (h2 y).2.2.1, (h2 y).2.2.2⟩, h3⟩
      refine ⟨s i + 1, ly_a115 (r := lq_rb M r i) (pr := lq_pf M p (p j) pr i) G' (post := post) (J80 := wY_setAddress_80 post (nI j) (nI w) (nI b) (nI m) (nI c) (nI q) n) (t := lq_ct M i) (w := w) (b := b) (q := q) hj (by omega) (hL i (by omega) (by omega) (by omega)) (fun z => skip (fun y => z (mi.mp y).2.2.2)) (fun z => ?_) (s i) 0 (s i + 1) 0 (by omega) (by omega) (Or.inl ⟨rfl, fun y hy => absurd hy (by omega)⟩)⟩
      have z' : M i := mi.mpr ⟨hji, zk, by omega, z⟩
      rw [lq_ct_t z', ← lq_rb_t z', lq_pf_t z'] at ih'
      exact ih'
  have none : ∀ i, i < j + 1 → ¬ M i := fun i hi z => by
    rw [← hM] at z
    have := z.1
    omega
  have l := main (c - (j + 1)) (j + 1) (c - j) (by omega) (by omega) (by omega)
  rw [lq_ct_0 (j + 1) none, lq_rb_0 none, lq_pf_0 (j + 1) none] at l
  exact ⟨c - j, l⟩
theorem ly_addr (h : lq_XI w b m c q k p s r kn ad A V D bs ba BV BD ce) {j : Nat} (hj : j < c) {v : Int32} {post : Int32 → SY → Prop} (hk : kn j = 1 → post (-4) (nI w, nI b, nI m, nI c, nI q, (fun i => nI (k i)), (fun i => nI (p i)), (fun i => nI (s i)), (fun i => nI (kn i)), (fun i => nI (ad i)), (fun i => nI (r i)), D, (fun i => nI (bs i)), (fun i => nI (ba i)), BD, (fun i => nI (ce i)), (fun i => nI (pr i)), (fun i => nI (rc i)))) (hb : kn j ≠ 1 → v < 0 ∨ nI (m - s j + 1) ≤ v → post (-3) (nI w, nI b, nI m, nI c, nI q, (fun i => nI (k i)), (fun i => nI (p i)), (fun i => nI (s i)), (fun i => nI (kn i)), (fun i => nI (ad i)), (fun i => nI (r i)), D, (fun i => nI (bs i)), (fun i => nI (ba i)), BD, (fun i => nI (ce i)), (fun i => nI (pr i)), (fun i => nI (rc i)))) (hl : ∀ a, kn j ≠ 1 → v = nI a → a + s j ≤ m → k j ≠ 1 → post 0 (nI w, nI b, nI m, nI c, nI q, (fun i => nI (k i)), (fun i => nI (p i)), (fun i => nI (s i)), (fun iz => nI ((lq_un kn j 1) iz)), (fun iz => nI ((lq_un ad j a) iz)), (fun i => nI (r i)), D, (fun i => nI (bs i)), (fun i => nI (ba i)), BD, (fun i => nI (ce i)), (fun i => nI (pr i)), (fun i => nI (rc i)))) (hs : ∀ a, kn j ≠ 1 → v = nI a → a + s j ≤ m → k j = 1 → post (nI (lq_ct (lq_M k s r (lq_un kn j 1) (lq_un ad j a) j) c)) (nI w, nI b, nI m, nI c, nI q, (fun i => nI (k i)), (fun i => nI (p i)), (fun i => nI (s i)), (fun iz => nI ((lq_un kn j 1) iz)), (fun iz => nI ((lq_un ad j a) iz)), (fun iz => nI ((lq_rb (lq_M k s r (lq_un kn j 1) (lq_un ad j a) j) r c) iz)), D, (fun i => nI (bs i)), (fun i => nI (ba i)), BD, (fun i => nI (ce i)), (fun iz => nI ((lq_pf (lq_M k s r (lq_un kn j 1) (lq_un ad j a) j) p (p j) pr c) iz)), (fun i => nI (rc i)))) : wpY_setAddress post (nI w, nI b, nI m, nI c, nI q, (fun i => nI (k i)), (fun i => nI (p i)), (fun i => nI (s i)), (fun i => nI (kn i)), (fun i => nI (ad i)), (fun i => nI (r i)), D, (fun i => nI (bs i)), (fun i => nI (ba i)), BD, (fun i => nI (ce i)), (fun i => nI (pr i)), (fun i => nI (rc i))) (nI j) v := by
  have h' := h
  obtain ⟨h1, h2, h3, h4, h5⟩ := h
  obtain ⟨w1, w2, w3, w4⟩ := h3 j hj
  have b1 := h2 j
  have I : vp_in (nI j) 32 := vp_in_nI (by omega) (by omega)
  unfold wpY_setAddress
  refine br_f (nI_pos (by omega)) (br_t (nI_lt hj (by omega)) ⟨I, ?_⟩)
  rw [nI_clamp (show j < 2 ^ 31 by omega)]
  refine pk_eq (kn j) 0 (fun zn => ?_) (fun zn => hk (by omega))
  have zn' : kn j ≠ 1 := by omega
  have e : nI m - (fun i => nI (s i)) j = nI (m - s j) := pk_sub (by omega)
  rw [e]
  rcases pk_ix v (n := m - s j + 1) (by omega) with hv | hv | ⟨a, ha, rfl⟩
  · exact br_t hv (hb zn' (Or.inl hv))
  · refine br_c (fun _ => hb zn' (Or.inr hv)) (fun hv0 => ⟨I, br_f ?_ (hb zn' (Or.inr hv))⟩)
    obtain ⟨a, ha, rfl⟩ := nI_of hv0
    rw [nI_leI (by omega) ha] at hv
    rw [nI_leI ha (by omega)]
    omega
  · rw [lq_nb1]
    refine br_f (nI_pos (by omega)) ⟨I, br_t (nI_le (by omega) (by omega)) ⟨I, nm_r (lq_upd kn j 1) ⟨I, nm_r (lq_upd ad j a) ⟨I, ?_⟩⟩⟩⟩
    refine pk_eq (k j) 0 (fun zk => hl a zn' rfl (by omega) (by omega)) (fun zk => nm_r (nI_1 j) ?_)
    have G' : lq_G m c k p s r (lq_un kn j 1) (lq_un ad j a) (upd A j (nI a)) := by
      refine ⟨by omega, by omega, fun i => ⟨(h2 i).1, (h2 i).2.1, (h2 i).2.2.1, lq_unp (P := fun y => y ≤ 1) (fun i => (h2 i).2.2.2) (by omega) i⟩, fun i hi => ?_⟩
      by_cases e : i = j
      · subst e
        rw [lq_us, lq_us, pk_us]
        exact ⟨w1, fun _ => by omega, (if_pos rfl).symm⟩
      · rw [lq_ui e, lq_ui e, pk_un e]
        exact ⟨(h3 i hi).1, (h3 i hi).2.1, (h3 i hi).2.2.1⟩
    refine ly_a80 G' hj (fun i hi z1 z2 => ?_) (hs a zn' rfl (by omega) (by omega))
    have := (((h3 i hi).2.2.2 z2).2 z1).1
    exact lq_unp (P := fun y => y = 1) (fun _ => this) rfl i
theorem ly_data (h : lq_XI w b m c q k p s r kn ad A V D bs ba BV BD ce) {j : Nat} (hj : j < c) {v : Int32} {post : Int32 → SY → Prop} (hk : k j ≠ 1 → post (-2) (nI w, nI b, nI m, nI c, nI q, (fun i => nI (k i)), (fun i => nI (p i)), (fun i => nI (s i)), (fun i => nI (kn i)), (fun i => nI (ad i)), (fun i => nI (r i)), D, (fun i => nI (bs i)), (fun i => nI (ba i)), BD, (fun i => nI (ce i)), (fun i => nI (pr i)), (fun i => nI (rc i)))) (hr : k j = 1 → r j = 1 → post (-4) (nI w, nI b, nI m, nI c, nI q, (fun i => nI (k i)), (fun i => nI (p i)), (fun i => nI (s i)), (fun i => nI (kn i)), (fun i => nI (ad i)), (fun i => nI (r i)), D, (fun i => nI (bs i)), (fun i => nI (ba i)), BD, (fun i => nI (ce i)), (fun i => nI (pr i)), (fun i => nI (rc i)))) (hp : k j = 1 → r j ≠ 1 → post 0 (nI w, nI b, nI m, nI c, nI q, (fun i => nI (k i)), (fun i => nI (p i)), (fun i => nI (s i)), (fun i => nI (kn i)), (fun i => nI (ad i)), (fun iz => nI ((lq_un r j 1) iz)), upd D j v, (fun i => nI (bs i)), (fun i => nI (ba i)), BD, (fun i => nI (ce i)), (fun i => nI (pr i)), (fun i => nI (rc i)))) : wpY_setData post (nI w, nI b, nI m, nI c, nI q, (fun i => nI (k i)), (fun i => nI (p i)), (fun i => nI (s i)), (fun i => nI (kn i)), (fun i => nI (ad i)), (fun i => nI (r i)), D, (fun i => nI (bs i)), (fun i => nI (ba i)), BD, (fun i => nI (ce i)), (fun i => nI (pr i)), (fun i => nI (rc i))) (nI j) v := by
  obtain ⟨h1, h2, h3, h4, h5⟩ := h
  have b1 := h2 j
  have I : vp_in (nI j) 32 := vp_in_nI (by omega) (by omega)
  unfold wpY_setData
  refine br_f (nI_pos (by omega)) (br_t (nI_lt hj (by omega)) ⟨I, ?_⟩)
  rw [nI_clamp (show j < 2 ^ 31 by omega), lq_nb1]
  exact pk_eq (k j) 0 (fun z => hk (by omega)) (fun z => ⟨I, pk_eq (r j) 0 (fun y => ⟨I, nm_e ⟨I, nm_r (lq_upd r j 1) (hp (by omega) (by omega))⟩⟩) (fun y => hr (by omega) (by omega))⟩)
theorem ly_e110 (h : lq_XI w b m c q k p s r kn ad A V D bs ba BV BD ce) {j : Nat} (hj : j < c) (hk : kn j = 1) {post : Int32 → SY → Prop} (hp : lq_lk k s r kn ad j → post (-8) (nI w, nI b, nI m, nI c, nI q, (fun i => nI (k i)), (fun i => nI (p i)), (fun i => nI (s i)), (fun i => nI (kn i)), (fun i => nI (ad i)), (fun i => nI (r i)), D, (fun i => nI (bs i)), (fun i => nI (ba i)), BD, (fun i => nI (ce i)), (fun i => nI (pr i)), (fun i => nI (rc i)))) (hn : ¬ lq_lk k s r kn ad j → post 0 (nI w, nI b, nI m, nI c, nI q, (fun i => nI (k i)), (fun i => nI (p i)), (fun i => nI (s i)), (fun i => nI (kn i)), (fun i => nI (ad i)), (fun iz => nI ((lq_un r j 1) iz)), D, (fun i => nI (bs i)), (fun i => nI (ba i)), BD, (fun i => nI (ce i)), (fun i => nI (pr i)), (fun i => nI (rc i)))) : ∃ n, wY_execute_110 post (nI j) (nI w) (nI b) (nI m) (nI c) (nI q) (fun i => nI (k i)) (fun i => nI (p i)) (fun i => nI (s i)) (fun i => nI (kn i)) (fun i => nI (ad i)) (fun i => nI (r i)) D (fun i => nI (bs i)) (fun i => nI (ba i)) BD (fun i => nI (ce i)) (fun i => nI (pr i)) (fun i => nI (rc i)) n 0 := by
  have h' := h
  obtain ⟨h1, h2, h3, h4, h5⟩ := h
  obtain ⟨w1, w2, w3, _⟩ := h3 j hj
  have w2' := w2 hk
  have I : vp_in (nI j) 32 := vp_in_nI (by omega) (by omega)
  have main : ∀ d i n, i + d = s j → d < n → (∀ x, x < i → lq_ar k s r kn ad (ad j + x) j) → wY_execute_110 post (nI j) (nI w) (nI b) (nI m) (nI c) (nI q) (fun i => nI (k i)) (fun i => nI (p i)) (fun i => nI (s i)) (fun i => nI (kn i)) (fun i => nI (ad i)) (fun i => nI (r i)) D (fun i => nI (bs i)) (fun i => nI (ba i)) BD (fun i => nI (ce i)) (fun i => nI (pr i)) (fun i => nI (rc i)) n (nI i) := by
    intro d
    induction d with
    | zero =>
      intro i n hi hd hx
      obtain ⟨n, rfl⟩ : ∃ t, n = t + 1 := ⟨n - 1, by omega⟩
      refine ⟨I, ?_⟩
      rw [nI_clamp (show j < 2 ^ 31 by omega), lq_nb1]
      exact pk_le (s j) i (fun _ => ⟨I, nm_r (lq_upd r j 1) (hn (fun ⟨x, x1, x2⟩ => x2 (hx x (by omega))))⟩) (fun z => absurd z (by omega))
    | succ d ih =>
      intro i n hi hd hx
      obtain ⟨n, rfl⟩ : ∃ t, n = t + 1 := ⟨n - 1, by omega⟩
      have go : lq_ar k s r kn ad (ad j + i) j → wY_execute_110 post (nI j) (nI w) (nI b) (nI m) (nI c) (nI q) (fun i => nI (k i)) (fun i => nI (p i)) (fun i => nI (s i)) (fun i => nI (kn i)) (fun i => nI (ad i)) (fun i => nI (r i)) D (fun i => nI (bs i)) (fun i => nI (ba i)) BD (fun i => nI (ce i)) (fun i => nI (pr i)) (fun i => nI (rc i)) n (nI (i + 1)) := fun z => ih (i + 1) n (by omega) (by omega) (fun x hx' => by
        by_cases e : x = i
        · rw [e]; exact z
        · exact hx x (by omega))
      refine ⟨I, ?_⟩
      rw [nI_clamp (show j < 2 ^ 31 by omega)]
      refine pk_le (s j) i (fun z => absurd z (by omega)) (fun _ => ⟨I, ?_⟩)
      rw [show (fun i => nI (ad i)) j + nI i = nI (ad j + i) from nI_add _ _]
      refine ly_src (lq_XIG h') (by omega) (by omega) ?_
      cases e : lq_src k s kn ad (ad j + i) j with
      | none => exact br_t (by decide) (nm_r (nI_1 i) (go ((lq_ar_src j).mpr (fun t ht => by rw [e] at ht; cases ht))))
      | some t =>
        have tl := (lq_src_lt j e).1
        have b1 := h2 t
        refine br_f (nI_pos (show t < 2 ^ 31 by omega)) ⟨vp_in_nI (show t < 32 by omega) (by omega), ?_⟩
        have el : (lq_en (some t)).toNatClampNeg = t := nI_clamp (show t < 2 ^ 31 by omega)
        rw [el]
        refine pk_eq (r t) 0 (fun z => hp ⟨i, by omega, fun y => ?_⟩) (fun z => nm_r (nI_1 i) (go ((lq_ar_src j).mpr (fun t' ht => ?_))))
        · have := (lq_ar_src j).mp y t e
          omega
        · rw [e] at ht
          cases ht
          omega
  exact ⟨s j + 1, main (s j) 0 (s j + 1) (by omega) (by omega) (fun x hx => absurd hx (by omega))⟩
theorem ly_e53 (h : lq_XI w b m c q k p s r kn ad A V D bs ba BV BD ce) (hS : lq_S st pr) (hpr : ∀ i, pr i ≤ 1) {j : Nat} (hj : j < c) : ∀ d i (rc : Nat → Nat), i + d = j → (∀ i, rc i ≤ 1) → (∀ x, x < i → ¬ (k x = 1 ∧ kn x ≠ 1 ∧ st (p x) ≠ -1 ∧ st (p x) = st (p j))) → ∃ rc' : Nat → Nat, (∀ i, rc' i ≤ 1) ∧ ∀ n (post : Int32 → SY → Prop), d < n → (lq_wt k p kn st j → post (-7) (nI w, nI b, nI m, nI c, nI q, (fun i => nI (k i)), (fun i => nI (p i)), (fun i => nI (s i)), (fun i => nI (kn i)), (fun i => nI (ad i)), (fun i => nI (r i)), D, (fun i => nI (bs i)), (fun i => nI (ba i)), BD, (fun i => nI (ce i)), (fun i => nI (pr i)), (fun iz => nI (rc' iz)))) → (¬ lq_wt k p kn st j → ∃ n, wY_execute_110 post (nI j) (nI w) (nI b) (nI m) (nI c) (nI q) (fun i => nI (k i)) (fun i => nI (p i)) (fun i => nI (s i)) (fun i => nI (kn i)) (fun i => nI (ad i)) (fun i => nI (r i)) D (fun i => nI (bs i)) (fun i => nI (ba i)) BD (fun i => nI (ce i)) (fun i => nI (pr i)) (fun iz => nI (rc' iz)) n 0) → wY_execute_53 post (nI j) n (nI i) (nI w) (nI b) (nI m) (nI c) (nI q) (fun i => nI (k i)) (fun i => nI (p i)) (fun i => nI (s i)) (fun i => nI (kn i)) (fun i => nI (ad i)) (fun i => nI (r i)) D (fun i => nI (bs i)) (fun i => nI (ba i)) BD (fun i => nI (ce i)) (fun i => nI (pr i)) (fun i => nI (rc i)) := by
  obtain ⟨h1, h2, h3, h4, h5⟩ := h
  have Ij : vp_in (nI j) 32 := vp_in_nI (by omega) (by omega)
  intro d
  induction d with
  | zero =>
    intro i rc hi hrc hx
    refine ⟨rc, hrc, fun n post hn ht hf => ?_⟩
    obtain ⟨n, rfl⟩ : ∃ t, n = t + 1 := ⟨n - 1, by omega⟩
    exact br_t (nI_le (by omega) (by omega)) (hf (fun ⟨x, x1, x2⟩ => hx x (by omega) x2))
  | succ d ih =>
    intro i rc hi hrc hx
    have I : vp_in (nI i) 32 := vp_in_nI (by omega) (by omega)
    have b1 := h2 i
    have nx : ¬ (k i = 1 ∧ kn i ≠ 1 ∧ st (p i) ≠ -1 ∧ st (p i) = st (p j)) → ∀ x, x < i + 1 → ¬ (k x = 1 ∧ kn x ≠ 1 ∧ st (p x) ≠ -1 ∧ st (p x) = st (p j)) := fun z x hx' => by
      by_cases e : x = i
      · rw [e]; exact z
      · exact hx x (by omega)
    by_cases z : k i = 1 ∧ kn i ≠ 1
    · obtain ⟨rc1, hrc1, l1⟩ := ly_same (rc := rc) hS hpr hrc (h2 j).2.1 (h2 i).2.1
      by_cases y : st (p i) ≠ -1 ∧ st (p i) = st (p j)
      · refine ⟨rc1, hrc1, fun n post hn ht hf => ?_⟩
        obtain ⟨n, rfl⟩ : ∃ t, n = t + 1 := ⟨n - 1, by omega⟩
        refine br_f (nI_ge (by omega) (by omega)) ⟨I, ?_⟩
        rw [nI_clamp (show i < 2 ^ 31 by omega), nI_clamp (show j < 2 ^ 31 by omega)]
        refine pk_eq (k i) 1 (fun zk => ⟨I, pk_eq (kn i) 0 (fun zn => ⟨Ij, I, ?_⟩) (fun zn => absurd z.2 (by omega))⟩) (fun zk => absurd z.1 zk)
        exact l1 _ _ _ _ _ _ _ _ _ _ _ _ _ _ _ _ _ (fun _ => br_t rfl (ht ⟨i, by omega, z.1, z.2, y.1, y.2⟩)) (fun n => absurd ⟨by rw [← y.2]; exact y.1, y.2.symm⟩ n)
      · obtain ⟨rc2, hrc2, l2⟩ := ih (i + 1) rc1 (by omega) hrc1 (nx (fun u => y ⟨u.2.2.1, u.2.2.2⟩))
        refine ⟨rc2, hrc2, fun n post hn ht hf => ?_⟩
        obtain ⟨n, rfl⟩ : ∃ t, n = t + 1 := ⟨n - 1, by omega⟩
        refine br_f (nI_ge (by omega) (by omega)) ⟨I, ?_⟩
        rw [nI_clamp (show i < 2 ^ 31 by omega), nI_clamp (show j < 2 ^ 31 by omega)]
        refine pk_eq (k i) 1 (fun zk => ⟨I, pk_eq (kn i) 0 (fun zn => ⟨Ij, I, ?_⟩) (fun zn => absurd z.2 (by omega))⟩) (fun zk => absurd z.1 zk)
        exact l1 _ _ _ _ _ _ _ _ _ _ _ _ _ _ _ _ _ (fun u => absurd ⟨by rw [← u.2]; exact u.1, u.2.symm⟩ y) (fun _ => br_f (by decide) (nm_r (nI_1 i) (l2 n post (by omega) ht hf)))
    · obtain ⟨rc2, hrc2, l2⟩ := ih (i + 1) rc (by omega) hrc (nx (fun u => z ⟨u.1, u.2.1⟩))
      refine ⟨rc2, hrc2, fun n post hn ht hf => ?_⟩
      obtain ⟨n, rfl⟩ : ∃ t, n = t + 1 := ⟨n - 1, by omega⟩
      have l3 := l2 n post (by omega) ht hf
      refine br_f (nI_ge (by omega) (by omega)) ⟨I, ?_⟩
      rw [nI_clamp (show i < 2 ^ 31 by omega), nI_clamp (show j < 2 ^ 31 by omega)]
      exact pk_eq (k i) 1 (fun zk => ⟨I, pk_eq (kn i) 0 (fun zn => absurd ⟨zk, by omega⟩ z) (fun zn => nm_r (nI_1 i) l3)⟩) (fun zk => nm_r (nI_1 i) l3)
theorem ly_exec (h : lq_XI w b m c q k p s r kn ad A V D bs ba BV BD ce) (hS : lq_S st pr) (hpr : ∀ i, pr i ≤ 1) (hrc : ∀ i, rc i ≤ 1) {j : Nat} (hj : j < c) {ans : Int32} {r' : Nat → Nat} {V' : Nat → Int64} (e : lq_EX k p s r kn ad V D (fun a => lq_mb bs ba BD ce a q) st j ans r' V') : ∃ rc' : Nat → Nat, (∀ i, rc' i ≤ 1) ∧ ∀ post : Int32 → SY → Prop, post ans (nI w, nI b, nI m, nI c, nI q, (fun i => nI (k i)), (fun i => nI (p i)), (fun i => nI (s i)), (fun i => nI (kn i)), (fun i => nI (ad i)), (fun iz => nI (r' iz)), D, (fun i => nI (bs i)), (fun i => nI (ba i)), BD, (fun i => nI (ce i)), (fun i => nI (pr i)), (fun iz => nI (rc' iz))) → wpY_execute post (nI w, nI b, nI m, nI c, nI q, (fun i => nI (k i)), (fun i => nI (p i)), (fun i => nI (s i)), (fun i => nI (kn i)), (fun i => nI (ad i)), (fun i => nI (r i)), D, (fun i => nI (bs i)), (fun i => nI (ba i)), BD, (fun i => nI (ce i)), (fun i => nI (pr i)), (fun i => nI (rc i))) (nI j) := by
  have h' := h
  obtain ⟨h1, h2, h3, h4, h5⟩ := h
  have b1 := h2 j
  have I : vp_in (nI j) 32 := vp_in_nI (by omega) (by omega)
  have cj : (nI j).toNatClampNeg = j := nI_clamp (by omega)
  obtain ⟨rc1, hrc1, l1⟩ := ly_e53 h' hS hpr hj j 0 rc (by omega) hrc (fun x hx => absurd hx (by omega))
  have enter0 : ∀ {post : Int32 → SY → Prop}, (k j = 1 → post (-2) (nI w, nI b, nI m, nI c, nI q, (fun i => nI (k i)), (fun i => nI (p i)), (fun i => nI (s i)), (fun i => nI (kn i)), (fun i => nI (ad i)), (fun i => nI (r i)), D, (fun i => nI (bs i)), (fun i => nI (ba i)), BD, (fun i => nI (ce i)), (fun i => nI (pr i)), (fun i => nI (rc i)))) → (k j ≠ 1 → r j = 1 → post (-4) (nI w, nI b, nI m, nI c, nI q, (fun i => nI (k i)), (fun i => nI (p i)), (fun i => nI (s i)), (fun i => nI (kn i)), (fun i => nI (ad i)), (fun i => nI (r i)), D, (fun i => nI (bs i)), (fun i => nI (ba i)), BD, (fun i => nI (ce i)), (fun i => nI (pr i)), (fun i => nI (rc i)))) → (k j ≠ 1 → r j ≠ 1 → kn j ≠ 1 → post (-6) (nI w, nI b, nI m, nI c, nI q, (fun i => nI (k i)), (fun i => nI (p i)), (fun i => nI (s i)), (fun i => nI (kn i)), (fun i => nI (ad i)), (fun i => nI (r i)), D, (fun i => nI (bs i)), (fun i => nI (ba i)), BD, (fun i => nI (ce i)), (fun i => nI (pr i)), (fun i => nI (rc i)))) → (k j ≠ 1 → r j ≠ 1 → kn j = 1 → ∃ n, wY_execute_53 post (nI j) n 0 (nI w) (nI b) (nI m) (nI c) (nI q) (fun i => nI (k i)) (fun i => nI (p i)) (fun i => nI (s i)) (fun i => nI (kn i)) (fun i => nI (ad i)) (fun i => nI (r i)) D (fun i => nI (bs i)) (fun i => nI (ba i)) BD (fun i => nI (ce i)) (fun i => nI (pr i)) (fun i => nI (rc i))) → wpY_execute post (nI w, nI b, nI m, nI c, nI q, (fun i => nI (k i)), (fun i => nI (p i)), (fun i => nI (s i)), (fun i => nI (kn i)), (fun i => nI (ad i)), (fun i => nI (r i)), D, (fun i => nI (bs i)), (fun i => nI (ba i)), BD, (fun i => nI (ce i)), (fun i => nI (pr i)), (fun i => nI (rc i))) (nI j) := by
    intro post p1 p2 p3 p4
    unfold wpY_execute
    refine br_f (nI_pos (by omega)) (br_t (nI_lt hj (by omega)) ⟨I, ?_⟩)
    rw [cj]
    exact pk_eq (k j) 1 p1 (fun zk => ⟨I, pk_eq (r j) 0 (fun zr => ⟨I, pk_eq (kn j) 0 (fun zn => p3 zk (by omega) (by omega)) (fun zn => p4 zk (by omega) (by omega))⟩) (fun zr => p2 zk (by omega))⟩)
  rcases e with ⟨e1, ea, er, eV⟩ | ⟨e1, e2, ea, er, eV⟩ | ⟨e1, e2, e3, ea, er, eV⟩ | ⟨e1, e2, e3, e4, ea, er, eV⟩ | ⟨e1, e2, e3, e4, e5, ea, er, eV⟩ | ⟨e1, e2, e3, e4, e5, ea, er, eV⟩
  · refine ⟨rc, hrc, fun post hp => ?_⟩
    rw [ea, er] at hp
    exact enter0 (fun _ => hp) (fun n => absurd e1 n) (fun n => absurd e1 n) (fun n => absurd e1 n)
  · refine ⟨rc, hrc, fun post hp => ?_⟩
    rw [ea, er] at hp
    exact enter0 (fun n => absurd n e1) (fun _ _ => hp) (fun _ n => absurd e2 n) (fun _ n => absurd e2 n)
  · refine ⟨rc, hrc, fun post hp => ?_⟩
    rw [ea, er] at hp
    exact enter0 (fun n => absurd n e1) (fun _ n => absurd n e2) (fun _ _ _ => hp) (fun _ _ n => absurd n e3)
  · refine ⟨rc1, hrc1, fun post hp => ?_⟩
    rw [ea, er] at hp
    exact enter0 (fun n => absurd n e1) (fun _ n => absurd n e2) (fun _ _ n => absurd e3 n) (fun _ _ _ => ⟨j + 1, l1 (j + 1) post (by omega) (fun _ => hp) (fun n => absurd e4 n)⟩)
  · refine ⟨rc1, hrc1, fun post hp => ?_⟩
    rw [ea, er] at hp
    exact enter0 (fun n => absurd n e1) (fun _ n => absurd n e2) (fun _ _ n => absurd e3 n) (fun _ _ _ => ⟨j + 1, l1 (j + 1) post (by omega) (fun n => absurd n e4) (fun _ => ly_e110 h' hj e3 (fun _ => hp) (fun n => absurd e5 n))⟩)
  · refine ⟨rc1, hrc1, fun post hp => ?_⟩
    rw [ea, er] at hp
    exact enter0 (fun n => absurd n e1) (fun _ n => absurd n e2) (fun _ _ n => absurd e3 n) (fun _ _ _ => ⟨j + 1, l1 (j + 1) post (by omega) (fun n => absurd n e4) (fun _ => ly_e110 h' hj e3 (fun n => absurd n e5) (fun _ => hp))⟩)
theorem ly_er4 (hS : lq_S st pr) (hpr : ∀ i, pr i ≤ 1) : ∀ d i {r : Nat → Nat} {V : Nat → Int64} {n n0 : Nat} {r' : Nat → Nat} {V' : Nat → Int64} (rc : Nat → Nat), lq_XI w b m c q k p s r kn ad A V D bs ba BV BD ce → lq_ER k p s kn ad D (fun a => lq_mb bs ba BD ce a q) st d i r V n r' V' → i + d = c → (∀ i, rc i ≤ 1) → ∃ rc' : Nat → Nat, (∀ i, rc' i ≤ 1) ∧ ∀ fu (post : Int32 → SY → Prop), d < fu → post (nI (n0 + n)) (nI w, nI b, nI m, nI c, nI q, (fun i => nI (k i)), (fun i => nI (p i)), (fun i => nI (s i)), (fun i => nI (kn i)), (fun i => nI (ad i)), (fun iz => nI (r' iz)), D, (fun i => nI (bs i)), (fun i => nI (ba i)), BD, (fun i => nI (ce i)), (fun i => nI (pr i)), (fun iz => nI (rc' iz))) → wY_executeReady_4 post fu (nI n0) (nI i) (nI w) (nI b) (nI m) (nI c) (nI q) (fun i => nI (k i)) (fun i => nI (p i)) (fun i => nI (s i)) (fun i => nI (kn i)) (fun i => nI (ad i)) (fun i => nI (r i)) D (fun i => nI (bs i)) (fun i => nI (ba i)) BD (fun i => nI (ce i)) (fun i => nI (pr i)) (fun i => nI (rc i)) := by
  intro d
  induction d with
  | zero =>
    intro i r V n n0 r' V' rc h ⟨e0, e1, e2⟩ hi hrc
    refine ⟨rc, hrc, fun fu post hd hp => ?_⟩
    rw [e0, e1] at hp
    obtain ⟨fu, rfl⟩ : ∃ t, fu = t + 1 := ⟨fu - 1, by omega⟩
    have := h.1
    exact br_t (nI_le (by omega) (by omega)) hp
  | succ d ih =>
    intro i r V n n0 r' V' rc h ⟨ans, r1, V1, n1, e1, e2, e3⟩ hi hrc
    have := h.1
    obtain ⟨rc1, hrc1, l1⟩ := ly_exec (rc := rc) h hS hpr hrc (show i < c by omega) e1
    rcases e3 with ⟨z, e3⟩ | ⟨z, e3⟩
    · obtain ⟨rc2, hrc2, l2⟩ := ih (i + 1) (n0 := n0 + 1) rc1 (lq_XIex h e1) e2 (by omega) hrc1
      refine ⟨rc2, hrc2, fun fu post hd hp => ?_⟩
      obtain ⟨fu, rfl⟩ : ∃ t, fu = t + 1 := ⟨fu - 1, by omega⟩
      refine br_f (nI_ge (by omega) (by omega)) (l1 _ (br_t z (nm_r (nI_1 n0) (nm_r (nI_1 i) (l2 fu post (by omega) ?_)))))
      rw [show n0 + 1 + n1 = n0 + n by omega]
      exact hp
    · obtain ⟨rc2, hrc2, l2⟩ := ih (i + 1) (n0 := n0) rc1 (lq_XIex h e1) e2 (by omega) hrc1
      refine ⟨rc2, hrc2, fun fu post hd hp => ?_⟩
      obtain ⟨fu, rfl⟩ : ∃ t, fu = t + 1 := ⟨fu - 1, by omega⟩
      refine br_f (nI_ge (by omega) (by omega)) (l1 _ (br_f z (nm_r (nI_1 i) (l2 fu post (by omega) ?_))))
      rw [← e3]
      exact hp
theorem ly_er (h : lq_XI w b m c q k p s r kn ad A V D bs ba BV BD ce) (hS : lq_S st pr) (hpr : ∀ i, pr i ≤ 1) (hrc : ∀ i, rc i ≤ 1) {n : Nat} {r' : Nat → Nat} {V' : Nat → Int64} (e : lq_ER k p s kn ad D (fun a => lq_mb bs ba BD ce a q) st c 0 r V n r' V') : ∃ rc' : Nat → Nat, (∀ i, rc' i ≤ 1) ∧ ∀ post : Int32 → SY → Prop, post (nI n) (nI w, nI b, nI m, nI c, nI q, (fun i => nI (k i)), (fun i => nI (p i)), (fun i => nI (s i)), (fun i => nI (kn i)), (fun i => nI (ad i)), (fun iz => nI (r' iz)), D, (fun i => nI (bs i)), (fun i => nI (ba i)), BD, (fun i => nI (ce i)), (fun i => nI (pr i)), (fun iz => nI (rc' iz))) → wpY_executeReady post (nI w, nI b, nI m, nI c, nI q, (fun i => nI (k i)), (fun i => nI (p i)), (fun i => nI (s i)), (fun i => nI (kn i)), (fun i => nI (ad i)), (fun i => nI (r i)), D, (fun i => nI (bs i)), (fun i => nI (ba i)), BD, (fun i => nI (ce i)), (fun i => nI (pr i)), (fun i => nI (rc i))) := by
  obtain ⟨rc1, hrc1, l⟩ := ly_er4 hS hpr c 0 (n0 := 0) rc h e (by omega) hrc
  refine ⟨rc1, hrc1, fun post hp => ?_⟩
  unfold wpY_executeReady
  refine ⟨c + 1, l (c + 1) post (by omega) ?_⟩
  rw [Nat.zero_add]
  exact hp
end
end
section
/-! the reference: commit, drain, discard, clearSets, the start, the readers -/
section
variable {w b m c q : Nat} {k p s r kn ad : Nat → Nat} {A : Nat → Int32} {V : Nat → Int64} {D : Nat → Int32} {bs ba : Nat → Nat} {BV : Nat → Int64} {BD : Nat → Int32} {ce : Nat → Nat} {st : Nat → Int32} {pr rc : Nat → Nat}
theorem ly_shw {post : Int64 → SY → Prop} {x1 : Int64} (hc : c < 32) (hr : ∀ i, r i ≤ 1) (hk : ∀ i, kn i ≤ 1) (hp : post x1 (nI w, nI b, nI m, nI c, nI q, (fun iz => nI ((lq_sh (c + 1) k) iz)), (fun iz => nI ((lq_sh (c + 1) p) iz)), (fun iz => nI ((lq_sh (c + 1) s) iz)), (fun iz => nI ((lq_sh (c + 1) kn) iz)), (fun iz => nI ((lq_sh (c + 1) ad) iz)), (fun iz => nI ((lq_sh (c + 1) r) iz)), lq_sh (c + 1) D, (fun i => nI (bs i)), (fun i => nI (ba i)), BD, (fun i => nI (ce i)), (fun i => nI (pr i)), (fun i => nI (rc i)))) : ∃ n, wY_commit_140 post x1 (nI w) (nI b) (nI m) (nI (c + 1)) (nI q) n 1 (fun i => nI (k i)) (fun i => nI (p i)) (fun i => nI (s i)) (fun i => nI (kn i)) (fun i => nI (ad i)) (fun i => nI (r i)) D (fun i => nI (bs i)) (fun i => nI (ba i)) BD (fun i => nI (ce i)) (fun i => nI (pr i)) (fun i => nI (rc i)) := by
  have main : ∀ d i n, i + d = c → d < n → wY_commit_140 post x1 (nI w) (nI b) (nI m) (nI (c + 1)) (nI q) n (nI (i + 1)) (lq_sh (i + 1) (fun i => nI (k i))) (lq_sh (i + 1) (fun i => nI (p i))) (lq_sh (i + 1) (fun i => nI (s i))) (lq_sh (i + 1) (fun i => nI (kn i))) (lq_sh (i + 1) (fun i => nI (ad i))) (lq_sh (i + 1) (fun i => nI (r i))) (lq_sh (i + 1) D) (fun i => nI (bs i)) (fun i => nI (ba i)) BD (fun i => nI (ce i)) (fun i => nI (pr i)) (fun i => nI (rc i)) := by
    intro d
    induction d with
    | zero =>
      intro i n hi hd
      obtain ⟨n, rfl⟩ : ∃ t, n = t + 1 := ⟨n - 1, by omega⟩
      obtain rfl : i = c := by omega
      rw [← lq_shn, ← lq_shn, ← lq_shn, ← lq_shn, ← lq_shn, ← lq_shn] at hp
      exact br_t (nI_le (Nat.le_refl _) (by omega)) (nm_r (nI_pred i) hp)
    | succ d ih =>
      intro i n hi hd
      obtain ⟨n, rfl⟩ : ∃ t, n = t + 1 := ⟨n - 1, by omega⟩
      have I : vp_in (nI i) 32 := vp_in_nI (by omega) (by omega)
      have I1 : vp_in (nI (i + 1)) 32 := vp_in_nI (by omega) (by omega)
      refine br_f (nI_ge (by omega) (by omega)) ?_
      rw [nI_pred i, nI_clamp (show i + 1 < 2 ^ 31 by omega), nI_clamp (show i < 2 ^ 31 by omega)]
      exact ⟨I1, I, nm_r (lq_shx i _) ⟨I1, I, nm_r (lq_shx i _) ⟨I1, I, nm_r (lq_shx i _) ⟨I1, I, nm_r (lq_shb i hk) ⟨I1, I, nm_r (lq_shx i _) ⟨I1, I, nm_r (lq_shb i hr) ⟨I1, I, nm_r (lq_shx i _) (nm_r (nI_1 (i + 1)) (ih (i + 1) n (by omega) (by omega)))⟩⟩⟩⟩⟩⟩⟩
  have l := main c 0 (c + 1) (by omega) (by omega)
  rw [Nat.zero_add, lq_sh1, lq_sh1, lq_sh1, lq_sh1, lq_sh1, lq_sh1, lq_sh1] at l
  exact ⟨c + 1, l⟩
theorem ly_com0 {post : Int64 → SY → Prop} (hp : post (-10) (nI w, nI b, nI m, nI 0, nI q, (fun i => nI (k i)), (fun i => nI (p i)), (fun i => nI (s i)), (fun i => nI (kn i)), (fun i => nI (ad i)), (fun i => nI (r i)), D, (fun i => nI (bs i)), (fun i => nI (ba i)), BD, (fun i => nI (ce i)), (fun i => nI (pr i)), (fun i => nI (rc i)))) : wpY_commit post (nI w, nI b, nI m, nI 0, nI q, (fun i => nI (k i)), (fun i => nI (p i)), (fun i => nI (s i)), (fun i => nI (kn i)), (fun i => nI (ad i)), (fun i => nI (r i)), D, (fun i => nI (bs i)), (fun i => nI (ba i)), BD, (fun i => nI (ce i)), (fun i => nI (pr i)), (fun i => nI (rc i))) := by
  unfold wpY_commit
  exact br_t rfl hp
theorem ly_comN (h : lq_XI w b m (c + 1) q k p s r kn ad A V D bs ba BV BD ce) {post : Int64 → SY → Prop} (hr : r 0 ≠ 1 ∨ kn 0 ≠ 1) (hp : post (-9) (nI w, nI b, nI m, nI (c + 1), nI q, (fun i => nI (k i)), (fun i => nI (p i)), (fun i => nI (s i)), (fun i => nI (kn i)), (fun i => nI (ad i)), (fun i => nI (r i)), D, (fun i => nI (bs i)), (fun i => nI (ba i)), BD, (fun i => nI (ce i)), (fun i => nI (pr i)), (fun i => nI (rc i)))) : wpY_commit post (nI w, nI b, nI m, nI (c + 1), nI q, (fun i => nI (k i)), (fun i => nI (p i)), (fun i => nI (s i)), (fun i => nI (kn i)), (fun i => nI (ad i)), (fun i => nI (r i)), D, (fun i => nI (bs i)), (fun i => nI (ba i)), BD, (fun i => nI (ce i)), (fun i => nI (pr i)), (fun i => nI (rc i))) := by
  obtain ⟨h1, h2, h3, h4, h5⟩ := h
  obtain ⟨w1, w2, w3, w4⟩ := h3 0 (by omega)
  have b1 := h2 0
  unfold wpY_commit
  refine br_f (nI_ne0 (by omega) (by omega)) (pk_eq (k 0) 0 (fun zk => pk_eq (r 0) 0 (fun _ => hp) (fun z => ?_)) (fun zk => pk_eq (kn 0) 0 (fun _ => hp) (fun zn => pk_eq (r 0) 0 (fun _ => hp) (fun zr => absurd hr (by omega)))))
  have := ((w4 (by omega)).2 (by omega)).1
  omega
theorem ly_comL (h : lq_XI w b m (c + 1) q k p s r kn ad A V D bs ba BV BD ce) {post : Int64 → SY → Prop} (hk : k 0 ≠ 1) (hr : r 0 = 1) (hp : post (V 0) (nI w, nI b, nI m, nI c, nI q, (fun iz => nI ((lq_sh (c + 1) k) iz)), (fun iz => nI ((lq_sh (c + 1) p) iz)), (fun iz => nI ((lq_sh (c + 1) s) iz)), (fun iz => nI ((lq_sh (c + 1) kn) iz)), (fun iz => nI ((lq_sh (c + 1) ad) iz)), (fun iz => nI ((lq_sh (c + 1) r) iz)), lq_sh (c + 1) D, (fun i => nI (bs i)), (fun i => nI (ba i)), BD, (fun i => nI (ce i)), (fun i => nI (pr i)), (fun i => nI (rc i)))) : wpY_commit post (nI w, nI b, nI m, nI (c + 1), nI q, (fun i => nI (k i)), (fun i => nI (p i)), (fun i => nI (s i)), (fun i => nI (kn i)), (fun i => nI (ad i)), (fun i => nI (r i)), D, (fun i => nI (bs i)), (fun i => nI (ba i)), BD, (fun i => nI (ce i)), (fun i => nI (pr i)), (fun i => nI (rc i))) := by
  have h' := h
  obtain ⟨h1, h2, h3, h4, h5⟩ := h
  have b1 := h2 0
  unfold wpY_commit
  refine br_f (nI_ne0 (by omega) (by omega)) (pk_eq (k 0) 0 (fun zk => pk_eq (r 0) 0 (fun z => absurd hr (by omega)) (fun z => ?_)) (fun zk => absurd hk (by omega)))
  exact ly_value (j := 0) h' (by omega) (fun _ => ly_shw (by omega) (fun i => (h2 i).2.2.1) (fun i => (h2 i).2.2.2) hp) (fun n => absurd hr n)
theorem ly_comS (h : lq_XI w b m (c + 1) q k p s r kn ad A V D bs ba BV BD ce) {post : Int64 → SY → Prop} (hk : k 0 = 1) (hr : r 0 = 1) (hn : kn 0 = 1) (hf : q = b → post (-5) (nI w, nI b, nI m, nI (c + 1), nI q, (fun i => nI (k i)), (fun i => nI (p i)), (fun i => nI (s i)), (fun i => nI (kn i)), (fun i => nI (ad i)), (fun i => nI (r i)), D, (fun i => nI (bs i)), (fun i => nI (ba i)), BD, (fun i => nI (ce i)), (fun i => nI (pr i)), (fun i => nI (rc i)))) (hp : q < b → post (-11) (nI w, nI b, nI m, nI c, nI (q + 1), (fun iz => nI ((lq_sh (c + 1) k) iz)), (fun iz => nI ((lq_sh (c + 1) p) iz)), (fun iz => nI ((lq_sh (c + 1) s) iz)), (fun iz => nI ((lq_sh (c + 1) kn) iz)), (fun iz => nI ((lq_sh (c + 1) ad) iz)), (fun iz => nI ((lq_sh (c + 1) r) iz)), lq_sh (c + 1) D, (fun iz => nI ((lq_un bs q (s 0)) iz)), (fun iz => nI ((lq_un ba q (ad 0)) iz)), upd BD q (D 0), (fun i => nI (ce i)), (fun i => nI (pr i)), (fun i => nI (rc i)))) : wpY_commit post (nI w, nI b, nI m, nI (c + 1), nI q, (fun i => nI (k i)), (fun i => nI (p i)), (fun i => nI (s i)), (fun i => nI (kn i)), (fun i => nI (ad i)), (fun i => nI (r i)), D, (fun i => nI (bs i)), (fun i => nI (ba i)), BD, (fun i => nI (ce i)), (fun i => nI (pr i)), (fun i => nI (rc i))) := by
  obtain ⟨h1, h2, h3, h4, h5⟩ := h
  have b1 := h2 0
  unfold wpY_commit
  refine br_f (nI_ne0 (by omega) (by omega)) (pk_eq (k 0) 0 (fun zk => absurd hk (by omega)) (fun zk => pk_eq (kn 0) 0 (fun zn => absurd hn (by omega)) (fun zn => pk_eq (r 0) 0 (fun zr => absurd hr (by omega)) (fun zr => pk_lt q b (fun l => ?_) (fun l => hf (by omega))))))
  have I : vp_in (nI q) 8 := vp_in_nI (by omega) (by omega)
  rw [nI_clamp (show q < 2 ^ 31 by omega)]
  refine ⟨I, nm_r (lq_upd bs q (s 0)) ⟨I, nm_r (lq_upd ba q (ad 0)) ⟨I, nm_e (nm_r (nI_1 q) ?_)⟩⟩⟩
  exact ly_shw (q := q + 1) (bs := lq_un bs q (s 0)) (ba := lq_un ba q (ad 0)) (BD := upd BD q (D 0)) (by omega) (fun i => (h2 i).2.2.1) (fun i => (h2 i).2.2.2) (hp l)
theorem ly_d40 {post : Int32 → SY → Prop} (hq : q < 8) (hp : post 0 (nI w, nI b, nI m, nI c, nI q, (fun i => nI (k i)), (fun i => nI (p i)), (fun i => nI (s i)), (fun i => nI (kn i)), (fun i => nI (ad i)), (fun i => nI (r i)), D, (fun iz => nI ((lq_sh (q + 1) bs) iz)), (fun iz => nI ((lq_sh (q + 1) ba) iz)), lq_sh (q + 1) BD, (fun i => nI (ce i)), (fun i => nI (pr i)), (fun i => nI (rc i)))) : ∃ n, wY_drain_40 post (nI w) (nI b) (nI m) (nI c) (nI (q + 1)) n 1 (fun i => nI (k i)) (fun i => nI (p i)) (fun i => nI (s i)) (fun i => nI (kn i)) (fun i => nI (ad i)) (fun i => nI (r i)) D (fun i => nI (bs i)) (fun i => nI (ba i)) BD (fun i => nI (ce i)) (fun i => nI (pr i)) (fun i => nI (rc i)) := by
  have main : ∀ d i n, i + d = q → d < n → wY_drain_40 post (nI w) (nI b) (nI m) (nI c) (nI (q + 1)) n (nI (i + 1)) (fun i => nI (k i)) (fun i => nI (p i)) (fun i => nI (s i)) (fun i => nI (kn i)) (fun i => nI (ad i)) (fun i => nI (r i)) D (lq_sh (i + 1) (fun i => nI (bs i))) (lq_sh (i + 1) (fun i => nI (ba i))) (lq_sh (i + 1) BD) (fun i => nI (ce i)) (fun i => nI (pr i)) (fun i => nI (rc i)) := by
    intro d
    induction d with
    | zero =>
      intro i n hi hd
      obtain ⟨n, rfl⟩ : ∃ t, n = t + 1 := ⟨n - 1, by omega⟩
      obtain rfl : i = q := by omega
      rw [← lq_shn, ← lq_shn] at hp
      exact br_t (nI_le (Nat.le_refl _) (by omega)) (nm_r (nI_pred i) hp)
    | succ d ih =>
      intro i n hi hd
      obtain ⟨n, rfl⟩ : ∃ t, n = t + 1 := ⟨n - 1, by omega⟩
      have I : vp_in (nI i) 8 := vp_in_nI (by omega) (by omega)
      have I1 : vp_in (nI (i + 1)) 8 := vp_in_nI (by omega) (by omega)
      refine br_f (nI_ge (by omega) (by omega)) ?_
      rw [nI_pred i, nI_clamp (show i + 1 < 2 ^ 31 by omega), nI_clamp (show i < 2 ^ 31 by omega)]
      exact ⟨I1, I, nm_r (lq_shx i _) ⟨I1, I, nm_r (lq_shx i _) ⟨I1, I, nm_r (lq_shx i _) (nm_r (nI_1 (i + 1)) (ih (i + 1) n (by omega) (by omega)))⟩⟩⟩
  have l := main q 0 (q + 1) (by omega) (by omega)
  rw [Nat.zero_add, lq_sh1, lq_sh1, lq_sh1] at l
  exact ⟨q + 1, l⟩
theorem ly_drain0 {post : Int32 → SY → Prop} (hp : post (-10) (nI w, nI b, nI m, nI c, nI 0, (fun i => nI (k i)), (fun i => nI (p i)), (fun i => nI (s i)), (fun i => nI (kn i)), (fun i => nI (ad i)), (fun i => nI (r i)), D, (fun i => nI (bs i)), (fun i => nI (ba i)), BD, (fun i => nI (ce i)), (fun i => nI (pr i)), (fun i => nI (rc i)))) : wpY_drain post (nI w, nI b, nI m, nI c, nI 0, (fun i => nI (k i)), (fun i => nI (p i)), (fun i => nI (s i)), (fun i => nI (kn i)), (fun i => nI (ad i)), (fun i => nI (r i)), D, (fun i => nI (bs i)), (fun i => nI (ba i)), BD, (fun i => nI (ce i)), (fun i => nI (pr i)), (fun i => nI (rc i))) := by
  unfold wpY_drain
  exact br_t rfl hp
def lq_dm (bs ba : Nat → Nat) (BD : Nat → Int32) (ce : Nat → Nat) (i : Nat) : Nat → Nat := fun a => if a < i then lq_mb bs ba BD ce a 1 else ce a
theorem lq_dm0 (bs ba : Nat → Nat) (BD : Nat → Int32) (ce : Nat → Nat) : lq_dm bs ba BD ce 0 = ce := by
  funext a
  exact if_neg (by omega)
theorem lq_dm1 (bs ba : Nat → Nat) (BD : Nat → Int32) (ce : Nat → Nat) (i : Nat) : lq_un (lq_dm bs ba BD ce i) i (lq_mb bs ba BD ce i 1) = lq_dm bs ba BD ce (i + 1) := by
  funext x
  unfold lq_un lq_dm
  by_cases e : x = i
  · rw [if_pos e, if_pos (by omega), e]
  · rw [if_neg e]
    by_cases z : x < i
    · rw [if_pos z, if_pos (by omega)]
    · rw [if_neg z, if_neg (by omega)]
theorem lq_dmm (bs ba : Nat → Nat) (BD : Nat → Int32) (ce : Nat → Nat) (i : Nat) : lq_mb bs ba BD (lq_dm bs ba BD ce i) i 1 = lq_mb bs ba BD ce i 1 := by
  show (if ba 0 ≤ i ∧ i < ba 0 + bs 0 then _ else lq_dm bs ba BD ce i i) = if ba 0 ≤ i ∧ i < ba 0 + bs 0 then _ else ce i
  have e : lq_dm bs ba BD ce i i = ce i := if_neg (by omega)
  rw [e]
theorem ly_drain (h : lq_XI w b m c (q + 1) k p s r kn ad A V D bs ba BV BD ce) {post : Int32 → SY → Prop} (hp : post 0 (nI w, nI b, nI m, nI c, nI q, (fun i => nI (k i)), (fun i => nI (p i)), (fun i => nI (s i)), (fun i => nI (kn i)), (fun i => nI (ad i)), (fun i => nI (r i)), D, (fun iz => nI ((lq_sh (q + 1) bs) iz)), (fun iz => nI ((lq_sh (q + 1) ba) iz)), lq_sh (q + 1) BD, (fun iz => nI (lq_mb bs ba BD ce iz 1)), (fun i => nI (pr i)), (fun i => nI (rc i)))) : wpY_drain post (nI w, nI b, nI m, nI c, nI (q + 1), (fun i => nI (k i)), (fun i => nI (p i)), (fun i => nI (s i)), (fun i => nI (kn i)), (fun i => nI (ad i)), (fun i => nI (r i)), D, (fun i => nI (bs i)), (fun i => nI (ba i)), BD, (fun i => nI (ce i)), (fun i => nI (pr i)), (fun i => nI (rc i))) := by
  obtain ⟨h1, h2, h3, h4, h5⟩ := h
  obtain ⟨w1, w2, w3⟩ := h4 0 (by omega)
  have main : ∀ d i n, i + d = m → d < n → wY_drain_12 post (nI w) (nI b) (nI m) (nI c) (nI (q + 1)) n (nI i) (fun i => nI (k i)) (fun i => nI (p i)) (fun i => nI (s i)) (fun i => nI (kn i)) (fun i => nI (ad i)) (fun i => nI (r i)) D (fun i => nI (bs i)) (fun i => nI (ba i)) BD (fun iz => nI ((lq_dm bs ba BD ce i) iz)) (fun i => nI (pr i)) (fun i => nI (rc i)) := by
    intro d
    induction d with
    | zero =>
      intro i n hi hd
      obtain ⟨n, rfl⟩ : ∃ t, n = t + 1 := ⟨n - 1, by omega⟩
      refine br_t (nI_le (by omega) (by omega)) (ly_d40 (by omega) ?_)
      have e : lq_dm bs ba BD ce i = fun iz => lq_mb bs ba BD ce iz 1 := by
        funext a
        unfold lq_dm
        by_cases z : a < i
        · rw [if_pos z]
        · rw [if_neg z]
          show ce a = if ba 0 ≤ a ∧ a < ba 0 + bs 0 then _ else ce a
          rw [if_neg (by omega)]
      rw [e]
      exact hp
    | succ d ih =>
      intro i n hi hd
      obtain ⟨n, rfl⟩ : ∃ t, n = t + 1 := ⟨n - 1, by omega⟩
      refine br_f (nI_ge (by omega) (by omega)) ?_
      refine ly_mem (j := 1) (by omega) (by omega) h4 (by omega) (by omega) ?_
      rw [nI_clamp (show i < 2 ^ 31 by omega), lq_dmm]
      refine ⟨vp_in_nI (by omega) (by omega), nm_r (e' := fun iz => nI (lq_dm bs ba BD ce (i + 1) iz)) ?_ (nm_r (nI_1 i) (ih (i + 1) n (by omega) (by omega)))⟩
      rw [← lq_dm1]
      exact lq_upd _ i _
  have l := main m 0 (m + 1) (by omega) (by omega)
  rw [lq_dm0] at l
  unfold wpY_drain
  exact br_f (nI_ne0 (by omega) (by omega)) ⟨m + 1, l⟩
theorem ly_disc {j : Nat} (hj : j < c) (hc : c ≤ 32) {post : Int32 → SY → Prop} (hp : post (nI (c - j)) (nI w, nI b, nI m, nI j, nI q, (fun i => nI (k i)), (fun i => nI (p i)), (fun i => nI (s i)), (fun i => nI (kn i)), (fun i => nI (ad i)), (fun i => nI (r i)), D, (fun i => nI (bs i)), (fun i => nI (ba i)), BD, (fun i => nI (ce i)), (fun i => nI (pr i)), (fun i => nI (rc i)))) : wpY_discard post (nI w, nI b, nI m, nI c, nI q, (fun i => nI (k i)), (fun i => nI (p i)), (fun i => nI (s i)), (fun i => nI (kn i)), (fun i => nI (ad i)), (fun i => nI (r i)), D, (fun i => nI (bs i)), (fun i => nI (ba i)), BD, (fun i => nI (ce i)), (fun i => nI (pr i)), (fun i => nI (rc i))) (nI j) := by
  unfold wpY_discard
  exact br_f (nI_pos (by omega)) (br_t (nI_lt hj (by omega)) (nm_r (pk_sub (by omega)) hp))
def lq_cp (pr : Nat → Nat) (i : Nat) : Nat → Nat := fun x => if x < i then 0 else pr x
theorem lq_cp0 (pr : Nat → Nat) : lq_cp pr 0 = pr := by
  funext x
  exact if_neg (by omega)
theorem lq_cp1 (pr : Nat → Nat) (i : Nat) : lq_un (lq_cp pr i) i 0 = lq_cp pr (i + 1) := by
  funext x
  unfold lq_un lq_cp
  by_cases e : x = i
  · rw [if_pos e, if_pos (by omega)]
  · rw [if_neg e]
    by_cases z : x < i
    · rw [if_pos z, if_pos (by omega)]
    · rw [if_neg z, if_neg (by omega)]
theorem ly_clear {post : SY → Prop} (hp : ∀ g, g = 256 → post (nI w, nI b, nI m, nI c, nI q, (fun i => nI (k i)), (fun i => nI (p i)), (fun i => nI (s i)), (fun i => nI (kn i)), (fun i => nI (ad i)), (fun i => nI (r i)), D, (fun i => nI (bs i)), (fun i => nI (ba i)), BD, (fun i => nI (ce i)), (fun iz => nI ((lq_cp pr g) iz)), (fun i => nI (rc i)))) : wpY_clearSets post (nI w, nI b, nI m, nI c, nI q, (fun i => nI (k i)), (fun i => nI (p i)), (fun i => nI (s i)), (fun i => nI (kn i)), (fun i => nI (ad i)), (fun i => nI (r i)), D, (fun i => nI (bs i)), (fun i => nI (ba i)), BD, (fun i => nI (ce i)), (fun i => nI (pr i)), (fun i => nI (rc i))) := by
  have main : ∀ d i n, i + d = 256 → d < n → wY_clearSets_2 post (nI w) (nI b) (nI m) (nI c) (nI q) n (nI i) (fun i => nI (k i)) (fun i => nI (p i)) (fun i => nI (s i)) (fun i => nI (kn i)) (fun i => nI (ad i)) (fun i => nI (r i)) D (fun i => nI (bs i)) (fun i => nI (ba i)) BD (fun i => nI (ce i)) (fun iz => nI ((lq_cp pr i) iz)) (fun i => nI (rc i)) := by
    intro d
    induction d with
    | zero =>
      intro i n hi hd
      obtain ⟨n, rfl⟩ : ∃ t, n = t + 1 := ⟨n - 1, by omega⟩
      exact br_t (by rw [show i = 256 by omega]; decide) (hp i (by omega))
    | succ d ih =>
      intro i n hi hd
      obtain ⟨n, rfl⟩ : ∃ t, n = t + 1 := ⟨n - 1, by omega⟩
      refine br_f (nI_ge (b := 256) (by omega) (by decide)) ⟨vp_in_nI (by omega) (by omega), ?_⟩
      rw [nI_clamp (show i < 2 ^ 31 by omega), lq_nb0]
      refine nm_r (e' := fun iz => nI (lq_cp pr (i + 1) iz)) ?_ (nm_r (nI_1 i) (ih (i + 1) n (by omega) (by omega)))
      rw [← lq_cp1]
      exact lq_upd _ i 0
  have l := main 256 0 257 (by omega) (by omega)
  rw [lq_cp0] at l
  unfold wpY_clearSets
  exact ⟨257, l⟩
theorem ly_init199 {post : SY → Prop} (hp : post (nI w, nI b, nI m, 0, 0, (fun _ => 0), (fun _ => 0), (fun _ => 0), (fun _ => 0), (fun _ => 0), (fun _ => 0), (fun _ => 0), (fun _ => 0), (fun _ => 0), (fun _ => 0), (fun i => nI (lq_c0 64 i)), (fun _ => 0), (fun _ => 0))) : ∃ n, wY_init_199 post (nI w) (nI b) (nI m) 0 0 n 0 (fun _ => 0) (fun _ => 0) (fun _ => 0) (fun _ => 0) (fun _ => 0) (fun _ => 0) (fun _ => 0) (fun _ => 0) (fun _ => 0) (fun _ => 0) (fun _ => 0) (fun _ => 0) (fun _ => 0) := by
  have main : ∀ d i n, i + d = 64 → d < n → wY_init_199 post (nI w) (nI b) (nI m) 0 0 n (nI i) (fun _ => 0) (fun _ => 0) (fun _ => 0) (fun _ => 0) (fun _ => 0) (fun _ => 0) (fun _ => 0) (fun _ => 0) (fun _ => 0) (fun _ => 0) (fun iz => nI (lq_c0 i iz)) (fun _ => 0) (fun _ => 0) := by
    intro d
    induction d with
    | zero =>
      intro i n hi hd
      obtain ⟨n, rfl⟩ : ∃ t, n = t + 1 := ⟨n - 1, by omega⟩
      obtain rfl : i = 64 := by omega
      exact br_t (by decide) hp
    | succ d ih =>
      intro i n hi hd
      obtain ⟨n, rfl⟩ : ∃ t, n = t + 1 := ⟨n - 1, by omega⟩
      refine br_f (nI_ge (b := 64) (by omega) (by decide)) ⟨vp_in_nI (by omega) (by omega), ?_⟩
      rw [nI_clamp (show i < 2 ^ 31 by omega), lq_c01]
      exact nm_e (nm_r (nI_1 i) (ih (i + 1) n (by omega) (by omega)))
  have l := main 64 0 65 (by omega) (by omega)
  rw [lq_c00] at l
  exact ⟨65, l⟩
theorem ly_bad {A' B' : Prop} {v : Int32} (hv : v < 0 ∨ nI c ≤ v) (a : A') : (v < 0 → A') ∧ (¬ v < 0 → ((v < nI c → B') ∧ (¬ v < nI c → A'))) := by
  refine br_c (fun _ => a) (fun h0 => br_f (fun h => ?_) a)
  rcases hv with hv | hv
  · exact h0 hv
  · exact Int32.not_lt.mpr hv h
theorem ly_addrR (h : lq_XI w b m c q k p s r kn ad A V D bs ba BV BD ce) {j : Nat} (hj : j < c) {post : Int32 → Prop} (hp : kn j = 1 → post (nI (ad j))) (hn : kn j ≠ 1 → post (-6)) : wpY_address post (nI w, nI b, nI m, nI c, nI q, (fun i => nI (k i)), (fun i => nI (p i)), (fun i => nI (s i)), (fun i => nI (kn i)), (fun i => nI (ad i)), (fun i => nI (r i)), D, (fun i => nI (bs i)), (fun i => nI (ba i)), BD, (fun i => nI (ce i)), (fun i => nI (pr i)), (fun i => nI (rc i))) (nI j) := by
  obtain ⟨h1, h2, h3, h4, h5⟩ := h
  have b1 := h2 j
  have I : vp_in (nI j) 32 := vp_in_nI (by omega) (by omega)
  unfold wpY_address
  refine br_f (nI_pos (by omega)) (br_t (nI_lt hj (by omega)) ⟨I, ?_⟩)
  rw [nI_clamp (show j < 2 ^ 31 by omega)]
  exact pk_eq (kn j) 0 (fun z => hn (by omega)) (fun z => ⟨I, hp (by omega)⟩)
theorem ly_desc (h : lq_XI w b m c q k p s r kn ad A V D bs ba BV BD ce) {j : Nat} (hj : j < c) {post : Int32 → Prop} (hp : post ((((nI (p j) * 32 + nI (s j / 2) * 8) + nI (k j) * 4) + nI (kn j) * 2) + nI (r j))) : wpY_describe post (nI w, nI b, nI m, nI c, nI q, (fun i => nI (k i)), (fun i => nI (p i)), (fun i => nI (s i)), (fun i => nI (kn i)), (fun i => nI (ad i)), (fun i => nI (r i)), D, (fun i => nI (bs i)), (fun i => nI (ba i)), BD, (fun i => nI (ce i)), (fun i => nI (pr i)), (fun i => nI (rc i))) (nI j) := by
  obtain ⟨h1, h2, h3, h4, h5⟩ := h
  obtain ⟨w1, w2, w3, w4⟩ := h3 j hj
  have b1 := h2 j
  have I : vp_in (nI j) 32 := vp_in_nI (by omega) (by omega)
  have cj : (nI j).toNatClampNeg = j := nI_clamp (by omega)
  have s58 : wY_describe_58 post (nI j) (nI (s j / 2)) (nI (kn j)) (nI w) (nI b) (nI m) (nI c) (nI q) (fun i => nI (k i)) (fun i => nI (p i)) (fun i => nI (s i)) (fun i => nI (kn i)) (fun i => nI (ad i)) (fun i => nI (r i)) D (fun i => nI (bs i)) (fun i => nI (ba i)) BD (fun i => nI (ce i)) (fun i => nI (pr i)) (fun i => nI (rc i)) := by
    unfold wY_describe_58 wY_describe_73
    rw [cj]
    refine ⟨I, pk_eq (r j) 0 (fun z => ⟨I, I, ?_⟩) (fun z => ⟨I, I, ?_⟩)⟩
    · rw [z] at hp
      exact hp
    · rw [show r j = 1 by omega] at hp
      exact hp
  have s43 : wY_describe_43 post (nI j) (nI (s j / 2)) (nI w) (nI b) (nI m) (nI c) (nI q) (fun i => nI (k i)) (fun i => nI (p i)) (fun i => nI (s i)) (fun i => nI (kn i)) (fun i => nI (ad i)) (fun i => nI (r i)) D (fun i => nI (bs i)) (fun i => nI (ba i)) BD (fun i => nI (ce i)) (fun i => nI (pr i)) (fun i => nI (rc i)) := by
    unfold wY_describe_43
    rw [cj]
    refine ⟨I, pk_eq (kn j) 0 (fun z => ?_) (fun z => ?_)⟩
    · rw [z] at s58
      exact s58
    · rw [show kn j = 1 by omega] at s58
      exact s58
  unfold wpY_describe
  refine br_f (nI_pos (by omega)) (br_t (nI_lt hj (by omega)) ⟨I, ?_⟩)
  rw [cj]
  refine pk_eq (s j) 1 (fun z => ?_) (fun z => ⟨I, pk_eq (s j) 2 (fun y => ?_) (fun y => ?_)⟩)
  · rw [show s j / 2 = 0 by omega] at s43
    exact s43
  · rw [show s j / 2 = 1 by omega] at s43
    exact s43
  · rw [show s j / 2 = 2 by omega] at s43
    exact s43
end
end
section
/-! the relation, and what is owed -/
def i_Rel (_ : Nat) (u : SX) (v : SY) : Prop := ∃ (w b m c q : Nat) (k p s r kn ad : Nat → Nat) (A : Nat → Int32) (V : Nat → Int64) (D : Nat → Int32) (bs ba : Nat → Nat) (BV : Nat → Int64) (BD : Nat → Int32) (ce : Nat → Nat) (st : Nat → Int32) (pr rc : Nat → Nat), u = (nI w, nI b, nI m, nI c, nI q, (fun i => nI (k i)), (fun i => nI (p i)), (fun i => nI (s i)), A, (fun i => nI (r i)), V, (fun i => nI (bs i)), (fun i => nI (ba i)), BV, (fun i => nI (ce i)), st) ∧ v = (nI w, nI b, nI m, nI c, nI q, (fun i => nI (k i)), (fun i => nI (p i)), (fun i => nI (s i)), (fun i => nI (kn i)), (fun i => nI (ad i)), (fun i => nI (r i)), D, (fun i => nI (bs i)), (fun i => nI (ba i)), BD, (fun i => nI (ce i)), (fun i => nI (pr i)), (fun i => nI (rc i))) ∧ lq_XI w b m c q k p s r kn ad A V D bs ba BV BD ce ∧ lq_S st pr ∧ (∀ i, pr i ≤ 1) ∧ (∀ i, rc i ≤ 1)
section
variable {w b m c q : Nat} {k p s r kn ad : Nat → Nat} {A : Nat → Int32} {V : Nat → Int64} {D : Nat → Int32} {bs ba : Nat → Nat} {BV : Nat → Int64} {BD : Nat → Int32} {ce : Nat → Nat} {st : Nat → Int32} {pr rc : Nat → Nat}
theorem lr_mk {kk : Nat} (h : lq_XI w b m c q k p s r kn ad A V D bs ba BV BD ce) (hS : lq_S st pr) (hpr : ∀ i, pr i ≤ 1) (hrc : ∀ i, rc i ≤ 1) : i_Rel kk (nI w, nI b, nI m, nI c, nI q, (fun i => nI (k i)), (fun i => nI (p i)), (fun i => nI (s i)), A, (fun i => nI (r i)), V, (fun i => nI (bs i)), (fun i => nI (ba i)), BV, (fun i => nI (ce i)), st) (nI w, nI b, nI m, nI c, nI q, (fun i => nI (k i)), (fun i => nI (p i)), (fun i => nI (s i)), (fun i => nI (kn i)), (fun i => nI (ad i)), (fun i => nI (r i)), D, (fun i => nI (bs i)), (fun i => nI (ba i)), BD, (fun i => nI (ce i)), (fun i => nI (pr i)), (fun i => nI (rc i))) := ⟨w, b, m, c, q, k, p, s, r, kn, ad, A, V, D, bs, ba, BV, BD, ce, st, pr, rc, rfl, rfl, h, hS, hpr, hrc⟩
end
theorem lr_ix (v : Int32) {n : Nat} (hn : n < 2 ^ 31) : (v < 0 ∨ nI n ≤ v) ∨ ∃ j, j < n ∧ v = nI j := by
  rcases pk_ix v hn with h | h | h
  · exact Or.inl (Or.inl h)
  · exact Or.inl (Or.inr h)
  · exact Or.inr h
theorem i_up {k : Nat} {u : SX} {v : SY} (h : i_Rel k u v) : i_Rel (k + 4) u v := h
theorem i_vc0 (k0 : Int32) (k1 : Int32) (k2 : Int32) : wpX_init (fun u => wpY_init (fun v => i_Rel 3 u v) k0 k1 k2) k0 k1 k2 := by
  obtain ⟨w, w1, w2, hw⟩ := lq_clm (lo := 4) (hi := 32) (by decide) (by decide) k0
  obtain ⟨b, b1, b2, hb⟩ := lq_clm (lo := 1) (hi := 8) (by decide) (by decide) k1
  obtain ⟨m, m1, m2, hm⟩ := lq_clm (lo := 8) (hi := 64) (by decide) (by decide) k2
  have y0 : ∀ post : SY → Prop, post (nI w, nI b, nI m, 0, 0, (fun _ => 0), (fun _ => 0), (fun _ => 0), (fun _ => 0), (fun _ => 0), (fun _ => 0), (fun _ => 0), (fun _ => 0), (fun _ => 0), (fun _ => 0), (fun i => nI (lq_c0 64 i)), (fun _ => 0), (fun _ => 0)) → wpY_init post k0 k1 k2 := by
    intro post hp
    have s1 := ly_init199 hp
    have s2 : wY_init_166 post k2 (nI b) (nI w) 0 0 0 0 (fun _ => 0) (fun _ => 0) (fun _ => 0) (fun _ => 0) (fun _ => 0) (fun _ => 0) (fun _ => 0) (fun _ => 0) (fun _ => 0) (fun _ => 0) (fun _ => 0) (fun _ => 0) (fun _ => 0) := hm (fun z => ∃ n, wY_init_199 post (nI w) (nI b) z 0 0 n 0 (fun _ => 0) (fun _ => 0) (fun _ => 0) (fun _ => 0) (fun _ => 0) (fun _ => 0) (fun _ => 0) (fun _ => 0) (fun _ => 0) (fun _ => 0) (fun _ => 0) (fun _ => 0) (fun _ => 0)) s1
    have s3 : wY_init_141 post k1 k2 (nI w) 0 0 0 0 0 (fun _ => 0) (fun _ => 0) (fun _ => 0) (fun _ => 0) (fun _ => 0) (fun _ => 0) (fun _ => 0) (fun _ => 0) (fun _ => 0) (fun _ => 0) (fun _ => 0) (fun _ => 0) (fun _ => 0) := hb (fun z => wY_init_166 post k2 z (nI w) 0 0 0 0 (fun _ => 0) (fun _ => 0) (fun _ => 0) (fun _ => 0) (fun _ => 0) (fun _ => 0) (fun _ => 0) (fun _ => 0) (fun _ => 0) (fun _ => 0) (fun _ => 0) (fun _ => 0) (fun _ => 0)) s2
    exact hw (fun z => wY_init_141 post k1 k2 z 0 0 0 0 0 (fun _ => 0) (fun _ => 0) (fun _ => 0) (fun _ => 0) (fun _ => 0) (fun _ => 0) (fun _ => 0) (fun _ => 0) (fun _ => 0) (fun _ => 0) (fun _ => 0) (fun _ => 0) (fun _ => 0)) s3
  have x0 : ∀ post : SX → Prop, post (nI w, nI b, nI m, 0, 0, (fun _ => 0), (fun _ => 0), (fun _ => 0), (fun _ => 0), (fun _ => 0), (fun _ => 0), (fun _ => 0), (fun _ => 0), (fun _ => 0), (fun i => nI (lq_c0 64 i)), lq_fp (fun _ => 0) 16) → wpX_init post k0 k1 k2 := by
    intro post hp
    have s1 := lx_init139 hp
    exact hw (fun r1 => wpX_clamp (fun r2 => wpX_clamp (fun r3 => ∃ n, wX_init_139 post r1 r2 r3 0 0 n 0 (fun _ => 0) (fun _ => 0) (fun _ => 0) (fun _ => 0) (fun _ => 0) (fun _ => 0) (fun _ => 0) (fun _ => 0) (fun _ => 0) (fun _ => 0) (fun _ => 0)) k2 8 64) k1 1 8) (hb (fun r2 => wpX_clamp (fun r3 => ∃ n, wX_init_139 post (nI w) r2 r3 0 0 n 0 (fun _ => 0) (fun _ => 0) (fun _ => 0) (fun _ => 0) (fun _ => 0) (fun _ => 0) (fun _ => 0) (fun _ => 0) (fun _ => 0) (fun _ => 0) (fun _ => 0)) k2 8 64) (hm (fun r3 => ∃ n, wX_init_139 post (nI w) (nI b) r3 0 0 n 0 (fun _ => 0) (fun _ => 0) (fun _ => 0) (fun _ => 0) (fun _ => 0) (fun _ => 0) (fun _ => 0) (fun _ => 0) (fun _ => 0) (fun _ => 0) (fun _ => 0)) s1))
  refine x0 _ (y0 _ ?_)
  have hS : lq_S (lq_fp (fun _ => 0) 16) (fun _ => 0) := lq_S0 (fun x hx => if_pos hx) (fun _ _ => rfl)
  have h : lq_XI w b m 0 0 (fun _ => 0) (fun _ => 0) (fun _ => 0) (fun _ => 0) (fun _ => 0) (fun _ => 0) (fun _ => 0) (fun _ => 0) (fun _ => 0) (fun _ => 0) (fun _ => 0) (fun _ => 0) (fun _ => 0) (lq_c0 64) := lq_XI0 (by omega) lq_c0lt
  exact lr_mk (kk := 3) (rc := fun _ => 0) h hS (fun _ => Nat.zero_le 1) (fun _ => Nat.zero_le 1)
theorem i_vc_enter {k : Nat} {u : SX} {v : SY} (I : i_Rel k u v) (hk : k + 4 ≤ 2051) (v1 : Int32) (v2 : Int32) (v3 : Int32) : wpX_enter (fun r u' => wpY_enter (fun r' v' => r' = r ∧ i_Rel (k + 4) u' v') v v1 v2 v3) u v1 v2 v3 := by
  obtain ⟨w, b, m, c, q, k, p, s, r, kn, ad, A, V, D, bs, ba, BV, BD, ce, st, pr, rc, rfl, rfl, h, hS, hpr, hrc⟩ := I
  have e := h.1
  by_cases a : v1 = 0 ∨ v1 = 1
  · rcases lr_ix v2 (n := 16) (by decide) with hv | ⟨y, hy, rfl⟩
    · exact lx_enterA a hv (ly_enterA a hv ⟨rfl, lr_mk h hS hpr hrc⟩)
    · by_cases z : v3 = 1 ∨ v3 = 2 ∨ v3 = 4
      · obtain ⟨x, hx, rfl⟩ : ∃ x, x ≤ 1 ∧ v1 = nI x := by
          rcases a with a | a
          · exact ⟨0, by omega, a⟩
          · exact ⟨1, by omega, a⟩
        obtain ⟨t, ht, rfl⟩ : ∃ t, (t = 1 ∨ t = 2 ∨ t = 4) ∧ v3 = nI t := by
          rcases z with z | z | z
          · exact ⟨1, by omega, z⟩
          · exact ⟨2, by omega, z⟩
          · exact ⟨4, by omega, z⟩
        exact lx_enter (by omega) hx hy ht (by omega) (fun f => ly_enter (by omega) hx hy ht (by omega) (fun _ => ⟨rfl, lr_mk h hS hpr hrc⟩) (fun l => absurd f (by omega))) (fun l => ly_enter (by omega) hx hy ht (by omega) (fun f => absurd l (by omega)) (fun _ => ⟨rfl, lr_mk (lq_XIenter h l hx hy ht) hS hpr hrc⟩))
      · exact lx_enterS hy a z (ly_enterS hy a z ⟨rfl, lr_mk h hS hpr hrc⟩)
  · exact lx_enterK (fun z => a (Or.inl z)) (fun z => a (Or.inr z)) (ly_enterK (fun z => a (Or.inl z)) (fun z => a (Or.inr z)) ⟨rfl, lr_mk h hS hpr hrc⟩)
theorem i_vc_setAddress {k : Nat} {u : SX} {v : SY} (I : i_Rel k u v) (hk : k + 4 ≤ 2051) (v1 : Int32) (v2 : Int32) : wpX_setAddress (fun r u' => wpY_setAddress (fun r' v' => r' = r ∧ i_Rel (k + 4) u' v') v v1 v2) u v1 v2 := by
  obtain ⟨w, b, m, c, q, k, p, s, r, kn, ad, A, V, D, bs, ba, BV, BD, ce, st, pr, rc, rfl, rfl, h, hS, hpr, hrc⟩ := I
  have e := h.1
  rcases lr_ix v1 (n := c) (by omega) with hv | ⟨j, hj, rfl⟩
  · unfold wpX_setAddress
    refine lx_npos hv (br_t rfl ?_)
    unfold wpY_setAddress
    exact ly_bad hv ⟨rfl, lr_mk h hS hpr hrc⟩
  · refine lx_addr h hj (fun zn => ?_) (fun zn hv => ?_) (fun a zn ev ha zk => ?_) (fun a zn ev ha zk => ?_)
    · exact ly_addr h hj (fun _ => ⟨rfl, lr_mk h hS hpr hrc⟩) (fun n => absurd zn n) (fun _ n => absurd zn n) (fun _ n => absurd zn n)
    · have wj := (h.2.2.1 j hj).1
      have no : ∀ a, v2 = nI a → a + s j ≤ m → False := fun a ea ha => by
        rw [ea] at hv
        rcases hv with hv | hv
        · exact nI_pos (by omega) hv
        · rw [nI_leI (by omega) (by omega)] at hv
          omega
      exact ly_addr h hj (fun n => absurd n zn) (fun _ _ => ⟨rfl, lr_mk h hS hpr hrc⟩) (fun a _ ea ha _ => (no a ea ha).elim) (fun a _ ea ha _ => (no a ea ha).elim)
    all_goals
      have wj := (h.2.2.1 j hj).1
      have no : ¬ (v2 < 0 ∨ nI (m - s j + 1) ≤ v2) := fun hv => by
        rw [ev] at hv
        rcases hv with hv | hv
        · exact nI_pos (by omega) hv
        · rw [nI_leI (by omega) (by omega)] at hv
          omega
      have eq : ∀ a', v2 = nI a' → a' + s j ≤ m → a' = a := fun a' e' h' => by
        rw [ev, nI_eq (by omega) (by omega)] at e'
        exact e'.symm
    · refine ly_addr h hj (fun n => absurd n zn) (fun _ n => absurd n no) (fun a' _ e' h' _ => ?_) (fun _ _ _ _ n => absurd n zk)
      obtain rfl := eq a' e' h'
      exact ⟨rfl, lr_mk (lq_XIaddrL h hj zk zn ha) hS hpr hrc⟩
    · refine ly_addr h hj (fun n => absurd n zn) (fun _ n => absurd n no) (fun _ _ _ _ n => absurd zk n) (fun a' _ e' h' _ => ?_)
      obtain rfl := eq a' e' h'
      exact ⟨rfl, lr_mk (lq_XIsend h zk zn ha) (lq_f_S (fun i => (h.2.1 i).2.1) (h.2.1 j).2.1 hS c) (lq_pf_le hpr c) hrc⟩
theorem i_vc_setData {k : Nat} {u : SX} {v : SY} (I : i_Rel k u v) (hk : k + 4 ≤ 2051) (v1 : Int32) (v2 : Int32) : wpX_setData (fun r u' => wpY_setData (fun r' v' => r' = r ∧ i_Rel (k + 4) u' v') v v1 v2) u v1 v2 := by
  obtain ⟨w, b, m, c, q, k, p, s, r, kn, ad, A, V, D, bs, ba, BV, BD, ce, st, pr, rc, rfl, rfl, h, hS, hpr, hrc⟩ := I
  have e := h.1
  rcases lr_ix v1 (n := c) (by omega) with hv | ⟨j, hj, rfl⟩
  · unfold wpX_setData
    refine lx_npos hv (br_t rfl ?_)
    unfold wpY_setData
    exact ly_bad hv ⟨rfl, lr_mk h hS hpr hrc⟩
  · refine lx_data h hj (fun zk => ?_) (fun zk zr => ?_) (fun zk zr => ?_)
    · exact ly_data h hj (fun _ => ⟨rfl, lr_mk h hS hpr hrc⟩) (fun n => absurd n zk) (fun n => absurd n zk)
    · exact ly_data h hj (fun n => absurd zk n) (fun _ _ => ⟨rfl, lr_mk h hS hpr hrc⟩) (fun _ n => absurd zr n)
    · exact ly_data h hj (fun n => absurd zk n) (fun _ n => absurd n zr) (fun _ _ => ⟨rfl, lr_mk (lq_XIdata h v2 zk zr) hS hpr hrc⟩)
theorem i_vc_execute {k : Nat} {u : SX} {v : SY} (I : i_Rel k u v) (hk : k + 4 ≤ 2051) (v1 : Int32) : wpX_execute (fun r u' => wpY_execute (fun r' v' => r' = r ∧ i_Rel (k + 4) u' v') v v1) u v1 := by
  obtain ⟨w, b, m, c, q, k, p, s, r, kn, ad, A, V, D, bs, ba, BV, BD, ce, st, pr, rc, rfl, rfl, h, hS, hpr, hrc⟩ := I
  have e := h.1
  rcases lr_ix v1 (n := c) (by omega) with hv | ⟨j, hj, rfl⟩
  · unfold wpX_execute
    refine lx_npos hv (br_t rfl ?_)
    unfold wpY_execute
    exact ly_bad hv ⟨rfl, lr_mk h hS hpr hrc⟩
  · obtain ⟨ans, r', V', ex⟩ := lq_EXex k p s r kn ad V D (fun a => lq_mb bs ba BD ce a q) st j
    obtain ⟨rc', hrc', l⟩ := ly_exec h hS hpr hrc hj ex
    exact lx_exec h hj ex (l _ ⟨rfl, lr_mk (lq_XIex h ex) hS hpr hrc'⟩)
theorem i_vc_executeReady {k : Nat} {u : SX} {v : SY} (I : i_Rel k u v) (hk : k + 4 ≤ 2051) : wpX_executeReady (fun r u' => wpY_executeReady (fun r' v' => r' = r ∧ i_Rel (k + 4) u' v') v) u := by
  obtain ⟨w, b, m, c, q, k, p, s, r, kn, ad, A, V, D, bs, ba, BV, BD, ce, st, pr, rc, rfl, rfl, h, hS, hpr, hrc⟩ := I
  obtain ⟨n, r', V', _, ex⟩ := lq_ERex k p s kn ad D (fun a => lq_mb bs ba BD ce a q) st c 0 r V
  obtain ⟨rc', hrc', l⟩ := ly_er h hS hpr hrc ex
  exact lx_er h ex (l _ ⟨rfl, lr_mk (lq_XIer h ex) hS hpr hrc'⟩)
theorem i_vc_commit {k : Nat} {u : SX} {v : SY} (I : i_Rel k u v) (hk : k + 4 ≤ 2051) : wpX_commit (fun r u' => wpY_commit (fun r' v' => r' = r ∧ i_Rel (k + 4) u' v') v) u := by
  obtain ⟨w, b, m, c, q, k, p, s, r, kn, ad, A, V, D, bs, ba, BV, BD, ce, st, pr, rc, rfl, rfl, h, hS, hpr, hrc⟩ := I
  have e := h.1
  cases c with
  | zero => exact lx_com0 (ly_com0 ⟨rfl, lr_mk h hS hpr hrc⟩)
  | succ c =>
    by_cases z : r 0 ≠ 1 ∨ kn 0 ≠ 1
    · exact lx_comN h z (ly_comN h z ⟨rfl, lr_mk h hS hpr hrc⟩)
    · have zr : r 0 = 1 := by omega
      have zn : kn 0 = 1 := by omega
      by_cases zk : k 0 = 1
      · exact lx_comS h zk zr zn (fun f => ly_comS h zk zr zn (fun _ => ⟨rfl, lr_mk h hS hpr hrc⟩) (fun l => absurd f (by omega))) (fun l => ly_comS h zk zr zn (fun f => absurd l (by omega)) (fun _ => ⟨rfl, lr_mk (lq_XIcommitS h zk zn zr l) hS hpr hrc⟩))
      · exact lx_comL h zk zr (ly_comL h zk zr ⟨rfl, lr_mk (lq_XIcommitL h zk) hS hpr hrc⟩)
theorem i_vc_drain {k : Nat} {u : SX} {v : SY} (I : i_Rel k u v) (hk : k + 4 ≤ 2051) : wpX_drain (fun r u' => wpY_drain (fun r' v' => r' = r ∧ i_Rel (k + 4) u' v') v) u := by
  obtain ⟨w, b, m, c, q, k, p, s, r, kn, ad, A, V, D, bs, ba, BV, BD, ce, st, pr, rc, rfl, rfl, h, hS, hpr, hrc⟩ := I
  cases q with
  | zero => exact lx_drain0 (ly_drain0 ⟨rfl, lr_mk h hS hpr hrc⟩)
  | succ q => exact lx_drain h (ly_drain h ⟨rfl, lr_mk (lq_XIdrain h) hS hpr hrc⟩)
theorem i_vc_discard {k : Nat} {u : SX} {v : SY} (I : i_Rel k u v) (hk : k + 4 ≤ 2051) (v1 : Int32) : wpX_discard (fun r u' => wpY_discard (fun r' v' => r' = r ∧ i_Rel (k + 4) u' v') v v1) u v1 := by
  obtain ⟨w, b, m, c, q, k, p, s, r, kn, ad, A, V, D, bs, ba, BV, BD, ce, st, pr, rc, rfl, rfl, h, hS, hpr, hrc⟩ := I
  have e := h.1
  rcases lr_ix v1 (n := c) (by omega) with hv | ⟨j, hj, rfl⟩
  · unfold wpX_discard
    refine lx_npos hv (br_t rfl ?_)
    unfold wpY_discard
    exact ly_bad hv ⟨rfl, lr_mk h hS hpr hrc⟩
  · exact lx_disc hj (by omega) (ly_disc hj (by omega) ⟨rfl, lr_mk (lq_XIdiscard h (by omega)) hS hpr hrc⟩)
theorem i_vc_clearSets {k : Nat} {u : SX} {v : SY} (I : i_Rel k u v) (hk : k + 4 ≤ 2051) : wpX_clearSets (fun u' => wpY_clearSets (fun v' => i_Rel (k + 4) u' v') v) u := by
  obtain ⟨w, b, m, c, q, k, p, s, r, kn, ad, A, V, D, bs, ba, BV, BD, ce, st, pr, rc, rfl, rfl, h, hS, hpr, hrc⟩ := I
  refine lx_clear (ly_clear (fun g hg => lr_mk h (lq_S0 (fun x hx => if_pos hx) (fun i hi => if_pos (by omega))) (fun i => ?_) hrc))
  unfold lq_cp
  split
  · exact Nat.zero_le 1
  · exact hpr i
theorem i_vc_count {k : Nat} {u : SX} {v : SY} (I : i_Rel k u v) (hk : k + 4 ≤ 2051) : wpX_count (fun r => wpY_count (fun r' => r' = r ∧ i_Rel (k + 4) u v) v) u := by
  obtain ⟨w, b, m, c, q, k, p, s, r, kn, ad, A, V, D, bs, ba, BV, BD, ce, st, pr, rc, rfl, rfl, h, hS, hpr, hrc⟩ := I
  exact ⟨rfl, lr_mk h hS hpr hrc⟩
theorem i_vc_pending {k : Nat} {u : SX} {v : SY} (I : i_Rel k u v) (hk : k + 4 ≤ 2051) : wpX_pending (fun r => wpY_pending (fun r' => r' = r ∧ i_Rel (k + 4) u v) v) u := by
  obtain ⟨w, b, m, c, q, k, p, s, r, kn, ad, A, V, D, bs, ba, BV, BD, ce, st, pr, rc, rfl, rfl, h, hS, hpr, hrc⟩ := I
  exact ⟨rfl, lr_mk h hS hpr hrc⟩
theorem i_vc_describe {k : Nat} {u : SX} {v : SY} (I : i_Rel k u v) (hk : k + 4 ≤ 2051) (v1 : Int32) : wpX_describe (fun r => wpY_describe (fun r' => r' = r ∧ i_Rel (k + 4) u v) v v1) u v1 := by
  obtain ⟨w, b, m, c, q, k, p, s, r, kn, ad, A, V, D, bs, ba, BV, BD, ce, st, pr, rc, rfl, rfl, h, hS, hpr, hrc⟩ := I
  have e := h.1
  rcases lr_ix v1 (n := c) (by omega) with hv | ⟨j, hj, rfl⟩
  · unfold wpX_describe
    refine lx_npos hv (br_t rfl ?_)
    unfold wpY_describe
    exact ly_bad hv ⟨rfl, lr_mk h hS hpr hrc⟩
  · exact lx_desc h hj (ly_desc h hj ⟨rfl, lr_mk h hS hpr hrc⟩)
theorem i_vc_address {k : Nat} {u : SX} {v : SY} (I : i_Rel k u v) (hk : k + 4 ≤ 2051) (v1 : Int32) : wpX_address (fun r => wpY_address (fun r' => r' = r ∧ i_Rel (k + 4) u v) v v1) u v1 := by
  obtain ⟨w, b, m, c, q, k, p, s, r, kn, ad, A, V, D, bs, ba, BV, BD, ce, st, pr, rc, rfl, rfl, h, hS, hpr, hrc⟩ := I
  have e := h.1
  rcases lr_ix v1 (n := c) (by omega) with hv | ⟨j, hj, rfl⟩
  · unfold wpX_address
    refine lx_npos hv (br_t rfl ?_)
    unfold wpY_address
    exact ly_bad hv ⟨rfl, lr_mk h hS hpr hrc⟩
  · exact lx_addrR h hj (fun z => ly_addrR h hj (fun _ => ⟨rfl, lr_mk h hS hpr hrc⟩) (fun n => absurd z n)) (fun z => ly_addrR h hj (fun n => absurd n z) (fun _ => ⟨rfl, lr_mk h hS hpr hrc⟩))
theorem i_vc_value {k : Nat} {u : SX} {v : SY} (I : i_Rel k u v) (hk : k + 4 ≤ 2051) (v1 : Int32) : wpX_value (fun r => wpY_value (fun r' => r' = r ∧ i_Rel (k + 4) u v) v v1) u v1 := by
  obtain ⟨w, b, m, c, q, k, p, s, r, kn, ad, A, V, D, bs, ba, BV, BD, ce, st, pr, rc, rfl, rfl, h, hS, hpr, hrc⟩ := I
  have e := h.1
  rcases lr_ix v1 (n := c) (by omega) with hv | ⟨j, hj, rfl⟩
  · unfold wpX_value
    refine lx_npos hv (br_t rfl ?_)
    unfold wpY_value
    exact ly_bad hv ⟨rfl, lr_mk h hS hpr hrc⟩
  · exact lx_value h hj (fun z => ly_value h hj (fun _ => ⟨rfl, lr_mk h hS hpr hrc⟩) (fun n => absurd z n)) (fun z => ly_value h hj (fun n => absurd n z) (fun _ => ⟨rfl, lr_mk h hS hpr hrc⟩))
theorem i_vc_memory {k : Nat} {u : SX} {v : SY} (I : i_Rel k u v) (hk : k + 4 ≤ 2051) (v1 : Int32) (v2 : Int32) : wpX_memory (fun r => wpY_memory (fun r' => r' = r ∧ i_Rel (k + 4) u v) v v1 v2) u v1 v2 := by
  obtain ⟨w, b, m, c, q, k, p, s, r, kn, ad, A, V, D, bs, ba, BV, BD, ce, st, pr, rc, rfl, rfl, h, hS, hpr, hrc⟩ := I
  have e := h.1
  by_cases z : v1 < 0 ∨ nI m ≤ v1 ∨ v2 < 0 ∨ ¬ v2 ≤ nI q
  · exact lx_memB z (ly_memB z ⟨rfl, lr_mk h hS hpr hrc⟩)
  · rcases lr_ix v1 (n := m) (by omega) with hv | ⟨x, hx, rfl⟩
    · exact absurd (by rcases hv with hv | hv; exact Or.inl hv; exact Or.inr (Or.inl hv)) z
    · have h0 : ¬ v2 < 0 := fun y => z (Or.inr (Or.inr (Or.inl y)))
      obtain ⟨j, hj, rfl⟩ := nI_of h0
      have hj' : j ≤ q := by
        apply Classical.byContradiction
        intro y
        exact z (Or.inr (Or.inr (Or.inr (nI_ge (by omega) hj))))
      exact lx_mem h hx hj' (ly_mem (by omega) (by omega) h.2.2.2.1 hx hj' ⟨rfl, lr_mk h hS hpr hrc⟩)
theorem i_vc_sameSet {k : Nat} {u : SX} {v : SY} (I : i_Rel k u v) (hk : k + 4 ≤ 2051) (v1 : Int32) (v2 : Int32) : wpX_sameSet (fun r => wpY_sameSet (fun r' v' => r' = r ∧ i_Rel (k + 4) u v') v v1 v2) u v1 v2 := by
  obtain ⟨w, b, m, c, q, k, p, s, r, kn, ad, A, V, D, bs, ba, BV, BD, ce, st, pr, rc, rfl, rfl, h, hS, hpr, hrc⟩ := I
  rcases lr_ix v1 (n := 16) (by decide) with hv | ⟨x, hx, rfl⟩
  · refine lx_sameB (Or.inl hv) ?_
    unfold wpY_sameSet
    refine br_c (fun _ => ⟨rfl, lr_mk h hS hpr hrc⟩) (fun h0 => br_t ?_ ⟨rfl, lr_mk h hS hpr hrc⟩)
    obtain ⟨x, hx, rfl⟩ := nI_of h0
    rcases hv with hv | hv
    · exact absurd hv h0
    · rw [nI_leI (by decide) hx] at hv
      exact nI_lt (a := 15) (by omega) hx
  · rcases lr_ix v2 (n := 16) (by decide) with hv | ⟨y, hy, rfl⟩
    · refine lx_sameB (Or.inr ⟨⟨x, hx, rfl⟩, hv⟩) ?_
      unfold wpY_sameSet
      exact br_f (nI_pos (by omega)) (br_f (nI_nlt (a := 15) (b := x) (by omega) (by decide)) (ly_npc hv ⟨rfl, lr_mk h hS hpr hrc⟩))
    · obtain ⟨rc', hrc', l⟩ := ly_same (rc := rc) hS hpr hrc hx hy
      exact lx_same hx hy (fun z => l _ _ _ _ _ _ _ _ _ _ _ _ _ _ _ _ _ (fun _ => ⟨rfl, lr_mk h hS hpr hrc'⟩) (fun n => absurd z n)) (fun z => l _ _ _ _ _ _ _ _ _ _ _ _ _ _ _ _ _ (fun n => absurd n z) (fun _ => ⟨rfl, lr_mk h hS hpr hrc'⟩))
end
