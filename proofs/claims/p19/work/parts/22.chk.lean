/-! the law's check behind each step -/
abbrev lp_J : Type := Int64 → Int64 → Int64 → Int64 → Int64 → Int32 → Int32 → Int32 → Int32 → Int32 → Int32 → Int32 → Int32 → (Nat → Int32) → (Nat → Int32) → (Nat → Int32) → (Nat → Int32) → (Nat → Int32) → (Nat → Int64) → (Nat → Int32) → (Nat → Int32) → (Nat → Int64) → (Nat → Int32) → (Nat → Int32) → Prop
def lp_LI (L : Nat) (xs : Nat → Int32) (w b c q : Nat) (k p s r kn ad : Nat → Nat) (A : Nat → Int32) (V : Nat → Int64) (D : Nat → Int32) (bs ba : Nat → Nat) (BV : Nat → Int64) (BD : Nat → Int32) (ce ids bid : Nat → Nat) : Prop :=
  lq_XI w b 8 c q k p s r kn ad A V D bs ba BV BD ce ∧ w ≤ 8 ∧ b ≤ 4 ∧ (∀ i, ids i < 65536) ∧ (∀ i, bid i < 65536) ∧ (∀ i, q ≤ i → bid i = 0) ∧
  (∀ i, i < c → k i = lp_k (lp_g L xs (ids i)) ∧ s i = lp_s (lp_g L xs (ids i)) ∧ (kn i = 1 → ad i = lp_a (lp_g L xs (ids i))) ∧ (k i = 1 → r i = 1 → D i = lp_d L xs (ids i))) ∧
  (∀ i, i < q → bs i = lp_s (lp_g L xs (bid i)) ∧ ba i = lp_a (lp_g L xs (bid i)) ∧ BD i = lp_d L xs (bid i))
section
variable {L : Nat} {xs : Nat → Int32} {w b c q n kk kc ks : Nat} {k p s r kn ad : Nat → Nat} {A : Nat → Int32} {V : Nat → Int64} {D : Nat → Int32} {bs ba : Nat → Nat} {BV : Nat → Int64} {BD : Nat → Int32} {ce : Nat → Nat} {st : Nat → Int32} {ids bid : Nat → Nat} {post : Int32 → Prop} {J : lp_J}
theorem lp_810 (hL : L ≤ 260) (h : lp_LI L xs w b c q k p s r kn ad A V D bs ba BV BD ce ids bid) {j : Nat} (hj : j ≤ q) {J8 : Int64 → Int32 → Prop} (h1 : j = q → J8 (lq_L (fun az => lq_mb bs ba BD ce az j)) (nI (j + 1))) (h2 : j < q → J8 (lq_L (fun az => lq_mb bs ba BD ce az (j + 1))) (nI (j + 1))) : ∀ d a f, a + d = 8 → d < f → wL_law_810 post L xs J J8 (nI w) (nI b) (lq_I ids) (lp_hi ids) (lq_I bid) (lq_L ce) (lq_L (fun az => lq_mb bs ba BD ce az q)) (nI c) (nI q) (nI n) (nI kk) (lq_L (fun az => lq_mb bs ba BD ce az j)) (nI j) kc ks (nI w) (nI b) (nI 8) (nI c) (nI q) (fun i => nI (k i)) (fun i => nI (p i)) (fun i => nI (s i)) A (fun i => nI (r i)) V (fun i => nI (bs i)) (fun i => nI (ba i)) BV (fun i => nI (ce i)) st f (nI a) := by
  obtain ⟨hX, hw, hb, hi, hbi, hb0, hc, hq⟩ := h
  have e0 := hX.1
  have lt : ∀ i, (fun az => lq_mb bs ba BD ce az j) i < 256 := fun i => lq_mb_lt bs ba BD ce i (hX.2.2.2.2 i) j
  intro d
  induction d with
  | zero =>
    intro a f ha hd
    obtain ⟨f, rfl⟩ : ∃ t, f = t + 1 := ⟨f - 1, by omega⟩
    refine br_t (by rw [show a = 8 by omega]; decide) (pk_le q j (fun z => nm_r (nI_1 j) (h1 (by omega))) (fun z => ?_))
    rw [show (16 : Int32) * nI j = nI (16 * j) from pk_mul 16 j, lq_I_at bid hbi (show j < 4 by omega)]
    refine nm_e (lp_gw hL (hbi j) (lp_dw hL (hbi j) (lp_ww lt _ _ (nm_r (nI_1 j) ?_))))
    obtain ⟨q1, q2, q3⟩ := hq j z
    have e : lq_wr (fun az => lq_mb bs ba BD ce az j) (lp_s (lp_g L xs (bid j))) (lp_a (lp_g L xs (bid j))) (lp_d L xs (bid j)) = fun az => lq_mb bs ba BD ce az (j + 1) := by
      funext az
      show _ = if ba j ≤ az ∧ az < ba j + bs j then lq_by (BD j) (az - ba j) else lq_mb bs ba BD ce az j
      rw [q1, q2, q3]
      rfl
    rw [e]
    exact h2 z
  | succ d ih =>
    intro a f ha hd
    obtain ⟨f, rfl⟩ : ∃ t, f = t + 1 := ⟨f - 1, by omega⟩
    refine br_f (nI_ge (b := 8) (by omega) (by decide)) (lx_mem hX (by omega) hj ?_)
    rw [show (8 : Int32) * nI a = nI (8 * a) from pk_mul 8 a, lq_L_at _ lt (by omega)]
    exact br_t rfl (nm_r (nI_1 a) (ih (a + 1) f (by omega) (by omega)))
theorem lp_chk (hL : L ≤ 260) (h : lp_LI L xs w b c q k p s r kn ad A V D bs ba BV BD ce ids bid) (hJ : J (lq_I ids) (lp_hi ids) (lq_I bid) (lq_L ce) (lq_L (fun az => lq_mb bs ba BD ce az q)) (nI c) (nI q) (nI (kk + 1)) (nI w) (nI b) (nI 8) (nI c) (nI q) (fun iz => nI (k iz)) (fun iz => nI (p iz)) (fun iz => nI (s iz)) A (fun iz => nI (r iz)) V (fun iz => nI (bs iz)) (fun iz => nI (ba iz)) BV (fun iz => nI (ce iz)) st) : wL_law_771 post L xs J (nI w) (nI b) (lq_I ids) (lp_hi ids) (lq_I bid) (lq_L ce) (lq_L (fun az => lq_mb bs ba BD ce az q)) (nI c) (nI q) (nI n) (nI kk) kc ks (nI w) (nI b) (nI 8) (nI c) (nI q) (fun i => nI (k i)) (fun i => nI (p i)) (fun i => nI (s i)) A (fun i => nI (r i)) V (fun i => nI (bs i)) (fun i => nI (ba i)) BV (fun i => nI (ce i)) st := by
  have h' := h
  obtain ⟨hX, hw, hb, hi, hbi, hb0, hc, hq⟩ := h
  have e0 := hX.1
  have main : ∀ d j f, j + d = q + 1 → d < f → wL_law_800 post L xs J (nI w) (nI b) (lq_I ids) (lp_hi ids) (lq_I bid) (lq_L ce) (lq_L (fun az => lq_mb bs ba BD ce az q)) (nI c) (nI q) (nI n) (nI kk) kc ks (nI w) (nI b) (nI 8) (nI c) (nI q) (fun i => nI (k i)) (fun i => nI (p i)) (fun i => nI (s i)) A (fun i => nI (r i)) V (fun i => nI (bs i)) (fun i => nI (ba i)) BV (fun i => nI (ce i)) st f (lq_L (fun az => lq_mb bs ba BD ce az (if j ≤ q then j else q))) (nI j) := by
    intro d
    induction d with
    | zero =>
      intro j f hj hd
      obtain ⟨f, rfl⟩ : ∃ t, f = t + 1 := ⟨f - 1, by omega⟩
      rw [if_neg (show ¬ j ≤ q by omega)]
      exact br_t (nI_lt (by omega) (by omega)) (br_t rfl (nm_r (nI_1 kk) hJ))
    | succ d ih =>
      intro j f hj hd
      obtain ⟨f, rfl⟩ : ∃ t, f = t + 1 := ⟨f - 1, by omega⟩
      have ih' := ih (j + 1) f (by omega) (by omega)
      rw [if_pos (show j ≤ q by omega)]
      refine br_f (nI_nlt (by omega) (by omega)) ⟨9, lp_810 hL h' (by omega) (fun z => ?_) (fun z => ?_) 8 0 9 (by omega) (by omega)⟩
      · rw [if_neg (show ¬ j + 1 ≤ q by omega), ← z] at ih'
        rw [← z]
        exact ih'
      · rw [if_pos (show j + 1 ≤ q by omega)] at ih'
        exact ih'
  have l := main (q + 1) 0 (q + 2) (by omega) (by omega)
  rw [if_pos (show 0 ≤ q by omega)] at l
  unfold wL_law_771
  refine br_t rfl (br_t rfl ⟨q + 2, ?_⟩)
  exact l
end
