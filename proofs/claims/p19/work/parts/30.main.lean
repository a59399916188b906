/-! the start, and what is owed -/
theorem lp_clamp {post : Int32 → Prop} {x lo hi : Nat} (h1 : lo ≤ x) (h2 : x ≤ hi) (hh : hi < 2 ^ 31) (hp : post (nI x)) : wpX_clamp post () (nI x) (nI lo) (nI hi) := br_t (nI_le h1 (by omega)) (br_t (nI_le h2 hh) hp)
theorem lp_init139 {w b mc ms kc ks : Nat} {post : St2 → Prop} (hp : post (nI w, nI b, nI 8, 0, 0, (fun _ => 0), (fun _ => 0), (fun _ => 0), (fun _ => 0), (fun _ => 0), (fun _ => 0), (fun _ => 0), (fun _ => 0), (fun _ => 0), (fun i => nI (lq_c0 64 i)), lq_fp (fun _ => 0) 16)) : ∃ n, wX_init_139 post mc ms kc ks (nI w) (nI b) (nI 8) 0 0 n 0 (fun _ => 0) (fun _ => 0) (fun _ => 0) (fun _ => 0) (fun _ => 0) (fun _ => 0) (fun _ => 0) (fun _ => 0) (fun _ => 0) (fun _ => 0) (fun _ => 0) := by
  have main : ∀ d i n, i + d = 64 → d < n → wX_init_139 post mc ms kc ks (nI w) (nI b) (nI 8) 0 0 n (nI i) (fun _ => 0) (fun _ => 0) (fun _ => 0) (fun _ => 0) (fun _ => 0) (fun _ => 0) (fun _ => 0) (fun _ => 0) (fun _ => 0) (fun iz => nI (lq_c0 i iz)) (fun _ => 0) := by
    intro d
    induction d with
    | zero =>
      intro i n hi hd
      obtain ⟨n, rfl⟩ : ∃ t, n = t + 1 := ⟨n - 1, by omega⟩
      obtain rfl : i = 64 := by omega
      exact br_t (by decide) (lx_forget (c := 0) (q := 0) (m := 8) hp)
    | succ d ih =>
      intro i n hi hd
      obtain ⟨n, rfl⟩ : ∃ t, n = t + 1 := ⟨n - 1, by omega⟩
      refine br_f (nI_ge (b := 64) (by omega) (by decide)) ⟨vp_in_nI (by omega) (by omega), ?_⟩
      rw [nI_clamp (show i < 2 ^ 31 by omega), lq_c01]
      exact nm_e (nm_r (nI_1 i) (ih (i + 1) n (by omega) (by omega)))
  have l := main 64 0 65 (by omega) (by omega)
  rw [lq_c00] at l
  exact ⟨65, l⟩
theorem lp_init {w b : Nat} (hw : 4 ≤ w ∧ w ≤ 8) (hb : 1 ≤ b ∧ b ≤ 4) {post : St2 → Prop} (hp : post (nI w, nI b, nI 8, 0, 0, (fun _ => 0), (fun _ => 0), (fun _ => 0), (fun _ => 0), (fun _ => 0), (fun _ => 0), (fun _ => 0), (fun _ => 0), (fun _ => 0), (fun i => nI (lq_c0 64 i)), lq_fp (fun _ => 0) 16)) : wpX_init post 11 296 (0, 0, 0, 0, 0) (nI w) (nI b) 8 := by
  unfold wpX_init
  refine ⟨by decide, by decide, by decide, by decide, by decide, by decide, by decide, by decide, by decide, by decide, by decide, by decide, by decide, by decide, by decide, by decide, by decide, by decide, by decide, by decide, by decide, by decide, ?_⟩
  exact lp_clamp (lo := 4) (hi := 32) (by omega) (by omega) (by decide) (lp_clamp (lo := 1) (hi := 8) (by omega) (by omega) (by decide) (lp_clamp (x := 8) (lo := 8) (hi := 64) (by omega) (by omega) (by decide) (lp_init139 hp)))
theorem lq_vor8 (f : Nat → Nat) (h : ∀ i, f i < 256) (n : Nat) (hn : n < 8) : lN (lq_vs f n) ||| (nI (f n)).toInt64 <<< ((nI (8 * n)).toInt64 &&& 63) = lN (lq_vs f (n + 1)) := by
  have h1 := h n
  have h2 := lq_vs_lt f h n
  have h3 := lq_vs_lt f h (n + 1)
  have h4 : 2 ^ (8 * (n + 1)) ≤ 2 ^ 64 := Nat.pow_le_pow_right (by decide) (by omega)
  rw [nI_l (by omega), wb_shl _ (by omega)]
  exact g_or' (k := 8 * n) rfl h2 (show lq_vs f (n + 1) < 2 ^ 64 by omega)
theorem lp_I0 : lq_I (fun _ => 0) = 0 := rfl
theorem lp_58 {L : Nat} {xs : Nat → Int32} {w b kc ks : Nat} (hL : L ≤ 260) (hw : 4 ≤ w ∧ w ≤ 8) (hb : 1 ≤ b ∧ b ≤ 4) : ∀ d i f, i + d = 8 → d < f → wL_law_58 (fun r => r = 1) L xs (nI w) (nI b) 0 0 0 kc ks (nI w) (nI b) (nI 8) 0 0 (fun _ => 0) (fun _ => 0) (fun _ => 0) (fun _ => 0) (fun _ => 0) (fun _ => 0) (fun _ => 0) (fun _ => 0) (fun _ => 0) (fun i => nI (lq_c0 64 i)) (lq_fp (fun _ => 0) 16) f (lN (lq_vs (lq_c0 64) i)) (nI i) := by
  intro d
  induction d with
  | zero =>
    intro i f hi hd
    obtain ⟨f, rfl⟩ : ∃ t, f = t + 1 := ⟨f - 1, by omega⟩
    obtain rfl : i = 8 := by omega
    refine br_t (by decide) (nm_r (pk_mul 4 L) ⟨4 * L + 45, ?_⟩)
    have hX : lq_XI w b 8 0 0 (fun _ => 0) (fun _ => 0) (fun _ => 0) (fun _ => 0) (fun _ => 0) (fun _ => 0) (fun _ => 0) (fun _ => 0) (fun _ => 0) (fun _ => 0) (fun _ => 0) (fun _ => 0) (fun _ => 0) (lq_c0 64) := lq_XI0 (by omega) lq_c0lt
    have hI : lp_LI L xs w b 0 0 (fun _ => 0) (fun _ => 0) (fun _ => 0) (fun _ => 0) (fun _ => 0) (fun _ => 0) (fun _ => 0) (fun _ => 0) (fun _ => 0) (fun _ => 0) (fun _ => 0) (fun _ => 0) (fun _ => 0) (lq_c0 64) (fun _ => 0) (fun _ => 0) := ⟨hX, hw.2, hb.2, fun _ => Nat.zero_lt_succ 65535, fun _ => Nat.zero_lt_succ 65535, fun _ _ => rfl, fun i hi => absurd hi (by omega), fun i hi => absurd hi (by omega)⟩
    have l := lp_main (kc := kc) (ks := ks) hL (n := 4 * L) (by omega) (4 * L + 44) 0 (4 * L + 45) (by omega) (by omega) 0 0 _ _ _ _ _ _ _ _ _ _ _ _ _ _ (lq_fp (fun _ => 0) 16) _ _ hI (by rw [Nat.zero_sub]; exact lp_PH0 (by omega))
    have e : lN (lq_vs (lq_c0 64) 8) = lq_L (lq_c0 64) := by
      unfold lq_L
      rw [lq_vw8]
    rw [e]
    exact l
  | succ d ih =>
    intro i f hi hd
    obtain ⟨f, rfl⟩ : ∃ t, f = t + 1 := ⟨f - 1, by omega⟩
    refine br_f (nI_ge (b := 8) (by omega) (by decide)) ?_
    have e1 : (3 : Int32) * nI i + 1 = nI (lq_c0 64 i) := by
      rw [show (3 : Int32) * nI i = nI (3 * i) from pk_mul 3 i, nI_1]
      exact congrArg nI (if_pos (show i < 64 by omega)).symm
    rw [e1, show (8 : Int32) * nI i = nI (8 * i) from pk_mul 8 i, lq_vor8 (lq_c0 64) lq_c0lt i (by omega)]
    exact nm_e (nm_r (nI_1 i) (ih (i + 1) f (by omega) (by omega)))
theorem i_vc (xs : Nat → Int32) (L : Nat) (hL : L ≤ 260) : wpL_law (fun r => r = 1) L xs := by
  unfold wpL_law
  refine lp_cellw (n := 0) hL (by omega) (lp_mixw _ _ ⟨by decide, ?_⟩)
  generalize lp_mix (lp_cell L xs 0) 77 = hh
  obtain ⟨x, hx, ex⟩ := pk_andE ((hh.toUInt32 >>> ((16 : Int32).toUInt32 &&& Int32.toUInt32 31)).toInt32) (m := 255) 8 (by decide)
  obtain ⟨y, hy, ey⟩ := pk_andE hh (m := 3) 2 (by decide)
  have e5 : nI x - nI x / 5 * 5 = nI (x % 5) := pk_rem (d := 5) (by omega) (by decide) (by decide)
  rw [ex, ey, e5]
  have x5 : x % 5 < 5 := Nat.mod_lt _ (by decide)
  refine nm_r (nI_add 4 (x % 5)) (nm_r (nI_add 1 y) ⟨11, 296, by decide, by decide, ?_⟩)
  exact lp_init (w := 4 + x % 5) (b := 1 + y) (by omega) (by omega) ⟨9, lp_58 hL (by omega) (by omega) 8 0 9 (by omega) (by omega)⟩
