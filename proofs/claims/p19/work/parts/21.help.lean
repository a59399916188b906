/-! the law's helpers -/
def lp_cell (L : Nat) (xs : Nat → Int32) (n : Nat) : Int32 := if n < L then xs n else 0
theorem lp_cellw {post : Int32 → Prop} {L : Nat} {xs : Nat → Int32} {n : Nat} (hL : L ≤ 260) (hn : n < 2 ^ 20) (hp : post (lp_cell L xs n)) : wpL_cell post L xs () (nI n) := by
  unfold lp_cell at hp
  by_cases z : n < L
  · rw [if_pos z] at hp
    refine br_f (nI_ge z (by omega)) ⟨vp_in_nI z (by omega), ?_⟩
    rw [nI_clamp (by omega)]
    exact hp
  · rw [if_neg z] at hp
    exact br_t (nI_le (by omega) (by omega)) hp
theorem lp_mixe (a b : Int32) : ∃ v : Int32, ∀ post : Int32 → Prop, post v → wpL_mix post () a b := ⟨_, fun _ hp => nm_e (nm_e (nm_e (nm_e (nm_e (nm_e hp)))))⟩
noncomputable def lp_mix (a b : Int32) : Int32 := Classical.choose (lp_mixe a b)
theorem lp_mixw (a b : Int32) {post : Int32 → Prop} (hp : post (lp_mix a b)) : wpL_mix post () a b := Classical.choose_spec (lp_mixe a b) post hp
noncomputable def lp_g (L : Nat) (xs : Nat → Int32) (id : Nat) : Int32 := lp_mix (lp_cell L xs (id / 4)) (nI id + 100003)
noncomputable def lp_d (L : Nat) (xs : Nat → Int32) (id : Nat) : Int32 := lp_mix (lp_cell L xs (id / 4)) (nI id + 200003)
theorem lp_sh2 {n : Nat} (h : n < 2 ^ 31) : nI n >>> ((2 : Int32) &&& 31) = nI (n / 4) := pk_shrN h _ 2 (by decide)
theorem lp_gw {post : Int32 → Prop} {L : Nat} {xs : Nat → Int32} {id : Nat} (hL : L ≤ 260) (hn : id < 65536) (hp : post (lp_g L xs id)) : wpL_plan post L xs () (nI id) := by
  unfold wpL_plan
  rw [lp_sh2 (by omega)]
  exact lp_cellw hL (by omega) (lp_mixw _ _ hp)
theorem lp_dw {post : Int32 → Prop} {L : Nat} {xs : Nat → Int32} {id : Nat} (hL : L ≤ 260) (hn : id < 65536) (hp : post (lp_d L xs id)) : wpL_data post L xs () (nI id) := by
  unfold wpL_data
  rw [lp_sh2 (by omega)]
  exact lp_cellw hL (by omega) (lp_mixw _ _ hp)
def lp_k (g : Int32) : Nat := g.toBitVec.toNat % 2 ^ 1
def lp_p (g : Int32) : Nat := ((g.toUInt32 >>> ((9 : Int32).toUInt32 &&& Int32.toUInt32 31)).toInt32).toBitVec.toNat % 2 ^ 4
def lp_x (g : Int32) : Nat := ((g.toUInt32 >>> ((1 : Int32).toUInt32 &&& Int32.toUInt32 31)).toInt32).toBitVec.toNat % 2 ^ 8
def lp_s (g : Int32) : Nat := 2 ^ (lp_x g % 3)
def lp_y (g : Int32) : Nat := ((g.toUInt32 >>> ((16 : Int32).toUInt32 &&& Int32.toUInt32 31)).toInt32).toBitVec.toNat % 2 ^ 10
def lp_a (g : Int32) : Nat := lp_y g % (9 - lp_s g)
theorem lp_k1 (g : Int32) : lp_k g ≤ 1 := by
  have : lp_k g < 2 ^ 1 := Nat.mod_lt _ (by decide)
  omega
theorem lp_p16 (g : Int32) : lp_p g < 16 := Nat.mod_lt _ (by decide)
theorem lp_s124 (g : Int32) : lp_s g = 1 ∨ lp_s g = 2 ∨ lp_s g = 4 := by
  unfold lp_s
  have : lp_x g % 3 < 3 := Nat.mod_lt _ (by decide)
  generalize lp_x g % 3 = t at *
  have : t = 0 ∨ t = 1 ∨ t = 2 := by omega
  rcases this with rfl | rfl | rfl
  · exact Or.inl rfl
  · exact Or.inr (Or.inl rfl)
  · exact Or.inr (Or.inr rfl)
theorem lp_as (g : Int32) : lp_a g + lp_s g ≤ 8 := by
  have h := lp_s124 g
  have h2 : lp_a g < 9 - lp_s g := Nat.mod_lt _ (by omega)
  omega
theorem lp_kw {post : Int32 → Prop} (g : Int32) (hp : post (nI (lp_k g))) : wpL_kindOf post () g := by
  unfold wpL_kindOf
  rw [pk_and g 1 (by decide)]
  exact hp
theorem lp_pw {post : Int32 → Prop} (g : Int32) (hp : post (nI (lp_p g))) : wpL_pcOf post () g := by
  unfold wpL_pcOf
  rw [pk_and _ 4 (by decide)]
  exact hp
theorem lp_1sh : ∀ t, t < 3 → (1 : Int32) <<< (nI t &&& 31) = nI (2 ^ t) := by decide +kernel
theorem lp_sw {post : Int32 → Prop} (g : Int32) (hp : post (nI (lp_s g))) : wpL_sizeOf post () g := by
  unfold wpL_sizeOf
  refine ⟨by decide, ?_⟩
  have e0 : ((g.toUInt32 >>> ((1 : Int32).toUInt32 &&& Int32.toUInt32 31)).toInt32) &&& 255 = nI (lp_x g) := pk_and _ 8 (by decide)
  have e : nI (lp_x g) - nI (lp_x g) / 3 * 3 = nI (lp_x g % 3) := pk_rem (d := 3) (by have : lp_x g < 2 ^ 8 := Nat.mod_lt _ (by decide); omega) (by decide) (by decide)
  have e2 := lp_1sh (lp_x g % 3) (Nat.mod_lt _ (by decide))
  rw [e0, e, e2]
  exact hp
theorem lp_aw {post : Int32 → Prop} (g : Int32) (hp : post (nI (lp_a g))) : wpL_addrOf post () g := by
  unfold wpL_addrOf
  refine lp_sw g ?_
  have h := lp_s124 g
  rw [show (9 : Int32) - nI (lp_s g) = nI (9 - lp_s g) from pk_sub (a := 9) (by omega)]
  refine ⟨nI_ne0 (by omega) (by omega), ?_⟩
  have e0 : ((g.toUInt32 >>> ((16 : Int32).toUInt32 &&& Int32.toUInt32 31)).toInt32) &&& 1023 = nI (lp_y g) := pk_and _ 10 (by decide)
  have e : nI (lp_y g) - nI (lp_y g) / nI (9 - lp_s g) * nI (9 - lp_s g) = nI (lp_y g % (9 - lp_s g)) := pk_rem (by have : lp_y g < 2 ^ 10 := Nat.mod_lt _ (by decide); omega) (by omega) (by omega)
  rw [e0, e]
  exact hp
theorem lp_msk {s : Nat} (h : s = 1 ∨ s = 2 ∨ s = 4) : ((1 : Int64) <<< ((8 * nI s).toInt64 &&& 63)) - 1 = lN (2 ^ (8 * s) - 1) := by
  rcases h with rfl | rfl | rfl <;> decide +kernel
theorem lp_mw {post : Int64 → Prop} (g : Int32) (hp : post (lN (2 ^ (8 * lp_s g) - 1))) : wpL_maskOf post () g := by
  unfold wpL_maskOf
  refine lp_sw g ?_
  rw [lp_msk (lp_s124 g)]
  exact hp
theorem lp_ww {post : Int64 → Prop} {f : Nat → Nat} (hf : ∀ i, f i < 256) (g d : Int32) (hp : post (lq_L (lq_wr f (lp_s g) (lp_a g) d))) : wpL_write post () (lq_L f) g d := by
  have h := lp_s124 g
  unfold wpL_write
  refine lp_aw g (nm_r (pk_mul 8 (lp_a g)) (lp_mw g (lp_mw g ?_)))
  rw [lq_L_wr f hf d (by omega) (lp_as g) (by omega)]
  exact hp
theorem lq_vw8 (f : Nat → Nat) : ∀ n, lq_vw 8 f n = lq_vs f n
  | 0 => rfl
  | n + 1 => by
    show lq_vw 8 f n + _ = lq_vs f n + _
    rw [lq_vw8 f n]
theorem lp_rw {post : Int64 → Prop} {f : Nat → Nat} (hf : ∀ i, f i < 256) (g : Int32) (hp : post (lN (lq_vs (fun i => f (lp_a g + i)) (lp_s g)))) : wpL_read post () (lq_L f) g := by
  have h := lp_s124 g
  unfold wpL_read
  refine lp_aw g (lp_mw g ?_)
  rw [show (8 : Int32) * nI (lp_a g) = nI (8 * lp_a g) from pk_mul 8 _, lq_L_rd f hf (by omega) (lp_as g) (by omega), lq_vw8]
  exact hp
def lp_hi (ids : Nat → Nat) : Int64 := lq_I (fun i => ids (4 + i))
theorem lp_id {post : Int32 → Prop} {ids : Nat → Nat} (h : ∀ i, ids i < 65536) {j : Nat} (hj : j < 8) (hp : post (nI (ids j))) : wpL_idAt post () (lq_I ids) (lp_hi ids) (nI j) := by
  unfold wpL_idAt
  refine pk_le 4 j (fun z => ?_) (fun z => ?_)
  · have e := lq_I_at (fun i => ids (4 + i)) (fun i => h (4 + i)) (i := j - 4) (by omega)
    rw [show (16 : Int32) * (nI j - 4) = nI (16 * (j - 4)) by
      rw [show nI j - 4 = nI (j - 4) from pk_sub (b := 4) z]
      exact pk_mul 16 _]
    unfold lp_hi
    rw [e, show 4 + (j - 4) = j by omega]
    exact hp
  · rw [show (16 : Int32) * nI j = nI (16 * j) from pk_mul 16 j, lq_I_at ids h z]
    exact hp
