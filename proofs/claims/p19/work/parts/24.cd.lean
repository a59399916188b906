/-! the law's commit and drain -/
section
variable {L : Nat} {xs : Nat → Int32} {w b c q n kk kc ks : Nat} {k p s r kn ad : Nat → Nat} {A : Nat → Int32} {V : Nat → Int64} {D : Nat → Int32} {bs ba : Nat → Nat} {BV : Nat → Int64} {BD : Nat → Int32} {ce : Nat → Nat} {st : Nat → Int32} {ids bid : Nat → Nat} {post : Int32 → Prop} {J : lp_J}
def lp_nx (ids : Nat → Nat) : Nat → Nat := fun i => if i < 7 then ids (i + 1) else 0
theorem lp_nxlt {ids : Nat → Nat} (h : ∀ i, ids i < 65536) (i : Nat) : lp_nx ids i < 65536 := by
  unfold lp_nx
  split
  · exact h _
  · omega
theorem lp_653 (hL : L ≤ 260) (hi : ∀ i, ids i < 65536) (hI : lp_LI L xs w b c q k p s r kn ad A V D bs ba BV BD ce (lp_nx ids) bid) (hJ : J (lq_I (lp_nx ids)) (lp_hi (lp_nx ids)) (lq_I bid) (lq_L ce) (lq_L (fun az => lq_mb bs ba BD ce az q)) (nI c) (nI q) (nI (kk + 1)) (nI w) (nI b) (nI 8) (nI c) (nI q) (fun iz => nI (k iz)) (fun iz => nI (p iz)) (fun iz => nI (s iz)) A (fun iz => nI (r iz)) V (fun iz => nI (bs iz)) (fun iz => nI (ba iz)) BV (fun iz => nI (ce iz)) st) : wL_law_653 post L xs J (nI w) (nI b) (lq_I ids) (lp_hi ids) (lq_I bid) (lq_L ce) (lq_L (fun az => lq_mb bs ba BD ce az q)) (nI (c + 1)) (nI q) (nI n) (nI kk) kc ks (nI w) (nI b) (nI 8) (nI c) (nI q) (fun i => nI (k i)) (fun i => nI (p i)) (fun i => nI (s i)) A (fun i => nI (r i)) V (fun i => nI (bs i)) (fun i => nI (ba i)) BV (fun i => nI (ce i)) st := by
  unfold wL_law_653 wL_law_676
  have e1 : ((lq_I ids).toUInt64 >>> ((16 : Int32).toInt64.toUInt64 &&& Int64.toUInt64 63)).toInt64 ||| (lp_hi ids <<< ((48 : Int32).toInt64 &&& 63)) = lq_I (lp_nx ids) := by
    unfold lp_hi
    rw [lq_I_next ids (fun i => ids (4 + i)) hi (fun i => hi (4 + i))]
    refine lp_I_cong (fun i h4 => ?_)
    unfold lp_nx
    rw [if_pos (show i < 7 by omega)]
    by_cases z : i < 3
    · rw [if_pos z]
    · rw [if_neg z, show i = 3 by omega]
  have e2 : ((lp_hi ids).toUInt64 >>> ((16 : Int32).toInt64.toUInt64 &&& Int64.toUInt64 63)).toInt64 = lp_hi (lp_nx ids) := by
    unfold lp_hi
    rw [lq_I_shr (fun i => ids (4 + i)) (fun i => hi (4 + i))]
    refine lp_I_cong (fun i h4 => ?_)
    unfold lp_nx
    by_cases z : i < 3
    · rw [if_pos z, if_pos (by omega)]
      rfl
    · rw [if_neg z, if_neg (by omega)]
  exact nm_r e1 (nm_r e2 (nm_r (pk_m1 c) (lp_chk hL hI hJ)))
theorem lp_com0 (hL : L ≤ 260) (h : lp_LI L xs w b 0 q k p s r kn ad A V D bs ba BV BD ce ids bid) (hJ : J (lq_I ids) (lp_hi ids) (lq_I bid) (lq_L ce) (lq_L (fun az => lq_mb bs ba BD ce az q)) (nI 0) (nI q) (nI (kk + 1)) (nI w) (nI b) (nI 8) (nI 0) (nI q) (fun iz => nI (k iz)) (fun iz => nI (p iz)) (fun iz => nI (s iz)) A (fun iz => nI (r iz)) V (fun iz => nI (bs iz)) (fun iz => nI (ba iz)) BV (fun iz => nI (ce iz)) st) {x22 : Int32} : wL_law_282 post L xs J (nI w) (nI b) (lq_I ids) (lp_hi ids) (lq_I bid) (lq_L ce) (lq_L (fun az => lq_mb bs ba BD ce az q)) (nI 0) (nI q) (nI n) (nI kk) 5 x22 kc ks (nI w) (nI b) (nI 8) (nI 0) (nI q) (fun i => nI (k i)) (fun i => nI (p i)) (fun i => nI (s i)) A (fun i => nI (r i)) V (fun i => nI (bs i)) (fun i => nI (ba i)) BV (fun i => nI (ce i)) st := by
  unfold wL_law_282 wL_law_676
  refine br_f (by decide) (br_f (by decide) (br_f (by decide) (br_f (by decide) (br_f (by decide) (br_t rfl (lx_com0 (br_f (by decide) (br_f (by decide) ?_))))))))
  exact lp_chk hL h hJ
theorem lp_com (hL : L ≤ 260) (h : lp_LI L xs w b (c + 1) q k p s r kn ad A V D bs ba BV BD ce ids bid) (h0 : r 0 ≠ 1 ∨ kn 0 ≠ 1 ∨ (k 0 = 1 ∧ q = b) → J (lq_I ids) (lp_hi ids) (lq_I bid) (lq_L ce) (lq_L (fun az => lq_mb bs ba BD ce az q)) (nI (c + 1)) (nI q) (nI (kk + 1)) (nI w) (nI b) (nI 8) (nI (c + 1)) (nI q) (fun iz => nI (k iz)) (fun iz => nI (p iz)) (fun iz => nI (s iz)) A (fun iz => nI (r iz)) V (fun iz => nI (bs iz)) (fun iz => nI (ba iz)) BV (fun iz => nI (ce iz)) st)
    (hl : k 0 ≠ 1 → r 0 = 1 → lp_LI L xs w b c q (lq_sh (c + 1) k) (lq_sh (c + 1) p) (lq_sh (c + 1) s) (lq_sh (c + 1) r) (lq_sh (c + 1) kn) (lq_sh (c + 1) ad) (lq_sh (c + 1) A) (lq_sh (c + 1) V) (lq_sh (c + 1) D) bs ba BV BD ce (lp_nx ids) bid → J (lq_I (lp_nx ids)) (lp_hi (lp_nx ids)) (lq_I bid) (lq_L ce) (lq_L (fun az => lq_mb bs ba BD ce az q)) (nI c) (nI q) (nI (kk + 1)) (nI w) (nI b) (nI 8) (nI c) (nI q) (fun iz => nI ((lq_sh (c + 1) k) iz)) (fun iz => nI ((lq_sh (c + 1) p) iz)) (fun iz => nI ((lq_sh (c + 1) s) iz)) (lq_sh (c + 1) A) (fun iz => nI ((lq_sh (c + 1) r) iz)) (lq_sh (c + 1) V) (fun iz => nI (bs iz)) (fun iz => nI (ba iz)) BV (fun iz => nI (ce iz)) st)
    (hs : k 0 = 1 → r 0 = 1 → kn 0 = 1 → q < b → lp_LI L xs w b c (q + 1) (lq_sh (c + 1) k) (lq_sh (c + 1) p) (lq_sh (c + 1) s) (lq_sh (c + 1) r) (lq_sh (c + 1) kn) (lq_sh (c + 1) ad) (lq_sh (c + 1) A) (lq_sh (c + 1) V) (lq_sh (c + 1) D) (lq_un bs q (s 0)) (lq_un ba q (ad 0)) (vp_updL BV q (V 0)) (upd BD q (D 0)) ce (lp_nx ids) (lq_un bid q (ids 0)) → J (lq_I (lp_nx ids)) (lp_hi (lp_nx ids)) (lq_I (lq_un bid q (ids 0))) (lq_L ce) (lq_L (fun az => lq_mb (lq_un bs q (s 0)) (lq_un ba q (ad 0)) (upd BD q (D 0)) ce az (q + 1))) (nI c) (nI (q + 1)) (nI (kk + 1)) (nI w) (nI b) (nI 8) (nI c) (nI (q + 1)) (fun iz => nI ((lq_sh (c + 1) k) iz)) (fun iz => nI ((lq_sh (c + 1) p) iz)) (fun iz => nI ((lq_sh (c + 1) s) iz)) (lq_sh (c + 1) A) (fun iz => nI ((lq_sh (c + 1) r) iz)) (lq_sh (c + 1) V) (fun iz => nI ((lq_un bs q (s 0)) iz)) (fun iz => nI ((lq_un ba q (ad 0)) iz)) (vp_updL BV q (V 0)) (fun iz => nI (ce iz)) st) {x22 : Int32} : wL_law_282 post L xs J (nI w) (nI b) (lq_I ids) (lp_hi ids) (lq_I bid) (lq_L ce) (lq_L (fun az => lq_mb bs ba BD ce az q)) (nI (c + 1)) (nI q) (nI n) (nI kk) 5 x22 kc ks (nI w) (nI b) (nI 8) (nI (c + 1)) (nI q) (fun i => nI (k i)) (fun i => nI (p i)) (fun i => nI (s i)) A (fun i => nI (r i)) V (fun i => nI (bs i)) (fun i => nI (ba i)) BV (fun i => nI (ce i)) st := by
  have h' := h
  obtain ⟨hX, hw, hb, hi, hbi, hb0, hc, hq⟩ := h
  have e0 := hX.1
  obtain ⟨c1, c2, c3, c4⟩ := hc 0 (by omega)
  obtain ⟨w1, w2, w3, w4⟩ := hX.2.2.1 0 (by omega)
  have shc : ∀ i, i < c → lq_sh (c + 1) k i = lp_k (lp_g L xs (lp_nx ids i)) ∧ lq_sh (c + 1) s i = lp_s (lp_g L xs (lp_nx ids i)) ∧ (lq_sh (c + 1) kn i = 1 → lq_sh (c + 1) ad i = lp_a (lp_g L xs (lp_nx ids i))) ∧ (lq_sh (c + 1) k i = 1 → lq_sh (c + 1) r i = 1 → lq_sh (c + 1) D i = lp_d L xs (lp_nx ids i)) := fun i hi' => by
    have e : lp_nx ids i = ids (i + 1) := if_pos (by omega)
    rw [e, lq_shi k (by omega), lq_shi s (by omega), lq_shi kn (by omega), lq_shi ad (by omega), lq_shi r (by omega), lq_shi D (by omega)]
    exact hc (i + 1) (by omega)
  have cn : ¬ nI (c + 1) = 0 := nI_ne0 (by omega) (by omega)
  unfold wL_law_282
  refine br_f (by decide) (br_f (by decide) (br_f (by decide) (br_f (by decide) (br_f (by decide) (br_t rfl ?_)))))
  by_cases z : r 0 ≠ 1 ∨ kn 0 ≠ 1
  · refine lx_comN hX z (br_f (by decide) (br_f (by decide) ?_))
    unfold wL_law_676
    exact lp_chk hL h' (h0 (by rcases z with z | z; exact Or.inl z; exact Or.inr (Or.inl z)))
  · have zr : r 0 = 1 := by omega
    have zn : kn 0 = 1 := by omega
    by_cases zk : k 0 = 1
    · refine lx_comS hX zk zr zn (fun f => br_f (by decide) (br_f (by decide) ?_)) (fun l => br_f (by decide) (br_t rfl ?_))
      · unfold wL_law_676
        exact lp_chk hL h' (h0 (Or.inr (Or.inr ⟨zk, f⟩)))
      · unfold wL_law_536
        refine br_f cn (lp_id (j := 0) hi (by omega) (lp_gw hL (hi 0) (br_t (by decide) ?_)))
        unfold wL_law_573
        refine lp_kw _ (br_f ?_ ?_)
        · rw [← c1, zk]
          decide
        · unfold wL_law_586
          have lt : ∀ i, (fun az => lq_mb bs ba BD ce az q) i < 256 := fun i => lq_mb_lt bs ba BD ce i (hX.2.2.2.2 i) q
          refine br_t rfl (br_t (by decide) (br_t (nI_lt l (by omega)) (lp_dw hL (hi 0) (lp_ww lt _ _ ?_))))
          have X' := lq_XIcommitS hX zk zn zr l
          have LI' : lp_LI L xs w b c (q + 1) (lq_sh (c + 1) k) (lq_sh (c + 1) p) (lq_sh (c + 1) s) (lq_sh (c + 1) r) (lq_sh (c + 1) kn) (lq_sh (c + 1) ad) (lq_sh (c + 1) A) (lq_sh (c + 1) V) (lq_sh (c + 1) D) (lq_un bs q (s 0)) (lq_un ba q (ad 0)) (vp_updL BV q (V 0)) (upd BD q (D 0)) ce (lp_nx ids) (lq_un bid q (ids 0)) := by
            refine ⟨X', hw, hb, lp_nxlt hi, lq_unp (P := fun y => y < 65536) hbi (hi 0), fun i hi' => ?_, shc, fun i hi' => ?_⟩
            · rw [lq_ui (by omega)]
              exact hb0 i (by omega)
            · by_cases e : i = q
              · subst e
                rw [lq_us, lq_us, lq_us, pk_us]
                exact ⟨c2, c3 zn, c4 zk zr⟩
              · rw [lq_ui e, lq_ui e, lq_ui e, pk_un e]
                exact hq i (by omega)
          have ear : lq_wr (fun az => lq_mb bs ba BD ce az q) (lp_s (lp_g L xs (ids 0))) (lp_a (lp_g L xs (ids 0))) (lp_d L xs (ids 0)) = fun az => lq_mb (lq_un bs q (s 0)) (lq_un ba q (ad 0)) (upd BD q (D 0)) ce az (q + 1) := by
            funext az
            show _ = if lq_un ba q (ad 0) q ≤ az ∧ az < lq_un ba q (ad 0) q + lq_un bs q (s 0) q then lq_by (upd BD q (D 0) q) (az - lq_un ba q (ad 0) q) else lq_mb (lq_un bs q (s 0)) (lq_un ba q (ad 0)) (upd BD q (D 0)) ce az q
            rw [lq_us, lq_us, pk_us, c2, c3 zn, c4 zk zr]
            have e : lq_mb (lq_un bs q (lp_s (lp_g L xs (ids 0)))) (lq_un ba q (lp_a (lp_g L xs (ids 0)))) (upd BD q (lp_d L xs (ids 0))) ce az q = lq_mb bs ba BD ce az q := lq_mb_cong q (fun i hi => ⟨lq_ui (by omega), lq_ui (by omega), pk_un (by omega)⟩)
            rw [e]
            rfl
          rw [ear, show (16 : Int32) * nI q = nI (16 * q) from pk_mul 16 q]
          refine nm_r (lq_I_or bid hbi (i := q) (x := ids 0) (by omega) (hi 0) (hb0 q (Nat.le_refl _))) (nm_r (nI_1 q) ?_)
          exact lp_653 hL hi LI' (hs zk zr zn l LI')
    · have X' := lq_XIcommitL hX zk
      have LI' : lp_LI L xs w b c q (lq_sh (c + 1) k) (lq_sh (c + 1) p) (lq_sh (c + 1) s) (lq_sh (c + 1) r) (lq_sh (c + 1) kn) (lq_sh (c + 1) ad) (lq_sh (c + 1) A) (lq_sh (c + 1) V) (lq_sh (c + 1) D) bs ba BV BD ce (lp_nx ids) bid := ⟨X', hw, hb, lp_nxlt hi, hbi, hb0, shc, hq⟩
      have v0 := ((w4 zr).2 zk).2.1
      have lt : ∀ i, (fun az => lq_mb bs ba BD ce az q) i < 256 := fun i => lq_mb_lt bs ba BD ce i (hX.2.2.2.2 i) q
      have v1 : V 0 = lN (lq_vs (fun i => (fun az => lq_mb bs ba BD ce az q) (lp_a (lp_g L xs (ids 0)) + i)) (lp_s (lp_g L xs (ids 0)))) := by
        rw [v0, c3 zn, c2]
        rfl
      have vlt := lq_vs_lt (fun i => (fun az => lq_mb bs ba BD ce az q) (lp_a (lp_g L xs (ids 0)) + i)) (fun i => lt _) (lp_s (lp_g L xs (ids 0)))
      have s4 := lp_s124 (lp_g L xs (ids 0))
      have v32 : 2 ^ (8 * lp_s (lp_g L xs (ids 0))) ≤ 2 ^ 32 := Nat.pow_le_pow_right (by decide) (by omega)
      have pos : (0 : Int64) ≤ V 0 := by
        rw [v1]
        exact (pk_lLE (a := 0) (by decide) (by omega)).mpr (Nat.zero_le _)
      have npos : ¬ V 0 < 0 := Int64.not_lt.mpr pos
      refine lx_comL hX zk zr (br_t pos ?_)
      unfold wL_law_536
      refine br_f cn (lp_id (j := 0) hi (by omega) (lp_gw hL (hi 0) (br_f npos ?_)))
      unfold wL_law_573
      refine lp_kw _ (br_t ?_ ?_)
      · rw [← c1, show k 0 = 0 by have := (hX.2.1 0).1; omega]
        rfl
      · unfold wL_law_586
        refine br_t rfl (br_f npos (lp_rw lt _ (br_t v1 ?_)))
        exact lp_653 hL hi LI' (hl zk zr LI')
theorem lp_dr0 (hL : L ≤ 260) (h : lp_LI L xs w b c 0 k p s r kn ad A V D bs ba BV BD ce ids bid) (hJ : J (lq_I ids) (lp_hi ids) (lq_I bid) (lq_L ce) (lq_L (fun az => lq_mb bs ba BD ce az 0)) (nI c) (nI 0) (nI (kk + 1)) (nI w) (nI b) (nI 8) (nI c) (nI 0) (fun iz => nI (k iz)) (fun iz => nI (p iz)) (fun iz => nI (s iz)) A (fun iz => nI (r iz)) V (fun iz => nI (bs iz)) (fun iz => nI (ba iz)) BV (fun iz => nI (ce iz)) st) {x22 : Int32} : wL_law_282 post L xs J (nI w) (nI b) (lq_I ids) (lp_hi ids) (lq_I bid) (lq_L ce) (lq_L (fun az => lq_mb bs ba BD ce az 0)) (nI c) (nI 0) (nI n) (nI kk) 6 x22 kc ks (nI w) (nI b) (nI 8) (nI c) (nI 0) (fun i => nI (k i)) (fun i => nI (p i)) (fun i => nI (s i)) A (fun i => nI (r i)) V (fun i => nI (bs i)) (fun i => nI (ba i)) BV (fun i => nI (ce i)) st := by
  unfold wL_law_282
  refine br_f (by decide) (br_f (by decide) (br_f (by decide) (br_f (by decide) (br_f (by decide) (br_f (by decide) (br_t rfl (lx_drain0 (br_f (by decide) ?_))))))))
  exact lp_chk hL h hJ
def lp_nb (bid : Nat → Nat) : Nat → Nat := fun i => if i < 3 then bid (i + 1) else 0
theorem lp_dr (hL : L ≤ 260) (h : lp_LI L xs w b c (q + 1) k p s r kn ad A V D bs ba BV BD ce ids bid) (hJ : lp_LI L xs w b c q k p s r kn ad A V D (lq_sh (q + 1) bs) (lq_sh (q + 1) ba) (lq_sh (q + 1) BV) (lq_sh (q + 1) BD) (fun a => lq_mb bs ba BD ce a 1) ids (lp_nb bid) → J (lq_I ids) (lp_hi ids) (lq_I (lp_nb bid)) (lq_L (fun a => lq_mb bs ba BD ce a 1)) (lq_L (fun az => lq_mb (lq_sh (q + 1) bs) (lq_sh (q + 1) ba) (lq_sh (q + 1) BD) (fun a => lq_mb bs ba BD ce a 1) az q)) (nI c) (nI q) (nI (kk + 1)) (nI w) (nI b) (nI 8) (nI c) (nI q) (fun iz => nI (k iz)) (fun iz => nI (p iz)) (fun iz => nI (s iz)) A (fun iz => nI (r iz)) V (fun iz => nI ((lq_sh (q + 1) bs) iz)) (fun iz => nI ((lq_sh (q + 1) ba) iz)) (lq_sh (q + 1) BV) (fun iz => nI ((fun a => lq_mb bs ba BD ce a 1) iz)) st) {x22 : Int32} : wL_law_282 post L xs J (nI w) (nI b) (lq_I ids) (lp_hi ids) (lq_I bid) (lq_L ce) (lq_L (fun az => lq_mb bs ba BD ce az (q + 1))) (nI c) (nI (q + 1)) (nI n) (nI kk) 6 x22 kc ks (nI w) (nI b) (nI 8) (nI c) (nI (q + 1)) (fun i => nI (k i)) (fun i => nI (p i)) (fun i => nI (s i)) A (fun i => nI (r i)) V (fun i => nI (bs i)) (fun i => nI (ba i)) BV (fun i => nI (ce i)) st := by
  have h' := h
  obtain ⟨hX, hw, hb, hi, hbi, hb0, hc, hq⟩ := h
  have e0 := hX.1
  obtain ⟨q1, q2, q3⟩ := hq 0 (by omega)
  unfold wL_law_282
  refine br_f (by decide) (br_f (by decide) (br_f (by decide) (br_f (by decide) (br_f (by decide) (br_f (by decide) (br_t rfl (lx_drain hX (br_t rfl (br_f (nI_ne0 (by omega) (by omega)) ?_)))))))))
  have LI' : lp_LI L xs w b c q k p s r kn ad A V D (lq_sh (q + 1) bs) (lq_sh (q + 1) ba) (lq_sh (q + 1) BV) (lq_sh (q + 1) BD) (fun a => lq_mb bs ba BD ce a 1) ids (lp_nb bid) := by
    refine ⟨lq_XIdrain hX, hw, hb, hi, fun i => ?_, fun i hi' => ?_, hc, fun i hi' => ?_⟩
    · unfold lp_nb
      split
      · exact hbi _
      · omega
    · unfold lp_nb
      split
      · exact hb0 _ (by omega)
      · rfl
    · have e : lp_nb bid i = bid (i + 1) := if_pos (by omega)
      rw [e, lq_shi bs (by omega), lq_shi ba (by omega), lq_shi BD (by omega)]
      exact hq (i + 1) (by omega)
  have ear : (fun az => lq_mb bs ba BD ce az (q + 1)) = fun az => lq_mb (lq_sh (q + 1) bs) (lq_sh (q + 1) ba) (lq_sh (q + 1) BD) (fun a => lq_mb bs ba BD ce a 1) az q := by
    funext az
    exact (lq_mb_shift (ce' := fun a => lq_mb bs ba BD ce a 1) rfl q (fun i hi => ⟨lq_shi _ (by omega), lq_shi _ (by omega), lq_shi _ (by omega)⟩)).symm
  have ebs : lq_wr ce (lp_s (lp_g L xs (bid 0))) (lp_a (lp_g L xs (bid 0))) (lp_d L xs (bid 0)) = fun a => lq_mb bs ba BD ce a 1 := by
    funext az
    show _ = if ba 0 ≤ az ∧ az < ba 0 + bs 0 then lq_by (BD 0) (az - ba 0) else ce az
    rw [q1, q2, q3]
    rfl
  have hJ' := hJ LI'
  rw [← ear] at hJ'
  rw [lq_I_0 bid hbi]
  refine nm_e (lp_gw hL (hbi 0) (lp_dw hL (hbi 0) (lp_ww hX.2.2.2.2 _ _ ?_)))
  rw [ebs]
  refine nm_r (lq_I_shr bid hbi) (nm_r (pk_m1 q) ?_)
  rw [ear] at hJ' ⊢
  exact lp_chk hL LI' hJ'
end
