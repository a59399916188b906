/-! the class: commit, drain, the sets forgotten, the start, the readers -/
section
variable {w b m c q : Nat} {k p s r kn ad : Nat → Nat} {A : Nat → Int32} {V : Nat → Int64} {D : Nat → Int32} {bs ba : Nat → Nat} {BV : Nat → Int64} {BD : Nat → Int32} {ce : Nat → Nat} {st : Nat → Int32}
theorem lq_shx (i : Nat) (a : Nat → Int32) : upd (lq_sh (i + 1) a) i (lq_sh (i + 1) a (i + 1)) = lq_sh (i + 1 + 1) a := by rw [lq_shv]; exact lq_shu i a
theorem lq_shy (i : Nat) (a : Nat → Int64) : vp_updL (lq_sh (i + 1) a) i (lq_sh (i + 1) a (i + 1)) = lq_sh (i + 1 + 1) a := by rw [lq_shv]; exact lq_shL i a
theorem lq_shb (i : Nat) {f : Nat → Nat} (h : ∀ i, f i ≤ 1) : upd (lq_sh (i + 1) (fun i => nI (f i))) i (vp_nar .boolean (lq_sh (i + 1) (fun i => nI (f i)) (i + 1))) = lq_sh (i + 1 + 1) (fun i => nI (f i)) := by
  rw [lq_shv, lq_nb (h _)]
  exact lq_shu i (fun i => nI (f i))
theorem lx_shw {post : St2 → Prop} {BS BA : Nat → Int32} (hc : c < 32) (hr : ∀ i, r i ≤ 1) (hp : post (nI w, nI b, nI m, nI c, nI q, (fun iz => nI ((lq_sh (c + 1) k) iz)), (fun iz => nI ((lq_sh (c + 1) p) iz)), (fun iz => nI ((lq_sh (c + 1) s) iz)), lq_sh (c + 1) A, (fun iz => nI ((lq_sh (c + 1) r) iz)), lq_sh (c + 1) V, BS, BA, BV, (fun i => nI (ce i)), st)) : wpX_removeOldestFromWindow post (nI w, nI b, nI m, nI (c + 1), nI q, (fun i => nI (k i)), (fun i => nI (p i)), (fun i => nI (s i)), A, (fun i => nI (r i)), V, BS, BA, BV, (fun i => nI (ce i)), st) := by
  have main : ∀ d i n, i + d = c → d < n → wX_removeOldestFromWindow_2 post (nI w) (nI b) (nI m) (nI (c + 1)) (nI q) n (nI (i + 1)) (lq_sh (i + 1) (fun i => nI (k i))) (lq_sh (i + 1) (fun i => nI (p i))) (lq_sh (i + 1) (fun i => nI (s i))) (lq_sh (i + 1) A) (lq_sh (i + 1) (fun i => nI (r i))) (lq_sh (i + 1) V) BS BA BV (fun i => nI (ce i)) st := by
    intro d
    induction d with
    | zero =>
      intro i n hi hd
      obtain ⟨n, rfl⟩ : ∃ t, n = t + 1 := ⟨n - 1, by omega⟩
      obtain rfl : i = c := by omega
      rw [← lq_shn, ← lq_shn, ← lq_shn, ← lq_shn] at hp
      exact br_t (nI_le (Nat.le_refl _) (by omega)) (nm_r (nI_pred i) hp)
    | succ d ih =>
      intro i n hi hd
      obtain ⟨n, rfl⟩ : ∃ t, n = t + 1 := ⟨n - 1, by omega⟩
      have I : vp_in (nI i) 32 := vp_in_nI (by omega) (by omega)
      have I1 : vp_in (nI (i + 1)) 32 := vp_in_nI (by omega) (by omega)
      refine br_f (nI_ge (by omega) (by omega)) ?_
      rw [nI_pred i, nI_clamp (show i + 1 < 2 ^ 31 by omega), nI_clamp (show i < 2 ^ 31 by omega)]
      exact ⟨I1, I, nm_r (lq_shx i _) ⟨I1, I, nm_r (lq_shx i _) ⟨I1, I, nm_r (lq_shx i _) ⟨I1, I, nm_r (lq_shx i _) ⟨I1, I, nm_r (lq_shb i hr) ⟨I1, I, nm_r (lq_shy i _) (nm_r (nI_1 (i + 1)) (ih (i + 1) n (by omega) (by omega)))⟩⟩⟩⟩⟩⟩
  have l := main c 0 (c + 1) (by omega) (by omega)
  rw [Nat.zero_add, lq_sh1, lq_sh1, lq_sh1, lq_sh1, lq_sh1, lq_sh1] at l
  unfold wpX_removeOldestFromWindow
  exact ⟨c + 1, l⟩
theorem lx_com0 {post : Int64 → St2 → Prop} (hp : post (-10) (nI w, nI b, nI m, nI 0, nI q, (fun i => nI (k i)), (fun i => nI (p i)), (fun i => nI (s i)), A, (fun i => nI (r i)), V, (fun i => nI (bs i)), (fun i => nI (ba i)), BV, (fun i => nI (ce i)), st)) : wpX_commit post (nI w, nI b, nI m, nI 0, nI q, (fun i => nI (k i)), (fun i => nI (p i)), (fun i => nI (s i)), A, (fun i => nI (r i)), V, (fun i => nI (bs i)), (fun i => nI (ba i)), BV, (fun i => nI (ce i)), st) := by
  unfold wpX_commit
  exact br_t rfl hp
theorem lx_comN (h : lq_XI w b m (c + 1) q k p s r kn ad A V D bs ba BV BD ce) {post : Int64 → St2 → Prop} (hr : r 0 ≠ 1 ∨ kn 0 ≠ 1) (hp : post (-9) (nI w, nI b, nI m, nI (c + 1), nI q, (fun i => nI (k i)), (fun i => nI (p i)), (fun i => nI (s i)), A, (fun i => nI (r i)), V, (fun i => nI (bs i)), (fun i => nI (ba i)), BV, (fun i => nI (ce i)), st)) : wpX_commit post (nI w, nI b, nI m, nI (c + 1), nI q, (fun i => nI (k i)), (fun i => nI (p i)), (fun i => nI (s i)), A, (fun i => nI (r i)), V, (fun i => nI (bs i)), (fun i => nI (ba i)), BV, (fun i => nI (ce i)), st) := by
  obtain ⟨h1, h2, h3, h4, h5⟩ := h
  obtain ⟨w1, w2, w3, w4⟩ := h3 0 (by omega)
  have b1 := h2 0
  unfold wpX_commit
  refine br_f (nI_ne0 (by omega) (by omega)) (pk_eq (r 0) 0 (fun _ => hp) (fun z => br_t ?_ hp))
  rw [w3, if_neg (by omega)]
theorem lx_comL (h : lq_XI w b m (c + 1) q k p s r kn ad A V D bs ba BV BD ce) {post : Int64 → St2 → Prop} (hk : k 0 ≠ 1) (hr : r 0 = 1) (hp : post (V 0) (nI w, nI b, nI m, nI c, nI q, (fun iz => nI ((lq_sh (c + 1) k) iz)), (fun iz => nI ((lq_sh (c + 1) p) iz)), (fun iz => nI ((lq_sh (c + 1) s) iz)), lq_sh (c + 1) A, (fun iz => nI ((lq_sh (c + 1) r) iz)), lq_sh (c + 1) V, (fun i => nI (bs i)), (fun i => nI (ba i)), BV, (fun i => nI (ce i)), st)) : wpX_commit post (nI w, nI b, nI m, nI (c + 1), nI q, (fun i => nI (k i)), (fun i => nI (p i)), (fun i => nI (s i)), A, (fun i => nI (r i)), V, (fun i => nI (bs i)), (fun i => nI (ba i)), BV, (fun i => nI (ce i)), st) := by
  obtain ⟨h1, h2, h3, h4, h5⟩ := h
  obtain ⟨w1, w2, w3, w4⟩ := h3 0 (by omega)
  have b1 := h2 0
  have kn0 := ((w4 hr).2 hk).1
  have w2' := w2 kn0
  unfold wpX_commit
  refine br_f (nI_ne0 (by omega) (by omega)) (pk_eq (r 0) 0 (fun z => absurd hr (by omega)) (fun z => br_f ?_ (nm_e (pk_eq (k 0) 1 (fun z => absurd z hk) (fun _ => ?_)))))
  · rw [w3, if_pos kn0]
    exact lq_m1 (by omega)
  · unfold wX_commit_74
    exact lx_shw (by omega) (fun i => (h2 i).2.2.1) hp
theorem lx_comS (h : lq_XI w b m (c + 1) q k p s r kn ad A V D bs ba BV BD ce) {post : Int64 → St2 → Prop} (hk : k 0 = 1) (hr : r 0 = 1) (hn : kn 0 = 1) (hf : q = b → post (-5) (nI w, nI b, nI m, nI (c + 1), nI q, (fun i => nI (k i)), (fun i => nI (p i)), (fun i => nI (s i)), A, (fun i => nI (r i)), V, (fun i => nI (bs i)), (fun i => nI (ba i)), BV, (fun i => nI (ce i)), st)) (hp : q < b → post (-11) (nI w, nI b, nI m, nI c, nI (q + 1), (fun iz => nI ((lq_sh (c + 1) k) iz)), (fun iz => nI ((lq_sh (c + 1) p) iz)), (fun iz => nI ((lq_sh (c + 1) s) iz)), lq_sh (c + 1) A, (fun iz => nI ((lq_sh (c + 1) r) iz)), lq_sh (c + 1) V, (fun iz => nI ((lq_un bs q (s 0)) iz)), (fun iz => nI ((lq_un ba q (ad 0)) iz)), vp_updL BV q (V 0), (fun i => nI (ce i)), st)) : wpX_commit post (nI w, nI b, nI m, nI (c + 1), nI q, (fun i => nI (k i)), (fun i => nI (p i)), (fun i => nI (s i)), A, (fun i => nI (r i)), V, (fun i => nI (bs i)), (fun i => nI (ba i)), BV, (fun i => nI (ce i)), st) := by
  obtain ⟨h1, h2, h3, h4, h5⟩ := h
  obtain ⟨w1, w2, w3, w4⟩ := h3 0 (by omega)
  have b1 := h2 0
  have w2' := w2 hn
  rw [if_pos hn] at w3
  unfold wpX_commit
  refine br_f (nI_ne0 (by omega) (by omega)) (pk_eq (r 0) 0 (fun z => absurd hr (by omega)) (fun z => br_f ?_ (nm_e (pk_eq (k 0) 1 (fun _ => pk_lt q b (fun l => ?_) (fun l => hf (by omega))) (fun z => absurd hk z)))))
  · rw [w3]
    exact lq_m1 (by omega)
  · have I : vp_in (nI q) 8 := vp_in_nI (by omega) (by omega)
    unfold wpX_moveOldestIntoBuffer
    refine ⟨I, ?_⟩
    rw [nI_clamp (show q < 2 ^ 31 by omega), w3]
    refine nm_r (lq_upd bs q (s 0)) ⟨I, nm_r (lq_upd ba q (ad 0)) ⟨I, nm_e (nm_r (nI_1 q) ?_)⟩⟩
    show wX_commit_74 post (-11) (nI w) (nI b) (nI m) (nI (c + 1)) (nI (q + 1)) (fun i => nI (k i)) (fun i => nI (p i)) (fun i => nI (s i)) A (fun i => nI (r i)) V (fun iz => nI ((lq_un bs q (s 0)) iz)) (fun iz => nI ((lq_un ba q (ad 0)) iz)) (vp_updL BV q (V 0)) (fun i => nI (ce i)) st
    unfold wX_commit_74
    exact lx_shw (by omega) (fun i => (h2 i).2.2.1) (hp l)
theorem lx_shb {post : St2 → Prop} {CE : Nat → Int32} (hq : q < 8) (hp : post (nI w, nI b, nI m, nI c, nI q, (fun i => nI (k i)), (fun i => nI (p i)), (fun i => nI (s i)), A, (fun i => nI (r i)), V, (fun iz => nI ((lq_sh (q + 1) bs) iz)), (fun iz => nI ((lq_sh (q + 1) ba) iz)), lq_sh (q + 1) BV, CE, st)) : wpX_removeOldestFromBuffer post (nI w, nI b, nI m, nI c, nI (q + 1), (fun i => nI (k i)), (fun i => nI (p i)), (fun i => nI (s i)), A, (fun i => nI (r i)), V, (fun i => nI (bs i)), (fun i => nI (ba i)), BV, CE, st) := by
  have main : ∀ d i n, i + d = q → d < n → wX_removeOldestFromBuffer_2 post (nI w) (nI b) (nI m) (nI c) (nI (q + 1)) n (nI (i + 1)) (fun i => nI (k i)) (fun i => nI (p i)) (fun i => nI (s i)) A (fun i => nI (r i)) V (lq_sh (i + 1) (fun i => nI (bs i))) (lq_sh (i + 1) (fun i => nI (ba i))) (lq_sh (i + 1) BV) CE st := by
    intro d
    induction d with
    | zero =>
      intro i n hi hd
      obtain ⟨n, rfl⟩ : ∃ t, n = t + 1 := ⟨n - 1, by omega⟩
      obtain rfl : i = q := by omega
      rw [← lq_shn, ← lq_shn] at hp
      exact br_t (nI_le (Nat.le_refl _) (by omega)) (nm_r (nI_pred i) hp)
    | succ d ih =>
      intro i n hi hd
      obtain ⟨n, rfl⟩ : ∃ t, n = t + 1 := ⟨n - 1, by omega⟩
      have I : vp_in (nI i) 8 := vp_in_nI (by omega) (by omega)
      have I1 : vp_in (nI (i + 1)) 8 := vp_in_nI (by omega) (by omega)
      refine br_f (nI_ge (by omega) (by omega)) ?_
      rw [nI_pred i, nI_clamp (show i + 1 < 2 ^ 31 by omega), nI_clamp (show i < 2 ^ 31 by omega)]
      exact ⟨I1, I, nm_r (lq_shx i _) ⟨I1, I, nm_r (lq_shx i _) ⟨I1, I, nm_r (lq_shy i _) (nm_r (nI_1 (i + 1)) (ih (i + 1) n (by omega) (by omega)))⟩⟩⟩
  have l := main q 0 (q + 1) (by omega) (by omega)
  rw [Nat.zero_add, lq_sh1, lq_sh1, lq_sh1] at l
  unfold wpX_removeOldestFromBuffer
  exact ⟨q + 1, l⟩
def lq_wc (ce : Nat → Nat) (a0 : Nat) (d : Int32) (i : Nat) : Nat → Nat := fun a => if a0 ≤ a ∧ a < a0 + i then lq_by d (a - a0) else ce a
theorem lq_wc0 (ce : Nat → Nat) (a0 : Nat) (d : Int32) : lq_wc ce a0 d 0 = ce := by
  funext a
  exact if_neg (fun h => by omega)
theorem lq_wc1 (ce : Nat → Nat) (a0 : Nat) (d : Int32) (i : Nat) : lq_un (lq_wc ce a0 d i) (a0 + i) (lq_by d i) = lq_wc ce a0 d (i + 1) := by
  funext a
  unfold lq_un lq_wc
  by_cases e : a = a0 + i
  · rw [if_pos e, if_pos ⟨by omega, by omega⟩, e, Nat.add_sub_cancel_left]
  · rw [if_neg e]
    by_cases z : a0 ≤ a ∧ a < a0 + i
    · rw [if_pos z, if_pos ⟨by omega, by omega⟩]
    · rw [if_neg z, if_neg (fun y => z ⟨by omega, by omega⟩)]
theorem lx_drain0 {post : Int32 → St2 → Prop} (hp : post (-10) (nI w, nI b, nI m, nI c, nI 0, (fun i => nI (k i)), (fun i => nI (p i)), (fun i => nI (s i)), A, (fun i => nI (r i)), V, (fun i => nI (bs i)), (fun i => nI (ba i)), BV, (fun i => nI (ce i)), st)) : wpX_drain post (nI w, nI b, nI m, nI c, nI 0, (fun i => nI (k i)), (fun i => nI (p i)), (fun i => nI (s i)), A, (fun i => nI (r i)), V, (fun i => nI (bs i)), (fun i => nI (ba i)), BV, (fun i => nI (ce i)), st) := by
  unfold wpX_drain
  exact br_t rfl hp
theorem lx_drain (h : lq_XI w b m c (q + 1) k p s r kn ad A V D bs ba BV BD ce) {post : Int32 → St2 → Prop} (hp : post 0 (nI w, nI b, nI m, nI c, nI q, (fun i => nI (k i)), (fun i => nI (p i)), (fun i => nI (s i)), A, (fun i => nI (r i)), V, (fun iz => nI ((lq_sh (q + 1) bs) iz)), (fun iz => nI ((lq_sh (q + 1) ba) iz)), lq_sh (q + 1) BV, (fun iz => nI (lq_mb bs ba BD ce iz 1)), st)) : wpX_drain post (nI w, nI b, nI m, nI c, nI (q + 1), (fun i => nI (k i)), (fun i => nI (p i)), (fun i => nI (s i)), A, (fun i => nI (r i)), V, (fun i => nI (bs i)), (fun i => nI (ba i)), BV, (fun i => nI (ce i)), st) := by
  obtain ⟨h1, h2, h3, h4, h5⟩ := h
  obtain ⟨w1, w2, w3⟩ := h4 0 (by omega)
  have main : ∀ d i n, i + d = bs 0 → d < n → wX_drain_12 post (nI w) (nI b) (nI m) (nI c) (nI (q + 1)) n (nI i) (fun i => nI (k i)) (fun i => nI (p i)) (fun i => nI (s i)) A (fun i => nI (r i)) V (fun i => nI (bs i)) (fun i => nI (ba i)) BV (fun iz => nI ((lq_wc ce (ba 0) (BD 0) i) iz)) st := by
    intro d
    induction d with
    | zero =>
      intro i n hi hd
      obtain ⟨n, rfl⟩ : ∃ t, n = t + 1 := ⟨n - 1, by omega⟩
      refine br_t (nI_le (by omega) (by omega)) (lx_shb (by omega) ?_)
      have e : lq_wc ce (ba 0) (BD 0) i = fun iz => lq_mb bs ba BD ce iz 1 := by
        funext a
        show (if ba 0 ≤ a ∧ a < ba 0 + i then _ else _) = if ba 0 ≤ a ∧ a < ba 0 + bs 0 then _ else _
        rw [show i = bs 0 by omega]
        rfl
      rw [e]
      exact hp
    | succ d ih =>
      intro i n hi hd
      obtain ⟨n, rfl⟩ : ∃ t, n = t + 1 := ⟨n - 1, by omega⟩
      refine br_f (nI_ge (by omega) (by omega)) ?_
      rw [w3]
      refine lx_by (by omega) (by omega) ?_
      show vp_in (nI (ba 0) + nI i) 64 ∧ ∀ y, y = upd _ (nI (ba 0) + nI i).toNatClampNeg _ → _
      rw [nI_add, nI_clamp (show ba 0 + i < 2 ^ 31 by omega)]
      refine ⟨vp_in_nI (by omega) (by omega), nm_r ?_ (nm_r (nI_1 i) (ih (i + 1) n (by omega) (by omega)))⟩
      rw [← lq_wc1]
      exact lq_upd _ _ _
  have l := main (bs 0) 0 (bs 0 + 1) (by omega) (by omega)
  rw [lq_wc0] at l
  unfold wpX_drain
  exact br_f (nI_ne0 (by omega) (by omega)) ⟨bs 0 + 1, l⟩
def lq_fp (st : Nat → Int32) (i : Nat) : Nat → Int32 := fun x => if x < i then -1 else st x
theorem lq_fp0 (st : Nat → Int32) : lq_fp st 0 = st := by
  funext x
  exact if_neg (by omega)
theorem lq_fp1 (st : Nat → Int32) (i : Nat) : upd (lq_fp st i) i (-1) = lq_fp st (i + 1) := by
  funext x
  unfold upd lq_fp
  by_cases e : x = i
  · rw [if_pos e, if_pos (by omega)]
  · rw [if_neg e]
    by_cases z : x < i
    · rw [if_pos z, if_pos (by omega)]
    · rw [if_neg z, if_neg (by omega)]
theorem lx_forget {post : St2 → Prop} {K P S R BS BA CE : Nat → Int32} (hp : post (nI w, nI b, nI m, nI c, nI q, K, P, S, A, R, V, BS, BA, BV, CE, lq_fp st 16)) : wpX_forgetPairs post (nI w, nI b, nI m, nI c, nI q, K, P, S, A, R, V, BS, BA, BV, CE, st) := by
  have main : ∀ d i n, i + d = 16 → d < n → wX_forgetPairs_2 post (nI w) (nI b) (nI m) (nI c) (nI q) n (nI i) K P S A R V BS BA BV CE (lq_fp st i) := by
    intro d
    induction d with
    | zero =>
      intro i n hi hd
      obtain ⟨n, rfl⟩ : ∃ t, n = t + 1 := ⟨n - 1, by omega⟩
      obtain rfl : i = 16 := by omega
      exact br_t (by decide) hp
    | succ d ih =>
      intro i n hi hd
      obtain ⟨n, rfl⟩ : ∃ t, n = t + 1 := ⟨n - 1, by omega⟩
      refine br_f (nI_ge (b := 16) (by omega) (by decide)) ⟨vp_in_nI (by omega) (by omega), ?_⟩
      rw [nI_clamp (show i < 2 ^ 31 by omega), lq_fp1]
      exact nm_e (nm_r (nI_1 i) (ih (i + 1) n (by omega) (by omega)))
  have l := main 16 0 17 (by omega) (by omega)
  rw [lq_fp0] at l
  unfold wpX_forgetPairs
  exact ⟨17, l⟩
theorem lx_clear {post : St2 → Prop} (hp : post (nI w, nI b, nI m, nI c, nI q, (fun i => nI (k i)), (fun i => nI (p i)), (fun i => nI (s i)), A, (fun i => nI (r i)), V, (fun i => nI (bs i)), (fun i => nI (ba i)), BV, (fun i => nI (ce i)), lq_fp st 16)) : wpX_clearSets post (nI w, nI b, nI m, nI c, nI q, (fun i => nI (k i)), (fun i => nI (p i)), (fun i => nI (s i)), A, (fun i => nI (r i)), V, (fun i => nI (bs i)), (fun i => nI (ba i)), BV, (fun i => nI (ce i)), st) := by
  unfold wpX_clearSets
  exact lx_forget hp
def lq_c0 (i : Nat) : Nat → Nat := fun a => if a < i then 3 * a + 1 else 0
theorem lq_c00 : (fun i => nI (lq_c0 0 i)) = fun _ => 0 := by
  funext a
  show nI (if a < 0 then 3 * a + 1 else 0) = 0
  rw [if_neg (by omega)]
  rfl
theorem lq_c01 (i : Nat) : upd (fun iz => nI (lq_c0 i iz)) i (3 * nI i + 1) = fun iz => nI (lq_c0 (i + 1) iz) := by
  have e : (3 : Int32) * nI i + 1 = nI (3 * i + 1) := by
    rw [show (3 : Int32) * nI i = nI (3 * i) from pk_mul 3 i, nI_1]
  rw [e, lq_upd]
  have e2 : lq_un (lq_c0 i) i (3 * i + 1) = lq_c0 (i + 1) := by
    funext x
    unfold lq_un lq_c0
    by_cases e : x = i
    · rw [if_pos e, if_pos (by omega), e]
    · rw [if_neg e]
      by_cases z : x < i
      · rw [if_pos z, if_pos (by omega)]
      · rw [if_neg z, if_neg (by omega)]
  rw [e2]
theorem lq_c0lt (a : Nat) : lq_c0 64 a < 256 := by
  unfold lq_c0
  split <;> omega
theorem lq_clm {lo hi : Nat} (h : lo ≤ hi) (hh : hi < 2 ^ 31) (v : Int32) : ∃ x, lo ≤ x ∧ x ≤ hi ∧ ∀ P : Int32 → Prop, P (nI x) → ((nI lo ≤ v → ((v ≤ nI hi → P v) ∧ (¬ v ≤ nI hi → P (nI hi)))) ∧ (¬ nI lo ≤ v → P (nI lo))) := by
  by_cases h1 : nI lo ≤ v
  · by_cases h2 : v ≤ nI hi
    · have h0 : ¬ v < 0 := fun z => by
        have a1 : (0 : Int32) ≤ nI lo := nI_pos' (by omega)
        have a2 := Int32.le_trans a1 h1
        exact Int32.not_lt.mpr a2 z
      obtain ⟨x, hx, rfl⟩ := nI_of h0
      rw [nI_leI (by omega) hx] at h1
      have h2' := (nI_leI hx hh).mp h2
      exact ⟨x, h1, h2', fun P hP => br_t (nI_le h1 hx) (br_t h2 hP)⟩
    · exact ⟨hi, h, Nat.le_refl _, fun P hP => br_t h1 (br_f h2 hP)⟩
  · exact ⟨lo, Nat.le_refl _, h, fun P hP => br_f h1 hP⟩
theorem lx_mem (h : lq_XI w b m c q k p s r kn ad A V D bs ba BV BD ce) {x j : Nat} (hx : x < m) (hj : j ≤ q) {post : Int32 → Prop} (hp : post (nI (lq_mb bs ba BD ce x j))) : wpX_memory post (nI w, nI b, nI m, nI c, nI q, (fun i => nI (k i)), (fun i => nI (p i)), (fun i => nI (s i)), A, (fun i => nI (r i)), V, (fun i => nI (bs i)), (fun i => nI (ba i)), BV, (fun i => nI (ce i)), st) (nI x) (nI j) := by
  have := h.1
  unfold wpX_memory
  exact br_f (nI_pos (by omega)) (br_f (nI_ge (by omega) (by omega)) (br_f (nI_pos (by omega)) (br_t (nI_le (by omega) (by omega)) (lx_bad h hx hj hp))))
theorem lx_memB {v1 v2 : Int32} (hv : v1 < 0 ∨ nI m ≤ v1 ∨ v2 < 0 ∨ ¬ v2 ≤ nI q) {post : Int32 → Prop} (hp : post (-3)) : wpX_memory post (nI w, nI b, nI m, nI c, nI q, (fun i => nI (k i)), (fun i => nI (p i)), (fun i => nI (s i)), A, (fun i => nI (r i)), V, (fun i => nI (bs i)), (fun i => nI (ba i)), BV, (fun i => nI (ce i)), st) v1 v2 := by
  unfold wpX_memory
  rcases hv with hv | hv | hv | hv
  · exact br_t hv hp
  · exact br_c (fun _ => hp) (fun _ => br_t hv hp)
  · exact br_c (fun _ => hp) (fun _ => br_c (fun _ => hp) (fun _ => br_t hv hp))
  · exact br_c (fun _ => hp) (fun _ => br_c (fun _ => hp) (fun _ => br_c (fun _ => hp) (fun _ => br_f hv hp)))
end

