/-! the reference: commit, drain, discard, clearSets, the start, the readers -/
section
variable {w b m c q : Nat} {k p s r kn ad : Nat → Nat} {A : Nat → Int32} {V : Nat → Int64} {D : Nat → Int32} {bs ba : Nat → Nat} {BV : Nat → Int64} {BD : Nat → Int32} {ce : Nat → Nat} {st : Nat → Int32} {pr rc : Nat → Nat}
theorem ly_shw {post : Int64 → SY → Prop} {x1 : Int64} (hc : c < 32) (hr : ∀ i, r i ≤ 1) (hk : ∀ i, kn i ≤ 1) (hp : post x1 (nI w, nI b, nI m, nI c, nI q, (fun iz => nI ((lq_sh (c + 1) k) iz)), (fun iz => nI ((lq_sh (c + 1) p) iz)), (fun iz => nI ((lq_sh (c + 1) s) iz)), (fun iz => nI ((lq_sh (c + 1) kn) iz)), (fun iz => nI ((lq_sh (c + 1) ad) iz)), (fun iz => nI ((lq_sh (c + 1) r) iz)), lq_sh (c + 1) D, (fun i => nI (bs i)), (fun i => nI (ba i)), BD, (fun i => nI (ce i)), (fun i => nI (pr i)), (fun i => nI (rc i)))) : ∃ n, wY_commit_140 post x1 (nI w) (nI b) (nI m) (nI (c + 1)) (nI q) n 1 (fun i => nI (k i)) (fun i => nI (p i)) (fun i => nI (s i)) (fun i => nI (kn i)) (fun i => nI (ad i)) (fun i => nI (r i)) D (fun i => nI (bs i)) (fun i => nI (ba i)) BD (fun i => nI (ce i)) (fun i => nI (pr i)) (fun i => nI (rc i)) := by
  have main : ∀ d i n, i + d = c → d < n → wY_commit_140 post x1 (nI w) (nI b) (nI m) (nI (c + 1)) (nI q) n (nI (i + 1)) (lq_sh (i + 1) (fun i => nI (k i))) (lq_sh (i + 1) (fun i => nI (p i))) (lq_sh (i + 1) (fun i => nI (s i))) (lq_sh (i + 1) (fun i => nI (kn i))) (lq_sh (i + 1) (fun i => nI (ad i))) (lq_sh (i + 1) (fun i => nI (r i))) (lq_sh (i + 1) D) (fun i => nI (bs i)) (fun i => nI (ba i)) BD (fun i => nI (ce i)) (fun i => nI (pr i)) (fun i => nI (rc i)) := by
    intro d
    induction d with
    | zero =>
      intro i n hi hd
      obtain ⟨n, rfl⟩ : ∃ t, n = t + 1 := ⟨n - 1, by omega⟩
      obtain rfl : i = c := by omega
      rw [← lq_shn, ← lq_shn, ← lq_shn, ← lq_shn, ← lq_shn, ← lq_shn] at hp
      exact br_t (nI_le (Nat.le_refl _) (by omega)) (nm_r (nI_pred i) hp)
    | succ d ih =>
      intro i n hi hd
      obtain ⟨n, rfl⟩ : ∃ t, n = t + 1 := ⟨n - 1, by omega⟩
      have I : vp_in (nI i) 32 := vp_in_nI (by omega) (by omega)
      have I1 : vp_in (nI (i + 1)) 32 := vp_in_nI (by omega) (by omega)
      refine br_f (nI_ge (by omega) (by omega)) ?_
      rw [nI_pred i, nI_clamp (show i + 1 < 2 ^ 31 by omega), nI_clamp (show i < 2 ^ 31 by omega)]
      exact ⟨I1, I, nm_r (lq_shx i _) ⟨I1, I, nm_r (lq_shx i _) ⟨I1, I, nm_r (lq_shx i _) ⟨I1, I, nm_r (lq_shb i hk) ⟨I1, I, nm_r (lq_shx i _) ⟨I1, I, nm_r (lq_shb i hr) ⟨I1, I, nm_r (lq_shx i _) (nm_r (nI_1 (i + 1)) (ih (i + 1) n (by omega) (by omega)))⟩⟩⟩⟩⟩⟩⟩
  have l := main c 0 (c + 1) (by omega) (by omega)
  rw [Nat.zero_add, lq_sh1, lq_sh1, lq_sh1, lq_sh1, lq_sh1, lq_sh1, lq_sh1] at l
  exact ⟨c + 1, l⟩
theorem ly_com0 {post : Int64 → SY → Prop} (hp : post (-10) (nI w, nI b, nI m, nI 0, nI q, (fun i => nI (k i)), (fun i => nI (p i)), (fun i => nI (s i)), (fun i => nI (kn i)), (fun i => nI (ad i)), (fun i => nI (r i)), D, (fun i => nI (bs i)), (fun i => nI (ba i)), BD, (fun i => nI (ce i)), (fun i => nI (pr i)), (fun i => nI (rc i)))) : wpY_commit post (nI w, nI b, nI m, nI 0, nI q, (fun i => nI (k i)), (fun i => nI (p i)), (fun i => nI (s i)), (fun i => nI (kn i)), (fun i => nI (ad i)), (fun i => nI (r i)), D, (fun i => nI (bs i)), (fun i => nI (ba i)), BD, (fun i => nI (ce i)), (fun i => nI (pr i)), (fun i => nI (rc i))) := by
  unfold wpY_commit
  exact br_t rfl hp
theorem ly_comN (h : lq_XI w b m (c + 1) q k p s r kn ad A V D bs ba BV BD ce) {post : Int64 → SY → Prop} (hr : r 0 ≠ 1 ∨ kn 0 ≠ 1) (hp : post (-9) (nI w, nI b, nI m, nI (c + 1), nI q, (fun i => nI (k i)), (fun i => nI (p i)), (fun i => nI (s i)), (fun i => nI (kn i)), (fun i => nI (ad i)), (fun i => nI (r i)), D, (fun i => nI (bs i)), (fun i => nI (ba i)), BD, (fun i => nI (ce i)), (fun i => nI (pr i)), (fun i => nI (rc i)))) : wpY_commit post (nI w, nI b, nI m, nI (c + 1), nI q, (fun i => nI (k i)), (fun i => nI (p i)), (fun i => nI (s i)), (fun i => nI (kn i)), (fun i => nI (ad i)), (fun i => nI (r i)), D, (fun i => nI (bs i)), (fun i => nI (ba i)), BD, (fun i => nI (ce i)), (fun i => nI (pr i)), (fun i => nI (rc i))) := by
  obtain ⟨h1, h2, h3, h4, h5⟩ := h
  obtain ⟨w1, w2, w3, w4⟩ := h3 0 (by omega)
  have b1 := h2 0
  unfold wpY_commit
  refine br_f (nI_ne0 (by omega) (by omega)) (pk_eq (k 0) 0 (fun zk => pk_eq (r 0) 0 (fun _ => hp) (fun z => ?_)) (fun zk => pk_eq (kn 0) 0 (fun _ => hp) (fun zn => pk_eq (r 0) 0 (fun _ => hp) (fun zr => absurd hr (by omega)))))
  have := ((w4 (by omega)).2 (by omega)).1
  omega
theorem ly_comL (h : lq_XI w b m (c + 1) q k p s r kn ad A V D bs ba BV BD ce) {post : Int64 → SY → Prop} (hk : k 0 ≠ 1) (hr : r 0 = 1) (hp : post (V 0) (nI w, nI b, nI m, nI c, nI q, (fun iz => nI ((lq_sh (c + 1) k) iz)), (fun iz => nI ((lq_sh (c + 1) p) iz)), (fun iz => nI ((lq_sh (c + 1) s) iz)), (fun iz => nI ((lq_sh (c + 1) kn) iz)), (fun iz => nI ((lq_sh (c + 1) ad) iz)), (fun iz => nI ((lq_sh (c + 1) r) iz)), lq_sh (c + 1) D, (fun i => nI (bs i)), (fun i => nI (ba i)), BD, (fun i => nI (ce i)), (fun i => nI (pr i)), (fun i => nI (rc i)))) : wpY_commit post (nI w, nI b, nI m, nI (c + 1), nI q, (fun i => nI (k i)), (fun i => nI (p i)), (fun i => nI (s i)), (fun i => nI (kn i)), (fun i => nI (ad i)), (fun i => nI (r i)), D, (fun i => nI (bs i)), (fun i => nI (ba i)), BD, (fun i => nI (ce i)), (fun i => nI (pr i)), (fun i => nI (rc i))) := by
  have h' := h
  obtain ⟨h1, h2, h3, h4, h5⟩ := h
  have b1 := h2 0
  unfold wpY_commit
  refine br_f (nI_ne0 (by omega) (by omega)) (pk_eq (k 0) 0 (fun zk => pk_eq (r 0) 0 (fun z => absurd hr (by omega)) (fun z => ?_)) (fun zk => absurd hk (by omega)))
  exact ly_value (j := 0) h' (by omega) (fun _ => ly_shw (by omega) (fun i => (h2 i).2.2.1) (fun i => (h2 i).2.2.2) hp) (fun n => absurd hr n)
theorem ly_comS (h : lq_XI w b m (c + 1) q k p s r kn ad A V D bs ba BV BD ce) {post : Int64 → SY → Prop} (hk : k 0 = 1) (hr : r 0 = 1) (hn : kn 0 = 1) (hf : q = b → post (-5) (nI w, nI b, nI m, nI (c + 1), nI q, (fun i => nI (k i)), (fun i => nI (p i)), (fun i => nI (s i)), (fun i => nI (kn i)), (fun i => nI (ad i)), (fun i => nI (r i)), D, (fun i => nI (bs i)), (fun i => nI (ba i)), BD, (fun i => nI (ce i)), (fun i => nI (pr i)), (fun i => nI (rc i)))) (hp : q < b → post (-11) (nI w, nI b, nI m, nI c, nI (q + 1), (fun iz => nI ((lq_sh (c + 1) k) iz)), (fun iz => nI ((lq_sh (c + 1) p) iz)), (fun iz => nI ((lq_sh (c + 1) s) iz)), (fun iz => nI ((lq_sh (c + 1) kn) iz)), (fun iz => nI ((lq_sh (c + 1) ad) iz)), (fun iz => nI ((lq_sh (c + 1) r) iz)), lq_sh (c + 1) D, (fun iz => nI ((lq_un bs q (s 0)) iz)), (fun iz => nI ((lq_un ba q (ad 0)) iz)), upd BD q (D 0), (fun i => nI (ce i)), (fun i => nI (pr i)), (fun i => nI (rc i)))) : wpY_commit post (nI w, nI b, nI m, nI (c + 1), nI q, (fun i => nI (k i)), (fun i => nI (p i)), (fun i => nI (s i)), (fun i => nI (kn i)), (fun i => nI (ad i)), (fun i => nI (r i)), D, (fun i => nI (bs i)), (fun i => nI (ba i)), BD, (fun i => nI (ce i)), (fun i => nI (pr i)), (fun i => nI (rc i))) := by
  obtain ⟨h1, h2, h3, h4, h5⟩ := h
  have b1 := h2 0
  unfold wpY_commit
  refine br_f (nI_ne0 (by omega) (by omega)) (pk_eq (k 0) 0 (fun zk => absurd hk (by omega)) (fun zk => pk_eq (kn 0) 0 (fun zn => absurd hn (by omega)) (fun zn => pk_eq (r 0) 0 (fun zr => absurd hr (by omega)) (fun zr => pk_lt q b (fun l => ?_) (fun l => hf (by omega))))))
  have I : vp_in (nI q) 8 := vp_in_nI (by omega) (by omega)
  rw [nI_clamp (show q < 2 ^ 31 by omega)]
  refine ⟨I, nm_r (lq_upd bs q (s 0)) ⟨I, nm_r (lq_upd ba q (ad 0)) ⟨I, nm_e (nm_r (nI_1 q) ?_)⟩⟩⟩
  exact ly_shw (q := q + 1) (bs := lq_un bs q (s 0)) (ba := lq_un ba q (ad 0)) (BD := upd BD q (D 0)) (by omega) (fun i => (h2 i).2.2.1) (fun i => (h2 i).2.2.2) (hp l)
theorem ly_d40 {post : Int32 → SY → Prop} (hq : q < 8) (hp : post 0 (nI w, nI b, nI m, nI c, nI q, (fun i => nI (k i)), (fun i => nI (p i)), (fun i => nI (s i)), (fun i => nI (kn i)), (fun i => nI (ad i)), (fun i => nI (r i)), D, (fun iz => nI ((lq_sh (q + 1) bs) iz)), (fun iz => nI ((lq_sh (q + 1) ba) iz)), lq_sh (q + 1) BD, (fun i => nI (ce i)), (fun i => nI (pr i)), (fun i => nI (rc i)))) : ∃ n, wY_drain_40 post (nI w) (nI b) (nI m) (nI c) (nI (q + 1)) n 1 (fun i => nI (k i)) (fun i => nI (p i)) (fun i => nI (s i)) (fun i => nI (kn i)) (fun i => nI (ad i)) (fun i => nI (r i)) D (fun i => nI (bs i)) (fun i => nI (ba i)) BD (fun i => nI (ce i)) (fun i => nI (pr i)) (fun i => nI (rc i)) := by
  have main : ∀ d i n, i + d = q → d < n → wY_drain_40 post (nI w) (nI b) (nI m) (nI c) (nI (q + 1)) n (nI (i + 1)) (fun i => nI (k i)) (fun i => nI (p i)) (fun i => nI (s i)) (fun i => nI (kn i)) (fun i => nI (ad i)) (fun i => nI (r i)) D (lq_sh (i + 1) (fun i => nI (bs i))) (lq_sh (i + 1) (fun i => nI (ba i))) (lq_sh (i + 1) BD) (fun i => nI (ce i)) (fun i => nI (pr i)) (fun i => nI (rc i)) := by
    intro d
    induction d with
    | zero =>
      intro i n hi hd
      obtain ⟨n, rfl⟩ : ∃ t, n = t + 1 := ⟨n - 1, by omega⟩
      obtain rfl : i = q := by omega
      rw [← lq_shn, ← lq_shn] at hp
      exact br_t (nI_le (Nat.le_refl _) (by omega)) (nm_r (nI_pred i) hp)
    | succ d ih =>
      intro i n hi hd
      obtain ⟨n, rfl⟩ : ∃ t, n = t + 1 := ⟨n - 1, by omega⟩
      have I : vp_in (nI i) 8 := vp_in_nI (by omega) (by omega)
      have I1 : vp_in (nI (i + 1)) 8 := vp_in_nI (by omega) (by omega)
      refine br_f (nI_ge (by omega) (by omega)) ?_
      rw [nI_pred i, nI_clamp (show i + 1 < 2 ^ 31 by omega), nI_clamp (show i < 2 ^ 31 by omega)]
      exact ⟨I1, I, nm_r (lq_shx i _) ⟨I1, I, nm_r (lq_shx i _) ⟨I1, I, nm_r (lq_shx i _) (nm_r (nI_1 (i + 1)) (ih (i + 1) n (by omega) (by omega)))⟩⟩⟩
  have l := main q 0 (q + 1) (by omega) (by omega)
  rw [Nat.zero_add, lq_sh1, lq_sh1, lq_sh1] at l
  exact ⟨q + 1, l⟩
theorem ly_drain0 {post : Int32 → SY → Prop} (hp : post (-10) (nI w, nI b, nI m, nI c, nI 0, (fun i => nI (k i)), (fun i => nI (p i)), (fun i => nI (s i)), (fun i => nI (kn i)), (fun i => nI (ad i)), (fun i => nI (r i)), D, (fun i => nI (bs i)), (fun i => nI (ba i)), BD, (fun i => nI (ce i)), (fun i => nI (pr i)), (fun i => nI (rc i)))) : wpY_drain post (nI w, nI b, nI m, nI c, nI 0, (fun i => nI (k i)), (fun i => nI (p i)), (fun i => nI (s i)), (fun i => nI (kn i)), (fun i => nI (ad i)), (fun i => nI (r i)), D, (fun i => nI (bs i)), (fun i => nI (ba i)), BD, (fun i => nI (ce i)), (fun i => nI (pr i)), (fun i => nI (rc i))) := by
  unfold wpY_drain
  exact br_t rfl hp
def lq_dm (bs ba : Nat → Nat) (BD : Nat → Int32) (ce : Nat → Nat) (i : Nat) : Nat → Nat := fun a => if a < i then lq_mb bs ba BD ce a 1 else ce a
theorem lq_dm0 (bs ba : Nat → Nat) (BD : Nat → Int32) (ce : Nat → Nat) : lq_dm bs ba BD ce 0 = ce := by
  funext a
  exact if_neg (by omega)
theorem lq_dm1 (bs ba : Nat → Nat) (BD : Nat → Int32) (ce : Nat → Nat) (i : Nat) : lq_un (lq_dm bs ba BD ce i) i (lq_mb bs ba BD ce i 1) = lq_dm bs ba BD ce (i + 1) := by
  funext x
  unfold lq_un lq_dm
  by_cases e : x = i
  · rw [if_pos e, if_pos (by omega), e]
  · rw [if_neg e]
    by_cases z : x < i
    · rw [if_pos z, if_pos (by omega)]
    · rw [if_neg z, if_neg (by omega)]
theorem lq_dmm (bs ba : Nat → Nat) (BD : Nat → Int32) (ce : Nat → Nat) (i : Nat) : lq_mb bs ba BD (lq_dm bs ba BD ce i) i 1 = lq_mb bs ba BD ce i 1 := by
  show (if ba 0 ≤ i ∧ i < ba 0 + bs 0 then _ else lq_dm bs ba BD ce i i) = if ba 0 ≤ i ∧ i < ba 0 + bs 0 then _ else ce i
  have e : lq_dm bs ba BD ce i i = ce i := if_neg (by omega)
  rw [e]
theorem ly_drain (h : lq_XI w b m c (q + 1) k p s r kn ad A V D bs ba BV BD ce) {post : Int32 → SY → Prop} (hp : post 0 (nI w, nI b, nI m, nI c, nI q, (fun i => nI (k i)), (fun i => nI (p i)), (fun i => nI (s i)), (fun i => nI (kn i)), (fun i => nI (ad i)), (fun i => nI (r i)), D, (fun iz => nI ((lq_sh (q + 1) bs) iz)), (fun iz => nI ((lq_sh (q + 1) ba) iz)), lq_sh (q + 1) BD, (fun iz => nI (lq_mb bs ba BD ce iz 1)), (fun i => nI (pr i)), (fun i => nI (rc i)))) : wpY_drain post (nI w, nI b, nI m, nI c, nI (q + 1), (fun i => nI (k i)), (fun i => nI (p i)), (fun i => nI (s i)), (fun i => nI (kn i)), (fun i => nI (ad i)), (fun i => nI (r i)), D, (fun i => nI (bs i)), (fun i => nI (ba i)), BD, (fun i => nI (ce i)), (fun i => nI (pr i)), (fun i => nI (rc i))) := by
  obtain ⟨h1, h2, h3, h4, h5⟩ := h
  obtain ⟨w1, w2, w3⟩ := h4 0 (by omega)
  have main : ∀ d i n, i + d = m → d < n → wY_drain_12 post (nI w) (nI b) (nI m) (nI c) (nI (q + 1)) n (nI i) (fun i => nI (k i)) (fun i => nI (p i)) (fun i => nI (s i)) (fun i => nI (kn i)) (fun i => nI (ad i)) (fun i => nI (r i)) D (fun i => nI (bs i)) (fun i => nI (ba i)) BD (fun iz => nI ((lq_dm bs ba BD ce i) iz)) (fun i => nI (pr i)) (fun i => nI (rc i)) := by
    intro d
    induction d with
    | zero =>
      intro i n hi hd
      obtain ⟨n, rfl⟩ : ∃ t, n = t + 1 := ⟨n - 1, by omega⟩
      refine br_t (nI_le (by omega) (by omega)) (ly_d40 (by omega) ?_)
      have e : lq_dm bs ba BD ce i = fun iz => lq_mb bs ba BD ce iz 1 := by
        funext a
        unfold lq_dm
        by_cases z : a < i
        · rw [if_pos z]
        · rw [if_neg z]
          show ce a = if ba 0 ≤ a ∧ a < ba 0 + bs 0 then _ else ce a
          rw [if_neg (by omega)]
      rw [e]
      exact hp
    | succ d ih =>
      intro i n hi hd
      obtain ⟨n, rfl⟩ : ∃ t, n = t + 1 := ⟨n - 1, by omega⟩
      refine br_f (nI_ge (by omega) (by omega)) ?_
      refine ly_mem (j := 1) (by omega) (by omega) h4 (by omega) (by omega) ?_
      rw [nI_clamp (show i < 2 ^ 31 by omega), lq_dmm]
      refine ⟨vp_in_nI (by omega) (by omega), nm_r (e' := fun iz => nI (lq_dm bs ba BD ce (i + 1) iz)) ?_ (nm_r (nI_1 i) (ih (i + 1) n (by omega) (by omega)))⟩
      rw [← lq_dm1]
      exact lq_upd _ i _
  have l := main m 0 (m + 1) (by omega) (by omega)
  rw [lq_dm0] at l
  unfold wpY_drain
  exact br_f (nI_ne0 (by omega) (by omega)) ⟨m + 1, l⟩
theorem ly_disc {j : Nat} (hj : j < c) (hc : c ≤ 32) {post : Int32 → SY → Prop} (hp : post (nI (c - j)) (nI w, nI b, nI m, nI j, nI q, (fun i => nI (k i)), (fun i => nI (p i)), (fun i => nI (s i)), (fun i => nI (kn i)), (fun i => nI (ad i)), (fun i => nI (r i)), D, (fun i => nI (bs i)), (fun i => nI (ba i)), BD, (fun i => nI (ce i)), (fun i => nI (pr i)), (fun i => nI (rc i)))) : wpY_discard post (nI w, nI b, nI m, nI c, nI q, (fun i => nI (k i)), (fun i => nI (p i)), (fun i => nI (s i)), (fun i => nI (kn i)), (fun i => nI (ad i)), (fun i => nI (r i)), D, (fun i => nI (bs i)), (fun i => nI (ba i)), BD, (fun i => nI (ce i)), (fun i => nI (pr i)), (fun i => nI (rc i))) (nI j) := by
  unfold wpY_discard
  exact br_f (nI_pos (by omega)) (br_t (nI_lt hj (by omega)) (nm_r (pk_sub (by omega)) hp))
def lq_cp (pr : Nat → Nat) (i : Nat) : Nat → Nat := fun x => if x < i then 0 else pr x
theorem lq_cp0 (pr : Nat → Nat) : lq_cp pr 0 = pr := by
  funext x
  exact if_neg (by omega)
theorem lq_cp1 (pr : Nat → Nat) (i : Nat) : lq_un (lq_cp pr i) i 0 = lq_cp pr (i + 1) := by
  funext x
  unfold lq_un lq_cp
  by_cases e : x = i
  · rw [if_pos e, if_pos (by omega)]
  · rw [if_neg e]
    by_cases z : x < i
    · rw [if_pos z, if_pos (by omega)]
    · rw [if_neg z, if_neg (by omega)]
theorem ly_clear {post : SY → Prop} (hp : ∀ g, g = 256 → post (nI w, nI b, nI m, nI c, nI q, (fun i => nI (k i)), (fun i => nI (p i)), (fun i => nI (s i)), (fun i => nI (kn i)), (fun i => nI (ad i)), (fun i => nI (r i)), D, (fun i => nI (bs i)), (fun i => nI (ba i)), BD, (fun i => nI (ce i)), (fun iz => nI ((lq_cp pr g) iz)), (fun i => nI (rc i)))) : wpY_clearSets post (nI w, nI b, nI m, nI c, nI q, (fun i => nI (k i)), (fun i => nI (p i)), (fun i => nI (s i)), (fun i => nI (kn i)), (fun i => nI (ad i)), (fun i => nI (r i)), D, (fun i => nI (bs i)), (fun i => nI (ba i)), BD, (fun i => nI (ce i)), (fun i => nI (pr i)), (fun i => nI (rc i))) := by
  have main : ∀ d i n, i + d = 256 → d < n → wY_clearSets_2 post (nI w) (nI b) (nI m) (nI c) (nI q) n (nI i) (fun i => nI (k i)) (fun i => nI (p i)) (fun i => nI (s i)) (fun i => nI (kn i)) (fun i => nI (ad i)) (fun i => nI (r i)) D (fun i => nI (bs i)) (fun i => nI (ba i)) BD (fun i => nI (ce i)) (fun iz => nI ((lq_cp pr i) iz)) (fun i => nI (rc i)) := by
    intro d
    induction d with
    | zero =>
      intro i n hi hd
      obtain ⟨n, rfl⟩ : ∃ t, n = t + 1 := ⟨n - 1, by omega⟩
      exact br_t (by rw [show i = 256 by omega]; decide) (hp i (by omega))
    | succ d ih =>
      intro i n hi hd
      obtain ⟨n, rfl⟩ : ∃ t, n = t + 1 := ⟨n - 1, by omega⟩
      refine br_f (nI_ge (b := 256) (by omega) (by decide)) ⟨vp_in_nI (by omega) (by omega), ?_⟩
      rw [nI_clamp (show i < 2 ^ 31 by omega), lq_nb0]
      refine nm_r (e' := fun iz => nI (lq_cp pr (i + 1) iz)) ?_ (nm_r (nI_1 i) (ih (i + 1) n (by omega) (by omega)))
      rw [← lq_cp1]
      exact lq_upd _ i 0
  have l := main 256 0 257 (by omega) (by omega)
  rw [lq_cp0] at l
  unfold wpY_clearSets
  exact ⟨257, l⟩
theorem ly_init199 {post : SY → Prop} (hp : post (nI w, nI b, nI m, 0, 0, (fun _ => 0), (fun _ => 0), (fun _ => 0), (fun _ => 0), (fun _ => 0), (fun _ => 0), (fun _ => 0), (fun _ => 0), (fun _ => 0), (fun _ => 0), (fun i => nI (lq_c0 64 i)), (fun _ => 0), (fun _ => 0))) : ∃ n, wY_init_199 post (nI w) (nI b) (nI m) 0 0 n 0 (fun _ => 0) (fun _ => 0) (fun _ => 0) (fun _ => 0) (fun _ => 0) (fun _ => 0) (fun _ => 0) (fun _ => 0) (fun _ => 0) (fun _ => 0) (fun _ => 0) (fun _ => 0) (fun _ => 0) := by
  have main : ∀ d i n, i + d = 64 → d < n → wY_init_199 post (nI w) (nI b) (nI m) 0 0 n (nI i) (fun _ => 0) (fun _ => 0) (fun _ => 0) (fun _ => 0) (fun _ => 0) (fun _ => 0) (fun _ => 0) (fun _ => 0) (fun _ => 0) (fun _ => 0) (fun iz => nI (lq_c0 i iz)) (fun _ => 0) (fun _ => 0) := by
    intro d
    induction d with
    | zero =>
      intro i n hi hd
      obtain ⟨n, rfl⟩ : ∃ t, n = t + 1 := ⟨n - 1, by omega⟩
      obtain rfl : i = 64 := by omega
      exact br_t (by decide) hp
    | succ d ih =>
      intro i n hi hd
      obtain ⟨n, rfl⟩ : ∃ t, n = t + 1 := ⟨n - 1, by omega⟩
      refine br_f (nI_ge (b := 64) (by omega) (by decide)) ⟨vp_in_nI (by omega) (by omega), ?_⟩
      rw [nI_clamp (show i < 2 ^ 31 by omega), lq_c01]
      exact nm_e (nm_r (nI_1 i) (ih (i + 1) n (by omega) (by omega)))
  have l := main 64 0 65 (by omega) (by omega)
  rw [lq_c00] at l
  exact ⟨65, l⟩
theorem ly_bad {A' B' : Prop} {v : Int32} (hv : v < 0 ∨ nI c ≤ v) (a : A') : (v < 0 → A') ∧ (¬ v < 0 → ((v < nI c → B') ∧ (¬ v < nI c → A'))) := by
  refine br_c (fun _ => a) (fun h0 => br_f (fun h => ?_) a)
  rcases hv with hv | hv
  · exact h0 hv
  · exact Int32.not_lt.mpr hv h
theorem ly_addrR (h : lq_XI w b m c q k p s r kn ad A V D bs ba BV BD ce) {j : Nat} (hj : j < c) {post : Int32 → Prop} (hp : kn j = 1 → post (nI (ad j))) (hn : kn j ≠ 1 → post (-6)) : wpY_address post (nI w, nI b, nI m, nI c, nI q, (fun i => nI (k i)), (fun i => nI (p i)), (fun i => nI (s i)), (fun i => nI (kn i)), (fun i => nI (ad i)), (fun i => nI (r i)), D, (fun i => nI (bs i)), (fun i => nI (ba i)), BD, (fun i => nI (ce i)), (fun i => nI (pr i)), (fun i => nI (rc i))) (nI j) := by
  obtain ⟨h1, h2, h3, h4, h5⟩ := h
  have b1 := h2 j
  have I : vp_in (nI j) 32 := vp_in_nI (by omega) (by omega)
  unfold wpY_address
  refine br_f (nI_pos (by omega)) (br_t (nI_lt hj (by omega)) ⟨I, ?_⟩)
  rw [nI_clamp (show j < 2 ^ 31 by omega)]
  exact pk_eq (kn j) 0 (fun z => hn (by omega)) (fun z => ⟨I, hp (by omega)⟩)
theorem ly_desc (h : lq_XI w b m c q k p s r kn ad A V D bs ba BV BD ce) {j : Nat} (hj : j < c) {post : Int32 → Prop} (hp : post ((((nI (p j) * 32 + nI (s j / 2) * 8) + nI (k j) * 4) + nI (kn j) * 2) + nI (r j))) : wpY_describe post (nI w, nI b, nI m, nI c, nI q, (fun i => nI (k i)), (fun i => nI (p i)), (fun i => nI (s i)), (fun i => nI (kn i)), (fun i => nI (ad i)), (fun i => nI (r i)), D, (fun i => nI (bs i)), (fun i => nI (ba i)), BD, (fun i => nI (ce i)), (fun i => nI (pr i)), (fun i => nI (rc i))) (nI j) := by
  obtain ⟨h1, h2, h3, h4, h5⟩ := h
  obtain ⟨w1, w2, w3, w4⟩ := h3 j hj
  have b1 := h2 j
  have I : vp_in (nI j) 32 := vp_in_nI (by omega) (by omega)
  have cj : (nI j).toNatClampNeg = j := nI_clamp (by omega)
  have s58 : wY_describe_58 post (nI j) (nI (s j / 2)) (nI (kn j)) (nI w) (nI b) (nI m) (nI c) (nI q) (fun i => nI (k i)) (fun i => nI (p i)) (fun i => nI (s i)) (fun i => nI (kn i)) (fun i => nI (ad i)) (fun i => nI (r i)) D (fun i => nI (bs i)) (fun i => nI (ba i)) BD (fun i => nI (ce i)) (fun i => nI (pr i)) (fun i => nI (rc i)) := by
    unfold wY_describe_58 wY_describe_73
    rw [cj]
    refine ⟨I, pk_eq (r j) 0 (fun z => ⟨I, I, ?_⟩) (fun z => ⟨I, I, ?_⟩)⟩
    · rw [z] at hp
      exact hp
    · rw [show r j = 1 by omega] at hp
      exact hp
  have s43 : wY_describe_43 post (nI j) (nI (s j / 2)) (nI w) (nI b) (nI m) (nI c) (nI q) (fun i => nI (k i)) (fun i => nI (p i)) (fun i => nI (s i)) (fun i => nI (kn i)) (fun i => nI (ad i)) (fun i => nI (r i)) D (fun i => nI (bs i)) (fun i => nI (ba i)) BD (fun i => nI (ce i)) (fun i => nI (pr i)) (fun i => nI (rc i)) := by
    unfold wY_describe_43
    rw [cj]
    refine ⟨I, pk_eq (kn j) 0 (fun z => ?_) (fun z => ?_)⟩
    · rw [z] at s58
      exact s58
    · rw [show kn j = 1 by omega] at s58
      exact s58
  unfold wpY_describe
  refine br_f (nI_pos (by omega)) (br_t (nI_lt hj (by omega)) ⟨I, ?_⟩)
  rw [cj]
  refine pk_eq (s j) 1 (fun z => ?_) (fun z => ⟨I, pk_eq (s j) 2 (fun y => ?_) (fun y => ?_)⟩)
  · rw [show s j / 2 = 0 by omega] at s43
    exact s43
  · rw [show s j / 2 = 1 by omega] at s43
    exact s43
  · rw [show s j / 2 = 2 by omega] at s43
    exact s43
end
