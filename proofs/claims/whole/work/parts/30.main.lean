/-! the relation, and what is owed -/
def i_Rel (_ : Nat) (u : SX) (v : SY) : Prop := ∃ (w b m c q : Nat) (k p s r kn ad : Nat → Nat) (A : Nat → Int32) (V : Nat → Int64) (D : Nat → Int32) (bs ba : Nat → Nat) (BV : Nat → Int64) (BD : Nat → Int32) (ce : Nat → Nat) (st : Nat → Int32) (pr rc : Nat → Nat), u = (nI w, nI b, nI m, nI c, nI q, (fun i => nI (k i)), (fun i => nI (p i)), (fun i => nI (s i)), A, (fun i => nI (r i)), V, (fun i => nI (bs i)), (fun i => nI (ba i)), BV, (fun i => nI (ce i)), st) ∧ v = (nI w, nI b, nI m, nI c, nI q, (fun i => nI (k i)), (fun i => nI (p i)), (fun i => nI (s i)), (fun i => nI (kn i)), (fun i => nI (ad i)), (fun i => nI (r i)), D, (fun i => nI (bs i)), (fun i => nI (ba i)), BD, (fun i => nI (ce i)), (fun i => nI (pr i)), (fun i => nI (rc i))) ∧ lq_XI w b m c q k p s r kn ad A V D bs ba BV BD ce ∧ lq_S st pr ∧ (∀ i, pr i ≤ 1) ∧ (∀ i, rc i ≤ 1)
section
variable {w b m c q : Nat} {k p s r kn ad : Nat → Nat} {A : Nat → Int32} {V : Nat → Int64} {D : Nat → Int32} {bs ba : Nat → Nat} {BV : Nat → Int64} {BD : Nat → Int32} {ce : Nat → Nat} {st : Nat → Int32} {pr rc : Nat → Nat}
theorem lr_mk {kk : Nat} (h : lq_XI w b m c q k p s r kn ad A V D bs ba BV BD ce) (hS : lq_S st pr) (hpr : ∀ i, pr i ≤ 1) (hrc : ∀ i, rc i ≤ 1) : i_Rel kk (nI w, nI b, nI m, nI c, nI q, (fun i => nI (k i)), (fun i => nI (p i)), (fun i => nI (s i)), A, (fun i => nI (r i)), V, (fun i => nI (bs i)), (fun i => nI (ba i)), BV, (fun i => nI (ce i)), st) (nI w, nI b, nI m, nI c, nI q, (fun i => nI (k i)), (fun i => nI (p i)), (fun i => nI (s i)), (fun i => nI (kn i)), (fun i => nI (ad i)), (fun i => nI (r i)), D, (fun i => nI (bs i)), (fun i => nI (ba i)), BD, (fun i => nI (ce i)), (fun i => nI (pr i)), (fun i => nI (rc i))) := ⟨w, b, m, c, q, k, p, s, r, kn, ad, A, V, D, bs, ba, BV, BD, ce, st, pr, rc, rfl, rfl, h, hS, hpr, hrc⟩
end
theorem lr_ix (v : Int32) {n : Nat} (hn : n < 2 ^ 31) : (v < 0 ∨ nI n ≤ v) ∨ ∃ j, j < n ∧ v = nI j := by
  rcases pk_ix v hn with h | h | h
  · exact Or.inl (Or.inl h)
  · exact Or.inl (Or.inr h)
  · exact Or.inr h
theorem i_up {k : Nat} {u : SX} {v : SY} (h : i_Rel k u v) : i_Rel (k + 4) u v := h
theorem i_vc0 (k0 : Int32) (k1 : Int32) (k2 : Int32) : wpX_init (fun u => wpY_init (fun v => i_Rel 3 u v) k0 k1 k2) k0 k1 k2 := by
  obtain ⟨w, w1, w2, hw⟩ := lq_clm (lo := 4) (hi := 32) (by decide) (by decide) k0
  obtain ⟨b, b1, b2, hb⟩ := lq_clm (lo := 1) (hi := 8) (by decide) (by decide) k1
  obtain ⟨m, m1, m2, hm⟩ := lq_clm (lo := 8) (hi := 64) (by decide) (by decide) k2
  have y0 : ∀ post : SY → Prop, post (nI w, nI b, nI m, 0, 0, (fun _ => 0), (fun _ => 0), (fun _ => 0), (fun _ => 0), (fun _ => 0), (fun _ => 0), (fun _ => 0), (fun _ => 0), (fun _ => 0), (fun _ => 0), (fun i => nI (lq_c0 64 i)), (fun _ => 0), (fun _ => 0)) → wpY_init post k0 k1 k2 := by
    intro post hp
    have s1 := ly_init199 hp
    have s2 : wY_init_166 post k2 (nI b) (nI w) 0 0 0 0 (fun _ => 0) (fun _ => 0) (fun _ => 0) (fun _ => 0) (fun _ => 0) (fun _ => 0) (fun _ => 0) (fun _ => 0) (fun _ => 0) (fun _ => 0) (fun _ => 0) (fun _ => 0) (fun _ => 0) := hm (fun z => ∃ n, wY_init_199 post (nI w) (nI b) z 0 0 n 0 (fun _ => 0) (fun _ => 0) (fun _ => 0) (fun _ => 0) (fun _ => 0) (fun _ => 0) (fun _ => 0) (fun _ => 0) (fun _ => 0) (fun _ => 0) (fun _ => 0) (fun _ => 0) (fun _ => 0)) s1
    have s3 : wY_init_141 post k1 k2 (nI w) 0 0 0 0 0 (fun _ => 0) (fun _ => 0) (fun _ => 0) (fun _ => 0) (fun _ => 0) (fun _ => 0) (fun _ => 0) (fun _ => 0) (fun _ => 0) (fun _ => 0) (fun _ => 0) (fun _ => 0) (fun _ => 0) := hb (fun z => wY_init_166 post k2 z (nI w) 0 0 0 0 (fun _ => 0) (fun _ => 0) (fun _ => 0) (fun _ => 0) (fun _ => 0) (fun _ => 0) (fun _ => 0) (fun _ => 0) (fun _ => 0) (fun _ => 0) (fun _ => 0) (fun _ => 0) (fun _ => 0)) s2
    exact hw (fun z => wY_init_141 post k1 k2 z 0 0 0 0 0 (fun _ => 0) (fun _ => 0) (fun _ => 0) (fun _ => 0) (fun _ => 0) (fun _ => 0) (fun _ => 0) (fun _ => 0) (fun _ => 0) (fun _ => 0) (fun _ => 0) (fun _ => 0) (fun _ => 0)) s3
  have x0 : ∀ post : SX → Prop, post (nI w, nI b, nI m, 0, 0, (fun _ => 0), (fun _ => 0), (fun _ => 0), (fun _ => 0), (fun _ => 0), (fun _ => 0), (fun _ => 0), (fun _ => 0), (fun _ => 0), (fun i => nI (lq_c0 64 i)), lq_fp (fun _ => 0) 16) → wpX_init post k0 k1 k2 := by
    intro post hp
    have s1 := lx_init139 hp
    exact hw (fun r1 => wpX_clamp (fun r2 => wpX_clamp (fun r3 => ∃ n, wX_init_139 post r1 r2 r3 0 0 n 0 (fun _ => 0) (fun _ => 0) (fun _ => 0) (fun _ => 0) (fun _ => 0) (fun _ => 0) (fun _ => 0) (fun _ => 0) (fun _ => 0) (fun _ => 0) (fun _ => 0)) k2 8 64) k1 1 8) (hb (fun r2 => wpX_clamp (fun r3 => ∃ n, wX_init_139 post (nI w) r2 r3 0 0 n 0 (fun _ => 0) (fun _ => 0) (fun _ => 0) (fun _ => 0) (fun _ => 0) (fun _ => 0) (fun _ => 0) (fun _ => 0) (fun _ => 0) (fun _ => 0) (fun _ => 0)) k2 8 64) (hm (fun r3 => ∃ n, wX_init_139 post (nI w) (nI b) r3 0 0 n 0 (fun _ => 0) (fun _ => 0) (fun _ => 0) (fun _ => 0) (fun _ => 0) (fun _ => 0) (fun _ => 0) (fun _ => 0) (fun _ => 0) (fun _ => 0) (fun _ => 0)) s1))
  refine x0 _ (y0 _ ?_)
  have hS : lq_S (lq_fp (fun _ => 0) 16) (fun _ => 0) := lq_S0 (fun x hx => if_pos hx) (fun _ _ => rfl)
  have h : lq_XI w b m 0 0 (fun _ => 0) (fun _ => 0) (fun _ => 0) (fun _ => 0) (fun _ => 0) (fun _ => 0) (fun _ => 0) (fun _ => 0) (fun _ => 0) (fun _ => 0) (fun _ => 0) (fun _ => 0) (fun _ => 0) (lq_c0 64) := lq_XI0 (by omega) lq_c0lt
  exact lr_mk (kk := 3) (rc := fun _ => 0) h hS (fun _ => Nat.zero_le 1) (fun _ => Nat.zero_le 1)
theorem i_vc_enter {k : Nat} {u : SX} {v : SY} (I : i_Rel k u v) (hk : k + 4 ≤ 2051) (v1 : Int32) (v2 : Int32) (v3 : Int32) : wpX_enter (fun r u' => wpY_enter (fun r' v' => r' = r ∧ i_Rel (k + 4) u' v') v v1 v2 v3) u v1 v2 v3 := by
  obtain ⟨w, b, m, c, q, k, p, s, r, kn, ad, A, V, D, bs, ba, BV, BD, ce, st, pr, rc, rfl, rfl, h, hS, hpr, hrc⟩ := I
  have e := h.1
  by_cases a : v1 = 0 ∨ v1 = 1
  · rcases lr_ix v2 (n := 16) (by decide) with hv | ⟨y, hy, rfl⟩
    · exact lx_enterA a hv (ly_enterA a hv ⟨rfl, lr_mk h hS hpr hrc⟩)
    · by_cases z : v3 = 1 ∨ v3 = 2 ∨ v3 = 4
      · obtain ⟨x, hx, rfl⟩ : ∃ x, x ≤ 1 ∧ v1 = nI x := by
          rcases a with a | a
          · exact ⟨0, by omega, a⟩
          · exact ⟨1, by omega, a⟩
        obtain ⟨t, ht, rfl⟩ : ∃ t, (t = 1 ∨ t = 2 ∨ t = 4) ∧ v3 = nI t := by
          rcases z with z | z | z
          · exact ⟨1, by omega, z⟩
          · exact ⟨2, by omega, z⟩
          · exact ⟨4, by omega, z⟩
        exact lx_enter (by omega) hx hy ht (by omega) (fun f => ly_enter (by omega) hx hy ht (by omega) (fun _ => ⟨rfl, lr_mk h hS hpr hrc⟩) (fun l => absurd f (by omega))) (fun l => ly_enter (by omega) hx hy ht (by omega) (fun f => absurd l (by omega)) (fun _ => ⟨rfl, lr_mk (lq_XIenter h l hx hy ht) hS hpr hrc⟩))
      · exact lx_enterS hy a z (ly_enterS hy a z ⟨rfl, lr_mk h hS hpr hrc⟩)
  · exact lx_enterK (fun z => a (Or.inl z)) (fun z => a (Or.inr z)) (ly_enterK (fun z => a (Or.inl z)) (fun z => a (Or.inr z)) ⟨rfl, lr_mk h hS hpr hrc⟩)
theorem i_vc_setAddress {k : Nat} {u : SX} {v : SY} (I : i_Rel k u v) (hk : k + 4 ≤ 2051) (v1 : Int32) (v2 : Int32) : wpX_setAddress (fun r u' => wpY_setAddress (fun r' v' => r' = r ∧ i_Rel (k + 4) u' v') v v1 v2) u v1 v2 := by
  obtain ⟨w, b, m, c, q, k, p, s, r, kn, ad, A, V, D, bs, ba, BV, BD, ce, st, pr, rc, rfl, rfl, h, hS, hpr, hrc⟩ := I
  have e := h.1
  rcases lr_ix v1 (n := c) (by omega) with hv | ⟨j, hj, rfl⟩
  · unfold wpX_setAddress
    refine lx_npos hv (br_t rfl ?_)
    unfold wpY_setAddress
    exact ly_bad hv ⟨rfl, lr_mk h hS hpr hrc⟩
  · refine lx_addr h hj (fun zn => ?_) (fun zn hv => ?_) (fun a zn ev ha zk => ?_) (fun a zn ev ha zk => ?_)
    · exact ly_addr h hj (fun _ => ⟨rfl, lr_mk h hS hpr hrc⟩) (fun n => absurd zn n) (fun _ n => absurd zn n) (fun _ n => absurd zn n)
    · have wj := (h.2.2.1 j hj).1
      have no : ∀ a, v2 = nI a → a + s j ≤ m → False := fun a ea ha => by
        rw [ea] at hv
        rcases hv with hv | hv
        · exact nI_pos (by omega) hv
        · rw [nI_leI (by omega) (by omega)] at hv
          omega
      exact ly_addr h hj (fun n => absurd n zn) (fun _ _ => ⟨rfl, lr_mk h hS hpr hrc⟩) (fun a _ ea ha _ => (no a ea ha).elim) (fun a _ ea ha _ => (no a ea ha).elim)
    all_goals
      have wj := (h.2.2.1 j hj).1
      have no : ¬ (v2 < 0 ∨ nI (m - s j + 1) ≤ v2) := fun hv => by
        rw [ev] at hv
        rcases hv with hv | hv
        · exact nI_pos (by omega) hv
        · rw [nI_leI (by omega) (by omega)] at hv
          omega
      have eq : ∀ a', v2 = nI a' → a' + s j ≤ m → a' = a := fun a' e' h' => by
        rw [ev, nI_eq (by omega) (by omega)] at e'
        exact e'.symm
    · refine ly_addr h hj (fun n => absurd n zn) (fun _ n => absurd n no) (fun a' _ e' h' _ => ?_) (fun _ _ _ _ n => absurd n zk)
      obtain rfl := eq a' e' h'
      exact ⟨rfl, lr_mk (lq_XIaddrL h hj zk zn ha) hS hpr hrc⟩
    · refine ly_addr h hj (fun n => absurd n zn) (fun _ n => absurd n no) (fun _ _ _ _ n => absurd zk n) (fun a' _ e' h' _ => ?_)
      obtain rfl := eq a' e' h'
      exact ⟨rfl, lr_mk (lq_XIsend h zk zn ha) (lq_f_S (fun i => (h.2.1 i).2.1) (h.2.1 j).2.1 hS c) (lq_pf_le hpr c) hrc⟩
theorem i_vc_setData {k : Nat} {u : SX} {v : SY} (I : i_Rel k u v) (hk : k + 4 ≤ 2051) (v1 : Int32) (v2 : Int32) : wpX_setData (fun r u' => wpY_setData (fun r' v' => r' = r ∧ i_Rel (k + 4) u' v') v v1 v2) u v1 v2 := by
  obtain ⟨w, b, m, c, q, k, p, s, r, kn, ad, A, V, D, bs, ba, BV, BD, ce, st, pr, rc, rfl, rfl, h, hS, hpr, hrc⟩ := I
  have e := h.1
  rcases lr_ix v1 (n := c) (by omega) with hv | ⟨j, hj, rfl⟩
  · unfold wpX_setData
    refine lx_npos hv (br_t rfl ?_)
    unfold wpY_setData
    exact ly_bad hv ⟨rfl, lr_mk h hS hpr hrc⟩
  · refine lx_data h hj (fun zk => ?_) (fun zk zr => ?_) (fun zk zr => ?_)
    · exact ly_data h hj (fun _ => ⟨rfl, lr_mk h hS hpr hrc⟩) (fun n => absurd n zk) (fun n => absurd n zk)
    · exact ly_data h hj (fun n => absurd zk n) (fun _ _ => ⟨rfl, lr_mk h hS hpr hrc⟩) (fun _ n => absurd zr n)
    · exact ly_data h hj (fun n => absurd zk n) (fun _ n => absurd n zr) (fun _ _ => ⟨rfl, lr_mk (lq_XIdata h v2 zk zr) hS hpr hrc⟩)
theorem i_vc_execute {k : Nat} {u : SX} {v : SY} (I : i_Rel k u v) (hk : k + 4 ≤ 2051) (v1 : Int32) : wpX_execute (fun r u' => wpY_execute (fun r' v' => r' = r ∧ i_Rel (k + 4) u' v') v v1) u v1 := by
  obtain ⟨w, b, m, c, q, k, p, s, r, kn, ad, A, V, D, bs, ba, BV, BD, ce, st, pr, rc, rfl, rfl, h, hS, hpr, hrc⟩ := I
  have e := h.1
  rcases lr_ix v1 (n := c) (by omega) with hv | ⟨j, hj, rfl⟩
  · unfold wpX_execute
    refine lx_npos hv (br_t rfl ?_)
    unfold wpY_execute
    exact ly_bad hv ⟨rfl, lr_mk h hS hpr hrc⟩
  · obtain ⟨ans, r', V', ex⟩ := lq_EXex k p s r kn ad V D (fun a => lq_mb bs ba BD ce a q) st j
    obtain ⟨rc', hrc', l⟩ := ly_exec h hS hpr hrc hj ex
    exact lx_exec h hj ex (l _ ⟨rfl, lr_mk (lq_XIex h ex) hS hpr hrc'⟩)
theorem i_vc_executeReady {k : Nat} {u : SX} {v : SY} (I : i_Rel k u v) (hk : k + 4 ≤ 2051) : wpX_executeReady (fun r u' => wpY_executeReady (fun r' v' => r' = r ∧ i_Rel (k + 4) u' v') v) u := by
  obtain ⟨w, b, m, c, q, k, p, s, r, kn, ad, A, V, D, bs, ba, BV, BD, ce, st, pr, rc, rfl, rfl, h, hS, hpr, hrc⟩ := I
  obtain ⟨n, r', V', _, ex⟩ := lq_ERex k p s kn ad D (fun a => lq_mb bs ba BD ce a q) st c 0 r V
  obtain ⟨rc', hrc', l⟩ := ly_er h hS hpr hrc ex
  exact lx_er h ex (l _ ⟨rfl, lr_mk (lq_XIer h ex) hS hpr hrc'⟩)
theorem i_vc_commit {k : Nat} {u : SX} {v : SY} (I : i_Rel k u v) (hk : k + 4 ≤ 2051) : wpX_commit (fun r u' => wpY_commit (fun r' v' => r' = r ∧ i_Rel (k + 4) u' v') v) u := by
  obtain ⟨w, b, m, c, q, k, p, s, r, kn, ad, A, V, D, bs, ba, BV, BD, ce, st, pr, rc, rfl, rfl, h, hS, hpr, hrc⟩ := I
  have e := h.1
  cases c with
  | zero => exact lx_com0 (ly_com0 ⟨rfl, lr_mk h hS hpr hrc⟩)
  | succ c =>
    by_cases z : r 0 ≠ 1 ∨ kn 0 ≠ 1
    · exact lx_comN h z (ly_comN h z ⟨rfl, lr_mk h hS hpr hrc⟩)
    · have zr : r 0 = 1 := by omega
      have zn : kn 0 = 1 := by omega
      by_cases zk : k 0 = 1
      · exact lx_comS h zk zr zn (fun f => ly_comS h zk zr zn (fun _ => ⟨rfl, lr_mk h hS hpr hrc⟩) (fun l => absurd f (by omega))) (fun l => ly_comS h zk zr zn (fun f => absurd l (by omega)) (fun _ => ⟨rfl, lr_mk (lq_XIcommitS h zk zn zr l) hS hpr hrc⟩))
      · exact lx_comL h zk zr (ly_comL h zk zr ⟨rfl, lr_mk (lq_XIcommitL h zk) hS hpr hrc⟩)
theorem i_vc_drain {k : Nat} {u : SX} {v : SY} (I : i_Rel k u v) (hk : k + 4 ≤ 2051) : wpX_drain (fun r u' => wpY_drain (fun r' v' => r' = r ∧ i_Rel (k + 4) u' v') v) u := by
  obtain ⟨w, b, m, c, q, k, p, s, r, kn, ad, A, V, D, bs, ba, BV, BD, ce, st, pr, rc, rfl, rfl, h, hS, hpr, hrc⟩ := I
  cases q with
  | zero => exact lx_drain0 (ly_drain0 ⟨rfl, lr_mk h hS hpr hrc⟩)
  | succ q => exact lx_drain h (ly_drain h ⟨rfl, lr_mk (lq_XIdrain h) hS hpr hrc⟩)
theorem i_vc_discard {k : Nat} {u : SX} {v : SY} (I : i_Rel k u v) (hk : k + 4 ≤ 2051) (v1 : Int32) : wpX_discard (fun r u' => wpY_discard (fun r' v' => r' = r ∧ i_Rel (k + 4) u' v') v v1) u v1 := by
  obtain ⟨w, b, m, c, q, k, p, s, r, kn, ad, A, V, D, bs, ba, BV, BD, ce, st, pr, rc, rfl, rfl, h, hS, hpr, hrc⟩ := I
  have e := h.1
  rcases lr_ix v1 (n := c) (by omega) with hv | ⟨j, hj, rfl⟩
  · unfold wpX_discard
    refine lx_npos hv (br_t rfl ?_)
    unfold wpY_discard
    exact ly_bad hv ⟨rfl, lr_mk h hS hpr hrc⟩
  · exact lx_disc hj (by omega) (ly_disc hj (by omega) ⟨rfl, lr_mk (lq_XIdiscard h (by omega)) hS hpr hrc⟩)
theorem i_vc_clearSets {k : Nat} {u : SX} {v : SY} (I : i_Rel k u v) (hk : k + 4 ≤ 2051) : wpX_clearSets (fun u' => wpY_clearSets (fun v' => i_Rel (k + 4) u' v') v) u := by
  obtain ⟨w, b, m, c, q, k, p, s, r, kn, ad, A, V, D, bs, ba, BV, BD, ce, st, pr, rc, rfl, rfl, h, hS, hpr, hrc⟩ := I
  refine lx_clear (ly_clear (fun g hg => lr_mk h (lq_S0 (fun x hx => if_pos hx) (fun i hi => if_pos (by omega))) (fun i => ?_) hrc))
  unfold lq_cp
  split
  · exact Nat.zero_le 1
  · exact hpr i
theorem i_vc_count {k : Nat} {u : SX} {v : SY} (I : i_Rel k u v) (hk : k + 4 ≤ 2051) : wpX_count (fun r => wpY_count (fun r' => r' = r ∧ i_Rel (k + 4) u v) v) u := by
  obtain ⟨w, b, m, c, q, k, p, s, r, kn, ad, A, V, D, bs, ba, BV, BD, ce, st, pr, rc, rfl, rfl, h, hS, hpr, hrc⟩ := I
  exact ⟨rfl, lr_mk h hS hpr hrc⟩
theorem i_vc_pending {k : Nat} {u : SX} {v : SY} (I : i_Rel k u v) (hk : k + 4 ≤ 2051) : wpX_pending (fun r => wpY_pending (fun r' => r' = r ∧ i_Rel (k + 4) u v) v) u := by
  obtain ⟨w, b, m, c, q, k, p, s, r, kn, ad, A, V, D, bs, ba, BV, BD, ce, st, pr, rc, rfl, rfl, h, hS, hpr, hrc⟩ := I
  exact ⟨rfl, lr_mk h hS hpr hrc⟩
theorem i_vc_describe {k : Nat} {u : SX} {v : SY} (I : i_Rel k u v) (hk : k + 4 ≤ 2051) (v1 : Int32) : wpX_describe (fun r => wpY_describe (fun r' => r' = r ∧ i_Rel (k + 4) u v) v v1) u v1 := by
  obtain ⟨w, b, m, c, q, k, p, s, r, kn, ad, A, V, D, bs, ba, BV, BD, ce, st, pr, rc, rfl, rfl, h, hS, hpr, hrc⟩ := I
  have e := h.1
  rcases lr_ix v1 (n := c) (by omega) with hv | ⟨j, hj, rfl⟩
  · unfold wpX_describe
    refine lx_npos hv (br_t rfl ?_)
    unfold wpY_describe
    exact ly_bad hv ⟨rfl, lr_mk h hS hpr hrc⟩
  · exact lx_desc h hj (ly_desc h hj ⟨rfl, lr_mk h hS hpr hrc⟩)
theorem i_vc_address {k : Nat} {u : SX} {v : SY} (I : i_Rel k u v) (hk : k + 4 ≤ 2051) (v1 : Int32) : wpX_address (fun r => wpY_address (fun r' => r' = r ∧ i_Rel (k + 4) u v) v v1) u v1 := by
  obtain ⟨w, b, m, c, q, k, p, s, r, kn, ad, A, V, D, bs, ba, BV, BD, ce, st, pr, rc, rfl, rfl, h, hS, hpr, hrc⟩ := I
  have e := h.1
  rcases lr_ix v1 (n := c) (by omega) with hv | ⟨j, hj, rfl⟩
  · unfold wpX_address
    refine lx_npos hv (br_t rfl ?_)
    unfold wpY_address
    exact ly_bad hv ⟨rfl, lr_mk h hS hpr hrc⟩
  · exact lx_addrR h hj (fun z => ly_addrR h hj (fun _ => ⟨rfl, lr_mk h hS hpr hrc⟩) (fun n => absurd z n)) (fun z => ly_addrR h hj (fun n => absurd n z) (fun _ => ⟨rfl, lr_mk h hS hpr hrc⟩))
theorem i_vc_value {k : Nat} {u : SX} {v : SY} (I : i_Rel k u v) (hk : k + 4 ≤ 2051) (v1 : Int32) : wpX_value (fun r => wpY_value (fun r' => r' = r ∧ i_Rel (k + 4) u v) v v1) u v1 := by
  obtain ⟨w, b, m, c, q, k, p, s, r, kn, ad, A, V, D, bs, ba, BV, BD, ce, st, pr, rc, rfl, rfl, h, hS, hpr, hrc⟩ := I
  have e := h.1
  rcases lr_ix v1 (n := c) (by omega) with hv | ⟨j, hj, rfl⟩
  · unfold wpX_value
    refine lx_npos hv (br_t rfl ?_)
    unfold wpY_value
    exact ly_bad hv ⟨rfl, lr_mk h hS hpr hrc⟩
  · exact lx_value h hj (fun z => ly_value h hj (fun _ => ⟨rfl, lr_mk h hS hpr hrc⟩) (fun n => absurd z n)) (fun z => ly_value h hj (fun n => absurd n z) (fun _ => ⟨rfl, lr_mk h hS hpr hrc⟩))
theorem i_vc_memory {k : Nat} {u : SX} {v : SY} (I : i_Rel k u v) (hk : k + 4 ≤ 2051) (v1 : Int32) (v2 : Int32) : wpX_memory (fun r => wpY_memory (fun r' => r' = r ∧ i_Rel (k + 4) u v) v v1 v2) u v1 v2 := by
  obtain ⟨w, b, m, c, q, k, p, s, r, kn, ad, A, V, D, bs, ba, BV, BD, ce, st, pr, rc, rfl, rfl, h, hS, hpr, hrc⟩ := I
  have e := h.1
  by_cases z : v1 < 0 ∨ nI m ≤ v1 ∨ v2 < 0 ∨ ¬ v2 ≤ nI q
  · exact lx_memB z (ly_memB z ⟨rfl, lr_mk h hS hpr hrc⟩)
  · rcases lr_ix v1 (n := m) (by omega) with hv | ⟨x, hx, rfl⟩
    · exact absurd (by rcases hv with hv | hv; exact Or.inl hv; exact Or.inr (Or.inl hv)) z
    · have h0 : ¬ v2 < 0 := fun y => z (Or.inr (Or.inr (Or.inl y)))
      obtain ⟨j, hj, rfl⟩ := nI_of h0
      have hj' : j ≤ q := by
        apply Classical.byContradiction
        intro y
        exact z (Or.inr (Or.inr (Or.inr (nI_ge (by omega) hj))))
      exact lx_mem h hx hj' (ly_mem (by omega) (by omega) h.2.2.2.1 hx hj' ⟨rfl, lr_mk h hS hpr hrc⟩)
theorem i_vc_sameSet {k : Nat} {u : SX} {v : SY} (I : i_Rel k u v) (hk : k + 4 ≤ 2051) (v1 : Int32) (v2 : Int32) : wpX_sameSet (fun r => wpY_sameSet (fun r' v' => r' = r ∧ i_Rel (k + 4) u v') v v1 v2) u v1 v2 := by
  obtain ⟨w, b, m, c, q, k, p, s, r, kn, ad, A, V, D, bs, ba, BV, BD, ce, st, pr, rc, rfl, rfl, h, hS, hpr, hrc⟩ := I
  rcases lr_ix v1 (n := 16) (by decide) with hv | ⟨x, hx, rfl⟩
  · refine lx_sameB (Or.inl hv) ?_
    unfold wpY_sameSet
    refine br_c (fun _ => ⟨rfl, lr_mk h hS hpr hrc⟩) (fun h0 => br_t ?_ ⟨rfl, lr_mk h hS hpr hrc⟩)
    obtain ⟨x, hx, rfl⟩ := nI_of h0
    rcases hv with hv | hv
    · exact absurd hv h0
    · rw [nI_leI (by decide) hx] at hv
      exact nI_lt (a := 15) (by omega) hx
  · rcases lr_ix v2 (n := 16) (by decide) with hv | ⟨y, hy, rfl⟩
    · refine lx_sameB (Or.inr ⟨⟨x, hx, rfl⟩, hv⟩) ?_
      unfold wpY_sameSet
      exact br_f (nI_pos (by omega)) (br_f (nI_nlt (a := 15) (b := x) (by omega) (by decide)) (ly_npc hv ⟨rfl, lr_mk h hS hpr hrc⟩))
    · obtain ⟨rc', hrc', l⟩ := ly_same (rc := rc) hS hpr hrc hx hy
      exact lx_same hx hy (fun z => l _ _ _ _ _ _ _ _ _ _ _ _ _ _ _ _ _ (fun _ => ⟨rfl, lr_mk h hS hpr hrc'⟩) (fun n => absurd z n)) (fun z => l _ _ _ _ _ _ _ _ _ _ _ _ _ _ _ _ _ (fun n => absurd n z) (fun _ => ⟨rfl, lr_mk h hS hpr hrc'⟩))
