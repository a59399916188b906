/-! the class: positions, pcs, sizes, pairs, the loads sent back, setAddress, setData, execute -/
section
variable {w b m c q : Nat} {k p s r kn ad : Nat → Nat} {A : Nat → Int32} {V : Nat → Int64} {D : Nat → Int32} {bs ba : Nat → Nat} {BV : Nat → Int64} {BD : Nat → Int32} {ce : Nat → Nat} {st : Nat → Int32}
theorem lx_pos {post : Int32 → Prop} {j : Nat} (hj : j < c) (hc : c ≤ 32) (hp : post 1) : wpX_isPosition post (nI w, nI b, nI m, nI c, nI q, (fun i => nI (k i)), (fun i => nI (p i)), (fun i => nI (s i)), A, (fun i => nI (r i)), V, (fun i => nI (bs i)), (fun i => nI (ba i)), BV, (fun i => nI (ce i)), st) (nI j) := by
  unfold wpX_isPosition
  exact br_f (nI_pos (by omega)) (br_f (nI_ge hj (by omega)) hp)
theorem lx_npos {post : Int32 → Prop} {v : Int32} (hv : v < 0 ∨ nI c ≤ v) (hp : post 0) : wpX_isPosition post (nI w, nI b, nI m, nI c, nI q, (fun i => nI (k i)), (fun i => nI (p i)), (fun i => nI (s i)), A, (fun i => nI (r i)), V, (fun i => nI (bs i)), (fun i => nI (ba i)), BV, (fun i => nI (ce i)), st) v := by
  unfold wpX_isPosition
  rcases hv with hv | hv
  · exact br_t hv hp
  · exact br_c (fun _ => hp) (fun _ => br_t hv hp)
theorem lx_pc {post : Int32 → Prop} {y : Nat} (hy : y < 16) (hp : post 1) : wpX_isPc post () (nI y) := br_f (nI_pos (by omega)) (br_f (nI_ge (b := 16) hy (by decide)) hp)
theorem lx_npc {post : Int32 → Prop} {v : Int32} (hv : v < 0 ∨ nI 16 ≤ v) (hp : post 0) : wpX_isPc post () v := by
  rcases hv with hv | hv
  · exact br_t hv hp
  · exact br_c (fun _ => hp) (fun _ => br_t hv hp)
theorem lx_size {post : Int32 → Prop} {v : Int32} (hp : v = 1 ∨ v = 2 ∨ v = 4 → post 1) (hn : ¬ (v = 1 ∨ v = 2 ∨ v = 4) → post 0) : wpX_isSize post () v :=
  br_c (fun z => hp (Or.inl z)) (fun z1 => br_c (fun z => hp (Or.inr (Or.inl z))) (fun z2 => br_c (fun z => hp (Or.inr (Or.inr z))) (fun z3 => hn (fun z => by
    rcases z with z | z | z
    · exact z1 z
    · exact z2 z
    · exact z3 z))))
theorem lx_rem52 {post : St2 → Prop} {K P S : Nat → Int32} {R : Nat → Int32} {BS BA CE : Nat → Int32} {t : Nat → Int32} {kept merged : Int32} (hp : post (nI w, nI b, nI m, nI c, nI q, K, P, S, A, R, V, BS, BA, BV, CE, lq_mg t kept merged 16)) : ∀ d i n, i + d = 16 → d < n → wX_rememberPair_52 post kept merged (nI w) (nI b) (nI m) (nI c) (nI q) n (nI i) K P S A R V BS BA BV CE (lq_mg t kept merged i) := by
  intro d
  induction d with
  | zero =>
    intro i n hi hd
    obtain ⟨n, rfl⟩ : ∃ t, n = t + 1 := ⟨n - 1, by omega⟩
    obtain rfl : i = 16 := by omega
    exact br_t (by decide) hp
  | succ d ih =>
    intro i n hi hd
    obtain ⟨n, rfl⟩ : ∃ t, n = t + 1 := ⟨n - 1, by omega⟩
    have I : vp_in (nI i) 16 := vp_in_nI (by omega) (by omega)
    have ih' := ih (i + 1) n (by omega) (by omega)
    refine br_f (nI_ge (b := 16) (by omega) (by decide)) ⟨I, ?_⟩
    rw [nI_clamp (show i < 2 ^ 31 by omega), lq_mgs]
    refine br_c (fun z => ⟨I, nm_r (lq_mg1 t kept merged i z) (nm_r (nI_1 i) ih')⟩) (fun z => nm_r (nI_1 i) ?_)
    rw [lq_mg2 t kept merged i z]
    exact ih'
theorem lx_rem {post : St2 → Prop} {K P S : Nat → Int32} {R : Nat → Int32} {BS BA CE : Nat → Int32} {a e : Nat} (ha : a < 16) (he : e < 16) (hp : post (nI w, nI b, nI m, nI c, nI q, K, P, S, A, R, V, BS, BA, BV, CE, lq_rp st a e)) : wpX_rememberPair post (nI w, nI b, nI m, nI c, nI q, K, P, S, A, R, V, BS, BA, BV, CE, st) (nI a) (nI e) := by
  have Ia : vp_in (nI a) 16 := vp_in_nI (by omega) (by omega)
  have Ie : vp_in (nI e) 16 := vp_in_nI (by omega) (by omega)
  have ca : (nI a).toNatClampNeg = a := nI_clamp (by omega)
  have ce' : (nI e).toNatClampNeg = e := nI_clamp (by omega)
  have s34 : wX_rememberPair_34 post (nI a) (nI e) (nI w) (nI b) (nI m) (nI c) (nI q) K P S A R V BS BA BV CE (lq_t st a e) := by
    unfold wX_rememberPair_34
    rw [ca, ce']
    have l := lx_rem52 (t := lq_t st a e) (kept := lq_t st a e a) (merged := lq_t st a e e) hp 16 0 17 (by omega) (by omega)
    rw [lq_mg0] at l
    exact ⟨Ia, nm_e ⟨Ie, nm_e ⟨17, l⟩⟩⟩
  have s17 : wX_rememberPair_17 post (nI a) (nI e) (nI w) (nI b) (nI m) (nI c) (nI q) K P S A R V BS BA BV CE (lq_nm st a) := by
    unfold wX_rememberPair_17
    rw [ce']
    refine ⟨Ie, br_c (fun z => ⟨Ie, nm_r (e' := lq_t st a e) ?_ s34⟩) (fun z => ?_)⟩
    · have e1 : lq_t st a e = upd (lq_nm st a) e (nI e) := if_pos z
      exact e1.symm
    · have e1 : lq_t st a e = lq_nm st a := if_neg z
      rw [e1] at s34
      exact s34
  unfold wpX_rememberPair
  refine ⟨Ia, ?_⟩
  rw [ca]
  refine br_c (fun z => ⟨Ia, nm_r (e' := lq_nm st a) ?_ s17⟩) (fun z => ?_)
  · unfold lq_nm
    rw [if_pos z]
  · have e1 : lq_nm st a = st := if_neg z
    rw [e1] at s17
    exact s17
theorem lx_send (h : lq_G m c k p s r kn ad A) {j : Nat} (hj : j < c) (hL : ∀ i, i < c → k i ≠ 1 → r i = 1 → kn i = 1) {post : Int32 → St2 → Prop} (hp : post (nI (lq_ct (lq_M k s r kn ad j) c)) (nI w, nI b, nI m, nI c, nI q, (fun i => nI (k i)), (fun i => nI (p i)), (fun i => nI (s i)), A, (fun iz => nI ((lq_rb (lq_M k s r kn ad j) r c) iz)), V, (fun i => nI (bs i)), (fun i => nI (ba i)), BV, (fun i => nI (ce i)), lq_sf (lq_M k s r kn ad j) p (p j) st c)) : wpX_sendBackLoadsThatMissed post (nI w, nI b, nI m, nI c, nI q, (fun i => nI (k i)), (fun i => nI (p i)), (fun i => nI (s i)), A, (fun i => nI (r i)), V, (fun i => nI (bs i)), (fun i => nI (ba i)), BV, (fun i => nI (ce i)), st) (nI j) := by
  have h' := h
  obtain ⟨h1, h0, h2, h3⟩ := h
  generalize hM : lq_M k s r kn ad j = M at *
  have Ij : vp_in (nI j) 32 := vp_in_nI (by omega) (by omega)
  have cj : (nI j).toNatClampNeg = j := nI_clamp (by omega)
  have main : ∀ d i n, i + d = c → d < n → j < i → wX_sendBackLoadsThatMissed_6 post (nI j) n (nI (lq_ct M i)) (nI i) (nI w) (nI b) (nI m) (nI c) (nI q) (fun i => nI (k i)) (fun i => nI (p i)) (fun i => nI (s i)) A (fun iz => nI ((lq_rb M r i) iz)) V (fun i => nI (bs i)) (fun i => nI (ba i)) BV (fun i => nI (ce i)) (lq_sf M p (p j) st i) := by
    intro d
    induction d with
    | zero =>
      intro i n hi hd hji
      obtain ⟨n, rfl⟩ : ∃ t, n = t + 1 := ⟨n - 1, by omega⟩
      obtain rfl : i = c := by omega
      exact br_t (nI_le (Nat.le_refl _) (by omega)) hp
    | succ d ih =>
      intro i n hi hd hji
      obtain ⟨n, rfl⟩ : ∃ t, n = t + 1 := ⟨n - 1, by omega⟩
      have I : vp_in (nI i) 32 := vp_in_nI (by omega) (by omega)
      have b1 := h2 i
      have ih' := ih (i + 1) n (by omega) (by omega) (by omega)
      have skip : ¬ M i → wX_sendBackLoadsThatMissed_6 post (nI j) n (nI (lq_ct M i)) (nI (i + 1)) (nI w) (nI b) (nI m) (nI c) (nI q) (fun i => nI (k i)) (fun i => nI (p i)) (fun i => nI (s i)) A (fun iz => nI ((lq_rb M r i) iz)) V (fun i => nI (bs i)) (fun i => nI (ba i)) BV (fun i => nI (ce i)) (lq_sf M p (p j) st i) := fun z => by
        rw [lq_ct_f z, ← lq_rb_f z, lq_sf_f z] at ih'
        exact ih'
      have mi : M i ↔ j < i ∧ k i = 0 ∧ r i = 1 ∧ ∃ x, x < s i ∧ lq_src k s kn ad (ad i + x) i = some j := by
        rw [← hM]
        exact Iff.rfl
      refine br_f (nI_ge (by omega) (by omega)) ⟨I, ?_⟩
      rw [nI_clamp (show i < 2 ^ 31 by omega), cj]
      refine pk_eq (k i) 0 (fun zk => ⟨I, ?_⟩) (fun zk => nm_r (nI_1 i) (skip (fun z => zk (mi.mp z).2.1)))
      refine pk_eq (r i) 0 (fun zr => nm_r (nI_1 i) (skip (fun z => by have := (mi.mp z).2.2.1; omega))) (fun zr => ?_) (congrArg nI (lq_rb_at M r i))
      have G' : lq_G m c k p s (lq_rb M r i) kn ad A := ⟨h1, h0, fun y => ⟨(h2 y).1, (h2 y).2.1, Nat.le_trans (lq_rb_le M r i y) (h2 y).2.2.1, (h2 y).2.2.2⟩, h3⟩
      refine lx_draws G' (by omega) (by omega) (hL i (by omega) (by omega) (by omega)) (fun z => br_f (by decide) ⟨I, ?_⟩) (fun z => br_t rfl (nm_r (nI_1 i) (skip (fun y => z (mi.mp y).2.2.2))))
      have z' : M i := mi.mpr ⟨hji, zk, by omega, z⟩
      refine nm_r (e' := fun iz => nI (lq_rb M r (i + 1) iz)) ?_ ⟨I, Ij, ?_⟩
      · rw [← lq_rb_t z']
        exact lq_upd _ i 0
      · refine lx_rem (h2 i).2.1 (h2 j).2.1 (nm_r (e' := nI (lq_ct M (i + 1))) ?_ (nm_r (nI_1 i) ?_))
        · rw [nI_1, ← lq_ct_t z']
        · rw [lq_sf_t z'] at ih'
          exact ih'
  have none : ∀ i, i < j + 1 → ¬ M i := fun i hi z => by
    rw [← hM] at z
    have := z.1
    omega
  have l := main (c - (j + 1)) (j + 1) (c - j) (by omega) (by omega) (by omega)
  rw [lq_ct_0 (j + 1) none, lq_rb_0 none, lq_sf_0 (j + 1) none] at l
  unfold wpX_sendBackLoadsThatMissed
  exact nm_r (nI_1 j) ⟨c - j, l⟩
end

