/-! the reference: enter, setAddress, setData, execute, executeReady -/
section
variable {w b m c q : Nat} {k p s r kn ad : Nat → Nat} {A : Nat → Int32} {V : Nat → Int64} {D : Nat → Int32} {bs ba : Nat → Nat} {BV : Nat → Int64} {BD : Nat → Int32} {ce : Nat → Nat} {st : Nat → Int32} {pr rc : Nat → Nat}
theorem ly_enter (hw : w ≤ 32) {x y z : Nat} (hx : x ≤ 1) (hy : y < 16) (hz : z = 1 ∨ z = 2 ∨ z = 4) (hc : c ≤ w) {post : Int32 → SY → Prop} (hf : c = w → post (-5) (nI w, nI b, nI m, nI c, nI q, (fun i => nI (k i)), (fun i => nI (p i)), (fun i => nI (s i)), (fun i => nI (kn i)), (fun i => nI (ad i)), (fun i => nI (r i)), D, (fun i => nI (bs i)), (fun i => nI (ba i)), BD, (fun i => nI (ce i)), (fun i => nI (pr i)), (fun i => nI (rc i)))) (hp : c < w → post (nI c) (nI w, nI b, nI m, nI (c + 1), nI q, (fun iz => nI ((lq_un k c x) iz)), (fun iz => nI ((lq_un p c y) iz)), (fun iz => nI ((lq_un s c z) iz)), (fun iz => nI ((lq_un kn c 0) iz)), (fun iz => nI ((lq_un ad c 0) iz)), (fun iz => nI ((lq_un r c 0) iz)), upd D c 0, (fun i => nI (bs i)), (fun i => nI (ba i)), BD, (fun i => nI (ce i)), (fun i => nI (pr i)), (fun i => nI (rc i)))) : wpY_enter post (nI w, nI b, nI m, nI c, nI q, (fun i => nI (k i)), (fun i => nI (p i)), (fun i => nI (s i)), (fun i => nI (kn i)), (fun i => nI (ad i)), (fun i => nI (r i)), D, (fun i => nI (bs i)), (fun i => nI (ba i)), BD, (fun i => nI (ce i)), (fun i => nI (pr i)), (fun i => nI (rc i))) (nI x) (nI y) (nI z) := by
  have l43 : wY_enter_43 post (nI x) (nI y) (nI z) (nI w) (nI b) (nI m) (nI c) (nI q) (fun i => nI (k i)) (fun i => nI (p i)) (fun i => nI (s i)) (fun i => nI (kn i)) (fun i => nI (ad i)) (fun i => nI (r i)) D (fun i => nI (bs i)) (fun i => nI (ba i)) BD (fun i => nI (ce i)) (fun i => nI (pr i)) (fun i => nI (rc i)) := by
    unfold wY_enter_43
    refine pk_lt c w (fun l => ?_) (fun l => hf (by omega))
    have I : vp_in (nI c) 32 := vp_in_nI (by omega) (by omega)
    rw [nI_clamp (show c < 2 ^ 31 by omega), lq_nb0]
    refine ⟨I, nm_r (lq_upd k c x) ⟨I, nm_r (lq_upd p c y) ⟨I, nm_r (lq_upd s c z) ⟨I, nm_r (lq_upd kn c 0) ⟨I, nm_r (lq_upd ad c 0) ⟨I, nm_r (lq_upd r c 0) ⟨I, nm_e (nm_r (nI_1 c) ?_)⟩⟩⟩⟩⟩⟩⟩
    rw [nI_pred]
    exact hp l
  have main : wY_enter_12 post (nI x) (nI y) (nI z) (nI w) (nI b) (nI m) (nI c) (nI q) (fun i => nI (k i)) (fun i => nI (p i)) (fun i => nI (s i)) (fun i => nI (kn i)) (fun i => nI (ad i)) (fun i => nI (r i)) D (fun i => nI (bs i)) (fun i => nI (ba i)) BD (fun i => nI (ce i)) (fun i => nI (pr i)) (fun i => nI (rc i)) := by
    unfold wY_enter_12
    refine br_f (nI_pos (by omega)) (br_t (nI_le (b := 15) (by omega) (by decide)) ?_)
    exact pk_eq z 1 (fun _ => l43) (fun z1 => pk_eq z 2 (fun _ => l43) (fun z2 => pk_eq z 4 (fun _ => l43) (fun z3 => absurd hz (by omega))))
  unfold wpY_enter
  exact pk_eq x 0 (fun _ => main) (fun _ => pk_eq x 1 (fun _ => main) (fun _ => absurd hx (by omega)))
theorem ly_enterK {post : Int32 → SY → Prop} {v1 v2 v3 : Int32} (h0 : ¬ v1 = 0) (h1 : ¬ v1 = 1) (hp : post (-2) (nI w, nI b, nI m, nI c, nI q, (fun i => nI (k i)), (fun i => nI (p i)), (fun i => nI (s i)), (fun i => nI (kn i)), (fun i => nI (ad i)), (fun i => nI (r i)), D, (fun i => nI (bs i)), (fun i => nI (ba i)), BD, (fun i => nI (ce i)), (fun i => nI (pr i)), (fun i => nI (rc i)))) : wpY_enter post (nI w, nI b, nI m, nI c, nI q, (fun i => nI (k i)), (fun i => nI (p i)), (fun i => nI (s i)), (fun i => nI (kn i)), (fun i => nI (ad i)), (fun i => nI (r i)), D, (fun i => nI (bs i)), (fun i => nI (ba i)), BD, (fun i => nI (ce i)), (fun i => nI (pr i)), (fun i => nI (rc i))) v1 v2 v3 := by
  unfold wpY_enter
  exact br_f h0 (br_f h1 hp)
theorem ly_npc {A B : Prop} {v : Int32} (hv : v < 0 ∨ nI 16 ≤ v) (a : A) : (v < 0 → A) ∧ (¬ v < 0 → ((v ≤ 15 → B) ∧ (¬ v ≤ 15 → A))) := by
  refine br_c (fun _ => a) (fun h0 => br_f (fun h => ?_) a)
  rcases hv with hv | hv
  · exact h0 hv
  · obtain ⟨x, hx, rfl⟩ := nI_of h0
    have h1 := (nI_leI (b := 15) hx (by decide)).mp h
    have h2 := (nI_leI (a := 16) (by decide) hx).mp hv
    omega
theorem ly_enterA {post : Int32 → SY → Prop} {v1 v2 v3 : Int32} (h0 : v1 = 0 ∨ v1 = 1) (h1 : v2 < 0 ∨ nI 16 ≤ v2) (hp : post (-3) (nI w, nI b, nI m, nI c, nI q, (fun i => nI (k i)), (fun i => nI (p i)), (fun i => nI (s i)), (fun i => nI (kn i)), (fun i => nI (ad i)), (fun i => nI (r i)), D, (fun i => nI (bs i)), (fun i => nI (ba i)), BD, (fun i => nI (ce i)), (fun i => nI (pr i)), (fun i => nI (rc i)))) : wpY_enter post (nI w, nI b, nI m, nI c, nI q, (fun i => nI (k i)), (fun i => nI (p i)), (fun i => nI (s i)), (fun i => nI (kn i)), (fun i => nI (ad i)), (fun i => nI (r i)), D, (fun i => nI (bs i)), (fun i => nI (ba i)), BD, (fun i => nI (ce i)), (fun i => nI (pr i)), (fun i => nI (rc i))) v1 v2 v3 := by
  have main : wY_enter_12 post v1 v2 v3 (nI w) (nI b) (nI m) (nI c) (nI q) (fun i => nI (k i)) (fun i => nI (p i)) (fun i => nI (s i)) (fun i => nI (kn i)) (fun i => nI (ad i)) (fun i => nI (r i)) D (fun i => nI (bs i)) (fun i => nI (ba i)) BD (fun i => nI (ce i)) (fun i => nI (pr i)) (fun i => nI (rc i)) := by
    unfold wY_enter_12
    exact ly_npc h1 hp
  unfold wpY_enter
  exact br_c (fun _ => main) (fun z => br_t (by rcases h0 with h0 | h0; exact absurd h0 z; exact h0) main)
theorem ly_enterS {post : Int32 → SY → Prop} {v1 v3 : Int32} {y : Nat} (hy : y < 16) (h0 : v1 = 0 ∨ v1 = 1) (h1 : ¬ (v3 = 1 ∨ v3 = 2 ∨ v3 = 4)) (hp : post (-3) (nI w, nI b, nI m, nI c, nI q, (fun i => nI (k i)), (fun i => nI (p i)), (fun i => nI (s i)), (fun i => nI (kn i)), (fun i => nI (ad i)), (fun i => nI (r i)), D, (fun i => nI (bs i)), (fun i => nI (ba i)), BD, (fun i => nI (ce i)), (fun i => nI (pr i)), (fun i => nI (rc i)))) : wpY_enter post (nI w, nI b, nI m, nI c, nI q, (fun i => nI (k i)), (fun i => nI (p i)), (fun i => nI (s i)), (fun i => nI (kn i)), (fun i => nI (ad i)), (fun i => nI (r i)), D, (fun i => nI (bs i)), (fun i => nI (ba i)), BD, (fun i => nI (ce i)), (fun i => nI (pr i)), (fun i => nI (rc i))) v1 (nI y) v3 := by
  have main : wY_enter_12 post v1 (nI y) v3 (nI w) (nI b) (nI m) (nI c) (nI q) (fun i => nI (k i)) (fun i => nI (p i)) (fun i => nI (s i)) (fun i => nI (kn i)) (fun i => nI (ad i)) (fun i => nI (r i)) D (fun i => nI (bs i)) (fun i => nI (ba i)) BD (fun i => nI (ce i)) (fun i => nI (pr i)) (fun i => nI (rc i)) := by
    unfold wY_enter_12
    exact br_f (nI_pos (by omega)) (br_t (nI_le (b := 15) (by omega) (by decide)) (br_f (fun z => h1 (Or.inl z)) (br_f (fun z => h1 (Or.inr (Or.inl z))) (br_f (fun z => h1 (Or.inr (Or.inr z))) hp))))
  unfold wpY_enter
  exact br_c (fun _ => main) (fun z => br_t (by rcases h0 with h0 | h0; exact absurd h0 z; exact h0) main)
theorem ly_a115 (h : lq_G m c k p s r kn ad A) {post : Int32 → SY → Prop} {J80 : Int32 → Int32 → (Nat → Int32) → (Nat → Int32) → (Nat → Int32) → (Nat → Int32) → (Nat → Int32) → (Nat → Int32) → (Nat → Int32) → (Nat → Int32) → (Nat → Int32) → (Nat → Int32) → (Nat → Int32) → (Nat → Int32) → (Nat → Int32) → Prop} {j i t : Nat} (hj : j < c) (hi : i < c) (hk : kn i = 1) (hn : (¬ ∃ x, x < s i ∧ lq_src k s kn ad (ad i + x) i = some j) → J80 (nI t) (nI (i + 1)) (fun i => nI (k i)) (fun i => nI (p i)) (fun i => nI (s i)) (fun i => nI (kn i)) (fun i => nI (ad i)) (fun i => nI (r i)) D (fun i => nI (bs i)) (fun i => nI (ba i)) BD (fun i => nI (ce i)) (fun i => nI (pr i)) (fun i => nI (rc i))) (hp : (∃ x, x < s i ∧ lq_src k s kn ad (ad i + x) i = some j) → J80 (nI (t + 1)) (nI (i + 1)) (fun i => nI (k i)) (fun i => nI (p i)) (fun i => nI (s i)) (fun i => nI (kn i)) (fun i => nI (ad i)) (fun iz => nI ((lq_un r i 0) iz)) D (fun i => nI (bs i)) (fun i => nI (ba i)) BD (fun i => nI (ce i)) (fun iz => nI ((lq_pp pr (p i) (p j)) iz)) (fun i => nI (rc i))) : ∀ d x n f, x + d = s i → d < n → (f = 0 ∧ (∀ y, y < x → lq_src k s kn ad (ad i + y) i ≠ some j) ∨ f = 1 ∧ ∃ y, y < x ∧ lq_src k s kn ad (ad i + y) i = some j) → wY_setAddress_115 post J80 (nI j) (nI t) (nI i) (nI w) (nI b) (nI m) (nI c) (nI q) (fun i => nI (k i)) (fun i => nI (p i)) (fun i => nI (s i)) (fun i => nI (kn i)) (fun i => nI (ad i)) (fun i => nI (r i)) D (fun i => nI (bs i)) (fun i => nI (ba i)) BD (fun i => nI (ce i)) (fun i => nI (pr i)) (fun i => nI (rc i)) n (nI f) (nI x) := by
  have h' := h
  obtain ⟨h1, h0, h2, h3⟩ := h
  obtain ⟨w1, w2, w3⟩ := h3 i hi
  have w2' := w2 hk
  have I : vp_in (nI i) 32 := vp_in_nI (by omega) (by omega)
  have Ij : vp_in (nI j) 32 := vp_in_nI (by omega) (by omega)
  have bi := (h2 i).2.1
  have bj := (h2 j).2.1
  intro d
  induction d with
  | zero =>
    intro x n f hx hd hf
    obtain ⟨n, rfl⟩ : ∃ t, n = t + 1 := ⟨n - 1, by omega⟩
    refine ⟨I, ?_⟩
    rw [nI_clamp (show i < 2 ^ 31 by omega), nI_clamp (show j < 2 ^ 31 by omega)]
    refine pk_le (s i) x (fun _ => ?_) (fun z => absurd z (by omega))
    rcases hf with ⟨rfl, hf⟩ | ⟨rfl, y, hy, hf⟩
    · exact br_t rfl (nm_r (nI_1 i) (hn (fun ⟨y, y1, y2⟩ => hf y (by omega) y2)))
    · refine br_f (by decide) ?_
      have e1 : (16 : Int32) * (fun i => nI (p i)) i + (fun i => nI (p i)) j = nI (16 * p i + p j) := by
        show (16 : Int32) * nI (p i) + nI (p j) = _
        rw [show (16 : Int32) * nI (p i) = nI (16 * p i) from pk_mul 16 _, nI_add]
      have e2 : (16 : Int32) * (fun i => nI (p i)) j + (fun i => nI (p i)) i = nI (16 * p j + p i) := by
        show (16 : Int32) * nI (p j) + nI (p i) = _
        rw [show (16 : Int32) * nI (p j) = nI (16 * p j) from pk_mul 16 _, nI_add]
      rw [e1, e2, nI_clamp (show 16 * p i + p j < 2 ^ 31 by omega), nI_clamp (show 16 * p j + p i < 2 ^ 31 by omega), lq_nb0, lq_nb1]
      exact ⟨I, nm_r (lq_upd r i 0) ⟨I, Ij, vp_in_nI (by omega) (by omega), nm_r (lq_upd pr _ 1) ⟨Ij, I, vp_in_nI (by omega) (by omega), nm_r (lq_upd _ _ 1) (nm_r (nI_1 t) (nm_r (nI_1 i) (hp ⟨y, by omega, hf⟩)))⟩⟩⟩
  | succ d ih =>
    intro x n f hx hd hf
    obtain ⟨n, rfl⟩ : ∃ t, n = t + 1 := ⟨n - 1, by omega⟩
    refine ⟨I, ?_⟩
    have lt : ∀ y, lq_src k s kn ad (ad i + x) i = some y → y < 64 := fun y hy => by
      have := (lq_src_lt i hy).1
      omega
    refine pk_le (s i) x (fun z => absurd z (by omega)) (fun _ => ⟨I, ?_⟩) (congrArg (fun g => nI (s g)) (nI_clamp (show i < 2 ^ 31 by omega)))
    have e1 : (fun i => nI (ad i)) (nI i).toNatClampNeg + nI x = nI (ad i + x) := by
      rw [nI_clamp (show i < 2 ^ 31 by omega)]
      exact nI_add _ _
    rw [e1]
    refine ly_src h' (by omega) (by omega) ?_
    by_cases z : lq_src k s kn ad (ad i + x) i = some j
    · exact br_t ((lq_en_eq lt (by omega)).mpr z) (nm_r (nI_1 x) (ih (x + 1) n 1 (by omega) (by omega) (Or.inr ⟨rfl, x, by omega, z⟩)))
    · refine br_f (fun y => z ((lq_en_eq lt (by omega)).mp y)) (nm_r (nI_1 x) (ih (x + 1) n f (by omega) (by omega) ?_))
      rcases hf with ⟨e, hf⟩ | ⟨e, y, hy, hf⟩
      · refine Or.inl ⟨e, fun y hy => ?_⟩
        by_cases ey : y = x
        · rw [ey]; exact z
        · exact hf y (by omega)
      · exact Or.inr ⟨e, y, by omega, hf⟩
theorem ly_a80 (h : lq_G m c k p s r kn ad A) {j : Nat} (hj : j < c) (hL : ∀ i, i < c → k i ≠ 1 → r i = 1 → kn i = 1) {post : Int32 → SY → Prop} (hp : post (nI (lq_ct (lq_M k s r kn ad j) c)) (nI w, nI b, nI m, nI c, nI q, (fun i => nI (k i)), (fun i => nI (p i)), (fun i => nI (s i)), (fun i => nI (kn i)), (fun i => nI (ad i)), (fun iz => nI ((lq_rb (lq_M k s r kn ad j) r c) iz)), D, (fun i => nI (bs i)), (fun i => nI (ba i)), BD, (fun i => nI (ce i)), (fun iz => nI ((lq_pf (lq_M k s r kn ad j) p (p j) pr c) iz)), (fun i => nI (rc i)))) : ∃ n, wY_setAddress_80 post (nI j) (nI w) (nI b) (nI m) (nI c) (nI q) n 0 (nI (j + 1)) (fun i => nI (k i)) (fun i => nI (p i)) (fun i => nI (s i)) (fun i => nI (kn i)) (fun i => nI (ad i)) (fun i => nI (r i)) D (fun i => nI (bs i)) (fun i => nI (ba i)) BD (fun i => nI (ce i)) (fun i => nI (pr i)) (fun i => nI (rc i)) := by
  have h' := h
  obtain ⟨h1, h0, h2, h3⟩ := h
  generalize hM : lq_M k s r kn ad j = M at *
  have main : ∀ d i n, i + d = c → d < n → j < i → wY_setAddress_80 post (nI j) (nI w) (nI b) (nI m) (nI c) (nI q) n (nI (lq_ct M i)) (nI i) (fun i => nI (k i)) (fun i => nI (p i)) (fun i => nI (s i)) (fun i => nI (kn i)) (fun i => nI (ad i)) (fun iz => nI ((lq_rb M r i) iz)) D (fun i => nI (bs i)) (fun i => nI (ba i)) BD (fun i => nI (ce i)) (fun iz => nI ((lq_pf M p (p j) pr i) iz)) (fun i => nI (rc i)) := by
    intro d
    induction d with
    | zero =>
      intro i n hi hd hji
      obtain ⟨n, rfl⟩ : ∃ t, n = t + 1 := ⟨n - 1, by omega⟩
      obtain rfl : i = c := by omega
      exact br_t (nI_le (Nat.le_refl _) (by omega)) hp
    | succ d ih =>
      intro i n hi hd hji
      obtain ⟨n, rfl⟩ : ∃ t, n = t + 1 := ⟨n - 1, by omega⟩
      have I : vp_in (nI i) 32 := vp_in_nI (by omega) (by omega)
      have b1 := h2 i
      have ih' := ih (i + 1) n (by omega) (by omega) (by omega)
      have skip : ¬ M i → wY_setAddress_80 post (nI j) (nI w) (nI b) (nI m) (nI c) (nI q) n (nI (lq_ct M i)) (nI (i + 1)) (fun i => nI (k i)) (fun i => nI (p i)) (fun i => nI (s i)) (fun i => nI (kn i)) (fun i => nI (ad i)) (fun iz => nI ((lq_rb M r i) iz)) D (fun i => nI (bs i)) (fun i => nI (ba i)) BD (fun i => nI (ce i)) (fun iz => nI ((lq_pf M p (p j) pr i) iz)) (fun i => nI (rc i)) := fun z => by
        rw [lq_ct_f z, ← lq_rb_f z, lq_pf_f z] at ih'
        exact ih'
      have mi : M i ↔ j < i ∧ k i = 0 ∧ r i = 1 ∧ ∃ x, x < s i ∧ lq_src k s kn ad (ad i + x) i = some j := by
        rw [← hM]
        exact Iff.rfl
      refine br_f (nI_ge (by omega) (by omega)) ⟨I, ?_⟩
      rw [nI_clamp (show i < 2 ^ 31 by omega)]
      refine pk_eq (k i) 0 (fun zk => ⟨I, ?_⟩) (fun zk => nm_r (nI_1 i) (skip (fun z => zk (mi.mp z).2.1)))
      refine pk_eq (r i) 0 (fun zr => nm_r (nI_1 i) (skip (fun z => by have := (mi.mp z).2.2.1; omega))) (fun zr => ?_) (congrArg nI (lq_rb_at M r i))
      have G' : lq_G m c k p s (lq_rb M r i) kn ad A := ⟨h1, h0, fun y => ⟨(h2 y).1, (h2 y).2.1, Nat.le_trans (lq_rb_le M r i y) (h2 y).2.2.1, (h2 y).2.2.2⟩, h3⟩
      refine ⟨s i + 1, ly_a115 (r := lq_rb M r i) (pr := lq_pf M p (p j) pr i) G' (post := post) (J80 := wY_setAddress_80 post (nI j) (nI w) (nI b) (nI m) (nI c) (nI q) n) (t := lq_ct M i) (w := w) (b := b) (q := q) hj (by omega) (hL i (by omega) (by omega) (by omega)) (fun z => skip (fun y => z (mi.mp y).2.2.2)) (fun z => ?_) (s i) 0 (s i + 1) 0 (by omega) (by omega) (Or.inl ⟨rfl, fun y hy => absurd hy (by omega)⟩)⟩
      have z' : M i := mi.mpr ⟨hji, zk, by omega, z⟩
      rw [lq_ct_t z', ← lq_rb_t z', lq_pf_t z'] at ih'
      exact ih'
  have none : ∀ i, i < j + 1 → ¬ M i := fun i hi z => by
    rw [← hM] at z
    have := z.1
    omega
  have l := main (c - (j + 1)) (j + 1) (c - j) (by omega) (by omega) (by omega)
  rw [lq_ct_0 (j + 1) none, lq_rb_0 none, lq_pf_0 (j + 1) none] at l
  exact ⟨c - j, l⟩
theorem ly_addr (h : lq_XI w b m c q k p s r kn ad A V D bs ba BV BD ce) {j : Nat} (hj : j < c) {v : Int32} {post : Int32 → SY → Prop} (hk : kn j = 1 → post (-4) (nI w, nI b, nI m, nI c, nI q, (fun i => nI (k i)), (fun i => nI (p i)), (fun i => nI (s i)), (fun i => nI (kn i)), (fun i => nI (ad i)), (fun i => nI (r i)), D, (fun i => nI (bs i)), (fun i => nI (ba i)), BD, (fun i => nI (ce i)), (fun i => nI (pr i)), (fun i => nI (rc i)))) (hb : kn j ≠ 1 → v < 0 ∨ nI (m - s j + 1) ≤ v → post (-3) (nI w, nI b, nI m, nI c, nI q, (fun i => nI (k i)), (fun i => nI (p i)), (fun i => nI (s i)), (fun i => nI (kn i)), (fun i => nI (ad i)), (fun i => nI (r i)), D, (fun i => nI (bs i)), (fun i => nI (ba i)), BD, (fun i => nI (ce i)), (fun i => nI (pr i)), (fun i => nI (rc i)))) (hl : ∀ a, kn j ≠ 1 → v = nI a → a + s j ≤ m → k j ≠ 1 → post 0 (nI w, nI b, nI m, nI c, nI q, (fun i => nI (k i)), (fun i => nI (p i)), (fun i => nI (s i)), (fun iz => nI ((lq_un kn j 1) iz)), (fun iz => nI ((lq_un ad j a) iz)), (fun i => nI (r i)), D, (fun i => nI (bs i)), (fun i => nI (ba i)), BD, (fun i => nI (ce i)), (fun i => nI (pr i)), (fun i => nI (rc i)))) (hs : ∀ a, kn j ≠ 1 → v = nI a → a + s j ≤ m → k j = 1 → post (nI (lq_ct (lq_M k s r (lq_un kn j 1) (lq_un ad j a) j) c)) (nI w, nI b, nI m, nI c, nI q, (fun i => nI (k i)), (fun i => nI (p i)), (fun i => nI (s i)), (fun iz => nI ((lq_un kn j 1) iz)), (fun iz => nI ((lq_un ad j a) iz)), (fun iz => nI ((lq_rb (lq_M k s r (lq_un kn j 1) (lq_un ad j a) j) r c) iz)), D, (fun i => nI (bs i)), (fun i => nI (ba i)), BD, (fun i => nI (ce i)), (fun iz => nI ((lq_pf (lq_M k s r (lq_un kn j 1) (lq_un ad j a) j) p (p j) pr c) iz)), (fun i => nI (rc i)))) : wpY_setAddress post (nI w, nI b, nI m, nI c, nI q, (fun i => nI (k i)), (fun i => nI (p i)), (fun i => nI (s i)), (fun i => nI (kn i)), (fun i => nI (ad i)), (fun i => nI (r i)), D, (fun i => nI (bs i)), (fun i => nI (ba i)), BD, (fun i => nI (ce i)), (fun i => nI (pr i)), (fun i => nI (rc i))) (nI j) v := by
  have h' := h
  obtain ⟨h1, h2, h3, h4, h5⟩ := h
  obtain ⟨w1, w2, w3, w4⟩ := h3 j hj
  have b1 := h2 j
  have I : vp_in (nI j) 32 := vp_in_nI (by omega) (by omega)
  unfold wpY_setAddress
  refine br_f (nI_pos (by omega)) (br_t (nI_lt hj (by omega)) ⟨I, ?_⟩)
  rw [nI_clamp (show j < 2 ^ 31 by omega)]
  refine pk_eq (kn j) 0 (fun zn => ?_) (fun zn => hk (by omega))
  have zn' : kn j ≠ 1 := by omega
  have e : nI m - (fun i => nI (s i)) j = nI (m - s j) := pk_sub (by omega)
  rw [e]
  rcases pk_ix v (n := m - s j + 1) (by omega) with hv | hv | ⟨a, ha, rfl⟩
  · exact br_t hv (hb zn' (Or.inl hv))
  · refine br_c (fun _ => hb zn' (Or.inr hv)) (fun hv0 => ⟨I, br_f ?_ (hb zn' (Or.inr hv))⟩)
    obtain ⟨a, ha, rfl⟩ := nI_of hv0
    rw [nI_leI (by omega) ha] at hv
    rw [nI_leI ha (by omega)]
    omega
  · rw [lq_nb1]
    refine br_f (nI_pos (by omega)) ⟨I, br_t (nI_le (by omega) (by omega)) ⟨I, nm_r (lq_upd kn j 1) ⟨I, nm_r (lq_upd ad j a) ⟨I, ?_⟩⟩⟩⟩
    refine pk_eq (k j) 0 (fun zk => hl a zn' rfl (by omega) (by omega)) (fun zk => nm_r (nI_1 j) ?_)
    have G' : lq_G m c k p s r (lq_un kn j 1) (lq_un ad j a) (upd A j (nI a)) := by
      refine ⟨by omega, by omega, fun i => ⟨(h2 i).1, (h2 i).2.1, (h2 i).2.2.1, lq_unp (P := fun y => y ≤ 1) (fun i => (h2 i).2.2.2) (by omega) i⟩, fun i hi => ?_⟩
      by_cases e : i = j
      · subst e
        rw [lq_us, lq_us, pk_us]
        exact ⟨w1, fun _ => by omega, (if_pos rfl).symm⟩
      · rw [lq_ui e, lq_ui e, pk_un e]
        exact ⟨(h3 i hi).1, (h3 i hi).2.1, (h3 i hi).2.2.1⟩
    refine ly_a80 G' hj (fun i hi z1 z2 => ?_) (hs a zn' rfl (by omega) (by omega))
    have := (((h3 i hi).2.2.2 z2).2 z1).1
    exact lq_unp (P := fun y => y = 1) (fun _ => this) rfl i
theorem ly_data (h : lq_XI w b m c q k p s r kn ad A V D bs ba BV BD ce) {j : Nat} (hj : j < c) {v : Int32} {post : Int32 → SY → Prop} (hk : k j ≠ 1 → post (-2) (nI w, nI b, nI m, nI c, nI q, (fun i => nI (k i)), (fun i => nI (p i)), (fun i => nI (s i)), (fun i => nI (kn i)), (fun i => nI (ad i)), (fun i => nI (r i)), D, (fun i => nI (bs i)), (fun i => nI (ba i)), BD, (fun i => nI (ce i)), (fun i => nI (pr i)), (fun i => nI (rc i)))) (hr : k j = 1 → r j = 1 → post (-4) (nI w, nI b, nI m, nI c, nI q, (fun i => nI (k i)), (fun i => nI (p i)), (fun i => nI (s i)), (fun i => nI (kn i)), (fun i => nI (ad i)), (fun i => nI (r i)), D, (fun i => nI (bs i)), (fun i => nI (ba i)), BD, (fun i => nI (ce i)), (fun i => nI (pr i)), (fun i => nI (rc i)))) (hp : k j = 1 → r j ≠ 1 → post 0 (nI w, nI b, nI m, nI c, nI q, (fun i => nI (k i)), (fun i => nI (p i)), (fun i => nI (s i)), (fun i => nI (kn i)), (fun i => nI (ad i)), (fun iz => nI ((lq_un r j 1) iz)), upd D j v, (fun i => nI (bs i)), (fun i => nI (ba i)), BD, (fun i => nI (ce i)), (fun i => nI (pr i)), (fun i => nI (rc i)))) : wpY_setData post (nI w, nI b, nI m, nI c, nI q, (fun i => nI (k i)), (fun i => nI (p i)), (fun i => nI (s i)), (fun i => nI (kn i)), (fun i => nI (ad i)), (fun i => nI (r i)), D, (fun i => nI (bs i)), (fun i => nI (ba i)), BD, (fun i => nI (ce i)), (fun i => nI (pr i)), (fun i => nI (rc i))) (nI j) v := by
  obtain ⟨h1, h2, h3, h4, h5⟩ := h
  have b1 := h2 j
  have I : vp_in (nI j) 32 := vp_in_nI (by omega) (by omega)
  unfold wpY_setData
  refine br_f (nI_pos (by omega)) (br_t (nI_lt hj (by omega)) ⟨I, ?_⟩)
  rw [nI_clamp (show j < 2 ^ 31 by omega), lq_nb1]
  exact pk_eq (k j) 0 (fun z => hk (by omega)) (fun z => ⟨I, pk_eq (r j) 0 (fun y => ⟨I, nm_e ⟨I, nm_r (lq_upd r j 1) (hp (by omega) (by omega))⟩⟩) (fun y => hr (by omega) (by omega))⟩)
theorem ly_e110 (h : lq_XI w b m c q k p s r kn ad A V D bs ba BV BD ce) {j : Nat} (hj : j < c) (hk : kn j = 1) {post : Int32 → SY → Prop} (hp : lq_lk k s r kn ad j → post (-8) (nI w, nI b, nI m, nI c, nI q, (fun i => nI (k i)), (fun i => nI (p i)), (fun i => nI (s i)), (fun i => nI (kn i)), (fun i => nI (ad i)), (fun i => nI (r i)), D, (fun i => nI (bs i)), (fun i => nI (ba i)), BD, (fun i => nI (ce i)), (fun i => nI (pr i)), (fun i => nI (rc i)))) (hn : ¬ lq_lk k s r kn ad j → post 0 (nI w, nI b, nI m, nI c, nI q, (fun i => nI (k i)), (fun i => nI (p i)), (fun i => nI (s i)), (fun i => nI (kn i)), (fun i => nI (ad i)), (fun iz => nI ((lq_un r j 1) iz)), D, (fun i => nI (bs i)), (fun i => nI (ba i)), BD, (fun i => nI (ce i)), (fun i => nI (pr i)), (fun i => nI (rc i)))) : ∃ n, wY_execute_110 post (nI j) (nI w) (nI b) (nI m) (nI c) (nI q) (fun i => nI (k i)) (fun i => nI (p i)) (fun i => nI (s i)) (fun i => nI (kn i)) (fun i => nI (ad i)) (fun i => nI (r i)) D (fun i => nI (bs i)) (fun i => nI (ba i)) BD (fun i => nI (ce i)) (fun i => nI (pr i)) (fun i => nI (rc i)) n 0 := by
  have h' := h
  obtain ⟨h1, h2, h3, h4, h5⟩ := h
  obtain ⟨w1, w2, w3, _⟩ := h3 j hj
  have w2' := w2 hk
  have I : vp_in (nI j) 32 := vp_in_nI (by omega) (by omega)
  have main : ∀ d i n, i + d = s j → d < n → (∀ x, x < i → lq_ar k s r kn ad (ad j + x) j) → wY_execute_110 post (nI j) (nI w) (nI b) (nI m) (nI c) (nI q) (fun i => nI (k i)) (fun i => nI (p i)) (fun i => nI (s i)) (fun i => nI (kn i)) (fun i => nI (ad i)) (fun i => nI (r i)) D (fun i => nI (bs i)) (fun i => nI (ba i)) BD (fun i => nI (ce i)) (fun i => nI (pr i)) (fun i => nI (rc i)) n (nI i) := by
    intro d
    induction d with
    | zero =>
      intro i n hi hd hx
      obtain ⟨n, rfl⟩ : ∃ t, n = t + 1 := ⟨n - 1, by omega⟩
      refine ⟨I, ?_⟩
      rw [nI_clamp (show j < 2 ^ 31 by omega), lq_nb1]
      exact pk_le (s j) i (fun _ => ⟨I, nm_r (lq_upd r j 1) (hn (fun ⟨x, x1, x2⟩ => x2 (hx x (by omega))))⟩) (fun z => absurd z (by omega))
    | succ d ih =>
      intro i n hi hd hx
      obtain ⟨n, rfl⟩ : ∃ t, n = t + 1 := ⟨n - 1, by omega⟩
      have go : lq_ar k s r kn ad (ad j + i) j → wY_execute_110 post (nI j) (nI w) (nI b) (nI m) (nI c) (nI q) (fun i => nI (k i)) (fun i => nI (p i)) (fun i => nI (s i)) (fun i => nI (kn i)) (fun i => nI (ad i)) (fun i => nI (r i)) D (fun i => nI (bs i)) (fun i => nI (ba i)) BD (fun i => nI (ce i)) (fun i => nI (pr i)) (fun i => nI (rc i)) n (nI (i + 1)) := fun z => ih (i + 1) n (by omega) (by omega) (fun x hx' => by
        by_cases e : x = i
        · rw [e]; exact z
        · exact hx x (by omega))
      refine ⟨I, ?_⟩
      rw [nI_clamp (show j < 2 ^ 31 by omega)]
      refine pk_le (s j) i (fun z => absurd z (by omega)) (fun _ => ⟨I, ?_⟩)
      rw [show (fun i => nI (ad i)) j + nI i = nI (ad j + i) from nI_add _ _]
      refine ly_src (lq_XIG h') (by omega) (by omega) ?_
      cases e : lq_src k s kn ad (ad j + i) j with
      | none => exact br_t (by decide) (nm_r (nI_1 i) (go ((lq_ar_src j).mpr (fun t ht => by rw [e] at ht; cases ht))))
      | some t =>
        have tl := (lq_src_lt j e).1
        have b1 := h2 t
        refine br_f (nI_pos (show t < 2 ^ 31 by omega)) ⟨vp_in_nI (show t < 32 by omega) (by omega), ?_⟩
        have el : (lq_en (some t)).toNatClampNeg = t := nI_clamp (show t < 2 ^ 31 by omega)
        rw [el]
        refine pk_eq (r t) 0 (fun z => hp ⟨i, by omega, fun y => ?_⟩) (fun z => nm_r (nI_1 i) (go ((lq_ar_src j).mpr (fun t' ht => ?_))))
        · have := (lq_ar_src j).mp y t e
          omega
        · rw [e] at ht
          cases ht
          omega
  exact ⟨s j + 1, main (s j) 0 (s j + 1) (by omega) (by omega) (fun x hx => absurd hx (by omega))⟩
theorem ly_e53 (h : lq_XI w b m c q k p s r kn ad A V D bs ba BV BD ce) (hS : lq_S st pr) (hpr : ∀ i, pr i ≤ 1) {j : Nat} (hj : j < c) : ∀ d i (rc : Nat → Nat), i + d = j → (∀ i, rc i ≤ 1) → (∀ x, x < i → ¬ (k x = 1 ∧ kn x ≠ 1 ∧ st (p x) ≠ -1 ∧ st (p x) = st (p j))) → ∃ rc' : Nat → Nat, (∀ i, rc' i ≤ 1) ∧ ∀ n (post : Int32 → SY → Prop), d < n → (lq_wt k p kn st j → post (-7) (nI w, nI b, nI m, nI c, nI q, (fun i => nI (k i)), (fun i => nI (p i)), (fun i => nI (s i)), (fun i => nI (kn i)), (fun i => nI (ad i)), (fun i => nI (r i)), D, (fun i => nI (bs i)), (fun i => nI (ba i)), BD, (fun i => nI (ce i)), (fun i => nI (pr i)), (fun iz => nI (rc' iz)))) → (¬ lq_wt k p kn st j → ∃ n, wY_execute_110 post (nI j) (nI w) (nI b) (nI m) (nI c) (nI q) (fun i => nI (k i)) (fun i => nI (p i)) (fun i => nI (s i)) (fun i => nI (kn i)) (fun i => nI (ad i)) (fun i => nI (r i)) D (fun i => nI (bs i)) (fun i => nI (ba i)) BD (fun i => nI (ce i)) (fun i => nI (pr i)) (fun iz => nI (rc' iz)) n 0) → wY_execute_53 post (nI j) n (nI i) (nI w) (nI b) (nI m) (nI c) (nI q) (fun i => nI (k i)) (fun i => nI (p i)) (fun i => nI (s i)) (fun i => nI (kn i)) (fun i => nI (ad i)) (fun i => nI (r i)) D (fun i => nI (bs i)) (fun i => nI (ba i)) BD (fun i => nI (ce i)) (fun i => nI (pr i)) (fun i => nI (rc i)) := by
  obtain ⟨h1, h2, h3, h4, h5⟩ := h
  have Ij : vp_in (nI j) 32 := vp_in_nI (by omega) (by omega)
  intro d
  induction d with
  | zero =>
    intro i rc hi hrc hx
    refine ⟨rc, hrc, fun n post hn ht hf => ?_⟩
    obtain ⟨n, rfl⟩ : ∃ t, n = t + 1 := ⟨n - 1, by omega⟩
    exact br_t (nI_le (by omega) (by omega)) (hf (fun ⟨x, x1, x2⟩ => hx x (by omega) x2))
  | succ d ih =>
    intro i rc hi hrc hx
    have I : vp_in (nI i) 32 := vp_in_nI (by omega) (by omega)
    have b1 := h2 i
    have nx : ¬ (k i = 1 ∧ kn i ≠ 1 ∧ st (p i) ≠ -1 ∧ st (p i) = st (p j)) → ∀ x, x < i + 1 → ¬ (k x = 1 ∧ kn x ≠ 1 ∧ st (p x) ≠ -1 ∧ st (p x) = st (p j)) := fun z x hx' => by
      by_cases e : x = i
      · rw [e]; exact z
      · exact hx x (by omega)
    by_cases z : k i = 1 ∧ kn i ≠ 1
    · obtain ⟨rc1, hrc1, l1⟩ := ly_same (rc := rc) hS hpr hrc (h2 j).2.1 (h2 i).2.1
      by_cases y : st (p i) ≠ -1 ∧ st (p i) = st (p j)
      · refine ⟨rc1, hrc1, fun n post hn ht hf => ?_⟩
        obtain ⟨n, rfl⟩ : ∃ t, n = t + 1 := ⟨n - 1, by omega⟩
        refine br_f (nI_ge (by omega) (by omega)) ⟨I, ?_⟩
        rw [nI_clamp (show i < 2 ^ 31 by omega), nI_clamp (show j < 2 ^ 31 by omega)]
        refine pk_eq (k i) 1 (fun zk => ⟨I, pk_eq (kn i) 0 (fun zn => ⟨Ij, I, ?_⟩) (fun zn => absurd z.2 (by omega))⟩) (fun zk => absurd z.1 zk)
        exact l1 _ _ _ _ _ _ _ _ _ _ _ _ _ _ _ _ _ (fun _ => br_t rfl (ht ⟨i, by omega, z.1, z.2, y.1, y.2⟩)) (fun n => absurd ⟨by rw [← y.2]; exact y.1, y.2.symm⟩ n)
      · obtain ⟨rc2, hrc2, l2⟩ := ih (i + 1) rc1 (by omega) hrc1 (nx (fun u => y ⟨u.2.2.1, u.2.2.2⟩))
        refine ⟨rc2, hrc2, fun n post hn ht hf => ?_⟩
        obtain ⟨n, rfl⟩ : ∃ t, n = t + 1 := ⟨n - 1, by omega⟩
        refine br_f (nI_ge (by omega) (by omega)) ⟨I, ?_⟩
        rw [nI_clamp (show i < 2 ^ 31 by omega), nI_clamp (show j < 2 ^ 31 by omega)]
        refine pk_eq (k i) 1 (fun zk => ⟨I, pk_eq (kn i) 0 (fun zn => ⟨Ij, I, ?_⟩) (fun zn => absurd z.2 (by omega))⟩) (fun zk => absurd z.1 zk)
        exact l1 _ _ _ _ _ _ _ _ _ _ _ _ _ _ _ _ _ (fun u => absurd ⟨by rw [← u.2]; exact u.1, u.2.symm⟩ y) (fun _ => br_f (by decide) (nm_r (nI_1 i) (l2 n post (by omega) ht hf)))
    · obtain ⟨rc2, hrc2, l2⟩ := ih (i + 1) rc (by omega) hrc (nx (fun u => z ⟨u.1, u.2.1⟩))
      refine ⟨rc2, hrc2, fun n post hn ht hf => ?_⟩
      obtain ⟨n, rfl⟩ : ∃ t, n = t + 1 := ⟨n - 1, by omega⟩
      have l3 := l2 n post (by omega) ht hf
      refine br_f (nI_ge (by omega) (by omega)) ⟨I, ?_⟩
      rw [nI_clamp (show i < 2 ^ 31 by omega), nI_clamp (show j < 2 ^ 31 by omega)]
      exact pk_eq (k i) 1 (fun zk => ⟨I, pk_eq (kn i) 0 (fun zn => absurd ⟨zk, by omega⟩ z) (fun zn => nm_r (nI_1 i) l3)⟩) (fun zk => nm_r (nI_1 i) l3)
theorem ly_exec (h : lq_XI w b m c q k p s r kn ad A V D bs ba BV BD ce) (hS : lq_S st pr) (hpr : ∀ i, pr i ≤ 1) (hrc : ∀ i, rc i ≤ 1) {j : Nat} (hj : j < c) {ans : Int32} {r' : Nat → Nat} {V' : Nat → Int64} (e : lq_EX k p s r kn ad V D (fun a => lq_mb bs ba BD ce a q) st j ans r' V') : ∃ rc' : Nat → Nat, (∀ i, rc' i ≤ 1) ∧ ∀ post : Int32 → SY → Prop, post ans (nI w, nI b, nI m, nI c, nI q, (fun i => nI (k i)), (fun i => nI (p i)), (fun i => nI (s i)), (fun i => nI (kn i)), (fun i => nI (ad i)), (fun iz => nI (r' iz)), D, (fun i => nI (bs i)), (fun i => nI (ba i)), BD, (fun i => nI (ce i)), (fun i => nI (pr i)), (fun iz => nI (rc' iz))) → wpY_execute post (nI w, nI b, nI m, nI c, nI q, (fun i => nI (k i)), (fun i => nI (p i)), (fun i => nI (s i)), (fun i => nI (kn i)), (fun i => nI (ad i)), (fun i => nI (r i)), D, (fun i => nI (bs i)), (fun i => nI (ba i)), BD, (fun i => nI (ce i)), (fun i => nI (pr i)), (fun i => nI (rc i))) (nI j) := by
  have h' := h
  obtain ⟨h1, h2, h3, h4, h5⟩ := h
  have b1 := h2 j
  have I : vp_in (nI j) 32 := vp_in_nI (by omega) (by omega)
  have cj : (nI j).toNatClampNeg = j := nI_clamp (by omega)
  obtain ⟨rc1, hrc1, l1⟩ := ly_e53 h' hS hpr hj j 0 rc (by omega) hrc (fun x hx => absurd hx (by omega))
  have enter0 : ∀ {post : Int32 → SY → Prop}, (k j = 1 → post (-2) (nI w, nI b, nI m, nI c, nI q, (fun i => nI (k i)), (fun i => nI (p i)), (fun i => nI (s i)), (fun i => nI (kn i)), (fun i => nI (ad i)), (fun i => nI (r i)), D, (fun i => nI (bs i)), (fun i => nI (ba i)), BD, (fun i => nI (ce i)), (fun i => nI (pr i)), (fun i => nI (rc i)))) → (k j ≠ 1 → r j = 1 → post (-4) (nI w, nI b, nI m, nI c, nI q, (fun i => nI (k i)), (fun i => nI (p i)), (fun i => nI (s i)), (fun i => nI (kn i)), (fun i => nI (ad i)), (fun i => nI (r i)), D, (fun i => nI (bs i)), (fun i => nI (ba i)), BD, (fun i => nI (ce i)), (fun i => nI (pr i)), (fun i => nI (rc i)))) → (k j ≠ 1 → r j ≠ 1 → kn j ≠ 1 → post (-6) (nI w, nI b, nI m, nI c, nI q, (fun i => nI (k i)), (fun i => nI (p i)), (fun i => nI (s i)), (fun i => nI (kn i)), (fun i => nI (ad i)), (fun i => nI (r i)), D, (fun i => nI (bs i)), (fun i => nI (ba i)), BD, (fun i => nI (ce i)), (fun i => nI (pr i)), (fun i => nI (rc i)))) → (k j ≠ 1 → r j ≠ 1 → kn j = 1 → ∃ n, wY_execute_53 post (nI j) n 0 (nI w) (nI b) (nI m) (nI c) (nI q) (fun i => nI (k i)) (fun i => nI (p i)) (fun i => nI (s i)) (fun i => nI (kn i)) (fun i => nI (ad i)) (fun i => nI (r i)) D (fun i => nI (bs i)) (fun i => nI (ba i)) BD (fun i => nI (ce i)) (fun i => nI (pr i)) (fun i => nI (rc i))) → wpY_execute post (nI w, nI b, nI m, nI c, nI q, (fun i => nI (k i)), (fun i => nI (p i)), (fun i => nI (s i)), (fun i => nI (kn i)), (fun i => nI (ad i)), (fun i => nI (r i)), D, (fun i => nI (bs i)), (fun i => nI (ba i)), BD, (fun i => nI (ce i)), (fun i => nI (pr i)), (fun i => nI (rc i))) (nI j) := by
    intro post p1 p2 p3 p4
    unfold wpY_execute
    refine br_f (nI_pos (by omega)) (br_t (nI_lt hj (by omega)) ⟨I, ?_⟩)
    rw [cj]
    exact pk_eq (k j) 1 p1 (fun zk => ⟨I, pk_eq (r j) 0 (fun zr => ⟨I, pk_eq (kn j) 0 (fun zn => p3 zk (by omega) (by omega)) (fun zn => p4 zk (by omega) (by omega))⟩) (fun zr => p2 zk (by omega))⟩)
  rcases e with ⟨e1, ea, er, eV⟩ | ⟨e1, e2, ea, er, eV⟩ | ⟨e1, e2, e3, ea, er, eV⟩ | ⟨e1, e2, e3, e4, ea, er, eV⟩ | ⟨e1, e2, e3, e4, e5, ea, er, eV⟩ | ⟨e1, e2, e3, e4, e5, ea, er, eV⟩
  · refine ⟨rc, hrc, fun post hp => ?_⟩
    rw [ea, er] at hp
    exact enter0 (fun _ => hp) (fun n => absurd e1 n) (fun n => absurd e1 n) (fun n => absurd e1 n)
  · refine ⟨rc, hrc, fun post hp => ?_⟩
    rw [ea, er] at hp
    exact enter0 (fun n => absurd n e1) (fun _ _ => hp) (fun _ n => absurd e2 n) (fun _ n => absurd e2 n)
  · refine ⟨rc, hrc, fun post hp => ?_⟩
    rw [ea, er] at hp
    exact enter0 (fun n => absurd n e1) (fun _ n => absurd n e2) (fun _ _ _ => hp) (fun _ _ n => absurd n e3)
  · refine ⟨rc1, hrc1, fun post hp => ?_⟩
    rw [ea, er] at hp
    exact enter0 (fun n => absurd n e1) (fun _ n => absurd n e2) (fun _ _ n => absurd e3 n) (fun _ _ _ => ⟨j + 1, l1 (j + 1) post (by omega) (fun _ => hp) (fun n => absurd e4 n)⟩)
  · refine ⟨rc1, hrc1, fun post hp => ?_⟩
    rw [ea, er] at hp
    exact enter0 (fun n => absurd n e1) (fun _ n => absurd n e2) (fun _ _ n => absurd e3 n) (fun _ _ _ => ⟨j + 1, l1 (j + 1) post (by omega) (fun n => absurd n e4) (fun _ => ly_e110 h' hj e3 (fun _ => hp) (fun n => absurd e5 n))⟩)
  · refine ⟨rc1, hrc1, fun post hp => ?_⟩
    rw [ea, er] at hp
    exact enter0 (fun n => absurd n e1) (fun _ n => absurd n e2) (fun _ _ n => absurd e3 n) (fun _ _ _ => ⟨j + 1, l1 (j + 1) post (by omega) (fun n => absurd n e4) (fun _ => ly_e110 h' hj e3 (fun n => absurd n e5) (fun _ => hp))⟩)
theorem ly_er4 (hS : lq_S st pr) (hpr : ∀ i, pr i ≤ 1) : ∀ d i {r : Nat → Nat} {V : Nat → Int64} {n n0 : Nat} {r' : Nat → Nat} {V' : Nat → Int64} (rc : Nat → Nat), lq_XI w b m c q k p s r kn ad A V D bs ba BV BD ce → lq_ER k p s kn ad D (fun a => lq_mb bs ba BD ce a q) st d i r V n r' V' → i + d = c → (∀ i, rc i ≤ 1) → ∃ rc' : Nat → Nat, (∀ i, rc' i ≤ 1) ∧ ∀ fu (post : Int32 → SY → Prop), d < fu → post (nI (n0 + n)) (nI w, nI b, nI m, nI c, nI q, (fun i => nI (k i)), (fun i => nI (p i)), (fun i => nI (s i)), (fun i => nI (kn i)), (fun i => nI (ad i)), (fun iz => nI (r' iz)), D, (fun i => nI (bs i)), (fun i => nI (ba i)), BD, (fun i => nI (ce i)), (fun i => nI (pr i)), (fun iz => nI (rc' iz))) → wY_executeReady_4 post fu (nI n0) (nI i) (nI w) (nI b) (nI m) (nI c) (nI q) (fun i => nI (k i)) (fun i => nI (p i)) (fun i => nI (s i)) (fun i => nI (kn i)) (fun i => nI (ad i)) (fun i => nI (r i)) D (fun i => nI (bs i)) (fun i => nI (ba i)) BD (fun i => nI (ce i)) (fun i => nI (pr i)) (fun i => nI (rc i)) := by
  intro d
  induction d with
  | zero =>
    intro i r V n n0 r' V' rc h ⟨e0, e1, e2⟩ hi hrc
    refine ⟨rc, hrc, fun fu post hd hp => ?_⟩
    rw [e0, e1] at hp
    obtain ⟨fu, rfl⟩ : ∃ t, fu = t + 1 := ⟨fu - 1, by omega⟩
    have := h.1
    exact br_t (nI_le (by omega) (by omega)) hp
  | succ d ih =>
    intro i r V n n0 r' V' rc h ⟨ans, r1, V1, n1, e1, e2, e3⟩ hi hrc
    have := h.1
    obtain ⟨rc1, hrc1, l1⟩ := ly_exec (rc := rc) h hS hpr hrc (show i < c by omega) e1
    rcases e3 with ⟨z, e3⟩ | ⟨z, e3⟩
    · obtain ⟨rc2, hrc2, l2⟩ := ih (i + 1) (n0 := n0 + 1) rc1 (lq_XIex h e1) e2 (by omega) hrc1
      refine ⟨rc2, hrc2, fun fu post hd hp => ?_⟩
      obtain ⟨fu, rfl⟩ : ∃ t, fu = t + 1 := ⟨fu - 1, by omega⟩
      refine br_f (nI_ge (by omega) (by omega)) (l1 _ (br_t z (nm_r (nI_1 n0) (nm_r (nI_1 i) (l2 fu post (by omega) ?_)))))
      rw [show n0 + 1 + n1 = n0 + n by omega]
      exact hp
    · obtain ⟨rc2, hrc2, l2⟩ := ih (i + 1) (n0 := n0) rc1 (lq_XIex h e1) e2 (by omega) hrc1
      refine ⟨rc2, hrc2, fun fu post hd hp => ?_⟩
      obtain ⟨fu, rfl⟩ : ∃ t, fu = t + 1 := ⟨fu - 1, by omega⟩
      refine br_f (nI_ge (by omega) (by omega)) (l1 _ (br_f z (nm_r (nI_1 i) (l2 fu post (by omega) ?_))))
      rw [← e3]
      exact hp
theorem ly_er (h : lq_XI w b m c q k p s r kn ad A V D bs ba BV BD ce) (hS : lq_S st pr) (hpr : ∀ i, pr i ≤ 1) (hrc : ∀ i, rc i ≤ 1) {n : Nat} {r' : Nat → Nat} {V' : Nat → Int64} (e : lq_ER k p s kn ad D (fun a => lq_mb bs ba BD ce a q) st c 0 r V n r' V') : ∃ rc' : Nat → Nat, (∀ i, rc' i ≤ 1) ∧ ∀ post : Int32 → SY → Prop, post (nI n) (nI w, nI b, nI m, nI c, nI q, (fun i => nI (k i)), (fun i => nI (p i)), (fun i => nI (s i)), (fun i => nI (kn i)), (fun i => nI (ad i)), (fun iz => nI (r' iz)), D, (fun i => nI (bs i)), (fun i => nI (ba i)), BD, (fun i => nI (ce i)), (fun i => nI (pr i)), (fun iz => nI (rc' iz))) → wpY_executeReady post (nI w, nI b, nI m, nI c, nI q, (fun i => nI (k i)), (fun i => nI (p i)), (fun i => nI (s i)), (fun i => nI (kn i)), (fun i => nI (ad i)), (fun i => nI (r i)), D, (fun i => nI (bs i)), (fun i => nI (ba i)), BD, (fun i => nI (ce i)), (fun i => nI (pr i)), (fun i => nI (rc i))) := by
  obtain ⟨rc1, hrc1, l⟩ := ly_er4 hS hpr c 0 (n0 := 0) rc h e (by omega) hrc
  refine ⟨rc1, hrc1, fun post hp => ?_⟩
  unfold wpY_executeReady
  refine ⟨c + 1, l (c + 1) post (by omega) ?_⟩
  rw [Nat.zero_add]
  exact hp
end
