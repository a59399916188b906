/-! the class: source, draws, waits, lacks, byte after drains, gather -/
section
variable {w b m c q : Nat} {k p s r kn ad : Nat → Nat} {A : Nat → Int32} {V : Nat → Int64} {D : Nat → Int32} {bs ba : Nat → Nat} {BV : Nat → Int64} {BD : Nat → Int32} {ce : Nat → Nat} {st : Nat → Int32}
def lq_G (m c : Nat) (k p s r kn ad : Nat → Nat) (A : Nat → Int32) : Prop := m ≤ 64 ∧ c ≤ 32 ∧ lq_B k p r kn ∧ ∀ j, j < c → (s j = 1 ∨ s j = 2 ∨ s j = 4) ∧ (kn j = 1 → ad j + s j ≤ m) ∧ A j = (if kn j = 1 then nI (ad j) else -1)
theorem lq_XIG (h : lq_XI w b m c q k p s r kn ad A V D bs ba BV BD ce) : lq_G m c k p s r kn ad A := ⟨by have := h.1; omega, by have := h.1; omega, h.2.1, fun j hj => ⟨(h.2.2.1 j hj).1, (h.2.2.1 j hj).2.1, (h.2.2.1 j hj).2.2.1⟩⟩
theorem lx_cov {post : Int32 → Prop} (a t x : Nat) (ha : a ≤ 128) (ht : t ≤ 4) (hx : x ≤ 128) (hp : a ≤ x ∧ x < a + t → post 1) (hn : ¬ (a ≤ x ∧ x < a + t) → post 0) : wpX_covers post () (nI a) (nI t) (nI x) := by
  unfold wpX_covers
  rw [nI_add]
  exact pk_lt x a (fun z => hn (by omega)) (fun z => pk_le (a + t) x (fun y => hn (by omega)) (fun y => hp (by omega)))
theorem lx_by {post : Int32 → Prop} {d : Int32} {o t : Nat} (ho : o < t) (ht : t ≤ 4) (hp : post (nI (lq_by d o))) : wpX_byteOf post () (lN (lq_lo d t)) (nI o) := by
  unfold wpX_byteOf
  have e : (8 : Int32) * nI o = nI (8 * o) := pk_mul 8 o
  rw [e, lq_xb (lq_lo_lt d ht) (by omega), lq_lo_by d ho]
  exact hp
theorem lx_src4 (h : lq_G m c k p s r kn ad A) {x : Nat} (hx : x ≤ 128) {post : Int32 → Prop} : ∀ j n, j ≤ c → j < n → post (lq_en (lq_src k s kn ad x j)) → wX_sourceOf_4 post (nI x) (nI w) (nI b) (nI m) (nI c) (nI q) (fun i => nI (k i)) (fun i => nI (p i)) (fun i => nI (s i)) A (fun i => nI (r i)) V (fun i => nI (bs i)) (fun i => nI (ba i)) BV (fun i => nI (ce i)) st n (nI j - 1) := by
  obtain ⟨h1, h0, h2, h3⟩ := h
  intro j
  induction j with
  | zero =>
    intro n _ hn hp
    obtain ⟨n, rfl⟩ : ∃ t, n = t + 1 := ⟨n - 1, by omega⟩
    rw [lq_dn0]
    exact br_t (by decide) hp
  | succ j ih =>
    intro n hj hn hp
    obtain ⟨n, rfl⟩ : ∃ t, n = t + 1 := ⟨n - 1, by omega⟩
    have ih' := ih n (by omega) (by omega)
    obtain ⟨w1, w2, w3⟩ := h3 j (by omega)
    have b1 := h2 j
    have I : vp_in (nI j) 32 := vp_in_nI (by omega) (by omega)
    have ef : ¬ lq_cov k s kn ad x j → wX_sourceOf_4 post (nI x) (nI w) (nI b) (nI m) (nI c) (nI q) (fun i => nI (k i)) (fun i => nI (p i)) (fun i => nI (s i)) A (fun i => nI (r i)) V (fun i => nI (bs i)) (fun i => nI (ba i)) BV (fun i => nI (ce i)) st n (nI j - 1) := fun z => ih' (by
      have e : lq_src k s kn ad x (j + 1) = lq_src k s kn ad x j := if_neg z
      rw [e] at hp
      exact hp)
    have et : lq_cov k s kn ad x j → post (nI j) := fun z => by
      have e : lq_src k s kn ad x (j + 1) = some j := if_pos z
      rw [e] at hp
      exact hp
    rw [lq_dn]
    refine br_f (nI_pos (by omega)) ⟨I, ?_⟩
    rw [nI_clamp (show j < 2 ^ 31 by omega)]
    refine pk_eq (k j) 1 (fun zk => ⟨I, ?_⟩) (fun zk => nm_r (lq_sub1 j) (ef (fun z => zk z.1)))
    by_cases zn : kn j = 1
    · rw [if_pos zn] at w3
      have w2' := w2 zn
      rw [w3]
      refine br_f (lq_m1 (by omega)) ⟨I, I, ?_⟩
      exact lx_cov (ad j) (s j) x (by omega) (by omega) hx (fun z => br_f (by decide) (et ⟨zk, zn, z.1, z.2⟩)) (fun z => br_t rfl (nm_r (lq_sub1 j) (ef (fun y => z y.2.2))))
    · rw [if_neg zn] at w3
      rw [w3]
      exact br_t rfl (nm_r (lq_sub1 j) (ef (fun z => zn z.2.1)))
theorem lx_src (h : lq_G m c k p s r kn ad A) {x j : Nat} (hx : x ≤ 128) (hj : j ≤ c) {post : Int32 → Prop} (hp : post (lq_en (lq_src k s kn ad x j))) : wpX_sourceOf post (nI w, nI b, nI m, nI c, nI q, (fun i => nI (k i)), (fun i => nI (p i)), (fun i => nI (s i)), A, (fun i => nI (r i)), V, (fun i => nI (bs i)), (fun i => nI (ba i)), BV, (fun i => nI (ce i)), st) (nI j) (nI x) := by
  unfold wpX_sourceOf
  exact nm_e ⟨j + 1, lx_src4 h hx j (j + 1) hj (by omega) hp⟩
theorem lq_en_eq {o : Option Nat} {t : Nat} (h : ∀ i, o = some i → i < 64) (ht : t < 64) : lq_en o = nI t ↔ o = some t := by
  cases o with
  | none => exact ⟨fun e => absurd e.symm (lq_m1 (by omega)), fun e => by cases e⟩
  | some i =>
    have := h i rfl
    show nI i = nI t ↔ _
    rw [nI_eq (by omega) (by omega)]
    exact ⟨fun e => by rw [e], fun e => by cases e; rfl⟩
theorem lx_draws (h : lq_G m c k p s r kn ad A) {j t : Nat} (hj : j < c) (ht : t < 64) (hk : kn j = 1) {post : Int32 → Prop} (hp : (∃ x, x < s j ∧ lq_src k s kn ad (ad j + x) j = some t) → post 1) (hn : ¬ (∃ x, x < s j ∧ lq_src k s kn ad (ad j + x) j = some t) → post 0) : wpX_drawsFrom post (nI w, nI b, nI m, nI c, nI q, (fun i => nI (k i)), (fun i => nI (p i)), (fun i => nI (s i)), A, (fun i => nI (r i)), V, (fun i => nI (bs i)), (fun i => nI (ba i)), BV, (fun i => nI (ce i)), st) (nI j) (nI t) := by
  have h' := h
  obtain ⟨h1, h0, h2, h3⟩ := h
  obtain ⟨w1, w2, w3⟩ := h3 j hj
  have w2' := w2 hk
  rw [if_pos hk] at w3
  have I : vp_in (nI j) 32 := vp_in_nI (by omega) (by omega)
  have main : ∀ d i n, i + d = s j → d < n → (∀ x, x < i → lq_src k s kn ad (ad j + x) j ≠ some t) → wX_drawsFrom_2 post (nI j) (nI t) (nI w) (nI b) (nI m) (nI c) (nI q) (fun i => nI (k i)) (fun i => nI (p i)) (fun i => nI (s i)) A (fun i => nI (r i)) V (fun i => nI (bs i)) (fun i => nI (ba i)) BV (fun i => nI (ce i)) st n (nI i) := by
    intro d
    induction d with
    | zero =>
      intro i n hi hd hx
      obtain ⟨n, rfl⟩ : ∃ t, n = t + 1 := ⟨n - 1, by omega⟩
      refine ⟨I, ?_⟩
      rw [nI_clamp (show j < 2 ^ 31 by omega)]
      exact pk_le (s j) i (fun _ => hn (fun ⟨x, x1, x2⟩ => hx x (by omega) x2)) (fun z => absurd z (by omega))
    | succ d ih =>
      intro i n hi hd hx
      obtain ⟨n, rfl⟩ : ∃ t, n = t + 1 := ⟨n - 1, by omega⟩
      refine ⟨I, ?_⟩
      rw [nI_clamp (show j < 2 ^ 31 by omega)]
      refine pk_le (s j) i (fun z => absurd z (by omega)) (fun _ => ⟨I, ?_⟩)
      rw [w3, nI_add]
      refine lx_src h' (by omega) (by omega) ?_
      have lt : ∀ y, lq_src k s kn ad (ad j + i) j = some y → y < 64 := fun y hy => by
        have := (lq_src_lt j hy).1
        omega
      by_cases z : lq_src k s kn ad (ad j + i) j = some t
      · exact br_t ((lq_en_eq lt ht).mpr z) (hp ⟨i, by omega, z⟩)
      · refine br_f (fun y => z ((lq_en_eq lt ht).mp y)) (nm_r (nI_1 i) (ih (i + 1) n (by omega) (by omega) (fun x hx' => ?_)))
        by_cases e : x = i
        · rw [e]; exact z
        · exact hx x (by omega)
  unfold wpX_drawsFrom
  exact ⟨s j + 1, main (s j) 0 (s j + 1) (by omega) (by omega) (fun x hx => absurd hx (by omega))⟩
theorem lx_share {a e : Nat} (ha : a < 16) (he : e < 16) {post : Int32 → Prop} (hp : st a ≠ -1 ∧ st a = st e → post 1) (hn : ¬ (st a ≠ -1 ∧ st a = st e) → post 0) : wpX_shareSet post (nI w, nI b, nI m, nI c, nI q, (fun i => nI (k i)), (fun i => nI (p i)), (fun i => nI (s i)), A, (fun i => nI (r i)), V, (fun i => nI (bs i)), (fun i => nI (ba i)), BV, (fun i => nI (ce i)), st) (nI a) (nI e) := by
  unfold wpX_shareSet
  have I1 : vp_in (nI a) 16 := vp_in_nI ha (by omega)
  have I2 : vp_in (nI e) 16 := vp_in_nI he (by omega)
  refine ⟨I1, ?_⟩
  rw [nI_clamp (show a < 2 ^ 31 by omega), nI_clamp (show e < 2 ^ 31 by omega)]
  exact br_c (fun z => hn (fun y => y.1 z)) (fun z => ⟨I1, I2, br_c (fun y => hp ⟨z, y⟩) (fun y => hn (fun x => y x.2))⟩)
theorem lx_waits (h : lq_XI w b m c q k p s r kn ad A V D bs ba BV BD ce) {j : Nat} (hj : j < c) {post : Int32 → Prop} (hp : lq_wt k p kn st j → post 1) (hn : ¬ lq_wt k p kn st j → post 0) : wpX_waitsForItsSet post (nI w, nI b, nI m, nI c, nI q, (fun i => nI (k i)), (fun i => nI (p i)), (fun i => nI (s i)), A, (fun i => nI (r i)), V, (fun i => nI (bs i)), (fun i => nI (ba i)), BV, (fun i => nI (ce i)), st) (nI j) := by
  obtain ⟨h1, h2, h3, h4, h5⟩ := h
  have Ij : vp_in (nI j) 32 := vp_in_nI (by omega) (by omega)
  have main : ∀ d i n, i + d = j → d < n → (∀ x, x < i → ¬ (k x = 1 ∧ kn x ≠ 1 ∧ st (p x) ≠ -1 ∧ st (p x) = st (p j))) → wX_waitsForItsSet_2 post (nI j) (nI w) (nI b) (nI m) (nI c) (nI q) (fun i => nI (k i)) (fun i => nI (p i)) (fun i => nI (s i)) A (fun i => nI (r i)) V (fun i => nI (bs i)) (fun i => nI (ba i)) BV (fun i => nI (ce i)) st n (nI i) := by
    intro d
    induction d with
    | zero =>
      intro i n hi hd hx
      obtain ⟨n, rfl⟩ : ∃ t, n = t + 1 := ⟨n - 1, by omega⟩
      exact pk_le j i (fun _ => hn (fun ⟨x, x1, x2⟩ => hx x (by omega) x2)) (fun z => absurd z (by omega))
    | succ d ih =>
      intro i n hi hd hx
      obtain ⟨n, rfl⟩ : ∃ t, n = t + 1 := ⟨n - 1, by omega⟩
      obtain ⟨w1, w2, w3, _⟩ := h3 i (by omega)
      have I : vp_in (nI i) 32 := vp_in_nI (by omega) (by omega)
      have go : ¬ (k i = 1 ∧ kn i ≠ 1 ∧ st (p i) ≠ -1 ∧ st (p i) = st (p j)) → wX_waitsForItsSet_2 post (nI j) (nI w) (nI b) (nI m) (nI c) (nI q) (fun i => nI (k i)) (fun i => nI (p i)) (fun i => nI (s i)) A (fun i => nI (r i)) V (fun i => nI (bs i)) (fun i => nI (ba i)) BV (fun i => nI (ce i)) st n (nI (i + 1)) := fun z => ih (i + 1) n (by omega) (by omega) (fun x hx' => by
        by_cases e : x = i
        · rw [e]; exact z
        · exact hx x (by omega))
      refine pk_le j i (fun z => absurd z (by omega)) (fun _ => ⟨I, ?_⟩)
      have b1 := h2 i
      rw [nI_clamp (show i < 2 ^ 31 by omega), nI_clamp (show j < 2 ^ 31 by omega)]
      refine pk_eq (k i) 1 (fun zk => ⟨I, ?_⟩) (fun zk => nm_r (nI_1 i) (go (fun z => zk z.1)))
      by_cases zn : kn i = 1
      · have w2' := w2 zn
        rw [if_pos zn] at w3
        rw [w3]
        exact br_f (lq_m1 (by omega)) (nm_r (nI_1 i) (go (fun z => z.2.1 zn)))
      · rw [if_neg zn] at w3
        rw [w3]
        refine br_t rfl ⟨I, Ij, ?_⟩
        exact lx_share (h2 i).2.1 (h2 j).2.1 (fun z => br_f (by decide) (hp ⟨i, by omega, zk, zn, z.1, z.2⟩)) (fun z => br_t rfl (nm_r (nI_1 i) (go (fun y => z ⟨y.2.2.1, y.2.2.2⟩))))
  unfold wpX_waitsForItsSet
  exact ⟨j + 1, main j 0 (j + 1) (by omega) (by omega) (fun x hx => absurd hx (by omega))⟩
theorem lx_lacks (h : lq_XI w b m c q k p s r kn ad A V D bs ba BV BD ce) {j : Nat} (hj : j < c) (hk : kn j = 1) {post : Int32 → Prop} (hp : lq_lk k s r kn ad j → post 1) (hn : ¬ lq_lk k s r kn ad j → post 0) : wpX_lacksData post (nI w, nI b, nI m, nI c, nI q, (fun i => nI (k i)), (fun i => nI (p i)), (fun i => nI (s i)), A, (fun i => nI (r i)), V, (fun i => nI (bs i)), (fun i => nI (ba i)), BV, (fun i => nI (ce i)), st) (nI j) := by
  have h' := h
  obtain ⟨h1, h2, h3, h4, h5⟩ := h
  obtain ⟨w1, w2, w3, _⟩ := h3 j hj
  have w2' := w2 hk
  rw [if_pos hk] at w3
  have I : vp_in (nI j) 32 := vp_in_nI (by omega) (by omega)
  have main : ∀ d i n, i + d = s j → d < n → (∀ x, x < i → lq_ar k s r kn ad (ad j + x) j) → wX_lacksData_2 post (nI j) (nI w) (nI b) (nI m) (nI c) (nI q) (fun i => nI (k i)) (fun i => nI (p i)) (fun i => nI (s i)) A (fun i => nI (r i)) V (fun i => nI (bs i)) (fun i => nI (ba i)) BV (fun i => nI (ce i)) st n (nI i) := by
    intro d
    induction d with
    | zero =>
      intro i n hi hd hx
      obtain ⟨n, rfl⟩ : ∃ t, n = t + 1 := ⟨n - 1, by omega⟩
      refine ⟨I, ?_⟩
      rw [nI_clamp (show j < 2 ^ 31 by omega)]
      exact pk_le (s j) i (fun _ => hn (fun ⟨x, x1, x2⟩ => x2 (hx x (by omega)))) (fun z => absurd z (by omega))
    | succ d ih =>
      intro i n hi hd hx
      obtain ⟨n, rfl⟩ : ∃ t, n = t + 1 := ⟨n - 1, by omega⟩
      have go : lq_ar k s r kn ad (ad j + i) j → wX_lacksData_2 post (nI j) (nI w) (nI b) (nI m) (nI c) (nI q) (fun i => nI (k i)) (fun i => nI (p i)) (fun i => nI (s i)) A (fun i => nI (r i)) V (fun i => nI (bs i)) (fun i => nI (ba i)) BV (fun i => nI (ce i)) st n (nI (i + 1)) := fun z => ih (i + 1) n (by omega) (by omega) (fun x hx' => by
        by_cases e : x = i
        · rw [e]; exact z
        · exact hx x (by omega))
      refine ⟨I, ?_⟩
      rw [nI_clamp (show j < 2 ^ 31 by omega)]
      refine pk_le (s j) i (fun z => absurd z (by omega)) (fun _ => ⟨I, ?_⟩)
      rw [w3, nI_add]
      refine lx_src (lq_XIG h') (by omega) (by omega) ?_
      cases e : lq_src k s kn ad (ad j + i) j with
      | none => exact br_t rfl (nm_r (nI_1 i) (go ((lq_ar_src j).mpr (fun t ht => by rw [e] at ht; cases ht))))
      | some t =>
        have tl := (lq_src_lt j e).1
        have b1 := h2 t
        refine br_f (lq_m1 (show t < 2 ^ 31 by omega)) ⟨vp_in_nI (show t < 32 by omega) (by omega), ?_⟩
        have el : (lq_en (some t)).toNatClampNeg = t := nI_clamp (show t < 2 ^ 31 by omega)
        rw [el]
        refine pk_eq (r t) 0 (fun z => hp ⟨i, by omega, fun y => ?_⟩) (fun z => nm_r (nI_1 i) (go ((lq_ar_src j).mpr (fun t' ht => ?_))))
        · have := (lq_ar_src j).mp y t e
          omega
        · rw [e] at ht
          cases ht
          omega
  unfold wpX_lacksData
  exact ⟨s j + 1, main (s j) 0 (s j + 1) (by omega) (by omega) (fun x hx => absurd hx (by omega))⟩
theorem lx_bad4 (h : lq_XI w b m c q k p s r kn ad A V D bs ba BV BD ce) {x : Nat} (hx : x < m) {post : Int32 → Prop} : ∀ j n, j ≤ q → j < n → post (nI (lq_mb bs ba BD ce x j)) → wX_byteAfterDrains_4 post (nI x) (nI w) (nI b) (nI m) (nI c) (nI q) (fun i => nI (k i)) (fun i => nI (p i)) (fun i => nI (s i)) A (fun i => nI (r i)) V (fun i => nI (bs i)) (fun i => nI (ba i)) BV (fun i => nI (ce i)) st n (nI j - 1) := by
  obtain ⟨h1, h2, h3, h4, h5⟩ := h
  intro j
  induction j with
  | zero =>
    intro n _ hn hp
    obtain ⟨n, rfl⟩ : ∃ t, n = t + 1 := ⟨n - 1, by omega⟩
    rw [lq_dn0]
    refine br_t (by decide) ⟨vp_in_nI (by omega) (by omega), ?_⟩
    rw [nI_clamp (show x < 2 ^ 31 by omega)]
    exact hp
  | succ j ih =>
    intro n hj hn hp
    obtain ⟨n, rfl⟩ : ∃ t, n = t + 1 := ⟨n - 1, by omega⟩
    have ih' := ih n (by omega) (by omega)
    obtain ⟨w1, w2, w3⟩ := h4 j (by omega)
    have I : vp_in (nI j) 8 := vp_in_nI (by omega) (by omega)
    have hp' : post (nI (if ba j ≤ x ∧ x < ba j + bs j then lq_by (BD j) (x - ba j) else lq_mb bs ba BD ce x j)) := hp
    rw [lq_dn]
    refine br_f (nI_pos (by omega)) ⟨I, I, ?_⟩
    rw [nI_clamp (show j < 2 ^ 31 by omega)]
    refine lx_cov (ba j) (bs j) x (by omega) (by omega) (by omega) (fun z => br_f (by decide) ⟨I, I, ?_⟩) (fun z => br_t rfl (nm_r (lq_sub1 j) (ih' ?_)))
    · rw [w3]
      show wpX_byteOf _ () _ (nI x - nI (ba j))
      rw [pk_sub z.1]
      rw [if_pos z] at hp'
      exact lx_by (by omega) (by omega) hp'
    · rw [if_neg z] at hp'
      exact hp'
theorem lx_bad (h : lq_XI w b m c q k p s r kn ad A V D bs ba BV BD ce) {x j : Nat} (hx : x < m) (hj : j ≤ q) {post : Int32 → Prop} (hp : post (nI (lq_mb bs ba BD ce x j))) : wpX_byteAfterDrains post (nI w, nI b, nI m, nI c, nI q, (fun i => nI (k i)), (fun i => nI (p i)), (fun i => nI (s i)), A, (fun i => nI (r i)), V, (fun i => nI (bs i)), (fun i => nI (ba i)), BV, (fun i => nI (ce i)), st) (nI x) (nI j) := by
  unfold wpX_byteAfterDrains
  exact nm_e ⟨j + 1, lx_bad4 h hx j (j + 1) hj (by omega) hp⟩
theorem lx_gather (h : lq_XI w b m c q k p s r kn ad A V D bs ba BV BD ce) {j : Nat} (hj : j < c) (hk : kn j = 1) (har : ∀ x, x < s j → lq_ar k s r kn ad (ad j + x) j) {post : Int64 → Prop} (hp : post (lN (lq_vs (fun i => lq_lb k s kn ad D (fun a => lq_mb bs ba BD ce a q) (ad j + i) j) (s j)))) : wpX_gatherValue post (nI w, nI b, nI m, nI c, nI q, (fun i => nI (k i)), (fun i => nI (p i)), (fun i => nI (s i)), A, (fun i => nI (r i)), V, (fun i => nI (bs i)), (fun i => nI (ba i)), BV, (fun i => nI (ce i)), st) (nI j) := by
  have h' := h
  obtain ⟨h1, h2, h3, h4, h5⟩ := h
  obtain ⟨w1, w2, w3, _⟩ := h3 j hj
  have w2' := w2 hk
  rw [if_pos hk] at w3
  have I : vp_in (nI j) 32 := vp_in_nI (by omega) (by omega)
  have lt : ∀ i, (fun i => lq_lb k s kn ad D (fun a => lq_mb bs ba BD ce a q) (ad j + i) j) i < 256 := fun i => lq_lb_lt k s kn ad D (fun a => lq_mb bs ba BD ce a q) (ad j + i) (lq_mb_lt bs ba BD ce (ad j + i) (h5 _) q) j
  generalize hf : (fun i => lq_lb k s kn ad D (fun a => lq_mb bs ba BD ce a q) (ad j + i) j) = f at *
  have main : ∀ d i n, i + d = s j → d < n → wX_gatherValue_5 post (nI j) (nI w) (nI b) (nI m) (nI c) (nI q) (fun i => nI (k i)) (fun i => nI (p i)) (fun i => nI (s i)) A (fun i => nI (r i)) V (fun i => nI (bs i)) (fun i => nI (ba i)) BV (fun i => nI (ce i)) st n (lN (lq_vs f i)) (nI i) := by
    intro d
    induction d with
    | zero =>
      intro i n hi hd
      obtain ⟨n, rfl⟩ : ∃ t, n = t + 1 := ⟨n - 1, by omega⟩
      refine ⟨I, ?_⟩
      rw [nI_clamp (show j < 2 ^ 31 by omega)]
      refine pk_le (s j) i (fun _ => ?_) (fun z => absurd z (by omega))
      rw [show i = s j by omega]
      exact hp
    | succ d ih =>
      intro i n hi hd
      obtain ⟨n, rfl⟩ : ∃ t, n = t + 1 := ⟨n - 1, by omega⟩
      have go : ∀ z0 : Int32, z0 = nI (f i) → wX_gatherValue_77 post (wX_gatherValue_5 post (nI j) (nI w) (nI b) (nI m) (nI c) (nI q) (fun i => nI (k i)) (fun i => nI (p i)) (fun i => nI (s i)) A (fun i => nI (r i)) V (fun i => nI (bs i)) (fun i => nI (ba i)) BV (fun i => nI (ce i)) st n) (nI j) (lN (lq_vs f i)) (nI i) z0.toInt64 (nI w) (nI b) (nI m) (nI c) (nI q) (fun i => nI (k i)) (fun i => nI (p i)) (fun i => nI (s i)) A (fun i => nI (r i)) V (fun i => nI (bs i)) (fun i => nI (ba i)) BV (fun i => nI (ce i)) st := fun z0 ez => by
        rw [ez]
        unfold wX_gatherValue_77
        have e8 : (8 : Int32) * nI i = nI (8 * i) := pk_mul 8 i
        rw [e8, lq_vor f lt i (by omega), nI_1 i]
        exact nm_e (nm_e (ih (i + 1) n (by omega) (by omega)))
      have fi : f i = lq_lb k s kn ad D (fun a => lq_mb bs ba BD ce a q) (ad j + i) j := by rw [← hf]
      refine ⟨I, ?_⟩
      rw [nI_clamp (show j < 2 ^ 31 by omega)]
      refine pk_le (s j) i (fun z => absurd z (by omega)) (fun _ => ⟨I, ?_⟩)
      rw [w3, nI_add]
      refine nm_e ?_
      refine lx_src (lq_XIG h') (by omega) (by omega) ?_
      cases e : lq_src k s kn ad (ad j + i) j with
      | none =>
        refine br_t rfl (lx_bad h' (by omega) (Nat.le_refl q) (go _ ?_))
        rw [fi, lq_lb_none j e]
      | some t =>
        obtain ⟨tl, tc⟩ := lq_src_lt j e
        obtain ⟨t1, t2, t3, t4⟩ := h3 t (by omega)
        have tr := (lq_ar_src j).mp (har i (by omega)) t e
        have tv := (t4 tr).1 tc.1
        rw [if_pos tc.2.1] at t3
        have It : vp_in (nI t) 32 := vp_in_nI (by omega) (by omega)
        refine br_f (lq_m1 (show t < 2 ^ 31 by omega)) ⟨It, It, ?_⟩
        show wpX_byteOf _ () (V (nI t).toNatClampNeg) (nI (ad j + i) - A (nI t).toNatClampNeg)
        rw [nI_clamp (show t < 2 ^ 31 by omega), tv, t3, pk_sub tc.2.2.1]
        refine lx_by (by have := tc.2.2.2; omega) (by omega) (go _ ?_)
        rw [fi, lq_lb_some j e]
  unfold wpX_gatherValue
  exact ⟨s j + 1, main (s j) 0 (s j + 1) (by omega) (by omega)⟩
end

