/-! the reference: source, memory, value, sameSet -/
section
variable {w b m c q : Nat} {k p s r kn ad : Nat → Nat} {A : Nat → Int32} {V : Nat → Int64} {D : Nat → Int32} {bs ba : Nat → Nat} {BV : Nat → Int64} {BD : Nat → Int32} {ce : Nat → Nat} {st : Nat → Int32} {pr rc : Nat → Nat}
theorem lq_sneg {a e : Nat} (he : e < 2 ^ 30) (h : a < e) : nI a - nI e < 0 := by
  rw [Int32.lt_iff_toInt_lt, pk_sub_toInt (by omega) he, show (0 : Int32).toInt = 0 from by decide]
  omega
theorem ly_src (h : lq_G m c k p s r kn ad A) {x j : Nat} (hx : x ≤ 128) (hj : j ≤ c) {post : Int32 → Prop} (hp : post (lq_en (lq_src k s kn ad x j))) : wpY_source post (nI w, nI b, nI m, nI c, nI q, (fun i => nI (k i)), (fun i => nI (p i)), (fun i => nI (s i)), (fun i => nI (kn i)), (fun i => nI (ad i)), (fun i => nI (r i)), D, (fun i => nI (bs i)), (fun i => nI (ba i)), BD, (fun i => nI (ce i)), (fun i => nI (pr i)), (fun i => nI (rc i))) (nI j) (nI x) := by
  obtain ⟨h1, h0, h2, h3⟩ := h
  have main : ∀ d i n, i + d = j → d < n → wY_source_5 post (nI j) (nI x) (nI w) (nI b) (nI m) (nI c) (nI q) (fun i => nI (k i)) (fun i => nI (p i)) (fun i => nI (s i)) (fun i => nI (kn i)) (fun i => nI (ad i)) (fun i => nI (r i)) D (fun i => nI (bs i)) (fun i => nI (ba i)) BD (fun i => nI (ce i)) (fun i => nI (pr i)) (fun i => nI (rc i)) n (lq_en (lq_src k s kn ad x i)) (nI i) := by
    intro d
    induction d with
    | zero =>
      intro i n hi hd
      obtain ⟨n, rfl⟩ : ∃ t, n = t + 1 := ⟨n - 1, by omega⟩
      obtain rfl : i = j := by omega
      exact br_t (nI_le (Nat.le_refl _) (by omega)) hp
    | succ d ih =>
      intro i n hi hd
      obtain ⟨n, rfl⟩ : ∃ t, n = t + 1 := ⟨n - 1, by omega⟩
      have ih' := ih (i + 1) n (by omega) (by omega)
      obtain ⟨w1, w2, w3⟩ := h3 i (by omega)
      have b1 := h2 i
      have I : vp_in (nI i) 32 := vp_in_nI (by omega) (by omega)
      have ef : ¬ lq_cov k s kn ad x i → wY_source_5 post (nI j) (nI x) (nI w) (nI b) (nI m) (nI c) (nI q) (fun i => nI (k i)) (fun i => nI (p i)) (fun i => nI (s i)) (fun i => nI (kn i)) (fun i => nI (ad i)) (fun i => nI (r i)) D (fun i => nI (bs i)) (fun i => nI (ba i)) BD (fun i => nI (ce i)) (fun i => nI (pr i)) (fun i => nI (rc i)) n (lq_en (lq_src k s kn ad x i)) (nI (i + 1)) := fun z => by
        have e : lq_src k s kn ad x (i + 1) = lq_src k s kn ad x i := if_neg z
        rw [e] at ih'
        exact ih'
      have et : lq_cov k s kn ad x i → wY_source_5 post (nI j) (nI x) (nI w) (nI b) (nI m) (nI c) (nI q) (fun i => nI (k i)) (fun i => nI (p i)) (fun i => nI (s i)) (fun i => nI (kn i)) (fun i => nI (ad i)) (fun i => nI (r i)) D (fun i => nI (bs i)) (fun i => nI (ba i)) BD (fun i => nI (ce i)) (fun i => nI (pr i)) (fun i => nI (rc i)) n (nI i) (nI (i + 1)) := fun z => by
        have e : lq_src k s kn ad x (i + 1) = some i := if_pos z
        rw [e] at ih'
        exact ih'
      refine br_f (nI_ge (by omega) (by omega)) (br_f (nI_ge (by omega) (by omega)) ⟨I, ?_⟩)
      rw [nI_clamp (show i < 2 ^ 31 by omega)]
      refine pk_eq (k i) 1 (fun zk => ⟨I, ?_⟩) (fun zk => nm_r (nI_1 i) (ef (fun z => zk z.1)))
      refine pk_eq (kn i) 0 (fun zn => nm_r (nI_1 i) (ef (fun z => by have := z.2.1; omega))) (fun zn => ⟨I, ?_⟩)
      have w2' := w2 (by omega)
      refine pk_lt x (ad i) (fun z => nm_r (nI_1 i) (ef (fun y => by have := y.2.2.1; omega))) (fun z => ⟨I, I, ?_⟩)
      refine pk_le (ad i + s i) x (fun y => nm_r (nI_1 i) (ef (fun u => by have := u.2.2.2; omega))) (fun y => nm_r (nI_1 i) (et ⟨zk, by omega, z, y⟩)) (nI_add _ _)
  unfold wpY_source
  exact ⟨j + 1, main j 0 (j + 1) (by omega) (by omega)⟩
theorem ly_mem (hm : m ≤ 64) (hq : q ≤ 8) (hQ : lq_Q m q bs ba BV BD) {x j : Nat} (hx : x < m) (hj : j ≤ q) {post : Int32 → Prop} (hp : post (nI (lq_mb bs ba BD ce x j))) : wpY_memory post (nI w, nI b, nI m, nI c, nI q, (fun i => nI (k i)), (fun i => nI (p i)), (fun i => nI (s i)), (fun i => nI (kn i)), (fun i => nI (ad i)), (fun i => nI (r i)), D, (fun i => nI (bs i)), (fun i => nI (ba i)), BD, (fun i => nI (ce i)), (fun i => nI (pr i)), (fun i => nI (rc i))) (nI x) (nI j) := by
  have main : ∀ d i n, i + d = j → d < n → wY_memory_37 post (nI x) (nI j) (nI w) (nI b) (nI m) (nI c) (nI q) (fun i => nI (k i)) (fun i => nI (p i)) (fun i => nI (s i)) (fun i => nI (kn i)) (fun i => nI (ad i)) (fun i => nI (r i)) D (fun i => nI (bs i)) (fun i => nI (ba i)) BD (fun i => nI (ce i)) (fun i => nI (pr i)) (fun i => nI (rc i)) n (nI (lq_mb bs ba BD ce x i)) (nI i) := by
    intro d
    induction d with
    | zero =>
      intro i n hi hd
      obtain ⟨n, rfl⟩ : ∃ t, n = t + 1 := ⟨n - 1, by omega⟩
      obtain rfl : i = j := by omega
      exact br_t (nI_le (Nat.le_refl _) (by omega)) hp
    | succ d ih =>
      intro i n hi hd
      obtain ⟨n, rfl⟩ : ∃ t, n = t + 1 := ⟨n - 1, by omega⟩
      have ih' := ih (i + 1) n (by omega) (by omega)
      obtain ⟨w1, w2, w3⟩ := hQ i (by omega)
      have I : vp_in (nI i) 8 := vp_in_nI (by omega) (by omega)
      have ef : ¬ (ba i ≤ x ∧ x < ba i + bs i) → wY_memory_37 post (nI x) (nI j) (nI w) (nI b) (nI m) (nI c) (nI q) (fun i => nI (k i)) (fun i => nI (p i)) (fun i => nI (s i)) (fun i => nI (kn i)) (fun i => nI (ad i)) (fun i => nI (r i)) D (fun i => nI (bs i)) (fun i => nI (ba i)) BD (fun i => nI (ce i)) (fun i => nI (pr i)) (fun i => nI (rc i)) n (nI (lq_mb bs ba BD ce x i)) (nI (i + 1)) := fun z => by
        have e : lq_mb bs ba BD ce x (i + 1) = lq_mb bs ba BD ce x i := if_neg z
        rw [e] at ih'
        exact ih'
      refine br_f (nI_ge (by omega) (by omega)) ⟨I, ?_⟩
      rw [nI_clamp (show i < 2 ^ 31 by omega)]
      by_cases z : ba i ≤ x
      · refine nm_r (pk_sub z) (br_f (nI_pos (by omega)) ⟨I, pk_le (bs i) (x - ba i) (fun y => nm_r (nI_1 i) (ef (by omega))) (fun y => ⟨I, nm_r (e' := nI (lq_by (BD i) (x - ba i))) ?_ (nm_r (nI_1 i) ?_)⟩)⟩)
        · rw [show (8 : Int32) * nI (x - ba i) = nI (8 * (x - ba i)) from pk_mul 8 _]
          exact lq_yb _ (by omega)
        · have e : lq_mb bs ba BD ce x (i + 1) = lq_by (BD i) (x - ba i) := if_pos ⟨z, by omega⟩
          rw [e] at ih'
          exact ih'
      · exact nm_e (br_t (lq_sneg (by omega) (by omega)) (nm_r (nI_1 i) (ef (fun y => z y.1))))
  have l := main j 0 (j + 1) (by omega) (by omega)
  unfold wpY_memory
  refine br_f (nI_pos (by omega)) (br_f (nI_ge (by omega) (by omega)) (br_f (nI_pos (by omega)) (br_t (nI_le (by omega) (by omega)) ⟨vp_in_nI (by omega) (by omega), ?_⟩)))
  rw [nI_clamp (show x < 2 ^ 31 by omega)]
  exact nm_e ⟨j + 1, l⟩
theorem ly_memB {v1 v2 : Int32} (hv : v1 < 0 ∨ nI m ≤ v1 ∨ v2 < 0 ∨ ¬ v2 ≤ nI q) {post : Int32 → Prop} (hp : post (-3)) : wpY_memory post (nI w, nI b, nI m, nI c, nI q, (fun i => nI (k i)), (fun i => nI (p i)), (fun i => nI (s i)), (fun i => nI (kn i)), (fun i => nI (ad i)), (fun i => nI (r i)), D, (fun i => nI (bs i)), (fun i => nI (ba i)), BD, (fun i => nI (ce i)), (fun i => nI (pr i)), (fun i => nI (rc i))) v1 v2 := by
  unfold wpY_memory
  rcases hv with hv | hv | hv | hv
  · exact br_t hv hp
  · exact br_c (fun _ => hp) (fun _ => br_t hv hp)
  · exact br_c (fun _ => hp) (fun _ => br_c (fun _ => hp) (fun _ => br_t hv hp))
  · exact br_c (fun _ => hp) (fun _ => br_c (fun _ => hp) (fun _ => br_c (fun _ => hp) (fun _ => br_f hv hp)))
theorem ly_val34 (h : lq_XI w b m c q k p s r kn ad A V D bs ba BV BD ce) {j : Nat} (hj : j < c) (hn : k j ≠ 1 → kn j = 1) {f : Nat → Nat} (hf : f = if k j = 1 then lq_by (D j) else fun i => lq_lb k s kn ad D (fun a => lq_mb bs ba BD ce a q) (ad j + i) j) {post : Int64 → Prop} (hp : post (lN (lq_vs f (s j)))) : ∃ n, wY_value_34 post (nI j) (nI w) (nI b) (nI m) (nI c) (nI q) (fun i => nI (k i)) (fun i => nI (p i)) (fun i => nI (s i)) (fun i => nI (kn i)) (fun i => nI (ad i)) (fun i => nI (r i)) D (fun i => nI (bs i)) (fun i => nI (ba i)) BD (fun i => nI (ce i)) (fun i => nI (pr i)) (fun i => nI (rc i)) n 0 0 := by
  have h' := h
  obtain ⟨h1, h2, h3, h4, h5⟩ := h
  obtain ⟨w1, w2, w3, _⟩ := h3 j hj
  have b1 := h2 j
  have I : vp_in (nI j) 32 := vp_in_nI (by omega) (by omega)
  have lt : ∀ i, f i < 256 := fun i => by
    rw [hf]
    split
    · exact lq_by_lt _ _
    · exact lq_lb_lt k s kn ad D (fun a => lq_mb bs ba BD ce a q) (ad j + i) (lq_mb_lt bs ba BD ce (ad j + i) (h5 _) q) j
  have main : ∀ d i n, i + d = s j → d < n → wY_value_34 post (nI j) (nI w) (nI b) (nI m) (nI c) (nI q) (fun i => nI (k i)) (fun i => nI (p i)) (fun i => nI (s i)) (fun i => nI (kn i)) (fun i => nI (ad i)) (fun i => nI (r i)) D (fun i => nI (bs i)) (fun i => nI (ba i)) BD (fun i => nI (ce i)) (fun i => nI (pr i)) (fun i => nI (rc i)) n (lN (lq_vs f i)) (nI i) := by
    intro d
    induction d with
    | zero =>
      intro i n hi hd
      obtain ⟨n, rfl⟩ : ∃ t, n = t + 1 := ⟨n - 1, by omega⟩
      refine ⟨I, ?_⟩
      rw [nI_clamp (show j < 2 ^ 31 by omega)]
      refine pk_le (s j) i (fun _ => ?_) (fun z => absurd z (by omega))
      rw [show i = s j by omega]
      exact hp
    | succ d ih =>
      intro i n hi hd
      obtain ⟨n, rfl⟩ : ∃ t, n = t + 1 := ⟨n - 1, by omega⟩
      have go : ∀ z0 : Int32, z0 = nI (f i) → wY_value_146 post (wY_value_34 post (nI j) (nI w) (nI b) (nI m) (nI c) (nI q) (fun i => nI (k i)) (fun i => nI (p i)) (fun i => nI (s i)) (fun i => nI (kn i)) (fun i => nI (ad i)) (fun i => nI (r i)) D (fun i => nI (bs i)) (fun i => nI (ba i)) BD (fun i => nI (ce i)) (fun i => nI (pr i)) (fun i => nI (rc i)) n) (nI j) (lN (lq_vs f i)) (nI i) z0 (nI w) (nI b) (nI m) (nI c) (nI q) (fun i => nI (k i)) (fun i => nI (p i)) (fun i => nI (s i)) (fun i => nI (kn i)) (fun i => nI (ad i)) (fun i => nI (r i)) D (fun i => nI (bs i)) (fun i => nI (ba i)) BD (fun i => nI (ce i)) (fun i => nI (pr i)) (fun i => nI (rc i)) := fun z0 ez => by
        rw [ez]
        unfold wY_value_146
        rw [show (8 : Int32) * nI i = nI (8 * i) from pk_mul 8 i, lq_vadd f i (by omega) (lt i), nI_1 i]
        exact nm_e (nm_e (ih (i + 1) n (by omega) (by omega)))
      refine ⟨I, ?_⟩
      rw [nI_clamp (show j < 2 ^ 31 by omega)]
      refine pk_le (s j) i (fun z => absurd z (by omega)) (fun _ => ⟨I, pk_eq (k j) 1 (fun zk => ⟨I, nm_r (e' := nI (f i)) ?_ (go _ rfl)⟩) (fun zk => ⟨I, ?_⟩)⟩)
      · rw [show (8 : Int32) * nI i = nI (8 * i) from pk_mul 8 i, lq_yb _ (by omega), hf, if_pos zk]
      · have fi : f i = lq_lb k s kn ad D (fun a => lq_mb bs ba BD ce a q) (ad j + i) j := by rw [hf, if_neg zk]
        have w2' := w2 (hn zk)
        refine nm_r (nI_add (ad j) i) (ly_src (lq_XIG h') (by omega) (by omega) ?_)
        cases e : lq_src k s kn ad (ad j + i) j with
        | none =>
          refine br_t (by decide) (ly_mem (by omega) (by omega) h4 (by omega) (Nat.le_refl q) (go _ ?_))
          rw [fi, lq_lb_none j e]
        | some t =>
          obtain ⟨tl, tc⟩ := lq_src_lt j e
          obtain ⟨t1, t2, t3, t4⟩ := h3 t (by omega)
          have It : vp_in (nI t) 32 := vp_in_nI (by omega) (by omega)
          have el : (lq_en (some t)).toNatClampNeg = t := nI_clamp (show t < 2 ^ 31 by omega)
          refine br_f (nI_pos (show t < 2 ^ 31 by omega)) ⟨It, It, ?_⟩
          rw [el]
          refine nm_r (e' := nI (f i)) ?_ (go _ rfl)
          show D t >>> ((8 * (nI (ad j + i) - nI (ad t))) &&& 31) &&& 255 = _
          have t5 := tc.2.2
          rw [pk_sub tc.2.2.1, show (8 : Int32) * nI (ad j + i - ad t) = nI (8 * (ad j + i - ad t)) from pk_mul 8 _, lq_yb _ (by omega), fi, lq_lb_some j e]
  exact ⟨s j + 1, main (s j) 0 (s j + 1) (by omega) (by omega)⟩
theorem ly_value (h : lq_XI w b m c q k p s r kn ad A V D bs ba BV BD ce) {j : Nat} (hj : j < c) {post : Int64 → Prop} (hp : r j = 1 → post (V j)) (hn : r j ≠ 1 → post (-9)) : wpY_value post (nI w, nI b, nI m, nI c, nI q, (fun i => nI (k i)), (fun i => nI (p i)), (fun i => nI (s i)), (fun i => nI (kn i)), (fun i => nI (ad i)), (fun i => nI (r i)), D, (fun i => nI (bs i)), (fun i => nI (ba i)), BD, (fun i => nI (ce i)), (fun i => nI (pr i)), (fun i => nI (rc i))) (nI j) := by
  have h' := h
  obtain ⟨h1, h2, h3, h4, h5⟩ := h
  obtain ⟨w1, w2, w3, w4⟩ := h3 j hj
  have b1 := h2 j
  have I : vp_in (nI j) 32 := vp_in_nI (by omega) (by omega)
  unfold wpY_value
  refine br_f (nI_pos (by omega)) (br_t (nI_lt hj (by omega)) ⟨I, ?_⟩)
  rw [nI_clamp (show j < 2 ^ 31 by omega)]
  refine pk_eq (r j) 0 (fun z => hn (by omega)) (fun z => ?_)
  have zr : r j = 1 := by omega
  have ok := w4 zr
  by_cases zk : k j = 1
  · refine ly_val34 h' hj (fun n => absurd zk n) (if_pos zk).symm ?_
    rw [lq_vs_by, ← ok.1 zk]
    exact hp zr
  · refine ly_val34 h' hj (fun n => (ok.2 n).1) (if_neg zk).symm ?_
    rw [← (ok.2 zk).2.1]
    exact hp zr
/-! sameSet -/
theorem lq_sw_t {pr rc : Nat → Nat} {n : Nat} (h : lq_sw pr rc n (n / 16) = 1 ∧ pr n = 1) : lq_sw pr rc (n + 1) = lq_un (lq_sw pr rc n) (n % 16) 1 := by
  rw [lq_sw, if_pos h]
theorem lq_sw_f {pr rc : Nat → Nat} {n : Nat} (h : ¬ (lq_sw pr rc n (n / 16) = 1 ∧ pr n = 1)) : lq_sw pr rc (n + 1) = lq_sw pr rc n := by
  rw [lq_sw, if_neg h]
theorem ly_s75 {post : Int32 → SY → Prop} {J56 J65 : Int32 → (Nat → Int32) → (Nat → Int32) → (Nat → Int32) → (Nat → Int32) → (Nat → Int32) → (Nat → Int32) → (Nat → Int32) → (Nat → Int32) → (Nat → Int32) → (Nat → Int32) → (Nat → Int32) → (Nat → Int32) → (Nat → Int32) → Prop} {x2 x3 : Int32} {x : Nat} (hx : x < 16) (hpr : ∀ i, pr i ≤ 1) (hrc : ∀ i, rc i ≤ 1) (hJ : J65 (nI (x + 1)) (fun i => nI (k i)) (fun i => nI (p i)) (fun i => nI (s i)) (fun i => nI (kn i)) (fun i => nI (ad i)) (fun i => nI (r i)) D (fun i => nI (bs i)) (fun i => nI (ba i)) BD (fun i => nI (ce i)) (fun i => nI (pr i)) (fun iz => nI ((lq_sw pr rc (16 * (x + 1))) iz))) : ∀ d y n, y + d = 16 → d < n → wY_sameSet_75 post J56 J65 x2 x3 (nI x) (nI w) (nI b) (nI m) (nI c) (nI q) n (nI y) (fun i => nI (k i)) (fun i => nI (p i)) (fun i => nI (s i)) (fun i => nI (kn i)) (fun i => nI (ad i)) (fun i => nI (r i)) D (fun i => nI (bs i)) (fun i => nI (ba i)) BD (fun i => nI (ce i)) (fun i => nI (pr i)) (fun iz => nI ((lq_sw pr rc (16 * x + y)) iz)) := by
  intro d
  induction d with
  | zero =>
    intro y n hy hd
    obtain ⟨n, rfl⟩ : ∃ t, n = t + 1 := ⟨n - 1, by omega⟩
    rw [show 16 * x + y = 16 * (x + 1) by omega, show y = 16 by omega]
    exact br_t (by decide) (nm_r (nI_1 x) hJ)
  | succ d ih =>
    intro y n hy hd
    obtain ⟨n, rfl⟩ : ∃ t, n = t + 1 := ⟨n - 1, by omega⟩
    have ih' := ih (y + 1) n (by omega) (by omega)
    have Ix : vp_in (nI x) 16 := vp_in_nI (by omega) (by omega)
    have Iy : vp_in (nI y) 16 := vp_in_nI (by omega) (by omega)
    have sle := lq_swle (pr := pr) hrc (16 * x + y) x
    have ple := hpr (16 * x + y)
    have d1 : (16 * x + y) / 16 = x := by omega
    have d2 : (16 * x + y) % 16 = y := by omega
    have skip : ¬ (lq_sw pr rc (16 * x + y) x = 1 ∧ pr (16 * x + y) = 1) → wY_sameSet_75 post J56 J65 x2 x3 (nI x) (nI w) (nI b) (nI m) (nI c) (nI q) n (nI (y + 1)) (fun i => nI (k i)) (fun i => nI (p i)) (fun i => nI (s i)) (fun i => nI (kn i)) (fun i => nI (ad i)) (fun i => nI (r i)) D (fun i => nI (bs i)) (fun i => nI (ba i)) BD (fun i => nI (ce i)) (fun i => nI (pr i)) (fun iz => nI ((lq_sw pr rc (16 * x + y)) iz)) := fun z => by
      have e : lq_sw pr rc (16 * x + (y + 1)) = lq_sw pr rc (16 * x + y) := lq_sw_f (n := 16 * x + y) (by rw [d1]; exact z)
      rw [e] at ih'
      exact ih'
    refine br_f (nI_ge (b := 16) (by omega) (by decide)) ⟨Ix, ?_⟩
    rw [nI_clamp (show x < 2 ^ 31 by omega), show (16 : Int32) * nI x = nI (16 * x) from pk_mul 16 x, nI_add, nI_clamp (show 16 * x + y < 2 ^ 31 by omega), nI_clamp (show y < 2 ^ 31 by omega)]
    refine pk_eq (lq_sw pr rc (16 * x + y) x) 0 (fun z => nm_r (nI_1 y) (skip (by omega))) (fun z => ⟨vp_in_nI (by omega) (by omega), pk_eq (pr (16 * x + y)) 0 (fun u => nm_r (nI_1 y) (skip (by omega))) (fun u => ⟨Iy, nm_r (e' := fun iz => nI (lq_sw pr rc (16 * x + (y + 1)) iz)) ?_ (nm_r (nI_1 y) ih')⟩)⟩)
    have e : lq_sw pr rc (16 * x + (y + 1)) = lq_un (lq_sw pr rc (16 * x + y)) y 1 := by
      have := lq_sw_t (pr := pr) (rc := rc) (n := 16 * x + y) (by rw [d1]; omega)
      rw [d2] at this
      exact this
    rw [lq_nb1, e]
    exact lq_upd _ y 1
theorem ly_s65 {post : Int32 → SY → Prop} {J56 : Int32 → (Nat → Int32) → (Nat → Int32) → (Nat → Int32) → (Nat → Int32) → (Nat → Int32) → (Nat → Int32) → (Nat → Int32) → (Nat → Int32) → (Nat → Int32) → (Nat → Int32) → (Nat → Int32) → (Nat → Int32) → (Nat → Int32) → Prop} {x2 : Int32} {t : Nat} (hpr : ∀ i, pr i ≤ 1) (hrc : ∀ i, rc i ≤ 1) (hJ : ∀ g, g = 256 → J56 (nI (t + 1)) (fun i => nI (k i)) (fun i => nI (p i)) (fun i => nI (s i)) (fun i => nI (kn i)) (fun i => nI (ad i)) (fun i => nI (r i)) D (fun i => nI (bs i)) (fun i => nI (ba i)) BD (fun i => nI (ce i)) (fun i => nI (pr i)) (fun iz => nI ((lq_sw pr rc g) iz))) : ∀ d x n, x + d = 16 → d < n → wY_sameSet_65 post J56 x2 (nI t) (nI w) (nI b) (nI m) (nI c) (nI q) n (nI x) (fun i => nI (k i)) (fun i => nI (p i)) (fun i => nI (s i)) (fun i => nI (kn i)) (fun i => nI (ad i)) (fun i => nI (r i)) D (fun i => nI (bs i)) (fun i => nI (ba i)) BD (fun i => nI (ce i)) (fun i => nI (pr i)) (fun iz => nI ((lq_sw pr rc (16 * x)) iz)) := by
  intro d
  induction d with
  | zero =>
    intro x n hx hd
    obtain ⟨n, rfl⟩ : ∃ t, n = t + 1 := ⟨n - 1, by omega⟩
    have hJ' := hJ (16 * x) (by omega)
    refine br_t ?_ (nm_r (nI_1 t) hJ')
    rw [show x = 16 by omega]
    decide
  | succ d ih =>
    intro x n hx hd
    obtain ⟨n, rfl⟩ : ∃ t, n = t + 1 := ⟨n - 1, by omega⟩
    have l := ly_s75 (post := post) (J56 := J56) (J65 := wY_sameSet_65 post J56 x2 (nI t) (nI w) (nI b) (nI m) (nI c) (nI q) n) (x2 := x2) (x3 := nI t) (x := x) (w := w) (b := b) (m := m) (c := c) (q := q) (by omega) hpr hrc (ih (x + 1) n (by omega) (by omega)) 16 0 17 (by omega) (by omega)
    exact br_f (nI_ge (b := 16) (by omega) (by decide)) ⟨17, l⟩
theorem ly_s56 {post : Int32 → SY → Prop} {e : Nat} (he : e < 16) (hpr : ∀ i, pr i ≤ 1) (hrc : ∀ i, rc i ≤ 1) (h0 : lq_it pr rc 16 e ≠ 1 → post 0 (nI w, nI b, nI m, nI c, nI q, (fun i => nI (k i)), (fun i => nI (p i)), (fun i => nI (s i)), (fun i => nI (kn i)), (fun i => nI (ad i)), (fun i => nI (r i)), D, (fun i => nI (bs i)), (fun i => nI (ba i)), BD, (fun i => nI (ce i)), (fun i => nI (pr i)), (fun iz => nI ((lq_it pr rc 16) iz)))) (h1 : lq_it pr rc 16 e = 1 → post 1 (nI w, nI b, nI m, nI c, nI q, (fun i => nI (k i)), (fun i => nI (p i)), (fun i => nI (s i)), (fun i => nI (kn i)), (fun i => nI (ad i)), (fun i => nI (r i)), D, (fun i => nI (bs i)), (fun i => nI (ba i)), BD, (fun i => nI (ce i)), (fun i => nI (pr i)), (fun iz => nI ((lq_it pr rc 16) iz)))) : ∀ d t n, t + d = 16 → d < n → wY_sameSet_56 post (nI e) (nI w) (nI b) (nI m) (nI c) (nI q) n (nI t) (fun i => nI (k i)) (fun i => nI (p i)) (fun i => nI (s i)) (fun i => nI (kn i)) (fun i => nI (ad i)) (fun i => nI (r i)) D (fun i => nI (bs i)) (fun i => nI (ba i)) BD (fun i => nI (ce i)) (fun i => nI (pr i)) (fun iz => nI ((lq_it pr rc t) iz)) := by
  intro d
  induction d with
  | zero =>
    intro t n ht hd
    obtain ⟨n, rfl⟩ : ∃ t, n = t + 1 := ⟨n - 1, by omega⟩
    have le := lq_itle (pr := pr) hrc t e
    rw [show (16 : Nat) = t by omega] at h0 h1
    refine br_t (by rw [show t = 16 by omega]; decide) ⟨vp_in_nI (by omega) (by omega), ?_⟩
    rw [nI_clamp (show e < 2 ^ 31 by omega)]
    exact pk_eq (lq_it pr rc t e) 0 (fun z => h0 (by omega)) (fun z => h1 (by omega))
  | succ d ih =>
    intro t n ht hd
    obtain ⟨n, rfl⟩ : ∃ t, n = t + 1 := ⟨n - 1, by omega⟩
    have ih' := ih (t + 1) n (by omega) (by omega)
    rw [lq_it] at ih'
    have l := ly_s65 (post := post) (J56 := wY_sameSet_56 post (nI e) (nI w) (nI b) (nI m) (nI c) (nI q) n) (x2 := nI e) (t := t) (rc := lq_it pr rc t) (w := w) (b := b) (m := m) (c := c) (q := q) hpr (lq_itle hrc t) (fun g hg => by rw [hg]; exact ih') 16 0 17 (by omega) (by omega)
    exact br_f (nI_ge (b := 16) (by omega) (by decide)) ⟨17, l⟩
def lq_ri (pr rc : Nat → Nat) (a i : Nat) : Nat → Nat := fun x => if x < i then pr (16 * a + x) else rc x
theorem lq_ri0 (pr rc : Nat → Nat) (a : Nat) : lq_ri pr rc a 0 = rc := by
  funext x
  exact if_neg (by omega)
theorem lq_ri1 (pr rc : Nat → Nat) (a i : Nat) : lq_un (lq_ri pr rc a i) i (pr (16 * a + i)) = lq_ri pr rc a (i + 1) := by
  funext x
  unfold lq_un lq_ri
  by_cases e : x = i
  · rw [if_pos e, if_pos (by omega), e]
  · rw [if_neg e]
    by_cases z : x < i
    · rw [if_pos z, if_pos (by omega)]
    · rw [if_neg z, if_neg (by omega)]
theorem ly_same (hS : lq_S st pr) (hpr : ∀ i, pr i ≤ 1) (hrc : ∀ i, rc i ≤ 1) {a e : Nat} (ha : a < 16) (he : e < 16) : ∃ rc' : Nat → Nat, (∀ i, rc' i ≤ 1) ∧ ∀ (w b m c q : Nat) (k p s kn ad r : Nat → Nat) (D : Nat → Int32) (bs ba : Nat → Nat) (BD : Nat → Int32) (ce : Nat → Nat) (post : Int32 → SY → Prop), (st a ≠ -1 ∧ st a = st e → post 1 (nI w, nI b, nI m, nI c, nI q, (fun i => nI (k i)), (fun i => nI (p i)), (fun i => nI (s i)), (fun i => nI (kn i)), (fun i => nI (ad i)), (fun i => nI (r i)), D, (fun i => nI (bs i)), (fun i => nI (ba i)), BD, (fun i => nI (ce i)), (fun i => nI (pr i)), (fun iz => nI (rc' iz)))) → (¬ (st a ≠ -1 ∧ st a = st e) → post 0 (nI w, nI b, nI m, nI c, nI q, (fun i => nI (k i)), (fun i => nI (p i)), (fun i => nI (s i)), (fun i => nI (kn i)), (fun i => nI (ad i)), (fun i => nI (r i)), D, (fun i => nI (bs i)), (fun i => nI (ba i)), BD, (fun i => nI (ce i)), (fun i => nI (pr i)), (fun iz => nI (rc' iz)))) → wpY_sameSet post (nI w, nI b, nI m, nI c, nI q, (fun i => nI (k i)), (fun i => nI (p i)), (fun i => nI (s i)), (fun i => nI (kn i)), (fun i => nI (ad i)), (fun i => nI (r i)), D, (fun i => nI (bs i)), (fun i => nI (ba i)), BD, (fun i => nI (ce i)), (fun i => nI (pr i)), (fun i => nI (rc i))) (nI a) (nI e) := by
  have hri : ∀ i, lq_ri pr rc a 16 i ≤ 1 := fun i => by
    unfold lq_ri
    split
    · exact hpr _
    · exact hrc _
  have key := lq_reach (rc := lq_ri pr rc a 16) hS ha he hri (fun x hx => if_pos hx)
  refine ⟨lq_it pr (lq_ri pr rc a 16) 16, lq_itle hri 16, fun w b m c q k p s kn ad r D bs ba BD ce post hp hn => ?_⟩
  have l56 : ∃ n, wY_sameSet_56 post (nI e) (nI w) (nI b) (nI m) (nI c) (nI q) n 0 (fun i => nI (k i)) (fun i => nI (p i)) (fun i => nI (s i)) (fun i => nI (kn i)) (fun i => nI (ad i)) (fun i => nI (r i)) D (fun i => nI (bs i)) (fun i => nI (ba i)) BD (fun i => nI (ce i)) (fun i => nI (pr i)) (fun iz => nI ((lq_ri pr rc a 16) iz)) := ⟨17, ly_s56 (rc := lq_ri pr rc a 16) he hpr hri (fun z => hn (fun y => z (key.mpr y))) (fun z => hp (key.mp z)) 16 0 17 (by omega) (by omega)⟩
  have main : ∀ d i n, i + d = 16 → d < n → wY_sameSet_25 post (nI a) (nI e) (nI w) (nI b) (nI m) (nI c) (nI q) n (nI i) (fun i => nI (k i)) (fun i => nI (p i)) (fun i => nI (s i)) (fun i => nI (kn i)) (fun i => nI (ad i)) (fun i => nI (r i)) D (fun i => nI (bs i)) (fun i => nI (ba i)) BD (fun i => nI (ce i)) (fun i => nI (pr i)) (fun iz => nI ((lq_ri pr rc a i) iz)) := by
    intro d
    induction d with
    | zero =>
      intro i n hi hd
      obtain ⟨n, rfl⟩ : ∃ t, n = t + 1 := ⟨n - 1, by omega⟩
      obtain rfl : i = 16 := by omega
      exact br_t (by decide) l56
    | succ d ih =>
      intro i n hi hd
      obtain ⟨n, rfl⟩ : ∃ t, n = t + 1 := ⟨n - 1, by omega⟩
      refine br_f (nI_ge (b := 16) (by omega) (by decide)) ?_
      rw [show (16 : Int32) * nI a = nI (16 * a) from pk_mul 16 a, nI_add, nI_clamp (show 16 * a + i < 2 ^ 31 by omega), nI_clamp (show i < 2 ^ 31 by omega)]
      refine ⟨vp_in_nI (by omega) (by omega), vp_in_nI (by omega) (by omega), nm_r (e' := fun iz => nI (lq_ri pr rc a (i + 1) iz)) ?_ (nm_r (nI_1 i) (ih (i + 1) n (by omega) (by omega)))⟩
      rw [lq_nb (hpr _), ← lq_ri1]
      exact lq_upd _ i _
  have l := main 16 0 17 (by omega) (by omega)
  rw [lq_ri0] at l
  unfold wpY_sameSet
  exact br_f (nI_pos (by omega)) (br_f (nI_nlt (a := 15) (b := a) (by omega) (by decide)) (br_f (nI_pos (by omega)) (br_t (nI_le (b := 15) (by omega) (by decide)) ⟨17, l⟩)))
end
