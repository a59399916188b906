/-! the picture of the class's state, kept by each call -/
def lq_XI (w b m c q : Nat) (k p s r kn ad : Nat → Nat) (A : Nat → Int32) (V : Nat → Int64) (D : Nat → Int32) (bs ba : Nat → Nat) (BV : Nat → Int64) (BD : Nat → Int32) (ce : Nat → Nat) : Prop :=
  (4 ≤ w ∧ w ≤ 32 ∧ 1 ≤ b ∧ b ≤ 8 ∧ 8 ≤ m ∧ m ≤ 64 ∧ c ≤ w ∧ q ≤ b) ∧ lq_B k p r kn ∧ lq_W m c k s r kn ad A V D (fun a => lq_mb bs ba BD ce a q) ∧ lq_Q m q bs ba BV BD ∧ (∀ a, ce a < 256)
theorem lq_XIenter {w b m c q : Nat} {k p s r kn ad : Nat → Nat} {A : Nat → Int32} {V : Nat → Int64} {D : Nat → Int32} {bs ba : Nat → Nat} {BV : Nat → Int64} {BD : Nat → Int32} {ce : Nat → Nat} (h : lq_XI w b m c q k p s r kn ad A V D bs ba BV BD ce) (hc : c < w) {x y z : Nat} (hx : x ≤ 1) (hy : y < 16) (hz : z = 1 ∨ z = 2 ∨ z = 4) : lq_XI w b m (c + 1) q (lq_un k c x) (lq_un p c y) (lq_un s c z) (lq_un r c 0) (lq_un kn c 0) (lq_un ad c 0) (upd A c (-1)) V (upd D c 0) bs ba BV BD ce := by
  obtain ⟨h1, h2, h3, h4, h5⟩ := h
  refine ⟨by omega, fun i => ⟨?_, ?_, ?_, ?_⟩, lq_Wenter h3 x z hz, h4, h5⟩
  · exact lq_unp (P := fun y => y ≤ 1) (fun i => (h2 i).1) hx i
  · exact lq_unp (P := fun y => y < 16) (fun i => (h2 i).2.1) hy i
  · exact lq_unp (P := fun y => y ≤ 1) (fun i => (h2 i).2.2.1) (by omega) i
  · exact lq_unp (P := fun y => y ≤ 1) (fun i => (h2 i).2.2.2) (by omega) i
theorem lq_XIaddrL {w b m c q : Nat} {k p s r kn ad : Nat → Nat} {A : Nat → Int32} {V : Nat → Int64} {D : Nat → Int32} {bs ba : Nat → Nat} {BV : Nat → Int64} {BD : Nat → Int32} {ce : Nat → Nat} (h : lq_XI w b m c q k p s r kn ad A V D bs ba BV BD ce) {j a : Nat} (hj : j < c) (hk : k j ≠ 1) (hn : kn j ≠ 1) (ha : a + s j ≤ m) : lq_XI w b m c q k p s r (lq_un kn j 1) (lq_un ad j a) (upd A j (nI a)) V D bs ba BV BD ce := by
  obtain ⟨h1, h2, h3, h4, h5⟩ := h
  exact ⟨h1, fun i => ⟨(h2 i).1, (h2 i).2.1, (h2 i).2.2.1, lq_unp (P := fun y => y ≤ 1) (fun i => (h2 i).2.2.2) (by omega) i⟩, lq_WaddrL h3 hj hk hn ha, h4, h5⟩
theorem lq_XIaddrS {w b m c q : Nat} {k p s r kn ad r' : Nat → Nat} {A : Nat → Int32} {V : Nat → Int64} {D : Nat → Int32} {bs ba : Nat → Nat} {BV : Nat → Int64} {BD : Nat → Int32} {ce : Nat → Nat} (h : lq_XI w b m c q k p s r kn ad A V D bs ba BV BD ce) {j a : Nat} (hk : k j = 1) (hn : kn j ≠ 1) (ha : a + s j ≤ m) (hr : ∀ i, r' i ≤ r i) (hr1 : ∀ i, k i = 1 → r i = 1 → r' i = 1) (hr2 : ∀ i, j < i → i < c → lq_ms k s r (lq_un kn j 1) (lq_un ad j a) j i → r' i ≠ 1) : lq_XI w b m c q k p s r' (lq_un kn j 1) (lq_un ad j a) (upd A j (nI a)) V D bs ba BV BD ce := by
  obtain ⟨h1, h2, h3, h4, h5⟩ := h
  refine ⟨h1, fun i => ⟨(h2 i).1, (h2 i).2.1, ?_, lq_unp (P := fun y => y ≤ 1) (fun i => (h2 i).2.2.2) (by omega) i⟩, lq_WaddrS h3 (fun i => (h2 i).1) hk hn ha (fun i z => ?_) hr1 hr2, h4, h5⟩
  · exact Nat.le_trans (hr i) (h2 i).2.2.1
  · have a1 := hr i
    have a2 := (h2 i).2.2.1
    omega
theorem lq_XIdata {w b m c q : Nat} {k p s r kn ad : Nat → Nat} {A : Nat → Int32} {V : Nat → Int64} {D : Nat → Int32} {bs ba : Nat → Nat} {BV : Nat → Int64} {BD : Nat → Int32} {ce : Nat → Nat} (h : lq_XI w b m c q k p s r kn ad A V D bs ba BV BD ce) {j : Nat} (d : Int32) (hk : k j = 1) (hr : r j ≠ 1) : lq_XI w b m c q k p s (lq_un r j 1) kn ad A (vp_updL V j (lN (lq_lo d (s j)))) (upd D j d) bs ba BV BD ce := by
  obtain ⟨h1, h2, h3, h4, h5⟩ := h
  exact ⟨h1, fun i => ⟨(h2 i).1, (h2 i).2.1, lq_unp (P := fun y => y ≤ 1) (fun i => (h2 i).2.2.1) (by omega) i, (h2 i).2.2.2⟩, lq_Wdata h3 hk hr, h4, h5⟩
theorem lq_XIexec {w b m c q : Nat} {k p s r kn ad : Nat → Nat} {A : Nat → Int32} {V : Nat → Int64} {D : Nat → Int32} {bs ba : Nat → Nat} {BV : Nat → Int64} {BD : Nat → Int32} {ce : Nat → Nat} (h : lq_XI w b m c q k p s r kn ad A V D bs ba BV BD ce) {j : Nat} (hk : k j ≠ 1) (hn : kn j = 1) (ha : ∀ i, i < s j → lq_ar k s r kn ad (ad j + i) j) : lq_XI w b m c q k p s (lq_un r j 1) kn ad A (vp_updL V j (lN (lq_vs (fun i => lq_lb k s kn ad D (fun a => lq_mb bs ba BD ce a q) (ad j + i) j) (s j)))) D bs ba BV BD ce := by
  obtain ⟨h1, h2, h3, h4, h5⟩ := h
  exact ⟨h1, fun i => ⟨(h2 i).1, (h2 i).2.1, lq_unp (P := fun y => y ≤ 1) (fun i => (h2 i).2.2.1) (by omega) i, (h2 i).2.2.2⟩, lq_Wexec h3 hk hn ha, h4, h5⟩
theorem lq_Bsh {c : Nat} {k p r kn : Nat → Nat} (h : lq_B k p r kn) : lq_B (lq_sh c k) (lq_sh c p) (lq_sh c r) (lq_sh c kn) := fun i => ⟨lq_shp (P := fun y => y ≤ 1) (fun i => (h i).1) i, lq_shp (P := fun y => y < 16) (fun i => (h i).2.1) i, lq_shp (P := fun y => y ≤ 1) (fun i => (h i).2.2.1) i, lq_shp (P := fun y => y ≤ 1) (fun i => (h i).2.2.2) i⟩
theorem lq_XIcommitL {w b m c q : Nat} {k p s r kn ad : Nat → Nat} {A : Nat → Int32} {V : Nat → Int64} {D : Nat → Int32} {bs ba : Nat → Nat} {BV : Nat → Int64} {BD : Nat → Int32} {ce : Nat → Nat} (h : lq_XI w b m (c + 1) q k p s r kn ad A V D bs ba BV BD ce) (hk : k 0 ≠ 1) : lq_XI w b m c q (lq_sh (c + 1) k) (lq_sh (c + 1) p) (lq_sh (c + 1) s) (lq_sh (c + 1) r) (lq_sh (c + 1) kn) (lq_sh (c + 1) ad) (lq_sh (c + 1) A) (lq_sh (c + 1) V) (lq_sh (c + 1) D) bs ba BV BD ce := by
  obtain ⟨h1, h2, h3, h4, h5⟩ := h
  refine ⟨by omega, lq_Bsh h2, lq_Wcommit h3 (fun i hi => ?_) (fun i hi => lq_shi _ (by omega)) (fun i hi => lq_shi _ (by omega)) (fun x => ?_), h4, h5⟩
  · exact ⟨lq_shi _ (by omega), lq_shi _ (by omega), lq_shi _ (by omega), lq_shi _ (by omega), lq_shi _ (by omega), lq_shi _ (by omega)⟩
  · show _ = if lq_cov k s kn ad x 0 then _ else _
    rw [if_neg (fun z => hk z.1)]
    rfl
theorem lq_XIcommitS {w b m c q : Nat} {k p s r kn ad : Nat → Nat} {A : Nat → Int32} {V : Nat → Int64} {D : Nat → Int32} {bs ba : Nat → Nat} {BV : Nat → Int64} {BD : Nat → Int32} {ce : Nat → Nat} (h : lq_XI w b m (c + 1) q k p s r kn ad A V D bs ba BV BD ce) (hk : k 0 = 1) (hn : kn 0 = 1) (hr : r 0 = 1) (hq : q < b) : lq_XI w b m c (q + 1) (lq_sh (c + 1) k) (lq_sh (c + 1) p) (lq_sh (c + 1) s) (lq_sh (c + 1) r) (lq_sh (c + 1) kn) (lq_sh (c + 1) ad) (lq_sh (c + 1) A) (lq_sh (c + 1) V) (lq_sh (c + 1) D) (lq_un bs q (s 0)) (lq_un ba q (ad 0)) (vp_updL BV q (V 0)) (upd BD q (D 0)) ce := by
  obtain ⟨h1, h2, h3, h4, h5⟩ := h
  obtain ⟨w1, w2, w3, w4⟩ := h3 0 (by omega)
  refine ⟨by omega, lq_Bsh h2, lq_Wcommit h3 (fun i hi => ?_) (fun i hi => lq_shi _ (by omega)) (fun i hi => lq_shi _ (by omega)) (fun x => ?_), fun i hi => ?_, h5⟩
  · exact ⟨lq_shi _ (by omega), lq_shi _ (by omega), lq_shi _ (by omega), lq_shi _ (by omega), lq_shi _ (by omega), lq_shi _ (by omega)⟩
  · show (if lq_un ba q (ad 0) q ≤ x ∧ x < lq_un ba q (ad 0) q + lq_un bs q (s 0) q then lq_by (upd BD q (D 0) q) (x - lq_un ba q (ad 0) q) else lq_mb (lq_un bs q (s 0)) (lq_un ba q (ad 0)) (upd BD q (D 0)) ce x q) = if lq_cov k s kn ad x 0 then lq_by (D 0) (x - ad 0) else lq_mb bs ba BD ce x q
    rw [lq_us, lq_us, pk_us]
    have e : lq_mb (lq_un bs q (s 0)) (lq_un ba q (ad 0)) (upd BD q (D 0)) ce x q = lq_mb bs ba BD ce x q := lq_mb_cong q (fun i hi => ⟨lq_ui (by omega), lq_ui (by omega), pk_un (by omega)⟩)
    rw [e]
    by_cases z : ad 0 ≤ x ∧ x < ad 0 + s 0
    · rw [if_pos z, if_pos ⟨hk, hn, z.1, z.2⟩]
    · rw [if_neg z, if_neg (fun y => z y.2.2)]
  · by_cases e : i = q
    · subst e
      rw [lq_us, lq_us, pk_uLs, pk_us]
      exact ⟨w1, w2 hn, (w4 hr).1 hk⟩
    · rw [lq_ui e, lq_ui e, pk_uLn e, pk_un e]
      exact h4 i (by omega)
theorem lq_XIdrain {w b m c q : Nat} {k p s r kn ad : Nat → Nat} {A : Nat → Int32} {V : Nat → Int64} {D : Nat → Int32} {bs ba : Nat → Nat} {BV : Nat → Int64} {BD : Nat → Int32} {ce : Nat → Nat} (h : lq_XI w b m c (q + 1) k p s r kn ad A V D bs ba BV BD ce) : lq_XI w b m c q k p s r kn ad A V D (lq_sh (q + 1) bs) (lq_sh (q + 1) ba) (lq_sh (q + 1) BV) (lq_sh (q + 1) BD) (fun a => lq_mb bs ba BD ce a 1) := by
  obtain ⟨h1, h2, h3, h4, h5⟩ := h
  refine ⟨by omega, h2, lq_Wbase h3 (fun x => ?_), fun i hi => ?_, fun a => lq_mb_lt bs ba BD ce a (h5 a) 1⟩
  · exact lq_mb_shift (ce' := fun a => lq_mb bs ba BD ce a 1) rfl q (fun i hi => ⟨lq_shi _ (by omega), lq_shi _ (by omega), lq_shi _ (by omega)⟩)
  · rw [lq_shi _ (by omega), lq_shi _ (by omega), lq_shi _ (by omega), lq_shi _ (by omega)]
    exact h4 (i + 1) (by omega)
theorem lq_XIdiscard {w b m c q : Nat} {k p s r kn ad : Nat → Nat} {A : Nat → Int32} {V : Nat → Int64} {D : Nat → Int32} {bs ba : Nat → Nat} {BV : Nat → Int64} {BD : Nat → Int32} {ce : Nat → Nat} (h : lq_XI w b m c q k p s r kn ad A V D bs ba BV BD ce) {c' : Nat} (hc : c' ≤ c) : lq_XI w b m c' q k p s r kn ad A V D bs ba BV BD ce := by
  obtain ⟨h1, h2, h3, h4, h5⟩ := h
  exact ⟨by omega, h2, fun j hj => h3 j (by omega), h4, h5⟩
theorem lq_XI0 {w b m : Nat} {A : Nat → Int32} {V : Nat → Int64} {D : Nat → Int32} {BV : Nat → Int64} {BD : Nat → Int32} {ce : Nat → Nat} (h : 4 ≤ w ∧ w ≤ 32 ∧ 1 ≤ b ∧ b ≤ 8 ∧ 8 ≤ m ∧ m ≤ 64) (hc : ∀ a, ce a < 256) : lq_XI w b m 0 0 (fun _ => 0) (fun _ => 0) (fun _ => 0) (fun _ => 0) (fun _ => 0) (fun _ => 0) A V D (fun _ => 0) (fun _ => 0) BV BD ce :=
  ⟨by omega, fun _ => ⟨Nat.zero_le 1, Nat.zero_lt_succ 15, Nat.zero_le 1, Nat.zero_le 1⟩, fun j hj => absurd hj (by omega), fun i hi => absurd hi (by omega), hc⟩
