/-! what the relation holds of the window, and how each call keeps it -/
def lq_ok (k s r kn ad : Nat → Nat) (V : Nat → Int64) (D : Nat → Int32) (base : Nat → Nat) (j : Nat) : Prop :=
  (k j = 1 → V j = lN (lq_lo (D j) (s j))) ∧
  (k j ≠ 1 → kn j = 1 ∧ V j = lN (lq_vs (fun i => lq_lb k s kn ad D base (ad j + i) j) (s j)) ∧ ∀ i, i < s j → lq_ar k s r kn ad (ad j + i) j)
def lq_W (m c : Nat) (k s r kn ad : Nat → Nat) (A : Nat → Int32) (V : Nat → Int64) (D : Nat → Int32) (base : Nat → Nat) : Prop :=
  ∀ j, j < c → (s j = 1 ∨ s j = 2 ∨ s j = 4) ∧ (kn j = 1 → ad j + s j ≤ m) ∧ A j = (if kn j = 1 then nI (ad j) else -1) ∧ (r j = 1 → lq_ok k s r kn ad V D base j)
def lq_B (k p r kn : Nat → Nat) : Prop := ∀ i, k i ≤ 1 ∧ p i < 16 ∧ r i ≤ 1 ∧ kn i ≤ 1
def lq_Q (m q : Nat) (bs ba : Nat → Nat) (BV : Nat → Int64) (BD : Nat → Int32) : Prop := ∀ i, i < q → (bs i = 1 ∨ bs i = 2 ∨ bs i = 4) ∧ ba i + bs i ≤ m ∧ BV i = lN (lq_lo (BD i) (bs i))
theorem lq_okK {k s r kn ad k' s' r' kn' ad' : Nat → Nat} {V V' : Nat → Int64} {D D' : Nat → Int32} {base base' : Nat → Nat} {j : Nat} (e1 : k' j = k j) (e2 : s' j = s j) (e3 : V' j = V j) (eD : k j = 1 → D' j = D j) (eL : k j ≠ 1 → kn j = 1 → kn' j = 1 ∧ ad' j = ad j) (hc : ∀ c i, i < j → (lq_cov k s kn ad c i ↔ lq_cov k' s' kn' ad' c i)) (hD : ∀ c i, i < j → lq_cov k s kn ad c i → r i = 1 → r' i = 1 ∧ lq_by (D' i) (c - ad' i) = lq_by (D i) (c - ad i)) (hb : ∀ c, base' c = base c) (h : lq_ok k s r kn ad V D base j) : lq_ok k' s' r' kn' ad' V' D' base' j := by
  refine ⟨fun z => ?_, fun z => ?_⟩
  · rw [e1] at z
    rw [e3, e2, eD z]
    exact h.1 z
  · rw [e1] at z
    obtain ⟨i1, i2, i3⟩ := h.2 z
    obtain ⟨l1, l2⟩ := eL z i1
    rw [e2, e3, l2]
    refine ⟨l1, ?_, fun i hi => (lq_keep j (hc _) (hD _) (hb _) (i3 i hi)).1⟩
    rw [i2]
    exact congrArg lN (lq_vs_cong _ (fun i hi => (lq_keep j (hc _) (hD _) (hb _) (i3 i hi)).2.symm))
theorem lq_Wenter {m c : Nat} {k s r kn ad : Nat → Nat} {A : Nat → Int32} {V : Nat → Int64} {D : Nat → Int32} {base : Nat → Nat} (h : lq_W m c k s r kn ad A V D base) (x y : Nat) (hy : y = 1 ∨ y = 2 ∨ y = 4) : lq_W m (c + 1) (lq_un k c x) (lq_un s c y) (lq_un r c 0) (lq_un kn c 0) (lq_un ad c 0) (upd A c (-1)) V (upd D c 0) base := by
  intro j hj
  by_cases e : j = c
  · subst e
    rw [lq_us, lq_us, lq_us, lq_us, pk_us]
    exact ⟨hy, fun z => (by cases z), rfl, fun z => (by cases z)⟩
  · obtain ⟨h1, h2, h3, h4⟩ := h j (by omega)
    rw [lq_ui e, lq_ui e, lq_ui e, lq_ui e, pk_un e]
    refine ⟨h1, h2, h3, fun z => lq_okK (lq_ui e) (lq_ui e) rfl (fun _ => pk_un e) (fun _ w => ⟨(lq_ui e).trans w, lq_ui e⟩) ?_ ?_ (fun _ => rfl) (h4 z)⟩
    · intro c' i hi
      have ei : i ≠ c := by omega
      unfold lq_cov
      rw [lq_ui ei, lq_ui ei, lq_ui ei, lq_ui ei]
    · intro c' i hi _ w
      have ei : i ≠ c := by omega
      rw [lq_ui ei, lq_ui ei, pk_un ei]
      exact ⟨w, rfl⟩
theorem lq_WaddrL {m c p a : Nat} {k s r kn ad : Nat → Nat} {A : Nat → Int32} {V : Nat → Int64} {D : Nat → Int32} {base : Nat → Nat} (h : lq_W m c k s r kn ad A V D base) (hp : p < c) (hk : k p ≠ 1) (hn : kn p ≠ 1) (ha : a + s p ≤ m) : lq_W m c k s r (lq_un kn p 1) (lq_un ad p a) (upd A p (nI a)) V D base := by
  intro j hj
  obtain ⟨h1, h2, h3, h4⟩ := h j hj
  by_cases e : j = p
  · subst e
    rw [lq_us, lq_us, pk_us]
    exact ⟨h1, fun _ => ha, (if_pos rfl).symm, fun z => absurd ((h4 z).2 hk).1 hn⟩
  · rw [lq_ui e, lq_ui e, pk_un e]
    refine ⟨h1, h2, h3, fun z => lq_okK rfl rfl rfl (fun _ => rfl) (fun _ w => ⟨(lq_ui e).trans w, lq_ui e⟩) ?_ ?_ (fun _ => rfl) (h4 z)⟩
    · intro c' i hi
      by_cases ei : i = p
      · subst ei
        exact ⟨fun w => absurd w.1 hk, fun w => absurd w.1 hk⟩
      · unfold lq_cov
        rw [lq_ui ei, lq_ui ei]
    · intro c' i hi co w
      have ei : i ≠ p := fun ei => hk (by rw [← ei]; exact co.1)
      rw [lq_ui ei]
      exact ⟨w, rfl⟩
/-- a load that is to be sent back: it draws from p -/
def lq_ms (k s r kn ad : Nat → Nat) (p j : Nat) : Prop := k j = 0 ∧ r j = 1 ∧ ∃ x, x < s j ∧ lq_src k s kn ad (ad j + x) j = some p
theorem lq_WaddrS {m c p a : Nat} {k s r kn ad r' : Nat → Nat} {A : Nat → Int32} {V : Nat → Int64} {D : Nat → Int32} {base : Nat → Nat} (h : lq_W m c k s r kn ad A V D base) (hB : ∀ i, k i ≤ 1) (hk : k p = 1) (hn : kn p ≠ 1) (ha : a + s p ≤ m) (hr : ∀ j, r' j = 1 → r j = 1) (hr1 : ∀ j, k j = 1 → r j = 1 → r' j = 1) (hr2 : ∀ j, p < j → j < c → lq_ms k s r (lq_un kn p 1) (lq_un ad p a) p j → r' j ≠ 1) : lq_W m c k s r' (lq_un kn p 1) (lq_un ad p a) (upd A p (nI a)) V D base := by
  intro j hj
  obtain ⟨h1, h2, h3, h4⟩ := h j hj
  by_cases e : j = p
  · subst e
    rw [lq_us, lq_us, pk_us]
    exact ⟨h1, fun _ => ha, (if_pos rfl).symm, fun z => ⟨fun w => (h4 (hr j z)).1 w, fun w => absurd hk w⟩⟩
  · rw [lq_ui e, lq_ui e, pk_un e]
    refine ⟨h1, h2, h3, fun z => ⟨fun w => (h4 (hr j z)).1 w, fun w => ?_⟩⟩
    obtain ⟨i1, i2, i3⟩ := (h4 (hr j z)).2 w
    rw [lq_ui e, lq_ui e]
    have key : ∀ x, x < s j → lq_ar k s r' (lq_un kn p 1) (lq_un ad p a) (ad j + x) j ∧ lq_lb k s (lq_un kn p 1) (lq_un ad p a) D base (ad j + x) j = lq_lb k s kn ad D base (ad j + x) j := by
      intro x hx
      rcases lq_new (k := k) (s := s) (r := r) (kn := kn) (ad := ad) (kn' := lq_un kn p 1) (ad' := lq_un ad p a) (D := D) (base := base) (c := ad j + x) (p := p) (fun co => hn co.2.1) (fun i hi => ⟨lq_ui hi, lq_ui hi⟩) j with hs | ⟨n1, n2⟩
      · have hpj := (lq_src_lt j hs).1
        have hkj := hB j
        exact absurd z (hr2 j hpj hj ⟨by omega, hr j z, x, hx, by rw [lq_ui e]; exact hs⟩)
      · refine ⟨?_, n2⟩
        exact (lq_keep (D := D) (D' := D) (base := base) (base' := base) j (fun i _ => Iff.rfl) (fun i _ co w => ⟨hr1 i co.1 w, rfl⟩) rfl (n1 (i3 x hx))).1
    exact ⟨i1, i2.trans (congrArg lN (lq_vs_cong _ (fun x hx => (key x hx).2.symm))), fun x hx => (key x hx).1⟩
theorem lq_Wdata {m c p : Nat} {d : Int32} {k s r kn ad : Nat → Nat} {A : Nat → Int32} {V : Nat → Int64} {D : Nat → Int32} {base : Nat → Nat} (h : lq_W m c k s r kn ad A V D base) (hk : k p = 1) (hr : r p ≠ 1) : lq_W m c k s (lq_un r p 1) kn ad A (vp_updL V p (lN (lq_lo d (s p)))) (upd D p d) base := by
  intro j hj
  obtain ⟨h1, h2, h3, h4⟩ := h j hj
  refine ⟨h1, h2, h3, fun z => ?_⟩
  by_cases e : j = p
  · subst e
    refine ⟨fun _ => by rw [pk_uLs, pk_us], fun w => absurd hk w⟩
  · rw [lq_ui e] at z
    refine lq_okK rfl rfl (pk_uLn e) (fun _ => pk_un e) (fun _ w => ⟨w, rfl⟩) (fun _ _ _ => Iff.rfl) ?_ (fun _ => rfl) (h4 z)
    intro c' i hi co w
    have ei : i ≠ p := fun ei => hr (by rw [← ei]; exact w)
    rw [lq_ui ei, pk_un ei]
    exact ⟨w, rfl⟩
theorem lq_Wexec {m c p : Nat} {k s r kn ad : Nat → Nat} {A : Nat → Int32} {V : Nat → Int64} {D : Nat → Int32} {base : Nat → Nat} (h : lq_W m c k s r kn ad A V D base) (hk : k p ≠ 1) (hn : kn p = 1) (ha : ∀ i, i < s p → lq_ar k s r kn ad (ad p + i) p) : lq_W m c k s (lq_un r p 1) kn ad A (vp_updL V p (lN (lq_vs (fun i => lq_lb k s kn ad D base (ad p + i) p) (s p)))) D base := by
  have up : ∀ i, r i = 1 → lq_un r p 1 i = 1 := fun i w => by
    unfold lq_un
    split
    · rfl
    · exact w
  intro j hj
  obtain ⟨h1, h2, h3, h4⟩ := h j hj
  refine ⟨h1, h2, h3, fun z => ?_⟩
  by_cases e : j = p
  · subst e
    refine ⟨fun w => absurd w hk, fun _ => ⟨hn, pk_uLs, fun i hi => ?_⟩⟩
    exact (lq_keep (D := D) (D' := D) (base := base) (base' := base) j (fun _ _ => Iff.rfl) (fun i _ _ w => ⟨up i w, rfl⟩) rfl (ha i hi)).1
  · rw [lq_ui e] at z
    exact lq_okK rfl rfl (pk_uLn e) (fun _ => rfl) (fun _ w => ⟨w, rfl⟩) (fun _ _ _ => Iff.rfl) (fun _ i _ _ w => ⟨up i w, rfl⟩) (fun _ => rfl) (h4 z)
theorem lq_Wcommit {m c : Nat} {k s r kn ad k' s' r' kn' ad' : Nat → Nat} {A A' : Nat → Int32} {V V' : Nat → Int64} {D D' : Nat → Int32} {base base' : Nat → Nat} (h : lq_W m (c + 1) k s r kn ad A V D base) (hs : ∀ i, i < c → k' i = k (i + 1) ∧ s' i = s (i + 1) ∧ r' i = r (i + 1) ∧ kn' i = kn (i + 1) ∧ ad' i = ad (i + 1) ∧ D' i = D (i + 1)) (hA : ∀ i, i < c → A' i = A (i + 1)) (hV : ∀ i, i < c → V' i = V (i + 1)) (hb : ∀ x, base' x = lq_lb k s kn ad D base x 1) : lq_W m c k' s' r' kn' ad' A' V' D' base' := by
  intro j hj
  obtain ⟨h1, h2, h3, h4⟩ := h (j + 1) (by omega)
  obtain ⟨e1, e2, e3, e4, e5, e6⟩ := hs j hj
  have sh := fun x => lq_shift (k := k) (s := s) (r := r) (kn := kn) (ad := ad) (k' := k') (s' := s') (r' := r') (kn' := kn') (ad' := ad') (D := D) (D' := D') (base := base) (base' := base') (c := x) (hb x) j (fun i hi => hs i (by omega))
  rw [e2, e3, e4, e5, hA j hj]
  refine ⟨h1, h2, h3, fun z => ⟨fun w => ?_, fun w => ?_⟩⟩
  · rw [e1] at w
    rw [hV j hj, e2, e6]
    exact (h4 z).1 w
  · rw [e1] at w
    obtain ⟨i1, i2, i3⟩ := (h4 z).2 w
    rw [hV j hj, e2, e4, e5]
    exact ⟨i1, i2.trans (congrArg lN (lq_vs_cong _ (fun i _ => (sh _).2.symm))), fun i hi => (sh _).1 (i3 i hi)⟩
theorem lq_Wbase {m c : Nat} {k s r kn ad : Nat → Nat} {A : Nat → Int32} {V : Nat → Int64} {D : Nat → Int32} {base base' : Nat → Nat} (h : lq_W m c k s r kn ad A V D base) (hb : ∀ x, base' x = base x) : lq_W m c k s r kn ad A V D base' := by
  have e : base' = base := funext hb
  rw [e]
  exact h
/-! shifting an array by one -/
def lq_sh {α : Type} (c : Nat) (a : Nat → α) : Nat → α := fun j => if j + 1 < c then a (j + 1) else a j
theorem lq_sh1 {α : Type} (a : Nat → α) : lq_sh 1 a = a := by
  funext j
  exact if_neg (by omega)
theorem lq_shi {α : Type} {c i : Nat} (a : Nat → α) (h : i + 1 < c) : lq_sh c a i = a (i + 1) := if_pos h
theorem lq_shv {α : Type} (c : Nat) (a : Nat → α) : lq_sh (c + 1) a (c + 1) = a (c + 1) := if_neg (by omega)
theorem lq_shu (c : Nat) (a : Nat → Int32) : upd (lq_sh (c + 1) a) c (a (c + 1)) = lq_sh (c + 2) a := by
  funext j
  unfold upd lq_sh
  by_cases e : j = c
  · subst e
    rw [if_pos rfl, if_pos (by omega)]
  · rw [if_neg e]
    by_cases z : j + 1 < c + 1
    · rw [if_pos z, if_pos (by omega)]
    · rw [if_neg z, if_neg (by omega)]
theorem lq_shL (c : Nat) (a : Nat → Int64) : vp_updL (lq_sh (c + 1) a) c (a (c + 1)) = lq_sh (c + 2) a := by
  funext j
  unfold vp_updL lq_sh
  by_cases e : j = c
  · subst e
    rw [if_pos rfl, if_pos (by omega)]
  · rw [if_neg e]
    by_cases z : j + 1 < c + 1
    · rw [if_pos z, if_pos (by omega)]
    · rw [if_neg z, if_neg (by omega)]
theorem lq_shn (c : Nat) (f : Nat → Nat) : lq_sh c (fun i => nI (f i)) = fun i => nI (lq_sh c f i) := by
  funext j
  unfold lq_sh
  split <;> rfl
theorem lq_shp {c : Nat} {f : Nat → Nat} {P : Nat → Prop} (h : ∀ i, P (f i)) (i : Nat) : P (lq_sh c f i) := by
  unfold lq_sh
  split <;> exact h _
theorem lq_unp {k x : Nat} {f : Nat → Nat} {P : Nat → Prop} (h : ∀ i, P (f i)) (hx : P x) (i : Nat) : P (lq_un f k x i) := by
  unfold lq_un
  split
  · exact hx
  · exact h _
