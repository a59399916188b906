/-! the window: who covers a cell, the source, the byte that a position sees -/
def lq_un (f : Nat → Nat) (k x : Nat) : Nat → Nat := fun j => if j = k then x else f j
theorem lq_us {f : Nat → Nat} {k x : Nat} : lq_un f k x k = x := if_pos rfl
theorem lq_ui {f : Nat → Nat} {k x j : Nat} (h : j ≠ k) : lq_un f k x j = f j := if_neg h
theorem lq_upd (f : Nat → Nat) (k x : Nat) : upd (fun i => nI (f i)) k (nI x) = fun i => nI (lq_un f k x i) := by
  funext j
  unfold upd lq_un
  split <;> rfl
abbrev lq_cov (k s kn ad : Nat → Nat) (c i : Nat) : Prop := k i = 1 ∧ kn i = 1 ∧ ad i ≤ c ∧ c < ad i + s i
def lq_src (k s kn ad : Nat → Nat) (c : Nat) : Nat → Option Nat
  | 0 => none
  | p + 1 => if lq_cov k s kn ad c p then some p else lq_src k s kn ad c p
def lq_lb (k s kn ad : Nat → Nat) (D : Nat → Int32) (base : Nat → Nat) (c : Nat) : Nat → Nat
  | 0 => base c
  | p + 1 => if lq_cov k s kn ad c p then lq_by (D p) (c - ad p) else lq_lb k s kn ad D base c p
def lq_ar (k s r kn ad : Nat → Nat) (c : Nat) : Nat → Prop
  | 0 => True
  | p + 1 => (lq_cov k s kn ad c p → r p = 1) ∧ (¬ lq_cov k s kn ad c p → lq_ar k s r kn ad c p)
def lq_en : Option Nat → Int32
  | none => -1
  | some i => nI i
theorem lq_lb_lt (k s kn ad : Nat → Nat) (D : Nat → Int32) (base : Nat → Nat) (c : Nat) (hb : base c < 256) : ∀ p, lq_lb k s kn ad D base c p < 256
  | 0 => hb
  | p + 1 => by
    unfold lq_lb
    split
    · exact lq_by_lt _ _
    · exact lq_lb_lt k s kn ad D base c hb p
theorem lq_src_lt {k s kn ad : Nat → Nat} {c i : Nat} : ∀ p, lq_src k s kn ad c p = some i → i < p ∧ lq_cov k s kn ad c i
  | 0, h => by cases h
  | p + 1, h => by
    unfold lq_src at h
    by_cases z : lq_cov k s kn ad c p
    · rw [if_pos z] at h
      cases h
      exact ⟨by omega, z⟩
    · rw [if_neg z] at h
      have := lq_src_lt p h
      exact ⟨by omega, this.2⟩
theorem lq_lb_none {k s kn ad : Nat → Nat} {D : Nat → Int32} {base : Nat → Nat} {c : Nat} : ∀ p, lq_src k s kn ad c p = none → lq_lb k s kn ad D base c p = base c
  | 0, _ => rfl
  | p + 1, h => by
    unfold lq_src at h
    unfold lq_lb
    by_cases z : lq_cov k s kn ad c p
    · rw [if_pos z] at h
      cases h
    · rw [if_neg z] at h
      rw [if_neg z]
      exact lq_lb_none p h
theorem lq_lb_some {k s kn ad : Nat → Nat} {D : Nat → Int32} {base : Nat → Nat} {c i : Nat} : ∀ p, lq_src k s kn ad c p = some i → lq_lb k s kn ad D base c p = lq_by (D i) (c - ad i)
  | 0, h => by cases h
  | p + 1, h => by
    unfold lq_src at h
    unfold lq_lb
    by_cases z : lq_cov k s kn ad c p
    · rw [if_pos z] at h
      cases h
      rw [if_pos z]
    · rw [if_neg z] at h
      rw [if_neg z]
      exact lq_lb_some p h
theorem lq_ar_src {k s r kn ad : Nat → Nat} {c : Nat} : ∀ p, lq_ar k s r kn ad c p ↔ ∀ i, lq_src k s kn ad c p = some i → r i = 1
  | 0 => ⟨fun _ i h => (by cases h), fun _ => True.intro⟩
  | p + 1 => by
    unfold lq_src lq_ar
    by_cases z : lq_cov k s kn ad c p
    · rw [if_pos z]
      exact ⟨fun h i e => by cases e; exact h.1 z, fun h => ⟨fun _ => h p rfl, fun n => absurd z n⟩⟩
    · rw [if_neg z]
      have := lq_ar_src (k := k) (s := s) (r := r) (kn := kn) (ad := ad) (c := c) p
      exact ⟨fun h => this.mp (h.2 z), fun h => ⟨fun y => absurd y z, fun _ => this.mpr h⟩⟩
/-- what a ready load saw, it still sees -/
theorem lq_keep {k s r kn ad k' s' r' kn' ad' : Nat → Nat} {D D' : Nat → Int32} {base base' : Nat → Nat} {c : Nat} : ∀ p, (∀ i, i < p → (lq_cov k s kn ad c i ↔ lq_cov k' s' kn' ad' c i)) → (∀ i, i < p → lq_cov k s kn ad c i → r i = 1 → r' i = 1 ∧ lq_by (D' i) (c - ad' i) = lq_by (D i) (c - ad i)) → base' c = base c → lq_ar k s r kn ad c p → lq_ar k' s' r' kn' ad' c p ∧ lq_lb k' s' kn' ad' D' base' c p = lq_lb k s kn ad D base c p
  | 0, _, _, hb, _ => ⟨True.intro, hb⟩
  | p + 1, hc, hD, hb, ha => by
    unfold lq_ar at ha
    unfold lq_ar lq_lb
    by_cases z : lq_cov k s kn ad c p
    · have z' := (hc p (by omega)).mp z
      have e := hD p (by omega) z (ha.1 z)
      rw [if_pos z, if_pos z']
      exact ⟨⟨fun _ => e.1, fun n => absurd z' n⟩, e.2⟩
    · have z' : ¬ lq_cov k' s' kn' ad' c p := fun y => z ((hc p (by omega)).mpr y)
      have ih := lq_keep p (fun i hi => hc i (by omega)) (fun i hi => hD i (by omega)) hb (ha.2 z)
      rw [if_neg z, if_neg z']
      exact ⟨⟨fun y => absurd y z', fun _ => ih.1⟩, ih.2⟩
/-- a store's address becomes known: a load draws from it, or sees what it saw -/
theorem lq_new {k s r kn ad kn' ad' : Nat → Nat} {D : Nat → Int32} {base : Nat → Nat} {c p : Nat} (hn : ¬ lq_cov k s kn ad c p) (hk : ∀ i, i ≠ p → kn' i = kn i ∧ ad' i = ad i) : ∀ j, lq_src k s kn' ad' c j = some p ∨ ((lq_ar k s r kn ad c j → lq_ar k s r kn' ad' c j) ∧ lq_lb k s kn' ad' D base c j = lq_lb k s kn ad D base c j)
  | 0 => Or.inr ⟨id, rfl⟩
  | j + 1 => by
    have ih := lq_new hn hk (r := r) (D := D) (base := base) j
    unfold lq_src lq_ar lq_lb
    by_cases hj : j = p
    · subst hj
      by_cases z : lq_cov k s kn' ad' c j
      · rw [if_pos z]
        exact Or.inl rfl
      · rw [if_neg z, if_neg z, if_neg hn]
        rcases ih with ih | ih
        · exact Or.inl ih
        · exact Or.inr ⟨fun h => ⟨fun y => absurd y z, fun _ => ih.1 (h.2 hn)⟩, ih.2⟩
    · have e : lq_cov k s kn' ad' c j ↔ lq_cov k s kn ad c j := by
        unfold lq_cov
        rw [(hk j hj).1, (hk j hj).2]
      by_cases z : lq_cov k s kn ad c j
      · have z' := e.mpr z
        rw [if_pos z', if_pos z', if_pos z, (hk j hj).2]
        exact Or.inr ⟨fun h => ⟨fun _ => h.1 z, fun n => absurd z' n⟩, rfl⟩
      · have z' : ¬ lq_cov k s kn' ad' c j := fun y => z (e.mp y)
        rw [if_neg z', if_neg z', if_neg z]
        rcases ih with ih | ih
        · exact Or.inl ih
        · exact Or.inr ⟨fun h => ⟨fun y => absurd y z', fun _ => ih.1 (h.2 z)⟩, ih.2⟩
/-- the oldest leaves the window -/
theorem lq_shift {k s r kn ad k' s' r' kn' ad' : Nat → Nat} {D D' : Nat → Int32} {base base' : Nat → Nat} {c : Nat} (hb : base' c = lq_lb k s kn ad D base c 1) : ∀ j, (∀ i, i < j → k' i = k (i + 1) ∧ s' i = s (i + 1) ∧ r' i = r (i + 1) ∧ kn' i = kn (i + 1) ∧ ad' i = ad (i + 1) ∧ D' i = D (i + 1)) → (lq_ar k s r kn ad c (j + 1) → lq_ar k' s' r' kn' ad' c j) ∧ lq_lb k' s' kn' ad' D' base' c j = lq_lb k s kn ad D base c (j + 1)
  | 0, _ => ⟨fun _ => True.intro, hb⟩
  | j + 1, h => by
    have ih := lq_shift hb j (fun i hi => h i (by omega))
    obtain ⟨h1, h2, h3, h4, h5, h6⟩ := h j (by omega)
    have e : lq_cov k' s' kn' ad' c j ↔ lq_cov k s kn ad c (j + 1) := by
      unfold lq_cov
      rw [h1, h2, h4, h5]
    rw [lq_ar.eq_def k s r kn ad c (j + 1 + 1), lq_lb.eq_def k s kn ad D base c (j + 1 + 1), lq_ar.eq_def k' s' r' kn' ad' c (j + 1), lq_lb.eq_def k' s' kn' ad' D' base' c (j + 1)]
    dsimp only
    by_cases z : lq_cov k s kn ad c (j + 1)
    · have z' := e.mpr z
      rw [if_pos z', if_pos z, h5, h6, h3]
      exact ⟨fun h => ⟨fun _ => h.1 z, fun n => absurd z' n⟩, rfl⟩
    · have z' : ¬ lq_cov k' s' kn' ad' c j := fun y => z (e.mp y)
      rw [if_neg z', if_neg z]
      exact ⟨fun h => ⟨fun y => absurd y z', fun _ => ih.1 (h.2 z)⟩, ih.2⟩
/-! the buffer -/
def lq_mb (bs ba : Nat → Nat) (BD : Nat → Int32) (ce : Nat → Nat) (a : Nat) : Nat → Nat
  | 0 => ce a
  | n + 1 => if ba n ≤ a ∧ a < ba n + bs n then lq_by (BD n) (a - ba n) else lq_mb bs ba BD ce a n
theorem lq_mb_lt (bs ba : Nat → Nat) (BD : Nat → Int32) (ce : Nat → Nat) (a : Nat) (h : ce a < 256) : ∀ n, lq_mb bs ba BD ce a n < 256
  | 0 => h
  | n + 1 => by
    unfold lq_mb
    split
    · exact lq_by_lt _ _
    · exact lq_mb_lt bs ba BD ce a h n
theorem lq_mb_cong {bs ba bs' ba' : Nat → Nat} {BD BD' : Nat → Int32} {ce : Nat → Nat} {a : Nat} : ∀ n, (∀ i, i < n → bs' i = bs i ∧ ba' i = ba i ∧ BD' i = BD i) → lq_mb bs' ba' BD' ce a n = lq_mb bs ba BD ce a n
  | 0, _ => rfl
  | n + 1, h => by
    obtain ⟨h1, h2, h3⟩ := h n (by omega)
    unfold lq_mb
    rw [h1, h2, h3, lq_mb_cong n (fun i hi => h i (by omega))]
theorem lq_mb_shift {bs ba bs' ba' : Nat → Nat} {BD BD' : Nat → Int32} {ce ce' : Nat → Nat} {a : Nat} (hc : ce' a = lq_mb bs ba BD ce a 1) : ∀ n, (∀ i, i < n → bs' i = bs (i + 1) ∧ ba' i = ba (i + 1) ∧ BD' i = BD (i + 1)) → lq_mb bs' ba' BD' ce' a n = lq_mb bs ba BD ce a (n + 1)
  | 0, _ => hc
  | n + 1, h => by
    obtain ⟨h1, h2, h3⟩ := h n (by omega)
    rw [lq_mb.eq_def bs' ba' BD' ce' a (n + 1), lq_mb.eq_def bs ba BD ce a (n + 1 + 1)]
    dsimp only
    rw [h1, h2, h3, lq_mb_shift hc n (fun i hi => h i (by omega))]
