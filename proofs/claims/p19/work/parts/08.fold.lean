/-! the loads sent back, one after the other -/
noncomputable def lq_rb (M : Nat → Prop) (r : Nat → Nat) (n : Nat) : Nat → Nat := fun i => @ite _ (i < n ∧ M i) (Classical.propDecidable _) 0 (r i)
noncomputable def lq_ct (M : Nat → Prop) : Nat → Nat
  | 0 => 0
  | n + 1 => @ite _ (M n) (Classical.propDecidable _) (lq_ct M n + 1) (lq_ct M n)
noncomputable def lq_sf (M : Nat → Prop) (p : Nat → Nat) (b : Nat) (st : Nat → Int32) : Nat → (Nat → Int32)
  | 0 => st
  | n + 1 => @ite _ (M n) (Classical.propDecidable _) (lq_rp (lq_sf M p b st n) (p n) b) (lq_sf M p b st n)
noncomputable def lq_pf (M : Nat → Prop) (p : Nat → Nat) (b : Nat) (pr : Nat → Nat) : Nat → (Nat → Nat)
  | 0 => pr
  | n + 1 => @ite _ (M n) (Classical.propDecidable _) (lq_pp (lq_pf M p b pr n) (p n) b) (lq_pf M p b pr n)
theorem lq_rb_at (M : Nat → Prop) (r : Nat → Nat) (n : Nat) : lq_rb M r n n = r n := if_neg (fun h => by omega)
theorem lq_rb_t {M : Nat → Prop} {r : Nat → Nat} {n : Nat} (h : M n) : lq_un (lq_rb M r n) n 0 = lq_rb M r (n + 1) := by
  funext i
  unfold lq_un lq_rb
  by_cases e : i = n
  · subst e
    rw [if_pos rfl, if_pos ⟨by omega, h⟩]
  · rw [if_neg e]
    by_cases z : i < n ∧ M i
    · rw [if_pos z, if_pos ⟨by omega, z.2⟩]
    · rw [if_neg z, if_neg (fun y => z ⟨by omega, y.2⟩)]
theorem lq_rb_f {M : Nat → Prop} {r : Nat → Nat} {n : Nat} (h : ¬ M n) : lq_rb M r n = lq_rb M r (n + 1) := by
  funext i
  unfold lq_rb
  by_cases z : i < n ∧ M i
  · rw [if_pos z, if_pos ⟨by omega, z.2⟩]
  · rw [if_neg z, if_neg]
    intro y
    by_cases e : i = n
    · subst e
      exact h y.2
    · exact z ⟨by omega, y.2⟩
theorem lq_rb_0 {M : Nat → Prop} {r : Nat → Nat} {n : Nat} (h : ∀ i, i < n → ¬ M i) : lq_rb M r n = r := by
  funext i
  exact if_neg (fun z => h i z.1 z.2)
theorem lq_rb_le (M : Nat → Prop) (r : Nat → Nat) (n i : Nat) : lq_rb M r n i ≤ r i := by
  unfold lq_rb
  by_cases z : i < n ∧ M i
  · rw [if_pos z]; omega
  · rw [if_neg z]; omega
theorem lq_ct_t {M : Nat → Prop} {n : Nat} (h : M n) : lq_ct M (n + 1) = lq_ct M n + 1 := if_pos h
theorem lq_ct_f {M : Nat → Prop} {n : Nat} (h : ¬ M n) : lq_ct M (n + 1) = lq_ct M n := if_neg h
theorem lq_ct_0 {M : Nat → Prop} : ∀ n, (∀ i, i < n → ¬ M i) → lq_ct M n = 0
  | 0, _ => rfl
  | n + 1, h => by rw [lq_ct_f (h n (by omega)), lq_ct_0 n (fun i hi => h i (by omega))]
theorem lq_ct_le (M : Nat → Prop) : ∀ n, lq_ct M n ≤ n
  | 0 => Nat.le_refl _
  | n + 1 => by
    have := lq_ct_le M n
    by_cases z : M n
    · rw [lq_ct_t z]; omega
    · rw [lq_ct_f z]; omega
theorem lq_sf_t {M : Nat → Prop} {p : Nat → Nat} {b : Nat} {st : Nat → Int32} {n : Nat} (h : M n) : lq_sf M p b st (n + 1) = lq_rp (lq_sf M p b st n) (p n) b := if_pos h
theorem lq_sf_f {M : Nat → Prop} {p : Nat → Nat} {b : Nat} {st : Nat → Int32} {n : Nat} (h : ¬ M n) : lq_sf M p b st (n + 1) = lq_sf M p b st n := if_neg h
theorem lq_sf_0 {M : Nat → Prop} {p : Nat → Nat} {b : Nat} {st : Nat → Int32} : ∀ n, (∀ i, i < n → ¬ M i) → lq_sf M p b st n = st
  | 0, _ => rfl
  | n + 1, h => by rw [lq_sf_f (h n (by omega)), lq_sf_0 n (fun i hi => h i (by omega))]
theorem lq_pf_t {M : Nat → Prop} {p : Nat → Nat} {b : Nat} {pr : Nat → Nat} {n : Nat} (h : M n) : lq_pf M p b pr (n + 1) = lq_pp (lq_pf M p b pr n) (p n) b := if_pos h
theorem lq_pf_f {M : Nat → Prop} {p : Nat → Nat} {b : Nat} {pr : Nat → Nat} {n : Nat} (h : ¬ M n) : lq_pf M p b pr (n + 1) = lq_pf M p b pr n := if_neg h
theorem lq_pf_0 {M : Nat → Prop} {p : Nat → Nat} {b : Nat} {pr : Nat → Nat} : ∀ n, (∀ i, i < n → ¬ M i) → lq_pf M p b pr n = pr
  | 0, _ => rfl
  | n + 1, h => by rw [lq_pf_f (h n (by omega)), lq_pf_0 n (fun i hi => h i (by omega))]
theorem lq_pf_le {M : Nat → Prop} {p : Nat → Nat} {b : Nat} {pr : Nat → Nat} (h : ∀ i, pr i ≤ 1) : ∀ n i, lq_pf M p b pr n i ≤ 1
  | 0, i => h i
  | n + 1, i => by
    by_cases z : M n
    · rw [lq_pf_t z]
      exact lq_pp_le (lq_pf_le h n) i
    · rw [lq_pf_f z]
      exact lq_pf_le h n i
theorem lq_f_S {M : Nat → Prop} {p : Nat → Nat} {b : Nat} {st : Nat → Int32} {pr : Nat → Nat} (hp : ∀ i, p i < 16) (hb : b < 16) (h : lq_S st pr) : ∀ n, lq_S (lq_sf M p b st n) (lq_pf M p b pr n)
  | 0 => h
  | n + 1 => by
    by_cases z : M n
    · rw [lq_sf_t z, lq_pf_t z]
      exact lq_rp_S (hp n) hb (lq_f_S hp hb h n)
    · rw [lq_sf_f z, lq_pf_f z]
      exact lq_f_S hp hb h n
/-- the loads that a store at j, its address now known, sends back -/
def lq_M (k s r kn ad : Nat → Nat) (j i : Nat) : Prop := j < i ∧ lq_ms k s r kn ad j i
theorem lq_XIsend {w b m c q : Nat} {k p s r kn ad : Nat → Nat} {A : Nat → Int32} {V : Nat → Int64} {D : Nat → Int32} {bs ba : Nat → Nat} {BV : Nat → Int64} {BD : Nat → Int32} {ce : Nat → Nat} (h : lq_XI w b m c q k p s r kn ad A V D bs ba BV BD ce) {j a : Nat} (hk : k j = 1) (hn : kn j ≠ 1) (ha : a + s j ≤ m) : lq_XI w b m c q k p s (lq_rb (lq_M k s r (lq_un kn j 1) (lq_un ad j a) j) r c) (lq_un kn j 1) (lq_un ad j a) (upd A j (nI a)) V D bs ba BV BD ce := by
  refine lq_XIaddrS h hk hn ha (fun i => lq_rb_le _ _ _ _) (fun i z y => ?_) (fun i h1 h2 h3 => ?_)
  · unfold lq_rb
    rw [if_neg]
    · exact y
    · intro ⟨_, _, x, _⟩
      omega
  · unfold lq_rb
    rw [if_pos ⟨h2, h1, h3⟩]
    omega
/-! what execute does at position j -/
def lq_wt (k p kn : Nat → Nat) (st : Nat → Int32) (j : Nat) : Prop := ∃ i, i < j ∧ k i = 1 ∧ kn i ≠ 1 ∧ st (p i) ≠ -1 ∧ st (p i) = st (p j)
def lq_lk (k s r kn ad : Nat → Nat) (j : Nat) : Prop := ∃ x, x < s j ∧ ¬ lq_ar k s r kn ad (ad j + x) j
def lq_EX (k p s r kn ad : Nat → Nat) (V : Nat → Int64) (D : Nat → Int32) (base : Nat → Nat) (st : Nat → Int32) (j : Nat) (ans : Int32) (r' : Nat → Nat) (V' : Nat → Int64) : Prop :=
  (k j = 1 ∧ ans = -2 ∧ r' = r ∧ V' = V) ∨
  (k j ≠ 1 ∧ r j = 1 ∧ ans = -4 ∧ r' = r ∧ V' = V) ∨
  (k j ≠ 1 ∧ r j ≠ 1 ∧ kn j ≠ 1 ∧ ans = -6 ∧ r' = r ∧ V' = V) ∨
  (k j ≠ 1 ∧ r j ≠ 1 ∧ kn j = 1 ∧ lq_wt k p kn st j ∧ ans = -7 ∧ r' = r ∧ V' = V) ∨
  (k j ≠ 1 ∧ r j ≠ 1 ∧ kn j = 1 ∧ ¬ lq_wt k p kn st j ∧ lq_lk k s r kn ad j ∧ ans = -8 ∧ r' = r ∧ V' = V) ∨
  (k j ≠ 1 ∧ r j ≠ 1 ∧ kn j = 1 ∧ ¬ lq_wt k p kn st j ∧ ¬ lq_lk k s r kn ad j ∧ ans = 0 ∧ r' = lq_un r j 1 ∧ V' = vp_updL V j (lN (lq_vs (fun i => lq_lb k s kn ad D base (ad j + i) j) (s j))))
theorem lq_EXex (k p s r kn ad : Nat → Nat) (V : Nat → Int64) (D : Nat → Int32) (base : Nat → Nat) (st : Nat → Int32) (j : Nat) : ∃ ans r' V', lq_EX k p s r kn ad V D base st j ans r' V' := by
  by_cases h1 : k j = 1
  · exact ⟨_, _, _, Or.inl ⟨h1, rfl, rfl, rfl⟩⟩
  · by_cases h2 : r j = 1
    · exact ⟨_, _, _, Or.inr (Or.inl ⟨h1, h2, rfl, rfl, rfl⟩)⟩
    · by_cases h3 : kn j = 1
      · by_cases h4 : lq_wt k p kn st j
        · exact ⟨_, _, _, Or.inr (Or.inr (Or.inr (Or.inl ⟨h1, h2, h3, h4, rfl, rfl, rfl⟩)))⟩
        · by_cases h5 : lq_lk k s r kn ad j
          · exact ⟨_, _, _, Or.inr (Or.inr (Or.inr (Or.inr (Or.inl ⟨h1, h2, h3, h4, h5, rfl, rfl, rfl⟩))))⟩
          · exact ⟨_, _, _, Or.inr (Or.inr (Or.inr (Or.inr (Or.inr ⟨h1, h2, h3, h4, h5, rfl, rfl, rfl⟩))))⟩
      · exact ⟨_, _, _, Or.inr (Or.inr (Or.inl ⟨h1, h2, h3, rfl, rfl, rfl⟩))⟩
theorem lq_XIex {w b m c q : Nat} {k p s r kn ad : Nat → Nat} {A : Nat → Int32} {V : Nat → Int64} {D : Nat → Int32} {bs ba : Nat → Nat} {BV : Nat → Int64} {BD : Nat → Int32} {ce : Nat → Nat} (h : lq_XI w b m c q k p s r kn ad A V D bs ba BV BD ce) {st : Nat → Int32} {j : Nat} {ans : Int32} {r' : Nat → Nat} {V' : Nat → Int64} (e : lq_EX k p s r kn ad V D (fun a => lq_mb bs ba BD ce a q) st j ans r' V') : lq_XI w b m c q k p s r' kn ad A V' D bs ba BV BD ce := by
  rcases e with ⟨_, _, rfl, rfl⟩ | ⟨_, _, _, rfl, rfl⟩ | ⟨_, _, _, _, rfl, rfl⟩ | ⟨_, _, _, _, _, rfl, rfl⟩ | ⟨_, _, _, _, _, _, rfl, rfl⟩ | ⟨h1, h2, h3, h4, h5, _, rfl, rfl⟩
  · exact h
  · exact h
  · exact h
  · exact h
  · exact h
  · refine lq_XIexec h h1 h3 (fun i hi => ?_)
    apply Classical.byContradiction
    intro z
    exact h5 ⟨i, hi, z⟩
