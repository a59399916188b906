/-! booleans, counters that run down, comparisons with literals -/
theorem lq_nb {x : Nat} (h : x ≤ 1) : vp_nar .boolean (nI x) = nI x := by
  have : x = 0 ∨ x = 1 := by omega
  rcases this with rfl | rfl <;> rfl
theorem lq_nb0 : vp_nar .boolean 0 = 0 := rfl
theorem lq_nb1 : vp_nar .boolean 1 = 1 := rfl
theorem lq_nr {x : Nat} (h : x ≤ 1) : narrow .boolean (.int (nI x)) = .int (nI x) := by
  have : x = 0 ∨ x = 1 := by omega
  rcases this with rfl | rfl <;> rfl
theorem lq_nr0 : narrow .boolean (.int 0) = .int 0 := rfl
theorem lq_nr1 : narrow .boolean (.int 1) = .int 1 := rfl
theorem lq_eq0 {a : Nat} (h : a < 2 ^ 31) : nI a = 0 ↔ a = 0 := nI_eq (b := 0) h (by decide)
theorem lq_eq1 {a : Nat} (h : a < 2 ^ 31) : nI a = 1 ↔ a = 1 := nI_eq (b := 1) h (by decide)
theorem lq_eqm {a : Nat} (h : a < 2 ^ 31) : nI a = -1 ↔ False := ⟨fun e => lq_m1 h e, False.elim⟩
theorem lq_lt0 {a : Nat} (h : a < 2 ^ 31) : nI a < 0 ↔ False := ⟨fun e => nI_pos h e, False.elim⟩
theorem lq_vin {a n : Nat} (h : a < n) (hn : n < 2 ^ 31) : vp_in (nI a) n ↔ True := ⟨fun _ => True.intro, fun _ => vp_in_nI h hn⟩
/-- a counter that runs down: one below j -/
theorem lq_dn (j : Nat) : nI (j + 1) - 1 = nI j := nI_pred j
theorem lq_dn0 : nI 0 - 1 = -1 := by decide
theorem lq_sub1 (j : Nat) : nI j + (-1) = nI j - 1 := by
  rw [Int32.sub_eq_add_neg]
