/-! the law's loop -/
def lp_PH (T c q b : Nat) (k r kn : Nat → Nat) : Prop :=
  (∀ i, i < c → (21 < T + 3 * i → k i = 1 → r i = 1) ∧ (22 < T + 3 * i → kn i = 1)) ∧
  (24 ≤ T → ∀ i, i < c → r i = 1) ∧
  (24 ≤ T → T ≤ 40 → c + (T - 24) / 2 ≤ 8) ∧
  (24 ≤ T → T < 40 → T % 2 = 1 → q < b) ∧
  (40 ≤ T → c = 0 ∧ q + (T - 40) ≤ 4)
theorem lp_PH0 {c q b : Nat} {k r kn : Nat → Nat} (hc : c ≤ 8) : lp_PH 0 c q b k r kn := ⟨fun i hi => ⟨fun z => absurd z (by omega), fun z => absurd z (by omega)⟩, fun z => absurd z (by omega), fun z => absurd z (by omega), fun z => absurd z (by omega), fun z => absurd z (by omega)⟩
theorem lp_actw {post : Int32 → Prop} (h : Int32) (h0 : post 0) (h1 : post 1) (h2 : post 2) (h3 : post 3) (h4 : post 4) (h5 : post 5) (h6 : post 6) (h7 : post 7) (h8 : post 8) : wpL_action post () h :=
  nm_e (br_c (fun _ => br_c (fun _ => br_c (fun _ => br_c (fun _ => br_c (fun _ => br_c (fun _ => br_c (fun _ => nm_e (br_c (fun _ => h8) (fun _ => br_c (fun _ => h6) (fun _ => h7)))) (fun _ => h6)) (fun _ => h5)) (fun _ => h4)) (fun _ => h3)) (fun _ => h2)) (fun _ => h1)) (fun _ => h0))
section
variable {L : Nat} {xs : Nat → Int32} {w b c q n kk kc ks : Nat} {k p s r kn ad : Nat → Nat} {A : Nat → Int32} {V : Nat → Int64} {D : Nat → Int32} {bs ba : Nat → Nat} {BV : Nat → Int64} {BD : Nat → Int32} {ce : Nat → Nat} {st : Nat → Int32} {ids bid : Nat → Nat} {post : Int32 → Prop} {J : lp_J}
/-- what the loop is owed behind a step -/
def lp_go (L : Nat) (xs : Nat → Int32) (w b T kk : Nat) (J : lp_J) : Prop := ∀ (c q : Nat) (k p s r kn ad : Nat → Nat) (A : Nat → Int32) (V : Nat → Int64) (D : Nat → Int32) (bs ba : Nat → Nat) (BV : Nat → Int64) (BD : Nat → Int32) (ce : Nat → Nat) (st : Nat → Int32) (ids bid : Nat → Nat), lp_LI L xs w b c q k p s r kn ad A V D bs ba BV BD ce ids bid → lp_PH T c q b k r kn → J (lq_I ids) (lp_hi ids) (lq_I bid) (lq_L ce) (lq_L (fun az => lq_mb bs ba BD ce az q)) (nI c) (nI q) (nI (kk + 1)) (nI w) (nI b) (nI 8) (nI c) (nI q) (fun iz => nI (k iz)) (fun iz => nI (p iz)) (fun iz => nI (s iz)) A (fun iz => nI (r iz)) V (fun iz => nI (bs iz)) (fun iz => nI (ba iz)) BV (fun iz => nI (ce iz)) st
theorem lp_LIc (h : lp_LI L xs w b c q k p s r kn ad A V D bs ba BV BD ce ids bid) : c ≤ 8 ∧ q ≤ b ∧ b ≤ 4 ∧ 1 ≤ b := by
  have := h.1.1
  have := h.2.1
  have := h.2.2.1
  omega
/-- any drawn action -/
theorem lp_draw (hL : L ≤ 260) (hk : kk < 65536) (h : lp_LI L xs w b c q k p s r kn ad A V D bs ba BV BD ce ids bid) (go : lp_go L xs w b 0 kk J) {a h20 : Int32} (ha : a = 0 ∨ a = 1 ∨ a = 2 ∨ a = 3 ∨ a = 4 ∨ a = 5 ∨ a = 6 ∨ a = 7 ∨ a = 8) {j : Nat} (hj : j < 8) : wL_law_185 post L xs J (nI w) (nI b) (lq_I ids) (lp_hi ids) (lq_I bid) (lq_L ce) (lq_L (fun az => lq_mb bs ba BD ce az q)) (nI c) (nI q) (nI n) (nI kk) h20 a (nI j) kc ks (nI w) (nI b) (nI 8) (nI c) (nI q) (fun i => nI (k i)) (fun i => nI (p i)) (fun i => nI (s i)) A (fun i => nI (r i)) V (fun i => nI (bs i)) (fun i => nI (ba i)) BV (fun i => nI (ce i)) st := by
  have same : J (lq_I ids) (lp_hi ids) (lq_I bid) (lq_L ce) (lq_L (fun az => lq_mb bs ba BD ce az q)) (nI c) (nI q) (nI (kk + 1)) (nI w) (nI b) (nI 8) (nI c) (nI q) (fun iz => nI (k iz)) (fun iz => nI (p iz)) (fun iz => nI (s iz)) A (fun iz => nI (r iz)) V (fun iz => nI (bs iz)) (fun iz => nI (ba iz)) BV (fun iz => nI (ce iz)) st := go _ _ _ _ _ _ _ _ _ _ _ _ _ _ _ _ _ _ _ h (lp_PH0 (lp_LIc h).1)
  unfold wL_law_185
  rcases ha with rfl | rfl | rfl | rfl | rfl | rfl | rfl | rfl | rfl
  · exact br_f (by decide) (lp_enter hL hk h same (fun _ h' => go _ _ _ _ _ _ _ _ _ _ _ _ _ _ _ _ _ _ _ h' (lp_PH0 (lp_LIc h').1)))
  · exact br_f (by decide) (lp_setA hL h hj (fun _ _ _ _ _ h' _ _ _ => go _ _ _ _ _ _ _ _ _ _ _ _ _ _ _ _ _ _ _ h' (lp_PH0 (lp_LIc h').1)))
  · exact br_f (by decide) (lp_setD hL h hj (fun _ _ _ h' _ _ => go _ _ _ _ _ _ _ _ _ _ _ _ _ _ _ _ _ _ _ h' (lp_PH0 (lp_LIc h').1)))
  · exact br_f (by decide) (lp_exe hL h hj (fun _ _ h' => go _ _ _ _ _ _ _ _ _ _ _ _ _ _ _ _ _ _ _ h' (lp_PH0 (lp_LIc h').1)))
  · exact br_f (by decide) (lp_exr hL h (fun _ _ h' _ _ => go _ _ _ _ _ _ _ _ _ _ _ _ _ _ _ _ _ _ _ h' (lp_PH0 (lp_LIc h').1)))
  · refine br_f (by decide) ?_
    cases c with
    | zero => exact lp_com0 hL h same
    | succ c => exact lp_com hL h (fun _ => same) (fun _ _ h' => go _ _ _ _ _ _ _ _ _ _ _ _ _ _ _ _ _ _ _ h' (lp_PH0 (lp_LIc h').1)) (fun _ _ _ _ h' => go _ _ _ _ _ _ _ _ _ _ _ _ _ _ _ _ _ _ _ h' (lp_PH0 (lp_LIc h').1))
  · refine br_f (by decide) ?_
    cases q with
    | zero => exact lp_dr0 hL h same
    | succ q => exact lp_dr hL h (fun h' => go _ _ _ _ _ _ _ _ _ _ _ _ _ _ _ _ _ _ _ h' (lp_PH0 (lp_LIc h').1))
  · exact br_t rfl (nm_e (lp_dis hL h (fun _ _ h' => go _ _ _ _ _ _ _ _ _ _ _ _ _ _ _ _ _ _ _ h' (lp_PH0 (lp_LIc h').1))))
  · exact br_f (by decide) (lp_clr hL h (fun _ => go _ _ _ _ _ _ _ _ _ _ _ _ _ _ _ _ _ _ _ h (lp_PH0 (lp_LIc h).1)))
theorem lp_f2 (hL : L ≤ 260) (h : lp_LI L xs w b c q k p s r kn ad A V D bs ba BV BD ce ids bid) {T : Nat} (hP : lp_PH T c q b k r kn) (hT : T < 24) (h3 : T % 3 = 0) (go : lp_go L xs w b (T + 1) kk J) : wL_law_282 post L xs J (nI w) (nI b) (lq_I ids) (lp_hi ids) (lq_I bid) (lq_L ce) (lq_L (fun az => lq_mb bs ba BD ce az q)) (nI c) (nI q) (nI n) (nI kk) 2 (nI (7 - T / 3)) kc ks (nI w) (nI b) (nI 8) (nI c) (nI q) (fun i => nI (k i)) (fun i => nI (p i)) (fun i => nI (s i)) A (fun i => nI (r i)) V (fun i => nI (bs i)) (fun i => nI (ba i)) BV (fun i => nI (ce i)) st := by
  obtain ⟨p1, p2, p3, p4, p5⟩ := hP
  have hc := (lp_LIc h).1
  refine lp_setD hL h (by omega) (fun r' V' D' h' f1 f2 => go _ _ _ _ _ _ _ _ _ _ _ _ _ _ _ _ _ _ _ h' ⟨fun i hi => ⟨fun z zk => ?_, fun z => (p1 i hi).2 (by omega)⟩, fun z => absurd z (by omega), fun z => absurd z (by omega), fun z => absurd z (by omega), fun z => absurd z (by omega)⟩)
  by_cases e : i = 7 - T / 3
  · rw [← e] at f2
    exact f2 hi zk
  · exact f1 i ((p1 i hi).1 (by omega) zk)
theorem lp_f1 (hL : L ≤ 260) (h : lp_LI L xs w b c q k p s r kn ad A V D bs ba BV BD ce ids bid) {T : Nat} (hP : lp_PH T c q b k r kn) (hT : T < 24) (h3 : T % 3 = 1) (go : lp_go L xs w b (T + 1) kk J) : wL_law_282 post L xs J (nI w) (nI b) (lq_I ids) (lp_hi ids) (lq_I bid) (lq_L ce) (lq_L (fun az => lq_mb bs ba BD ce az q)) (nI c) (nI q) (nI n) (nI kk) 1 (nI (7 - T / 3)) kc ks (nI w) (nI b) (nI 8) (nI c) (nI q) (fun i => nI (k i)) (fun i => nI (p i)) (fun i => nI (s i)) A (fun i => nI (r i)) V (fun i => nI (bs i)) (fun i => nI (ba i)) BV (fun i => nI (ce i)) st := by
  obtain ⟨p1, p2, p3, p4, p5⟩ := hP
  have hc := (lp_LIc h).1
  refine lp_setA hL h (by omega) (fun r' kn' ad' A' st' h' f1 f2 f3 => go _ _ _ _ _ _ _ _ _ _ _ _ _ _ _ _ _ _ _ h' ⟨fun i hi => ⟨fun z zk => f2 i zk ((p1 i hi).1 (by omega) zk), fun z => ?_⟩, fun z => absurd z (by omega), fun z => absurd z (by omega), fun z => absurd z (by omega), fun z => absurd z (by omega)⟩)
  by_cases e : i = 7 - T / 3
  · rw [← e] at f3
    exact f3 hi
  · exact f1 i ((p1 i hi).2 (by omega))
theorem lp_f4 (hL : L ≤ 260) (h : lp_LI L xs w b c q k p s r kn ad A V D bs ba BV BD ce ids bid) {T : Nat} (hP : lp_PH T c q b k r kn) (hT : T < 24) (h3 : T % 3 = 2) (go : lp_go L xs w b (T + 1) kk J) {x22 : Int32} : wL_law_282 post L xs J (nI w) (nI b) (lq_I ids) (lp_hi ids) (lq_I bid) (lq_L ce) (lq_L (fun az => lq_mb bs ba BD ce az q)) (nI c) (nI q) (nI n) (nI kk) 4 x22 kc ks (nI w) (nI b) (nI 8) (nI c) (nI q) (fun i => nI (k i)) (fun i => nI (p i)) (fun i => nI (s i)) A (fun i => nI (r i)) V (fun i => nI (bs i)) (fun i => nI (ba i)) BV (fun i => nI (ce i)) st := by
  obtain ⟨p1, p2, p3, p4, p5⟩ := hP
  have hc := (lp_LIc h).1
  refine lp_exr hL h (fun r' V' h' f1 f2 => go _ _ _ _ _ _ _ _ _ _ _ _ _ _ _ _ _ _ _ h' ⟨fun i hi => ⟨fun z zk => f1 i ((p1 i hi).1 (by omega) zk), fun z => (p1 i hi).2 (by omega)⟩, fun z => f2 (fun x hx => ⟨(p1 x hx).2 (by omega), (p1 x hx).1 (by omega)⟩), fun z1 z2 => (by omega), fun z1 z2 z3 => absurd z3 (by omega), fun z => absurd z (by omega)⟩)
theorem lp_f5 (hL : L ≤ 260) (h : lp_LI L xs w b c q k p s r kn ad A V D bs ba BV BD ce ids bid) {T : Nat} (hP : lp_PH T c q b k r kn) (hT : 24 ≤ T) (hT' : T < 40) (h2 : T % 2 = 1) (go : lp_go L xs w b (T + 1) kk J) {x22 : Int32} : wL_law_282 post L xs J (nI w) (nI b) (lq_I ids) (lp_hi ids) (lq_I bid) (lq_L ce) (lq_L (fun az => lq_mb bs ba BD ce az q)) (nI c) (nI q) (nI n) (nI kk) 5 x22 kc ks (nI w) (nI b) (nI 8) (nI c) (nI q) (fun i => nI (k i)) (fun i => nI (p i)) (fun i => nI (s i)) A (fun i => nI (r i)) V (fun i => nI (bs i)) (fun i => nI (ba i)) BV (fun i => nI (ce i)) st := by
  obtain ⟨p1, p2, p3, p4, p5⟩ := hP
  have hc := lp_LIc h
  have q3 := p3 hT (by omega)
  have q4 := p4 hT hT' h2
  cases c with
  | zero => exact lp_com0 hL h (go _ _ _ _ _ _ _ _ _ _ _ _ _ _ _ _ _ _ _ h ⟨fun i hi => absurd hi (by omega), fun _ i hi => absurd hi (by omega), fun z1 z2 => (by omega), fun z1 z2 z3 => absurd z3 (by omega), fun z => (by omega)⟩)
  | succ c =>
    have r0 : r 0 = 1 := p2 hT 0 (by omega)
    have n0 : kn 0 = 1 := (p1 0 (by omega)).2 (by omega)
    have shr : ∀ i, i < c → lq_sh (c + 1) r i = 1 := fun i hi => by
      rw [lq_shi r (by omega)]
      exact p2 hT (i + 1) (by omega)
    have shn : ∀ i, i < c → lq_sh (c + 1) kn i = 1 := fun i hi => by
      rw [lq_shi kn (by omega)]
      exact (p1 (i + 1) (by omega)).2 (by omega)
    refine lp_com hL h (fun z => absurd z (by omega)) (fun zk zr h' => go _ _ _ _ _ _ _ _ _ _ _ _ _ _ _ _ _ _ _ h' ?_) (fun zk zr zn l h' => go _ _ _ _ _ _ _ _ _ _ _ _ _ _ _ _ _ _ _ h' ?_)
    · exact ⟨fun i hi => ⟨fun _ _ => shr i hi, fun _ => shn i hi⟩, fun _ => shr, fun z1 z2 => (by omega), fun z1 z2 z3 => absurd z3 (by omega), fun z => (by omega)⟩
    · exact ⟨fun i hi => ⟨fun _ _ => shr i hi, fun _ => shn i hi⟩, fun _ => shr, fun z1 z2 => (by omega), fun z1 z2 z3 => absurd z3 (by omega), fun z => (by omega)⟩
theorem lp_f6 (hL : L ≤ 260) (h : lp_LI L xs w b c q k p s r kn ad A V D bs ba BV BD ce ids bid) {T : Nat} (hP : lp_PH T c q b k r kn) (hT : 24 ≤ T) (hT' : T < 44) (h2 : 40 ≤ T ∨ T % 2 = 0) (go : lp_go L xs w b (T + 1) kk J) {x22 : Int32} : wL_law_282 post L xs J (nI w) (nI b) (lq_I ids) (lp_hi ids) (lq_I bid) (lq_L ce) (lq_L (fun az => lq_mb bs ba BD ce az q)) (nI c) (nI q) (nI n) (nI kk) 6 x22 kc ks (nI w) (nI b) (nI 8) (nI c) (nI q) (fun i => nI (k i)) (fun i => nI (p i)) (fun i => nI (s i)) A (fun i => nI (r i)) V (fun i => nI (bs i)) (fun i => nI (ba i)) BV (fun i => nI (ce i)) st := by
  obtain ⟨p1, p2, p3, p4, p5⟩ := hP
  have hc := lp_LIc h
  have r1 := p2 hT
  have n1 : ∀ i, i < c → kn i = 1 := fun i hi => (p1 i hi).2 (by omega)
  cases q with
  | zero => exact lp_dr0 hL h (go _ _ _ _ _ _ _ _ _ _ _ _ _ _ _ _ _ _ _ h ⟨fun i hi => ⟨fun _ _ => r1 i hi, fun _ => n1 i hi⟩, fun _ => r1, fun z1 z2 => (by have := p3 hT (by omega); omega), fun z1 z2 z3 => (by omega), fun z => (by have := p5; omega)⟩)
  | succ q => exact lp_dr hL h (fun h' => go _ _ _ _ _ _ _ _ _ _ _ _ _ _ _ _ _ _ _ h' ⟨fun i hi => ⟨fun _ _ => r1 i hi, fun _ => n1 i hi⟩, fun _ => r1, fun z1 z2 => (by have := p3 hT (by omega); omega), fun z1 z2 z3 => (by omega), fun z => (by have := p5; omega)⟩)
theorem lp_main (hL : L ≤ 260) (hn : n ≤ 1040) : ∀ d kk fu, kk + d = n + 44 → d < fu → ∀ (c q : Nat) (k p s r kn ad : Nat → Nat) (A : Nat → Int32) (V : Nat → Int64) (D : Nat → Int32) (bs ba : Nat → Nat) (BV : Nat → Int64) (BD : Nat → Int32) (ce : Nat → Nat) (st : Nat → Int32) (ids bid : Nat → Nat), lp_LI L xs w b c q k p s r kn ad A V D bs ba BV BD ce ids bid → lp_PH (kk - n) c q b k r kn → wL_law_108 (fun r => r = 1) L xs (nI w) (nI b) (nI n) kc ks fu (lq_I ids) (lp_hi ids) (lq_I bid) (lq_L ce) (lq_L (fun az => lq_mb bs ba BD ce az q)) (nI c) (nI q) (nI kk) (nI w) (nI b) (nI 8) (nI c) (nI q) (fun i => nI (k i)) (fun i => nI (p i)) (fun i => nI (s i)) A (fun i => nI (r i)) V (fun i => nI (bs i)) (fun i => nI (ba i)) BV (fun i => nI (ce i)) st := by
  intro d
  induction d with
  | zero =>
    intro kk fu hk hd c q k p s r kn ad A V D bs ba BV BD ce st ids bid h hP
    obtain ⟨fu, rfl⟩ : ∃ t, fu = t + 1 := ⟨fu - 1, by omega⟩
    obtain ⟨c0, q0⟩ := hP.2.2.2.2 (by omega)
    obtain rfl : q = 0 := by omega
    subst c0
    refine br_t ?_ (br_t rfl (br_t rfl rfl))
    rw [show nI n + 44 = nI (n + 44) from nI_add n 44]
    exact nI_le (by omega) (by omega)
  | succ d ih =>
    intro kk fu hk hd c q k p s r kn ad A V D bs ba BV BD ce st ids bid h hP
    obtain ⟨fu, rfl⟩ : ∃ t, fu = t + 1 := ⟨fu - 1, by omega⟩
    have hc := lp_LIc h
    have go : lp_go L xs w b (kk + 1 - n) kk (wL_law_108 (fun r => r = 1) L xs (nI w) (nI b) (nI n) kc ks fu) := fun c q k p s r kn ad A V D bs ba BV BD ce st ids bid h' hP' => ih (kk + 1) fu (by omega) (by omega) c q k p s r kn ad A V D bs ba BV BD ce st ids bid h' hP'
    refine br_f ?_ ?_
    · rw [show nI n + 44 = nI (n + 44) from nI_add n 44]
      exact nI_ge (by omega) (by omega)
    · rw [lp_sh2 (show kk < 2 ^ 31 by omega)]
      by_cases z : kk < n
      · refine nm_e (lp_cellw hL (by omega) (lp_mixw _ _ (br_f (Int32.not_le.mpr (pk_sneg (by omega) z)) ?_)))
        rw [show kk + 1 - n = 0 by omega] at go
        generalize lp_mix (lp_cell L xs (kk / 4)) (nI kk) = hh
        have step : ∀ a : Int32, (a = 0 ∨ a = 1 ∨ a = 2 ∨ a = 3 ∨ a = 4 ∨ a = 5 ∨ a = 6 ∨ a = 7 ∨ a = 8) → ((nI c = 0 → wL_law_185 (fun r => r = 1) L xs (wL_law_108 (fun r => r = 1) L xs (nI w) (nI b) (nI n) kc ks fu) (nI w) (nI b) (lq_I ids) (lp_hi ids) (lq_I bid) (lq_L ce) (lq_L (fun az => lq_mb bs ba BD ce az q)) (nI c) (nI q) (nI n) (nI kk) hh a 0 kc ks (nI w) (nI b) (nI 8) (nI c) (nI q) (fun i => nI (k i)) (fun i => nI (p i)) (fun i => nI (s i)) A (fun i => nI (r i)) V (fun i => nI (bs i)) (fun i => nI (ba i)) BV (fun i => nI (ce i)) st) ∧ (¬ nI c = 0 → (¬ nI c = 0 ∧ (¬ (1 + ((((hh.toUInt32 >>> ((16 : Int32).toUInt32 &&& Int32.toUInt32 31)).toInt32) &&& 255) - (((hh.toUInt32 >>> ((16 : Int32).toUInt32 &&& Int32.toUInt32 31)).toInt32) &&& 255) / nI c * nI c)) = 0 ∧ (wL_law_185 (fun r => r = 1) L xs (wL_law_108 (fun r => r = 1) L xs (nI w) (nI b) (nI n) kc ks fu) (nI w) (nI b) (lq_I ids) (lp_hi ids) (lq_I bid) (lq_L ce) (lq_L (fun az => lq_mb bs ba BD ce az q)) (nI c) (nI q) (nI n) (nI kk) hh a ((((hh.toUInt32 >>> ((8 : Int32).toUInt32 &&& Int32.toUInt32 31)).toInt32) &&& 255) - (((hh.toUInt32 >>> ((8 : Int32).toUInt32 &&& Int32.toUInt32 31)).toInt32) &&& 255) / (1 + ((((hh.toUInt32 >>> ((16 : Int32).toUInt32 &&& Int32.toUInt32 31)).toInt32) &&& 255) - (((hh.toUInt32 >>> ((16 : Int32).toUInt32 &&& Int32.toUInt32 31)).toInt32) &&& 255) / nI c * nI c)) * (1 + ((((hh.toUInt32 >>> ((16 : Int32).toUInt32 &&& Int32.toUInt32 31)).toInt32) &&& 255) - (((hh.toUInt32 >>> ((16 : Int32).toUInt32 &&& Int32.toUInt32 31)).toInt32) &&& 255) / nI c * nI c))) kc ks (nI w) (nI b) (nI 8) (nI c) (nI q) (fun i => nI (k i)) (fun i => nI (p i)) (fun i => nI (s i)) A (fun i => nI (r i)) V (fun i => nI (bs i)) (fun i => nI (ba i)) BV (fun i => nI (ce i)) st))))) := by
          intro a ha
          refine br_c (fun _ => lp_draw (j := 0) hL (by omega) h go ha (by omega)) (fun cz => ⟨cz, ?_⟩)
          have c0 : 0 < c := by
            apply Classical.byContradiction
            intro y
            exact cz (by rw [show c = 0 by omega]; rfl)
          obtain ⟨x, hx, ex⟩ := pk_andE ((hh.toUInt32 >>> ((16 : Int32).toUInt32 &&& Int32.toUInt32 31)).toInt32) (m := 255) 8 (by decide)
          obtain ⟨y, hy, ey⟩ := pk_andE ((hh.toUInt32 >>> ((8 : Int32).toUInt32 &&& Int32.toUInt32 31)).toInt32) (m := 255) 8 (by decide)
          have xc : x % c < c := Nat.mod_lt _ c0
          have yc : y % (1 + x % c) < 1 + x % c := Nat.mod_lt _ (by omega)
          rw [ex, ey, pk_rem (by omega) c0 (by omega), show (1 : Int32) + nI (x % c) = nI (1 + x % c) from nI_add 1 _, pk_rem (by omega) (by omega) (by omega)]
          exact ⟨nI_ne0 (by omega) (by omega), lp_draw hL (by omega) h go ha (by omega)⟩
        exact lp_actw hh (step 0 (by decide)) (step 1 (by decide)) (step 2 (by decide)) (step 3 (by decide)) (step 4 (by decide)) (step 5 (by decide)) (step 6 (by decide)) (step 7 (by decide)) (step 8 (by decide))
      · have eT : nI kk - nI n = nI (kk - n) := pk_sub (by omega)
        have T1 : kk + 1 - n = (kk - n) + 1 := by omega
        rw [T1] at go
        generalize hT : kk - n = T at *
        refine nm_r eT (lp_cellw hL (by omega) (lp_mixw _ _ (br_t (nI_pos' (by omega)) ?_)))
        refine pk_le 24 T (fun z24 => ?_) (fun z24 => ⟨by decide, ?_⟩)
        · refine pk_le 40 T (fun z40 => ?_) (fun z40 => ⟨by decide, ?_⟩)
          · unfold wL_law_278 wL_law_280
            exact lp_f6 hL h hP z24 (by omega) (Or.inl z40) go
          · have e2 : nI T - nI T / 2 * 2 = nI (T % 2) := pk_rem (d := 2) (by omega) (by decide) (by decide)
            rw [e2]
            refine pk_eq (T % 2) 1 (fun y => ?_) (fun y => ?_)
            · unfold wL_law_280
              exact lp_f5 hL h hP z24 (by omega) y go
            · unfold wL_law_278 wL_law_280
              exact lp_f6 hL h hP z24 (by omega) (Or.inr (by omega)) go
        · have e3 : nI T - nI T / 3 * 3 = nI (T % 3) := pk_rem (d := 3) (by omega) (by decide) (by decide)
          have e4 : (7 : Int32) - nI T / 3 = nI (7 - T / 3) := by
            rw [show nI T / 3 = nI (T / 3) from pk_div (d := 3) (by omega) (by decide) (by decide)]
            exact pk_sub (a := 7) (by omega)
          rw [e3, e4]
          unfold wL_law_251
          refine nm_e ⟨by decide, pk_eq (T % 3) 0 (fun y => ?_) (fun y => ⟨by decide, pk_eq (T % 3) 1 (fun y1 => ?_) (fun y1 => ?_)⟩)⟩
          · exact lp_f2 hL h hP (by omega) y go
          · exact lp_f1 hL h hP (by omega) y1 go
          · exact lp_f4 hL h hP (by omega) (by omega) go
end
