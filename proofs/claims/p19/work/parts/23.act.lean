/-! the law's actions -/
section
variable {L : Nat} {xs : Nat → Int32} {w b c q n kk kc ks : Nat} {k p s r kn ad : Nat → Nat} {A : Nat → Int32} {V : Nat → Int64} {D : Nat → Int32} {bs ba : Nat → Nat} {BV : Nat → Int64} {BD : Nat → Int32} {ce : Nat → Nat} {st : Nat → Int32} {ids bid : Nat → Nat} {post : Int32 → Prop} {J : lp_J}
theorem lp_I_cong {f g : Nat → Nat} (h : ∀ i, i < 4 → f i = g i) : lq_I f = lq_I g := by
  have e : ∀ n, n ≤ 4 → lq_vw 16 f n = lq_vw 16 g n := by
    intro n
    induction n with
    | zero => intro _; rfl
    | succ n ih =>
      intro hn
      show lq_vw 16 f n + f n * _ = lq_vw 16 g n + g n * _
      rw [ih (by omega), h n (by omega)]
  unfold lq_I
  rw [e 4 (by omega)]
theorem lp_enter (hL : L ≤ 260) (hk : kk < 65536) (h : lp_LI L xs w b c q k p s r kn ad A V D bs ba BV BD ce ids bid) (h0 : J (lq_I ids) (lp_hi ids) (lq_I bid) (lq_L ce) (lq_L (fun az => lq_mb bs ba BD ce az q)) (nI c) (nI q) (nI (kk + 1)) (nI w) (nI b) (nI 8) (nI c) (nI q) (fun iz => nI (k iz)) (fun iz => nI (p iz)) (fun iz => nI (s iz)) A (fun iz => nI (r iz)) V (fun iz => nI (bs iz)) (fun iz => nI (ba iz)) BV (fun iz => nI (ce iz)) st) (h1 : c < w → lp_LI L xs w b (c + 1) q (lq_un k c (lp_k (lp_g L xs kk))) (lq_un p c (lp_p (lp_g L xs kk))) (lq_un s c (lp_s (lp_g L xs kk))) (lq_un r c 0) (lq_un kn c 0) (lq_un ad c 0) (upd A c (-1)) V (upd D c 0) bs ba BV BD ce (lq_un ids c kk) bid → J (lq_I (lq_un ids c kk)) (lp_hi (lq_un ids c kk)) (lq_I bid) (lq_L ce) (lq_L (fun az => lq_mb bs ba BD ce az q)) (nI (c + 1)) (nI q) (nI (kk + 1)) (nI w) (nI b) (nI 8) (nI (c + 1)) (nI q) (fun iz => nI ((lq_un k c (lp_k (lp_g L xs kk))) iz)) (fun iz => nI ((lq_un p c (lp_p (lp_g L xs kk))) iz)) (fun iz => nI ((lq_un s c (lp_s (lp_g L xs kk))) iz)) (upd A c (-1)) (fun iz => nI ((lq_un r c 0) iz)) V (fun iz => nI (bs iz)) (fun iz => nI (ba iz)) BV (fun iz => nI (ce iz)) st) {x22 : Int32} : wL_law_282 post L xs J (nI w) (nI b) (lq_I ids) (lp_hi ids) (lq_I bid) (lq_L ce) (lq_L (fun az => lq_mb bs ba BD ce az q)) (nI c) (nI q) (nI n) (nI kk) 0 x22 kc ks (nI w) (nI b) (nI 8) (nI c) (nI q) (fun i => nI (k i)) (fun i => nI (p i)) (fun i => nI (s i)) A (fun i => nI (r i)) V (fun i => nI (bs i)) (fun i => nI (ba i)) BV (fun i => nI (ce i)) st := by
  have h' := h
  obtain ⟨hX, hw, hb, hi, hbi, hb0, hc, hq⟩ := h
  have e0 := hX.1
  unfold wL_law_282
  refine br_t rfl ?_
  rw [show nI kk &&& 65535 = nI kk by
    rw [pk_andN (show kk < 2 ^ 32 by omega) 16 (by decide), Nat.mod_eq_of_lt (by omega)]]
  refine nm_e (lp_gw hL hk (lp_kw _ (lp_pw _ (lp_sw _ (lx_enter (by omega) (lp_k1 _) (lp_p16 _) (lp_s124 _) (by omega) (fun f => br_t (by decide) ?_) (fun l => br_f (nI_pos (by omega)) (br_t rfl (br_t (nI_lt l (by omega)) ?_))))))))
  · exact lp_chk hL h' h0
  · have LI' : lp_LI L xs w b (c + 1) q (lq_un k c (lp_k (lp_g L xs kk))) (lq_un p c (lp_p (lp_g L xs kk))) (lq_un s c (lp_s (lp_g L xs kk))) (lq_un r c 0) (lq_un kn c 0) (lq_un ad c 0) (upd A c (-1)) V (upd D c 0) bs ba BV BD ce (lq_un ids c kk) bid := by
      refine ⟨lq_XIenter hX l (lp_k1 _) (lp_p16 _) (lp_s124 _), hw, hb, lq_unp (P := fun y => y < 65536) hi hk, hbi, hb0, fun i hi' => ?_, hq⟩
      by_cases e : i = c
      · subst e
        rw [lq_us, lq_us, lq_us, lq_us, lq_us]
        exact ⟨rfl, rfl, fun z => (by cases z), fun _ z => absurd ((lq_us (f := r) (k := i) (x := 0)).symm.trans z) (by decide)⟩
      · rw [lq_ui e, lq_ui e, lq_ui e, lq_ui e, lq_ui e, lq_ui e, pk_un e]
        exact hc i (by omega)
    have e3 : nI c &&& 3 = nI (c % 4) := pk_andN (by omega) 2 (by decide)
    rw [e3, show (16 : Int32) * nI (c % 4) = nI (16 * (c % 4)) from pk_mul 16 _]
    refine nm_e (pk_le 4 c (fun z => nm_r (e' := lp_hi (lq_un ids c kk)) ?_ ?_) (fun z => nm_r (e' := lq_I (lq_un ids c kk)) ?_ ?_))
    · have e := lq_I_set (fun i => ids (4 + i)) (fun i => hi (4 + i)) (i := c % 4) (x := kk) (by omega) hk
      refine Eq.trans e ?_
      refine congrArg lq_I ?_
      funext i
      unfold lq_un
      by_cases y : i = c % 4
      · rw [if_pos y, if_pos (by omega)]
      · rw [if_neg y, if_neg (by omega)]
    · have e : lq_I ids = lq_I (lq_un ids c kk) := lp_I_cong (fun i hi => (lq_ui (by omega)).symm)
      rw [e]
      exact nm_r (nI_1 c) (lp_chk hL LI' (h1 l LI'))
    · have e := lq_I_set ids hi (i := c % 4) (x := kk) (by omega) hk
      rw [show c % 4 = c by omega] at e ⊢
      exact e
    · have e : lp_hi ids = lp_hi (lq_un ids c kk) := lp_I_cong (fun i hi => (lq_ui (by omega)).symm)
      rw [e]
      exact nm_r (nI_1 c) (lp_chk hL LI' (h1 l LI'))
theorem lp_setA (hL : L ≤ 260) (h : lp_LI L xs w b c q k p s r kn ad A V D bs ba BV BD ce ids bid) {j : Nat} (hj : j < 8) (hJ : ∀ r' kn' ad' A' st', lp_LI L xs w b c q k p s r' kn' ad' A' V D bs ba BV BD ce ids bid → (∀ i, kn i = 1 → kn' i = 1) → (∀ i, k i = 1 → r i = 1 → r' i = 1) → (j < c → kn' j = 1) → J (lq_I ids) (lp_hi ids) (lq_I bid) (lq_L ce) (lq_L (fun az => lq_mb bs ba BD ce az q)) (nI c) (nI q) (nI (kk + 1)) (nI w) (nI b) (nI 8) (nI c) (nI q) (fun iz => nI (k iz)) (fun iz => nI (p iz)) (fun iz => nI (s iz)) A' (fun iz => nI (r' iz)) V (fun iz => nI (bs iz)) (fun iz => nI (ba iz)) BV (fun iz => nI (ce iz)) st') : wL_law_282 post L xs J (nI w) (nI b) (lq_I ids) (lp_hi ids) (lq_I bid) (lq_L ce) (lq_L (fun az => lq_mb bs ba BD ce az q)) (nI c) (nI q) (nI n) (nI kk) 1 (nI j) kc ks (nI w) (nI b) (nI 8) (nI c) (nI q) (fun i => nI (k i)) (fun i => nI (p i)) (fun i => nI (s i)) A (fun i => nI (r i)) V (fun i => nI (bs i)) (fun i => nI (ba i)) BV (fun i => nI (ce i)) st := by
  have h' := h
  obtain ⟨hX, hw, hb, hi, hbi, hb0, hc, hq⟩ := h
  have e0 := hX.1
  unfold wL_law_282
  refine br_f (by decide) (br_t rfl (lp_id hi hj (lp_gw hL (hi j) (lp_aw _ ?_))))
  by_cases z : j < c
  · obtain ⟨c1, c2, c3, c4⟩ := hc j z
    have as := lp_as (lp_g L xs (ids j))
    have w1 := (hX.2.2.1 j z).1
    refine lx_addr hX z (fun zn => lp_chk hL h' (hJ r kn ad A st h' (fun _ y => y) (fun _ _ y => y) (fun _ => zn))) (fun zn hv => ?_) (fun a zn ea ha zk => ?_) (fun a zn ea ha zk => ?_)
    · exfalso
      rcases hv with hv | hv
      · exact nI_pos (by omega) hv
      · rw [nI_leI (by omega) (by omega)] at hv
        omega
    all_goals
      have ea' : lp_a (lp_g L xs (ids j)) = a := by
        rw [nI_eq (by omega) (by omega)] at ea
        exact ea
      have kn1 : ∀ i, kn i = 1 → lq_un kn j 1 i = 1 := fun i y => by
        unfold lq_un
        split
        · rfl
        · exact y
      have knj : j < c → lq_un kn j 1 j = 1 := fun _ => lq_us
    · have X' := lq_XIaddrL hX z zk zn ha
      have LI' : lp_LI L xs w b c q k p s r (lq_un kn j 1) (lq_un ad j a) (upd A j (nI a)) V D bs ba BV BD ce ids bid := by
        refine ⟨X', hw, hb, hi, hbi, hb0, fun i hi' => ?_, hq⟩
        obtain ⟨d1, d2, d3, d4⟩ := hc i hi'
        refine ⟨d1, d2, fun y => ?_, d4⟩
        by_cases e : i = j
        · rw [e, lq_us]
          exact ea'.symm
        · rw [lq_ui e] at y ⊢
          exact d3 y
      exact lp_chk hL LI' (hJ _ _ _ _ _ LI' kn1 (fun _ _ y => y) knj)
    · have X' := lq_XIsend hX zk zn ha
      have LI' : lp_LI L xs w b c q k p s (lq_rb (lq_M k s r (lq_un kn j 1) (lq_un ad j a) j) r c) (lq_un kn j 1) (lq_un ad j a) (upd A j (nI a)) V D bs ba BV BD ce ids bid := by
        refine ⟨X', hw, hb, hi, hbi, hb0, fun i hi' => ?_, hq⟩
        obtain ⟨d1, d2, d3, d4⟩ := hc i hi'
        refine ⟨d1, d2, fun y => ?_, fun y1 y2 => d4 y1 ?_⟩
        · by_cases e : i = j
          · rw [e, lq_us]
            exact ea'.symm
          · rw [lq_ui e] at y ⊢
            exact d3 y
        · have a1 := lq_rb_le (lq_M k s r (lq_un kn j 1) (lq_un ad j a) j) r c i
          have a2 := (hX.2.1 i).2.2.1
          omega
      refine lp_chk hL LI' (hJ _ _ _ _ _ LI' kn1 (fun i y1 y2 => ?_) knj)
      unfold lq_rb
      rw [if_neg]
      · exact y2
      · intro ⟨_, _, x, _⟩
        omega
  · unfold wpX_setAddress
    exact lx_npos (Or.inr (nI_le (by omega) (by omega))) (br_t rfl (lp_chk hL h' (hJ r kn ad A st h' (fun _ y => y) (fun _ _ y => y) (fun y => absurd y z))))
theorem lp_setD (hL : L ≤ 260) (h : lp_LI L xs w b c q k p s r kn ad A V D bs ba BV BD ce ids bid) {j : Nat} (hj : j < 8) (hJ : ∀ r' V' D', lp_LI L xs w b c q k p s r' kn ad A V' D' bs ba BV BD ce ids bid → (∀ i, r i = 1 → r' i = 1) → (j < c → k j = 1 → r' j = 1) → J (lq_I ids) (lp_hi ids) (lq_I bid) (lq_L ce) (lq_L (fun az => lq_mb bs ba BD ce az q)) (nI c) (nI q) (nI (kk + 1)) (nI w) (nI b) (nI 8) (nI c) (nI q) (fun iz => nI (k iz)) (fun iz => nI (p iz)) (fun iz => nI (s iz)) A (fun iz => nI (r' iz)) V' (fun iz => nI (bs iz)) (fun iz => nI (ba iz)) BV (fun iz => nI (ce iz)) st) : wL_law_282 post L xs J (nI w) (nI b) (lq_I ids) (lp_hi ids) (lq_I bid) (lq_L ce) (lq_L (fun az => lq_mb bs ba BD ce az q)) (nI c) (nI q) (nI n) (nI kk) 2 (nI j) kc ks (nI w) (nI b) (nI 8) (nI c) (nI q) (fun i => nI (k i)) (fun i => nI (p i)) (fun i => nI (s i)) A (fun i => nI (r i)) V (fun i => nI (bs i)) (fun i => nI (ba i)) BV (fun i => nI (ce i)) st := by
  have h' := h
  obtain ⟨hX, hw, hb, hi, hbi, hb0, hc, hq⟩ := h
  have e0 := hX.1
  unfold wL_law_282
  refine br_f (by decide) (br_f (by decide) (br_t rfl (lp_id hi hj (lp_dw hL (hi j) ?_))))
  by_cases z : j < c
  · refine lx_data hX z (fun zk => lp_chk hL h' (hJ r V D h' (fun _ y => y) (fun _ y => absurd y zk))) (fun zk zr => lp_chk hL h' (hJ r V D h' (fun _ y => y) (fun _ _ => zr))) (fun zk zr => ?_)
    have X' := lq_XIdata hX (lp_d L xs (ids j)) zk zr
    have LI' : lp_LI L xs w b c q k p s (lq_un r j 1) kn ad A (vp_updL V j (lN (lq_lo (lp_d L xs (ids j)) (s j)))) (upd D j (lp_d L xs (ids j))) bs ba BV BD ce ids bid := by
      refine ⟨X', hw, hb, hi, hbi, hb0, fun i hi' => ?_, hq⟩
      obtain ⟨d1, d2, d3, d4⟩ := hc i hi'
      refine ⟨d1, d2, d3, fun y1 y2 => ?_⟩
      by_cases e : i = j
      · rw [e, pk_us]
      · rw [pk_un e]
        rw [lq_ui e] at y2
        exact d4 y1 y2
    refine lp_chk hL LI' (hJ _ _ _ LI' (fun i y => ?_) (fun _ _ => lq_us))
    unfold lq_un
    split
    · rfl
    · exact y
  · unfold wpX_setData
    exact lx_npos (Or.inr (nI_le (by omega) (by omega))) (br_t rfl (lp_chk hL h' (hJ r V D h' (fun _ y => y) (fun y => absurd y z))))
theorem lq_EXf {base : Nat → Nat} {j : Nat} {ans : Int32} {r' : Nat → Nat} {V' : Nat → Int64} (e : lq_EX k p s r kn ad V D base st j ans r' V') : (∀ x, r x = 1 → r' x = 1) ∧ (∀ x, k x = 1 → r' x = r x) ∧ ((∀ x, x ≤ j → kn x = 1 ∧ (k x = 1 → r x = 1)) → r' j = 1) := by
  rcases e with ⟨e1, ea, er, eV⟩ | ⟨e1, e2, ea, er, eV⟩ | ⟨e1, e2, e3, ea, er, eV⟩ | ⟨e1, e2, e3, e4, ea, er, eV⟩ | ⟨e1, e2, e3, e4, e5, ea, er, eV⟩ | ⟨e1, e2, e3, e4, e5, ea, er, eV⟩
  all_goals rw [er]
  · exact ⟨fun _ y => y, fun _ _ => rfl, fun H => (H j (Nat.le_refl _)).2 e1⟩
  · exact ⟨fun _ y => y, fun _ _ => rfl, fun H => e2⟩
  · exact ⟨fun _ y => y, fun _ _ => rfl, fun H => absurd (H j (Nat.le_refl _)).1 e3⟩
  · refine ⟨fun _ y => y, fun _ _ => rfl, fun H => ?_⟩
    obtain ⟨i, i1, i2, i3, _⟩ := e4
    exact absurd (H i (by omega)).1 i3
  · refine ⟨fun _ y => y, fun _ _ => rfl, fun H => ?_⟩
    obtain ⟨x, x1, x2⟩ := e5
    refine absurd ((lq_ar_src j).mpr (fun i hi => ?_)) x2
    obtain ⟨i1, i2⟩ := lq_src_lt j hi
    exact (H i (by omega)).2 i2.1
  · refine ⟨fun x y => ?_, fun x y => lq_ui (fun ex => e1 (by rw [← ex]; exact y)), fun _ => lq_us⟩
    unfold lq_un
    split
    · rfl
    · exact y
theorem lq_ERf {base : Nat → Nat} : ∀ d i {r : Nat → Nat} {V : Nat → Int64} {n : Nat} {r' : Nat → Nat} {V' : Nat → Int64}, lq_ER k p s kn ad D base st d i r V n r' V' → (∀ x, r x = 1 → r' x = 1) ∧ (∀ x, k x = 1 → r' x = r x) ∧ ((∀ x, x < i + d → kn x = 1 ∧ (k x = 1 → r x = 1)) → ∀ x, i ≤ x → x < i + d → r' x = 1) := by
  intro d
  induction d with
  | zero =>
    intro i r V n r' V' ⟨_, e1, _⟩
    rw [e1]
    exact ⟨fun _ y => y, fun _ _ => rfl, fun _ x h1 h2 => absurd h1 (by omega)⟩
  | succ d ih =>
    intro i r V n r' V' ⟨ans, r1, V1, n1, e1, e2, _⟩
    obtain ⟨f1, f2, f3⟩ := lq_EXf e1
    obtain ⟨g1, g2, g3⟩ := ih (i + 1) e2
    refine ⟨fun x y => g1 x (f1 x y), fun x y => (g2 x y).trans (f2 x y), fun H x h1 h2 => ?_⟩
    by_cases e : x = i
    · rw [e]
      exact g1 i (f3 (fun y hy => H y (by omega)))
    · refine g3 (fun y hy => ⟨(H y (by omega)).1, fun yk => ?_⟩) x (by omega) (by omega)
      rw [f2 y yk]
      exact (H y (by omega)).2 yk
theorem lp_LIr {r' : Nat → Nat} {V' : Nat → Int64} (h : lp_LI L xs w b c q k p s r kn ad A V D bs ba BV BD ce ids bid) (X' : lq_XI w b 8 c q k p s r' kn ad A V' D bs ba BV BD ce) (hr : ∀ x, k x = 1 → r' x = r x) : lp_LI L xs w b c q k p s r' kn ad A V' D bs ba BV BD ce ids bid := by
  obtain ⟨hX, hw, hb, hi, hbi, hb0, hc, hq⟩ := h
  refine ⟨X', hw, hb, hi, hbi, hb0, fun i hi' => ?_, hq⟩
  obtain ⟨d1, d2, d3, d4⟩ := hc i hi'
  refine ⟨d1, d2, d3, fun y1 y2 => d4 y1 ?_⟩
  rw [← hr i y1]
  exact y2
theorem lp_exe (hL : L ≤ 260) (h : lp_LI L xs w b c q k p s r kn ad A V D bs ba BV BD ce ids bid) {j : Nat} (hj : j < 8) (hJ : ∀ r' V', lp_LI L xs w b c q k p s r' kn ad A V' D bs ba BV BD ce ids bid → J (lq_I ids) (lp_hi ids) (lq_I bid) (lq_L ce) (lq_L (fun az => lq_mb bs ba BD ce az q)) (nI c) (nI q) (nI (kk + 1)) (nI w) (nI b) (nI 8) (nI c) (nI q) (fun iz => nI (k iz)) (fun iz => nI (p iz)) (fun iz => nI (s iz)) A (fun iz => nI (r' iz)) V' (fun iz => nI (bs iz)) (fun iz => nI (ba iz)) BV (fun iz => nI (ce iz)) st) : wL_law_282 post L xs J (nI w) (nI b) (lq_I ids) (lp_hi ids) (lq_I bid) (lq_L ce) (lq_L (fun az => lq_mb bs ba BD ce az q)) (nI c) (nI q) (nI n) (nI kk) 3 (nI j) kc ks (nI w) (nI b) (nI 8) (nI c) (nI q) (fun i => nI (k i)) (fun i => nI (p i)) (fun i => nI (s i)) A (fun i => nI (r i)) V (fun i => nI (bs i)) (fun i => nI (ba i)) BV (fun i => nI (ce i)) st := by
  have h' := h
  obtain ⟨hX, hw, hb, hi, hbi, hb0, hc, hq⟩ := h
  have e0 := hX.1
  unfold wL_law_282
  refine br_f (by decide) (br_f (by decide) (br_f (by decide) (br_t rfl ?_)))
  by_cases z : j < c
  · obtain ⟨ans, r', V', ex⟩ := lq_EXex k p s r kn ad V D (fun a => lq_mb bs ba BD ce a q) st j
    have LI' := lp_LIr h' (lq_XIex hX ex) (lq_EXf ex).2.1
    exact lx_exec hX z ex (lp_chk hL LI' (hJ r' V' LI'))
  · unfold wpX_execute
    exact lx_npos (Or.inr (nI_le (by omega) (by omega))) (br_t rfl (lp_chk hL h' (hJ r V h')))
theorem lp_exr (hL : L ≤ 260) (h : lp_LI L xs w b c q k p s r kn ad A V D bs ba BV BD ce ids bid) (hJ : ∀ r' V', lp_LI L xs w b c q k p s r' kn ad A V' D bs ba BV BD ce ids bid → (∀ x, r x = 1 → r' x = 1) → ((∀ x, x < c → kn x = 1 ∧ (k x = 1 → r x = 1)) → ∀ x, x < c → r' x = 1) → J (lq_I ids) (lp_hi ids) (lq_I bid) (lq_L ce) (lq_L (fun az => lq_mb bs ba BD ce az q)) (nI c) (nI q) (nI (kk + 1)) (nI w) (nI b) (nI 8) (nI c) (nI q) (fun iz => nI (k iz)) (fun iz => nI (p iz)) (fun iz => nI (s iz)) A (fun iz => nI (r' iz)) V' (fun iz => nI (bs iz)) (fun iz => nI (ba iz)) BV (fun iz => nI (ce iz)) st) {x22 : Int32} : wL_law_282 post L xs J (nI w) (nI b) (lq_I ids) (lp_hi ids) (lq_I bid) (lq_L ce) (lq_L (fun az => lq_mb bs ba BD ce az q)) (nI c) (nI q) (nI n) (nI kk) 4 x22 kc ks (nI w) (nI b) (nI 8) (nI c) (nI q) (fun i => nI (k i)) (fun i => nI (p i)) (fun i => nI (s i)) A (fun i => nI (r i)) V (fun i => nI (bs i)) (fun i => nI (ba i)) BV (fun i => nI (ce i)) st := by
  have h' := h
  obtain ⟨hX, hw, hb, hi, hbi, hb0, hc, hq⟩ := h
  unfold wL_law_282
  refine br_f (by decide) (br_f (by decide) (br_f (by decide) (br_f (by decide) (br_t rfl ?_))))
  obtain ⟨n0, r', V', _, ex⟩ := lq_ERex k p s kn ad D (fun a => lq_mb bs ba BD ce a q) st c 0 r V
  obtain ⟨f1, f2, f3⟩ := lq_ERf c 0 ex
  have LI' := lp_LIr h' (lq_XIer hX ex) f2
  refine lx_er hX ex (lp_chk hL LI' (hJ r' V' LI' f1 (fun H x hx => f3 (fun y hy => H y (by omega)) x (by omega) (by omega))))
theorem lp_dis (hL : L ≤ 260) (h : lp_LI L xs w b c q k p s r kn ad A V D bs ba BV BD ce ids bid) (hJ : ∀ c', c' ≤ c → lp_LI L xs w b c' q k p s r kn ad A V D bs ba BV BD ce ids bid → J (lq_I ids) (lp_hi ids) (lq_I bid) (lq_L ce) (lq_L (fun az => lq_mb bs ba BD ce az q)) (nI c') (nI q) (nI (kk + 1)) (nI w) (nI b) (nI 8) (nI c') (nI q) (fun iz => nI (k iz)) (fun iz => nI (p iz)) (fun iz => nI (s iz)) A (fun iz => nI (r iz)) V (fun iz => nI (bs iz)) (fun iz => nI (ba iz)) BV (fun iz => nI (ce iz)) st) {x22 : Int32} : wL_law_282 post L xs J (nI w) (nI b) (lq_I ids) (lp_hi ids) (lq_I bid) (lq_L ce) (lq_L (fun az => lq_mb bs ba BD ce az q)) (nI c) (nI q) (nI n) (nI kk) 7 x22 kc ks (nI w) (nI b) (nI 8) (nI c) (nI q) (fun i => nI (k i)) (fun i => nI (p i)) (fun i => nI (s i)) A (fun i => nI (r i)) V (fun i => nI (bs i)) (fun i => nI (ba i)) BV (fun i => nI (ce i)) st := by
  have h' := h
  obtain ⟨hX, hw, hb, hi, hbi, hb0, hc, hq⟩ := h
  have e0 := hX.1
  unfold wL_law_282
  refine br_f (by decide) (br_f (by decide) (br_f (by decide) (br_f (by decide) (br_f (by decide) (br_f (by decide) (br_f (by decide) (br_t rfl ?_)))))))
  rcases pk_ix x22 (n := c) (by omega) with hv | hv | ⟨j, hj, rfl⟩
  · unfold wpX_discard
    exact lx_npos (Or.inl hv) (br_t rfl (br_t (by decide) (lp_chk hL h' (hJ c (Nat.le_refl _) h'))))
  · unfold wpX_discard
    exact lx_npos (Or.inr hv) (br_t rfl (br_t (by decide) (lp_chk hL h' (hJ c (Nat.le_refl _) h'))))
  · have LI' : lp_LI L xs w b j q k p s r kn ad A V D bs ba BV BD ce ids bid := ⟨lq_XIdiscard hX (by omega), hw, hb, hi, hbi, hb0, fun i hi' => hc i (by omega), hq⟩
    exact lx_disc hj (by omega) (br_f (nI_pos (by omega)) (lp_chk hL LI' (hJ j (by omega) LI')))
theorem lp_clr (hL : L ≤ 260) (h : lp_LI L xs w b c q k p s r kn ad A V D bs ba BV BD ce ids bid) (hJ : ∀ st', J (lq_I ids) (lp_hi ids) (lq_I bid) (lq_L ce) (lq_L (fun az => lq_mb bs ba BD ce az q)) (nI c) (nI q) (nI (kk + 1)) (nI w) (nI b) (nI 8) (nI c) (nI q) (fun iz => nI (k iz)) (fun iz => nI (p iz)) (fun iz => nI (s iz)) A (fun iz => nI (r iz)) V (fun iz => nI (bs iz)) (fun iz => nI (ba iz)) BV (fun iz => nI (ce iz)) st') {x22 : Int32} : wL_law_282 post L xs J (nI w) (nI b) (lq_I ids) (lp_hi ids) (lq_I bid) (lq_L ce) (lq_L (fun az => lq_mb bs ba BD ce az q)) (nI c) (nI q) (nI n) (nI kk) 8 x22 kc ks (nI w) (nI b) (nI 8) (nI c) (nI q) (fun i => nI (k i)) (fun i => nI (p i)) (fun i => nI (s i)) A (fun i => nI (r i)) V (fun i => nI (bs i)) (fun i => nI (ba i)) BV (fun i => nI (ce i)) st := by
  unfold wL_law_282
  refine br_f (by decide) (br_f (by decide) (br_f (by decide) (br_f (by decide) (br_f (by decide) (br_f (by decide) (br_f (by decide) (br_f (by decide) ?_)))))))
  exact lx_clear (lp_chk hL h (hJ _))
end
