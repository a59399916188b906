/-! the class: enter, setAddress, setData, execute, executeReady, discard -/
section
variable {w b m c q : Nat} {k p s r kn ad : Nat → Nat} {A : Nat → Int32} {V : Nat → Int64} {D : Nat → Int32} {bs ba : Nat → Nat} {BV : Nat → Int64} {BD : Nat → Int32} {ce : Nat → Nat} {st : Nat → Int32}
theorem lx_enter (hw : w ≤ 32) {x y z : Nat} (hx : x ≤ 1) (hy : y < 16) (hz : z = 1 ∨ z = 2 ∨ z = 4) (hc : c ≤ w) {post : Int32 → St2 → Prop} (hf : c = w → post (-5) (nI w, nI b, nI m, nI c, nI q, (fun i => nI (k i)), (fun i => nI (p i)), (fun i => nI (s i)), A, (fun i => nI (r i)), V, (fun i => nI (bs i)), (fun i => nI (ba i)), BV, (fun i => nI (ce i)), st)) (hp : c < w → post (nI c) (nI w, nI b, nI m, nI (c + 1), nI q, (fun iz => nI ((lq_un k c x) iz)), (fun iz => nI ((lq_un p c y) iz)), (fun iz => nI ((lq_un s c z) iz)), upd A c (-1), (fun iz => nI ((lq_un r c 0) iz)), V, (fun i => nI (bs i)), (fun i => nI (ba i)), BV, (fun i => nI (ce i)), st)) : wpX_enter post (nI w, nI b, nI m, nI c, nI q, (fun i => nI (k i)), (fun i => nI (p i)), (fun i => nI (s i)), A, (fun i => nI (r i)), V, (fun i => nI (bs i)), (fun i => nI (ba i)), BV, (fun i => nI (ce i)), st) (nI x) (nI y) (nI z) := by
  have main : wX_enter_12 post (nI x) (nI y) (nI z) (nI w) (nI b) (nI m) (nI c) (nI q) (fun i => nI (k i)) (fun i => nI (p i)) (fun i => nI (s i)) A (fun i => nI (r i)) V (fun i => nI (bs i)) (fun i => nI (ba i)) BV (fun i => nI (ce i)) st := by
    unfold wX_enter_12
    refine lx_pc hy (br_f (by decide) (lx_size (fun _ => br_f (by decide) ?_) (fun n => absurd ?_ n)))
    · refine pk_lt c w (fun l => ?_) (fun l => hf (by omega))
      have I : vp_in (nI c) 32 := vp_in_nI (by omega) (by omega)
      rw [nI_clamp (show c < 2 ^ 31 by omega)]
      refine ⟨I, nm_r (lq_upd k c x) ⟨I, nm_r (lq_upd p c y) ⟨I, nm_r (lq_upd s c z) ⟨I, nm_e ⟨I, nm_r ?_ (nm_r (nI_1 c) (hp l))⟩⟩⟩⟩⟩
      exact lq_upd r c 0
    · rcases hz with rfl | rfl | rfl
      · exact Or.inl rfl
      · exact Or.inr (Or.inl rfl)
      · exact Or.inr (Or.inr rfl)
  unfold wpX_enter
  exact pk_eq x 0 (fun _ => main) (fun _ => pk_eq x 1 (fun _ => main) (fun _ => absurd hx (by omega)))
theorem lx_enterK {post : Int32 → St2 → Prop} {v1 v2 v3 : Int32} (h0 : ¬ v1 = 0) (h1 : ¬ v1 = 1) (hp : post (-2) (nI w, nI b, nI m, nI c, nI q, (fun i => nI (k i)), (fun i => nI (p i)), (fun i => nI (s i)), A, (fun i => nI (r i)), V, (fun i => nI (bs i)), (fun i => nI (ba i)), BV, (fun i => nI (ce i)), st)) : wpX_enter post (nI w, nI b, nI m, nI c, nI q, (fun i => nI (k i)), (fun i => nI (p i)), (fun i => nI (s i)), A, (fun i => nI (r i)), V, (fun i => nI (bs i)), (fun i => nI (ba i)), BV, (fun i => nI (ce i)), st) v1 v2 v3 := by
  unfold wpX_enter
  exact br_f h0 (br_f h1 hp)
theorem lx_enterA {post : Int32 → St2 → Prop} {v1 v2 v3 : Int32} (h0 : v1 = 0 ∨ v1 = 1) (h1 : v2 < 0 ∨ nI 16 ≤ v2) (hp : post (-3) (nI w, nI b, nI m, nI c, nI q, (fun i => nI (k i)), (fun i => nI (p i)), (fun i => nI (s i)), A, (fun i => nI (r i)), V, (fun i => nI (bs i)), (fun i => nI (ba i)), BV, (fun i => nI (ce i)), st)) : wpX_enter post (nI w, nI b, nI m, nI c, nI q, (fun i => nI (k i)), (fun i => nI (p i)), (fun i => nI (s i)), A, (fun i => nI (r i)), V, (fun i => nI (bs i)), (fun i => nI (ba i)), BV, (fun i => nI (ce i)), st) v1 v2 v3 := by
  have main : wX_enter_12 post v1 v2 v3 (nI w) (nI b) (nI m) (nI c) (nI q) (fun i => nI (k i)) (fun i => nI (p i)) (fun i => nI (s i)) A (fun i => nI (r i)) V (fun i => nI (bs i)) (fun i => nI (ba i)) BV (fun i => nI (ce i)) st := lx_npc h1 (br_t rfl hp)
  unfold wpX_enter
  exact br_c (fun _ => main) (fun z => br_t (by rcases h0 with h0 | h0; exact absurd h0 z; exact h0) main)
theorem lx_enterS {post : Int32 → St2 → Prop} {v1 v3 : Int32} {y : Nat} (hy : y < 16) (h0 : v1 = 0 ∨ v1 = 1) (h1 : ¬ (v3 = 1 ∨ v3 = 2 ∨ v3 = 4)) (hp : post (-3) (nI w, nI b, nI m, nI c, nI q, (fun i => nI (k i)), (fun i => nI (p i)), (fun i => nI (s i)), A, (fun i => nI (r i)), V, (fun i => nI (bs i)), (fun i => nI (ba i)), BV, (fun i => nI (ce i)), st)) : wpX_enter post (nI w, nI b, nI m, nI c, nI q, (fun i => nI (k i)), (fun i => nI (p i)), (fun i => nI (s i)), A, (fun i => nI (r i)), V, (fun i => nI (bs i)), (fun i => nI (ba i)), BV, (fun i => nI (ce i)), st) v1 (nI y) v3 := by
  have main : wX_enter_12 post v1 (nI y) v3 (nI w) (nI b) (nI m) (nI c) (nI q) (fun i => nI (k i)) (fun i => nI (p i)) (fun i => nI (s i)) A (fun i => nI (r i)) V (fun i => nI (bs i)) (fun i => nI (ba i)) BV (fun i => nI (ce i)) st := lx_pc hy (br_f (by decide) (lx_size (fun z => absurd z h1) (fun _ => br_t rfl hp)))
  unfold wpX_enter
  exact br_c (fun _ => main) (fun z => br_t (by rcases h0 with h0 | h0; exact absurd h0 z; exact h0) main)
theorem lx_addr (h : lq_XI w b m c q k p s r kn ad A V D bs ba BV BD ce) {j : Nat} (hj : j < c) {v : Int32} {post : Int32 → St2 → Prop} (hk : kn j = 1 → post (-4) (nI w, nI b, nI m, nI c, nI q, (fun i => nI (k i)), (fun i => nI (p i)), (fun i => nI (s i)), A, (fun i => nI (r i)), V, (fun i => nI (bs i)), (fun i => nI (ba i)), BV, (fun i => nI (ce i)), st)) (hb : kn j ≠ 1 → v < 0 ∨ nI (m - s j + 1) ≤ v → post (-3) (nI w, nI b, nI m, nI c, nI q, (fun i => nI (k i)), (fun i => nI (p i)), (fun i => nI (s i)), A, (fun i => nI (r i)), V, (fun i => nI (bs i)), (fun i => nI (ba i)), BV, (fun i => nI (ce i)), st)) (hl : ∀ a, kn j ≠ 1 → v = nI a → a + s j ≤ m → k j ≠ 1 → post 0 (nI w, nI b, nI m, nI c, nI q, (fun i => nI (k i)), (fun i => nI (p i)), (fun i => nI (s i)), upd A j (nI a), (fun i => nI (r i)), V, (fun i => nI (bs i)), (fun i => nI (ba i)), BV, (fun i => nI (ce i)), st)) (hs : ∀ a, kn j ≠ 1 → v = nI a → a + s j ≤ m → k j = 1 → post (nI (lq_ct (lq_M k s r (lq_un kn j 1) (lq_un ad j a) j) c)) (nI w, nI b, nI m, nI c, nI q, (fun i => nI (k i)), (fun i => nI (p i)), (fun i => nI (s i)), upd A j (nI a), (fun iz => nI ((lq_rb (lq_M k s r (lq_un kn j 1) (lq_un ad j a) j) r c) iz)), V, (fun i => nI (bs i)), (fun i => nI (ba i)), BV, (fun i => nI (ce i)), lq_sf (lq_M k s r (lq_un kn j 1) (lq_un ad j a) j) p (p j) st c)) : wpX_setAddress post (nI w, nI b, nI m, nI c, nI q, (fun i => nI (k i)), (fun i => nI (p i)), (fun i => nI (s i)), A, (fun i => nI (r i)), V, (fun i => nI (bs i)), (fun i => nI (ba i)), BV, (fun i => nI (ce i)), st) (nI j) v := by
  have h' := h
  obtain ⟨h1, h2, h3, h4, h5⟩ := h
  obtain ⟨w1, w2, w3, w4⟩ := h3 j hj
  have I : vp_in (nI j) 32 := vp_in_nI (by omega) (by omega)
  unfold wpX_setAddress
  refine lx_pos hj (by omega) (br_f (by decide) ⟨I, ?_⟩)
  rw [nI_clamp (show j < 2 ^ 31 by omega)]
  by_cases zn : kn j = 1
  · have w2' := w2 zn
    rw [if_pos zn] at w3
    rw [w3]
    exact br_f (lq_m1 (by omega)) (hk zn)
  · rw [if_neg zn] at w3
    refine br_t w3 ?_
    have e : nI m - (fun i => nI (s i)) j = nI (m - s j) := pk_sub (by omega)
    rw [e]
    rcases pk_ix v (n := m - s j + 1) (by omega) with hv | hv | ⟨a, ha, rfl⟩
    · exact br_t hv (hb zn (Or.inl hv))
    · refine br_c (fun _ => hb zn (Or.inr hv)) (fun hv0 => ⟨I, br_f ?_ (hb zn (Or.inr hv))⟩)
      obtain ⟨a, ha, rfl⟩ := nI_of hv0
      rw [nI_leI (by omega) ha] at hv
      rw [nI_leI ha (by omega)]
      omega
    · refine br_f (nI_pos (by omega)) ⟨I, br_t (nI_le (by omega) (by omega)) ⟨I, nm_e ⟨I, ?_⟩⟩⟩
      have b1 := h2 j
      refine pk_eq (k j) 1 (fun zk => ?_) (fun zk => hl a zn rfl (by omega) zk)
      have G' : lq_G m c k p s r (lq_un kn j 1) (lq_un ad j a) (upd A j (nI a)) := by
        refine ⟨by omega, by omega, fun i => ⟨(h2 i).1, (h2 i).2.1, (h2 i).2.2.1, lq_unp (P := fun y => y ≤ 1) (fun i => (h2 i).2.2.2) (by omega) i⟩, fun i hi => ?_⟩
        by_cases e : i = j
        · subst e
          rw [lq_us, lq_us, pk_us]
          exact ⟨w1, fun _ => by omega, (if_pos rfl).symm⟩
        · rw [lq_ui e, lq_ui e, pk_un e]
          exact ⟨(h3 i hi).1, (h3 i hi).2.1, (h3 i hi).2.2.1⟩
      refine lx_send G' hj (fun i hi z1 z2 => ?_) (hs a zn rfl (by omega) zk)
      have := (((h3 i hi).2.2.2 z2).2 z1).1
      exact lq_unp (P := fun y => y = 1) (fun _ => this) rfl i
theorem lx_data (h : lq_XI w b m c q k p s r kn ad A V D bs ba BV BD ce) {j : Nat} (hj : j < c) {v : Int32} {post : Int32 → St2 → Prop} (hk : k j ≠ 1 → post (-2) (nI w, nI b, nI m, nI c, nI q, (fun i => nI (k i)), (fun i => nI (p i)), (fun i => nI (s i)), A, (fun i => nI (r i)), V, (fun i => nI (bs i)), (fun i => nI (ba i)), BV, (fun i => nI (ce i)), st)) (hr : k j = 1 → r j = 1 → post (-4) (nI w, nI b, nI m, nI c, nI q, (fun i => nI (k i)), (fun i => nI (p i)), (fun i => nI (s i)), A, (fun i => nI (r i)), V, (fun i => nI (bs i)), (fun i => nI (ba i)), BV, (fun i => nI (ce i)), st)) (hp : k j = 1 → r j ≠ 1 → post 0 (nI w, nI b, nI m, nI c, nI q, (fun i => nI (k i)), (fun i => nI (p i)), (fun i => nI (s i)), A, (fun iz => nI ((lq_un r j 1) iz)), vp_updL V j (lN (lq_lo v (s j))), (fun i => nI (bs i)), (fun i => nI (ba i)), BV, (fun i => nI (ce i)), st)) : wpX_setData post (nI w, nI b, nI m, nI c, nI q, (fun i => nI (k i)), (fun i => nI (p i)), (fun i => nI (s i)), A, (fun i => nI (r i)), V, (fun i => nI (bs i)), (fun i => nI (ba i)), BV, (fun i => nI (ce i)), st) (nI j) v := by
  obtain ⟨h1, h2, h3, h4, h5⟩ := h
  obtain ⟨w1, w2, w3, w4⟩ := h3 j hj
  have b1 := h2 j
  have I : vp_in (nI j) 32 := vp_in_nI (by omega) (by omega)
  unfold wpX_setData
  refine lx_pos hj (by omega) (br_f (by decide) ⟨I, ?_⟩)
  rw [nI_clamp (show j < 2 ^ 31 by omega)]
  refine pk_eq (k j) 0 (fun z => hk (by omega)) (fun z => ⟨I, pk_eq (r j) 0 (fun y => ⟨I, ?_⟩) (fun y => hr (by omega) (by omega))⟩)
  unfold wpX_lowBytes
  dsimp only
  rw [lq_low v w1]
  refine ⟨I, nm_e ⟨I, nm_r ?_ (hp (by omega) (by omega))⟩⟩
  exact lq_upd r j 1
theorem lx_exec (h : lq_XI w b m c q k p s r kn ad A V D bs ba BV BD ce) {j : Nat} (hj : j < c) {ans : Int32} {r' : Nat → Nat} {V' : Nat → Int64} (e : lq_EX k p s r kn ad V D (fun a => lq_mb bs ba BD ce a q) st j ans r' V') {post : Int32 → St2 → Prop} (hp : post ans (nI w, nI b, nI m, nI c, nI q, (fun i => nI (k i)), (fun i => nI (p i)), (fun i => nI (s i)), A, (fun iz => nI (r' iz)), V', (fun i => nI (bs i)), (fun i => nI (ba i)), BV, (fun i => nI (ce i)), st)) : wpX_execute post (nI w, nI b, nI m, nI c, nI q, (fun i => nI (k i)), (fun i => nI (p i)), (fun i => nI (s i)), A, (fun i => nI (r i)), V, (fun i => nI (bs i)), (fun i => nI (ba i)), BV, (fun i => nI (ce i)), st) (nI j) := by
  have h' := h
  obtain ⟨h1, h2, h3, h4, h5⟩ := h
  obtain ⟨w1, w2, w3, w4⟩ := h3 j hj
  have b1 := h2 j
  have I : vp_in (nI j) 32 := vp_in_nI (by omega) (by omega)
  unfold wpX_execute
  refine lx_pos hj (by omega) (br_f (by decide) ⟨I, ?_⟩)
  rw [nI_clamp (show j < 2 ^ 31 by omega)]
  rcases e with ⟨e1, ea, er, eV⟩ | ⟨e1, e2, ea, er, eV⟩ | ⟨e1, e2, e3, ea, er, eV⟩ | ⟨e1, e2, e3, e4, ea, er, eV⟩ | ⟨e1, e2, e3, e4, e5, ea, er, eV⟩ | ⟨e1, e2, e3, e4, e5, ea, er, eV⟩
  all_goals rw [ea, er, eV] at hp
  · exact pk_eq (k j) 1 (fun z => hp) (fun z => absurd e1 z)
  · exact pk_eq (k j) 1 (fun z => absurd z e1) (fun z => ⟨I, pk_eq (r j) 0 (fun y => absurd e2 (by omega)) (fun y => hp)⟩)
  · refine pk_eq (k j) 1 (fun z => absurd z e1) (fun z => ⟨I, pk_eq (r j) 0 (fun y => ⟨I, br_t ?_ hp⟩) (fun y => absurd e2 (by omega))⟩)
    rw [w3, if_neg e3]
  all_goals
    have a1 : ¬ A j = -1 := by
      rw [w3, if_pos e3]
      exact lq_m1 (by have := w2 e3; omega)
    refine pk_eq (k j) 1 (fun z => absurd z e1) (fun z => ⟨I, pk_eq (r j) 0 (fun y => ⟨I, br_f a1 ?_⟩) (fun y => absurd e2 (by omega))⟩)
  · exact lx_waits h' hj (fun _ => br_f (by decide) hp) (fun n => absurd e4 n)
  · exact lx_waits h' hj (fun n => absurd n e4) (fun _ => br_t rfl (lx_lacks h' hj e3 (fun _ => br_f (by decide) hp) (fun n => absurd e5 n)))
  · have ar : ∀ x, x < s j → lq_ar k s r kn ad (ad j + x) j := fun x hx => Classical.byContradiction (fun n => e5 ⟨x, hx, n⟩)
    refine lx_waits h' hj (fun n => absurd n e4) (fun _ => br_t rfl (lx_lacks h' hj e3 (fun n => absurd n e5) (fun _ => br_t rfl (lx_gather h' hj e3 ar ⟨I, nm_e ⟨I, nm_r ?_ hp⟩⟩))))
    exact lq_upd r j 1
/-- executeReady from position i on -/
def lq_ER (k p s kn ad : Nat → Nat) (D : Nat → Int32) (base : Nat → Nat) (st : Nat → Int32) : Nat → Nat → (Nat → Nat) → (Nat → Int64) → Nat → (Nat → Nat) → (Nat → Int64) → Prop
  | 0, _, r, V, n, r', V' => n = 0 ∧ r' = r ∧ V' = V
  | d + 1, i, r, V, n, r', V' => ∃ ans r1 V1 n1, lq_EX k p s r kn ad V D base st i ans r1 V1 ∧ lq_ER k p s kn ad D base st d (i + 1) r1 V1 n1 r' V' ∧ ((ans = 0 ∧ n = n1 + 1) ∨ (ans ≠ 0 ∧ n = n1))
theorem lq_ERex (k p s kn ad : Nat → Nat) (D : Nat → Int32) (base : Nat → Nat) (st : Nat → Int32) : ∀ d i r V, ∃ n r' V', n ≤ d ∧ lq_ER k p s kn ad D base st d i r V n r' V'
  | 0, _, r, V => ⟨0, r, V, Nat.le_refl _, rfl, rfl, rfl⟩
  | d + 1, i, r, V => by
    obtain ⟨ans, r1, V1, e⟩ := lq_EXex k p s r kn ad V D base st i
    obtain ⟨n1, r', V', hn, e2⟩ := lq_ERex k p s kn ad D base st d (i + 1) r1 V1
    by_cases z : ans = 0
    · exact ⟨n1 + 1, r', V', by omega, ans, r1, V1, n1, e, e2, Or.inl ⟨z, rfl⟩⟩
    · exact ⟨n1, r', V', by omega, ans, r1, V1, n1, e, e2, Or.inr ⟨z, rfl⟩⟩
theorem lq_XIer {d : Nat} : ∀ {i : Nat} {r : Nat → Nat} {V : Nat → Int64} {n : Nat} {r' : Nat → Nat} {V' : Nat → Int64}, lq_XI w b m c q k p s r kn ad A V D bs ba BV BD ce → lq_ER k p s kn ad D (fun a => lq_mb bs ba BD ce a q) st d i r V n r' V' → lq_XI w b m c q k p s r' kn ad A V' D bs ba BV BD ce := by
  induction d with
  | zero =>
    intro i r V n r' V' h ⟨_, e1, e2⟩
    rw [e1, e2]
    exact h
  | succ d ih =>
    intro i r V n r' V' h ⟨ans, r1, V1, n1, e1, e2, _⟩
    exact ih (lq_XIex h e1) e2
theorem lx_er4 {post : Int32 → St2 → Prop} : ∀ d i fu {r : Nat → Nat} {V : Nat → Int64} {n n0 : Nat} {r' : Nat → Nat} {V' : Nat → Int64}, lq_XI w b m c q k p s r kn ad A V D bs ba BV BD ce → lq_ER k p s kn ad D (fun a => lq_mb bs ba BD ce a q) st d i r V n r' V' → i + d = c → d < fu → post (nI (n0 + n)) (nI w, nI b, nI m, nI c, nI q, (fun i => nI (k i)), (fun i => nI (p i)), (fun i => nI (s i)), A, (fun iz => nI (r' iz)), V', (fun i => nI (bs i)), (fun i => nI (ba i)), BV, (fun i => nI (ce i)), st) → wX_executeReady_4 post fu (nI n0) (nI i) (nI w) (nI b) (nI m) (nI c) (nI q) (fun i => nI (k i)) (fun i => nI (p i)) (fun i => nI (s i)) A (fun i => nI (r i)) V (fun i => nI (bs i)) (fun i => nI (ba i)) BV (fun i => nI (ce i)) st := by
  intro d
  induction d with
  | zero =>
    intro i fu r V n n0 r' V' h ⟨e0, e1, e2⟩ hi hd hp
    subst e0 e1 e2
    obtain ⟨fu, rfl⟩ : ∃ t, fu = t + 1 := ⟨fu - 1, by omega⟩
    have := h.1
    exact br_t (nI_le (by omega) (by omega)) hp
  | succ d ih =>
    intro i fu r V n n0 r' V' h ⟨ans, r1, V1, n1, e1, e2, e3⟩ hi hd hp
    obtain ⟨fu, rfl⟩ : ∃ t, fu = t + 1 := ⟨fu - 1, by omega⟩
    have := h.1
    refine br_f (nI_ge (by omega) (by omega)) (lx_exec h (by omega) e1 ?_)
    rcases e3 with ⟨z, e3⟩ | ⟨z, e3⟩
    · refine br_t z (nm_r (nI_1 n0) (nm_r (nI_1 i) (ih (i + 1) fu (n0 := n0 + 1) (lq_XIex h e1) e2 (by omega) (by omega) ?_)))
      rw [show n0 + 1 + n1 = n0 + n by omega]
      exact hp
    · refine br_f z (nm_r (nI_1 i) (ih (i + 1) fu (n0 := n0) (lq_XIex h e1) e2 (by omega) (by omega) ?_))
      rw [← e3]
      exact hp
theorem lx_er (h : lq_XI w b m c q k p s r kn ad A V D bs ba BV BD ce) {n : Nat} {r' : Nat → Nat} {V' : Nat → Int64} (e : lq_ER k p s kn ad D (fun a => lq_mb bs ba BD ce a q) st c 0 r V n r' V') {post : Int32 → St2 → Prop} (hp : post (nI n) (nI w, nI b, nI m, nI c, nI q, (fun i => nI (k i)), (fun i => nI (p i)), (fun i => nI (s i)), A, (fun iz => nI (r' iz)), V', (fun i => nI (bs i)), (fun i => nI (ba i)), BV, (fun i => nI (ce i)), st)) : wpX_executeReady post (nI w, nI b, nI m, nI c, nI q, (fun i => nI (k i)), (fun i => nI (p i)), (fun i => nI (s i)), A, (fun i => nI (r i)), V, (fun i => nI (bs i)), (fun i => nI (ba i)), BV, (fun i => nI (ce i)), st) := by
  unfold wpX_executeReady
  refine ⟨c + 1, lx_er4 c 0 (c + 1) (n0 := 0) h e (by omega) (by omega) ?_⟩
  rw [Nat.zero_add]
  exact hp
theorem lx_disc {j : Nat} (hj : j < c) (hc : c ≤ 32) {post : Int32 → St2 → Prop} (hp : post (nI (c - j)) (nI w, nI b, nI m, nI j, nI q, (fun i => nI (k i)), (fun i => nI (p i)), (fun i => nI (s i)), A, (fun i => nI (r i)), V, (fun i => nI (bs i)), (fun i => nI (ba i)), BV, (fun i => nI (ce i)), st)) : wpX_discard post (nI w, nI b, nI m, nI c, nI q, (fun i => nI (k i)), (fun i => nI (p i)), (fun i => nI (s i)), A, (fun i => nI (r i)), V, (fun i => nI (bs i)), (fun i => nI (ba i)), BV, (fun i => nI (ce i)), st) (nI j) := by
  unfold wpX_discard
  exact lx_pos hj hc (br_f (by decide) (nm_r (pk_sub (by omega)) hp))
end

