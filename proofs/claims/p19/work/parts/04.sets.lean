/-! the sets: names on one side, pairs on the other -/
theorem lq_m1 {n : Nat} (h : n < 2 ^ 31) : nI n ≠ -1 := by
  intro e
  have := congrArg Int32.toInt e
  rw [nI_toInt h, show (-1 : Int32).toInt = -1 from by decide] at this
  omega
def lq_S4 (st : Nat → Int32) : Prop := ∀ x, x < 16 → st x = -1 ∨ ∃ n, n < 16 ∧ st x = nI n ∧ st n = nI n
def lq_S (st : Nat → Int32) (pr : Nat → Nat) : Prop :=
  (∀ x y, x < 16 → y < 16 → pr (16 * x + y) = 1 → st x ≠ -1 ∧ st x = st y) ∧
  (∀ Q : Nat → Prop, (∀ x y, x < 16 → y < 16 → pr (16 * x + y) = 1 → Q x → Q y) → ∀ x y, x < 16 → y < 16 → st x ≠ -1 → st x = st y → Q x → Q y) ∧
  (∀ x, x < 16 → st x ≠ -1 → ∃ y, y < 16 ∧ pr (16 * x + y) = 1) ∧ lq_S4 st
def lq_nm (st : Nat → Int32) (a : Nat) : Nat → Int32 := if st a = -1 then upd st a (nI a) else st
theorem lq_nm0 {st : Nat → Int32} {a x : Nat} (h : st x ≠ -1) : lq_nm st a x = st x := by
  unfold lq_nm
  split
  · rename_i z
    exact pk_un (fun e => h (by rw [e]; exact z))
  · rfl
theorem lq_nm1 {st : Nat → Int32} {a : Nat} (ha : a < 16) : lq_nm st a a ≠ -1 := by
  unfold lq_nm
  split
  · rw [pk_us]
    exact lq_m1 (by omega)
  · assumption
theorem lq_nm2 {st : Nat → Int32} {a x : Nat} (h : st x = -1) (hx : x ≠ a) : lq_nm st a x = -1 := by
  unfold lq_nm
  split
  · rw [pk_un hx]
    exact h
  · exact h
theorem lq_nm3 {st : Nat → Int32} {a : Nat} (ha : a < 16) (h4 : lq_S4 st) : lq_S4 (lq_nm st a) := by
  intro x hx
  by_cases z : st a = -1
  · by_cases e : x = a
    · subst e
      refine Or.inr ⟨x, hx, ?_, ?_⟩ <;> (unfold lq_nm; rw [if_pos z, pk_us])
    · rcases h4 x hx with h | ⟨n, hn, h1, h2⟩
      · exact Or.inl (lq_nm2 h e)
      · refine Or.inr ⟨n, hn, ?_, ?_⟩
        · rw [lq_nm0 (by rw [h1]; exact lq_m1 (by omega)), h1]
        · rw [lq_nm0 (by rw [h2]; exact lq_m1 (by omega)), h2]
  · unfold lq_nm
    rw [if_neg z]
    exact h4 x hx
theorem lq_nm4 {st : Nat → Int32} {a x y : Nat} (ha : a < 16) (hy : y < 16) (h4 : lq_S4 st) (hx : st x = -1) (h : lq_nm st a x ≠ -1) (e : lq_nm st a x = lq_nm st a y) : x = y := by
  by_cases xa : x = a
  · subst xa
    by_cases ya : y = x
    · exact ya.symm
    · have e1 : lq_nm st x x = nI x := by
        unfold lq_nm
        rw [if_pos hx, pk_us]
      have e2 : lq_nm st x y = st y := by
        unfold lq_nm
        rw [if_pos hx, pk_un ya]
      rw [e1, e2] at e
      rcases h4 y hy with h5 | ⟨n, hn, h1, h2⟩
      · exact absurd (e.trans h5) (lq_m1 (by omega))
      · rw [h1, nI_eq (by omega) (by omega)] at e
        subst e
        rw [hx] at h2
        exact absurd h2.symm (lq_m1 (by omega))
  · exact absurd (lq_nm2 hx xa) h
def lq_mg (t : Nat → Int32) (kept merged : Int32) (n : Nat) : Nat → Int32 := fun x => if x < n ∧ t x = merged then kept else t x
theorem lq_mg0 (t : Nat → Int32) (kept merged : Int32) : lq_mg t kept merged 0 = t := by
  funext x
  exact if_neg (fun h => by omega)
theorem lq_mgs (t : Nat → Int32) (kept merged : Int32) (n : Nat) : lq_mg t kept merged n n = t n := if_neg (fun h => by omega)
theorem lq_mg1 (t : Nat → Int32) (kept merged : Int32) (n : Nat) (h : t n = merged) : upd (lq_mg t kept merged n) n kept = lq_mg t kept merged (n + 1) := by
  funext x
  unfold upd lq_mg
  by_cases e : x = n
  · subst e
    rw [if_pos rfl, if_pos ⟨by omega, h⟩]
  · rw [if_neg e]
    by_cases z : x < n ∧ t x = merged
    · rw [if_pos z, if_pos ⟨by omega, z.2⟩]
    · rw [if_neg z, if_neg (fun y => z ⟨by omega, y.2⟩)]
theorem lq_mg2 (t : Nat → Int32) (kept merged : Int32) (n : Nat) (h : t n ≠ merged) : lq_mg t kept merged n = lq_mg t kept merged (n + 1) := by
  funext x
  unfold lq_mg
  by_cases z : x < n ∧ t x = merged
  · rw [if_pos z, if_pos ⟨by omega, z.2⟩]
  · rw [if_neg z, if_neg]
    intro y
    by_cases e : x = n
    · subst e
      exact h y.2
    · exact z ⟨by omega, y.2⟩
def lq_t (st : Nat → Int32) (a b : Nat) : Nat → Int32 := lq_nm (lq_nm st a) b
def lq_rp (st : Nat → Int32) (a b : Nat) : Nat → Int32 := lq_mg (lq_t st a b) (lq_t st a b a) (lq_t st a b b) 16
def lq_pp (pr : Nat → Nat) (a b : Nat) : Nat → Nat := lq_un (lq_un pr (16 * a + b) 1) (16 * b + a) 1
theorem lq_pp_old {pr : Nat → Nat} {a b n : Nat} (h : pr n = 1) : lq_pp pr a b n = 1 := by
  unfold lq_pp lq_un
  split
  · rfl
  · split
    · rfl
    · exact h
theorem lq_pp_ab (pr : Nat → Nat) (a b : Nat) : lq_pp pr a b (16 * a + b) = 1 := by
  unfold lq_pp lq_un
  split
  · rfl
  · exact if_pos rfl
theorem lq_pp_ba (pr : Nat → Nat) (a b : Nat) : lq_pp pr a b (16 * b + a) = 1 := by
  unfold lq_pp lq_un
  exact if_pos rfl
theorem lq_pp_inv {pr : Nat → Nat} {a b x y : Nat} (ha : a < 16) (hb : b < 16) (hx : x < 16) (hy : y < 16) (h : lq_pp pr a b (16 * x + y) = 1) : pr (16 * x + y) = 1 ∨ (x = a ∧ y = b) ∨ (x = b ∧ y = a) := by
  unfold lq_pp lq_un at h
  by_cases z : 16 * x + y = 16 * b + a
  · exact Or.inr (Or.inr ⟨by omega, by omega⟩)
  · rw [if_neg z] at h
    by_cases w : 16 * x + y = 16 * a + b
    · exact Or.inr (Or.inl ⟨by omega, by omega⟩)
    · rw [if_neg w] at h
      exact Or.inl h
theorem lq_pp_le {pr : Nat → Nat} {a b : Nat} (h : ∀ i, pr i ≤ 1) (i : Nat) : lq_pp pr a b i ≤ 1 := by
  unfold lq_pp lq_un
  split
  · omega
  · split
    · omega
    · exact h i
theorem lq_rp_S {st : Nat → Int32} {pr : Nat → Nat} {a b : Nat} (ha : a < 16) (hb : b < 16) (h : lq_S st pr) : lq_S (lq_rp st a b) (lq_pp pr a b) := by
  obtain ⟨h1, h2, h3, h4⟩ := h
  have n4 := lq_nm3 ha h4
  have t0 : ∀ x, st x ≠ -1 → lq_t st a b x = st x := fun x hx => by
    unfold lq_t
    rw [lq_nm0 (by rw [lq_nm0 hx]; exact hx), lq_nm0 hx]
  have ta : lq_t st a b a ≠ -1 := by
    unfold lq_t
    rw [lq_nm0 (lq_nm1 ha)]
    exact lq_nm1 ha
  have tb : lq_t st a b b ≠ -1 := lq_nm1 hb
  have t2 : ∀ x, st x = -1 → x ≠ a → x ≠ b → lq_t st a b x = -1 := fun x hx xa xb => lq_nm2 (lq_nm2 hx xa) xb
  have t3 : lq_S4 (lq_t st a b) := lq_nm3 hb n4
  have t4 : ∀ x y, x < 16 → y < 16 → st x = -1 → lq_t st a b x ≠ -1 → lq_t st a b x = lq_t st a b y → x = y := by
    intro x y hx hy sx tx e
    by_cases z : lq_nm st a x = -1
    · exact lq_nm4 hb hy n4 z tx e
    · have ex : lq_t st a b x = lq_nm st a x := lq_nm0 z
      by_cases w : lq_nm st a y = -1
      · exact (lq_nm4 hb hx n4 w (by rw [e] at tx; exact tx) e.symm).symm
      · have ey : lq_t st a b y = lq_nm st a y := lq_nm0 w
        rw [ex, ey] at e
        exact lq_nm4 ha hy h4 sx z e
  unfold lq_rp
  generalize lq_t st a b = t at *
  have g : ∀ x, x < 16 → lq_mg t (t a) (t b) 16 x = if t x = t b then t a else t x := fun x hx => by
    unfold lq_mg
    by_cases z : t x = t b
    · rw [if_pos ⟨hx, z⟩, if_pos z]
    · rw [if_neg (fun y => z y.2), if_neg z]
  have g0 : ∀ x, x < 16 → (lq_mg t (t a) (t b) 16 x ≠ -1 ↔ t x ≠ -1) := fun x hx => by
    rw [g x hx]
    by_cases z : t x = t b
    · rw [if_pos z, z]
      exact ⟨fun _ => tb, fun _ => ta⟩
    · rw [if_neg z]
  have gab : lq_mg t (t a) (t b) 16 a = lq_mg t (t a) (t b) 16 b := by
    rw [g a ha, g b hb, if_pos rfl]
    split <;> rfl
  refine ⟨?_, ?_, ?_, ?_⟩
  · intro x y hx hy hp
    rcases lq_pp_inv ha hb hx hy hp with hp | ⟨rfl, rfl⟩ | ⟨rfl, rfl⟩
    · obtain ⟨i1, i2⟩ := h1 x y hx hy hp
      have i3 : st y ≠ -1 := by rw [← i2]; exact i1
      refine ⟨(g0 x hx).mpr (by rw [t0 x i1]; exact i1), ?_⟩
      rw [g x hx, g y hy, t0 x i1, t0 y i3, i2]
    · exact ⟨(g0 x hx).mpr ta, gab⟩
    · exact ⟨(g0 x hx).mpr tb, gab.symm⟩
  · intro Q hQ x y hx hy hn he hq
    have Qold : ∀ x y, x < 16 → y < 16 → pr (16 * x + y) = 1 → Q x → Q y := fun x y hx hy hp => hQ x y hx hy (lq_pp_old hp)
    have Qab : Q a → Q b := hQ a b ha hb (lq_pp_ab pr a b)
    have Qba : Q b → Q a := hQ b a hb ha (lq_pp_ba pr a b)
    have L : ∀ x y, x < 16 → y < 16 → t x ≠ -1 → t x = t y → Q x → Q y := by
      intro x y hx hy tx e q
      by_cases sx : st x = -1
      · rw [← t4 x y hx hy sx tx e]
        exact q
      · by_cases sy : st y = -1
        · rw [t4 y x hy hx sy (by rw [← e]; exact tx) e.symm]
          exact q
        · rw [t0 x sx, t0 y sy] at e
          exact h2 Q Qold x y hx hy sx e q
    have tx := (g0 x hx).mp hn
    rw [g x hx, g y hy] at he
    by_cases zx : t x = t b
    · by_cases zy : t y = t b
      · exact L x y hx hy tx (zx.trans zy.symm) hq
      · rw [if_pos zx, if_neg zy] at he
        exact L a y ha hy ta he (Qba (L x b hx hb tx zx hq))
    · by_cases zy : t y = t b
      · rw [if_neg zx, if_pos zy] at he
        exact L b y hb hy tb zy.symm (Qab (L x a hx ha tx he hq))
      · rw [if_neg zx, if_neg zy] at he
        exact L x y hx hy tx he hq
  · intro x hx hn
    have tx := (g0 x hx).mp hn
    by_cases sx : st x = -1
    · by_cases xa : x = a
      · exact ⟨b, hb, by rw [xa]; exact lq_pp_ab pr a b⟩
      · by_cases xb : x = b
        · exact ⟨a, ha, by rw [xb]; exact lq_pp_ba pr a b⟩
        · exact absurd (t2 x sx xa xb) tx
    · obtain ⟨y, hy, hp⟩ := h3 x hx sx
      exact ⟨y, hy, lq_pp_old hp⟩
  · intro x hx
    by_cases z : t x = t b
    · rcases t3 a ha with h5 | ⟨n, hn, e1, e2⟩
      · exact absurd h5 ta
      · refine Or.inr ⟨n, hn, by rw [g x hx, if_pos z, e1], ?_⟩
        rw [g n hn]
        split
        · exact e1
        · exact e2
    · rcases t3 x hx with h5 | ⟨n, hn, e1, e2⟩
      · exact Or.inl (by rw [g x hx, if_neg z, h5])
      · refine Or.inr ⟨n, hn, by rw [g x hx, if_neg z, e1], ?_⟩
        rw [g n hn, if_neg (by rw [e2, ← e1]; exact z), e2]
theorem lq_S0 {st : Nat → Int32} {pr : Nat → Nat} (hs : ∀ x, x < 16 → st x = -1) (hp : ∀ i, i < 256 → pr i = 0) : lq_S st pr := by
  refine ⟨?_, ?_, ?_, ?_⟩
  · intro x y hx hy h
    rw [hp _ (by omega)] at h
    cases h
  · intro Q _ x y hx _ hn
    exact absurd (hs x hx) hn
  · intro x hx hn
    exact absurd (hs x hx) hn
  · intro x hx
    exact Or.inl (hs x hx)
/-! the sweep over the pairs -/
def lq_sw (pr rc : Nat → Nat) : Nat → (Nat → Nat)
  | 0 => rc
  | n + 1 => if lq_sw pr rc n (n / 16) = 1 ∧ pr n = 1 then lq_un (lq_sw pr rc n) (n % 16) 1 else lq_sw pr rc n
def lq_it (pr rc : Nat → Nat) : Nat → (Nat → Nat)
  | 0 => rc
  | n + 1 => lq_sw pr (lq_it pr rc n) 256
theorem lq_sw1 {pr rc : Nat → Nat} {n i : Nat} (h : lq_sw pr rc n i = 1) : lq_sw pr rc (n + 1) i = 1 := by
  unfold lq_sw
  split
  · unfold lq_un
    split
    · rfl
    · exact h
  · exact h
theorem lq_sw2 {pr rc : Nat → Nat} {n i : Nat} (h : lq_sw pr rc n i = 1) : ∀ d, lq_sw pr rc (n + d) i = 1
  | 0 => h
  | d + 1 => lq_sw1 (lq_sw2 h d)
theorem lq_swle {pr rc : Nat → Nat} (h : ∀ i, rc i ≤ 1) : ∀ n i, lq_sw pr rc n i ≤ 1
  | 0, i => h i
  | n + 1, i => by
    unfold lq_sw
    split
    · unfold lq_un
      split
      · omega
      · exact lq_swle h n i
    · exact lq_swle h n i
theorem lq_itle {pr rc : Nat → Nat} (h : ∀ i, rc i ≤ 1) : ∀ n i, lq_it pr rc n i ≤ 1
  | 0, i => h i
  | n + 1, i => lq_swle (lq_itle h n) 256 i
theorem lq_it1 {pr rc : Nat → Nat} {i : Nat} (h : rc i = 1) : ∀ n, lq_it pr rc n i = 1
  | 0 => h
  | n + 1 => by
    have := lq_sw2 (pr := pr) (rc := lq_it pr rc n) (n := 0) (i := i) (lq_it1 h n) 256
    exact this
theorem lq_swS {pr rc : Nat → Nat} {R : Nat → Prop} (hr : ∀ i, i < 16 → rc i = 1 → R i) (hp : ∀ x y, x < 16 → y < 16 → pr (16 * x + y) = 1 → R x → R y) : ∀ n, n ≤ 256 → ∀ i, i < 16 → lq_sw pr rc n i = 1 → R i
  | 0, _, i, hi, h => hr i hi h
  | n + 1, hn, i, hi, h => by
    unfold lq_sw at h
    by_cases z : lq_sw pr rc n (n / 16) = 1 ∧ pr n = 1
    · rw [if_pos z] at h
      by_cases e : i = n % 16
      · have r1 := lq_swS hr hp n (by omega) (n / 16) (by omega) z.1
        rw [e]
        exact hp (n / 16) (n % 16) (by omega) (by omega) (by rw [show 16 * (n / 16) + n % 16 = n by omega]; exact z.2) r1
      · rw [lq_ui e] at h
        exact lq_swS hr hp n (by omega) i hi h
    · rw [if_neg z] at h
      exact lq_swS hr hp n (by omega) i hi h
theorem lq_itS {pr rc : Nat → Nat} {R : Nat → Prop} (hr : ∀ i, i < 16 → rc i = 1 → R i) (hp : ∀ x y, x < 16 → y < 16 → pr (16 * x + y) = 1 → R x → R y) (n : Nat) : ∀ i, i < 16 → lq_it pr rc n i = 1 → R i := by
  induction n with
  | zero => exact hr
  | succ n ih =>
    intro i hi h
    rw [lq_it] at h
    exact lq_swS ih hp 256 (Nat.le_refl _) i hi h
def lq_Cl (pr rc : Nat → Nat) : Prop := ∀ x y, x < 16 → y < 16 → pr (16 * x + y) = 1 → rc x = 1 → rc y = 1
theorem lq_swC {pr rc : Nat → Nat} (h : lq_Cl pr rc) : ∀ n, n ≤ 256 → lq_sw pr rc n = rc
  | 0, _ => rfl
  | n + 1, hn => by
    unfold lq_sw
    rw [lq_swC h n (by omega)]
    split
    · rename_i z
      have e : rc (n % 16) = 1 := h (n / 16) (n % 16) (by omega) (by omega) (by rw [show 16 * (n / 16) + n % 16 = n by omega]; exact z.2) z.1
      funext i
      unfold lq_un
      split
      · rename_i w
        rw [w, e]
      · rfl
    · rfl
def lq_cn (f : Nat → Nat) : Nat → Nat
  | 0 => 0
  | n + 1 => lq_cn f n + f n
theorem lq_cnle {f g : Nat → Nat} (h : ∀ i, f i ≤ g i) : ∀ n, lq_cn f n ≤ lq_cn g n
  | 0 => Nat.le_refl _
  | n + 1 => Nat.add_le_add (lq_cnle h n) (h n)
theorem lq_cnlt {f g : Nat → Nat} (h : ∀ i, f i ≤ g i) {y : Nat} (hy : f y < g y) : ∀ n, y < n → lq_cn f n < lq_cn g n
  | 0, hn => by omega
  | n + 1, hn => by
    show lq_cn f n + f n < lq_cn g n + g n
    have h0 := h n
    by_cases e : y = n
    · have h1 := lq_cnle h n
      rw [e] at hy
      omega
    · have h1 := lq_cnlt h hy n (by omega)
      omega
theorem lq_cnall {f : Nat → Nat} (h : ∀ i, f i ≤ 1) : ∀ n, lq_cn f n ≤ n ∧ (n ≤ lq_cn f n → ∀ i, i < n → f i = 1)
  | 0 => ⟨Nat.le_refl _, fun _ i hi => by omega⟩
  | n + 1 => by
    have ih := lq_cnall h n
    have h0 := h n
    have e : lq_cn f (n + 1) = lq_cn f n + f n := rfl
    refine ⟨by omega, fun hn i hi => ?_⟩
    by_cases z : i = n
    · rw [z]; omega
    · exact ih.2 (by omega) i (by omega)
theorem lq_itC {pr rc : Nat → Nat} (hr : ∀ i, rc i ≤ 1) : ∀ n, lq_Cl pr (lq_it pr rc n) ∨ n ≤ lq_cn (lq_it pr rc n) 16
  | 0 => Or.inr (Nat.zero_le _)
  | n + 1 => by
    have le1 := lq_itle (pr := pr) hr n
    have le2 := lq_itle (pr := pr) hr (n + 1)
    by_cases c : lq_Cl pr (lq_it pr rc n)
    · left
      show lq_Cl pr (lq_sw pr (lq_it pr rc n) 256)
      rw [lq_swC c 256 (by omega)]
      exact c
    · rcases lq_itC hr n with c' | hc
      · exact absurd c' c
      · right
        have mono : ∀ i, lq_it pr rc n i = 1 → lq_it pr rc (n + 1) i = 1 := fun i hi => lq_sw2 (pr := pr) (rc := lq_it pr rc n) (n := 0) hi 256
        have hle : ∀ i, lq_it pr rc n i ≤ lq_it pr rc (n + 1) i := fun i => by
          have a1 := le1 i
          have a2 := mono i
          omega
        have : ∃ y, y < 16 ∧ lq_it pr rc n y < lq_it pr rc (n + 1) y := by
          apply Classical.byContradiction
          intro no
          apply c
          intro x y hx hy hp hx1
          have a1 := le1 y
          have : lq_it pr rc (n + 1) y = 1 := by
            have s1 : lq_sw pr (lq_it pr rc n) (16 * x + y) x = 1 := by
              have := lq_sw2 (pr := pr) (rc := lq_it pr rc n) (n := 0) (i := x) hx1 (16 * x + y)
              rw [Nat.zero_add] at this
              exact this
            have s2 : lq_sw pr (lq_it pr rc n) (16 * x + y + 1) y = 1 := by
              unfold lq_sw
              rw [show (16 * x + y) / 16 = x by omega, show (16 * x + y) % 16 = y by omega, if_pos ⟨s1, hp⟩]
              exact lq_us
            have s3 := lq_sw2 s2 (256 - (16 * x + y + 1))
            rw [show 16 * x + y + 1 + (256 - (16 * x + y + 1)) = 256 by omega] at s3
            exact s3
          apply Classical.byContradiction
          intro ny
          exact no ⟨y, hy, by omega⟩
        obtain ⟨y, hy, hlt⟩ := this
        have := lq_cnlt hle hlt 16 hy
        omega
/-- what the sweep finds from a is what bears a's name -/
theorem lq_reach {st : Nat → Int32} {pr rc : Nat → Nat} {a b : Nat} (h : lq_S st pr) (ha : a < 16) (hb : b < 16) (hr : ∀ i, rc i ≤ 1) (hrc : ∀ x, x < 16 → rc x = pr (16 * a + x)) : lq_it pr rc 16 b = 1 ↔ (st a ≠ -1 ∧ st a = st b) := by
  obtain ⟨h1, h2, h3, h4⟩ := h
  constructor
  · intro hit
    exact lq_itS (R := fun i => st a ≠ -1 ∧ st a = st i) (fun i hi e => h1 a i ha hi (by rw [← hrc i hi]; exact e)) (fun x y hx hy hp hR => ⟨hR.1, hR.2.trans (h1 x y hx hy hp).2⟩) 16 b hb hit
  · intro hab
    have cl : lq_Cl pr (lq_it pr rc 16) := by
      rcases lq_itC (pr := pr) hr 16 with c | c
      · exact c
      · intro x y hx hy _ _
        exact (lq_cnall (lq_itle hr 16) 16).2 c y hy
    obtain ⟨y, hy, hp⟩ := h3 a ha hab.1
    have e := h1 a y ha hy hp
    have hy1 : lq_it pr rc 16 y = 1 := lq_it1 (by rw [hrc y hy]; exact hp) 16
    exact h2 (fun i => lq_it pr rc 16 i = 1) cl y b hy hb (by rw [← e.2]; exact e.1) (e.2.symm.trans hab.2) hy1
