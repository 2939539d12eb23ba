/-! words of up to 3 letters suffice for 5 states: states that they don't set apart have arrows to such states *)-/
/-- the letter l ahead of the word w -/
def pre (l w : Nat) : Nat := if h : w ≤ 1 then 2 + l else 2 * pre l (w / 2) + w % 2
termination_by w
decreasing_by omega
theorem pre_1 (l : Nat) {w : Nat} (h : w ≤ 1) : pre l w = 2 + l := by rw [pre, dif_pos h]
theorem pre_2 (l : Nat) {w : Nat} (h : 2 ≤ w) : pre l w = 2 * pre l (w / 2) + w % 2 := by rw [pre, dif_neg (by omega)]
theorem pre_ge (l : Nat) : ∀ k w, w ≤ k → 2 ≤ pre l w := by
  intro k
  induction k with
  | zero => intro w hw; rw [pre_1 l (by omega)]; omega
  | succ k ih =>
    intro w hw
    by_cases h : w ≤ 1
    · rw [pre_1 l h]; omega
    · rw [pre_2 l (by omega)]
      have := ih (w / 2) (by omega)
      omega
theorem pre_lt {l : Nat} (hl : l < 2) : ∀ n w, w < 2 ^ (n + 1) → pre l w < 2 ^ (n + 2) := by
  intro n
  induction n with
  | zero => intro w hw; rw [pre_1 l (by omega)]; omega
  | succ n ih =>
    intro w hw
    by_cases h : w ≤ 1
    · rw [pre_1 l h]
      have : 2 ^ (n + 1 + 2) = 2 ^ n * 8 := by rw [Nat.pow_succ, Nat.pow_succ, Nat.pow_succ]; omega
      have := Nat.one_le_two_pow (n := n)
      omega
    · rw [pre_2 l (by omega)]
      have := ih (w / 2) (by rw [Nat.pow_succ] at hw; omega)
      rw [Nat.pow_succ]
      omega
theorem ld_pre (to : Nat → Nat) (s l : Nat) (hl : l < 2) : ∀ k w, w ≤ k → ld to (to (2 * s + l)) w = ld to s (pre l w) := by
  intro k
  induction k with
  | zero =>
    intro w hw
    rw [ld_1 _ _ (by omega), pre_1 l (by omega), ld_2 _ _ (by omega), ld_1 _ _ (by omega), show (2 + l) % 2 = l by omega]
  | succ k ih =>
    intro w hw
    by_cases h : w ≤ 1
    · rw [ld_1 _ _ h, pre_1 l h, ld_2 _ _ (by omega), ld_1 _ _ (by omega), show (2 + l) % 2 = l by omega]
    · have hg := pre_ge l (w / 2) (w / 2) (Nat.le_refl _)
      rw [ld_2 to (to (2 * s + l)) (w := w) (by omega), ih (w / 2) (by omega), pre_2 l (w := w) (by omega), ld_2 to s (w := 2 * pre l (w / 2) + w % 2) (by omega), show (2 * pre l (w / 2) + w % 2) / 2 = pre l (w / 2) by omega, show (2 * pre l (w / 2) + w % 2) % 2 = w % 2 by omega]
theorem pre_inv : ∀ n w, 2 ≤ w → w < 2 ^ (n + 2) → ∃ l v, l < 2 ∧ 1 ≤ v ∧ v < 2 ^ (n + 1) ∧ w = pre l v := by
  intro n
  induction n with
  | zero => intro w h1 h2; exact ⟨w - 2, 1, by omega, by omega, by omega, by rw [pre_1 _ (Nat.le_refl 1)]; omega⟩
  | succ n ih =>
    intro w h1 h2
    by_cases h : w < 4
    · refine ⟨w - 2, 1, by omega, by omega, ?_, by rw [pre_1 _ (Nat.le_refl 1)]; omega⟩
      have := Nat.one_le_two_pow (n := n)
      rw [Nat.pow_succ, Nat.pow_succ]
      omega
    · obtain ⟨l, v, a, b, c, d⟩ := ih (w / 2) (by omega) (by rw [Nat.pow_succ] at h2; omega)
      refine ⟨l, 2 * v + w % 2, a, by omega, by rw [Nat.pow_succ]; omega, ?_⟩
      rw [pre_2 _ (by omega), show (2 * v + w % 2) / 2 = v by omega, ← d]
      omega
section MO
variable (gd : Nat → Bool) (to : Nat → Nat)
/-- not set apart by words of up to n letters -/
def En (n s t : Nat) : Prop := ∀ w, 1 ≤ w → w < 2 ^ (n + 1) → gd (ld to s w) = gd (ld to t w)
theorem En.rf {n s : Nat} : En gd to n s s := fun _ _ _ => rfl
theorem En.sy {n s t : Nat} (h : En gd to n s t) : En gd to n t s := fun w a b => (h w a b).symm
theorem En.tr {n s t u : Nat} (h : En gd to n s t) (k : En gd to n t u) : En gd to n s u := fun w a b => (h w a b).trans (k w a b)
theorem En.dn {n s t : Nat} (h : En gd to (n + 1) s t) : En gd to n s t := fun w a b => h w a (by rw [Nat.pow_succ]; omega)
theorem En.step {n s t l : Nat} (hl : l < 2) (h : En gd to (n + 1) s t) : En gd to n (to (2 * s + l)) (to (2 * t + l)) := by
  intro w a b
  rw [ld_pre to s l hl w w (Nat.le_refl _), ld_pre to t l hl w w (Nat.le_refl _)]
  have := pre_ge l w w (Nat.le_refl _)
  exact h _ (by omega) (pre_lt hl n w b)
theorem En.up {n s t : Nat} (h0 : gd s = gd t) (h : ∀ l, l < 2 → En gd to n (to (2 * s + l)) (to (2 * t + l))) : En gd to (n + 1) s t := by
  intro w a b
  by_cases q : w ≤ 1
  · rw [ld_1 _ _ q, ld_1 _ _ q]; exact h0
  · obtain ⟨l, v, hl, h1, h2, rfl⟩ := pre_inv n w (by omega) b
    rw [← ld_pre to s l hl v v (Nat.le_refl _), ← ld_pre to t l hl v v (Nat.le_refl _)]
    exact h l hl v h1 h2
theorem En.zero {n s t : Nat} (h : En gd to n s t) : gd s = gd t := by
  have := h 1 (Nat.le_refl _) (by have := Nat.one_le_two_pow (n := n); rw [Nat.pow_succ]; omega)
  rwa [ld_1 _ _ (Nat.le_refl 1), ld_1 _ _ (Nat.le_refl 1)] at this
/-- a pair that only words of n + 1 letters set apart gives such a pair for n -/
theorem En.back {n d : Nat} (ht : ∀ i, i < 2 * d → to i < d) (h : ∃ s t, s < d ∧ t < d ∧ En gd to (n + 1) s t ∧ ¬ En gd to (n + 2) s t) : ∃ s t, s < d ∧ t < d ∧ En gd to n s t ∧ ¬ En gd to (n + 1) s t := by
  obtain ⟨s, t, hs, hT, h1, h2⟩ := h
  by_cases h0 : En gd to (n + 1) (to (2 * s + 0)) (to (2 * t + 0))
  · by_cases h3 : En gd to (n + 1) (to (2 * s + 1)) (to (2 * t + 1))
    · exact absurd (En.up gd to (En.zero gd to h1) (fun l hl => by
        rcases (show l = 0 ∨ l = 1 by omega) with rfl | rfl
        · exact h0
        · exact h3)) h2
    · exact ⟨_, _, ht _ (by omega), ht _ (by omega), En.step gd to (by decide) h1, h3⟩
  · exact ⟨_, _, ht _ (by omega), ht _ (by omega), En.step gd to (by decide) h1, h0⟩
/-- many states that words of n letters set apart, all from all -/
def Sp (n d c : Nat) : Prop := ∃ f : Nat → Nat, (∀ i, i < c → f i < d) ∧ ∀ i j, i < j → j < c → ¬ En gd to n (f i) (f j)
theorem Sp.sep {n d c : Nat} {f : Nat → Nat} (h : ∀ i j, i < j → j < c → ¬ En gd to n (f i) (f j)) {i j : Nat} (hi : i < c) (hj : j < c) (e : En gd to n (f i) (f j)) : i = j := by
  rcases Nat.lt_trichotomy i j with q | q | q
  · exact absurd e (h i j q hj)
  · exact q
  · exact absurd (En.sy gd to e) (h j i q hi)
theorem Sp.le {n d c : Nat} (h : Sp gd to n d c) : c ≤ d := by
  obtain ⟨f, h1, h2⟩ := h
  exact pigeon d c f h1 (fun i j hi hj e => Sp.sep (d := d) gd to h2 hi hj (by rw [e]; exact En.rf gd to))
theorem Sp.grow {n d c : Nat} (h : Sp gd to n d c) {a b : Nat} (ha : a < d) (hb : b < d) (h1 : En gd to n a b) (h2 : ¬ En gd to (n + 1) a b) : Sp gd to (n + 1) d (c + 1) := by
  obtain ⟨f, f1, f2⟩ := h
  by_cases hx : ∃ i, i < c ∧ En gd to n (f i) a
  · obtain ⟨i0, hi0, he⟩ := hx
    refine ⟨fun i => if i = i0 then a else if i = c then b else f i, fun i hi => ?_, fun i j hij hj e => ?_⟩
    · dsimp only
      split
      · exact ha
      · split
        · exact hb
        · exact f1 i (by omega)
    · dsimp only at e
      by_cases q1 : i = i0
      · rw [if_pos q1, if_neg (by omega)] at e
        by_cases q2 : j = c
        · rw [if_pos q2] at e; exact h2 e
        · rw [if_neg q2] at e
          exact f2 i j hij (by omega) (En.tr gd to (by rw [q1]; exact he) (En.dn gd to e))
      · rw [if_neg q1, if_neg (show ¬ i = c by omega)] at e
        by_cases q3 : j = i0
        · rw [if_pos q3] at e
          exact f2 i j hij (by omega) (En.tr gd to (En.dn gd to e) (En.sy gd to (by rw [q3]; exact he)))
        · rw [if_neg q3] at e
          by_cases q2 : j = c
          · rw [if_pos q2] at e
            have := Sp.sep (d := d) gd to f2 (i := i) (j := i0) (by omega) hi0 (En.tr gd to (En.tr gd to (En.dn gd to e) (En.sy gd to h1)) (En.sy gd to he))
            exact q1 this
          · rw [if_neg q2] at e
            exact f2 i j hij (by omega) (En.dn gd to e)
  · refine ⟨fun i => if i = c then a else f i, fun i hi => ?_, fun i j hij hj e => ?_⟩
    · dsimp only
      split
      · exact ha
      · exact f1 i (by omega)
    · dsimp only at e
      rw [if_neg (show ¬ i = c by omega)] at e
      by_cases q2 : j = c
      · rw [if_pos q2] at e
        exact hx ⟨i, by omega, En.dn gd to e⟩
      · rw [if_neg q2] at e
        exact f2 i j hij (by omega) (En.dn gd to e)
/-- THE CONGRUENCE -/
theorem En.more {d s t : Nat} (hd5 : d ≤ 5) (ht : ∀ i, i < 2 * d → to i < d) (hs : s < d) (hT : t < d) (h : En gd to 3 s t) : En gd to 4 s t := by
  apply Classical.byContradiction
  intro h4
  have p3 : ∃ s t, s < d ∧ t < d ∧ En gd to 3 s t ∧ ¬ En gd to 4 s t := ⟨s, t, hs, hT, h, h4⟩
  have p2 := En.back gd to ht p3
  have p1 := En.back gd to ht p2
  have p0 := En.back gd to ht p1
  obtain ⟨a0, b0, ha0, hb0, e0, n0⟩ := p0
  have z : ∃ a b, a < d ∧ b < d ∧ ¬ En gd to 0 a b := by
    by_cases q0 : En gd to 0 (to (2 * a0 + 0)) (to (2 * b0 + 0))
    · by_cases q1 : En gd to 0 (to (2 * a0 + 1)) (to (2 * b0 + 1))
      · exact absurd (En.up gd to (En.zero gd to e0) (fun l hl => by
          rcases (show l = 0 ∨ l = 1 by omega) with rfl | rfl
          · exact q0
          · exact q1)) n0
      · exact ⟨_, _, ht _ (by omega), ht _ (by omega), q1⟩
    · exact ⟨_, _, ht _ (by omega), ht _ (by omega), q0⟩
  obtain ⟨a, b, ha, hb, nz⟩ := z
  have s0 : Sp gd to 0 d 2 := ⟨fun i => if i = 0 then a else b, fun i hi => by dsimp only; split <;> assumption, fun i j hij hj e => by
    have hi0 : i = 0 := by omega
    have hj1 : j = 1 := by omega
    subst hi0 hj1
    exact nz (by simpa using e)⟩
  have s1 := Sp.grow gd to s0 ha0 hb0 e0 n0
  obtain ⟨a1, b1, ha1, hb1, e1, n1⟩ := p1
  have s2 := Sp.grow gd to s1 ha1 hb1 e1 n1
  obtain ⟨a2, b2, ha2, hb2, e2, n2⟩ := p2
  have s3 := Sp.grow gd to s2 ha2 hb2 e2 n2
  obtain ⟨a3, b3, ha3, hb3, e3, n3⟩ := p3
  have s4 := Sp.grow gd to s3 ha3 hb3 e3 n3
  have := Sp.le gd to s4
  omega
theorem En.cong {d s t l : Nat} (hd5 : d ≤ 5) (ht : ∀ i, i < 2 * d → to i < d) (hs : s < d) (hT : t < d) (hl : l < 2) (h : En gd to 3 s t) : En gd to 3 (to (2 * s + l)) (to (2 * t + l)) := En.step gd to hl (En.more gd to hd5 ht hs hT h)
theorem sp_En (s t : Nat) : sp gd to s t = 0 ↔ En gd to 3 s t := by
  constructor
  · intro h w a b
    rcases sp_spec gd to s t with q | q
    · have := q.2 w a b
      rw [df] at this
      simpa using this
    · omega
  · intro h
    rcases sp_spec gd to s t with q | ⟨q1, q2, q3, _⟩
    · exact q.1
    · rw [df, h _ q1 q2] at q3
      simp at q3
theorem sp_cg {s s' t t' : Nat} (h1 : En gd to 3 s s') (h2 : En gd to 3 t t') : sp gd to s t = sp gd to s' t' := spR_congr gd to (fun v a b => by rw [df, df, h1 v a b, h2 v a b]) 15 (Nat.le_refl _)
theorem liF_cg {m : Nat → Nat} {e e' : Nat} (h : En gd to 3 e e') : ∀ c, liF gd to m e c = liF gd to m e' c := by
  intro c
  induction c with
  | zero => rfl
  | succ c ih =>
    have e1 : ∀ e, liF gd to m e (c + 1) = if sp gd to (m c) e = 0 then nI c else liF gd to m e c := fun _ => rfl
    rw [e1, e1, ih, sp_cg gd to (En.rf gd to) h]
/-- each word up to 4 letters leads to a class -/
theorem cl_has {d : Nat} (hd0 : 0 < d) (hd5 : d ≤ 5) (ht : ∀ i, i < 2 * d → to i < d) : ∀ W v, 1 ≤ v → v ≤ W → ∃ k, k < (clS gd to W).1 ∧ En gd to 3 ((clS gd to W).2.1 k) (ld to 0 v) := by
  intro W
  induction W with
  | zero => intro v a b; omega
  | succ W ih =>
    intro v a b
    by_cases h : liF gd to (clS gd to W).2.1 (ld to 0 (W + 1)) (clS gd to W).1 = -1
    · rw [clS_new gd to h]
      dsimp only
      by_cases q : v = W + 1
      · exact ⟨(clS gd to W).1, by omega, by simp only [upN, if_true]; rw [q]; exact En.rf gd to⟩
      · obtain ⟨k, hk, e⟩ := ih v a (by omega)
        exact ⟨k, by omega, by simp only [upN, if_neg (show ¬ k = (clS gd to W).1 by omega)]; exact e⟩
    · rw [clS_old gd to h]
      by_cases q : v = W + 1
      · rcases liF_spec gd to (clS gd to W).2.1 (ld to 0 (W + 1)) (clS gd to W).1 with ⟨z, _⟩ | ⟨k, hk, _, z⟩
        · exact absurd z h
        · exact ⟨k, hk, by rw [q]; exact (sp_En gd to _ _).mp z⟩
      · exact ih v a (by omega)
/-- a class that a word opened isn't met by the words before it -/
theorem cl_name {d : Nat} (hd0 : 0 < d) (hd5 : d ≤ 5) (ht : ∀ i, i < 2 * d → to i < d) : ∀ W k, k < (clS gd to W).1 → ∀ v, 1 ≤ v → v < (clS gd to W).2.2 k → ¬ En gd to 3 ((clS gd to W).2.1 k) (ld to 0 v) := by
  intro W
  induction W with
  | zero => intro k h; exact absurd h (by simp [clS])
  | succ W ih =>
    intro k hk v a b
    by_cases h : liF gd to (clS gd to W).2.1 (ld to 0 (W + 1)) (clS gd to W).1 = -1
    · rw [clS_new gd to h] at hk b ⊢
      dsimp only at hk b ⊢
      by_cases q : k = (clS gd to W).1
      · simp only [upN, if_pos q] at b ⊢
        intro e
        obtain ⟨j, hj, e2⟩ := cl_has gd to hd0 hd5 ht W v a (by omega)
        have hle := clS_le gd to hd0 hd5 ht W
        rcases liF_spec gd to (clS gd to W).2.1 (ld to 0 (W + 1)) (clS gd to W).1 with ⟨_, z⟩ | ⟨i, hi, z, _⟩
        · exact z j hj ((sp_En gd to _ _).mpr (En.tr gd to e2 (En.sy gd to e)))
        · rw [h] at z; exact absurd z.symm (nI_m1 (by omega))
      · simp only [upN, if_neg q] at b ⊢
        exact ih k (by omega) v a b
    · rw [clS_old gd to h] at hk b ⊢
      exact ih k hk v a b
/-- the arrows of the classes lead to classes -/
theorem cl_closed {d : Nat} (hd0 : 0 < d) (hd5 : d ≤ 5) (ht : ∀ i, i < 2 * d → to i < d) {k l : Nat} (hk : k < (clS gd to 31).1) (hl : l < 2) : ∃ j, j < (clS gd to 31).1 ∧ En gd to 3 ((clS gd to 31).2.1 j) (to (2 * (clS gd to 31).2.1 k + l)) := by
  obtain ⟨k1, k2, k3, k4⟩ := (clS_inv gd to hd0 hd5 ht 31).1 k hk
  by_cases h16 : (clS gd to 31).2.2 k < 16
  · obtain ⟨j, hj, e⟩ := cl_has gd to hd0 hd5 ht 31 (2 * (clS gd to 31).2.2 k + l) (by omega) (by omega)
    refine ⟨j, hj, ?_⟩
    rw [ld_2 _ _ (by omega), show (2 * (clS gd to 31).2.2 k + l) / 2 = (clS gd to 31).2.2 k by omega, show (2 * (clS gd to 31).2.2 k + l) % 2 = l by omega, ← k4] at e
    exact e
  · apply Classical.byContradiction
    intro hno
    have hname := cl_name gd to hd0 hd5 ht 31 k hk
    generalize hw : (clS gd to 31).2.2 k = w at *
    have hldlt : ∀ v, ld to 0 v < d := fun v => ld_lt ht hd0 v v (Nat.le_refl _)
    have lead : ∀ v, 1 ≤ v → ∀ l, l < 2 → ld to 0 (2 * v + l) = to (2 * ld to 0 v + l) := fun v hv l hl => by
      rw [ld_2 _ _ (by omega), show (2 * v + l) / 2 = v by omega, show (2 * v + l) % 2 = l by omega]
    -- prefixes aren't met by shorter words
    have up : ∀ p, 2 ≤ p → (∀ v, 1 ≤ v → Nat.log2 v < Nat.log2 p → ¬ En gd to 3 (ld to 0 p) (ld to 0 v)) → ∀ v, 1 ≤ v → Nat.log2 v < Nat.log2 (p / 2) → ¬ En gd to 3 (ld to 0 (p / 2)) (ld to 0 v) := by
      intro p hp hv v hv1 hv2 e
      have e2 := En.cong gd to hd5 ht (hldlt _) (hldlt _) (l := p % 2) (by omega) e
      rw [← lead (p / 2) (by omega) _ (by omega), ← lead v hv1 _ (by omega), show 2 * (p / 2) + p % 2 = p by omega] at e2
      refine hv _ (by omega) ?_ e2
      have a1 : Nat.log2 p = Nat.log2 (p / 2) + 1 := by rw [Nat.log2_def, if_pos (by omega)]
      have a2 : Nat.log2 (2 * v + p % 2) = Nat.log2 v + 1 := by rw [Nat.log2_def, if_pos (by omega), show (2 * v + p % 2) / 2 = v by omega]
      omega
    have lw : Nat.log2 w = 4 := ww_log (by omega) (by omega)
    have c0 : ∀ v, 1 ≤ v → Nat.log2 v < Nat.log2 w → ¬ En gd to 3 (ld to 0 w) (ld to 0 v) := fun v hv1 hv2 e => by
      rw [lw] at hv2
      have : v < 16 := (Nat.log2_lt (by omega)).mp hv2
      exact hname v hv1 (by omega) (by rw [k4]; exact e)
    have c1 := up w (by omega) c0
    have c2 := up (w / 2) (by omega) c1
    have c3 := up (w / 2 / 2) (by omega) c2
    have l1 : Nat.log2 (w / 2) = 3 := ww_log (by omega) (by omega)
    have l2 : Nat.log2 (w / 2 / 2) = 2 := ww_log (by omega) (by omega)
    have l3 : Nat.log2 (w / 2 / 2 / 2) = 1 := ww_log (by omega) (by omega)
    have l4 : Nat.log2 1 = 0 := by decide
    have out : ∀ v, 1 ≤ v → v ≤ 31 → ¬ En gd to 3 (ld to 0 v) (to (2 * (clS gd to 31).2.1 k + l)) := fun v a b e => by
      obtain ⟨j, hj, e2⟩ := cl_has gd to hd0 hd5 ht 31 v a b
      exact hno ⟨j, hj, En.tr gd to e2 e⟩
    have s6 : Sp gd to 3 d 6 := by
      refine ⟨fun i => if i = 0 then to (2 * (clS gd to 31).2.1 k + l) else if i = 1 then ld to 0 w else if i = 2 then ld to 0 (w / 2) else if i = 3 then ld to 0 (w / 2 / 2) else if i = 4 then ld to 0 (w / 2 / 2 / 2) else ld to 0 1, fun i hi => ?_, fun i j hij hj e => ?_⟩
      · dsimp only
        repeat' split
        all_goals first | exact hldlt _ | exact ht _ (by omega)
      · rcases (show (i = 0 ∧ (j = 1 ∨ j = 2 ∨ j = 3 ∨ j = 4 ∨ j = 5)) ∨ (i = 1 ∧ (j = 2 ∨ j = 3 ∨ j = 4 ∨ j = 5)) ∨ (i = 2 ∧ (j = 3 ∨ j = 4 ∨ j = 5)) ∨ (i = 3 ∧ (j = 4 ∨ j = 5)) ∨ (i = 4 ∧ j = 5) by omega) with ⟨rfl, rfl | rfl | rfl | rfl | rfl⟩ | ⟨rfl, rfl | rfl | rfl | rfl⟩ | ⟨rfl, rfl | rfl | rfl⟩ | ⟨rfl, rfl | rfl⟩ | ⟨rfl, rfl⟩
        · exact out w (by omega) (by omega) (En.sy gd to e)
        · exact out (w / 2) (by omega) (by omega) (En.sy gd to e)
        · exact out (w / 2 / 2) (by omega) (by omega) (En.sy gd to e)
        · exact out (w / 2 / 2 / 2) (by omega) (by omega) (En.sy gd to e)
        · exact out 1 (by omega) (by omega) (En.sy gd to e)
        · exact c0 _ (by omega) (by omega) e
        · exact c0 _ (by omega) (by omega) e
        · exact c0 _ (by omega) (by omega) e
        · exact c0 _ (by omega) (by omega) e
        · exact c1 _ (by omega) (by omega) e
        · exact c1 _ (by omega) (by omega) e
        · exact c1 _ (by omega) (by omega) e
        · exact c2 _ (by omega) (by omega) e
        · exact c2 _ (by omega) (by omega) e
        · exact c3 _ (by omega) (by omega) e
    have := Sp.le gd to s6
    omega
end MO
