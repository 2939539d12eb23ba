/-! the draft: d states, gd: good ones, to: arrows (2 * state + letter); no machine here -/
theorem pigeon : ∀ (d c : Nat) (f : Nat → Nat), (∀ i, i < c → f i < d) → (∀ i j, i < c → j < c → f i = f j → i = j) → c ≤ d := by
  intro d
  induction d with
  | zero =>
    intro c f h1 _
    rcases Nat.eq_zero_or_pos c with q | q
    · omega
    · exact absurd (h1 0 q) (by omega)
  | succ d ih =>
    intro c f h1 h2
    by_cases h : ∃ i, i < c ∧ f i = d
    · obtain ⟨i, hi, e⟩ := h
      have := ih (c - 1) (fun j => if j < i then f j else f (j + 1)) (fun j hj => by
        by_cases q : j < i
        · simp only [q, if_true]
          have a := h1 j (by omega)
          have b : f j ≠ d := fun z => by have := h2 j i (by omega) hi (z.trans e.symm); omega
          omega
        · simp only [q, if_false]
          have a := h1 (j + 1) (by omega)
          have b : f (j + 1) ≠ d := fun z => by have := h2 (j + 1) i (by omega) hi (z.trans e.symm); omega
          omega) (fun a b ha hb q => by
        by_cases qa : a < i <;> by_cases qb : b < i
        · simp only [qa, qb, if_true] at q
          exact h2 a b (by omega) (by omega) q
        · simp only [qa, qb, if_true, if_false] at q
          have := h2 a (b + 1) (by omega) (by omega) q
          omega
        · simp only [qa, qb, if_true, if_false] at q
          have := h2 (a + 1) b (by omega) (by omega) q
          omega
        · simp only [qa, qb, if_false] at q
          have := h2 (a + 1) (b + 1) (by omega) (by omega) q
          omega)
      omega
    · have := ih c f (fun i hi => by
        have a := h1 i hi
        have b : f i ≠ d := fun z => h ⟨i, hi, z⟩
        omega) h2
      omega
def ld (to : Nat → Nat) (s w : Nat) : Nat := if h : w ≤ 1 then s else to (2 * ld to s (w / 2) + w % 2)
termination_by w
decreasing_by omega
theorem ld_1 (to : Nat → Nat) (s : Nat) {w : Nat} (h : w ≤ 1) : ld to s w = s := by rw [ld, dif_pos h]
theorem ld_2 (to : Nat → Nat) (s : Nat) {w : Nat} (h : 2 ≤ w) : ld to s w = to (2 * ld to s (w / 2) + w % 2) := by rw [ld, dif_neg (by omega)]
theorem ld_lt {to : Nat → Nat} {d s : Nat} (ht : ∀ i, i < 2 * d → to i < d) (hs : s < d) : ∀ k w, w ≤ k → ld to s w < d := by
  intro k
  induction k with
  | zero => intro w hw; rw [ld_1 _ _ (by omega)]; exact hs
  | succ k ih =>
    intro w hw
    by_cases h : w ≤ 1
    · rw [ld_1 _ _ h]; exact hs
    · rw [ld_2 _ _ (by omega)]
      have := ih (w / 2) (by omega)
      exact ht _ (by omega)
theorem ld_wk {to : Nat → Nat} {ar : Nat → Int32} {d s : Nat} (hd : d ≤ 1000) (ht : ∀ i, i < 2 * d → to i < d) (ha : ∀ i, i < 2 * d → ar i = nI (to i)) (hs : s < d) : ∀ k w, w ≤ k → wkA ar (nI s) w = nI (ld to s w) := by
  intro k
  induction k with
  | zero => intro w hw; rw [wkA_1 _ _ (by omega), ld_1 _ _ (by omega)]
  | succ k ih =>
    intro w hw
    by_cases h : w ≤ 1
    · rw [wkA_1 _ _ h, ld_1 _ _ h]
    · have hl := ld_lt ht hs (w / 2) (w / 2) (Nat.le_refl _)
      rw [wkA_2 _ _ (by omega), ld_2 _ _ (by omega), ih (w / 2) (by omega), if_neg (nI_m1 (by omega)), nI_clamp (by omega)]
      exact ha _ (by omega)
section DM
variable (gd : Nat → Bool) (to : Nat → Nat)
/-- the word w leads from s and t to states of different signs -/
def df (w s t : Nat) : Bool := gd (ld to s w) != gd (ld to t w)
def spR (s t : Nat) : Nat → Nat
  | 0 => 0
  | j + 1 => if df gd to (15 - j) s t then 15 - j else spR s t j
/-- the first word (up to 3 letters) that sets s and t apart; 0: none -/
def sp (s t : Nat) : Nat := spR gd to s t 15
theorem spR_spec (s t : Nat) : ∀ j, j ≤ 15 → (spR gd to s t j = 0 ∧ ∀ v, 16 - j ≤ v → v < 16 → df gd to v s t = false) ∨ (16 - j ≤ spR gd to s t j ∧ spR gd to s t j < 16 ∧ df gd to (spR gd to s t j) s t = true ∧ ∀ v, 16 - j ≤ v → v < spR gd to s t j → df gd to v s t = false) := by
  intro j
  induction j with
  | zero => intro _; exact Or.inl ⟨rfl, fun v h1 h2 => absurd h1 (by omega)⟩
  | succ j ih =>
    intro hj
    have e : spR gd to s t (j + 1) = if df gd to (15 - j) s t then 15 - j else spR gd to s t j := rfl
    by_cases h : df gd to (15 - j) s t = true
    · rw [e, if_pos h]
      exact Or.inr ⟨by omega, by omega, h, fun v h1 h2 => absurd h1 (by omega)⟩
    · have h' : df gd to (15 - j) s t = false := by simpa using h
      rw [e, if_neg h]
      rcases ih (by omega) with ⟨a, b⟩ | ⟨a, b, c, f⟩
      · refine Or.inl ⟨a, fun v h1 h2 => ?_⟩
        by_cases q : v = 15 - j
        · rw [q]; exact h'
        · exact b v (by omega) h2
      · refine Or.inr ⟨by omega, b, c, fun v h1 h2 => ?_⟩
        by_cases q : v = 15 - j
        · rw [q]; exact h'
        · exact f v (by omega) h2
theorem sp_spec (s t : Nat) : (sp gd to s t = 0 ∧ ∀ v, 1 ≤ v → v < 16 → df gd to v s t = false) ∨ (1 ≤ sp gd to s t ∧ sp gd to s t < 16 ∧ df gd to (sp gd to s t) s t = true ∧ ∀ v, 1 ≤ v → v < sp gd to s t → df gd to v s t = false) := spR_spec gd to s t 15 (Nat.le_refl _)
theorem sp_lt (s t : Nat) : sp gd to s t < 16 := by
  rcases sp_spec gd to s t with h | h
  · omega
  · exact h.2.1
theorem sp_self (s : Nat) : sp gd to s s = 0 := by
  rcases sp_spec gd to s s with h | ⟨_, _, h, _⟩
  · exact h.1
  · simp [df] at h
theorem df_comm (w s t : Nat) : df gd to w s t = df gd to w t s := by
  rw [df, df]
  cases gd (ld to s w) <;> cases gd (ld to t w) <;> rfl
theorem spR_congr {s t s' t' : Nat} (h : ∀ v, 1 ≤ v → v < 16 → df gd to v s t = df gd to v s' t') : ∀ j, j ≤ 15 → spR gd to s t j = spR gd to s' t' j := by
  intro j
  induction j with
  | zero => intro _; rfl
  | succ j ih =>
    intro hj
    have e : ∀ s t, spR gd to s t (j + 1) = if df gd to (15 - j) s t then 15 - j else spR gd to s t j := fun _ _ => rfl
    rw [e, e, h (15 - j) (by omega) (by omega), ih (by omega)]
theorem sp_comm (s t : Nat) : sp gd to s t = sp gd to t s := spR_congr gd to (fun v _ _ => df_comm gd to v s t) 15 (Nat.le_refl _)
/-- the last of the members m 0 .. that isn't apart from e *)-/
def liF (m : Nat → Nat) (e : Nat) : Nat → Int32
  | 0 => -1
  | k + 1 => if sp gd to (m k) e = 0 then nI k else liF m e k
theorem liF_spec (m : Nat → Nat) (e : Nat) : ∀ c, (liF gd to m e c = -1 ∧ ∀ k, k < c → sp gd to (m k) e ≠ 0) ∨ ∃ k, k < c ∧ liF gd to m e c = nI k ∧ sp gd to (m k) e = 0 := by
  intro c
  induction c with
  | zero => exact Or.inl ⟨rfl, fun k h => absurd h (by omega)⟩
  | succ c ih =>
    have e1 : liF gd to m e (c + 1) = if sp gd to (m c) e = 0 then nI c else liF gd to m e c := rfl
    by_cases h : sp gd to (m c) e = 0
    · rw [e1, if_pos h]; exact Or.inr ⟨c, by omega, rfl, h⟩
    · rw [e1, if_neg h]
      rcases ih with ⟨a, b⟩ | ⟨k, a, b, f⟩
      · refine Or.inl ⟨a, fun k hk => ?_⟩
        by_cases q : k = c
        · rw [q]; exact h
        · exact b k (by omega)
      · exact Or.inr ⟨k, by omega, b, f⟩
theorem liF_congr {m m' : Nat → Nat} (e : Nat) : ∀ c, (∀ k, k < c → m k = m' k) → liF gd to m e c = liF gd to m' e c := by
  intro c
  induction c with
  | zero => intro _; rfl
  | succ c ih =>
    intro h
    have e1 : ∀ m, liF gd to m e (c + 1) = if sp gd to (m c) e = 0 then nI c else liF gd to m e c := fun _ => rfl
    rw [e1, e1, h c (by omega), ih (fun k hk => h k (by omega))]
def upN (f : Nat → Nat) (k x : Nat) : Nat → Nat := fun j => if j = k then x else f j
/-- the classes found by the words 1 .. w: how many, a member and the name of each -/
def clS : Nat → Nat × (Nat → Nat) × (Nat → Nat)
  | 0 => (0, fun _ => 0, fun _ => 0)
  | w + 1 => if liF gd to (clS w).2.1 (ld to 0 (w + 1)) (clS w).1 = -1 then ((clS w).1 + 1, upN (clS w).2.1 (clS w).1 (ld to 0 (w + 1)), upN (clS w).2.2 (clS w).1 (w + 1)) else clS w
theorem clS_new {w : Nat} (h : liF gd to (clS gd to w).2.1 (ld to 0 (w + 1)) (clS gd to w).1 = -1) : clS gd to (w + 1) = ((clS gd to w).1 + 1, upN (clS gd to w).2.1 (clS gd to w).1 (ld to 0 (w + 1)), upN (clS gd to w).2.2 (clS gd to w).1 (w + 1)) := by rw [clS, if_pos h]
theorem clS_old {w : Nat} (h : ¬ liF gd to (clS gd to w).2.1 (ld to 0 (w + 1)) (clS gd to w).1 = -1) : clS gd to (w + 1) = clS gd to w := by rw [clS, if_neg h]
theorem clS_inv {d : Nat} (hd0 : 0 < d) (hd5 : d ≤ 5) (ht : ∀ i, i < 2 * d → to i < d) : ∀ w, (∀ k, k < (clS gd to w).1 → (clS gd to w).2.1 k < d ∧ 1 ≤ (clS gd to w).2.2 k ∧ (clS gd to w).2.2 k ≤ w ∧ (clS gd to w).2.1 k = ld to 0 ((clS gd to w).2.2 k)) ∧ (∀ i j, i < j → j < (clS gd to w).1 → sp gd to ((clS gd to w).2.1 i) ((clS gd to w).2.1 j) ≠ 0) := by
  intro w
  induction w with
  | zero => exact ⟨fun k h => absurd h (by simp [clS]), fun i j _ h => absurd h (by simp [clS])⟩
  | succ w ih =>
    obtain ⟨i1, i2⟩ := ih
    by_cases h : liF gd to (clS gd to w).2.1 (ld to 0 (w + 1)) (clS gd to w).1 = -1
    · rw [clS_new gd to h]
      generalize hc : clS gd to w = q at *
      obtain ⟨c, m, n⟩ := q
      dsimp only at *
      refine ⟨fun k hk => ?_, fun i j hij hj => ?_⟩
      · by_cases q : k = c
        · subst q
          simp only [upN, if_true]
          exact ⟨ld_lt ht hd0 _ _ (Nat.le_refl _), by omega, by omega, trivial⟩
        · simp only [upN, if_neg q]
          obtain ⟨a, b, c1, d1⟩ := i1 k (by omega)
          exact ⟨a, b, by omega, d1⟩
      · have hi : i ≠ c := by omega
        by_cases q : j = c
        · subst q
          simp only [upN, if_true, if_neg hi]
          rcases liF_spec gd to m (ld to 0 (w + 1)) j with ⟨_, b⟩ | ⟨k, hk, b, _⟩
          · exact b i (by omega)
          · rw [h] at b
            exact absurd b.symm (nI_m1 (by
              have := pigeon d j m (fun i hi => (i1 i hi).1) (fun a b ha hb e => by
                rcases Nat.lt_trichotomy a b with q | q | q
                · exact absurd (by rw [e]; exact sp_self gd to _) (i2 a b q hb)
                · exact q
                · exact absurd (by rw [e]; exact sp_self gd to _) (i2 b a q ha))
              omega))
        · simp only [upN, if_neg q, if_neg hi]
          exact i2 i j hij (by omega)
    · rw [clS_old gd to h]
      exact ⟨fun k hk => by obtain ⟨a, b, c1, d1⟩ := i1 k hk; exact ⟨a, b, by omega, d1⟩, i2⟩
theorem clS_le {d : Nat} (hd0 : 0 < d) (hd5 : d ≤ 5) (ht : ∀ i, i < 2 * d → to i < d) (w : Nat) : (clS gd to w).1 ≤ d := by
  obtain ⟨i1, i2⟩ := clS_inv gd to hd0 hd5 ht w
  refine pigeon d _ (clS gd to w).2.1 (fun i hi => (i1 i hi).1) (fun a b ha hb e => ?_)
  rcases Nat.lt_trichotomy a b with q | q | q
  · exact absurd (by rw [e]; exact sp_self gd to _) (i2 a b q hb)
  · exact q
  · exact absurd (by rw [e]; exact sp_self gd to _) (i2 b a q ha)
theorem clS_mono (w : Nat) : (clS gd to w).1 ≤ (clS gd to (w + 1)).1 := by
  by_cases h : liF gd to (clS gd to w).2.1 (ld to 0 (w + 1)) (clS gd to w).1 = -1
  · rw [clS_new gd to h]; exact Nat.le_succ _
  · rw [clS_old gd to h]; exact Nat.le_refl _
/-- where a class is opened there is room for it -/
theorem clS_room {d : Nat} (hd0 : 0 < d) (hd5 : d ≤ 5) (ht : ∀ i, i < 2 * d → to i < d) {w : Nat} (h : liF gd to (clS gd to w).2.1 (ld to 0 (w + 1)) (clS gd to w).1 = -1) : (clS gd to w).1 < d := by
  have := clS_le gd to hd0 hd5 ht (w + 1)
  rw [clS_new gd to h] at this
  exact this
theorem sp_pos {d : Nat} (hd0 : 0 < d) (hd5 : d ≤ 5) (ht : ∀ i, i < 2 * d → to i < d) (w : Nat) {i j : Nat} (hi : i < (clS gd to w).1) (hj : j < (clS gd to w).1) (hij : i ≠ j) : 1 ≤ sp gd to ((clS gd to w).2.1 i) ((clS gd to w).2.1 j) := by
  obtain ⟨_, i2⟩ := clS_inv gd to hd0 hd5 ht w
  rcases Nat.lt_or_ge i j with q | q
  · have := i2 i j q hj; omega
  · have := i2 j i (by omega) hi
    rw [sp_comm]; omega
end DM
