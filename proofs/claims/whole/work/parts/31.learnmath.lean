/-! learning: the tree of the words, congruences, what a round makes; no machine here -/
theorem lg2 {v l : Nat} (hv : 1 ≤ v) (hl : l < 2) : Nat.log2 (2 * v + l) = Nat.log2 v + 1 := by
  rw [Nat.log2_def, if_pos (by omega), show (2 * v + l) / 2 = v by omega]
theorem lg2h {c : Nat} (h : 2 ≤ c) : Nat.log2 c = Nat.log2 (c / 2) + 1 := by rw [Nat.log2_def, if_pos (by omega)]
theorem lg2_le {a b : Nat} (h1 : 1 ≤ a) (h : a ≤ b) : Nat.log2 a ≤ Nat.log2 b := by
  rcases Nat.lt_or_ge (Nat.log2 b) (Nat.log2 a) with q | q
  · have h2 : b < 2 ^ Nat.log2 a := (Nat.log2_lt (by omega)).mp q
    have h3 := ww_log_le h1
    omega
  · exact q
theorem fN_le (P : Nat → Prop) : ∀ n, fN P n ≤ n := by
  intro n
  induction n with
  | zero => exact Nat.le_refl 0
  | succ n ih =>
    by_cases q : P n
    · rw [fN_y q]; omega
    · rw [fN_n q]; omega
theorem fN_mono {P P' : Nat → Prop} (h : ∀ v, P v → P' v) : ∀ n, fN P n ≤ fN P' n := by
  intro n
  induction n with
  | zero => exact Nat.le_refl 0
  | succ n ih =>
    by_cases q : P n
    · rw [fN_y q, fN_y (h n q)]; omega
    · rw [fN_n q]
      by_cases q' : P' n
      · rw [fN_y q']; omega
      · rw [fN_n q']; exact ih
theorem fN_lt {P P' : Nat → Prop} (h : ∀ v, P v → P' v) {c : Nat} (h1 : P' c) (h2 : ¬ P c) : ∀ n, c < n → fN P n < fN P' n := by
  intro n
  induction n with
  | zero => intro q; omega
  | succ n ih =>
    intro hc
    by_cases e : c = n
    · subst e
      rw [fN_n h2, fN_y h1]
      have := fN_mono h c
      omega
    · have := ih (by omega)
      by_cases q : P n
      · rw [fN_y q, fN_y (h n q)]; omega
      · rw [fN_n q]
        by_cases q' : P' n
        · rw [fN_y q']; omega
        · rw [fN_n q']; exact this
section LM
variable (S : Nat → Int32)
/-- a word that begins with w was said -/
def Nd (w : Nat) : Prop := 1 ≤ w ∧ ∃ u k, u < 512 ∧ ¬ S u = 0 ∧ u / 2 ^ k = w
/-- the nodes of the tree -/
def Nn (w : Nat) : Prop := w = 1 ∨ Nd S w
theorem Nd_lt {w : Nat} (h : Nd S w) : w < 512 := by
  obtain ⟨_, u, k, hu, _, rfl⟩ := h
  exact Nat.lt_of_le_of_lt (Nat.div_le_self _ _) hu
theorem Nd_iff {w : Nat} (h1 : 1 ≤ w) : Nd S w ↔ (w < 512 ∧ ¬ S w = 0) ∨ Nd S (2 * w) ∨ Nd S (2 * w + 1) := by
  constructor
  · rintro ⟨_, u, k, hu, hs, e⟩
    cases k with
    | zero =>
      rw [Nat.pow_zero, Nat.div_one] at e
      exact Or.inl ⟨by omega, by rw [← e]; exact hs⟩
    | succ k =>
      rw [← ww_half] at e
      rcases Nat.mod_two_eq_zero_or_one (u / 2 ^ k) with z | z
      · exact Or.inr (Or.inl ⟨by omega, u, k, hu, hs, by omega⟩)
      · exact Or.inr (Or.inr ⟨by omega, u, k, hu, hs, by omega⟩)
  · rintro (⟨hw, hs⟩ | ⟨_, u, k, hu, hs, e⟩ | ⟨_, u, k, hu, hs, e⟩)
    · exact ⟨h1, w, 0, hw, hs, by rw [Nat.pow_zero, Nat.div_one]⟩
    · exact ⟨h1, u, k + 1, hu, hs, by rw [← ww_half]; omega⟩
    · exact ⟨h1, u, k + 1, hu, hs, by rw [← ww_half]; omega⟩
theorem Nn_lt {w : Nat} (h : Nn S w) : 1 ≤ w ∧ w < 512 := by
  rcases h with h | h
  · omega
  · exact ⟨h.1, Nd_lt S h⟩
theorem Nn_up {v l : Nat} (hv : 1 ≤ v) (hl : l < 2) (h : Nn S (2 * v + l)) : Nn S v := by
  rcases h with h | h
  · omega
  · refine Or.inr ((Nd_iff S hv).mpr (Or.inr ?_))
    rcases (show l = 0 ∨ l = 1 by omega) with rfl | rfl
    · exact Or.inl h
    · exact Or.inr h
theorem Nn_half {c : Nat} (hc : 2 ≤ c) (h : Nn S c) : Nn S (c / 2) := Nn_up S (v := c / 2) (l := c % 2) (by omega) (by omega) (by rw [show 2 * (c / 2) + c % 2 = c by omega]; exact h)
theorem Nn_S {w : Nat} (h1 : 1 ≤ w) (h2 : w < 512) (h : ¬ S w = 0) : Nn S w := Or.inr ((Nd_iff S h1).mpr (Or.inl ⟨h2, h⟩))
/-- an equivalence on nodes that the letters keep -/
def Cg (R : Nat → Nat → Prop) : Prop := (∀ v, Nn S v → R v v) ∧ (∀ v w, R v w → R w v) ∧ (∀ u v w, R u v → R v w → R u w) ∧ ∀ v w l, 1 ≤ v → 1 ≤ w → l < 2 → Nn S (2 * v + l) → Nn S (2 * w + l) → R v w → R (2 * v + l) (2 * w + l)
/-- the least such that holds E and makes a and b one -/
def cl (E : Nat → Nat → Prop) (a b v w : Nat) : Prop := ∀ R, Cg S R → (∀ x y, Nn S x → Nn S y → E x y → R x y) → R a b → R v w
/-- no class has words of both signs -/
def Cons (R : Nat → Nat → Prop) : Prop := ∀ v w, Nn S v → Nn S w → R v w → ¬ S v = 0 → ¬ S w = 0 → S v = S w
theorem cl_Cg (E : Nat → Nat → Prop) (a b : Nat) : Cg S (cl S E a b) := by
  refine ⟨fun v hv R hR _ _ => hR.1 v hv, fun v w h R hR h1 h2 => hR.2.1 _ _ (h R hR h1 h2), fun u v w h k R hR h1 h2 => hR.2.2.1 _ _ _ (h R hR h1 h2) (k R hR h1 h2), fun v w l a1 a2 a3 a4 a5 h R hR h1 h2 => hR.2.2.2 _ _ _ a1 a2 a3 a4 a5 (h R hR h1 h2)⟩
theorem cl_in {E : Nat → Nat → Prop} {a b x y : Nat} (hx : Nn S x) (hy : Nn S y) (h : E x y) : cl S E a b x y := fun _ _ h1 _ => h1 x y hx hy h
theorem cl_ab {E : Nat → Nat → Prop} {a b : Nat} : cl S E a b a b := fun _ _ _ h => h
theorem Cg.half {R : Nat → Nat → Prop} (h : Cg S R) {v w : Nat} (hv : 2 ≤ v) (hw : 2 ≤ w) (nv : Nn S v) (nw : Nn S w) (e : v % 2 = w % 2) (q : R (v / 2) (w / 2)) : R v w := by
  have := h.2.2.2 (v / 2) (w / 2) (v % 2) (by omega) (by omega) (by omega) (by rw [show 2 * (v / 2) + v % 2 = v by omega]; exact nv) (by rw [e, show 2 * (w / 2) + w % 2 = w by omega]; exact nw) q
  rw [show 2 * (v / 2) + v % 2 = v by omega, e, show 2 * (w / 2) + w % 2 = w by omega] at this
  exact this
/-- the state of learning: the classes, how many are red, a node of each, its name -/
abbrev aA : Type := (Nat → Nat → Prop) × Nat × (Nat → Nat) × (Nat → Nat)
def isR (A : aA) (v : Nat) : Prop := ∃ j, j < A.2.1 ∧ A.1 v (A.2.2.1 j)
def BlueAt (A : aA) (c m : Nat) : Prop := Nn S c ∧ 2 ≤ c ∧ ¬ isR A c ∧ ∃ k, k < A.2.1 ∧ A.1 (c / 2) (A.2.2.1 k) ∧ m = 2 * A.2.2.2 k + c % 2
def NextR (A B : aA) : Prop := ∃ c m, BlueAt S A c m ∧ (∀ c' m', BlueAt S A c' m' → m ≤ m') ∧ (∀ c', BlueAt S A c' m → c ≤ c') ∧
  ((∃ k, k < A.2.1 ∧ Cons S (cl S A.1 (A.2.2.1 k) c) ∧ (∀ j, j < k → ¬ Cons S (cl S A.1 (A.2.2.1 j) c)) ∧ B = (cl S A.1 (A.2.2.1 k) c, A.2)) ∨
   ((∀ k, k < A.2.1 → ¬ Cons S (cl S A.1 (A.2.2.1 k) c)) ∧ B = (A.1, A.2.1 + 1, upN A.2.2.1 A.2.1 c, upN A.2.2.2 A.2.1 m)))
theorem NextR_det {A B B' : aA} (h : NextR S A B) (h' : NextR S A B') : B = B' := by
  obtain ⟨c, m, b, mm, cc, q⟩ := h
  obtain ⟨c', m', b', mm', cc', q'⟩ := h'
  have em : m = m' := Nat.le_antisymm (mm _ _ b') (mm' _ _ b)
  subst em
  have ec : c = c' := Nat.le_antisymm (cc _ b') (cc' _ b)
  subst ec
  rcases q with ⟨k, k1, k2, k3, rfl⟩ | ⟨k1, rfl⟩ <;> rcases q' with ⟨j, j1, j2, j3, rfl⟩ | ⟨j1, rfl⟩
  · have : k = j := by
      rcases Nat.lt_trichotomy k j with z | z | z
      · exact absurd k2 (j3 k z)
      · exact z
      · exact absurd j2 (k3 j z)
    rw [this]
  · exact absurd k2 (j1 k k1)
  · exact absurd j2 (k1 j j1)
  · rfl
theorem next_ex {A : aA} (h : ∃ c m, BlueAt S A c m) : ∃ B, NextR S A B := by
  obtain ⟨c0, m0, h0⟩ := h
  obtain ⟨m, ⟨c1, hm⟩, hl⟩ := pk_least (fun m => ∃ c, BlueAt S A c m) ⟨m0, c0, h0⟩
  obtain ⟨c, hc, hcl⟩ := pk_least (fun c => BlueAt S A c m) ⟨c1, hm⟩
  have e1 : ∀ c' m', BlueAt S A c' m' → m ≤ m' := fun c' m' q => by
    rcases Nat.lt_or_ge m' m with z | z
    · exact absurd ⟨c', q⟩ (hl m' z)
    · exact z
  have e2 : ∀ c', BlueAt S A c' m → c ≤ c' := fun c' q => by
    rcases Nat.lt_or_ge c' c with z | z
    · exact absurd q (hcl c' z)
    · exact z
  by_cases q : ∃ k, k < A.2.1 ∧ Cons S (cl S A.1 (A.2.2.1 k) c)
  · obtain ⟨k, ⟨k1, k2⟩, k3⟩ := pk_least _ q
    exact ⟨_, c, m, hc, e1, e2, Or.inl ⟨k, k1, k2, fun j hj z => k3 j hj ⟨by omega, z⟩, rfl⟩⟩
  · exact ⟨_, c, m, hc, e1, e2, Or.inr ⟨fun k hk z => q ⟨k, hk, z⟩, rfl⟩⟩
noncomputable def stp (A : aA) : aA := @dite aA (∃ B, NextR S A B) (Classical.propDecidable _) (fun h => Classical.choose h) (fun _ => A)
theorem stp_next {A B : aA} (h : NextR S A B) : stp S A = B := by
  have hx : ∃ B, NextR S A B := ⟨B, h⟩
  rw [stp, dif_pos hx]
  exact NextR_det S (Classical.choose_spec hx) h
theorem stp_no {A : aA} (h : ∀ c m, ¬ BlueAt S A c m) : stp S A = A := by
  have hx : ¬ ∃ B, NextR S A B := fun ⟨B, c, m, b, _⟩ => h c m b
  rw [stp, dif_neg hx]
def A0 : aA := (fun v w => v = w, 1, fun _ => 1, fun _ => 1)
noncomputable def it : Nat → aA
  | 0 => A0
  | i + 1 => stp S (it i)
theorem it_s (i : Nat) : it S (i + 1) = stp S (it S i) := rfl
theorem it_fix {i : Nat} (h : ∀ c m, ¬ BlueAt S (it S i) c m) : ∀ j, it S (i + j) = it S i := by
  intro j
  induction j with
  | zero => rfl
  | succ j ih => rw [← Nat.add_assoc, it_s, ih]; exact stp_no S h
theorem it_fix' {i n : Nat} (hi : i ≤ n) (h : ∀ c m, ¬ BlueAt S (it S i) c m) : it S n = it S i := by
  have := it_fix S h (n - i)
  rwa [show i + (n - i) = n by omega] at this
def Sep (A : aA) : Prop := ∀ j k, j < A.2.1 → k < A.2.1 → A.1 (A.2.2.1 j) (A.2.2.1 k) → j = k
def AI (A : aA) : Prop := Cg S A.1 ∧ Cons S A.1 ∧ 1 ≤ A.2.1 ∧ A.2.2.1 0 = 1 ∧ (∀ k, k < A.2.1 → Nn S (A.2.2.1 k) ∧ 1 ≤ A.2.2.2 k ∧ A.2.2.2 k < 512) ∧
  (∀ j k, j < A.2.1 → k < A.2.1 → A.2.2.2 j = A.2.2.2 k → j = k) ∧
  (∀ j, j < A.2.1 → (A.2.2.1 j = 1 ∧ A.2.2.2 j = 1) ∨ (2 ≤ A.2.2.1 j ∧ ∃ k, k < A.2.1 ∧ A.1 (A.2.2.1 j / 2) (A.2.2.1 k) ∧ A.2.2.2 j = 2 * A.2.2.2 k + A.2.2.1 j % 2)) ∧
  (∀ j v, j < A.2.1 → Nn S v → ¬ isR A v → Nat.log2 (A.2.2.2 j) ≤ Nat.log2 v) ∧
  (∀ j c, j < A.2.1 → Nn S c → 2 ≤ c → ¬ isR A c → A.1 (c / 2) (A.2.2.1 j) → Nat.log2 (A.2.2.2 j) + 1 ≤ Nat.log2 c)
theorem AI_0 : AI S A0 := by
  have h1 : Nn S 1 := Or.inl rfl
  have l1 : Nat.log2 1 = 0 := by decide
  refine ⟨⟨fun _ _ => rfl, fun v w h => h.symm, fun u v w h k => h.trans k, fun v w l _ _ _ _ _ h => by show 2 * v + l = 2 * w + l; rw [show v = w from h]⟩, fun v w _ _ h _ _ => by rw [show v = w from h], Nat.le_refl 1, rfl, fun k _ => ⟨h1, Nat.le_refl 1, by show 1 < 512; omega⟩, fun j k hj hk _ => ?_, fun j _ => Or.inl ⟨rfl, rfl⟩, fun j v _ _ _ => ?_, fun j c _ _ hc _ _ => ?_⟩
  · have hj : j < 1 := hj
    have hk : k < 1 := hk
    omega
  · show Nat.log2 1 ≤ _
    rw [l1]; omega
  · show Nat.log2 1 + 1 ≤ _
    rw [l1, lg2h hc]; omega
theorem AI_root {A : aA} (h : AI S A) : isR A 1 := ⟨0, h.2.2.1, by rw [h.2.2.2.1]; exact h.1.1 1 (Or.inl rfl)⟩
/-- what isn't red hangs behind what is -/
theorem AI_anc {A : aA} (h : AI S A) : ∀ n v, v ≤ n → Nn S v → ¬ isR A v → ∃ c m, BlueAt S A c m ∧ Nat.log2 m ≤ Nat.log2 v := by
  intro n
  induction n with
  | zero => intro v hv hn; have := (Nn_lt S hn).1; omega
  | succ n ih =>
    intro v hv hn hr
    have h1 := (Nn_lt S hn).1
    have h2 : 2 ≤ v := by
      rcases Nat.lt_or_ge v 2 with q | q
      · exact absurd (by rw [show v = 1 by omega]; exact AI_root S h) hr
      · exact q
    by_cases q : isR A (v / 2)
    · obtain ⟨k, hk, e⟩ := q
      have k2 := h.2.2.2.2.2.2.2.2 k v hk hn h2 hr e
      refine ⟨v, 2 * A.2.2.2 k + v % 2, ⟨hn, h2, hr, k, hk, e, rfl⟩, ?_⟩
      rw [lg2 (h.2.2.2.2.1 k hk).2.1 (by omega)]
      exact k2
    · obtain ⟨c, m, b, e⟩ := ih (v / 2) (by omega) (Nn_half S h2 hn) q
      refine ⟨c, m, b, ?_⟩
      rw [lg2h h2]; omega
theorem isR_sub {A : aA} (h : AI S A) {a b : Nat} {v : Nat} (hv : Nn S v) (q : isR A v) : isR ((cl S A.1 a b, A.2) : aA) v := by
  obtain ⟨j, hj, e⟩ := q
  exact ⟨j, hj, cl_in S hv (h.2.2.2.2.1 j hj).1 e⟩
theorem isR_add {A : aA} {c : Nat} {m : Nat} {v : Nat} (q : isR A v) : isR ((A.1, A.2.1 + 1, upN A.2.2.1 A.2.1 c, upN A.2.2.2 A.2.1 m) : aA) v := by
  obtain ⟨j, hj, e⟩ := q
  refine ⟨j, Nat.lt_succ_of_lt hj, ?_⟩
  show A.1 v (if j = A.2.1 then c else A.2.2.1 j)
  rw [if_neg (by omega)]
  exact e
theorem isR_keep {A B : aA} (h : AI S A) (hn : NextR S A B) {v : Nat} (hv : Nn S v) (q : isR A v) : isR B v := by
  obtain ⟨c, m, b, mm, cc, ⟨k, k1, k2, k3, rfl⟩ | ⟨k1, rfl⟩⟩ := hn
  · exact isR_sub S h hv q
  · exact isR_add q
theorem AI_next {A B : aA} (h : AI S A) (hn : NextR S A B) (hs : Sep B) : AI S B := by
  have hk9 : ∀ {v : Nat}, Nn S v → ¬ isR B v → ¬ isR A v := fun hv q z => q (isR_keep S h hn hv z)
  have hr9 := AI_root S h
  obtain ⟨c, m, b, mm, cc, q⟩ := hn
  have anc := fun v a b => AI_anc S h v v (Nat.le_refl _) a b
  obtain ⟨i1, i2, i3, i4, i5, i6, i7, i8, i9⟩ := h
  obtain ⟨b1, b2, b3, k, b4, b5, b6⟩ := id b
  rcases q with ⟨kk, k1, k2, k3, rfl⟩ | ⟨k1, rfl⟩
  · refine ⟨cl_Cg S _ _ _, k2, i3, i4, i5, i6, fun j hj => ?_, fun j v hj hv hr => i8 j v hj hv (hk9 hv hr), fun j w hj hw hw2 hr e => ?_⟩
    · rcases i7 j hj with q | ⟨q1, k9, q2, q3, q4⟩
      · exact Or.inl q
      · exact Or.inr ⟨q1, k9, q2, cl_in S (Nn_half S q1 (i5 j hj).1) (i5 k9 q2).1 q3, q4⟩
    · have hw' := Nn_half S hw2 hw
      by_cases q : isR A (w / 2)
      · obtain ⟨i, hi, ei⟩ := q
        have e2 : i = j := hs i j hi hj ((cl_Cg S _ _ _).2.2.1 _ _ _ ((cl_Cg S _ _ _).2.1 _ _ (cl_in S hw' (i5 i hi).1 ei)) e)
        subst e2
        exact i9 i w hi hw hw2 (hk9 hw hr) ei
      · have := i8 j (w / 2) hj hw' q
        rw [lg2h hw2]
        show Nat.log2 (A.2.2.2 j) + 1 ≤ _
        omega
  · have hm1 : 1 ≤ m := by
      have := (i5 k b4).2.1
      omega
    have hlm : Nat.log2 m ≤ Nat.log2 c := by
      rw [b6, lg2 (i5 k b4).2.1 (by omega)]
      exact i9 k c b4 b1 b2 b3 b5
    have hm5 : m < 512 := by
      have h1 : Nat.log2 c < 9 := ww_log_lt (Nn_lt S b1).1 (Nn_lt S b1).2
      exact (Nat.log2_lt (by omega)).mp (show Nat.log2 m < 9 by omega)
    have hall : ∀ v, Nn S v → ¬ isR A v → Nat.log2 m ≤ Nat.log2 v := fun v hv hr => by
      obtain ⟨c', m', b', e'⟩ := anc v hv hr
      exact Nat.le_trans (lg2_le hm1 (mm c' m' b')) e'
    have rn : ∀ j, j < A.2.1 → upN A.2.2.1 A.2.1 c j = A.2.2.1 j := fun j hj => by rw [upN, if_neg (by omega)]
    have nn : ∀ j, j < A.2.1 → upN A.2.2.2 A.2.1 m j = A.2.2.2 j := fun j hj => by rw [upN, if_neg (by omega)]
    have rl : upN A.2.2.1 A.2.1 c A.2.1 = c := by rw [upN, if_pos rfl]
    have nl : upN A.2.2.2 A.2.1 m A.2.1 = m := by rw [upN, if_pos rfl]
    have new : ∀ j, j < A.2.1 → A.2.2.2 j ≠ m := fun j hj e => by
      rcases i7 j hj with ⟨_, q⟩ | ⟨q1, k9, q2, q3, q4⟩
      · have := (i5 k b4).2.1; omega
      · have e9 : A.2.2.2 k9 = A.2.2.2 k := by omega
        have e8 : k9 = k := i6 k9 k q2 b4 e9
        subst e8
        exact b3 ⟨j, hj, i1.half S b2 q1 b1 (i5 j hj).1 (by omega) (i1.2.2.1 _ _ _ b5 (i1.2.1 _ _ q3))⟩
    refine ⟨i1, i2, ?_, ?_, fun j hj => ?_, fun j k hj hk e => ?_, fun j hj => ?_, fun j v hj hv hr => ?_, fun j w hj hw hw2 hr e => ?_⟩
    · show 1 ≤ A.2.1 + 1; omega
    · show upN A.2.2.1 A.2.1 c 0 = 1
      rw [rn 0 (by omega)]; exact i4
    · show Nn S (upN A.2.2.1 A.2.1 c j) ∧ 1 ≤ upN A.2.2.2 A.2.1 m j ∧ upN A.2.2.2 A.2.1 m j < 512
      have hj : j < A.2.1 + 1 := hj
      by_cases q : j = A.2.1
      · rw [q, rl, nl]; exact ⟨b1, hm1, hm5⟩
      · rw [rn j (by omega), nn j (by omega)]; exact i5 j (by omega)
    · have hj : j < A.2.1 + 1 := hj
      have hk : k < A.2.1 + 1 := hk
      have e : upN A.2.2.2 A.2.1 m j = upN A.2.2.2 A.2.1 m k := e
      by_cases q : j = A.2.1 <;> by_cases q' : k = A.2.1
      · omega
      · rw [q, nl, nn k (by omega)] at e; exact absurd e.symm (new k (by omega))
      · rw [q', nl, nn j (by omega)] at e; exact absurd e (new j (by omega))
      · rw [nn j (by omega), nn k (by omega)] at e; exact i6 j k (by omega) (by omega) e
    · show (upN A.2.2.1 A.2.1 c j = 1 ∧ upN A.2.2.2 A.2.1 m j = 1) ∨ (2 ≤ upN A.2.2.1 A.2.1 c j ∧ ∃ k, k < A.2.1 + 1 ∧ A.1 (upN A.2.2.1 A.2.1 c j / 2) (upN A.2.2.1 A.2.1 c k) ∧ upN A.2.2.2 A.2.1 m j = 2 * upN A.2.2.2 A.2.1 m k + upN A.2.2.1 A.2.1 c j % 2)
      have hj : j < A.2.1 + 1 := hj
      by_cases q : j = A.2.1
      · rw [q, rl, nl]
        exact Or.inr ⟨b2, k, by omega, by rw [rn k b4]; exact b5, by rw [nn k b4]; exact b6⟩
      · rw [rn j (by omega), nn j (by omega)]
        rcases i7 j (by omega) with z | ⟨q1, k9, q2, q3, q4⟩
        · exact Or.inl z
        · exact Or.inr ⟨q1, k9, by omega, by rw [rn k9 q2]; exact q3, by rw [nn k9 q2]; exact q4⟩
    · have hj : j < A.2.1 + 1 := hj
      show Nat.log2 (upN A.2.2.2 A.2.1 m j) ≤ _
      by_cases q : j = A.2.1
      · rw [q, nl]; exact hall v hv (hk9 hv hr)
      · rw [nn j (by omega)]; exact i8 j v (by omega) hv (hk9 hv hr)
    · have hj : j < A.2.1 + 1 := hj
      have e : A.1 (w / 2) (upN A.2.2.1 A.2.1 c j) := e
      show Nat.log2 (upN A.2.2.2 A.2.1 m j) + 1 ≤ _
      by_cases q : j = A.2.1
      · rw [q, rl] at e
        rw [q, nl, lg2h hw2]
        have := hall (w / 2) (Nn_half S hw2 hw) (fun ⟨i, hi, ei⟩ => b3 ⟨i, hi, i1.2.2.1 _ _ _ (i1.2.1 _ _ e) ei⟩)
        omega
      · rw [rn j (by omega)] at e
        rw [nn j (by omega)]; exact i9 j w (by omega) hw hw2 (hk9 hw hr) e
/-- a round makes fewer nodes that aren't red -/
theorem AI_less {A B : aA} (h : AI S A) (hn : NextR S A B) : fN (fun v => Nn S v ∧ ¬ isR B v) 512 < fN (fun v => Nn S v ∧ ¬ isR A v) 512 := by
  have hk := fun v (hv : Nn S v) => isR_keep S h hn (v := v) hv
  obtain ⟨c, m, b, mm, cc, q⟩ := hn
  have hB : isR B c := by
    rcases q with ⟨k, k1, k2, k3, rfl⟩ | ⟨k1, rfl⟩
    · exact ⟨k, k1, (cl_Cg S _ _ _).2.1 _ _ (cl_ab S)⟩
    · refine ⟨A.2.1, Nat.lt_succ_self _, ?_⟩
      show A.1 c (upN A.2.2.1 A.2.1 c A.2.1)
      rw [upN, if_pos rfl]
      exact h.1.1 c b.1
  exact fN_lt (fun v q => ⟨q.1, fun z => q.2 (hk v q.1 z)⟩) (c := c) ⟨b.1, b.2.2.1⟩ (fun q => q.2 hB) 512 (Nn_lt S b.1).2
theorem AI_it (hs : ∀ i, i ≤ 512 → Sep (it S i)) : ∀ i, i ≤ 512 → AI S (it S i) := by
  intro i
  induction i with
  | zero => intro _; exact AI_0 S
  | succ i ih =>
    intro hi
    by_cases q : ∃ c m, BlueAt S (it S i) c m
    · obtain ⟨B, hB⟩ := next_ex S q
      have e : it S (i + 1) = B := (it_s S i).trans (stp_next S hB)
      rw [e]
      exact AI_next S (ih (by omega)) hB (by rw [← e]; exact hs _ hi)
    · have e : it S (i + 1) = it S i := (it_s S i).trans (stp_no S (fun c m z => q ⟨c, m, z⟩))
      rw [e]
      exact ih (by omega)
theorem it_end (hs : ∀ i, i ≤ 512 → Sep (it S i)) : ∀ c m, ¬ BlueAt S (it S 512) c m := by
  intro c m hb
  have hai := AI_it S hs
  have all : ∀ i, i ≤ 512 → ∃ c m, BlueAt S (it S i) c m := fun i hi => Classical.byContradiction fun z => by
    have e := it_fix' S hi (fun c m q => z ⟨c, m, q⟩)
    rw [e] at hb
    exact z ⟨c, m, hb⟩
  have dec : ∀ i, i ≤ 512 → fN (fun v => Nn S v ∧ ¬ isR (it S i) v) 512 + i ≤ 512 := by
    intro i
    induction i with
    | zero =>
      intro _
      have := fN_le (fun v => Nn S v ∧ ¬ isR (it S 0) v) 512
      omega
    | succ i ih =>
      intro hi
      obtain ⟨B, hB⟩ := next_ex S (all i (by omega))
      have e : it S (i + 1) = B := (it_s S i).trans (stp_next S hB)
      have := AI_less S (hai i (by omega)) hB
      have := ih (by omega)
      rw [e]
      omega
  have h5 := dec 512 (Nat.le_refl _)
  obtain ⟨B, hB⟩ := next_ex S ⟨c, m, hb⟩
  have := AI_less S (hai 512 (Nat.le_refl _)) hB
  omega
/-- signs and arrows of what is learned -/
def FA (A : aA) (sg ar : Nat → Int32) : Prop := (∀ k, k < A.2.1 → (∀ v, Nn S v → A.1 v (A.2.2.1 k) → ¬ S v = 0 → sg k = S v) ∧ ((∀ v, Nn S v → A.1 v (A.2.2.1 k) → S v = 0) → sg k = 0)) ∧
  ∀ k l, k < A.2.1 → l < 2 → (∀ v j, 1 ≤ v → Nn S (2 * v + l) → A.1 v (A.2.2.1 k) → j < A.2.1 → A.1 (2 * v + l) (A.2.2.1 j) → ar (2 * k + l) = nI j) ∧ ((∀ v, 1 ≤ v → Nn S (2 * v + l) → ¬ A.1 v (A.2.2.1 k)) → ar (2 * k + l) = -1)
theorem FA_uni {A : aA} {sg ar sg' ar' : Nat → Int32} (hA : ∀ c m, ¬ BlueAt S A c m) (h : FA S A sg ar) (h' : FA S A sg' ar') : (∀ k, k < A.2.1 → sg k = sg' k) ∧ ∀ i, i < 2 * A.2.1 → ar i = ar' i := by
  refine ⟨fun k hk => ?_, fun i hi => ?_⟩
  · by_cases q : ∃ v, Nn S v ∧ A.1 v (A.2.2.1 k) ∧ ¬ S v = 0
    · obtain ⟨v, q1, q2, q3⟩ := q
      rw [(h.1 k hk).1 v q1 q2 q3, (h'.1 k hk).1 v q1 q2 q3]
    · have z : ∀ v, Nn S v → A.1 v (A.2.2.1 k) → S v = 0 := fun v a b => Classical.byContradiction fun c => q ⟨v, a, b, c⟩
      rw [(h.1 k hk).2 z, (h'.1 k hk).2 z]
  · have e : i = 2 * (i / 2) + i % 2 := by omega
    have f1 := h.2 (i / 2) (i % 2) (by omega) (by omega)
    have f2 := h'.2 (i / 2) (i % 2) (by omega) (by omega)
    rw [← e] at f1 f2
    by_cases q : ∃ v, 1 ≤ v ∧ Nn S (2 * v + i % 2) ∧ A.1 v (A.2.2.1 (i / 2))
    · obtain ⟨v, q1, q2, q3⟩ := q
      have hr : isR A (2 * v + i % 2) := Classical.byContradiction fun z => hA _ _ ⟨q2, by omega, z, i / 2, by omega, by rw [show (2 * v + i % 2) / 2 = v by omega]; exact q3, rfl⟩
      obtain ⟨j, hj, ej⟩ := hr
      rw [f1.1 v j q1 q2 q3 hj ej, f2.1 v j q1 q2 q3 hj ej]
    · have z : ∀ v, 1 ≤ v → Nn S (2 * v + i % 2) → ¬ A.1 v (A.2.2.1 (i / 2)) := fun v a b c => q ⟨v, a, b, c⟩
      rw [f1.2 z, f2.2 z]
theorem AI_n {A : aA} (h : AI S A) (hs : Sep A) : A.2.1 ≤ 511 := by
  have := pigeon 511 A.2.1 (fun k => A.2.2.1 k - 1) (fun k hk => by
    have := Nn_lt S (h.2.2.2.2.1 k hk).1
    show A.2.2.1 k - 1 < 511
    omega) (fun j k hj hk e => by
    have hj' := h.2.2.2.2.1 j hj
    have a := Nn_lt S hj'.1
    have b := Nn_lt S (h.2.2.2.2.1 k hk).1
    have e : A.2.2.1 j - 1 = A.2.2.1 k - 1 := e
    refine hs j k hj hk ?_
    rw [show A.2.2.1 k = A.2.2.1 j by omega]
    exact h.1.1 _ hj'.1)
  exact this
end LM
