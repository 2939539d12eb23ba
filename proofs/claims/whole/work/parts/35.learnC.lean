/-! learn in the class -/
def RdB (a : Nat → Nat) (A : aA) (x : Nat) : Prop := ∃ k, k < A.2.1 ∧ ld a 1 (A.2.2.1 k) = x
/-- the merger's rows hold the state A of learning -/
def CI (S : Nat → Int32) (σ : pw_Mem) (A : aA) (a : Nat → Nat) : Prop := cA σ a ∧ QI S a (σ 4) (RdB a A) A.1 ∧ (σ 3 5 = nI A.2.1 ∧ ∀ k, k < A.2.1 → σ 6 k = nI (ld a 1 (A.2.2.1 k)) ∧ σ 7 k = nI (A.2.2.2 k)) ∧ ((∀ k, k < A.2.1 → σ 8 (ld a 1 (A.2.2.1 k)) = nI k) ∧ (∀ x, Lv S a x → ¬ RdB a A x → σ 8 x = -1) ∧ σ 8 0 = -1) ∧ AI S A ∧ A.2.1 ≤ 511 ∧ Sep A
section HLC
variable {g : pw_G} {σ : pw_Mem} {Q : pw_R → Prop} {S : Nat → Int32} {a : Nat → Nat} {A : aA}
theorem CI.lim (h : CI S σ A a) {k : Nat} (hk : k < A.2.1) : 1 ≤ ld a 1 (A.2.2.1 k) ∧ ld a 1 (A.2.2.1 k) < 512 := h.2.1.1 _ (h.2.2.2.2.1.2.2.2.2.1 k hk).1
theorem CI.lv (h : CI S σ A a) {k : Nat} (hk : k < A.2.1) : Lv S a (ld a 1 (A.2.2.1 k)) := ⟨_, (h.2.2.2.2.1.2.2.2.2.1 k hk).1, rfl⟩
theorem CI.isR (h : CI S σ A a) {v : Nat} (hv : Nn S v) : isR A v ↔ RdB a A (ld a 1 v) := by
  constructor
  · rintro ⟨j, hj, e⟩
    exact ⟨j, hj, ((h.2.1.2.2.2.2.1 _ _ hv (h.2.2.2.2.1.2.2.2.2.1 j hj).1).mp e).symm⟩
  · rintro ⟨j, hj, e⟩
    exact ⟨j, hj, (h.2.1.2.2.2.2.1 _ _ hv (h.2.2.2.2.1.2.2.2.2.1 j hj).1).mpr e.symm⟩
/-- the same state where the rows are the same -/
theorem CI.same {σ2 : pw_Mem} (h : CI S σ A a) (R : mrf σ σ2) (e4 : σ2 4 = σ 4) (e5 : ∀ i, i < 1024 → σ2 5 i = σ 5 i) : CI S σ2 A a := by
  obtain ⟨h1, h2, h3, h4, h5, h6, h7⟩ := h
  refine ⟨fun i hi => by rw [e5 i hi]; exact h1 i hi, by rw [e4]; exact h2, ?_, ?_, h5, h6, h7⟩
  · rw [R.2 5 (by decide) (by decide) (by decide), R.1 6 (by decide), R.1 7 (by decide)]; exact h3
  · rw [R.1 8 (by decide)]; exact h4
/-- an arrow of a red block leads to a blue one -/
def Bq (a : Nat → Nat) (A : aA) (s : Nat) : Prop := ¬ a (2 * ld a 1 (A.2.2.1 (s / 2)) + s % 2) = 0 ∧ ¬ RdB a A (a (2 * ld a 1 (A.2.2.1 (s / 2)) + s % 2))
theorem Bq_node (h : CI S σ A a) {s : Nat} (hs : s < 2 * A.2.1) (hb : Bq a A s) : ∃ c, BlueAt S A c (2 * A.2.2.2 (s / 2) + s % 2) ∧ ld a 1 (c / 2) = ld a 1 (A.2.2.1 (s / 2)) ∧ c % 2 = s % 2 := by
  have hk : s / 2 < A.2.1 := by omega
  have hl : s % 2 < 2 := Nat.mod_lt _ (by decide)
  obtain ⟨v, v1, v2, v3⟩ := h.2.1.2.1 _ _ hl (h.lv hk) hb.1
  have nv := Nn_up S v1 hl v2
  have ec : (2 * v + s % 2) / 2 = v := by omega
  have em : (2 * v + s % 2) % 2 = s % 2 := by omega
  refine ⟨2 * v + s % 2, ⟨v2, by omega, fun z => hb.2 ?_, s / 2, hk, ?_, by rw [em]⟩, by rw [ec]; exact v3, em⟩
  · have := (h.isR v2).mp z
    rw [ld_st a 1 v1 hl, v3] at this
    exact this
  · rw [ec]
    exact (h.2.1.2.2.2.2.1 _ _ nv (h.2.2.2.2.1.2.2.2.2.1 _ hk).1).mpr v3
theorem Bq_of (h : CI S σ A a) {c m : Nat} (hb : BlueAt S A c m) : ∃ s, s < 2 * A.2.1 ∧ Bq a A s ∧ m = 2 * A.2.2.2 (s / 2) + s % 2 ∧ ld a 1 (c / 2) = ld a 1 (A.2.2.1 (s / 2)) ∧ c % 2 = s % 2 := by
  obtain ⟨b1, b2, b3, k, b4, b5, b6⟩ := hb
  have nh := Nn_half S b2 b1
  have hl : c % 2 < 2 := Nat.mod_lt _ (by decide)
  have e1 : (2 * k + c % 2) / 2 = k := by omega
  have e2 : (2 * k + c % 2) % 2 = c % 2 := by omega
  have ed := (h.2.1.2.2.2.2.1 _ _ nh (h.2.2.2.2.1.2.2.2.2.1 k b4).1).mp b5
  have ec : ld a 1 c = a (2 * ld a 1 (A.2.2.1 k) + c % 2) := by rw [ld_2 _ _ b2, ed]
  refine ⟨2 * k + c % 2, by omega, ⟨?_, ?_⟩, by rw [e1, e2]; exact b6, by rw [e1]; exact ed, by rw [e2]⟩
  · rw [e1, e2, ← ec]
    have := (h.2.1.1 c b1).1
    omega
  · rw [e1, e2, ← ec]
    exact fun z => b3 ((h.isR b1).mpr z)
/-- the first arrow that was found among the first T -/
def FBi (a : Nat → Nat) (A : aA) (f T : Nat) : Prop := (f = 0 ∧ ∀ s, s < T → ¬ Bq a A s) ∨ ∃ s, s < T ∧ Bq a A s ∧ f = 2 * ld a 1 (A.2.2.1 (s / 2)) + s % 2 ∧ ∀ s', s' < T → Bq a A s' → 2 * A.2.2.2 (s / 2) + s % 2 ≤ 2 * A.2.2.2 (s' / 2) + s' % 2
theorem c_nameBehind (h : CI S σ A a) {k l : Nat} (hk : k < A.2.1) (hl : l < 2) (q : Q (.inl (some (.int (nI (2 * A.2.2.2 k + l)))), σ)) : WP g mX2_nameBehind 0 [(0, .ref (pw_ad g 3)), (1, .int (nI (2 * ld a 1 (A.2.2.1 k) + l)))] [] 0 σ Q := by
  have lim := h.lim hk
  have hn := h.2.2.2.2.2.1
  have e1 : nI (2 * ld a 1 (A.2.2.1 k) + l) / (2 : Int32) = nI (ld a 1 (A.2.2.1 k)) := by rw [ww_2, pk_div (by omega) (by omega) (by omega), show (2 * ld a 1 (A.2.2.1 k) + l) / 2 = ld a 1 (A.2.2.1 k) by omega]
  have e2 : nI (2 * ld a 1 (A.2.2.1 k) + l) - nI (2 * ld a 1 (A.2.2.1 k) + l) / (2 : Int32) * (2 : Int32) = nI l := by rw [ww_2, pk_rem (by omega) (by omega) (by omega), show (2 * ld a 1 (A.2.2.1 k) + l) % 2 = l by omega]
  have e8 : σ 8 (nI (ld a 1 (A.2.2.1 k))).toNatClampNeg = nI k := by rw [nI_clamp (by omega)]; exact h.2.2.2.1.1 k hk
  refine bX2_nameBehind_0 (by rw [e1]; exact vp_in_nI (by omega) (by decide)) (by rw [e1, e8]; exact vp_in_nI (by omega) (by decide)) ?_
  rw [e2, e1, e8, nI_clamp (by omega), (h.2.2.1.2 k hk).2, ar2]
  exact q
theorem c_firstArrow (h : CI S σ A a) (q : ∀ f, FBi a A f (2 * A.2.1) → Q (.inl (some (.int (nI f))), σ)) : WP g mX2_firstArrowToBlue 0 [(0, .ref (pw_ad g 3))] [] 0 σ Q := by
  have hn := h.2.2.2.2.2.1
  have e35 := h.2.2.1.1
  have inner : ∀ i, i < A.2.1 → (∀ f, FBi a A f (2 * (i + 1)) → WP g mX2_firstArrowToBlue 4 [(0, .ref (pw_ad g 3)), (1, .int (nI f)), (2, .int (nI (i + 1)))] [] 0 σ Q) → ∀ n l, l + n = 2 → ∀ f, FBi a A f (2 * i + l) → WP g mX2_firstArrowToBlue 14 [(0, .ref (pw_ad g 3)), (1, .int (nI f)), (2, .int (nI i)), (3, .int (nI l))] [] 0 σ Q := by
    intro i hi next n
    induction n with
    | zero =>
      intro l hl f hf
      have hl : l = 2 := by omega
      subst hl
      refine bX2_firstArrowToBlue_14 (fun _ => ?_) (fun a => absurd (by decide) a) (fun a => absurd (by decide) a)
      rw [show nI i + 1 = nI (i + 1) from nI_1 i]
      exact wp_sub [0, 1, 2] rfl (next f (by rw [show 2 * (i + 1) = 2 * i + 2 by omega]; exact hf))
    | succ n ih =>
      intro l hl f hf
      have hl2 : l < 2 := by omega
      have lim := h.lim hi
      have es : (2 * i + l) / 2 = i := by omega
      have el : (2 * i + l) % 2 = l := by omega
      obtain ⟨e5, b5⟩ := h.1 (2 * ld a 1 (A.2.2.1 i) + l) (by omega)
      have hin : vp_in (nI (2 * ld a 1 (A.2.2.1 i) + l)) 1024 := vp_in_nI (by omega) (by decide)
      have hcl : (nI (2 * ld a 1 (A.2.2.1 i) + l)).toNatClampNeg = 2 * ld a 1 (A.2.2.1 i) + l := nI_clamp (by omega)
      have e9 : nI l + 1 = nI (l + 1) := nI_1 l
      refine bX2_firstArrowToBlue_14 (fun a => absurd a (nI_ge (b := 2) (by omega) (by decide))) (fun _ => vp_in_nI (by omega) (by decide)) (fun _ => ?_)
      rw [nI_clamp (by omega), (h.2.2.1.2 i hi).1, ar2]
      have no : ¬ Bq a A (2 * i + l) → WP g mX2_firstArrowToBlue 37 [(0, .ref (pw_ad g 3)), (1, .int (nI f)), (2, .int (nI i)), (3, .int (nI l)), (4, .int (nI (2 * ld a 1 (A.2.2.1 i) + l)))] [.int 0] 0 σ Q := by
        intro hb
        refine bX2_firstArrowToBlue_37 (fun _ => ?_) (fun a => absurd rfl a) (fun a => absurd rfl a)
        rw [e9]
        refine wp_sub [0, 1, 2, 3] rfl (ih (l + 1) (by omega) f ?_)
        rcases hf with ⟨f0, f1⟩ | ⟨s, s1, s2, s3, s4⟩
        · refine Or.inl ⟨f0, fun s hs => ?_⟩
          by_cases z : s = 2 * i + l
          · rw [z]; exact hb
          · exact f1 s (by omega)
        · refine Or.inr ⟨s, by omega, s2, s3, fun s' hs' b' => ?_⟩
          by_cases z : s' = 2 * i + l
          · rw [z] at b'; exact absurd b' hb
          · exact s4 s' (by omega) b'
      have yes : Bq a A (2 * i + l) → WP g mX2_firstArrowToBlue 37 [(0, .ref (pw_ad g 3)), (1, .int (nI f)), (2, .int (nI i)), (3, .int (nI l)), (4, .int (nI (2 * ld a 1 (A.2.2.1 i) + l)))] [.int 1] 0 σ Q := by
        intro hb
        have take : (∀ s', s' < 2 * i + l → Bq a A s' → 2 * A.2.2.2 i + l ≤ 2 * A.2.2.2 (s' / 2) + s' % 2) → FBi a A (2 * ld a 1 (A.2.2.1 i) + l) (2 * i + (l + 1)) := fun hmin => by
          refine Or.inr ⟨2 * i + l, by omega, hb, by rw [es, el], fun s' hs' b' => ?_⟩
          rw [es, el]
          by_cases z : s' = 2 * i + l
          · rw [z, es, el]; omega
          · exact hmin s' (by omega) b'
        refine bX2_firstArrowToBlue_37 (fun a => absurd a (by decide)) (fun _ a => ?_) (fun _ a => ?_)
        · rw [e9]
          refine wp_sub [0, 1, 2, 3] rfl (ih (l + 1) (by omega) _ (take ?_))
          rcases hf with ⟨f0, f1⟩ | ⟨s, s1, s2, s3, s4⟩
          · exact fun s' hs' b' => absurd b' (f1 s' hs')
          · have := h.lim (k := s / 2) (by omega)
            have hf2 := (nI_z (by omega)).mp a
            omega
        · rcases hf with ⟨f0, f1⟩ | ⟨s, s1, s2, s3, s4⟩
          · exact absurd (by rw [f0]; rfl) a
          · have hs2 : s / 2 < A.2.1 := by omega
            have hm := h.2.2.2.2.1.2.2.2.2.1 (s / 2) hs2
            have hm' := h.2.2.2.2.1.2.2.2.2.1 i hi
            refine c_nameBehind h hi hl2 (bX2_firstArrowToBlue_50 ?_)
            rw [s3]
            refine c_nameBehind h hs2 (by omega) (bX2_firstArrowToBlue_55 (fun z => ?_) (fun z => ?_))
            · have z := (nI_leI (by omega) (by omega)).mp z
              rw [e9]
              refine wp_sub [0, 1, 2, 3] rfl (ih (l + 1) (by omega) _ (Or.inr ⟨s, by omega, s2, rfl, fun s' hs' b' => ?_⟩))
              by_cases y : s' = 2 * i + l
              · rw [y, es, el]; exact z
              · exact s4 s' (by omega) b'
            · have z : 2 * A.2.2.2 i + l < 2 * A.2.2.2 (s / 2) + s % 2 := by
                rcases Nat.lt_or_ge (2 * A.2.2.2 i + l) (2 * A.2.2.2 (s / 2) + s % 2) with y | y
                · exact y
                · exact absurd (nI_le y (by omega)) z
              rw [e9]
              refine wp_sub [0, 1, 2, 3] rfl (ih (l + 1) (by omega) _ (take (fun s' hs' b' => ?_)))
              have := s4 s' hs' b'
              omega
      refine bX2_leadsToBlue_0 hin (fun z => no ?_) (fun _ => hin) (fun _ => by rw [hcl, e5]; exact vp_in_nI b5 (by decide)) (fun z1 z2 => no ?_) (fun z1 z2 => yes ?_)
      · rw [hcl, e5, nI_z (by omega)] at z
        intro hb
        have := hb.1
        rw [es, el] at this
        exact this z
      · rw [hcl, e5, nI_z (by omega)] at z1
        rw [hcl, e5, nI_clamp (by omega)] at z2
        intro hb
        have hb2 := hb.2
        rw [es, el] at hb2
        exact z2 (h.2.2.2.1.2.1 _ (h.2.1.lv hl2 (h.lv hi) z1) hb2)
      · rw [hcl, e5, nI_z (by omega)] at z1
        rw [hcl, e5, nI_clamp (by omega)] at z2
        refine ⟨by rw [es, el]; exact z1, ?_⟩
        rw [es, el]
        rintro ⟨k, hk, ek⟩
        rw [← ek, h.2.2.2.1.1 k hk] at z2
        exact nI_m1 (by omega) z2
  have outer : ∀ n i, i + n = A.2.1 → ∀ f, FBi a A f (2 * i) → WP g mX2_firstArrowToBlue 4 [(0, .ref (pw_ad g 3)), (1, .int (nI f)), (2, .int (nI i))] [] 0 σ Q := by
    intro n
    induction n with
    | zero =>
      intro i hi f hf
      refine bX2_firstArrowToBlue_4 (fun _ => q f (by rw [show A.2.1 = i by omega]; exact hf)) (fun a => absurd (by rw [e35]; exact nI_le (by omega) (by omega)) a)
    | succ n ih =>
      intro i hi f hf
      refine bX2_firstArrowToBlue_4 (fun a => absurd a (by rw [e35]; exact nI_ge (by omega) (by omega))) (fun _ => ?_)
      exact inner i (by omega) (fun f hf => ih (i + 1) (by omega) f hf) 2 0 rfl f hf
  exact bX2_firstArrowToBlue_0 (outer A.2.1 0 (by omega) 0 (Or.inl ⟨rfl, fun s hs => by omega⟩))
def lfr : List Nat := [3, 4, 5, 6, 7, 8, 9, 10, 11, 12]
theorem c_settle (ok : okS S) (h : CI S σ A a) {s : Nat} (hs : s < 2 * A.2.1) (hb : Bq a A s) (hmin : ∀ s', s' < 2 * A.2.1 → Bq a A s' → 2 * A.2.2.2 (s / 2) + s % 2 ≤ 2 * A.2.2.2 (s' / 2) + s' % 2)
    (q : ∀ σ' B b, fr lfr σ σ' → NextR S A B → CI S σ' B b → Q (.inl none, σ')) : WP g mX2_settle 0 [(0, .ref (pw_ad g 3)), (1, .int (nI (2 * ld a 1 (A.2.2.1 (s / 2)) + s % 2)))] [] 0 σ Q := by
  have hk : s / 2 < A.2.1 := by omega
  have hl : s % 2 < 2 := Nat.mod_lt _ (by decide)
  have lim := h.lim hk
  obtain ⟨c1, hc1, _, _⟩ := Bq_node h hs hb
  generalize hm9 : 2 * A.2.2.2 (s / 2) + s % 2 = m at *
  obtain ⟨c, hc, hcl⟩ := pk_least (fun c => BlueAt S A c m) ⟨c1, hc1⟩
  have hleast : ∀ c', BlueAt S A c' m → c ≤ c' := fun c' z => by
    rcases Nat.lt_or_ge c' c with y | y
    · exact absurd z (hcl c' y)
    · exact y
  have hmm : ∀ c' m', BlueAt S A c' m' → m ≤ m' := fun c' m' z => by
    obtain ⟨s', z1, z2, z3, _⟩ := Bq_of h z
    rw [z3]; exact hmin s' z1 z2
  -- c hangs behind the red block of s
  obtain ⟨i1, i2, i3, i4, i5, i6, i7, i8, i9⟩ := id h.2.2.2.2.1
  obtain ⟨b1, b2, b3, kc, b4, b5, b6⟩ := id hc
  have ekc : kc = s / 2 := i6 kc (s / 2) b4 hk (by omega)
  have elc : c % 2 = s % 2 := by omega
  subst ekc
  have nh := Nn_half S b2 b1
  have ed : ld a 1 (c / 2) = ld a 1 (A.2.2.1 (s / 2)) := (h.2.1.2.2.2.2.1 _ _ nh (i5 _ hk).1).mp b5
  have ec : ld a 1 c = a (2 * ld a 1 (A.2.2.1 (s / 2)) + s % 2) := by rw [ld_2 _ _ b2, ed, elc]
  have rroot : RdB a A 1 := ⟨0, by omega, by rw [i4, ld_1 _ _ (Nat.le_refl 1)]⟩
  have mi : ∀ σ1 : pw_Mem, σ1 4 = σ 4 → ∀ p, p < A.2.1 → MI S a (σ1 4) (RdB a A) A.1 (ld a 1 (A.2.2.1 (s / 2))) (s % 2) (ld a 1 (A.2.2.1 p)) (A.2.2.1 p) c := fun σ1 e4 p hp =>
    ⟨by rw [e4]; exact h.2.1, rroot, hl, h.lv hk, ⟨_, hk, rfl⟩, hb.1, hb.2, ⟨p, hp, rfl⟩, (i5 p hp).1, rfl, b1, b2, ed, elc⟩
  have loop : ∀ n p, p + n = A.2.1 → ∀ σ1, mrf σ σ1 → σ1 4 = σ 4 → (∀ i, i < 1024 → σ1 5 i = σ 5 i) → (∀ j, j < p → ¬ Cons S (cl S A.1 (A.2.2.1 j) c)) → WP g mX2_settle 2 [(0, .ref (pw_ad g 3)), (1, .int (nI (2 * ld a 1 (A.2.2.1 (s / 2)) + s % 2))), (2, .int (nI p))] [] 0 σ1 Q := by
    intro n
    induction n with
    | zero =>
      intro p hp σ1 R e4 e5 hno
      have h1 := h.same R e4 e5
      have hn := h1.2.2.2.2.2.1
      have hle : σ1 3 5 ≤ nI p := by rw [h1.2.2.1.1]; exact nI_le (by omega) (by omega)
      obtain ⟨a5, d5⟩ := h1.1 (2 * ld a 1 (A.2.2.1 (s / 2)) + s % 2) (by omega)
      refine bX2_settle_2 (fun _ => vp_in_nI (by omega) (by decide)) (fun _ => c_nameBehind h1 hk hl (bX2_settle_43 ?_)) (fun z => absurd hle z) (fun z => absurd hle z)
      rw [hm9, nI_clamp (by omega), a5, ← ec]
      have clim := h.2.1.1 c b1
      refine bX2_redden_0 (by rw [h1.2.2.1.1]; exact vp_in_nI (by omega) (by decide)) (by rw [h1.2.2.1.1]; exact vp_in_nI (by omega) (by decide)) (vp_in_nI (by omega) (by decide)) (bX2_settle_46 ?_)
      rw [h1.2.2.1.1, nI_clamp (by omega), nI_clamp (by omega), show nI A.2.1 + (1 : Int32) = nI (A.2.1 + 1) from nI_1 _]
      generalize hB : ((A.1, A.2.1 + 1, upN A.2.2.1 A.2.1 c, upN A.2.2.2 A.2.1 m) : aA) = B
      have B1 : B.1 = A.1 := by rw [← hB]
      have Bn : B.2.1 = A.2.1 + 1 := by rw [← hB]
      have rn : ∀ j, j < A.2.1 → B.2.2.1 j = A.2.2.1 j := fun j hj => by rw [← hB]; show upN _ _ _ j = _; rw [upN, if_neg (by omega)]
      have rl : B.2.2.1 A.2.1 = c := by rw [← hB]; show upN _ _ _ _ = _; rw [upN, if_pos rfl]
      have nn : ∀ j, j < A.2.1 → B.2.2.2 j = A.2.2.2 j := fun j hj => by rw [← hB]; show upN _ _ _ j = _; rw [upN, if_neg (by omega)]
      have nl : B.2.2.2 A.2.1 = m := by rw [← hB]; show upN _ _ _ _ = _; rw [upN, if_pos rfl]
      have hN : NextR S A B := ⟨c, m, hc, hmm, hleast, Or.inr ⟨fun k hk => hno k (by omega), hB.symm⟩⟩
      have rc : ¬ RdB a A (ld a 1 c) := fun z => b3 ((h.isR b1).mpr z)
      have rd : ∀ x, RdB a B x ↔ RdB a A x ∨ x = ld a 1 c := fun x => by
        constructor
        · rintro ⟨k, hk, e⟩
          rw [Bn] at hk
          by_cases z : k = A.2.1
          · rw [z, rl] at e; exact Or.inr e.symm
          · rw [rn k (by omega)] at e; exact Or.inl ⟨k, by omega, e⟩
        · rintro (⟨k, hk, e⟩ | e)
          · exact ⟨k, by omega, by rw [rn k hk]; exact e⟩
          · exact ⟨A.2.1, by omega, by rw [rl]; exact e.symm⟩
      have hsep : Sep B := by
        intro j k hj hk e
        rw [Bn] at hj hk
        rw [B1] at e
        by_cases z : j = A.2.1 <;> by_cases z' : k = A.2.1
        · omega
        · rw [z, rl, rn k (by omega)] at e
          exact absurd ⟨k, by omega, e⟩ b3
        · rw [z', rl, rn j (by omega)] at e
          exact absurd ⟨j, by omega, i1.2.1 _ _ e⟩ b3
        · rw [rn j (by omega), rn k (by omega)] at e
          exact h.2.2.2.2.2.2 j k (by omega) (by omega) e
      have hAI := AI_next S h.2.2.2.2.1 hN hsep
      obtain ⟨q1, q2, q3, q4, q5, q6, q7⟩ := h.2.1
      refine q _ B a ?_ hN ⟨fun i hi => ?_, ⟨q1, q2, ?_, ?_, by rw [B1]; exact q5, fun v w hv hw v2 w2 e hr => ?_, fun v hv v2 hr => ?_⟩, ⟨?_, fun k hk9 => ?_⟩, ⟨fun k hk9 => ?_, fun x hx hr => ?_, ?_⟩, hAI, AI_n S hAI hsep, hsep⟩
      · exact ((((R.1.mono (by decide)).set (by decide)).set (by decide)).set (by decide)).set (by decide)
      · rw [ms_ne _ _ _ _ _ (by decide), ms_ne _ _ _ _ _ (by decide), ms_ne _ _ _ _ _ (by decide), ms_ne _ _ _ _ _ (by decide)]; exact h1.1 i hi
      · rw [pw_set_ne _ _ _ _ (by decide), pw_set_ne _ _ _ _ (by decide), pw_set_ne _ _ _ _ (by decide), pw_set_ne _ _ _ _ (by decide), e4]; exact q3
      · rw [pw_set_ne _ _ _ _ (by decide), pw_set_ne _ _ _ _ (by decide), pw_set_ne _ _ _ _ (by decide), pw_set_ne _ _ _ _ (by decide), e4]; exact q4
      · exact q6 v w hv hw v2 w2 e (fun z => hr ((rd _).mpr (Or.inl z)))
      · have r1 : ¬ RdB a A (ld a 1 (v / 2)) := fun z => hr ((rd _).mpr (Or.inl z))
        intro z
        rcases (rd _).mp z with y | y
        · exact q7 v hv v2 r1 y
        · have := (q6 v c hv b1 v2 b2 y (by rw [y]; exact rc)).1
          rw [this, ed] at r1
          exact r1 ⟨_, hk, rfl⟩
      · rw [ms_same, Bn]
      · rw [Bn] at hk9
        rw [ms_ne _ _ _ _ _ (show (6 : Nat) ≠ 3 by decide), ms_ne _ _ _ _ _ (show (6 : Nat) ≠ 8 by decide), ms_ne _ _ _ _ _ (show (6 : Nat) ≠ 7 by decide), ms_eq, ms_ne _ _ _ _ _ (show (7 : Nat) ≠ 3 by decide), ms_ne _ _ _ _ _ (show (7 : Nat) ≠ 8 by decide), ms_eq, ms_ne _ _ _ _ _ (show (7 : Nat) ≠ 6 by decide)]
        by_cases z : k = A.2.1
        · rw [if_pos z, if_pos z, z, rl, nl]; exact ⟨rfl, rfl⟩
        · rw [if_neg z, if_neg z, rn k (by omega), nn k (by omega)]; exact h1.2.2.1.2 k (by omega)
      · rw [Bn] at hk9
        rw [ms_ne _ _ _ _ _ (by decide), ms_eq]
        by_cases z : k = A.2.1
        · rw [if_pos (by rw [z, rl]), z]
        · rw [rn k (by omega), if_neg (fun e => rc ⟨k, by omega, e⟩), ms_ne _ _ _ _ _ (by decide), ms_ne _ _ _ _ _ (by decide)]
          exact h1.2.2.2.1.1 k (by omega)
      · have hx2 : ¬ x = ld a 1 c := fun z => hr ((rd _).mpr (Or.inr z))
        rw [ms_ne _ _ _ _ _ (by decide), ms_eq, if_neg hx2, ms_ne _ _ _ _ _ (by decide), ms_ne _ _ _ _ _ (by decide)]
        exact h1.2.2.2.1.2.1 x hx (fun z => hr ((rd _).mpr (Or.inl z)))
      · rw [ms_ne _ _ _ _ _ (by decide), ms_eq, if_neg (by omega), ms_ne _ _ _ _ _ (by decide), ms_ne _ _ _ _ _ (by decide)]
        exact h1.2.2.2.1.2.2
    | succ n ih =>
      intro p hp σ1 R e4 e5 hno
      have h1 := h.same R e4 e5
      have hn := h1.2.2.2.2.2.1
      have hpn : p < A.2.1 := by omega
      have hge : ¬ σ1 3 5 ≤ nI p := by rw [h1.2.2.1.1]; exact nI_ge (by omega) (by omega)
      refine bX2_settle_2 (fun z => absurd z hge) (fun z => absurd z hge) (fun _ => vp_in_nI (by omega) (by decide)) (fun _ => ?_)
      rw [nI_clamp (by omega), (h1.2.2.1.2 p hpn).1]
      refine c_merges ok (mi σ1 e4 p hpn) h1.1 (fun σ2 b R2 A2 Q2 hcons hlv hrd => ?_) (fun σ2 hnc R2 e4' e5' => ?_)
      · refine bX2_settle_21 (fun z => absurd z (by decide)) (fun _ => ?_)
        have hN : NextR S A (cl S A.1 (A.2.2.1 p) c, A.2) := ⟨c, m, hc, hmm, hleast, Or.inl ⟨p, hpn, hcons, hno, rfl⟩⟩
        have er : ∀ k, k < A.2.1 → ld b 1 (A.2.2.1 k) = ld a 1 (A.2.2.1 k) := fun k hk => hrd _ (i5 k hk).1 ⟨k, hk, rfl⟩
        have rd : RdB b (cl S A.1 (A.2.2.1 p) c, A.2) = RdB a A := by
          funext x
          apply propext
          constructor
          · rintro ⟨k, hk, e⟩; exact ⟨k, hk, by rw [← er k hk]; exact e⟩
          · rintro ⟨k, hk, e⟩; exact ⟨k, hk, by rw [er k hk]; exact e⟩
        have R' := R.tr R2
        have p8 : ∀ i, σ2 8 i = σ 8 i := fun i => R'.1.get (by decide) i
        have hsep : Sep ((cl S A.1 (A.2.2.1 p) c, A.2) : aA) := by
          intro j k hj hk e
          have e : ld b 1 (A.2.2.1 j) = ld b 1 (A.2.2.1 k) := (Q2.2.2.2.2.1 _ _ (i5 j hj).1 (i5 k hk).1).mp e
          rw [er j hj, er k hk] at e
          have e9 := h.2.2.2.1.1 j hj
          rw [e, h.2.2.2.1.1 k hk] at e9
          have hj' : j < A.2.1 := hj
          have hk' : k < A.2.1 := hk
          exact ((nI_eq (by omega) (by omega)).mp e9).symm
        refine q σ2 (cl S A.1 (A.2.2.1 p) c, A.2) b (R'.1.mono (by decide)) hN ⟨A2, by rw [rd]; exact Q2, ⟨?_, fun k hk => ?_⟩, ⟨fun k hk => ?_, fun x hx hr => ?_, by rw [p8]; exact h.2.2.2.1.2.2⟩, AI_next S h.2.2.2.2.1 hN hsep, h.2.2.2.2.2.1, hsep⟩
        · rw [R'.2 5 (by decide) (by decide) (by decide)]; exact h.2.2.1.1
        · rw [R'.1.get (k := 6) (by decide), R'.1.get (k := 7) (by decide)]
          show σ 6 k = nI (ld b 1 (A.2.2.1 k)) ∧ _
          rw [er k hk]
          exact h.2.2.1.2 k hk
        · rw [p8]
          show σ 8 (ld b 1 (A.2.2.1 k)) = _
          rw [er k hk]
          exact h.2.2.2.1.1 k hk
        · rw [p8]
          exact h.2.2.2.1.2.1 x (hlv x hx) (by rw [rd] at hr; exact hr)
      · refine bX2_settle_21 (fun _ => ?_) (fun z => absurd rfl z)
        rw [show nI p + 1 = nI (p + 1) from nI_1 p]
        refine ih (p + 1) (by omega) σ2 (R.tr R2) (e4'.trans e4) (fun i hi => (e5' i hi).trans (e5 i hi)) (fun j hj => ?_)
        by_cases z : j = p
        · rw [z]; exact hnc
        · exact hno j (by omega)
  exact bX2_settle_0 (loop A.2.1 0 (by omega) σ mrf.rf rfl (fun _ _ => rfl) (fun j hj => by omega))
end HLC
