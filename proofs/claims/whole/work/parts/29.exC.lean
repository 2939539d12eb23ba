/-! exemplify in the class -/
section EXM
variable (gd : Nat → Bool) (to : Nat → Nat)
theorem clS_first : ∀ W, 1 ≤ W → 0 < (clS gd to W).1 ∧ (clS gd to W).2.1 0 = 0 ∧ (clS gd to W).2.2 0 = 1 := by
  intro W
  induction W with
  | zero => intro h; omega
  | succ W ih =>
    intro _
    rcases Nat.eq_zero_or_pos W with q | q
    · subst q
      rw [clS_new gd to (w := 0) rfl]
      exact ⟨by simp [clS], by simp [clS, upN, ld_1], by simp [clS, upN]⟩
    obtain ⟨a, b, c⟩ := ih q
    by_cases h : liF gd to (clS gd to W).2.1 (ld to 0 (W + 1)) (clS gd to W).1 = -1
    · rw [clS_new gd to h]
      dsimp only
      refine ⟨by omega, ?_, ?_⟩
      · simp only [upN, if_neg (show ¬ 0 = (clS gd to W).1 by omega)]; exact b
      · simp only [upN, if_neg (show ¬ 0 = (clS gd to W).1 by omega)]; exact c
    · rw [clS_old gd to h]; exact ⟨a, b, c⟩
theorem k_first : 0 < kC gd to ∧ kM gd to 0 = 0 ∧ kN gd to 0 = 1 := by
  unfold kC kM kN
  exact clS_first gd to 31 (by omega)
/-- what x and the word w want -/
def In1 (x w v : Nat) : Prop := v = kN gd to x ∨ v = w ∨ (sp gd to (kM gd to x) (ld to 0 w) ≠ 0 ∧ (v = wj (kN gd to x) (sp gd to (kM gd to x) (ld to 0 w)) ∨ v = wj w (sp gd to (kM gd to x) (ld to 0 w))))
def Wt (v : Nat) : Prop := ∃ x, x < kC gd to ∧ (In1 gd to x 1 v ∨ ∃ y l, y < kC gd to ∧ l < 2 ∧ In1 gd to x (2 * kN gd to y + l) v)
/-- the words' marks in the row of examples -/
def Ex (P : Nat → Prop) (e : Nat → Int32) : Prop := ∀ v, 1 ≤ v → v < 512 → (P v → e v = sgn (gd (ld to 0 v))) ∧ (¬ P v → e v = 0)
theorem Ex.cg {P P' : Nat → Prop} {e : Nat → Int32} (h : Ex gd to P e) (k : ∀ v, P v ↔ P' v) : Ex gd to P' e := fun v a b => ⟨fun q => (h v a b).1 ((k v).mpr q), fun q => (h v a b).2 (fun z => q ((k v).mp z))⟩
theorem wj_lt {w u : Nat} (h1 : 1 ≤ w) (hw : w < 64) (hu1 : 1 ≤ u) (hu : u < 16) : 1 ≤ wj w u ∧ wj w u < 512 := by
  have h3 := ww_log_le hu1
  have h4 : Nat.log2 u < 4 := (Nat.log2_lt (by omega)).mpr hu
  have h5 : 2 ^ Nat.log2 u ≤ 2 ^ 3 := Nat.pow_le_pow_right (by decide) (by omega)
  have h6 : u < 2 ^ (Nat.log2 u + 1) := ww_log_gt
  rw [Nat.pow_succ] at h6
  have h7 : 1 ≤ 2 ^ Nat.log2 u := Nat.one_le_two_pow
  rw [wj]
  generalize 2 ^ Nat.log2 u = q at *
  have h8 : w * q ≤ 63 * q := Nat.mul_le_mul_right q (by omega)
  have h9 : 1 * q ≤ w * q := Nat.mul_le_mul_right q h1
  omega
end EXM
section HEX
variable {g : pw_G} {σ : pw_Mem} {Q : pw_R → Prop} {d : Nat} {gd : Nat → Bool} {to : Nat → Nat}
/-- the arrows of the least automaton lead to the class of the state where the word leads -/
theorem red_wk (ok : okD d to) (hR : cRed σ d gd to) : ∀ n w, w ≤ n → ∃ k, k < kC gd to ∧ wkA (σ 22) 0 w = nI k ∧ En gd to 3 (kM gd to k) (ld to 0 w) := by
  obtain ⟨o1, o2, o3⟩ := id ok
  obtain ⟨kf1, kf2⟩ := k_facts (gd := gd) ok
  obtain ⟨f1, f2, f3⟩ := k_first gd to
  have base : ∀ w, w ≤ 1 → ∃ k, k < kC gd to ∧ wkA (σ 22) 0 w = nI k ∧ En gd to 3 (kM gd to k) (ld to 0 w) := fun w hw =>
    ⟨0, f1, by rw [wkA_1 _ _ hw]; rfl, by rw [ld_1 _ _ hw, f2]; exact En.rf gd to⟩
  intro n
  induction n with
  | zero => intro w hw; exact base w (by omega)
  | succ n ih =>
    intro w hw
    by_cases h : w ≤ 1
    · exact base w h
    · obtain ⟨k, hk, e1, e2⟩ := ih (w / 2) (by omega)
      obtain ⟨k1, k2, k3, k4⟩ := kf2 k hk
      have hld := ld_lt (s := 0) o3 o1 (w / 2) (w / 2) (Nat.le_refl _)
      have hl : w % 2 < 2 := Nat.mod_lt _ (by decide)
      have hcg := En.cong gd to o2 o3 k1 hld hl e2
      obtain ⟨j, hj, e3⟩ := cl_closed gd to o1 o2 o3 (k := k) (l := w % 2) hk hl
      have e3 : En gd to 3 (kM gd to j) (to (2 * kM gd to k + w % 2)) := e3
      have har : σ 22 (2 * k + w % 2) = liF gd to (kM gd to) (to (2 * kM gd to k + w % 2)) (kC gd to) := by
        obtain ⟨r1, r2, r3⟩ := hR.2.2 k hk
        rcases Nat.mod_two_eq_zero_or_one w with z | z
        · rw [z]; simp only [Nat.add_zero]; exact r2
        · rw [z]; exact r3
      rw [wkA_2 _ _ (by omega), e1, if_neg (nI_m1 (by omega)), nI_clamp (by omega), har, ld_2 _ _ (by omega)]
      rcases liF_spec gd to (kM gd to) (to (2 * kM gd to k + w % 2)) (kC gd to) with ⟨_, z⟩ | ⟨i, hi, z1, z2⟩
      · exact absurd ((sp_En gd to _ _).mpr e3) (z j hj)
      · exact ⟨i, hi, z1, En.tr gd to ((sp_En gd to _ _).mp z2) hcg⟩
theorem c_walkR {w : Nat} (ok : okD d to) (hR : cRed σ d gd to) (h1 : 1 ≤ w) (h2 : w < 512) (h : ∀ k, k < kC gd to → En gd to 3 (kM gd to k) (ld to 0 w) → Q (.inl (some (.int (nI k))), σ)) : WP g mX0_walk 0 [(0, .ref (pw_ad g 20)), (1, .int 0), (2, .int (nI w))] [] 0 σ Q := by
  obtain ⟨o1, o2, o3⟩ := id ok
  obtain ⟨kf1, kf2⟩ := k_facts (gd := gd) ok
  obtain ⟨f1, _⟩ := k_first gd to
  have hli : ∀ e, liF gd to (kM gd to) e (kC gd to) = -1 ∨ ∃ j, j < kC gd to ∧ liF gd to (kM gd to) e (kC gd to) = nI j := fun e => by
    rcases liF_spec gd to (kM gd to) e (kC gd to) with ⟨z, _⟩ | ⟨j, hj, z, _⟩
    · exact Or.inl z
    · exact Or.inr ⟨j, hj, z⟩
  refine c_walk (k := 20) (n := kC gd to) rfl rfl rfl (by omega) (by show 2 * kC gd to ≤ 10; omega) (fun i hi => ?_) (Or.inr ⟨0, f1, rfl⟩) h1 h2 ?_
  · obtain ⟨r1, r2, r3⟩ := hR.2.2 (i / 2) (by omega)
    rcases Nat.mod_two_eq_zero_or_one i with z | z
    · rw [show i = 2 * (i / 2) by omega, show σ (20 + 2) (2 * (i / 2)) = _ from r2]; exact hli _
    · rw [show i = 2 * (i / 2) + 1 by omega, show σ (20 + 2) (2 * (i / 2) + 1) = _ from r3]; exact hli _
  · obtain ⟨k, hk, e1, e2⟩ := red_wk ok hR w w (Nat.le_refl _)
    rw [show wkA (σ (20 + 2)) 0 w = nI k from e1]
    exact h k hk e2
theorem c_addExample {w : Nat} {P : Nat → Prop} (ok : okD d to) (hR : cRed σ d gd to) (hE : Ex gd to P (σ 28)) (h1 : 1 ≤ w) (h2 : w < 512) (h : ∀ σ', fr [28] σ σ' → Ex gd to (fun v => P v ∨ v = w) (σ' 28) → Q (.inl none, σ')) : WP g mX1_addExample 0 [(0, .ref (pw_ad g 16)), (1, .int (nI w))] [] 0 σ Q := by
  obtain ⟨o1, o2, o3⟩ := id ok
  obtain ⟨kf1, kf2⟩ := k_facts (gd := gd) ok
  refine bX1_addExample_0 (c_walkR ok hR h1 h2 (fun k hk e => ?_))
  refine bX1_addExample_18 (bX0_markOf_0 rfl rfl rfl (vp_in_nI (N := 5) (by omega) (by decide)) ?_)
  rw [nI_clamp (by omega), show σ (20 + 1) k = sgn (gd (kM gd to k)) from (hR.2.2 k hk).1, En.zero gd to e]
  refine bX1_addExample_21 (vp_in_nI h2 (by decide)) ?_
  rw [nI_clamp (by omega)]
  refine h _ (fr.rf.set (by decide)) (fun v a b => ?_)
  rw [ms_eq]
  by_cases q : v = w
  · rw [if_pos q, q]
    exact ⟨fun _ => rfl, fun z => absurd (Or.inr rfl) z⟩
  · rw [if_neg q]
    refine ⟨fun z => (hE v a b).1 ?_, fun z => (hE v a b).2 (fun y => z (Or.inl y))⟩
    rcases z with z | z
    · exact z
    · exact absurd z q
theorem c_addExamples {x w : Nat} {P : Nat → Prop} (ok : okD d to) (hR : cRed σ d gd to) (hE : Ex gd to P (σ 28)) (hx : x < kC gd to) (h1 : 1 ≤ w) (h2 : w < 64) (h : ∀ σ', fr [28] σ σ' → Ex gd to (fun v => P v ∨ In1 gd to x w v) (σ' 28) → Q (.inl none, σ')) : WP g mX1_addExamples 0 [(0, .ref (pw_ad g 16)), (1, .int (nI x)), (2, .int (nI w))] [] 0 σ Q := by
  obtain ⟨o1, o2, o3⟩ := id ok
  obtain ⟨kf1, kf2⟩ := k_facts (gd := gd) ok
  obtain ⟨k1, k2, k3, k4⟩ := kf2 x hx
  refine bX1_addExamples_0 (vp_in_nI (by omega) (by decide)) ?_
  rw [nI_clamp (by omega), (hR.2.1.2.1 x hx).2]
  refine c_addExample ok hR hE k2 (by omega) (fun σ1 f1 E1 => bX1_addExamples_10 ?_)
  have hR1 := hR.fr f1 (by intro a _ _ _; simp; omega)
  refine c_addExample ok hR1 E1 h1 (by omega) (fun σ2 f2 E2 => bX1_addExamples_15 ?_)
  have hR2 := hR1.fr f2 (by intro a _ _ _; simp; omega)
  refine c_walkR ok hR2 h1 (by omega) (fun k hk e => bX1_addExamples_24 (fun a => ?_) (fun a => ?_))
  · have hkx : k = x := (nI_eq (by omega) (by omega)).mp a
    subst hkx
    have hz : sp gd to (kM gd to k) (ld to 0 w) = 0 := (sp_En gd to _ _).mpr e
    refine h σ2 (f1.tr f2) (E2.cg gd to (fun v => ?_))
    unfold In1
    rw [hz]
    constructor
    · rintro ((q | q) | q)
      · exact Or.inl q
      · exact Or.inr (Or.inl q)
      · exact Or.inr (Or.inr (Or.inl q))
    · rintro (q | q | q | ⟨q, _⟩)
      · exact Or.inl (Or.inl q)
      · exact Or.inl (Or.inr q)
      · exact Or.inr q
      · exact absurd rfl q
  · have hkx : x ≠ k := fun z => a (by rw [z])
    have hpos : 1 ≤ sp gd to (kM gd to x) (kM gd to k) := sp_pos gd to o1 o2 o3 31 hx hk hkx
    have hlt := sp_lt gd to (kM gd to x) (kM gd to k)
    have hcg : sp gd to (kM gd to x) (kM gd to k) = sp gd to (kM gd to x) (ld to 0 w) := sp_cg gd to (En.rf gd to) e
    have kk1 := (kf2 k hk).1
    have e5 : (5 : Int32) * nI (kM gd to x) + nI (kM gd to k) = nI (5 * kM gd to x + kM gd to k) := by rw [show (5 : Int32) = nI 5 from rfl, pk_mul, nI_add]
    refine bX1_splitterOf_0 (vp_in_nI (by omega) (by decide)) (vp_in_nI (by omega) (by decide)) ?_
    rw [nI_clamp (by omega), nI_clamp (by omega), (hR2.2.1.2.1 x hx).1, (hR2.2.1.2.1 k hk).1]
    refine bX1_splitterOfDrawn_0 (by rw [e5]; exact vp_in_nI (by omega) (by decide)) ?_
    rw [e5, nI_clamp (by omega), hR2.1 _ _ k1 kk1]
    refine bX1_splitterOf_16 ?_
    rw [hcg] at hpos hlt ⊢
    generalize hu : sp gd to (kM gd to x) (ld to 0 w) = u at *
    refine bX1_addExamples_36 (vp_in_nI (by omega) (by decide)) ?_
    rw [nI_clamp (by omega), (hR2.2.1.2.1 x hx).2]
    refine wp_callN (M' := mX4_joined) (Q' := fun r => r = (.inl (some (.int (nI (wj (kN gd to x) u)))), σ2)) [.int (nI (kN gd to x)), .int (nI u)] [.ref (pw_ad g 16)] dX1_addExamples_47 ck_X1_98 ⟨Nat.le_of_ble_eq_true rfl, Nat.le_of_ble_eq_true rfl⟩ rfl (Nat.le_of_ble_eq_true rfl) (Nat.le_of_ble_eq_true rfl) rfl (Nat.le_of_ble_eq_true rfl) rfl (fun U hU => hU.2.1.2.1) (fun E σ' q => by cases q) (c_joined hpos hlt (by omega) rfl) (fun rv σ' q => ?_)
    cases q
    obtain ⟨j1, j2⟩ := wj_lt (w := kN gd to x) (u := u) k2 (by omega) hpos hlt
    refine bX1_addExamples_50 (c_addExample ok hR2 E2 j1 j2 (fun σ3 f3 E3 => bX1_addExamples_53 ?_))
    have hR3 := hR2.fr f3 (by intro a _ _ _; simp; omega)
    refine wp_callN (M' := mX4_joined) (Q' := fun r => r = (.inl (some (.int (nI (wj w u)))), σ3)) [.int (nI w), .int (nI u)] [.ref (pw_ad g 16)] dX1_addExamples_57 ck_X1_98 ⟨Nat.le_of_ble_eq_true rfl, Nat.le_of_ble_eq_true rfl⟩ rfl (Nat.le_of_ble_eq_true rfl) (Nat.le_of_ble_eq_true rfl) rfl (Nat.le_of_ble_eq_true rfl) rfl (fun U hU => hU.2.1.2.1) (fun E σ' q => by cases q) (c_joined hpos hlt (by omega) rfl) (fun rv σ' q => ?_)
    cases q
    obtain ⟨j3, j4⟩ := wj_lt (w := w) (u := u) h1 (by omega) hpos hlt
    refine bX1_addExamples_60 (c_addExample ok hR3 E3 j3 j4 (fun σ4 f4 E4 => bX1_addExamples_63 ?_))
    refine h σ4 (((f1.tr f2).tr f3).tr f4) (E4.cg gd to (fun v => ?_))
    unfold In1
    rw [hu]
    constructor
    · rintro ((((q | q) | q) | q) | q)
      · exact Or.inl q
      · exact Or.inr (Or.inl q)
      · exact Or.inr (Or.inr (Or.inl q))
      · exact Or.inr (Or.inr (Or.inr ⟨by omega, Or.inl q⟩))
      · exact Or.inr (Or.inr (Or.inr ⟨by omega, Or.inr q⟩))
    · rintro (q | q | q | ⟨_, q | q⟩)
      · exact Or.inl (Or.inl (Or.inl (Or.inl q)))
      · exact Or.inl (Or.inl (Or.inl (Or.inr q)))
      · exact Or.inl (Or.inl (Or.inr q))
      · exact Or.inl (Or.inr q)
      · exact Or.inr q
def PX (gd : Nat → Bool) (to : Nat → Nat) (i v : Nat) : Prop := ∃ x, x < i ∧ (In1 gd to x 1 v ∨ ∃ y l, y < kC gd to ∧ l < 2 ∧ In1 gd to x (2 * kN gd to y + l) v)
def PY (gd : Nat → Bool) (to : Nat → Nat) (i j v : Nat) : Prop := PX gd to i v ∨ In1 gd to i 1 v ∨ ∃ y l, y < j ∧ l < 2 ∧ In1 gd to i (2 * kN gd to y + l) v
theorem PY_last {i v : Nat} : PY gd to i (kC gd to) v ↔ PX gd to (i + 1) v := by
  constructor
  · rintro (⟨x, hx, q⟩ | q)
    · exact ⟨x, by omega, q⟩
    · exact ⟨i, by omega, q⟩
  · rintro ⟨x, hx, q⟩
    by_cases e : x = i
    · subst e; exact Or.inr q
    · exact Or.inl ⟨x, by omega, q⟩
theorem PY_next {i j v : Nat} : ((PY gd to i j v ∨ In1 gd to i (2 * kN gd to j) v) ∨ In1 gd to i (2 * kN gd to j + 1) v) ↔ PY gd to i (j + 1) v := by
  constructor
  · rintro (((q | q | ⟨y, l, hy, hl, q⟩) | q) | q)
    · exact Or.inl q
    · exact Or.inr (Or.inl q)
    · exact Or.inr (Or.inr ⟨y, l, by omega, hl, q⟩)
    · exact Or.inr (Or.inr ⟨j, 0, by omega, by omega, by simpa only [Nat.add_zero] using q⟩)
    · exact Or.inr (Or.inr ⟨j, 1, by omega, by omega, q⟩)
  · rintro (q | q | ⟨y, l, hy, hl, q⟩)
    · exact Or.inl (Or.inl (Or.inl q))
    · exact Or.inl (Or.inl (Or.inr (Or.inl q)))
    · by_cases e : y = j
      · subst e
        rcases (show l = 0 ∨ l = 1 by omega) with rfl | rfl
        · exact Or.inl (Or.inr (by simpa only [Nat.add_zero] using q))
        · exact Or.inr q
      · exact Or.inl (Or.inl (Or.inr (Or.inr ⟨y, l, by omega, hl, q⟩)))
theorem c_examples (ok : okD d to) (hR : cRed σ d gd to) (h : ∀ σ', fr [28] σ σ' → Ex gd to (Wt gd to) (σ' 28) → Q (.inl (some (.ref (pw_ad g 28))), σ')) : WP g mX1_examples 0 [(0, .ref (pw_ad g 16))] [] 0 σ Q := by
  obtain ⟨o1, o2, o3⟩ := id ok
  obtain ⟨kf1, kf2⟩ := k_facts (gd := gd) ok
  have hK : ∀ {σ' : pw_Mem}, fr [28] σ σ' → cRed σ' d gd to := fun f => hR.fr f (by intro a _ _ _; simp; omega)
  have inner : ∀ i, i < kC gd to → (∀ σ', fr [28] σ σ' → Ex gd to (PX gd to (i + 1)) (σ' 28) → WP g mX1_examples 10 [(0, .ref (pw_ad g 16)), (1, .int (nI (i + 1)))] [] 0 σ' Q) → ∀ n j, j + n = kC gd to → ∀ σ1, fr [28] σ σ1 → Ex gd to (PY gd to i j) (σ1 28) → WP g mX1_examples 29 [(0, .ref (pw_ad g 16)), (1, .int (nI i)), (2, .int (nI j))] [] 0 σ1 Q := by
    intro i hi hk n
    induction n with
    | zero =>
      intro j hj σ1 f1 E1
      have hR1 := hK f1
      refine bX1_examples_29 (bX0_count_0 rfl rfl rfl ?_)
      rw [hR1.2.1.1]
      refine bX1_examples_37 (fun _ => ?_) (fun a => absurd (nI_le (by omega) (by omega)) a) (fun a => absurd (nI_le (by omega) (by omega)) a)
      rw [show nI i + 1 = nI (i + 1) from nI_1 i]
      refine wp_sub [0, 1] rfl (hk σ1 f1 (E1.cg gd to (fun v => ?_)))
      rw [show j = kC gd to by omega]
      exact PY_last
    | succ n ih =>
      intro j hj σ1 f1 E1
      have hR1 := hK f1
      obtain ⟨k1, k2, k3, k4⟩ := kf2 j (by omega)
      have e0 : (2 : Int32) * nI (kN gd to j) = nI (2 * kN gd to j) := by rw [ww_2, pk_mul]
      refine bX1_examples_29 (bX0_count_0 rfl rfl rfl ?_)
      rw [hR1.2.1.1]
      refine bX1_examples_37 (fun a => absurd a (nI_ge (by omega) (by omega))) (fun _ => vp_in_nI (by omega) (by decide)) (fun _ => ?_)
      rw [nI_clamp (by omega), (hR1.2.1.2.1 j (by omega)).2, e0]
      refine c_addExamples ok hR1 E1 hi (by omega) (by omega) (fun σ2 f2 E2 => ?_)
      have hR2 := hK (f1.tr f2)
      refine bX1_examples_53 (vp_in_nI (by omega) (by decide)) ?_
      rw [nI_clamp (by omega), (hR2.2.1.2.1 j (by omega)).2, e0, nI_1]
      refine c_addExamples ok hR2 E2 hi (by omega) (by omega) (fun σ3 f3 E3 => ?_)
      refine bX1_examples_68 ?_
      rw [show nI j + 1 = nI (j + 1) from nI_1 j]
      exact ih (j + 1) (by omega) σ3 ((f1.tr f2).tr f3) (E3.cg gd to (fun v => PY_next))
  have outer : ∀ n i, i + n = kC gd to → ∀ σ1, fr [28] σ σ1 → Ex gd to (PX gd to i) (σ1 28) → WP g mX1_examples 10 [(0, .ref (pw_ad g 16)), (1, .int (nI i))] [] 0 σ1 Q := by
    intro n
    induction n with
    | zero =>
      intro i hi σ1 f1 E1
      have hR1 := hK f1
      refine bX1_examples_10 (bX0_count_0 rfl rfl rfl ?_)
      rw [hR1.2.1.1]
      refine bX1_examples_18 (fun _ => h σ1 f1 (E1.cg gd to (fun v => ?_))) (fun a => absurd (nI_le (by omega) (by omega)) a)
      rw [show i = kC gd to by omega]
      exact Iff.rfl
    | succ n ih =>
      intro i hi σ1 f1 E1
      have hR1 := hK f1
      refine bX1_examples_10 (bX0_count_0 rfl rfl rfl ?_)
      rw [hR1.2.1.1]
      refine bX1_examples_18 (fun a => absurd a (nI_ge (by omega) (by omega))) (fun _ => ?_)
      rw [ww_1]
      refine c_addExamples ok hR1 E1 (by omega) (by omega) (by omega) (fun σ2 f2 E2 => bX1_examples_27 ?_)
      refine inner i (by omega) (fun σ' f' E' => ih (i + 1) (by omega) σ' f' E') (kC gd to) 0 (by omega) σ2 (f1.tr f2) (E2.cg gd to (fun v => ?_))
      constructor
      · rintro (q | q)
        · exact Or.inl q
        · exact Or.inr (Or.inl q)
      · rintro (q | q | ⟨y, l, hy, _⟩)
        · exact Or.inl q
        · exact Or.inr q
        · exact absurd hy (by omega)
  refine bX1_examples_0 (c_fill (k := 28) rfl (fun σ1 f1 e1 => bX1_examples_8 (outer (kC gd to) 0 (by omega) σ1 f1 (fun v a b => ⟨?_, fun _ => e1 v b⟩))))
  rintro ⟨x, hx, _⟩
  exact absurd hx (by omega)
end HEX
