/-! exemplify: the class's answer; the reference -/
noncomputable def fN (P : Nat → Prop) : Nat → Nat
  | 0 => 0
  | n + 1 => fN P n + @ite Nat (P n) (Classical.propDecidable _) 1 0
theorem fN_y {P : Nat → Prop} {n : Nat} (h : P n) : fN P (n + 1) = fN P n + 1 := by
  show fN P n + @ite Nat (P n) (Classical.propDecidable _) 1 0 = _
  rw [if_pos h]
theorem fN_n {P : Nat → Prop} {n : Nat} (h : ¬ P n) : fN P (n + 1) = fN P n := by
  show fN P n + @ite Nat (P n) (Classical.propDecidable _) 1 0 = _
  rw [if_neg h]; rfl
def okS (S : Nat → Int32) : Prop := ∀ w, S w = -1 ∨ S w = 0 ∨ S w = 1
section EXN
variable (gd : Nat → Bool) (to : Nat → Nat) (S : Nat → Int32)
def Contra : Prop := ∃ w, 1 ≤ w ∧ w < 512 ∧ Wt gd to w ∧ S w = -sgn (gd (ld to 0 w))
noncomputable def exS (w : Nat) : Int32 := @ite Int32 (Wt gd to w) (Classical.propDecidable _) (sgn (gd (ld to 0 w))) (S w)
def exF (w : Nat) : Prop := 1 ≤ w ∧ Wt gd to w ∧ S w = 0
noncomputable def exN : Nat := fN (exF gd to S) 512
theorem exS_y {w : Nat} (h : Wt gd to w) : exS gd to S w = sgn (gd (ld to 0 w)) := by rw [exS, if_pos h]
theorem exS_n {w : Nat} (h : ¬ Wt gd to w) : exS gd to S w = S w := by rw [exS, if_neg h]
theorem exS_ok (h : okS S) : okS (exS gd to S) := by
  intro w
  by_cases q : Wt gd to w
  · rw [exS_y gd to S q]
    cases gd (ld to 0 w)
    · exact Or.inl rfl
    · exact Or.inr (Or.inr rfl)
  · rw [exS_n gd to S q]; exact h w
end EXN
theorem sgn_mul {b : Bool} {m : Int32} (h : m = -1 ∨ m = 0 ∨ m = 1) : (0 ≤ sgn b * m) ↔ ¬ m = -sgn b := by
  rcases h with rfl | rfl | rfl <;> cases b <;> decide
theorem sgn_n0 (b : Bool) : ¬ sgn b = 0 := by cases b <;> decide
theorem sgn_eq {b : Bool} {m : Int32} (h : m = -1 ∨ m = 0 ∨ m = 1) (h0 : ¬ m = 0) (h1 : ¬ m = -sgn b) : m = sgn b := by
  rcases h with rfl | rfl | rfl <;> cases b <;> first | rfl | exact absurd rfl h0 | exact absurd (by decide) h1
theorem cS.cg {σ : pw_Mem} {S S' : Nat → Int32} {c c' : Int32} (h : cS σ S c) (h1 : ∀ w, 1 ≤ w → w < 512 → S w = S' w) (h2 : c = c') : cS σ S' c' := ⟨fun w a b => (h.1 w a b).trans (h1 w a b), h.2.trans h2⟩
def mixS (i : Nat) (A B : Nat → Int32) (v : Nat) : Int32 := if v < i then A v else B v
theorem mix_y {i v : Nat} {A B : Nat → Int32} (h : v < i) : mixS i A B v = A v := by rw [mixS, if_pos h]
theorem mix_n {i v : Nat} {A B : Nat → Int32} (h : ¬ v < i) : mixS i A B v = B v := by rw [mixS, if_neg h]
theorem mix_step {i : Nat} {A B : Nat → Int32} (h : A i = B i) (v : Nat) : mixS i A B v = mixS (i + 1) A B v := by
  by_cases q : v < i
  · rw [mix_y q, mix_y (by omega)]
  · rw [mix_n q]
    by_cases q2 : v = i
    · rw [mix_y (by omega), q2]; exact h.symm
    · rw [mix_n (by omega)]
section HEY
variable {g : pw_G} {σ : pw_Mem} {Q : pw_R → Prop} {d : Nat} {gd : Nat → Bool} {to : Nat → Nat} {S : Nat → Int32} {cnt : Int32}
theorem c_contradicts (hS : cS σ S cnt) (okS9 : okS S) (hE : Ex gd to (Wt gd to) (σ 28)) (h1 : Contra gd to S → Q (.inl (some (.int 1)), σ)) (h2 : ¬ Contra gd to S → Q (.inl (some (.int 0)), σ)) : WP g mX3_contradicts 0 [(0, .ref (pw_ad g 1)), (1, .ref (pw_ad g 28))] [] 0 σ Q := by
  have loop : ∀ n i, i + n = 512 → 1 ≤ i → (∀ w, 1 ≤ w → w < i → ¬ (Wt gd to w ∧ S w = -sgn (gd (ld to 0 w)))) → WP g mX3_contradicts 2 [(0, .ref (pw_ad g 1)), (1, .ref (pw_ad g 28)), (2, .int (nI i))] [] 0 σ Q := by
    intro n
    induction n with
    | zero =>
      intro i hi h0 hw
      have hi : i = 512 := by omega
      subst hi
      refine bX3_contradicts_2 (fun _ => h2 ?_) (fun a => absurd (by decide) a) (fun a => absurd (by decide) a) (fun a => absurd (by decide) a) (fun a => absurd (by decide) a)
      rintro ⟨w, a, b, c, e⟩
      exact hw w a b ⟨c, e⟩
    | succ n ih =>
      intro i hi h0 hw
      obtain ⟨e1, e2⟩ := hE i h0 (by omega)
      have key : 0 ≤ σ 28 i * S i ↔ ¬ (Wt gd to i ∧ S i = -sgn (gd (ld to 0 i))) := by
        by_cases q : Wt gd to i
        · rw [e1 q, sgn_mul (okS9 i)]
          exact ⟨fun a b => a b.2, fun a b => a ⟨q, b⟩⟩
        · rw [e2 q, Int32.zero_mul]
          exact ⟨fun _ z => q z.1, fun _ => by decide⟩
      refine bX3_contradicts_2 (fun a => absurd a (nI_ge (b := 512) (by omega) (by decide))) (fun _ => vp_in_nI (by omega) (by decide)) (fun _ => vp_in_nI (by omega) (by decide)) (fun _ a => ?_) (fun _ a => ?_)
      · rw [nI_clamp (by omega), hS.1 i h0 (by omega)] at a
        rw [show nI i + 1 = nI (i + 1) from nI_1 i]
        refine ih (i + 1) (by omega) (by omega) (fun w w1 w2 => ?_)
        by_cases q : w = i
        · rw [q]; exact key.mp a
        · exact hw w w1 (by omega)
      · rw [nI_clamp (by omega), hS.1 i h0 (by omega)] at a
        have : Wt gd to i ∧ S i = -sgn (gd (ld to 0 i)) := Classical.byContradiction fun z => a (key.mpr z)
        exact h1 ⟨i, h0, by omega, this.1, this.2⟩
  exact bX3_contradicts_0 (loop 511 1 rfl (by omega) (fun w a b => absurd b (by omega)))
theorem c_takeAll (hS : cS σ S cnt) (hE : Ex gd to (Wt gd to) (σ 28)) (h : ∀ σ', fr [1, 2] σ σ' → cS σ' (exS gd to S) (cnt + nI (exN gd to S)) → Q (.inl (some (.int (nI (exN gd to S)))), σ')) : WP g mX3_takeAll 0 [(0, .ref (pw_ad g 1)), (1, .ref (pw_ad g 28))] [] 0 σ Q := by
  have loop : ∀ n i, i + n = 512 → 1 ≤ i → ∀ σ1, fr [1, 2] σ σ1 → cS σ1 (mixS i (exS gd to S) S) (cnt + nI (fN (exF gd to S) i)) → WP g mX3_takeAll 7 [(0, .ref (pw_ad g 1)), (1, .ref (pw_ad g 28)), (2, .int cnt), (3, .int (nI i))] [] 0 σ1 Q := by
    intro n
    induction n with
    | zero =>
      intro i hi h0 σ1 f1 S1
      have hi : i = 512 := by omega
      subst hi
      refine bX3_takeAll_7 (fun _ => ?_) (fun a => absurd (by decide) a) (fun a => absurd (by decide) a) (fun a => absurd (by decide) a) (fun a => absurd (by decide) a)
      have e : cnt + nI (fN (exF gd to S) 512) - cnt = nI (exN gd to S) := by
        rw [Int32.add_comm, Int32.add_sub_cancel]; rfl
      rw [S1.2, e]
      exact h σ1 f1 (S1.cg (fun w a b => mix_y b) rfl)
    | succ n ih =>
      intro i hi h0 σ1 f1 S1
      obtain ⟨e1, e2⟩ := hE i h0 (by omega)
      have hlt : ¬ (512 : Int32) ≤ nI i := nI_ge (b := 512) (by omega) (by decide)
      have hin : vp_in (nI i) 512 := vp_in_nI (by omega) (by decide)
      have e28 : σ1 28 (nI i).toNatClampNeg = σ 28 i := by rw [nI_clamp (by omega), f1 28 (by decide)]
      refine bX3_takeAll_7 (fun a => absurd a hlt) (fun _ => hin) (fun _ a => ?_) (fun _ _ => hin) (fun _ a => ?_)
      · rw [e28] at a
        have hw : ¬ Wt gd to i := fun q => sgn_n0 _ ((e1 q).symm.trans a)
        rw [show nI i + 1 = nI (i + 1) from nI_1 i]
        refine ih (i + 1) (by omega) (by omega) σ1 f1 (S1.cg (fun w w1 w2 => mix_step (exS_n _ _ _ hw) w) ?_)
        rw [fN_n (fun q => hw q.2.1)]
      · rw [e28] at a ⊢
        have hw : Wt gd to i := Classical.byContradiction fun q => a (e2 q)
        rw [e1 hw]
        refine c_take h0 (by omega) S1 (fun σ2 S2 f2 => bX3_takeAll_28 ?_)
        rw [show nI i + 1 = nI (i + 1) from nI_1 i]
        refine ih (i + 1) (by omega) (by omega) σ2 (f1.tr f2) (S2.cg (fun w w1 w2 => ?_) ?_)
        · rw [upd]
          by_cases q2 : w = i
          · rw [if_pos q2, mix_y (by omega), q2, exS_y _ _ _ hw]
          · rw [if_neg q2]
            by_cases q : w < i
            · rw [mix_y q, mix_y (by omega)]
            · rw [mix_n q, mix_n (by omega)]
        · rw [mix_n (show ¬ i < i by omega)]
          by_cases q : S i = 0
          · rw [if_pos q, fN_y (P := exF gd to S) ⟨h0, hw, q⟩, nI_succ, Int32.add_assoc]
          · rw [if_neg q, fN_n (fun z => q z.2.2)]
  refine bX3_takeAll_0 ?_
  rw [hS.2]
  have h0 : fN (exF gd to S) 1 = 0 := by rw [fN_n (fun q => absurd q.1 (by omega))]; rfl
  refine loop 511 1 rfl (by omega) σ fr.rf (hS.cg (fun w a b => (mix_n (by omega)).symm) ?_)
  rw [h0, nI_0, Int32.add_zero]
theorem C_exemplify (hl9 : (pw_l g).stackTraces = false) (hD : cDr σ d gd to) (hS : cS σ S cnt) (okS9 : okS S) (h0 : d = 0 → Q (.inr E_S, σ)) (h1 : 0 < d → Contra gd to S → ∀ σ', fr [28] σ σ' → Q (.inr E_A, σ'))
    (h2 : 0 < d → ¬ Contra gd to S → ∀ σ', fr [1, 2, 28] σ σ' → cS σ' (exS gd to S) (cnt + nI (exN gd to S)) → Q (.inl (some (.int (nI (exN gd to S)))), σ')) : WP g mX4_exemplify 0 [(0, .ref (pw_ad g 0))] [] 0 σ Q := by
  refine bX4_exemplify_0 (c_checkDrafted hl9 hD (fun hd0 => ?_) h0)
  rcases hD.2 with q | ⟨ok, hD2, hR⟩
  · exact absurd hd0 (by omega)
  refine bX4_exemplify_4 (c_examples ok hR (fun σ1 f1 E1 => bX4_exemplify_11 ?_))
  have hS1 : cS σ1 S cnt := by unfold cS; rw [f1 1 (by decide), f1 2 (by decide)]; exact hS
  refine c_contradicts hS1 okS9 E1 (fun q => ?_) (fun q => ?_)
  · exact bX4_exemplify_20 hl9 (fun a => absurd a (by decide)) (fun _ => h1 hd0 q σ1 f1)
  · refine bX4_exemplify_20 hl9 (fun _ => ?_) (fun a => absurd rfl a)
    exact c_takeAll hS1 E1 (fun σ2 f2 S2 => bX4_exemplify_41 (h2 hd0 q σ2 ((f1.mono (by decide)).tr (f2.mono (by decide))) S2))
theorem or_cat : ∀ n, n < 4 → ∀ a, a < 32 → ∀ b, b < 8 → b < 2 ^ n → nI (a * 2 ^ n) ||| nI b = nI (a * 2 ^ n + b) := by decide +kernel
theorem m_joined {w v : Nat} (hw1 : 1 ≤ w) (hw : w < 64) (hv1 : 1 ≤ v) (hv2 : v < 16) (h : Q (.inl (some (.int (nI (wj w v - 1)))), σ)) : WP g mX5_joined 0 [(0, .int (nI (w - 1))), (1, .int (nI (v - 1)))] [] 0 σ Q := by
  refine bX5_joined_0 (m_lengthOf hv1 (by omega) (bX5_joined_4 (m_lengthOf hw1 (by omega) (bX5_joined_9 (m_lettersOf hw1 (by omega) (bX5_joined_15 (m_lettersOf hv1 (by omega) (bX5_joined_21 (bX5_number_0 (bX5_joined_25 ?_))))))))))
  have l1 : Nat.log2 v < 4 := (Nat.log2_lt (by omega)).mpr hv2
  have l2 : Nat.log2 w < 6 := (Nat.log2_lt (by omega)).mpr hw
  have v1 := ww_log_le hv1
  have w1 := ww_log_le hw1
  have v2 : v < 2 ^ (Nat.log2 v + 1) := ww_log_gt
  have w2 : w < 2 ^ (Nat.log2 w + 1) := ww_log_gt
  have p1 : 2 ^ Nat.log2 v ≤ 2 ^ 3 := Nat.pow_le_pow_right (by decide) (by omega)
  have p2 : 2 ^ Nat.log2 w ≤ 2 ^ 5 := Nat.pow_le_pow_right (by decide) (by omega)
  have p3 : 2 ^ (Nat.log2 w + Nat.log2 v) = 2 ^ Nat.log2 w * 2 ^ Nat.log2 v := Nat.pow_add _ _ _
  rw [Nat.pow_succ] at v2 w2
  have hle : (w - 2 ^ Nat.log2 w) * 2 ^ Nat.log2 v ≤ 32 * 8 := Nat.mul_le_mul (by omega) p1
  have hp : 2 ^ Nat.log2 w * 2 ^ Nat.log2 v ≤ 32 * 8 := Nat.mul_le_mul p2 p1
  have hpos : 1 ≤ 2 ^ Nat.log2 w * 2 ^ Nat.log2 v := Nat.mul_pos Nat.one_le_two_pow Nat.one_le_two_pow
  have hsub : (w - 2 ^ Nat.log2 w) * 2 ^ Nat.log2 v = w * 2 ^ Nat.log2 v - 2 ^ Nat.log2 w * 2 ^ Nat.log2 v := Nat.sub_mul _ _ _
  have hge : 2 ^ Nat.log2 w * 2 ^ Nat.log2 v ≤ w * 2 ^ Nat.log2 v := Nat.mul_le_mul_right _ w1
  have e : (1 : Int32) <<< ((nI (Nat.log2 w) + nI (Nat.log2 v)) &&& 31) - (1 : Int32) + (nI (w - 2 ^ Nat.log2 w) <<< (nI (Nat.log2 v) &&& 31) ||| nI (v - 2 ^ Nat.log2 v)) = nI (wj w v - 1) := by
    rw [nI_add, ww_shl (by omega) (by omega), or_cat _ l1 _ (by omega) _ (by omega) (by omega), ww_1, ww_shl (by omega) (by rw [p3]; omega), Nat.one_mul, p3, pk_sub hpos, nI_add, wj]
    congr 1
    omega
  rw [e]
  exact h
/-- the words that are wanted, in the reference -/
def MW (P : Nat → Prop) (e : Nat → Int32) : Prop := ∀ v, 1 ≤ v → v < 512 → (P v → e (v - 1) = 1) ∧ (¬ P v → e (v - 1) = 0)
theorem MW.cg {P P' : Nat → Prop} {e : Nat → Int32} (h : MW P e) (k : ∀ v, P v ↔ P' v) : MW P' e := fun v a b => ⟨fun q => (h v a b).1 ((k v).mpr q), fun q => (h v a b).2 (fun z => q ((k v).mp z))⟩
theorem MW.add {P : Nat → Prop} {σ : pw_Mem} (h : MW P (σ 45)) {w : Nat} (hw : 1 ≤ w) : MW (fun v => P v ∨ v = w) (pw_set σ 45 (w - 1) 1 45) := by
  intro v a b
  rw [ms_eq]
  by_cases q : v = w
  · rw [if_pos (by omega)]
    exact ⟨fun _ => rfl, fun z => absurd (Or.inr q) z⟩
  · rw [if_neg (by omega)]
    refine ⟨fun z => (h v a b).1 ?_, fun z => (h v a b).2 (fun y => z (Or.inl y))⟩
    rcases z with z | z
    · exact z
    · exact absurd z q
theorem m_want {x y : Nat} {P : Nat → Prop} (hD : mD0 σ d gd to) (ok : okD d to) (hE : MW P (σ 45)) (x1 : 1 ≤ x) (x2 : x < 64) (y1 : 1 ≤ y) (y2 : y < 64) (h : ∀ σ', mfr [45] [] σ σ' → MW (fun v => P v ∨ (sp gd to (ld to 0 x) (ld to 0 y) ≠ 0 ∧ (v = wj x (sp gd to (ld to 0 x) (ld to 0 y)) ∨ v = wj y (sp gd to (ld to 0 x) (ld to 0 y))))) (σ' 45) → Q (.inl none, σ')) : WP g mX5_want 0 [(0, .ref (pw_ad g 29)), (1, .int (nI (x - 1))), (2, .int (nI (y - 1)))] [] 0 σ Q := by
  obtain ⟨o1, o2, o3⟩ := id ok
  have hlx := ld_lt (s := 0) o3 o1 x x (Nat.le_refl _)
  have hly := ld_lt (s := 0) o3 o1 y y (Nat.le_refl _)
  refine bX5_want_0 ?_
  rw [ww_0]
  refine m_lead hD ok o1 x1 (by omega) (bX5_want_7 ?_)
  rw [ww_0]
  refine m_lead hD ok o1 y1 (by omega) (bX5_want_13 (m_setsApart hD ok hlx hly ?_))
  have hlt := sp_lt gd to (ld to 0 x) (ld to 0 y)
  have hm1 := sp_m1 (gd := gd) (to := to) (ld to 0 x) (ld to 0 y)
  generalize hu : sp gd to (ld to 0 x) (ld to 0 y) = u at *
  refine bX5_want_16 (fun a => ?_) (fun a => ?_)
  · have hz : u = 0 := Classical.byContradiction fun z => Int32.not_lt.mpr (hm1.mpr z) a
    exact h σ mfr.rf (hE.cg (fun v => ⟨Or.inl, fun q => q.elim id (fun z => absurd hz z.1)⟩))
  · have hz : u ≠ 0 := hm1.mp (Int32.not_lt.mp a)
    have hp : 1 ≤ u := by omega
    rw [show nI u - 1 = nI (u - 1) by rw [ww_1, pk_sub hp]]
    obtain ⟨j1, j2⟩ := wj_lt (w := x) (u := u) x1 x2 hp hlt
    obtain ⟨j3, j4⟩ := wj_lt (w := y) (u := u) y1 y2 hp hlt
    refine m_joined x1 x2 hp hlt (bX5_want_30 (vp_in_nI (by omega) (by decide)) ?_)
    rw [nI_clamp (by omega)]
    refine m_joined y1 y2 hp hlt (bX5_want_41 (vp_in_nI (by omega) (by decide)) ?_)
    rw [nI_clamp (by omega)]
    refine h _ ((mfr.rf.set (by decide) (by decide)).set (by decide) (by decide)) (((hE.add j1).add j3).cg (fun v => ?_))
    constructor
    · rintro ((q | q) | q)
      · exact Or.inl q
      · exact Or.inr ⟨hz, Or.inl q⟩
      · exact Or.inr ⟨hz, Or.inr q⟩
    · rintro (q | ⟨_, q | q⟩)
      · exact Or.inl (Or.inl q)
      · exact Or.inl (Or.inr q)
      · exact Or.inr q
theorem mCl.fr {σ σ' : pw_Mem} {c : Nat} {m n : Nat → Nat} {l f : List Nat} (h : mCl σ c m n) (hf : mfr l f σ σ') (h1 : 43 ∉ l) (h2 : 44 ∉ l) (h3 : 20 ∉ f) : mCl σ' c m n := by
  unfold mCl
  rw [hf.2 20 h3, hf.1 43 (by decide) h1, hf.1 44 (by decide) h2]
  exact h
def PZ (gd : Nat → Bool) (to : Nat → Nat) (i j v : Nat) : Prop := v = 1 ∨ PX gd to i v ∨ In1 gd to i 1 v ∨ ∃ k, k < j ∧ In1 gd to i (2 * kN gd to (k / 2) + k % 2) v
theorem m_characteristic (hD : mD0 σ d gd to) (ok : okD d to) (h : ∀ σ', mfr [43, 44, 45] [20] σ σ' → MW (Wt gd to) (σ' 45) → Q (.inl none, σ')) : WP g mX5_characteristic 0 [(0, .ref (pw_ad g 29))] [] 0 σ Q := by
  obtain ⟨o1, o2, o3⟩ := id ok
  obtain ⟨kf1, kf2⟩ := k_facts (gd := gd) ok
  obtain ⟨f1, f2, f3⟩ := k_first gd to
  refine bX5_characteristic_0 (m_reduce hD ok (fun σ1 r1 C1 => bX5_characteristic_4 ?_))
  have D1 := hD.fr r1 (by decide) (by decide)
  have inner : ∀ i, i < kC gd to → (∀ σ', mfr [45] [] σ1 σ' → MW (fun v => v = 1 ∨ PX gd to (i + 1) v) (σ' 45) → WP g mX5_characteristic 36 [(0, .ref (pw_ad g 29)), (1, .int (nI (i + 1)))] [] 0 σ' Q) → ∀ n j, j + n = 2 * kC gd to → ∀ σ2, mfr [45] [] σ1 σ2 → MW (PZ gd to i j) (σ2 45) → WP g mX5_characteristic 66 [(0, .ref (pw_ad g 29)), (1, .int (nI i)), (2, .int (nI (kN gd to i - 1))), (3, .int (nI j))] [] 0 σ2 Q := by
    intro i hi hk n
    induction n with
    | zero =>
      intro j hj σ2 r2 E2
      have C2 := C1.fr r2 (by decide) (by decide) (by decide)
      have e2 : (2 : Int32) * σ2 29 20 = nI (2 * kC gd to) := by rw [C2.1, ww_2, pk_mul]
      have hle : (2 : Int32) * σ2 29 20 ≤ nI j := by rw [e2]; exact nI_le (by omega) (by omega)
      refine bX5_characteristic_66 (fun _ => ?_) (fun a => absurd hle a) (fun a => absurd hle a)
      rw [show nI i + 1 = nI (i + 1) from nI_1 i]
      refine wp_sub [0, 1] rfl (hk σ2 r2 (E2.cg (fun v => ?_)))
      rw [show j = 2 * kC gd to by omega]
      constructor
      · rintro (q | ⟨x, hx, q⟩ | q | ⟨k, hk9, q⟩)
        · exact Or.inl q
        · exact Or.inr ⟨x, by omega, q⟩
        · exact Or.inr ⟨i, by omega, Or.inl q⟩
        · exact Or.inr ⟨i, by omega, Or.inr ⟨k / 2, k % 2, by omega, by omega, q⟩⟩
      · rintro (q | ⟨x, hx, q⟩)
        · exact Or.inl q
        · by_cases e : x = i
          · subst e
            rcases q with q | ⟨y, l, hy, hl, q⟩
            · exact Or.inr (Or.inr (Or.inl q))
            · refine Or.inr (Or.inr (Or.inr ⟨2 * y + l, by omega, ?_⟩))
              rw [show (2 * y + l) / 2 = y by omega, show (2 * y + l) % 2 = l by omega]
              exact q
          · exact Or.inr (Or.inl ⟨x, by omega, q⟩)
    | succ n ih =>
      intro j hj σ2 r2 E2
      have C2 := C1.fr r2 (by decide) (by decide) (by decide)
      have D2 := D1.fr r2 (by decide) (by decide)
      obtain ⟨k1, k2, k3, k4⟩ := kf2 i hi
      obtain ⟨q1, q2, q3, q4⟩ := kf2 (j / 2) (by omega)
      have e2 : (2 : Int32) * σ2 29 20 = nI (2 * kC gd to) := by rw [C2.1, ww_2, pk_mul]
      have hge : ¬ (2 : Int32) * σ2 29 20 ≤ nI j := by rw [e2]; exact nI_ge (by omega) (by omega)
      have e3 : nI j / (2 : Int32) = nI (j / 2) := by rw [ww_2, pk_div (by omega) (by omega) (by omega)]
      have e4 : nI j - nI (j / 2) * (2 : Int32) = nI (j % 2) := by rw [← e3, ww_2]; exact pk_rem (by omega) (by omega) (by omega)
      refine bX5_characteristic_66 (fun a => absurd a hge) (fun _ => by rw [e3]; exact vp_in_nI (by omega) (by decide)) (fun _ => ?_)
      rw [e3, e4, nI_clamp (by omega), (C2.2 (j / 2) (by omega)).2]
      refine m_followed (w := kN gd to (j / 2)) q2 (bX5_characteristic_90 (vp_in_nI (by omega) (by decide)) ?_)
      rw [nI_clamp (by omega)]
      refine m_want (D2.fr (l := [45]) (f := []) (mfr.rf.set (by decide) (by decide)) (by decide) (by decide)) ok (E2.add (w := 2 * kN gd to (j / 2) + j % 2) (by omega)) k2 (by omega) (by omega) (by omega) (fun σ3 r3 E3 => bX5_characteristic_107 ?_)
      rw [show nI j + 1 = nI (j + 1) from nI_1 j]
      refine wp_sub [0, 1, 2, 3] rfl (ih (j + 1) (by omega) σ3 ((r2.set (by decide) (by decide)).tr r3) (E3.cg (fun v => ?_)))
      rw [← k4]
      constructor
      · rintro (((q | q | q | ⟨k, hk9, q⟩) | q) | ⟨q, q'⟩)
        · exact Or.inl q
        · exact Or.inr (Or.inl q)
        · exact Or.inr (Or.inr (Or.inl q))
        · exact Or.inr (Or.inr (Or.inr ⟨k, by omega, q⟩))
        · exact Or.inr (Or.inr (Or.inr ⟨j, by omega, Or.inr (Or.inl q)⟩))
        · exact Or.inr (Or.inr (Or.inr ⟨j, by omega, Or.inr (Or.inr ⟨q, q'⟩)⟩))
      · rintro (q | q | q | ⟨k, hk9, q⟩)
        · exact Or.inl (Or.inl (Or.inl q))
        · exact Or.inl (Or.inl (Or.inr (Or.inl q)))
        · exact Or.inl (Or.inl (Or.inr (Or.inr (Or.inl q))))
        · by_cases e : k = j
          · subst e
            rcases q with q | q | ⟨q, q'⟩
            · exact Or.inl (Or.inl (Or.inr (Or.inr (Or.inl (Or.inl q)))))
            · exact Or.inl (Or.inr q)
            · exact Or.inr ⟨q, q'⟩
          · exact Or.inl (Or.inl (Or.inr (Or.inr (Or.inr ⟨k, by omega, q⟩))))
  have outer : ∀ n i, i + n = kC gd to → ∀ σ2, mfr [45] [] σ1 σ2 → MW (fun v => v = 1 ∨ PX gd to i v) (σ2 45) → WP g mX5_characteristic 36 [(0, .ref (pw_ad g 29)), (1, .int (nI i))] [] 0 σ2 Q := by
    intro n
    induction n with
    | zero =>
      intro i hi σ2 r2 E2
      have C2 := C1.fr r2 (by decide) (by decide) (by decide)
      have hle : σ2 29 20 ≤ nI i := by rw [C2.1]; exact nI_le (by omega) (by omega)
      refine bX5_characteristic_36 (fun _ => h σ2 ((r1.mono (by decide) (by decide)).tr (r2.mono (by decide) (by decide))) (E2.cg (fun v => ?_))) (fun a => absurd hle a) (fun a => absurd hle a) (fun a => absurd hle a)
      rw [show i = kC gd to by omega]
      constructor
      · rintro (q | q)
        · exact ⟨0, f1, Or.inl (Or.inr (Or.inl q))⟩
        · exact q
      · exact Or.inr
    | succ n ih =>
      intro i hi σ2 r2 E2
      have C2 := C1.fr r2 (by decide) (by decide) (by decide)
      have D2 := D1.fr r2 (by decide) (by decide)
      obtain ⟨k1, k2, k3, k4⟩ := kf2 i (by omega)
      have hge : ¬ σ2 29 20 ≤ nI i := by rw [C2.1]; exact nI_ge (by omega) (by omega)
      have e44 : σ2 44 (nI i).toNatClampNeg = nI (kN gd to i - 1) := by rw [nI_clamp (by omega)]; exact (C2.2 i (by omega)).2
      refine bX5_characteristic_36 (fun a => absurd a hge) (fun _ => vp_in_nI (by omega) (by decide)) (fun _ => by rw [e44]; exact vp_in_nI (by omega) (by decide)) (fun _ => ?_)
      rw [e44, nI_clamp (by omega)]
      refine m_want (y := 1) (D2.fr (l := [45]) (f := []) (mfr.rf.set (by decide) (by decide)) (by decide) (by decide)) ok (E2.add k2) k2 (by omega) (by omega) (by omega) (fun σ3 r3 E3 => bX5_characteristic_64 ?_)
      refine inner i (by omega) (fun σ' r' E' => ih (i + 1) (by omega) σ' r' E') (2 * kC gd to) 0 (by omega) σ3 ((r2.set (by decide) (by decide)).tr r3) (E3.cg (fun v => ?_))
      rw [← k4]
      constructor
      · rintro (((q | q) | q) | q)
        · exact Or.inl q
        · exact Or.inr (Or.inl q)
        · exact Or.inr (Or.inr (Or.inl (Or.inl q)))
        · exact Or.inr (Or.inr (Or.inl (Or.inr (Or.inr q))))
      · rintro (q | q | (q | q | q) | ⟨k, hk9, _⟩)
        · exact Or.inl (Or.inl (Or.inl q))
        · exact Or.inl (Or.inl (Or.inr q))
        · exact Or.inl (Or.inr q)
        · exact Or.inl (Or.inl (Or.inl q))
        · exact Or.inr q
        · exact absurd hk9 (by omega)
  have clear : ∀ n i, i + n = 511 → ∀ σ2, mfr [45] [] σ1 σ2 → (∀ v, v < i → σ2 45 v = if v = 0 then 1 else 0) → WP g mX5_characteristic 6 [(0, .ref (pw_ad g 29)), (1, .int (nI i))] [] 0 σ2 Q := by
    intro n
    induction n with
    | zero =>
      intro i hi σ2 r2 e2
      have hi : i = 511 := by omega
      subst hi
      refine bX5_characteristic_6 (fun _ => ?_) (fun a => absurd (by decide) a) (fun a => absurd (by decide) a) (fun a => absurd (by decide) a) (fun a => absurd (by decide) a)
      refine outer (kC gd to) 0 (by omega) σ2 r2 (fun v a b => ?_)
      rw [e2 (v - 1) (by omega)]
      by_cases q : v = 1
      · rw [if_pos (by omega)]; exact ⟨fun _ => rfl, fun z => absurd (Or.inl q) z⟩
      · rw [if_neg (by omega)]
        refine ⟨fun z => ?_, fun _ => rfl⟩
        rcases z with z | ⟨x, hx, _⟩
        · exact absurd z q
        · exact absurd hx (by omega)
    | succ n ih =>
      intro i hi σ2 r2 e2
      have hin : vp_in (nI i) 511 := vp_in_nI (by omega) (by decide)
      refine bX5_characteristic_6 (fun a => absurd a (nI_ge (b := 511) (by omega) (by decide))) (fun _ _ => hin) (fun _ a => ?_) (fun _ _ => hin) (fun _ a => ?_)
      all_goals
        rw [show nI i + 1 = nI (i + 1) from nI_1 i, nI_clamp (by omega)]
        refine ih (i + 1) (by omega) _ (r2.set (by decide) (by decide)) (fun v hv => ?_)
        rw [ms_eq]
      · have h0 : i ≠ 0 := fun z => a (by rw [z]; rfl)
        by_cases q : v = i
        · rw [if_pos q, if_neg (by omega)]
        · rw [if_neg q]; exact e2 v (by omega)
      · have h0 : i = 0 := (nI_eq (by omega) (by decide)).mp (a.trans nI_0.symm)
        by_cases q : v = i
        · rw [if_pos q, if_pos (by omega)]
        · exact absurd hv (by omega)
  exact clear 511 0 rfl σ1 mfr.rf (fun v hv => absurd hv (by omega))
theorem m_signOf {w : Nat} (hD : mD0 σ d gd to) (ok : okD d to) (h1 : 1 ≤ w) (h2 : w < 512) (h : Q (.inl (some (.int (sgn (gd (ld to 0 w))))), σ)) : WP g mX5_signOf 0 [(0, .ref (pw_ad g 29)), (1, .int (nI (w - 1)))] [] 0 σ Q := by
  obtain ⟨o1, o2, o3⟩ := id ok
  have hl := ld_lt (s := 0) o3 o1 w w (Nat.le_refl _)
  refine bX5_signOf_0 ?_
  rw [ww_0]
  refine m_lead hD ok o1 h1 h2 (bX5_signOf_10 (vp_in_nI (by omega) (by decide)) (fun a => ?_) (fun a => ?_))
  · rw [nI_clamp (by omega), hD.1 _ hl] at a
    cases q : gd (ld to 0 w) with
    | true => rw [q] at a; exact absurd a (by decide)
    | false => rw [q] at h; exact h
  · rw [nI_clamp (by omega), hD.1 _ hl] at a
    cases q : gd (ld to 0 w) with
    | true => rw [q] at h; exact h
    | false => rw [q] at a; exact absurd rfl a
theorem mS.cg {σ : pw_Mem} {S S' : Nat → Int32} {c c' : Int32} (h : mS σ S c) (h1 : ∀ w, 1 ≤ w → w < 512 → S w = S' w) (h2 : c = c') : mS σ S' c' := ⟨fun w a b => (h.1 w a b).trans (h1 w a b), h.2.trans h2⟩
theorem M_exemplify (hD : mDr σ d gd to) (hS : mS σ S cnt) (okS9 : okS S) (h0 : d = 0 → Q (.inl (some (.int 0)), pw_set σ 29 0 1)) (h1 : 0 < d → Contra gd to S → ∀ σ', mfr [43, 44, 45] [0, 20] σ σ' → σ' 29 0 = 2 → Q (.inl (some (.int 0)), σ'))
    (h2 : 0 < d → ¬ Contra gd to S → ∀ σ', mfr [30, 43, 44, 45] [0, 1, 20] σ σ' → σ' 29 0 = 0 → mS σ' (exS gd to S) (cnt + nI (exN gd to S)) → Q (.inl (some (.int (nI (exN gd to S)))), σ')) : WP g mX5_exemplify 0 [(0, .ref (pw_ad g 29))] [] 0 σ Q := by
  have hdl := hD.lt
  refine bX5_exemplify_0 (fun a => ?_) (fun a => ?_)
  · rw [hD.1] at a
    have hd0 : d = 0 := by
      rcases Nat.eq_zero_or_pos d with q | q
      · exact q
      · exact absurd a (nI_nle q (by omega))
    exact m_whenF (bX5_exemplify_17 (fun a => absurd rfl a) (fun _ => h0 hd0))
  · rw [hD.1] at a
    have hd0 : 0 < d := by
      rcases Nat.eq_zero_or_pos d with q | q
      · exact absurd (by rw [q]; decide) a
      · exact q
    rcases hD.2 with q | ⟨ok, hD2⟩
    · omega
    obtain ⟨o1, o2, o3⟩ := id ok
    refine m_whenT (bX5_exemplify_17 (fun _ => ?_) (fun a => absurd a (by decide)))
    have D0 : mD0 (pw_set σ 29 0 0) d gd to := hD2.fr (l := []) (f := [0]) (mfr.rf.fld (by decide)) (by decide) (by decide)
    refine m_characteristic D0 ok (fun σ1 r1 E1 => bX5_exemplify_26 ?_)
    have r1' : mfr [43, 44, 45] [0, 20] σ σ1 := (mfr.rf.fld (by decide)).tr (r1.mono (by decide) (by decide))
    have D1 := D0.fr r1 (by decide) (by decide)
    have S1 : mS σ1 S cnt := by unfold mS; rw [r1'.1 30 (by decide) (by decide), r1'.2 1 (by decide)]; exact hS
    have take : ¬ Contra gd to S → ∀ n i, i + n = 511 → ∀ y σ2, mfr [30] [0] σ1 σ2 → σ2 29 0 = 0 → mS σ2 (mixS (i + 1) (exS gd to S) S) cnt → WP g mX5_exemplify 92 [(0, .ref (pw_ad g 29)), (1, .int y), (2, .int (nI (fN (exF gd to S) (i + 1)))), (3, .int (nI i))] [] 0 σ2 Q := by
      intro hno n
      induction n with
      | zero =>
        intro i hi y σ2 r2 f2 S2
        have hi : i = 511 := by omega
        subst hi
        refine bX5_exemplify_92 (fun _ => ?_) (fun a => absurd (by decide) a) (fun a => absurd (by decide) a) (fun a => absurd (by decide) a) (fun a => absurd (by decide) a) (fun a => absurd (by decide) a)
        refine h2 hd0 hno _ ((r1'.mono (by decide) (by decide)).tr ((r2.mono (by decide) (by decide)).fld (by decide))) ?_ ⟨fun w a b => ?_, ?_⟩
        · rw [ms_ne2 _ _ _ _ (by decide)]; exact f2
        · rw [ms_ne _ _ _ _ _ (by decide), S2.1 w a b, mix_y (by omega)]
        · rw [ms_same, S2.2]; rfl
      | succ n ih =>
        intro i hi y σ2 r2 f2 S2
        obtain ⟨e1, e2⟩ := E1 (i + 1) (by omega) (by omega)
        have hlt : ¬ (511 : Int32) ≤ nI i := nI_ge (b := 511) (by omega) (by decide)
        have hin : vp_in (nI i) 511 := vp_in_nI (by omega) (by decide)
        have e45 : σ2 45 (nI i).toNatClampNeg = σ1 45 (i + 1 - 1) := by rw [nI_clamp (by omega), r2.1 45 (by decide) (by decide)]; rfl
        have e30 : σ2 30 (nI i).toNatClampNeg = S (i + 1) := by
          rw [nI_clamp (by omega)]
          have := S2.1 (i + 1) (by omega) (by omega)
          rw [mix_n (by omega)] at this
          exact this
        have D2 : mD0 σ2 d gd to := D1.fr r2 (by decide) (by decide)
        refine bX5_exemplify_92 (fun a => absurd a hlt) (fun _ => hin) (fun _ a => ?_) (fun _ _ => hin) (fun _ a b => ?_) (fun _ a b => ?_)
        · rw [e45] at a
          have hw : ¬ Wt gd to (i + 1) := fun q => absurd ((e1 q).symm.trans a) (by decide)
          rw [show nI i + 1 = nI (i + 1) from nI_1 i]
          have := ih (i + 1) (by omega) y σ2 r2 f2 (S2.cg (fun w w1 w2 => mix_step (exS_n _ _ _ hw) w) rfl)
          rw [fN_n (fun q => hw q.2.1)] at this; exact this
        · rw [e45] at a; rw [e30] at b
          have hw : Wt gd to (i + 1) := Classical.byContradiction fun q => a (e2 q)
          have hs : S (i + 1) = sgn (gd (ld to 0 (i + 1))) := sgn_eq (okS9 _) b (fun q => hno ⟨i + 1, by omega, by omega, hw, q⟩)
          rw [show nI i + 1 = nI (i + 1) from nI_1 i]
          have := ih (i + 1) (by omega) y σ2 r2 f2 (S2.cg (fun w w1 w2 => mix_step ((exS_y _ _ _ hw).trans hs.symm) w) rfl)
          rw [fN_n (fun q => b q.2.2)] at this; exact this
        · rw [e45] at a; rw [e30] at b
          have hw : Wt gd to (i + 1) := Classical.byContradiction fun q => a (e2 q)
          refine m_signOf (w := i + 1) D2 ok (by omega) (by omega) (bX5_exemplify_127 hin ?_)
          rw [show nI i + 1 = nI (i + 1) from nI_1 i, nI_clamp (by omega), show nI (fN (exF gd to S) (i + 1)) + 1 = nI (fN (exF gd to S) (i + 1) + 1) from nI_1 _]
          have := ih (i + 1) (by omega) y (pw_set σ2 30 i (sgn (gd (ld to 0 (i + 1))))) (r2.set (by decide) (by decide)) (by rw [ms_ne _ _ _ _ _ (by decide)]; exact f2) ⟨fun w w1 w2 => ?_, by rw [ms_ne _ _ _ _ _ (by decide)]; exact S2.2⟩
          · rw [fN_y (P := exF gd to S) ⟨by omega, hw, b⟩] at this; exact this
          · rw [ms_eq, S2.1 w w1 w2]
            by_cases q2 : w = i + 1
            · rw [if_pos (by omega), mix_y (by omega), q2, exS_y _ _ _ hw]
            · rw [if_neg (by omega)]
              by_cases q : w < i + 1
              · rw [mix_y q, mix_y (by omega)]
              · rw [mix_n q, mix_n (by omega)]
    have check : ∀ n i, i + n = 511 → ∀ b : Bool, (b = true ↔ ∀ w, 1 ≤ w → w ≤ i → ¬ (Wt gd to w ∧ S w = -sgn (gd (ld to 0 w)))) → WP g mX5_exemplify 30 [(0, .ref (pw_ad g 29)), (1, .int (zz b)), (2, .int (nI i))] [] 0 σ1 Q := by
      intro n
      induction n with
      | zero =>
        intro i hi b hb
        have hi : i = 511 := by omega
        subst hi
        refine bX5_exemplify_30 (fun _ => m_when (b := b) ?_) (fun a => absurd (by decide) a) (fun a => absurd (by decide) a) (fun a => absurd (by decide) a) (fun a => absurd (by decide) a) (fun a => absurd (by decide) a)
        cases b with
        | true =>
          have hno : ¬ Contra gd to S := fun ⟨w, a, c, e, f⟩ => hb.mp rfl w a (by omega) ⟨e, f⟩
          refine bX5_exemplify_83 (fun _ => ?_) (fun a => absurd a (by decide))
          have h01 : fN (exF gd to S) (0 + 1) = 0 := by rw [fN_n (fun q => absurd q.1 (by omega))]; rfl
          have := take hno 511 0 rfl 1 (pw_set σ1 29 0 0) (mfr.rf.fld (by decide)) (ms_same _ _ _ _) ⟨fun w a c => by rw [ms_ne _ _ _ _ _ (by decide), mix_n (by omega)]; exact S1.1 w a c, by rw [ms_ne2 _ _ _ _ (by decide)]; exact S1.2⟩
          rw [h01] at this
          exact this
        | false =>
          have hyes : Contra gd to S := Classical.byContradiction fun z => absurd (hb.mpr (fun w a c ⟨e, f⟩ => z ⟨w, a, by omega, e, f⟩)) (by decide)
          exact bX5_exemplify_83 (fun a => absurd rfl a) (fun _ => h1 hd0 hyes _ (r1'.fld (by decide)) (ms_same _ _ _ _))
      | succ n ih =>
        intro i hi b hb
        obtain ⟨e1, e2⟩ := E1 (i + 1) (by omega) (by omega)
        have hlt : ¬ (511 : Int32) ≤ nI i := nI_ge (b := 511) (by omega) (by decide)
        have hin : vp_in (nI i) 511 := vp_in_nI (by omega) (by decide)
        have e45 : σ1 45 (nI i).toNatClampNeg = σ1 45 (i + 1 - 1) := by rw [nI_clamp (by omega)]; rfl
        have e30 : σ1 30 (nI i).toNatClampNeg = S (i + 1) := by
          rw [nI_clamp (by omega)]; exact S1.1 (i + 1) (by omega) (by omega)
        have e9 : nI i + 1 = nI (i + 1) := nI_1 i
        refine bX5_exemplify_30 (fun a => absurd a hlt) (fun _ a => ?_) (fun _ _ => hin) (fun _ a c => ?_) (fun _ _ _ => hin) (fun _ a c => ?_)
        · have hbf : b = false := by cases b with | true => exact absurd a (by decide) | false => rfl
          rw [e9]
          refine ih (i + 1) (by omega) false ⟨fun z => absurd z (by decide), fun z => ?_⟩
          rw [← hbf]
          exact hb.mpr (fun w w1 w2 => z w w1 (by omega))
        · have hbt : b = true := by cases b with | false => exact absurd rfl a | true => rfl
          rw [e45] at c
          have hw : ¬ Wt gd to (i + 1) := fun q => absurd ((e1 q).symm.trans c) (by decide)
          rw [e9]
          refine ih (i + 1) (by omega) true ⟨fun _ w w1 w2 => ?_, fun _ => rfl⟩
          by_cases q : w = i + 1
          · rw [q]; exact fun z => hw z.1
          · exact hb.mp hbt w w1 (by omega)
        · have hbt : b = true := by cases b with | false => exact absurd rfl a | true => rfl
          rw [e45] at c
          have hw : Wt gd to (i + 1) := Classical.byContradiction fun q => c (e2 q)
          refine m_signOf (w := i + 1) D1 ok (by omega) (by omega) ?_
          rw [e30]
          refine bX5_exemplify_61 (fun e => ?_) (fun e => ?_)
          · rw [e9]
            refine ih (i + 1) (by omega) false ⟨fun z => absurd z (by decide), fun z => ?_⟩
            exact absurd ⟨hw, e⟩ (z (i + 1) (by omega) (by omega))
          · rw [e9]
            refine ih (i + 1) (by omega) true ⟨fun _ w w1 w2 => ?_, fun _ => rfl⟩
            by_cases q : w = i + 1
            · rw [q]; exact fun z => e z.2
            · exact hb.mp hbt w w1 (by omega)
    exact check 511 0 rfl true ⟨fun _ w w1 w2 => absurd w1 (by omega), fun _ => rfl⟩
end HEY
