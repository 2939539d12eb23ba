/-! walks of automata; what is learned, both sides -/
/-- where the word w leads from s along the arrows ar (-1: nowhere) -/
def wkA (ar : Nat → Int32) (s : Int32) (w : Nat) : Int32 :=
  if h : w ≤ 1 then s else
    let t := wkA ar s (w / 2)
    if t = -1 then -1 else ar (2 * t.toNatClampNeg + w % 2)
termination_by w
decreasing_by omega
theorem wkA_1 (ar : Nat → Int32) (s : Int32) {w : Nat} (h : w ≤ 1) : wkA ar s w = s := by rw [wkA, dif_pos h]
theorem wkA_2 (ar : Nat → Int32) (s : Int32) {w : Nat} (h : 2 ≤ w) : wkA ar s w = if wkA ar s (w / 2) = -1 then -1 else ar (2 * (wkA ar s (w / 2)).toNatClampNeg + w % 2) := by
  rw [wkA, dif_neg (by omega)]
theorem wkA_none (ar : Nat → Int32) (s : Int32) {w : Nat} (h : 2 ≤ w) (h1 : wkA ar s (w / 2) = -1) : wkA ar s w = -1 := by
  rw [wkA_2 _ _ h, if_pos h1]
theorem wkA_up (ar : Nat → Int32) (s : Int32) : ∀ (k w : Nat), 1 ≤ w / 2 ^ k → wkA ar s (w / 2 ^ k) = -1 → wkA ar s w = -1 := by
  intro k
  induction k with
  | zero => intro w _ h; simpa using h
  | succ k ih =>
    intro w h1 h
    have e : w / 2 ^ (k + 1) = w / 2 ^ k / 2 := by rw [Nat.pow_succ, Nat.div_div_eq_div_mul]
    rw [e] at h h1
    refine ih w (by omega) (wkA_none _ _ (by omega) h)
theorem wkA_in {ar : Nat → Int32} {s : Int32} {n : Nat} (har : ∀ i, i < 2 * n → ar i = -1 ∨ ∃ j, j < n ∧ ar i = nI j) (hn : n ≤ 1000) (hs : s = -1 ∨ ∃ j, j < n ∧ s = nI j) : ∀ (k w : Nat), w ≤ k → wkA ar s w = -1 ∨ ∃ j, j < n ∧ wkA ar s w = nI j := by
  intro k
  induction k with
  | zero => intro w hw; rw [wkA_1 _ _ (by omega)]; exact hs
  | succ k ih =>
    intro w hw
    by_cases h : w ≤ 1
    · rw [wkA_1 _ _ h]; exact hs
    · rw [wkA_2 _ _ (by omega)]
      rcases ih (w / 2) (by omega) with q | ⟨j, hj, q⟩
      · rw [if_pos q]; exact Or.inl rfl
      · by_cases q1 : wkA ar s (w / 2) = -1
        · rw [if_pos q1]; exact Or.inl rfl
        · rw [if_neg q1, q, nI_clamp (by omega)]
          exact har _ (by omega)
theorem wkA_congr {a1 a2 : Nat → Int32} {s : Int32} {n : Nat} (he : ∀ i, i < 2 * n → a1 i = a2 i) (har : ∀ i, i < 2 * n → a1 i = -1 ∨ ∃ j, j < n ∧ a1 i = nI j) (hn : n ≤ 1000) (hs : s = -1 ∨ ∃ j, j < n ∧ s = nI j) : ∀ (k w : Nat), w ≤ k → wkA a1 s w = wkA a2 s w := by
  intro k
  induction k with
  | zero => intro w hw; rw [wkA_1 _ _ (by omega), wkA_1 _ _ (by omega)]
  | succ k ih =>
    intro w hw
    by_cases h : w ≤ 1
    · rw [wkA_1 _ _ h, wkA_1 _ _ h]
    · rw [wkA_2 a1 s (w := w) (by omega), wkA_2 a2 s (w := w) (by omega), ← ih (w / 2) (by omega)]
      by_cases q1 : wkA a1 s (w / 2) = -1
      · rw [if_pos q1, if_pos q1]
      · rw [if_neg q1, if_neg q1]
        rcases wkA_in har hn hs (w / 2) (w / 2) (by omega) with q | ⟨j, hj, q⟩
        · exact absurd q q1
        · rw [q, nI_clamp (by omega)]
          exact he _ (by omega)
theorem nI_m1 {j : Nat} (h : j < 2 ^ 31) : ¬ nI j = -1 := fun q => by
  have h1 := nI_toInt h
  rw [q] at h1
  have h2 : (-1 : Int32).toInt = -1 := by decide
  omega
theorem ww_bit {w b : Nat} (hw : w < 2 ^ 31) (hb : b < 32) : (nI w >>> (nI b &&& 31)) &&& (1 : Int32) = nI (w / 2 ^ b % 2) := by
  rw [ww_shr hw hb]
  exact pk_andN (Nat.lt_of_le_of_lt (Nat.div_le_self _ _) (by omega)) 1 (by decide)
theorem ww_half (w b : Nat) : w / 2 ^ b / 2 = w / 2 ^ (b + 1) := by rw [Nat.pow_succ, Nat.div_div_eq_div_mul]
theorem ww_top {w : Nat} (h1 : 1 ≤ w) : w / 2 ^ Nat.log2 w = 1 := by
  have a := ww_log_le h1
  have b : w < 2 ^ (Nat.log2 w + 1) := ww_log_gt
  rw [Nat.pow_succ] at b
  have : 1 ≤ w / 2 ^ Nat.log2 w := Nat.div_pos a Nat.one_le_two_pow
  have : w / 2 ^ Nat.log2 w < 2 := (Nat.div_lt_iff_lt_mul Nat.one_le_two_pow).mpr (by omega)
  omega
theorem ww_ge {w b : Nat} (h1 : 1 ≤ w) (hb : b ≤ Nat.log2 w) : 1 ≤ w / 2 ^ b := Nat.div_pos (Nat.le_trans (Nat.pow_le_pow_right (by decide) hb) (ww_log_le h1)) Nat.one_le_two_pow
section HLA
variable {g : pw_G} {σ : pw_Mem} {Q : pw_R → Prop}
theorem c_walk {k n w : Nat} {s : Int32} (hk0 : pw_kd k = 0) (hk1 : pw_kd (k + 1) = 6) (hk2 : pw_kd (k + 2) = 6) (hn : n ≤ 512) (hlen : 2 * n ≤ pw_ln (k + 2)) (har : ∀ i, i < 2 * n → σ (k + 2) i = -1 ∨ ∃ j, j < n ∧ σ (k + 2) i = nI j) (hs : s = -1 ∨ ∃ j, j < n ∧ s = nI j) (h1 : 1 ≤ w) (h2 : w < 512)
    (h : Q (.inl (some (.int (wkA (σ (k + 2)) s w))), σ)) : WP g mX0_walk 0 [(0, .ref (pw_ad g k)), (1, .int s), (2, .int (nI w))] [] 0 σ Q := by
  have hlt := ww_log_lt h1 h2
  have hll := pw_ln_le hk2 (by decide)
  have fin : ∀ b : Nat, b ≤ Nat.log2 w → wkA (σ (k + 2)) s (w / 2 ^ b) = -1 → Q (.inl (some (.int (-1))), σ) := by
    intro b hb q
    rw [wkA_up _ _ b w (ww_ge h1 hb) q] at h
    exact h
  have loop : ∀ b : Nat, b ≤ Nat.log2 w → WP g mX0_walk 10 [(0, .ref (pw_ad g k)), (1, .int s), (2, .int (nI w)), (3, .int (wkA (σ (k + 2)) s (w / 2 ^ b))), (4, .int (nI b - 1))] [] 0 σ Q := by
    intro b
    induction b with
    | zero =>
      intro _
      refine bX0_walk_10 hk0 hk1 hk2 (fun _ => ?_) (fun a => absurd (by decide) a) (fun a => absurd (by decide) a)
      rw [Nat.pow_zero, Nat.div_one]
      exact h
    | succ b ih =>
      intro hb
      rw [show nI (b + 1) - 1 = nI b from nI_pred b]
      refine bX0_walk_10 hk0 hk1 hk2 (fun a => absurd a (nI_pos (by omega))) (fun _ a => ?_) (fun _ a => ?_)
      · rw [a]; exact fin _ hb a
      · rcases wkA_in har (by omega) hs _ (w / 2 ^ (b + 1)) (Nat.le_refl _) with q | ⟨j, hj, q⟩
        · exact absurd q a
        · have e1 : (2 : Int32) * nI j + nI (w / 2 ^ b % 2) = nI (2 * j + w / 2 ^ b % 2) := by rw [ww_2, pk_mul, nI_add]
          have e2 : wkA (σ (k + 2)) s (w / 2 ^ b) = σ (k + 2) (2 * j + w / 2 ^ b % 2) := by
            have hg := ww_ge h1 hb
            rw [wkA_2 _ _ (by rw [← ww_half] at hg; omega), ww_half, if_neg a, q, nI_clamp (by omega)]
          rw [q, ww_bit (by omega) (by omega)]
          refine bX0_arrow_0 hk0 hk1 hk2 ?_ ?_
          · rw [e1]; exact vp_in_nI (by omega) (by omega)
          · rw [e1, nI_clamp (by omega), ← e2]
            refine bX0_walk_31 hk0 hk1 hk2 ?_
            rw [show nI b + (-1) = nI b - 1 from (Int32.sub_eq_add_neg _ _).symm]
            exact ih (by omega)
  refine bX0_walk_0 hk0 hk1 hk2 ?_
  refine wp_callN (M' := mX4_lengthOf) (Q' := fun r => r = (.inl (some (.int (nI (Nat.log2 w)))), σ)) [.int (nI w)] [] dX0_walk_3 ck_X0_22 ⟨Nat.le_of_ble_eq_true rfl, Nat.le_of_ble_eq_true rfl⟩ rfl (Nat.le_of_ble_eq_true rfl) (Nat.le_of_ble_eq_true rfl) rfl (Nat.le_of_ble_eq_true rfl) rfl (fun U hU => hU.2.1.1) (fun E σ' q => by cases q) (c_lengthOf h1 h2 rfl) (fun rv σ' q => ?_)
  cases q
  refine bX0_walk_6 hk0 hk1 hk2 ?_
  have := loop (Nat.log2 w) (Nat.le_refl _)
  rw [ww_top h1, wkA_1 _ _ (Nat.le_refl 1)] at this
  exact this
def cL (σ : pw_Mem) (n : Nat) (sg ar : Nat → Int32) : Prop := σ 13 2 = nI n ∧ (∀ k, k < n → σ 14 k = sg k) ∧ ∀ k, k < 2 * n → σ 15 k = ar k
def mL (σ : pw_Mem) (n : Nat) (sg ar : Nat → Int32) : Prop := σ 29 14 = nI n ∧ (∀ k, k < n → σ 40 k = sg k) ∧ ∀ k, k < 2 * n → σ 39 k = ar k
def okL (n : Nat) (ar : Nat → Int32) : Prop := n ≤ 511 ∧ ∀ k, k < 2 * n → ar k = -1 ∨ ∃ j, j < n ∧ ar k = nI j
theorem c_has {k n : Nat} {x : Int32} (hk0 : pw_kd k = 0) (hk1 : pw_kd (k + 1) = 6) (hk2 : pw_kd (k + 2) = 6) (hn : σ k 2 = nI n) (hn2 : n < 2 ^ 31) (h1 : (∃ j, j < n ∧ x = nI j) → Q (.inl (some (.int 1)), σ)) (h2 : ¬ (∃ j, j < n ∧ x = nI j) → Q (.inl (some (.int 0)), σ)) : WP g mX0_has 0 [(0, .ref (pw_ad g k)), (1, .int x)] [] 0 σ Q := by
  refine bX0_has_0 hk0 hk1 hk2 (fun a => h2 ?_) (fun a b => h2 ?_) (fun a b => h1 ?_)
  · rintro ⟨j, hj, rfl⟩; exact nI_pos (by omega) a
  · rintro ⟨j, hj, rfl⟩; rw [hn] at b; exact nI_ge hj hn2 b
  · rcases pk_ix x hn2 with q | q | q
    · exact absurd q a
    · exact absurd (hn ▸ q) b
    · exact q
theorem c_checkState {k n : Nat} {x : Int32} (hl9 : (pw_l g).stackTraces = false) (hk0 : pw_kd k = 0) (hk1 : pw_kd (k + 1) = 6) (hk2 : pw_kd (k + 2) = 6) (hn : σ k 2 = nI n) (hn2 : n < 2 ^ 31) (h1 : (∃ j, j < n ∧ x = nI j) → Q (.inl none, σ)) (h2 : ¬ (∃ j, j < n ∧ x = nI j) → Q (.inr E_I, σ)) : WP g mX4_checkState 0 [(0, .ref (pw_ad g k)), (1, .int x)] [] 0 σ Q := by
  refine bX4_checkState_0 hk0 (c_has hk0 hk1 hk2 hn hn2 (fun q => ?_) (fun q => ?_))
  · exact bX4_checkState_5 hk0 hl9 (fun _ => h1 q) (fun a => absurd a (by decide))
  · exact bX4_checkState_5 hk0 hl9 (fun a => absurd rfl a) (fun _ => h2 q)
theorem C_states {n : Nat} {sg ar : Nat → Int32} (hL : cL σ n sg ar) (h : Q (.inl (some (.int (nI n))), σ)) : WP g mX4_states 0 [(0, .ref (pw_ad g 0))] [] 0 σ Q := by
  refine bX4_states_0 (bX0_count_0 (k := 13) rfl rfl rfl ?_)
  rw [hL.1]
  exact bX4_states_7 h
theorem C_next {n : Nat} {sg ar : Nat → Int32} {x1 x2 : Int32} (hl9 : (pw_l g).stackTraces = false) (hL : cL σ n sg ar) (ok : okL n ar) (h1 : ∀ j l, j < n → l < 2 → x1 = nI j → x2 = nI l → Q (.inl (some (.int (ar (2 * j + l)))), σ)) (h2 : ¬ (∃ j l, j < n ∧ l < 2 ∧ x1 = nI j ∧ x2 = nI l) → Q (.inr E_I, σ)) : WP g mX4_next 0 [(0, .ref (pw_ad g 0)), (1, .int x1), (2, .int x2)] [] 0 σ Q := by
  have hn := ok.1
  refine bX4_next_0 (c_checkState hl9 rfl rfl rfl hL.1 (by omega) (fun q => ?_) (fun q => h2 ?_))
  · obtain ⟨j, hj, rfl⟩ := q
    refine bX4_next_8 hl9 (fun a => h2 ?_) (fun a b => ?_) (fun a b => h2 ?_)
    · rintro ⟨_, l, _, hl, _, rfl⟩; exact nI_pos (by omega) a
    · obtain ⟨l, hl, rfl⟩ := nI_of a
      have hl2 : l < 2 := (nI_ltI hl (by decide)).mp b
      have e : (2 : Int32) * nI j + nI l = nI (2 * j + l) := by rw [ww_2, pk_mul, nI_add]
      refine bX0_arrow_0 rfl rfl rfl ?_ ?_
      · rw [e]; exact vp_in_nI (N := 1024) (by omega) (by decide)
      · rw [e, nI_clamp (by omega), show σ (13 + 2) (2 * j + l) = ar (2 * j + l) from hL.2.2 _ (by omega)]
        exact bX4_next_36 (h1 j l hj hl2 rfl rfl)
    · rintro ⟨_, l, _, hl, _, rfl⟩; exact b (nI_lt (b := 2) hl (by decide))
  · rintro ⟨j, _, hj, _, e, _⟩; exact q ⟨j, hj, e⟩
theorem C_sign {n : Nat} {sg ar : Nat → Int32} {x1 : Int32} (hl9 : (pw_l g).stackTraces = false) (hL : cL σ n sg ar) (ok : okL n ar) (h1 : ∀ j, j < n → x1 = nI j → Q (.inl (some (.int (sg j))), σ)) (h2 : ¬ (∃ j, j < n ∧ x1 = nI j) → Q (.inr E_I, σ)) : WP g mX4_sign 0 [(0, .ref (pw_ad g 0)), (1, .int x1)] [] 0 σ Q := by
  have hn := ok.1
  refine bX4_sign_0 (c_checkState hl9 rfl rfl rfl hL.1 (by omega) (fun q => ?_) h2)
  obtain ⟨j, hj, rfl⟩ := q
  refine bX4_sign_8 (bX0_markOf_0 rfl rfl rfl (vp_in_nI (N := 512) (by omega) (by decide)) ?_)
  rw [nI_clamp (by omega), show σ (13 + 1) j = sg j from hL.2.1 _ hj]
  exact bX4_sign_16 (h1 j hj rfl)
/-- does the word lead to a good state -/
def acc (sg ar : Nat → Int32) (w : Nat) : Int32 := if wkA ar 0 w = -1 then 0 else if sg (wkA ar 0 w).toNatClampNeg = 1 then 1 else 0
theorem C_accepts_bad {x1 x2 : Int32} (hl9 : (pw_l g).stackTraces = false) (hn : ¬ isW x1 x2) (h : Q (.inr E_I, σ)) : WP g mX4_accepts 0 [(0, .ref (pw_ad g 0)), (1, .int x1), (2, .int x2)] [] 0 σ Q :=
  bX4_accepts_0 (c_checkedWord hl9 (fun _ => h) (fun q => absurd q hn))
theorem c_checkLearned {n : Nat} {sg ar : Nat → Int32} (hl9 : (pw_l g).stackTraces = false) (hL : cL σ n sg ar) (ok : okL n ar) (h1 : n ≠ 0 → Q (.inl none, σ)) (h2 : n = 0 → Q (.inr E_S, σ)) : WP g mX4_checkLearned 0 [(0, .ref (pw_ad g 0))] [] 0 σ Q := by
  have hn := ok.1
  refine bX4_checkLearned_0 (bX0_count_0 (k := 13) rfl rfl rfl ?_)
  rw [hL.1]
  refine bX4_checkLearned_7 hl9 (fun a => h1 fun q => a (by rw [q]; rfl)) (fun a => h2 ?_)
  exact (nI_eq (by omega) (by decide)).mp (a.trans nI_0.symm)
theorem C_accepts_ok {x1 x2 : Int32} {n w : Nat} {sg ar : Nat → Int32} (hl9 : (pw_l g).stackTraces = false) (hw : isW x1 x2) (h1 : 1 ≤ w) (h2 : w < 512) (e : ((1 : Int32) <<< (x1 &&& 31)) + x2 = nI w) (hL : cL σ n sg ar) (ok : okL n ar) (ha : n = 0 → Q (.inr E_S, σ)) (hb : n ≠ 0 → Q (.inl (some (.int (acc sg ar w))), σ)) : WP g mX4_accepts 0 [(0, .ref (pw_ad g 0)), (1, .int x1), (2, .int x2)] [] 0 σ Q := by
  have hn := ok.1
  refine bX4_accepts_0 (c_checkedWord hl9 (fun q => absurd hw q) (fun _ => ?_))
  rw [e]
  refine bX4_accepts_5 (c_checkLearned hl9 hL ok (fun q => ?_) ha)
  have hb := hb q
  have har : ∀ i, i < 2 * n → σ (13 + 2) i = -1 ∨ ∃ j, j < n ∧ σ (13 + 2) i = nI j := fun i hi => by
    rw [show σ (13 + 2) i = ar i from hL.2.2 i hi]; exact ok.2 i hi
  have hs : (0 : Int32) = -1 ∨ ∃ j, j < n ∧ (0 : Int32) = nI j := Or.inr ⟨0, by omega, rfl⟩
  have ew : wkA (σ (13 + 2)) 0 w = wkA ar 0 w := wkA_congr (fun i hi => hL.2.2 i hi) har (by omega) hs w w (Nat.le_refl _)
  refine bX4_accepts_10 (c_walk (k := 13) (n := n) rfl rfl rfl (by omega) (by show 2 * n ≤ 1024; omega) har hs h1 h2 ?_)
  rw [ew]
  refine bX4_accepts_19 (fun a => ?_) (fun a => ?_)
  · rw [acc, if_pos a] at hb; exact hb
  · rcases wkA_in ok.2 (by omega) hs w w (Nat.le_refl _) with z | ⟨j, hj, z⟩
    · exact absurd z a
    · rw [acc, if_neg a] at hb
      rw [z, nI_clamp (by omega)] at hb
      rw [z]
      refine bX0_markOf_0 rfl rfl rfl (vp_in_nI (N := 512) (by omega) (by decide)) ?_
      rw [nI_clamp (by omega), show σ (13 + 1) j = sg j from hL.2.1 _ hj]
      refine bX4_accepts_36 (fun c => ?_) (fun c => ?_)
      · rw [if_neg c] at hb; exact hb
      · rw [if_pos c] at hb; exact hb
theorem M_states {n : Nat} {sg ar : Nat → Int32} (hL : mL σ n sg ar) (h : Q (.inl (some (.int (nI n))), pw_set σ 29 0 0)) : WP g mX5_states 0 [(0, .ref (pw_ad g 29))] [] 0 σ Q := by
  refine bX5_states_0 ?_
  rw [hL.1]
  exact h
theorem m_isState {n : Nat} {x : Int32} (hn : σ 29 14 = nI n) (hn2 : n < 2 ^ 31) (h1 : (∃ j, j < n ∧ x = nI j) → Q (.inl (some (.int 1)), σ)) (h2 : ¬ (∃ j, j < n ∧ x = nI j) → Q (.inl (some (.int 0)), σ)) : WP g mX5_isState 0 [(0, .ref (pw_ad g 29)), (1, .int x)] [] 0 σ Q := by
  refine bX5_isState_0 (fun a => h2 ?_) (fun a b => h2 ?_) (fun a b => h1 ?_)
  · rintro ⟨j, hj, rfl⟩; exact nI_pos (by omega) a
  · rintro ⟨j, hj, rfl⟩; rw [hn] at b; exact nI_ge hj hn2 b
  · rcases pk_ix x hn2 with q | q | q
    · exact absurd q a
    · exact absurd (hn ▸ q) b
    · exact q
theorem M_next {n : Nat} {sg ar : Nat → Int32} {x1 x2 : Int32} (hL : mL σ n sg ar) (ok : okL n ar) (h1 : ∀ j l, j < n → l < 2 → x1 = nI j → x2 = nI l → Q (.inl (some (.int (ar (2 * j + l)))), pw_set σ 29 0 0)) (h2 : ¬ (∃ j l, j < n ∧ l < 2 ∧ x1 = nI j ∧ x2 = nI l) → Q (.inl (some (.int 0)), pw_set σ 29 0 1)) : WP g mX5_next 0 [(0, .ref (pw_ad g 29)), (1, .int x1), (2, .int x2)] [] 0 σ Q := by
  have hn := ok.1
  have bad : ¬ (∃ j l, j < n ∧ l < 2 ∧ x1 = nI j ∧ x2 = nI l) → WP g mX5_when 0 [(0, .ref (pw_ad g 29)), (1, .int (0 : Int32)), (2, .int (1 : Int32))] [] 0 σ (pw_k g mX5_next 27 [(0, .ref (pw_ad g 29)), (1, .int x1), (2, .int x2)] [] 0 Q) := fun q =>
    m_whenF (bX5_next_27 (fun _ => h2 q) (fun a => absurd rfl a) (fun a => absurd rfl a))
  refine bX5_next_0 (m_isState hL.1 (by omega) (fun q => ?_) (fun q => ?_))
  · obtain ⟨j, hj, rfl⟩ := q
    refine bX5_next_6 (fun a => absurd a (by decide)) (fun _ a => bad ?_) (fun _ a b => bad ?_) (fun _ a b => ?_)
    · rintro ⟨_, l, _, hl, _, rfl⟩; exact nI_pos (by omega) a
    · rintro ⟨_, l, _, hl, _, rfl⟩; exact absurd b (nI_nlt (a := 1) (by omega) (by decide))
    · obtain ⟨l, hl, rfl⟩ := nI_of a
      have hl2 : l < 2 := by
        rcases Nat.lt_or_ge l 2 with q | q
        · exact q
        · exact absurd (nI_lt (a := 1) (b := l) (by omega) hl) b
      have e : (2 : Int32) * nI j + nI l = nI (2 * j + l) := by rw [ww_2, pk_mul, nI_add]
      refine m_whenT (bX5_next_27 (fun a => absurd a (by decide)) (fun _ => ?_) (fun _ => ?_))
      · rw [e]; exact vp_in_nI (by omega) (by decide)
      · rw [e, nI_clamp (by omega), ms_ne _ _ _ _ _ (by decide), hL.2.2 _ (by omega)]
        exact h1 j l hj hl2 rfl rfl
  · refine bX5_next_6 (fun _ => bad ?_) (fun a => absurd rfl a) (fun a => absurd rfl a) (fun a => absurd rfl a)
    rintro ⟨j, _, hj, _, e, _⟩; exact q ⟨j, hj, e⟩
theorem M_sign {n : Nat} {sg ar : Nat → Int32} {x1 : Int32} (hL : mL σ n sg ar) (ok : okL n ar) (h1 : ∀ j, j < n → x1 = nI j → Q (.inl (some (.int (sg j))), pw_set σ 29 0 0)) (h2 : ¬ (∃ j, j < n ∧ x1 = nI j) → Q (.inl (some (.int 0)), pw_set σ 29 0 1)) : WP g mX5_sign 0 [(0, .ref (pw_ad g 29)), (1, .int x1)] [] 0 σ Q := by
  have hn := ok.1
  refine bX5_sign_0 (m_isState hL.1 (by omega) (fun q => ?_) (fun q => ?_))
  · obtain ⟨j, hj, rfl⟩ := q
    refine bX5_sign_6 (m_whenT (bX5_sign_10 (fun a => absurd a (by decide)) (fun _ => vp_in_nI (by omega) (by decide)) (fun _ => ?_)))
    rw [nI_clamp (by omega), ms_ne _ _ _ _ _ (by decide), hL.2.1 _ hj]
    exact h1 j hj rfl
  · exact bX5_sign_6 (m_whenF (bX5_sign_10 (fun _ => h2 q) (fun a => absurd rfl a) (fun a => absurd rfl a)))
theorem M_accepts_bad {x1 x2 : Int32} (hn : ¬ isW x1 x2) (h : Q (.inl (some (.int 0)), pw_set σ 29 0 1)) : WP g mX5_accepts 0 [(0, .ref (pw_ad g 29)), (1, .int x1), (2, .int x2)] [] 0 σ Q :=
  bX5_accepts_0 (m_isWord (fun _ => bX5_accepts_6 (m_whenF (bX5_accepts_10 (fun _ => h) (fun a => absurd rfl a) (fun a => absurd rfl a)))) (fun q => absurd q hn))
theorem M_accepts_ok {x1 x2 : Int32} {n w : Nat} {sg ar : Nat → Int32} (hw : isW x1 x2) (h1 : 1 ≤ w) (h2 : w < 512) (e : ((1 : Int32) <<< (x1 &&& 31)) + x2 = nI w) (hL : mL σ n sg ar) (ok : okL n ar) (ha : n = 0 → ∀ σ', mfr [] [0] σ σ' → σ' 29 0 = 2 → Q (.inl (some (.int 0)), σ')) (hb : n ≠ 0 → ∀ σ', mfr [] [0] σ σ' → σ' 29 0 = 0 → Q (.inl (some (.int (acc sg ar w))), σ')) : WP g mX5_accepts 0 [(0, .ref (pw_ad g 29)), (1, .int x1), (2, .int x2)] [] 0 σ Q := by
  have hn := ok.1
  obtain ⟨c, m, hc9, hm, rfl, rfl⟩ := isW_num hw
  have h2c : 2 ^ c ≤ 2 ^ 8 := Nat.pow_le_pow_right (by decide) (by omega)
  have h1c : 1 ≤ 2 ^ c := Nat.one_le_two_pow
  have ewm : w = 2 ^ c + m := by
    rw [ww_pow hc9, nI_add] at e
    exact ((nI_eq (by omega) (by omega)).mp e).symm
  have elog : Nat.log2 w = c := ww_log (by omega) (by rw [Nat.pow_succ]; omega)
  have ebit : ∀ b, b < c → m / 2 ^ b % 2 = w / 2 ^ b % 2 := by
    intro b hb
    have e2 : 2 ^ c = 2 ^ (c - b - 1) * 2 * 2 ^ b := by
      rw [Nat.mul_assoc, ← Nat.pow_succ', ← Nat.pow_add]
      congr 1
      omega
    rw [ewm, e2, Nat.add_comm, Nat.add_mul_div_right _ _ Nat.one_le_two_pow]
    omega
  refine bX5_accepts_0 (m_isWord (fun q => absurd hw q) (fun _ => bX5_accepts_6 (m_whenT (bX5_accepts_10 (fun a => absurd a (by decide)) (fun _ a => ?_) (fun _ a => ?_)))))
  · rw [ms_ne2 _ _ _ _ (by decide), hL.1] at a
    have h0 : n = 0 := by
      rcases Nat.eq_zero_or_pos n with q | q
      · exact q
      · exact absurd a (nI_nle q (by omega))
    exact m_whenF (bX5_accepts_30 (fun a => absurd rfl a) (fun _ => ha h0 _ ((mfr.rf.fld (by decide)).fld (by decide)) (ms_same _ _ _ _)))
  · rw [ms_ne2 _ _ _ _ (by decide), hL.1] at a
    have h0 : n ≠ 0 := fun q => a (by rw [q]; decide)
    have hs : (0 : Int32) = -1 ∨ ∃ j, j < n ∧ (0 : Int32) = nI j := Or.inr ⟨0, by omega, rfl⟩
    refine m_whenT (bX5_accepts_30 (fun _ => ?_) (fun a => absurd a (by decide)))
    have hb := hb h0 _ ((mfr.rf.fld (by decide)).fld (by decide)) (ms_same (pw_set σ 29 0 0) 29 0 0)
    generalize hσ1 : pw_set (pw_set σ 29 0 0) 29 0 0 = σ1 at hb ⊢
    have e40 : ∀ j, j < n → σ1 40 j = sg j := fun j hj => by
      rw [← hσ1, ms_ne _ _ _ _ _ (by decide), ms_ne _ _ _ _ _ (by decide)]; exact hL.2.1 j hj
    have e39 : ∀ j, j < 2 * n → σ1 39 j = ar j := fun j hj => by
      rw [← hσ1, ms_ne _ _ _ _ _ (by decide), ms_ne _ _ _ _ _ (by decide)]; exact hL.2.2 j hj
    have fin : ∀ b : Nat, b ≤ Nat.log2 w → wkA ar 0 (w / 2 ^ b) = -1 → Q (.inl (some (.int 0)), σ1) := by
      intro b hb9 q
      rw [acc, if_pos (wkA_up _ _ b w (ww_ge h1 hb9) q)] at hb
      exact hb
    have loop : ∀ b : Nat, b ≤ Nat.log2 w → WP g mX5_accepts 42 [(0, .ref (pw_ad g 29)), (1, .int (nI c)), (2, .int (nI m)), (3, .int (wkA ar 0 (w / 2 ^ b))), (4, .int (nI b - 1))] [] 0 σ1 Q := by
      intro b
      induction b with
      | zero =>
        intro _
        rw [Nat.pow_zero, Nat.div_one]
        rcases wkA_in ok.2 (by omega) hs w w (Nat.le_refl _) with z | ⟨j, hj, z⟩
        · rw [acc, if_pos z] at hb
          rw [z]
          exact bX5_accepts_42 (fun _ _ => hb) (fun _ a => absurd (by decide) a) (fun _ a => absurd (by decide) a) (fun _ a => absurd (by decide) a) (fun a => absurd (by decide) a) (fun a => absurd (by decide) a) (fun a => absurd (by decide) a) (fun a => absurd (by decide) a) (fun a => absurd (by decide) a) (fun a => absurd (by decide) a)
        · rw [acc, if_neg (by rw [z]; exact nI_m1 (by omega)), z, nI_clamp (by omega)] at hb
          rw [z]
          refine bX5_accepts_42 (fun _ a => absurd a (nI_pos (by omega))) (fun _ _ => vp_in_nI (by omega) (by decide)) (fun _ _ a => ?_) (fun _ _ a => ?_) (fun a => absurd (by decide) a) (fun a => absurd (by decide) a) (fun a => absurd (by decide) a) (fun a => absurd (by decide) a) (fun a => absurd (by decide) a) (fun a => absurd (by decide) a)
          · rw [nI_clamp (by omega), e40 j hj] at a
            rw [if_neg a] at hb; exact hb
          · rw [nI_clamp (by omega), e40 j hj] at a
            rw [if_pos a] at hb; exact hb
      | succ b ih =>
        intro hb9
        rw [show nI (b + 1) - 1 = nI b from nI_pred b]
        have hp : ¬ nI b < 0 := nI_pos (by omega)
        rcases wkA_in ok.2 (by omega) hs _ (w / 2 ^ (b + 1)) (Nat.le_refl _) with z | ⟨j, hj, z⟩
        · have hf := fin _ hb9 z
          rw [z]
          exact bX5_accepts_42 (fun a => absurd a hp) (fun a => absurd a hp) (fun a => absurd a hp) (fun a => absurd a hp) (fun _ _ _ => hf) (fun _ _ a => absurd (by decide) a) (fun _ _ a => absurd (by decide) a) (fun _ _ a => absurd (by decide) a) (fun _ a => absurd (by decide) a) (fun _ a => absurd (by decide) a)
        · have hj0 : ¬ nI j < 0 := nI_pos (by omega)
          have e1 : (2 : Int32) * nI j + ((nI m >>> (nI b &&& 31)) &&& (1 : Int32)) = nI (2 * j + w / 2 ^ b % 2) := by
            rw [ww_bit (by omega) (by omega), ebit b (by omega), ww_2, pk_mul, nI_add]
          have e2 : wkA ar 0 (w / 2 ^ b) = ar (2 * j + w / 2 ^ b % 2) := by
            have hg := ww_ge h1 hb9
            rw [wkA_2 _ _ (by rw [← ww_half] at hg; omega), ww_half, z, if_neg (nI_m1 (by omega)), nI_clamp (by omega)]
          rw [z]
          refine bX5_accepts_42 (fun a => absurd a hp) (fun a => absurd a hp) (fun a => absurd a hp) (fun a => absurd a hp) (fun _ a => absurd a hj0) (fun _ a => absurd a hj0) (fun _ a => absurd a hj0) (fun _ a => absurd a hj0) (fun _ _ => ?_) (fun _ _ => ?_)
          · rw [e1]; exact vp_in_nI (by omega) (by decide)
          · rw [e1, nI_clamp (by omega), e39 _ (by omega), ← e2, show nI b + (-1) = nI b - 1 from (Int32.sub_eq_add_neg _ _).symm]
            exact ih (by omega)
    have := loop (Nat.log2 w) (Nat.le_refl _)
    rw [ww_top h1, wkA_1 _ _ (Nat.le_refl 1), elog] at this
    exact this
end HLA
