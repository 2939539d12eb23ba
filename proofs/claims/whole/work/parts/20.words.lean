/-! words: numbers of the class (a bit 1 ahead of the letters), those of the reference are one less -/
section HWA
variable {g : pw_G} {σ : pw_Mem} {Q : pw_R → Prop}
theorem ww_sh : ∀ n, n < 32 → ((nI n &&& 31).toBitVec.smod 32).toNat = n := by decide +kernel
theorem ww_shl {a n : Nat} (hn : n < 32) (h : a * 2 ^ n < 2 ^ 32) : nI a <<< (nI n &&& 31) = nI (a * 2 ^ n) := pk_shlN _ n (ww_sh n hn) h
theorem ww_1 : (1 : Int32) = nI 1 := rfl
theorem ww_2 : (2 : Int32) = nI 2 := rfl
theorem ww_0 : (0 : Int32) = nI 0 := rfl
theorem ww_pow {n : Nat} (hn : n < 9) : (1 : Int32) <<< (nI n &&& 31) = nI (2 ^ n) := by
  rw [ww_1, ww_shl (by omega)]
  · rw [Nat.one_mul]
  · have : 2 ^ n ≤ 2 ^ 8 := Nat.pow_le_pow_right (by decide) (by omega)
    omega
theorem ww_shr {a n : Nat} (ha : a < 2 ^ 31) (hn : n < 32) : nI a >>> (nI n &&& 31) = nI (a / 2 ^ n) := pk_shrN ha _ n (ww_sh n hn)
/-- length and letters are those of a word -/
def isW (x0 x1 : Int32) : Prop := ¬ x0 < 0 ∧ ¬ (8 : Int32) < x0 ∧ ¬ x1 < 0 ∧ x1 < ((1 : Int32) <<< (x0 &&& 31))
theorem isW_num {x0 x1 : Int32} (h : isW x0 x1) : ∃ n m : Nat, n < 9 ∧ m < 2 ^ n ∧ x0 = nI n ∧ x1 = nI m := by
  obtain ⟨h1, h2, h3, h4⟩ := h
  obtain ⟨n, hn, rfl⟩ := nI_of h1
  have h8 : n < 9 := by
    rcases Nat.lt_or_ge n 9 with q | q
    · exact q
    · exact absurd (nI_lt (a := 8) (b := n) (by omega) hn) h2
  obtain ⟨m, hm, rfl⟩ := nI_of h3
  rw [ww_pow h8] at h4
  have h2n : 2 ^ n ≤ 2 ^ 8 := Nat.pow_le_pow_right (by decide) (by omega)
  exact ⟨n, m, h8, (nI_ltI hm (by omega)).mp h4, rfl, rfl⟩
theorem isW_word {x0 x1 : Int32} (h : isW x0 x1) : ∃ w : Nat, 1 ≤ w ∧ w < 512 ∧ ((1 : Int32) <<< (x0 &&& 31)) + x1 = nI w ∧ (((1 : Int32) <<< (x0 &&& 31)) - (1 : Int32)) + x1 = nI (w - 1) := by
  obtain ⟨n, m, hn, hm, rfl, rfl⟩ := isW_num h
  have h2n : 2 ^ n ≤ 2 ^ 8 := Nat.pow_le_pow_right (by decide) (by omega)
  have h1n : 1 ≤ 2 ^ n := Nat.one_le_two_pow
  refine ⟨2 ^ n + m, by omega, by omega, ?_, ?_⟩
  · rw [ww_pow hn, nI_add]
  · rw [ww_pow hn, ww_1, pk_sub h1n, nI_add]
    congr 1
    omega
theorem c_checkedWord {x0 x1 : Int32} (hl9 : (pw_l g).stackTraces = false) (h1 : ¬ isW x0 x1 → Q (.inr "java/lang/IndexOutOfBoundsException", σ)) (h2 : isW x0 x1 → Q (.inl (some (.int (((1 : Int32) <<< (x0 &&& 31)) + x1))), σ)) : WP g mX4_checkedWord 0 [(0, .int x0), (1, .int x1)] [] 0 σ Q := by
  refine bX4_checkedWord_0 hl9 (fun a => h1 fun q => q.1 a) (fun a b => h1 fun q => q.2.1 b) (fun a b d => h1 fun q => q.2.2.1 d) (fun a b d e => h2 ⟨a, b, d, e⟩) (fun a b d e => h1 fun q => e q.2.2.2)
theorem m_isWord {x0 x1 : Int32} (h1 : ¬ isW x0 x1 → Q (.inl (some (.int 0)), σ)) (h2 : isW x0 x1 → Q (.inl (some (.int 1)), σ)) : WP g mX5_isWord 0 [(0, .int x0), (1, .int x1)] [] 0 σ Q := by
  refine bX5_isWord_0 (fun a => h1 fun q => q.1 a) (fun a b => h1 fun q => q.2.1 b) (fun a b d => h1 fun q => q.2.2.1 d) (fun a b d e => h1 fun q => absurd q.2.2.2 (Int32.not_lt.mpr e)) (fun a b d e => h2 ⟨a, b, d, Int32.not_le.mp e⟩)
theorem ww_log {w n : Nat} (h1 : 2 ^ n ≤ w) (h2 : w < 2 ^ (n + 1)) : Nat.log2 w = n := by
  have h0 : w ≠ 0 := by
    have := Nat.one_le_two_pow (n := n)
    omega
  exact (Nat.log2_eq_iff h0).mpr ⟨h1, h2⟩
theorem ww_log_lt {w : Nat} (h1 : 1 ≤ w) (h2 : w < 512) : Nat.log2 w < 9 := (Nat.log2_lt (by omega)).mpr h2
theorem ww_log_le {w : Nat} (h1 : 1 ≤ w) : 2 ^ Nat.log2 w ≤ w := Nat.log2_self_le (by omega)
theorem ww_log_gt {w : Nat} : w < 2 ^ (Nat.log2 w + 1) := Nat.lt_log2_self
theorem c_lengthOf {w : Nat} (h1 : 1 ≤ w) (h2 : w < 512) (h : Q (.inl (some (.int (nI (Nat.log2 w)))), σ)) : WP g mX4_lengthOf 0 [(0, .int (nI w))] [] 0 σ Q := by
  have loop : ∀ k n : Nat, n + k = 8 → 2 ^ n ≤ w → WP g mX4_lengthOf 2 [(0, .int (nI w)), (1, .int (nI n))] [] 0 σ Q := by
    intro k
    induction k with
    | zero =>
      intro n hn hw
      have h8 : n = 8 := by omega
      subst h8
      have e : Nat.log2 w = 8 := ww_log hw (by omega)
      rw [e] at h
      exact bX4_lengthOf_2 (fun _ => h) (fun a _ => h) (fun a _ => absurd (by decide) a)
    | succ k ih =>
      intro n hn hw
      have e1 : nI n + (1 : Int32) = nI (n + 1) := nI_1 n
      refine bX4_lengthOf_2 (fun a => ?_) (fun a b => ?_) (fun a b => ?_)
      · exact absurd a (nI_ge (a := n) (b := 8) (by omega) (by decide))
      · rw [e1, ww_shr (by omega) (by omega)] at b
        have hz : w / 2 ^ (n + 1) = 0 := (nI_eq (Nat.lt_of_le_of_lt (Nat.div_le_self _ _) (by omega)) (by decide)).mp b
        have hlt : w < 2 ^ (n + 1) := by
          rcases Nat.lt_or_ge w (2 ^ (n + 1)) with q | q
          · exact q
          · have := Nat.div_pos q Nat.one_le_two_pow
            omega
        rw [ww_log hw hlt] at h
        exact h
      · rw [show nI n + 1 = nI (n + 1) from nI_1 n]
        refine ih (n + 1) (by omega) ?_
        rcases Nat.lt_or_ge w (2 ^ (n + 1)) with q | q
        · exfalso
          apply b
          rw [e1, ww_shr (by omega) (by omega), Nat.div_eq_of_lt q]
          rfl
        · exact q
  exact bX4_lengthOf_0 (loop 8 0 rfl h1)
theorem m_lengthOf {w : Nat} (h1 : 1 ≤ w) (h2 : w < 512) (h : Q (.inl (some (.int (nI (Nat.log2 w)))), σ)) : WP g mX5_lengthOf 0 [(0, .int (nI (w - 1)))] [] 0 σ Q := by
  have loop : ∀ k n : Nat, n + k = 9 → 2 ^ n ≤ w → WP g mX5_lengthOf 2 [(0, .int (nI (w - 1))), (1, .int (nI n))] [] 0 σ Q := by
    intro k
    induction k with
    | zero =>
      intro n hn hw
      have : n = 9 := by omega
      subst this
      omega
    | succ k ih =>
      intro n hn hw
      have h2n : 2 ^ n ≤ 2 ^ 8 := Nat.pow_le_pow_right (by decide) (by omega)
      have h1n : 1 ≤ 2 ^ n := Nat.one_le_two_pow
      have e2 : (2 : Int32) <<< (nI n &&& 31) - (1 : Int32) = nI (2 ^ (n + 1) - 1) := by
        rw [ww_2, ww_shl (by omega) (by omega), ww_1, pk_sub (by omega), Nat.pow_succ, Nat.mul_comm]
      refine bX5_lengthOf_2 (fun a => ?_) (fun a => ?_)
      · rw [e2] at a
        have hlt := (nI_ltI (by omega) (by rw [Nat.pow_succ]; omega)).mp a
        rw [ww_log hw (by omega)] at h
        exact h
      · rw [show nI n + 1 = nI (n + 1) from nI_1 n]
        refine ih (n + 1) (by omega) ?_
        rw [e2] at a
        rcases Nat.lt_or_ge w (2 ^ (n + 1)) with q | q
        · exact absurd (nI_lt (by omega) (by rw [Nat.pow_succ]; omega)) a
        · exact q
  exact bX5_lengthOf_0 (loop 9 0 rfl h1)
theorem m_lettersOf {w : Nat} (h1 : 1 ≤ w) (h2 : w < 512) (h : Q (.inl (some (.int (nI (w - 2 ^ Nat.log2 w)))), σ)) : WP g mX5_lettersOf 0 [(0, .int (nI (w - 1)))] [] 0 σ Q := by
  refine bX5_lettersOf_0 (m_lengthOf h1 h2 ?_)
  refine bX5_lettersOf_6 ?_
  have h3 := ww_log_le h1
  have h4 : nI (w - 1) - (1 : Int32) <<< (nI (Nat.log2 w) &&& 31) + 1 = nI (w - 2 ^ Nat.log2 w) := by
    rw [ww_pow (ww_log_lt h1 h2)]
    have e : nI (w - 1) = nI w - 1 := by
      rw [ww_1, pk_sub h1]
    rw [e, ← pk_sub h3]
    have : ∀ a b : Int32, a - 1 - b + 1 = a - b := by
      intro a b
      rw [Int32.sub_eq_add_neg, Int32.sub_eq_add_neg, Int32.sub_eq_add_neg, Int32.add_assoc, Int32.add_assoc, Int32.add_comm (-1) _, Int32.add_assoc]
      simp
    exact this _ _
  rw [h4]
  exact h
theorem c_codeOf {w : Nat} (h1 : 1 ≤ w) (h2 : w < 512) (h : Q (.inl (some (.int (nI (256 * Nat.log2 w + (w - 2 ^ Nat.log2 w))))), σ)) : WP g mX4_codeOf 0 [(0, .int (nI w))] [] 0 σ Q := by
  refine bX4_codeOf_0 (c_lengthOf h1 h2 ?_)
  refine bX4_codeOf_4 ?_
  have h3 := ww_log_le h1
  have e : (256 : Int32) * nI (Nat.log2 w) + nI w - (1 : Int32) <<< (nI (Nat.log2 w) &&& 31) = nI (256 * Nat.log2 w + (w - 2 ^ Nat.log2 w)) := by
    rw [ww_pow (ww_log_lt h1 h2), show (256 : Int32) = nI 256 from rfl, pk_mul, nI_add, pk_sub (by omega)]
    congr 1
    omega
  rw [e]
  exact h
theorem m_given {w : Nat} (h1 : 1 ≤ w) (h2 : w < 512) (h : Q (.inl (some (.int (nI (256 * Nat.log2 w + (w - 2 ^ Nat.log2 w))))), σ)) : WP g mX5_given 0 [(0, .int (nI (w - 1)))] [] 0 σ Q := by
  refine bX5_given_0 (m_lengthOf h1 h2 ?_)
  refine bX5_given_7 (m_lettersOf h1 h2 ?_)
  refine bX5_given_12 ?_
  rw [show (256 : Int32) = nI 256 from rfl, pk_mul, nI_add]
  exact h
theorem m_followed {w l : Nat} (h1 : 1 ≤ w) (h : Q (.inl (some (.int (nI (2 * w + l - 1)))), σ)) : WP g mX5_followed 0 [(0, .int (nI (w - 1))), (1, .int (nI l))] [] 0 σ Q := by
  refine bX5_followed_0 ?_
  rw [ww_2, ww_1, pk_mul, nI_add, nI_add, show 2 * (w - 1) + 1 + l = 2 * w + l - 1 by omega]
  exact h
/-- word v behind word w -/
def wj (w v : Nat) : Nat := w * 2 ^ Nat.log2 v + (v - 2 ^ Nat.log2 v)
theorem c_joined {w v : Nat} (hv1 : 1 ≤ v) (hv2 : v < 16) (hw : w < 512) (h : Q (.inl (some (.int (nI (wj w v)))), σ)) : WP g mX4_joined 0 [(0, .int (nI w)), (1, .int (nI v))] [] 0 σ Q := by
  refine bX4_joined_0 (c_lengthOf hv1 (by omega) ?_)
  refine bX4_joined_4 ?_
  have h3 := ww_log_le hv1
  have h4 : Nat.log2 v < 4 := (Nat.log2_lt (by omega)).mpr hv2
  have h5 : 2 ^ Nat.log2 v ≤ 2 ^ 3 := Nat.pow_le_pow_right (by decide) (by omega)
  have h6 : w * 2 ^ Nat.log2 v ≤ w * 8 := Nat.mul_le_mul_left w h5
  have e : nI w <<< (nI (Nat.log2 v) &&& 31) + nI v - (1 : Int32) <<< (nI (Nat.log2 v) &&& 31) = nI (wj w v) := by
    rw [ww_pow (by omega), ww_shl (by omega) (by omega), nI_add, pk_sub (by omega), wj]
    congr 1
    omega
  rw [e]
  exact h
end HWA
