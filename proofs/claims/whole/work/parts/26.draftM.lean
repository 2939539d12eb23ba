/-! the draft in the reference -/
theorem ww_bits {w b : Nat} (h1 : 1 ≤ w) (hb : b < Nat.log2 w) : (w - 2 ^ Nat.log2 w) / 2 ^ b % 2 = w / 2 ^ b % 2 := by
  have h3 := ww_log_le h1
  have e2 : 2 ^ Nat.log2 w = 2 ^ (Nat.log2 w - b - 1) * 2 * 2 ^ b := by
    rw [Nat.mul_assoc, ← Nat.pow_succ', ← Nat.pow_add]
    congr 1
    omega
  have e3 : w = (w - 2 ^ Nat.log2 w) + 2 ^ (Nat.log2 w - b - 1) * 2 * 2 ^ b := by rw [← e2]; omega
  have e4 : w / 2 ^ b = (w - 2 ^ Nat.log2 w) / 2 ^ b + 2 ^ (Nat.log2 w - b - 1) * 2 := by
    have := Nat.add_mul_div_right (w - 2 ^ Nat.log2 w) (2 ^ (Nat.log2 w - b - 1) * 2) (Nat.one_le_two_pow (n := b))
    rw [← e3] at this
    exact this
  omega
section HDC
variable {g : pw_G} {σ : pw_Mem} {Q : pw_R → Prop} {d : Nat} {gd : Nat → Bool} {to : Nat → Nat}
def zz (b : Bool) : Int32 := if b then 1 else 0
theorem zz_ne {a b : Bool} : zz a = zz b ↔ (a != b) = false := by cases a <;> cases b <;> simp [zz]
def mD0 (σ : pw_Mem) (d : Nat) (gd : Nat → Bool) (to : Nat → Nat) : Prop := (∀ s, s < d → σ 41 s = zz (gd s)) ∧ ∀ i, i < 2 * d → σ 42 i = nI (to i)
def mDr (σ : pw_Mem) (d : Nat) (gd : Nat → Bool) (to : Nat → Nat) : Prop := σ 29 17 = nI d ∧ (d = 0 ∨ (okD d to ∧ mD0 σ d gd to))
theorem mDr.lt (h : mDr σ d gd to) : d < 6 := by
  rcases h.2 with q | q
  · omega
  · have := q.1.2.1; omega
theorem mD0.fr {σ σ' : pw_Mem} {l f : List Nat} (h : mD0 σ d gd to) (hf : mfr l f σ σ') (h1 : 41 ∉ l) (h2 : 42 ∉ l) : mD0 σ' d gd to := by
  unfold mD0
  rw [hf.1 41 (by decide) h1, hf.1 42 (by decide) h2]
  exact h
theorem m_lead {s w : Nat} (hD : mD0 σ d gd to) (ok : okD d to) (hs : s < d) (h1 : 1 ≤ w) (h2 : w < 512) (h : Q (.inl (some (.int (nI (ld to s w)))), σ)) : WP g mX5_lead 0 [(0, .ref (pw_ad g 29)), (1, .int (nI s)), (2, .int (nI (w - 1)))] [] 0 σ Q := by
  obtain ⟨o1, o2, o3⟩ := ok
  have hlt := ww_log_lt h1 h2
  have loop : ∀ b : Nat, b ≤ Nat.log2 w → WP g mX5_lead 20 [(0, .ref (pw_ad g 29)), (1, .int (nI s)), (2, .int (nI (w - 1))), (3, .int (nI (ld to s (w / 2 ^ b)))), (4, .int (nI (Nat.log2 w))), (5, .int (nI (w - 2 ^ Nat.log2 w))), (6, .int (nI b - 1))] [] 0 σ Q := by
    intro b
    induction b with
    | zero =>
      intro _
      rw [Nat.pow_zero, Nat.div_one]
      exact bX5_lead_20 (fun _ => h) (fun a => absurd (by decide) a) (fun a => absurd (by decide) a)
    | succ b ih =>
      intro hb
      rw [show nI (b + 1) - 1 = nI b from nI_pred b]
      have hl := ld_lt o3 hs (w / 2 ^ (b + 1)) (w / 2 ^ (b + 1)) (Nat.le_refl _)
      have e1 : (2 : Int32) * nI (ld to s (w / 2 ^ (b + 1))) + ((nI (w - 2 ^ Nat.log2 w) >>> (nI b &&& 31)) &&& (1 : Int32)) = nI (2 * ld to s (w / 2 ^ (b + 1)) + w / 2 ^ b % 2) := by
        rw [ww_bit (by have := Nat.sub_le w (2 ^ Nat.log2 w); omega) (by omega), ww_bits h1 (by omega), ww_2, pk_mul, nI_add]
      have e2 : ld to s (w / 2 ^ b) = to (2 * ld to s (w / 2 ^ (b + 1)) + w / 2 ^ b % 2) := by
        have hg := ww_ge h1 hb
        rw [ld_2 _ _ (w := w / 2 ^ b) (by rw [← ww_half] at hg; omega), ww_half]
      refine bX5_lead_20 (fun a => absurd a (nI_pos (by omega))) (fun _ => ?_) (fun _ => ?_)
      · rw [e1]; exact vp_in_nI (by omega) (by decide)
      · rw [e1, nI_clamp (by omega), hD.2 _ (by omega), ← e2, show nI b + (-1) = nI b - 1 from (Int32.sub_eq_add_neg _ _).symm]
        exact ih (by omega)
  refine bX5_lead_0 (m_lengthOf h1 h2 (bX5_lead_6 (m_lettersOf h1 h2 (bX5_lead_12 ?_))))
  have := loop (Nat.log2 w) (Nat.le_refl _)
  rw [ww_top h1, ld_1 _ _ (Nat.le_refl 1)] at this
  exact this
theorem m_setsApart {s t : Nat} (hD : mD0 σ d gd to) (ok : okD d to) (hs : s < d) (ht : t < d) (h : Q (.inl (some (.int (nI (sp gd to s t) - 1))), σ)) : WP g mX5_setsApart 0 [(0, .ref (pw_ad g 29)), (1, .int (nI s)), (2, .int (nI t))] [] 0 σ Q := by
  obtain ⟨o1, o2, o3⟩ := id ok
  have loop : ∀ k w, w + k = 15 → (∀ v, 1 ≤ v → v ≤ w → df gd to v s t = false) → WP g mX5_setsApart 2 [(0, .ref (pw_ad g 29)), (1, .int (nI s)), (2, .int (nI t)), (3, .int (nI w))] [] 0 σ Q := by
    intro k
    induction k with
    | zero =>
      intro w hw hv
      have hw : w = 15 := by omega
      subst hw
      have h0 : sp gd to s t = 0 := by
        rcases sp_spec gd to s t with q | ⟨q1, q2, q3, _⟩
        · exact q.1
        · rw [hv _ q1 (by omega)] at q3; exact absurd q3 (by decide)
      rw [h0] at h
      exact bX5_setsApart_2 (fun _ => h) (fun a => absurd (by decide) a)
    | succ k ih =>
      intro w hw hv
      have hls := ld_lt o3 hs (w + 1) (w + 1) (Nat.le_refl _)
      have hlt := ld_lt o3 ht (w + 1) (w + 1) (Nat.le_refl _)
      have lead : ∀ {x : Nat} {Q' : pw_R → Prop}, x < d → Q' (.inl (some (.int (nI (ld to x (w + 1))))), σ) → WP g mX5_lead 0 [(0, .ref (pw_ad g 29)), (1, .int (nI x)), (2, .int (nI w))] [] 0 σ Q' := fun hx q => m_lead (w := w + 1) hD ok hx (by omega) (by omega) q
      refine bX5_setsApart_2 (fun a => absurd a (nI_ge (b := 15) (by omega) (by decide))) (fun _ => lead hs ?_)
      refine bX5_setsApart_18 (vp_in_nI (by omega) (by decide)) (lead ht ?_)
      rw [nI_clamp (by omega), hD.1 _ hls]
      refine bX5_setsApart_29 (vp_in_nI (by omega) (by decide)) (fun a => ?_) (fun a => ?_)
      · rw [nI_clamp (by omega), hD.1 _ hlt] at a
        have hdf : df gd to (w + 1) s t = false := zz_ne.mp a
        rw [show nI w + 1 = nI (w + 1) from nI_1 w]
        refine ih (w + 1) (by omega) (fun v hv1 hv2 => ?_)
        by_cases q : v = w + 1
        · rw [q]; exact hdf
        · exact hv v hv1 (by omega)
      · rw [nI_clamp (by omega), hD.1 _ hlt] at a
        have hdf : df gd to (w + 1) s t = true := by
          cases hq : df gd to (w + 1) s t with
          | true => rfl
          | false => exact absurd (zz_ne.mpr hq) a
        have hw1 : sp gd to s t = w + 1 := by
          rcases sp_spec gd to s t with q | ⟨q1, q2, q3, q4⟩
          · rw [q.2 (w + 1) (by omega) (by omega)] at hdf; exact absurd hdf (by decide)
          · rcases Nat.lt_trichotomy (sp gd to s t) (w + 1) with z | z | z
            · rw [hv _ q1 (by omega)] at q3; exact absurd q3 (by decide)
            · exact z
            · rw [q4 (w + 1) (by omega) z] at hdf; exact absurd hdf (by decide)
        rw [hw1, show nI (w + 1) - 1 = nI w from nI_pred w] at h
        exact h
  exact bX5_setsApart_0 (loop 15 0 rfl (fun v a b => absurd a (by omega)))
theorem sp_m1 (s t : Nat) : (0 ≤ nI (sp gd to s t) - 1) ↔ sp gd to s t ≠ 0 := by
  have hl := sp_lt gd to s t
  rcases Nat.eq_zero_or_pos (sp gd to s t) with q | q
  · rw [q]; decide
  · obtain ⟨k, hk⟩ : ∃ k, sp gd to s t = k + 1 := ⟨sp gd to s t - 1, by omega⟩
    rw [hk, show nI (k + 1) - 1 = nI k from nI_pred k]
    exact ⟨fun _ => by omega, fun _ => nI_pos' (by omega)⟩
def mCl (σ : pw_Mem) (c : Nat) (m n : Nat → Nat) : Prop := σ 29 20 = nI c ∧ ∀ k, k < c → σ 43 k = nI (m k) ∧ σ 44 k = nI (n k - 1)
theorem m_classOf {s c : Nat} {m n : Nat → Nat} (hD : mD0 σ d gd to) (ok : okD d to) (hC : mCl σ c m n) (hc : c ≤ 5) (hm : ∀ k, k < c → m k < d) (hs : s < d) (h : Q (.inl (some (.int (liF gd to m s c))), σ)) : WP g mX5_classOf 0 [(0, .ref (pw_ad g 29)), (1, .int (nI s))] [] 0 σ Q := by
  obtain ⟨o1, o2, o3⟩ := id ok
  have loop : ∀ k i, i + k = c → WP g mX5_classOf 4 [(0, .ref (pw_ad g 29)), (1, .int (nI s)), (2, .int (liF gd to m s i)), (3, .int (nI i))] [] 0 σ Q := by
    intro k
    induction k with
    | zero =>
      intro i hi
      have hi : i = c := by omega
      subst hi
      have hle : σ 29 20 ≤ nI i := by rw [hC.1]; exact nI_le (by omega) (by omega)
      exact bX5_classOf_4 (fun _ => h) (fun a => absurd hle a) (fun a => absurd hle a)
    | succ k ih =>
      intro i hi
      have hge : ¬ σ 29 20 ≤ nI i := by rw [hC.1]; exact nI_ge (by omega) (by omega)
      refine bX5_classOf_4 (fun a => absurd a hge) (fun _ => vp_in_nI (by omega) (by decide)) (fun _ => ?_)
      rw [nI_clamp (by omega), (hC.2 i (by omega)).1]
      have e1 : liF gd to m s (i + 1) = if sp gd to (m i) s = 0 then nI i else liF gd to m s i := rfl
      have ih := ih (i + 1) (by omega)
      rw [e1] at ih
      refine m_setsApart hD ok (hm i (by omega)) hs (bX5_classOf_23 (fun a => ?_) (fun a => ?_))
      · rw [if_neg (sp_m1 _ _ |>.mp a)] at ih
        rw [show nI i + 1 = nI (i + 1) from nI_1 i]; exact ih
      · have hz : sp gd to (m i) s = 0 := Classical.byContradiction fun z => a ((sp_m1 _ _).mpr z)
        rw [if_pos hz] at ih
        rw [show nI i + 1 = nI (i + 1) from nI_1 i]; exact ih
  exact bX5_classOf_0 (loop c 0 (by omega))
theorem liF_neg {c : Nat} (hc : c ≤ 5) (m : Nat → Nat) (s : Nat) : (0 ≤ liF gd to m s c) ↔ ¬ liF gd to m s c = -1 := by
  rcases liF_spec gd to m s c with ⟨a, _⟩ | ⟨k, hk, a, _⟩
  · rw [a]; decide
  · rw [a]; exact ⟨fun _ => nI_m1 (by omega), fun _ => nI_pos' (by omega)⟩
theorem m_reduce (hD : mD0 σ d gd to) (ok : okD d to) (h : ∀ σ', mfr [43, 44] [20] σ σ' → mCl σ' (kC gd to) (kM gd to) (kN gd to) → Q (.inl none, σ')) : WP g mX5_reduce 0 [(0, .ref (pw_ad g 29))] [] 0 σ Q := by
  obtain ⟨o1, o2, o3⟩ := id ok
  have loop : ∀ k w, w + k = 31 → ∀ σ1, mfr [43, 44] [20] σ σ1 → mCl σ1 (clS gd to w).1 (clS gd to w).2.1 (clS gd to w).2.2 → WP g mX5_reduce 7 [(0, .ref (pw_ad g 29)), (1, .int (nI w))] [] 0 σ1 Q := by
    intro k
    induction k with
    | zero =>
      intro w hw σ1 hf1 hC1
      have hw : w = 31 := by omega
      subst hw
      exact bX5_reduce_7 (fun _ => h σ1 hf1 hC1) (fun a => absurd (by decide) a)
    | succ k ih =>
      intro w hw σ1 hf1 hC1
      have hD1 := hD.fr hf1 (by decide) (by decide)
      have hel := ld_lt (s := 0) o3 o1 (w + 1) (w + 1) (Nat.le_refl _)
      have hcle := clS_le gd to o1 o2 o3 w
      have hinv := clS_inv gd to o1 o2 o3 w
      refine bX5_reduce_7 (fun a => absurd a (nI_ge (b := 31) (by omega) (by decide))) (fun _ => ?_)
      rw [ww_0]
      refine m_lead (w := w + 1) hD1 ok o1 (by omega) (by omega) (bX5_reduce_19 (m_classOf hD1 ok hC1 (by omega) (fun k hk => (hinv.1 k hk).1) hel ?_))
      refine bX5_reduce_25 (fun a => ?_) (fun a => ?_) (fun a => ?_) (fun a => ?_)
      · rw [show nI w + 1 = nI (w + 1) from nI_1 w]
        refine wp_sub [0, 1] rfl (ih (w + 1) (by omega) σ1 hf1 ?_)
        rw [clS_old gd to ((liF_neg (by omega) _ _).mp a)]
        exact hC1
      all_goals
        have hli : liF gd to (clS gd to w).2.1 (ld to 0 (w + 1)) (clS gd to w).1 = -1 := Classical.byContradiction fun z => a ((liF_neg (by omega) _ _).mpr z)
        have hroom := clS_room gd to o1 o2 o3 hli
      · rw [hC1.1]; exact vp_in_nI (by omega) (by decide)
      · rw [hC1.1]; exact vp_in_nI (by omega) (by decide)
      · rw [show nI w + 1 = nI (w + 1) from nI_1 w, hC1.1, nI_clamp (by omega), show nI (clS gd to w).1 + (1 : Int32) = nI ((clS gd to w).1 + 1) from nI_1 _]
        refine wp_sub [0, 1] rfl (ih (w + 1) (by omega) _ (((hf1.set (by decide) (by decide)).set (by decide) (by decide)).fld (by decide)) ?_)
        rw [clS_new gd to hli]
        refine ⟨ms_same _ _ _ _, fun k hk => ?_⟩
        dsimp only at hk ⊢
        rw [ms_ne _ _ _ _ _ (show (43 : Nat) ≠ 29 by decide), ms_ne _ _ _ _ _ (show (44 : Nat) ≠ 29 by decide), ms_ne _ _ _ _ _ (show (43 : Nat) ≠ 44 by decide), ms_eq, ms_eq, ms_ne _ _ _ _ _ (show (44 : Nat) ≠ 43 by decide)]
        simp only [upN]
        by_cases q : k = (clS gd to w).1
        · rw [if_pos q, if_pos q, if_pos q, if_pos q]; exact ⟨rfl, rfl⟩
        · rw [if_neg q, if_neg q, if_neg q, if_neg q]; exact hC1.2 k (by omega)
  refine bX5_reduce_0 (loop 31 0 rfl _ (mfr.rf.fld (by decide)) ⟨ms_same _ _ _ _, fun k hk => absurd hk (by simp [clS])⟩)
theorem M_draft {x1 : Int32} (h1 : ¬ (∃ n, 1 ≤ n ∧ n ≤ 5 ∧ x1 = nI n) → Q (.inl none, pw_set σ 29 0 1)) (h2 : ∀ n, 1 ≤ n → n ≤ 5 → x1 = nI n → ∀ σ', mfr [41, 42] [0, 17] σ σ' → σ' 29 0 = 0 → mDr σ' n (fun _ => false) (fun i => i / 2) → Q (.inl none, σ')) : WP g mX5_draft 0 [(0, .ref (pw_ad g 29)), (1, .int x1)] [] 0 σ Q := by
  have bad : ¬ (∃ n, 1 ≤ n ∧ n ≤ 5 ∧ x1 = nI n) → WP g mX5_when 0 [(0, .ref (pw_ad g 29)), (1, .int (0 : Int32)), (2, .int (1 : Int32))] [] 0 σ (pw_k g mX5_draft 20 [(0, .ref (pw_ad g 29)), (1, .int x1)] [] 0 Q) := fun q => m_whenF (bX5_draft_20 (fun a => absurd rfl a) (fun _ => h1 q))
  refine bX5_draft_0 (fun a => bad ?_) (fun a b => bad ?_) (fun a b => ?_)
  · rintro ⟨n, q1, q2, rfl⟩; exact absurd a (nI_nlt (b := 1) q1 (by omega))
  · rintro ⟨n, q1, q2, rfl⟩; exact absurd b (nI_nlt (a := 5) q2 (by decide))
  · have hx0 : ¬ x1 < 0 := fun z => a (Int32.lt_trans z (by decide))
    obtain ⟨n, hn, rfl⟩ := nI_of hx0
    have hn1 : 1 ≤ n := by
      rcases Nat.lt_or_ge n 1 with q | q
      · exact absurd (nI_lt (b := 1) q (by decide)) a
      · exact q
    have hn5 : n ≤ 5 := by
      rcases Nat.lt_or_ge 5 n with q | q
      · exact absurd (nI_lt (a := 5) q hn) b
      · exact q
    have ok : okD n (fun i => i / 2) := ⟨by omega, hn5, fun i hi => by show i / 2 < n; omega⟩
    have loop : ∀ k i, i + k = n → ∀ σ1, mfr [41, 42] [0, 17] σ σ1 → σ1 29 0 = 0 → σ1 29 17 = nI n → (∀ s, s < i → σ1 41 s = 0 ∧ σ1 42 (2 * s) = nI s ∧ σ1 42 (2 * s + 1) = nI s) → WP g mX5_draft 31 [(0, .ref (pw_ad g 29)), (1, .int (nI n)), (2, .int (nI i))] [] 0 σ1 Q := by
      intro k
      induction k with
      | zero =>
        intro i hi σ1 hf1 h0 h17 hs1
        refine bX5_draft_31 (fun _ => h2 n hn1 hn5 rfl σ1 hf1 h0 ⟨h17, Or.inr ⟨ok, fun s hs => (hs1 s (by omega)).1, fun j hj => ?_⟩⟩) (fun a => absurd (nI_le (by omega) (by omega)) a) (fun a => absurd (nI_le (by omega) (by omega)) a) (fun a => absurd (nI_le (by omega) (by omega)) a) (fun a => absurd (nI_le (by omega) (by omega)) a)
        obtain ⟨_, q1, q2⟩ := hs1 (j / 2) (by omega)
        rcases Nat.mod_two_eq_zero_or_one j with z | z
        · have e : j = 2 * (j / 2) := by omega
          show σ1 42 j = nI (j / 2)
          rw [← q1, ← e]
        · have e : j = 2 * (j / 2) + 1 := by omega
          show σ1 42 j = nI (j / 2)
          rw [← q2, ← e]
      | succ k ih =>
        intro i hi σ1 hf1 h0 h17 hs1
        have e0 : (2 : Int32) * nI i = nI (2 * i) := by rw [ww_2, pk_mul]
        have e1 : (2 : Int32) * nI i + (1 : Int32) = nI (2 * i + 1) := by rw [e0, nI_1]
        refine bX5_draft_31 (fun a => absurd a (nI_ge (by omega) (by omega))) (fun _ => vp_in_nI (by omega) (by decide)) (fun _ => by rw [e0]; exact vp_in_nI (by omega) (by decide)) (fun _ => by rw [e1]; exact vp_in_nI (by omega) (by decide)) (fun _ => ?_)
        rw [e1, e0, nI_clamp (by omega), nI_clamp (by omega), nI_clamp (by omega), show nI i + 1 = nI (i + 1) from nI_1 i]
        refine ih (i + 1) (by omega) _ (((hf1.set (by decide) (by decide)).set (by decide) (by decide)).set (by decide) (by decide)) ?_ ?_ (fun s hs => ?_)
        · rw [ms_ne _ _ _ _ _ (by decide), ms_ne _ _ _ _ _ (by decide), ms_ne _ _ _ _ _ (by decide)]; exact h0
        · rw [ms_ne _ _ _ _ _ (by decide), ms_ne _ _ _ _ _ (by decide), ms_ne _ _ _ _ _ (by decide)]; exact h17
        · rw [ms_ne _ _ _ _ _ (show (41 : Nat) ≠ 42 by decide), ms_ne _ _ _ _ _ (show (41 : Nat) ≠ 42 by decide), ms_eq, ms_eq, ms_eq, ms_eq, ms_eq, ms_ne _ _ _ _ _ (show (42 : Nat) ≠ 41 by decide), ms_ne _ _ _ _ _ (show (42 : Nat) ≠ 41 by decide)]
          by_cases q : s = i
          · subst q
            simp
          · rw [if_neg q, if_neg (by omega), if_neg (by omega), if_neg (by omega), if_neg (by omega)]
            exact hs1 s (by omega)
    refine m_whenT (bX5_draft_20 (fun _ => ?_) (fun a => absurd a (by decide)))
    refine loop n 0 (by omega) _ ((mfr.rf.fld (by decide)).fld (by decide)) ?_ (ms_same _ _ _ _) (fun s hs => absurd hs (by omega))
    rw [ms_ne2 _ _ _ _ (by decide), ms_same]
theorem m_isDrafted {x : Int32} (hD : σ 29 17 = nI d) (hd : d < 2 ^ 31) (h1 : (∃ j, j < d ∧ x = nI j) → Q (.inl (some (.int 1)), σ)) (h2 : ¬ (∃ j, j < d ∧ x = nI j) → Q (.inl (some (.int 0)), σ)) : WP g mX5_isDrafted 0 [(0, .ref (pw_ad g 29)), (1, .int x)] [] 0 σ Q := by
  refine bX5_isDrafted_0 (fun a => h2 ?_) (fun a b => h2 ?_) (fun a b => h1 ?_)
  · rintro ⟨j, hj, rfl⟩; exact nI_pos (by omega) a
  · rintro ⟨j, hj, rfl⟩; rw [hD] at b; exact nI_ge hj hd b
  · rcases pk_ix x hd with q | q | q
    · exact absurd q a
    · exact absurd (hD ▸ q) b
    · exact q
theorem nar_b {x : Int32} (h : pw_bool x) : vp_nar .boolean x = x := by
  rcases h with rfl | rfl <;> decide
theorem M_define {x1 x2 x3 x4 : Int32} (hD : mDr σ d gd to) (hx2 : pw_bool x2) (h0 : d = 0 → ∀ σ', mfr [] [0] σ σ' → σ' 29 0 = 1 → Q (.inl none, σ')) (h1 : 0 < d → ¬ (∃ a b c, a < d ∧ b < d ∧ c < d ∧ x1 = nI a ∧ x3 = nI b ∧ x4 = nI c) → ∀ σ', mfr [] [0] σ σ' → σ' 29 0 = 2 → Q (.inl none, σ'))
    (h2 : ∀ a b c, a < d → b < d → c < d → x1 = nI a → x3 = nI b → x4 = nI c → ∀ σ', mfr [41, 42] [0] σ σ' → σ' 29 0 = 0 → mDr σ' d (upB gd a (decide (¬ x2 = 0))) (upN (upN to (2 * a) b) (2 * a + 1) c) → Q (.inl none, σ')) : WP g mX5_define 0 [(0, .ref (pw_ad g 29)), (1, .int x1), (2, .int x2), (3, .int x3), (4, .int x4)] [] 0 σ Q := by
  have hdl := hD.lt
  refine bX5_define_0 (fun a => ?_) (fun a => ?_)
  · rw [hD.1] at a
    have hd0 : d = 0 := by
      rcases Nat.eq_zero_or_pos d with q | q
      · exact q
      · exact absurd a (nI_nle q (by omega))
    exact m_whenF (bX5_define_17 (fun _ => h0 hd0 _ (mfr.rf.fld (by decide)) (ms_same _ _ _ _)) (fun a => absurd rfl a))
  · rw [hD.1] at a
    have hd0 : 0 < d := by
      rcases Nat.eq_zero_or_pos d with q | q
      · exact absurd (by rw [q]; decide) a
      · exact q
    rcases hD.2 with q | ⟨ok, hD2⟩
    · exact absurd hd0 (by omega)
    obtain ⟨o1, o2, o3⟩ := ok
    have h1 := h1 hd0
    have e17 : pw_set σ 29 0 0 29 17 = nI d := by rw [ms_ne2 _ _ _ _ (by decide)]; exact hD.1
    have bad : ¬ (∃ a b c, a < d ∧ b < d ∧ c < d ∧ x1 = nI a ∧ x3 = nI b ∧ x4 = nI c) → WP g mX5_when 0 [(0, .ref (pw_ad g 29)), (1, .int (0 : Int32)), (2, .int (2 : Int32))] [] 0 (pw_set σ 29 0 0) (pw_k g mX5_define 55 [(0, .ref (pw_ad g 29)), (1, .int x1), (2, .int x2), (3, .int x3), (4, .int x4)] [] 0 Q) := fun q =>
      m_whenF (bX5_define_55 (fun a => absurd rfl a) (fun a => absurd rfl a) (fun a => absurd rfl a) (fun a => absurd rfl a) (fun _ => h1 q _ ((mfr.rf.fld (by decide)).fld (by decide)) (ms_same _ _ _ _)))
    refine m_whenT (bX5_define_17 (fun a => absurd a (by decide)) (fun _ => m_isDrafted e17 (by omega) (fun q1 => ?_) (fun q1 => ?_)))
    · refine bX5_define_26 (fun a => absurd a (by decide)) (fun _ => m_isDrafted e17 (by omega) (fun q2 => ?_) (fun q2 => ?_))
      · refine bX5_define_34 (fun a => absurd a (by decide)) (fun _ => m_isDrafted e17 (by omega) (fun q3 => ?_) (fun q3 => ?_))
        · obtain ⟨a, ha, rfl⟩ := q1
          obtain ⟨b, hb, rfl⟩ := q2
          obtain ⟨c, hc, rfl⟩ := q3
          have h2 := h2 a b c ha hb hc rfl rfl rfl
          have e0 : (2 : Int32) * nI a = nI (2 * a) := by rw [ww_2, pk_mul]
          have e1 : (2 : Int32) * nI a + (1 : Int32) = nI (2 * a + 1) := by rw [e0, nI_1]
          refine bX5_define_43 (fun a => absurd a (by decide)) (fun _ => m_whenT (bX5_define_55 (fun _ => vp_in_nI (by omega) (by decide)) (fun _ => by rw [e0]; exact vp_in_nI (by omega) (by decide)) (fun _ => by rw [e1]; exact vp_in_nI (by omega) (by decide)) (fun _ => ?_) (fun a => absurd a (by decide))))
          rw [e1, e0, nI_clamp (by omega), nI_clamp (by omega), nI_clamp (by omega), nar_b hx2]
          refine h2 _ (((((mfr.rf.fld (by decide)).fld (by decide)).set (by decide) (by decide)).set (by decide) (by decide)).set (by decide) (by decide)) ?_ ⟨?_, Or.inr ⟨⟨o1, o2, fun i hi => ?_⟩, fun s hs => ?_, fun i hi => ?_⟩⟩
          · rw [ms_ne _ _ _ _ _ (by decide), ms_ne _ _ _ _ _ (by decide), ms_ne _ _ _ _ _ (by decide), ms_same]
          · rw [ms_ne _ _ _ _ _ (by decide), ms_ne _ _ _ _ _ (by decide), ms_ne _ _ _ _ _ (by decide), ms_ne2 _ _ _ _ (by decide)]; exact e17
          · simp only [upN]
            split
            · exact hc
            · split
              · exact hb
              · exact o3 i hi
          · rw [ms_ne _ _ _ _ _ (show (41 : Nat) ≠ 42 by decide), ms_ne _ _ _ _ _ (show (41 : Nat) ≠ 42 by decide), ms_eq, ms_ne _ _ _ _ _ (by decide), ms_ne _ _ _ _ _ (by decide), hD2.1 s hs, upB]
            by_cases q : s = a
            · rw [if_pos q, if_pos q]
              rcases hx2 with rfl | rfl
              · rfl
              · rfl
            · rw [if_neg q, if_neg q]
          · rw [ms_eq, ms_eq, ms_ne _ _ _ _ _ (show (42 : Nat) ≠ 41 by decide), ms_ne _ _ _ _ _ (by decide), ms_ne _ _ _ _ _ (by decide), hD2.2 i hi]
            simp only [upN]
            by_cases q : i = 2 * a + 1
            · rw [if_pos q, if_pos q]
            · rw [if_neg q, if_neg q]
              by_cases q2 : i = 2 * a
              · rw [if_pos q2, if_pos q2]
              · rw [if_neg q2, if_neg q2]
        · exact bX5_define_43 (fun _ => bad (fun ⟨a, b, c, ha, hb, hc, e1, e2, e3⟩ => q3 ⟨c, hc, e3⟩)) (fun a => absurd rfl a)
      · exact bX5_define_34 (fun _ => bad (fun ⟨a, b, c, ha, hb, hc, e1, e2, e3⟩ => q2 ⟨b, hb, e2⟩)) (fun a => absurd rfl a)
    · exact bX5_define_26 (fun _ => bad (fun ⟨a, b, c, ha, hb, hc, e1, e2, e3⟩ => q1 ⟨a, ha, e1⟩)) (fun a => absurd rfl a)
end HDC
