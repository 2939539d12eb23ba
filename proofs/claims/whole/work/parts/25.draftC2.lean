/-! the least automaton in the class; draft, define, least, name, apart, same -/
section HDB
variable {g : pw_G} {σ : pw_Mem} {Q : pw_R → Prop} {d : Nat} {gd : Nat → Bool} {to : Nat → Nat}
def kC (gd : Nat → Bool) (to : Nat → Nat) : Nat := (clS gd to 31).1
def kM (gd : Nat → Bool) (to : Nat → Nat) : Nat → Nat := (clS gd to 31).2.1
def kN (gd : Nat → Bool) (to : Nat → Nat) : Nat → Nat := (clS gd to 31).2.2
def cRed (σ : pw_Mem) (d : Nat) (gd : Nat → Bool) (to : Nat → Nat) : Prop := cSp σ d gd to ∧ cCl σ d gd to (kC gd to) (kM gd to) (kN gd to) ∧ cRd σ gd to (kC gd to) (kM gd to)
theorem cRed.fr {σ σ' : pw_Mem} {l : List Nat} (h : cRed σ d gd to) (hf : fr l σ σ') (hl : ∀ a, 20 ≤ a → a ≤ 27 → a ≠ 24 → a ∉ l) : cRed σ' d gd to := by
  unfold cRed cSp cCl cRd
  rw [hf 20 (hl 20 (by decide) (by decide) (by decide)), hf 21 (hl 21 (by decide) (by decide) (by decide)), hf 22 (hl 22 (by decide) (by decide) (by decide)), hf 23 (hl 23 (by decide) (by decide) (by decide)), hf 25 (hl 25 (by decide) (by decide) (by decide)), hf 26 (hl 26 (by decide) (by decide) (by decide)), hf 27 (hl 27 (by decide) (by decide) (by decide))]
  exact h
theorem k_facts (ok : okD d to) : kC gd to ≤ d ∧ ∀ k, k < kC gd to → kM gd to k < d ∧ 1 ≤ kN gd to k ∧ kN gd to k ≤ 31 ∧ kM gd to k = ld to 0 (kN gd to k) :=
  ⟨clS_le gd to ok.1 ok.2.1 ok.2.2 31, (clS_inv gd to ok.1 ok.2.1 ok.2.2 31).1⟩
theorem c_arrowD {s l : Nat} (hD : cD σ d gd to) (ok : okD d to) (hs : s < d) (hl : l < 2) (h : Q (.inl (some (.int (nI (to (2 * s + l))))), σ)) : WP g mX0_arrow 0 [(0, .ref (pw_ad g 17)), (1, .int (nI s)), (2, .int (nI l))] [] 0 σ Q := by
  obtain ⟨o1, o2, o3⟩ := ok
  have e : (2 : Int32) * nI s + nI l = nI (2 * s + l) := by rw [ww_2, pk_mul, nI_add]
  refine bX0_arrow_0 rfl rfl rfl (by rw [e]; exact vp_in_nI (N := 10) (by omega) (by decide)) ?_
  rw [e, nI_clamp (by omega), show σ (17 + 2) (2 * s + l) = nI (to (2 * s + l)) from hD.2.2 _ (by omega)]
  exact h
theorem c_reduce (hD : cD σ d gd to) (ok : okD d to) (h : ∀ σ', fr [20, 21, 22, 23, 24, 25, 26, 27] σ σ' → cRed σ' d gd to → Q (.inl none, σ')) : WP g mX1_reduce 0 [(0, .ref (pw_ad g 16))] [] 0 σ Q := by
  obtain ⟨o1, o2, o3⟩ := id ok
  obtain ⟨kf1, kf2⟩ := k_facts (gd := gd) ok
  refine bX1_reduce_0 (c_findSplitters hD ok (fun σa hfa hSa => ?_))
  have hDa := hD.fr hfa (by decide) (by decide) (by decide)
  refine bX1_reduce_4 (c_findClasses hDa ok hSa (fun σb hfb hCb => ?_))
  have hCb : cCl σb d gd to (kC gd to) (kM gd to) (kN gd to) := hCb
  have hfab : fr [20, 21, 22, 23, 24, 25, 26, 27] σ σb := (hfa.mono (by decide)).tr (hfb.mono (by decide))
  have hSb : cSp σb d gd to := fun s t hs ht => by rw [hfb 23 (by decide)]; exact hSa s t hs ht
  have loop : ∀ n i, i + n = kC gd to → ∀ σ1, fr [21, 22] σb σ1 → (∀ k, k < i → σ1 21 k = sgn (gd (kM gd to k)) ∧ σ1 22 (2 * k) = liF gd to (kM gd to) (to (2 * kM gd to k)) (kC gd to) ∧ σ1 22 (2 * k + 1) = liF gd to (kM gd to) (to (2 * kM gd to k + 1)) (kC gd to)) → WP g mX1_reduce 10 [(0, .ref (pw_ad g 16)), (1, .int (nI i))] [] 0 σ1 Q := by
    intro n
    induction n with
    | zero =>
      intro i hi σ1 hf1 hr1
      refine bX1_reduce_10 (bX0_count_0 rfl rfl rfl ?_)
      rw [hf1 20 (by decide), hCb.1]
      refine bX1_reduce_18 (fun _ => h σ1 (hfab.tr (hf1.mono (by decide))) ⟨fun s t hs ht => ?_, ⟨?_, fun k hk => ?_, fun s hs => ?_⟩, fun k hk => hr1 k (by omega)⟩) (fun a => absurd (nI_le (by omega) (by omega)) a) (fun a => absurd (nI_le (by omega) (by omega)) a)
      · rw [hf1 23 (by decide)]; exact hSb s t hs ht
      · rw [hf1 20 (by decide)]; exact hCb.1
      · rw [hf1 26 (by decide), hf1 27 (by decide)]; exact hCb.2.1 k hk
      · rw [hf1 25 (by decide)]; exact hCb.2.2 s hs
    | succ n ih =>
      intro i hi σ1 hf1 hr1
      have hD1 : cD σ1 d gd to := (hD.fr hfab (by decide) (by decide) (by decide)).fr hf1 (by decide) (by decide) (by decide)
      obtain ⟨k1, k2, k3, k4⟩ := kf2 i (by omega)
      have ht0 := o3 (2 * kM gd to i + 0) (by omega)
      have ht1 := o3 (2 * kM gd to i + 1) (by omega)
      refine bX1_reduce_10 (bX0_count_0 rfl rfl rfl ?_)
      rw [hf1 20 (by decide), hCb.1]
      refine bX1_reduce_18 (fun a => absurd a (nI_ge (by omega) (by omega))) (fun _ => vp_in_nI (by omega) (by decide)) (fun _ => ?_)
      rw [nI_clamp (by omega), hf1 26 (by decide), (hCb.2.1 i (by omega)).1]
      refine c_markD hD1 ok k1 ?_
      refine bX1_reduce_41 ?_
      rw [ww_0]
      refine c_arrowD hD1 ok k1 (by decide) ?_
      refine bX1_reduce_54 (vp_in_nI (by omega) (by decide)) ?_
      rw [ww_1, nI_clamp (by omega), hf1 25 (by decide), hCb.2.2 _ ht0]
      refine c_arrowD hD1 ok k1 (by decide) ?_
      refine bX1_reduce_68 (vp_in_nI (by omega) (by decide)) ?_
      rw [nI_clamp (by omega), hf1 25 (by decide), hCb.2.2 _ ht1]
      have e0 : (2 : Int32) * nI i = nI (2 * i) := by rw [ww_2, pk_mul]
      have e1 : (2 : Int32) * nI i + (1 : Int32) = nI (2 * i + 1) := by rw [e0, nI_1]
      refine bX0_put_0 rfl rfl rfl (vp_in_nI (N := 5) (by omega) (by decide)) (by rw [e0]; exact vp_in_nI (N := 10) (by omega) (by decide)) (by rw [e1]; exact vp_in_nI (N := 10) (by omega) (by decide)) ?_
      rw [e1, e0, nI_clamp (by omega), nI_clamp (by omega), nI_clamp (by omega)]
      refine bX1_reduce_72 ?_
      rw [show nI i + 1 = nI (i + 1) from nI_1 i]
      refine wp_sub [0, 1] rfl (ih (i + 1) (by omega) _ (((hf1.set (by decide)).set (by decide)).set (by decide)) (fun k hk => ?_))
      show _ ∧ _ ∧ _
      rw [ms_ne _ _ _ _ _ (show (21 : Nat) ≠ 20 + 2 by decide), ms_ne _ _ _ _ _ (show (21 : Nat) ≠ 20 + 2 by decide), show (20 + 1 : Nat) = 21 from rfl, show (20 + 2 : Nat) = 22 from rfl, ms_eq, ms_eq, ms_eq, ms_eq, ms_eq, ms_ne _ _ _ _ _ (show (22 : Nat) ≠ 21 by decide), ms_ne _ _ _ _ _ (show (22 : Nat) ≠ 21 by decide)]
      by_cases q : k = i
      · subst q
        simp
      · rw [if_neg q, if_neg (by omega), if_neg (by omega), if_neg (by omega), if_neg (by omega)]
        exact hr1 k (by omega)
  exact bX1_reduce_8 (loop (kC gd to) 0 (by omega) σb fr.rf (fun k hk => absurd hk (by omega)))
/-- a draft, or none (d = 0) *)-/
def cDr (σ : pw_Mem) (d : Nat) (gd : Nat → Bool) (to : Nat → Nat) : Prop := σ 17 2 = nI d ∧ (d = 0 ∨ (okD d to ∧ cD σ d gd to ∧ cRed σ d gd to))
theorem cDr.lt (h : cDr σ d gd to) : d < 6 := by
  rcases h.2 with q | q
  · omega
  · have := q.1.2.1; omega
def dfr : List Nat := [17, 18, 19, 20, 21, 22, 23, 24, 25, 26, 27]
theorem C_draft {x1 : Int32} (hl9 : (pw_l g).stackTraces = false) (h1 : ¬ (∃ n, 1 ≤ n ∧ n ≤ 5 ∧ x1 = nI n) → Q (.inr E_A, σ)) (h2 : ∀ n, 1 ≤ n → n ≤ 5 → x1 = nI n → ∀ σ', fr dfr σ σ' → cDr σ' n (fun _ => false) (fun i => i / 2) → Q (.inl none, σ')) : WP g mX4_draft 0 [(0, .ref (pw_ad g 0)), (1, .int x1)] [] 0 σ Q := by
  refine bX4_draft_0 hl9 (fun a => h1 ?_) (fun a b => ?_) (fun a b => h1 ?_)
  · rintro ⟨n, q1, q2, rfl⟩; exact absurd a (nI_nlt (b := 1) q1 (by omega))
  · have hx0 : ¬ x1 < 0 := fun z => a (Int32.lt_trans z (by decide))
    obtain ⟨n, hn, rfl⟩ := nI_of hx0
    have hn1 : 1 ≤ n := by
      rcases Nat.lt_or_ge n 1 with q | q
      · exact absurd (nI_lt (b := 1) q (by decide)) a
      · exact q
    have hn5 : n ≤ 5 := (nI_leI hn (b := 5) (by decide)).mp b
    have ok : okD n (fun i => i / 2) := ⟨by omega, hn5, fun i hi => by show i / 2 < n; omega⟩
    refine bX1_begin_0 (bX0_resize_0 rfl rfl rfl ?_)
    have loop : ∀ k i, i + k = n → ∀ σ1, fr dfr σ σ1 → σ1 17 2 = nI n → (∀ s, s < i → σ1 18 s = -1 ∧ σ1 19 (2 * s) = nI s ∧ σ1 19 (2 * s + 1) = nI s) → WP g mX1_begin 10 [(0, .ref (pw_ad g 16)), (1, .int (nI n)), (2, .int (nI i))] [] 0 σ1 (pw_k g mX4_draft 28 [(0, .ref (pw_ad g 0)), (1, .int (nI n))] [] 0 Q) := by
      intro k
      induction k with
      | zero =>
        intro i hi σ1 hf1 h17 hs1
        refine bX1_begin_10 (fun _ => ?_) (fun a => absurd (nI_le (by omega) (by omega)) a)
        have hD1 : cD σ1 n (fun _ => false) (fun i => i / 2) := ⟨h17, fun s hs => (hs1 s (by omega)).1, fun j hj => by
          obtain ⟨_, q1, q2⟩ := hs1 (j / 2) (by omega)
          rcases Nat.mod_two_eq_zero_or_one j with z | z
          · have e : j = 2 * (j / 2) := by omega
            show σ1 19 j = nI (j / 2)
            rw [← q1, ← e]
          · have e : j = 2 * (j / 2) + 1 := by omega
            show σ1 19 j = nI (j / 2)
            rw [← q2, ← e]⟩
        refine c_reduce hD1 ok (fun σ' hf' hR' => ?_)
        refine bX1_begin_36 (bX4_draft_28 (h2 n hn1 hn5 rfl σ' (hf1.tr (hf'.mono (by decide))) ⟨?_, Or.inr ⟨ok, hD1.fr hf' (by decide) (by decide) (by decide), hR'⟩⟩))
        rw [hf' 17 (by decide)]; exact h17
      | succ k ih =>
        intro i hi σ1 hf1 h17 hs1
        refine bX1_begin_10 (fun a => absurd a (nI_ge (by omega) (by omega))) (fun _ => ?_)
        have e0 : (2 : Int32) * nI i = nI (2 * i) := by rw [ww_2, pk_mul]
        have e1 : (2 : Int32) * nI i + (1 : Int32) = nI (2 * i + 1) := by rw [e0, nI_1]
        refine bX0_put_0 rfl rfl rfl (vp_in_nI (N := 5) (by omega) (by decide)) (by rw [e0]; exact vp_in_nI (N := 10) (by omega) (by decide)) (by rw [e1]; exact vp_in_nI (N := 10) (by omega) (by decide)) ?_
        rw [e1, e0, nI_clamp (by omega), nI_clamp (by omega), nI_clamp (by omega)]
        refine bX1_begin_26 ?_
        rw [show nI i + 1 = nI (i + 1) from nI_1 i]
        refine ih (i + 1) (by omega) _ (((hf1.set (by decide)).set (by decide)).set (by decide)) ?_ (fun s hs => ?_)
        · rw [ms_ne _ _ _ _ _ (by decide), ms_ne _ _ _ _ _ (by decide), ms_ne _ _ _ _ _ (by decide)]; exact h17
        · rw [ms_ne _ _ _ _ _ (show (18 : Nat) ≠ 17 + 2 by decide), ms_ne _ _ _ _ _ (show (18 : Nat) ≠ 17 + 2 by decide), show (17 + 1 : Nat) = 18 from rfl, show (17 + 2 : Nat) = 19 from rfl, ms_eq, ms_eq, ms_eq, ms_eq, ms_eq, ms_ne _ _ _ _ _ (show (19 : Nat) ≠ 18 by decide), ms_ne _ _ _ _ _ (show (19 : Nat) ≠ 18 by decide)]
          by_cases q : s = i
          · subst q
            simp
          · rw [if_neg q, if_neg (by omega), if_neg (by omega), if_neg (by omega), if_neg (by omega)]
            exact hs1 s (by omega)
    refine bX1_begin_8 (loop n 0 (by omega) _ (fr.rf.set (by decide)) (ms_same _ _ _ _) (fun s hs => absurd hs (by omega)))
  · rintro ⟨n, q1, q2, rfl⟩; exact b (nI_le (b := 5) q2 (by decide))
theorem c_checkDrafted (hl9 : (pw_l g).stackTraces = false) (hD : cDr σ d gd to) (h1 : 0 < d → Q (.inl none, σ)) (h2 : d = 0 → Q (.inr E_S, σ)) : WP g mX4_checkDrafted 0 [(0, .ref (pw_ad g 0))] [] 0 σ Q := by
  have hd := hD.lt
  refine bX4_checkDrafted_0 (bX1_drawn_0 ?_)
  refine bX4_checkDrafted_7 (bX0_count_0 rfl rfl rfl ?_)
  rw [hD.1]
  refine bX4_checkDrafted_10 hl9 (fun a => h1 ?_) (fun a => h2 ?_)
  · rcases Nat.eq_zero_or_pos d with q | q
    · exact absurd (by rw [q]; rfl) a
    · exact q
  · exact (nI_eq (by omega) (by decide)).mp (a.trans nI_0.symm)
def upB (f : Nat → Bool) (k : Nat) (x : Bool) : Nat → Bool := fun j => if j = k then x else f j
theorem C_define {x1 x2 x3 x4 : Int32} (hl9 : (pw_l g).stackTraces = false) (hD : cDr σ d gd to) (h0 : d = 0 → Q (.inr E_S, σ)) (h1 : 0 < d → ¬ (∃ a b c, a < d ∧ b < d ∧ c < d ∧ x1 = nI a ∧ x3 = nI b ∧ x4 = nI c) → Q (.inr E_I, σ))
    (h2 : ∀ a b c, a < d → b < d → c < d → x1 = nI a → x3 = nI b → x4 = nI c → ∀ σ', fr dfr σ σ' → cDr σ' d (upB gd a (decide (¬ x2 = 0))) (upN (upN to (2 * a) b) (2 * a + 1) c) → Q (.inl none, σ')) : WP g mX4_define 0 [(0, .ref (pw_ad g 0)), (1, .int x1), (2, .int x2), (3, .int x3), (4, .int x4)] [] 0 σ Q := by
  have hdl := hD.lt
  refine bX4_define_0 (c_checkDrafted hl9 hD (fun hd0 => ?_) h0)
  rcases hD.2 with q | ⟨ok, hD2, hR⟩
  · exact absurd hd0 (by omega)
  have h1 := h1 hd0
  refine bX4_define_4 (bX1_drawn_0 (bX4_define_11 (c_checkState hl9 rfl rfl rfl hD.1 (by omega) (fun q1 => ?_) (fun q1 => h1 (fun ⟨a, b, c, ha, hb, hc, e1, e2, e3⟩ => q1 ⟨a, ha, e1⟩)))))
  refine bX4_define_15 (bX1_drawn_0 (bX4_define_22 (c_checkState hl9 rfl rfl rfl hD.1 (by omega) (fun q2 => ?_) (fun q1 => h1 (fun ⟨a, b, c, ha, hb, hc, e1, e2, e3⟩ => q1 ⟨b, hb, e2⟩)))))
  refine bX4_define_26 (bX1_drawn_0 (bX4_define_33 (c_checkState hl9 rfl rfl rfl hD.1 (by omega) (fun q3 => ?_) (fun q1 => h1 (fun ⟨a, b, c, ha, hb, hc, e1, e2, e3⟩ => q1 ⟨c, hc, e3⟩)))))
  obtain ⟨a, ha, rfl⟩ := q1
  obtain ⟨b, hb, rfl⟩ := q2
  obtain ⟨c, hc, rfl⟩ := q3
  have h2 := h2 a b c ha hb hc rfl rfl rfl
  obtain ⟨o1, o2, o3⟩ := ok
  have rest : ∀ y : Int32, y = sgn (decide (¬ x2 = 0)) → WP g mX1_change 0 [(0, .ref (pw_ad g 16)), (1, .int (nI a)), (2, .int y), (3, .int (nI b)), (4, .int (nI c))] [] 0 σ (pw_k g mX4_define 58 [(0, .ref (pw_ad g 0)), (1, .int (nI a)), (2, .int x2), (3, .int (nI b)), (4, .int (nI c))] [] 4 Q) := by
    intro y hy
    have e0 : (2 : Int32) * nI a = nI (2 * a) := by rw [ww_2, pk_mul]
    have e1 : (2 : Int32) * nI a + (1 : Int32) = nI (2 * a + 1) := by rw [e0, nI_1]
    refine bX1_change_0 (bX0_put_0 rfl rfl rfl (vp_in_nI (N := 5) (by omega) (by decide)) (by rw [e0]; exact vp_in_nI (N := 10) (by omega) (by decide)) (by rw [e1]; exact vp_in_nI (N := 10) (by omega) (by decide)) ?_)
    rw [e1, e0, nI_clamp (by omega), nI_clamp (by omega), nI_clamp (by omega)]
    have ok' : okD d (upN (upN to (2 * a) b) (2 * a + 1) c) := ⟨o1, o2, fun i hi => by
      simp only [upN]
      split
      · exact hc
      · split
        · exact hb
        · exact o3 i hi⟩
    have hD' : cD (pw_set (pw_set (pw_set σ (17 + 1) a y) (17 + 2) (2 * a) (nI b)) (17 + 2) (2 * a + 1) (nI c)) d (upB gd a (decide (¬ x2 = 0))) (upN (upN to (2 * a) b) (2 * a + 1) c) := by
      refine ⟨?_, fun s hs => ?_, fun i hi => ?_⟩
      · rw [ms_ne _ _ _ _ _ (by decide), ms_ne _ _ _ _ _ (by decide), ms_ne _ _ _ _ _ (by decide)]; exact hD.1
      · rw [ms_ne _ _ _ _ _ (show (18 : Nat) ≠ 17 + 2 by decide), ms_ne _ _ _ _ _ (show (18 : Nat) ≠ 17 + 2 by decide), show (17 + 1 : Nat) = 18 from rfl, ms_eq, hD2.2.1 s hs, upB]
        by_cases q : s = a
        · rw [if_pos q, if_pos q]; exact hy
        · rw [if_neg q, if_neg q]
      · rw [show (17 + 2 : Nat) = 19 from rfl, ms_eq, ms_eq, ms_ne _ _ _ _ _ (by decide), hD2.2.2 i hi]
        simp only [upN]
        by_cases q : i = 2 * a + 1
        · rw [if_pos q, if_pos q]
        · rw [if_neg q, if_neg q]
          by_cases q2 : i = 2 * a
          · rw [if_pos q2, if_pos q2]
          · rw [if_neg q2, if_neg q2]
    refine bX1_change_12 (c_reduce hD' ok' (fun σ' hf' hR' => ?_))
    refine bX1_change_16 (bX4_define_58 (h2 σ' ((((fr.rf.set (by decide)).set (by decide)).set (by decide)).tr (hf'.mono (by decide))) ⟨?_, Or.inr ⟨ok', hD'.fr hf' (by decide) (by decide) (by decide), hR'⟩⟩))
    rw [hf' 17 (by decide)]
    exact hD'.1
  refine bX4_define_38 (fun z => rest _ ?_) (fun z => rest _ ?_)
  · simp [sgn, z]
  · simp [sgn, z]
theorem C_least (hl9 : (pw_l g).stackTraces = false) (hD : cDr σ d gd to) (h0 : d = 0 → Q (.inr E_S, σ)) (h1 : 0 < d → Q (.inl (some (.int (nI (kC gd to)))), σ)) : WP g mX4_least 0 [(0, .ref (pw_ad g 0))] [] 0 σ Q := by
  refine bX4_least_0 (c_checkDrafted hl9 hD (fun hd0 => ?_) h0)
  rcases hD.2 with q | ⟨ok, hD2, hR⟩
  · exact absurd hd0 (by omega)
  refine bX4_least_4 (bX1_reduced_0 (bX4_least_11 (bX0_count_0 rfl rfl rfl ?_)))
  rw [hR.2.1.1]
  exact bX4_least_14 (h1 hd0)
def gv (w : Nat) : Int32 := nI (256 * Nat.log2 w + (w - 2 ^ Nat.log2 w))
theorem C_name {x1 : Int32} (hl9 : (pw_l g).stackTraces = false) (hD : cDr σ d gd to) (h0 : d = 0 → Q (.inr E_S, σ)) (h1 : 0 < d → ¬ (∃ k, k < kC gd to ∧ x1 = nI k) → Q (.inr E_I, σ)) (h2 : 0 < d → ∀ k, k < kC gd to → x1 = nI k → Q (.inl (some (.int (gv (kN gd to k)))), σ)) : WP g mX4_name 0 [(0, .ref (pw_ad g 0)), (1, .int x1)] [] 0 σ Q := by
  refine bX4_name_0 (c_checkDrafted hl9 hD (fun hd0 => ?_) h0)
  rcases hD.2 with q | ⟨ok, hD2, hR⟩
  · exact absurd hd0 (by omega)
  obtain ⟨kf1, kf2⟩ := k_facts (gd := gd) ok
  have hd5 := ok.2.1
  refine bX4_name_4 (bX1_reduced_0 (bX4_name_11 (c_checkState hl9 rfl rfl rfl hR.2.1.1 (by omega) (fun q1 => ?_) (fun q1 => h1 hd0 q1))))
  obtain ⟨k, hk, rfl⟩ := q1
  obtain ⟨k1, k2, k3, k4⟩ := kf2 k hk
  refine bX4_name_15 (bX1_nameOf_0 (vp_in_nI (by omega) (by decide)) ?_)
  rw [nI_clamp (by omega), (hR.2.1.2.1 k hk).2]
  exact bX4_name_23 (c_codeOf k2 (by omega) (bX4_name_26 (h2 hd0 k hk rfl)))
theorem C_apart {x1 x2 : Int32} (hl9 : (pw_l g).stackTraces = false) (hD : cDr σ d gd to) (h0 : d = 0 → Q (.inr E_S, σ)) (h1 : 0 < d → ¬ (∃ a b, a < kC gd to ∧ b < kC gd to ∧ x1 = nI a ∧ x2 = nI b) → Q (.inr E_I, σ)) (h2 : 0 < d → ∀ a b, a < kC gd to → b < kC gd to → x1 = nI a → x2 = nI b → Q (.inl (some (.int (if a = b then -1 else gv (sp gd to (kM gd to a) (kM gd to b))))), σ)) : WP g mX4_apart 0 [(0, .ref (pw_ad g 0)), (1, .int x1), (2, .int x2)] [] 0 σ Q := by
  refine bX4_apart_0 (c_checkDrafted hl9 hD (fun hd0 => ?_) h0)
  rcases hD.2 with q | ⟨ok, hD2, hR⟩
  · exact absurd hd0 (by omega)
  obtain ⟨kf1, kf2⟩ := k_facts (gd := gd) ok
  have hd5 := ok.2.1
  refine bX4_apart_4 (bX1_reduced_0 (bX4_apart_11 (c_checkState hl9 rfl rfl rfl hR.2.1.1 (by omega) (fun q1 => ?_) (fun q1 => h1 hd0 (fun ⟨a, b, ha, hb, e1, e2⟩ => q1 ⟨a, ha, e1⟩)))))
  refine bX4_apart_15 (bX1_reduced_0 (bX4_apart_22 (c_checkState hl9 rfl rfl rfl hR.2.1.1 (by omega) (fun q2 => ?_) (fun q1 => h1 hd0 (fun ⟨a, b, ha, hb, e1, e2⟩ => q1 ⟨b, hb, e2⟩)))))
  obtain ⟨a, ha, rfl⟩ := q1
  obtain ⟨b, hb, rfl⟩ := q2
  have h2 := h2 hd0 a b ha hb rfl rfl
  refine bX4_apart_26 (fun z => ?_) (fun z => ?_)
  · have hab : a ≠ b := fun e => z (by rw [e])
    rw [if_neg hab] at h2
    have ka := (kf2 a ha).1
    have kb := (kf2 b hb).1
    have e5 : (5 : Int32) * nI (kM gd to a) + nI (kM gd to b) = nI (5 * kM gd to a + kM gd to b) := by rw [show (5 : Int32) = nI 5 from rfl, pk_mul, nI_add]
    refine bX1_splitterOf_0 (vp_in_nI (by omega) (by decide)) (vp_in_nI (by omega) (by decide)) ?_
    rw [nI_clamp (by omega), nI_clamp (by omega), (hR.2.1.2.1 a ha).1, (hR.2.1.2.1 b hb).1]
    refine bX1_splitterOfDrawn_0 (by rw [e5]; exact vp_in_nI (by omega) (by decide)) ?_
    rw [e5, nI_clamp (by omega), hR.1 _ _ ka kb]
    refine bX1_splitterOf_16 (bX4_apart_44 (c_codeOf (sp_pos gd to ok.1 ok.2.1 ok.2.2 31 ha hb hab) ?_ (bX4_apart_47 h2)))
    have := sp_lt gd to (kM gd to a) (kM gd to b)
    omega
  · have hab : a = b := (nI_eq (by omega) (by omega)).mp z
    rw [if_pos hab] at h2
    exact h2
/-- what is learned is the least automaton -/
def SameP (n : Nat) (sg ar : Nat → Int32) (gd : Nat → Bool) (to : Nat → Nat) : Prop := n = kC gd to ∧ ∀ k, k < kC gd to → sg k = sgn (gd (kM gd to k)) ∧ ar (2 * k) = liF gd to (kM gd to) (to (2 * kM gd to k)) (kC gd to) ∧ ar (2 * k + 1) = liF gd to (kM gd to) (to (2 * kM gd to k + 1)) (kC gd to)
theorem C_same {n : Nat} {sg ar : Nat → Int32} (hl9 : (pw_l g).stackTraces = false) (hD : cDr σ d gd to) (hL : cL σ n sg ar) (okl : okL n ar) (h0 : d = 0 ∨ n = 0 → Q (.inr E_S, σ)) (h1 : 0 < d → n ≠ 0 → SameP n sg ar gd to → Q (.inl (some (.int 1)), σ)) (h2 : 0 < d → n ≠ 0 → ¬ SameP n sg ar gd to → Q (.inl (some (.int 0)), σ)) : WP g mX4_same 0 [(0, .ref (pw_ad g 0))] [] 0 σ Q := by
  refine bX4_same_0 (c_checkDrafted hl9 hD (fun hd0 => ?_) (fun q => h0 (Or.inl q)))
  refine bX4_same_4 (c_checkLearned hl9 hL okl (fun hn0 => ?_) (fun q => h0 (Or.inr q)))
  rcases hD.2 with q | ⟨ok, hD2, hR⟩
  · exact absurd hd0 (by omega)
  obtain ⟨kf1, kf2⟩ := k_facts (gd := gd) ok
  have hd5 := ok.2.1
  have hn := okl.1
  have yes : SameP n sg ar gd to → WP g mX4_same 22 [(0, .ref (pw_ad g 0))] [.int 1] 2 σ Q := fun q => bX4_same_22 (Or.inr rfl) (h1 hd0 hn0 q)
  have no : ¬ SameP n sg ar gd to → WP g mX4_same 22 [(0, .ref (pw_ad g 0))] [.int 0] 2 σ Q := fun q => bX4_same_22 (Or.inl rfl) (h2 hd0 hn0 q)
  refine bX4_same_8 (bX1_reduced_0 (bX4_same_19 ?_))
  have e13 : σ 13 2 = nI n := hL.1
  have e20 : σ 20 2 = nI (kC gd to) := hR.2.1.1
  have loop : n = kC gd to → ∀ k i, i + k = n → (∀ j, j < i → sg j = sgn (gd (kM gd to j)) ∧ ar (2 * j) = liF gd to (kM gd to) (to (2 * kM gd to j)) (kC gd to) ∧ ar (2 * j + 1) = liF gd to (kM gd to) (to (2 * kM gd to j + 1)) (kC gd to)) → WP g mX0_isLike 15 [(0, .ref (pw_ad g 13)), (1, .ref (pw_ad g 20)), (2, .int (nI i))] [] 0 σ (pw_k g mX4_same 22 [(0, .ref (pw_ad g 0))] [] 2 Q) := by
    intro hnc k
    induction k with
    | zero =>
      intro i hi hj
      have hle : σ 13 2 ≤ nI i := by rw [e13]; exact nI_le (by omega) (by omega)
      exact bX0_isLike_15 (fun _ => yes ⟨hnc, fun j hj9 => hj j (by omega)⟩) (fun a => absurd hle a) (fun a => absurd hle a) (fun a => absurd hle a) (fun a => absurd hle a)
    | succ k ih =>
      intro i hi hj
      have hge : ¬ σ 13 2 ≤ nI i := by rw [e13]; exact nI_ge (by omega) (by omega)
      have hic : i < kC gd to := by omega
      obtain ⟨r1, r2, r3⟩ := hR.2.2 i hic
      have e0 : (2 : Int32) * nI i + (0 : Int32) = nI (2 * i) := by rw [ww_2, ww_0, pk_mul, nI_add]; rfl
      have e1 : (2 : Int32) * nI i + (1 : Int32) = nI (2 * i + 1) := by rw [ww_2, pk_mul, nI_1]
      refine bX0_isLike_15 (fun a => absurd a hge) (fun _ => vp_in_nI (by omega) (by decide)) (fun _ => vp_in_nI (by omega) (by decide)) (fun _ a => ?_) (fun _ a => ?_)
      · rw [nI_clamp (by omega), hL.2.1 i (by omega), r1] at a
        exact no (fun z => a (z.2 i hic).1)
      · rw [nI_clamp (by omega), hL.2.1 i (by omega), r1] at a
        refine bX0_arrow_0 rfl rfl rfl (by rw [e0]; exact vp_in_nI (N := 1024) (by omega) (by decide)) ?_
        rw [e0, nI_clamp (by omega), show σ (13 + 2) (2 * i) = ar (2 * i) from hL.2.2 _ (by omega)]
        refine bX0_isLike_44 (bX0_arrow_0 rfl rfl rfl (by rw [e0]; exact vp_in_nI (N := 10) (by omega) (by decide)) ?_)
        rw [e0, nI_clamp (by omega), show σ (20 + 2) (2 * i) = _ from r2]
        refine bX0_isLike_50 (fun b => no (fun z => b (z.2 i hic).2.1)) (fun b => ?_)
        refine bX0_arrow_0 rfl rfl rfl (by rw [e1]; exact vp_in_nI (N := 1024) (by omega) (by decide)) ?_
        rw [e1, nI_clamp (by omega), show σ (13 + 2) (2 * i + 1) = ar (2 * i + 1) from hL.2.2 _ (by omega)]
        refine bX0_isLike_59 (bX0_arrow_0 rfl rfl rfl (by rw [e1]; exact vp_in_nI (N := 10) (by omega) (by decide)) ?_)
        rw [e1, nI_clamp (by omega), show σ (20 + 2) (2 * i + 1) = _ from r3]
        refine bX0_isLike_65 (fun b2 => ?_) (fun b2 => no (fun z => b2 (z.2 i hic).2.2))
        rw [show nI i + 1 = nI (i + 1) from nI_1 i]
        refine ih (i + 1) (by omega) (fun j hj9 => ?_)
        by_cases q : j = i
        · subst q; exact ⟨a, b, b2⟩
        · exact hj j (by omega)
  refine bX0_isLike_0 (fun a => ?_) (fun a => ?_)
  · rw [e13, e20] at a
    have hnc : n = kC gd to := (nI_eq (by omega) (by omega)).mp a
    exact loop hnc n 0 (by omega) (fun j hj => absurd hj (by omega))
  · rw [e13, e20] at a
    exact no (fun z => a (by rw [z.1]))
end HDB
