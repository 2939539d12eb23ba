/-! least, name, apart, same in the reference -/
section HDD
variable {g : pw_G} {σ : pw_Mem} {Q : pw_R → Prop} {d : Nat} {gd : Nat → Bool} {to : Nat → Nat}
theorem mDr.zero (hD : mDr σ d gd to) (a : σ 29 17 ≤ 0) : d = 0 := by
  have := hD.lt
  rw [hD.1] at a
  rcases Nat.eq_zero_or_pos d with q | q
  · exact q
  · exact absurd a (nI_nle q (by omega))
theorem mDr.pos (hD : mDr σ d gd to) (a : ¬ σ 29 17 ≤ 0) : 0 < d := by
  rw [hD.1] at a
  rcases Nat.eq_zero_or_pos d with q | q
  · exact absurd (by rw [q]; decide) a
  · exact q
theorem mDr.some (hD : mDr σ d gd to) (hd : 0 < d) : okD d to ∧ mD0 σ d gd to := by
  rcases hD.2 with q | q
  · omega
  · exact q
theorem M_least (hD : mDr σ d gd to) (h0 : d = 0 → ∀ σ', mfr [] [0] σ σ' → σ' 29 0 = 1 → Q (.inl (some (.int 0)), σ')) (h1 : 0 < d → ∀ σ', mfr [43, 44] [0, 20] σ σ' → σ' 29 0 = 0 → Q (.inl (some (.int (nI (kC gd to)))), σ')) : WP g mX5_least 0 [(0, .ref (pw_ad g 29))] [] 0 σ Q := by
  refine bX5_least_0 (fun a => ?_) (fun a => ?_)
  · exact m_whenF (bX5_least_17 (fun a => absurd rfl a) (fun _ => h0 (hD.zero a) _ (mfr.rf.fld (by decide)) (ms_same _ _ _ _)))
  · have hd := hD.pos a
    obtain ⟨ok, hD2⟩ := hD.some hd
    refine m_whenT (bX5_least_17 (fun _ => m_reduce (hD2.fr (mfr.rf.fld (l := []) (f := [0]) (by decide)) (by decide) (by decide)) ok (fun σ' hf' hC' => ?_)) (fun a => absurd a (by decide)))
    refine bX5_least_26 ?_
    rw [hC'.1]
    refine h1 hd σ' ((mfr.rf.fld (by decide)).tr (hf'.mono (by decide) (by decide))) ?_
    rw [hf'.2 0 (by decide), ms_same]
theorem M_name {x1 : Int32} (hD : mDr σ d gd to) (h0 : d = 0 → ∀ σ', mfr [] [0] σ σ' → σ' 29 0 = 1 → Q (.inl (some (.int 0)), σ')) (h1 : 0 < d → ¬ (∃ k, k < kC gd to ∧ x1 = nI k) → ∀ σ', mfr [43, 44] [0, 20] σ σ' → σ' 29 0 = 2 → Q (.inl (some (.int 0)), σ')) (h2 : 0 < d → ∀ k, k < kC gd to → x1 = nI k → ∀ σ', mfr [43, 44] [0, 20] σ σ' → σ' 29 0 = 0 → Q (.inl (some (.int (gv (kN gd to k)))), σ')) : WP g mX5_name 0 [(0, .ref (pw_ad g 29)), (1, .int x1)] [] 0 σ Q := by
  refine bX5_name_0 (fun a => ?_) (fun a => ?_)
  · exact m_whenF (bX5_name_17 (fun a => absurd rfl a) (fun _ => h0 (hD.zero a) _ (mfr.rf.fld (by decide)) (ms_same _ _ _ _)))
  · have hd := hD.pos a
    obtain ⟨ok, hD2⟩ := hD.some hd
    obtain ⟨kf1, kf2⟩ := k_facts (gd := gd) ok
    have hd5 := ok.2.1
    refine m_whenT (bX5_name_17 (fun _ => m_reduce (hD2.fr (mfr.rf.fld (l := []) (f := [0]) (by decide)) (by decide) (by decide)) ok (fun σ' hf' hC' => ?_)) (fun a => absurd a (by decide)))
    have hf : mfr [43, 44] [0, 20] σ σ' := (mfr.rf.fld (by decide)).tr (hf'.mono (by decide) (by decide))
    have bad : ¬ (∃ k, k < kC gd to ∧ x1 = nI k) → WP g mX5_when 0 [(0, .ref (pw_ad g 29)), (1, .int (0 : Int32)), (2, .int (2 : Int32))] [] 0 σ' (pw_k g mX5_name 48 [(0, .ref (pw_ad g 29)), (1, .int x1)] [] 0 Q) := fun q => m_whenF (bX5_name_48 (fun _ => h1 hd q _ (hf.fld (by decide)) (ms_same _ _ _ _)) (fun a => absurd rfl a) (fun a => absurd rfl a))
    refine bX5_name_26 (fun a => bad ?_) (fun a b => bad ?_) (fun a b => ?_)
    · rintro ⟨k, hk, rfl⟩; exact nI_pos (by omega) a
    · rintro ⟨k, hk, rfl⟩; rw [hC'.1] at b; exact nI_ge hk (by omega) b
    · rcases pk_ix x1 (n := kC gd to) (by omega) with q | q | ⟨k, hk, rfl⟩
      · exact absurd q a
      · exact absurd (hC'.1 ▸ q) b
      · obtain ⟨k1, k2, k3, k4⟩ := kf2 k hk
        refine m_whenT (bX5_name_48 (fun a => absurd a (by decide)) (fun _ => vp_in_nI (by omega) (by decide)) (fun _ => ?_))
        rw [nI_clamp (by omega), ms_ne _ _ _ _ _ (by decide), (hC'.2 k hk).2]
        exact m_given k2 (by omega) (bX5_name_60 (h2 hd k hk rfl _ (hf.fld (by decide)) (ms_same _ _ _ _)))
theorem M_apart {x1 x2 : Int32} (hD : mDr σ d gd to) (h0 : d = 0 → ∀ σ', mfr [] [0] σ σ' → σ' 29 0 = 1 → Q (.inl (some (.int 0)), σ')) (h1 : 0 < d → ¬ (∃ a b, a < kC gd to ∧ b < kC gd to ∧ x1 = nI a ∧ x2 = nI b) → ∀ σ', mfr [43, 44] [0, 20] σ σ' → σ' 29 0 = 2 → Q (.inl (some (.int 0)), σ')) (h2 : 0 < d → ∀ a b, a < kC gd to → b < kC gd to → x1 = nI a → x2 = nI b → ∀ σ', mfr [43, 44] [0, 20] σ σ' → σ' 29 0 = 0 → Q (.inl (some (.int (if a = b then -1 else gv (sp gd to (kM gd to a) (kM gd to b))))), σ')) : WP g mX5_apart 0 [(0, .ref (pw_ad g 29)), (1, .int x1), (2, .int x2)] [] 0 σ Q := by
  refine bX5_apart_0 (fun a => ?_) (fun a => ?_)
  · exact m_whenF (bX5_apart_17 (fun a => absurd rfl a) (fun _ => h0 (hD.zero a) _ (mfr.rf.fld (by decide)) (ms_same _ _ _ _)))
  · have hd := hD.pos a
    obtain ⟨ok, hD2⟩ := hD.some hd
    obtain ⟨kf1, kf2⟩ := k_facts (gd := gd) ok
    have hd5 := ok.2.1
    refine m_whenT (bX5_apart_17 (fun _ => m_reduce (hD2.fr (mfr.rf.fld (l := []) (f := [0]) (by decide)) (by decide) (by decide)) ok (fun σ' hf' hC' => ?_)) (fun a => absurd a (by decide)))
    have hf : mfr [43, 44] [0, 20] σ σ' := (mfr.rf.fld (by decide)).tr (hf'.mono (by decide) (by decide))
    have bad : ¬ (∃ a b, a < kC gd to ∧ b < kC gd to ∧ x1 = nI a ∧ x2 = nI b) → WP g mX5_when 0 [(0, .ref (pw_ad g 29)), (1, .int (0 : Int32)), (2, .int (2 : Int32))] [] 0 σ' (pw_k g mX5_apart 60 [(0, .ref (pw_ad g 29)), (1, .int x1), (2, .int x2)] [] 0 Q) := fun q => m_whenF (bX5_apart_60 (fun a => absurd rfl a) (fun a => absurd rfl a) (fun a => absurd rfl a) (fun a => absurd rfl a) (fun _ => h1 hd q _ (hf.fld (by decide)) (ms_same _ _ _ _)))
    refine bX5_apart_26 (fun a => bad ?_) (fun a b => bad ?_) (fun a b c => bad ?_) (fun a b c e => bad ?_) (fun a b c e => ?_)
    · rintro ⟨k, j, hk, hj, rfl, rfl⟩; exact nI_pos (by omega) a
    · rintro ⟨k, j, hk, hj, rfl, rfl⟩; rw [hC'.1] at b; exact nI_ge hk (by omega) b
    · rintro ⟨k, j, hk, hj, rfl, rfl⟩; exact nI_pos (by omega) c
    · rintro ⟨k, j, hk, hj, rfl, rfl⟩; rw [hC'.1] at e; exact nI_ge hj (by omega) e
    · rcases pk_ix x1 (n := kC gd to) (by omega) with q | q | ⟨k, hk, rfl⟩
      · exact absurd q a
      · exact absurd (hC'.1 ▸ q) b
      · rcases pk_ix x2 (n := kC gd to) (by omega) with q | q | ⟨j, hj, rfl⟩
        · exact absurd q c
        · exact absurd (hC'.1 ▸ q) e
        · have hff := hf.fld (l := [43, 44]) (f := [0, 20]) (i := 0) (x := 0) (by decide)
          have h2 := h2 hd k j hk hj rfl rfl _ hff (ms_same _ _ _ _)
          refine m_whenT (bX5_apart_60 (fun _ _ => vp_in_nI (by omega) (by decide)) (fun _ _ => vp_in_nI (by omega) (by decide)) (fun _ z => ?_) (fun _ z => ?_) (fun a => absurd a (by decide)))
          · have hkj : k ≠ j := fun e => z (by rw [e])
            have hp := sp_pos gd to ok.1 ok.2.1 ok.2.2 31 hk hj hkj
            have hl := sp_lt gd to (kM gd to k) (kM gd to j)
            rw [if_neg hkj] at h2
            rw [nI_clamp (by omega), nI_clamp (by omega), ms_ne _ _ _ _ _ (by decide), ms_ne _ _ _ _ _ (by decide), (hC'.2 k hk).1, (hC'.2 j hj).1]
            refine m_setsApart (hD2.fr hff (by decide) (by decide)) ok (kf2 k hk).1 (kf2 j hj).1 (bX5_apart_90 ?_)
            have hp' : 1 ≤ sp gd to (kM gd to k) (kM gd to j) := hp
            rw [show nI (sp gd to (kM gd to k) (kM gd to j)) - 1 = nI (sp gd to (kM gd to k) (kM gd to j) - 1) from by rw [ww_1, pk_sub hp']]
            exact m_given hp' (by omega) (bX5_apart_93 h2)
          · have hkj : k = j := (nI_eq (by omega) (by omega)).mp z
            rw [if_pos hkj] at h2
            exact h2
theorem M_same {n : Nat} {sg ar : Nat → Int32} (hD : mDr σ d gd to) (hL : mL σ n sg ar) (okl : okL n ar) (h0 : d = 0 ∨ n = 0 → ∀ σ', mfr [] [0] σ σ' → σ' 29 0 = 1 → Q (.inl (some (.int 0)), σ')) (h1 : 0 < d → n ≠ 0 → SameP n sg ar gd to → ∀ σ', mfr [43, 44] [0, 20] σ σ' → σ' 29 0 = 0 → Q (.inl (some (.int 1)), σ')) (h2 : 0 < d → n ≠ 0 → ¬ SameP n sg ar gd to → ∀ σ', mfr [43, 44] [0, 20] σ σ' → σ' 29 0 = 0 → Q (.inl (some (.int 0)), σ')) : WP g mX5_same 0 [(0, .ref (pw_ad g 29))] [] 0 σ Q := by
  have hn := okl.1
  have bad : d = 0 ∨ n = 0 → WP g mX5_when 0 [(0, .ref (pw_ad g 29)), (1, .int (0 : Int32)), (2, .int (1 : Int32))] [] 0 σ (pw_k g mX5_same 24 [(0, .ref (pw_ad g 29))] [] 0 Q) := fun q => m_whenF (bX5_same_24 (fun a => absurd rfl a) (fun _ => h0 q _ (mfr.rf.fld (by decide)) (ms_same _ _ _ _)))
  refine bX5_same_0 (fun a => bad (Or.inl (hD.zero a))) (fun a b => bad (Or.inr ?_)) (fun a b => ?_)
  · rw [hL.1] at b
    rcases Nat.eq_zero_or_pos n with q | q
    · exact q
    · exact absurd b (nI_nle q (by omega))
  · have hd := hD.pos a
    have hn0 : n ≠ 0 := fun q => b (by rw [hL.1, q]; decide)
    obtain ⟨ok, hD2⟩ := hD.some hd
    obtain ⟨kf1, kf2⟩ := k_facts (gd := gd) ok
    have hd5 := ok.2.1
    refine m_whenT (bX5_same_24 (fun _ => m_reduce (hD2.fr (mfr.rf.fld (l := []) (f := [0]) (by decide)) (by decide) (by decide)) ok (fun σ' hf' hC' => ?_)) (fun a => absurd a (by decide)))
    have hf : mfr [43, 44] [0, 20] σ σ' := (mfr.rf.fld (by decide)).tr (hf'.mono (by decide) (by decide))
    have hft : σ' 29 0 = 0 := by rw [hf'.2 0 (by decide), ms_same]
    have yes : SameP n sg ar gd to → Q (.inl (some (.int 1)), σ') := fun q => h1 hd hn0 q σ' hf hft
    have no : ¬ SameP n sg ar gd to → Q (.inl (some (.int 0)), σ') := fun q => h2 hd hn0 q σ' hf hft
    have hD' := hD2.fr hf (by decide) (by decide)
    have e14 : σ' 29 14 = nI n := by rw [hf.2 14 (by decide)]; exact hL.1
    have e40 : ∀ k, k < n → σ' 40 k = sg k := fun k hk => by rw [hf.1 40 (by decide) (by decide)]; exact hL.2.1 k hk
    have e39 : ∀ k, k < 2 * n → σ' 39 k = ar k := fun k hk => by rw [hf.1 39 (by decide) (by decide)]; exact hL.2.2 k hk
    have e20 : σ' 29 20 = nI (kC gd to) := hC'.1
    have stop : ∀ i, ¬ SameP n sg ar gd to → WP g mX5_same 52 [(0, .ref (pw_ad g 29)), (1, .int 0), (2, .int i)] [] 0 σ' Q := fun i q =>
      bX5_same_52 (fun _ => Or.inl rfl) (fun _ => no q) (fun _ _ => Or.inl rfl) (fun _ _ => no q) (fun _ a => absurd rfl a) (fun _ a => absurd rfl a) (fun _ a => absurd rfl a) (fun _ a => absurd rfl a) (fun _ a => absurd rfl a) (fun _ a => absurd rfl a) (fun _ a => absurd rfl a)
    have stop2 : ∀ i, ¬ SameP n sg ar gd to → ∀ k l : Nat, l + k = 2 → WP g mX5_same 100 [(0, .ref (pw_ad g 29)), (1, .int 0), (2, .int i), (3, .int (nI l))] [] 0 σ' Q := by
      intro i q k
      induction k with
      | zero =>
        intro l hl
        have hl : l = 2 := by omega
        subst hl
        exact bX5_same_100 (fun _ => wp_sub [0, 1, 2] rfl (stop _ q)) (fun a => absurd (by decide) a) (fun a => absurd (by decide) a) (fun a => absurd (by decide) a) (fun a => absurd (by decide) a) (fun a => absurd (by decide) a)
      | succ k ih =>
        intro l hl
        refine bX5_same_100 (fun a => absurd a (nI_ge (b := 2) (by omega) (by decide))) (fun _ _ => ?_) (fun _ a => absurd rfl a) (fun _ a => absurd rfl a) (fun _ a => absurd rfl a) (fun _ a => absurd rfl a)
        rw [show nI l + 1 = nI (l + 1) from nI_1 l]
        exact ih (l + 1) (by omega)
    have loop : n = kC gd to → ∀ k i, i + k = n → (∀ j, j < i → sg j = sgn (gd (kM gd to j)) ∧ ar (2 * j) = liF gd to (kM gd to) (to (2 * kM gd to j)) (kC gd to) ∧ ar (2 * j + 1) = liF gd to (kM gd to) (to (2 * kM gd to j + 1)) (kC gd to)) → WP g mX5_same 52 [(0, .ref (pw_ad g 29)), (1, .int 1), (2, .int (nI i))] [] 0 σ' Q := by
      intro hnc k
      induction k with
      | zero =>
        intro i hi hj
        have hle : σ' 29 20 ≤ nI i := by rw [e20]; exact nI_le (by omega) (by omega)
        exact bX5_same_52 (fun _ => Or.inr rfl) (fun _ => yes ⟨hnc, fun j hj9 => hj j (by omega)⟩) (fun a => absurd hle a) (fun a => absurd hle a) (fun a => absurd hle a) (fun a => absurd hle a) (fun a => absurd hle a) (fun a => absurd hle a) (fun a => absurd hle a) (fun a => absurd hle a) (fun a => absurd hle a)
      | succ k ih =>
        intro i hi hj
        have hge : ¬ σ' 29 20 ≤ nI i := by rw [e20]; exact nI_ge (by omega) (by omega)
        have hic : i < kC gd to := by omega
        obtain ⟨k1, k2, k3, k4⟩ := kf2 i hic
        have e43 : σ' 43 (nI i).toNatClampNeg = nI (kM gd to i) := by rw [nI_clamp (by omega)]; exact (hC'.2 i hic).1
        have e41 : σ' 41 (nI (kM gd to i)).toNatClampNeg = zz (gd (kM gd to i)) := by rw [nI_clamp (by omega)]; exact hD'.1 _ k1
        have es : σ' 40 (nI i).toNatClampNeg = sg i := by rw [nI_clamp (by omega)]; exact e40 i (by omega)
        have hcl : ∀ {x : Nat} {Q' : pw_R → Prop}, x < d → Q' (.inl (some (.int (liF gd to (kM gd to) x (kC gd to)))), σ') → WP g mX5_classOf 0 [(0, .ref (pw_ad g 29)), (1, .int (nI x))] [] 0 σ' Q' := fun hx q => m_classOf hD' ok hC' (by omega) (fun k hk => (kf2 k hk).1) hx q
        have good : sg i = sgn (gd (kM gd to i)) → WP g mX5_same 100 [(0, .ref (pw_ad g 29)), (1, .int 1), (2, .int (nI i)), (3, .int 0)] [] 0 σ' Q := by
          intro hsg
          have step : ∀ l : Nat, l < 2 → (ar (2 * i + l) = liF gd to (kM gd to) (to (2 * kM gd to i + l)) (kC gd to) → WP g mX5_same 100 [(0, .ref (pw_ad g 29)), (1, .int 1), (2, .int (nI i)), (3, .int (nI (l + 1)))] [] 0 σ' Q) → (¬ ar (2 * i + l) = liF gd to (kM gd to) (to (2 * kM gd to i + l)) (kC gd to) → ¬ SameP n sg ar gd to) → WP g mX5_same 100 [(0, .ref (pw_ad g 29)), (1, .int 1), (2, .int (nI i)), (3, .int (nI l))] [] 0 σ' Q := by
            intro l hl2 kt kf
            have ea : (2 : Int32) * nI i + nI l = nI (2 * i + l) := by rw [ww_2, pk_mul, nI_add]
            have eb : (2 : Int32) * nI (kM gd to i) + nI l = nI (2 * kM gd to i + l) := by rw [ww_2, pk_mul, nI_add]
            refine bX5_same_100 (fun a => absurd a (nI_ge (b := 2) (by omega) (by decide))) (fun _ a => absurd a (by decide)) (fun _ _ => by rw [ea]; exact vp_in_nI (by omega) (by decide)) (fun _ _ => vp_in_nI (by omega) (by decide)) (fun _ _ => by rw [e43, eb]; exact vp_in_nI (by omega) (by decide)) (fun _ _ => ?_)
            rw [e43, eb, ea, nI_clamp (by omega), nI_clamp (by omega), hD'.2 _ (by omega), e39 _ (by omega)]
            refine hcl (ok.2.2 _ (by omega)) (bX5_same_138 (fun z => ?_) (fun z => ?_))
            · rw [show nI l + 1 = nI (l + 1) from nI_1 l]
              exact stop2 _ (kf z) (1 - l) (l + 1) (by omega)
            · rw [show nI l + 1 = nI (l + 1) from nI_1 l]
              exact kt z
          have s0 := step 0 (by decide)
          simp only [Nat.add_zero] at s0
          refine s0 (fun z0 => ?_) (fun z0 q => z0 (q.2 i hic).2.1)
          refine step 1 (by decide) (fun z1 => ?_) (fun z1 q => z1 (q.2 i hic).2.2)
          refine bX5_same_100 (fun _ => ?_) (fun a => absurd (by decide) a) (fun a => absurd (by decide) a) (fun a => absurd (by decide) a) (fun a => absurd (by decide) a) (fun a => absurd (by decide) a)
          rw [show nI i + 1 = nI (i + 1) from nI_1 i]
          refine wp_sub [0, 1, 2] rfl (ih (i + 1) (by omega) (fun j hj9 => ?_))
          by_cases q : j = i
          · subst q; exact ⟨hsg, z0, z1⟩
          · exact hj j (by omega)
        refine bX5_same_52 (fun a => absurd a hge) (fun a => absurd a hge) (fun _ a => absurd a (by decide)) (fun _ a => absurd a (by decide)) (fun _ _ => vp_in_nI (by omega) (by decide)) (fun _ _ => vp_in_nI (by omega) (by decide)) (fun _ _ => by rw [e43]; exact vp_in_nI (by omega) (by decide)) (fun _ _ z y => ?_) (fun _ _ z y => ?_) (fun _ _ z y => ?_) (fun _ _ z y => ?_)
        all_goals
          rw [e43, e41] at z
          rw [es] at y
        · cases hg : gd (kM gd to i) with
          | true => rw [hg] at z; exact absurd z (by decide)
          | false => exact stop2 _ (fun q => y (by rw [(q.2 i hic).1, hg]; rfl)) 2 0 rfl
        · cases hg : gd (kM gd to i) with
          | true => rw [hg] at z; exact absurd z (by decide)
          | false => exact good (by rw [y, hg]; rfl)
        · cases hg : gd (kM gd to i) with
          | false => rw [hg] at z; exact absurd rfl z
          | true => exact stop2 _ (fun q => y (by rw [(q.2 i hic).1, hg]; rfl)) 2 0 rfl
        · cases hg : gd (kM gd to i) with
          | false => rw [hg] at z; exact absurd rfl z
          | true => exact good (by rw [y, hg]; rfl)
    refine bX5_same_33 (fun z => ?_) (fun z => ?_)
    · rw [e20, e14] at z
      exact stop _ (fun q => z (by rw [q.1]))
    · rw [e20, e14] at z
      exact loop ((nI_eq (by omega) (by omega)).mp z).symm n 0 (by omega) (fun j hj => absurd hj (by omega))
end HDD
