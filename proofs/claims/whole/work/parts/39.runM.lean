/-! learn in the reference: the rounds, what is written -/
section HNM
variable {g : pw_G} {σ : pw_Mem} {Q : pw_R → Prop} {S : Nat → Int32} {cnt : Int32}
def lmr : List Nat := [31, 32, 33, 34, 35, 36, 37, 38, 39, 40]
def lmf : List Nat := [0, 9, 12, 13, 14, 24, 25]
/-- what was learned is written -/
theorem m_write {A : aA} {β : Nat → Nat} {σ0 : pw_Mem} (h : RI S σ A β) (nob : ∀ c m, ¬ BlueAt S A c m) (f0 : mfr lmr lmf σ0 σ) (hz : σ 29 0 = 0)
    (q : ∀ σ' sg ar, mfr lmr lmf σ0 σ' → σ' 29 0 = 0 → FA S A sg ar → mL σ' A.2.1 sg ar → Q (.inl (some (.int (nI A.2.1))), σ')) : WP g mX5_learn 110 [(0, .ref (pw_ad g 29)), (1, .int (0 : Int32))] [] 0 (pw_set σ 29 14 (σ 29 9)) Q := by
  have hn := h.n
  have ai := h.2.2.2.1
  have sep := h.2.2.2.2
  obtain ⟨i1, i2, i3, i4, i5, i6, i7, i8, i9⟩ := id ai
  have red : ∀ v, Nn S v → isR A v := fun v hv => Classical.byContradiction fun z => by
    obtain ⟨c, m, b, _⟩ := AI_anc S ai v v (Nat.le_refl _) hv z
    exact nob c m b
  have arrows : ∀ n u, u + n = 512 → 2 ≤ u → ∀ σ1, mfr lmr lmf σ0 σ1 → σ1 29 0 = 0 → σ1 29 14 = nI A.2.1 → RI S σ1 A β → (∀ k, k < A.2.1 → σ1 40 k = σ 33 (β (A.2.2.1 k - 1))) → (∀ k l, k < A.2.1 → l < 2 → (∃ c j, 2 ≤ c ∧ c < u ∧ Nn S c ∧ A.1 (c / 2) (A.2.2.1 k) ∧ c % 2 = l ∧ j < A.2.1 ∧ A.1 c (A.2.2.1 j) ∧ σ1 39 (2 * k + l) = nI j) ∨ ((∀ c, 2 ≤ c → c < u → Nn S c → A.1 (c / 2) (A.2.2.1 k) → c % 2 ≠ l) ∧ σ1 39 (2 * k + l) = -1)) → WP g mX5_learn 168 [(0, .ref (pw_ad g 29)), (1, .int (nI (u - 1)))] [] 0 σ1 Q := by
    intro n
    induction n with
    | zero =>
      intro u hu u2 σ1 f1 z1 e14 h1 e40 e39
      have hu : u = 512 := by omega
      subst hu
      refine bX5_learn_168 (fun _ => ?_) (fun z => absurd (by decide) z) (fun z => absurd (by decide) z) (fun z => absurd (by decide) z)
      rw [e14]
      refine q σ1 (σ1 40) (σ1 39) f1 z1 ⟨fun k hk => ⟨fun v hv e h0 => ?_, fun hall => ?_⟩, fun k l hk hl => ⟨fun v j v1 nv e hj ej => ?_, fun hno => ?_⟩⟩ ⟨e14, fun _ _ => rfl, fun _ _ => rfl⟩
      · rw [e40 k hk, ← (h.2.1.2.1 v _ hv (i5 k hk).1).mp e]; exact h.2.1.2.2.1 v hv h0
      · rw [e40 k hk]
        apply Classical.byContradiction
        intro z
        obtain ⟨w, w1, w2, w3⟩ := h.2.1.2.2.2 _ (i5 k hk).1 z
        exact z (by rw [← w3]; exact hall w w1 ((h.2.1.2.1 w _ w1 (i5 k hk).1).mpr w2))
      · have eh : (2 * v + l) / 2 = v := by omega
        have em : (2 * v + l) % 2 = l := by omega
        rcases e39 k l hk hl with ⟨c, j', c1, c2, c3, c4, c5, c6, c7, c8⟩ | ⟨c1, _⟩
        · rw [c8]
          have hc : A.1 c (2 * v + l) := i1.half S c1 (by omega) c3 nv (by omega) (by rw [eh]; exact i1.2.2.1 _ _ _ c4 (i1.2.1 _ _ e))
          rw [sep j' j c6 hj (i1.2.2.1 _ _ _ (i1.2.1 _ _ c7) (i1.2.2.1 _ _ _ hc ej))]
        · exact absurd em (c1 (2 * v + l) (by omega) (Nn_lt S nv).2 nv (by rw [eh]; exact e))
      · rcases e39 k l hk hl with ⟨c, j', c1, c2, c3, c4, c5, c6, c7, c8⟩ | ⟨_, c1⟩
        · exact absurd c4 (hno (c / 2) (by omega) (by rw [show 2 * (c / 2) + l = c by omega]; exact c3))
        · exact c1
    | succ n ih =>
      intro u hu u2 σ1 f1 z1 e14 h1 e40 e39
      have cu : (nI (u - 1)).toNatClampNeg = u - 1 := nI_clamp (by omega)
      have en := ix_next (u := u) (by omega)
      refine bX5_learn_168 (fun z => absurd z (nI_ge (a := u - 1) (b := 511) (by omega) (by decide))) (fun _ => vp_in_nI (by omega) (by decide)) (fun _ z => ?_) (fun _ z => ?_)
      · rw [cu] at z
        have hu' : ¬ Nn S u := fun y => absurd ((h1.1 u (by omega) (by omega)).1 y ▸ z) (by decide)
        rw [en]
        refine ih (u + 1) (by omega) (by omega) σ1 f1 z1 e14 h1 e40 (fun k l hk hl => ?_)
        rcases e39 k l hk hl with ⟨c, j', c1, c2, c3, c4, c5, c6, c7, c8⟩ | ⟨c1, c2⟩
        · exact Or.inl ⟨c, j', c1, by omega, c3, c4, c5, c6, c7, c8⟩
        · refine Or.inr ⟨fun c d1 d2 d3 => ?_, c2⟩
          by_cases y : c = u
          · exact absurd (y ▸ d3) hu'
          · exact c1 c d1 (by omega) d3
      · rw [cu] at z
        have hu' : Nn S u := Classical.byContradiction fun y => z ((h1.1 u (by omega) (by omega)).2 y)
        have nh := Nn_half S u2 hu'
        rw [ix_half u2 (by omega)]
        refine m_redOf h1 nh (fun k hk e => bX5_learn_198 (m_redOf h1 hu' (fun j hj ej => bX5_learn_210 ?_ ?_) (fun y => absurd (red u hu') y))) (fun y => absurd (red _ nh) y)
        · rw [ix_rem u2 (by omega), ar2]; exact vp_in_nI (by omega) (by decide)
        · rw [ix_rem u2 (by omega), ar2, nI_clamp (by omega), en]
          refine ih (u + 1) (by omega) (by omega) _ (f1.set (by decide) (by decide)) (by rw [ms_ne _ _ _ _ _ (by decide)]; exact z1) (by rw [ms_ne _ _ _ _ _ (by decide)]; exact e14) (h1.fr (l := [39]) (f := []) (mfr.rf.set (by decide) (by decide)) (by decide) (by decide) (by decide) (by decide) (by decide) (by decide)) (fun k hk => by rw [ms_ne _ _ _ _ _ (by decide)]; exact e40 k hk) (fun k' l hk' hl => ?_)
          rw [ms_eq]
          by_cases y : 2 * k' + l = 2 * k + u % 2
          · have e1 : k' = k := by omega
            have e2 : l = u % 2 := by omega
            rw [if_pos y, e1, e2]
            exact Or.inl ⟨u, j, u2, by omega, hu', e, rfl, hj, ej, rfl⟩
          · rw [if_neg y]
            rcases e39 k' l hk' hl with ⟨c, j', c1, c2, c3, c4, c5, c6, c7, c8⟩ | ⟨c1, c2⟩
            · exact Or.inl ⟨c, j', c1, by omega, c3, c4, c5, c6, c7, c8⟩
            · refine Or.inr ⟨fun c d1 d2 d3 d4 d5 => ?_, c2⟩
              by_cases w : c = u
              · subst w
                have : k' = k := sep k' k hk' hk (i1.2.2.1 _ _ _ (i1.2.1 _ _ d4) e)
                omega
              · exact c1 c d1 (by omega) d3 d4 d5
  have signs : ∀ n i, i + n = A.2.1 → ∀ σ1, mfr lmr lmf σ0 σ1 → mfr [39, 40] [14] σ σ1 → σ1 29 14 = nI A.2.1 → RI S σ1 A β → (∀ k, k < i → σ1 40 k = σ 33 (β (A.2.2.1 k - 1))) → (∀ k l, k < i → l < 2 → σ1 39 (2 * k + l) = -1) → WP g mX5_learn 110 [(0, .ref (pw_ad g 29)), (1, .int (nI i))] [] 0 σ1 Q := by
    intro n
    induction n with
    | zero =>
      intro i hi σ1 f1 g1 e14 h1 e40 e39
      have hle : σ1 29 9 ≤ nI i := by rw [h1.2.2.1.1]; exact nI_le (by omega) (by omega)
      refine bX5_learn_110 (fun _ => ?_) (fun z => absurd hle z) (fun z => absurd hle z) (fun z => absurd hle z) (fun z => absurd hle z) (fun z => absurd hle z) (fun z => absurd hle z) (fun z => absurd hle z)
      exact arrows 510 2 rfl (Nat.le_refl _) σ1 f1 (by rw [g1.2 0 (by decide)]; exact hz) e14 h1 (fun k hk => e40 k (by omega)) (fun k l hk hl => Or.inr ⟨fun c c1 c2 => by omega, e39 k l (by omega) hl⟩)
    | succ n ih =>
      intro i hi σ1 f1 g1 e14 h1 e40 e39
      have hi' : i < A.2.1 := by omega
      have hge : ¬ σ1 29 9 ≤ nI i := by rw [h1.2.2.1.1]; exact nI_ge (by omega) (by omega)
      have lr := Nn_lt S (i5 i hi').1
      have vi : vp_in (nI i) 511 := vp_in_nI (by omega) (by decide)
      have e37 : σ1 37 (nI i).toNatClampNeg = nI (A.2.2.1 i - 1) := by rw [nI_clamp (by omega)]; exact (h1.2.2.1.2 i hi').1
      obtain ⟨c1, d1⟩ := h1.2.1.1 (A.2.2.1 i - 1) (by omega)
      have e32 : σ1 32 (σ1 37 (nI i).toNatClampNeg).toNatClampNeg = nI (β (A.2.2.1 i - 1)) := by rw [e37, nI_clamp (by omega)]; exact c1
      have j0 : (2 : Int32) * nI i = nI (2 * i) := ar0 i
      have j1 : (2 : Int32) * nI i + (1 : Int32) = nI (2 * i + 1) := by rw [j0, nI_1]
      refine bX5_learn_110 (fun z => absurd z hge) (fun _ => vi) (fun _ => by rw [e37]; exact vp_in_nI (by omega) (by decide)) (fun _ => by rw [e32]; exact vp_in_nI d1 (by decide)) (fun _ => vi) (fun _ => by rw [j0]; exact vp_in_nI (by omega) (by decide)) (fun _ => by rw [j1]; exact vp_in_nI (by omega) (by decide)) (fun _ => ?_)
      rw [e32, j1, j0, nI_clamp (n := i) (by omega), nI_clamp (n := β (A.2.2.1 i - 1)) (by omega), nI_clamp (n := 2 * i) (by omega), nI_clamp (n := 2 * i + 1) (by omega), g1.1 33 (by decide) (by decide), show nI i + 1 = nI (i + 1) from nI_1 i]
      refine ih (i + 1) (by omega) _ (((f1.set (by decide) (by decide)).set (by decide) (by decide)).set (by decide) (by decide)) (((g1.set (by decide) (by decide)).set (by decide) (by decide)).set (by decide) (by decide)) ?_ (h1.fr (l := [39, 40]) (f := []) (((mfr.rf.set (by decide) (by decide)).set (by decide) (by decide)).set (by decide) (by decide)) (by decide) (by decide) (by decide) (by decide) (by decide) (by decide)) (fun k hk => ?_) (fun k l hk hl => ?_)
      · rw [ms_ne _ _ _ _ _ (by decide), ms_ne _ _ _ _ _ (by decide), ms_ne _ _ _ _ _ (by decide)]; exact e14
      · rw [ms_ne _ _ _ _ _ (by decide), ms_ne _ _ _ _ _ (by decide), ms_eq]
        by_cases z : k = i
        · rw [if_pos z, z]
        · rw [if_neg z]; exact e40 k (by omega)
      · rw [ms_eq]
        by_cases z1 : 2 * k + l = 2 * i + 1
        · rw [if_pos z1]
        · rw [if_neg z1, ms_eq]
          by_cases z0 : 2 * k + l = 2 * i
          · rw [if_pos z0]
          · rw [if_neg z0, ms_ne _ _ _ _ _ (by decide)]; exact e39 k l (by omega) hl
  refine signs A.2.1 0 (by omega) _ (f0.fld (by decide)) (mfr.rf.fld (by decide)) ?_ (h.fr (l := []) (f := [14]) (mfr.rf.fld (by decide)) (by decide) (by decide) (by decide) (by decide) (by decide) (by decide)) (fun k hk => by omega) (fun k l hk => by omega)
  rw [ms_same]; exact h.2.2.1.1
theorem M_learn (ok : okS S) (hS : mS σ S cnt) (hs : ∀ i, i ≤ 512 → Sep (it S i)) (q : ∀ σ' sg ar, mfr lmr lmf σ σ' → σ' 29 0 = 0 → FA S (it S 512) sg ar → mL σ' (it S 512).2.1 sg ar → Q (.inl (some (.int (nI (it S 512).2.1))), σ')) : WP g mX5_learn 0 [(0, .ref (pw_ad g 29))] [] 0 σ Q := by
  have hend := it_end S hs
  have loop : ∀ n i, i + n = 512 → ∀ σ1 β, mfr lmr lmf σ σ1 → σ1 29 0 = 0 → RI S σ1 (it S i) β → WP g mX5_learn 9 [(0, .ref (pw_ad g 29))] [] 0 σ1 Q := by
    intro n
    induction n with
    | zero =>
      intro i hi σ1 β f1 z1 h
      have hi : i = 512 := by omega
      subst hi
      refine bX5_learn_9 (m_findBlue h (fun nob σ2 f2 => bX5_learn_13 (fun _ => ?_) (fun y => absurd rfl y)) (fun c m b => absurd b (hend c m)))
      exact m_write (h.fr f2 (by decide) (by decide) (by decide) (by decide) (by decide) (by decide)) nob (f1.tr (f2.mono (by decide) (by decide))) (by rw [f2.2 0 (by decide)]; exact z1) q
    | succ n ih =>
      intro i hi σ1 β f1 z1 h
      have ai := h.2.2.2.1
      have hn := h.n
      refine bX5_learn_9 (m_findBlue h (fun nob σ2 f2 => bX5_learn_13 (fun _ => ?_) (fun y => absurd rfl y)) (fun c m hb hmm hcc σ2 f2 e12 e13 => bX5_learn_13 (fun y => absurd y (by decide)) (fun _ => ?_)))
      · have e := it_fix' S (i := i) (n := 512) (by omega) nob
        rw [e] at q
        exact m_write (h.fr f2 (by decide) (by decide) (by decide) (by decide) (by decide) (by decide)) nob (f1.tr (f2.mono (by decide) (by decide))) (by rw [f2.2 0 (by decide)]; exact z1) q
      · rw [e12, e13]
        have lc := Nn_lt S hb.1
        have lm := Blue_lt ai hb
        have next : ∀ B σ3 β', NextR S (it S i) B → mfr lmr lmf σ σ3 → σ3 29 0 = 0 → RI S σ3 B β' → WP g mX5_learn 9 [(0, .ref (pw_ad g 29))] [] 0 σ3 Q := fun B σ3 β' hN f3 z3 h3 => by
          have e : it S (i + 1) = B := (it_s S i).trans (stp_next S hN)
          exact ih (i + 1) (by omega) σ3 β' f3 z3 (by rw [e]; exact h3)
        have sepB : ∀ B, NextR S (it S i) B → Sep B := fun B hN => by
          have e : it S (i + 1) = B := (it_s S i).trans (stp_next S hN)
          rw [← e]; exact hs (i + 1) (by omega)
        generalize it S i = A at *
        have inner : ∀ n k, k + n = A.2.1 → ∀ σ3, mfr lmr lmf σ σ3 → σ3 29 0 = 0 → RI S σ3 A β → (∀ j, j < k → ¬ Cons S (cl S A.1 (A.2.2.1 j) c)) → WP g mX5_learn 31 [(0, .ref (pw_ad g 29)), (1, .int (nI (c - 1))), (2, .int (nI (m - 1))), (3, .int 0), (4, .int (nI k))] [] 0 σ3 Q := by
          intro n
          induction n with
          | zero =>
            intro k hk σ3 f3 z3 h3 hno
            have e9 := h3.2.2.1.1
            have hle : σ3 29 9 ≤ nI k := by rw [e9]; exact nI_le (by omega) (by omega)
            have hN : NextR S A (A.1, A.2.1 + 1, upN A.2.2.1 A.2.1 c, upN A.2.2.2 A.2.1 m) := ⟨c, m, hb, hmm, hcc, Or.inr ⟨fun j hj => hno j (by omega), rfl⟩⟩
            have hsB := sepB _ hN
            have aiB := AI_next S ai hN hsB
            have hnB : A.2.1 + 1 ≤ 511 := AI_n S aiB hsB
            have v9 : vp_in (σ3 29 9) 511 := by rw [e9]; exact vp_in_nI (by omega) (by decide)
            refine bX5_learn_31 (fun _ y => absurd rfl y) (fun _ _ => v9) (fun _ _ => v9) (fun _ _ => ?_) (fun y => absurd hle y) (fun y => absurd hle y) (fun y => absurd hle y) (fun y => absurd hle y) (fun y => absurd hle y) (fun y => absurd hle y)
            rw [e9, nI_clamp (by omega), show nI A.2.1 + (1 : Int32) = nI (A.2.1 + 1) from nI_1 _]
            refine wp_sub [0] rfl (next _ _ β hN (((f3.set (by decide) (by decide)).set (by decide) (by decide)).fld (by decide)) ?_ ⟨?_, ?_, ⟨ms_same _ _ _ _, fun j hj => ?_⟩, aiB, hsB⟩)
            · rw [ms_ne2 _ _ _ _ (by decide), ms_ne _ _ _ _ _ (by decide), ms_ne _ _ _ _ _ (by decide)]; exact z3
            · exact h3.1.fr (l := [37, 38]) (f := [9]) (((mfr.rf.set (by decide) (by decide)).set (by decide) (by decide)).fld (by decide)) (by decide)
            · have := (h3.fr (l := []) (f := []) mfr.rf (by decide) (by decide) (by decide) (by decide) (by decide) (by decide)).2.1
              unfold mB at this ⊢
              rw [pw_set_ne _ _ _ _ (show (32 : Nat) ≠ 29 by decide), pw_set_ne _ _ _ _ (show (32 : Nat) ≠ 38 by decide), pw_set_ne _ _ _ _ (show (32 : Nat) ≠ 37 by decide), pw_set_ne _ _ _ _ (show (33 : Nat) ≠ 29 by decide), pw_set_ne _ _ _ _ (show (33 : Nat) ≠ 38 by decide), pw_set_ne _ _ _ _ (show (33 : Nat) ≠ 37 by decide)]
              exact this
            · have hj : j < A.2.1 + 1 := hj
              show _ = nI (upN A.2.2.1 A.2.1 c j - 1) ∧ _ = nI (upN A.2.2.2 A.2.1 m j - 1)
              rw [ms_ne _ _ _ _ _ (show (37 : Nat) ≠ 29 by decide), ms_ne _ _ _ _ _ (show (37 : Nat) ≠ 38 by decide), ms_eq, ms_ne _ _ _ _ _ (show (38 : Nat) ≠ 29 by decide), ms_eq, ms_ne _ _ _ _ _ (show (38 : Nat) ≠ 37 by decide), upN, upN]
              by_cases z : j = A.2.1
              · rw [if_pos z, if_pos z, if_pos z, if_pos z]; exact ⟨rfl, rfl⟩
              · rw [if_neg z, if_neg z, if_neg z, if_neg z]; exact h3.2.2.1.2 j (by omega)
          | succ n ihk =>
            intro k hk σ3 f3 z3 h3 hno
            have e9 := h3.2.2.1.1
            have hk' : k < A.2.1 := by omega
            have hge : ¬ σ3 29 9 ≤ nI k := by rw [e9]; exact nI_ge (by omega) (by omega)
            have nrk := (ai.2.2.2.2.1 k hk').1
            refine bX5_learn_31 (fun y => absurd y hge) (fun y => absurd y hge) (fun y => absurd y hge) (fun y => absurd y hge) (fun _ y => absurd rfl y) (fun _ y => absurd rfl y) (fun _ y => absurd rfl y) (fun _ y => absurd rfl y) (fun _ _ => vp_in_nI (by omega) (by decide)) (fun _ _ => ?_)
            rw [nI_clamp (by omega), (h3.2.2.1.2 k hk').1]
            refine m_merge ok h3.1 h3.2.1 nrk hb.1 (fun e => hb.2.2.1 ⟨k, hk', ai.1.2.1 _ _ e⟩) (fun σ4 β' f4 hB hcons => bX5_learn_56 ?_) (fun σ4 hnc f4 => bX5_learn_56 ?_)
            · have hN : NextR S A (cl S A.1 (A.2.2.1 k) c, A.2) := ⟨c, m, hb, hmm, hcc, Or.inl ⟨k, hk', hcons, hno, rfl⟩⟩
              have hsB := sepB _ hN
              have f34 : mfr lmr lmf σ σ4 := f3.tr (f4.mono (by decide) (by decide))
              have z4 : σ4 29 0 = 0 := by rw [f4.2 0 (by decide)]; exact z3
              have h4 : RI S σ4 (cl S A.1 (A.2.2.1 k) c, A.2) β' := ⟨h3.1.fr f4 (by decide), hB, by rw [f4.2 9 (by decide), f4.1 37 (by decide) (by decide), f4.1 38 (by decide) (by decide)]; exact h3.2.2.1, AI_next S ai hN hsB, hsB⟩
              have fin := next _ σ4 β' hN f34 z4 h4
              exact bX5_learn_31 (fun _ _ => wp_sub [0] rfl fin) (fun _ y => absurd y (by decide)) (fun _ y => absurd y (by decide)) (fun _ y => absurd y (by decide)) (fun _ _ _ => wp_sub [0] rfl fin) (fun _ y y' => absurd y' y) (fun _ y y' => absurd y' y) (fun _ y y' => absurd y' y) (fun _ y => absurd y (by decide)) (fun _ y => absurd y (by decide))
            · rw [show nI k + 1 = nI (k + 1) from nI_1 k]
              refine ihk (k + 1) (by omega) σ4 (f3.tr (f4.mono (by decide) (by decide))) (by rw [f4.2 0 (by decide)]; exact z3) (h3.fr f4 (by decide) (by decide) (by decide) (by decide) (by decide) (by decide)) (fun j hj => ?_)
              by_cases z : j = k
              · rw [z]; exact hnc
              · exact hno j (by omega)
        exact inner A.2.1 0 (by omega) σ2 (f1.tr (f2.mono (by decide) (by decide))) (by rw [f2.2 0 (by decide)]; exact z1) (h.fr f2 (by decide) (by decide) (by decide) (by decide) (by decide) (by decide)) (fun j hj => by omega)
  refine bX5_learn_0 (m_begin (S := S) (cnt := cnt) ⟨fun w h1 h2 => by rw [ms_ne _ _ _ _ _ (by decide)]; exact hS.1 w h1 h2, by rw [ms_ne2 _ _ _ _ (by decide)]; exact hS.2⟩ (fun σ1 β f1 h1 => ?_))
  exact loop 512 0 rfl σ1 β ((mfr.rf.fld (by decide)).tr (f1.mono (by decide) (by decide))) (by rw [f1.2 0 (by decide), ms_same]) h1
end HNM
