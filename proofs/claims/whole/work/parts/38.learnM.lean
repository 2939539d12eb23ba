/-! learn in the reference -/
def RI (S : Nat → Int32) (σ : pw_Mem) (A : aA) (β : Nat → Nat) : Prop := mN S σ ∧ mB S σ A.1 β ∧ (σ 29 9 = nI A.2.1 ∧ ∀ k, k < A.2.1 → σ 37 k = nI (A.2.2.1 k - 1) ∧ σ 38 k = nI (A.2.2.2 k - 1)) ∧ AI S A ∧ Sep A
theorem ix_half {u : Nat} (h : 2 ≤ u) (h2 : u < 2 ^ 31) : (nI (u - 1) - (1 : Int32)) / (2 : Int32) = nI (u / 2 - 1) := by
  rw [ww_1, pk_sub (by omega), ww_2, pk_div (by omega) (by omega) (by omega)]
  congr 1
  omega
theorem ix_rem {u : Nat} (h : 2 ≤ u) (h2 : u < 2 ^ 31) : (nI (u - 1) - (1 : Int32)) - (nI (u - 1) - (1 : Int32)) / (2 : Int32) * (2 : Int32) = nI (u % 2) := by
  rw [ww_1, pk_sub (by omega), ww_2, pk_rem (by omega) (by omega) (by omega)]
  congr 1
  omega
theorem ix_next {u : Nat} (h : 1 ≤ u) : nI (u - 1) + 1 = nI u := by
  rw [nI_1]
  congr 1
  omega
theorem Blue_lt {S : Nat → Int32} {A : aA} (h : AI S A) {c m : Nat} (hb : BlueAt S A c m) : 1 ≤ m ∧ m < 512 := by
  obtain ⟨b1, b2, b3, k, b4, b5, b6⟩ := hb
  have h1 := (h.2.2.2.2.1 k b4).2.1
  have h2 := h.2.2.2.2.2.2.2.2 k c b4 b1 b2 b3 b5
  have h3 : Nat.log2 c < 9 := ww_log_lt (Nn_lt S b1).1 (Nn_lt S b1).2
  have h4 : Nat.log2 m = Nat.log2 (A.2.2.2 k) + 1 := by rw [b6]; exact lg2 h1 (by omega)
  exact ⟨by omega, (Nat.log2_lt (by omega)).mp (show Nat.log2 m < 9 by omega)⟩
section HLM
variable {g : pw_G} {σ : pw_Mem} {Q : pw_R → Prop} {S : Nat → Int32} {A : aA} {β : Nat → Nat} {cnt : Int32}
theorem RI.fr {σ2 : pw_Mem} {l f : List Nat} (h : RI S σ A β) (hf : mfr l f σ σ2) (h1 : 31 ∉ l) (h2 : 32 ∉ l) (h3 : 33 ∉ l) (h4 : 37 ∉ l) (h5 : 38 ∉ l) (h6 : 9 ∉ f) : RI S σ2 A β := by
  obtain ⟨a1, a2, a3, a4, a5⟩ := h
  refine ⟨a1.fr hf h1, ?_, ?_, a4, a5⟩
  · unfold mB
    rw [hf.1 32 (by decide) h2, hf.1 33 (by decide) h3]; exact a2
  · rw [hf.2 9 h6, hf.1 37 (by decide) h4, hf.1 38 (by decide) h5]; exact a3
theorem RI.n (h : RI S σ A β) : A.2.1 ≤ 511 := AI_n S h.2.2.2.1 h.2.2.2.2
theorem m_redOf {w : Nat} (h : RI S σ A β) (hw : Nn S w) (k1 : ∀ k, k < A.2.1 → A.1 w (A.2.2.1 k) → Q (.inl (some (.int (nI k))), σ)) (k0 : ¬ isR A w → Q (.inl (some (.int (-1))), σ)) : WP g mX5_redOf 0 [(0, .ref (pw_ad g 29)), (1, .int (nI (w - 1)))] [] 0 σ Q := by
  have hn := h.n
  obtain ⟨a1, ⟨b1, b2, _⟩, ⟨e9, er⟩, a4, a5⟩ := h
  have lw := Nn_lt S hw
  have cw : (nI (w - 1)).toNatClampNeg = w - 1 := nI_clamp (by omega)
  have loop : ∀ n i, i + n = A.2.1 → ∀ x : Int32, ((x = -1 ∧ ∀ k, k < i → ¬ A.1 w (A.2.2.1 k)) ∨ ∃ k, k < i ∧ A.1 w (A.2.2.1 k) ∧ x = nI k) → WP g mX5_redOf 4 [(0, .ref (pw_ad g 29)), (1, .int (nI (w - 1))), (2, .int x), (3, .int (nI i))] [] 0 σ Q := by
    intro n
    induction n with
    | zero =>
      intro i hi x hx
      have hle : σ 29 9 ≤ nI i := by rw [e9]; exact nI_le (by omega) (by omega)
      refine bX5_redOf_4 (fun _ => ?_) (fun z => absurd hle z) (fun z => absurd hle z) (fun z => absurd hle z) (fun z => absurd hle z) (fun z => absurd hle z)
      rcases hx with ⟨rfl, q⟩ | ⟨k, q1, q2, rfl⟩
      · exact k0 (fun ⟨k, hk, e⟩ => q k (by omega) e)
      · exact k1 k (by omega) q2
    | succ n ih =>
      intro i hi x hx
      have hge : ¬ σ 29 9 ≤ nI i := by rw [e9]; exact nI_ge (by omega) (by omega)
      have hi' : i < A.2.1 := by omega
      have lr := Nn_lt S (a4.2.2.2.2.1 i hi').1
      have e37 : σ 37 (nI i).toNatClampNeg = nI (A.2.2.1 i - 1) := by rw [nI_clamp (by omega)]; exact (er i hi').1
      obtain ⟨c1, d1⟩ := b1 (A.2.2.1 i - 1) (by omega)
      obtain ⟨c2, d2⟩ := b1 (w - 1) (by omega)
      have key : (σ 32 (σ 37 (nI i).toNatClampNeg).toNatClampNeg = σ 32 (nI (w - 1)).toNatClampNeg) ↔ A.1 w (A.2.2.1 i) := by
        rw [e37, nI_clamp (by omega), cw, c1, c2, nI_eq (by omega) (by omega), b2 w _ hw (a4.2.2.2.2.1 i hi').1]
        exact ⟨Eq.symm, Eq.symm⟩
      refine bX5_redOf_4 (fun z => absurd z hge) (fun _ => vp_in_nI (by omega) (by decide)) (fun _ => by rw [e37]; exact vp_in_nI (by omega) (by decide)) (fun _ => vp_in_nI (by omega) (by decide)) (fun _ z => ?_) (fun _ z => ?_)
      · rw [show nI i + 1 = nI (i + 1) from nI_1 i]
        refine ih (i + 1) (by omega) x ?_
        rcases hx with ⟨q0, q⟩ | ⟨k, q1, q2, q3⟩
        · refine Or.inl ⟨q0, fun k hk => ?_⟩
          by_cases y : k = i
          · rw [y]; exact fun e => z (key.mpr e)
          · exact q k (by omega)
        · exact Or.inr ⟨k, by omega, q2, q3⟩
      · rw [show nI i + 1 = nI (i + 1) from nI_1 i]
        exact ih (i + 1) (by omega) _ (Or.inr ⟨i, by omega, key.mp z, rfl⟩)
  exact bX5_redOf_0 (loop A.2.1 0 (by omega) _ (Or.inl ⟨rfl, fun k hk => by omega⟩))
theorem m_findBlue (h : RI S σ A β) (k0 : (∀ c m, ¬ BlueAt S A c m) → ∀ σ', mfr [] [12, 13] σ σ' → Q (.inl (some (.int 0)), σ')) (k1 : ∀ c m, BlueAt S A c m → (∀ c' m', BlueAt S A c' m' → m ≤ m') → (∀ c', BlueAt S A c' m → c ≤ c') → ∀ σ', mfr [] [12, 13] σ σ' → σ' 29 12 = nI (c - 1) → σ' 29 13 = nI (m - 1) → Q (.inl (some (.int 1)), σ')) : WP g mX5_findBlue 0 [(0, .ref (pw_ad g 29))] [] 0 σ Q := by
  have ai := h.2.2.2.1
  have hn := h.n
  have loop : ∀ n u, u + n = 512 → 2 ≤ u → ∀ σ1, mfr [] [12, 13] σ σ1 → ((σ1 29 13 = nI 2000 ∧ ∀ c m, c < u → ¬ BlueAt S A c m) ∨ ∃ c m, c < u ∧ BlueAt S A c m ∧ (∀ c' m', c' < u → BlueAt S A c' m' → m ≤ m') ∧ (∀ c', BlueAt S A c' m → c ≤ c') ∧ σ1 29 12 = nI (c - 1) ∧ σ1 29 13 = nI (m - 1)) → WP g mX5_findBlue 9 [(0, .ref (pw_ad g 29)), (1, .int (nI (u - 1)))] [] 0 σ1 Q := by
    intro n
    induction n with
    | zero =>
      intro u hu u2 σ1 f1 hI
      have hu : u = 512 := by omega
      subst hu
      refine bX5_findBlue_9 (fun _ z => ?_) (fun _ z => ?_) (fun z => absurd (by decide) z) (fun z => absurd (by decide) z) (fun z => absurd (by decide) z)
      · rcases hI with ⟨e, q⟩ | ⟨c, m, c1, c2, c3, c4, c5, c6⟩
        · exact k0 (fun c m b => q c m (Nn_lt S b.1).2 b) σ1 f1
        · have := Blue_lt ai c2
          rw [c6] at z
          exact absurd z (nI_ge (b := 2000) (by omega) (by decide))
      · rcases hI with ⟨e, q⟩ | ⟨c, m, c1, c2, c3, c4, c5, c6⟩
        · rw [e] at z; exact absurd (by decide) z
        · exact k1 c m c2 (fun c' m' b => c3 c' m' (Nn_lt S b.1).2 b) c4 σ1 f1 c5 c6
    | succ n ih =>
      intro u hu u2 σ1 f1 hI
      have h1 := h.fr f1 (by decide) (by decide) (by decide) (by decide) (by decide) (by decide)
      have cu : (nI (u - 1)).toNatClampNeg = u - 1 := nI_clamp (by omega)
      have en := ix_next (u := u) (by omega)
      -- u isn't blue
      have no : (∀ m, ¬ BlueAt S A u m) → ∀ y : List (Nat × Value), WP g mX5_findBlue 9 ([(0, .ref (pw_ad g 29)), (1, .int (nI (u - 1) + 1))] ++ y) [] 0 σ1 Q := fun hb y => by
        rw [en]
        refine wp_sub [0, 1] rfl (ih (u + 1) (by omega) (by omega) σ1 f1 ?_)
        rcases hI with ⟨e, q⟩ | ⟨c, m, c1, c2, c3, c4, c5, c6⟩
        · refine Or.inl ⟨e, fun c m hc => ?_⟩
          by_cases z : c = u
          · rw [z]; exact hb m
          · exact q c m (by omega)
        · refine Or.inr ⟨c, m, by omega, c2, fun c' m' hc b => ?_, c4, c5, c6⟩
          by_cases z : c' = u
          · rw [z] at b; exact absurd b (hb m')
          · exact c3 c' m' (by omega) b
      refine bX5_findBlue_9 (fun z => absurd z (nI_ge (b := 511) (a := u - 1) (by omega) (by decide))) (fun z => absurd z (nI_ge (b := 511) (a := u - 1) (by omega) (by decide))) (fun _ => vp_in_nI (by omega) (by decide)) (fun _ z => ?_) (fun _ z => ?_)
      · rw [cu] at z
        have hu' : ¬ Nn S u := fun q => absurd ((h1.1 u (by omega) (by omega)).1 q ▸ z) (by decide)
        exact no (fun m b => hu' b.1) _
      · rw [cu] at z
        have hu' : Nn S u := Classical.byContradiction fun q => z ((h1.1 u (by omega) (by omega)).2 q)
        have nh := Nn_half S u2 hu'
        rw [ix_half u2 (by omega)]
        refine m_redOf h1 hu' (fun k hk e => ?_) (fun hr => ?_)
        · refine bX5_findBlue_36 (fun _ => no (fun m b => b.2.2.1 ⟨k, hk, e⟩) _) (fun y => absurd (nI_pos' (by omega)) y)
        · refine bX5_findBlue_36 (fun y => absurd y (by decide)) (fun _ => ?_)
          refine m_redOf h1 nh (fun k hk e => ?_) (fun hr2 => ?_)
          · have hm1 := (ai.2.2.2.2.1 k hk).2.1
            refine bX5_findBlue_44 (fun y => absurd y (nI_pos (by omega))) (fun _ => vp_in_nI (by omega) (by decide)) (fun _ => ?_)
            rw [ix_rem u2 (by omega), nI_clamp (by omega), (h1.2.2.1.2 k hk).2]
            refine m_followed (w := A.2.2.2 k) hm1 ?_
            have hbu : BlueAt S A u (2 * A.2.2.2 k + u % 2) := ⟨hu', u2, hr, k, hk, e, rfl⟩
            have only : ∀ m, BlueAt S A u m → m = 2 * A.2.2.2 k + u % 2 := fun m ⟨_, _, _, j, j1, j2, j3⟩ => by
              rw [j3, h.2.2.2.2 j k j1 hk (ai.1.2.2.1 _ _ _ (ai.1.2.1 _ _ j2) e)]
            have lm := Blue_lt ai hbu
            generalize hm : 2 * A.2.2.2 k + u % 2 = m at *
            have old : ∀ σ2, mfr [] [12, 13] σ σ2 → σ2 29 12 = σ1 29 12 → σ2 29 13 = σ1 29 13 → σ1 29 13 ≤ nI (m - 1) → ∀ y : List (Nat × Value), WP g mX5_findBlue 9 ([(0, .ref (pw_ad g 29)), (1, .int (nI (u - 1) + 1))] ++ y) [] 0 σ2 Q := fun σ2 f2 g1 g2 hle y => by
              rw [en]
              refine wp_sub [0, 1] rfl (ih (u + 1) (by omega) (by omega) σ2 f2 ?_)
              rcases hI with ⟨e, q⟩ | ⟨c, m', c1, c2, c3, c4, c5, c6⟩
              · rw [e] at hle
                exact absurd hle (nI_ge (by omega) (by decide))
              · have lm' := Blue_lt ai c2
                rw [c6] at hle
                have hle := (nI_leI (by omega) (by omega)).mp hle
                refine Or.inr ⟨c, m', by omega, c2, fun c' m2 hc b => ?_, c4, g1.trans c5, g2.trans c6⟩
                by_cases z : c' = u
                · rw [z] at b; rw [only m2 b]; omega
                · exact c3 c' m2 (by omega) b
            have new : ∀ σ2, mfr [] [12, 13] σ σ2 → σ2 29 12 = nI (u - 1) → σ2 29 13 = nI (m - 1) → ¬ σ1 29 13 ≤ nI (m - 1) → ∀ y : List (Nat × Value), WP g mX5_findBlue 9 ([(0, .ref (pw_ad g 29)), (1, .int (nI (u - 1) + 1))] ++ y) [] 0 σ2 Q := fun σ2 f2 g1 g2 hnle y => by
              rw [en]
              refine wp_sub [0, 1] rfl (ih (u + 1) (by omega) (by omega) σ2 f2 ?_)
              rcases hI with ⟨e, q⟩ | ⟨c, m', c1, c2, c3, c4, c5, c6⟩
              · refine Or.inr ⟨u, m, by omega, hbu, fun c' m2 hc b => ?_, fun c' b => ?_, g1, g2⟩
                · by_cases z : c' = u
                  · rw [z] at b; rw [only m2 b]; omega
                  · exact absurd b (q c' m2 (by omega))
                · rcases Nat.lt_or_ge c' u with z | z
                  · exact absurd b (q c' m z)
                  · exact z
              · have lm' := Blue_lt ai c2
                rw [c6] at hnle
                have hlt : m < m' := by
                  rcases Nat.lt_or_ge m m' with z | z
                  · exact z
                  · exact absurd (nI_le (by omega) (by omega)) hnle
                refine Or.inr ⟨u, m, by omega, hbu, fun c' m2 hc b => ?_, fun c' b => ?_, g1, g2⟩
                · by_cases z : c' = u
                  · rw [z] at b; rw [only m2 b]; omega
                  · have := c3 c' m2 (by omega) b
                    omega
                · rcases Nat.lt_or_ge c' u with z | z
                  · have := c3 c' m z b
                    omega
                  · exact z
            refine bX5_findBlue_67 (fun y _ => old _ ((f1.fld (by decide)).fld (by decide)) (by rw [ms_ne2 _ _ _ _ (by decide), ms_same]) (ms_same _ _ _ _) y _) (fun y y' => absurd y y') (fun y y' => absurd y' y) (fun y _ => new _ ((f1.fld (by decide)).fld (by decide)) (by rw [ms_ne2 _ _ _ _ (by decide), ms_same]) (ms_same _ _ _ _) y _)
          · exact bX5_findBlue_44 (fun _ => no (fun m b => by
              obtain ⟨_, _, _, j, j1, j2, _⟩ := b
              exact hr2 ⟨j, j1, j2⟩) _) (fun y => absurd (by decide) y) (fun y => absurd (by decide) y)
  refine bX5_findBlue_0 (loop 510 2 rfl (Nat.le_refl _) _ (mfr.rf.fld (by decide)) (Or.inl ⟨ms_same _ _ _ _, fun c m hc b => ?_⟩))
  have := b.2.1
  omega
def PP (S : Nat → Int32) (u x : Nat) : Prop := x = 1 ∨ ¬ S x = 0 ∨ ∃ c, u < c ∧ c / 2 = x ∧ Nn S c
theorem PP_self {x u : Nat} (h1 : 1 ≤ x) (h2 : x < 512) (hu : u ≤ x) : PP S u x ↔ Nn S x := by
  have key := Nd_iff S h1
  constructor
  · rintro (z | z | ⟨c, c1, c2, c3⟩)
    · exact Or.inl z
    · exact Or.inr (key.mpr (Or.inl ⟨h2, z⟩))
    · rw [← c2]; exact Nn_half S (by omega) c3
  · rintro (z | z)
    · exact Or.inl z
    · rcases key.mp z with y | y | y
      · exact Or.inr (Or.inl y.2)
      · exact Or.inr (Or.inr ⟨2 * x, by omega, by omega, Or.inr y⟩)
      · exact Or.inr (Or.inr ⟨2 * x + 1, by omega, by omega, Or.inr y⟩)
theorem m_begin (hS : mS σ S cnt) (q : ∀ σ' β, mfr [31, 32, 33, 37, 38] [9] σ σ' → RI S σ' A0 β → Q (.inl none, σ')) : WP g mX5_begin 0 [(0, .ref (pw_ad g 29))] [] 0 σ Q := by
  have third : ∀ n i, i + n = 511 → ∀ σ1, mfr [31, 32, 33, 37, 38] [9] σ σ1 → mN S σ1 → (∀ j, j < i → σ1 32 j = nI j ∧ σ1 33 j = S (j + 1)) → WP g mX5_begin 75 [(0, .ref (pw_ad g 29)), (1, .int (nI i))] [] 0 σ1 Q := by
    intro n
    induction n with
    | zero =>
      intro i hi σ1 f1 N1 e1
      have hi : i = 511 := by omega
      subst hi
      have v0 : vp_in (0 : Int32) 511 := vp_in_nI (n := 0) (by omega) (by decide)
      refine bX5_begin_75 (fun _ => v0) (fun _ => v0) (fun _ => ?_) (fun z => absurd (by decide) z) (fun z => absurd (by decide) z) (fun z => absurd (by decide) z) (fun z => absurd (by decide) z)
      have nv : ∀ v, Nn S v → v - 1 + 1 = v := fun v hv => by have := Nn_lt S hv; omega
      have e33 : ∀ v, Nn S v → σ1 33 (v - 1) = S v := fun v hv => by
        have := (e1 (v - 1) (by have := Nn_lt S hv; omega)).2
        rw [nv v hv] at this
        exact this
      refine q _ (fun j => j) (((f1.fld (by decide)).set (by decide) (by decide)).set (by decide) (by decide)) ⟨?_, ⟨fun j hj => ⟨?_, hj⟩, fun v w hv hw => ?_, fun v hv _ => ?_, fun v hv _ => ?_⟩, ⟨?_, fun k hk => ?_⟩, AI_0 S, fun j k hj hk _ => ?_⟩
      · exact N1.fr (l := [37, 38]) (f := [9]) (((mfr.rf.fld (by decide)).set (by decide) (by decide)).set (by decide) (by decide)) (by decide)
      · rw [ms_ne _ _ _ _ _ (by decide), ms_ne _ _ _ _ _ (by decide), ms_ne _ _ _ _ _ (by decide)]; exact (e1 j hj).1
      · have a := nv v hv
        have b := nv w hw
        show v = w ↔ v - 1 = w - 1
        omega
      · rw [ms_ne _ _ _ _ _ (by decide), ms_ne _ _ _ _ _ (by decide), ms_ne _ _ _ _ _ (by decide)]; exact e33 v hv
      · exact ⟨v, hv, rfl, by rw [ms_ne _ _ _ _ _ (by decide), ms_ne _ _ _ _ _ (by decide), ms_ne _ _ _ _ _ (by decide)]; exact (e33 v hv).symm⟩
      · rw [ms_ne _ _ _ _ _ (by decide), ms_ne _ _ _ _ _ (by decide), ms_same]; rfl
      · have hk : k = 0 := by have hk : k < 1 := hk; omega
        subst hk
        rw [ms_ne _ _ _ _ _ (show (37 : Nat) ≠ 38 by decide)]
        exact ⟨ms_same _ _ _ _, ms_same _ _ _ _⟩
      · have hj : j < 1 := hj
        have hk : k < 1 := hk
        omega
    | succ n ih =>
      intro i hi σ1 f1 N1 e1
      have hin : vp_in (nI i) 511 := vp_in_nI (by omega) (by decide)
      have hge : ¬ (511 : Int32) ≤ nI i := nI_ge (b := 511) (by omega) (by decide)
      refine bX5_begin_75 (fun z => absurd z hge) (fun z => absurd z hge) (fun z => absurd z hge) (fun _ => hin) (fun _ => hin) (fun _ => hin) (fun _ => ?_)
      rw [nI_clamp (by omega), show nI i + 1 = nI (i + 1) from nI_1 i]
      refine ih (i + 1) (by omega) _ ((f1.set (by decide) (by decide)).set (by decide) (by decide)) (N1.fr (l := [32, 33]) (f := []) ((mfr.rf.set (by decide) (by decide)).set (by decide) (by decide)) (by decide)) (fun j hj => ?_)
      rw [ms_ne _ _ _ _ _ (show (32 : Nat) ≠ 33 by decide), ms_eq, ms_eq, ms_ne _ _ _ _ _ (show (33 : Nat) ≠ 32 by decide)]
      by_cases z : j = i
      · rw [if_pos z, if_pos z, z]
        refine ⟨rfl, ?_⟩
        rw [f1.1 30 (by decide) (by decide)]
        have := hS.1 (i + 1) (by omega) (by omega)
        exact this
      · rw [if_neg z, if_neg z]; exact e1 j (by omega)
  have second : ∀ n u, u = n + 1 → u ≤ 511 → ∀ σ1, mfr [31, 32, 33, 37, 38] [9] σ σ1 → (∀ x, 1 ≤ x → x < 512 → (PP S u x → σ1 31 (x - 1) = 1) ∧ (¬ PP S u x → σ1 31 (x - 1) = 0)) → WP g mX5_begin 43 [(0, .ref (pw_ad g 29)), (1, .int (nI (u - 1)))] [] 0 σ1 Q := by
    intro n
    induction n with
    | zero =>
      intro u hu _ σ1 f1 e1
      subst hu
      refine bX5_begin_43 (fun _ => ?_) (fun z => absurd (by decide) z) (fun z => absurd (by decide) z) (fun z => absurd (by decide) z) (fun z => absurd (by decide) z)
      refine third 511 0 rfl σ1 f1 (fun x h1 h2 => ?_) (fun j hj => by omega)
      have := PP_self (S := S) (u := 0 + 1) h1 h2 h1
      exact ⟨fun z => (e1 x h1 h2).1 (this.mpr z), fun z => (e1 x h1 h2).2 (fun y => z (this.mp y))⟩
    | succ n ih =>
      intro u hu hu5 σ1 f1 e1
      have hin : vp_in (nI (u - 1)) 511 := vp_in_nI (by omega) (by decide)
      have hpos : ¬ nI (u - 1) ≤ 0 := nI_nle (by omega) (by omega)
      have cu : (nI (u - 1)).toNatClampNeg = u - 1 := nI_clamp (by omega)
      have em : nI (u - 1) + (-1) = nI (u - 1 - 1) := by
        have := pk_m1 (u - 1 - 1)
        rw [show u - 1 - 1 + 1 = u - 1 by omega] at this
        exact this
      have self := PP_self (S := S) (x := u) (u := u) (by omega) (by omega) (Nat.le_refl _)
      have step : ∀ x, PP S (u - 1) x ↔ PP S u x ∨ (u / 2 = x ∧ Nn S u) := fun x => by
        constructor
        · rintro (z | z | ⟨c, c1, c2, c3⟩)
          · exact Or.inl (Or.inl z)
          · exact Or.inl (Or.inr (Or.inl z))
          · by_cases y : c = u
            · subst y; exact Or.inr ⟨c2, c3⟩
            · exact Or.inl (Or.inr (Or.inr ⟨c, by omega, c2, c3⟩))
        · rintro ((z | z | ⟨c, c1, c2, c3⟩) | ⟨z1, z2⟩)
          · exact Or.inl z
          · exact Or.inr (Or.inl z)
          · exact Or.inr (Or.inr ⟨c, by omega, c2, c3⟩)
          · exact Or.inr (Or.inr ⟨u, by omega, z1, z2⟩)
      refine bX5_begin_43 (fun z => absurd z hpos) (fun _ => hin) (fun _ z => ?_) (fun _ _ => ?_) (fun _ z => ?_)
      · rw [cu] at z
        have hn : ¬ Nn S u := fun y => absurd ((e1 u (by omega) (by omega)).1 (self.mpr y) ▸ z) (by decide)
        rw [em]
        refine ih (u - 1) (by omega) (by omega) σ1 f1 (fun x h1 h2 => ⟨fun y => (e1 x h1 h2).1 ?_, fun y => (e1 x h1 h2).2 (fun w => y ((step x).mpr (Or.inl w)))⟩)
        rcases (step x).mp y with w | w
        · exact w
        · exact absurd w.2 hn
      · rw [ix_half (by omega) (by omega)]; exact vp_in_nI (by omega) (by decide)
      · rw [cu] at z
        have hn : Nn S u := Classical.byContradiction fun y => z ((e1 u (by omega) (by omega)).2 (fun w => y (self.mp w)))
        rw [em, ix_half (by omega) (by omega), nI_clamp (by omega)]
        refine ih (u - 1) (by omega) (by omega) _ (f1.set (by decide) (by decide)) (fun x h1 h2 => ?_)
        rw [ms_eq]
        by_cases y : x - 1 = u / 2 - 1
        · rw [if_pos y]
          exact ⟨fun _ => rfl, fun w => absurd ((step x).mpr (Or.inr ⟨by omega, hn⟩)) w⟩
        · rw [if_neg y]
          refine ⟨fun w => (e1 x h1 h2).1 ?_, fun w => (e1 x h1 h2).2 (fun t => w ((step x).mpr (Or.inl t)))⟩
          rcases (step x).mp w with t | t
          · exact t
          · omega
  have first : ∀ n i, i + n = 511 → ∀ σ1, mfr [31, 32, 33, 37, 38] [9] σ σ1 → (∀ x, 1 ≤ x → x ≤ i → (PP S 511 x → σ1 31 (x - 1) = 1) ∧ (¬ PP S 511 x → σ1 31 (x - 1) = 0)) → WP g mX5_begin 2 [(0, .ref (pw_ad g 29)), (1, .int (nI i))] [] 0 σ1 Q := by
    intro n
    have p5 : ∀ x, PP S 511 x ↔ x = 1 ∨ ¬ S x = 0 := fun x => by
      constructor
      · rintro (z | z | ⟨c, c1, c2, c3⟩)
        · exact Or.inl z
        · exact Or.inr z
        · have := Nn_lt S c3; omega
      · rintro (z | z)
        · exact Or.inl z
        · exact Or.inr (Or.inl z)
    induction n with
    | zero =>
      intro i hi σ1 f1 e1
      have hi : i = 511 := by omega
      subst hi
      exact bX5_begin_2 (fun _ => second 510 511 rfl (Nat.le_refl _) σ1 f1 (fun x h1 h2 => e1 x h1 (by omega))) (fun z => absurd (by decide) z) (fun z => absurd (by decide) z) (fun z => absurd (by decide) z) (fun z => absurd (by decide) z) (fun z => absurd (by decide) z) (fun z => absurd (by decide) z) (fun z => absurd (by decide) z)
    | succ n ih =>
      intro i hi σ1 f1 e1
      have hin : vp_in (nI i) 511 := vp_in_nI (by omega) (by decide)
      have hge : ¬ (511 : Int32) ≤ nI i := nI_ge (b := 511) (by omega) (by decide)
      have ci : (nI i).toNatClampNeg = i := nI_clamp (by omega)
      have e30 : σ1 30 i = S (i + 1) := by
        rw [f1.1 30 (by decide) (by decide)]
        exact hS.1 (i + 1) (by omega) (by omega)
      have go : ∀ (y : Int32), (PP S 511 (i + 1) → y = 1) → (¬ PP S 511 (i + 1) → y = 0) → WP g mX5_begin 2 [(0, .ref (pw_ad g 29)), (1, .int (nI i + 1))] [] 0 (pw_set σ1 31 i y) Q := fun y y1 y0 => by
        rw [show nI i + 1 = nI (i + 1) from nI_1 i]
        refine ih (i + 1) (by omega) _ (f1.set (by decide) (by decide)) (fun x h1 h2 => ?_)
        rw [ms_eq]
        by_cases z : x - 1 = i
        · rw [if_pos z, show x = i + 1 by omega]; exact ⟨y1, y0⟩
        · rw [if_neg z]; exact e1 x h1 (by omega)
      have gg := @bX5_begin_2 g σ1 Q (nI i)
      rw [ci, e30] at gg
      refine gg (fun z => absurd z hge) (fun _ _ => hin) (fun _ z => go 1 (fun _ => rfl) (fun w => absurd ((p5 _).mpr (Or.inl ?_)) w)) (fun _ _ => hin) (fun _ _ _ => hin) (fun _ z1 z2 => go 0 (fun w => ?_) (fun _ => rfl)) (fun _ _ _ => hin) (fun _ _ z => go 1 (fun _ => rfl) (fun w => absurd ((p5 _).mpr (Or.inr z)) w))
      · have := (nI_z (by omega)).mp z
        omega
      · rcases (p5 _).mp w with t | t
        · exact absurd ((nI_z (by omega)).mpr (show i = 0 by omega)) z1
        · exact absurd z2 t
  exact bX5_begin_0 (first 511 0 rfl σ mfr.rf (fun x h1 h2 => by omega))
end HLM
