/-! learn in the class: the tree, the rounds, what is written *)-/
theorem m1_eq (i : Nat) : nI (i + 1) + (-1) = nI i := pk_m1 i
noncomputable def aT (S : Nat → Int32) (x : Nat) : Nat := @ite Nat (Nd S x) (Classical.propDecidable _) x 0
theorem aT_y {S : Nat → Int32} {x : Nat} (h : Nd S x) : aT S x = x := by rw [aT, if_pos h]
theorem aT_n {S : Nat → Int32} {x : Nat} (h : ¬ Nd S x) : aT S x = 0 := by rw [aT, if_neg h]
theorem ld_T (S : Nat → Int32) : ∀ n v, v ≤ n → Nn S v → ld (aT S) 1 v = v := by
  intro n
  induction n with
  | zero => intro v hv hn; have := (Nn_lt S hn).1; omega
  | succ n ih =>
    intro v hv hn
    have h1 := (Nn_lt S hn).1
    rcases Nat.lt_or_ge v 2 with q | q
    · rw [ld_1 _ _ (by omega)]; omega
    · rw [ld_2 _ _ q, ih (v / 2) (by omega) (Nn_half S q hn), show 2 * (v / 2) + v % 2 = v by omega]
      rcases hn with z | z
      · omega
      · exact aT_y z
section HRC
variable {g : pw_G} {σ : pw_Mem} {Q : pw_R → Prop} {S : Nat → Int32} {cnt : Int32}
theorem c_plantTree (hS : cS σ S cnt) (q : ∀ σ', fr lfr σ σ' → σ' 3 5 = 0 → (∀ i, i < 512 → σ' 8 i = -1) → (∀ x, 1 ≤ x → x < 512 → σ' 4 x = S x) → cA σ' (aT S) → Q (.inl none, σ')) : WP g mX2_plantTree 0 [(0, .ref (pw_ad g 3)), (1, .ref (pw_ad g 1))] [] 0 σ Q := by
  have loop : ∀ i, i ≤ 511 → ∀ σ1, fr lfr σ σ1 → σ1 3 5 = 0 → (∀ j, j < 512 → σ1 8 j = -1) → (∀ x, i < x → x < 512 → σ1 4 x = S x) → (∀ x, i < x → (Nd S x → σ1 5 x = nI x)) → (∀ x, x < 1024 → (x ≤ i ∨ ¬ Nd S x) → σ1 5 x = 0) → WP g mX2_plantTree 25 [(0, .ref (pw_ad g 3)), (1, .ref (pw_ad g 1)), (2, .int (nI i))] [] 0 σ1 Q := by
    intro i
    induction i with
    | zero =>
      intro _ σ1 f1 e3 e8 e4 e5 e50
      refine bX2_plantTree_25 (fun _ => q σ1 f1 e3 e8 (fun x h1 h2 => e4 x (by omega) h2) (fun x hx => ?_)) (fun z => absurd (by decide) z)
      by_cases z : Nd S x
      · have := Nd_lt S z
        rw [aT_y z]; exact ⟨e5 x (by have := z.1; omega) z, this⟩
      · rw [aT_n z]; exact ⟨(e50 x hx (Or.inr z)).trans nI_0.symm, by omega⟩
    | succ i ih =>
      intro hi σ1 f1 e3 e8 e4 e5 e50
      have hin5 : vp_in (nI (i + 1)) 512 := vp_in_nI (by omega) (by decide)
      have hin1 : vp_in (nI (i + 1)) 1024 := vp_in_nI (by omega) (by decide)
      have hc : (nI (i + 1)).toNatClampNeg = i + 1 := nI_clamp (by omega)
      have e2 : σ1 2 (i + 1) = S (i + 1) := by rw [f1.get (by decide)]; exact hS.1 _ (by omega) (by omega)
      refine bX2_plantTree_25 (fun z => absurd z (nI_nlt (b := 1) (by omega) (by omega))) (fun _ => bX3_markOf_0 hin5 ?_)
      rw [hc, e2]
      have ek : (pw_set σ1 4 (i + 1) (S (i + 1))) 4 (i + 1) = S (i + 1) := ms_same _ _ _ _
      have i0 : (2 : Int32) * nI (i + 1) = nI (2 * (i + 1)) := ar0 _
      have i1 : (2 : Int32) * nI (i + 1) + (1 : Int32) = nI (2 * (i + 1) + 1) := by rw [i0, nI_1]
      have c0 : (nI (2 * (i + 1))).toNatClampNeg = 2 * (i + 1) := nI_clamp (by omega)
      have c1 : (nI (2 * (i + 1) + 1)).toNatClampNeg = 2 * (i + 1) + 1 := nI_clamp (by omega)
      have ch : ∀ x, i + 1 < x → x < 1024 → (¬ σ1 5 x = 0 ↔ Nd S x) := fun x hx hx2 => by
        constructor
        · intro z
          exact Classical.byContradiction fun y => z (e50 x hx2 (Or.inr y))
        · intro z
          have := Nd_lt S z
          rw [e5 x hx z]
          exact nI_ne0 (by omega) (by omega)
      have yes : Nd S (i + 1) → ∀ y : Int32, WP g mX2_plantTree 25 [(0, .ref (pw_ad g 3)), (1, .ref (pw_ad g 1)), (2, .int (nI (i + 1) + (-1))), (3, .int y)] [] 0 (pw_set (pw_set σ1 4 (i + 1) (S (i + 1))) 5 (i + 1) (nI (i + 1))) Q := by
        intro hd y
        rw [m1_eq]
        refine wp_sub [0, 1, 2] rfl (ih (by omega) _ ((f1.set (by decide)).set (by decide)) ?_ (fun j hj => ?_) (fun x h1 h2 => ?_) (fun x h1 h2 => ?_) (fun x h1 h2 => ?_))
        · rw [ms_ne _ _ _ _ _ (by decide), ms_ne _ _ _ _ _ (by decide)]; exact e3
        · rw [ms_ne _ _ _ _ _ (by decide), ms_ne _ _ _ _ _ (by decide)]; exact e8 j hj
        · rw [ms_ne _ _ _ _ _ (by decide), ms_eq]
          by_cases z : x = i + 1
          · rw [if_pos z, z]
          · rw [if_neg z]; exact e4 x (by omega) h2
        · rw [ms_eq]
          by_cases z : x = i + 1
          · rw [if_pos z, z]
          · rw [if_neg z, ms_ne _ _ _ _ _ (by decide)]; exact e5 x (by omega) h2
        · rw [ms_eq]
          have z : ¬ x = i + 1 := by
            intro z
            rcases h2 with y | y
            · omega
            · exact y (by rw [z]; exact hd)
          rw [if_neg z, ms_ne _ _ _ _ _ (by decide)]
          exact e50 x h1 (h2.elim (fun y => Or.inl (by omega)) Or.inr)
      have no : ¬ Nd S (i + 1) → ∀ y : Int32, WP g mX2_plantTree 25 [(0, .ref (pw_ad g 3)), (1, .ref (pw_ad g 1)), (2, .int (nI (i + 1) + (-1))), (3, .int y)] [] 0 (pw_set (pw_set σ1 4 (i + 1) (S (i + 1))) 5 (i + 1) 0) Q := by
        intro hd y
        rw [m1_eq]
        refine wp_sub [0, 1, 2] rfl (ih (by omega) _ ((f1.set (by decide)).set (by decide)) ?_ (fun j hj => ?_) (fun x h1 h2 => ?_) (fun x h1 h2 => ?_) (fun x h1 h2 => ?_))
        · rw [ms_ne _ _ _ _ _ (by decide), ms_ne _ _ _ _ _ (by decide)]; exact e3
        · rw [ms_ne _ _ _ _ _ (by decide), ms_ne _ _ _ _ _ (by decide)]; exact e8 j hj
        · rw [ms_ne _ _ _ _ _ (by decide), ms_eq]
          by_cases z : x = i + 1
          · rw [if_pos z, z]
          · rw [if_neg z]; exact e4 x (by omega) h2
        · rw [ms_eq]
          have z : ¬ x = i + 1 := fun z => hd (by rw [← z]; exact h2)
          rw [if_neg z, ms_ne _ _ _ _ _ (by decide)]; exact e5 x (by omega) h2
        · rw [ms_eq]
          by_cases z : x = i + 1
          · rw [if_pos z]
          · rw [if_neg z, ms_ne _ _ _ _ _ (by decide)]
            exact e50 x h1 (h2.elim (fun y => Or.inl (by omega)) Or.inr)
      have key := Nd_iff S (w := i + 1) (by omega)
      have k0 := ch (2 * (i + 1)) (by omega) (by omega)
      have k1 := ch (2 * (i + 1) + 1) (by omega) (by omega)
      have v0 : vp_in (nI (2 * (i + 1))) 1024 := vp_in_nI (by omega) (by decide)
      have v1 : vp_in (nI (2 * (i + 1) + 1)) 1024 := vp_in_nI (by omega) (by decide)
      have g := @bX2_plantTree_40 g σ1 Q (nI (i + 1)) (S (i + 1)) (nI (i + 1))
      rw [i1, i0, hc, c0, c1, ek] at g
      exact g hin5 hin5 (fun _ => hin1) (fun z => yes (key.mpr (Or.inl ⟨by omega, z⟩)) _) (fun _ => v0) (fun _ _ => hin1) (fun _ z => yes (key.mpr (Or.inr (Or.inl (k0.mp z)))) _) (fun _ _ => v1) (fun _ _ _ => hin1) (fun z z0 z1 => no (fun y => by
        rcases key.mp y with w | w | w
        · exact w.2 z
        · exact k0.mpr w z0
        · exact k1.mpr w z1) _) (fun _ _ _ => hin1) (fun _ _ z => yes (key.mpr (Or.inr (Or.inr (k1.mp z)))) _)
  refine bX2_plantTree_0 (c_fill (k := 5) rfl (fun σ1 f1 x1 => bX2_plantTree_8 (c_fill (k := 8) rfl (fun σ2 f2 x2 => bX2_plantTree_16 ?_))))
  refine loop 511 (Nat.le_refl _) _ (((f1.mono (by decide)).tr (f2.mono (by decide))).set (by decide)) (ms_same _ _ _ _) (fun j hj => ?_) (fun x h1 h2 => by omega) (fun x h1 h2 => ?_) (fun x h1 _ => ?_)
  · rw [ms_ne _ _ _ _ _ (by decide)]; exact x2 j hj
  · have := Nd_lt S h2; omega
  · rw [ms_ne _ _ _ _ _ (by decide), f2.get (by decide)]; exact x1 x h1
theorem CI_start {σ1 : pw_Mem} (e3 : σ1 3 5 = nI 1) (e6 : σ1 6 0 = nI 1) (e7 : σ1 7 0 = nI 1) (e8 : σ1 8 1 = nI 0) (e8' : ∀ i, i < 512 → i ≠ 1 → σ1 8 i = -1) (e4 : ∀ x, 1 ≤ x → x < 512 → σ1 4 x = S x) (hA : cA σ1 (aT S)) : CI S σ1 A0 (aT S) := by
  have ld9 : ∀ v, Nn S v → ld (aT S) 1 v = v := fun v hv => ld_T S v v (Nat.le_refl _) hv
  have n1 : Nn S 1 := Or.inl rfl
  have l1 : ld (aT S) 1 1 = 1 := ld9 1 n1
  have rd : ∀ x, RdB (aT S) A0 x ↔ x = 1 := fun x => by
    constructor
    · rintro ⟨k, _, e⟩; exact e.symm.trans l1
    · intro e; exact ⟨0, Nat.lt_succ_self 0, by rw [e]; exact l1⟩
  have lv : ∀ x, Lv S (aT S) x → Nn S x := fun x ⟨v, hv, e⟩ => by rw [← e, ld9 v hv]; exact hv
  refine ⟨hA, ⟨fun v hv => by rw [ld9 v hv]; exact Nn_lt S hv, fun x l hl hx h0 => ?_, fun v hv _ => ?_, fun x hx h0 => ?_, fun v w hv hw => ?_, fun v w hv hw v2 w2 e _ => ?_, fun v hv v2 _ => ?_⟩, ⟨e3, fun k hk => ?_⟩, ⟨fun k hk => ?_, fun x hx hr => ?_, e8' 0 (by omega) (by omega)⟩, AI_0 S, ?_, fun j k hj hk _ => ?_⟩
  · have hn := lv x hx
    have h1 := (Nn_lt S hn).1
    have hd : Nd S (2 * x + l) := Classical.byContradiction fun z => h0 (aT_n z)
    exact ⟨x, h1, Or.inr hd, ld9 x hn⟩
  · rw [ld9 v hv]; exact e4 v (Nn_lt S hv).1 (Nn_lt S hv).2
  · have hn := lv x hx
    exact ⟨x, hn, ld9 x hn, (e4 x (Nn_lt S hn).1 (Nn_lt S hn).2).symm⟩
  · rw [ld9 v hv, ld9 w hw]; exact Iff.rfl
  · rw [ld9 v hv, ld9 w hw] at e
    subst e
    exact ⟨rfl, rfl⟩
  · rw [ld9 v hv, rd]; omega
  · have hk : k = 0 := by have hk : k < 1 := hk; omega
    subst hk
    show σ1 6 0 = nI (ld (aT S) 1 1) ∧ σ1 7 0 = nI 1
    rw [l1]
    exact ⟨e6, e7⟩
  · have hk : k = 0 := by have hk : k < 1 := hk; omega
    subst hk
    show σ1 8 (ld (aT S) 1 1) = nI 0
    rw [l1]
    exact e8
  · rw [rd] at hr
    exact e8' x (Nn_lt S (lv x hx)).2 hr
  · show 1 ≤ 511; omega
  · have hj : j < 1 := hj
    have hk : k < 1 := hk
    omega
theorem c_writeTo {A : aA} {a : Nat → Nat} (h : CI S σ A a) (q : ∀ σ', fr [13, 14, 15] σ σ' → σ' 13 2 = nI A.2.1 → (∀ k, k < A.2.1 → σ' 14 k = σ 4 (ld a 1 (A.2.2.1 k))) → (∀ k l, k < A.2.1 → l < 2 → σ' 15 (2 * k + l) = σ 8 (a (2 * ld a 1 (A.2.2.1 k) + l))) → Q (.inl none, σ')) : WP g mX2_writeTo 0 [(0, .ref (pw_ad g 3)), (1, .ref (pw_ad g 13))] [] 0 σ Q := by
  have hn := h.2.2.2.2.2.1
  have loop : ∀ n i, i + n = A.2.1 → ∀ σ1, fr [13, 14, 15] σ σ1 → σ1 13 2 = nI A.2.1 → (∀ k, k < i → σ1 14 k = σ 4 (ld a 1 (A.2.2.1 k))) → (∀ k l, k < i → l < 2 → σ1 15 (2 * k + l) = σ 8 (a (2 * ld a 1 (A.2.2.1 k) + l))) → WP g mX2_writeTo 10 [(0, .ref (pw_ad g 3)), (1, .ref (pw_ad g 13)), (2, .int (nI i))] [] 0 σ1 Q := by
    intro n
    induction n with
    | zero =>
      intro i hi σ1 f1 e13 e14 e15
      have hle : σ1 3 5 ≤ nI i := by rw [f1.get (by decide), h.2.2.1.1]; exact nI_le (by omega) (by omega)
      exact bX2_writeTo_10 (fun _ => q σ1 f1 e13 (fun k hk => e14 k (by omega)) (fun k l hk hl => e15 k l (by omega) hl)) (fun a => absurd hle a) (fun a => absurd hle a) (fun a => absurd hle a) (fun a => absurd hle a) (fun a => absurd hle a) (fun a => absurd hle a) (fun a => absurd hle a)
    | succ n ih =>
      intro i hi σ1 f1 e13 e14 e15
      have hi' : i < A.2.1 := by omega
      have lim := h.lim hi'
      have hge : ¬ σ1 3 5 ≤ nI i := by rw [f1.get (by decide), h.2.2.1.1]; exact nI_ge (by omega) (by omega)
      have e6 : σ1 6 (nI i).toNatClampNeg = nI (ld a 1 (A.2.2.1 i)) := by rw [nI_clamp (by omega), f1.get (by decide)]; exact (h.2.2.1.2 i hi').1
      obtain ⟨a0, d0⟩ := h.1 (2 * ld a 1 (A.2.2.1 i)) (by omega)
      obtain ⟨a1, d1⟩ := h.1 (2 * ld a 1 (A.2.2.1 i) + 1) (by omega)
      have e0 : (2 : Int32) * σ1 6 (nI i).toNatClampNeg = nI (2 * ld a 1 (A.2.2.1 i)) := by rw [e6, ar0]
      have e1 : (2 : Int32) * σ1 6 (nI i).toNatClampNeg + (1 : Int32) = nI (2 * ld a 1 (A.2.2.1 i) + 1) := by rw [e0, nI_1]
      have s0 : σ1 5 (nI (2 * ld a 1 (A.2.2.1 i))).toNatClampNeg = nI (a (2 * ld a 1 (A.2.2.1 i))) := by rw [nI_clamp (by omega), f1.get (by decide)]; exact a0
      have s1 : σ1 5 (nI (2 * ld a 1 (A.2.2.1 i) + 1)).toNatClampNeg = nI (a (2 * ld a 1 (A.2.2.1 i) + 1)) := by rw [nI_clamp (by omega), f1.get (by decide)]; exact a1
      refine bX2_writeTo_10 (fun a => absurd a hge) (fun _ => vp_in_nI (by omega) (by decide)) (fun _ => by rw [e6]; exact vp_in_nI (by omega) (by decide)) (fun _ => by rw [e0]; exact vp_in_nI (by omega) (by decide)) (fun _ => by rw [e0, s0]; exact vp_in_nI d0 (by decide)) (fun _ => by rw [e1]; exact vp_in_nI (by omega) (by decide)) (fun _ => by rw [e1, s1]; exact vp_in_nI d1 (by decide)) (fun _ => ?_)
      rw [e1, e0, s0, s1, e6, nI_clamp (n := ld a 1 (A.2.2.1 i)) (by omega), nI_clamp (n := a (2 * ld a 1 (A.2.2.1 i))) (by omega), nI_clamp (n := a (2 * ld a 1 (A.2.2.1 i) + 1)) (by omega), f1.get (k := 4) (by decide), f1.get (k := 8) (by decide), f1.get (k := 8) (by decide)]
      have j0 : (2 : Int32) * nI i = nI (2 * i) := ar0 i
      have j1 : (2 : Int32) * nI i + (1 : Int32) = nI (2 * i + 1) := by rw [j0, nI_1]
      refine bX0_put_0 rfl rfl rfl (vp_in_nI (N := 512) (by omega) (by decide)) (by rw [j0]; exact vp_in_nI (N := 1024) (by omega) (by decide)) (by rw [j1]; exact vp_in_nI (N := 1024) (by omega) (by decide)) ?_
      rw [j1, j0, nI_clamp (by omega), nI_clamp (by omega), nI_clamp (by omega)]
      refine bX2_writeTo_64 ?_
      rw [show nI i + 1 = nI (i + 1) from nI_1 i]
      refine wp_sub [0, 1, 2] rfl (ih (i + 1) (by omega) _ (((f1.set (by decide)).set (by decide)).set (by decide)) ?_ (fun k hk => ?_) (fun k l hk hl => ?_))
      · rw [ms_ne _ _ _ _ _ (by decide), ms_ne _ _ _ _ _ (by decide), ms_ne _ _ _ _ _ (by decide)]; exact e13
      · rw [ms_ne _ _ _ _ _ (show (14 : Nat) ≠ 13 + 2 by decide), ms_ne _ _ _ _ _ (show (14 : Nat) ≠ 13 + 2 by decide), show (13 + 1 : Nat) = 14 from rfl, ms_eq]
        by_cases z : k = i
        · rw [if_pos z, z]
        · rw [if_neg z]; exact e14 k (by omega)
      · rw [show (13 + 2 : Nat) = 15 from rfl, ms_eq, ms_eq, ms_ne _ _ _ _ _ (by decide)]
        by_cases z : k = i
        · subst z
          rcases (show l = 0 ∨ l = 1 by omega) with rfl | rfl
          · rw [if_neg (by omega), if_pos (by omega)]; rfl
          · rw [if_pos rfl]
        · rw [if_neg (by omega), if_neg (by omega)]; exact e15 k l (by omega) hl
  refine bX2_writeTo_0 (bX0_resize_0 rfl rfl rfl (bX2_writeTo_8 ?_))
  rw [h.2.2.1.1]
  exact loop A.2.1 0 (by omega) _ (fr.rf.set (by decide)) (ms_same _ _ _ _) (fun k hk => by omega) (fun k l hk => by omega)
theorem CI_FA {σ' : pw_Mem} {A : aA} {a : Nat → Nat} (h : CI S σ A a) (e14 : ∀ k, k < A.2.1 → σ' 14 k = σ 4 (ld a 1 (A.2.2.1 k))) (e15 : ∀ k l, k < A.2.1 → l < 2 → σ' 15 (2 * k + l) = σ 8 (a (2 * ld a 1 (A.2.2.1 k) + l))) : FA S A (σ' 14) (σ' 15) := by
  obtain ⟨q1, q2, q3, q4, q5, q6, q7⟩ := h.2.1
  obtain ⟨i1, i2, i3, i4, i5, i6, i7, i8, i9⟩ := h.2.2.2.2.1
  refine ⟨fun k hk => ⟨fun v hv e h0 => ?_, fun hz => ?_⟩, fun k l hk hl => ⟨fun v j v1 hn e hj ej => ?_, fun hz => ?_⟩⟩
  · rw [e14 k hk, ← (q5 _ _ hv (i5 k hk).1).mp e]; exact q3 v hv h0
  · rw [e14 k hk]
    apply Classical.byContradiction
    intro z
    obtain ⟨v, v1, v2, v3⟩ := q4 _ (h.lv hk) z
    exact z (by rw [← v3]; exact hz v v1 ((q5 _ _ v1 (i5 k hk).1).mpr v2))
  · rw [e15 k l hk hl, ← (q5 _ _ (Nn_up S v1 hl hn) (i5 k hk).1).mp e, ← ld_st a 1 v1 hl, (q5 _ _ hn (i5 j hj).1).mp ej]
    exact h.2.2.2.1.1 j hj
  · rw [e15 k l hk hl]
    have : a (2 * ld a 1 (A.2.2.1 k) + l) = 0 := Classical.byContradiction fun z => by
      obtain ⟨v, v1, v2, v3⟩ := q2 _ l hl (h.lv hk) z
      exact hz v v1 v2 ((q5 _ _ (Nn_up S v1 hl v2) (i5 k hk).1).mpr v3)
    rw [this]
    exact h.2.2.2.1.2.2
def lfr2 : List Nat := [3, 4, 5, 6, 7, 8, 9, 10, 11, 12, 13, 14, 15]
theorem C_learn (ok : okS S) (hS : cS σ S cnt) (q : ∀ σ' sg ar, fr lfr2 σ σ' → (∀ i, i ≤ 512 → Sep (it S i)) → FA S (it S 512) sg ar → cL σ' (it S 512).2.1 sg ar → Q (.inl (some (.int (nI (it S 512).2.1))), σ')) : WP g mX4_learn 0 [(0, .ref (pw_ad g 0))] [] 0 σ Q := by
  have fin : ∀ (x : Int32) (y : List (Nat × Value)) σ1 a i, i ≤ 512 → fr lfr2 σ σ1 → (∀ j, j ≤ 512 → Sep (it S j)) → CI S σ1 (it S i) a → it S 512 = it S i → WP g mX2_writeTo 0 [(0, .ref (pw_ad g 3)), (1, .ref (pw_ad g 13))] [] 0 σ1 (pw_k g mX2_run 51 ([(0, .ref (pw_ad g 3)), (1, .ref (pw_ad g 1)), (2, .ref (pw_ad g 13)), (3, .int x)] ++ y) [] 0 (pw_k g mX4_learn 15 [(0, .ref (pw_ad g 0))] [] 0 Q)) := by
    intro x y σ1 a i hi f1 hs h e
    refine c_writeTo h (fun σ2 f2 e13 e14 e15 => ?_)
    have hFA := CI_FA h e14 e15
    rw [← e] at hFA e13
    refine wp_sub [0, 1, 2, 3] rfl (bX2_run_51 (bX4_learn_15 (bX0_count_0 rfl rfl rfl ?_)))
    rw [e13]
    exact bX4_learn_22 (q σ2 (σ2 14) (σ2 15) (f1.tr (f2.mono (by decide))) hs hFA ⟨e13, fun _ _ => rfl, fun _ _ => rfl⟩)
  have loop : ∀ n i, i + n = 512 → ∀ σ1 a, fr lfr2 σ σ1 → (∀ j, j ≤ i → Sep (it S j)) → CI S σ1 (it S i) a → WP g mX2_run 13 [(0, .ref (pw_ad g 3)), (1, .ref (pw_ad g 1)), (2, .ref (pw_ad g 13)), (3, .int (nI i))] [] 0 σ1 (pw_k g mX4_learn 15 [(0, .ref (pw_ad g 0))] [] 0 Q) := by
    intro n
    induction n with
    | zero =>
      intro i hi σ1 a f1 hs h
      have hi : i = 512 := by omega
      subst hi
      exact bX2_run_13 (fun _ => fin _ [] σ1 a 512 (Nat.le_refl _) f1 hs h rfl) (fun z => absurd (by decide) z)
    | succ n ih =>
      intro i hi σ1 a f1 hs h
      refine bX2_run_13 (fun z => absurd z (nI_ge (b := 512) (by omega) (by decide))) (fun _ => c_firstArrow h (fun f hf => ?_))
      have hn := h.2.2.2.2.2.1
      rcases hf with ⟨f0, f9⟩ | ⟨s, s1, s2, s3, s4⟩
      · subst f0
        have nob : ∀ c m, ¬ BlueAt S (it S i) c m := fun c m z => by
          obtain ⟨s, z1, z2, _⟩ := Bq_of h z
          exact f9 s z1 z2
        refine bX2_run_24 (fun z => absurd rfl z) (fun _ => ?_)
        refine fin _ [(4, .int (nI 0))] σ1 a i (by omega) f1 (fun j hj => ?_) h (it_fix' S (by omega) nob)
        rcases Nat.lt_or_ge i j with y | y
        · rw [it_fix' S (n := j) (by omega) nob]; exact hs i (Nat.le_refl _)
        · exact hs j y
      · have lim := h.lim (k := s / 2) (by omega)
        rw [s3]
        refine bX2_run_24 (fun _ => c_settle ok h s1 s2 s4 (fun σ2 B b f2 hN h2 => ?_)) (fun z => absurd ((nI_z (by omega)).mp z) (by omega))
        have e : it S (i + 1) = B := (it_s S i).trans (stp_next S hN)
        refine bX2_run_40 ?_
        rw [show nI i + 1 = nI (i + 1) from nI_1 i]
        refine wp_sub [0, 1, 2, 3] rfl (ih (i + 1) (by omega) σ2 b (f1.tr (f2.mono (by decide))) (fun j hj => ?_) (by rw [e]; exact h2))
        by_cases y : j = i + 1
        · rw [y, e]; exact h2.2.2.2.2.2.2
        · exact hs j (by omega)
  refine bX4_learn_0 (bX2_run_0 (c_plantTree hS (fun σ1 f1 e3 e8 e4 hA => bX2_run_5 ?_)))
  have z0 : σ1 3 5 = nI 0 := e3.trans nI_0.symm
  refine bX2_redden_0 (by rw [z0]; exact vp_in_nI (by omega) (by decide)) (by rw [z0]; exact vp_in_nI (by omega) (by decide)) (vp_in_nI (n := 1) (by omega) (by decide)) (bX2_run_11 ?_)
  rw [z0, nI_clamp (by omega), show ((1 : Int32)).toNatClampNeg = 1 from rfl, show nI 0 + (1 : Int32) = nI 1 from rfl]
  have hfr : fr lfr2 σ (pw_set (pw_set (pw_set (pw_set σ1 6 0 1) 7 0 1) 8 1 (nI 0)) 3 5 (nI 1)) := ((((f1.mono (by decide)).set (by decide)).set (by decide)).set (by decide)).set (by decide)
  refine loop 512 0 rfl _ (aT S) hfr (fun j hj => ?_) (CI_start (ms_same _ _ _ _) ?_ ?_ ?_ (fun i hi hne => ?_) (fun x h1 h2 => ?_) (fun i hi => ?_))
  · have hj : j = 0 := by omega
    subst hj
    intro j k hj hk _
    have hj : j < 1 := hj
    have hk : k < 1 := hk
    omega
  · rw [ms_ne _ _ _ _ _ (by decide), ms_ne _ _ _ _ _ (by decide), ms_ne _ _ _ _ _ (by decide), ms_same]; rfl
  · rw [ms_ne _ _ _ _ _ (by decide), ms_ne _ _ _ _ _ (by decide), ms_same]; rfl
  · rw [ms_ne _ _ _ _ _ (by decide), ms_same]
  · rw [ms_ne _ _ _ _ _ (by decide), ms_ne2 _ _ _ _ hne, ms_ne _ _ _ _ _ (by decide), ms_ne _ _ _ _ _ (by decide)]; exact e8 i hi
  · rw [ms_ne _ _ _ _ _ (by decide), ms_ne _ _ _ _ _ (by decide), ms_ne _ _ _ _ _ (by decide), ms_ne _ _ _ _ _ (by decide)]; exact e4 x h1 h2
  · rw [ms_ne _ _ _ _ _ (by decide), ms_ne _ _ _ _ _ (by decide), ms_ne _ _ _ _ _ (by decide), ms_ne _ _ _ _ _ (by decide)]; exact hA i hi
end HRC
