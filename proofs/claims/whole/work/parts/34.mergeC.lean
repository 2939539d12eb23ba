/-! merges in the class -/
theorem ar2 (x l : Nat) : (2 : Int32) * nI x + nI l = nI (2 * x + l) := by rw [ww_2, pk_mul, nI_add]
theorem ar0 (x : Nat) : (2 : Int32) * nI x = nI (2 * x) := by rw [ww_2, pk_mul]
theorem nI_z {n : Nat} (h : n < 2 ^ 31) : nI n = 0 ↔ n = 0 := by rw [ww_0, nI_eq h (by decide)]
theorem fr.get {l : List Nat} {σ σ1 : pw_Mem} (h : fr l σ σ1) {k : Nat} (hk : k ∉ l) (i : Nat) : σ1 k i = σ k i := by rw [h k hk]
section HMC
variable {g : pw_G} {σ : pw_Mem} {Q : pw_R → Prop} {S : Nat → Int32} {a : Nat → Nat} {Rd : Nat → Prop} {E : Nat → Nat → Prop} {xk l0 y0 rk c0 : Nat}
def cA (σ : pw_Mem) (a : Nat → Nat) : Prop := ∀ i, i < 1024 → σ 5 i = nI (a i) ∧ a i < 512
def PF (σ1 : pw_Mem) (c : Nat) (U O b : Nat → Nat) (nac : Nat) (NA : Nat → Nat) (nmc : Nat) (NM : Nat → Nat) : Prop :=
  (σ1 3 8 = nI c ∧ ∀ j, j < c → σ1 9 j = nI (U j) ∧ σ1 10 j = nI (O j)) ∧ (σ1 3 10 = nI nmc ∧ ∀ i, i < nmc → σ1 11 i = nI (NM i)) ∧ (σ1 3 12 = nI nac ∧ ∀ k, k < nac → σ1 12 k = nI (NA k)) ∧ cA σ1 b
def mrf (σ σ1 : pw_Mem) : Prop := fr [3, 4, 5, 9, 10, 11, 12] σ σ1 ∧ ∀ f, f ≠ 8 → f ≠ 10 → f ≠ 12 → σ1 3 f = σ 3 f
theorem mrf.rf : mrf σ σ := ⟨fr.rf, fun _ _ _ _ => rfl⟩
theorem mrf.tr {σ1 σ2 : pw_Mem} (h : mrf σ σ1) (k : mrf σ1 σ2) : mrf σ σ2 := ⟨h.1.tr k.1, fun f a b c => (k.2 f a b c).trans (h.2 f a b c)⟩
theorem mrf.set {σ1 : pw_Mem} (h : mrf σ σ1) {k i : Nat} {x : Int32} (hk : k ∈ [4, 5, 9, 10, 11, 12]) : mrf σ (pw_set σ1 k i x) :=
  ⟨h.1.set (List.mem_cons_of_mem _ hk), fun f a b c => by rw [ms_ne _ _ _ _ _ (by rintro rfl; revert hk; decide)]; exact h.2 f a b c⟩
theorem mrf.fld {σ1 : pw_Mem} (h : mrf σ σ1) {i : Nat} {x : Int32} (hi : i = 8 ∨ i = 10 ∨ i = 12) : mrf σ (pw_set σ1 3 i x) :=
  ⟨h.1.set List.mem_cons_self, fun f a b c => by rw [ms_ne2 _ _ _ _ (by omega)]; exact h.2 f a b c⟩
theorem c_layArrowOver {σ1 : pw_Mem} {p l c : Nat} {U O b : Nat → Nat} {nac : Nat} {NA : Nat → Nat} {nmc : Nat} {NM : Nat → Nat}
    (h : MI S a (σ 4) Rd E xk l0 y0 rk c0) (hA : ∀ i, i < 1024 → a i < 512) (F : FS S a Rd E xk l0 y0 rk c0 (2 * p + l) c U O b nac NA) (M : FM S a (σ 4) (p + 1) U O (σ1 4) nmc NM) (P : PF σ1 c U O b nac NA nmc NM) (hp : p < c) (hl : l < 2) (R : mrf σ σ1)
    (k : ∀ σ2 c' U' O' b' nac' NA', c ≤ c' → U' p = U p → O' p = O p → FS S a Rd E xk l0 y0 rk c0 (2 * p + l + 1) c' U' O' b' nac' NA' → FM S a (σ 4) (p + 1) U' O' (σ2 4) nmc NM → PF σ2 c' U' O' b' nac' NA' nmc NM → mrf σ σ2 → Q (.inl none, σ2)) :
    WP g mX2_layArrowOver 0 [(0, .ref (pw_ad g 3)), (1, .int (nI (2 * U p + l))), (2, .int (nI (a (2 * O p + l))))] [] 0 σ1 Q := by
  have ulim := h.1.lt (F.2.2.2.2.1 p hp).1
  have olim := h.1.lt (F.2.1 p hp).1
  have ay := hA (2 * O p + l) (by omega)
  obtain ⟨P1, P2, P3, P4⟩ := P
  obtain ⟨e5, b5⟩ := P4 (2 * U p + l) (by omega)
  have hin : vp_in (nI (2 * U p + l)) 1024 := vp_in_nI (by omega) (by decide)
  have hcl : (nI (2 * U p + l)).toNatClampNeg = 2 * U p + l := nI_clamp (by omega)
  have hroom := FS.room h F
  have hroomA := FS.roomA h F
  refine bX2_layArrowOver_0 (fun _ => hin) (fun _ _ => hin) (fun _ _ => by rw [P3.1]; exact vp_in_nI hroomA (by decide)) (fun z1 z2 => ?_) (fun _ _ => hin) (fun z1 z2 => ?_) (fun z => ?_)
  · rw [hcl, e5, nI_z (by omega)] at z2
    rw [nI_z (by omega)] at z1
    rw [hcl, P3.1, nI_clamp (by omega), show nI nac + (1 : Int32) = nI (nac + 1) from nI_1 nac]
    have F2 := FS.fill h F hp hl rfl z1 z2
    refine k _ c U O _ _ _ (Nat.le_refl _) rfl rfl F2 ?_ ⟨⟨?_, fun j hj => ?_⟩, ⟨?_, fun i hi => ?_⟩, ⟨ms_same _ _ _ _, fun i hi => ?_⟩, fun i hi => ?_⟩ (((R.set (by decide)).set (by decide)).fld (by omega))
    · have e4 : pw_set (pw_set (pw_set σ1 5 (2 * U p + l) (nI (a (2 * O p + l)))) 12 nac (nI (2 * U p + l))) 3 12 (nI (nac + 1)) 4 = σ1 4 := by
        rw [pw_set_ne _ _ _ _ (by decide), pw_set_ne _ _ _ _ (by decide), pw_set_ne _ _ _ _ (by decide)]
      rw [e4]; exact M
    · rw [ms_ne2 _ _ _ _ (by decide), ms_ne _ _ _ _ _ (by decide), ms_ne _ _ _ _ _ (by decide)]; exact P1.1
    · rw [ms_ne _ _ _ _ _ (show (9 : Nat) ≠ 3 by decide), ms_ne _ _ _ _ _ (show (9 : Nat) ≠ 12 by decide), ms_ne _ _ _ _ _ (show (9 : Nat) ≠ 5 by decide), ms_ne _ _ _ _ _ (show (10 : Nat) ≠ 3 by decide), ms_ne _ _ _ _ _ (show (10 : Nat) ≠ 12 by decide), ms_ne _ _ _ _ _ (show (10 : Nat) ≠ 5 by decide)]; exact P1.2 j hj
    · rw [ms_ne2 _ _ _ _ (by decide), ms_ne _ _ _ _ _ (by decide), ms_ne _ _ _ _ _ (by decide)]; exact P2.1
    · rw [ms_ne _ _ _ _ _ (by decide), ms_ne _ _ _ _ _ (by decide), ms_ne _ _ _ _ _ (by decide)]; exact P2.2 i hi
    · rw [ms_ne _ _ _ _ _ (by decide), ms_eq, upN]
      by_cases q : i = nac
      · rw [if_pos q, if_pos q]
      · rw [if_neg q, if_neg q, ms_ne _ _ _ _ _ (by decide)]; exact P3.2 i (by omega)
    · rw [ms_ne _ _ _ _ _ (by decide), ms_ne _ _ _ _ _ (by decide), ms_eq, upN]
      by_cases q : i = 2 * U p + l
      · rw [if_pos q, if_pos q]; exact ⟨rfl, ay⟩
      · rw [if_neg q, if_neg q]; exact P4 i hi
  · rw [hcl, e5, nI_z (by omega)] at z2
    rw [nI_z (by omega)] at z1
    rw [hcl, e5]
    refine bX2_addPair_0 (by rw [P1.1]; exact vp_in_nI hroom (by decide)) (by rw [P1.1]; exact vp_in_nI hroom (by decide)) (bX2_layArrowOver_25 ?_)
    rw [P1.1, nI_clamp (by omega), show nI c + (1 : Int32) = nI (c + 1) from nI_1 c]
    have F2 := FS.pair h F hp hl rfl z1 z2
    have e4 : pw_set (pw_set (pw_set σ1 9 c (nI (b (2 * U p + l)))) 10 c (nI (a (2 * O p + l)))) 3 8 (nI (c + 1)) 4 = σ1 4 := by
      rw [pw_set_ne _ _ _ _ (by decide), pw_set_ne _ _ _ _ (by decide), pw_set_ne _ _ _ _ (by decide)]
    refine k _ (c + 1) _ _ _ _ _ (Nat.le_succ _) (by rw [upN, if_neg (by omega)]) (by rw [upN, if_neg (by omega)]) F2 ?_ ⟨⟨ms_same _ _ _ _, fun j hj => ?_⟩, ⟨?_, fun i hi => ?_⟩, ⟨?_, fun i hi => ?_⟩, fun i hi => ?_⟩ (((R.set (by decide)).set (by decide)).fld (by omega))
    · rw [e4]; exact M.grow (by omega) _ _
    · rw [ms_ne _ _ _ _ _ (show (9 : Nat) ≠ 3 by decide), ms_ne _ _ _ _ _ (show (9 : Nat) ≠ 10 by decide), ms_eq, ms_ne _ _ _ _ _ (show (10 : Nat) ≠ 3 by decide), ms_eq, upN, upN, ms_ne _ _ _ _ _ (show (10 : Nat) ≠ 9 by decide)]
      by_cases q : j = c
      · rw [if_pos q, if_pos q, if_pos q, if_pos q]; exact ⟨rfl, rfl⟩
      · rw [if_neg q, if_neg q, if_neg q, if_neg q]; exact P1.2 j (by omega)
    · rw [ms_ne2 _ _ _ _ (by decide), ms_ne _ _ _ _ _ (by decide), ms_ne _ _ _ _ _ (by decide)]; exact P2.1
    · rw [ms_ne _ _ _ _ _ (by decide), ms_ne _ _ _ _ _ (by decide), ms_ne _ _ _ _ _ (by decide)]; exact P2.2 i hi
    · rw [ms_ne2 _ _ _ _ (by decide), ms_ne _ _ _ _ _ (by decide), ms_ne _ _ _ _ _ (by decide)]; exact P3.1
    · rw [ms_ne _ _ _ _ _ (by decide), ms_ne _ _ _ _ _ (by decide), ms_ne _ _ _ _ _ (by decide)]; exact P3.2 i hi
    · rw [ms_ne _ _ _ _ _ (by decide), ms_ne _ _ _ _ _ (by decide), ms_ne _ _ _ _ _ (by decide)]; exact P4 i hi
  · rw [nI_z (by omega)] at z
    exact k σ1 c U O b nac NA (Nat.le_refl _) rfl rfl (FS.none F hp hl rfl z) M ⟨P1, P2, P3, P4⟩ R
theorem c_layOver {σ1 : pw_Mem} {p c : Nat} {U O b : Nat → Nat} {nac : Nat} {NA : Nat → Nat} {nmc : Nat} {NM : Nat → Nat} (ok : okS S)
    (h : MI S a (σ 4) Rd E xk l0 y0 rk c0) (hA : ∀ i, i < 1024 → a i < 512) (F : FS S a Rd E xk l0 y0 rk c0 (2 * p) c U O b nac NA) (M : FM S a (σ 4) p U O (σ1 4) nmc NM) (P : PF σ1 c U O b nac NA nmc NM) (hp : p < c) (R : mrf σ σ1) (hm : 0 ≤ σ1 4 (U p) * σ1 4 (O p))
    (k : ∀ σ2 c' U' O' b' nac' NA' nmc' NM', c ≤ c' → FS S a Rd E xk l0 y0 rk c0 (2 * (p + 1)) c' U' O' b' nac' NA' → FM S a (σ 4) (p + 1) U' O' (σ2 4) nmc' NM' → PF σ2 c' U' O' b' nac' NA' nmc' NM' → mrf σ σ2 → Q (.inl none, σ2)) :
    WP g mX2_layOver 0 [(0, .ref (pw_ad g 3)), (1, .int (nI (U p))), (2, .int (nI (O p)))] [] 0 σ1 Q := by
  have ulim := h.1.lt (F.2.2.2.2.1 p hp).1
  have olim := h.1.lt (F.2.1 p hp).1
  have cu : (nI (U p)).toNatClampNeg = U p := nI_clamp (by omega)
  have co : (nI (O p)).toNatClampNeg = O p := nI_clamp (by omega)
  have rest : ∀ σ2 nmc' NM', FM S a (σ 4) (p + 1) U O (σ2 4) nmc' NM' → PF σ2 c U O b nac NA nmc' NM' → mrf σ σ2 → WP g mX2_layOver 52 [(0, .ref (pw_ad g 3)), (1, .int (nI (U p))), (2, .int (nI (O p))), (3, .int (0 : Int32))] [] 0 σ2 Q := by
    intro σ2 nmc' NM' M2 P2 R2
    have loop : ∀ n l, l + n = 2 → ∀ σ3 c' U' O' b' nac' NA', c ≤ c' → U' p = U p → O' p = O p → FS S a Rd E xk l0 y0 rk c0 (2 * p + l) c' U' O' b' nac' NA' → FM S a (σ 4) (p + 1) U' O' (σ3 4) nmc' NM' → PF σ3 c' U' O' b' nac' NA' nmc' NM' → mrf σ σ3 → WP g mX2_layOver 52 [(0, .ref (pw_ad g 3)), (1, .int (nI (U p))), (2, .int (nI (O p))), (3, .int (nI l))] [] 0 σ3 Q := by
      intro n
      induction n with
      | zero =>
        intro l hl σ3 c' U' O' b' nac' NA' hc eu eo F3 M3 P3 R3
        have hl : l = 2 := by omega
        subst hl
        exact bX2_layOver_52 (fun _ => k σ3 c' U' O' b' nac' NA' nmc' NM' hc F3 M3 P3 R3) (fun a => absurd (by decide) a) (fun a => absurd (by decide) a)
      | succ n ih =>
        intro l hl σ3 c' U' O' b' nac' NA' hc eu eo F3 M3 P3 R3
        have hin : vp_in (nI (2 * O p + l)) 1024 := vp_in_nI (by omega) (by decide)
        have e5 : σ3 5 (2 * O p + l) = nI (a (2 * O p + l)) := by
          rw [(P3.2.2.2 _ (by omega)).1, ← eo, F3.2.2.2.2.2.1 p l (by omega) (by omega)]
        refine bX2_layOver_52 (fun a => absurd a (nI_ge (b := 2) (by omega) (by decide))) (fun _ => by rw [ar2]; exact hin) (fun _ => ?_)
        rw [ar2, ar2, nI_clamp (by omega), e5, ← eu, ← eo]
        refine c_layArrowOver h hA F3 M3 P3 (by omega) (by omega) R3 (fun σ4 c4 U4 O4 b4 nac4 NA4 h1 h2 h3 F4 M4 P4 R4 => bX2_layOver_76 ?_)
        rw [show nI l + 1 = nI (l + 1) from nI_1 l, eu, eo]
        exact ih (l + 1) (by omega) σ4 c4 U4 O4 b4 nac4 NA4 (by omega) (h2.trans eu) (h3.trans eo) F4 M4 P4 R4
    exact loop 2 0 rfl σ2 c U O b nac NA (Nat.le_refl _) rfl rfl F M2 P2 R2
  refine bX2_layOver_0 (vp_in_nI (by omega) (by decide)) (fun z => ?_) (fun _ => vp_in_nI (by omega) (by decide)) (fun z1 z2 => ?_) (fun _ _ => vp_in_nI (by omega) (by decide)) (fun _ _ => vp_in_nI (by omega) (by decide)) (fun _ _ => ?_) (fun z1 z2 => ?_)
  · rw [cu] at z
    exact rest σ1 nmc NM (M.same ok F hp hm (Or.inl z)) P R
  · rw [co] at z2
    exact rest σ1 nmc NM (M.same ok F hp hm (Or.inr z2)) P R
  · rw [P.2.1.1]; exact vp_in_nI (M.room h F (by omega)) (by decide)
  · rw [cu] at z1
    rw [co] at z2
    have hr := M.room h F (by omega)
    rw [cu, co, P.2.1.1, nI_clamp (by omega), show nI nmc + (1 : Int32) = nI (nmc + 1) from nI_1 nmc]
    obtain ⟨P1, P2, P3, P4⟩ := P
    refine rest _ (nmc + 1) (upN NM nmc (U p)) ?_ ⟨⟨?_, fun j hj => ?_⟩, ⟨ms_same _ _ _ _, fun i hi => ?_⟩, ⟨?_, fun i hi => ?_⟩, fun i hi => ?_⟩ (((R.set (by decide)).set (by decide)).fld (by omega))
    · have e4 : pw_set (pw_set (pw_set σ1 4 (U p) (σ1 4 (O p))) 11 nmc (nI (U p))) 3 10 (nI (nmc + 1)) 4 = upd (σ1 4) (U p) (σ1 4 (O p)) := by
        rw [pw_set_ne _ _ _ _ (by decide), pw_set_ne _ _ _ _ (by decide), pw_set_eq]
      rw [e4]
      exact M.set h F hp z1 z2
    · rw [ms_ne2 _ _ _ _ (by decide), ms_ne _ _ _ _ _ (by decide), ms_ne _ _ _ _ _ (by decide)]; exact P1.1
    · rw [ms_ne _ _ _ _ _ (show (9 : Nat) ≠ 3 by decide), ms_ne _ _ _ _ _ (show (9 : Nat) ≠ 11 by decide), ms_ne _ _ _ _ _ (show (9 : Nat) ≠ 4 by decide), ms_ne _ _ _ _ _ (show (10 : Nat) ≠ 3 by decide), ms_ne _ _ _ _ _ (show (10 : Nat) ≠ 11 by decide), ms_ne _ _ _ _ _ (show (10 : Nat) ≠ 4 by decide)]; exact P1.2 j hj
    · rw [ms_ne _ _ _ _ _ (by decide), ms_eq, upN]
      by_cases q : i = nmc
      · rw [if_pos q, if_pos q]
      · rw [if_neg q, if_neg q, ms_ne _ _ _ _ _ (by decide)]; exact P2.2 i (by omega)
    · rw [ms_ne2 _ _ _ _ (by decide), ms_ne _ _ _ _ _ (by decide), ms_ne _ _ _ _ _ (by decide)]; exact P3.1
    · rw [ms_ne _ _ _ _ _ (by decide), ms_ne _ _ _ _ _ (by decide), ms_ne _ _ _ _ _ (by decide)]; exact P3.2 i hi
    · rw [ms_ne _ _ _ _ _ (by decide), ms_ne _ _ _ _ _ (by decide), ms_ne _ _ _ _ _ (by decide)]; exact P4 i hi
theorem c_takeBack {σ1 : pw_Mem} {t q c : Nat} {U O b : Nat → Nat} {nac : Nat} {NA : Nat → Nat} {nmc : Nat} {NM : Nat → Nat}
    (h : MI S a (σ 4) Rd E xk l0 y0 rk c0) (hA : cA σ a) (F : FS S a Rd E xk l0 y0 rk c0 t c U O b nac NA) (M : FM S a (σ 4) q U O (σ1 4) nmc NM) (P : PF σ1 c U O b nac NA nmc NM) (hq : q ≤ c) (R : mrf σ σ1)
    (k : ∀ σ2, mrf σ σ2 → σ2 4 = σ 4 → (∀ i, i < 1024 → i ≠ 2 * xk + l0 → σ2 5 i = σ 5 i) → Q (.inl none, σ2)) : WP g mX2_takeBack 0 [(0, .ref (pw_ad g 3))] [] 0 σ1 Q := by
  have hm := M.room h F hq
  have ha := FS.roomA h F
  have hNM : ∀ i, i < nmc → NM i < 512 := fun i hi => by
    obtain ⟨_, _, j, hj, e⟩ := M.2.1 i hi
    rw [e]
    exact (h.1.lt (F.2.2.2.2.1 j (by omega)).1).2
  obtain ⟨P1, P2, P3, P4⟩ := P
  have second : ∀ n i, i + n = nac → ∀ σ2, mrf σ σ2 → σ2 4 = σ 4 → σ2 3 12 = nI nac → (∀ k, k < nac → σ2 12 k = nI (NA k)) → (∀ j, j < 1024 → σ2 5 j = σ 5 j ∨ j = 2 * xk + l0 ∨ ∃ k, i ≤ k ∧ k < nac ∧ NA k = j) → WP g mX2_takeBack 30 [(0, .ref (pw_ad g 3)), (1, .int (nI i))] [] 0 σ2 Q := by
    intro n
    induction n with
    | zero =>
      intro i hi σ2 R2 e4 e12 eN e5
      have hle : σ2 3 12 ≤ nI i := by rw [e12]; exact nI_le (by omega) (by omega)
      refine bX2_takeBack_30 (fun _ => k σ2 R2 e4 (fun j hj hs => ?_)) (fun a => absurd hle a) (fun a => absurd hle a) (fun a => absurd hle a)
      rcases e5 j hj with z | z | ⟨k, k1, k2, _⟩
      · exact z
      · exact absurd z hs
      · omega
    | succ n ih =>
      intro i hi σ2 R2 e4 e12 eN e5
      have hge : ¬ σ2 3 12 ≤ nI i := by rw [e12]; exact nI_ge (by omega) (by omega)
      have f7 := F.2.2.2.2.2.2.1 i (by omega)
      refine bX2_takeBack_30 (fun a => absurd a hge) (fun _ => vp_in_nI (by omega) (by decide)) (fun _ => ?_) (fun _ => ?_)
      · rw [nI_clamp (by omega), eN i (by omega)]; exact vp_in_nI f7.1 (by decide)
      · rw [nI_clamp (by omega), eN i (by omega), nI_clamp (by omega), show nI i + 1 = nI (i + 1) from nI_1 i]
        refine ih (i + 1) (by omega) _ (R2.set (by decide)) (by rw [pw_set_ne _ _ _ _ (by decide)]; exact e4) (by rw [ms_ne _ _ _ _ _ (by decide)]; exact e12) (fun k hk => by rw [ms_ne _ _ _ _ _ (by decide)]; exact eN k hk) (fun j hj => ?_)
        rw [ms_eq]
        by_cases z : j = NA i
        · rw [if_pos z, z, (hA _ f7.1).1, f7.2.1]; exact Or.inl rfl
        · rw [if_neg z]
          rcases e5 j hj with y | y | ⟨k, k1, k2, k3⟩
          · exact Or.inl y
          · exact Or.inr (Or.inl y)
          · by_cases w : k = i
            · exact absurd (by rw [← k3, w]) z
            · exact Or.inr (Or.inr ⟨k, by omega, k2, k3⟩)
  have first : ∀ n i, i + n = nmc → ∀ σ2, mrf σ σ2 → σ2 3 10 = nI nmc → (∀ k, k < nmc → σ2 11 k = nI (NM k)) → σ2 3 12 = nI nac → (∀ k, k < nac → σ2 12 k = nI (NA k)) → (∀ j, σ2 4 j = σ 4 j ∨ ∃ k, i ≤ k ∧ k < nmc ∧ NM k = j) → σ2 5 = σ1 5 → WP g mX2_takeBack 2 [(0, .ref (pw_ad g 3)), (1, .int (nI i))] [] 0 σ2 Q := by
    intro n
    induction n with
    | zero =>
      intro i hi σ2 R2 e10 eM e12 eN e4 e5
      have hle : σ2 3 10 ≤ nI i := by rw [e10]; exact nI_le (by omega) (by omega)
      refine bX2_takeBack_2 (fun _ => ?_) (fun a => absurd hle a) (fun a => absurd hle a) (fun a => absurd hle a)
      refine second nac 0 (by omega) σ2 R2 ?_ e12 eN (fun j hj => ?_)
      · funext j
        rcases e4 j with z | ⟨k, k1, k2, _⟩
        · exact z
        · omega
      · rw [e5, (P4 j hj).1, (hA j hj).1]
        rcases F.2.2.2.2.2.2.2.1 j with z | z | ⟨k, k1, k2⟩
        · exact Or.inl (by rw [z])
        · exact Or.inr (Or.inl z)
        · exact Or.inr (Or.inr ⟨k, Nat.zero_le _, k1, k2⟩)
    | succ n ih =>
      intro i hi σ2 R2 e10 eM e12 eN e4 e5
      have hge : ¬ σ2 3 10 ≤ nI i := by rw [e10]; exact nI_ge (by omega) (by omega)
      have hb := hNM i (by omega)
      refine bX2_takeBack_2 (fun a => absurd a hge) (fun _ => vp_in_nI (by omega) (by decide)) (fun _ => ?_) (fun _ => ?_)
      · rw [nI_clamp (by omega), eM i (by omega)]; exact vp_in_nI hb (by decide)
      · rw [nI_clamp (by omega), eM i (by omega), nI_clamp (by omega), show nI i + 1 = nI (i + 1) from nI_1 i]
        refine ih (i + 1) (by omega) _ (R2.set (by decide)) (by rw [ms_ne _ _ _ _ _ (by decide)]; exact e10) (fun k hk => by rw [ms_ne _ _ _ _ _ (by decide)]; exact eM k hk) (by rw [ms_ne _ _ _ _ _ (by decide)]; exact e12) (fun k hk => by rw [ms_ne _ _ _ _ _ (by decide)]; exact eN k hk) (fun j => ?_) (by rw [pw_set_ne _ _ _ _ (by decide)]; exact e5)
        rw [ms_eq]
        by_cases z : j = NM i
        · rw [if_pos z, z]; exact Or.inl (M.2.1 i (by omega)).1.symm
        · rw [if_neg z]
          rcases e4 j with y | ⟨k, k1, k2, k3⟩
          · exact Or.inl y
          · by_cases w : k = i
            · exact absurd (by rw [← k3, w]) z
            · exact Or.inr ⟨k, by omega, k2, k3⟩
  exact bX2_takeBack_0 (first nmc 0 (by omega) σ1 R P2.1 P2.2 P3.1 P3.2 (fun j => by
    rcases M.1 j with z | ⟨k, k1, k2⟩
    · exact Or.inl z
    · exact Or.inr ⟨k, Nat.zero_le _, k1, k2⟩) rfl)
theorem c_merges (ok : okS S) (h : MI S a (σ 4) Rd E xk l0 y0 rk c0) (hA : cA σ a)
    (k1 : ∀ σ2 b, mrf σ σ2 → cA σ2 b → QI S b (σ2 4) Rd (cl S E rk c0) → Cons S (cl S E rk c0) → (∀ x, Lv S b x → Lv S a x) → (∀ v, Nn S v → Rd (ld a 1 v) → ld b 1 v = ld a 1 v) → Q (.inl (some (.int 1)), σ2))
    (k0 : ∀ σ2, ¬ Cons S (cl S E rk c0) → mrf σ σ2 → σ2 4 = σ 4 → (∀ i, i < 1024 → σ2 5 i = σ 5 i) → Q (.inl (some (.int 0)), σ2)) :
    WP g mX2_merges 0 [(0, .ref (pw_ad g 3)), (1, .int (nI (2 * xk + l0))), (2, .int (nI y0))] [] 0 σ Q := by
  obtain ⟨hq, r1, hl0, hx, rx, b0, rb, ry, nr, er, nc, c2, ec, el⟩ := id h
  have xlim := hq.lt hx
  have ylim := hq.lt h.lvy
  have hin : vp_in (nI (2 * xk + l0)) 1024 := vp_in_nI (by omega) (by decide)
  obtain ⟨e5, b5⟩ := hA (2 * xk + l0) (by omega)
  have hA' : ∀ i, i < 1024 → a i < 512 := fun i hi => (hA i hi).2
  have loop : ∀ n p, p + n = 512 → ∀ σ1 c U O b nac NA nmc NM, p ≤ c → FS S a Rd E xk l0 y0 rk c0 (2 * p) c U O b nac NA → FM S a (σ 4) p U O (σ1 4) nmc NM → PF σ1 c U O b nac NA nmc NM → mrf σ σ1 → WP g mX2_merges 38 [(0, .ref (pw_ad g 3)), (1, .int (nI (2 * xk + l0))), (2, .int (nI y0)), (3, .int (nI (a (2 * xk + l0)))), (4, .int (nI p))] [] 0 σ1 Q := by
    intro n
    induction n with
    | zero =>
      intro p hp σ1 c U O b nac NA nmc NM hpc F M P R
      have := FS.room h F
      omega
    | succ n ih =>
      intro p hp σ1 c U O b nac NA nmc NM hpc F M P R
      have hroom := FS.room h F
      by_cases hpe : p = c
      · subst hpe
        have hle : σ1 3 8 ≤ nI p := by rw [P.1.1]; exact nI_le (by omega) (by omega)
        obtain ⟨r1, r2, r3, r4⟩ := fold_end h F M
        exact bX2_merges_38 (fun _ => k1 σ1 b R P.2.2.2 r1 r2 r3 r4) (fun a => absurd hle a) (fun a => absurd hle a) (fun a => absurd hle a) (fun a => absurd hle a) (fun a => absurd hle a) (fun a => absurd hle a) (fun a => absurd hle a) (fun a => absurd hle a) (fun a => absurd hle a)
      · have hp' : p < c := by omega
        have hge : ¬ σ1 3 8 ≤ nI p := by rw [P.1.1]; exact nI_ge (by omega) (by omega)
        have hg5 : ¬ (512 : Int32) ≤ nI p := nI_ge (b := 512) (by omega) (by decide)
        have ulim := hq.lt (F.2.2.2.2.1 p hp').1
        have olim := hq.lt (F.2.1 p hp').1
        have vp : vp_in (nI p) 512 := vp_in_nI (by omega) (by decide)
        have eu : σ1 9 (nI p).toNatClampNeg = nI (U p) := by rw [nI_clamp (by omega)]; exact (P.1.2 p hp').1
        have eo : σ1 10 (nI p).toNatClampNeg = nI (O p) := by rw [nI_clamp (by omega)]; exact (P.1.2 p hp').2
        refine bX2_merges_38 (fun a => absurd a hge) (fun _ a => absurd a hg5) (fun _ _ => vp) (fun _ _ => by rw [eu]; exact vp_in_nI (by omega) (by decide)) (fun _ _ => vp) (fun _ _ => by rw [eo]; exact vp_in_nI (by omega) (by decide)) (fun _ _ _ => vp) (fun _ _ _ => vp) (fun _ _ hm => ?_) (fun _ _ hm => ?_)
        · rw [eu, eo, nI_clamp (by omega), nI_clamp (by omega)] at hm
          rw [eu, eo]
          refine c_layOver ok h hA' F M P hp' R hm (fun σ2 c' U' O' b' nac' NA' nmc' NM' hc F2 M2 P2 R2 => bX2_merges_114 ?_)
          rw [show nI p + 1 = nI (p + 1) from nI_1 p]
          exact ih (p + 1) (by omega) σ2 c' U' O' b' nac' NA' nmc' NM' (by omega) F2 M2 P2 R2
        · rw [eu, eo, nI_clamp (by omega), nI_clamp (by omega)] at hm
          have hno := M.fail ok h F hp' hm
          refine c_takeBack h hA F M P (by omega) R (fun σ2 R2 e4 e5' => bX2_merges_87 hin ?_)
          rw [nI_clamp (by omega)]
          refine k0 _ hno (R2.set (by decide)) (by rw [pw_set_ne _ _ _ _ (by decide)]; exact e4) (fun i hi => ?_)
          rw [ms_eq]
          by_cases z : i = 2 * xk + l0
          · rw [if_pos z, z, e5]
          · rw [if_neg z]; exact e5' i hi z
  refine bX2_merges_0 hin hin ?_
  rw [nI_clamp (by omega), e5]
  have e8 : pw_set (pw_set (pw_set (pw_set σ 3 10 (0 : Int32)) 3 12 (0 : Int32)) 3 8 (0 : Int32)) 5 (2 * xk + l0) (nI y0) 3 8 = nI 0 := by
    rw [ms_ne _ _ _ _ _ (by decide), ms_same]; rfl
  refine bX2_addPair_0 (by rw [e8]; exact vp_in_nI (by omega) (by decide)) (by rw [e8]; exact vp_in_nI (by omega) (by decide)) (bX2_merges_35 ?_)
  rw [e8, nI_clamp (by omega), show nI 0 + (1 : Int32) = nI 1 from rfl]
  have Fs := FS_start h (U := fun _ => y0) (O := fun _ => a (2 * xk + l0)) (b := fun i => if i = 2 * xk + l0 then y0 else a i) rfl rfl (fun _ => rfl) (fun _ => 0)
  refine loop 512 0 rfl _ 1 _ _ _ 0 (fun _ => 0) 0 (fun _ => 0) (by omega) Fs (FM_start hq (fun x => ?_) _) ⟨⟨ms_same _ _ _ _, fun j hj => ?_⟩, ⟨?_, fun i hi => by omega⟩, ⟨?_, fun i hi => by omega⟩, fun i hi => ?_⟩ (((((((mrf.rf.fld (by omega)).fld (by omega)).fld (by omega)).set (by decide)).set (by decide)).set (by decide)).fld (by omega))
  · rw [ms_ne _ _ _ _ _ (by decide), ms_ne _ _ _ _ _ (by decide), ms_ne _ _ _ _ _ (by decide), ms_ne _ _ _ _ _ (by decide), ms_ne _ _ _ _ _ (by decide), ms_ne _ _ _ _ _ (by decide), ms_ne _ _ _ _ _ (by decide)]
  · have hj : j = 0 := by omega
    subst hj
    rw [ms_ne _ _ _ _ _ (show (9 : Nat) ≠ 3 by decide), ms_ne _ _ _ _ _ (show (9 : Nat) ≠ 10 by decide), ms_same, ms_ne _ _ _ _ _ (show (10 : Nat) ≠ 3 by decide), ms_same]
    exact ⟨rfl, rfl⟩
  · rw [ms_ne2 _ _ _ _ (by decide), ms_ne _ _ _ _ _ (by decide), ms_ne _ _ _ _ _ (by decide), ms_ne _ _ _ _ _ (by decide), ms_ne2 _ _ _ _ (by decide), ms_ne2 _ _ _ _ (by decide), ms_same]; rfl
  · rw [ms_ne2 _ _ _ _ (by decide), ms_ne _ _ _ _ _ (by decide), ms_ne _ _ _ _ _ (by decide), ms_ne _ _ _ _ _ (by decide), ms_ne2 _ _ _ _ (by decide), ms_same]; rfl
  · rw [ms_ne _ _ _ _ _ (by decide), ms_ne _ _ _ _ _ (by decide), ms_ne _ _ _ _ _ (by decide), ms_eq]
    dsimp only
    by_cases z : i = 2 * xk + l0
    · rw [if_pos z, if_pos z]; exact ⟨rfl, ylim.2⟩
    · rw [if_neg z, if_neg z, ms_ne _ _ _ _ _ (by decide), ms_ne _ _ _ _ _ (by decide), ms_ne _ _ _ _ _ (by decide)]; exact hA i hi
end HMC
