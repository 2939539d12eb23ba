/-! merge in the reference -/
section RM
variable {S : Nat → Int32} {E : Nat → Nat → Prop} {rk c0 : Nat}
/-- a partition (by T) between E and the closure, with its marks -/
def TP (S : Nat → Int32) (E : Nat → Nat → Prop) (rk c0 : Nat) (T : Nat → Nat) (tm : Nat → Int32) : Prop :=
  (∀ v w, Nn S v → Nn S w → E v w → T (v - 1) = T (w - 1)) ∧ (∀ v w, Nn S v → Nn S w → T (v - 1) = T (w - 1) → cl S E rk c0 v w) ∧
  (∀ v, Nn S v → ¬ S v = 0 → tm (T (v - 1)) = S v) ∧ (∀ v, Nn S v → ¬ tm (T (v - 1)) = 0 → ∃ w, Nn S w ∧ T (w - 1) = T (v - 1) ∧ S w = tm (T (v - 1)))
def unT (T : Nat → Nat) (x y : Nat) (j : Nat) : Nat := if T j = y then x else T j
theorem TP.in3 (ok : okS S) {T : Nat → Nat} {tm : Nat → Int32} (h : TP S E rk c0 T tm) {v : Nat} (hv : Nn S v) : tm (T (v - 1)) = -1 ∨ tm (T (v - 1)) = 0 ∨ tm (T (v - 1)) = 1 := by
  by_cases z : tm (T (v - 1)) = 0
  · exact Or.inr (Or.inl z)
  · obtain ⟨w, _, _, e⟩ := h.2.2.2 v hv z
    rw [← e]; exact ok w
theorem TP.fail (ok : okS S) {T : Nat → Nat} {tm : Nat → Int32} (h : TP S E rk c0 T tm) {v w : Nat} (hv : Nn S v) (hw : Nn S w) (hc : cl S E rk c0 v w) (hm : ¬ 0 ≤ tm (T (v - 1)) * tm (T (w - 1))) : ¬ Cons S (cl S E rk c0) := by
  have hh : ¬ (tm (T (v - 1)) = 0 ∨ tm (T (w - 1)) = 0 ∨ tm (T (v - 1)) = tm (T (w - 1))) := fun z => hm ((mul3 (h.in3 ok hv) (h.in3 ok hw)).mpr z)
  have g := cl_Cg S E rk c0
  obtain ⟨v', v1, v2, v3⟩ := h.2.2.2 v hv (fun z => hh (Or.inl z))
  obtain ⟨w', w1, w2, w3⟩ := h.2.2.2 w hw (fun z => hh (Or.inr (Or.inl z)))
  intro hcons
  have := hcons v' w' v1 w1 (g.2.2.1 _ _ _ (h.2.1 v' v v1 hv v2) (g.2.2.1 _ _ _ hc (g.2.1 _ _ (h.2.1 w' w w1 hw w2)))) (by rw [v3]; exact fun z => hh (Or.inl z)) (by rw [w3]; exact fun z => hh (Or.inr (Or.inl z)))
  exact hh (Or.inr (Or.inr (by rw [← v3, this, w3])))
theorem TP.un (ok : okS S) {T : Nat → Nat} {tm : Nat → Int32} (h : TP S E rk c0 T tm) {v w : Nat} (hv : Nn S v) (hw : Nn S w) (hc : cl S E rk c0 v w) (hm : 0 ≤ tm (T (v - 1)) * tm (T (w - 1))) (hne : T (v - 1) ≠ T (w - 1)) :
    TP S E rk c0 (unT T (T (v - 1)) (T (w - 1))) (upd tm (T (v - 1)) (if tm (T (v - 1)) = 0 then tm (T (w - 1)) else tm (T (v - 1)))) := by
  have g := cl_Cg S E rk c0
  have m3 := (mul3 (h.in3 ok hv) (h.in3 ok hw)).mp hm
  have hN := h.2.2.2
  obtain ⟨h1, h2, h3, h4⟩ := h
  generalize hx : T (v - 1) = x at *
  generalize hy : T (w - 1) = y at *
  have un_y : ∀ j, T j = y → unT T x y j = x := fun j e => by rw [unT, if_pos e]
  have un_n : ∀ j, ¬ T j = y → unT T x y j = T j := fun j e => by rw [unT, if_neg e]
  have up_x : upd tm x (if tm x = 0 then tm y else tm x) x = if tm x = 0 then tm y else tm x := by rw [upd, if_pos rfl]
  have up_n : ∀ i, ¬ i = x → upd tm x (if tm x = 0 then tm y else tm x) i = tm i := fun i hi => by rw [upd, if_neg hi]
  refine ⟨fun a b ha hb e => ?_, fun a b ha hb e => ?_, fun a ha h0 => ?_, fun a ha h0 => ?_⟩
  · have := h1 a b ha hb e
    rw [unT, unT, this]
  · have toV : ∀ a, Nn S a → unT T x y (a - 1) = x → cl S E rk c0 a v := fun a ha e => by
      by_cases z : T (a - 1) = y
      · exact g.2.2.1 _ _ _ (h2 a w ha hw (z.trans hy.symm)) (g.2.1 _ _ hc)
      · rw [un_n _ z] at e
        exact h2 a v ha hv (e.trans hx.symm)
    by_cases z : unT T x y (a - 1) = x
    · exact g.2.2.1 _ _ _ (toV a ha z) (g.2.1 _ _ (toV b hb (e ▸ z)))
    · have za : ¬ T (a - 1) = y := fun q => z (un_y _ q)
      have zb : ¬ T (b - 1) = y := fun q => z (e.trans (un_y _ q))
      rw [un_n _ za, un_n _ zb] at e
      exact h2 a b ha hb e
  · have e3 := h3 a ha h0
    by_cases z : T (a - 1) = y
    · rw [un_y _ z, up_x]
      rw [z] at e3
      by_cases z2 : tm x = 0
      · rw [if_pos z2]; exact e3
      · rw [if_neg z2]
        rcases m3 with q | q | q
        · exact absurd q z2
        · rw [e3] at q; exact absurd q h0
        · rw [q]; exact e3
    · rw [un_n _ z]
      by_cases z1 : T (a - 1) = x
      · rw [z1, up_x]
        rw [z1] at e3
        rw [if_neg (by rw [e3]; exact h0)]
        exact e3
      · rw [up_n _ z1]; exact e3
  · by_cases zx : unT T x y (a - 1) = x
    · rw [zx, up_x] at h0 ⊢
      by_cases z2 : tm x = 0
      · rw [if_pos z2] at h0 ⊢
        obtain ⟨b, b1, b2, b3⟩ := hN w hw (by rw [hy]; exact h0)
        rw [hy] at b2 b3
        exact ⟨b, b1, un_y _ b2, b3⟩
      · rw [if_neg z2] at h0 ⊢
        obtain ⟨b, b1, b2, b3⟩ := hN v hv (by rw [hx]; exact h0)
        rw [hx] at b2 b3
        exact ⟨b, b1, by rw [un_n _ (by rw [b2]; exact hne)]; exact b2, b3⟩
    · have za : ¬ T (a - 1) = y := fun q => zx (un_y _ q)
      have zx' := zx
      rw [un_n _ za] at zx' h0 ⊢
      rw [up_n _ zx'] at h0 ⊢
      obtain ⟨b, b1, b2, b3⟩ := h4 a ha h0
      exact ⟨b, b1, by rw [un_n _ (by rw [b2]; exact za)]; exact b2, b3⟩
/-- fewer numbers of blocks -/
theorem TP.less {T : Nat → Nat} {v w : Nat} (hv : Nn S v) (hw : Nn S w) (hlt : T (w - 1) < 511) (hne : T (v - 1) ≠ T (w - 1)) : fN (fun i => ∃ u, Nn S u ∧ unT T (T (v - 1)) (T (w - 1)) (u - 1) = i) 511 < fN (fun i => ∃ u, Nn S u ∧ T (u - 1) = i) 511 := by
  refine fN_lt (fun i ⟨u, hu, e⟩ => ?_) (c := T (w - 1)) ⟨w, hw, rfl⟩ (fun ⟨u, hu, e⟩ => ?_) 511 hlt
  · by_cases z : T (u - 1) = T (w - 1)
    · rw [unT, if_pos z] at e; exact ⟨v, hv, e⟩
    · rw [unT, if_neg z] at e; exact ⟨u, hu, e⟩
  · by_cases z : T (u - 1) = T (w - 1)
    · rw [unT, if_pos z] at e; exact hne e
    · rw [unT, if_neg z] at e; exact z e
end RM
section HMM
variable {g : pw_G} {σ : pw_Mem} {Q : pw_R → Prop} {S : Nat → Int32} {E : Nat → Nat → Prop} {rk c0 : Nat} {T : Nat → Nat}
def mT (σ : pw_Mem) (T : Nat → Nat) : Prop := ∀ j, j < 511 → σ 34 j = nI (T j) ∧ T j < 511
def mN (S : Nat → Int32) (σ : pw_Mem) : Prop := ∀ w, 1 ≤ w → w < 512 → (Nn S w → σ 31 (w - 1) = 1) ∧ (¬ Nn S w → σ 31 (w - 1) = 0)
theorem mN.fr {σ σ' : pw_Mem} {l f : List Nat} (h : mN S σ) (hf : mfr l f σ σ') (h1 : 31 ∉ l) : mN S σ' := by
  unfold mN
  rw [hf.1 31 (by decide) h1]
  exact h
theorem m_unite {x y : Nat} (hx : x < 511) (hy : y < 511) (hT : mT σ T) (k0 : ¬ 0 ≤ σ 35 x * σ 35 y → Q (.inl (some (.int 0)), σ)) (k1 : 0 ≤ σ 35 x * σ 35 y → ∀ σ', mfr [34, 35] [] σ σ' → mT σ' (unT T x y) → σ' 35 = upd (σ 35) x (if σ 35 x = 0 then σ 35 y else σ 35 x) → Q (.inl (some (.int 1)), σ')) : WP g mX5_unite 0 [(0, .ref (pw_ad g 29)), (1, .int (nI x)), (2, .int (nI y))] [] 0 σ Q := by
  have loop : 0 ≤ σ 35 x * σ 35 y → ∀ n i, i + n = 511 → ∀ σ1, mfr [34, 35] [] σ σ1 → (∀ j, j < 511 → σ1 34 j = nI (if j < i then unT T x y j else T j)) → σ1 35 = upd (σ 35) x (if σ 35 x = 0 then σ 35 y else σ 35 x) → WP g mX5_unite 50 [(0, .ref (pw_ad g 29)), (1, .int (nI x)), (2, .int (nI y)), (3, .int (nI i))] [] 0 σ1 Q := by
    intro hm n
    induction n with
    | zero =>
      intro i hi σ1 f1 e34 e35
      have hi : i = 511 := by omega
      subst hi
      refine bX5_unite_50 (fun _ => k1 hm σ1 f1 (fun j hj => ⟨by rw [e34 j hj, if_pos hj], ?_⟩) e35) (fun z => absurd (by decide) z) (fun z => absurd (by decide) z) (fun z => absurd (by decide) z) (fun z => absurd (by decide) z) (fun z => absurd (by decide) z) (fun z => absurd (by decide) z)
      rw [unT]
      split
      · exact hx
      · exact (hT j hj).2
    | succ n ih =>
      intro i hi σ1 f1 e34 e35
      have hin : vp_in (nI i) 511 := vp_in_nI (by omega) (by decide)
      have hge : ¬ (511 : Int32) ≤ nI i := nI_ge (b := 511) (by omega) (by decide)
      have ei : σ1 34 i = nI (T i) := by rw [e34 i (by omega), if_neg (by omega)]
      have ti := (hT i (by omega)).2
      refine bX5_unite_50 (fun z => absurd z hge) (fun _ => hin) (fun _ _ => hin) (fun _ _ => hin) (fun _ z => ?_) (fun _ _ => hin) (fun _ z => ?_)
      all_goals
        rw [nI_clamp (by omega), ei, nI_eq (by omega) (by omega)] at z
        rw [nI_clamp (by omega), show nI i + 1 = nI (i + 1) from nI_1 i]
        refine ih (i + 1) (by omega) _ (f1.set (by decide) (by decide)) (fun j hj => ?_) (by rw [pw_set_ne _ _ _ _ (by decide)]; exact e35)
        rw [ms_eq]
        by_cases q : j = i
        · rw [if_pos q, if_pos (by omega), q, unT]
          first
            | rw [if_pos z]
            | rw [if_neg z, ei]
        · rw [if_neg q, e34 j hj]
          by_cases q2 : j < i
          · rw [if_pos q2, if_pos (by omega)]
          · rw [if_neg q2, if_neg (by omega)]
  have cx : (nI x).toNatClampNeg = x := nI_clamp (by omega)
  have cy : (nI y).toNatClampNeg = y := nI_clamp (by omega)
  have vx : vp_in (nI x) 511 := vp_in_nI hx (by decide)
  have vy : vp_in (nI y) 511 := vp_in_nI hy (by decide)
  have start : ∀ z : Int32, z = (if σ 35 x = 0 then σ 35 y else σ 35 x) → 0 ≤ σ 35 x * σ 35 y → WP g mX5_unite 50 [(0, .ref (pw_ad g 29)), (1, .int (nI x)), (2, .int (nI y)), (3, .int (0 : Int32))] [] 0 (pw_set σ 35 x z) Q := fun z hz hm => by
    refine loop hm 511 0 rfl _ (mfr.rf.set (by decide) (by decide)) (fun j hj => ?_) (by rw [pw_set_eq, hz])
    rw [ms_ne _ _ _ _ _ (by decide), if_neg (by omega)]
    exact (hT j hj).1
  have gg := @bX5_unite_0 g σ Q (nI x) (nI y)
  rw [cx, cy] at gg
  exact gg vx vy (fun _ => vx) (fun _ _ => vy) (fun _ _ => vx) (fun hm z => start _ (by rw [if_pos z]) hm) (fun _ _ => vx) (fun _ _ => vx) (fun hm z => start _ (by rw [if_neg z]) hm) k0
/-- what stands behind the blocks, of the children before u0 -/
def Bh (S : Nat → Int32) (T : Nat → Nat) (e : Nat → Int32) (u0 : Nat) : Prop := ∀ i, i < 1022 → (e i = -1 ∧ ∀ u, 2 ≤ u → u < u0 → Nn S u → 2 * T (u / 2 - 1) + u % 2 ≠ i) ∨ ∃ u, 2 ≤ u ∧ u < u0 ∧ Nn S u ∧ 2 * T (u / 2 - 1) + u % 2 = i ∧ e i = nI (T (u - 1)) ∧ ∀ u', 2 ≤ u' → u' < u0 → Nn S u' → 2 * T (u' / 2 - 1) + u' % 2 = i → T (u' - 1) = T (u - 1)
theorem Bh.skip {e : Nat → Int32} {u0 : Nat} (h : Bh S T e u0) (hn : ¬ Nn S u0) : Bh S T e (u0 + 1) := by
  intro i hi
  rcases h i hi with ⟨a, b⟩ | ⟨u, u1, u2, u3, u4, u5, u6⟩
  · refine Or.inl ⟨a, fun u h1 h2 h3 => ?_⟩
    by_cases z : u = u0
    · exact absurd (z ▸ h3) hn
    · exact b u h1 (by omega) h3
  · refine Or.inr ⟨u, u1, by omega, u3, u4, u5, fun u' h1 h2 h3 => ?_⟩
    by_cases z : u' = u0
    · exact absurd (z ▸ h3) hn
    · exact u6 u' h1 (by omega) h3
theorem Bh.put {e : Nat → Int32} {u0 : Nat} (h : Bh S T e u0) (h2 : 2 ≤ u0) (hn : Nn S u0) (hs : ∀ u, 2 ≤ u → u < u0 → Nn S u → 2 * T (u / 2 - 1) + u % 2 = 2 * T (u0 / 2 - 1) + u0 % 2 → T (u - 1) = T (u0 - 1)) : Bh S T (upd e (2 * T (u0 / 2 - 1) + u0 % 2) (nI (T (u0 - 1)))) (u0 + 1) := by
  intro i hi
  rw [upd]
  by_cases z : i = 2 * T (u0 / 2 - 1) + u0 % 2
  · rw [if_pos z]
    refine Or.inr ⟨u0, h2, by omega, hn, z.symm, rfl, fun u' a1 a2 a3 a4 => ?_⟩
    by_cases y : u' = u0
    · rw [y]
    · exact hs u' a1 (by omega) a3 (by omega)
  · rw [if_neg z]
    rcases h i hi with ⟨a, b⟩ | ⟨u, u1, u2, u3, u4, u5, u6⟩
    · refine Or.inl ⟨a, fun u a1 a2 a3 => ?_⟩
      by_cases y : u = u0
      · rw [y]; omega
      · exact b u a1 (by omega) a3
    · refine Or.inr ⟨u, u1, by omega, u3, u4, u5, fun u' a1 a2 a3 a4 => ?_⟩
      by_cases y : u' = u0
      · rw [y] at a4; omega
      · exact u6 u' a1 (by omega) a3 a4
theorem m_findTwins (hN : mN S σ) (hT : mT σ T)
    (k0 : (∀ u u', 2 ≤ u → 2 ≤ u' → Nn S u → Nn S u' → T (u / 2 - 1) = T (u' / 2 - 1) → u % 2 = u' % 2 → T (u - 1) = T (u' - 1)) → ∀ σ', mfr [36] [24, 25] σ σ' → Q (.inl (some (.int 0)), σ'))
    (k1 : ∀ u u', 2 ≤ u → 2 ≤ u' → Nn S u → Nn S u' → T (u / 2 - 1) = T (u' / 2 - 1) → u % 2 = u' % 2 → T (u - 1) ≠ T (u' - 1) → ∀ σ', mfr [36] [24, 25] σ σ' → σ' 29 24 = nI (T (u - 1)) → σ' 29 25 = nI (T (u' - 1)) → Q (.inl (some (.int 1)), σ')) : WP g mX5_findTwins 0 [(0, .ref (pw_ad g 29))] [] 0 σ Q := by
  have inner : ∀ v, 1 ≤ v → v < 256 → (∀ σ', mfr [36] [24, 25] σ σ' → Bh S T (σ' 36) (2 * (v + 1)) → WP g mX5_findTwins 24 [(0, .ref (pw_ad g 29)), (1, .int (nI v))] [] 0 σ' Q) → ∀ n l, l + n = 2 → ∀ σ1, mfr [36] [24, 25] σ σ1 → Bh S T (σ1 36) (2 * v + l) → WP g mX5_findTwins 33 [(0, .ref (pw_ad g 29)), (1, .int (nI (v - 1))), (2, .int (nI l))] [] 0 σ1 Q := by
    intro v v1 v2 next n
    induction n with
    | zero =>
      intro l hl σ1 f1 B1
      have hl : l = 2 := by omega
      subst hl
      refine bX5_findTwins_33 (fun _ => ?_) (fun z => absurd (by decide) z) (fun z => absurd (by decide) z) (fun z => absurd (by decide) z)
      rw [show nI (v - 1) + 1 = nI v by rw [nI_1]; congr 1; omega]
      exact wp_sub [0, 1] rfl (next σ1 f1 B1)
    | succ n ih =>
      intro l hl σ1 f1 B1
      have hl2 : l < 2 := by omega
      have N1 := hN.fr f1 (by decide)
      have T1 : ∀ j, j < 511 → σ1 34 j = nI (T j) ∧ T j < 511 := fun j hj => by rw [f1.1 34 (by decide) (by decide)]; exact hT j hj
      have hge : ¬ (2 : Int32) ≤ nI l := nI_ge (b := 2) (by omega) (by decide)
      have cv : (nI (v - 1)).toNatClampNeg = v - 1 := nI_clamp (by omega)
      have vv : vp_in (nI (v - 1)) 511 := vp_in_nI (by omega) (by decide)
      refine bX5_findTwins_33 (fun z => absurd z hge) (fun _ => vv) (fun _ z => ?_) (fun _ z => ?_)
      · rw [cv] at z
        have hv : ¬ Nn S v := fun q => absurd ((N1 v v1 (by omega)).1 q ▸ z) (by decide)
        have hc : ∀ l, l < 2 → ¬ Nn S (2 * v + l) := fun l hl q => hv (Nn_up S v1 hl q)
        rw [show nI (v - 1) + 1 = nI v by rw [nI_1]; congr 1; omega]
        refine wp_sub [0, 1] rfl (next σ1 f1 ?_)
        rcases (show l = 0 ∨ l = 1 by omega) with rfl | rfl
        · exact (B1.skip (hc 0 (by omega))).skip (hc 1 (by omega))
        · exact B1.skip (hc 1 (by omega))
      · have hc2 : 2 * v + l < 512 := by omega
        refine m_followed (w := v) v1 ?_
        obtain ⟨tv, tvl⟩ := T1 (v - 1) (by omega)
        obtain ⟨tc, tcl⟩ := T1 (2 * v + l - 1) (by omega)
        have cc : (nI (2 * v + l - 1)).toNatClampNeg = 2 * v + l - 1 := nI_clamp (by omega)
        have vc : vp_in (nI (2 * v + l - 1)) 511 := vp_in_nI (by omega) (by decide)
        have ea : (2 : Int32) * σ1 34 (v - 1) + nI l = nI (2 * T (v - 1) + l) := by rw [tv, ar2]
        have ca : (nI (2 * T (v - 1) + l)).toNatClampNeg = 2 * T (v - 1) + l := nI_clamp (by omega)
        have va : vp_in (nI (2 * T (v - 1) + l)) 1022 := vp_in_nI (by omega) (by decide)
        have e9 : nI l + 1 = nI (l + 1) := nI_1 l
        have eh : (2 * v + l) / 2 = v := by omega
        have em : (2 * v + l) % 2 = l := by omega
        have skip : σ1 31 (2 * v + l - 1) = 0 → WP g mX5_findTwins 33 [(0, .ref (pw_ad g 29)), (1, .int (nI (v - 1))), (2, .int (nI l + 1)), (3, .int (nI (2 * v + l - 1))), (4, .int (nI (2 * T (v - 1) + l)))] [] 0 σ1 Q := fun z => by
          have hn : ¬ Nn S (2 * v + l) := fun q => absurd ((N1 _ (by omega) hc2).1 q ▸ z) (by decide)
          rw [e9]
          exact wp_sub [0, 1, 2] rfl (ih (l + 1) (by omega) σ1 f1 (B1.skip hn))
        have put : ¬ σ1 31 (2 * v + l - 1) = 0 → (σ1 36 (2 * T (v - 1) + l) < 0 ∨ σ1 36 (2 * T (v - 1) + l) = σ1 34 (2 * v + l - 1)) → WP g mX5_findTwins 33 [(0, .ref (pw_ad g 29)), (1, .int (nI (v - 1))), (2, .int (nI l + 1)), (3, .int (nI (2 * v + l - 1))), (4, .int (nI (2 * T (v - 1) + l)))] [] 0 (pw_set σ1 36 (2 * T (v - 1) + l) (σ1 34 (2 * v + l - 1))) Q := fun z zz => by
          have hn : Nn S (2 * v + l) := Classical.byContradiction fun q => z ((N1 _ (by omega) hc2).2 q)
          rw [e9]
          refine wp_sub [0, 1, 2] rfl (ih (l + 1) (by omega) _ (f1.set (by decide) (by decide)) ?_)
          have := B1.put (by omega) hn (fun u u1 u2 u3 u4 => ?_)
          · rw [eh, em] at this
            rw [pw_set_eq, tc]; exact this
          · rw [eh, em] at u4
            rcases B1 (2 * T (v - 1) + l) (by omega) with ⟨a, b⟩ | ⟨w, w1, w2, w3, w4, w5, w6⟩
            · exact absurd u4 (b u u1 u2 u3)
            · have tw := (T1 (w - 1) (by have := (Nn_lt S w3).2; omega)).2
              rw [w6 u u1 u2 u3 u4]
              rcases zz with q | q
              · rw [w5] at q; exact absurd q (nI_pos (by omega))
              · rw [w5, tc] at q; exact (nI_eq (by omega) (by omega)).mp q
        have gg := @bX5_findTwins_52 g σ1 Q (nI (2 * v + l - 1)) (nI (v - 1)) (nI l)
        rw [cv, cc, ea, ca] at gg
        exact gg vv vc (fun _ => vc) (fun z _ => skip z) (fun a b => absurd a b) (fun a b => absurd a b) (fun a b => absurd a b) (fun _ => va) (fun _ _ => vc) (fun a _ b => absurd b a) (fun _ _ _ => vc) (fun _ _ _ => va) (fun a b _ => put a (Or.inl b)) (fun _ _ => va) (fun _ _ => vc) (fun _ _ _ => vc) (fun a _ _ b => absurd b a) (fun _ _ _ _ => vc) (fun _ _ _ _ => va) (fun a _ b _ => put a (Or.inr b)) (fun _ _ _ => va) (fun _ _ _ => vc) (fun a b c => by
          have hn : Nn S (2 * v + l) := Classical.byContradiction fun q => a ((N1 _ (by omega) hc2).2 q)
          rcases B1 (2 * T (v - 1) + l) (by omega) with ⟨z, _⟩ | ⟨w, w1, w2, w3, w4, w5, w6⟩
          · rw [z] at b; exact absurd (by decide) b
          · have ew : T (w / 2 - 1) = T (v - 1) := by omega
            have el : w % 2 = l := by omega
            refine k1 w (2 * v + l) w1 (by omega) w3 hn (by rw [eh]; exact ew) (by rw [em]; exact el) (fun q => c (by rw [w5, tc, q])) _ ((f1.fld (by decide)).fld (by decide)) ?_ (by rw [ms_same, tc])
            rw [ms_ne2 _ _ _ _ (by decide), ms_same, w5])
  have outer : ∀ n v, v + n = 256 → 1 ≤ v → ∀ σ1, mfr [36] [24, 25] σ σ1 → Bh S T (σ1 36) (2 * v) → WP g mX5_findTwins 24 [(0, .ref (pw_ad g 29)), (1, .int (nI (v - 1)))] [] 0 σ1 Q := by
    intro n
    induction n with
    | zero =>
      intro v hv v1 σ1 f1 B1
      have hv : v = 256 := by omega
      subst hv
      refine bX5_findTwins_24 (fun _ => k0 (fun u u' h1 h2 h3 h4 h5 h6 => ?_) σ1 f1) (fun z => absurd (by decide) z)
      have l1 := Nn_lt S h3
      have l2 := Nn_lt S h4
      have tl := (hT (u / 2 - 1) (by omega)).2
      rcases B1 (2 * T (u / 2 - 1) + u % 2) (by omega) with ⟨_, b⟩ | ⟨w, w1, w2, w3, w4, w5, w6⟩
      · exact absurd rfl (b u h1 (by omega) h3)
      · rw [w6 u h1 (by omega) h3 rfl, w6 u' h2 (by omega) h4 (by rw [← h5, ← h6])]
    | succ n ih =>
      intro v hv v1 σ1 f1 B1
      refine bX5_findTwins_24 (fun z => absurd z (nI_ge (a := v - 1) (b := 255) (by omega) (by decide))) (fun _ => ?_)
      exact inner v v1 (by omega) (fun σ' f' B' => ih (v + 1) (by omega) (by omega) σ' f' B') 2 0 rfl σ1 f1 B1
  have clear : ∀ n i, i + n = 1022 → ∀ σ1, mfr [36] [24, 25] σ σ1 → (∀ j, j < i → σ1 36 j = -1) → WP g mX5_findTwins 2 [(0, .ref (pw_ad g 29)), (1, .int (nI i))] [] 0 σ1 Q := by
    intro n
    induction n with
    | zero =>
      intro i hi σ1 f1 e1
      have hi : i = 1022 := by omega
      subst hi
      exact bX5_findTwins_2 (fun _ => outer 255 1 rfl (by omega) σ1 f1 (fun i hi => Or.inl ⟨e1 i hi, fun u h1 h2 => by omega⟩)) (fun z => absurd (by decide) z) (fun z => absurd (by decide) z)
    | succ n ih =>
      intro i hi σ1 f1 e1
      refine bX5_findTwins_2 (fun z => absurd z (nI_ge (b := 1022) (by omega) (by decide))) (fun _ => vp_in_nI (by omega) (by decide)) (fun _ => ?_)
      rw [nI_clamp (by omega), show nI i + 1 = nI (i + 1) from nI_1 i]
      refine ih (i + 1) (by omega) _ (f1.set (by decide) (by decide)) (fun j hj => ?_)
      rw [ms_eq]
      by_cases z : j = i
      · rw [if_pos z]
      · rw [if_neg z]; exact e1 j (by omega)
  exact bX5_findTwins_0 (clear 1022 0 rfl σ mfr.rf (fun j hj => by omega))
/-- the blocks of the reference: numbers by nodes, marks by numbers *)-/
def mB (S : Nat → Int32) (σ : pw_Mem) (E : Nat → Nat → Prop) (β : Nat → Nat) : Prop := (∀ j, j < 511 → σ 32 j = nI (β j) ∧ β j < 511) ∧ (∀ v w, Nn S v → Nn S w → (E v w ↔ β (v - 1) = β (w - 1))) ∧ (∀ v, Nn S v → ¬ S v = 0 → σ 33 (β (v - 1)) = S v) ∧ ∀ v, Nn S v → ¬ σ 33 (β (v - 1)) = 0 → ∃ w, Nn S w ∧ β (w - 1) = β (v - 1) ∧ S w = σ 33 (β (v - 1))
theorem m_merge {β : Nat → Nat} (ok : okS S) (hN : mN S σ) (hB : mB S σ E β) (nr : Nn S rk) (nc : Nn S c0) (hne : ¬ E rk c0)
    (k1 : ∀ σ' β', mfr [32, 33, 34, 35, 36] [24, 25] σ σ' → mB S σ' (cl S E rk c0) β' → Cons S (cl S E rk c0) → Q (.inl (some (.int 1)), σ'))
    (k0 : ∀ σ', ¬ Cons S (cl S E rk c0) → mfr [34, 35, 36] [24, 25] σ σ' → Q (.inl (some (.int 0)), σ')) : WP g mX5_merge 0 [(0, .ref (pw_ad g 29)), (1, .int (nI (rk - 1))), (2, .int (nI (c0 - 1)))] [] 0 σ Q := by
  obtain ⟨h1, h2, h3, h4⟩ := hB
  have lr := Nn_lt S nr
  have lc := Nn_lt S nc
  have g9 := cl_Cg S E rk c0
  -- the end: what was tried is taken
  have fin : ∀ T, Cons S (cl S E rk c0) → (∀ v w, Nn S v → Nn S w → (cl S E rk c0 v w ↔ T (v - 1) = T (w - 1))) → ∀ tm : Nat → Int32, (∀ v, Nn S v → ¬ S v = 0 → tm (T (v - 1)) = S v) → (∀ v, Nn S v → ¬ tm (T (v - 1)) = 0 → ∃ w, Nn S w ∧ T (w - 1) = T (v - 1) ∧ S w = tm (T (v - 1))) → ∀ x3 n i, i + n = 511 → ∀ σ1, mfr [32, 33, 34, 35, 36] [24, 25] σ σ1 → mT σ1 T → (∀ j, j < 511 → σ1 35 j = tm j) → (∀ j, j < i → σ1 32 j = nI (T j)) → (∀ j, j < i → σ1 33 j = tm j) → WP g mX5_merge 92 [(0, .ref (pw_ad g 29)), (1, .int (nI (rk - 1))), (2, .int (nI (c0 - 1))), (3, .int x3), (4, .int (nI i))] [] 0 σ1 Q := by
    intro T hc hk tm t1 t2 x3 n
    induction n with
    | zero =>
      intro i hi σ1 f1 hT e35 e32 e33
      have hi : i = 511 := by omega
      subst hi
      have tl : ∀ v, Nn S v → T (v - 1) < 511 := fun v hv => (hT (v - 1) (by have := Nn_lt S hv; omega)).2
      refine bX5_merge_92 (fun _ => k1 σ1 T f1 ⟨fun j hj => ⟨e32 j hj, (hT j hj).2⟩, hk, fun v hv h0 => ?_, fun v hv h0 => ?_⟩ hc) (fun z => absurd (by decide) z) (fun z => absurd (by decide) z) (fun z => absurd (by decide) z) (fun z => absurd (by decide) z) (fun z => absurd (by decide) z)
      · rw [e33 _ (tl v hv)]; exact t1 v hv h0
      · rw [e33 _ (tl v hv)] at h0 ⊢; exact t2 v hv h0
    | succ n ih =>
      intro i hi σ1 f1 hT e35 e32 e33
      have hin : vp_in (nI i) 511 := vp_in_nI (by omega) (by decide)
      refine bX5_merge_92 (fun z => absurd z (nI_ge (b := 511) (by omega) (by decide))) (fun _ => hin) (fun _ => hin) (fun _ => hin) (fun _ => hin) (fun _ => ?_)
      rw [nI_clamp (by omega), show nI i + 1 = nI (i + 1) from nI_1 i]
      refine ih (i + 1) (by omega) _ ((f1.set (by decide) (by decide)).set (by decide) (by decide)) (fun j hj => ?_) (fun j hj => ?_) (fun j hj => ?_) (fun j hj => ?_)
      · rw [ms_ne _ _ _ _ _ (by decide), ms_ne _ _ _ _ _ (by decide)]; exact hT j hj
      · rw [ms_ne _ _ _ _ _ (by decide), ms_ne _ _ _ _ _ (by decide)]; exact e35 j hj
      · rw [ms_ne _ _ _ _ _ (by decide), ms_eq]
        by_cases z : j = i
        · rw [if_pos z, z]; exact (hT i (by omega)).1
        · rw [if_neg z]; exact e32 j (by omega)
      · rw [ms_eq]
        by_cases z : j = i
        · rw [if_pos z, z]; exact e35 i (by omega)
        · rw [if_neg z, ms_ne _ _ _ _ _ (by decide)]; exact e33 j (by omega)
  -- the twins
  have twins : ∀ n T σ1, fN (fun i => ∃ u, Nn S u ∧ T (u - 1) = i) 511 ≤ n → mfr [34, 35, 36] [24, 25] σ σ1 → mT σ1 T → TP S E rk c0 T (σ1 35) → T (rk - 1) = T (c0 - 1) → WP g mX5_merge 56 [(0, .ref (pw_ad g 29)), (1, .int (nI (rk - 1))), (2, .int (nI (c0 - 1))), (3, .int 1)] [] 0 σ1 Q := by
    intro n
    induction n with
    | zero =>
      intro T σ1 hn f1 hT hP e
      exfalso
      have tl : T (rk - 1) < 511 := (hT (rk - 1) (by omega)).2
      have := fN_lt (P := fun _ => False) (P' := fun i => ∃ u, Nn S u ∧ T (u - 1) = i) (fun _ z => z.elim) (c := T (rk - 1)) ⟨rk, nr, rfl⟩ (fun z => z) 511 tl
      omega
    | succ n ih =>
      intro T σ1 hn f1 hT hP e
      refine bX5_merge_56 (fun z => absurd z (by decide)) (fun z => absurd z (by decide)) (fun _ => ?_)
      refine m_findTwins (hN.fr f1 (by decide)) hT (fun hcl σ2 f2 => bX5_merge_64 (fun _ _ => ?_) (fun _ z => absurd z (by decide)) (fun z => absurd rfl z)) (fun u u' u1 u2 u3 u4 u5 u6 u7 σ2 f2 e24 e25 => bX5_merge_64 (fun z => absurd z (by decide)) (fun z => absurd z (by decide)) (fun _ => ?_))
      · have key : ∀ v w, Nn S v → Nn S w → (cl S E rk c0 v w ↔ T (v - 1) = T (w - 1)) := fun v w hv hw => by
          constructor
          · intro hc
            refine hc (fun v w => T (v - 1) = T (w - 1)) ⟨fun _ _ => rfl, fun _ _ q => q.symm, fun _ _ _ q r => q.trans r, fun v w l v1 w1 hl nv nw q => ?_⟩ (fun x y hx hy q => hP.1 x y hx hy q) e
            exact hcl (2 * v + l) (2 * w + l) (by omega) (by omega) nv nw (by rw [show (2 * v + l) / 2 = v by omega, show (2 * w + l) / 2 = w by omega]; exact q) (by omega)
          · exact hP.2.1 v w hv hw
        have e35 : ∀ j, σ2 35 j = σ1 35 j := fun j => by rw [f2.1 35 (by decide) (by decide)]
        have hcons : Cons S (cl S E rk c0) := fun v w hv hw q s1 s2 => by
          rw [← hP.2.2.1 v hv s1, ← hP.2.2.1 w hw s2, (key v w hv hw).mp q]
        exact fin T hcons key (σ1 35) hP.2.2.1 hP.2.2.2 1 511 0 rfl σ2 ((f1.mono (by decide) (by decide)).tr (f2.mono (by decide) (by decide))) (fun j hj => by rw [f2.1 34 (by decide) (by decide)]; exact hT j hj) (fun j _ => e35 j) (fun j hj => by omega) (fun j hj => by omega)
      · have lu := Nn_lt S u3
        have lu' := Nn_lt S u4
        have t1 := (hT (u - 1) (by omega)).2
        have t2 := (hT (u' - 1) (by omega)).2
        have hT2 : mT σ2 T := fun j hj => by rw [f2.1 34 (by decide) (by decide)]; exact hT j hj
        have e35 : σ2 35 = σ1 35 := f2.1 35 (by decide) (by decide)
        have hc : cl S E rk c0 u u' := g9.half S u1 u2 u3 u4 u6 (hP.2.1 _ _ (Nn_half S u1 u3) (Nn_half S u2 u4) u5)
        have f12 : mfr [34, 35, 36] [24, 25] σ σ2 := f1.tr (f2.mono (by decide) (by decide))
        rw [e24, e25]
        refine m_unite t1 t2 hT2 (fun z => bX5_merge_79 (bX5_merge_56 (fun _ y => absurd rfl y) (fun _ _ => k0 σ2 ?_ f12) (fun y => absurd rfl y))) (fun z σ3 f3 hT3 e3 => bX5_merge_79 ?_)
        · rw [e35] at z
          exact hP.fail ok u3 u4 hc z
        · rw [e35] at z e3
          refine ih _ σ3 ?_ (f12.tr (f3.mono (by decide) (by decide))) hT3 ?_ ?_
          · have := TP.less (T := T) u3 u4 t2 u7
            omega
          · rw [e3]; exact hP.un ok u3 u4 hc z u7
          · rw [unT, unT, e]
  -- the beginning
  have begin9 : ∀ n i, i + n = 511 → ∀ σ1, mfr [34, 35, 36] [24, 25] σ σ1 → (∀ j, j < i → σ1 34 j = nI (β j)) → (∀ j, j < i → σ1 35 j = σ 33 j) → WP g mX5_merge 2 [(0, .ref (pw_ad g 29)), (1, .int (nI (rk - 1))), (2, .int (nI (c0 - 1))), (3, .int (nI i))] [] 0 σ1 Q := by
    intro n
    induction n with
    | zero =>
      intro i hi σ1 f1 e34 e35
      have hi : i = 511 := by omega
      subst hi
      have e32 : ∀ j, j < 511 → σ1 32 j = nI (β j) := fun j hj => by rw [f1.1 32 (by decide) (by decide)]; exact (h1 j hj).1
      have hT : mT σ1 β := fun j hj => ⟨e34 j hj, (h1 j hj).2⟩
      have bl : ∀ v, Nn S v → β (v - 1) < 511 := fun v hv => (h1 (v - 1) (by have := Nn_lt S hv; omega)).2
      have hP : TP S E rk c0 β (σ1 35) := ⟨fun v w hv hw q => (h2 v w hv hw).mp q, fun v w hv hw q => cl_in S hv hw ((h2 v w hv hw).mpr q), fun v hv h0 => by rw [e35 _ (bl v hv)]; exact h3 v hv h0, fun v hv h0 => by rw [e35 _ (bl v hv)] at h0 ⊢; exact h4 v hv h0⟩
      have hne' : β (rk - 1) ≠ β (c0 - 1) := fun q => hne ((h2 _ _ nr nc).mpr q)
      refine bX5_merge_2 (fun _ => vp_in_nI (by omega) (by decide)) (fun _ => vp_in_nI (by omega) (by decide)) (fun _ => ?_) (fun z => absurd (by decide) z) (fun z => absurd (by decide) z) (fun z => absurd (by decide) z) (fun z => absurd (by decide) z) (fun z => absurd (by decide) z)
      rw [nI_clamp (by omega), nI_clamp (by omega), e32 _ (by omega), e32 _ (by omega)]
      refine m_unite (bl rk nr) (bl c0 nc) hT (fun z => bX5_merge_55 (bX5_merge_56 (fun _ y => absurd rfl y) (fun _ _ => k0 σ1 (hP.fail ok nr nc (cl_ab S) z) f1) (fun y => absurd rfl y))) (fun z σ2 f2 hT2 e2 => bX5_merge_55 ?_)
      refine twins _ _ σ2 (Nat.le_refl _) (f1.tr (f2.mono (by decide) (by decide))) hT2 (by rw [e2]; exact hP.un ok nr nc (cl_ab S) z hne') ?_
      rw [unT, unT, if_pos rfl, if_neg hne']
    | succ n ih =>
      intro i hi σ1 f1 e34 e35
      have hin : vp_in (nI i) 511 := vp_in_nI (by omega) (by decide)
      have hge : ¬ (511 : Int32) ≤ nI i := nI_ge (b := 511) (by omega) (by decide)
      refine bX5_merge_2 (fun z => absurd z hge) (fun z => absurd z hge) (fun z => absurd z hge) (fun _ => hin) (fun _ => hin) (fun _ => hin) (fun _ => hin) (fun _ => ?_)
      rw [nI_clamp (by omega), show nI i + 1 = nI (i + 1) from nI_1 i]
      refine ih (i + 1) (by omega) _ ((f1.set (by decide) (by decide)).set (by decide) (by decide)) (fun j hj => ?_) (fun j hj => ?_)
      · rw [ms_ne _ _ _ _ _ (by decide), ms_eq]
        by_cases z : j = i
        · rw [if_pos z, z, f1.1 32 (by decide) (by decide)]; exact (h1 i (by omega)).1
        · rw [if_neg z]; exact e34 j (by omega)
      · rw [ms_eq]
        by_cases z : j = i
        · rw [if_pos z, z, f1.1 33 (by decide) (by decide)]
        · rw [if_neg z, ms_ne _ _ _ _ _ (by decide)]; exact e35 j (by omega)
  exact bX5_merge_0 (begin9 511 0 rfl σ mfr.rf (fun j hj => by omega) (fun j hj => by omega))
end HMM
