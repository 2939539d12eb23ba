/-! the draft in the class -/
section HDA
variable {g : pw_G} {σ : pw_Mem} {Q : pw_R → Prop}
theorem wp_sub {M : pw_M} {pc : Nat} {lv lv' : List (Nat × Value)} {st : List Value} {u : Nat} (ks : List Nat) (hl' : lv_pick lv' ks = lv) (k : WP g M pc lv st u σ Q) : WP g M pc lv' st u σ Q :=
  fun p e s m args below meth c C H locs ls hl hL hS => k p e s m args below meth c C H locs ls (lv_sub hl ks hl') hL hS
def sgn (b : Bool) : Int32 := if b then 1 else -1
theorem sgn_ne {a b : Bool} : sgn a = sgn b ↔ (a != b) = false := by cases a <;> cases b <;> simp [sgn]
def okD (d : Nat) (to : Nat → Nat) : Prop := 0 < d ∧ d ≤ 5 ∧ ∀ i, i < 2 * d → to i < d
def cD (σ : pw_Mem) (d : Nat) (gd : Nat → Bool) (to : Nat → Nat) : Prop := σ 17 2 = nI d ∧ (∀ s, s < d → σ 18 s = sgn (gd s)) ∧ ∀ i, i < 2 * d → σ 19 i = nI (to i)
theorem cD.fr {d : Nat} {gd : Nat → Bool} {to : Nat → Nat} {σ σ' : pw_Mem} {l : List Nat} (h : cD σ d gd to) (hf : fr l σ σ') (h17 : 17 ∉ l) (h18 : 18 ∉ l) (h19 : 19 ∉ l) : cD σ' d gd to := by
  unfold cD
  rw [hf 17 h17, hf 18 h18, hf 19 h19]
  exact h
def cSp (σ : pw_Mem) (d : Nat) (gd : Nat → Bool) (to : Nat → Nat) : Prop := ∀ s t, s < d → t < d → σ 23 (5 * s + t) = nI (sp gd to s t)
def cCl (σ : pw_Mem) (d : Nat) (gd : Nat → Bool) (to : Nat → Nat) (c : Nat) (m n : Nat → Nat) : Prop := σ 20 2 = nI c ∧ (∀ k, k < c → σ 26 k = nI (m k) ∧ σ 27 k = nI (n k)) ∧ ∀ s, s < d → σ 25 s = liF gd to m s c
def cRd (σ : pw_Mem) (gd : Nat → Bool) (to : Nat → Nat) (c : Nat) (m : Nat → Nat) : Prop := ∀ k, k < c → σ 21 k = sgn (gd (m k)) ∧ σ 22 (2 * k) = liF gd to m (to (2 * m k)) c ∧ σ 22 (2 * k + 1) = liF gd to m (to (2 * m k + 1)) c
variable {d : Nat} {gd : Nat → Bool} {to : Nat → Nat}
theorem c_walkD {s w : Nat} (hD : cD σ d gd to) (ok : okD d to) (hs : s < d) (h1 : 1 ≤ w) (h2 : w < 512) (h : Q (.inl (some (.int (nI (ld to s w)))), σ)) : WP g mX0_walk 0 [(0, .ref (pw_ad g 17)), (1, .int (nI s)), (2, .int (nI w))] [] 0 σ Q := by
  obtain ⟨o1, o2, o3⟩ := ok
  refine c_walk (k := 17) (n := d) rfl rfl rfl (by omega) (by show 2 * d ≤ 10; omega) (fun i hi => Or.inr ⟨to i, o3 i hi, hD.2.2 i hi⟩) (Or.inr ⟨s, hs, rfl⟩) h1 h2 ?_
  rw [show wkA (σ (17 + 2)) (nI s) w = nI (ld to s w) from ld_wk (by omega) o3 hD.2.2 hs w w (Nat.le_refl _)]
  exact h
theorem c_markD {s : Nat} (hD : cD σ d gd to) (ok : okD d to) (hs : s < d) (h : Q (.inl (some (.int (sgn (gd s)))), σ)) : WP g mX0_markOf 0 [(0, .ref (pw_ad g 17)), (1, .int (nI s))] [] 0 σ Q := by
  obtain ⟨o1, o2, o3⟩ := ok
  refine bX0_markOf_0 rfl rfl rfl (vp_in_nI (N := 5) (by omega) (by decide)) ?_
  rw [nI_clamp (by omega), show σ (17 + 1) s = sgn (gd s) from hD.2.1 s hs]
  exact h
theorem c_countD (hD : cD σ d gd to) (h : Q (.inl (some (.int (nI d))), σ)) : WP g mX0_count 0 [(0, .ref (pw_ad g 17))] [] 0 σ Q := by
  refine bX0_count_0 rfl rfl rfl ?_
  rw [hD.1]
  exact h
theorem c_splitBy {w : Nat} (hD : cD σ d gd to) (ok : okD d to) (h1 : 1 ≤ w) (h2 : w < 16) (h : ∀ σ', fr [23, 24] σ σ' → (∀ s t, s < d → t < d → σ' 23 (5 * s + t) = if df gd to w s t then nI w else σ 23 (5 * s + t)) → Q (.inl none, σ')) : WP g mX1_splitBy 0 [(0, .ref (pw_ad g 16)), (1, .int (nI w))] [] 0 σ Q := by
  obtain ⟨o1, o2, o3⟩ := id ok
  -- the inner loop
  have inner : ∀ s, s < d → ∀ σ0, fr [23, 24] σ σ0 → (∀ i, i < d → σ0 24 i = nI (ld to i w)) →
      (∀ σ', fr [23, 24] σ σ' → σ' 24 = σ0 24 → (∀ a b, a < d → b < d → σ' 23 (5 * a + b) = if a = s ∧ df gd to w s b then nI w else σ0 23 (5 * a + b)) → WP g mX1_splitBy 36 [(0, .ref (pw_ad g 16)), (1, .int (nI w)), (2, .int (nI (s + 1)))] [] 0 σ' Q) →
      ∀ n t, t + n = d → ∀ σ1, fr [23, 24] σ σ1 → σ1 24 = σ0 24 → (∀ a b, a < d → b < d → σ1 23 (5 * a + b) = if (a = s ∧ b < t) ∧ df gd to w s b then nI w else σ0 23 (5 * a + b)) → WP g mX1_splitBy 49 [(0, .ref (pw_ad g 16)), (1, .int (nI w)), (2, .int (nI s)), (3, .int (nI t))] [] 0 σ1 Q := by
    intro s hs σ0 hf0 hends kont n
    induction n with
    | zero =>
      intro t ht σ1 hf1 he1 hc1
      have hD1 := hD.fr hf1 (by decide) (by decide) (by decide)
      refine bX1_splitBy_49 (c_countD hD1 ?_)
      refine bX1_splitBy_57 (fun _ => ?_) (fun a => absurd (nI_le (by omega) (by omega)) a) (fun a => absurd (nI_le (by omega) (by omega)) a)
      rw [show nI s + 1 = nI (s + 1) from nI_1 s]
      refine wp_sub [0, 1, 2] rfl (kont σ1 hf1 he1 (fun a b ha hb => ?_))
      rw [hc1 a b ha hb]
      by_cases q : a = s ∧ df gd to w s b
      · rw [if_pos q, if_pos ⟨⟨q.1, by omega⟩, q.2⟩]
      · rw [if_neg q, if_neg (fun z => q ⟨z.1.1, z.2⟩)]
    | succ n ih =>
      intro t ht σ1 hf1 he1 hc1
      have hD1 := hD.fr hf1 (by decide) (by decide) (by decide)
      have hls := ld_lt o3 hs w w (Nat.le_refl _)
      have hlt := ld_lt (s := t) o3 (by omega) w w (Nat.le_refl _)
      refine bX1_splitBy_49 (c_countD hD1 ?_)
      refine bX1_splitBy_57 (fun a => absurd a (nI_ge (by omega) (by omega))) (fun _ => vp_in_nI (by omega) (by decide)) (fun _ => ?_)
      rw [nI_clamp (by omega), he1, hends s hs]
      refine c_markD hD1 ok hls ?_
      refine bX1_splitBy_73 (vp_in_nI (by omega) (by decide)) ?_
      rw [nI_clamp (by omega), he1, hends t (by omega)]
      refine c_markD hD1 ok hlt ?_
      have e5 : (5 : Int32) * nI s + nI t = nI (5 * s + t) := by rw [show (5 : Int32) = nI 5 from rfl, pk_mul, nI_add]
      refine bX1_splitBy_86 (fun a => ?_) (fun _ => ?_) (fun a => ?_)
      · have hdf : df gd to w s t = false := sgn_ne.mp a
        rw [show nI t + 1 = nI (t + 1) from nI_1 t]
        refine ih (t + 1) (by omega) σ1 hf1 he1 (fun a b ha hb => ?_)
        rw [hc1 a b ha hb]
        by_cases q : (a = s ∧ b < t) ∧ df gd to w s b
        · rw [if_pos q, if_pos ⟨⟨q.1.1, by omega⟩, q.2⟩]
        · rw [if_neg q, if_neg]
          rintro ⟨⟨z1, z2⟩, z3⟩
          by_cases e : b = t
          · rw [e, hdf] at z3; exact absurd z3 (by decide)
          · exact q ⟨⟨z1, by omega⟩, z3⟩
      · rw [e5]; exact vp_in_nI (by omega) (by decide)
      · have hdf : df gd to w s t = true := by
          cases hq : df gd to w s t with
          | true => rfl
          | false => exact absurd (sgn_ne.mpr hq) a
        rw [show nI t + 1 = nI (t + 1) from nI_1 t, e5, nI_clamp (by omega)]
        refine ih (t + 1) (by omega) _ (hf1.set (by decide)) ?_ (fun a b ha hb => ?_)
        · rw [pw_set_ne _ _ _ _ (by decide)]; exact he1
        · rw [ms_eq]
          by_cases e : a = s ∧ b = t
          · rw [if_pos (by omega), if_pos ⟨⟨e.1, by omega⟩, by rw [e.2]; exact hdf⟩]
          · rw [if_neg (by omega), hc1 a b ha hb]
            by_cases q : (a = s ∧ b < t) ∧ df gd to w s b
            · rw [if_pos q, if_pos ⟨⟨q.1.1, by omega⟩, q.2⟩]
            · rw [if_neg q, if_neg]
              rintro ⟨⟨z1, z2⟩, z3⟩
              by_cases e2 : b = t
              · exact e ⟨z1, e2⟩
              · exact q ⟨⟨z1, by omega⟩, z3⟩
  have outer : ∀ n s, s + n = d → ∀ σ1, fr [23, 24] σ σ1 → (∀ i, i < d → σ1 24 i = nI (ld to i w)) → (∀ a b, a < d → b < d → σ1 23 (5 * a + b) = if a < s ∧ df gd to w a b then nI w else σ 23 (5 * a + b)) → WP g mX1_splitBy 36 [(0, .ref (pw_ad g 16)), (1, .int (nI w)), (2, .int (nI s))] [] 0 σ1 Q := by
    intro n
    induction n with
    | zero =>
      intro s hs σ1 hf1 he1 hc1
      have hD1 := hD.fr hf1 (by decide) (by decide) (by decide)
      refine bX1_splitBy_36 (c_countD hD1 ?_)
      refine bX1_splitBy_44 (fun _ => h σ1 hf1 (fun a b ha hb => ?_)) (fun a => absurd (nI_le (by omega) (by omega)) a)
      rw [hc1 a b ha hb]
      by_cases q : df gd to w a b
      · rw [if_pos q, if_pos ⟨by omega, q⟩]
      · rw [if_neg q, if_neg (fun z => q z.2)]
    | succ n ih =>
      intro s hs σ1 hf1 he1 hc1
      have hD1 := hD.fr hf1 (by decide) (by decide) (by decide)
      refine bX1_splitBy_36 (c_countD hD1 ?_)
      refine bX1_splitBy_44 (fun a => absurd a (nI_ge (by omega) (by omega))) (fun _ => ?_)
      refine inner s (by omega) σ1 hf1 he1 (fun σ' hf' he' hc' => ?_) d 0 (by omega) σ1 hf1 rfl (fun a b ha hb => ?_)
      · refine ih (s + 1) (by omega) σ' hf' (fun i hi => by rw [he']; exact he1 i hi) (fun a b ha hb => ?_)
        rw [hc' a b ha hb, hc1 a b ha hb]
        by_cases e : a = s
        · subst e
          by_cases q : df gd to w a b
          · rw [if_pos ⟨rfl, q⟩, if_pos ⟨by omega, q⟩]
          · rw [if_neg (fun z => q z.2), if_neg (fun z => q z.2), if_neg (fun z => q z.2)]
        · rw [if_neg (fun z => e z.1)]
          by_cases q : a < s ∧ df gd to w a b
          · rw [if_pos q, if_pos ⟨by omega, q.2⟩]
          · rw [if_neg q, if_neg (fun z => q ⟨by omega, z.2⟩)]
      · rw [if_neg (fun z => absurd z.1.2 (by omega))]
  have first : ∀ n i, i + n = d → ∀ σ1, fr [23, 24] σ σ1 → σ1 23 = σ 23 → (∀ j, j < i → σ1 24 j = nI (ld to j w)) → WP g mX1_splitBy 2 [(0, .ref (pw_ad g 16)), (1, .int (nI w)), (2, .int (nI i))] [] 0 σ1 Q := by
    intro n
    induction n with
    | zero =>
      intro i hi σ1 hf1 h23 he1
      have hD1 := hD.fr hf1 (by decide) (by decide) (by decide)
      refine bX1_splitBy_2 (c_countD hD1 ?_)
      refine bX1_splitBy_10 (fun _ => ?_) (fun a => absurd (nI_le (by omega) (by omega)) a)
      refine outer d 0 (by omega) σ1 hf1 (fun j hj => he1 j (by omega)) (fun a b ha hb => ?_)
      rw [h23, if_neg (fun z => absurd z.1 (by omega))]
    | succ n ih =>
      intro i hi σ1 hf1 h23 he1
      have hD1 := hD.fr hf1 (by decide) (by decide) (by decide)
      refine bX1_splitBy_2 (c_countD hD1 ?_)
      refine bX1_splitBy_10 (fun a => absurd a (nI_ge (by omega) (by omega))) (fun _ => ?_)
      refine c_walkD hD1 ok (by omega) h1 (by omega) ?_
      refine bX1_splitBy_27 (vp_in_nI (by omega) (by decide)) ?_
      rw [show nI i + 1 = nI (i + 1) from nI_1 i, nI_clamp (by omega)]
      refine ih (i + 1) (by omega) _ (hf1.set (by decide)) (by rw [pw_set_ne _ _ _ _ (by decide)]; exact h23) (fun j hj => ?_)
      rw [ms_eq]
      by_cases e : j = i
      · rw [if_pos e, e]
      · rw [if_neg e]; exact he1 j (by omega)
  exact bX1_splitBy_0 (first d 0 (by omega) σ fr.rf rfl (fun j hj => absurd hj (by omega)))
theorem c_findSplitters (hD : cD σ d gd to) (ok : okD d to) (h : ∀ σ', fr [23, 24] σ σ' → cSp σ' d gd to → Q (.inl none, σ')) : WP g mX1_findSplitters 0 [(0, .ref (pw_ad g 16))] [] 0 σ Q := by
  obtain ⟨o1, o2, o3⟩ := id ok
  have loop : ∀ n j, j + n = 15 → ∀ σ1, fr [23, 24] σ σ1 → (∀ s t, s < d → t < d → σ1 23 (5 * s + t) = nI (spR gd to s t j)) → WP g mX1_findSplitters 11 [(0, .ref (pw_ad g 16)), (1, .int (nI n))] [] 0 σ1 Q := by
    intro n
    induction n with
    | zero =>
      intro j hj σ1 hf1 hc1
      have : j = 15 := by omega
      subst this
      exact bX1_findSplitters_11 (fun _ => h σ1 hf1 hc1) (fun a => absurd (by decide) a)
    | succ n ih =>
      intro j hj σ1 hf1 hc1
      refine bX1_findSplitters_11 (fun a => absurd a (nI_nlt (b := 1) (by omega) (by omega))) (fun _ => ?_)
      refine c_splitBy (hD.fr hf1 (by decide) (by decide) (by decide)) ok (by omega) (by omega) (fun σ' hf' hc' => ?_)
      refine bX1_findSplitters_21 ?_
      rw [show nI (n + 1) + (-1) = nI n from pk_m1 n]
      refine ih (j + 1) (by omega) σ' (hf1.tr hf') (fun s t hs ht => ?_)
      rw [hc' s t hs ht, hc1 s t hs ht, spR, show 15 - j = n + 1 by omega]
      by_cases q : df gd to (n + 1) s t
      · rw [if_pos q, if_pos q]
      · rw [if_neg q, if_neg q]
  refine bX1_findSplitters_0 (c_fill (k := 23) rfl (fun σ' hf hx => ?_))
  refine bX1_findSplitters_8 (loop 15 0 rfl σ' (hf.mono (by decide)) (fun s t hs ht => ?_))
  rw [hx _ (by show 5 * s + t < 25; omega)]
  rfl
theorem c_openClass {e w c : Nat} {m n : Nat → Nat} (hD : cD σ d gd to) (ok : okD d to) (hS : cSp σ d gd to) (hC : cCl σ d gd to c m n) (he : e < d) (hc : c < 5) (h : ∀ σ', fr [20, 25, 26, 27] σ σ' → cCl σ' d gd to (c + 1) (upN m c e) (upN n c w) → Q (.inl none, σ')) : WP g mX1_openClass 0 [(0, .ref (pw_ad g 16)), (1, .int (nI e)), (2, .int (nI w))] [] 0 σ Q := by
  obtain ⟨o1, o2, o3⟩ := id ok
  have hli : ∀ s, liF gd to (upN m c e) s (c + 1) = if sp gd to e s = 0 then nI c else liF gd to m s c := by
    intro s
    have e1 : liF gd to (upN m c e) s (c + 1) = if sp gd to (upN m c e c) s = 0 then nI c else liF gd to (upN m c e) s c := rfl
    have e2 : upN m c e c = e := by simp [upN]
    rw [e1, e2, liF_congr gd to (m' := m) s c (fun k hk => by simp [upN]; omega)]
  have loop : ∀ k i, i + k = d → ∀ σ1, fr [20, 25, 26, 27] σ σ1 → σ1 20 2 = nI (c + 1) → (∀ k, k < c + 1 → σ1 26 k = nI (upN m c e k) ∧ σ1 27 k = nI (upN n c w k)) → (∀ s, s < d → σ1 25 s = if s < i then liF gd to (upN m c e) s (c + 1) else liF gd to m s c) → WP g mX1_openClass 35 [(0, .ref (pw_ad g 16)), (1, .int (nI e)), (2, .int (nI w)), (3, .int (nI c)), (4, .int (nI i))] [] 0 σ1 Q := by
    intro k
    induction k with
    | zero =>
      intro i hi σ1 hf1 h20 hmn hcl
      have hD1 := hD.fr hf1 (by decide) (by decide) (by decide)
      refine bX1_openClass_35 (c_countD hD1 ?_)
      refine bX1_openClass_44 (fun _ => h σ1 hf1 ⟨h20, hmn, fun s hs => ?_⟩) (fun a => absurd (nI_le (by omega) (by omega)) a)
      rw [hcl s hs, if_pos (by omega)]
    | succ k ih =>
      intro i hi σ1 hf1 h20 hmn hcl
      have hD1 := hD.fr hf1 (by decide) (by decide) (by decide)
      have e5 : (5 : Int32) * nI e + nI i = nI (5 * e + i) := by rw [show (5 : Int32) = nI 5 from rfl, pk_mul, nI_add]
      refine bX1_openClass_35 (c_countD hD1 ?_)
      refine bX1_openClass_44 (fun a => absurd a (nI_ge (by omega) (by omega))) (fun _ => ?_)
      refine bX1_splitterOfDrawn_0 (by rw [e5]; exact vp_in_nI (by omega) (by decide)) ?_
      rw [e5, nI_clamp (by omega), hf1 23 (by decide), hS e i he (by omega)]
      have hspl := sp_lt gd to e i
      refine bX1_openClass_54 (fun a => ?_) (fun _ => vp_in_nI (by omega) (by decide)) (fun a => ?_)
      · have hne : sp gd to e i ≠ 0 := fun z => a (by rw [z]; rfl)
        rw [show nI i + 1 = nI (i + 1) from nI_1 i]
        refine ih (i + 1) (by omega) σ1 hf1 h20 hmn (fun s hs => ?_)
        rw [hcl s hs]
        by_cases q : s = i
        · subst q
          rw [if_neg (by omega), if_pos (by omega), hli, if_neg hne]
        · by_cases q2 : s < i
          · rw [if_pos q2, if_pos (by omega)]
          · rw [if_neg q2, if_neg (by omega)]
      · have hz : sp gd to e i = 0 := (nI_eq (by omega) (by decide)).mp (a.trans nI_0.symm)
        rw [show nI i + 1 = nI (i + 1) from nI_1 i, nI_clamp (by omega)]
        refine ih (i + 1) (by omega) _ (hf1.set (by decide)) (by rw [ms_ne _ _ _ _ _ (by decide)]; exact h20) (fun k hk => ?_) (fun s hs => ?_)
        · rw [ms_ne _ _ _ _ _ (by decide), ms_ne _ _ _ _ _ (by decide)]; exact hmn k hk
        · rw [ms_eq]
          by_cases q : s = i
          · rw [if_pos q, q, if_pos (by omega), hli, if_pos hz]
          · rw [if_neg q, hcl s hs]
            by_cases q2 : s < i
            · rw [if_pos q2, if_pos (by omega)]
            · rw [if_neg q2, if_neg (by omega)]
  refine bX1_openClass_0 (bX0_count_0 rfl rfl rfl ?_)
  rw [hC.1]
  refine bX1_openClass_7 (bX0_resize_0 rfl rfl rfl ?_)
  rw [show nI c + (1 : Int32) = nI (c + 1) from nI_1 c]
  refine bX1_openClass_18 (vp_in_nI hc (by decide)) (vp_in_nI hc (by decide)) ?_
  rw [nI_clamp (by omega)]
  refine loop d 0 (by omega) _ (((fr.rf.set (by decide)).set (by decide)).set (by decide)) (by rw [ms_ne _ _ _ _ _ (by decide), ms_ne _ _ _ _ _ (by decide), ms_same]) (fun k hk => ?_) (fun s hs => ?_)
  · rw [ms_ne _ _ _ _ _ (by decide), ms_eq, ms_eq, ms_ne _ _ _ _ _ (by decide), ms_ne _ _ _ _ _ (by decide), ms_ne _ _ _ _ _ (by decide)]
    by_cases q : k = c
    · subst q; simp [upN]
    · simp only [upN, if_neg q]
      exact hC.2.1 k (by omega)
  · rw [if_neg (by omega), ms_ne _ _ _ _ _ (by decide), ms_ne _ _ _ _ _ (by decide), ms_ne _ _ _ _ _ (by decide)]
    exact hC.2.2 s hs
theorem c_findClasses (hD : cD σ d gd to) (ok : okD d to) (hS : cSp σ d gd to) (h : ∀ σ', fr [20, 25, 26, 27] σ σ' → cCl σ' d gd to (clS gd to 31).1 (clS gd to 31).2.1 (clS gd to 31).2.2 → Q (.inl none, σ')) : WP g mX1_findClasses 0 [(0, .ref (pw_ad g 16))] [] 0 σ Q := by
  obtain ⟨o1, o2, o3⟩ := id ok
  have loop : ∀ k w, w + k = 31 → ∀ σ1, fr [20, 25, 26, 27] σ σ1 → cCl σ1 d gd to (clS gd to w).1 (clS gd to w).2.1 (clS gd to w).2.2 → WP g mX1_findClasses 18 [(0, .ref (pw_ad g 16)), (1, .int (nI (w + 1)))] [] 0 σ1 Q := by
    intro k
    induction k with
    | zero =>
      intro w hw σ1 hf1 hC1
      have : w = 31 := by omega
      subst this
      exact bX1_findClasses_18 (fun _ => h σ1 hf1 hC1) (fun a => absurd (by decide) a)
    | succ k ih =>
      intro w hw σ1 hf1 hC1
      have hD1 := hD.fr hf1 (by decide) (by decide) (by decide)
      have hS1 : cSp σ1 d gd to := fun s t hs ht => by rw [hf1 23 (by decide)]; exact hS s t hs ht
      have hel := ld_lt (s := 0) o3 o1 (w + 1) (w + 1) (Nat.le_refl _)
      have hcle := clS_le gd to o1 o2 o3 w
      refine bX1_findClasses_18 (fun a => absurd a (nI_ge (b := 32) (by omega) (by decide))) (fun _ => ?_)
      rw [ww_0]
      refine c_walkD hD1 ok o1 (by omega) (by omega) ?_
      refine bX1_findClasses_33 (vp_in_nI (by omega) (by decide)) (fun a => ?_) (fun a => ?_)
      · rw [nI_clamp (by omega), hC1.2.2 _ hel] at a
        rw [show nI (w + 1) + 1 = nI (w + 1 + 1) from nI_1 (w + 1)]
        refine wp_sub [0, 1] rfl (ih (w + 1) (by omega) σ1 hf1 ?_)
        rw [clS_old gd to a]
        exact hC1
      · rw [nI_clamp (by omega), hC1.2.2 _ hel] at a
        have hroom := clS_room gd to o1 o2 o3 a
        refine c_openClass hD1 ok hS1 hC1 hel (by omega) (fun σ' hf' hC' => ?_)
        refine bX1_findClasses_50 ?_
        rw [show nI (w + 1) + 1 = nI (w + 1 + 1) from nI_1 (w + 1)]
        refine wp_sub [0, 1] rfl (ih (w + 1) (by omega) σ' (hf1.tr hf') ?_)
        rw [clS_new gd to a]
        exact hC'
  refine bX1_findClasses_0 (c_fill (k := 25) rfl (fun σ' hf hx => ?_))
  refine bX1_findClasses_8 (bX0_resize_0 rfl rfl rfl ?_)
  refine bX1_findClasses_16 (loop 31 0 rfl _ ((hf.mono (by decide)).set (by decide)) ⟨ms_same _ _ _ _, fun k hk => absurd hk (by simp [clS]), fun s hs => ?_⟩)
  rw [ms_ne _ _ _ _ _ (by decide), hx s (by show s < 5; omega)]
  rfl
end HDA
