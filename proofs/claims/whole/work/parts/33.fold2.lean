/-! the marks of a merging; what stands at its end -/
theorem mul3 {m k : Int32} (hm : m = -1 ∨ m = 0 ∨ m = 1) (hk : k = -1 ∨ k = 0 ∨ k = 1) : (0 ≤ m * k) ↔ (m = 0 ∨ k = 0 ∨ m = k) := by
  rcases hm with rfl | rfl | rfl <;> rcases hk with rfl | rfl | rfl <;> decide
section FP
variable {S : Nat → Int32} {a : Nat → Nat} {μ : Nat → Int32} {Rd : Nat → Prop} {E : Nat → Nat → Prop} {xk l0 y0 rk c0 : Nat}
variable {t c p q : Nat} {U O b : Nat → Nat} {nac : Nat} {NA : Nat → Nat} {mm : Nat → Int32} {nmc : Nat} {NM : Nat → Nat}
theorem FM.old (M : FM S a μ q U O mm nmc NM) {x : Nat} (h : ¬ μ x = 0) : mm x = μ x := by
  rcases M.1 x with z | ⟨i, hi, z⟩
  · exact z
  · exact absurd (by rw [← z]; exact (M.2.1 i hi).1) h
theorem FM.over (F : FS S a Rd E xk l0 y0 rk c0 t c U O b nac NA) (M : FM S a μ q U O mm nmc NM) (hq : q ≤ c) {j : Nat} (hj : j < c) : mm (O j) = μ (O j) := by
  rcases M.1 (O j) with z | ⟨i, hi, z⟩
  · exact z
  · obtain ⟨_, _, k, hk, e⟩ := M.2.1 i hi
    exact absurd (by rw [← e, z]) ((F.2.2.2.2.1 k (by omega)).2 j hj)
theorem FM.in3 (ok : okS S) (M : FM S a μ q U O mm nmc NM) {x : Nat} (hx : Lv S a x) : mm x = -1 ∨ mm x = 0 ∨ mm x = 1 := by
  by_cases z : mm x = 0
  · exact Or.inr (Or.inl z)
  · obtain ⟨v, _, e, _⟩ := M.2.2.2.2 x hx z
    rw [← e]
    exact ok v
theorem FM.fail (ok : okS S) (h : MI S a μ Rd E xk l0 y0 rk c0) (F : FS S a Rd E xk l0 y0 rk c0 t c U O b nac NA) (M : FM S a μ p U O mm nmc NM) (hp : p < c) (hm : ¬ 0 ≤ mm (U p) * mm (O p)) : ¬ Cons S (cl S E rk c0) := by
  obtain ⟨f1, f2, f3, f4, f5, f6, f7, f8, f9, f10, f11, f12⟩ := id F
  have i1 := M.in3 ok (f5 p hp).1
  have i2 := M.in3 ok (f2 p hp).1
  have hh : ¬ (mm (U p) = 0 ∨ mm (O p) = 0 ∨ mm (U p) = mm (O p)) := fun z => hm ((mul3 i1 i2).mpr z)
  have hu : ¬ mm (U p) = 0 := fun z => hh (Or.inl z)
  have ho : ¬ mm (O p) = 0 := fun z => hh (Or.inr (Or.inl z))
  have hne : ¬ mm (U p) = mm (O p) := fun z => hh (Or.inr (Or.inr z))
  have eo := M.over F (by omega) hp
  intro hc
  have g := cl_Cg S E rk c0
  obtain ⟨w, w1, w2, w3⟩ := h.1.2.2.2.1 (O p) (f2 p hp).1 (by rw [← eo]; exact ho)
  obtain ⟨v, v1, v2, v3⟩ := M.2.2.2.2 (U p) (f5 p hp).1 hu
  have hvw : cl S E rk c0 v w := by
    rcases v3 with z | ⟨j, hj, z1, z2⟩
    · exact f12 p v w hp v1 w1 z w2
    · obtain ⟨u, u1, u2⟩ := (f5 p hp).1
      exact g.2.2.1 _ _ _ (g.2.1 _ _ (f12 j u v (by omega) u1 v1 (u2.trans z1.symm) z2)) (f12 p u w hp u1 w1 u2 w2)
  have := hc v w v1 w1 hvw (by rw [v2]; exact hu) (by rw [w3, ← eo]; exact ho)
  exact hne (by rw [← v2, this, w3, eo])
theorem FM.same (ok : okS S) (F : FS S a Rd E xk l0 y0 rk c0 t c U O b nac NA) (M : FM S a μ p U O mm nmc NM) (hp : p < c) (hm : 0 ≤ mm (U p) * mm (O p)) (hs : ¬ mm (U p) = 0 ∨ mm (O p) = 0) : FM S a μ (p + 1) U O mm nmc NM := by
  have eo := M.over F (by omega) hp
  have i1 := M.in3 ok (F.2.2.2.2.1 p hp).1
  have i2 := M.in3 ok (F.2.1 p hp).1
  obtain ⟨m1, m2, m3, m4, m5⟩ := M
  refine ⟨m1, fun i hi => ?_, m3, fun j hj h0 => ?_, fun x hx h0 => ?_⟩
  · obtain ⟨a1, a2, j, hj, e⟩ := m2 i hi
    exact ⟨a1, a2, j, by omega, e⟩
  · by_cases z : j = p
    · subst z
      rcases (mul3 i1 i2).mp hm with y | y | y
      · rcases hs with s | s
        · exact absurd y s
        · exact absurd (eo.symm.trans s) h0
      · exact absurd (eo.symm.trans y) h0
      · rw [y, eo]
    · exact m4 j (by omega) h0
  · obtain ⟨v, v1, v2, v3⟩ := m5 x hx h0
    refine ⟨v, v1, v2, ?_⟩
    rcases v3 with y | ⟨j, hj, y⟩
    · exact Or.inl y
    · exact Or.inr ⟨j, by omega, y⟩
theorem FM.set (h : MI S a μ Rd E xk l0 y0 rk c0) (F : FS S a Rd E xk l0 y0 rk c0 t c U O b nac NA) (M : FM S a μ p U O mm nmc NM) (hp : p < c) (hu : mm (U p) = 0) (ho : ¬ mm (O p) = 0) : FM S a μ (p + 1) U O (upd mm (U p) (mm (O p))) (nmc + 1) (upN NM nmc (U p)) := by
  have eo := M.over F (by omega) hp
  have mo := fun x => M.old (x := x)
  obtain ⟨m1, m2, m3, m4, m5⟩ := M
  have us : upd mm (U p) (mm (O p)) (U p) = mm (O p) := by rw [upd, if_pos rfl]
  have un : ∀ x, ¬ x = U p → upd mm (U p) (mm (O p)) x = mm x := fun x hx => by rw [upd, if_neg hx]
  have no : ∀ k, k < nmc → upN NM nmc (U p) k = NM k := fun k hk => by rw [upN, if_neg (by omega)]
  have nl : upN NM nmc (U p) nmc = U p := by rw [upN, if_pos rfl]
  have ne : ∀ k, k < nmc → ¬ NM k = U p := fun k hk e => (m2 k hk).2.1 (by rw [e]; exact hu)
  refine ⟨fun x => ?_, fun i hi => ?_, fun i j hi hj e => ?_, fun j hj h0 => ?_, fun x hx h0 => ?_⟩
  · by_cases z : x = U p
    · exact Or.inr ⟨nmc, by omega, by rw [nl, z]⟩
    · rw [un x z]
      rcases m1 x with y | ⟨i, hi, y⟩
      · exact Or.inl y
      · exact Or.inr ⟨i, by omega, by rw [no i hi]; exact y⟩
  · by_cases z : i = nmc
    · rw [z, nl, us]
      refine ⟨Classical.byContradiction fun y => ?_, ho, p, by omega, rfl⟩
      have := mo _ y
      rw [hu] at this
      exact y this.symm
    · rw [no i (by omega), un _ (ne i (by omega))]
      obtain ⟨a1, a2, j, hj, e⟩ := m2 i (by omega)
      exact ⟨a1, a2, j, by omega, e⟩
  · by_cases z : i = nmc <;> by_cases z' : j = nmc
    · omega
    · rw [z, nl, no j (by omega)] at e; exact absurd e.symm (ne j (by omega))
    · rw [z', nl, no i (by omega)] at e; exact absurd e (ne i (by omega))
    · rw [no i (by omega), no j (by omega)] at e; exact m3 i j (by omega) (by omega) e
  · by_cases z : j = p
    · rw [z, us]; exact eo
    · have y := m4 j (by omega) h0
      rw [un _ (fun e => by rw [e, hu] at y; exact h0 y.symm)]
      exact y
  · by_cases z : x = U p
    · rw [z, us]
      obtain ⟨w, w1, w2, w3⟩ := h.1.2.2.2.1 (O p) (F.2.1 p hp).1 (by rw [← eo]; exact ho)
      exact ⟨w, w1, by rw [w3, eo], Or.inr ⟨p, by omega, rfl, w2⟩⟩
    · rw [un x z] at h0 ⊢
      obtain ⟨v, v1, v2, v3⟩ := m5 x hx h0
      refine ⟨v, v1, v2, ?_⟩
      rcases v3 with y | ⟨j, hj, y⟩
      · exact Or.inl y
      · exact Or.inr ⟨j, by omega, y⟩
theorem FM.grow (M : FM S a μ q U O mm nmc NM) (hq : q ≤ c) (z y : Nat) : FM S a μ q (upN U c z) (upN O c y) mm nmc NM := by
  have uo : ∀ j, j < q → upN U c z j = U j := fun j hj => by rw [upN, if_neg (by omega)]
  have oo : ∀ j, j < q → upN O c y j = O j := fun j hj => by rw [upN, if_neg (by omega)]
  obtain ⟨m1, m2, m3, m4, m5⟩ := M
  refine ⟨m1, fun i hi => ?_, m3, fun j hj h0 => ?_, fun x hx h0 => ?_⟩
  · obtain ⟨a1, a2, j, hj, e⟩ := m2 i hi
    exact ⟨a1, a2, j, hj, by rw [uo j hj]; exact e⟩
  · rw [oo j hj] at h0 ⊢
    rw [uo j hj]
    exact m4 j hj h0
  · obtain ⟨v, v1, v2, v3⟩ := m5 x hx h0
    refine ⟨v, v1, v2, ?_⟩
    rcases v3 with s | ⟨j, hj, s1, s2⟩
    · exact Or.inl s
    · exact Or.inr ⟨j, hj, by rw [uo j hj]; exact s1, by rw [oo j hj]; exact s2⟩
theorem FM.room (h : MI S a μ Rd E xk l0 y0 rk c0) (F : FS S a Rd E xk l0 y0 rk c0 t c U O b nac NA) (M : FM S a μ q U O mm nmc NM) (hq : q ≤ c) : nmc < 512 := by
  have hb : ∀ k, k < nmc → 1 ≤ NM k ∧ NM k < 512 := fun k hk => by
    obtain ⟨_, _, j, hj, e⟩ := M.2.1 k hk
    rw [e]
    exact h.1.lt (F.2.2.2.2.1 j (by omega)).1
  have := pigeon 511 nmc (fun k => NM k - 1) (fun k hk => by
    have := hb k hk
    show NM k - 1 < 511
    omega) (fun i j hi hj e => by
    have a1 := hb i hi
    have a2 := hb j hj
    have e : NM i - 1 = NM j - 1 := e
    exact M.2.2.1 i j hi hj (by omega))
  omega
/-- the end of a merging -/
theorem fold_end (h : MI S a μ Rd E xk l0 y0 rk c0) (F : FS S a Rd E xk l0 y0 rk c0 (2 * c) c U O b nac NA) (M : FM S a μ c U O mm nmc NM) : QI S b mm Rd (cl S E rk c0) ∧ Cons S (cl S E rk c0) ∧ (∀ x, Lv S b x → Lv S a x) ∧ ∀ v, Nn S v → Rd (ld a 1 v) → ld b 1 v = ld a 1 v := by
  have hbl := h.blue
  have htgt := fun {x l : Nat} => FS.tgt (x := x) (l := l) h F
  obtain ⟨hq, r1, hl0, hx, rx, b0, rb, ry, nr, er, nc, c2, ec, el⟩ := id h
  obtain ⟨⟨f1, f1a, f1b⟩, f2, f3, f4, f5, f6, f7, f8, f9, f10, f11, f12⟩ := id F
  have g := cl_Cg S E rk c0
  have mo := fun x => M.old (x := x)
  obtain ⟨m1, m2, m3, m4, m5⟩ := id M
  have red : ∀ x, Rd x → ∀ j, j < c → O j ≠ x := fun x hr j hj e => (f2 j hj).2 (e ▸ hr)
  -- where the nodes are now
  have H : ∀ n v, v ≤ n → Nn S v → (∃ j, j < c ∧ O j = ld a 1 v ∧ U j = ld b 1 v) ∨ ((∀ j, j < c → O j ≠ ld a 1 v) ∧ ld b 1 v = ld a 1 v) := by
    intro n
    induction n with
    | zero => intro v hv hn; have := (Nn_lt S hn).1; omega
    | succ n ih =>
      intro v hv hn
      have hv1 := (Nn_lt S hn).1
      rcases Nat.lt_or_ge v 2 with q | q
      · have e : v = 1 := by omega
        subst e
        rw [ld_1 a 1 (Nat.le_refl 1), ld_1 b 1 (Nat.le_refl 1)]
        exact Or.inr ⟨red 1 r1, rfl⟩
      · have nh := Nn_half S q hn
        have hl : v % 2 < 2 := Nat.mod_lt _ (by decide)
        have ea : ld a 1 v = a (2 * ld a 1 (v / 2) + v % 2) := ld_2 _ _ q
        have eb : ld b 1 v = b (2 * ld b 1 (v / 2) + v % 2) := ld_2 _ _ q
        have ha0 : ¬ a (2 * ld a 1 (v / 2) + v % 2) = 0 := by
          rw [← ea]
          have := (hq.1 v hn).1
          omega
        have lvx : Lv S a (ld a 1 (v / 2)) := ⟨_, nh, rfl⟩
        rw [ea, eb]
        rcases ih (v / 2) (by omega) nh with ⟨j, hj, j1, j2⟩ | ⟨j1, j2⟩
        · rw [← j1] at ha0 ⊢
          rw [← j2]
          obtain ⟨g1, g2⟩ := f11 j (v % 2) hj hl (by omega) ha0
          rcases g2 with ⟨i, i1, i2, i3⟩ | ⟨i1, i2⟩
          · exact Or.inl ⟨i, i1, i2, i3⟩
          · exact Or.inr ⟨i1, i2⟩
        · rw [j2]
          generalize ld a 1 (v / 2) = x at *
          by_cases hs : 2 * x + v % 2 = 2 * xk + l0
          · rw [hs, f9]
            exact Or.inl ⟨0, by omega, f1a, f1b⟩
          · rcases f8 (2 * x + v % 2) with z | z | ⟨k, hk, z⟩
            · refine Or.inr ⟨fun j hj e => ?_, z⟩
              rcases Nat.eq_zero_or_pos j with y | y
              · rw [y, f1a] at e
                obtain ⟨e1, e2⟩ := hq.un hl0 hl hx lvx b0 e rb
                exact hs (by rw [e1, e2])
              · obtain ⟨i, l', i1, i2, i3, i4, i5⟩ := f4 j hj y
                rw [i4] at e
                obtain ⟨e1, _⟩ := hq.un hl i2 lvx (f2 i i1).1 ha0 e.symm (by rw [← e, ← i4]; exact (f2 j hj).2)
                exact j1 i i1 e1.symm
            · exact absurd z hs
            · have := (f7 k hk).2.1
              rw [z] at this
              exact absurd this ha0
  have H := fun v => H v v (Nat.le_refl _)
  have stay : ∀ v, Nn S v → (∀ j, j < c → O j ≠ ld a 1 v) → ld b 1 v = ld a 1 v := fun v hv hno => by
    rcases H v hv with ⟨j, hj, e, _⟩ | ⟨_, e⟩
    · exact absurd e (hno j hj)
    · exact e
  have move : ∀ v j, Nn S v → j < c → ld a 1 v = O j → ld b 1 v = U j := fun v j hv hj e => by
    rcases H v hv with ⟨i, hi, e1, e2⟩ | ⟨e1, _⟩
    · rw [f3 j i hj hi (e.symm.trans e1.symm)]; exact e2.symm
    · exact absurd e.symm (e1 j hj)
  have reds : ∀ v, Nn S v → Rd (ld a 1 v) → ld b 1 v = ld a 1 v := fun v hv hr => stay v hv (red _ hr)
  have live : ∀ v, Nn S v → Lv S a (ld b 1 v) ∧ ∀ j, j < c → ld b 1 v ≠ O j := fun v hv => by
    rcases H v hv with ⟨j, hj, _, e⟩ | ⟨e1, e2⟩
    · rw [← e]; exact f5 j hj
    · rw [e2]; exact ⟨⟨v, hv, rfl⟩, fun j hj e => e1 j hj e.symm⟩
  have liveX : ∀ x, Lv S b x → Lv S a x ∧ ∀ j, j < c → x ≠ O j := fun x ⟨v, hv, e⟩ => by rw [← e]; exact live v hv
  have mark : ∀ v, Nn S v → ¬ S v = 0 → mm (ld b 1 v) = S v := fun v hv h0 => by
    have e3 := hq.2.2.1 v hv h0
    rcases H v hv with ⟨j, hj, e1, e2⟩ | ⟨e1, e2⟩
    · rw [← e2, m4 j hj (by rw [e1, e3]; exact h0), e1]; exact e3
    · rw [e2, mo _ (by rw [e3]; exact h0)]; exact e3
  have key : ∀ v w, Nn S v → Nn S w → (cl S E rk c0 v w ↔ ld b 1 v = ld b 1 w) := by
    intro v w hv hw
    constructor
    · intro hc
      refine hc (fun v w => ld b 1 v = ld b 1 w) ⟨fun _ _ => rfl, fun _ _ e => e.symm, fun _ _ _ e k => e.trans k, fun v w l v1 w1 hl _ _ e => ?_⟩ (fun x y nx ny e => ?_) ?_
      · show ld b 1 (2 * v + l) = ld b 1 (2 * w + l)
        rw [ld_st b 1 v1 hl, ld_st b 1 w1 hl, show ld b 1 v = ld b 1 w from e]
      · have e := (hq.2.2.2.2.1 x y nx ny).mp e
        show ld b 1 x = ld b 1 y
        rcases H x nx with ⟨j, hj, e1, e2⟩ | ⟨e1, e2⟩
        · rw [← e2, move y j ny hj (by rw [← e, e1])]
        · rw [e2, stay y ny (by rw [← e]; exact e1), e]
      · show ld b 1 rk = ld b 1 c0
        rw [reds rk nr (by rw [er]; exact ry), er, move c0 0 nc (by omega) (by rw [hbl, f1a]), f1b]
    · intro e
      have same : ∀ x y, Nn S x → Nn S y → ld a 1 x = ld a 1 y → cl S E rk c0 x y := fun x y nx ny e => cl_in S nx ny ((hq.2.2.2.2.1 x y nx ny).mpr e)
      rcases H v hv with ⟨j, hj, e1, e2⟩ | ⟨e1, e2⟩ <;> rcases H w hw with ⟨i, hi, d1, d2⟩ | ⟨d1, d2⟩
      · obtain ⟨u, u1, u2⟩ := (f5 j hj).1
        have h1 := f12 j u v hj u1 hv u2 e1.symm
        have h2 := f12 i u w hi u1 hw (by rw [u2, e2, e, d2]) d1.symm
        exact g.2.2.1 _ _ _ (g.2.1 _ _ h1) h2
      · exact g.2.1 _ _ (f12 j w v hj hw hv (by rw [← d2, ← e, e2]) e1.symm)
      · exact f12 i v w hi hv hw (by rw [← e2, e, d2]) d1.symm
      · exact same v w hv hw (by rw [← e2, e, d2])
  -- the arrow to what isn't red
  have one : ∀ x l x' l', Lv S b x → Lv S b x' → l < 2 → l' < 2 → ¬ b (2 * x + l) = 0 → b (2 * x + l) = b (2 * x' + l') → ¬ Rd (b (2 * x + l)) → x = x' ∧ l = l' := by
    intro x l x' l' hx1 hx2 hl hl' h0 e hr
    obtain ⟨lx, ox⟩ := liveX x hx1
    obtain ⟨lx', ox'⟩ := liveX x' hx2
    have cs : ∀ x l, Lv S a x → (∀ j, j < c → x ≠ O j) → l < 2 → ¬ b (2 * x + l) = 0 → ¬ Rd (b (2 * x + l)) → (b (2 * x + l) = a (2 * x + l)) ∨ (∃ i, i < c ∧ x = U i ∧ b (2 * x + l) = a (2 * O i + l)) := by
      intro x l lx ox hl h0 hr
      rcases f8 (2 * x + l) with z | z | ⟨k, hk, z⟩
      · exact Or.inl z
      · rw [z, f9] at hr; exact absurd ry hr
      · obtain ⟨_, _, _, i, l2, i1, i2, i3, i4, i5, i6, i7⟩ := f7 k hk
        rw [z] at i4 i5
        have : l2 = l := by omega
        subst this
        exact Or.inr ⟨i, i1, by omega, i5⟩
    rcases cs x l lx ox hl h0 hr with z | ⟨i, i1, i2, z⟩ <;> rcases cs x' l' lx' ox' hl' (by rw [← e]; exact h0) (by rw [← e]; exact hr) with z' | ⟨i', i1', i2', z'⟩
    · rw [z] at h0 hr
      exact hq.un hl hl' lx lx' h0 (by rw [← z, e, z']) hr
    · rw [z] at h0 hr
      obtain ⟨e1, _⟩ := hq.un hl hl' lx (f2 i' i1').1 h0 (by rw [← z, e, z']) hr
      exact absurd e1 (ox i' i1')
    · rw [z] at h0 hr
      obtain ⟨e1, _⟩ := hq.un hl hl' (f2 i i1).1 lx' h0 (by rw [← z, e, z']) hr
      exact absurd e1.symm (ox' i i1)
    · rw [z] at h0 hr
      obtain ⟨e1, e2⟩ := hq.un hl hl' (f2 i i1).1 (f2 i' i1').1 h0 (by rw [← z, e, z']) hr
      have := f3 i i' i1 i1' e1
      subst this
      exact ⟨i2.trans i2'.symm, e2⟩
  refine ⟨⟨fun v hv => hq.lt (live v hv).1, fun x l hl hx' h0 => ?_, mark, fun x hx' h0 => ?_, key, fun v w hv hw v2 w2 e hr => ?_, fun v hv v2 hr => ?_⟩, fun v w hv hw e s1 s2 => ?_, fun x hx' => (liveX x hx').1, reds⟩
  · obtain ⟨lx, ox⟩ := liveX x hx'
    by_cases hs : 2 * x + l = 2 * xk + l0
    · have e1 : x = xk := by omega
      have e2 : l = l0 := by omega
      subst e1 e2
      refine ⟨c0 / 2, by omega, by rw [show 2 * (c0 / 2) + l = c0 by omega]; exact nc, ?_⟩
      rw [reds _ (Nn_half S c2 nc) (by rw [ec]; exact rx), ec]
    · rcases f8 (2 * x + l) with z | z | ⟨k, hk, z⟩
      · rw [z] at h0
        obtain ⟨v, v1, v2, v3⟩ := hq.2.1 x l hl lx h0
        exact ⟨v, v1, v2, by rw [stay v (Nn_up S v1 hl v2) (by rw [v3]; exact fun j hj e => ox j hj e.symm)]; exact v3⟩
      · exact absurd z hs
      · obtain ⟨_, _, _, i, l2, i1, i2, i3, i4, i5, i6, i7⟩ := f7 k hk
        have e1 : x = U i := by omega
        have e2 : l2 = l := by omega
        subst e2
        obtain ⟨v, v1, v2, v3⟩ := hq.2.1 (O i) l2 hl (f2 i i1).1 i6
        exact ⟨v, v1, v2, by rw [move v i (Nn_up S v1 hl v2) i1 v3, e1]⟩
  · obtain ⟨lx, ox⟩ := liveX x hx'
    obtain ⟨v, v1, v2, v3⟩ := m5 x lx h0
    refine ⟨v, v1, ?_, v2⟩
    rcases v3 with z | ⟨j, hj, z1, z2⟩
    · rw [stay v v1 (by rw [z]; exact fun j hj e => ox j hj e.symm)]; exact z
    · rw [move v j v1 hj z2]; exact z1
  · have nv := Nn_half S v2 hv
    have nw := Nn_half S w2 hw
    have ev : ld b 1 v = b (2 * ld b 1 (v / 2) + v % 2) := ld_2 _ _ v2
    have ew : ld b 1 w = b (2 * ld b 1 (w / 2) + w % 2) := ld_2 _ _ w2
    refine one _ _ _ _ ⟨_, nv, rfl⟩ ⟨_, nw, rfl⟩ (Nat.mod_lt _ (by decide)) (Nat.mod_lt _ (by decide)) ?_ (by rw [← ev, ← ew]; exact e) (by rw [← ev]; exact hr)
    rw [← ev]
    have := (hq.lt (live v hv).1).1
    omega
  · have nv := Nn_half S v2 hv
    have hl : v % 2 < 2 := Nat.mod_lt _ (by decide)
    have ev : ld b 1 v = b (2 * ld b 1 (v / 2) + v % 2) := ld_2 _ _ v2
    have lb : ¬ ld b 1 v = 0 := by
      have := (hq.lt (live v hv).1).1
      omega
    obtain ⟨lx, ox⟩ := live (v / 2) nv
    rw [ev] at lb ⊢
    generalize ld b 1 (v / 2) = x at *
    rcases f8 (2 * x + v % 2) with z | z | ⟨k, hk, z⟩
    · rw [z] at lb ⊢
      exact hq.nr hl lx lb hr
    · have : x = xk := by omega
      exact absurd (this.symm ▸ rx) hr
    · obtain ⟨_, _, _, i, l2, i1, i2, i3, i4, i5, i6, i7⟩ := f7 k hk
      rw [z] at i5
      rw [i5]
      exact hq.nr i2 (f2 i i1).1 i6 (f2 i i1).2
  · rw [← mark v hv s1, ← mark w hw s2, (key v w hv hw).mp e]
end FP
