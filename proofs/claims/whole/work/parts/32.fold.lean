/-! a merging in the class, as mathematics: blocks with arrows a, laid over each other by a queue of pairs -/
section FO
variable (S : Nat → Int32) (a : Nat → Nat) (μ : Nat → Int32) (Rd : Nat → Prop) (E : Nat → Nat → Prop)
/-- a block that nodes are in -/
def Lv (x : Nat) : Prop := ∃ v, Nn S v ∧ ld a 1 v = x
/-- the blocks are E's classes: arrows, marks; what isn't red hangs behind the red ones as trees -/
def QI : Prop := (∀ v, Nn S v → 1 ≤ ld a 1 v ∧ ld a 1 v < 512) ∧
  (∀ x l, l < 2 → Lv S a x → ¬ a (2 * x + l) = 0 → ∃ v, 1 ≤ v ∧ Nn S (2 * v + l) ∧ ld a 1 v = x) ∧
  (∀ v, Nn S v → ¬ S v = 0 → μ (ld a 1 v) = S v) ∧
  (∀ x, Lv S a x → ¬ μ x = 0 → ∃ v, Nn S v ∧ ld a 1 v = x ∧ S v = μ x) ∧
  (∀ v w, Nn S v → Nn S w → (E v w ↔ ld a 1 v = ld a 1 w)) ∧
  (∀ v w, Nn S v → Nn S w → 2 ≤ v → 2 ≤ w → ld a 1 v = ld a 1 w → ¬ Rd (ld a 1 v) → ld a 1 (v / 2) = ld a 1 (w / 2) ∧ v % 2 = w % 2) ∧
  (∀ v, Nn S v → 2 ≤ v → ¬ Rd (ld a 1 (v / 2)) → ¬ Rd (ld a 1 v))
variable {S a μ Rd E}
theorem ld_st (to : Nat → Nat) (s : Nat) {v l : Nat} (hv : 1 ≤ v) (hl : l < 2) : ld to s (2 * v + l) = to (2 * ld to s v + l) := by
  rw [ld_2 _ _ (by omega), show (2 * v + l) / 2 = v by omega, show (2 * v + l) % 2 = l by omega]
theorem QI.lv (h : QI S a μ Rd E) {x l : Nat} (hl : l < 2) (hx : Lv S a x) (h0 : ¬ a (2 * x + l) = 0) : Lv S a (a (2 * x + l)) := by
  obtain ⟨v, v1, v2, rfl⟩ := h.2.1 x l hl hx h0
  exact ⟨2 * v + l, v2, ld_st a 1 v1 hl⟩
theorem QI.lt (h : QI S a μ Rd E) {x : Nat} (hx : Lv S a x) : 1 ≤ x ∧ x < 512 := by
  obtain ⟨v, v1, rfl⟩ := hx
  exact h.1 v v1
theorem QI.un (h : QI S a μ Rd E) {x l x' l' : Nat} (hl : l < 2) (hl' : l' < 2) (hx : Lv S a x) (hx' : Lv S a x') (h0 : ¬ a (2 * x + l) = 0) (e : a (2 * x + l) = a (2 * x' + l')) (hr : ¬ Rd (a (2 * x + l))) : x = x' ∧ l = l' := by
  obtain ⟨v, v1, v2, rfl⟩ := h.2.1 x l hl hx h0
  obtain ⟨w, w1, w2, rfl⟩ := h.2.1 x' l' hl' hx' (by rw [← e]; exact h0)
  have := h.2.2.2.2.2.1 (2 * v + l) (2 * w + l') v2 w2 (by omega) (by omega) (by rw [ld_st a 1 v1 hl, ld_st a 1 w1 hl']; exact e) (by rw [ld_st a 1 v1 hl]; exact hr)
  rw [show (2 * v + l) / 2 = v by omega, show (2 * w + l') / 2 = w by omega] at this
  exact ⟨this.1, by omega⟩
theorem QI.nr (h : QI S a μ Rd E) {x l : Nat} (hl : l < 2) (hx : Lv S a x) (h0 : ¬ a (2 * x + l) = 0) (hr : ¬ Rd x) : ¬ Rd (a (2 * x + l)) := by
  obtain ⟨v, v1, v2, rfl⟩ := h.2.1 x l hl hx h0
  rw [← ld_st a 1 v1 hl]
  exact h.2.2.2.2.2.2 _ v2 (by omega) (by rw [show (2 * v + l) / 2 = v by omega]; exact hr)
variable (S a μ Rd E) (xk l0 y0 rk c0 : Nat)
/-- the blue block at the arrow 2 * xk + l0 is laid over the red y0; rk and c0 are nodes of them -/
def MI : Prop := QI S a μ Rd E ∧ Rd 1 ∧ l0 < 2 ∧ Lv S a xk ∧ Rd xk ∧ ¬ a (2 * xk + l0) = 0 ∧ ¬ Rd (a (2 * xk + l0)) ∧ Rd y0 ∧ Nn S rk ∧ ld a 1 rk = y0 ∧ Nn S c0 ∧ 2 ≤ c0 ∧ ld a 1 (c0 / 2) = xk ∧ c0 % 2 = l0
/-- the slots before t are done; c pairs *)-/
def FS (t c : Nat) (U O b : Nat → Nat) (nac : Nat) (NA : Nat → Nat) : Prop :=
  (1 ≤ c ∧ O 0 = a (2 * xk + l0) ∧ U 0 = y0) ∧
  (∀ j, j < c → Lv S a (O j) ∧ ¬ Rd (O j)) ∧
  (∀ i j, i < c → j < c → O i = O j → i = j) ∧
  (∀ j, j < c → 0 < j → ∃ i l, i < c ∧ l < 2 ∧ 2 * i + l < t ∧ O j = a (2 * O i + l) ∧ U j = b (2 * U i + l)) ∧
  (∀ j, j < c → Lv S a (U j) ∧ ∀ i, i < c → U j ≠ O i) ∧
  (∀ j l, j < c → l < 2 → b (2 * O j + l) = a (2 * O j + l)) ∧
  (∀ k, k < nac → NA k < 1024 ∧ a (NA k) = 0 ∧ NA k ≠ 2 * xk + l0 ∧ ∃ i l, i < c ∧ l < 2 ∧ 2 * i + l < t ∧ NA k = 2 * U i + l ∧ b (NA k) = a (2 * O i + l) ∧ ¬ a (2 * O i + l) = 0 ∧ ∀ j, j < c → O j ≠ a (2 * O i + l)) ∧
  (∀ i, b i = a i ∨ i = 2 * xk + l0 ∨ ∃ k, k < nac ∧ NA k = i) ∧
  b (2 * xk + l0) = y0 ∧
  (∀ i k, i < nac → k < nac → b (NA i) = b (NA k) → i = k) ∧
  (∀ i l, i < c → l < 2 → 2 * i + l < t → ¬ a (2 * O i + l) = 0 → ¬ b (2 * U i + l) = 0 ∧ ((∃ j, j < c ∧ O j = a (2 * O i + l) ∧ U j = b (2 * U i + l)) ∨ ((∀ j, j < c → O j ≠ a (2 * O i + l)) ∧ b (2 * U i + l) = a (2 * O i + l)))) ∧
  (∀ j v w, j < c → Nn S v → Nn S w → ld a 1 v = U j → ld a 1 w = O j → cl S E rk c0 v w)
def FM (q : Nat) (U O : Nat → Nat) (mm : Nat → Int32) (nmc : Nat) (NM : Nat → Nat) : Prop :=
  (∀ x, mm x = μ x ∨ ∃ i, i < nmc ∧ NM i = x) ∧
  (∀ i, i < nmc → μ (NM i) = 0 ∧ ¬ mm (NM i) = 0 ∧ ∃ j, j < q ∧ NM i = U j) ∧
  (∀ i j, i < nmc → j < nmc → NM i = NM j → i = j) ∧
  (∀ j, j < q → ¬ μ (O j) = 0 → mm (U j) = μ (O j)) ∧
  (∀ x, Lv S a x → ¬ mm x = 0 → ∃ v, Nn S v ∧ S v = mm x ∧ (ld a 1 v = x ∨ ∃ j, j < q ∧ U j = x ∧ ld a 1 v = O j))
variable {S a μ Rd E xk l0 y0 rk c0}
theorem MI.lvy (h : MI S a μ Rd E xk l0 y0 rk c0) : Lv S a y0 := ⟨rk, h.2.2.2.2.2.2.2.2.1, h.2.2.2.2.2.2.2.2.2.1⟩
theorem MI.blue (h : MI S a μ Rd E xk l0 y0 rk c0) : ld a 1 c0 = a (2 * xk + l0) := by
  obtain ⟨hq, r1, hl0, hx, rx, b0, rb, ry, nr, er, nc, c2, ec, el⟩ := h
  rw [ld_2 _ _ c2, ec, el]
theorem FS_start (h : MI S a μ Rd E xk l0 y0 rk c0) {U O b : Nat → Nat} (hU : U 0 = y0) (hO : O 0 = a (2 * xk + l0)) (hb : ∀ i, b i = if i = 2 * xk + l0 then y0 else a i) (NA : Nat → Nat) : FS S a Rd E xk l0 y0 rk c0 0 1 U O b 0 NA := by
  have hbl := h.blue
  have hy := h.lvy
  obtain ⟨hq, r1, hl0, hx, rx, b0, rb, ry, nr, er, nc, c2, ec, el⟩ := id h
  have one : ∀ j, j < 1 → j = 0 := fun j hj => by omega
  refine ⟨⟨Nat.le_refl 1, hO, hU⟩, fun j hj => ?_, fun i j hi hj _ => by omega, fun j hj h0 => by omega, fun j hj => ?_, fun j l hj hl => ?_, fun k hk => by omega, fun i => ?_, by rw [hb, if_pos rfl], fun i k hi => by omega, fun i l hi hl ht => by omega, fun j v w hj hv hw e1 e2 => ?_⟩
  · rw [one j hj, hO]; exact ⟨hq.lv hl0 hx b0, rb⟩
  · rw [one j hj, hU]
    refine ⟨hy, fun i hi e => ?_⟩
    rw [one i hi, hO] at e
    exact rb (e ▸ ry)
  · rw [one j hj, hO, hb, if_neg]
    intro e
    have : a (2 * xk + l0) = xk := by omega
    exact rb (this.symm ▸ rx)
  · rw [hb]
    by_cases q : i = 2 * xk + l0
    · exact Or.inr (Or.inl q)
    · rw [if_neg q]; exact Or.inl rfl
  · rw [one j hj, hU] at e1
    rw [one j hj, hO, ← hbl] at e2
    have g := cl_Cg S E rk c0
    have h1 : cl S E rk c0 v rk := cl_in S hv nr ((hq.2.2.2.2.1 v rk hv nr).mpr (e1.trans er.symm))
    have h2 : cl S E rk c0 c0 w := cl_in S nc hw ((hq.2.2.2.2.1 c0 w nc hw).mpr e2.symm)
    exact g.2.2.1 _ _ _ (g.2.2.1 _ _ _ h1 (cl_ab S)) h2
theorem FM_start {U O : Nat → Nat} (h : QI S a μ Rd E) {mm : Nat → Int32} (hm : ∀ x, mm x = μ x) (NM : Nat → Nat) : FM S a μ 0 U O mm 0 NM := by
  refine ⟨fun x => Or.inl (hm x), fun i hi => by omega, fun i j hi => by omega, fun j hj => by omega, fun x hx h0 => ?_⟩
  obtain ⟨v, v1, v2, v3⟩ := h.2.2.2.1 x hx (by rw [← hm]; exact h0)
  exact ⟨v, v1, by rw [hm]; exact v3, Or.inl v2⟩
section ST
variable {t c p l : Nat} {U O b : Nat → Nat} {nac : Nat} {NA : Nat → Nat}
/-- the child of the slot isn't yet a pair's upper block, and no arrow that stays leads to it -/
theorem FS.new (h : MI S a μ Rd E xk l0 y0 rk c0) (F : FS S a Rd E xk l0 y0 rk c0 t c U O b nac NA) (hp : p < c) (hl : l < 2) (ht : t = 2 * p + l) (hy : ¬ a (2 * O p + l) = 0) :
    (∀ j, j < c → O j ≠ a (2 * O p + l)) ∧ (∀ i l', i < c → l' < 2 → 2 * i + l' < t → ¬ a (2 * O i + l') = 0 → a (2 * O i + l') ≠ a (2 * O p + l)) ∧ (∀ x l', Lv S a x → l' < 2 → (∀ j, j < c → x ≠ O j) → b (2 * x + l') ≠ a (2 * O p + l)) ∧ (∀ j, j < c → U j ≠ a (2 * O p + l)) := by
  obtain ⟨hq, r1, hl0, hx, rx, b0, rb, ry, nr, er, nc, c2, ec, el⟩ := id h
  obtain ⟨⟨f1, f1a, f1b⟩, f2, f3, f4, f5, f6, f7, f8, f9, f10, f11, f12⟩ := F
  have hnr := hq.nr hl (f2 p hp).1 hy (f2 p hp).2
  have slot : ∀ i l', i < c → l' < 2 → 2 * i + l' < t → ¬ a (2 * O i + l') = 0 → a (2 * O i + l') ≠ a (2 * O p + l) := fun i l' hi hl' hlt h0 e => by
    obtain ⟨e1, e2⟩ := hq.un hl' hl (f2 i hi).1 (f2 p hp).1 h0 e (by rw [e]; exact hnr)
    have := f3 i p hi hp e1
    omega
  have oo : ∀ j, j < c → O j ≠ a (2 * O p + l) := fun j hj e => by
    rcases Nat.eq_zero_or_pos j with z | z
    · rw [z, f1a] at e
      obtain ⟨e1, _⟩ := hq.un hl0 hl hx (f2 p hp).1 b0 e rb
      exact (f2 p hp).2 (e1 ▸ rx)
    · obtain ⟨i, l', i1, i2, i3, i4, i5⟩ := f4 j hj z
      have ne : ¬ a (2 * O i + l') = 0 := by
        rw [← i4]
        have := (hq.lt (f2 j hj).1).1
        omega
      exact slot i l' i1 i2 i3 ne (i4.symm.trans e)
  have tg : ∀ x l', Lv S a x → l' < 2 → (∀ j, j < c → x ≠ O j) → b (2 * x + l') ≠ a (2 * O p + l) := fun x l' hx' hl' hno e => by
    rcases f8 (2 * x + l') with q | q | ⟨k, hk, q⟩
    · rw [q] at e
      obtain ⟨e1, _⟩ := hq.un hl hl' (f2 p hp).1 hx' hy e.symm hnr
      exact hno p hp e1.symm
    · rw [q, f9] at e
      exact hnr (e ▸ ry)
    · obtain ⟨_, _, _, i, l2, i1, i2, i3, i4, i5, i6, i7⟩ := f7 k hk
      rw [q] at i5
      exact slot i l2 i1 i2 i3 i6 (i5.symm.trans e)
  refine ⟨oo, slot, tg, fun j hj e => ?_⟩
  rcases Nat.eq_zero_or_pos j with z | z
  · rw [z, f1b] at e
    exact hnr (e ▸ ry)
  · obtain ⟨i, l', i1, i2, i3, i4, i5⟩ := f4 j hj z
    exact tg (U i) l' (f5 i i1).1 i2 (f5 i i1).2 (i5.symm.trans e)
/-- where an arrow of a block that stays leads -/
theorem FS.tgt (h : MI S a μ Rd E xk l0 y0 rk c0) (F : FS S a Rd E xk l0 y0 rk c0 t c U O b nac NA) {x : Nat} (hl : l < 2) (hx' : Lv S a x) (hno : ∀ j, j < c → x ≠ O j) (h0 : ¬ b (2 * x + l) = 0) : Lv S a (b (2 * x + l)) ∧ ∀ j, j < c → b (2 * x + l) ≠ O j := by
  have hy0 := h.lvy
  obtain ⟨hq, r1, hl0, hx, rx, b0, rb, ry, nr, er, nc, c2, ec, el⟩ := id h
  obtain ⟨⟨f1, f1a, f1b⟩, f2, f3, f4, f5, f6, f7, f8, f9, f10, f11, f12⟩ := F
  by_cases hs : 2 * x + l = 2 * xk + l0
  · rw [hs, f9]
    exact ⟨hy0, fun j hj e => (f2 j hj).2 (e ▸ ry)⟩
  rcases f8 (2 * x + l) with q | q | ⟨k, hk, q⟩
  · rw [q] at h0 ⊢
    refine ⟨hq.lv hl hx' h0, fun j hj e => ?_⟩
    rcases Nat.eq_zero_or_pos j with z | z
    · rw [z, f1a] at e
      obtain ⟨e1, e2⟩ := hq.un hl0 hl hx hx' b0 e.symm rb
      exact hs (by rw [e1, e2])
    · obtain ⟨i, l', i1, i2, i3, i4, i5⟩ := f4 j hj z
      rw [i4] at e
      obtain ⟨e1, _⟩ := hq.un hl i2 hx' (f2 i i1).1 h0 e (by rw [e, ← i4]; exact (f2 j hj).2)
      exact hno i i1 e1
  · exact absurd q hs
  · obtain ⟨_, _, _, i, l2, i1, i2, i3, i4, i5, i6, i7⟩ := f7 k hk
    rw [q] at i5
    rw [i5]
    exact ⟨hq.lv i2 (f2 i i1).1 i6, fun j hj e => i7 j hj e.symm⟩
theorem FS.none (F : FS S a Rd E xk l0 y0 rk c0 t c U O b nac NA) (hp : p < c) (hl : l < 2) (ht : t = 2 * p + l) (hy : a (2 * O p + l) = 0) : FS S a Rd E xk l0 y0 rk c0 (t + 1) c U O b nac NA := by
  obtain ⟨f1, f2, f3, f4, f5, f6, f7, f8, f9, f10, f11, f12⟩ := F
  refine ⟨f1, f2, f3, fun j hj h0 => ?_, f5, f6, fun k hk => ?_, f8, f9, f10, fun i l' hi hl' hlt h0 => ?_, f12⟩
  · obtain ⟨i, l', i1, i2, i3, i4⟩ := f4 j hj h0
    exact ⟨i, l', i1, i2, by omega, i4⟩
  · obtain ⟨k1, k2, k3, i, l', i1, i2, i3, i4⟩ := f7 k hk
    exact ⟨k1, k2, k3, i, l', i1, i2, by omega, i4⟩
  · rcases Nat.lt_or_ge (2 * i + l') t with q | q
    · exact f11 i l' hi hl' q h0
    · have e1 : i = p := by omega
      have e2 : l' = l := by omega
      subst e1 e2
      exact absurd hy h0
theorem FS.pair (h : MI S a μ Rd E xk l0 y0 rk c0) (F : FS S a Rd E xk l0 y0 rk c0 t c U O b nac NA) (hp : p < c) (hl : l < 2) (ht : t = 2 * p + l) (hy : ¬ a (2 * O p + l) = 0) (hz : ¬ b (2 * U p + l) = 0) : FS S a Rd E xk l0 y0 rk c0 (t + 1) (c + 1) (upN U c (b (2 * U p + l))) (upN O c (a (2 * O p + l))) b nac NA := by
  obtain ⟨n1, n2, n3, n4⟩ := FS.new h F hp hl ht hy
  have hbl := h.blue
  obtain ⟨hq, r1, hl0, hx, rx, b0, rb, ry, nr, er, nc, c2, ec, el⟩ := id h
  obtain ⟨⟨f1, f1a, f1b⟩, f2, f3, f4, f5, f6, f7, f8, f9, f10, f11, f12⟩ := id F
  have up := f5 p hp
  obtain ⟨z1, z2⟩ := FS.tgt h F hl up.1 up.2 hz
  have hyl := hq.lv hl (f2 p hp).1 hy
  have hnr := hq.nr hl (f2 p hp).1 hy (f2 p hp).2
  have zy := n3 (U p) l up.1 hl up.2
  have uo : ∀ j, j < c → upN U c (b (2 * U p + l)) j = U j := fun j hj => by rw [upN, if_neg (by omega)]
  have oo : ∀ j, j < c → upN O c (a (2 * O p + l)) j = O j := fun j hj => by rw [upN, if_neg (by omega)]
  have ul : upN U c (b (2 * U p + l)) c = b (2 * U p + l) := by rw [upN, if_pos rfl]
  have ol : upN O c (a (2 * O p + l)) c = a (2 * O p + l) := by rw [upN, if_pos rfl]
  refine ⟨⟨by omega, by rw [oo 0 (by omega)]; exact f1a, by rw [uo 0 (by omega)]; exact f1b⟩, fun j hj => ?_, fun i j hi hj e => ?_, fun j hj h0 => ?_, fun j hj => ?_, fun j l' hj hl' => ?_, fun k hk => ?_, f8, f9, f10, fun i l' hi hl' hlt h0 => ?_, fun j v w hj hv hw e1 e2 => ?_⟩
  · by_cases q : j = c
    · rw [q, ol]; exact ⟨hyl, hnr⟩
    · rw [oo j (by omega)]; exact f2 j (by omega)
  · by_cases q : i = c <;> by_cases q' : j = c
    · omega
    · rw [q, ol, oo j (by omega)] at e; exact absurd e.symm (n1 j (by omega))
    · rw [q', ol, oo i (by omega)] at e; exact absurd e (n1 i (by omega))
    · rw [oo i (by omega), oo j (by omega)] at e; exact f3 i j (by omega) (by omega) e
  · by_cases q : j = c
    · rw [q, ol, ul]
      exact ⟨p, l, by omega, hl, by omega, by rw [oo p hp], by rw [uo p hp]⟩
    · obtain ⟨i, l', i1, i2, i3, i4, i5⟩ := f4 j (by omega) h0
      rw [oo j (by omega), uo j (by omega)]
      exact ⟨i, l', by omega, i2, by omega, by rw [oo i i1]; exact i4, by rw [uo i i1]; exact i5⟩
  · by_cases q : j = c
    · rw [q, ul]
      refine ⟨z1, fun i hi => ?_⟩
      by_cases q' : i = c
      · rw [q', ol]; exact zy
      · rw [oo i (by omega)]; exact z2 i (by omega)
    · rw [uo j (by omega)]
      refine ⟨(f5 j (by omega)).1, fun i hi => ?_⟩
      by_cases q' : i = c
      · rw [q', ol]; exact n4 j (by omega)
      · rw [oo i (by omega)]; exact (f5 j (by omega)).2 i (by omega)
  · by_cases q : j = c
    · rw [q, ol]
      rcases f8 (2 * a (2 * O p + l) + l') with z | z | ⟨k, hk, z⟩
      · exact z
      · have : a (2 * O p + l) = xk := by omega
        exact absurd (this.symm ▸ rx) hnr
      · obtain ⟨_, _, _, i, l2, i1, i2, i3, i4, _⟩ := f7 k hk
        exact absurd (by omega) (n4 i i1)
    · rw [oo j (by omega)]; exact f6 j l' (by omega) hl'
  · obtain ⟨k1, k2, k3, i, l', i1, i2, i3, i4, i5, i6, i7⟩ := f7 k hk
    refine ⟨k1, k2, k3, i, l', by omega, i2, by omega, by rw [uo i i1]; exact i4, by rw [oo i i1]; exact i5, by rw [oo i i1]; exact i6, fun j hj => ?_⟩
    rw [oo i i1]
    by_cases q : j = c
    · rw [q, ol]; exact fun e => n2 i l' i1 i2 i3 i6 e.symm
    · rw [oo j (by omega)]; exact i7 j (by omega)
  · rcases Nat.lt_or_ge (2 * i + l') t with q | q
    · have hi' : i < c := by omega
      rw [oo i hi'] at h0 ⊢
      rw [uo i hi']
      obtain ⟨g1, g2⟩ := f11 i l' hi' hl' q h0
      refine ⟨g1, ?_⟩
      rcases g2 with ⟨j, j1, j2, j3⟩ | ⟨g2, g3⟩
      · exact Or.inl ⟨j, by omega, by rw [oo j j1]; exact j2, by rw [uo j j1]; exact j3⟩
      · refine Or.inr ⟨fun j hj => ?_, g3⟩
        by_cases q' : j = c
        · rw [q', ol]; exact fun e => n2 i l' hi' hl' q h0 e.symm
        · rw [oo j (by omega)]; exact g2 j (by omega)
    · have e1 : i = p := by omega
      have e2 : l' = l := by omega
      subst e1 e2
      rw [uo i hp, oo i hp]
      exact ⟨hz, Or.inl ⟨c, by omega, ol, ul⟩⟩
  · by_cases q : j = c
    · rw [q, ul] at e1
      rw [q, ol] at e2
      have g := cl_Cg S E rk c0
      obtain ⟨w0, w1, w2, w3⟩ := hq.2.1 (O p) l hl (f2 p hp).1 hy
      have hw0 := Nn_up S w1 hl w2
      have hw' : cl S E rk c0 (2 * w0 + l) w := cl_in S w2 hw ((hq.2.2.2.2.1 _ _ w2 hw).mpr (by rw [ld_st a 1 w1 hl, w3, e2]))
      suffices hv' : cl S E rk c0 v (2 * w0 + l) from g.2.2.1 _ _ _ hv' hw'
      by_cases hs : 2 * U p + l = 2 * xk + l0
      · rw [hs, f9] at e1
        have hv1 : cl S E rk c0 v rk := cl_in S hv nr ((hq.2.2.2.2.1 v rk hv nr).mpr (e1.trans er.symm))
        have hnh := Nn_half S c2 nc
        have h3 : cl S E rk c0 (c0 / 2) w0 := f12 p _ _ hp hnh hw0 (by rw [ec]; omega) w3
        have h4 := g.2.2.2 (c0 / 2) w0 l (by omega) w1 hl (by rw [show 2 * (c0 / 2) + l = c0 by omega]; exact nc) w2 h3
        rw [show 2 * (c0 / 2) + l = c0 by omega] at h4
        exact g.2.2.1 _ _ _ (g.2.2.1 _ _ _ hv1 (cl_ab S)) h4
      · rcases f8 (2 * U p + l) with z | z | ⟨k, hk, z⟩
        · rw [z] at e1 hz
          obtain ⟨v0, v1, v2, v3⟩ := hq.2.1 (U p) l hl up.1 hz
          have h3 := f12 p v0 w0 hp (Nn_up S v1 hl v2) hw0 v3 w3
          have h4 := g.2.2.2 v0 w0 l v1 w1 hl v2 w2 h3
          exact g.2.2.1 _ _ _ (cl_in S hv v2 ((hq.2.2.2.2.1 _ _ hv v2).mpr (by rw [ld_st a 1 v1 hl, v3, e1]))) h4
        · exact absurd z hs
        · obtain ⟨_, _, _, i, l2, i1, i2, i3, i4, i5, i6, i7⟩ := f7 k hk
          have ei : U i = U p := by omega
          have el2 : l2 = l := by omega
          subst el2
          rw [z] at i5
          rw [i5] at e1
          obtain ⟨v0, v1, v2, v3⟩ := hq.2.1 (O i) l2 hl (f2 i i1).1 i6
          obtain ⟨u, u1, u2⟩ := up.1
          have h1 := f12 i u v0 i1 u1 (Nn_up S v1 hl v2) (u2.trans ei.symm) v3
          have h2 := f12 p u w0 hp u1 hw0 u2 w3
          have h4 := g.2.2.2 v0 w0 l2 v1 w1 hl v2 w2 (g.2.2.1 _ _ _ (g.2.1 _ _ h1) h2)
          exact g.2.2.1 _ _ _ (cl_in S hv v2 ((hq.2.2.2.2.1 _ _ hv v2).mpr (by rw [ld_st a 1 v1 hl, v3, e1]))) h4
    · rw [uo j (by omega)] at e1
      rw [oo j (by omega)] at e2
      exact f12 j v w (by omega) hv hw e1 e2
theorem FS.fill (h : MI S a μ Rd E xk l0 y0 rk c0) (F : FS S a Rd E xk l0 y0 rk c0 t c U O b nac NA) (hp : p < c) (hl : l < 2) (ht : t = 2 * p + l) (hy : ¬ a (2 * O p + l) = 0) (hz : b (2 * U p + l) = 0) : FS S a Rd E xk l0 y0 rk c0 (t + 1) c U O (upN b (2 * U p + l) (a (2 * O p + l))) (nac + 1) (upN NA nac (2 * U p + l)) := by
  obtain ⟨n1, n2, n3, n4⟩ := FS.new h F hp hl ht hy
  have hy0 := h.lvy
  obtain ⟨hq, r1, hl0, hx, rx, b0, rb, ry, nr, er, nc, c2, ec, el⟩ := id h
  obtain ⟨⟨f1, f1a, f1b⟩, f2, f3, f4, f5, f6, f7, f8, f9, f10, f11, f12⟩ := id F
  have up := f5 p hp
  have ulim := hq.lt up.1
  have y1 := hq.lt hy0
  have bk : ∀ i, ¬ b i = 0 → upN b (2 * U p + l) (a (2 * O p + l)) i = b i := fun i hi => by
    rw [upN, if_neg]
    intro e
    rw [e] at hi
    exact hi hz
  have bl : upN b (2 * U p + l) (a (2 * O p + l)) (2 * U p + l) = a (2 * O p + l) := by rw [upN, if_pos rfl]
  have no : ∀ k, k < nac → upN NA nac (2 * U p + l) k = NA k := fun k hk => by rw [upN, if_neg (by omega)]
  have nl : upN NA nac (2 * U p + l) nac = 2 * U p + l := by rw [upN, if_pos rfl]
  have nab : ∀ k, k < nac → ¬ b (NA k) = 0 := fun k hk => by
    obtain ⟨k1, k2, k3, i, l', i1, i2, i3, i4, i5, i6, i7⟩ := f7 k hk
    rw [i5]; exact i6
  have nsp : 2 * U p + l ≠ 2 * xk + l0 := fun e => by
    rw [e, f9] at hz
    omega
  have a0 : a (2 * U p + l) = 0 := by
    rcases f8 (2 * U p + l) with q | q | ⟨k, hk, q⟩
    · rw [← q]; exact hz
    · exact absurd q nsp
    · have := nab k hk
      rw [q] at this
      exact absurd hz this
  refine ⟨⟨f1, f1a, f1b⟩, f2, f3, fun j hj h0 => ?_, f5, fun j l' hj hl' => ?_, fun k hk => ?_, fun i => ?_, by rw [bk _ (by rw [f9]; omega)]; exact f9, fun i k hi hk e => ?_, fun i l' hi hl' hlt h0 => ?_, f12⟩
  · obtain ⟨i, l', i1, i2, i3, i4, i5⟩ := f4 j hj h0
    refine ⟨i, l', i1, i2, by omega, i4, ?_⟩
    rw [bk _ (by rw [← i5]; have := (hq.lt (f5 j hj).1).1; omega)]
    exact i5
  · have : 2 * O j + l' ≠ 2 * U p + l := fun e => up.2 j hj (by omega)
    rw [upN, if_neg this]
    exact f6 j l' hj hl'
  · by_cases q : k = nac
    · rw [q, nl, bl]
      exact ⟨by omega, a0, nsp, p, l, hp, hl, by omega, rfl, rfl, hy, n1⟩
    · have hk' : k < nac := by omega
      obtain ⟨k1, k2, k3, i, l', i1, i2, i3, i4, i5, i6, i7⟩ := f7 k hk'
      rw [no k hk', bk _ (nab k hk')]
      exact ⟨k1, k2, k3, i, l', i1, i2, by omega, i4, i5, i6, i7⟩
  · by_cases q : i = 2 * U p + l
    · exact Or.inr (Or.inr ⟨nac, by omega, by rw [nl, q]⟩)
    · rw [upN, if_neg q]
      rcases f8 i with z | z | ⟨k, hk, z⟩
      · exact Or.inl z
      · exact Or.inr (Or.inl z)
      · exact Or.inr (Or.inr ⟨k, by omega, by rw [no k hk]; exact z⟩)
  · have ne : ∀ k, k < nac → b (NA k) ≠ a (2 * O p + l) := fun k hk e => by
      obtain ⟨k1, k2, k3, i, l', i1, i2, i3, i4, i5, i6, i7⟩ := f7 k hk
      exact n2 i l' i1 i2 i3 i6 (i5.symm.trans e)
    by_cases q : i = nac <;> by_cases q' : k = nac
    · omega
    · rw [q, nl, bl, no k (by omega), bk _ (nab k (by omega))] at e; exact absurd e.symm (ne k (by omega))
    · rw [q', nl, bl, no i (by omega), bk _ (nab i (by omega))] at e; exact absurd e (ne i (by omega))
    · rw [no i (by omega), no k (by omega), bk _ (nab i (by omega)), bk _ (nab k (by omega))] at e; exact f10 i k (by omega) (by omega) e
  · rcases Nat.lt_or_ge (2 * i + l') t with q | q
    · obtain ⟨g1, g2⟩ := f11 i l' hi hl' q h0
      rw [bk _ g1]
      exact ⟨g1, g2⟩
    · have e1 : i = p := by omega
      have e2 : l' = l := by omega
      subst e1 e2
      rw [bl]
      exact ⟨hy, Or.inr ⟨n1, rfl⟩⟩
/-- there is room for one more -/
theorem FS.room (h : MI S a μ Rd E xk l0 y0 rk c0) (F : FS S a Rd E xk l0 y0 rk c0 t c U O b nac NA) : c < 512 := by
  have := pigeon 511 c (fun j => O j - 1) (fun j hj => by
    have := h.1.lt (F.2.1 j hj).1
    show O j - 1 < 511
    omega) (fun i j hi hj e => by
    have a1 := h.1.lt (F.2.1 i hi).1
    have a2 := h.1.lt (F.2.1 j hj).1
    have e : O i - 1 = O j - 1 := e
    exact F.2.2.1 i j hi hj (by omega))
  omega
theorem FS.roomA (h : MI S a μ Rd E xk l0 y0 rk c0) (F : FS S a Rd E xk l0 y0 rk c0 t c U O b nac NA) : nac < 512 := by
  have hb : ∀ k, k < nac → 1 ≤ b (NA k) ∧ b (NA k) < 512 := fun k hk => by
    obtain ⟨_, _, _, i, l', i1, i2, i3, i4, i5, i6, i7⟩ := F.2.2.2.2.2.2.1 k hk
    rw [i5]
    exact h.1.lt (h.1.lv i2 (F.2.1 i i1).1 i6)
  have := pigeon 511 nac (fun k => b (NA k) - 1) (fun k hk => by
    have := hb k hk
    show b (NA k) - 1 < 511
    omega) (fun i j hi hj e => by
    have a1 := hb i hi
    have a2 := hb j hj
    have e : b (NA i) - 1 = b (NA j) - 1 := e
    exact F.2.2.2.2.2.2.2.2.2.1 i j hi hj (by omega))
  omega
end ST
end FO
