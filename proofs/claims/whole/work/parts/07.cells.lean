section PWD
variable {g : pw_G} {M : pw_M} {pc : Nat} {lv : List (Nat × Value)} {st : List Value} {u : Nat} {σ : pw_Mem} {Q : pw_R → Prop}
theorem pw_enI (g : pw_G) (σ : pw_Mem) {k : Nat} (h : pw_kd k = 6) : pw_en g σ k = (pw_ad g k, .inl (pw_cI g, pw_ln k, .inl (σ k))) := by simp [pw_en, h]
theorem pw_enZ (g : pw_G) (σ : pw_Mem) {k : Nat} (h : pw_kd k = 7) : pw_en g σ k = (pw_ad g k, .inl (pw_cZ g, pw_ln k, .inl (σ k))) := by simp [pw_en, h]
theorem pw_enO (g : pw_G) (σ : pw_Mem) {k ci : Nat} (h : pw_kd k = ci) (hc : ci < 6) : pw_en g σ k = (pw_ad g k, .inr (ci, pw_fl g σ k)) := by
  subst h
  rw [pw_en, if_neg (by omega), if_neg (by omega)]
theorem pw_kd_lt {k c : Nat} (h : pw_kd k = c) (hc : c < 9) : k < 46 := by
  rcases Nat.lt_or_ge k 46 with q | q
  · exact q
  · exfalso
    have h1 : pw_kds[k]? = none := by
      apply List.getElem?_eq_none
      exact q
    rw [pw_kd, List.getD_eq_getElem?_getD, h1] at h
    simp at h
    omega
theorem pw_set_ne (σ : pw_Mem) (k i : Nat) (x : Int32) {a : Nat} (h : a ≠ k) : pw_set σ k i x a = σ a := by simp [pw_set, h]
theorem pw_set_eq (σ : pw_Mem) (k i : Nat) (x : Int32) : pw_set σ k i x k = upd (σ k) i x := by simp [pw_set]
theorem wp_iaload (k0 : Nat) {i : Int32} (d : decode (pw_cc M) pc = .ok (.iaload, 1)) (hk : pw_kd k0 = 6) (hin : vp_in i (pw_ln k0)) (k : WP g M (pc + 1) lv (.int (σ k0 i.toNatClampNeg) :: st) u σ Q) : WP g M pc lv (.int i :: .ref (pw_ad g k0) :: st) u σ Q :=
  fun p e s m args below meth c C H locs ls hl hL hS => by
    obtain ⟨hx, hb, hr, hml, hown, hts, hlk, hex, hK, hX, hbz⟩ := id C
    exact va_iald hx hb hK hL.1 k0 0 ((pw_at g σ (pw_kd_lt hk (by decide))).trans (by rw [pw_enI g σ hk])) rfl hin d (k p e s m args below meth c C H locs ls hl hL hS)
theorem wp_baload (k0 : Nat) {i : Int32} (d : decode (pw_cc M) pc = .ok (.baload, 1)) (hk : pw_kd k0 = 7) (hin : vp_in i (pw_ln k0)) (k : WP g M (pc + 1) lv (.int (σ k0 i.toNatClampNeg) :: st) u σ Q) : WP g M pc lv (.int i :: .ref (pw_ad g k0) :: st) u σ Q :=
  fun p e s m args below meth c C H locs ls hl hL hS => by
    obtain ⟨hx, hb, hr, hml, hown, hts, hlk, hex, hK, hX, hbz⟩ := id C
    exact va_zald hx hb hK hL.1 k0 1 ((pw_at g σ (pw_kd_lt hk (by decide))).trans (by rw [pw_enZ g σ hk])) rfl hin d (k p e s m args below meth c C H locs ls hl hL hS)
theorem wp_iastore (k0 : Nat) {i x : Int32} (d : decode (pw_cc M) pc = .ok (.iastore, 1)) (hk : pw_kd k0 = 6) (hin : vp_in i (pw_ln k0)) (k : WP g M (pc + 1) lv st u (pw_set σ k0 i.toNatClampNeg x) Q) : WP g M pc lv (.int x :: .int i :: .ref (pw_ad g k0) :: st) u σ Q :=
  fun p e s m args below meth c C H locs ls hl hL hS => by
    obtain ⟨hx, hb, hr, hml, hown, hts, hlk, hex, hK, hX, hbz⟩ := id C
    refine va_iast hx hb hK hL.1 hL.2 hS k0 0 ((pw_at g σ (pw_kd_lt hk (by decide))).trans (by rw [pw_enI g σ hk])) rfl hin d (fun H1 locs1 hP hD hS1 => ?_)
    have e1 : (pw_W g σ).set k0 (pw_ad g k0, .inl (pw_cI g, pw_ln k0, .inl (upd (σ k0) i.toNatClampNeg x))) = pw_W g (pw_set σ k0 i.toNatClampNeg x) := by
      rw [← pw_setW g σ (pw_set σ k0 i.toNatClampNeg x) (pw_kd_lt hk (by decide)) (fun a ha => pw_set_ne _ _ _ _ ha), pw_enI g _ hk, pw_set_eq]
    rw [e1] at hP hD
    exact k p e s m args below meth c C H1 locs1 ls hl ⟨hP, hD⟩ hS1
theorem wp_bastore (k0 : Nat) {i x : Int32} (d : decode (pw_cc M) pc = .ok (.bastore, 1)) (hk : pw_kd k0 = 7) (hin : vp_in i (pw_ln k0)) (k : WP g M (pc + 1) lv st u (pw_set σ k0 i.toNatClampNeg (vp_nar .boolean x)) Q) : WP g M pc lv (.int x :: .int i :: .ref (pw_ad g k0) :: st) u σ Q :=
  fun p e s m args below meth c C H locs ls hl hL hS => by
    obtain ⟨hx, hb, hr, hml, hown, hts, hlk, hex, hK, hX, hbz⟩ := id C
    refine va_zast hx hb hK hL.1 hL.2 hS k0 1 ((pw_at g σ (pw_kd_lt hk (by decide))).trans (by rw [pw_enZ g σ hk])) rfl hin d (fun H1 locs1 hP hD hS1 => ?_)
    have e1 : (pw_W g σ).set k0 (pw_ad g k0, .inl (pw_cZ g, pw_ln k0, .inl (upd (σ k0) i.toNatClampNeg (vp_nar .boolean x)))) = pw_W g (pw_set σ k0 i.toNatClampNeg (vp_nar .boolean x)) := by
      rw [← pw_setW g σ (pw_set σ k0 i.toNatClampNeg (vp_nar .boolean x)) (pw_kd_lt hk (by decide)) (fun a ha => pw_set_ne _ _ _ _ ha), pw_enZ g _ hk, pw_set_eq]
    rw [e1] at hP hD
    exact k p e s m args below meth c C H1 locs1 ls hl ⟨hP, hD⟩ hS1
theorem wp_alen (k0 : Nat) {v : Int32} (d : decode (pw_cc M) pc = .ok (.arraylength, 1)) (hk : pw_kd k0 = 6) (hv : Int32.ofNat (pw_ln k0) = v) (k : WP g M (pc + 1) lv (.int v :: st) u σ Q) : WP g M pc lv (.ref (pw_ad g k0) :: st) u σ Q :=
  fun p e s m args below meth c C H locs ls hl hL hS => by
    obtain ⟨hx, hb, hr, hml, hown, hts, hlk, hex, hK, hX, hbz⟩ := id C
    exact va_alen hx hb hK hL.1 k0 0 (x := (pw_ln k0, .inl (σ k0))) ((pw_at g σ (pw_kd_lt hk (by decide))).trans (by rw [pw_enI g σ hk])) (ty := .int) rfl hv d (k p e s m args below meth c C H locs ls hl hL hS)
/-- the six classes' fields are laid as the tables say -/
theorem pw_in0 : ∀ w ∈ wsX00, w ∈ pw_ws := by decide +kernel
theorem pw_in1 : ∀ w ∈ wsX10, w ∈ pw_ws := by decide +kernel
theorem pw_in2 : ∀ w ∈ wsX20, w ∈ pw_ws := by decide +kernel
theorem pw_in3 : ∀ w ∈ wsX30, w ∈ pw_ws := by decide +kernel
theorem pw_in4 : ∀ w ∈ wsX40, w ∈ pw_ws := by decide +kernel
theorem pw_in5 : ∀ w ∈ wsX50, w ∈ pw_ws := by decide +kernel
theorem pw_ins0 {ci : Nat} {C : String} {T : u_T} {N : Nat} (h : vwCl[ci]? = some (C, T, N)) : (∀ w ∈ u_ws C T N, w ∈ pw_ws) ∧ (∃ ty0 : Nat → FieldType, ∀ k, k < N → parseFieldDescriptor (T k).2.2.1 = some (ty0 k)) ∧ (∀ a, a < N → ∀ b, b < N → a ≠ b → (T a).2.1 ≠ (T b).2.1) ∧ ci < 6 := by
  match ci, h with
  | 0, h => cases h; exact ⟨pw_in0, ⟨_, tyX0_ok⟩, nmX0, by decide⟩
  | 1, h => cases h; exact ⟨pw_in1, ⟨_, tyX1_ok⟩, nmX1, by decide⟩
  | 2, h => cases h; exact ⟨pw_in2, ⟨_, tyX2_ok⟩, nmX2, by decide⟩
  | 3, h => cases h; exact ⟨pw_in3, ⟨_, tyX3_ok⟩, nmX3, by decide⟩
  | 4, h => cases h; exact ⟨pw_in4, ⟨_, tyX4_ok⟩, nmX4, by decide⟩
  | 5, h => cases h; exact ⟨pw_in5, ⟨_, tyX5_ok⟩, nmX5, by decide⟩
  | n + 6, h => simp [vwCl] at h
theorem pw_fl_get (g : pw_G) (σ : pw_Mem) {k ci f o : Nat} (hk : pw_kd k = ci) (ho : (pw_off ci)[f]? = some o) : (pw_fl g σ k)[f]? = some (pw_fv g σ k (o, f)) := by
  subst hk
  simp [pw_fl, ho]
/-- field f of a class by the pool entry idx of own -/
def pw_fk (own : String) (idx ci f : Nat) : Prop := ∃ C T N, vwCl[ci]? = some (C, T, N) ∧ f < N ∧ Cond.fieldLink own idx (T f).1 (T f).2.1 (T f).2.2.1 ∈ pw_ws
theorem wp_getI (k0 : Nat) {idx f ci : Nat} (d : decode (pw_cc M) pc = .ok (.getfield idx, 3)) (hk : pw_kd k0 = ci) (hf : pw_fk (pw_y M).cls idx ci f) (ho : (pw_off ci)[f]? = some 0) (k : WP g M (pc + 3) lv (.int (σ k0 f) :: st) u σ Q) : WP g M pc lv (.ref (pw_ad g k0) :: st) u σ Q :=
  fun p e s m args below meth c C H locs ls hl hL hS => by
    obtain ⟨hx, hb, hr, hml, hown, hts, hlk, hex, hK, hX, hbz⟩ := id C
    obtain ⟨Cn, T, N, hc, hfN, hw⟩ := hf
    obtain ⟨i1, -, -, i4⟩ := pw_ins0 hc
    refine va_get (D := pw_D g) (cl := vwCl) hx hb hts i1 hown hK hL.1 k0 ((pw_at g σ (pw_kd_lt hk (by omega))).trans (by rw [pw_enO g σ hk i4])) hc f hfN (hts _ hw) (fun _ h9 => h9) (pw_fl_get g σ hk ho) d ?_
    exact k p e s m args below meth c C H locs ls hl hL hS
theorem wp_getR (k0 : Nat) {idx f ci o : Nat} (d : decode (pw_cc M) pc = .ok (.getfield idx, 3)) (hk : pw_kd k0 = ci) (hf : pw_fk (pw_y M).cls idx ci f) (ho : (pw_off ci)[f]? = some (o + 1)) (k : WP g M (pc + 3) lv (.ref (pw_ad g (k0 + (o + 1))) :: st) u σ Q) : WP g M pc lv (.ref (pw_ad g k0) :: st) u σ Q :=
  fun p e s m args below meth c C H locs ls hl hL hS => by
    obtain ⟨hx, hb, hr, hml, hown, hts, hlk, hex, hK, hX, hbz⟩ := id C
    obtain ⟨Cn, T, N, hc, hfN, hw⟩ := hf
    obtain ⟨i1, -, -, i4⟩ := pw_ins0 hc
    refine va_get (D := pw_D g) (cl := vwCl) hx hb hts i1 hown hK hL.1 k0 ((pw_at g σ (pw_kd_lt hk (by omega))).trans (by rw [pw_enO g σ hk i4])) hc f hfN (hts _ hw) (fun _ h9 => h9) (pw_fl_get g σ hk ho) d ?_
    exact k p e s m args below meth c C H locs ls hl hL hS
theorem pw_fl_set (g : pw_G) (σ : pw_Mem) {k ci f : Nat} (x : Int32) (hk : pw_kd k = ci) (ho : (pw_off ci)[f]? = some 0) : (pw_fl g σ k).set f (.int x) = pw_fl g (pw_set σ k f x) k := by
  subst hk
  apply List.ext_getElem?
  intro i
  rw [List.getElem?_set]
  have hlt : f < (pw_fl g σ k).length := by
    have := (List.getElem?_eq_some_iff.mp ho).1
    simpa [pw_fl] using this
  by_cases hi : f = i
  · subst hi
    rw [if_pos rfl, if_pos hlt]
    simp [pw_fl, ho, pw_fv, pw_set_eq, upd]
  · rw [if_neg hi]
    simp only [pw_fl, List.getElem?_map, List.getElem?_zipIdx]
    cases (pw_off (pw_kd k))[i]? with
    | none => rfl
    | some o =>
      simp only [Option.map_some, pw_fv, pw_set_eq]
      by_cases h0 : o = 0
      · have hi2 : ¬ i = f := fun q => hi q.symm
        simp [h0, upd, hi2]
      · simp [h0]
theorem wp_putI (k0 : Nat) {idx f ci : Nat} {x : Int32} (d : decode (pw_cc M) pc = .ok (.putfield idx, 3)) (hk : pw_kd k0 = ci) (hf : ∃ C T N, vwCl[ci]? = some (C, T, N) ∧ f < N ∧ Cond.fieldLink (pw_y M).cls idx (T f).1 (T f).2.1 (T f).2.2.1 ∈ pw_ws ∧ (T f).2.2.2 = false ∧ parseFieldDescriptor (T f).2.2.1 = some .int) (ho : (pw_off ci)[f]? = some 0) (k : WP g M (pc + 3) lv st u (pw_set σ k0 f x) Q) : WP g M pc lv (.int x :: .ref (pw_ad g k0) :: st) u σ Q :=
  fun p e s m args below meth c C H locs ls hl hL hS => by
    obtain ⟨hx, hb, hr, hml, hown, hts, hlk, hex, hK, hX, hbz⟩ := id C
    obtain ⟨Cn, T, N, hc, hfN, hw, hfin, hty⟩ := hf
    obtain ⟨i1, ⟨ty0, i2⟩, i3, i4⟩ := pw_ins0 hc
    have hlt : f < (pw_fl g σ k0).length := (List.getElem?_eq_some_iff.mp (pw_fl_get g σ hk ho)).1
    refine va_put (D := pw_D g) (cl := vwCl) (ty := .int) (v := .int x) hx hb hts i1 ty0 i2 i3 hown hK hL.1 hL.2 hS k0 ((pw_at g σ (pw_kd_lt hk (by omega))).trans (by rw [pw_enO g σ hk i4])) hc f hfN (hts _ hw) (fun _ h9 => h9) hfin hty rfl rfl hlt d (fun H1 locs1 hP hD hS1 => ?_)
    have e1 : (pw_W g σ).set k0 (pw_ad g k0, .inr (ci, (pw_fl g σ k0).set f (.int x))) = pw_W g (pw_set σ k0 f x) := by
      rw [← pw_setW g σ (pw_set σ k0 f x) (pw_kd_lt hk (by omega)) (fun a ha => pw_set_ne _ _ _ _ ha), pw_enO g _ hk i4, pw_fl_set g σ x hk ho]
    rw [e1] at hP hD
    exact k p e s m args below meth c C H1 locs1 ls hl ⟨hP, hD⟩ hS1
end PWD
