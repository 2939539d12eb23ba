section PWE
variable {g : pw_G} {M : pw_M} {pc : Nat} {lv : List (Nat × Value)} {st : List Value} {u : Nat} {σ : pw_Mem} {Q : pw_R → Prop}
theorem wp_ireturn {x : Int32} {ty : FieldType} (d : decode (pw_cc M) pc = .ok (.ireturn, 1)) (hr : pw_rt M = some ty) (hn : narrow ty (.int x) = .int x) (hu : u ≤ pw_mc M) (k : Q (.inl (some (.int x)), σ)) : WP g M pc lv [.int x] u σ Q :=
  fun p e s m args below meth c C H locs ls hl hL hS => by
    obtain ⟨hx, hb, hrt, hml, hown, hts, hlk, hex, hK, hX, hbz⟩ := id C
    refine W.widen (k := pw_mc M) (n := 6 * pw_mc M) hu (Nat.mul_le_mul_left 6 hu) (vx_ret ?_)
    exact W.zret hx hb (hrt.trans hr) hn (fun t ht hW => ⟨⟨_, σ, k, rfl, by rw [ht]; exact hL⟩, hS.F ht⟩) hS.2.2 d hlk
theorem wp_return (d : decode (pw_cc M) pc = .ok (.return_, 1)) (hr : pw_rt M = none) (hu : u ≤ pw_mc M) (k : Q (.inl none, σ)) : WP g M pc lv [] u σ Q :=
  fun p e s m args below meth c C H locs ls hl hL hS => by
    obtain ⟨hx, hb, hrt, hml, hown, hts, hlk, hex, hK, hX, hbz⟩ := id C
    refine W.widen (k := pw_mc M) (n := 6 * pw_mc M) hu (Nat.mul_le_mul_left 6 hu) (vx_ret ?_)
    exact W.vret hx hb (hrt.trans hr) (fun t ht hW => ⟨⟨_, σ, k, rfl, by rw [ht]; exact hL⟩, hS.F ht⟩) hS.2.2 d hlk
theorem wp_areturn {x : Nat} {ty : FieldType} (d : decode (pw_cc M) pc = .ok (.areturn, 1)) (hr : pw_rt M = some ty) (hty : (∃ n, ty = .object n) ∨ ∃ t, ty = .array t) (hu : u ≤ pw_mc M) (k : Q (.inl (some (.ref x)), σ)) : WP g M pc lv [.ref x] u σ Q :=
  fun p e s m args below meth c C H locs ls hl hL hS => by
    obtain ⟨hx, hb, hrt, hml, hown, hts, hlk, hex, hK, hX, hbz⟩ := id C
    refine W.widen (k := pw_mc M) (n := 6 * pw_mc M) hu (Nat.mul_le_mul_left 6 hu) (vx_ret ?_)
    exact W.aret hx hb (hrt.trans hr) hty (Or.inr ⟨_, rfl⟩) (fun t ht hW => ⟨⟨_, σ, k, rfl, by rw [ht]; exact hL⟩, hS.F ht⟩) hS.2.2 d hlk
/-- the rest of a method behind a call -/
def pw_k (g : pw_G) (M : pw_M) (pc : Nat) (lv : List (Nat × Value)) (rest : List Value) (u : Nat) (Q : pw_R → Prop) : pw_R → Prop
  | (.inl rv, σ) => WP g M pc lv (rv.toList ++ rest) u σ Q
  | (.inr E, σ) => Q (.inr E, σ)
theorem wp_mono {Q' : pw_R → Prop} (h : ∀ r, Q r → Q' r) (k : WP g M pc lv st u σ Q) : WP g M pc lv st u σ Q' :=
  fun p e s m args below meth c C H locs ls hl hL hS T hT X => by
    obtain ⟨t, a, o, h1, h2, h3⟩ := k p e s m args below meth c C H locs ls hl hL hS T hT X
    refine ⟨t, a, o, h1, h2, ?_⟩
    rcases h3 with ⟨⟨⟨rv, σ', q1, q2⟩, q3⟩, q4⟩ | ⟨q, rfl, E, ce, L, ⟨⟨σ', q1, q2⟩, q3⟩, q4⟩
    · exact Or.inl ⟨⟨⟨rv, σ', h _ q1, q2⟩, q3⟩, q4⟩
    · exact Or.inr ⟨q, rfl, E, ce, L, ⟨⟨σ', h _ q1, q2⟩, q3⟩, q4⟩
/-- a method's body gives its contract -/
theorem pw_met {As : List Value} (hpl : plainName (pw_y M).cls = true) (hn : (lg_sl As).length ≤ pw_mL M) (h : WP g M 0 (lv_args 0 As) [] 0 σ Q) : vx_Met (pw_l g) (pw_y M) (pw_wd M) (pw_rm M) (va_Pc As (fun U => pw_L g σ U.heap ∧ pw_K g U)) (pw_Q g Q) (pw_XC g Q) (pw_mc M) (6 * pw_mc M) (pw_A g) := by
  refine vx_ofW (cc := pw_cc M) (maxL := pw_mL M) (ret := pw_rt M) hpl rfl ?_
  intro p e s m args below meth c s₁ B hml hex hv
  obtain ⟨rfl, hL, hK⟩ := hv
  have hts := atoms_spec (ws := pw_wd M) B.pre
  have hown := findClass_of_methodNamed B.named
  have hl := lv_entry As (n := pw_mL M) hn
  rw [lg_entry_eq]
  exact h p e s m _ below meth c ⟨B.exec, B.bytes, B.returns, hml, hown, fun w hw => hts w (List.mem_cons_of_mem _ hw), B.notSynchronized, hex, hK⟩ s.heap [] _ hl hL va_S.rf
theorem pw_xw_on : ∀ w ∈ pw_xw, w.onTables = true := by decide +kernel
theorem pw_xw_warm {s U : State} (hW : s.WarmedH U.vm) (h : ∀ w ∈ pw_xw, va_Nw w s) : ∀ w ∈ pw_xw, va_Nw w U := by
  intro w hw
  have h1 := h w hw
  simp only [pw_xw, List.mem_cons, List.not_mem_nil, or_false] at hw
  rcases hw with rfl | rfl | rfl | rfl | rfl | rfl
  · exact va_Nw.warmD hW h1
  · exact va_Nw.warmD hW h1
  · exact va_Nw.warmD hW h1
  · exact va_Nw.warmC hW h1
  · exact va_Nw.warmC hW h1
  · exact va_Nw.warmC hW h1
theorem pw_K.same {U V : State} (h : pw_K g U) (hv : V.vm = U.vm) (hh : V.heap = U.heap) : pw_K g V := by
  obtain ⟨hK, ⟨h1, h2, h3, h4, h5, h6⟩, hb⟩ := h
  have hal : U.vm.Alike V.vm := by rw [hv]; exact Vm.Alike.refl _
  refine ⟨va_K.moved hal hK, ⟨va_Nw.same rfl hv.symm h1, va_Nw.same rfl hv.symm h2, ?_, ?_, fun q hq => vk_R.same hv (h5 q hq), fun w hw => va_Nw.same (pw_xw_on w hw) hv.symm (h6 w hw)⟩, by rw [hh]; exact hb⟩
  · rw [hh]; exact vx_Zq.moved hal h3
  · rw [hh]; exact vx_Zq.moved hal h4
theorem pw_K.at {s U : State} {H : Heap} {locs : List Loc} (h : pw_K g s) (hS : va_S (pw_A g) s.heap H locs) (hU : U.heap = H) (hW : s.WarmedH U.vm) : pw_K g U := by
  obtain ⟨hK, ⟨h1, h2, h3, h4, h5, h6⟩, hb⟩ := h
  refine ⟨va_K.moved hW.alike hK, ⟨va_Nw.warmM hW h1, va_Nw.warmM hW h2, ?_, ?_, fun q hq => vk_R.warm hW (h5 q hq), pw_xw_warm hW h6⟩, by rw [hU]; exact Nat.le_trans hb hS.1⟩
  · rw [hU]; exact vx_Zq.moved hW.alike (vx_Zq.kept h3 hS.2.1)
  · rw [hU]; exact vx_Zq.moved hW.alike (vx_Zq.kept h4 hS.2.1)
theorem pw_blind (As : List Value) : FrameBlind (va_Pc As (fun U => pw_L g σ U.heap ∧ pw_K g U)) :=
  fun a U f mk q => ⟨q.1, q.2.1, pw_K.same q.2.2 rfl rfl⟩
/-- behind a call: what came back, or what was thrown, which goes on to the caller -/
theorem pw_go {M' : pw_M} {p : Program} {e : Env} {s : State} {m : MethodId} {args : Array Value} {below : List Frame} {meth : Method} {c : Code} {H : Heap} {locs : List Loc} {ls : Array Slot} {st0 rest : List Value} {a : Array Value}
    (C : pw_C g M p s m meth c args) (hl : lv_has ls (pw_mL M) lv) (hS : va_S (pw_A g) s.heap H locs) (hu : u + pw_mc M' ≤ pw_mc M)
    (hr : vx_Run p (pw_l g) e (pw_rm M) s m args below meth c H locs u (6 * u) (pw_mc M') (6 * pw_mc M') (F0 m pc ls st0) rest (pw_Q g (pw_k g M (pc + 3) lv rest (u + pw_mc M') Q) a) (pw_XC g (pw_k g M (pc + 3) lv rest (u + pw_mc M') Q)) (pw_A g)) :
    W p (pw_l g) e (pw_rm M) s m args below meth c H locs u (6 * u) (vx_MQ below (pw_Q g Q) (pw_XC g Q) args s (pw_mc M) (6 * pw_mc M) (pw_A g)) (F0 m pc ls st0) := by
  obtain ⟨hx, hb, hrt, hml, hown, hts, hlk, hex, hK⟩ := id C
  intro T hT X
  rcases hr T hT X with ⟨v, st₀, t, T', L, h0, X', hL, e1, e2, ⟨⟨rv, σ', q1, q2, q3⟩, hF⟩, stp⟩ | ⟨q, st₀, t, T', L, E, ce, h0, X', hL, e1, e2, ⟨⟨σ', q1, q3⟩, hF⟩, hce, hcv, hcl, stp⟩
  · cases q2
    obtain ⟨k1, k2, k3⟩ := vx_keep h0 e1 hS (fun _ _ z => z) (fun _ z => z) hL hF
    have k := (show WP g M (pc + 3) lv (v.toList ++ rest) (u + pw_mc M') σ' Q from q1) p e s m args below meth c C T'.heap (locs ++ L) ls hl (by rw [e1]; exact q3) k3
    rw [Nat.mul_add] at k
    obtain ⟨t2, a1, b1⟩ := k T' rfl X'
    exact ⟨t2, stp t2 a1, b1⟩
  · obtain ⟨k1, k2, k3⟩ := vx_keep h0 e1 hS (fun _ _ z => z) (fun _ z => z) hL hF
    have q1 : Q (.inr E, σ') := q1
    have k : vx_W p (pw_l g) e (pw_rm M) s m args below meth c T'.heap (locs ++ L) (u + pw_mc M') (6 * u + 6 * pw_mc M') (vx_MQ below (pw_Q g Q) (pw_XC g Q) args s (pw_mc M) (6 * pw_mc M) (pw_A g)) (F0 m pc ls rest) q :=
      vx_out (fun x hx9 => (hex x hx9).elim) hlk (by rw [e1]; exact hce) hcv hcl (fun t9 ht9 _ => ⟨⟨σ', q1, by rw [ht9, e1]; exact q3⟩, k3.F ht9⟩) k3.2.2 hu (by omega)
    obtain ⟨t2, a1, b1⟩ := k T' rfl X'
    exact ⟨t2, stp.trans a1, b1⟩
/-- what the tables say of a call -/
def pw_cv (own : String) (idx : Nat) (M' : pw_M) (n : Nat) : Prop := GoodIn pw_ws (wsV own idx (pw_y M').cls (pw_y M') (pw_wd M')) ∧ plainName (pw_y M').cls = true ∧ ((pw_y M').cls ≠ "java/lang/invoke/MethodHandle" ∧ (pw_y M').cls ≠ "java/lang/invoke/VarHandle" ∧ (parseMethodDescriptor (pw_y M').desc).map (fun d => d.parameters.length) = some n)
def pw_cs (own : String) (idx : Nat) (M' : pw_M) (n : Nat) : Prop := GoodIn pw_ws (va_wsS own idx (pw_y M') (pw_wd M')) ∧ plainName (pw_y M').cls = true ∧ ((pw_y M').cls ≠ "java/lang/invoke/MethodHandle" ∧ (pw_y M').cls ≠ "java/lang/invoke/VarHandle" ∧ (parseMethodDescriptor (pw_y M').desc).map (fun d => d.parameters.length) = some n)
def pw_cn (own : String) (idx : Nat) (M' : pw_M) (n : Nat) : Prop := (GoodIn pw_ws (pw_wd M') ∧ Cond.static (pw_y M') ∈ pw_ws ∧ Cond.initialized (pw_y M').cls ∈ pw_ws) ∧ plainName (pw_y M').cls = true ∧ ((pw_y M').cls ≠ "java/lang/invoke/MethodHandle" ∧ (pw_y M').cls ≠ "java/lang/invoke/VarHandle" ∧ (parseMethodDescriptor (pw_y M').desc).map (fun d => d.parameters.length) = some n)
def pw_rr (M M' : pw_M) : Prop := pw_fr M' + 1 ≤ pw_fr M ∧ 8 + (pw_mL M' + 11) + pw_lo M' ≤ pw_lo M
theorem wp_callV {M' : pw_M} (k0 : Nat) {idx ci n : Nat} (As rest : List Value) (d : decode (pw_cc M) pc = .ok (.invokevirtual idx, 3)) (hcv : pw_cv (pw_y M).cls idx M' n) (hk : pw_kd k0 = ci) (hc : (vwCl[ci]?).map (fun q => q.1) = some (pw_y M').cls) (hR : pw_rr M M') (hn : As.length = n) (hsl : (lg_sl (.ref (pw_ad g k0) :: As)).length ≤ pw_mL M') (hrest : (rest.map fun v => v.category).sum ≤ 8) (hu : u + pw_mc M' ≤ pw_mc M) (hst : st = As.reverse ++ .ref (pw_ad g k0) :: rest)
    (k : WP g M' 0 (lv_args 0 (.ref (pw_ad g k0) :: As)) [] 0 σ (pw_k g M (pc + 3) lv rest (u + pw_mc M') Q)) : WP g M pc lv st u σ Q :=
  fun p e s m args below meth c C H locs ls hl hL hS => by
    obtain ⟨hx, hb, hrt, hml, hown, hts, hlk, hex, hK⟩ := id C
    obtain ⟨hG, hpl, hd⟩ := hcv
    obtain ⟨⟨Cn, T, N⟩, hc1, hc2⟩ := Option.map_eq_some_iff.mp hc
    obtain ⟨-, -, -, i4⟩ := pw_ins0 hc1
    refine pw_go (M' := M') (rest := rest) (a := (Value.ref (pw_ad g k0) :: As).toArray) C hl hS hu ?_
    refine vx_runV (As := As) (rest := rest) (C := (pw_y M').cls) (g := F0 m pc ls st) ⟨hx, hb, hml, hown, hts⟩ (pw_met hpl hsl k) (cwV n hts hG rfl rfl rfl ⟨rfl, hd⟩ ⟨hR.1, hR.2⟩) ⟨pw_blind _, ?_, fun U hU hW => ⟨rfl, by rw [hU]; exact hL, hK.at hS hU hW⟩⟩ rfl hn hl.1 hst (lv_room hrest) d ⟨hu, by show 6 * u + 6 * pw_mc M' ≤ 6 * pw_mc M; omega⟩
    have hr9 := va_recv (ws := pw_W g σ) hK.1 hL.1 (ci := ci) (q0 := k0) hc1 ((pw_at g σ (pw_kd_lt hk (by omega))).trans (by rw [pw_enO g σ hk i4]))
    have hc2 : Cn = (pw_y M').cls := hc2
    subst hc2
    exact hr9
theorem wp_callS {M' : pw_M} {idx n : Nat} (As rest : List Value) (d : decode (pw_cc M) pc = .ok (.invokestatic idx, 3)) (hcv : pw_cs (pw_y M).cls idx M' n) (hR : pw_rr M M') (hn : As.length = n) (hsl : (lg_sl As).length ≤ pw_mL M') (hrest : (rest.map fun v => v.category).sum ≤ 8) (hu : u + pw_mc M' ≤ pw_mc M) (hst : st = As.reverse ++ rest)
    (k : WP g M' 0 (lv_args 0 As) [] 0 σ (pw_k g M (pc + 3) lv rest (u + pw_mc M') Q)) : WP g M pc lv st u σ Q :=
  fun p e s m args below meth c C H locs ls hl hL hS => by
    obtain ⟨hx, hb, hrt, hml, hown, hts, hlk, hex, hK⟩ := id C
    obtain ⟨hG, hpl, hd⟩ := hcv
    refine pw_go (M' := M') (rest := rest) (a := As.toArray) C hl hS hu ?_
    exact vx_runS (As := As) (rest := rest) (g := F0 m pc ls st) ⟨hx, hb, hml, hown, hts⟩ (pw_met hpl hsl k) (va_cwS n hts hG rfl rfl rfl hd ⟨hR.1, hR.2⟩) ⟨pw_blind _, fun U hU hW => ⟨rfl, by rw [hU]; exact hL, hK.at hS hU hW⟩⟩ rfl hn hl.1 hst (lv_room hrest) d ⟨hu, by show 6 * u + 6 * pw_mc M' ≤ 6 * pw_mc M; omega⟩
theorem pw_metN {As : List Value} (hpl : plainName (pw_y M).cls = true) (hn : (lg_sl As).length ≤ pw_mL M) (hno : ∀ E σ', ¬ Q (.inr E, σ')) (h : WP g M 0 (lv_args 0 As) [] 0 σ Q) : Met (pw_l g) (pw_y M) (pw_wd M) (pw_rm M) (va_Pc As (fun U => pw_L g σ U.heap ∧ pw_K g U)) (pw_Q g Q) (pw_mc M) (6 * pw_mc M) (pw_A g) := by
  have h1 := pw_met hpl hn h
  intro p e ha hc hk s m args below hf happ hP htr
  obtain ⟨k, o, h1, h2, h3, hQ⟩ := h1 p e ha hc hk s m args below hf happ hP htr
  refine ⟨k, o, h1, h2, h3, ?_⟩
  rcases hQ with q | ⟨q, rfl, E, ce, L, ⟨⟨σ', q1, q2⟩, q3⟩, q4⟩
  · exact q
  · exact (hno E σ' q1).elim
/-- a static call of a nest mate's private method, which doesn't throw -/
theorem wp_callN {M' : pw_M} {Q' : pw_R → Prop} {idx n : Nat} (As rest : List Value) (d : decode (pw_cc M) pc = .ok (.invokestatic idx, 3)) (hcv : pw_cn (pw_y M).cls idx M' n) (hR : pw_rr M M') (hn : As.length = n) (hsl : (lg_sl As).length ≤ pw_mL M') (hrest : (rest.map fun v => v.category).sum ≤ 8) (hm0 : pw_mc M' = 0) (hu : u ≤ pw_mc M) (hst : st = As.reverse ++ rest)
    (hl9 : ∀ U, pw_K g U → va_Nw (.methodLinkNest (pw_y M).cls idx (pw_y M') RX4) U) (hno : ∀ E σ', ¬ Q' (.inr E, σ')) (k : WP g M' 0 (lv_args 0 As) [] 0 σ Q') (kk : ∀ rv σ', Q' (.inl rv, σ') → WP g M (pc + 3) lv (rv.toList ++ rest) u σ' Q) : WP g M pc lv st u σ Q :=
  fun p e s m args below meth c C H locs ls hl hL hS => by
    obtain ⟨hx, hb, hrt, hml, hown, hts, hlk, hex, hK⟩ := id C
    obtain ⟨⟨hG, hst9, hin9⟩, hpl, hd⟩ := hcv
    intro T hT X
    have cw := va_cnB (own := (pw_y M).cls) (host := RX4) (index := idx) (mc := 0) (ms := 0) (rm := pw_rm M') (R := pw_rm M) n hts hG rfl hm0 (by show 6 * pw_mc M' = 0; rw [hm0]) (hl9 s hK) (hts _ hin9) hd ⟨hR.1, hR.2⟩
    have hM : Met (pw_l g) (pw_y M') (pw_wd M') (pw_rm M') (va_Pc As (fun U => pw_L g σ U.heap ∧ pw_K g U)) (pw_Q g Q') 0 0 (pw_A g) := by have h9 := pw_metN hpl hsl hno k; rw [hm0] at h9; exact h9
    have hrn := va_runSN (l := pw_l g) (e := e) (R := pw_rm M) (below := below) (meth := meth) (H := H) (locs := locs) (cells := u) (slots := 6 * u) (As := As) (rest := rest) (g := F0 m pc ls st) ⟨hx, hb, hml, hown, hts⟩ hM ⟨cw, hts _ hst9, trivial⟩ ⟨pw_blind _, fun U hU hW => ⟨rfl, by rw [hU]; exact hL, hK.at hS hU hW⟩⟩ rfl hn hl.1 hst (lv_room hrest) d ⟨hu, by show 6 * u + 0 ≤ 6 * pw_mc M; omega⟩
    obtain ⟨v, st₀, t, T', L, h0, X', hL9, e1, e2, ⟨⟨rv, σ', q1, q2, q3⟩, hF⟩, stp⟩ := hrn T hT X
    cases q2
    obtain ⟨k1, k2, k3⟩ := vx_keep h0 e1 hS (fun _ _ z => z) (fun _ z => z) hL9 hF
    obtain ⟨t2, a1, b1⟩ := kk v σ' q1 p e s m args below meth c C T'.heap (locs ++ L) ls hl (by rw [e1]; exact q3) k3 T' rfl X'
    exact ⟨t2, stp t2 a1, b1⟩
/-- what the tables say of a throw in WordClassLearner -/
def pw_names : List String := ["java/lang/RuntimeException", "java/lang/Exception"]
def pw_ct (ik ic : Nat) (cls : String) : Prop := Bundle.fit cls = true ∧ ∀ w ∈ Cond.classLink RX4 ik cls :: Cond.initialized cls :: vx_atS RX4 ic cls pw_names, w ∈ pw_ws ∨ w ∈ pw_xw
theorem wp_throw {ik is ic : Nat} {cls text : String} (d0 : decode (pw_cc M) pc = .ok (.new ik, 3)) (d3 : decode (pw_cc M) (pc + 3) = .ok (.dup, 1)) (d4 : decode (pw_cc M) (pc + 4) = .ok (.ldc is, 2)) (d6 : decode (pw_cc M) (pc + 6) = .ok (.invokespecial ic, 3)) (d9 : decode (pw_cc M) (pc + 9) = .ok (.athrow, 1))
    (hown9 : (pw_y M).cls = RX4) (hl9 : (pw_l g).stackTraces = false) (ht : pw_ct ik ic cls) (hs : (is, text) ∈ pw_strs) (hfr : 5 < pw_fr M) (hlo : (st.map fun v => v.category).sum + 82 ≤ pw_lo M) (hu : u + 1 ≤ pw_mc M) (k : Q (.inr cls, σ)) : WP g M pc lv st u σ Q :=
  fun p e s m args below meth c C H locs ls hl hL hS => by
    obtain ⟨hx, hb, hrt, hml, hown, hts, hlk, hex, hK, ⟨h1, h2, h3, h4, h5, h6⟩, hbz⟩ := id C
    rw [hown9] at hown
    have hh : ∀ w ∈ Cond.classLink RX4 ik cls :: Cond.initialized cls :: vx_atS RX4 ic cls pw_names, w.before args s = true := fun w hw => (ht.2 w hw).elim (hts w) (fun q => va_Nw.use (pw_xw_on w q) (h6 w q))
    refine vx_throwS (own := RX4) (cls := cls) (text := text) (names := pw_names) hx hb hl9 hown ht.1 (by decide +kernel) (hh _ List.mem_cons_self) (hh _ (List.mem_cons_of_mem _ List.mem_cons_self)) (h5 _ hs) (fun w hw => hh _ (List.mem_cons_of_mem _ (List.mem_cons_of_mem _ hw))) (fun w hw => ?_) h3 h4 hS (hl.1.trans hml.symm) d0 d3 d4 d6 d9 (fun x hx9 => (hex x hx9).elim) hfr (by show (st.map fun v => v.category).sum + 82 ≤ pw_lo M; exact hlo) hu (by show 6 * u + 6 ≤ 6 * pw_mc M; omega) hlk (fun t hal hz hk => ?_) hS.2.2 hu (by omega)
    · simp only [vx_ot, Bool.or_eq_true]
      exact (ht.2 w hw).elim (fun q => Or.inr (List.mem_filter.mp q).2) (fun q => Or.inl (pw_xw_on w q))
    · refine ⟨⟨σ, k, ?_, hL.2⟩, Nat.le_trans hS.1 hz, fun q hq hA => (hk q (Nat.lt_of_lt_of_le hq hS.1)).trans (hS.2.1 q hq hA)⟩
      exact hL.1.kept (fun k9 q hq => hk q.1 (hL.1 k9 q hq).lt)
theorem pw_ctO : pw_ct 74 78 "java/lang/IndexOutOfBoundsException" := ⟨by decide +kernel, by decide +kernel⟩
theorem pw_ctS : pw_ct 47 51 "java/lang/IllegalStateException" := ⟨by decide +kernel, by decide +kernel⟩
theorem pw_ctA : pw_ct 89 93 "java/lang/IllegalArgumentException" := ⟨by decide +kernel, by decide +kernel⟩
end PWE
