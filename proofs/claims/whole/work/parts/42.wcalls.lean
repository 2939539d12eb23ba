/-! calls from the law's class; what its small methods owe *)-/
section GWB
variable {g : pw_G} {p : Program} {e : Env} {R : Room} {s : State} {m : MethodId} {args : Array Value} {below : List Frame} {meth : Method} {c : Code} {nL : Nat} {Z : State → Prop} {own : String} {cc : ByteArray}
variable {pc : Nat} {lv : List (Nat × Value)} {st : List Value} {u : Nat} {σ : pw_Mem}
theorem gw_sub {lv' : List (Nat × Value)} (ks : List Nat) (hl' : lv_pick lv' ks = lv) (k : GW g p e R s m args below meth c nL Z pc lv st u σ) : GW g p e R s m args below meth c nL Z pc lv' st u σ :=
  fun H locs ls hl hL hS => k H locs ls (lv_sub hl ks hl') hL hS
theorem gw_wide {u' : Nat} (hu : u ≤ u') (k : GW g p e R s m args below meth c nL Z pc lv st u' σ) : GW g p e R s m args below meth c nL Z pc lv st u σ :=
  fun H locs ls hl hL hS => W.widen hu (Nat.mul_le_mul_left 6 hu) (k H locs ls hl hL hS)
theorem gw_callV {M' : pw_M} {Qm : pw_R → Prop} (k0 : Nat) {idx ci n : Nat} (As rest : List Value) (C : GC g p s m c args own cc nL) (d : decode cc pc = .ok (.invokevirtual idx, 3)) (hcv : pw_cv own idx M' n) (hk : pw_kd k0 = ci) (hc : (vwCl[ci]?).map (fun q => q.1) = some (pw_y M').cls) (hR : pw_fr M' + 1 ≤ R.frames ∧ 8 + (pw_mL M' + 11) + pw_lo M' ≤ R.locals) (hn : As.length = n) (hsl : (lg_sl (.ref (pw_ad g k0) :: As)).length ≤ pw_mL M') (hrest : (rest.map fun v => v.category).sum ≤ 8) (hu : u + pw_mc M' ≤ R.cells ∧ 6 * u + 6 * pw_mc M' ≤ R.slots) (hst : st = As.reverse ++ .ref (pw_ad g k0) :: rest)
    (k : WP g M' 0 (lv_args 0 (.ref (pw_ad g k0) :: As)) [] 0 σ Qm)
    (kn : ∀ rv σ', Qm (.inl rv, σ') → GW g p e R s m args below meth c nL Z (pc + 3) lv (rv.toList ++ rest) (u + pw_mc M') σ')
    (kx : ∀ E σ', Qm (.inr E, σ') → GX g p e R s m args below meth c nL Z pc lv rest (u + pw_mc M') σ' E) : GW g p e R s m args below meth c nL Z pc lv st u σ :=
  fun H locs ls hl hL hS T hT X => by
    obtain ⟨hx, hb, hml, hown, hts, hK⟩ := id C
    obtain ⟨hG, hpl, hd⟩ := hcv
    obtain ⟨⟨Cn, T9, N⟩, hc1, hc2⟩ := Option.map_eq_some_iff.mp hc
    obtain ⟨-, -, -, i4⟩ := pw_ins0 hc1
    have hr9 := va_recv (ws := pw_W g σ) hK.1 hL.1 (ci := ci) (q0 := k0) hc1 ((pw_at g σ (pw_kd_lt hk (by omega))).trans (by rw [pw_enO g σ hk i4]))
    have hc2 : Cn = (pw_y M').cls := hc2
    subst hc2
    have hr := vx_runV (l := pw_l g) (e := e) (R := R) (below := below) (meth := meth) (H := H) (locs := locs) (cells := u) (slots := 6 * u) (As := As) (rest := rest) (C := (pw_y M').cls) (g := F0 m pc ls st) ⟨hx, hb, hml, hown, hts⟩ (pw_met hpl hsl k) (cwV n hts hG rfl rfl rfl ⟨rfl, hd⟩ ⟨hR.1, hR.2⟩) ⟨pw_blind _, hr9, fun U hU hW => ⟨rfl, by rw [hU]; exact hL, hK.at hS hU hW⟩⟩ rfl hn hl.1 hst (lv_room hrest) d hu
    rcases hr T hT X with ⟨v, st₀, t, T', L, h0, X', hL', e1, e2, ⟨⟨rv, σ', q1, q2, q3⟩, hF⟩, stp⟩ | ⟨q, st₀, t, T', L, E, ce, h0, X', hL', e1, e2, ⟨⟨σ', q1, q3⟩, hF⟩, hce, hcv, hcl, stp⟩
    · cases q2
      obtain ⟨k1, k2, k3⟩ := vx_keep h0 e1 hS (fun _ _ z => z) (fun _ z => z) hL' hF
      have k := kn _ σ' q1 T'.heap (locs ++ L) ls hl (by rw [e1]; exact q3) k3
      rw [Nat.mul_add] at k
      obtain ⟨t2, a1, b1⟩ := k T' rfl X'
      exact ⟨t2, stp t2 a1, b1⟩
    · obtain ⟨k1, k2, k3⟩ := vx_keep h0 e1 hS (fun _ _ z => z) (fun _ z => z) hL' hF
      have k := kx E σ' q1 T'.heap (locs ++ L) ls q ce hl (by rw [e1]; exact q3) k3 (by rw [e1]; exact hce) hcv hcl
      rw [Nat.mul_add] at k
      obtain ⟨t2, a1, b1⟩ := k T' rfl X'
      exact ⟨t2, stp.trans a1, b1⟩
/-- a row of the table takes it -/
theorem cx_hit {pl : Platform} (hpl : pl.magicAccessors = ({} : Platform).magicAccessors) {E nm : String} {k : ClassId} (hown : s.vm.findClass own = some m.cls) {x : ExceptionTableEntry} {t : List ExceptionTableEntry} {h : Nat} (hx : covers x pc = true) (h0 : x.catchType ≠ 0) (hh : x.handlerPc = h) (hlink : (Cond.classLink own x.catchType nm).before args s = true) (hcast : (Cond.castable E nm).before args s = true) (hcl : s.vm.findClass E = some k) : cx_T pl s m.cls pc k (x :: t) h := by
  obtain ⟨c3, c4, hc3, hc4, hasg⟩ := Cond.castable_spec hcast
  cases Option.some.inj (hc3.symm.trans hcl)
  obtain ⟨c5, hc5, hcl5⟩ := Cond.classLink_spec hown hlink pl hpl
  cases Option.some.inj (hc4.symm.trans hc5)
  exact Or.inr ⟨hx, h0, c4, hcl5, Or.inl ⟨hasg, hh⟩⟩
theorem cx_pass {pl : Platform} (hpl : pl.magicAccessors = ({} : Platform).magicAccessors) {E nm : String} {k : ClassId} (hown : s.vm.findClass own = some m.cls) {x : ExceptionTableEntry} {t : List ExceptionTableEntry} {h : Nat} (hx : covers x pc = true) (h0 : x.catchType ≠ 0) (hlink : (Cond.classLink own x.catchType nm).before args s = true) (hno : va_Nc E nm s) (hcl : s.vm.findClass E = some k) (hr : cx_T pl s m.cls pc k t h) : cx_T pl s m.cls pc k (x :: t) h := by
  obtain ⟨a8, b8, h1, h2, h3⟩ := hno
  cases Option.some.inj (h1.symm.trans hcl)
  obtain ⟨c5, hc5, hcl5⟩ := Cond.classLink_spec hown hlink pl hpl
  cases Option.some.inj (h2.symm.trans hc5)
  exact Or.inr ⟨hx, h0, b8, hcl5, Or.inr ⟨h3, hr⟩⟩
theorem gw_catch {E : String} {h : Nat} {rest : List Value} (hT : ∀ (pl : Platform) (k : ClassId), pl.magicAccessors = ({} : Platform).magicAccessors → s.vm.findClass E = some k → cx_T pl s m.cls pc k c.exceptionTable.toList h) (k : ∀ q : Nat, GW g p e R s m args below meth c nL Z h lv [.ref q] u σ) : GX g p e R s m args below meth c nL Z pc lv rest u σ E :=
  fun H locs ls q ce hl hL hS h1 h2 h3 => cx_catch (fun pl hpl => hT pl ce.cls hpl h3) h1 h2 h3 (k q H locs ls hl hL hS)
end GWB
/-- what isn't a case of what -/
def pw_N (U : State) : Prop := va_Nc E_S E_I U ∧ va_Nc E_I E_S U ∧ va_Nc E_A E_S U
theorem pw_N.moved {u U : State} (hvm : u.vm.Alike U.vm) (h : pw_N u) : pw_N U := ⟨h.1.moved hvm, h.2.1.moved hvm, h.2.2.moved hvm⟩
def pw_WQ (g : pw_G) (Qw : Int32 → Int64 → pw_Mem → Prop) : Array Value → State → Outcome → State → Prop := fun _ st o t => (∃ (k : Int32) (o' : Int64) (σ' : pw_Mem), Qw k o' σ' ∧ o = .returned (some (.int k)) ∧ pw_L (pw_out g o') σ' t.heap) ∧ va_F (pw_A g) st t
def pw_WX : String → State → State → Prop := fun _ _ _ => False
/-- a small method of the law's class: name, code, locals, handlers; frames, words, cells -/
abbrev pw_H : Type := MethodName × ByteArray × Nat × List (Nat × Nat × Nat × Nat) × Nat × Nat × Nat
def ph_rm (M : pw_H) : Room := { frames := M.2.2.2.2.1, cells := M.2.2.2.2.2.2, slots := 6 * M.2.2.2.2.2.2, locals := M.2.2.2.2.2.1 }
def ph_wd (M : pw_H) : List Cond := .codeWith M.1 M.2.1 M.2.2.1 (some .int) M.2.2.2.1 :: pw_ws
def WrM (g : pw_G) (M : pw_H) (As : List Value) (σ : pw_Mem) (Qw : Int32 → Int64 → pw_Mem → Prop) : Prop := vx_Met (pw_l g) M.1 (ph_wd M) (ph_rm M) (va_Pc As (fun U => pw_L g σ U.heap ∧ pw_K g U ∧ pw_N U)) (pw_WQ g Qw) pw_WX M.2.2.2.2.2.2 (6 * M.2.2.2.2.2.2) (pw_A g)
abbrev WrZ (g : pw_G) (M : pw_H) (Qw : Int32 → Int64 → pw_Mem → Prop) (below : List Frame) (args : Array Value) (s : State) : State → Prop := vx_MQ below (pw_WQ g Qw) pw_WX args s M.2.2.2.2.2.2 (6 * M.2.2.2.2.2.2) (pw_A g)
section GWC
variable {g : pw_G} {M : pw_H} {As : List Value} {σ : pw_Mem} {Qw : Int32 → Int64 → pw_Mem → Prop}
theorem gw_body (hy : plainName M.1.cls = true) (hn : (lg_sl As).length ≤ M.2.2.1)
    (body : ∀ (p : Program) (e : Env) (s : State) (m : MethodId) (args : Array Value) (below : List Frame) (meth : Method) (c : Code), GC g p s m c args M.1.cls M.2.1 M.2.2.1 → meth.sig.returnType = some .int → meth.locks = false → c.exceptionTable.toList = tableOf M.2.2.2.1 → pw_N s →
      GW g p e (ph_rm M) s m args below meth c M.2.2.1 (WrZ g M Qw below args s) 0 (lv_args 0 As) [] 0 σ) : WrM g M As σ Qw := by
  refine vx_ofWH (cc := M.2.1) (maxL := M.2.2.1) (ret := some .int) (hh := M.2.2.2.1) hy rfl ?_
  intro p e s m args below meth c s₁ B hml hv
  obtain ⟨rfl, hL, hK, hN⟩ := hv
  have hts := atoms_spec (ws := ph_wd M) B.pre
  have hown := findClass_of_methodNamed B.named
  have hl := lv_entry As (n := M.2.2.1) hn
  rw [lg_entry_eq]
  exact body p e s m _ below meth c ⟨B.exec, B.bytes, hml, hown, fun w hw => hts w (List.mem_cons_of_mem _ hw), hK⟩ B.returns B.notSynchronized (vx_table (x := M.1) B (hts _ List.mem_cons_self)) hN s.heap [] _ hl hL va_S.rf
theorem gw_wret {p : Program} {e : Env} {s : State} {m : MethodId} {args : Array Value} {below : List Frame} {meth : Method} {c : Code} {nL : Nat} {own : String} {cc : ByteArray} {pc : Nat} {lv : List (Nat × Value)} {u : Nat} {k : Int32} {o' : Int64} (C : GC g p s m c args own cc nL) (d : decode cc pc = .ok (.ireturn, 1)) (hr : meth.sig.returnType = some .int) (hlk : meth.locks = false) (hu : u ≤ M.2.2.2.2.2.2) (q : Qw k o' σ) :
    GW (pw_out g o') p e (ph_rm M) s m args below meth c nL (WrZ g M Qw below args s) pc lv [.int k] u σ :=
  fun H locs ls hl hL hS => by
    refine W.widen (k := M.2.2.2.2.2.2) (n := 6 * M.2.2.2.2.2.2) hu (Nat.mul_le_mul_left 6 hu) (vx_ret ?_)
    exact W.zret C.1 C.2.1 hr rfl (fun t ht hW => ⟨⟨k, o', σ, q, rfl, by rw [ht]; exact hL⟩, hS.F ht⟩) hS.2.2 d hlk
/-- what the tables say of a call of it -/
def ph_cw (own : String) (idx : Nat) (M : pw_H) (n : Nat) : Prop := GoodIn pw_ws (va_wsS own idx M.1 (ph_wd M)) ∧ (M.1.cls ≠ "java/lang/invoke/MethodHandle" ∧ M.1.cls ≠ "java/lang/invoke/VarHandle" ∧ (parseMethodDescriptor M.1.desc).map (fun d => d.parameters.length) = some n)
theorem ph_cw_of {own : String} {idx n : Nat} (h1 : Cond.methodLink own idx M.1 ∈ pw_ws) (h2 : Cond.static M.1 ∈ pw_ws) (h3 : Cond.initialized M.1.cls ∈ pw_ws) (h4 : Cond.codeWith M.1 M.2.1 M.2.2.1 (some .int) M.2.2.2.1 ∈ pw_ws) (h5 : M.1.cls ≠ "java/lang/invoke/MethodHandle" ∧ M.1.cls ≠ "java/lang/invoke/VarHandle" ∧ (parseMethodDescriptor M.1.desc).map (fun d => d.parameters.length) = some n) : ph_cw own idx M n := by
  refine ⟨fun w hw => pw_good1 ?_, h5⟩
  simp only [va_wsS, ph_wd, List.mem_append, List.mem_cons, List.not_mem_nil, or_false] at hw
  rcases hw with (rfl | rfl | rfl) | rfl | hw
  · exact h1
  · exact h2
  · exact h3
  · exact h4
  · exact hw
theorem gw_callW {p : Program} {e : Env} {R : Room} {s : State} {m : MethodId} {args : Array Value} {below : List Frame} {meth : Method} {c : Code} {nL : Nat} {Z : State → Prop} {own : String} {cc : ByteArray} {pc : Nat} {lv : List (Nat × Value)} {st rest : List Value} {u idx n : Nat} (C : GC g p s m c args own cc nL) (hN : pw_N s) (d : decode cc pc = .ok (.invokestatic idx, 3)) (hcw : ph_cw own idx M n) (hR : M.2.2.2.2.1 + 1 ≤ R.frames ∧ 8 + (M.2.2.1 + 11) + M.2.2.2.2.2.1 ≤ R.locals) (hn : As.length = n) (hrest : (rest.map fun v => v.category).sum ≤ 8) (hu : u + M.2.2.2.2.2.2 ≤ R.cells ∧ 6 * u + 6 * M.2.2.2.2.2.2 ≤ R.slots) (hst : st = As.reverse ++ rest)
    (hM : WrM g M As σ Qw) (kn : ∀ k o' σ', Qw k o' σ' → GW (pw_out g o') p e R s m args below meth c nL Z (pc + 3) lv (.int k :: rest) (u + M.2.2.2.2.2.2) σ') : GW g p e R s m args below meth c nL Z pc lv st u σ :=
  fun H locs ls hl hL hS T hT X => by
    obtain ⟨hx, hb, hml, hown, hts, hK⟩ := id C
    obtain ⟨hG, hd⟩ := hcw
    have hr := vx_runSX (l := pw_l g) (e := e) (R := R) (below := below) (meth := meth) (H := H) (locs := locs) (cells := u) (slots := 6 * u) (As := As) (rest := rest) (g := F0 m pc ls st) (hh := M.2.2.2.1) (bytes := M.2.1) (maxL := M.2.2.1) (ret := some .int) ⟨hx, hb, hml, hown, hts⟩ hM (vx_cwSW n hts hG rfl rfl rfl hd ⟨hR.1, hR.2⟩) ⟨fun a U f mk q => ⟨q.1, q.2.1, pw_K.same q.2.2.1 rfl rfl, q.2.2.2.moved (Vm.Alike.refl U.vm)⟩, fun U hU hW => ⟨rfl, by rw [hU]; exact hL, hK.at hS hU hW, hN.moved hW.alike⟩⟩ rfl hn hl.1 hst (lv_room hrest) d hu
    rcases hr T hT X with ⟨v, st₀, t, T', L, h0, X', hL', e1, e2, ⟨⟨k, o', σ', q1, q2, q3⟩, hF⟩, stp⟩ | ⟨q, st₀, t, T', L, E, ce, h0, X', hL', e1, e2, hno, _⟩
    · cases q2
      obtain ⟨k1, k2, k3⟩ := vx_keep h0 e1 hS (fun _ _ z => z) (fun _ z => z) hL' hF
      have k9 := kn k o' σ' q1 T'.heap (locs ++ L) ls hl (by rw [e1]; exact q3) k3
      rw [Nat.mul_add] at k9
      obtain ⟨t2, a1, b1⟩ := k9 T' rfl X'
      exact ⟨t2, stp t2 a1, b1⟩
    · exact hno.elim
/-- the class's answer to a small method: an int, or one of two exceptions -/
def wQ (Ea Eb : String) (Q0 : Int32 → pw_Mem → Prop) (Qa Qb : pw_Mem → Prop) : pw_R → Prop
  | (.inl (some (.int y)), σ) => Q0 y σ
  | (.inr E, σ) => (E = Ea ∧ Qa σ) ∨ (E = Eb ∧ Qb σ)
  | _ => False
def wV (Ea Eb : String) (Q0 : pw_Mem → Prop) (Qa Qb : pw_Mem → Prop) : pw_R → Prop
  | (.inl none, σ) => Q0 σ
  | (.inr E, σ) => (E = Ea ∧ Qa σ) ∨ (E = Eb ∧ Qb σ)
  | _ => False
/-- what a small method answers, and what it leaves in out -/
def wR (o : Int64) (f : Int32 → Int64) (Q0 : Int32 → pw_Mem → Prop) (Qa Qb : pw_Mem → Prop) : Int32 → Int64 → pw_Mem → Prop := fun k o' σ => (k = 0 ∧ ∃ y, o' = f y ∧ Q0 y σ) ∨ (k = 1 ∧ o' = o ∧ Qa σ) ∨ (k = 2 ∧ o' = o ∧ Qb σ)
def zJ (y : Int32) : Int64 := if y = 0 then 0 else 1
theorem wQ_some {Ea Eb : String} {Q0 : Int32 → pw_Mem → Prop} {Qa Qb : pw_Mem → Prop} {rv : Option Value} {σ : pw_Mem} (h : wQ Ea Eb Q0 Qa Qb (.inl rv, σ)) : ∃ y, rv = some (.int y) ∧ Q0 y σ := by
  match rv, h with
  | some (.int y), h => exact ⟨y, rfl, h⟩
theorem wV_none {Ea Eb : String} {Q0 : pw_Mem → Prop} {Qa Qb : pw_Mem → Prop} {rv : Option Value} {σ : pw_Mem} (h : wV Ea Eb Q0 Qa Qb (.inl rv, σ)) : rv = none ∧ Q0 σ := by
  match rv, h with
  | none, h => exact ⟨rfl, h⟩
end GWC
