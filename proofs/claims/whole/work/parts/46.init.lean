/-! CONSTRUCTORS. 'IW': a walk with the cells P (old ones) and w (made here) -/
/-- what holds of the classes throughout -/
def KI (g : pw_G) (U : State) : Prop := va_K (pw_D g) vwCl (pw_tys g) U ∧ pw_b g ≤ U.heap.size ∧ va_Nw (.methodLinkNest RX4 11 yX3_init RX4) U ∧ va_Nw (.methodLinkNest RX4 18 yX2_init RX4) U ∧ va_Nw (.methodLinkNest RX4 34 yX1_init RX4) U
theorem KI.at {g : pw_G} {s U : State} {H : Heap} {locs : List Loc} (h : KI g s) (hS : va_S (pw_A g) s.heap H locs) (hU : U.heap = H) (hW : s.WarmedH U.vm) : KI g U :=
  ⟨va_K.moved hW.alike h.1, by rw [hU]; exact Nat.le_trans h.2.1 hS.1, va_Nw.warmM hW h.2.2.1, va_Nw.warmM hW h.2.2.2.1, va_Nw.warmM hW h.2.2.2.2⟩
theorem KI.same {g : pw_G} {U V : State} (h : KI g U) (hv : V.vm = U.vm) (hh : V.heap = U.heap) : KI g V :=
  ⟨va_K.moved (by rw [hv]; exact Vm.Alike.refl _) h.1, by rw [hh]; exact h.2.1, va_Nw.same rfl hv.symm h.2.2.1, va_Nw.same rfl hv.symm h.2.2.2.1, va_Nw.same rfl hv.symm h.2.2.2.2⟩
def IC (g : pw_G) (p : Program) (s : State) (m : MethodId) (meth : Method) (c : Code) (args : Array Value) (own : String) (cc : ByteArray) (nL : Nat) : Prop :=
  p.tables.exec = Jvm.exec ∧ c.code = cc ∧ c.maxLocals = nL ∧ s.vm.findClass own = some m.cls ∧ (∀ w ∈ pw_ws, w.before args s = true) ∧ KI g s
def IW (g : pw_G) (p : Program) (e : Env) (R : Room) (s : State) (m : MethodId) (args : Array Value) (below : List Frame) (meth : Method) (c : Code) (nL : Nat) (Z : State → Prop) (P : va_W) (pc : Nat) (lv : List (Nat × Value)) (st : List Value) (cells slots : Nat) (w : va_W) : Prop :=
  ∀ (H : Heap) (locs : List Loc) (ls : Array Slot), lv_has ls nL lv → va_P (pw_D g) vwCl (P ++ w) H → va_D (pw_A g) (P ++ w) → va_S (pw_A g) s.heap H locs → W p (pw_l g) e R s m args below meth c H locs cells slots Z (F0 m pc ls st)
theorem ap_get {α : Type} (P w : List α) (j : Nat) {q : α} (h : w[j]? = some q) : (P ++ w)[P.length + j]? = some q := by
  rw [List.getElem?_append_right (Nat.le_add_right _ _), Nat.add_sub_cancel_left]; exact h
theorem ap_set {α : Type} (P w : List α) (j : Nat) (q : α) : (P ++ w).set (P.length + j) q = P ++ w.set j q := by
  rw [List.set_append_right _ _ (Nat.le_add_right _ _), Nat.add_sub_cancel_left]
section IWA
variable {g : pw_G} {p : Program} {e : Env} {R : Room} {s : State} {m : MethodId} {args : Array Value} {below : List Frame} {meth : Method} {c : Code} {nL : Nat} {Z : State → Prop} {own : String} {cc : ByteArray}
variable {P : va_W} {pc : Nat} {lv : List (Nat × Value)} {st : List Value} {cells slots : Nat} {w : va_W}
theorem iw_iconst {n : Int} {v : Int32} (C : IC g p s m meth c args own cc nL) (d : decode cc pc = .ok (.iconst n, 1)) (hv : Int32.ofInt n = v) (k : IW g p e R s m args below meth c nL Z P (pc + 1) lv (.int v :: st) cells slots w) : IW g p e R s m args below meth c nL Z P pc lv st cells slots w :=
  fun H locs ls hl hP hD hS => lv_iconst C.1 C.2.1 d hv (k H locs ls hl hP hD hS)
theorem iw_bipush {n : Int} {v : Int32} (C : IC g p s m meth c args own cc nL) (d : decode cc pc = .ok (.bipush n, 2)) (hv : (Int8.ofInt n).toInt32 = v) (k : IW g p e R s m args below meth c nL Z P (pc + 2) lv (.int v :: st) cells slots w) : IW g p e R s m args below meth c nL Z P pc lv st cells slots w :=
  fun H locs ls hl hP hD hS => lv_bipush C.1 C.2.1 d hv (k H locs ls hl hP hD hS)
theorem iw_sipush {n : Int} {v : Int32} (C : IC g p s m meth c args own cc nL) (d : decode cc pc = .ok (.sipush n, 3)) (hv : (Int16.ofInt n).toInt32 = v) (k : IW g p e R s m args below meth c nL Z P (pc + 3) lv (.int v :: st) cells slots w) : IW g p e R s m args below meth c nL Z P pc lv st cells slots w :=
  fun H locs ls hl hP hD hS => lv_sipush C.1 C.2.1 d hv (k H locs ls hl hP hD hS)
theorem iw_aload_n {f : Fin 4} {i : Nat} {x : Nat} (n : Nat) (C : IC g p s m meth c args own cc nL) (d : decode cc pc = .ok (.aload_n f, 1)) (hi : (f : Nat) = i) (h : lv[n]? = some (i, .ref x)) (k : IW g p e R s m args below meth c nL Z P (pc + 1) lv (.ref x :: st) cells slots w) : IW g p e R s m args below meth c nL Z P pc lv st cells slots w :=
  fun H locs ls hl hP hD hS => lv_aload_n C.1 C.2.1 d hi (lv_at hl n h) (k H locs ls hl hP hD hS)
theorem iw_iload_n {f : Fin 4} {i : Nat} {x : Int32} (n : Nat) (C : IC g p s m meth c args own cc nL) (d : decode cc pc = .ok (.iload_n f, 1)) (hi : (f : Nat) = i) (h : lv[n]? = some (i, .int x)) (k : IW g p e R s m args below meth c nL Z P (pc + 1) lv (.int x :: st) cells slots w) : IW g p e R s m args below meth c nL Z P pc lv st cells slots w :=
  fun H locs ls hl hP hD hS => lv_iload_n C.1 C.2.1 d hi (lv_at hl n h) (k H locs ls hl hP hD hS)
theorem iw_imul {x y : Int32} (C : IC g p s m meth c args own cc nL) (d : decode cc pc = .ok (.imul, 1)) (k : IW g p e R s m args below meth c nL Z P (pc + 1) lv (.int (x * y) :: st) cells slots w) : IW g p e R s m args below meth c nL Z P pc lv (.int y :: .int x :: st) cells slots w :=
  fun H locs ls hl hP hD hS => lv_imul C.1 C.2.1 d (k H locs ls hl hP hD hS)
theorem iw_dup {v : Value} (C : IC g p s m meth c args own cc nL) (d : decode cc pc = .ok (.dup, 1)) (hv : v.category = 1) (k : IW g p e R s m args below meth c nL Z P (pc + 1) lv (v :: v :: st) cells slots w) : IW g p e R s m args below meth c nL Z P pc lv (v :: st) cells slots w :=
  fun H locs ls hl hP hD hS => lv_dup C.1 C.2.1 d hv (k H locs ls hl hP hD hS)
theorem iw_astore_n {f : Fin 4} {i : Nat} {x : Nat} {lv' : List (Nat × Value)} (C : IC g p s m meth c args own cc nL) (d : decode cc pc = .ok (.astore_n f, 1)) (hi : (f : Nat) = i) (hn : i < nL) (hl' : pw_st i (.ref x) lv = lv') (k : IW g p e R s m args below meth c nL Z P (pc + 1) lv' st cells slots w) : IW g p e R s m args below meth c nL Z P pc lv (.ref x :: st) cells slots w :=
  fun H locs ls hl hP hD hS => lv_astore_n C.1 C.2.1 d hi hl hn rfl (fun ls' h' => k H locs ls' (hl' ▸ pw_ins_has h') hP hD hS)
theorem oi_in : Cond.instanceMethod objectInit ∈ pw_ws := pw_tb 20 (by decide +kernel) (by decide +kernel)
theorem oi_code : Cond.code objectInit ⟨#[0xb1]⟩ 1 none ∈ pw_ws := pw_tb 21 (by decide +kernel) (by decide +kernel)
theorem iw_obj {idx : Nat} {a : Nat} (C : IC g p s m meth c args own cc nL) (hlink : Cond.methodLink own idx objectInit ∈ pw_ws) (d : decode cc pc = .ok (.invokespecial idx, 3)) (hf : 1 ≤ R.frames) (hlo : (st.map fun v => v.category).sum + 12 ≤ R.locals) (k : IW g p e R s m args below meth c nL Z P (pc + 3) lv st cells slots w) : IW g p e R s m args below meth c nL Z P pc lv (.ref a :: st) cells slots w :=
  fun H locs ls hl hP hD hS => by
    refine W.objInit C.1 C.2.1 C.2.2.2.1 (C.2.2.2.2.1 _ hlink) (C.2.2.2.2.1 _ oi_in) (C.2.2.2.2.1 _ oi_code) rfl (hl.1.trans C.2.2.1.symm) rfl d hf (by show 2 * 0 + (st.map fun v => v.category).sum + 12 ≤ R.locals; omega) ?_
    exact W.eq (g2 := F0 m (pc + 3) ls st) rfl (k H locs ls hl hP hD hS)
/-- a new array: its class is the one that the name says -/
theorem iw_newa {atype : ArrayType} {ty : FieldType} {cT : ClassId} {N' : Nat} {a0 : vp_A} {n : Int32} (t0 : Nat) (C : IC g p s m meth c args own cc nL) (harr : Cond.arrayClass (newarray.typeOf atype) ∈ pw_ws) (hty : newarray.typeOf atype = ty) (ht : (pw_tys g)[t0]? = some (cT, ty)) (hra : ∀ (U : State) (x y : ClassId), va_RA U x ty → va_RA U y ty → x = y) (ha : ∀ cA : ClassId, vp_cell cA a0 = arrV cA N' (fun _ => defaultValue ty)) (hn : ¬ n < 0) (hN : n.toNatClampNeg = N') (hbytes : N' * componentBytes ty ≤ 536870912) (hcells : cells + 1 ≤ R.cells) (hslots : slots + N' ≤ R.slots) (d : decode cc pc = .ok (.newarray atype, 2))
    (k : ∀ q : Nat, IW g p e R s m args below meth c nL Z P (pc + 2) lv (.ref q :: st) (cells + 1) (slots + N') (w ++ [(q, .inl (cT, a0))])) : IW g p e R s m args below meth c nL Z P pc lv (.int n :: st) cells slots w :=
  fun H locs ls hl hP hD hS => by
    refine va_newa C.1 C.2.1 (C.2.2.2.2.1 _ harr) hty C.2.2.2.2.2.1 hP hD hS (fun q hq => Nat.le_trans C.2.2.2.2.2.2.1 hq) ha hn hN hbytes hcells hslots d (fun q cA H1 hK1 hP1 hD1 hS1 => ?_)
    have e1 : cA = cT := by
      refine hra s cA cT (hK1.2 3 (cA, ty) ?_).2 (C.2.2.2.2.2.1.2 t0 _ ht).2
      rfl
    subst e1
    rw [List.append_assoc] at hP1 hD1
    exact k q H1 locs ls hl hP1 hD1 hS1
theorem ra_int (U : State) (x y : ClassId) (h1 : va_RA U x .int) (h2 : va_RA U y .int) : x = y := Option.some.inj ((show U.vm.findClass _ = some x from h1).symm.trans h2)
theorem ra_bool (U : State) (x y : ClassId) (h1 : va_RA U x .boolean) (h2 : va_RA U y .boolean) : x = y := Option.some.inj ((show U.vm.findClass _ = some x from h1).symm.trans h2)
theorem ra_long (U : State) (x y : ClassId) (h1 : va_RA U x .long) (h2 : va_RA U y .long) : x = y := Option.some.inj ((show U.vm.findClass _ = some x from h1).symm.trans h2)
theorem arr_I : Cond.arrayClass (newarray.typeOf .int) ∈ pw_ws := pw_tb 35 (by decide +kernel) (by decide +kernel)
theorem arr_Z : Cond.arrayClass (newarray.typeOf .boolean) ∈ pw_ws := pw_tb 644 (by decide +kernel) (by decide +kernel)
theorem arr_J : Cond.arrayClass (newarray.typeOf .long) ∈ pw_ws := pw_tb 798 (by decide +kernel) (by decide +kernel)
theorem iw_newI {N' : Nat} {n : Int32} (C : IC g p s m meth c args own cc nL) (hn : ¬ n < 0) (hN : n.toNatClampNeg = N') (hlim : N' ≤ 2000) (hcells : cells + 1 ≤ R.cells) (hslots : slots + N' ≤ R.slots) (d : decode cc pc = .ok (.newarray .int, 2))
    (k : ∀ q : Nat, IW g p e R s m args below meth c nL Z P (pc + 2) lv (.ref q :: st) (cells + 1) (slots + N') (w ++ [(q, .inl (pw_cI g, N', .inl (fun _ => 0)))])) : IW g p e R s m args below meth c nL Z P pc lv (.int n :: st) cells slots w :=
  iw_newa (ty := .int) 0 C arr_I rfl rfl ra_int (fun _ => rfl) hn hN (by show N' * 4 ≤ 536870912; omega) hcells hslots d k
theorem iw_newZ {N' : Nat} {n : Int32} (C : IC g p s m meth c args own cc nL) (hn : ¬ n < 0) (hN : n.toNatClampNeg = N') (hlim : N' ≤ 2000) (hcells : cells + 1 ≤ R.cells) (hslots : slots + N' ≤ R.slots) (d : decode cc pc = .ok (.newarray .boolean, 2))
    (k : ∀ q : Nat, IW g p e R s m args below meth c nL Z P (pc + 2) lv (.ref q :: st) (cells + 1) (slots + N') (w ++ [(q, .inl (pw_cZ g, N', .inl (fun _ => 0)))])) : IW g p e R s m args below meth c nL Z P pc lv (.int n :: st) cells slots w :=
  iw_newa (ty := .boolean) 1 C arr_Z rfl rfl ra_bool (fun _ => rfl) hn hN (by show N' * 1 ≤ 536870912; omega) hcells hslots d k
theorem iw_newJ {N' : Nat} {n : Int32} (C : IC g p s m meth c args own cc nL) (hn : ¬ n < 0) (hN : n.toNatClampNeg = N') (hlim : N' ≤ 2000) (hcells : cells + 1 ≤ R.cells) (hslots : slots + N' ≤ R.slots) (d : decode cc pc = .ok (.newarray .long, 2))
    (k : ∀ q : Nat, IW g p e R s m args below meth c nL Z P (pc + 2) lv (.ref q :: st) (cells + 1) (slots + N') (w ++ [(q, .inl (pw_cJ g, N', .inr (.inl (fun _ => 0))))])) : IW g p e R s m args below meth c nL Z P pc lv (.int n :: st) cells slots w :=
  iw_newa (ty := .long) 2 C arr_J rfl rfl ra_long (fun _ => rfl) hn hN (by show N' * 8 ≤ 536870912; omega) hcells hslots d k
/-- a field of a reference: final, in a constructor; of an int *)-/
theorem iw_putR (j f : Nat) {idx ci a q : Nat} {fs : List Value} {ty : FieldType} (C : IC g p s m meth c args own cc nL) (hin2 : meth.name = "<init>") (he : w[j]? = some (a, .inr (ci, fs))) (hf : ∃ Cn T N, vwCl[ci]? = some (Cn, T, N) ∧ f < N ∧ Cond.fieldLink own idx (T f).1 (T f).2.1 (T f).2.2.1 ∈ pw_ws ∧ (T f).2.2.2 = true ∧ (T f).1 = own ∧ parseFieldDescriptor (T f).2.2.1 = some ty) (hn : narrow ty (.ref q) = .ref q) (hfit : fits ty (.ref q) = true) (hlt : f < fs.length) (d : decode cc pc = .ok (.putfield idx, 3))
    (k : IW g p e R s m args below meth c nL Z P (pc + 3) lv st cells slots (w.set j (a, .inr (ci, fs.set f (.ref q))))) : IW g p e R s m args below meth c nL Z P pc lv (.ref q :: .ref a :: st) cells slots w :=
  fun H locs ls hl hP hD hS => by
    obtain ⟨Cn, T, N, hc, hfN, hw, hfin, hdecl, hty⟩ := hf
    obtain ⟨i1, ⟨ty0, i2⟩, i3, i4⟩ := pw_ins0 hc
    refine va_putF (D := pw_D g) (cl := vwCl) (ty := ty) (v := .ref q) C.1 C.2.1 C.2.2.2.2.1 i1 ty0 i2 i3 C.2.2.2.1 C.2.2.2.2.2.1 hP hD hS (P.length + j) (ap_get P w j he) hc f hfN (C.2.2.2.2.1 _ hw) (fun _ h9 => h9) hfin hin2 hdecl hty hn hfit hlt d (fun H1 locs1 hP1 hD1 hS1 => ?_)
    rw [ap_set] at hP1 hD1
    exact k H1 locs1 ls hl hP1 hD1 hS1
theorem iw_putI (j f : Nat) {idx ci a : Nat} {x : Int32} {fs : List Value} (C : IC g p s m meth c args own cc nL) (he : w[j]? = some (a, .inr (ci, fs))) (hf : ∃ Cn T N, vwCl[ci]? = some (Cn, T, N) ∧ f < N ∧ Cond.fieldLink own idx (T f).1 (T f).2.1 (T f).2.2.1 ∈ pw_ws ∧ (T f).2.2.2 = false ∧ parseFieldDescriptor (T f).2.2.1 = some .int) (hlt : f < fs.length) (d : decode cc pc = .ok (.putfield idx, 3))
    (k : IW g p e R s m args below meth c nL Z P (pc + 3) lv st cells slots (w.set j (a, .inr (ci, fs.set f (.int x))))) : IW g p e R s m args below meth c nL Z P pc lv (.int x :: .ref a :: st) cells slots w :=
  fun H locs ls hl hP hD hS => by
    obtain ⟨Cn, T, N, hc, hfN, hw, hfin, hty⟩ := hf
    obtain ⟨i1, ⟨ty0, i2⟩, i3, i4⟩ := pw_ins0 hc
    refine va_put (D := pw_D g) (cl := vwCl) (ty := .int) (v := .int x) C.1 C.2.1 C.2.2.2.2.1 i1 ty0 i2 i3 C.2.2.2.1 C.2.2.2.2.2.1 hP hD hS (P.length + j) (ap_get P w j he) hc f hfN (C.2.2.2.2.1 _ hw) (fun _ h9 => h9) hfin hty rfl rfl hlt d (fun H1 locs1 hP1 hD1 hS1 => ?_)
    rw [ap_set] at hP1 hD1
    exact k H1 locs1 ls hl hP1 hD1 hS1
theorem iw_new {idx ci N : Nat} {Cn : String} {T : u_T} {fs : List Value} (ty : Nat → FieldType) (hty : ∀ k, k < N → parseFieldDescriptor (T k).2.2.1 = some (ty k)) (C : IC g p s m meth c args own cc nL) (hc : vwCl[ci]? = some (Cn, T, N)) (h1 : Cond.classLink own idx Cn ∈ pw_ws) (h2 : Cond.instantiable Cn N ∈ pw_ws) (h3 : Cond.initialized Cn ∈ pw_ws) (hfs : ∀ j, j < N → defaultValue (ty j) = vp_V fs j) (hcells : cells + 1 ≤ R.cells) (hslots : slots + N ≤ R.slots) (d : decode cc pc = .ok (.new idx, 3))
    (k : ∀ q : Nat, IW g p e R s m args below meth c nL Z P (pc + 3) lv (.ref q :: st) (cells + 1) (slots + N) (w ++ [(q, .inr (ci, fs))])) : IW g p e R s m args below meth c nL Z P pc lv st cells slots w :=
  fun H locs ls hl hP hD hS => by
    obtain ⟨i1, -, -, i4⟩ := pw_ins0 hc
    refine va_new C.1 C.2.1 C.2.2.2.2.1 i1 ty hty C.2.2.2.1 (C.2.2.2.2.1 _ h1) (C.2.2.2.2.1 _ h2) (C.2.2.2.2.1 _ h3) C.2.2.2.2.2.1 hP hD hS (fun q hq => Nat.le_trans C.2.2.2.2.2.2.1 hq) hc hfs hcells hslots d (fun q H1 hP1 hD1 hS1 => ?_)
    rw [List.append_assoc] at hP1 hD1
    exact k q H1 locs ls hl hP1 hD1 hS1
end IWA
/-- a constructor's contract: from the cells P and the object's own cell to P and what it has made -/
def IM (g : pw_G) (y : MethodName) (cc : ByteArray) (maxL fr lo mc ms : Nat) (As : List Value) (P w0 : va_W) (post : va_W → Prop) : Prop :=
  Met (pw_l g) y (.code y cc maxL none :: pw_ws) { frames := fr, cells := mc, slots := ms, locals := lo } (va_Pc As (fun U => va_P (pw_D g) vwCl (P ++ w0) U.heap ∧ va_D (pw_A g) (P ++ w0) ∧ KI g U)) (va_Qv post (fun w t => va_P (pw_D g) vwCl (P ++ w) t.heap ∧ va_D (pw_A g) (P ++ w)) (pw_A g)) mc ms (pw_A g)
section IWB
variable {g : pw_G} {y : MethodName} {cc : ByteArray} {maxL fr lo mc ms : Nat} {As : List Value} {P w0 : va_W} {post : va_W → Prop}
abbrev IZ (g : pw_G) (P : va_W) (post : va_W → Prop) (mc ms : Nat) (below : List Frame) (args : Array Value) (s : State) : State → Prop := MQ below (va_Qv post (fun w t => va_P (pw_D g) vwCl (P ++ w) t.heap ∧ va_D (pw_A g) (P ++ w)) (pw_A g)) args s mc ms (pw_A g)
theorem im_body (hy : plainName y.cls = true) (hyn : y.name = "<init>") (hn : (lg_sl As).length ≤ maxL)
    (body : ∀ (p : Program) (e : Env) (s : State) (m : MethodId) (args : Array Value) (below : List Frame) (meth : Method) (c : Code), IC g p s m meth c args y.cls cc maxL → meth.name = "<init>" → meth.sig.returnType = none → meth.locks = false →
      IW g p e { frames := fr, cells := mc, slots := ms, locals := lo } s m args below meth c maxL (IZ g P post mc ms below args s) P 0 (lv_args 0 As) [] 0 0 w0) : IM g y cc maxL fr lo mc ms As P w0 post := by
  refine Met.ofW (cc := cc) (maxL := maxL) (ret := none) hy rfl ?_
  intro p e s m args below meth c s₁ B hml hv
  obtain ⟨rfl, hP, hD, hK⟩ := hv
  have hts := atoms_spec (ws := .code y cc maxL none :: pw_ws) B.pre
  have hown := findClass_of_methodNamed B.named
  have hin : meth.name = "<init>" := (name_of_methodNamed B.named B.method).1.trans hyn
  have hl := lv_entry As (n := maxL) hn
  rw [lg_entry_eq]
  exact body p e s m _ below meth c ⟨B.exec, B.bytes, hml, hown, fun w hw => hts w (List.mem_cons_of_mem _ hw), hK⟩ hin B.returns B.notSynchronized s.heap [] _ hl hP hD va_S.rf
theorem iw_ret {p : Program} {e : Env} {R : Room} {s : State} {m : MethodId} {args : Array Value} {below : List Frame} {meth : Method} {c : Code} {nL : Nat} {own : String} {pc : Nat} {lv : List (Nat × Value)} {cells slots : Nat} {w : va_W} (C : IC g p s m meth c args own cc nL) (hr : meth.sig.returnType = none) (hlk : meth.locks = false) (d : decode cc pc = .ok (.return_, 1)) (hc : cells ≤ mc) (hs : slots ≤ ms) (hp : post w) : IW g p e R s m args below meth c nL (IZ g P post mc ms below args s) P pc lv [] cells slots w :=
  fun H locs ls hl hP hD hS => W.widen hc hs (W.vret C.1 C.2.1 hr (fun t ht hW => ⟨⟨w, rfl, hp, by rw [ht]; exact hP, hD⟩, hS.F ht⟩) hS.2.2 d hlk)
theorem im_blind : FrameBlind (va_Pc As (fun U => va_P (pw_D g) vwCl (P ++ w0) U.heap ∧ va_D (pw_A g) (P ++ w0) ∧ KI g U)) :=
  fun a U f mk q => ⟨q.1, q.2.1, q.2.2.1, KI.same q.2.2.2 rfl rfl⟩
section
variable {p : Program} {e : Env} {R : Room} {s : State} {m : MethodId} {args : Array Value} {below : List Frame} {meth : Method} {c : Code} {nL : Nat} {Z : State → Prop} {own : String} {c9 : ByteArray} {pc : Nat} {lv : List (Nat × Value)} {st rest : List Value} {cells slots : Nat} {w : va_W} {q0 : Nat × va_E} {idx n a : Nat} {A9 : List Value}
/-- the object is the last cell; the others are the callee's old ones -/
theorem iw_callI (C : IC g p s m meth c args own c9 nL) (hM : IM g y cc maxL fr lo mc ms (.ref a :: A9) (P ++ w) [q0] post) (hy1 : y.name = "<init>") (h1 : Cond.methodLink own idx y ∈ pw_ws) (h2 : Cond.instanceMethod y ∈ pw_ws) (h3 : Cond.initialized y.cls ∈ pw_ws) (h4 : Cond.code y cc maxL none ∈ pw_ws) (h5 : y.cls ≠ "java/lang/invoke/MethodHandle" ∧ y.cls ≠ "java/lang/invoke/VarHandle" ∧ (parseMethodDescriptor y.desc).map (fun d => d.parameters.length) = some n) (hR : fr + 1 ≤ R.frames ∧ 8 + (maxL + 11) + lo ≤ R.locals) (hn : A9.length = n) (hrest : (rest.map fun v => v.category).sum ≤ 8) (hst : st = A9.reverse ++ .ref a :: rest) (hf : cells + mc ≤ R.cells ∧ slots + ms ≤ R.slots) (d : decode c9 pc = .ok (.invokespecial idx, 3))
    (k : ∀ w', post w' → IW g p e R s m args below meth c nL Z P (pc + 3) lv rest (cells + mc) (slots + ms) (w ++ w')) : IW g p e R s m args below meth c nL Z P pc lv st cells slots (w ++ [q0]) :=
  fun H locs ls hl hP hD hS => by
    rw [← List.append_assoc] at hP hD
    have hG : GoodIn pw_ws (.code y cc maxL none :: pw_ws) := fun x hx => pw_good1 (by
      rcases List.mem_cons.mp hx with rfl | hx
      · exact h4
      · exact hx)
    refine va_callv (va_runI (As := A9) (rest := rest) (b := a) ⟨C.1, C.2.1, C.2.2.1, C.2.2.2.1, C.2.2.2.2.1⟩ hM (cwI n C.2.2.2.2.1 hG rfl rfl rfl (C.2.2.2.2.1 _ h3) (C.2.2.2.2.1 _ h1) (C.2.2.2.2.1 _ h2) hy1 h5 hR) ⟨im_blind, fun U hU hW => ⟨rfl, by rw [hU]; exact hP, hD, C.2.2.2.2.2.at hS hU hW⟩⟩ rfl hn hl.1 hst (lv_room hrest) d hf) hS (fun q _ h => h) (fun q h => h) (fun w' t H1 locs1 ht hvm hp hB hz1 hk1 hS1 => ?_)
    obtain ⟨hP1, hD1⟩ := hB
    rw [List.append_assoc] at hP1 hD1
    exact k w' hp H1 locs1 ls hl (by rw [← ht]; exact hP1) hD1 hS1
theorem iw_callN (C : IC g p s m meth c args own c9 nL) (hM : IM g y cc maxL fr lo mc ms (.ref a :: A9) (P ++ w) [q0] post) (hy1 : y.name = "<init>") (h1 : va_Nw (.methodLinkNest own idx y RX4) s) (h2 : Cond.instanceMethod y ∈ pw_ws) (h3 : Cond.initialized y.cls ∈ pw_ws) (h4 : Cond.code y cc maxL none ∈ pw_ws) (h5 : y.cls ≠ "java/lang/invoke/MethodHandle" ∧ y.cls ≠ "java/lang/invoke/VarHandle" ∧ (parseMethodDescriptor y.desc).map (fun d => d.parameters.length) = some n) (hR : fr + 1 ≤ R.frames ∧ 8 + (maxL + 11) + lo ≤ R.locals) (hn : A9.length = n) (hrest : (rest.map fun v => v.category).sum ≤ 8) (hst : st = A9.reverse ++ .ref a :: rest) (hf : cells + mc ≤ R.cells ∧ slots + ms ≤ R.slots) (d : decode c9 pc = .ok (.invokespecial idx, 3))
    (k : ∀ w', post w' → IW g p e R s m args below meth c nL Z P (pc + 3) lv rest (cells + mc) (slots + ms) (w ++ w')) : IW g p e R s m args below meth c nL Z P pc lv st cells slots (w ++ [q0]) :=
  fun H locs ls hl hP hD hS => by
    rw [← List.append_assoc] at hP hD
    have hG : GoodIn pw_ws (.code y cc maxL none :: pw_ws) := fun x hx => pw_good1 (by
      rcases List.mem_cons.mp hx with rfl | hx
      · exact h4
      · exact hx)
    refine va_callv (va_runIN (As := A9) (rest := rest) (b := a) ⟨C.1, C.2.1, C.2.2.1, C.2.2.2.1, C.2.2.2.2.1⟩ hM ⟨va_cnB n C.2.2.2.2.1 hG rfl rfl rfl h1 (C.2.2.2.2.1 _ h3) h5 hR, hy1, C.2.2.2.2.1 _ h2⟩ ⟨im_blind, fun U hU hW => ⟨rfl, by rw [hU]; exact hP, hD, C.2.2.2.2.2.at hS hU hW⟩⟩ rfl hn hl.1 hst (lv_room hrest) d hf) hS (fun q _ h => h) (fun q h => h) (fun w' t H1 locs1 ht hvm hp hB hz1 hk1 hS1 => ?_)
    obtain ⟨hP1, hD1⟩ := hB
    rw [List.append_assoc] at hP1 hD1
    exact k w' hp H1 locs1 ls hl (by rw [← ht]; exact hP1) hD1 hS1
end
end IWB
