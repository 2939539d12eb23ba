/-! THE LAW AND ITS OWN METHODS. 'GW': a walk in the law's class, with any end Z, over the world of all cells; 'out' may change, and with it g -/
def pw_out (g : pw_G) (o : Int64) : pw_G := (g.1, g.2.1, g.2.2.1, g.2.2.2.1, g.2.2.2.2.1, o, g.2.2.2.2.2.2)
/-- what stands fast in a body of the law's class -/
def GC (g : pw_G) (p : Program) (s : State) (m : MethodId) (c : Code) (args : Array Value) (own : String) (cc : ByteArray) (nL : Nat) : Prop :=
  p.tables.exec = Jvm.exec ∧ c.code = cc ∧ c.maxLocals = nL ∧ s.vm.findClass own = some m.cls ∧ (∀ w ∈ pw_ws, w.before args s = true) ∧ pw_K g s
def GW (g : pw_G) (p : Program) (e : Env) (R : Room) (s : State) (m : MethodId) (args : Array Value) (below : List Frame) (meth : Method) (c : Code) (nL : Nat) (Z : State → Prop) (pc : Nat) (lv : List (Nat × Value)) (st : List Value) (u : Nat) (σ : pw_Mem) : Prop :=
  ∀ (H : Heap) (locs : List Loc) (ls : Array Slot), lv_has ls nL lv → pw_L g σ H → va_S (pw_A g) s.heap H locs → W p (pw_l g) e R s m args below meth c H locs u (6 * u) Z (F0 m pc ls st)
/-- E is thrown at pc -/
def GX (g : pw_G) (p : Program) (e : Env) (R : Room) (s : State) (m : MethodId) (args : Array Value) (below : List Frame) (meth : Method) (c : Code) (nL : Nat) (Z : State → Prop) (pc : Nat) (lv : List (Nat × Value)) (rest : List Value) (u : Nat) (σ : pw_Mem) (E : String) : Prop :=
  ∀ (H : Heap) (locs : List Loc) (ls : Array Slot) (q : Addr) (ce : Cell), lv_has ls nL lv → pw_L g σ H → va_S (pw_A g) s.heap H locs → H[q]? = some ce → ce.vm = .none → s.vm.findClass E = some ce.cls → vx_W p (pw_l g) e R s m args below meth c H locs u (6 * u) Z (F0 m pc ls rest) q
section GWA
variable {g : pw_G} {p : Program} {e : Env} {R : Room} {s : State} {m : MethodId} {args : Array Value} {below : List Frame} {meth : Method} {c : Code} {nL : Nat} {Z : State → Prop} {own : String} {cc : ByteArray}
variable {pc : Nat} {lv : List (Nat × Value)} {st : List Value} {u : Nat} {σ : pw_Mem}
theorem GC.out (C : GC g p s m c args own cc nL) (o : Int64) : GC (pw_out g o) p s m c args own cc nL := C
theorem gw_iconst {n : Int} {v : Int32} (C : GC g p s m c args own cc nL) (d : decode cc pc = .ok (.iconst n, 1)) (hv : Int32.ofInt n = v) (k : GW g p e R s m args below meth c nL Z (pc + 1) lv (.int v :: st) u σ) : GW g p e R s m args below meth c nL Z pc lv st u σ :=
  fun H locs ls hl hL hS => lv_iconst C.1 C.2.1 d hv (k H locs ls hl hL hS)
theorem gw_bipush {n : Int} {v : Int32} (C : GC g p s m c args own cc nL) (d : decode cc pc = .ok (.bipush n, 2)) (hv : (Int8.ofInt n).toInt32 = v) (k : GW g p e R s m args below meth c nL Z (pc + 2) lv (.int v :: st) u σ) : GW g p e R s m args below meth c nL Z pc lv st u σ :=
  fun H locs ls hl hL hS => lv_bipush C.1 C.2.1 d hv (k H locs ls hl hL hS)
theorem gw_lconst {n : Fin 2} {v : Int64} (C : GC g p s m c args own cc nL) (d : decode cc pc = .ok (.lconst n, 1)) (hv : Int64.ofNat (n : Nat) = v) (k : GW g p e R s m args below meth c nL Z (pc + 1) lv (.long v :: st) u σ) : GW g p e R s m args below meth c nL Z pc lv st u σ :=
  fun H locs ls hl hL hS => lv_lconst C.1 C.2.1 d hv (k H locs ls hl hL hS)
theorem gw_i2l {x : Int32} (C : GC g p s m c args own cc nL) (d : decode cc pc = .ok (.i2l, 1)) (k : GW g p e R s m args below meth c nL Z (pc + 1) lv (.long x.toInt64 :: st) u σ) : GW g p e R s m args below meth c nL Z pc lv (.int x :: st) u σ :=
  fun H locs ls hl hL hS => lv_i2l C.1 C.2.1 d rfl (k H locs ls hl hL hS)
theorem gw_iload_n {f : Fin 4} {i : Nat} {x : Int32} (n : Nat) (C : GC g p s m c args own cc nL) (d : decode cc pc = .ok (.iload_n f, 1)) (hi : (f : Nat) = i) (h : lv[n]? = some (i, .int x)) (k : GW g p e R s m args below meth c nL Z (pc + 1) lv (.int x :: st) u σ) : GW g p e R s m args below meth c nL Z pc lv st u σ :=
  fun H locs ls hl hL hS => lv_iload_n C.1 C.2.1 d hi (lv_at hl n h) (k H locs ls hl hL hS)
theorem gw_iload {i : Nat} {x : Int32} (n : Nat) (C : GC g p s m c args own cc nL) (d : decode cc pc = .ok (.iload i, 2)) (h : lv[n]? = some (i, .int x)) (k : GW g p e R s m args below meth c nL Z (pc + 2) lv (.int x :: st) u σ) : GW g p e R s m args below meth c nL Z pc lv st u σ :=
  fun H locs ls hl hL hS => lv_iload C.1 C.2.1 d (lv_at hl n h) (k H locs ls hl hL hS)
theorem gw_aload_n {f : Fin 4} {i : Nat} {x : Nat} (n : Nat) (C : GC g p s m c args own cc nL) (d : decode cc pc = .ok (.aload_n f, 1)) (hi : (f : Nat) = i) (h : lv[n]? = some (i, .ref x)) (k : GW g p e R s m args below meth c nL Z (pc + 1) lv (.ref x :: st) u σ) : GW g p e R s m args below meth c nL Z pc lv st u σ :=
  fun H locs ls hl hL hS => lv_aload_n C.1 C.2.1 d hi (lv_at hl n h) (k H locs ls hl hL hS)
theorem gw_aload {i : Nat} {x : Nat} (n : Nat) (C : GC g p s m c args own cc nL) (d : decode cc pc = .ok (.aload i, 2)) (h : lv[n]? = some (i, .ref x)) (k : GW g p e R s m args below meth c nL Z (pc + 2) lv (.ref x :: st) u σ) : GW g p e R s m args below meth c nL Z pc lv st u σ :=
  fun H locs ls hl hL hS => lv_aload C.1 C.2.1 d (lv_at hl n h) (k H locs ls hl hL hS)
theorem gw_istore {i : Nat} {x : Int32} {lv' : List (Nat × Value)} (C : GC g p s m c args own cc nL) (d : decode cc pc = .ok (.istore i, 2)) (hn : i < nL) (hl' : pw_st i (.int x) lv = lv') (k : GW g p e R s m args below meth c nL Z (pc + 2) lv' st u σ) : GW g p e R s m args below meth c nL Z pc lv (.int x :: st) u σ :=
  fun H locs ls hl hL hS => lv_istore C.1 C.2.1 d hl hn rfl (fun ls' h' => k H locs ls' (hl' ▸ pw_ins_has h') hL hS)
theorem gw_astore {i : Nat} {x : Nat} {lv' : List (Nat × Value)} (C : GC g p s m c args own cc nL) (d : decode cc pc = .ok (.astore i, 2)) (hn : i < nL) (hl' : pw_st i (.ref x) lv = lv') (k : GW g p e R s m args below meth c nL Z (pc + 2) lv' st u σ) : GW g p e R s m args below meth c nL Z pc lv (.ref x :: st) u σ :=
  fun H locs ls hl hL hS => lv_astore C.1 C.2.1 d hl hn rfl (fun ls' h' => k H locs ls' (hl' ▸ pw_ins_has h') hL hS)
theorem gw_astore_n {f : Fin 4} {i : Nat} {x : Nat} {lv' : List (Nat × Value)} (C : GC g p s m c args own cc nL) (d : decode cc pc = .ok (.astore_n f, 1)) (hi : (f : Nat) = i) (hn : i < nL) (hl' : pw_st i (.ref x) lv = lv') (k : GW g p e R s m args below meth c nL Z (pc + 1) lv' st u σ) : GW g p e R s m args below meth c nL Z pc lv (.ref x :: st) u σ :=
  fun H locs ls hl hL hS => lv_astore_n C.1 C.2.1 d hi hl hn rfl (fun ls' h' => k H locs ls' (hl' ▸ pw_ins_has h') hL hS)
theorem gw_iinc {i : Nat} {n : Int} {x v : Int32} {lv' : List (Nat × Value)} (w : Nat) (C : GC g p s m c args own cc nL) (d : decode cc pc = .ok (.iinc i n, 3)) (hk : lv[w]? = some (i, .int x)) (hv : x + Int32.ofInt n = v) (hn : i < nL) (hl' : pw_st i (.int v) lv = lv') (k : GW g p e R s m args below meth c nL Z (pc + 3) lv' st u σ) : GW g p e R s m args below meth c nL Z pc lv st u σ :=
  fun H locs ls hl hL hS => lv_iinc C.1 C.2.1 d hl hk hv hn rfl (fun ls' h' => k H locs ls' (hl' ▸ pw_ins_has h') hL hS)
theorem gw_iadd {x y : Int32} (C : GC g p s m c args own cc nL) (d : decode cc pc = .ok (.iadd, 1)) (k : GW g p e R s m args below meth c nL Z (pc + 1) lv (.int (x + y) :: st) u σ) : GW g p e R s m args below meth c nL Z pc lv (.int y :: .int x :: st) u σ :=
  fun H locs ls hl hL hS => lv_iadd C.1 C.2.1 d (k H locs ls hl hL hS)
theorem gw_isub {x y : Int32} (C : GC g p s m c args own cc nL) (d : decode cc pc = .ok (.isub, 1)) (k : GW g p e R s m args below meth c nL Z (pc + 1) lv (.int (x - y) :: st) u σ) : GW g p e R s m args below meth c nL Z pc lv (.int y :: .int x :: st) u σ :=
  fun H locs ls hl hL hS => lv_isub C.1 C.2.1 d (k H locs ls hl hL hS)
theorem gw_iand {x y : Int32} (C : GC g p s m c args own cc nL) (d : decode cc pc = .ok (.iand, 1)) (k : GW g p e R s m args below meth c nL Z (pc + 1) lv (.int (x &&& y) :: st) u σ) : GW g p e R s m args below meth c nL Z pc lv (.int y :: .int x :: st) u σ :=
  fun H locs ls hl hL hS => lv_iand C.1 C.2.1 d (k H locs ls hl hL hS)
theorem gw_goto {off : Int} {tgt : Nat} (C : GC g p s m c args own cc nL) (d : decode cc pc = .ok (.goto off, 3)) (ht : (pc : Int) + off = (tgt : Int)) (k : GW g p e R s m args below meth c nL Z tgt lv st u σ) : GW g p e R s m args below meth c nL Z pc lv st u σ :=
  fun H locs ls hl hL hS => lv_goto C.1 C.2.1 d ht (k H locs ls hl hL hS)
theorem gw_if_eq {x : Int32} {off : Int} {tgt : Nat} (C : GC g p s m c args own cc nL) (d : decode cc pc = .ok (.ifCond .eq off, 3)) (ht : (pc : Int) + off = (tgt : Int)) (kt : x = 0 → GW g p e R s m args below meth c nL Z tgt lv st u σ) (kf : ¬ x = 0 → GW g p e R s m args below meth c nL Z (pc + 3) lv st u σ) : GW g p e R s m args below meth c nL Z pc lv (.int x :: st) u σ :=
  fun H locs ls hl hL hS => lv_if_eq C.1 C.2.1 d ht (fun h => kt h H locs ls hl hL hS) (fun h => kf h H locs ls hl hL hS)
theorem gw_if_ne {x : Int32} {off : Int} {tgt : Nat} (C : GC g p s m c args own cc nL) (d : decode cc pc = .ok (.ifCond .ne off, 3)) (ht : (pc : Int) + off = (tgt : Int)) (kt : ¬ x = 0 → GW g p e R s m args below meth c nL Z tgt lv st u σ) (kf : x = 0 → GW g p e R s m args below meth c nL Z (pc + 3) lv st u σ) : GW g p e R s m args below meth c nL Z pc lv (.int x :: st) u σ :=
  fun H locs ls hl hL hS => lv_if_ne C.1 C.2.1 d ht (fun h => kt h H locs ls hl hL hS) (fun h => kf h H locs ls hl hL hS)
theorem gw_icmp_eq {x y : Int32} {off : Int} {tgt : Nat} (C : GC g p s m c args own cc nL) (d : decode cc pc = .ok (.if_icmp .eq off, 3)) (ht : (pc : Int) + off = (tgt : Int)) (kt : x = y → GW g p e R s m args below meth c nL Z tgt lv st u σ) (kf : ¬ x = y → GW g p e R s m args below meth c nL Z (pc + 3) lv st u σ) : GW g p e R s m args below meth c nL Z pc lv (.int y :: .int x :: st) u σ :=
  fun H locs ls hl hL hS => lv_icmp_eq C.1 C.2.1 d ht (fun h => kt h H locs ls hl hL hS) (fun h => kf h H locs ls hl hL hS)
theorem gw_icmp_gt {x y : Int32} {off : Int} {tgt : Nat} (C : GC g p s m c args own cc nL) (d : decode cc pc = .ok (.if_icmp .gt off, 3)) (ht : (pc : Int) + off = (tgt : Int)) (kt : y < x → GW g p e R s m args below meth c nL Z tgt lv st u σ) (kf : ¬ y < x → GW g p e R s m args below meth c nL Z (pc + 3) lv st u σ) : GW g p e R s m args below meth c nL Z pc lv (.int y :: .int x :: st) u σ :=
  fun H locs ls hl hL hS => lv_icmp_gt C.1 C.2.1 d ht (fun h => kt h H locs ls hl hL hS) (fun h => kf h H locs ls hl hL hS)
theorem gw_table {dflt lo hi : Int} {offs : Array Int} {len : Nat} {x : Int32} {off : Int} {tgt : Nat} (C : GC g p s m c args own cc nL) (d : decode cc pc = .ok (.tableswitch dflt lo hi offs, len)) (h1 : ¬ x.toInt < lo) (h2 : ¬ hi < x.toInt) (ho : offs[(x.toInt - lo).toNat]? = some off) (ht : (pc : Int) + off = (tgt : Int)) (k : GW g p e R s m args below meth c nL Z tgt lv st u σ) : GW g p e R s m args below meth c nL Z pc lv (.int x :: st) u σ :=
  fun H locs ls hl hL hS => lv_tableIn C.1 C.2.1 d h1 h2 ho ht (k H locs ls hl hL hS)
/-- the script -/
theorem gw_sld {b L : Nat} {xs : Nat → Int32} {i : Int32} (C : GC g p s m c args own cc nL) (hX : va_X b L xs s s.heap) (hbl : b < s.heap.size) (hbA : ¬ pw_A g b) (d : decode cc pc = .ok (.iaload, 1)) (hin : vp_in i L) (k : GW g p e R s m args below meth c nL Z (pc + 1) lv (.int (xs i.toNatClampNeg) :: st) u σ) : GW g p e R s m args below meth c nL Z pc lv (.int i :: .ref b :: st) u σ :=
  fun H locs ls hl hL hS => va_sld C.1 C.2.1 hX hbl hbA hS hin d (k H locs ls hl hL hS)
theorem gw_slen {b L : Nat} {xs : Nat → Int32} (C : GC g p s m c args own cc nL) (hX : va_X b L xs s s.heap) (hbl : b < s.heap.size) (hbA : ¬ pw_A g b) (d : decode cc pc = .ok (.arraylength, 1)) (k : GW g p e R s m args below meth c nL Z (pc + 1) lv (.int (nI L) :: st) u σ) : GW g p e R s m args below meth c nL Z pc lv (.ref b :: st) u σ :=
  fun H locs ls hl hL hS => va_slen C.1 C.2.1 hX hbl hbA hS d (k H locs ls hl hL hS)
/-- out[0] -/
theorem pw_at46 (g : pw_G) (σ : pw_Mem) : (pw_W g σ)[46]? = some (pw_ad g 46, .inl (pw_cJ g, 1, .inr (.inl (fun _ => pw_o g)))) := by
  rw [pw_W, List.getElem?_append_right (by simp)]
  simp
theorem pw_cell1 (cA : ClassId) (f : Nat → Int64) (x : Int64) : vp_cell cA (1, .inr (.inl (vp_updL f 0 x))) = vp_cell cA (1, .inr (.inl (fun _ => x))) := by
  show arrV cA 1 (fun j => .long (vp_updL f 0 x j)) = arrV cA 1 (fun _ => .long x)
  simp [arrV, vp_updL]
theorem pw_set46 (g : pw_G) (σ : pw_Mem) (o : Int64) : (pw_W g σ).set 46 (pw_ad g 46, .inl (pw_cJ g, 1, .inr (.inl (fun _ => o)))) = pw_W (pw_out g o) σ := by
  rw [pw_W, List.set_append_right _ _ (by simp)]
  simp only [List.length_map, List.length_range, Nat.sub_self, List.set_cons_zero]
  rfl
theorem gw_laload (C : GC g p s m c args own cc nL) (d : decode cc pc = .ok (.laload, 1)) (k : GW g p e R s m args below meth c nL Z (pc + 1) lv (.long (pw_o g) :: st) u σ) : GW g p e R s m args below meth c nL Z pc lv (.int 0 :: .ref (pw_ad g 46) :: st) u σ :=
  fun H locs ls hl hL hS => va_lald (D := pw_D g) (cl := vwCl) (tys := pw_tys g) C.1 C.2.1 C.2.2.2.2.2.1 hL.1 46 2 (pw_at46 g σ) rfl (vp_in_nI (n := 0) (by omega) (by decide)) d (k H locs ls hl hL hS)
theorem gw_lastore {x : Int64} (C : GC g p s m c args own cc nL) (d : decode cc pc = .ok (.lastore, 1)) (k : GW (pw_out g x) p e R s m args below meth c nL Z (pc + 1) lv st u σ) : GW g p e R s m args below meth c nL Z pc lv (.long x :: .int 0 :: .ref (pw_ad g 46) :: st) u σ :=
  fun H locs ls hl hL hS => by
    refine va_last (D := pw_D g) (cl := vwCl) (tys := pw_tys g) C.1 C.2.1 C.2.2.2.2.2.1 hL.1 hL.2 hS 46 2 (pw_at46 g σ) rfl (vp_in_nI (n := 0) (by omega) (by decide)) d (fun H1 locs1 hP hD hS1 => ?_)
    have hlen : 46 < (pw_W g σ).length := (List.getElem?_eq_some_iff.mp (pw_at46 g σ)).1
    refine k H1 locs1 ls hl ⟨?_, ?_⟩ hS1
    · rw [← pw_set46]
      intro k q hq
      rw [List.getElem?_set] at hq
      by_cases h : 46 = k
      · subst h
        rw [if_pos rfl, if_pos hlen] at hq
        cases hq
        have := hP 46 _ (by rw [List.getElem?_set, if_pos rfl, if_pos hlen])
        have this : H1[pw_ad g 46]? = some (vp_cell (pw_cJ g) (1, .inr (.inl (vp_updL (fun _ => pw_o g) (0 : Int32).toNatClampNeg x)))) := this
        show H1[pw_ad g 46]? = some (vp_cell (pw_cJ g) (1, .inr (.inl (fun _ => x))))
        rw [this, show (0 : Int32).toNatClampNeg = 0 from rfl, pw_cell1]
      · rw [if_neg h] at hq
        exact hP k q (by rw [List.getElem?_set, if_neg h]; exact hq)
    · rw [← pw_set46]
      exact hL.2.set (pw_at46 g σ)
end GWA
