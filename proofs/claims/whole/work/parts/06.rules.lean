section PWB
variable {g : pw_G} {M : pw_M} {pc : Nat} {lv : List (Nat × Value)} {st : List Value} {u : Nat} {σ : pw_Mem} {Q : pw_R → Prop}
theorem wp_iconst {n : Int} {v : Int32} (d : decode (pw_cc M) pc = .ok (.iconst n, 1)) (hv : Int32.ofInt n = v) (k : WP g M (pc + 1) lv (.int v :: st) u σ Q) : WP g M pc lv st u σ Q :=
  fun p e s m args below meth c C H locs ls hl hL hS => lv_iconst C.1 C.2.1 d hv (k p e s m args below meth c C H locs ls hl hL hS)
theorem wp_bipush {n : Int} {v : Int32} (d : decode (pw_cc M) pc = .ok (.bipush n, 2)) (hv : (Int8.ofInt n).toInt32 = v) (k : WP g M (pc + 2) lv (.int v :: st) u σ Q) : WP g M pc lv st u σ Q :=
  fun p e s m args below meth c C H locs ls hl hL hS => lv_bipush C.1 C.2.1 d hv (k p e s m args below meth c C H locs ls hl hL hS)
theorem wp_sipush {n : Int} {v : Int32} (d : decode (pw_cc M) pc = .ok (.sipush n, 3)) (hv : (Int16.ofInt n).toInt32 = v) (k : WP g M (pc + 3) lv (.int v :: st) u σ Q) : WP g M pc lv st u σ Q :=
  fun p e s m args below meth c C H locs ls hl hL hS => lv_sipush C.1 C.2.1 d hv (k p e s m args below meth c C H locs ls hl hL hS)
theorem wp_iload_n {f : Fin 4} {i : Nat} {x : Int32} (n : Nat) (d : decode (pw_cc M) pc = .ok (.iload_n f, 1)) (hi : (f : Nat) = i) (h : lv[n]? = some (i, .int x)) (k : WP g M (pc + 1) lv (.int x :: st) u σ Q) : WP g M pc lv st u σ Q :=
  fun p e s m args below meth c C H locs ls hl hL hS => lv_iload_n C.1 C.2.1 d hi (lv_at hl n h) (k p e s m args below meth c C H locs ls hl hL hS)
theorem wp_iload {i : Nat} {x : Int32} (n : Nat) (d : decode (pw_cc M) pc = .ok (.iload i, 2)) (h : lv[n]? = some (i, .int x)) (k : WP g M (pc + 2) lv (.int x :: st) u σ Q) : WP g M pc lv st u σ Q :=
  fun p e s m args below meth c C H locs ls hl hL hS => lv_iload C.1 C.2.1 d (lv_at hl n h) (k p e s m args below meth c C H locs ls hl hL hS)
theorem wp_aload_n {f : Fin 4} {i : Nat} {x : Nat} (n : Nat) (d : decode (pw_cc M) pc = .ok (.aload_n f, 1)) (hi : (f : Nat) = i) (h : lv[n]? = some (i, .ref x)) (k : WP g M (pc + 1) lv (.ref x :: st) u σ Q) : WP g M pc lv st u σ Q :=
  fun p e s m args below meth c C H locs ls hl hL hS => lv_aload_n C.1 C.2.1 d hi (lv_at hl n h) (k p e s m args below meth c C H locs ls hl hL hS)
/-- a local's new value, in its place -/
def pw_ins (i : Nat) (v : Value) : List (Nat × Value) → List (Nat × Value)
  | [] => [(i, v)]
  | q :: r => bif Nat.blt i q.1 then (i, v) :: q :: r else q :: pw_ins i v r
theorem pw_ins_in {i : Nat} {v : Value} : ∀ {l : List (Nat × Value)} {q : Nat × Value}, q ∈ pw_ins i v l → q = (i, v) ∨ q ∈ l
  | [], q, h => Or.inl (by simpa [pw_ins] using h)
  | a :: r, q, h => by
    unfold pw_ins at h
    cases hb : Nat.blt i a.1 with
    | true =>
      rw [hb] at h
      exact (List.mem_cons.mp h).elim Or.inl Or.inr
    | false =>
      rw [hb] at h
      rcases List.mem_cons.mp h with h | h
      · exact Or.inr (List.mem_cons.mpr (Or.inl h))
      · rcases pw_ins_in h with h | h
        · exact Or.inl h
        · exact Or.inr (List.mem_cons.mpr (Or.inr h))
theorem pw_ins_has {ls : Array Slot} {nL i : Nat} {v : Value} {l : List (Nat × Value)} (h : lv_has ls nL ((i, v) :: l)) : lv_has ls nL (pw_ins i v l) :=
  ⟨h.1, h.2.1, fun q hq => h.2.2 q ((pw_ins_in hq).elim (fun e => by rw [e]; exact List.mem_cons_self) (List.mem_cons_of_mem _))⟩
def pw_st (i : Nat) (v : Value) (l : List (Nat × Value)) : List (Nat × Value) := pw_ins i v (l.filter (fun q => !(q.1 == i) && !(q.1 + 1 == i && q.2.category == 2)))
theorem wp_istore_n {f : Fin 4} {i : Nat} {x : Int32} {lv' : List (Nat × Value)} (d : decode (pw_cc M) pc = .ok (.istore_n f, 1)) (hi : (f : Nat) = i) (hn : i < pw_mL M) (hl' : pw_st i (.int x) lv = lv') (k : WP g M (pc + 1) lv' st u σ Q) : WP g M pc lv (.int x :: st) u σ Q :=
  fun p e s m args below meth c C H locs ls hl hL hS => lv_istore_n C.1 C.2.1 d hi hl hn rfl (fun ls' h' => k p e s m args below meth c C H locs ls' (hl' ▸ pw_ins_has h') hL hS)
theorem wp_istore {i : Nat} {x : Int32} {lv' : List (Nat × Value)} (d : decode (pw_cc M) pc = .ok (.istore i, 2)) (hn : i < pw_mL M) (hl' : pw_st i (.int x) lv = lv') (k : WP g M (pc + 2) lv' st u σ Q) : WP g M pc lv (.int x :: st) u σ Q :=
  fun p e s m args below meth c C H locs ls hl hL hS => lv_istore C.1 C.2.1 d hl hn rfl (fun ls' h' => k p e s m args below meth c C H locs ls' (hl' ▸ pw_ins_has h') hL hS)
theorem wp_astore_n {f : Fin 4} {i : Nat} {x : Nat} {lv' : List (Nat × Value)} (d : decode (pw_cc M) pc = .ok (.astore_n f, 1)) (hi : (f : Nat) = i) (hn : i < pw_mL M) (hl' : pw_st i (.ref x) lv = lv') (k : WP g M (pc + 1) lv' st u σ Q) : WP g M pc lv (.ref x :: st) u σ Q :=
  fun p e s m args below meth c C H locs ls hl hL hS => lv_astore_n C.1 C.2.1 d hi hl hn rfl (fun ls' h' => k p e s m args below meth c C H locs ls' (hl' ▸ pw_ins_has h') hL hS)
theorem wp_iinc {i : Nat} {n : Int} {x v : Int32} {lv' : List (Nat × Value)} (w : Nat) (d : decode (pw_cc M) pc = .ok (.iinc i n, 3)) (hk : lv[w]? = some (i, .int x)) (hv : x + Int32.ofInt n = v) (hn : i < pw_mL M) (hl' : pw_st i (.int v) lv = lv') (k : WP g M (pc + 3) lv' st u σ Q) : WP g M pc lv st u σ Q :=
  fun p e s m args below meth c C H locs ls hl hL hS => lv_iinc C.1 C.2.1 d hl hk hv hn rfl (fun ls' h' => k p e s m args below meth c C H locs ls' (hl' ▸ pw_ins_has h') hL hS)
theorem wp_iadd {x y : Int32} (d : decode (pw_cc M) pc = .ok (.iadd, 1)) (k : WP g M (pc + 1) lv (.int (x + y) :: st) u σ Q) : WP g M pc lv (.int y :: .int x :: st) u σ Q :=
  fun p e s m args below meth c C H locs ls hl hL hS => lv_iadd C.1 C.2.1 d (k p e s m args below meth c C H locs ls hl hL hS)
theorem wp_isub {x y : Int32} (d : decode (pw_cc M) pc = .ok (.isub, 1)) (k : WP g M (pc + 1) lv (.int (x - y) :: st) u σ Q) : WP g M pc lv (.int y :: .int x :: st) u σ Q :=
  fun p e s m args below meth c C H locs ls hl hL hS => lv_isub C.1 C.2.1 d (k p e s m args below meth c C H locs ls hl hL hS)
theorem wp_imul {x y : Int32} (d : decode (pw_cc M) pc = .ok (.imul, 1)) (k : WP g M (pc + 1) lv (.int (x * y) :: st) u σ Q) : WP g M pc lv (.int y :: .int x :: st) u σ Q :=
  fun p e s m args below meth c C H locs ls hl hL hS => lv_imul C.1 C.2.1 d (k p e s m args below meth c C H locs ls hl hL hS)
theorem wp_iand {x y : Int32} (d : decode (pw_cc M) pc = .ok (.iand, 1)) (k : WP g M (pc + 1) lv (.int (x &&& y) :: st) u σ Q) : WP g M pc lv (.int y :: .int x :: st) u σ Q :=
  fun p e s m args below meth c C H locs ls hl hL hS => lv_iand C.1 C.2.1 d (k p e s m args below meth c C H locs ls hl hL hS)
theorem wp_ior {x y : Int32} (d : decode (pw_cc M) pc = .ok (.ior, 1)) (k : WP g M (pc + 1) lv (.int (x ||| y) :: st) u σ Q) : WP g M pc lv (.int y :: .int x :: st) u σ Q :=
  fun p e s m args below meth c C H locs ls hl hL hS => lv_ior C.1 C.2.1 d (k p e s m args below meth c C H locs ls hl hL hS)
theorem wp_ishl {x y : Int32} (d : decode (pw_cc M) pc = .ok (.ishl, 1)) (k : WP g M (pc + 1) lv (.int (x <<< (y &&& 31)) :: st) u σ Q) : WP g M pc lv (.int y :: .int x :: st) u σ Q :=
  fun p e s m args below meth c C H locs ls hl hL hS => lv_ishl C.1 C.2.1 d (k p e s m args below meth c C H locs ls hl hL hS)
theorem wp_ishr {x y : Int32} (d : decode (pw_cc M) pc = .ok (.ishr, 1)) (k : WP g M (pc + 1) lv (.int (x >>> (y &&& 31)) :: st) u σ Q) : WP g M pc lv (.int y :: .int x :: st) u σ Q :=
  fun p e s m args below meth c C H locs ls hl hL hS => lv_ishr C.1 C.2.1 d (k p e s m args below meth c C H locs ls hl hL hS)
theorem wp_idiv {x y : Int32} (d : decode (pw_cc M) pc = .ok (.idiv, 1)) (hne : ¬ y = 0) (k : WP g M (pc + 1) lv (.int (x / y) :: st) u σ Q) : WP g M pc lv (.int y :: .int x :: st) u σ Q :=
  fun p e s m args below meth c C H locs ls hl hL hS => lv_idiv C.1 C.2.1 d hne (k p e s m args below meth c C H locs ls hl hL hS)
theorem wp_irem {x y : Int32} (d : decode (pw_cc M) pc = .ok (.irem, 1)) (hne : ¬ y = 0) (k : WP g M (pc + 1) lv (.int (x - x / y * y) :: st) u σ Q) : WP g M pc lv (.int y :: .int x :: st) u σ Q :=
  fun p e s m args below meth c C H locs ls hl hL hS => lv_irem C.1 C.2.1 d hne (k p e s m args below meth c C H locs ls hl hL hS)
theorem wp_ineg {x : Int32} (d : decode (pw_cc M) pc = .ok (.ineg, 1)) (k : WP g M (pc + 1) lv (.int (-x) :: st) u σ Q) : WP g M pc lv (.int x :: st) u σ Q :=
  fun p e s m args below meth c C H locs ls hl hL hS => lv_ineg C.1 C.2.1 d (k p e s m args below meth c C H locs ls hl hL hS)
theorem wp_dup {v : Value} (d : decode (pw_cc M) pc = .ok (.dup, 1)) (hv : v.category = 1) (k : WP g M (pc + 1) lv (v :: v :: st) u σ Q) : WP g M pc lv (v :: st) u σ Q :=
  fun p e s m args below meth c C H locs ls hl hL hS => lv_dup C.1 C.2.1 d hv (k p e s m args below meth c C H locs ls hl hL hS)
theorem wp_pop {v : Value} (d : decode (pw_cc M) pc = .ok (.pop, 1)) (hv : v.category = 1) (k : WP g M (pc + 1) lv st u σ Q) : WP g M pc lv (v :: st) u σ Q :=
  fun p e s m args below meth c C H locs ls hl hL hS => lv_pop C.1 C.2.1 d hv (k p e s m args below meth c C H locs ls hl hL hS)
theorem wp_goto {off : Int} {tgt : Nat} (d : decode (pw_cc M) pc = .ok (.goto off, 3)) (ht : (pc : Int) + off = (tgt : Int)) (k : WP g M tgt lv st u σ Q) : WP g M pc lv st u σ Q :=
  fun p e s m args below meth c C H locs ls hl hL hS => lv_goto C.1 C.2.1 d ht (k p e s m args below meth c C H locs ls hl hL hS)
theorem wp_if_eq {x : Int32} {off : Int} {tgt : Nat} (d : decode (pw_cc M) pc = .ok (.ifCond .eq off, 3)) (ht : (pc : Int) + off = (tgt : Int)) (kt : x = 0 → WP g M tgt lv st u σ Q) (kf : ¬ x = 0 → WP g M (pc + 3) lv st u σ Q) : WP g M pc lv (.int x :: st) u σ Q :=
  fun p e s m args below meth c C H locs ls hl hL hS => lv_if_eq C.1 C.2.1 d ht (fun h => kt h p e s m args below meth c C H locs ls hl hL hS) (fun h => kf h p e s m args below meth c C H locs ls hl hL hS)
theorem wp_if_ne {x : Int32} {off : Int} {tgt : Nat} (d : decode (pw_cc M) pc = .ok (.ifCond .ne off, 3)) (ht : (pc : Int) + off = (tgt : Int)) (kt : ¬ x = 0 → WP g M tgt lv st u σ Q) (kf : x = 0 → WP g M (pc + 3) lv st u σ Q) : WP g M pc lv (.int x :: st) u σ Q :=
  fun p e s m args below meth c C H locs ls hl hL hS => lv_if_ne C.1 C.2.1 d ht (fun h => kt h p e s m args below meth c C H locs ls hl hL hS) (fun h => kf h p e s m args below meth c C H locs ls hl hL hS)
theorem wp_if_lt {x : Int32} {off : Int} {tgt : Nat} (d : decode (pw_cc M) pc = .ok (.ifCond .lt off, 3)) (ht : (pc : Int) + off = (tgt : Int)) (kt : x < 0 → WP g M tgt lv st u σ Q) (kf : ¬ x < 0 → WP g M (pc + 3) lv st u σ Q) : WP g M pc lv (.int x :: st) u σ Q :=
  fun p e s m args below meth c C H locs ls hl hL hS => lv_if_lt C.1 C.2.1 d ht (fun h => kt h p e s m args below meth c C H locs ls hl hL hS) (fun h => kf h p e s m args below meth c C H locs ls hl hL hS)
theorem wp_if_ge {x : Int32} {off : Int} {tgt : Nat} (d : decode (pw_cc M) pc = .ok (.ifCond .ge off, 3)) (ht : (pc : Int) + off = (tgt : Int)) (kt : 0 ≤ x → WP g M tgt lv st u σ Q) (kf : ¬ 0 ≤ x → WP g M (pc + 3) lv st u σ Q) : WP g M pc lv (.int x :: st) u σ Q :=
  fun p e s m args below meth c C H locs ls hl hL hS => lv_if_ge C.1 C.2.1 d ht (fun h => kt h p e s m args below meth c C H locs ls hl hL hS) (fun h => kf h p e s m args below meth c C H locs ls hl hL hS)
theorem wp_if_le {x : Int32} {off : Int} {tgt : Nat} (d : decode (pw_cc M) pc = .ok (.ifCond .le off, 3)) (ht : (pc : Int) + off = (tgt : Int)) (kt : x ≤ 0 → WP g M tgt lv st u σ Q) (kf : ¬ x ≤ 0 → WP g M (pc + 3) lv st u σ Q) : WP g M pc lv (.int x :: st) u σ Q :=
  fun p e s m args below meth c C H locs ls hl hL hS => lv_if_le C.1 C.2.1 d ht (fun h => kt h p e s m args below meth c C H locs ls hl hL hS) (fun h => kf h p e s m args below meth c C H locs ls hl hL hS)
theorem wp_icmp_eq {x y : Int32} {off : Int} {tgt : Nat} (d : decode (pw_cc M) pc = .ok (.if_icmp .eq off, 3)) (ht : (pc : Int) + off = (tgt : Int)) (kt : x = y → WP g M tgt lv st u σ Q) (kf : ¬ x = y → WP g M (pc + 3) lv st u σ Q) : WP g M pc lv (.int y :: .int x :: st) u σ Q :=
  fun p e s m args below meth c C H locs ls hl hL hS => lv_icmp_eq C.1 C.2.1 d ht (fun h => kt h p e s m args below meth c C H locs ls hl hL hS) (fun h => kf h p e s m args below meth c C H locs ls hl hL hS)
theorem wp_icmp_ne {x y : Int32} {off : Int} {tgt : Nat} (d : decode (pw_cc M) pc = .ok (.if_icmp .ne off, 3)) (ht : (pc : Int) + off = (tgt : Int)) (kt : ¬ x = y → WP g M tgt lv st u σ Q) (kf : x = y → WP g M (pc + 3) lv st u σ Q) : WP g M pc lv (.int y :: .int x :: st) u σ Q :=
  fun p e s m args below meth c C H locs ls hl hL hS => lv_icmp_ne C.1 C.2.1 d ht (fun h => kt h p e s m args below meth c C H locs ls hl hL hS) (fun h => kf h p e s m args below meth c C H locs ls hl hL hS)
theorem wp_icmp_lt {x y : Int32} {off : Int} {tgt : Nat} (d : decode (pw_cc M) pc = .ok (.if_icmp .lt off, 3)) (ht : (pc : Int) + off = (tgt : Int)) (kt : x < y → WP g M tgt lv st u σ Q) (kf : ¬ x < y → WP g M (pc + 3) lv st u σ Q) : WP g M pc lv (.int y :: .int x :: st) u σ Q :=
  fun p e s m args below meth c C H locs ls hl hL hS => lv_icmp_lt C.1 C.2.1 d ht (fun h => kt h p e s m args below meth c C H locs ls hl hL hS) (fun h => kf h p e s m args below meth c C H locs ls hl hL hS)
theorem wp_icmp_ge {x y : Int32} {off : Int} {tgt : Nat} (d : decode (pw_cc M) pc = .ok (.if_icmp .ge off, 3)) (ht : (pc : Int) + off = (tgt : Int)) (kt : y ≤ x → WP g M tgt lv st u σ Q) (kf : ¬ y ≤ x → WP g M (pc + 3) lv st u σ Q) : WP g M pc lv (.int y :: .int x :: st) u σ Q :=
  fun p e s m args below meth c C H locs ls hl hL hS => lv_icmp_ge C.1 C.2.1 d ht (fun h => kt h p e s m args below meth c C H locs ls hl hL hS) (fun h => kf h p e s m args below meth c C H locs ls hl hL hS)
theorem wp_icmp_gt {x y : Int32} {off : Int} {tgt : Nat} (d : decode (pw_cc M) pc = .ok (.if_icmp .gt off, 3)) (ht : (pc : Int) + off = (tgt : Int)) (kt : y < x → WP g M tgt lv st u σ Q) (kf : ¬ y < x → WP g M (pc + 3) lv st u σ Q) : WP g M pc lv (.int y :: .int x :: st) u σ Q :=
  fun p e s m args below meth c C H locs ls hl hL hS => lv_icmp_gt C.1 C.2.1 d ht (fun h => kt h p e s m args below meth c C H locs ls hl hL hS) (fun h => kf h p e s m args below meth c C H locs ls hl hL hS)
theorem wp_icmp_le {x y : Int32} {off : Int} {tgt : Nat} (d : decode (pw_cc M) pc = .ok (.if_icmp .le off, 3)) (ht : (pc : Int) + off = (tgt : Int)) (kt : x ≤ y → WP g M tgt lv st u σ Q) (kf : ¬ x ≤ y → WP g M (pc + 3) lv st u σ Q) : WP g M pc lv (.int y :: .int x :: st) u σ Q :=
  fun p e s m args below meth c C H locs ls hl hL hS => lv_icmp_le C.1 C.2.1 d ht (fun h => kt h p e s m args below meth c C H locs ls hl hL hS) (fun h => kf h p e s m args below meth c C H locs ls hl hL hS)
end PWB
