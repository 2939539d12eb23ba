/-! the law: its beginning, its loop *)-/
def R_law : String := "WordClassLearnerLaw"
def lw_P (b : Addr) (xs : List Int32) (args : Array Value) (s : State) : Prop := args = #[.ref b] ∧ s.IntsAt b xs ∧ xs.length ≤ 2560 ∧ (Jvm.Cond.and given_1 narrow_1).before args s = true
def lw_Q (_ : Array Value) (s : State) (o : Outcome) (t : State) : Prop := o = .returned (some (.int 1)) ∧ Framed s o t [] 601024 7293034
def lw_Z (below : List Frame) (a : Array Value) (s : State) : State → Prop := fun t => ∃ o, t.status = .running ∧ Ended t below o ∧ lw_Q a s o t
/-- the law's own end, with 1 on the stack, nothing written that was there before, its room as the claim has it -/
theorem lw_ret {p : Program} {l : Launch} {e : Env} {s : State} {m : MethodId} {below : List Frame} {meth : Method} {c : Code} {b : Nat} (hx : p.tables.exec = Jvm.exec) (hb : c.code = code) (hr : meth.sig.returnType = ret) (hlocks : meth.locks = false) {pc : Nat} {H : Heap} {ls : Array Slot} (hdg : decode code pc = .ok (.ireturn, 1)) : W p l e room_1 s m #[Value.ref b] below meth c H [] 601024 7293034 (lw_Z below #[Value.ref b] s) (F0 m pc ls [.int 1]) := by
  intro T hT X
  obtain ⟨fs, hret, hrun, hended, hW, hframe⟩ := X.leave (v := some (.int 1)) (hlocks := hlocks) (fun h => by rw [hr] at h; cases h)
  have hmeth' : T.vm.method? m = some meth := X.method'
  refine ⟨T.setFrames fs, ?_, .returned (some (.int 1)), hrun, hended, rfl, ⟨_, rfl⟩, hW, hframe⟩
  jvm_step X.here [X.here.top, hx, hb, hdg, hmeth', hr, ret, narrow_b1]
  (try refine ⟨rfl, ?_⟩); (try refine ⟨rfl, ?_⟩)
  first | (intro acts; rw [hret _ acts rfl rfl rfl]) | rw [hret _ _ rfl rfl rfl]
  exact Steps.refl _
/-- what holds at the law's entry: the machine, the code, the tables' words (any of lw_tbl by 'hts w (by decide +kernel)'), the script of L ints xs at the cell b, what the Statement gives of the start (any of its parts by flat_of_before) -/
def lw_At (p : Program) (s : State) (m : MethodId) (meth : Method) (c : Code) (b L : Nat) (xs : Nat → Int32) : Prop :=
  p.tables.exec = Jvm.exec ∧ c.code = code ∧ meth.sig.returnType = ret ∧ c.maxLocals = 7 ∧ s.vm.findClass R_law = some m.cls ∧ (∀ w ∈ lw_tbl, w.before #[Value.ref b] s = true) ∧ va_X b L xs s s.heap ∧ b < s.heap.size ∧ meth.locks = false ∧ (Jvm.Cond.and given_1 narrow_1).before #[Value.ref b] s = true
section LLA
variable {g : pw_G} {p : Program} {e : Env} {s : State} {m : MethodId} {below : List Frame} {meth : Method} {c : Code} {b L : Nat} {xs : Nat → Int32}
theorem sub5_neg : ∀ L, L < 5 → nI L - (5 : Int32) < 0 := by decide
theorem law_go {L i : Nat} (hL : L ≤ 2560) (hi : i < 2 ^ 31) (h : ¬ nI L - (5 : Int32) < nI i) : i + 5 ≤ L := by
  rcases Nat.lt_or_ge L 5 with q | q
  · exact absurd (Int32.lt_of_lt_of_le (sub5_neg L q) (nI_pos' hi)) h
  · rw [show (5 : Int32) = nI 5 from rfl, pk_sub q] at h
    rcases Nat.lt_or_ge (L - 5) i with z | z
    · exact absurd (nI_lt z hi) h
    · omega
/-- one turn of the law's loop after another -/
theorem law_loop (hL : L ≤ 2560) (hr : meth.sig.returnType = ret) (hlocks : meth.locks = false) (hX : va_X b L xs s s.heap) (hbl : b < s.heap.size) (hN : pw_N s) : ∀ (n : Nat) (g : pw_G) (i u : Nat) (σ : pw_Mem), GC g p s m c #[.ref b] RL cL_law 7 → (pw_l g).stackTraces = false → pw_b g = s.heap.size → Inv σ → i ≤ L + 5 → L + 5 < i + n → 5 * u ≤ 25000 + 4 * i →
    GW g p e room_1 s m #[.ref b] below meth c 7 (lw_Z below #[Value.ref b] s) 23 [(0, .ref b), (1, .ref (pw_ad g 0)), (2, .ref (pw_ad g 29)), (3, .ref (pw_ad g 46)), (4, .int (nI i))] [] u σ := by
  intro n
  induction n with
  | zero => intro g i u σ _ _ _ _ h1 h2; omega
  | succ n ih =>
    intro g i u σ C hl9 hb0 hI hi hn hu
    have hbA : ¬ pw_A g b := fun q => by
      have q : pw_b g ≤ b := q
      omega
    refine gw_iload 4 C dL_law_23 rfl ?_
    refine gw_aload_n 0 C dL_law_25 rfl rfl ?_
    refine gw_slen C hX hbl hbA dL_law_26 ?_
    refine gw_iconst (v := 5) C dL_law_27 rfl ?_
    refine gw_isub C dL_law_28 ?_
    refine gw_icmp_gt C dL_law_29 rfl (fun _ => ?_) (fun hgo => ?_)
    · refine gw_iconst (v := 1) C dL_law_929 rfl ?_
      intro H locs ls hl hLW hS
      refine va_forget (fun q hq => ?_) (W.widen (k := 601024) (n := 7293034) (by omega) (by omega) (lw_ret C.1 C.2.1 hr hlocks dL_law_930))
      have q1 : pw_b g ≤ q.base := hS.2.2 q hq
      omega
    · have hgo := law_go hL (by omega) hgo
      have hin : ∀ k : Nat, k < 5 → vp_in (nI i + nI k) L := fun k hk => by rw [nI_add]; exact vp_in_nI (by omega) (by omega)
      have hi0 : vp_in (nI i) L := vp_in_nI (by omega) (by omega)
      have hu9 : u ≤ 19000 := by omega
      have next : ∀ o1 σ1, Inv σ1 → GW (pw_out g o1) p e room_1 s m #[.ref b] below meth c 7 (lw_Z below #[Value.ref b] s) 923 [(0, .ref b), (1, .ref (pw_ad g 0)), (2, .ref (pw_ad g 29)), (3, .ref (pw_ad g 46)), (4, .int (nI i))] [] (u + 4) σ1 := fun o1 σ1 h1 => by
        refine gw_iinc (lv' := [(0, .ref b), (1, .ref (pw_ad g 0)), (2, .ref (pw_ad g 29)), (3, .ref (pw_ad g 46)), (4, .int (nI (i + 5)))]) (v := nI (i + 5)) 4 (C.out o1) dL_law_923 rfl (nI_add i 5) (by decide) rfl ?_
        refine gw_goto (C.out o1) dL_law_926 rfl ?_
        exact ih (pw_out g o1) (i + 5) (u + 4) σ1 (C.out o1) hl9 hb0 h1 (by omega) (by omega) (by omega)
      refine gw_aload_n 0 C dL_law_32 rfl rfl ?_
      refine gw_iload 4 C dL_law_33 rfl ?_
      refine gw_sld C hX hbl hbA dL_law_35 hi0 ?_
      refine gw_bipush (v := 15) C dL_law_36 rfl ?_
      refine gw_iand C dL_law_38 ?_
      obtain ⟨j, hj, ej⟩ := pk_andE (xs (nI i).toNatClampNeg) (m := 15) 4 (by decide)
      rw [ej]
      rcases (show j = 0 ∨ j = 1 ∨ j = 2 ∨ j = 3 ∨ j = 4 ∨ j = 5 ∨ j = 6 ∨ j = 7 ∨ j = 8 ∨ j = 9 ∨ j = 10 ∨ j = 11 ∨ j = 12 ∨ j = 13 ∨ j = 14 ∨ j = 15 by omega) with rfl | rfl | rfl | rfl | rfl | rfl | rfl | rfl | rfl | rfl | rfl | rfl | rfl | rfl | rfl | rfl
      · exact gw_table C dL_law_39 (by decide) (by decide) rfl rfl (L_teach C hl9 hN hI hu9 next hX hbl hbA hin)
      · exact gw_table C dL_law_39 (by decide) (by decide) rfl rfl (L_told C hl9 hN hI hu9 next hX hbl hbA hin)
      · exact gw_table C dL_law_39 (by decide) (by decide) rfl rfl (L_size (L := L) (xs := xs) C hI hu9 next)
      · exact gw_table C dL_law_39 (by decide) (by decide) rfl rfl (L_forget (L := L) (xs := xs) C hI hu9 next)
      · exact gw_table C dL_law_39 (by decide) (by decide) rfl rfl (L_learn (L := L) (xs := xs) C hI hu9 next)
      · exact gw_table C dL_law_39 (by decide) (by decide) rfl rfl (L_states (L := L) (xs := xs) C hI hu9 next)
      · exact gw_table C dL_law_39 (by decide) (by decide) rfl rfl (L_next C hl9 hN hI hu9 next hX hbl hbA hin)
      · exact gw_table C dL_law_39 (by decide) (by decide) rfl rfl (L_sign C hl9 hN hI hu9 next hX hbl hbA hin)
      · exact gw_table C dL_law_39 (by decide) (by decide) rfl rfl (L_accepts C hl9 hN hI hu9 next hX hbl hbA hin)
      · exact gw_table C dL_law_39 (by decide) (by decide) rfl rfl (L_draft C hl9 hN hI hu9 next hX hbl hbA hin)
      · exact gw_table C dL_law_39 (by decide) (by decide) rfl rfl (L_define C hl9 hN hI hu9 next hX hbl hbA hin)
      · exact gw_table C dL_law_39 (by decide) (by decide) rfl rfl (L_least C hl9 hN hI hu9 next hX hbl hbA hin)
      · exact gw_table C dL_law_39 (by decide) (by decide) rfl rfl (L_name C hl9 hN hI hu9 next hX hbl hbA hin)
      · exact gw_table C dL_law_39 (by decide) (by decide) rfl rfl (L_apart C hl9 hN hI hu9 next hX hbl hbA hin)
      · exact gw_table C dL_law_39 (by decide) (by decide) rfl rfl (L_exemplify C hl9 hN hI hu9 next hX hbl hbA hin)
      · exact gw_table C dL_law_39 (by decide) (by decide) rfl rfl (L_same C hl9 hN hI hu9 next hX hbl hbA hin)
end LLA
theorem inv0 : Inv (fun _ _ => 0) := by
  refine ⟨fun _ => 0, 0, 0, fun _ => 0, fun _ => 0, 0, fun _ => false, fun i => i, ⟨⟨fun _ _ _ => rfl, rfl⟩, ⟨fun _ _ _ => rfl, rfl⟩, fun _ => Or.inr (Or.inl rfl)⟩, ⟨⟨rfl, fun k hk => absurd hk (by omega), fun k hk => absurd hk (by omega)⟩, ⟨rfl, fun k hk => absurd hk (by omega), fun k hk => absurd hk (by omega)⟩, by omega, fun k hk => absurd hk (by omega)⟩, ⟨rfl, Or.inl rfl⟩, ⟨rfl, Or.inl rfl⟩⟩
theorem w0_eq (g : pw_G) (q : Nat → Nat) (b0 : Nat) (sa : Nat → Nat) : pw_W ((pw_l g, pw_D g, (pw_cI g, pw_cZ g, pw_cJ g), q, b0, 0, sa) : pw_G) (fun _ _ => 0) = [((q 0), .inr (4, [.ref (q 1), .ref (q 3), .ref (q 13), .ref (q 16)])), ((q 1), .inr (3, [.ref (q 2), .int 0])), ((q 2), .inl (pw_cI g, 512, .inl (fun _ => 0))), ((q 3), .inr (2, [.ref (q 4), .ref (q 5), .ref (q 6), .ref (q 7), .ref (q 8), .int 0, .ref (q 9), .ref (q 10), .int 0, .ref (q 11), .int 0, .ref (q 12), .int 0])), ((q 4), .inl (pw_cI g, 512, .inl (fun _ => 0))), ((q 5), .inl (pw_cI g, 1024, .inl (fun _ => 0))), ((q 6), .inl (pw_cI g, 512, .inl (fun _ => 0))), ((q 7), .inl (pw_cI g, 512, .inl (fun _ => 0))), ((q 8), .inl (pw_cI g, 512, .inl (fun _ => 0))), ((q 9), .inl (pw_cI g, 512, .inl (fun _ => 0))), ((q 10), .inl (pw_cI g, 512, .inl (fun _ => 0))), ((q 11), .inl (pw_cI g, 512, .inl (fun _ => 0))), ((q 12), .inl (pw_cI g, 512, .inl (fun _ => 0))), ((q 13), .inr (0, [.ref (q 14), .ref (q 15), .int 0])), ((q 14), .inl (pw_cI g, 512, .inl (fun _ => 0))), ((q 15), .inl (pw_cI g, 1024, .inl (fun _ => 0))), ((q 16), .inr (1, [.ref (q 17), .ref (q 20), .ref (q 23), .ref (q 24), .ref (q 25), .ref (q 26), .ref (q 27), .ref (q 28)])), ((q 17), .inr (0, [.ref (q 18), .ref (q 19), .int 0])), ((q 18), .inl (pw_cI g, 5, .inl (fun _ => 0))), ((q 19), .inl (pw_cI g, 10, .inl (fun _ => 0))), ((q 20), .inr (0, [.ref (q 21), .ref (q 22), .int 0])), ((q 21), .inl (pw_cI g, 5, .inl (fun _ => 0))), ((q 22), .inl (pw_cI g, 10, .inl (fun _ => 0))), ((q 23), .inl (pw_cI g, 25, .inl (fun _ => 0))), ((q 24), .inl (pw_cI g, 5, .inl (fun _ => 0))), ((q 25), .inl (pw_cI g, 5, .inl (fun _ => 0))), ((q 26), .inl (pw_cI g, 5, .inl (fun _ => 0))), ((q 27), .inl (pw_cI g, 5, .inl (fun _ => 0))), ((q 28), .inl (pw_cI g, 512, .inl (fun _ => 0))), ((q 29), .inr (5, [.int 0, .int 0, .ref (q 30), .ref (q 31), .ref (q 32), .ref (q 33), .ref (q 34), .ref (q 35), .ref (q 36), .int 0, .ref (q 37), .ref (q 38), .int 0, .int 0, .int 0, .ref (q 39), .ref (q 40), .int 0, .ref (q 41), .ref (q 42), .int 0, .ref (q 43), .ref (q 44), .ref (q 45), .int 0, .int 0])), ((q 30), .inl (pw_cI g, 511, .inl (fun _ => 0))), ((q 31), .inl (pw_cZ g, 511, .inl (fun _ => 0))), ((q 32), .inl (pw_cI g, 511, .inl (fun _ => 0))), ((q 33), .inl (pw_cI g, 511, .inl (fun _ => 0))), ((q 34), .inl (pw_cI g, 511, .inl (fun _ => 0))), ((q 35), .inl (pw_cI g, 511, .inl (fun _ => 0))), ((q 36), .inl (pw_cI g, 1022, .inl (fun _ => 0))), ((q 37), .inl (pw_cI g, 511, .inl (fun _ => 0))), ((q 38), .inl (pw_cI g, 511, .inl (fun _ => 0))), ((q 39), .inl (pw_cI g, 1022, .inl (fun _ => 0))), ((q 40), .inl (pw_cI g, 511, .inl (fun _ => 0))), ((q 41), .inl (pw_cZ g, 5, .inl (fun _ => 0))), ((q 42), .inl (pw_cI g, 10, .inl (fun _ => 0))), ((q 43), .inl (pw_cI g, 5, .inl (fun _ => 0))), ((q 44), .inl (pw_cI g, 5, .inl (fun _ => 0))), ((q 45), .inl (pw_cZ g, 511, .inl (fun _ => 0))), ((q 46), .inl (pw_cJ g, 1, .inr (.inl (fun _ => 0))))] := rfl
/-- the law's first rows: both systems are made; then it goes on with all cells in their places -/
theorem law_make {g : pw_G} {p : Program} {e : Env} {s : State} {m : MethodId} {below : List Frame} {meth : Method} {c : Code} {b : Nat} {Z : State → Prop} (C : IC g p s m meth c #[.ref b] RL cL_law 7)
    (k : ∀ ad : Nat → Nat, GW ((pw_l g, pw_D g, (pw_cI g, pw_cZ g, pw_cJ g), ad, pw_b g, 0, pw_sa g) : pw_G) p e room_1 s m #[.ref b] below meth c 7 Z 20 [(0, .ref b), (1, .ref (ad 0)), (2, .ref (ad 29)), (3, .ref (ad 46))] [] 5000 (fun _ _ => 0)) :
    IW g p e room_1 s m #[.ref b] below meth c 7 Z [] 0 [(0, .ref b)] [] 0 0 [] := by
  refine iw_new (ci := 4) (Cn := RX4) (T := TX4) (N := 4) (fs := [.null, .null, .null, .null]) tyX4 tyX4_ok C rfl (pw_tb 14 (by decide +kernel) (by decide +kernel)) is_X4 it_X4 hf_X4 (Nat.le_of_ble_eq_true rfl) (Nat.le_of_ble_eq_true rfl) dL_law_0 (fun q0 => ?_)
  refine iw_dup C dL_law_3 rfl ?_
  show IW g p e room_1 s m #[.ref b] below meth c 7 _ [] 4 _ _ _ _ ([] ++ [(q0, .inr (4, [.null, .null, .null, .null]))])
  refine iw_callI (rest := [.ref q0]) C (i_X4 g _ q0) rfl (pw_tb 16 (by decide +kernel) (by decide +kernel)) in_X4_init it_X4 co_X4_init de_X4_init ⟨Nat.le_of_ble_eq_true rfl, Nat.le_of_ble_eq_true rfl⟩ rfl (Nat.le_of_ble_eq_true rfl) rfl ⟨Nat.le_of_ble_eq_true rfl, Nat.le_of_ble_eq_true rfl⟩ dL_law_4 (fun w1 hw => ?_)
  obtain ⟨q1, q2, q3, q4, q5, q6, q7, q8, q9, q10, q11, q12, q13, q14, q15, q16, q17, q18, q19, q20, q21, q22, q23, q24, q25, q26, q27, q28, rfl⟩ := hw
  show IW g p e room_1 s m #[.ref b] below meth c 7 _ [] 7 _ _ _ _ [(q0, .inr (4, [.ref q1, .ref q3, .ref q13, .ref q16])), (q1, .inr (3, [.ref q2, .int 0])), (q2, .inl (pw_cI g, 512, .inl (fun _ => 0))), (q3, .inr (2, [.ref q4, .ref q5, .ref q6, .ref q7, .ref q8, .int 0, .ref q9, .ref q10, .int 0, .ref q11, .int 0, .ref q12, .int 0])), (q4, .inl (pw_cI g, 512, .inl (fun _ => 0))), (q5, .inl (pw_cI g, 1024, .inl (fun _ => 0))), (q6, .inl (pw_cI g, 512, .inl (fun _ => 0))), (q7, .inl (pw_cI g, 512, .inl (fun _ => 0))), (q8, .inl (pw_cI g, 512, .inl (fun _ => 0))), (q9, .inl (pw_cI g, 512, .inl (fun _ => 0))), (q10, .inl (pw_cI g, 512, .inl (fun _ => 0))), (q11, .inl (pw_cI g, 512, .inl (fun _ => 0))), (q12, .inl (pw_cI g, 512, .inl (fun _ => 0))), (q13, .inr (0, [.ref q14, .ref q15, .int 0])), (q14, .inl (pw_cI g, 512, .inl (fun _ => 0))), (q15, .inl (pw_cI g, 1024, .inl (fun _ => 0))), (q16, .inr (1, [.ref q17, .ref q20, .ref q23, .ref q24, .ref q25, .ref q26, .ref q27, .ref q28])), (q17, .inr (0, [.ref q18, .ref q19, .int 0])), (q18, .inl (pw_cI g, 5, .inl (fun _ => 0))), (q19, .inl (pw_cI g, 10, .inl (fun _ => 0))), (q20, .inr (0, [.ref q21, .ref q22, .int 0])), (q21, .inl (pw_cI g, 5, .inl (fun _ => 0))), (q22, .inl (pw_cI g, 10, .inl (fun _ => 0))), (q23, .inl (pw_cI g, 25, .inl (fun _ => 0))), (q24, .inl (pw_cI g, 5, .inl (fun _ => 0))), (q25, .inl (pw_cI g, 5, .inl (fun _ => 0))), (q26, .inl (pw_cI g, 5, .inl (fun _ => 0))), (q27, .inl (pw_cI g, 5, .inl (fun _ => 0))), (q28, .inl (pw_cI g, 512, .inl (fun _ => 0)))]
  refine iw_astore_n (lv' := [(0, .ref b), (1, .ref q0)]) C dL_law_7 rfl (by decide) rfl ?_
  refine iw_new (ci := 5) (Cn := RX5) (T := TX5) (N := 26) (fs := [.int 0, .int 0, .null, .null, .null, .null, .null, .null, .null, .int 0, .null, .null, .int 0, .int 0, .int 0, .null, .null, .int 0, .null, .null, .int 0, .null, .null, .null, .int 0, .int 0]) tyX5 tyX5_ok C rfl (pw_tb 559 (by decide +kernel) (by decide +kernel)) is_X5 it_X5 hf_X5 (Nat.le_of_ble_eq_true rfl) (Nat.le_of_ble_eq_true rfl) dL_law_8 (fun q29 => ?_)
  refine iw_dup C dL_law_11 rfl ?_
  show IW g p e room_1 s m #[.ref b] below meth c 7 _ [] 12 _ _ _ _ ([(q0, .inr (4, [.ref q1, .ref q3, .ref q13, .ref q16])), (q1, .inr (3, [.ref q2, .int 0])), (q2, .inl (pw_cI g, 512, .inl (fun _ => 0))), (q3, .inr (2, [.ref q4, .ref q5, .ref q6, .ref q7, .ref q8, .int 0, .ref q9, .ref q10, .int 0, .ref q11, .int 0, .ref q12, .int 0])), (q4, .inl (pw_cI g, 512, .inl (fun _ => 0))), (q5, .inl (pw_cI g, 1024, .inl (fun _ => 0))), (q6, .inl (pw_cI g, 512, .inl (fun _ => 0))), (q7, .inl (pw_cI g, 512, .inl (fun _ => 0))), (q8, .inl (pw_cI g, 512, .inl (fun _ => 0))), (q9, .inl (pw_cI g, 512, .inl (fun _ => 0))), (q10, .inl (pw_cI g, 512, .inl (fun _ => 0))), (q11, .inl (pw_cI g, 512, .inl (fun _ => 0))), (q12, .inl (pw_cI g, 512, .inl (fun _ => 0))), (q13, .inr (0, [.ref q14, .ref q15, .int 0])), (q14, .inl (pw_cI g, 512, .inl (fun _ => 0))), (q15, .inl (pw_cI g, 1024, .inl (fun _ => 0))), (q16, .inr (1, [.ref q17, .ref q20, .ref q23, .ref q24, .ref q25, .ref q26, .ref q27, .ref q28])), (q17, .inr (0, [.ref q18, .ref q19, .int 0])), (q18, .inl (pw_cI g, 5, .inl (fun _ => 0))), (q19, .inl (pw_cI g, 10, .inl (fun _ => 0))), (q20, .inr (0, [.ref q21, .ref q22, .int 0])), (q21, .inl (pw_cI g, 5, .inl (fun _ => 0))), (q22, .inl (pw_cI g, 10, .inl (fun _ => 0))), (q23, .inl (pw_cI g, 25, .inl (fun _ => 0))), (q24, .inl (pw_cI g, 5, .inl (fun _ => 0))), (q25, .inl (pw_cI g, 5, .inl (fun _ => 0))), (q26, .inl (pw_cI g, 5, .inl (fun _ => 0))), (q27, .inl (pw_cI g, 5, .inl (fun _ => 0))), (q28, .inl (pw_cI g, 512, .inl (fun _ => 0)))] ++ [(q29, .inr (5, [.int 0, .int 0, .null, .null, .null, .null, .null, .null, .null, .int 0, .null, .null, .int 0, .int 0, .int 0, .null, .null, .int 0, .null, .null, .int 0, .null, .null, .null, .int 0, .int 0]))])
  refine iw_callI (rest := [.ref q29]) C (i_X5 g _ q29) rfl (pw_tb 561 (by decide +kernel) (by decide +kernel)) in_X5_init it_X5 co_X5_init de_X5_init ⟨Nat.le_of_ble_eq_true rfl, Nat.le_of_ble_eq_true rfl⟩ rfl (Nat.le_of_ble_eq_true rfl) rfl ⟨Nat.le_of_ble_eq_true rfl, Nat.le_of_ble_eq_true rfl⟩ dL_law_12 (fun w1 hw => ?_)
  obtain ⟨q30, q31, q32, q33, q34, q35, q36, q37, q38, q39, q40, q41, q42, q43, q44, q45, rfl⟩ := hw
  show IW g p e room_1 s m #[.ref b] below meth c 7 _ [] 15 _ _ _ _ [(q0, .inr (4, [.ref q1, .ref q3, .ref q13, .ref q16])), (q1, .inr (3, [.ref q2, .int 0])), (q2, .inl (pw_cI g, 512, .inl (fun _ => 0))), (q3, .inr (2, [.ref q4, .ref q5, .ref q6, .ref q7, .ref q8, .int 0, .ref q9, .ref q10, .int 0, .ref q11, .int 0, .ref q12, .int 0])), (q4, .inl (pw_cI g, 512, .inl (fun _ => 0))), (q5, .inl (pw_cI g, 1024, .inl (fun _ => 0))), (q6, .inl (pw_cI g, 512, .inl (fun _ => 0))), (q7, .inl (pw_cI g, 512, .inl (fun _ => 0))), (q8, .inl (pw_cI g, 512, .inl (fun _ => 0))), (q9, .inl (pw_cI g, 512, .inl (fun _ => 0))), (q10, .inl (pw_cI g, 512, .inl (fun _ => 0))), (q11, .inl (pw_cI g, 512, .inl (fun _ => 0))), (q12, .inl (pw_cI g, 512, .inl (fun _ => 0))), (q13, .inr (0, [.ref q14, .ref q15, .int 0])), (q14, .inl (pw_cI g, 512, .inl (fun _ => 0))), (q15, .inl (pw_cI g, 1024, .inl (fun _ => 0))), (q16, .inr (1, [.ref q17, .ref q20, .ref q23, .ref q24, .ref q25, .ref q26, .ref q27, .ref q28])), (q17, .inr (0, [.ref q18, .ref q19, .int 0])), (q18, .inl (pw_cI g, 5, .inl (fun _ => 0))), (q19, .inl (pw_cI g, 10, .inl (fun _ => 0))), (q20, .inr (0, [.ref q21, .ref q22, .int 0])), (q21, .inl (pw_cI g, 5, .inl (fun _ => 0))), (q22, .inl (pw_cI g, 10, .inl (fun _ => 0))), (q23, .inl (pw_cI g, 25, .inl (fun _ => 0))), (q24, .inl (pw_cI g, 5, .inl (fun _ => 0))), (q25, .inl (pw_cI g, 5, .inl (fun _ => 0))), (q26, .inl (pw_cI g, 5, .inl (fun _ => 0))), (q27, .inl (pw_cI g, 5, .inl (fun _ => 0))), (q28, .inl (pw_cI g, 512, .inl (fun _ => 0))), (q29, .inr (5, [.int 0, .int 0, .ref q30, .ref q31, .ref q32, .ref q33, .ref q34, .ref q35, .ref q36, .int 0, .ref q37, .ref q38, .int 0, .int 0, .int 0, .ref q39, .ref q40, .int 0, .ref q41, .ref q42, .int 0, .ref q43, .ref q44, .ref q45, .int 0, .int 0])), (q30, .inl (pw_cI g, 511, .inl (fun _ => 0))), (q31, .inl (pw_cZ g, 511, .inl (fun _ => 0))), (q32, .inl (pw_cI g, 511, .inl (fun _ => 0))), (q33, .inl (pw_cI g, 511, .inl (fun _ => 0))), (q34, .inl (pw_cI g, 511, .inl (fun _ => 0))), (q35, .inl (pw_cI g, 511, .inl (fun _ => 0))), (q36, .inl (pw_cI g, 1022, .inl (fun _ => 0))), (q37, .inl (pw_cI g, 511, .inl (fun _ => 0))), (q38, .inl (pw_cI g, 511, .inl (fun _ => 0))), (q39, .inl (pw_cI g, 1022, .inl (fun _ => 0))), (q40, .inl (pw_cI g, 511, .inl (fun _ => 0))), (q41, .inl (pw_cZ g, 5, .inl (fun _ => 0))), (q42, .inl (pw_cI g, 10, .inl (fun _ => 0))), (q43, .inl (pw_cI g, 5, .inl (fun _ => 0))), (q44, .inl (pw_cI g, 5, .inl (fun _ => 0))), (q45, .inl (pw_cZ g, 511, .inl (fun _ => 0)))]
  refine iw_astore_n (lv' := [(0, .ref b), (1, .ref q0), (2, .ref q29)]) C dL_law_15 rfl (by decide) rfl ?_
  refine iw_iconst (v := 1) C dL_law_16 rfl ?_
  refine iw_newJ (N' := 1) C (by decide) rfl (Nat.le_of_ble_eq_true rfl) (Nat.le_of_ble_eq_true rfl) (Nat.le_of_ble_eq_true rfl) dL_law_17 (fun q46 => ?_)
  refine iw_astore_n (lv' := [(0, .ref b), (1, .ref q0), (2, .ref q29), (3, .ref q46)]) C dL_law_19 rfl (by decide) rfl ?_
  intro H locs ls hl hP hD hS
  refine W.widen (k := 5000) (n := 6 * 5000) (Nat.le_of_ble_eq_true rfl) (Nat.le_of_ble_eq_true rfl) ?_
  have e0 := w0_eq g (fun k => [q0, q1, q2, q3, q4, q5, q6, q7, q8, q9, q10, q11, q12, q13, q14, q15, q16, q17, q18, q19, q20, q21, q22, q23, q24, q25, q26, q27, q28, q29, q30, q31, q32, q33, q34, q35, q36, q37, q38, q39, q40, q41, q42, q43, q44, q45, q46].getD k 0) (pw_b g) (pw_sa g)
  refine k (fun k => [q0, q1, q2, q3, q4, q5, q6, q7, q8, q9, q10, q11, q12, q13, q14, q15, q16, q17, q18, q19, q20, q21, q22, q23, q24, q25, q26, q27, q28, q29, q30, q31, q32, q33, q34, q35, q36, q37, q38, q39, q40, q41, q42, q43, q44, q45, q46].getD k 0) H locs ls hl ⟨?_, ?_⟩ hS
  · show va_P (pw_D g) vwCl (pw_W _ _) H
    rw [e0]; exact hP
  · show va_D (pw_A g) (pw_W _ _)
    rw [e0]; exact hD
