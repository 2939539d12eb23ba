/-! the start, the claim -/
theorem lt_tb (i : Nat) {w : Cond} (h : tables_1[i]? = some w) : w ∈ lw_tbl := List.mem_append_right _ (List.mem_of_getElem? h)
set_option maxHeartbeats 4000000 in
theorem whole_start {p : Program} {e : Env} {s : State} {m : MethodId} {below : List Frame} {meth : Method} {c : Code} (l : Launch) (hl9 : l.stackTraces = false) {b L : Nat} {xs : Nat → Int32} (hL : L ≤ 2560) (C0 : lw_At p s m meth c b L xs) : W p l e room_1 s m #[Value.ref b] below meth c s.heap [] 0 0 (lw_Z below #[Value.ref b] s) (entryFrame m ([Value.ref b] : List Value).toArray 7) := by
  obtain ⟨hx, hb, hr, hml, hown, hts, hX, hbl, hlocks, hgv⟩ := id C0
  have htw : ∀ w ∈ pw_ws, w.before #[Value.ref b] s = true := fun w hw => hts w (List.mem_filter.mp hw).1
  have hfl := flat_of_before _ hgv
  obtain ⟨c0, i0, k0⟩ := u_known (C := RX0) (T := TX0) (N := 3) (n := 3) htw pw_in0 (htw _ is_X0)
  obtain ⟨c1, i1, k1⟩ := u_known (C := RX1) (T := TX1) (N := 8) (n := 8) htw pw_in1 (htw _ is_X1)
  obtain ⟨c2, i2, k2⟩ := u_known (C := RX2) (T := TX2) (N := 13) (n := 13) htw pw_in2 (htw _ is_X2)
  obtain ⟨c3, i3, k3⟩ := u_known (C := RX3) (T := TX3) (N := 2) (n := 2) htw pw_in3 (htw _ is_X3)
  obtain ⟨c4, i4, k4⟩ := u_known (C := RX4) (T := TX4) (N := 4) (n := 4) htw pw_in4 (htw _ is_X4)
  obtain ⟨c5, i5, k5⟩ := u_known (C := RX5) (T := TX5) (N := 26) (n := 26) htw pw_in5 (htw _ is_X5)
  obtain ⟨D, hKc⟩ : ∃ D : va_G, ∀ (k : Nat) (q : vw_C), vwCl[k]? = some q → u_Kn s q.1 q.2.1 q.2.2 (D.1 k) (D.2 k) := by
    refine ⟨(fun k => if k = 0 then c0 else if k = 1 then c1 else if k = 2 then c2 else if k = 3 then c3 else if k = 4 then c4 else c5, fun k => if k = 0 then i0 else if k = 1 then i1 else if k = 2 then i2 else if k = 3 then i3 else if k = 4 then i4 else i5), ?_⟩
    intro k q hq
    match k, hq with
    | 0, hq => cases hq; exact k0
    | 1, hq => cases hq; exact k1
    | 2, hq => cases hq; exact k2
    | 3, hq => cases hq; exact k3
    | 4, hq => cases hq; exact k4
    | 5, hq => cases hq; exact k5
    | k + 6, hq => simp [vwCl] at hq
  obtain ⟨cI, yI, zI, aI, bI, dI⟩ := Cond.arrayClass_spec (htw _ arr_I)
  obtain ⟨cZ, yZ, zZ, aZ, bZ, dZ⟩ := Cond.arrayClass_spec (htw _ arr_Z)
  obtain ⟨cJ, yJ, zJ, aJ, bJ, dJ⟩ := Cond.arrayClass_spec (htw _ arr_J)
  have hK : va_K D vwCl [(cI, .int), (cZ, .boolean), (cJ, .long)] s := by
    refine ⟨hKc, fun k q hq => ?_⟩
    match k, hq with
    | 0, hq => cases hq; exact ⟨fun n z => ⟨fun k h => (by cases h), yI, bI, zI, dI⟩, aI⟩
    | 1, hq => cases hq; exact ⟨fun n z => ⟨fun k h => (by cases h), yZ, bZ, zZ, dZ⟩, aZ⟩
    | 2, hq => cases hq; exact ⟨fun n z => ⟨fun k h => (by cases h), yJ, bJ, zJ, dJ⟩, aJ⟩
    | k + 3, hq => simp at hq
  obtain ⟨s1, -, -, -, e1, -⟩ := Cond.exactly_spec (hfl (.exactly (.string "WordClassLearner" 148) "java/lang/String") (by decide +kernel))
  obtain ⟨s2, -, -, -, e2, -⟩ := Cond.exactly_spec (hfl (.exactly (.string "WordClassLearner" 49) "java/lang/String") (by decide +kernel))
  obtain ⟨s3, -, -, -, e3, -⟩ := Cond.exactly_spec (hfl (.exactly (.string "WordClassLearner" 146) "java/lang/String") (by decide +kernel))
  obtain ⟨s4, -, -, -, e4, -⟩ := Cond.exactly_spec (hfl (.exactly (.string "WordClassLearner" 76) "java/lang/String") (by decide +kernel))
  obtain ⟨s5, -, -, -, e5, -⟩ := Cond.exactly_spec (hfl (.exactly (.string "WordClassLearner" 138) "java/lang/String") (by decide +kernel))
  obtain ⟨s6, -, -, -, e6, -⟩ := Cond.exactly_spec (hfl (.exactly (.string "WordClassLearner" 91) "java/lang/String") (by decide +kernel))
  obtain ⟨s7, -, -, -, e7, -⟩ := Cond.exactly_spec (hfl (.exactly (.string "WordClassLearner" 140) "java/lang/String") (by decide +kernel))
  obtain ⟨s8, -, -, -, e8, -⟩ := Cond.exactly_spec (hfl (.exactly (.string "WordClassLearner" 128) "java/lang/String") (by decide +kernel))
  have hNA : ∀ a : Nat, a < s.heap.size → ¬ s.heap.size ≤ a := fun a ha h => absurd h (Nat.not_le.mpr ha)
  have hxw : ∀ w ∈ pw_xw, va_Nw w s := by
    intro w hw
    refine va_Nw.of (A := #[Value.ref b]) (pw_xw_on w hw) ?_
    simp only [pw_xw, List.mem_cons, List.not_mem_nil, or_false] at hw
    rcases hw with rfl | rfl | rfl | rfl | rfl | rfl
    · exact hts _ (lt_tb 256 (by decide +kernel))
    · exact hts _ (lt_tb 258 (by decide +kernel))
    · exact hts _ (lt_tb 260 (by decide +kernel))
    · exact hts _ (lt_tb 254 (by decide +kernel))
    · exact hts _ (lt_tb 323 (by decide +kernel))
    · exact hts _ (lt_tb 409 (by decide +kernel))
  obtain ⟨sa, hsa⟩ : ∃ sa : Nat → Nat, ∀ q ∈ pw_strs, vk_R RX4 q.1 q.2 (sa q.1) s := by
    refine ⟨fun k => if k = 148 then s1 else if k = 49 then s2 else if k = 146 then s3 else if k = 76 then s4 else if k = 138 then s5 else if k = 91 then s6 else if k = 140 then s7 else s8, ?_⟩
    intro q hq
    simp only [pw_strs, List.mem_cons, List.not_mem_nil, or_false] at hq
    rcases hq with rfl | rfl | rfl | rfl | rfl | rfl | rfl | rfl
    · exact vk_R.of (A := #[Value.ref b]) (hts _ (lt_tb 293 (by decide +kernel))) e1
    · exact vk_R.of (A := #[Value.ref b]) (hts _ (lt_tb 330 (by decide +kernel))) e2
    · exact vk_R.of (A := #[Value.ref b]) (hts _ (lt_tb 362 (by decide +kernel))) e3
    · exact vk_R.of (A := #[Value.ref b]) (hts _ (lt_tb 363 (by decide +kernel))) e4
    · exact vk_R.of (A := #[Value.ref b]) (hts _ (lt_tb 390 (by decide +kernel))) e5
    · exact vk_R.of (A := #[Value.ref b]) (hts _ (lt_tb 416 (by decide +kernel))) e6
    · exact vk_R.of (A := #[Value.ref b]) (hts _ (lt_tb 473 (by decide +kernel))) e7
    · exact vk_R.of (A := #[Value.ref b]) (hts _ (lt_tb 542 (by decide +kernel))) e8
  have hPX : ∀ ad : Nat → Nat, pw_K ((l, D, (cI, cZ, cJ), ad, s.heap.size, 0, sa) : pw_G) s := fun ad => ⟨hK, ⟨va_Nw.of rfl (hts _ (lt_tb 395 (by decide +kernel))), va_Nw.of rfl (hts _ (lt_tb 535 (by decide +kernel))), vx_Zqof (hts _ (lt_tb 279 (by decide +kernel))) (hts _ (lt_tb 7 (by decide +kernel))) (hfl (.isRef (.static "java/lang/Throwable" "UNASSIGNED_STACK" "[Ljava/lang/StackTraceElement;")) (by decide +kernel)) hNA, vx_Zqof (hts _ (lt_tb 281 (by decide +kernel))) (hts _ (lt_tb 7 (by decide +kernel))) (hfl (.isRef (.static "java/lang/Throwable" "SUPPRESSED_SENTINEL" "Ljava/util/List;")) (by decide +kernel)) hNA, hsa, hxw⟩, Nat.le_refl _⟩
  have hKI : KI ((l, D, (cI, cZ, cJ), fun _ => 0, s.heap.size, 0, sa) : pw_G) s := ⟨hK, Nat.le_refl _, va_Nw.of rfl (hts _ (lt_tb 24 (by decide +kernel))), va_Nw.of rfl (hts _ (lt_tb 38 (by decide +kernel))), va_Nw.of rfl (hts _ (lt_tb 100 (by decide +kernel)))⟩
  have hN : pw_N s := ⟨va_Nc.of (hfl (.not (.castable E_S E_I)) (by decide +kernel)), va_Nc.of (hfl (.not (.castable E_I E_S)) (by decide +kernel)), va_Nc.of (hfl (.not (.castable E_A E_S)) (by decide +kernel))⟩
  have hl := lv_entry ([.ref b]) (n := 7) (Nat.le_of_ble_eq_true rfl)
  rw [lg_entry_eq]
  have C : IC ((l, D, (cI, cZ, cJ), fun _ => 0, s.heap.size, 0, sa) : pw_G) p s m meth c #[.ref b] RL cL_law 7 := ⟨hx, hb, hml, hown, htw, hKI⟩
  refine law_make C (fun ad => ?_) s.heap [] _ hl (fun k q h => by simp at h) ⟨fun i j p q h => by simp at h, fun k q h => by simp at h⟩ va_S.rf
  have C1 : GC ((l, D, (cI, cZ, cJ), ad, s.heap.size, 0, sa) : pw_G) p s m c #[.ref b] RL cL_law 7 := ⟨hx, hb, hml, hown, htw, hPX ad⟩
  refine gw_iconst (v := 0) C1 dL_law_20 rfl ?_
  refine gw_istore (lv' := [(0, .ref b), (1, .ref (ad 0)), (2, .ref (ad 29)), (3, .ref (ad 46)), (4, .int (nI 0))]) C1 dL_law_21 (by decide) rfl ?_
  exact law_loop hL hr hlocks hX hbl hN (L + 6) _ 0 5000 _ C1 hl9 rfl inv0 (by omega) (by omega) (by omega)
set_option maxHeartbeats 4000000 in
theorem lw_walk (l : Launch) (hl9 : l.stackTraces = false) (b : Addr) (xs : List Int32) : MetFree l x (headSpec (Jvm.Cond.code x code maxLocals ret :: tables_1) room_1) (lw_P b xs) (fun _ _ _ _ _ => True) lw_Q := by
  refine MetFree.of_bodyS (code := code) (maxLocals := maxLocals) (ret := ret) (by decide) ?_ ?_
  · intro args s m h hn
    obtain ⟨meth, c, h1, h2, h3, h4, h5, h6, -, -⟩ := Cond.code_spec hn (atoms_spec (ws := Jvm.Cond.code x code maxLocals ret :: tables_1) h _ List.mem_cons_self)
    exact ⟨meth, c, h1, h2, h3, h4, h5, h6⟩
  · intro p e s m args below meth c s₁ B hml0 hP _
    obtain ⟨rfl, hx, hbd, hgv⟩ := hP
    obtain ⟨scr, harrAt, hlist, hof, hsmall⟩ := hx
    obtain ⟨hcb, hkn, -, -⟩ := State.arrayAt?_spec harrAt
    have hown : s.vm.findClass R_law = some m.cls := findClass_of_methodNamed B.named
    have hts0 : ∀ c ∈ (Jvm.Cond.code x code maxLocals ret :: tables_1), c.before #[Value.ref b] s = true := atoms_spec (ws := Jvm.Cond.code x code maxLocals ret :: tables_1) B.pre
    have hts : ∀ w ∈ lw_tbl, w.before #[Value.ref b] s = true := k2_hts_sels lw_privs (fun w hw => hts0 w (List.mem_cons_of_mem _ hw)) lw_privs_ok
    have hml : c.maxLocals = 7 := B.maxLocals_eq (hts0 _ List.mem_cons_self)
    have X₀ : Stand p l e room_1 s m #[Value.ref b] below meth c s₁ [] 0 0 := Stand.of_body B
    have hh0 : s₁.heap = s.heap := by rw [B.state]; rfl
    have hsz : scr.slots.size = xs.length := by rw [← Array.length_toList, hlist, List.length_map]
    have hval : ∀ j : Nat, j < xs.length → scr.slots[j]? = some (.int (xs.getD j 0)) := fun j hj => by
      rw [← Array.getElem?_toList, hlist]
      simp [hj]
    have hbl : b < s.heap.size := (Array.getElem?_eq_some_iff.mp hcb).1
    have hX : va_X b xs.length (fun j => xs.getD j 0) s s.heap := ⟨scr, hcb, hof, hkn, hsz, hval⟩
    have K : W p l e room_1 s m #[Value.ref b] below meth c s₁.heap [] 0 0 (lw_Z below #[Value.ref b] s) (entryFrame m ([Value.ref b] : List Value).toArray 7) := by
      rw [hh0]
      exact whole_start l hl9 hbd ⟨B.exec, B.bytes, B.returns, hml, hown, hts, hX, hbl, B.notSynchronized, hgv⟩
    obtain ⟨t, a1, o, b1, b2, b3⟩ := K s₁ rfl X₀
    exact ⟨t, o, a1, b1, b2, b3⟩
theorem lw_pre_spec {args : Array Value} {s : State} (h : (Jvm.Cond.and given_1 narrow_1).before args s = true) (hr : rest_1_c.before args s = true) : ∃ (b : Addr) (xs : List Int32), lw_P b xs args s := by
  have hs := flat_of_before _ h
  have hq := flat_of_before _ hr
  have hc : (Cond.count 1).before args s = true := hs _ (by decide +kernel)
  have harr : (Cond.arrayOf (.arg 0) .int).before args s = true := hs _ (by decide +kernel)
  have hle : (Cond.le (.length (.arg 0)) (.int 2560)).before args s = true := hs _ (by decide +kernel)
  have hlen : (Cond.isInt (.length (.arg 0))).before args s = true := hq _ (by decide +kernel)
  have hall : (Cond.all (.arg 0) (.isInt (.elem (.arg 0) (.index 0)))).before args s = true := hq _ (by decide +kernel)
  obtain ⟨b, xs, hb, hx⟩ := State.ints_of_pre rfl harr hlen hall
  have hsm : xs.length < 2 ^ 31 := hx.choose_spec.2.2.2
  have hev : (Term.length (.arg 0)).eval args s none [] s = some (.int xs.length.toInt32) := hx.length_eval hb
  have hv := Cond.le_ints hev (show (Term.int 2560).eval args s none [] s = some (.int 2560) from rfl)
  have hd : xs.length.toInt32 ≤ 2560 := by
    simpa [Cond.before, Cond.holds, hv] using hle
  have hN : xs.length ≤ 2560 := (Int32.ofNat_le_ofNat hsm (by decide)).mp (show Int32.ofNat xs.length ≤ Int32.ofNat 2560 from hd)
  exact ⟨b, xs, Cond.one_arg hc (show args[0]? = some (.ref b) from hb), hx, hN, h⟩
theorem lw_comes (l : Launch) (hl9 : l.stackTraces = false) : Comes l x (Jvm.Cond.code x code maxLocals ret :: tables_1) room_1 (fun tb e args s => Calls_1 tb e args s ∧ rest_1 tb e args s ∧ Pre_1 tb e args s)
    (fun _ _ args s o t => lw_Q args s o t) := by
  intro p e ha hc hk s m args below hf hfit hheap happ hpre
  obtain ⟨b, xs, hP⟩ := lw_pre_spec hpre.2.2 hpre.2.1
  obtain ⟨k, o, h1, h2, h3, hQ⟩ := lw_walk l hl9 b xs p e ha hc hk s m args below hf ((Spec.applies_iff_loose hf).mp happ).1 hP trivial
  exact ⟨k, o, h1, h2, h3, hQ⟩
theorem lw_frame {s t : State} {o : Outcome} {args : Array Value} (h : Framed s o t [] 601024 7293034) :
    Framed s o t (fieldLocs frame_1_writes args s ++ arrayLocs frame_1_arrays args s ++ staticLocs frame_1_statics s) 601024 7293034 := h
theorem lw_limb (L : Cond) (hL : ∀ (args : Array Value) (s t : State), L.after args s (.returned (some (.int 1))) t = true) :
    ArmFor flags0 classFile x code maxLocals ret World_1 tables_1 room_1 Calls_1 rest_1 Pre_1
      (fun tb e a s o t => postC L tb e a s o t ∧ Framed s o t (fieldLocs frame_1_writes a s ++ arrayLocs frame_1_arrays a s ++ staticLocs frame_1_statics s) 601024 7293034) := by
  intro l hfl _ _ p e ha hc hk s m args below hf hfit hheap happ hpre
  have hl9 : l.stackTraces = false := by
    unfold Launch.stackTraces
    rw [hfl]
    decide +kernel
  obtain ⟨k, o, h1, h2, h3, rfl, hF⟩ := lw_comes l hl9 p e ha hc hk s m args below hf hfit hheap happ hpre
  exact ⟨k, _, h1, h2, h3, hL args s _, lw_frame hF⟩
theorem i_vc : Claimed_1_1 ∧ Claimed_1_2 := ⟨lw_limb limb_1_1 (fun args s t => by simp [limb_1_1, Cond.after, Cond.holds, Cond.value]), lw_limb limb_1_2 (fun args s t => Cond.after_iff.mpr (by
  first | (rw [show limb_1_2 = Cond.eq .result (.int 1) from rfl, Cond.eq_ints (x := 1) (y := 1) rfl rfl]; simp; done) | (simp [limb_1_2, Cond.value, Term.eval]; done)))⟩
