/-! the sixteen cases of the law's switch (the cases are written by wip/gen/lawops.py) -/
theorem rm_ok {u k : Nat} (hu : u ≤ 20000) (hk : k ≤ 100) : u + k ≤ room_1.cells ∧ 6 * u + 6 * k ≤ room_1.slots := ⟨by show u + k ≤ 601024; omega, by show 6 * u + 6 * k ≤ 7293034; omega⟩
theorem cmpz {x y : Int64} (h : x = y) : lg_cmp x y = 0 := by subst h; simp [lg_cmp]
theorem gw_lcmp {g : pw_G} {p : Program} {e : Env} {R : Room} {s : State} {m : MethodId} {args : Array Value} {below : List Frame} {meth : Method} {c : Code} {nL : Nat} {Z : State → Prop} {own : String} {cc : ByteArray} {pc : Nat} {lv : List (Nat × Value)} {st : List Value} {u : Nat} {σ : pw_Mem} {x y : Int64} (C : GC g p s m c args own cc nL) (d : decode cc pc = .ok (.lcmp, 1)) (k : GW g p e R s m args below meth c nL Z (pc + 1) lv (.int (lg_cmp x y) :: st) u σ) : GW g p e R s m args below meth c nL Z pc lv (.long y :: .long x :: st) u σ :=
  fun H locs ls hl hL hS => W.lcmp C.1 C.2.1 d (k H locs ls hl hL hS)
theorem wR_x {o : Int64} {f : Int32 → Int64} {M : pw_M} {As : List Value} {k : Int32} {o1 : Int64} {σ1 : pw_Mem} (q : wR o f (fun y => Nx M As 0 (fun v => v = y)) (Nx M As 1 (fun _ => True)) (Nx M As 2 (fun _ => True)) k o1 σ1) : ∃ good, Nx M As k good σ1 ∧ (k = 0 → ∀ v, good v → o1 = f v) := by
  rcases q with ⟨rfl, y, rfl, q⟩ | ⟨rfl, rfl, q⟩ | ⟨rfl, rfl, q⟩
  · exact ⟨_, q, fun _ v hv => by rw [hv]⟩
  · exact ⟨_, q, fun z => absurd z (by decide)⟩
  · exact ⟨_, q, fun z => absurd z (by decide)⟩
theorem wR_x1 {o : Int64} {f : Int32 → Int64} {M : pw_M} {As : List Value} {k : Int32} {o1 : Int64} {σ1 : pw_Mem} (q : wR o f (fun y => Nx M As 0 (fun v => v = y)) (Nx M As 1 (fun _ => True)) (fun _ => False) k o1 σ1) : ∃ good, Nx M As k good σ1 ∧ (k = 0 → ∀ v, good v → o1 = f v) := by
  rcases q with ⟨rfl, y, rfl, q⟩ | ⟨rfl, rfl, q⟩ | ⟨rfl, rfl, q⟩
  · exact ⟨_, q, fun _ v hv => by rw [hv]⟩
  · exact ⟨_, q, fun z => absurd z (by decide)⟩
  · exact q.elim
theorem wR_v {o : Int64} {f : Int32 → Int64} {M : pw_M} {As : List Value} {k : Int32} {o1 : Int64} {σ1 : pw_Mem} (q : wR o f (fun _ => NxV M As 0) (NxV M As 1) (NxV M As 2) k o1 σ1) : NxV M As k σ1 := by
  rcases q with ⟨rfl, y, rfl, q⟩ | ⟨rfl, rfl, q⟩ | ⟨rfl, rfl, q⟩
  · exact q
  · exact q
  · exact q
theorem wR_v1 {o : Int64} {f : Int32 → Int64} {M : pw_M} {As : List Value} {k : Int32} {o1 : Int64} {σ1 : pw_Mem} (q : wR o f (fun _ => NxV M As 0) (NxV M As 1) (fun _ => False) k o1 σ1) : NxV M As k σ1 := by
  rcases q with ⟨rfl, y, rfl, q⟩ | ⟨rfl, rfl, q⟩ | ⟨rfl, rfl, q⟩
  · exact q
  · exact q
  · exact q.elim
theorem L_teach {g : pw_G} {p : Program} {e : Env} {s : State} {m : MethodId} {args : Array Value} {below : List Frame} {meth : Method} {c : Code} {Z : State → Prop} {b L i u : Nat} {xs : Nat → Int32} {σ : pw_Mem} (C : GC g p s m c args RL cL_law 7) (hl9 : (pw_l g).stackTraces = false) (hN : pw_N s) (hI : Inv σ) (hu : u ≤ 19000) (next : ∀ o1 σ1, Inv σ1 → GW (pw_out g o1) p e room_1 s m args below meth c 7 Z 923 [(0, .ref b), (1, .ref (pw_ad g 0)), (2, .ref (pw_ad g 29)), (3, .ref (pw_ad g 46)), (4, .int (nI i))] [] (u + 4) σ1) (hX : va_X b L xs s s.heap) (hbl : b < s.heap.size) (hbA : ¬ pw_A g b) (hi : ∀ k : Nat, k < 5 → vp_in (nI i + nI k) L) : GW g p e room_1 s m args below meth c 7 Z 116 [(0, .ref b), (1, .ref (pw_ad g 0)), (2, .ref (pw_ad g 29)), (3, .ref (pw_ad g 46)), (4, .int (nI i))] [] u σ := by
  by_cases z : xs (nI i + 3).toNatClampNeg = 0
  · refine gw_aload_n 1 C dL_law_116 rfl rfl ?_
    refine gw_aload_n 0 C dL_law_117 rfl rfl ?_
    refine gw_iload 4 C dL_law_118 rfl ?_
    refine gw_iconst (v := 1) C dL_law_120 rfl ?_
    refine gw_iadd C dL_law_121 ?_
    refine gw_sld C hX hbl hbA dL_law_122 (hi 1 (by omega)) ?_
    refine gw_aload_n 0 C dL_law_123 rfl rfl ?_
    refine gw_iload 4 C dL_law_124 rfl ?_
    refine gw_iconst (v := 2) C dL_law_126 rfl ?_
    refine gw_iadd C dL_law_127 ?_
    refine gw_sld C hX hbl hbA dL_law_128 (hi 2 (by omega)) ?_
    refine gw_aload_n 0 C dL_law_129 rfl rfl ?_
    refine gw_iload 4 C dL_law_130 rfl ?_
    refine gw_iconst (v := 3) C dL_law_132 rfl ?_
    refine gw_iadd C dL_law_133 ?_
    refine gw_sld C hX hbl hbA dL_law_134 (hi 3 (by omega)) ?_
    refine gw_if_eq C dL_law_135 rfl (fun _ => ?_) (fun w => absurd z w)
    refine gw_iconst (v := 0) C dL_law_142 rfl ?_
    refine gw_aload_n 3 C dL_law_143 rfl rfl ?_
    refine gw_callW (M := mL_teach) (As := [.ref (pw_ad g 0), .int (xs (nI i + 1).toNatClampNeg), .int (xs (nI i + 2).toNatClampNeg), .int 0, .ref (pw_ad g 46)]) (rest := []) C hN dL_law_144 ck_L_63 ⟨Nat.le_of_ble_eq_true rfl, Nat.le_of_ble_eq_true rfl⟩ rfl (Nat.le_of_ble_eq_true rfl) (rm_ok (show u ≤ 20000 by omega) (Nat.le_of_ble_eq_true rfl)) rfl (w_teach (T_teach hl9 hI)) (fun k o1 σ1 q => ?_)
    refine gw_wide (u' := u + 4) (Nat.add_le_add_left (Nat.le_of_ble_eq_true rfl) u) ?_
    obtain ⟨good, hx, hg⟩ := wR_x q
    refine gw_istore (C.out o1) dL_law_147 (by decide) rfl ?_
    refine gw_aload_n 2 (C.out o1) dL_law_149 rfl rfl ?_
    refine gw_aload_n 0 (C.out o1) dL_law_150 rfl rfl ?_
    refine gw_iload 4 (C.out o1) dL_law_151 rfl ?_
    refine gw_iconst (v := 1) (C.out o1) dL_law_153 rfl ?_
    refine gw_iadd (C.out o1) dL_law_154 ?_
    refine gw_sld (C.out o1) hX hbl hbA dL_law_155 (hi 1 (by omega)) ?_
    refine gw_aload_n 0 (C.out o1) dL_law_156 rfl rfl ?_
    refine gw_iload 4 (C.out o1) dL_law_157 rfl ?_
    refine gw_iconst (v := 2) (C.out o1) dL_law_159 rfl ?_
    refine gw_iadd (C.out o1) dL_law_160 ?_
    refine gw_sld (C.out o1) hX hbl hbA dL_law_161 (hi 2 (by omega)) ?_
    refine gw_aload_n 0 (C.out o1) dL_law_162 rfl rfl ?_
    refine gw_iload 4 (C.out o1) dL_law_163 rfl ?_
    refine gw_iconst (v := 3) (C.out o1) dL_law_165 rfl ?_
    refine gw_iadd (C.out o1) dL_law_166 ?_
    refine gw_sld (C.out o1) hX hbl hbA dL_law_167 (hi 3 (by omega)) ?_
    refine gw_if_eq (C.out o1) dL_law_168 rfl (fun _ => ?_) (fun w => absurd z w)
    refine gw_iconst (v := 0) (C.out o1) dL_law_175 rfl ?_
    refine gw_callV (M' := mX5_teach) (ci := 5) 29 [.int (xs (nI i + 1).toNatClampNeg), .int (xs (nI i + 2).toNatClampNeg), .int 0] [] (C.out o1) dL_law_176 ck_L_68 rfl rfl ⟨Nat.le_of_ble_eq_true rfl, Nat.le_of_ble_eq_true rfl⟩ rfl (Nat.le_of_ble_eq_true rfl) (Nat.le_of_ble_eq_true rfl) (rm_ok (show u + 4 ≤ 20000 by omega) (Nat.le_of_ble_eq_true rfl)) rfl (hx (pw_out g o1)) (fun rv σ2 q2 => ?_) (fun E σ2 q2 => by obtain ⟨_, _, q3, _⟩ := q2; cases q3)
    obtain ⟨v, σ3, q3, q4, q5, q6⟩ := q2
    cases q3
    refine gw_wide (u' := u + 4) (Nat.le_refl (u + 4)) ?_
    refine gw_istore (C.out o1) dL_law_179 (by decide) rfl ?_
    refine gw_aload_n 2 (C.out o1) dL_law_181 rfl rfl ?_
    refine gw_callV (M' := mX5_thrown) (Qm := fun r => r = (.inl (some (.int (σ2 29 0))), σ2)) (ci := 5) 29 [] [] (C.out o1) dL_law_182 ck_L_69 rfl rfl ⟨Nat.le_of_ble_eq_true rfl, Nat.le_of_ble_eq_true rfl⟩ rfl (Nat.le_of_ble_eq_true rfl) (Nat.le_of_ble_eq_true rfl) (rm_ok (show u + 4 ≤ 20000 by omega) (Nat.le_of_ble_eq_true rfl)) rfl (bX5_thrown_0 rfl) (fun rv σ4 q7 => ?_) (fun E σ4 q7 => by cases q7)
    cases q7
    refine gw_wide (u' := u + 4) (Nat.le_refl (u + 4)) ?_
    refine gw_iload 5 (C.out o1) dL_law_185 rfl ?_
    refine gw_icmp_eq (C.out o1) dL_law_187 rfl (fun _ => ?_) (fun w => absurd q4 w)
    refine gw_iload 5 (C.out o1) dL_law_192 rfl ?_
    refine gw_if_ne (C.out o1) dL_law_194 rfl (fun _ => ?_) (fun w0 => ?_)
    · refine gw_goto (C.out o1) dL_law_216 rfl ?_
      exact gw_sub [0, 1, 2, 3, 4] rfl (next o1 σ2 q6)
    · have heq := hg w0 v q5
      refine gw_aload_n 3 (C.out o1) dL_law_197 rfl rfl ?_
      refine gw_iconst (v := 0) (C.out o1) dL_law_198 rfl ?_
      refine gw_laload (C.out o1) dL_law_199 ?_
      refine gw_iload 6 (C.out o1) dL_law_200 rfl ?_
      refine gw_if_eq (C.out o1) dL_law_202 rfl (fun w1 => ?_) (fun w1 => ?_)
      · refine gw_lconst (v := 0) (C.out o1) dL_law_209 rfl ?_
        refine gw_lcmp (C.out o1) dL_law_210 ?_
        refine gw_if_eq (C.out o1) dL_law_211 rfl (fun _ => ?_) (fun w2 => absurd (cmpz (heq.trans (by rw [zJ, if_pos w1]))) w2)
        refine gw_goto (C.out o1) dL_law_216 rfl ?_
        exact gw_sub [0, 1, 2, 3, 4] rfl (next o1 σ2 q6)
      · refine gw_lconst (v := 1) (C.out o1) dL_law_205 rfl ?_
        refine gw_goto (C.out o1) dL_law_206 rfl ?_
        refine gw_lcmp (C.out o1) dL_law_210 ?_
        refine gw_if_eq (C.out o1) dL_law_211 rfl (fun _ => ?_) (fun w2 => absurd (cmpz (heq.trans (by rw [zJ, if_neg w1]))) w2)
        refine gw_goto (C.out o1) dL_law_216 rfl ?_
        exact gw_sub [0, 1, 2, 3, 4] rfl (next o1 σ2 q6)
  · refine gw_aload_n 1 C dL_law_116 rfl rfl ?_
    refine gw_aload_n 0 C dL_law_117 rfl rfl ?_
    refine gw_iload 4 C dL_law_118 rfl ?_
    refine gw_iconst (v := 1) C dL_law_120 rfl ?_
    refine gw_iadd C dL_law_121 ?_
    refine gw_sld C hX hbl hbA dL_law_122 (hi 1 (by omega)) ?_
    refine gw_aload_n 0 C dL_law_123 rfl rfl ?_
    refine gw_iload 4 C dL_law_124 rfl ?_
    refine gw_iconst (v := 2) C dL_law_126 rfl ?_
    refine gw_iadd C dL_law_127 ?_
    refine gw_sld C hX hbl hbA dL_law_128 (hi 2 (by omega)) ?_
    refine gw_aload_n 0 C dL_law_129 rfl rfl ?_
    refine gw_iload 4 C dL_law_130 rfl ?_
    refine gw_iconst (v := 3) C dL_law_132 rfl ?_
    refine gw_iadd C dL_law_133 ?_
    refine gw_sld C hX hbl hbA dL_law_134 (hi 3 (by omega)) ?_
    refine gw_if_eq C dL_law_135 rfl (fun w => absurd w z) (fun _ => ?_)
    refine gw_iconst (v := 1) C dL_law_138 rfl ?_
    refine gw_goto C dL_law_139 rfl ?_
    refine gw_aload_n 3 C dL_law_143 rfl rfl ?_
    refine gw_callW (M := mL_teach) (As := [.ref (pw_ad g 0), .int (xs (nI i + 1).toNatClampNeg), .int (xs (nI i + 2).toNatClampNeg), .int 1, .ref (pw_ad g 46)]) (rest := []) C hN dL_law_144 ck_L_63 ⟨Nat.le_of_ble_eq_true rfl, Nat.le_of_ble_eq_true rfl⟩ rfl (Nat.le_of_ble_eq_true rfl) (rm_ok (show u ≤ 20000 by omega) (Nat.le_of_ble_eq_true rfl)) rfl (w_teach (T_teach hl9 hI)) (fun k o1 σ1 q => ?_)
    refine gw_wide (u' := u + 4) (Nat.add_le_add_left (Nat.le_of_ble_eq_true rfl) u) ?_
    obtain ⟨good, hx, hg⟩ := wR_x q
    refine gw_istore (C.out o1) dL_law_147 (by decide) rfl ?_
    refine gw_aload_n 2 (C.out o1) dL_law_149 rfl rfl ?_
    refine gw_aload_n 0 (C.out o1) dL_law_150 rfl rfl ?_
    refine gw_iload 4 (C.out o1) dL_law_151 rfl ?_
    refine gw_iconst (v := 1) (C.out o1) dL_law_153 rfl ?_
    refine gw_iadd (C.out o1) dL_law_154 ?_
    refine gw_sld (C.out o1) hX hbl hbA dL_law_155 (hi 1 (by omega)) ?_
    refine gw_aload_n 0 (C.out o1) dL_law_156 rfl rfl ?_
    refine gw_iload 4 (C.out o1) dL_law_157 rfl ?_
    refine gw_iconst (v := 2) (C.out o1) dL_law_159 rfl ?_
    refine gw_iadd (C.out o1) dL_law_160 ?_
    refine gw_sld (C.out o1) hX hbl hbA dL_law_161 (hi 2 (by omega)) ?_
    refine gw_aload_n 0 (C.out o1) dL_law_162 rfl rfl ?_
    refine gw_iload 4 (C.out o1) dL_law_163 rfl ?_
    refine gw_iconst (v := 3) (C.out o1) dL_law_165 rfl ?_
    refine gw_iadd (C.out o1) dL_law_166 ?_
    refine gw_sld (C.out o1) hX hbl hbA dL_law_167 (hi 3 (by omega)) ?_
    refine gw_if_eq (C.out o1) dL_law_168 rfl (fun w => absurd w z) (fun _ => ?_)
    refine gw_iconst (v := 1) (C.out o1) dL_law_171 rfl ?_
    refine gw_goto (C.out o1) dL_law_172 rfl ?_
    refine gw_callV (M' := mX5_teach) (ci := 5) 29 [.int (xs (nI i + 1).toNatClampNeg), .int (xs (nI i + 2).toNatClampNeg), .int 1] [] (C.out o1) dL_law_176 ck_L_68 rfl rfl ⟨Nat.le_of_ble_eq_true rfl, Nat.le_of_ble_eq_true rfl⟩ rfl (Nat.le_of_ble_eq_true rfl) (Nat.le_of_ble_eq_true rfl) (rm_ok (show u + 4 ≤ 20000 by omega) (Nat.le_of_ble_eq_true rfl)) rfl (hx (pw_out g o1)) (fun rv σ2 q2 => ?_) (fun E σ2 q2 => by obtain ⟨_, _, q3, _⟩ := q2; cases q3)
    obtain ⟨v, σ3, q3, q4, q5, q6⟩ := q2
    cases q3
    refine gw_wide (u' := u + 4) (Nat.le_refl (u + 4)) ?_
    refine gw_istore (C.out o1) dL_law_179 (by decide) rfl ?_
    refine gw_aload_n 2 (C.out o1) dL_law_181 rfl rfl ?_
    refine gw_callV (M' := mX5_thrown) (Qm := fun r => r = (.inl (some (.int (σ2 29 0))), σ2)) (ci := 5) 29 [] [] (C.out o1) dL_law_182 ck_L_69 rfl rfl ⟨Nat.le_of_ble_eq_true rfl, Nat.le_of_ble_eq_true rfl⟩ rfl (Nat.le_of_ble_eq_true rfl) (Nat.le_of_ble_eq_true rfl) (rm_ok (show u + 4 ≤ 20000 by omega) (Nat.le_of_ble_eq_true rfl)) rfl (bX5_thrown_0 rfl) (fun rv σ4 q7 => ?_) (fun E σ4 q7 => by cases q7)
    cases q7
    refine gw_wide (u' := u + 4) (Nat.le_refl (u + 4)) ?_
    refine gw_iload 5 (C.out o1) dL_law_185 rfl ?_
    refine gw_icmp_eq (C.out o1) dL_law_187 rfl (fun _ => ?_) (fun w => absurd q4 w)
    refine gw_iload 5 (C.out o1) dL_law_192 rfl ?_
    refine gw_if_ne (C.out o1) dL_law_194 rfl (fun _ => ?_) (fun w0 => ?_)
    · refine gw_goto (C.out o1) dL_law_216 rfl ?_
      exact gw_sub [0, 1, 2, 3, 4] rfl (next o1 σ2 q6)
    · have heq := hg w0 v q5
      refine gw_aload_n 3 (C.out o1) dL_law_197 rfl rfl ?_
      refine gw_iconst (v := 0) (C.out o1) dL_law_198 rfl ?_
      refine gw_laload (C.out o1) dL_law_199 ?_
      refine gw_iload 6 (C.out o1) dL_law_200 rfl ?_
      refine gw_if_eq (C.out o1) dL_law_202 rfl (fun w1 => ?_) (fun w1 => ?_)
      · refine gw_lconst (v := 0) (C.out o1) dL_law_209 rfl ?_
        refine gw_lcmp (C.out o1) dL_law_210 ?_
        refine gw_if_eq (C.out o1) dL_law_211 rfl (fun _ => ?_) (fun w2 => absurd (cmpz (heq.trans (by rw [zJ, if_pos w1]))) w2)
        refine gw_goto (C.out o1) dL_law_216 rfl ?_
        exact gw_sub [0, 1, 2, 3, 4] rfl (next o1 σ2 q6)
      · refine gw_lconst (v := 1) (C.out o1) dL_law_205 rfl ?_
        refine gw_goto (C.out o1) dL_law_206 rfl ?_
        refine gw_lcmp (C.out o1) dL_law_210 ?_
        refine gw_if_eq (C.out o1) dL_law_211 rfl (fun _ => ?_) (fun w2 => absurd (cmpz (heq.trans (by rw [zJ, if_neg w1]))) w2)
        refine gw_goto (C.out o1) dL_law_216 rfl ?_
        exact gw_sub [0, 1, 2, 3, 4] rfl (next o1 σ2 q6)
theorem L_told {g : pw_G} {p : Program} {e : Env} {s : State} {m : MethodId} {args : Array Value} {below : List Frame} {meth : Method} {c : Code} {Z : State → Prop} {b L i u : Nat} {xs : Nat → Int32} {σ : pw_Mem} (C : GC g p s m c args RL cL_law 7) (hl9 : (pw_l g).stackTraces = false) (hN : pw_N s) (hI : Inv σ) (hu : u ≤ 19000) (next : ∀ o1 σ1, Inv σ1 → GW (pw_out g o1) p e room_1 s m args below meth c 7 Z 923 [(0, .ref b), (1, .ref (pw_ad g 0)), (2, .ref (pw_ad g 29)), (3, .ref (pw_ad g 46)), (4, .int (nI i))] [] (u + 4) σ1) (hX : va_X b L xs s s.heap) (hbl : b < s.heap.size) (hbA : ¬ pw_A g b) (hi : ∀ k : Nat, k < 5 → vp_in (nI i + nI k) L) : GW g p e room_1 s m args below meth c 7 Z 219 [(0, .ref b), (1, .ref (pw_ad g 0)), (2, .ref (pw_ad g 29)), (3, .ref (pw_ad g 46)), (4, .int (nI i))] [] u σ := by
  refine gw_aload_n 1 C dL_law_219 rfl rfl ?_
  refine gw_aload_n 0 C dL_law_220 rfl rfl ?_
  refine gw_iload 4 C dL_law_221 rfl ?_
  refine gw_iconst (v := 1) C dL_law_223 rfl ?_
  refine gw_iadd C dL_law_224 ?_
  refine gw_sld C hX hbl hbA dL_law_225 (hi 1 (by omega)) ?_
  refine gw_aload_n 0 C dL_law_226 rfl rfl ?_
  refine gw_iload 4 C dL_law_227 rfl ?_
  refine gw_iconst (v := 2) C dL_law_229 rfl ?_
  refine gw_iadd C dL_law_230 ?_
  refine gw_sld C hX hbl hbA dL_law_231 (hi 2 (by omega)) ?_
  refine gw_aload_n 3 C dL_law_232 rfl rfl ?_
  refine gw_callW (M := mL_told) (As := [.ref (pw_ad g 0), .int (xs (nI i + 1).toNatClampNeg), .int (xs (nI i + 2).toNatClampNeg), .ref (pw_ad g 46)]) (rest := []) C hN dL_law_233 ck_L_72 ⟨Nat.le_of_ble_eq_true rfl, Nat.le_of_ble_eq_true rfl⟩ rfl (Nat.le_of_ble_eq_true rfl) (rm_ok (show u ≤ 20000 by omega) (Nat.le_of_ble_eq_true rfl)) rfl (w_told (T_told hl9 hI)) (fun k o1 σ1 q => ?_)
  refine gw_wide (u' := u + 4) (Nat.add_le_add_left (Nat.le_of_ble_eq_true rfl) u) ?_
  obtain ⟨good, hx, hg⟩ := wR_x1 q
  refine gw_istore (C.out o1) dL_law_236 (by decide) rfl ?_
  refine gw_aload_n 2 (C.out o1) dL_law_238 rfl rfl ?_
  refine gw_aload_n 0 (C.out o1) dL_law_239 rfl rfl ?_
  refine gw_iload 4 (C.out o1) dL_law_240 rfl ?_
  refine gw_iconst (v := 1) (C.out o1) dL_law_242 rfl ?_
  refine gw_iadd (C.out o1) dL_law_243 ?_
  refine gw_sld (C.out o1) hX hbl hbA dL_law_244 (hi 1 (by omega)) ?_
  refine gw_aload_n 0 (C.out o1) dL_law_245 rfl rfl ?_
  refine gw_iload 4 (C.out o1) dL_law_246 rfl ?_
  refine gw_iconst (v := 2) (C.out o1) dL_law_248 rfl ?_
  refine gw_iadd (C.out o1) dL_law_249 ?_
  refine gw_sld (C.out o1) hX hbl hbA dL_law_250 (hi 2 (by omega)) ?_
  refine gw_callV (M' := mX5_told) (ci := 5) 29 [.int (xs (nI i + 1).toNatClampNeg), .int (xs (nI i + 2).toNatClampNeg)] [] (C.out o1) dL_law_251 ck_L_75 rfl rfl ⟨Nat.le_of_ble_eq_true rfl, Nat.le_of_ble_eq_true rfl⟩ rfl (Nat.le_of_ble_eq_true rfl) (Nat.le_of_ble_eq_true rfl) (rm_ok (show u + 4 ≤ 20000 by omega) (Nat.le_of_ble_eq_true rfl)) rfl (hx (pw_out g o1)) (fun rv σ2 q2 => ?_) (fun E σ2 q2 => by obtain ⟨_, _, q3, _⟩ := q2; cases q3)
  obtain ⟨v, σ3, q3, q4, q5, q6⟩ := q2
  cases q3
  refine gw_wide (u' := u + 4) (Nat.le_refl (u + 4)) ?_
  refine gw_istore (C.out o1) dL_law_254 (by decide) rfl ?_
  refine gw_aload_n 2 (C.out o1) dL_law_256 rfl rfl ?_
  refine gw_callV (M' := mX5_thrown) (Qm := fun r => r = (.inl (some (.int (σ2 29 0))), σ2)) (ci := 5) 29 [] [] (C.out o1) dL_law_257 ck_L_69 rfl rfl ⟨Nat.le_of_ble_eq_true rfl, Nat.le_of_ble_eq_true rfl⟩ rfl (Nat.le_of_ble_eq_true rfl) (Nat.le_of_ble_eq_true rfl) (rm_ok (show u + 4 ≤ 20000 by omega) (Nat.le_of_ble_eq_true rfl)) rfl (bX5_thrown_0 rfl) (fun rv σ4 q7 => ?_) (fun E σ4 q7 => by cases q7)
  cases q7
  refine gw_wide (u' := u + 4) (Nat.le_refl (u + 4)) ?_
  refine gw_iload 5 (C.out o1) dL_law_260 rfl ?_
  refine gw_icmp_eq (C.out o1) dL_law_262 rfl (fun _ => ?_) (fun w => absurd q4 w)
  refine gw_iload 5 (C.out o1) dL_law_267 rfl ?_
  refine gw_if_ne (C.out o1) dL_law_269 rfl (fun _ => ?_) (fun w0 => ?_)
  · refine gw_goto (C.out o1) dL_law_284 rfl ?_
    exact gw_sub [0, 1, 2, 3, 4] rfl (next o1 σ2 q6)
  · have heq := hg w0 v q5
    refine gw_aload_n 3 (C.out o1) dL_law_272 rfl rfl ?_
    refine gw_iconst (v := 0) (C.out o1) dL_law_273 rfl ?_
    refine gw_laload (C.out o1) dL_law_274 ?_
    refine gw_iload 6 (C.out o1) dL_law_275 rfl ?_
    refine gw_i2l (C.out o1) dL_law_277 ?_
    refine gw_lcmp (C.out o1) dL_law_278 ?_
    refine gw_if_eq (C.out o1) dL_law_279 rfl (fun _ => ?_) (fun w2 => absurd (cmpz heq) w2)
    refine gw_goto (C.out o1) dL_law_284 rfl ?_
    exact gw_sub [0, 1, 2, 3, 4] rfl (next o1 σ2 q6)
theorem L_size {g : pw_G} {p : Program} {e : Env} {s : State} {m : MethodId} {args : Array Value} {below : List Frame} {meth : Method} {c : Code} {Z : State → Prop} {b L i u : Nat} {xs : Nat → Int32} {σ : pw_Mem} (C : GC g p s m c args RL cL_law 7) (hI : Inv σ) (hu : u ≤ 19000) (next : ∀ o1 σ1, Inv σ1 → GW (pw_out g o1) p e room_1 s m args below meth c 7 Z 923 [(0, .ref b), (1, .ref (pw_ad g 0)), (2, .ref (pw_ad g 29)), (3, .ref (pw_ad g 46)), (4, .int (nI i))] [] (u + 4) σ1) : GW g p e room_1 s m args below meth c 7 Z 287 [(0, .ref b), (1, .ref (pw_ad g 0)), (2, .ref (pw_ad g 29)), (3, .ref (pw_ad g 46)), (4, .int (nI i))] [] u σ := by
  refine gw_aload_n 1 C dL_law_287 rfl rfl ?_
  refine gw_callV (M' := mX4_size) (ci := 4) 0 [] [] C dL_law_288 ck_L_76 rfl rfl ⟨Nat.le_of_ble_eq_true rfl, Nat.le_of_ble_eq_true rfl⟩ rfl (Nat.le_of_ble_eq_true rfl) (Nat.le_of_ble_eq_true rfl) (rm_ok (show u ≤ 20000 by omega) (Nat.le_of_ble_eq_true rfl)) rfl (T_size hI) (fun rv σ1 q => ?_) (fun E σ1 q => by obtain ⟨_, _, q1, _⟩ := q; cases q1)
  refine gw_wide (u' := u + 4) (Nat.add_le_add_left (Nat.le_of_ble_eq_true rfl) u) ?_
  obtain ⟨y, σ2, q1, hx⟩ := q
  cases q1
  refine gw_aload_n 2 C dL_law_291 rfl rfl ?_
  refine gw_callV (M' := mX5_size) (ci := 5) 29 [] [.int y] C dL_law_292 ck_L_79 rfl rfl ⟨Nat.le_of_ble_eq_true rfl, Nat.le_of_ble_eq_true rfl⟩ rfl (Nat.le_of_ble_eq_true rfl) (Nat.le_of_ble_eq_true rfl) (rm_ok (show u + 4 ≤ 20000 by omega) (Nat.le_of_ble_eq_true rfl)) rfl (hx g) (fun rv σ3 q => ?_) (fun E σ3 q => by obtain ⟨_, _, q1, _⟩ := q; cases q1)
  obtain ⟨v, σ4, q1, q2, q3, q4⟩ := q
  cases q1
  refine gw_wide (u' := u + 4) (Nat.le_refl (u + 4)) ?_
  exact gw_icmp_eq C dL_law_295 rfl (fun _ => next (pw_o g) σ3 q4) (fun w => absurd q3.symm w)
theorem L_forget {g : pw_G} {p : Program} {e : Env} {s : State} {m : MethodId} {args : Array Value} {below : List Frame} {meth : Method} {c : Code} {Z : State → Prop} {b L i u : Nat} {xs : Nat → Int32} {σ : pw_Mem} (C : GC g p s m c args RL cL_law 7) (hI : Inv σ) (hu : u ≤ 19000) (next : ∀ o1 σ1, Inv σ1 → GW (pw_out g o1) p e room_1 s m args below meth c 7 Z 923 [(0, .ref b), (1, .ref (pw_ad g 0)), (2, .ref (pw_ad g 29)), (3, .ref (pw_ad g 46)), (4, .int (nI i))] [] (u + 4) σ1) : GW g p e room_1 s m args below meth c 7 Z 300 [(0, .ref b), (1, .ref (pw_ad g 0)), (2, .ref (pw_ad g 29)), (3, .ref (pw_ad g 46)), (4, .int (nI i))] [] u σ := by
  refine gw_aload_n 1 C dL_law_300 rfl rfl ?_
  refine gw_callV (M' := mX4_forget) (ci := 4) 0 [] [] C dL_law_301 ck_L_80 rfl rfl ⟨Nat.le_of_ble_eq_true rfl, Nat.le_of_ble_eq_true rfl⟩ rfl (Nat.le_of_ble_eq_true rfl) (Nat.le_of_ble_eq_true rfl) (rm_ok (show u ≤ 20000 by omega) (Nat.le_of_ble_eq_true rfl)) rfl (T_forget hI) (fun rv σ1 q => ?_) (fun E σ1 q => by obtain ⟨_, q1, _⟩ := q; cases q1)
  refine gw_wide (u' := u + 4) (Nat.add_le_add_left (Nat.le_of_ble_eq_true rfl) u) ?_
  obtain ⟨σ2, q1, hx⟩ := q
  cases q1
  refine gw_aload_n 2 C dL_law_304 rfl rfl ?_
  refine gw_callV (M' := mX5_forget) (ci := 5) 29 [] [] C dL_law_305 ck_L_83 rfl rfl ⟨Nat.le_of_ble_eq_true rfl, Nat.le_of_ble_eq_true rfl⟩ rfl (Nat.le_of_ble_eq_true rfl) (Nat.le_of_ble_eq_true rfl) (rm_ok (show u + 4 ≤ 20000 by omega) (Nat.le_of_ble_eq_true rfl)) rfl (hx g) (fun rv σ3 q => ?_) (fun E σ3 q => by obtain ⟨_, q1, _⟩ := q; cases q1)
  obtain ⟨σ4, q1, q2⟩ := q
  cases q1
  refine gw_wide (u' := u + 4) (Nat.le_refl (u + 4)) ?_
  refine gw_goto C dL_law_308 rfl ?_
  exact next (pw_o g) σ3 q2
theorem L_learn {g : pw_G} {p : Program} {e : Env} {s : State} {m : MethodId} {args : Array Value} {below : List Frame} {meth : Method} {c : Code} {Z : State → Prop} {b L i u : Nat} {xs : Nat → Int32} {σ : pw_Mem} (C : GC g p s m c args RL cL_law 7) (hI : Inv σ) (hu : u ≤ 19000) (next : ∀ o1 σ1, Inv σ1 → GW (pw_out g o1) p e room_1 s m args below meth c 7 Z 923 [(0, .ref b), (1, .ref (pw_ad g 0)), (2, .ref (pw_ad g 29)), (3, .ref (pw_ad g 46)), (4, .int (nI i))] [] (u + 4) σ1) : GW g p e room_1 s m args below meth c 7 Z 311 [(0, .ref b), (1, .ref (pw_ad g 0)), (2, .ref (pw_ad g 29)), (3, .ref (pw_ad g 46)), (4, .int (nI i))] [] u σ := by
  refine gw_aload_n 1 C dL_law_311 rfl rfl ?_
  refine gw_callV (M' := mX4_learn) (ci := 4) 0 [] [] C dL_law_312 ck_L_84 rfl rfl ⟨Nat.le_of_ble_eq_true rfl, Nat.le_of_ble_eq_true rfl⟩ rfl (Nat.le_of_ble_eq_true rfl) (Nat.le_of_ble_eq_true rfl) (rm_ok (show u ≤ 20000 by omega) (Nat.le_of_ble_eq_true rfl)) rfl (T_learn hI) (fun rv σ1 q => ?_) (fun E σ1 q => by obtain ⟨_, _, q1, _⟩ := q; cases q1)
  refine gw_wide (u' := u + 4) (Nat.add_le_add_left (Nat.le_of_ble_eq_true rfl) u) ?_
  obtain ⟨y, σ2, q1, hx⟩ := q
  cases q1
  refine gw_aload_n 2 C dL_law_315 rfl rfl ?_
  refine gw_callV (M' := mX5_learn) (ci := 5) 29 [] [.int y] C dL_law_316 ck_L_87 rfl rfl ⟨Nat.le_of_ble_eq_true rfl, Nat.le_of_ble_eq_true rfl⟩ rfl (Nat.le_of_ble_eq_true rfl) (Nat.le_of_ble_eq_true rfl) (rm_ok (show u + 4 ≤ 20000 by omega) (Nat.le_of_ble_eq_true rfl)) rfl (hx g) (fun rv σ3 q => ?_) (fun E σ3 q => by obtain ⟨_, _, q1, _⟩ := q; cases q1)
  obtain ⟨v, σ4, q1, q2, q3, q4⟩ := q
  cases q1
  refine gw_wide (u' := u + 4) (Nat.le_refl (u + 4)) ?_
  exact gw_icmp_eq C dL_law_319 rfl (fun _ => next (pw_o g) σ3 q4) (fun w => absurd q3.symm w)
theorem L_states {g : pw_G} {p : Program} {e : Env} {s : State} {m : MethodId} {args : Array Value} {below : List Frame} {meth : Method} {c : Code} {Z : State → Prop} {b L i u : Nat} {xs : Nat → Int32} {σ : pw_Mem} (C : GC g p s m c args RL cL_law 7) (hI : Inv σ) (hu : u ≤ 19000) (next : ∀ o1 σ1, Inv σ1 → GW (pw_out g o1) p e room_1 s m args below meth c 7 Z 923 [(0, .ref b), (1, .ref (pw_ad g 0)), (2, .ref (pw_ad g 29)), (3, .ref (pw_ad g 46)), (4, .int (nI i))] [] (u + 4) σ1) : GW g p e room_1 s m args below meth c 7 Z 324 [(0, .ref b), (1, .ref (pw_ad g 0)), (2, .ref (pw_ad g 29)), (3, .ref (pw_ad g 46)), (4, .int (nI i))] [] u σ := by
  refine gw_aload_n 1 C dL_law_324 rfl rfl ?_
  refine gw_callV (M' := mX4_states) (ci := 4) 0 [] [] C dL_law_325 ck_L_88 rfl rfl ⟨Nat.le_of_ble_eq_true rfl, Nat.le_of_ble_eq_true rfl⟩ rfl (Nat.le_of_ble_eq_true rfl) (Nat.le_of_ble_eq_true rfl) (rm_ok (show u ≤ 20000 by omega) (Nat.le_of_ble_eq_true rfl)) rfl (T_states hI) (fun rv σ1 q => ?_) (fun E σ1 q => by obtain ⟨_, _, q1, _⟩ := q; cases q1)
  refine gw_wide (u' := u + 4) (Nat.add_le_add_left (Nat.le_of_ble_eq_true rfl) u) ?_
  obtain ⟨y, σ2, q1, hx⟩ := q
  cases q1
  refine gw_aload_n 2 C dL_law_328 rfl rfl ?_
  refine gw_callV (M' := mX5_states) (ci := 5) 29 [] [.int y] C dL_law_329 ck_L_91 rfl rfl ⟨Nat.le_of_ble_eq_true rfl, Nat.le_of_ble_eq_true rfl⟩ rfl (Nat.le_of_ble_eq_true rfl) (Nat.le_of_ble_eq_true rfl) (rm_ok (show u + 4 ≤ 20000 by omega) (Nat.le_of_ble_eq_true rfl)) rfl (hx g) (fun rv σ3 q => ?_) (fun E σ3 q => by obtain ⟨_, _, q1, _⟩ := q; cases q1)
  obtain ⟨v, σ4, q1, q2, q3, q4⟩ := q
  cases q1
  refine gw_wide (u' := u + 4) (Nat.le_refl (u + 4)) ?_
  exact gw_icmp_eq C dL_law_332 rfl (fun _ => next (pw_o g) σ3 q4) (fun w => absurd q3.symm w)
theorem L_next {g : pw_G} {p : Program} {e : Env} {s : State} {m : MethodId} {args : Array Value} {below : List Frame} {meth : Method} {c : Code} {Z : State → Prop} {b L i u : Nat} {xs : Nat → Int32} {σ : pw_Mem} (C : GC g p s m c args RL cL_law 7) (hl9 : (pw_l g).stackTraces = false) (hN : pw_N s) (hI : Inv σ) (hu : u ≤ 19000) (next : ∀ o1 σ1, Inv σ1 → GW (pw_out g o1) p e room_1 s m args below meth c 7 Z 923 [(0, .ref b), (1, .ref (pw_ad g 0)), (2, .ref (pw_ad g 29)), (3, .ref (pw_ad g 46)), (4, .int (nI i))] [] (u + 4) σ1) (hX : va_X b L xs s s.heap) (hbl : b < s.heap.size) (hbA : ¬ pw_A g b) (hi : ∀ k : Nat, k < 5 → vp_in (nI i + nI k) L) : GW g p e room_1 s m args below meth c 7 Z 337 [(0, .ref b), (1, .ref (pw_ad g 0)), (2, .ref (pw_ad g 29)), (3, .ref (pw_ad g 46)), (4, .int (nI i))] [] u σ := by
  refine gw_aload_n 1 C dL_law_337 rfl rfl ?_
  refine gw_aload_n 0 C dL_law_338 rfl rfl ?_
  refine gw_iload 4 C dL_law_339 rfl ?_
  refine gw_iconst (v := 1) C dL_law_341 rfl ?_
  refine gw_iadd C dL_law_342 ?_
  refine gw_sld C hX hbl hbA dL_law_343 (hi 1 (by omega)) ?_
  refine gw_aload_n 0 C dL_law_344 rfl rfl ?_
  refine gw_iload 4 C dL_law_345 rfl ?_
  refine gw_iconst (v := 2) C dL_law_347 rfl ?_
  refine gw_iadd C dL_law_348 ?_
  refine gw_sld C hX hbl hbA dL_law_349 (hi 2 (by omega)) ?_
  refine gw_aload_n 3 C dL_law_350 rfl rfl ?_
  refine gw_callW (M := mL_next) (As := [.ref (pw_ad g 0), .int (xs (nI i + 1).toNatClampNeg), .int (xs (nI i + 2).toNatClampNeg), .ref (pw_ad g 46)]) (rest := []) C hN dL_law_351 ck_L_92 ⟨Nat.le_of_ble_eq_true rfl, Nat.le_of_ble_eq_true rfl⟩ rfl (Nat.le_of_ble_eq_true rfl) (rm_ok (show u ≤ 20000 by omega) (Nat.le_of_ble_eq_true rfl)) rfl (w_next (T_next hl9 hI)) (fun k o1 σ1 q => ?_)
  refine gw_wide (u' := u + 4) (Nat.add_le_add_left (Nat.le_of_ble_eq_true rfl) u) ?_
  obtain ⟨good, hx, hg⟩ := wR_x1 q
  refine gw_istore (C.out o1) dL_law_354 (by decide) rfl ?_
  refine gw_aload_n 2 (C.out o1) dL_law_356 rfl rfl ?_
  refine gw_aload_n 0 (C.out o1) dL_law_357 rfl rfl ?_
  refine gw_iload 4 (C.out o1) dL_law_358 rfl ?_
  refine gw_iconst (v := 1) (C.out o1) dL_law_360 rfl ?_
  refine gw_iadd (C.out o1) dL_law_361 ?_
  refine gw_sld (C.out o1) hX hbl hbA dL_law_362 (hi 1 (by omega)) ?_
  refine gw_aload_n 0 (C.out o1) dL_law_363 rfl rfl ?_
  refine gw_iload 4 (C.out o1) dL_law_364 rfl ?_
  refine gw_iconst (v := 2) (C.out o1) dL_law_366 rfl ?_
  refine gw_iadd (C.out o1) dL_law_367 ?_
  refine gw_sld (C.out o1) hX hbl hbA dL_law_368 (hi 2 (by omega)) ?_
  refine gw_callV (M' := mX5_next) (ci := 5) 29 [.int (xs (nI i + 1).toNatClampNeg), .int (xs (nI i + 2).toNatClampNeg)] [] (C.out o1) dL_law_369 ck_L_94 rfl rfl ⟨Nat.le_of_ble_eq_true rfl, Nat.le_of_ble_eq_true rfl⟩ rfl (Nat.le_of_ble_eq_true rfl) (Nat.le_of_ble_eq_true rfl) (rm_ok (show u + 4 ≤ 20000 by omega) (Nat.le_of_ble_eq_true rfl)) rfl (hx (pw_out g o1)) (fun rv σ2 q2 => ?_) (fun E σ2 q2 => by obtain ⟨_, _, q3, _⟩ := q2; cases q3)
  obtain ⟨v, σ3, q3, q4, q5, q6⟩ := q2
  cases q3
  refine gw_wide (u' := u + 4) (Nat.le_refl (u + 4)) ?_
  refine gw_istore (C.out o1) dL_law_372 (by decide) rfl ?_
  refine gw_aload_n 2 (C.out o1) dL_law_374 rfl rfl ?_
  refine gw_callV (M' := mX5_thrown) (Qm := fun r => r = (.inl (some (.int (σ2 29 0))), σ2)) (ci := 5) 29 [] [] (C.out o1) dL_law_375 ck_L_69 rfl rfl ⟨Nat.le_of_ble_eq_true rfl, Nat.le_of_ble_eq_true rfl⟩ rfl (Nat.le_of_ble_eq_true rfl) (Nat.le_of_ble_eq_true rfl) (rm_ok (show u + 4 ≤ 20000 by omega) (Nat.le_of_ble_eq_true rfl)) rfl (bX5_thrown_0 rfl) (fun rv σ4 q7 => ?_) (fun E σ4 q7 => by cases q7)
  cases q7
  refine gw_wide (u' := u + 4) (Nat.le_refl (u + 4)) ?_
  refine gw_iload 5 (C.out o1) dL_law_378 rfl ?_
  refine gw_icmp_eq (C.out o1) dL_law_380 rfl (fun _ => ?_) (fun w => absurd q4 w)
  refine gw_iload 5 (C.out o1) dL_law_385 rfl ?_
  refine gw_if_ne (C.out o1) dL_law_387 rfl (fun _ => ?_) (fun w0 => ?_)
  · refine gw_goto (C.out o1) dL_law_402 rfl ?_
    exact gw_sub [0, 1, 2, 3, 4] rfl (next o1 σ2 q6)
  · have heq := hg w0 v q5
    refine gw_aload_n 3 (C.out o1) dL_law_390 rfl rfl ?_
    refine gw_iconst (v := 0) (C.out o1) dL_law_391 rfl ?_
    refine gw_laload (C.out o1) dL_law_392 ?_
    refine gw_iload 6 (C.out o1) dL_law_393 rfl ?_
    refine gw_i2l (C.out o1) dL_law_395 ?_
    refine gw_lcmp (C.out o1) dL_law_396 ?_
    refine gw_if_eq (C.out o1) dL_law_397 rfl (fun _ => ?_) (fun w2 => absurd (cmpz heq) w2)
    refine gw_goto (C.out o1) dL_law_402 rfl ?_
    exact gw_sub [0, 1, 2, 3, 4] rfl (next o1 σ2 q6)
theorem L_sign {g : pw_G} {p : Program} {e : Env} {s : State} {m : MethodId} {args : Array Value} {below : List Frame} {meth : Method} {c : Code} {Z : State → Prop} {b L i u : Nat} {xs : Nat → Int32} {σ : pw_Mem} (C : GC g p s m c args RL cL_law 7) (hl9 : (pw_l g).stackTraces = false) (hN : pw_N s) (hI : Inv σ) (hu : u ≤ 19000) (next : ∀ o1 σ1, Inv σ1 → GW (pw_out g o1) p e room_1 s m args below meth c 7 Z 923 [(0, .ref b), (1, .ref (pw_ad g 0)), (2, .ref (pw_ad g 29)), (3, .ref (pw_ad g 46)), (4, .int (nI i))] [] (u + 4) σ1) (hX : va_X b L xs s s.heap) (hbl : b < s.heap.size) (hbA : ¬ pw_A g b) (hi : ∀ k : Nat, k < 5 → vp_in (nI i + nI k) L) : GW g p e room_1 s m args below meth c 7 Z 405 [(0, .ref b), (1, .ref (pw_ad g 0)), (2, .ref (pw_ad g 29)), (3, .ref (pw_ad g 46)), (4, .int (nI i))] [] u σ := by
  refine gw_aload_n 1 C dL_law_405 rfl rfl ?_
  refine gw_aload_n 0 C dL_law_406 rfl rfl ?_
  refine gw_iload 4 C dL_law_407 rfl ?_
  refine gw_iconst (v := 1) C dL_law_409 rfl ?_
  refine gw_iadd C dL_law_410 ?_
  refine gw_sld C hX hbl hbA dL_law_411 (hi 1 (by omega)) ?_
  refine gw_aload_n 3 C dL_law_412 rfl rfl ?_
  refine gw_callW (M := mL_sign) (As := [.ref (pw_ad g 0), .int (xs (nI i + 1).toNatClampNeg), .ref (pw_ad g 46)]) (rest := []) C hN dL_law_413 ck_L_95 ⟨Nat.le_of_ble_eq_true rfl, Nat.le_of_ble_eq_true rfl⟩ rfl (Nat.le_of_ble_eq_true rfl) (rm_ok (show u ≤ 20000 by omega) (Nat.le_of_ble_eq_true rfl)) rfl (w_sign (T_sign hl9 hI)) (fun k o1 σ1 q => ?_)
  refine gw_wide (u' := u + 4) (Nat.add_le_add_left (Nat.le_of_ble_eq_true rfl) u) ?_
  obtain ⟨good, hx, hg⟩ := wR_x1 q
  refine gw_istore (C.out o1) dL_law_416 (by decide) rfl ?_
  refine gw_aload_n 2 (C.out o1) dL_law_418 rfl rfl ?_
  refine gw_aload_n 0 (C.out o1) dL_law_419 rfl rfl ?_
  refine gw_iload 4 (C.out o1) dL_law_420 rfl ?_
  refine gw_iconst (v := 1) (C.out o1) dL_law_422 rfl ?_
  refine gw_iadd (C.out o1) dL_law_423 ?_
  refine gw_sld (C.out o1) hX hbl hbA dL_law_424 (hi 1 (by omega)) ?_
  refine gw_callV (M' := mX5_sign) (ci := 5) 29 [.int (xs (nI i + 1).toNatClampNeg)] [] (C.out o1) dL_law_425 ck_L_98 rfl rfl ⟨Nat.le_of_ble_eq_true rfl, Nat.le_of_ble_eq_true rfl⟩ rfl (Nat.le_of_ble_eq_true rfl) (Nat.le_of_ble_eq_true rfl) (rm_ok (show u + 4 ≤ 20000 by omega) (Nat.le_of_ble_eq_true rfl)) rfl (hx (pw_out g o1)) (fun rv σ2 q2 => ?_) (fun E σ2 q2 => by obtain ⟨_, _, q3, _⟩ := q2; cases q3)
  obtain ⟨v, σ3, q3, q4, q5, q6⟩ := q2
  cases q3
  refine gw_wide (u' := u + 4) (Nat.le_refl (u + 4)) ?_
  refine gw_istore (C.out o1) dL_law_428 (by decide) rfl ?_
  refine gw_aload_n 2 (C.out o1) dL_law_430 rfl rfl ?_
  refine gw_callV (M' := mX5_thrown) (Qm := fun r => r = (.inl (some (.int (σ2 29 0))), σ2)) (ci := 5) 29 [] [] (C.out o1) dL_law_431 ck_L_69 rfl rfl ⟨Nat.le_of_ble_eq_true rfl, Nat.le_of_ble_eq_true rfl⟩ rfl (Nat.le_of_ble_eq_true rfl) (Nat.le_of_ble_eq_true rfl) (rm_ok (show u + 4 ≤ 20000 by omega) (Nat.le_of_ble_eq_true rfl)) rfl (bX5_thrown_0 rfl) (fun rv σ4 q7 => ?_) (fun E σ4 q7 => by cases q7)
  cases q7
  refine gw_wide (u' := u + 4) (Nat.le_refl (u + 4)) ?_
  refine gw_iload 5 (C.out o1) dL_law_434 rfl ?_
  refine gw_icmp_eq (C.out o1) dL_law_436 rfl (fun _ => ?_) (fun w => absurd q4 w)
  refine gw_iload 5 (C.out o1) dL_law_441 rfl ?_
  refine gw_if_ne (C.out o1) dL_law_443 rfl (fun _ => ?_) (fun w0 => ?_)
  · refine gw_goto (C.out o1) dL_law_458 rfl ?_
    exact gw_sub [0, 1, 2, 3, 4] rfl (next o1 σ2 q6)
  · have heq := hg w0 v q5
    refine gw_aload_n 3 (C.out o1) dL_law_446 rfl rfl ?_
    refine gw_iconst (v := 0) (C.out o1) dL_law_447 rfl ?_
    refine gw_laload (C.out o1) dL_law_448 ?_
    refine gw_iload 6 (C.out o1) dL_law_449 rfl ?_
    refine gw_i2l (C.out o1) dL_law_451 ?_
    refine gw_lcmp (C.out o1) dL_law_452 ?_
    refine gw_if_eq (C.out o1) dL_law_453 rfl (fun _ => ?_) (fun w2 => absurd (cmpz heq) w2)
    refine gw_goto (C.out o1) dL_law_458 rfl ?_
    exact gw_sub [0, 1, 2, 3, 4] rfl (next o1 σ2 q6)
theorem L_accepts {g : pw_G} {p : Program} {e : Env} {s : State} {m : MethodId} {args : Array Value} {below : List Frame} {meth : Method} {c : Code} {Z : State → Prop} {b L i u : Nat} {xs : Nat → Int32} {σ : pw_Mem} (C : GC g p s m c args RL cL_law 7) (hl9 : (pw_l g).stackTraces = false) (hN : pw_N s) (hI : Inv σ) (hu : u ≤ 19000) (next : ∀ o1 σ1, Inv σ1 → GW (pw_out g o1) p e room_1 s m args below meth c 7 Z 923 [(0, .ref b), (1, .ref (pw_ad g 0)), (2, .ref (pw_ad g 29)), (3, .ref (pw_ad g 46)), (4, .int (nI i))] [] (u + 4) σ1) (hX : va_X b L xs s s.heap) (hbl : b < s.heap.size) (hbA : ¬ pw_A g b) (hi : ∀ k : Nat, k < 5 → vp_in (nI i + nI k) L) : GW g p e room_1 s m args below meth c 7 Z 461 [(0, .ref b), (1, .ref (pw_ad g 0)), (2, .ref (pw_ad g 29)), (3, .ref (pw_ad g 46)), (4, .int (nI i))] [] u σ := by
  refine gw_aload_n 1 C dL_law_461 rfl rfl ?_
  refine gw_aload_n 0 C dL_law_462 rfl rfl ?_
  refine gw_iload 4 C dL_law_463 rfl ?_
  refine gw_iconst (v := 1) C dL_law_465 rfl ?_
  refine gw_iadd C dL_law_466 ?_
  refine gw_sld C hX hbl hbA dL_law_467 (hi 1 (by omega)) ?_
  refine gw_aload_n 0 C dL_law_468 rfl rfl ?_
  refine gw_iload 4 C dL_law_469 rfl ?_
  refine gw_iconst (v := 2) C dL_law_471 rfl ?_
  refine gw_iadd C dL_law_472 ?_
  refine gw_sld C hX hbl hbA dL_law_473 (hi 2 (by omega)) ?_
  refine gw_aload_n 3 C dL_law_474 rfl rfl ?_
  refine gw_callW (M := mL_accepts) (As := [.ref (pw_ad g 0), .int (xs (nI i + 1).toNatClampNeg), .int (xs (nI i + 2).toNatClampNeg), .ref (pw_ad g 46)]) (rest := []) C hN dL_law_475 ck_L_99 ⟨Nat.le_of_ble_eq_true rfl, Nat.le_of_ble_eq_true rfl⟩ rfl (Nat.le_of_ble_eq_true rfl) (rm_ok (show u ≤ 20000 by omega) (Nat.le_of_ble_eq_true rfl)) rfl (w_accepts (T_accepts hl9 hI)) (fun k o1 σ1 q => ?_)
  refine gw_wide (u' := u + 4) (Nat.add_le_add_left (Nat.le_of_ble_eq_true rfl) u) ?_
  obtain ⟨good, hx, hg⟩ := wR_x q
  refine gw_istore (C.out o1) dL_law_478 (by decide) rfl ?_
  refine gw_aload_n 2 (C.out o1) dL_law_480 rfl rfl ?_
  refine gw_aload_n 0 (C.out o1) dL_law_481 rfl rfl ?_
  refine gw_iload 4 (C.out o1) dL_law_482 rfl ?_
  refine gw_iconst (v := 1) (C.out o1) dL_law_484 rfl ?_
  refine gw_iadd (C.out o1) dL_law_485 ?_
  refine gw_sld (C.out o1) hX hbl hbA dL_law_486 (hi 1 (by omega)) ?_
  refine gw_aload_n 0 (C.out o1) dL_law_487 rfl rfl ?_
  refine gw_iload 4 (C.out o1) dL_law_488 rfl ?_
  refine gw_iconst (v := 2) (C.out o1) dL_law_490 rfl ?_
  refine gw_iadd (C.out o1) dL_law_491 ?_
  refine gw_sld (C.out o1) hX hbl hbA dL_law_492 (hi 2 (by omega)) ?_
  refine gw_callV (M' := mX5_accepts) (ci := 5) 29 [.int (xs (nI i + 1).toNatClampNeg), .int (xs (nI i + 2).toNatClampNeg)] [] (C.out o1) dL_law_493 ck_L_101 rfl rfl ⟨Nat.le_of_ble_eq_true rfl, Nat.le_of_ble_eq_true rfl⟩ rfl (Nat.le_of_ble_eq_true rfl) (Nat.le_of_ble_eq_true rfl) (rm_ok (show u + 4 ≤ 20000 by omega) (Nat.le_of_ble_eq_true rfl)) rfl (hx (pw_out g o1)) (fun rv σ2 q2 => ?_) (fun E σ2 q2 => by obtain ⟨_, _, q3, _⟩ := q2; cases q3)
  obtain ⟨v, σ3, q3, q4, q5, q6⟩ := q2
  cases q3
  refine gw_wide (u' := u + 4) (Nat.le_refl (u + 4)) ?_
  refine gw_istore (C.out o1) dL_law_496 (by decide) rfl ?_
  refine gw_aload_n 2 (C.out o1) dL_law_498 rfl rfl ?_
  refine gw_callV (M' := mX5_thrown) (Qm := fun r => r = (.inl (some (.int (σ2 29 0))), σ2)) (ci := 5) 29 [] [] (C.out o1) dL_law_499 ck_L_69 rfl rfl ⟨Nat.le_of_ble_eq_true rfl, Nat.le_of_ble_eq_true rfl⟩ rfl (Nat.le_of_ble_eq_true rfl) (Nat.le_of_ble_eq_true rfl) (rm_ok (show u + 4 ≤ 20000 by omega) (Nat.le_of_ble_eq_true rfl)) rfl (bX5_thrown_0 rfl) (fun rv σ4 q7 => ?_) (fun E σ4 q7 => by cases q7)
  cases q7
  refine gw_wide (u' := u + 4) (Nat.le_refl (u + 4)) ?_
  refine gw_iload 5 (C.out o1) dL_law_502 rfl ?_
  refine gw_icmp_eq (C.out o1) dL_law_504 rfl (fun _ => ?_) (fun w => absurd q4 w)
  refine gw_iload 5 (C.out o1) dL_law_509 rfl ?_
  refine gw_if_ne (C.out o1) dL_law_511 rfl (fun _ => ?_) (fun w0 => ?_)
  · refine gw_goto (C.out o1) dL_law_533 rfl ?_
    exact gw_sub [0, 1, 2, 3, 4] rfl (next o1 σ2 q6)
  · have heq := hg w0 v q5
    refine gw_aload_n 3 (C.out o1) dL_law_514 rfl rfl ?_
    refine gw_iconst (v := 0) (C.out o1) dL_law_515 rfl ?_
    refine gw_laload (C.out o1) dL_law_516 ?_
    refine gw_iload 6 (C.out o1) dL_law_517 rfl ?_
    refine gw_if_eq (C.out o1) dL_law_519 rfl (fun w1 => ?_) (fun w1 => ?_)
    · refine gw_lconst (v := 0) (C.out o1) dL_law_526 rfl ?_
      refine gw_lcmp (C.out o1) dL_law_527 ?_
      refine gw_if_eq (C.out o1) dL_law_528 rfl (fun _ => ?_) (fun w2 => absurd (cmpz (heq.trans (by rw [zJ, if_pos w1]))) w2)
      refine gw_goto (C.out o1) dL_law_533 rfl ?_
      exact gw_sub [0, 1, 2, 3, 4] rfl (next o1 σ2 q6)
    · refine gw_lconst (v := 1) (C.out o1) dL_law_522 rfl ?_
      refine gw_goto (C.out o1) dL_law_523 rfl ?_
      refine gw_lcmp (C.out o1) dL_law_527 ?_
      refine gw_if_eq (C.out o1) dL_law_528 rfl (fun _ => ?_) (fun w2 => absurd (cmpz (heq.trans (by rw [zJ, if_neg w1]))) w2)
      refine gw_goto (C.out o1) dL_law_533 rfl ?_
      exact gw_sub [0, 1, 2, 3, 4] rfl (next o1 σ2 q6)
theorem L_draft {g : pw_G} {p : Program} {e : Env} {s : State} {m : MethodId} {args : Array Value} {below : List Frame} {meth : Method} {c : Code} {Z : State → Prop} {b L i u : Nat} {xs : Nat → Int32} {σ : pw_Mem} (C : GC g p s m c args RL cL_law 7) (hl9 : (pw_l g).stackTraces = false) (hN : pw_N s) (hI : Inv σ) (hu : u ≤ 19000) (next : ∀ o1 σ1, Inv σ1 → GW (pw_out g o1) p e room_1 s m args below meth c 7 Z 923 [(0, .ref b), (1, .ref (pw_ad g 0)), (2, .ref (pw_ad g 29)), (3, .ref (pw_ad g 46)), (4, .int (nI i))] [] (u + 4) σ1) (hX : va_X b L xs s s.heap) (hbl : b < s.heap.size) (hbA : ¬ pw_A g b) (hi : ∀ k : Nat, k < 5 → vp_in (nI i + nI k) L) : GW g p e room_1 s m args below meth c 7 Z 536 [(0, .ref b), (1, .ref (pw_ad g 0)), (2, .ref (pw_ad g 29)), (3, .ref (pw_ad g 46)), (4, .int (nI i))] [] u σ := by
  refine gw_aload_n 1 C dL_law_536 rfl rfl ?_
  refine gw_aload_n 0 C dL_law_537 rfl rfl ?_
  refine gw_iload 4 C dL_law_538 rfl ?_
  refine gw_iconst (v := 1) C dL_law_540 rfl ?_
  refine gw_iadd C dL_law_541 ?_
  refine gw_sld C hX hbl hbA dL_law_542 (hi 1 (by omega)) ?_
  refine gw_callW (M := mL_draft) (As := [.ref (pw_ad g 0), .int (xs (nI i + 1).toNatClampNeg)]) (rest := []) C hN dL_law_543 ck_L_102 ⟨Nat.le_of_ble_eq_true rfl, Nat.le_of_ble_eq_true rfl⟩ rfl (Nat.le_of_ble_eq_true rfl) (rm_ok (show u ≤ 20000 by omega) (Nat.le_of_ble_eq_true rfl)) rfl (w_draft (T_draft hl9 hI)) (fun k o1 σ1 q => ?_)
  refine gw_wide (u' := u + 4) (Nat.add_le_add_left (Nat.le_of_ble_eq_true rfl) u) ?_
  have hx := wR_v1 q
  refine gw_istore (C.out o1) dL_law_546 (by decide) rfl ?_
  refine gw_aload_n 2 (C.out o1) dL_law_548 rfl rfl ?_
  refine gw_aload_n 0 (C.out o1) dL_law_549 rfl rfl ?_
  refine gw_iload 4 (C.out o1) dL_law_550 rfl ?_
  refine gw_iconst (v := 1) (C.out o1) dL_law_552 rfl ?_
  refine gw_iadd (C.out o1) dL_law_553 ?_
  refine gw_sld (C.out o1) hX hbl hbA dL_law_554 (hi 1 (by omega)) ?_
  refine gw_callV (M' := mX5_draft) (ci := 5) 29 [.int (xs (nI i + 1).toNatClampNeg)] [] (C.out o1) dL_law_555 ck_L_105 rfl rfl ⟨Nat.le_of_ble_eq_true rfl, Nat.le_of_ble_eq_true rfl⟩ rfl (Nat.le_of_ble_eq_true rfl) (Nat.le_of_ble_eq_true rfl) (rm_ok (show u + 4 ≤ 20000 by omega) (Nat.le_of_ble_eq_true rfl)) rfl (hx (pw_out g o1)) (fun rv σ2 q2 => ?_) (fun E σ2 q2 => by obtain ⟨_, q3, _⟩ := q2; cases q3)
  obtain ⟨σ3, q3, q4, q6⟩ := q2
  cases q3
  refine gw_wide (u' := u + 4) (Nat.le_refl (u + 4)) ?_
  refine gw_aload_n 2 (C.out o1) dL_law_558 rfl rfl ?_
  refine gw_callV (M' := mX5_thrown) (Qm := fun r => r = (.inl (some (.int (σ2 29 0))), σ2)) (ci := 5) 29 [] [] (C.out o1) dL_law_559 ck_L_69 rfl rfl ⟨Nat.le_of_ble_eq_true rfl, Nat.le_of_ble_eq_true rfl⟩ rfl (Nat.le_of_ble_eq_true rfl) (Nat.le_of_ble_eq_true rfl) (rm_ok (show u + 4 ≤ 20000 by omega) (Nat.le_of_ble_eq_true rfl)) rfl (bX5_thrown_0 rfl) (fun rv σ4 q7 => ?_) (fun E σ4 q7 => by cases q7)
  cases q7
  refine gw_wide (u' := u + 4) (Nat.le_refl (u + 4)) ?_
  refine gw_iload 5 (C.out o1) dL_law_562 rfl ?_
  refine gw_icmp_eq (C.out o1) dL_law_564 rfl (fun _ => ?_) (fun w => absurd q4 w)
  refine gw_goto (C.out o1) dL_law_569 rfl ?_
  exact gw_sub [0, 1, 2, 3, 4] rfl (next o1 σ2 q6)
theorem L_define {g : pw_G} {p : Program} {e : Env} {s : State} {m : MethodId} {args : Array Value} {below : List Frame} {meth : Method} {c : Code} {Z : State → Prop} {b L i u : Nat} {xs : Nat → Int32} {σ : pw_Mem} (C : GC g p s m c args RL cL_law 7) (hl9 : (pw_l g).stackTraces = false) (hN : pw_N s) (hI : Inv σ) (hu : u ≤ 19000) (next : ∀ o1 σ1, Inv σ1 → GW (pw_out g o1) p e room_1 s m args below meth c 7 Z 923 [(0, .ref b), (1, .ref (pw_ad g 0)), (2, .ref (pw_ad g 29)), (3, .ref (pw_ad g 46)), (4, .int (nI i))] [] (u + 4) σ1) (hX : va_X b L xs s s.heap) (hbl : b < s.heap.size) (hbA : ¬ pw_A g b) (hi : ∀ k : Nat, k < 5 → vp_in (nI i + nI k) L) : GW g p e room_1 s m args below meth c 7 Z 572 [(0, .ref b), (1, .ref (pw_ad g 0)), (2, .ref (pw_ad g 29)), (3, .ref (pw_ad g 46)), (4, .int (nI i))] [] u σ := by
  by_cases z : xs (nI i + 2).toNatClampNeg = 0
  · refine gw_aload_n 1 C dL_law_572 rfl rfl ?_
    refine gw_aload_n 0 C dL_law_573 rfl rfl ?_
    refine gw_iload 4 C dL_law_574 rfl ?_
    refine gw_iconst (v := 1) C dL_law_576 rfl ?_
    refine gw_iadd C dL_law_577 ?_
    refine gw_sld C hX hbl hbA dL_law_578 (hi 1 (by omega)) ?_
    refine gw_aload_n 0 C dL_law_579 rfl rfl ?_
    refine gw_iload 4 C dL_law_580 rfl ?_
    refine gw_iconst (v := 2) C dL_law_582 rfl ?_
    refine gw_iadd C dL_law_583 ?_
    refine gw_sld C hX hbl hbA dL_law_584 (hi 2 (by omega)) ?_
    refine gw_if_eq C dL_law_585 rfl (fun _ => ?_) (fun w => absurd z w)
    refine gw_iconst (v := 0) C dL_law_592 rfl ?_
    refine gw_aload_n 0 C dL_law_593 rfl rfl ?_
    refine gw_iload 4 C dL_law_594 rfl ?_
    refine gw_iconst (v := 3) C dL_law_596 rfl ?_
    refine gw_iadd C dL_law_597 ?_
    refine gw_sld C hX hbl hbA dL_law_598 (hi 3 (by omega)) ?_
    refine gw_aload_n 0 C dL_law_599 rfl rfl ?_
    refine gw_iload 4 C dL_law_600 rfl ?_
    refine gw_iconst (v := 4) C dL_law_602 rfl ?_
    refine gw_iadd C dL_law_603 ?_
    refine gw_sld C hX hbl hbA dL_law_604 (hi 4 (by omega)) ?_
    refine gw_callW (M := mL_define) (As := [.ref (pw_ad g 0), .int (xs (nI i + 1).toNatClampNeg), .int 0, .int (xs (nI i + 3).toNatClampNeg), .int (xs (nI i + 4).toNatClampNeg)]) (rest := []) C hN dL_law_605 ck_L_106 ⟨Nat.le_of_ble_eq_true rfl, Nat.le_of_ble_eq_true rfl⟩ rfl (Nat.le_of_ble_eq_true rfl) (rm_ok (show u ≤ 20000 by omega) (Nat.le_of_ble_eq_true rfl)) rfl (w_define (T_define hl9 hI (Or.inl rfl))) (fun k o1 σ1 q => ?_)
    refine gw_wide (u' := u + 4) (Nat.add_le_add_left (Nat.le_of_ble_eq_true rfl) u) ?_
    have hx := wR_v q
    refine gw_istore (C.out o1) dL_law_608 (by decide) rfl ?_
    refine gw_aload_n 2 (C.out o1) dL_law_610 rfl rfl ?_
    refine gw_aload_n 0 (C.out o1) dL_law_611 rfl rfl ?_
    refine gw_iload 4 (C.out o1) dL_law_612 rfl ?_
    refine gw_iconst (v := 1) (C.out o1) dL_law_614 rfl ?_
    refine gw_iadd (C.out o1) dL_law_615 ?_
    refine gw_sld (C.out o1) hX hbl hbA dL_law_616 (hi 1 (by omega)) ?_
    refine gw_aload_n 0 (C.out o1) dL_law_617 rfl rfl ?_
    refine gw_iload 4 (C.out o1) dL_law_618 rfl ?_
    refine gw_iconst (v := 2) (C.out o1) dL_law_620 rfl ?_
    refine gw_iadd (C.out o1) dL_law_621 ?_
    refine gw_sld (C.out o1) hX hbl hbA dL_law_622 (hi 2 (by omega)) ?_
    refine gw_if_eq (C.out o1) dL_law_623 rfl (fun _ => ?_) (fun w => absurd z w)
    refine gw_iconst (v := 0) (C.out o1) dL_law_630 rfl ?_
    refine gw_aload_n 0 (C.out o1) dL_law_631 rfl rfl ?_
    refine gw_iload 4 (C.out o1) dL_law_632 rfl ?_
    refine gw_iconst (v := 3) (C.out o1) dL_law_634 rfl ?_
    refine gw_iadd (C.out o1) dL_law_635 ?_
    refine gw_sld (C.out o1) hX hbl hbA dL_law_636 (hi 3 (by omega)) ?_
    refine gw_aload_n 0 (C.out o1) dL_law_637 rfl rfl ?_
    refine gw_iload 4 (C.out o1) dL_law_638 rfl ?_
    refine gw_iconst (v := 4) (C.out o1) dL_law_640 rfl ?_
    refine gw_iadd (C.out o1) dL_law_641 ?_
    refine gw_sld (C.out o1) hX hbl hbA dL_law_642 (hi 4 (by omega)) ?_
    refine gw_callV (M' := mX5_define) (ci := 5) 29 [.int (xs (nI i + 1).toNatClampNeg), .int 0, .int (xs (nI i + 3).toNatClampNeg), .int (xs (nI i + 4).toNatClampNeg)] [] (C.out o1) dL_law_643 ck_L_109 rfl rfl ⟨Nat.le_of_ble_eq_true rfl, Nat.le_of_ble_eq_true rfl⟩ rfl (Nat.le_of_ble_eq_true rfl) (Nat.le_of_ble_eq_true rfl) (rm_ok (show u + 4 ≤ 20000 by omega) (Nat.le_of_ble_eq_true rfl)) rfl (hx (pw_out g o1)) (fun rv σ2 q2 => ?_) (fun E σ2 q2 => by obtain ⟨_, q3, _⟩ := q2; cases q3)
    obtain ⟨σ3, q3, q4, q6⟩ := q2
    cases q3
    refine gw_wide (u' := u + 4) (Nat.le_refl (u + 4)) ?_
    refine gw_aload_n 2 (C.out o1) dL_law_646 rfl rfl ?_
    refine gw_callV (M' := mX5_thrown) (Qm := fun r => r = (.inl (some (.int (σ2 29 0))), σ2)) (ci := 5) 29 [] [] (C.out o1) dL_law_647 ck_L_69 rfl rfl ⟨Nat.le_of_ble_eq_true rfl, Nat.le_of_ble_eq_true rfl⟩ rfl (Nat.le_of_ble_eq_true rfl) (Nat.le_of_ble_eq_true rfl) (rm_ok (show u + 4 ≤ 20000 by omega) (Nat.le_of_ble_eq_true rfl)) rfl (bX5_thrown_0 rfl) (fun rv σ4 q7 => ?_) (fun E σ4 q7 => by cases q7)
    cases q7
    refine gw_wide (u' := u + 4) (Nat.le_refl (u + 4)) ?_
    refine gw_iload 5 (C.out o1) dL_law_650 rfl ?_
    refine gw_icmp_eq (C.out o1) dL_law_652 rfl (fun _ => ?_) (fun w => absurd q4 w)
    refine gw_goto (C.out o1) dL_law_657 rfl ?_
    exact gw_sub [0, 1, 2, 3, 4] rfl (next o1 σ2 q6)
  · refine gw_aload_n 1 C dL_law_572 rfl rfl ?_
    refine gw_aload_n 0 C dL_law_573 rfl rfl ?_
    refine gw_iload 4 C dL_law_574 rfl ?_
    refine gw_iconst (v := 1) C dL_law_576 rfl ?_
    refine gw_iadd C dL_law_577 ?_
    refine gw_sld C hX hbl hbA dL_law_578 (hi 1 (by omega)) ?_
    refine gw_aload_n 0 C dL_law_579 rfl rfl ?_
    refine gw_iload 4 C dL_law_580 rfl ?_
    refine gw_iconst (v := 2) C dL_law_582 rfl ?_
    refine gw_iadd C dL_law_583 ?_
    refine gw_sld C hX hbl hbA dL_law_584 (hi 2 (by omega)) ?_
    refine gw_if_eq C dL_law_585 rfl (fun w => absurd w z) (fun _ => ?_)
    refine gw_iconst (v := 1) C dL_law_588 rfl ?_
    refine gw_goto C dL_law_589 rfl ?_
    refine gw_aload_n 0 C dL_law_593 rfl rfl ?_
    refine gw_iload 4 C dL_law_594 rfl ?_
    refine gw_iconst (v := 3) C dL_law_596 rfl ?_
    refine gw_iadd C dL_law_597 ?_
    refine gw_sld C hX hbl hbA dL_law_598 (hi 3 (by omega)) ?_
    refine gw_aload_n 0 C dL_law_599 rfl rfl ?_
    refine gw_iload 4 C dL_law_600 rfl ?_
    refine gw_iconst (v := 4) C dL_law_602 rfl ?_
    refine gw_iadd C dL_law_603 ?_
    refine gw_sld C hX hbl hbA dL_law_604 (hi 4 (by omega)) ?_
    refine gw_callW (M := mL_define) (As := [.ref (pw_ad g 0), .int (xs (nI i + 1).toNatClampNeg), .int 1, .int (xs (nI i + 3).toNatClampNeg), .int (xs (nI i + 4).toNatClampNeg)]) (rest := []) C hN dL_law_605 ck_L_106 ⟨Nat.le_of_ble_eq_true rfl, Nat.le_of_ble_eq_true rfl⟩ rfl (Nat.le_of_ble_eq_true rfl) (rm_ok (show u ≤ 20000 by omega) (Nat.le_of_ble_eq_true rfl)) rfl (w_define (T_define hl9 hI (Or.inr rfl))) (fun k o1 σ1 q => ?_)
    refine gw_wide (u' := u + 4) (Nat.add_le_add_left (Nat.le_of_ble_eq_true rfl) u) ?_
    have hx := wR_v q
    refine gw_istore (C.out o1) dL_law_608 (by decide) rfl ?_
    refine gw_aload_n 2 (C.out o1) dL_law_610 rfl rfl ?_
    refine gw_aload_n 0 (C.out o1) dL_law_611 rfl rfl ?_
    refine gw_iload 4 (C.out o1) dL_law_612 rfl ?_
    refine gw_iconst (v := 1) (C.out o1) dL_law_614 rfl ?_
    refine gw_iadd (C.out o1) dL_law_615 ?_
    refine gw_sld (C.out o1) hX hbl hbA dL_law_616 (hi 1 (by omega)) ?_
    refine gw_aload_n 0 (C.out o1) dL_law_617 rfl rfl ?_
    refine gw_iload 4 (C.out o1) dL_law_618 rfl ?_
    refine gw_iconst (v := 2) (C.out o1) dL_law_620 rfl ?_
    refine gw_iadd (C.out o1) dL_law_621 ?_
    refine gw_sld (C.out o1) hX hbl hbA dL_law_622 (hi 2 (by omega)) ?_
    refine gw_if_eq (C.out o1) dL_law_623 rfl (fun w => absurd w z) (fun _ => ?_)
    refine gw_iconst (v := 1) (C.out o1) dL_law_626 rfl ?_
    refine gw_goto (C.out o1) dL_law_627 rfl ?_
    refine gw_aload_n 0 (C.out o1) dL_law_631 rfl rfl ?_
    refine gw_iload 4 (C.out o1) dL_law_632 rfl ?_
    refine gw_iconst (v := 3) (C.out o1) dL_law_634 rfl ?_
    refine gw_iadd (C.out o1) dL_law_635 ?_
    refine gw_sld (C.out o1) hX hbl hbA dL_law_636 (hi 3 (by omega)) ?_
    refine gw_aload_n 0 (C.out o1) dL_law_637 rfl rfl ?_
    refine gw_iload 4 (C.out o1) dL_law_638 rfl ?_
    refine gw_iconst (v := 4) (C.out o1) dL_law_640 rfl ?_
    refine gw_iadd (C.out o1) dL_law_641 ?_
    refine gw_sld (C.out o1) hX hbl hbA dL_law_642 (hi 4 (by omega)) ?_
    refine gw_callV (M' := mX5_define) (ci := 5) 29 [.int (xs (nI i + 1).toNatClampNeg), .int 1, .int (xs (nI i + 3).toNatClampNeg), .int (xs (nI i + 4).toNatClampNeg)] [] (C.out o1) dL_law_643 ck_L_109 rfl rfl ⟨Nat.le_of_ble_eq_true rfl, Nat.le_of_ble_eq_true rfl⟩ rfl (Nat.le_of_ble_eq_true rfl) (Nat.le_of_ble_eq_true rfl) (rm_ok (show u + 4 ≤ 20000 by omega) (Nat.le_of_ble_eq_true rfl)) rfl (hx (pw_out g o1)) (fun rv σ2 q2 => ?_) (fun E σ2 q2 => by obtain ⟨_, q3, _⟩ := q2; cases q3)
    obtain ⟨σ3, q3, q4, q6⟩ := q2
    cases q3
    refine gw_wide (u' := u + 4) (Nat.le_refl (u + 4)) ?_
    refine gw_aload_n 2 (C.out o1) dL_law_646 rfl rfl ?_
    refine gw_callV (M' := mX5_thrown) (Qm := fun r => r = (.inl (some (.int (σ2 29 0))), σ2)) (ci := 5) 29 [] [] (C.out o1) dL_law_647 ck_L_69 rfl rfl ⟨Nat.le_of_ble_eq_true rfl, Nat.le_of_ble_eq_true rfl⟩ rfl (Nat.le_of_ble_eq_true rfl) (Nat.le_of_ble_eq_true rfl) (rm_ok (show u + 4 ≤ 20000 by omega) (Nat.le_of_ble_eq_true rfl)) rfl (bX5_thrown_0 rfl) (fun rv σ4 q7 => ?_) (fun E σ4 q7 => by cases q7)
    cases q7
    refine gw_wide (u' := u + 4) (Nat.le_refl (u + 4)) ?_
    refine gw_iload 5 (C.out o1) dL_law_650 rfl ?_
    refine gw_icmp_eq (C.out o1) dL_law_652 rfl (fun _ => ?_) (fun w => absurd q4 w)
    refine gw_goto (C.out o1) dL_law_657 rfl ?_
    exact gw_sub [0, 1, 2, 3, 4] rfl (next o1 σ2 q6)
theorem L_least {g : pw_G} {p : Program} {e : Env} {s : State} {m : MethodId} {args : Array Value} {below : List Frame} {meth : Method} {c : Code} {Z : State → Prop} {b L i u : Nat} {xs : Nat → Int32} {σ : pw_Mem} (C : GC g p s m c args RL cL_law 7) (hl9 : (pw_l g).stackTraces = false) (hN : pw_N s) (hI : Inv σ) (hu : u ≤ 19000) (next : ∀ o1 σ1, Inv σ1 → GW (pw_out g o1) p e room_1 s m args below meth c 7 Z 923 [(0, .ref b), (1, .ref (pw_ad g 0)), (2, .ref (pw_ad g 29)), (3, .ref (pw_ad g 46)), (4, .int (nI i))] [] (u + 4) σ1) (hX : va_X b L xs s s.heap) (hbl : b < s.heap.size) (hbA : ¬ pw_A g b) (hi : ∀ k : Nat, k < 5 → vp_in (nI i + nI k) L) : GW g p e room_1 s m args below meth c 7 Z 660 [(0, .ref b), (1, .ref (pw_ad g 0)), (2, .ref (pw_ad g 29)), (3, .ref (pw_ad g 46)), (4, .int (nI i))] [] u σ := by
  refine gw_aload_n 1 C dL_law_660 rfl rfl ?_
  refine gw_aload_n 3 C dL_law_661 rfl rfl ?_
  refine gw_callW (M := mL_least) (As := [.ref (pw_ad g 0), .ref (pw_ad g 46)]) (rest := []) C hN dL_law_662 ck_L_110 ⟨Nat.le_of_ble_eq_true rfl, Nat.le_of_ble_eq_true rfl⟩ rfl (Nat.le_of_ble_eq_true rfl) (rm_ok (show u ≤ 20000 by omega) (Nat.le_of_ble_eq_true rfl)) rfl (w_least (T_least hl9 hI)) (fun k o1 σ1 q => ?_)
  refine gw_wide (u' := u + 4) (Nat.add_le_add_left (Nat.le_of_ble_eq_true rfl) u) ?_
  obtain ⟨good, hx, hg⟩ := wR_x1 q
  refine gw_istore (C.out o1) dL_law_665 (by decide) rfl ?_
  refine gw_aload_n 2 (C.out o1) dL_law_667 rfl rfl ?_
  refine gw_callV (M' := mX5_least) (ci := 5) 29 [] [] (C.out o1) dL_law_668 ck_L_113 rfl rfl ⟨Nat.le_of_ble_eq_true rfl, Nat.le_of_ble_eq_true rfl⟩ rfl (Nat.le_of_ble_eq_true rfl) (Nat.le_of_ble_eq_true rfl) (rm_ok (show u + 4 ≤ 20000 by omega) (Nat.le_of_ble_eq_true rfl)) rfl (hx (pw_out g o1)) (fun rv σ2 q2 => ?_) (fun E σ2 q2 => by obtain ⟨_, _, q3, _⟩ := q2; cases q3)
  obtain ⟨v, σ3, q3, q4, q5, q6⟩ := q2
  cases q3
  refine gw_wide (u' := u + 4) (Nat.le_refl (u + 4)) ?_
  refine gw_istore (C.out o1) dL_law_671 (by decide) rfl ?_
  refine gw_aload_n 2 (C.out o1) dL_law_673 rfl rfl ?_
  refine gw_callV (M' := mX5_thrown) (Qm := fun r => r = (.inl (some (.int (σ2 29 0))), σ2)) (ci := 5) 29 [] [] (C.out o1) dL_law_674 ck_L_69 rfl rfl ⟨Nat.le_of_ble_eq_true rfl, Nat.le_of_ble_eq_true rfl⟩ rfl (Nat.le_of_ble_eq_true rfl) (Nat.le_of_ble_eq_true rfl) (rm_ok (show u + 4 ≤ 20000 by omega) (Nat.le_of_ble_eq_true rfl)) rfl (bX5_thrown_0 rfl) (fun rv σ4 q7 => ?_) (fun E σ4 q7 => by cases q7)
  cases q7
  refine gw_wide (u' := u + 4) (Nat.le_refl (u + 4)) ?_
  refine gw_iload 5 (C.out o1) dL_law_677 rfl ?_
  refine gw_icmp_eq (C.out o1) dL_law_679 rfl (fun _ => ?_) (fun w => absurd q4 w)
  refine gw_iload 5 (C.out o1) dL_law_684 rfl ?_
  refine gw_if_ne (C.out o1) dL_law_686 rfl (fun _ => ?_) (fun w0 => ?_)
  · refine gw_goto (C.out o1) dL_law_701 rfl ?_
    exact gw_sub [0, 1, 2, 3, 4] rfl (next o1 σ2 q6)
  · have heq := hg w0 v q5
    refine gw_aload_n 3 (C.out o1) dL_law_689 rfl rfl ?_
    refine gw_iconst (v := 0) (C.out o1) dL_law_690 rfl ?_
    refine gw_laload (C.out o1) dL_law_691 ?_
    refine gw_iload 6 (C.out o1) dL_law_692 rfl ?_
    refine gw_i2l (C.out o1) dL_law_694 ?_
    refine gw_lcmp (C.out o1) dL_law_695 ?_
    refine gw_if_eq (C.out o1) dL_law_696 rfl (fun _ => ?_) (fun w2 => absurd (cmpz heq) w2)
    refine gw_goto (C.out o1) dL_law_701 rfl ?_
    exact gw_sub [0, 1, 2, 3, 4] rfl (next o1 σ2 q6)
theorem L_name {g : pw_G} {p : Program} {e : Env} {s : State} {m : MethodId} {args : Array Value} {below : List Frame} {meth : Method} {c : Code} {Z : State → Prop} {b L i u : Nat} {xs : Nat → Int32} {σ : pw_Mem} (C : GC g p s m c args RL cL_law 7) (hl9 : (pw_l g).stackTraces = false) (hN : pw_N s) (hI : Inv σ) (hu : u ≤ 19000) (next : ∀ o1 σ1, Inv σ1 → GW (pw_out g o1) p e room_1 s m args below meth c 7 Z 923 [(0, .ref b), (1, .ref (pw_ad g 0)), (2, .ref (pw_ad g 29)), (3, .ref (pw_ad g 46)), (4, .int (nI i))] [] (u + 4) σ1) (hX : va_X b L xs s s.heap) (hbl : b < s.heap.size) (hbA : ¬ pw_A g b) (hi : ∀ k : Nat, k < 5 → vp_in (nI i + nI k) L) : GW g p e room_1 s m args below meth c 7 Z 704 [(0, .ref b), (1, .ref (pw_ad g 0)), (2, .ref (pw_ad g 29)), (3, .ref (pw_ad g 46)), (4, .int (nI i))] [] u σ := by
  refine gw_aload_n 1 C dL_law_704 rfl rfl ?_
  refine gw_aload_n 0 C dL_law_705 rfl rfl ?_
  refine gw_iload 4 C dL_law_706 rfl ?_
  refine gw_iconst (v := 1) C dL_law_708 rfl ?_
  refine gw_iadd C dL_law_709 ?_
  refine gw_sld C hX hbl hbA dL_law_710 (hi 1 (by omega)) ?_
  refine gw_aload_n 3 C dL_law_711 rfl rfl ?_
  refine gw_callW (M := mL_name) (As := [.ref (pw_ad g 0), .int (xs (nI i + 1).toNatClampNeg), .ref (pw_ad g 46)]) (rest := []) C hN dL_law_712 ck_L_114 ⟨Nat.le_of_ble_eq_true rfl, Nat.le_of_ble_eq_true rfl⟩ rfl (Nat.le_of_ble_eq_true rfl) (rm_ok (show u ≤ 20000 by omega) (Nat.le_of_ble_eq_true rfl)) rfl (w_name (T_name hl9 hI)) (fun k o1 σ1 q => ?_)
  refine gw_wide (u' := u + 4) (Nat.add_le_add_left (Nat.le_of_ble_eq_true rfl) u) ?_
  obtain ⟨good, hx, hg⟩ := wR_x q
  refine gw_istore (C.out o1) dL_law_715 (by decide) rfl ?_
  refine gw_aload_n 2 (C.out o1) dL_law_717 rfl rfl ?_
  refine gw_aload_n 0 (C.out o1) dL_law_718 rfl rfl ?_
  refine gw_iload 4 (C.out o1) dL_law_719 rfl ?_
  refine gw_iconst (v := 1) (C.out o1) dL_law_721 rfl ?_
  refine gw_iadd (C.out o1) dL_law_722 ?_
  refine gw_sld (C.out o1) hX hbl hbA dL_law_723 (hi 1 (by omega)) ?_
  refine gw_callV (M' := mX5_name) (ci := 5) 29 [.int (xs (nI i + 1).toNatClampNeg)] [] (C.out o1) dL_law_724 ck_L_116 rfl rfl ⟨Nat.le_of_ble_eq_true rfl, Nat.le_of_ble_eq_true rfl⟩ rfl (Nat.le_of_ble_eq_true rfl) (Nat.le_of_ble_eq_true rfl) (rm_ok (show u + 4 ≤ 20000 by omega) (Nat.le_of_ble_eq_true rfl)) rfl (hx (pw_out g o1)) (fun rv σ2 q2 => ?_) (fun E σ2 q2 => by obtain ⟨_, _, q3, _⟩ := q2; cases q3)
  obtain ⟨v, σ3, q3, q4, q5, q6⟩ := q2
  cases q3
  refine gw_wide (u' := u + 4) (Nat.le_refl (u + 4)) ?_
  refine gw_istore (C.out o1) dL_law_727 (by decide) rfl ?_
  refine gw_aload_n 2 (C.out o1) dL_law_729 rfl rfl ?_
  refine gw_callV (M' := mX5_thrown) (Qm := fun r => r = (.inl (some (.int (σ2 29 0))), σ2)) (ci := 5) 29 [] [] (C.out o1) dL_law_730 ck_L_69 rfl rfl ⟨Nat.le_of_ble_eq_true rfl, Nat.le_of_ble_eq_true rfl⟩ rfl (Nat.le_of_ble_eq_true rfl) (Nat.le_of_ble_eq_true rfl) (rm_ok (show u + 4 ≤ 20000 by omega) (Nat.le_of_ble_eq_true rfl)) rfl (bX5_thrown_0 rfl) (fun rv σ4 q7 => ?_) (fun E σ4 q7 => by cases q7)
  cases q7
  refine gw_wide (u' := u + 4) (Nat.le_refl (u + 4)) ?_
  refine gw_iload 5 (C.out o1) dL_law_733 rfl ?_
  refine gw_icmp_eq (C.out o1) dL_law_735 rfl (fun _ => ?_) (fun w => absurd q4 w)
  refine gw_iload 5 (C.out o1) dL_law_740 rfl ?_
  refine gw_if_ne (C.out o1) dL_law_742 rfl (fun _ => ?_) (fun w0 => ?_)
  · refine gw_goto (C.out o1) dL_law_757 rfl ?_
    exact gw_sub [0, 1, 2, 3, 4] rfl (next o1 σ2 q6)
  · have heq := hg w0 v q5
    refine gw_aload_n 3 (C.out o1) dL_law_745 rfl rfl ?_
    refine gw_iconst (v := 0) (C.out o1) dL_law_746 rfl ?_
    refine gw_laload (C.out o1) dL_law_747 ?_
    refine gw_iload 6 (C.out o1) dL_law_748 rfl ?_
    refine gw_i2l (C.out o1) dL_law_750 ?_
    refine gw_lcmp (C.out o1) dL_law_751 ?_
    refine gw_if_eq (C.out o1) dL_law_752 rfl (fun _ => ?_) (fun w2 => absurd (cmpz heq) w2)
    refine gw_goto (C.out o1) dL_law_757 rfl ?_
    exact gw_sub [0, 1, 2, 3, 4] rfl (next o1 σ2 q6)
theorem L_apart {g : pw_G} {p : Program} {e : Env} {s : State} {m : MethodId} {args : Array Value} {below : List Frame} {meth : Method} {c : Code} {Z : State → Prop} {b L i u : Nat} {xs : Nat → Int32} {σ : pw_Mem} (C : GC g p s m c args RL cL_law 7) (hl9 : (pw_l g).stackTraces = false) (hN : pw_N s) (hI : Inv σ) (hu : u ≤ 19000) (next : ∀ o1 σ1, Inv σ1 → GW (pw_out g o1) p e room_1 s m args below meth c 7 Z 923 [(0, .ref b), (1, .ref (pw_ad g 0)), (2, .ref (pw_ad g 29)), (3, .ref (pw_ad g 46)), (4, .int (nI i))] [] (u + 4) σ1) (hX : va_X b L xs s s.heap) (hbl : b < s.heap.size) (hbA : ¬ pw_A g b) (hi : ∀ k : Nat, k < 5 → vp_in (nI i + nI k) L) : GW g p e room_1 s m args below meth c 7 Z 760 [(0, .ref b), (1, .ref (pw_ad g 0)), (2, .ref (pw_ad g 29)), (3, .ref (pw_ad g 46)), (4, .int (nI i))] [] u σ := by
  refine gw_aload_n 1 C dL_law_760 rfl rfl ?_
  refine gw_aload_n 0 C dL_law_761 rfl rfl ?_
  refine gw_iload 4 C dL_law_762 rfl ?_
  refine gw_iconst (v := 1) C dL_law_764 rfl ?_
  refine gw_iadd C dL_law_765 ?_
  refine gw_sld C hX hbl hbA dL_law_766 (hi 1 (by omega)) ?_
  refine gw_aload_n 0 C dL_law_767 rfl rfl ?_
  refine gw_iload 4 C dL_law_768 rfl ?_
  refine gw_iconst (v := 2) C dL_law_770 rfl ?_
  refine gw_iadd C dL_law_771 ?_
  refine gw_sld C hX hbl hbA dL_law_772 (hi 2 (by omega)) ?_
  refine gw_aload_n 3 C dL_law_773 rfl rfl ?_
  refine gw_callW (M := mL_apart) (As := [.ref (pw_ad g 0), .int (xs (nI i + 1).toNatClampNeg), .int (xs (nI i + 2).toNatClampNeg), .ref (pw_ad g 46)]) (rest := []) C hN dL_law_774 ck_L_117 ⟨Nat.le_of_ble_eq_true rfl, Nat.le_of_ble_eq_true rfl⟩ rfl (Nat.le_of_ble_eq_true rfl) (rm_ok (show u ≤ 20000 by omega) (Nat.le_of_ble_eq_true rfl)) rfl (w_apart (T_apart hl9 hI)) (fun k o1 σ1 q => ?_)
  refine gw_wide (u' := u + 4) (Nat.add_le_add_left (Nat.le_of_ble_eq_true rfl) u) ?_
  obtain ⟨good, hx, hg⟩ := wR_x q
  refine gw_istore (C.out o1) dL_law_777 (by decide) rfl ?_
  refine gw_aload_n 2 (C.out o1) dL_law_779 rfl rfl ?_
  refine gw_aload_n 0 (C.out o1) dL_law_780 rfl rfl ?_
  refine gw_iload 4 (C.out o1) dL_law_781 rfl ?_
  refine gw_iconst (v := 1) (C.out o1) dL_law_783 rfl ?_
  refine gw_iadd (C.out o1) dL_law_784 ?_
  refine gw_sld (C.out o1) hX hbl hbA dL_law_785 (hi 1 (by omega)) ?_
  refine gw_aload_n 0 (C.out o1) dL_law_786 rfl rfl ?_
  refine gw_iload 4 (C.out o1) dL_law_787 rfl ?_
  refine gw_iconst (v := 2) (C.out o1) dL_law_789 rfl ?_
  refine gw_iadd (C.out o1) dL_law_790 ?_
  refine gw_sld (C.out o1) hX hbl hbA dL_law_791 (hi 2 (by omega)) ?_
  refine gw_callV (M' := mX5_apart) (ci := 5) 29 [.int (xs (nI i + 1).toNatClampNeg), .int (xs (nI i + 2).toNatClampNeg)] [] (C.out o1) dL_law_792 ck_L_119 rfl rfl ⟨Nat.le_of_ble_eq_true rfl, Nat.le_of_ble_eq_true rfl⟩ rfl (Nat.le_of_ble_eq_true rfl) (Nat.le_of_ble_eq_true rfl) (rm_ok (show u + 4 ≤ 20000 by omega) (Nat.le_of_ble_eq_true rfl)) rfl (hx (pw_out g o1)) (fun rv σ2 q2 => ?_) (fun E σ2 q2 => by obtain ⟨_, _, q3, _⟩ := q2; cases q3)
  obtain ⟨v, σ3, q3, q4, q5, q6⟩ := q2
  cases q3
  refine gw_wide (u' := u + 4) (Nat.le_refl (u + 4)) ?_
  refine gw_istore (C.out o1) dL_law_795 (by decide) rfl ?_
  refine gw_aload_n 2 (C.out o1) dL_law_797 rfl rfl ?_
  refine gw_callV (M' := mX5_thrown) (Qm := fun r => r = (.inl (some (.int (σ2 29 0))), σ2)) (ci := 5) 29 [] [] (C.out o1) dL_law_798 ck_L_69 rfl rfl ⟨Nat.le_of_ble_eq_true rfl, Nat.le_of_ble_eq_true rfl⟩ rfl (Nat.le_of_ble_eq_true rfl) (Nat.le_of_ble_eq_true rfl) (rm_ok (show u + 4 ≤ 20000 by omega) (Nat.le_of_ble_eq_true rfl)) rfl (bX5_thrown_0 rfl) (fun rv σ4 q7 => ?_) (fun E σ4 q7 => by cases q7)
  cases q7
  refine gw_wide (u' := u + 4) (Nat.le_refl (u + 4)) ?_
  refine gw_iload 5 (C.out o1) dL_law_801 rfl ?_
  refine gw_icmp_eq (C.out o1) dL_law_803 rfl (fun _ => ?_) (fun w => absurd q4 w)
  refine gw_iload 5 (C.out o1) dL_law_808 rfl ?_
  refine gw_if_ne (C.out o1) dL_law_810 rfl (fun _ => ?_) (fun w0 => ?_)
  · refine gw_goto (C.out o1) dL_law_825 rfl ?_
    exact gw_sub [0, 1, 2, 3, 4] rfl (next o1 σ2 q6)
  · have heq := hg w0 v q5
    refine gw_aload_n 3 (C.out o1) dL_law_813 rfl rfl ?_
    refine gw_iconst (v := 0) (C.out o1) dL_law_814 rfl ?_
    refine gw_laload (C.out o1) dL_law_815 ?_
    refine gw_iload 6 (C.out o1) dL_law_816 rfl ?_
    refine gw_i2l (C.out o1) dL_law_818 ?_
    refine gw_lcmp (C.out o1) dL_law_819 ?_
    refine gw_if_eq (C.out o1) dL_law_820 rfl (fun _ => ?_) (fun w2 => absurd (cmpz heq) w2)
    refine gw_goto (C.out o1) dL_law_825 rfl ?_
    exact gw_sub [0, 1, 2, 3, 4] rfl (next o1 σ2 q6)
theorem L_exemplify {g : pw_G} {p : Program} {e : Env} {s : State} {m : MethodId} {args : Array Value} {below : List Frame} {meth : Method} {c : Code} {Z : State → Prop} {b L i u : Nat} {xs : Nat → Int32} {σ : pw_Mem} (C : GC g p s m c args RL cL_law 7) (hl9 : (pw_l g).stackTraces = false) (hN : pw_N s) (hI : Inv σ) (hu : u ≤ 19000) (next : ∀ o1 σ1, Inv σ1 → GW (pw_out g o1) p e room_1 s m args below meth c 7 Z 923 [(0, .ref b), (1, .ref (pw_ad g 0)), (2, .ref (pw_ad g 29)), (3, .ref (pw_ad g 46)), (4, .int (nI i))] [] (u + 4) σ1) (hX : va_X b L xs s s.heap) (hbl : b < s.heap.size) (hbA : ¬ pw_A g b) (hi : ∀ k : Nat, k < 5 → vp_in (nI i + nI k) L) : GW g p e room_1 s m args below meth c 7 Z 828 [(0, .ref b), (1, .ref (pw_ad g 0)), (2, .ref (pw_ad g 29)), (3, .ref (pw_ad g 46)), (4, .int (nI i))] [] u σ := by
  refine gw_aload_n 1 C dL_law_828 rfl rfl ?_
  refine gw_aload_n 3 C dL_law_829 rfl rfl ?_
  refine gw_callW (M := mL_exemplify) (As := [.ref (pw_ad g 0), .ref (pw_ad g 46)]) (rest := []) C hN dL_law_830 ck_L_120 ⟨Nat.le_of_ble_eq_true rfl, Nat.le_of_ble_eq_true rfl⟩ rfl (Nat.le_of_ble_eq_true rfl) (rm_ok (show u ≤ 20000 by omega) (Nat.le_of_ble_eq_true rfl)) rfl (w_exemplify (T_exemplify hl9 hI)) (fun k o1 σ1 q => ?_)
  refine gw_wide (u' := u + 4) (Nat.add_le_add_left (Nat.le_of_ble_eq_true rfl) u) ?_
  obtain ⟨good, hx, hg⟩ := wR_x q
  refine gw_istore (C.out o1) dL_law_833 (by decide) rfl ?_
  refine gw_aload_n 2 (C.out o1) dL_law_835 rfl rfl ?_
  refine gw_callV (M' := mX5_exemplify) (ci := 5) 29 [] [] (C.out o1) dL_law_836 ck_L_122 rfl rfl ⟨Nat.le_of_ble_eq_true rfl, Nat.le_of_ble_eq_true rfl⟩ rfl (Nat.le_of_ble_eq_true rfl) (Nat.le_of_ble_eq_true rfl) (rm_ok (show u + 4 ≤ 20000 by omega) (Nat.le_of_ble_eq_true rfl)) rfl (hx (pw_out g o1)) (fun rv σ2 q2 => ?_) (fun E σ2 q2 => by obtain ⟨_, _, q3, _⟩ := q2; cases q3)
  obtain ⟨v, σ3, q3, q4, q5, q6⟩ := q2
  cases q3
  refine gw_wide (u' := u + 4) (Nat.le_refl (u + 4)) ?_
  refine gw_istore (C.out o1) dL_law_839 (by decide) rfl ?_
  refine gw_aload_n 2 (C.out o1) dL_law_841 rfl rfl ?_
  refine gw_callV (M' := mX5_thrown) (Qm := fun r => r = (.inl (some (.int (σ2 29 0))), σ2)) (ci := 5) 29 [] [] (C.out o1) dL_law_842 ck_L_69 rfl rfl ⟨Nat.le_of_ble_eq_true rfl, Nat.le_of_ble_eq_true rfl⟩ rfl (Nat.le_of_ble_eq_true rfl) (Nat.le_of_ble_eq_true rfl) (rm_ok (show u + 4 ≤ 20000 by omega) (Nat.le_of_ble_eq_true rfl)) rfl (bX5_thrown_0 rfl) (fun rv σ4 q7 => ?_) (fun E σ4 q7 => by cases q7)
  cases q7
  refine gw_wide (u' := u + 4) (Nat.le_refl (u + 4)) ?_
  refine gw_iload 5 (C.out o1) dL_law_845 rfl ?_
  refine gw_icmp_eq (C.out o1) dL_law_847 rfl (fun _ => ?_) (fun w => absurd q4 w)
  refine gw_iload 5 (C.out o1) dL_law_852 rfl ?_
  refine gw_if_ne (C.out o1) dL_law_854 rfl (fun _ => ?_) (fun w0 => ?_)
  · refine gw_goto (C.out o1) dL_law_869 rfl ?_
    exact gw_sub [0, 1, 2, 3, 4] rfl (next o1 σ2 q6)
  · have heq := hg w0 v q5
    refine gw_aload_n 3 (C.out o1) dL_law_857 rfl rfl ?_
    refine gw_iconst (v := 0) (C.out o1) dL_law_858 rfl ?_
    refine gw_laload (C.out o1) dL_law_859 ?_
    refine gw_iload 6 (C.out o1) dL_law_860 rfl ?_
    refine gw_i2l (C.out o1) dL_law_862 ?_
    refine gw_lcmp (C.out o1) dL_law_863 ?_
    refine gw_if_eq (C.out o1) dL_law_864 rfl (fun _ => ?_) (fun w2 => absurd (cmpz heq) w2)
    refine gw_goto (C.out o1) dL_law_869 rfl ?_
    exact gw_sub [0, 1, 2, 3, 4] rfl (next o1 σ2 q6)
theorem L_same {g : pw_G} {p : Program} {e : Env} {s : State} {m : MethodId} {args : Array Value} {below : List Frame} {meth : Method} {c : Code} {Z : State → Prop} {b L i u : Nat} {xs : Nat → Int32} {σ : pw_Mem} (C : GC g p s m c args RL cL_law 7) (hl9 : (pw_l g).stackTraces = false) (hN : pw_N s) (hI : Inv σ) (hu : u ≤ 19000) (next : ∀ o1 σ1, Inv σ1 → GW (pw_out g o1) p e room_1 s m args below meth c 7 Z 923 [(0, .ref b), (1, .ref (pw_ad g 0)), (2, .ref (pw_ad g 29)), (3, .ref (pw_ad g 46)), (4, .int (nI i))] [] (u + 4) σ1) (hX : va_X b L xs s s.heap) (hbl : b < s.heap.size) (hbA : ¬ pw_A g b) (hi : ∀ k : Nat, k < 5 → vp_in (nI i + nI k) L) : GW g p e room_1 s m args below meth c 7 Z 872 [(0, .ref b), (1, .ref (pw_ad g 0)), (2, .ref (pw_ad g 29)), (3, .ref (pw_ad g 46)), (4, .int (nI i))] [] u σ := by
  refine gw_aload_n 1 C dL_law_872 rfl rfl ?_
  refine gw_aload_n 3 C dL_law_873 rfl rfl ?_
  refine gw_callW (M := mL_same) (As := [.ref (pw_ad g 0), .ref (pw_ad g 46)]) (rest := []) C hN dL_law_874 ck_L_123 ⟨Nat.le_of_ble_eq_true rfl, Nat.le_of_ble_eq_true rfl⟩ rfl (Nat.le_of_ble_eq_true rfl) (rm_ok (show u ≤ 20000 by omega) (Nat.le_of_ble_eq_true rfl)) rfl (w_same (T_same hl9 hI)) (fun k o1 σ1 q => ?_)
  refine gw_wide (u' := u + 4) (Nat.add_le_add_left (Nat.le_of_ble_eq_true rfl) u) ?_
  obtain ⟨good, hx, hg⟩ := wR_x1 q
  refine gw_istore (C.out o1) dL_law_877 (by decide) rfl ?_
  refine gw_aload_n 2 (C.out o1) dL_law_879 rfl rfl ?_
  refine gw_callV (M' := mX5_same) (ci := 5) 29 [] [] (C.out o1) dL_law_880 ck_L_125 rfl rfl ⟨Nat.le_of_ble_eq_true rfl, Nat.le_of_ble_eq_true rfl⟩ rfl (Nat.le_of_ble_eq_true rfl) (Nat.le_of_ble_eq_true rfl) (rm_ok (show u + 4 ≤ 20000 by omega) (Nat.le_of_ble_eq_true rfl)) rfl (hx (pw_out g o1)) (fun rv σ2 q2 => ?_) (fun E σ2 q2 => by obtain ⟨_, _, q3, _⟩ := q2; cases q3)
  obtain ⟨v, σ3, q3, q4, q5, q6⟩ := q2
  cases q3
  refine gw_wide (u' := u + 4) (Nat.le_refl (u + 4)) ?_
  refine gw_istore (C.out o1) dL_law_883 (by decide) rfl ?_
  refine gw_aload_n 2 (C.out o1) dL_law_885 rfl rfl ?_
  refine gw_callV (M' := mX5_thrown) (Qm := fun r => r = (.inl (some (.int (σ2 29 0))), σ2)) (ci := 5) 29 [] [] (C.out o1) dL_law_886 ck_L_69 rfl rfl ⟨Nat.le_of_ble_eq_true rfl, Nat.le_of_ble_eq_true rfl⟩ rfl (Nat.le_of_ble_eq_true rfl) (Nat.le_of_ble_eq_true rfl) (rm_ok (show u + 4 ≤ 20000 by omega) (Nat.le_of_ble_eq_true rfl)) rfl (bX5_thrown_0 rfl) (fun rv σ4 q7 => ?_) (fun E σ4 q7 => by cases q7)
  cases q7
  refine gw_wide (u' := u + 4) (Nat.le_refl (u + 4)) ?_
  refine gw_iload 5 (C.out o1) dL_law_889 rfl ?_
  refine gw_icmp_eq (C.out o1) dL_law_891 rfl (fun _ => ?_) (fun w => absurd q4 w)
  refine gw_iload 5 (C.out o1) dL_law_896 rfl ?_
  refine gw_if_ne (C.out o1) dL_law_898 rfl (fun _ => ?_) (fun w0 => ?_)
  · refine gw_goto (C.out o1) dL_law_920 rfl ?_
    exact gw_sub [0, 1, 2, 3, 4] rfl (next o1 σ2 q6)
  · have heq := hg w0 v q5
    refine gw_aload_n 3 (C.out o1) dL_law_901 rfl rfl ?_
    refine gw_iconst (v := 0) (C.out o1) dL_law_902 rfl ?_
    refine gw_laload (C.out o1) dL_law_903 ?_
    refine gw_iload 6 (C.out o1) dL_law_904 rfl ?_
    refine gw_if_eq (C.out o1) dL_law_906 rfl (fun w1 => ?_) (fun w1 => ?_)
    · refine gw_lconst (v := 0) (C.out o1) dL_law_913 rfl ?_
      refine gw_lcmp (C.out o1) dL_law_914 ?_
      refine gw_if_eq (C.out o1) dL_law_915 rfl (fun _ => ?_) (fun w2 => absurd (cmpz (heq.trans (by rw [zJ, if_pos w1]))) w2)
      refine gw_goto (C.out o1) dL_law_920 rfl ?_
      exact gw_sub [0, 1, 2, 3, 4] rfl (next o1 σ2 q6)
    · refine gw_lconst (v := 1) (C.out o1) dL_law_909 rfl ?_
      refine gw_goto (C.out o1) dL_law_910 rfl ?_
      refine gw_lcmp (C.out o1) dL_law_914 ?_
      refine gw_if_eq (C.out o1) dL_law_915 rfl (fun _ => ?_) (fun w2 => absurd (cmpz (heq.trans (by rw [zJ, if_neg w1]))) w2)
      refine gw_goto (C.out o1) dL_law_920 rfl ?_
      exact gw_sub [0, 1, 2, 3, 4] rfl (next o1 σ2 q6)
