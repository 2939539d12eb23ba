set_option maxRecDepth 20000 in
theorem bX5_thrown_0 {g : pw_G} {σ : pw_Mem} {Q : pw_R → Prop} (h1 : Q (.inl (some (.int (σ 29 0))), σ)) : WP g mX5_thrown 0 [(0, .ref (pw_ad g 29))] [] 0 σ Q := by
  refine wp_aload_n (pc := 0) 0 dX5_thrown_0 rfl rfl ?_
  refine wp_getI (pc := 1) 29 dX5_thrown_1 rfl fk_X5_59 rfl ?_
  exact wp_ireturn (pc := 4) dX5_thrown_4 rfl rfl (Nat.le_of_ble_eq_true rfl) (h1)
set_option maxRecDepth 20000 in
theorem bX5_when_0 {g : pw_G} {σ : pw_Mem} {Q : pw_R → Prop} {x1 x2 : Int32} (h1 : x1 = 0 → pw_bool x1) (h2 : x1 = 0 → Q (.inl (some (.int x1)), (pw_set σ 29 0 x2))) (h3 : ¬ x1 = 0 → pw_bool x1) (h4 : ¬ x1 = 0 → Q (.inl (some (.int x1)), (pw_set σ 29 0 (0 : Int32)))) : WP g mX5_when 0 [(0, .ref (pw_ad g 29)), (1, .int x1), (2, .int x2)] [] 0 σ Q := by
  refine wp_aload_n (pc := 0) 0 dX5_when_0 rfl rfl ?_
  refine wp_iload_n (pc := 1) 1 dX5_when_1 rfl rfl ?_
  refine wp_if_eq (pc := 2) (tgt := 9) dX5_when_2 (by decide) (fun c2 => ?_) (fun c2 => ?_)
  ·
    refine wp_iload_n (pc := 9) 2 dX5_when_9 rfl rfl ?_
    refine wp_putI (pc := 10) 29 dX5_when_10 rfl pk_X5_59 rfl ?_
    refine wp_iload_n (pc := 13) 1 dX5_when_13 rfl rfl ?_
    exact wp_ireturn (pc := 14) dX5_when_14 rfl (pw_nb (h1 c2)) (Nat.le_of_ble_eq_true rfl) (h2 c2)
  ·
    refine wp_iconst (pc := 5) (v := (0 : Int32)) dX5_when_5 (by decide) ?_
    refine wp_goto (pc := 6) (tgt := 10) dX5_when_6 (by decide) ?_
    refine wp_putI (pc := 10) 29 dX5_when_10 rfl pk_X5_59 rfl ?_
    refine wp_iload_n (pc := 13) 1 dX5_when_13 rfl rfl ?_
    exact wp_ireturn (pc := 14) dX5_when_14 rfl (pw_nb (h3 c2)) (Nat.le_of_ble_eq_true rfl) (h4 c2)
set_option maxRecDepth 20000 in
theorem bX5_isWord_0 {g : pw_G} {σ : pw_Mem} {Q : pw_R → Prop} {x0 x1 : Int32} (h1 : x0 < 0 → Q (.inl (some (.int (0 : Int32))), σ)) (h2 : ¬ x0 < 0 → (8 : Int32) < x0 → Q (.inl (some (.int (0 : Int32))), σ)) (h3 : ¬ x0 < 0 → ¬ (8 : Int32) < x0 → x1 < 0 → Q (.inl (some (.int (0 : Int32))), σ)) (h4 : ¬ x0 < 0 → ¬ (8 : Int32) < x0 → ¬ x1 < 0 → ((1 : Int32) <<< (x0 &&& 31)) ≤ x1 → Q (.inl (some (.int (0 : Int32))), σ)) (h5 : ¬ x0 < 0 → ¬ (8 : Int32) < x0 → ¬ x1 < 0 → ¬ ((1 : Int32) <<< (x0 &&& 31)) ≤ x1 → Q (.inl (some (.int (1 : Int32))), σ)) : WP g mX5_isWord 0 [(0, .int x0), (1, .int x1)] [] 0 σ Q := by
  refine wp_iload_n (pc := 0) 0 dX5_isWord_0 rfl rfl ?_
  refine wp_if_lt (pc := 1) (tgt := 25) dX5_isWord_1 (by decide) (fun c1 => ?_) (fun c1 => ?_)
  ·
    refine wp_iconst (pc := 25) (v := (0 : Int32)) dX5_isWord_25 (by decide) ?_
    exact wp_ireturn (pc := 26) dX5_isWord_26 rfl (by decide) (Nat.le_of_ble_eq_true rfl) (h1 c1)
  ·
    refine wp_iload_n (pc := 4) 0 dX5_isWord_4 rfl rfl ?_
    refine wp_bipush (pc := 5) (v := (8 : Int32)) dX5_isWord_5 (by decide) ?_
    refine wp_icmp_gt (pc := 7) (tgt := 25) dX5_isWord_7 (by decide) (fun c7 => ?_) (fun c7 => ?_)
    ·
      refine wp_iconst (pc := 25) (v := (0 : Int32)) dX5_isWord_25 (by decide) ?_
      exact wp_ireturn (pc := 26) dX5_isWord_26 rfl (by decide) (Nat.le_of_ble_eq_true rfl) (h2 c1 c7)
    ·
      refine wp_iload_n (pc := 10) 1 dX5_isWord_10 rfl rfl ?_
      refine wp_if_lt (pc := 11) (tgt := 25) dX5_isWord_11 (by decide) (fun c11 => ?_) (fun c11 => ?_)
      ·
        refine wp_iconst (pc := 25) (v := (0 : Int32)) dX5_isWord_25 (by decide) ?_
        exact wp_ireturn (pc := 26) dX5_isWord_26 rfl (by decide) (Nat.le_of_ble_eq_true rfl) (h3 c1 c7 c11)
      ·
        refine wp_iload_n (pc := 14) 1 dX5_isWord_14 rfl rfl ?_
        refine wp_iconst (pc := 15) (v := (1 : Int32)) dX5_isWord_15 (by decide) ?_
        refine wp_iload_n (pc := 16) 0 dX5_isWord_16 rfl rfl ?_
        refine wp_ishl (pc := 17) dX5_isWord_17 ?_
        refine wp_icmp_ge (pc := 18) (tgt := 25) dX5_isWord_18 (by decide) (fun c18 => ?_) (fun c18 => ?_)
        ·
          refine wp_iconst (pc := 25) (v := (0 : Int32)) dX5_isWord_25 (by decide) ?_
          exact wp_ireturn (pc := 26) dX5_isWord_26 rfl (by decide) (Nat.le_of_ble_eq_true rfl) (h4 c1 c7 c11 c18)
        ·
          refine wp_iconst (pc := 21) (v := (1 : Int32)) dX5_isWord_21 (by decide) ?_
          refine wp_goto (pc := 22) (tgt := 26) dX5_isWord_22 (by decide) ?_
          exact wp_ireturn (pc := 26) dX5_isWord_26 rfl (by decide) (Nat.le_of_ble_eq_true rfl) (h5 c1 c7 c11 c18)
set_option maxRecDepth 20000 in
theorem bX5_number_0 {g : pw_G} {σ : pw_Mem} {Q : pw_R → Prop} {x0 x1 : Int32} (h1 : Q (.inl (some (.int ((((1 : Int32) <<< (x0 &&& 31)) - (1 : Int32)) + x1))), σ)) : WP g mX5_number 0 [(0, .int x0), (1, .int x1)] [] 0 σ Q := by
  refine wp_iconst (pc := 0) (v := (1 : Int32)) dX5_number_0 (by decide) ?_
  refine wp_iload_n (pc := 1) 0 dX5_number_1 rfl rfl ?_
  refine wp_ishl (pc := 2) dX5_number_2 ?_
  refine wp_iconst (pc := 3) (v := (1 : Int32)) dX5_number_3 (by decide) ?_
  refine wp_isub (pc := 4) dX5_number_4 ?_
  refine wp_iload_n (pc := 5) 1 dX5_number_5 rfl rfl ?_
  refine wp_iadd (pc := 6) dX5_number_6 ?_
  exact wp_ireturn (pc := 7) dX5_number_7 rfl rfl (Nat.le_of_ble_eq_true rfl) (h1)
set_option maxRecDepth 20000 in
theorem bX5_lengthOf_0 {g : pw_G} {σ : pw_Mem} {Q : pw_R → Prop} {x0 : Int32} (h1 : WP g mX5_lengthOf 2 [(0, .int x0), (1, .int (0 : Int32))] [] 0 σ Q) : WP g mX5_lengthOf 0 [(0, .int x0)] [] 0 σ Q := by
  refine wp_iconst (pc := 0) (v := (0 : Int32)) dX5_lengthOf_0 (by decide) ?_
  refine wp_istore_n (pc := 1) (lv' := [(0, .int x0), (1, .int (0 : Int32))]) dX5_lengthOf_1 rfl (by decide) rfl ?_
  exact h1
set_option maxRecDepth 20000 in
theorem bX5_lengthOf_2 {g : pw_G} {σ : pw_Mem} {Q : pw_R → Prop} {x0 x1 : Int32} (h1 : x0 < (((2 : Int32) <<< (x1 &&& 31)) - (1 : Int32)) → Q (.inl (some (.int x1)), σ)) (h2 : ¬ x0 < (((2 : Int32) <<< (x1 &&& 31)) - (1 : Int32)) → WP g mX5_lengthOf 2 [(0, .int x0), (1, .int (x1 + 1))] [] 0 σ Q) : WP g mX5_lengthOf 2 [(0, .int x0), (1, .int x1)] [] 0 σ Q := by
  refine wp_iconst (pc := 2) (v := (2 : Int32)) dX5_lengthOf_2 (by decide) ?_
  refine wp_iload_n (pc := 3) 1 dX5_lengthOf_3 rfl rfl ?_
  refine wp_ishl (pc := 4) dX5_lengthOf_4 ?_
  refine wp_iconst (pc := 5) (v := (1 : Int32)) dX5_lengthOf_5 (by decide) ?_
  refine wp_isub (pc := 6) dX5_lengthOf_6 ?_
  refine wp_iload_n (pc := 7) 0 dX5_lengthOf_7 rfl rfl ?_
  refine wp_icmp_gt (pc := 8) (tgt := 17) dX5_lengthOf_8 (by decide) (fun c8 => ?_) (fun c8 => ?_)
  ·
    refine wp_iload_n (pc := 17) 1 dX5_lengthOf_17 rfl rfl ?_
    exact wp_ireturn (pc := 18) dX5_lengthOf_18 rfl rfl (Nat.le_of_ble_eq_true rfl) (h1 c8)
  ·
    refine wp_iinc (pc := 11) (v := (x1 + 1)) (lv' := [(0, .int x0), (1, .int (x1 + 1))]) 1 dX5_lengthOf_11 rfl rfl (by decide) rfl ?_
    refine wp_goto (pc := 14) (tgt := 2) dX5_lengthOf_14 (by decide) ?_
    exact h2 c8
set_option maxRecDepth 20000 in
theorem bX5_lettersOf_0 {g : pw_G} {σ : pw_Mem} {Q : pw_R → Prop} {x0 : Int32} (h1 : WP g mX5_lengthOf 0 [(0, .int x0)] [] 0 σ (pw_k g mX5_lettersOf 6 [(0, .int x0)] [.int (1 : Int32), .int x0] 0 Q)) : WP g mX5_lettersOf 0 [(0, .int x0)] [] 0 σ Q := by
  refine wp_iload_n (pc := 0) 0 dX5_lettersOf_0 rfl rfl ?_
  refine wp_iconst (pc := 1) (v := (1 : Int32)) dX5_lettersOf_1 (by decide) ?_
  refine wp_iload_n (pc := 2) 0 dX5_lettersOf_2 rfl rfl ?_
  refine wp_callS (pc := 3) (M' := mX5_lengthOf) [.int x0] [.int (1 : Int32), .int x0] dX5_lettersOf_3 ck_X5_63 ⟨Nat.le_of_ble_eq_true rfl, Nat.le_of_ble_eq_true rfl⟩ rfl (Nat.le_of_ble_eq_true rfl) (Nat.le_of_ble_eq_true rfl) (Nat.le_of_ble_eq_true rfl) rfl ?_
  exact h1
set_option maxRecDepth 20000 in
theorem bX5_lettersOf_6 {g : pw_G} {σ : pw_Mem} {Q : pw_R → Prop} {s0 s1 s9 x0 : Int32} (h1 : Q (.inl (some (.int ((s1 - (s0 <<< (s9 &&& 31))) + (1 : Int32)))), σ)) : WP g mX5_lettersOf 6 [(0, .int x0)] [.int s9, .int s0, .int s1] 0 σ Q := by
  refine wp_ishl (pc := 6) dX5_lettersOf_6 ?_
  refine wp_isub (pc := 7) dX5_lettersOf_7 ?_
  refine wp_iconst (pc := 8) (v := (1 : Int32)) dX5_lettersOf_8 (by decide) ?_
  refine wp_iadd (pc := 9) dX5_lettersOf_9 ?_
  exact wp_ireturn (pc := 10) dX5_lettersOf_10 rfl rfl (Nat.le_of_ble_eq_true rfl) (h1)
set_option maxRecDepth 20000 in
theorem bX5_followed_0 {g : pw_G} {σ : pw_Mem} {Q : pw_R → Prop} {x0 x1 : Int32} (h1 : Q (.inl (some (.int ((((2 : Int32) * x0) + (1 : Int32)) + x1))), σ)) : WP g mX5_followed 0 [(0, .int x0), (1, .int x1)] [] 0 σ Q := by
  refine wp_iconst (pc := 0) (v := (2 : Int32)) dX5_followed_0 (by decide) ?_
  refine wp_iload_n (pc := 1) 0 dX5_followed_1 rfl rfl ?_
  refine wp_imul (pc := 2) dX5_followed_2 ?_
  refine wp_iconst (pc := 3) (v := (1 : Int32)) dX5_followed_3 (by decide) ?_
  refine wp_iadd (pc := 4) dX5_followed_4 ?_
  refine wp_iload_n (pc := 5) 1 dX5_followed_5 rfl rfl ?_
  refine wp_iadd (pc := 6) dX5_followed_6 ?_
  exact wp_ireturn (pc := 7) dX5_followed_7 rfl rfl (Nat.le_of_ble_eq_true rfl) (h1)
set_option maxRecDepth 20000 in
theorem bX5_joined_0 {g : pw_G} {σ : pw_Mem} {Q : pw_R → Prop} {x0 x1 : Int32} (h1 : WP g mX5_lengthOf 0 [(0, .int x1)] [] 0 σ (pw_k g mX5_joined 4 [(0, .int x0), (1, .int x1)] [] 0 Q)) : WP g mX5_joined 0 [(0, .int x0), (1, .int x1)] [] 0 σ Q := by
  refine wp_iload_n (pc := 0) 1 dX5_joined_0 rfl rfl ?_
  refine wp_callS (pc := 1) (M' := mX5_lengthOf) [.int x1] [] dX5_joined_1 ck_X5_63 ⟨Nat.le_of_ble_eq_true rfl, Nat.le_of_ble_eq_true rfl⟩ rfl (Nat.le_of_ble_eq_true rfl) (Nat.le_of_ble_eq_true rfl) (Nat.le_of_ble_eq_true rfl) rfl ?_
  exact h1
set_option maxRecDepth 20000 in
theorem bX5_joined_4 {g : pw_G} {σ : pw_Mem} {Q : pw_R → Prop} {s9 x0 x1 : Int32} (h1 : WP g mX5_lengthOf 0 [(0, .int x0)] [] 0 σ (pw_k g mX5_joined 9 [(0, .int x0), (1, .int x1), (2, .int s9)] [] 0 Q)) : WP g mX5_joined 4 [(0, .int x0), (1, .int x1)] [.int s9] 0 σ Q := by
  refine wp_istore_n (pc := 4) (lv' := [(0, .int x0), (1, .int x1), (2, .int s9)]) dX5_joined_4 rfl (by decide) rfl ?_
  refine wp_iload_n (pc := 5) 0 dX5_joined_5 rfl rfl ?_
  refine wp_callS (pc := 6) (M' := mX5_lengthOf) [.int x0] [] dX5_joined_6 ck_X5_63 ⟨Nat.le_of_ble_eq_true rfl, Nat.le_of_ble_eq_true rfl⟩ rfl (Nat.le_of_ble_eq_true rfl) (Nat.le_of_ble_eq_true rfl) (Nat.le_of_ble_eq_true rfl) rfl ?_
  exact h1
set_option maxRecDepth 20000 in
theorem bX5_joined_9 {g : pw_G} {σ : pw_Mem} {Q : pw_R → Prop} {s9 x0 x1 x2 : Int32} (h1 : WP g mX5_lettersOf 0 [(0, .int x0)] [] 0 σ (pw_k g mX5_joined 15 [(0, .int x0), (1, .int x1), (2, .int x2)] [.int (s9 + x2)] 0 Q)) : WP g mX5_joined 9 [(0, .int x0), (1, .int x1), (2, .int x2)] [.int s9] 0 σ Q := by
  refine wp_iload_n (pc := 9) 2 dX5_joined_9 rfl rfl ?_
  refine wp_iadd (pc := 10) dX5_joined_10 ?_
  refine wp_iload_n (pc := 11) 0 dX5_joined_11 rfl rfl ?_
  refine wp_callS (pc := 12) (M' := mX5_lettersOf) [.int x0] [.int (s9 + x2)] dX5_joined_12 ck_X5_67 ⟨Nat.le_of_ble_eq_true rfl, Nat.le_of_ble_eq_true rfl⟩ rfl (Nat.le_of_ble_eq_true rfl) (Nat.le_of_ble_eq_true rfl) (Nat.le_of_ble_eq_true rfl) rfl ?_
  exact h1
set_option maxRecDepth 20000 in
theorem bX5_joined_15 {g : pw_G} {σ : pw_Mem} {Q : pw_R → Prop} {s0 s9 x0 x1 x2 : Int32} (h1 : WP g mX5_lettersOf 0 [(0, .int x1)] [] 0 σ (pw_k g mX5_joined 21 [(0, .int x0), (1, .int x1), (2, .int x2)] [.int (s9 <<< (x2 &&& 31)), .int s0] 0 Q)) : WP g mX5_joined 15 [(0, .int x0), (1, .int x1), (2, .int x2)] [.int s9, .int s0] 0 σ Q := by
  refine wp_iload_n (pc := 15) 2 dX5_joined_15 rfl rfl ?_
  refine wp_ishl (pc := 16) dX5_joined_16 ?_
  refine wp_iload_n (pc := 17) 1 dX5_joined_17 rfl rfl ?_
  refine wp_callS (pc := 18) (M' := mX5_lettersOf) [.int x1] [.int (s9 <<< (x2 &&& 31)), .int s0] dX5_joined_18 ck_X5_67 ⟨Nat.le_of_ble_eq_true rfl, Nat.le_of_ble_eq_true rfl⟩ rfl (Nat.le_of_ble_eq_true rfl) (Nat.le_of_ble_eq_true rfl) (Nat.le_of_ble_eq_true rfl) rfl ?_
  exact h1
set_option maxRecDepth 20000 in
theorem bX5_joined_21 {g : pw_G} {σ : pw_Mem} {Q : pw_R → Prop} {s0 s1 s9 x0 x1 x2 : Int32} (h1 : WP g mX5_number 0 [(0, .int s1), (1, .int (s0 ||| s9))] [] 0 σ (pw_k g mX5_joined 25 [(0, .int x0), (1, .int x1), (2, .int x2)] [] 0 Q)) : WP g mX5_joined 21 [(0, .int x0), (1, .int x1), (2, .int x2)] [.int s9, .int s0, .int s1] 0 σ Q := by
  refine wp_ior (pc := 21) dX5_joined_21 ?_
  refine wp_callS (pc := 22) (M' := mX5_number) [.int s1, .int (s0 ||| s9)] [] dX5_joined_22 ck_X5_70 ⟨Nat.le_of_ble_eq_true rfl, Nat.le_of_ble_eq_true rfl⟩ rfl (Nat.le_of_ble_eq_true rfl) (Nat.le_of_ble_eq_true rfl) (Nat.le_of_ble_eq_true rfl) rfl ?_
  exact h1
set_option maxRecDepth 20000 in
theorem bX5_joined_25 {g : pw_G} {σ : pw_Mem} {Q : pw_R → Prop} {s9 x0 x1 x2 : Int32} (h1 : Q (.inl (some (.int s9)), σ)) : WP g mX5_joined 25 [(0, .int x0), (1, .int x1), (2, .int x2)] [.int s9] 0 σ Q := by
  exact wp_ireturn (pc := 25) dX5_joined_25 rfl rfl (Nat.le_of_ble_eq_true rfl) (h1)
set_option maxRecDepth 20000 in
theorem bX5_given_0 {g : pw_G} {σ : pw_Mem} {Q : pw_R → Prop} {x0 : Int32} (h1 : WP g mX5_lengthOf 0 [(0, .int x0)] [] 0 σ (pw_k g mX5_given 7 [(0, .int x0)] [.int (256 : Int32)] 0 Q)) : WP g mX5_given 0 [(0, .int x0)] [] 0 σ Q := by
  refine wp_sipush (pc := 0) (v := (256 : Int32)) dX5_given_0 (by decide) ?_
  refine wp_iload_n (pc := 3) 0 dX5_given_3 rfl rfl ?_
  refine wp_callS (pc := 4) (M' := mX5_lengthOf) [.int x0] [.int (256 : Int32)] dX5_given_4 ck_X5_63 ⟨Nat.le_of_ble_eq_true rfl, Nat.le_of_ble_eq_true rfl⟩ rfl (Nat.le_of_ble_eq_true rfl) (Nat.le_of_ble_eq_true rfl) (Nat.le_of_ble_eq_true rfl) rfl ?_
  exact h1
set_option maxRecDepth 20000 in
theorem bX5_given_7 {g : pw_G} {σ : pw_Mem} {Q : pw_R → Prop} {s0 s9 x0 : Int32} (h1 : WP g mX5_lettersOf 0 [(0, .int x0)] [] 0 σ (pw_k g mX5_given 12 [(0, .int x0)] [.int (s0 * s9)] 0 Q)) : WP g mX5_given 7 [(0, .int x0)] [.int s9, .int s0] 0 σ Q := by
  refine wp_imul (pc := 7) dX5_given_7 ?_
  refine wp_iload_n (pc := 8) 0 dX5_given_8 rfl rfl ?_
  refine wp_callS (pc := 9) (M' := mX5_lettersOf) [.int x0] [.int (s0 * s9)] dX5_given_9 ck_X5_67 ⟨Nat.le_of_ble_eq_true rfl, Nat.le_of_ble_eq_true rfl⟩ rfl (Nat.le_of_ble_eq_true rfl) (Nat.le_of_ble_eq_true rfl) (Nat.le_of_ble_eq_true rfl) rfl ?_
  exact h1
set_option maxRecDepth 20000 in
theorem bX5_given_12 {g : pw_G} {σ : pw_Mem} {Q : pw_R → Prop} {s0 s9 x0 : Int32} (h1 : Q (.inl (some (.int (s0 + s9))), σ)) : WP g mX5_given 12 [(0, .int x0)] [.int s9, .int s0] 0 σ Q := by
  refine wp_iadd (pc := 12) dX5_given_12 ?_
  exact wp_ireturn (pc := 13) dX5_given_13 rfl rfl (Nat.le_of_ble_eq_true rfl) (h1)
set_option maxRecDepth 20000 in
theorem bX5_teach_0 {g : pw_G} {σ : pw_Mem} {Q : pw_R → Prop} {x1 x2 x3 : Int32} (h1 : WP g mX5_isWord 0 [(0, .int x1), (1, .int x2)] [] 0 σ (pw_k g mX5_teach 6 [(0, .ref (pw_ad g 29)), (1, .int x1), (2, .int x2), (3, .int x3)] [.ref (pw_ad g 29)] 0 Q)) : WP g mX5_teach 0 [(0, .ref (pw_ad g 29)), (1, .int x1), (2, .int x2), (3, .int x3)] [] 0 σ Q := by
  refine wp_aload_n (pc := 0) 0 dX5_teach_0 rfl rfl ?_
  refine wp_iload_n (pc := 1) 1 dX5_teach_1 rfl rfl ?_
  refine wp_iload_n (pc := 2) 2 dX5_teach_2 rfl rfl ?_
  refine wp_callS (pc := 3) (M' := mX5_isWord) [.int x1, .int x2] [.ref (pw_ad g 29)] dX5_teach_3 ck_X5_74 ⟨Nat.le_of_ble_eq_true rfl, Nat.le_of_ble_eq_true rfl⟩ rfl (Nat.le_of_ble_eq_true rfl) (Nat.le_of_ble_eq_true rfl) (Nat.le_of_ble_eq_true rfl) rfl ?_
  exact h1
set_option maxRecDepth 20000 in
theorem bX5_teach_6 {g : pw_G} {σ : pw_Mem} {Q : pw_R → Prop} {s9 x1 x2 x3 : Int32} (h1 : WP g mX5_when 0 [(0, .ref (pw_ad g 29)), (1, .int s9), (2, .int (1 : Int32))] [] 0 σ (pw_k g mX5_teach 10 [(0, .ref (pw_ad g 29)), (1, .int x1), (2, .int x2), (3, .int x3)] [] 0 Q)) : WP g mX5_teach 6 [(0, .ref (pw_ad g 29)), (1, .int x1), (2, .int x2), (3, .int x3)] [.int s9, .ref (pw_ad g 29)] 0 σ Q := by
  refine wp_iconst (pc := 6) (v := (1 : Int32)) dX5_teach_6 (by decide) ?_
  refine wp_callV (pc := 7) (M' := mX5_when) 29 [.int s9, .int (1 : Int32)] [] dX5_teach_7 ck_X5_78 rfl rfl ⟨Nat.le_of_ble_eq_true rfl, Nat.le_of_ble_eq_true rfl⟩ rfl (Nat.le_of_ble_eq_true rfl) (Nat.le_of_ble_eq_true rfl) (Nat.le_of_ble_eq_true rfl) rfl ?_
  exact h1
set_option maxRecDepth 20000 in
theorem bX5_teach_10 {g : pw_G} {σ : pw_Mem} {Q : pw_R → Prop} {s9 x1 x2 x3 : Int32} (h1 : ¬ s9 = 0 → WP g mX5_number 0 [(0, .int x1), (1, .int x2)] [] 0 σ (pw_k g mX5_teach 20 [(0, .ref (pw_ad g 29)), (1, .int x1), (2, .int x2), (3, .int x3)] [] 0 Q)) (h2 : s9 = 0 → Q (.inl (some (.int (0 : Int32))), σ)) : WP g mX5_teach 10 [(0, .ref (pw_ad g 29)), (1, .int x1), (2, .int x2), (3, .int x3)] [.int s9] 0 σ Q := by
  refine wp_if_ne (pc := 10) (tgt := 15) dX5_teach_10 (by decide) (fun c10 => ?_) (fun c10 => ?_)
  ·
    refine wp_iload_n (pc := 15) 1 dX5_teach_15 rfl rfl ?_
    refine wp_iload_n (pc := 16) 2 dX5_teach_16 rfl rfl ?_
    refine wp_callS (pc := 17) (M' := mX5_number) [.int x1, .int x2] [] dX5_teach_17 ck_X5_70 ⟨Nat.le_of_ble_eq_true rfl, Nat.le_of_ble_eq_true rfl⟩ rfl (Nat.le_of_ble_eq_true rfl) (Nat.le_of_ble_eq_true rfl) (Nat.le_of_ble_eq_true rfl) rfl ?_
    exact h1 c10
  ·
    refine wp_iconst (pc := 13) (v := (0 : Int32)) dX5_teach_13 (by decide) ?_
    exact wp_ireturn (pc := 14) dX5_teach_14 rfl (by decide) (Nat.le_of_ble_eq_true rfl) (h2 c10)
set_option maxRecDepth 20000 in
theorem bX5_teach_20 {g : pw_G} {σ : pw_Mem} {Q : pw_R → Prop} {s9 x1 x2 x3 : Int32} (h1 : x3 = 0 → vp_in s9 511) (h2 : x3 = 0 → (σ 30 (s9).toNatClampNeg) = (-(-1 : Int32)) → WP g mX5_when 0 [(0, .ref (pw_ad g 29)), (1, .int (0 : Int32)), (2, .int (2 : Int32))] [] 0 σ (pw_k g mX5_teach 56 [(0, .ref (pw_ad g 29)), (1, .int x1), (2, .int x2), (3, .int x3), (4, .int s9), (5, .int (-1 : Int32))] [] 0 Q)) (h3 : x3 = 0 → ¬ (σ 30 (s9).toNatClampNeg) = (-(-1 : Int32)) → WP g mX5_when 0 [(0, .ref (pw_ad g 29)), (1, .int (1 : Int32)), (2, .int (2 : Int32))] [] 0 σ (pw_k g mX5_teach 56 [(0, .ref (pw_ad g 29)), (1, .int x1), (2, .int x2), (3, .int x3), (4, .int s9), (5, .int (-1 : Int32))] [] 0 Q)) (h4 : ¬ x3 = 0 → vp_in s9 511) (h5 : ¬ x3 = 0 → (σ 30 (s9).toNatClampNeg) = (-(1 : Int32)) → WP g mX5_when 0 [(0, .ref (pw_ad g 29)), (1, .int (0 : Int32)), (2, .int (2 : Int32))] [] 0 σ (pw_k g mX5_teach 56 [(0, .ref (pw_ad g 29)), (1, .int x1), (2, .int x2), (3, .int x3), (4, .int s9), (5, .int (1 : Int32))] [] 0 Q)) (h6 : ¬ x3 = 0 → ¬ (σ 30 (s9).toNatClampNeg) = (-(1 : Int32)) → WP g mX5_when 0 [(0, .ref (pw_ad g 29)), (1, .int (1 : Int32)), (2, .int (2 : Int32))] [] 0 σ (pw_k g mX5_teach 56 [(0, .ref (pw_ad g 29)), (1, .int x1), (2, .int x2), (3, .int x3), (4, .int s9), (5, .int (1 : Int32))] [] 0 Q)) : WP g mX5_teach 20 [(0, .ref (pw_ad g 29)), (1, .int x1), (2, .int x2), (3, .int x3)] [.int s9] 0 σ Q := by
  refine wp_istore (pc := 20) (lv' := [(0, .ref (pw_ad g 29)), (1, .int x1), (2, .int x2), (3, .int x3), (4, .int s9)]) dX5_teach_20 (by decide) rfl ?_
  refine wp_iload_n (pc := 22) 3 dX5_teach_22 rfl rfl ?_
  refine wp_if_eq (pc := 23) (tgt := 30) dX5_teach_23 (by decide) (fun c23 => ?_) (fun c23 => ?_)
  ·
    refine wp_iconst (pc := 30) (v := (-1 : Int32)) dX5_teach_30 (by decide) ?_
    refine wp_istore (pc := 31) (lv' := [(0, .ref (pw_ad g 29)), (1, .int x1), (2, .int x2), (3, .int x3), (4, .int s9), (5, .int (-1 : Int32))]) dX5_teach_31 (by decide) rfl ?_
    refine wp_aload_n (pc := 33) 0 dX5_teach_33 rfl rfl ?_
    refine wp_aload_n (pc := 34) 0 dX5_teach_34 rfl rfl ?_
    refine wp_getR1 (pc := 35) 29 30 (o := 0) dX5_teach_35 rfl fk_X5_7 rfl rfl ?_
    refine wp_iload (pc := 38) 4 dX5_teach_38 rfl ?_
    refine wp_iaload (pc := 40) 30 dX5_teach_40 rfl (h1 c23) ?_
    refine wp_iload (pc := 41) 5 dX5_teach_41 rfl ?_
    refine wp_ineg (pc := 43) dX5_teach_43 ?_
    refine wp_icmp_eq (pc := 44) (tgt := 51) dX5_teach_44 (by decide) (fun c44 => ?_) (fun c44 => ?_)
    ·
      refine wp_iconst (pc := 51) (v := (0 : Int32)) dX5_teach_51 (by decide) ?_
      refine wp_iconst (pc := 52) (v := (2 : Int32)) dX5_teach_52 (by decide) ?_
      refine wp_callV (pc := 53) (M' := mX5_when) 29 [.int (0 : Int32), .int (2 : Int32)] [] dX5_teach_53 ck_X5_78 rfl rfl ⟨Nat.le_of_ble_eq_true rfl, Nat.le_of_ble_eq_true rfl⟩ rfl (Nat.le_of_ble_eq_true rfl) (Nat.le_of_ble_eq_true rfl) (Nat.le_of_ble_eq_true rfl) rfl ?_
      exact h2 c23 c44
    ·
      refine wp_iconst (pc := 47) (v := (1 : Int32)) dX5_teach_47 (by decide) ?_
      refine wp_goto (pc := 48) (tgt := 52) dX5_teach_48 (by decide) ?_
      refine wp_iconst (pc := 52) (v := (2 : Int32)) dX5_teach_52 (by decide) ?_
      refine wp_callV (pc := 53) (M' := mX5_when) 29 [.int (1 : Int32), .int (2 : Int32)] [] dX5_teach_53 ck_X5_78 rfl rfl ⟨Nat.le_of_ble_eq_true rfl, Nat.le_of_ble_eq_true rfl⟩ rfl (Nat.le_of_ble_eq_true rfl) (Nat.le_of_ble_eq_true rfl) (Nat.le_of_ble_eq_true rfl) rfl ?_
      exact h3 c23 c44
  ·
    refine wp_iconst (pc := 26) (v := (1 : Int32)) dX5_teach_26 (by decide) ?_
    refine wp_goto (pc := 27) (tgt := 31) dX5_teach_27 (by decide) ?_
    refine wp_istore (pc := 31) (lv' := [(0, .ref (pw_ad g 29)), (1, .int x1), (2, .int x2), (3, .int x3), (4, .int s9), (5, .int (1 : Int32))]) dX5_teach_31 (by decide) rfl ?_
    refine wp_aload_n (pc := 33) 0 dX5_teach_33 rfl rfl ?_
    refine wp_aload_n (pc := 34) 0 dX5_teach_34 rfl rfl ?_
    refine wp_getR1 (pc := 35) 29 30 (o := 0) dX5_teach_35 rfl fk_X5_7 rfl rfl ?_
    refine wp_iload (pc := 38) 4 dX5_teach_38 rfl ?_
    refine wp_iaload (pc := 40) 30 dX5_teach_40 rfl (h4 c23) ?_
    refine wp_iload (pc := 41) 5 dX5_teach_41 rfl ?_
    refine wp_ineg (pc := 43) dX5_teach_43 ?_
    refine wp_icmp_eq (pc := 44) (tgt := 51) dX5_teach_44 (by decide) (fun c44 => ?_) (fun c44 => ?_)
    ·
      refine wp_iconst (pc := 51) (v := (0 : Int32)) dX5_teach_51 (by decide) ?_
      refine wp_iconst (pc := 52) (v := (2 : Int32)) dX5_teach_52 (by decide) ?_
      refine wp_callV (pc := 53) (M' := mX5_when) 29 [.int (0 : Int32), .int (2 : Int32)] [] dX5_teach_53 ck_X5_78 rfl rfl ⟨Nat.le_of_ble_eq_true rfl, Nat.le_of_ble_eq_true rfl⟩ rfl (Nat.le_of_ble_eq_true rfl) (Nat.le_of_ble_eq_true rfl) (Nat.le_of_ble_eq_true rfl) rfl ?_
      exact h5 c23 c44
    ·
      refine wp_iconst (pc := 47) (v := (1 : Int32)) dX5_teach_47 (by decide) ?_
      refine wp_goto (pc := 48) (tgt := 52) dX5_teach_48 (by decide) ?_
      refine wp_iconst (pc := 52) (v := (2 : Int32)) dX5_teach_52 (by decide) ?_
      refine wp_callV (pc := 53) (M' := mX5_when) 29 [.int (1 : Int32), .int (2 : Int32)] [] dX5_teach_53 ck_X5_78 rfl rfl ⟨Nat.le_of_ble_eq_true rfl, Nat.le_of_ble_eq_true rfl⟩ rfl (Nat.le_of_ble_eq_true rfl) (Nat.le_of_ble_eq_true rfl) (Nat.le_of_ble_eq_true rfl) rfl ?_
      exact h6 c23 c44
set_option maxRecDepth 20000 in
theorem bX5_teach_56 {g : pw_G} {σ : pw_Mem} {Q : pw_R → Prop} {s9 x1 x2 x3 x4 x5 : Int32} (h1 : ¬ s9 = 0 → vp_in x4 511) (h2 : ¬ s9 = 0 → ¬ (σ 30 (x4).toNatClampNeg) = 0 → vp_in x4 511) (h3 : ¬ s9 = 0 → ¬ (σ 30 (x4).toNatClampNeg) = 0 → Q (.inl (some (.int (0 : Int32))), (pw_set (pw_set σ 30 (x4).toNatClampNeg x5) 29 1 (σ 29 1)))) (h4 : ¬ s9 = 0 → (σ 30 (x4).toNatClampNeg) = 0 → vp_in x4 511) (h5 : ¬ s9 = 0 → (σ 30 (x4).toNatClampNeg) = 0 → Q (.inl (some (.int (1 : Int32))), (pw_set (pw_set σ 30 (x4).toNatClampNeg x5) 29 1 ((σ 29 1) + (1 : Int32))))) (h6 : s9 = 0 → Q (.inl (some (.int (0 : Int32))), σ)) : WP g mX5_teach 56 [(0, .ref (pw_ad g 29)), (1, .int x1), (2, .int x2), (3, .int x3), (4, .int x4), (5, .int x5)] [.int s9] 0 σ Q := by
  refine wp_if_ne (pc := 56) (tgt := 61) dX5_teach_56 (by decide) (fun c56 => ?_) (fun c56 => ?_)
  ·
    refine wp_aload_n (pc := 61) 0 dX5_teach_61 rfl rfl ?_
    refine wp_getR1 (pc := 62) 29 30 (o := 0) dX5_teach_62 rfl fk_X5_7 rfl rfl ?_
    refine wp_iload (pc := 65) 4 dX5_teach_65 rfl ?_
    refine wp_iaload (pc := 67) 30 dX5_teach_67 rfl (h1 c56) ?_
    refine wp_if_ne (pc := 68) (tgt := 75) dX5_teach_68 (by decide) (fun c68 => ?_) (fun c68 => ?_)
    ·
      refine wp_iconst (pc := 75) (v := (0 : Int32)) dX5_teach_75 (by decide) ?_
      refine wp_istore (pc := 76) (lv' := [(0, .ref (pw_ad g 29)), (1, .int x1), (2, .int x2), (3, .int x3), (4, .int x4), (5, .int x5), (6, .int (0 : Int32))]) dX5_teach_76 (by decide) rfl ?_
      refine wp_aload_n (pc := 78) 0 dX5_teach_78 rfl rfl ?_
      refine wp_getR1 (pc := 79) 29 30 (o := 0) dX5_teach_79 rfl fk_X5_7 rfl rfl ?_
      refine wp_iload (pc := 82) 4 dX5_teach_82 rfl ?_
      refine wp_iload (pc := 84) 5 dX5_teach_84 rfl ?_
      refine wp_iastore (pc := 86) 30 dX5_teach_86 rfl (h2 c56 c68) ?_
      refine wp_aload_n (pc := 87) 0 dX5_teach_87 rfl rfl ?_
      refine wp_iload (pc := 88) 6 dX5_teach_88 rfl ?_
      refine wp_if_eq (pc := 90) (tgt := 102) dX5_teach_90 (by decide) (fun _ => ?_) (fun c9 => absurd c9 (by decide))
      refine wp_aload_n (pc := 102) 0 dX5_teach_102 rfl rfl ?_
      refine wp_getI (pc := 103) 29 dX5_teach_103 rfl fk_X5_82 rfl ?_
      refine wp_putI (pc := 106) 29 dX5_teach_106 rfl pk_X5_82 rfl ?_
      refine wp_iload (pc := 109) 6 dX5_teach_109 rfl ?_
      exact wp_ireturn (pc := 111) dX5_teach_111 rfl (by decide) (Nat.le_of_ble_eq_true rfl) (h3 c56 c68)
    ·
      refine wp_iconst (pc := 71) (v := (1 : Int32)) dX5_teach_71 (by decide) ?_
      refine wp_goto (pc := 72) (tgt := 76) dX5_teach_72 (by decide) ?_
      refine wp_istore (pc := 76) (lv' := [(0, .ref (pw_ad g 29)), (1, .int x1), (2, .int x2), (3, .int x3), (4, .int x4), (5, .int x5), (6, .int (1 : Int32))]) dX5_teach_76 (by decide) rfl ?_
      refine wp_aload_n (pc := 78) 0 dX5_teach_78 rfl rfl ?_
      refine wp_getR1 (pc := 79) 29 30 (o := 0) dX5_teach_79 rfl fk_X5_7 rfl rfl ?_
      refine wp_iload (pc := 82) 4 dX5_teach_82 rfl ?_
      refine wp_iload (pc := 84) 5 dX5_teach_84 rfl ?_
      refine wp_iastore (pc := 86) 30 dX5_teach_86 rfl (h4 c56 c68) ?_
      refine wp_aload_n (pc := 87) 0 dX5_teach_87 rfl rfl ?_
      refine wp_iload (pc := 88) 6 dX5_teach_88 rfl ?_
      refine wp_if_eq (pc := 90) (tgt := 102) dX5_teach_90 (by decide) (fun c9 => absurd c9 (by decide)) (fun _ => ?_)
      refine wp_aload_n (pc := 93) 0 dX5_teach_93 rfl rfl ?_
      refine wp_getI (pc := 94) 29 dX5_teach_94 rfl fk_X5_82 rfl ?_
      refine wp_iconst (pc := 97) (v := (1 : Int32)) dX5_teach_97 (by decide) ?_
      refine wp_iadd (pc := 98) dX5_teach_98 ?_
      refine wp_goto (pc := 99) (tgt := 106) dX5_teach_99 (by decide) ?_
      refine wp_putI (pc := 106) 29 dX5_teach_106 rfl pk_X5_82 rfl ?_
      refine wp_iload (pc := 109) 6 dX5_teach_109 rfl ?_
      exact wp_ireturn (pc := 111) dX5_teach_111 rfl (by decide) (Nat.le_of_ble_eq_true rfl) (h5 c56 c68)
  ·
    refine wp_iconst (pc := 59) (v := (0 : Int32)) dX5_teach_59 (by decide) ?_
    exact wp_ireturn (pc := 60) dX5_teach_60 rfl (by decide) (Nat.le_of_ble_eq_true rfl) (h6 c56)
set_option maxRecDepth 20000 in
theorem bX5_told_0 {g : pw_G} {σ : pw_Mem} {Q : pw_R → Prop} {x1 x2 : Int32} (h1 : WP g mX5_isWord 0 [(0, .int x1), (1, .int x2)] [] 0 σ (pw_k g mX5_told 6 [(0, .ref (pw_ad g 29)), (1, .int x1), (2, .int x2)] [.ref (pw_ad g 29)] 0 Q)) : WP g mX5_told 0 [(0, .ref (pw_ad g 29)), (1, .int x1), (2, .int x2)] [] 0 σ Q := by
  refine wp_aload_n (pc := 0) 0 dX5_told_0 rfl rfl ?_
  refine wp_iload_n (pc := 1) 1 dX5_told_1 rfl rfl ?_
  refine wp_iload_n (pc := 2) 2 dX5_told_2 rfl rfl ?_
  refine wp_callS (pc := 3) (M' := mX5_isWord) [.int x1, .int x2] [.ref (pw_ad g 29)] dX5_told_3 ck_X5_74 ⟨Nat.le_of_ble_eq_true rfl, Nat.le_of_ble_eq_true rfl⟩ rfl (Nat.le_of_ble_eq_true rfl) (Nat.le_of_ble_eq_true rfl) (Nat.le_of_ble_eq_true rfl) rfl ?_
  exact h1
set_option maxRecDepth 20000 in
theorem bX5_told_6 {g : pw_G} {σ : pw_Mem} {Q : pw_R → Prop} {s9 x1 x2 : Int32} (h1 : WP g mX5_when 0 [(0, .ref (pw_ad g 29)), (1, .int s9), (2, .int (1 : Int32))] [] 0 σ (pw_k g mX5_told 10 [(0, .ref (pw_ad g 29)), (1, .int x1), (2, .int x2)] [] 0 Q)) : WP g mX5_told 6 [(0, .ref (pw_ad g 29)), (1, .int x1), (2, .int x2)] [.int s9, .ref (pw_ad g 29)] 0 σ Q := by
  refine wp_iconst (pc := 6) (v := (1 : Int32)) dX5_told_6 (by decide) ?_
  refine wp_callV (pc := 7) (M' := mX5_when) 29 [.int s9, .int (1 : Int32)] [] dX5_told_7 ck_X5_78 rfl rfl ⟨Nat.le_of_ble_eq_true rfl, Nat.le_of_ble_eq_true rfl⟩ rfl (Nat.le_of_ble_eq_true rfl) (Nat.le_of_ble_eq_true rfl) (Nat.le_of_ble_eq_true rfl) rfl ?_
  exact h1
set_option maxRecDepth 20000 in
theorem bX5_told_10 {g : pw_G} {σ : pw_Mem} {Q : pw_R → Prop} {s9 x1 x2 : Int32} (h1 : s9 = 0 → Q (.inl (some (.int (0 : Int32))), σ)) (h2 : ¬ s9 = 0 → WP g mX5_number 0 [(0, .int x1), (1, .int x2)] [] 0 σ (pw_k g mX5_told 22 [(0, .ref (pw_ad g 29)), (1, .int x1), (2, .int x2)] [.ref (pw_ad g 30)] 0 Q)) : WP g mX5_told 10 [(0, .ref (pw_ad g 29)), (1, .int x1), (2, .int x2)] [.int s9] 0 σ Q := by
  refine wp_if_eq (pc := 10) (tgt := 26) dX5_told_10 (by decide) (fun c10 => ?_) (fun c10 => ?_)
  ·
    refine wp_iconst (pc := 26) (v := (0 : Int32)) dX5_told_26 (by decide) ?_
    exact wp_ireturn (pc := 27) dX5_told_27 rfl rfl (Nat.le_of_ble_eq_true rfl) (h1 c10)
  ·
    refine wp_aload_n (pc := 13) 0 dX5_told_13 rfl rfl ?_
    refine wp_getR1 (pc := 14) 29 30 (o := 0) dX5_told_14 rfl fk_X5_7 rfl rfl ?_
    refine wp_iload_n (pc := 17) 1 dX5_told_17 rfl rfl ?_
    refine wp_iload_n (pc := 18) 2 dX5_told_18 rfl rfl ?_
    refine wp_callS (pc := 19) (M' := mX5_number) [.int x1, .int x2] [.ref (pw_ad g 30)] dX5_told_19 ck_X5_70 ⟨Nat.le_of_ble_eq_true rfl, Nat.le_of_ble_eq_true rfl⟩ rfl (Nat.le_of_ble_eq_true rfl) (Nat.le_of_ble_eq_true rfl) (Nat.le_of_ble_eq_true rfl) rfl ?_
    exact h2 c10
set_option maxRecDepth 20000 in
theorem bX5_told_22 {g : pw_G} {σ : pw_Mem} {Q : pw_R → Prop} {s9 x1 x2 : Int32} (h1 : vp_in s9 511) (h2 : Q (.inl (some (.int (σ 30 (s9).toNatClampNeg))), σ)) : WP g mX5_told 22 [(0, .ref (pw_ad g 29)), (1, .int x1), (2, .int x2)] [.int s9, .ref (pw_ad g 30)] 0 σ Q := by
  refine wp_iaload (pc := 22) 30 dX5_told_22 rfl (h1) ?_
  refine wp_goto (pc := 23) (tgt := 27) dX5_told_23 (by decide) ?_
  exact wp_ireturn (pc := 27) dX5_told_27 rfl rfl (Nat.le_of_ble_eq_true rfl) (h2)
set_option maxRecDepth 20000 in
theorem bX5_size_0 {g : pw_G} {σ : pw_Mem} {Q : pw_R → Prop} (h1 : Q (.inl (some (.int (σ 29 1))), (pw_set σ 29 0 (0 : Int32)))) : WP g mX5_size 0 [(0, .ref (pw_ad g 29))] [] 0 σ Q := by
  refine wp_aload_n (pc := 0) 0 dX5_size_0 rfl rfl ?_
  refine wp_iconst (pc := 1) (v := (0 : Int32)) dX5_size_1 (by decide) ?_
  refine wp_putI (pc := 2) 29 dX5_size_2 rfl pk_X5_59 rfl ?_
  refine wp_aload_n (pc := 5) 0 dX5_size_5 rfl rfl ?_
  refine wp_getI (pc := 6) 29 dX5_size_6 rfl fk_X5_82 rfl ?_
  exact wp_ireturn (pc := 9) dX5_size_9 rfl rfl (Nat.le_of_ble_eq_true rfl) (h1)
set_option maxRecDepth 20000 in
theorem bX5_forget_0 {g : pw_G} {σ : pw_Mem} {Q : pw_R → Prop} (h1 : WP g mX5_forget 7 [(0, .ref (pw_ad g 29)), (1, .int (0 : Int32))] [] 0 (pw_set σ 29 0 (0 : Int32)) Q) : WP g mX5_forget 0 [(0, .ref (pw_ad g 29))] [] 0 σ Q := by
  refine wp_aload_n (pc := 0) 0 dX5_forget_0 rfl rfl ?_
  refine wp_iconst (pc := 1) (v := (0 : Int32)) dX5_forget_1 (by decide) ?_
  refine wp_putI (pc := 2) 29 dX5_forget_2 rfl pk_X5_59 rfl ?_
  refine wp_iconst (pc := 5) (v := (0 : Int32)) dX5_forget_5 (by decide) ?_
  refine wp_istore_n (pc := 6) (lv' := [(0, .ref (pw_ad g 29)), (1, .int (0 : Int32))]) dX5_forget_6 rfl (by decide) rfl ?_
  exact h1
set_option maxRecDepth 20000 in
theorem bX5_forget_7 {g : pw_G} {σ : pw_Mem} {Q : pw_R → Prop} {x1 : Int32} (h1 : (511 : Int32) ≤ x1 → Q (.inl none, (pw_set σ 29 1 (0 : Int32)))) (h2 : ¬ (511 : Int32) ≤ x1 → vp_in x1 511) (h3 : ¬ (511 : Int32) ≤ x1 → WP g mX5_forget 7 [(0, .ref (pw_ad g 29)), (1, .int (x1 + 1))] [] 0 (pw_set σ 30 (x1).toNatClampNeg (0 : Int32)) Q) : WP g mX5_forget 7 [(0, .ref (pw_ad g 29)), (1, .int x1)] [] 0 σ Q := by
  refine wp_iload_n (pc := 7) 1 dX5_forget_7 rfl rfl ?_
  refine wp_sipush (pc := 8) (v := (511 : Int32)) dX5_forget_8 (by decide) ?_
  refine wp_icmp_ge (pc := 11) (tgt := 27) dX5_forget_11 (by decide) (fun c11 => ?_) (fun c11 => ?_)
  ·
    refine wp_aload_n (pc := 27) 0 dX5_forget_27 rfl rfl ?_
    refine wp_iconst (pc := 28) (v := (0 : Int32)) dX5_forget_28 (by decide) ?_
    refine wp_putI (pc := 29) 29 dX5_forget_29 rfl pk_X5_82 rfl ?_
    exact wp_return (pc := 32) dX5_forget_32 rfl (Nat.le_of_ble_eq_true rfl) (h1 c11)
  ·
    refine wp_aload_n (pc := 14) 0 dX5_forget_14 rfl rfl ?_
    refine wp_getR1 (pc := 15) 29 30 (o := 0) dX5_forget_15 rfl fk_X5_7 rfl rfl ?_
    refine wp_iload_n (pc := 18) 1 dX5_forget_18 rfl rfl ?_
    refine wp_iconst (pc := 19) (v := (0 : Int32)) dX5_forget_19 (by decide) ?_
    refine wp_iastore (pc := 20) 30 dX5_forget_20 rfl (h2 c11) ?_
    refine wp_iinc (pc := 21) (v := (x1 + 1)) (lv' := [(0, .ref (pw_ad g 29)), (1, .int (x1 + 1))]) 1 dX5_forget_21 rfl rfl (by decide) rfl ?_
    refine wp_goto (pc := 24) (tgt := 7) dX5_forget_24 (by decide) ?_
    exact h3 c11
set_option maxRecDepth 20000 in
theorem bX5_begin_0 {g : pw_G} {σ : pw_Mem} {Q : pw_R → Prop} (h1 : WP g mX5_begin 2 [(0, .ref (pw_ad g 29)), (1, .int (0 : Int32))] [] 0 σ Q) : WP g mX5_begin 0 [(0, .ref (pw_ad g 29))] [] 0 σ Q := by
  refine wp_iconst (pc := 0) (v := (0 : Int32)) dX5_begin_0 (by decide) ?_
  refine wp_istore_n (pc := 1) (lv' := [(0, .ref (pw_ad g 29)), (1, .int (0 : Int32))]) dX5_begin_1 rfl (by decide) rfl ?_
  exact h1
set_option maxRecDepth 20000 in
theorem bX5_begin_2 {g : pw_G} {σ : pw_Mem} {Q : pw_R → Prop} {x1 : Int32} (h1 : (511 : Int32) ≤ x1 → WP g mX5_begin 43 [(0, .ref (pw_ad g 29)), (1, .int (510 : Int32))] [] 0 σ Q) (h2 : ¬ (511 : Int32) ≤ x1 → x1 = 0 → vp_in x1 511) (h3 : ¬ (511 : Int32) ≤ x1 → x1 = 0 → WP g mX5_begin 2 [(0, .ref (pw_ad g 29)), (1, .int (x1 + 1))] [] 0 (pw_set σ 31 (x1).toNatClampNeg (1 : Int32)) Q) (h4 : ¬ (511 : Int32) ≤ x1 → ¬ x1 = 0 → vp_in x1 511) (h5 : ¬ (511 : Int32) ≤ x1 → ¬ x1 = 0 → (σ 30 (x1).toNatClampNeg) = 0 → vp_in x1 511) (h6 : ¬ (511 : Int32) ≤ x1 → ¬ x1 = 0 → (σ 30 (x1).toNatClampNeg) = 0 → WP g mX5_begin 2 [(0, .ref (pw_ad g 29)), (1, .int (x1 + 1))] [] 0 (pw_set σ 31 (x1).toNatClampNeg (0 : Int32)) Q) (h7 : ¬ (511 : Int32) ≤ x1 → ¬ x1 = 0 → ¬ (σ 30 (x1).toNatClampNeg) = 0 → vp_in x1 511) (h8 : ¬ (511 : Int32) ≤ x1 → ¬ x1 = 0 → ¬ (σ 30 (x1).toNatClampNeg) = 0 → WP g mX5_begin 2 [(0, .ref (pw_ad g 29)), (1, .int (x1 + 1))] [] 0 (pw_set σ 31 (x1).toNatClampNeg (1 : Int32)) Q) : WP g mX5_begin 2 [(0, .ref (pw_ad g 29)), (1, .int x1)] [] 0 σ Q := by
  refine wp_iload_n (pc := 2) 1 dX5_begin_2 rfl rfl ?_
  refine wp_sipush (pc := 3) (v := (511 : Int32)) dX5_begin_3 (by decide) ?_
  refine wp_icmp_ge (pc := 6) (tgt := 39) dX5_begin_6 (by decide) (fun c6 => ?_) (fun c6 => ?_)
  ·
    refine wp_sipush (pc := 39) (v := (510 : Int32)) dX5_begin_39 (by decide) ?_
    refine wp_istore_n (pc := 42) (lv' := [(0, .ref (pw_ad g 29)), (1, .int (510 : Int32))]) dX5_begin_42 rfl (by decide) rfl ?_
    exact h1 c6
  ·
    refine wp_aload_n (pc := 9) 0 dX5_begin_9 rfl rfl ?_
    refine wp_getR1 (pc := 10) 29 31 (o := 1) dX5_begin_10 rfl fk_X5_13 rfl rfl ?_
    refine wp_iload_n (pc := 13) 1 dX5_begin_13 rfl rfl ?_
    refine wp_iload_n (pc := 14) 1 dX5_begin_14 rfl rfl ?_
    refine wp_if_eq (pc := 15) (tgt := 27) dX5_begin_15 (by decide) (fun c15 => ?_) (fun c15 => ?_)
    ·
      refine wp_iconst (pc := 27) (v := (1 : Int32)) dX5_begin_27 (by decide) ?_
      refine wp_goto (pc := 28) (tgt := 32) dX5_begin_28 (by decide) ?_
      refine wp_bastore (pc := 32) 31 dX5_begin_32 rfl (h2 c6 c15) ?_
      refine wp_iinc (pc := 33) (v := (x1 + 1)) (lv' := [(0, .ref (pw_ad g 29)), (1, .int (x1 + 1))]) 1 dX5_begin_33 rfl rfl (by decide) rfl ?_
      refine wp_goto (pc := 36) (tgt := 2) dX5_begin_36 (by decide) ?_
      exact h3 c6 c15
    ·
      refine wp_aload_n (pc := 18) 0 dX5_begin_18 rfl rfl ?_
      refine wp_getR1 (pc := 19) 29 30 (o := 0) dX5_begin_19 rfl fk_X5_7 rfl rfl ?_
      refine wp_iload_n (pc := 22) 1 dX5_begin_22 rfl rfl ?_
      refine wp_iaload (pc := 23) 30 dX5_begin_23 rfl (h4 c6 c15) ?_
      refine wp_if_eq (pc := 24) (tgt := 31) dX5_begin_24 (by decide) (fun c24 => ?_) (fun c24 => ?_)
      ·
        refine wp_iconst (pc := 31) (v := (0 : Int32)) dX5_begin_31 (by decide) ?_
        refine wp_bastore (pc := 32) 31 dX5_begin_32 rfl (h5 c6 c15 c24) ?_
        refine wp_iinc (pc := 33) (v := (x1 + 1)) (lv' := [(0, .ref (pw_ad g 29)), (1, .int (x1 + 1))]) 1 dX5_begin_33 rfl rfl (by decide) rfl ?_
        refine wp_goto (pc := 36) (tgt := 2) dX5_begin_36 (by decide) ?_
        exact h6 c6 c15 c24
      ·
        refine wp_iconst (pc := 27) (v := (1 : Int32)) dX5_begin_27 (by decide) ?_
        refine wp_goto (pc := 28) (tgt := 32) dX5_begin_28 (by decide) ?_
        refine wp_bastore (pc := 32) 31 dX5_begin_32 rfl (h7 c6 c15 c24) ?_
        refine wp_iinc (pc := 33) (v := (x1 + 1)) (lv' := [(0, .ref (pw_ad g 29)), (1, .int (x1 + 1))]) 1 dX5_begin_33 rfl rfl (by decide) rfl ?_
        refine wp_goto (pc := 36) (tgt := 2) dX5_begin_36 (by decide) ?_
        exact h8 c6 c15 c24
set_option maxRecDepth 20000 in
theorem bX5_begin_43 {g : pw_G} {σ : pw_Mem} {Q : pw_R → Prop} {x1 : Int32} (h1 : x1 ≤ 0 → WP g mX5_begin 75 [(0, .ref (pw_ad g 29)), (1, .int (0 : Int32))] [] 0 σ Q) (h2 : ¬ x1 ≤ 0 → vp_in x1 511) (h3 : ¬ x1 ≤ 0 → (σ 31 (x1).toNatClampNeg) = 0 → WP g mX5_begin 43 [(0, .ref (pw_ad g 29)), (1, .int (x1 + (-1)))] [] 0 σ Q) (h4 : ¬ x1 ≤ 0 → ¬ (σ 31 (x1).toNatClampNeg) = 0 → vp_in ((x1 - (1 : Int32)) / (2 : Int32)) 511) (h5 : ¬ x1 ≤ 0 → ¬ (σ 31 (x1).toNatClampNeg) = 0 → WP g mX5_begin 43 [(0, .ref (pw_ad g 29)), (1, .int (x1 + (-1)))] [] 0 (pw_set σ 31 (((x1 - (1 : Int32)) / (2 : Int32))).toNatClampNeg (1 : Int32)) Q) : WP g mX5_begin 43 [(0, .ref (pw_ad g 29)), (1, .int x1)] [] 0 σ Q := by
  refine wp_iload_n (pc := 43) 1 dX5_begin_43 rfl rfl ?_
  refine wp_if_le (pc := 44) (tgt := 73) dX5_begin_44 (by decide) (fun c44 => ?_) (fun c44 => ?_)
  ·
    refine wp_iconst (pc := 73) (v := (0 : Int32)) dX5_begin_73 (by decide) ?_
    refine wp_istore_n (pc := 74) (lv' := [(0, .ref (pw_ad g 29)), (1, .int (0 : Int32))]) dX5_begin_74 rfl (by decide) rfl ?_
    exact h1 c44
  ·
    refine wp_aload_n (pc := 47) 0 dX5_begin_47 rfl rfl ?_
    refine wp_getR1 (pc := 48) 29 31 (o := 1) dX5_begin_48 rfl fk_X5_13 rfl rfl ?_
    refine wp_iload_n (pc := 51) 1 dX5_begin_51 rfl rfl ?_
    refine wp_baload (pc := 52) 31 dX5_begin_52 rfl (h2 c44) ?_
    refine wp_if_eq (pc := 53) (tgt := 67) dX5_begin_53 (by decide) (fun c53 => ?_) (fun c53 => ?_)
    ·
      refine wp_iinc (pc := 67) (v := (x1 + (-1))) (lv' := [(0, .ref (pw_ad g 29)), (1, .int (x1 + (-1)))]) 1 dX5_begin_67 rfl rfl (by decide) rfl ?_
      refine wp_goto (pc := 70) (tgt := 43) dX5_begin_70 (by decide) ?_
      exact h3 c44 c53
    ·
      refine wp_aload_n (pc := 56) 0 dX5_begin_56 rfl rfl ?_
      refine wp_getR1 (pc := 57) 29 31 (o := 1) dX5_begin_57 rfl fk_X5_13 rfl rfl ?_
      refine wp_iload_n (pc := 60) 1 dX5_begin_60 rfl rfl ?_
      refine wp_iconst (pc := 61) (v := (1 : Int32)) dX5_begin_61 (by decide) ?_
      refine wp_isub (pc := 62) dX5_begin_62 ?_
      refine wp_iconst (pc := 63) (v := (2 : Int32)) dX5_begin_63 (by decide) ?_
      refine wp_idiv (pc := 64) dX5_begin_64 (by decide) ?_
      refine wp_iconst (pc := 65) (v := (1 : Int32)) dX5_begin_65 (by decide) ?_
      refine wp_bastore (pc := 66) 31 dX5_begin_66 rfl (h4 c44 c53) ?_
      refine wp_iinc (pc := 67) (v := (x1 + (-1))) (lv' := [(0, .ref (pw_ad g 29)), (1, .int (x1 + (-1)))]) 1 dX5_begin_67 rfl rfl (by decide) rfl ?_
      refine wp_goto (pc := 70) (tgt := 43) dX5_begin_70 (by decide) ?_
      exact h5 c44 c53
set_option maxRecDepth 20000 in
theorem bX5_begin_75 {g : pw_G} {σ : pw_Mem} {Q : pw_R → Prop} {x1 : Int32} (h1 : (511 : Int32) ≤ x1 → vp_in (0 : Int32) 511) (h2 : (511 : Int32) ≤ x1 → vp_in (0 : Int32) 511) (h3 : (511 : Int32) ≤ x1 → Q (.inl none, (pw_set (pw_set (pw_set σ 29 9 (1 : Int32)) 37 ((0 : Int32)).toNatClampNeg (0 : Int32)) 38 ((0 : Int32)).toNatClampNeg (0 : Int32)))) (h4 : ¬ (511 : Int32) ≤ x1 → vp_in x1 511) (h5 : ¬ (511 : Int32) ≤ x1 → vp_in x1 511) (h6 : ¬ (511 : Int32) ≤ x1 → vp_in x1 511) (h7 : ¬ (511 : Int32) ≤ x1 → WP g mX5_begin 75 [(0, .ref (pw_ad g 29)), (1, .int (x1 + 1))] [] 0 (pw_set (pw_set σ 32 (x1).toNatClampNeg x1) 33 (x1).toNatClampNeg (σ 30 (x1).toNatClampNeg)) Q) : WP g mX5_begin 75 [(0, .ref (pw_ad g 29)), (1, .int x1)] [] 0 σ Q := by
  refine wp_iload_n (pc := 75) 1 dX5_begin_75 rfl rfl ?_
  refine wp_sipush (pc := 76) (v := (511 : Int32)) dX5_begin_76 (by decide) ?_
  refine wp_icmp_ge (pc := 79) (tgt := 107) dX5_begin_79 (by decide) (fun c79 => ?_) (fun c79 => ?_)
  ·
    refine wp_aload_n (pc := 107) 0 dX5_begin_107 rfl rfl ?_
    refine wp_iconst (pc := 108) (v := (1 : Int32)) dX5_begin_108 (by decide) ?_
    refine wp_putI (pc := 109) 29 dX5_begin_109 rfl pk_X5_85 rfl ?_
    refine wp_aload_n (pc := 112) 0 dX5_begin_112 rfl rfl ?_
    refine wp_getR1 (pc := 113) 29 37 (o := 7) dX5_begin_113 rfl fk_X5_32 rfl rfl ?_
    refine wp_iconst (pc := 116) (v := (0 : Int32)) dX5_begin_116 (by decide) ?_
    refine wp_iconst (pc := 117) (v := (0 : Int32)) dX5_begin_117 (by decide) ?_
    refine wp_iastore (pc := 118) 37 dX5_begin_118 rfl (h1 c79) ?_
    refine wp_aload_n (pc := 119) 0 dX5_begin_119 rfl rfl ?_
    refine wp_getR1 (pc := 120) 29 38 (o := 8) dX5_begin_120 rfl fk_X5_35 rfl rfl ?_
    refine wp_iconst (pc := 123) (v := (0 : Int32)) dX5_begin_123 (by decide) ?_
    refine wp_iconst (pc := 124) (v := (0 : Int32)) dX5_begin_124 (by decide) ?_
    refine wp_iastore (pc := 125) 38 dX5_begin_125 rfl (h2 c79) ?_
    exact wp_return (pc := 126) dX5_begin_126 rfl (Nat.le_of_ble_eq_true rfl) (h3 c79)
  ·
    refine wp_aload_n (pc := 82) 0 dX5_begin_82 rfl rfl ?_
    refine wp_getR1 (pc := 83) 29 32 (o := 2) dX5_begin_83 rfl fk_X5_17 rfl rfl ?_
    refine wp_iload_n (pc := 86) 1 dX5_begin_86 rfl rfl ?_
    refine wp_iload_n (pc := 87) 1 dX5_begin_87 rfl rfl ?_
    refine wp_iastore (pc := 88) 32 dX5_begin_88 rfl (h4 c79) ?_
    refine wp_aload_n (pc := 89) 0 dX5_begin_89 rfl rfl ?_
    refine wp_getR1 (pc := 90) 29 33 (o := 3) dX5_begin_90 rfl fk_X5_20 rfl rfl ?_
    refine wp_iload_n (pc := 93) 1 dX5_begin_93 rfl rfl ?_
    refine wp_aload_n (pc := 94) 0 dX5_begin_94 rfl rfl ?_
    refine wp_getR1 (pc := 95) 29 30 (o := 0) dX5_begin_95 rfl fk_X5_7 rfl rfl ?_
    refine wp_iload_n (pc := 98) 1 dX5_begin_98 rfl rfl ?_
    refine wp_iaload (pc := 99) 30 dX5_begin_99 rfl (h5 c79) ?_
    refine wp_iastore (pc := 100) 33 dX5_begin_100 rfl (h6 c79) ?_
    refine wp_iinc (pc := 101) (v := (x1 + 1)) (lv' := [(0, .ref (pw_ad g 29)), (1, .int (x1 + 1))]) 1 dX5_begin_101 rfl rfl (by decide) rfl ?_
    refine wp_goto (pc := 104) (tgt := 75) dX5_begin_104 (by decide) ?_
    exact h7 c79
set_option maxRecDepth 20000 in
theorem bX5_unite_0 {g : pw_G} {σ : pw_Mem} {Q : pw_R → Prop} {x1 x2 : Int32} (h1 : vp_in x1 511) (h2 : vp_in x2 511) (h3 : 0 ≤ ((σ 35 (x1).toNatClampNeg) * (σ 35 (x2).toNatClampNeg)) → vp_in x1 511) (h4 : 0 ≤ ((σ 35 (x1).toNatClampNeg) * (σ 35 (x2).toNatClampNeg)) → (σ 35 (x1).toNatClampNeg) = 0 → vp_in x2 511) (h5 : 0 ≤ ((σ 35 (x1).toNatClampNeg) * (σ 35 (x2).toNatClampNeg)) → (σ 35 (x1).toNatClampNeg) = 0 → vp_in x1 511) (h6 : 0 ≤ ((σ 35 (x1).toNatClampNeg) * (σ 35 (x2).toNatClampNeg)) → (σ 35 (x1).toNatClampNeg) = 0 → WP g mX5_unite 50 [(0, .ref (pw_ad g 29)), (1, .int x1), (2, .int x2), (3, .int (0 : Int32))] [] 0 (pw_set σ 35 (x1).toNatClampNeg (σ 35 (x2).toNatClampNeg)) Q) (h7 : 0 ≤ ((σ 35 (x1).toNatClampNeg) * (σ 35 (x2).toNatClampNeg)) → ¬ (σ 35 (x1).toNatClampNeg) = 0 → vp_in x1 511) (h8 : 0 ≤ ((σ 35 (x1).toNatClampNeg) * (σ 35 (x2).toNatClampNeg)) → ¬ (σ 35 (x1).toNatClampNeg) = 0 → vp_in x1 511) (h9 : 0 ≤ ((σ 35 (x1).toNatClampNeg) * (σ 35 (x2).toNatClampNeg)) → ¬ (σ 35 (x1).toNatClampNeg) = 0 → WP g mX5_unite 50 [(0, .ref (pw_ad g 29)), (1, .int x1), (2, .int x2), (3, .int (0 : Int32))] [] 0 (pw_set σ 35 (x1).toNatClampNeg (σ 35 (x1).toNatClampNeg)) Q) (h10 : ¬ 0 ≤ ((σ 35 (x1).toNatClampNeg) * (σ 35 (x2).toNatClampNeg)) → Q (.inl (some (.int (0 : Int32))), σ)) : WP g mX5_unite 0 [(0, .ref (pw_ad g 29)), (1, .int x1), (2, .int x2)] [] 0 σ Q := by
  refine wp_aload_n (pc := 0) 0 dX5_unite_0 rfl rfl ?_
  refine wp_getR1 (pc := 1) 29 35 (o := 5) dX5_unite_1 rfl fk_X5_26 rfl rfl ?_
  refine wp_iload_n (pc := 4) 1 dX5_unite_4 rfl rfl ?_
  refine wp_iaload (pc := 5) 35 dX5_unite_5 rfl (h1) ?_
  refine wp_aload_n (pc := 6) 0 dX5_unite_6 rfl rfl ?_
  refine wp_getR1 (pc := 7) 29 35 (o := 5) dX5_unite_7 rfl fk_X5_26 rfl rfl ?_
  refine wp_iload_n (pc := 10) 2 dX5_unite_10 rfl rfl ?_
  refine wp_iaload (pc := 11) 35 dX5_unite_11 rfl (h2) ?_
  refine wp_imul (pc := 12) dX5_unite_12 ?_
  refine wp_if_ge (pc := 13) (tgt := 18) dX5_unite_13 (by decide) (fun c13 => ?_) (fun c13 => ?_)
  ·
    refine wp_aload_n (pc := 18) 0 dX5_unite_18 rfl rfl ?_
    refine wp_getR1 (pc := 19) 29 35 (o := 5) dX5_unite_19 rfl fk_X5_26 rfl rfl ?_
    refine wp_iload_n (pc := 22) 1 dX5_unite_22 rfl rfl ?_
    refine wp_aload_n (pc := 23) 0 dX5_unite_23 rfl rfl ?_
    refine wp_getR1 (pc := 24) 29 35 (o := 5) dX5_unite_24 rfl fk_X5_26 rfl rfl ?_
    refine wp_iload_n (pc := 27) 1 dX5_unite_27 rfl rfl ?_
    refine wp_iaload (pc := 28) 35 dX5_unite_28 rfl (h3 c13) ?_
    refine wp_if_eq (pc := 29) (tgt := 41) dX5_unite_29 (by decide) (fun c29 => ?_) (fun c29 => ?_)
    ·
      refine wp_aload_n (pc := 41) 0 dX5_unite_41 rfl rfl ?_
      refine wp_getR1 (pc := 42) 29 35 (o := 5) dX5_unite_42 rfl fk_X5_26 rfl rfl ?_
      refine wp_iload_n (pc := 45) 2 dX5_unite_45 rfl rfl ?_
      refine wp_iaload (pc := 46) 35 dX5_unite_46 rfl (h4 c13 c29) ?_
      refine wp_iastore (pc := 47) 35 dX5_unite_47 rfl (h5 c13 c29) ?_
      refine wp_iconst (pc := 48) (v := (0 : Int32)) dX5_unite_48 (by decide) ?_
      refine wp_istore_n (pc := 49) (lv' := [(0, .ref (pw_ad g 29)), (1, .int x1), (2, .int x2), (3, .int (0 : Int32))]) dX5_unite_49 rfl (by decide) rfl ?_
      exact h6 c13 c29
    ·
      refine wp_aload_n (pc := 32) 0 dX5_unite_32 rfl rfl ?_
      refine wp_getR1 (pc := 33) 29 35 (o := 5) dX5_unite_33 rfl fk_X5_26 rfl rfl ?_
      refine wp_iload_n (pc := 36) 1 dX5_unite_36 rfl rfl ?_
      refine wp_iaload (pc := 37) 35 dX5_unite_37 rfl (h7 c13 c29) ?_
      refine wp_goto (pc := 38) (tgt := 47) dX5_unite_38 (by decide) ?_
      refine wp_iastore (pc := 47) 35 dX5_unite_47 rfl (h8 c13 c29) ?_
      refine wp_iconst (pc := 48) (v := (0 : Int32)) dX5_unite_48 (by decide) ?_
      refine wp_istore_n (pc := 49) (lv' := [(0, .ref (pw_ad g 29)), (1, .int x1), (2, .int x2), (3, .int (0 : Int32))]) dX5_unite_49 rfl (by decide) rfl ?_
      exact h9 c13 c29
  ·
    refine wp_iconst (pc := 16) (v := (0 : Int32)) dX5_unite_16 (by decide) ?_
    exact wp_ireturn (pc := 17) dX5_unite_17 rfl (by decide) (Nat.le_of_ble_eq_true rfl) (h10 c13)
set_option maxRecDepth 20000 in
theorem bX5_unite_50 {g : pw_G} {σ : pw_Mem} {Q : pw_R → Prop} {x1 x2 x3 : Int32} (h1 : (511 : Int32) ≤ x3 → Q (.inl (some (.int (1 : Int32))), σ)) (h2 : ¬ (511 : Int32) ≤ x3 → vp_in x3 511) (h3 : ¬ (511 : Int32) ≤ x3 → ¬ (σ 34 (x3).toNatClampNeg) = x2 → vp_in x3 511) (h4 : ¬ (511 : Int32) ≤ x3 → ¬ (σ 34 (x3).toNatClampNeg) = x2 → vp_in x3 511) (h5 : ¬ (511 : Int32) ≤ x3 → ¬ (σ 34 (x3).toNatClampNeg) = x2 → WP g mX5_unite 50 [(0, .ref (pw_ad g 29)), (1, .int x1), (2, .int x2), (3, .int (x3 + 1))] [] 0 (pw_set σ 34 (x3).toNatClampNeg (σ 34 (x3).toNatClampNeg)) Q) (h6 : ¬ (511 : Int32) ≤ x3 → (σ 34 (x3).toNatClampNeg) = x2 → vp_in x3 511) (h7 : ¬ (511 : Int32) ≤ x3 → (σ 34 (x3).toNatClampNeg) = x2 → WP g mX5_unite 50 [(0, .ref (pw_ad g 29)), (1, .int x1), (2, .int x2), (3, .int (x3 + 1))] [] 0 (pw_set σ 34 (x3).toNatClampNeg x1) Q) : WP g mX5_unite 50 [(0, .ref (pw_ad g 29)), (1, .int x1), (2, .int x2), (3, .int x3)] [] 0 σ Q := by
  refine wp_iload_n (pc := 50) 3 dX5_unite_50 rfl rfl ?_
  refine wp_sipush (pc := 51) (v := (511 : Int32)) dX5_unite_51 (by decide) ?_
  refine wp_icmp_ge (pc := 54) (tgt := 89) dX5_unite_54 (by decide) (fun c54 => ?_) (fun c54 => ?_)
  ·
    refine wp_iconst (pc := 89) (v := (1 : Int32)) dX5_unite_89 (by decide) ?_
    exact wp_ireturn (pc := 90) dX5_unite_90 rfl (by decide) (Nat.le_of_ble_eq_true rfl) (h1 c54)
  ·
    refine wp_aload_n (pc := 57) 0 dX5_unite_57 rfl rfl ?_
    refine wp_getR1 (pc := 58) 29 34 (o := 4) dX5_unite_58 rfl fk_X5_23 rfl rfl ?_
    refine wp_iload_n (pc := 61) 3 dX5_unite_61 rfl rfl ?_
    refine wp_aload_n (pc := 62) 0 dX5_unite_62 rfl rfl ?_
    refine wp_getR1 (pc := 63) 29 34 (o := 4) dX5_unite_63 rfl fk_X5_23 rfl rfl ?_
    refine wp_iload_n (pc := 66) 3 dX5_unite_66 rfl rfl ?_
    refine wp_iaload (pc := 67) 34 dX5_unite_67 rfl (h2 c54) ?_
    refine wp_iload_n (pc := 68) 2 dX5_unite_68 rfl rfl ?_
    refine wp_icmp_ne (pc := 69) (tgt := 76) dX5_unite_69 (by decide) (fun c69 => ?_) (fun c69 => ?_)
    ·
      refine wp_aload_n (pc := 76) 0 dX5_unite_76 rfl rfl ?_
      refine wp_getR1 (pc := 77) 29 34 (o := 4) dX5_unite_77 rfl fk_X5_23 rfl rfl ?_
      refine wp_iload_n (pc := 80) 3 dX5_unite_80 rfl rfl ?_
      refine wp_iaload (pc := 81) 34 dX5_unite_81 rfl (h3 c54 c69) ?_
      refine wp_iastore (pc := 82) 34 dX5_unite_82 rfl (h4 c54 c69) ?_
      refine wp_iinc (pc := 83) (v := (x3 + 1)) (lv' := [(0, .ref (pw_ad g 29)), (1, .int x1), (2, .int x2), (3, .int (x3 + 1))]) 3 dX5_unite_83 rfl rfl (by decide) rfl ?_
      refine wp_goto (pc := 86) (tgt := 50) dX5_unite_86 (by decide) ?_
      exact h5 c54 c69
    ·
      refine wp_iload_n (pc := 72) 1 dX5_unite_72 rfl rfl ?_
      refine wp_goto (pc := 73) (tgt := 82) dX5_unite_73 (by decide) ?_
      refine wp_iastore (pc := 82) 34 dX5_unite_82 rfl (h6 c54 c69) ?_
      refine wp_iinc (pc := 83) (v := (x3 + 1)) (lv' := [(0, .ref (pw_ad g 29)), (1, .int x1), (2, .int x2), (3, .int (x3 + 1))]) 3 dX5_unite_83 rfl rfl (by decide) rfl ?_
      refine wp_goto (pc := 86) (tgt := 50) dX5_unite_86 (by decide) ?_
      exact h7 c54 c69
set_option maxRecDepth 20000 in
theorem bX5_findTwins_0 {g : pw_G} {σ : pw_Mem} {Q : pw_R → Prop} (h1 : WP g mX5_findTwins 2 [(0, .ref (pw_ad g 29)), (1, .int (0 : Int32))] [] 0 σ Q) : WP g mX5_findTwins 0 [(0, .ref (pw_ad g 29))] [] 0 σ Q := by
  refine wp_iconst (pc := 0) (v := (0 : Int32)) dX5_findTwins_0 (by decide) ?_
  refine wp_istore_n (pc := 1) (lv' := [(0, .ref (pw_ad g 29)), (1, .int (0 : Int32))]) dX5_findTwins_1 rfl (by decide) rfl ?_
  exact h1
set_option maxRecDepth 20000 in
theorem bX5_findTwins_2 {g : pw_G} {σ : pw_Mem} {Q : pw_R → Prop} {x1 : Int32} (h1 : (1022 : Int32) ≤ x1 → WP g mX5_findTwins 24 [(0, .ref (pw_ad g 29)), (1, .int (0 : Int32))] [] 0 σ Q) (h2 : ¬ (1022 : Int32) ≤ x1 → vp_in x1 1022) (h3 : ¬ (1022 : Int32) ≤ x1 → WP g mX5_findTwins 2 [(0, .ref (pw_ad g 29)), (1, .int (x1 + 1))] [] 0 (pw_set σ 36 (x1).toNatClampNeg (-1 : Int32)) Q) : WP g mX5_findTwins 2 [(0, .ref (pw_ad g 29)), (1, .int x1)] [] 0 σ Q := by
  refine wp_iload_n (pc := 2) 1 dX5_findTwins_2 rfl rfl ?_
  refine wp_sipush (pc := 3) (v := (1022 : Int32)) dX5_findTwins_3 (by decide) ?_
  refine wp_icmp_ge (pc := 6) (tgt := 22) dX5_findTwins_6 (by decide) (fun c6 => ?_) (fun c6 => ?_)
  ·
    refine wp_iconst (pc := 22) (v := (0 : Int32)) dX5_findTwins_22 (by decide) ?_
    refine wp_istore_n (pc := 23) (lv' := [(0, .ref (pw_ad g 29)), (1, .int (0 : Int32))]) dX5_findTwins_23 rfl (by decide) rfl ?_
    exact h1 c6
  ·
    refine wp_aload_n (pc := 9) 0 dX5_findTwins_9 rfl rfl ?_
    refine wp_getR1 (pc := 10) 29 36 (o := 6) dX5_findTwins_10 rfl fk_X5_29 rfl rfl ?_
    refine wp_iload_n (pc := 13) 1 dX5_findTwins_13 rfl rfl ?_
    refine wp_iconst (pc := 14) (v := (-1 : Int32)) dX5_findTwins_14 (by decide) ?_
    refine wp_iastore (pc := 15) 36 dX5_findTwins_15 rfl (h2 c6) ?_
    refine wp_iinc (pc := 16) (v := (x1 + 1)) (lv' := [(0, .ref (pw_ad g 29)), (1, .int (x1 + 1))]) 1 dX5_findTwins_16 rfl rfl (by decide) rfl ?_
    refine wp_goto (pc := 19) (tgt := 2) dX5_findTwins_19 (by decide) ?_
    exact h3 c6
set_option maxRecDepth 20000 in
theorem bX5_findTwins_24 {g : pw_G} {σ : pw_Mem} {Q : pw_R → Prop} {x1 : Int32} (h1 : (255 : Int32) ≤ x1 → Q (.inl (some (.int (0 : Int32))), σ)) (h2 : ¬ (255 : Int32) ≤ x1 → WP g mX5_findTwins 33 [(0, .ref (pw_ad g 29)), (1, .int x1), (2, .int (0 : Int32))] [] 0 σ Q) : WP g mX5_findTwins 24 [(0, .ref (pw_ad g 29)), (1, .int x1)] [] 0 σ Q := by
  refine wp_iload_n (pc := 24) 1 dX5_findTwins_24 rfl rfl ?_
  refine wp_sipush (pc := 25) (v := (255 : Int32)) dX5_findTwins_25 (by decide) ?_
  refine wp_icmp_ge (pc := 28) (tgt := 157) dX5_findTwins_28 (by decide) (fun c28 => ?_) (fun c28 => ?_)
  ·
    refine wp_iconst (pc := 157) (v := (0 : Int32)) dX5_findTwins_157 (by decide) ?_
    exact wp_ireturn (pc := 158) dX5_findTwins_158 rfl (by decide) (Nat.le_of_ble_eq_true rfl) (h1 c28)
  ·
    refine wp_iconst (pc := 31) (v := (0 : Int32)) dX5_findTwins_31 (by decide) ?_
    refine wp_istore_n (pc := 32) (lv' := [(0, .ref (pw_ad g 29)), (1, .int x1), (2, .int (0 : Int32))]) dX5_findTwins_32 rfl (by decide) rfl ?_
    exact h2 c28
set_option maxRecDepth 20000 in
theorem bX5_findTwins_33 {g : pw_G} {σ : pw_Mem} {Q : pw_R → Prop} {x1 x2 : Int32} (h1 : (2 : Int32) ≤ x2 → WP g mX5_findTwins 24 [(0, .ref (pw_ad g 29)), (1, .int (x1 + 1)), (2, .int x2)] [] 0 σ Q) (h2 : ¬ (2 : Int32) ≤ x2 → vp_in x1 511) (h3 : ¬ (2 : Int32) ≤ x2 → (σ 31 (x1).toNatClampNeg) = 0 → WP g mX5_findTwins 24 [(0, .ref (pw_ad g 29)), (1, .int (x1 + 1)), (2, .int x2)] [] 0 σ Q) (h4 : ¬ (2 : Int32) ≤ x2 → ¬ (σ 31 (x1).toNatClampNeg) = 0 → WP g mX5_followed 0 [(0, .int x1), (1, .int x2)] [] 0 σ (pw_k g mX5_findTwins 52 [(0, .ref (pw_ad g 29)), (1, .int x1), (2, .int x2)] [] 0 Q)) : WP g mX5_findTwins 33 [(0, .ref (pw_ad g 29)), (1, .int x1), (2, .int x2)] [] 0 σ Q := by
  refine wp_iload_n (pc := 33) 2 dX5_findTwins_33 rfl rfl ?_
  refine wp_iconst (pc := 34) (v := (2 : Int32)) dX5_findTwins_34 (by decide) ?_
  refine wp_icmp_ge (pc := 35) (tgt := 151) dX5_findTwins_35 (by decide) (fun c35 => ?_) (fun c35 => ?_)
  ·
    refine wp_iinc (pc := 151) (v := (x1 + 1)) (lv' := [(0, .ref (pw_ad g 29)), (1, .int (x1 + 1)), (2, .int x2)]) 1 dX5_findTwins_151 rfl rfl (by decide) rfl ?_
    refine wp_goto (pc := 154) (tgt := 24) dX5_findTwins_154 (by decide) ?_
    exact h1 c35
  ·
    refine wp_aload_n (pc := 38) 0 dX5_findTwins_38 rfl rfl ?_
    refine wp_getR1 (pc := 39) 29 31 (o := 1) dX5_findTwins_39 rfl fk_X5_13 rfl rfl ?_
    refine wp_iload_n (pc := 42) 1 dX5_findTwins_42 rfl rfl ?_
    refine wp_baload (pc := 43) 31 dX5_findTwins_43 rfl (h2 c35) ?_
    refine wp_if_eq (pc := 44) (tgt := 151) dX5_findTwins_44 (by decide) (fun c44 => ?_) (fun c44 => ?_)
    ·
      refine wp_iinc (pc := 151) (v := (x1 + 1)) (lv' := [(0, .ref (pw_ad g 29)), (1, .int (x1 + 1)), (2, .int x2)]) 1 dX5_findTwins_151 rfl rfl (by decide) rfl ?_
      refine wp_goto (pc := 154) (tgt := 24) dX5_findTwins_154 (by decide) ?_
      exact h3 c35 c44
    ·
      refine wp_iload_n (pc := 47) 1 dX5_findTwins_47 rfl rfl ?_
      refine wp_iload_n (pc := 48) 2 dX5_findTwins_48 rfl rfl ?_
      refine wp_callS (pc := 49) (M' := mX5_followed) [.int x1, .int x2] [] dX5_findTwins_49 ck_X5_88 ⟨Nat.le_of_ble_eq_true rfl, Nat.le_of_ble_eq_true rfl⟩ rfl (Nat.le_of_ble_eq_true rfl) (Nat.le_of_ble_eq_true rfl) (Nat.le_of_ble_eq_true rfl) rfl ?_
      exact h4 c35 c44
set_option maxRecDepth 20000 in
theorem bX5_findTwins_52 {g : pw_G} {σ : pw_Mem} {Q : pw_R → Prop} {s9 x1 x2 : Int32} (h1 : vp_in x1 511) (h2 : vp_in s9 511) (h3 : (σ 31 (s9).toNatClampNeg) = 0 → vp_in s9 511) (h4 : (σ 31 (s9).toNatClampNeg) = 0 → (σ 31 (s9).toNatClampNeg) = 0 → WP g mX5_findTwins 33 [(0, .ref (pw_ad g 29)), (1, .int x1), (2, .int (x2 + 1)), (3, .int s9), (4, .int (((2 : Int32) * (σ 34 (x1).toNatClampNeg)) + x2))] [] 0 σ Q) (h5 : (σ 31 (s9).toNatClampNeg) = 0 → ¬ (σ 31 (s9).toNatClampNeg) = 0 → vp_in s9 511) (h6 : (σ 31 (s9).toNatClampNeg) = 0 → ¬ (σ 31 (s9).toNatClampNeg) = 0 → vp_in (((2 : Int32) * (σ 34 (x1).toNatClampNeg)) + x2) 1022) (h7 : (σ 31 (s9).toNatClampNeg) = 0 → ¬ (σ 31 (s9).toNatClampNeg) = 0 → WP g mX5_findTwins 33 [(0, .ref (pw_ad g 29)), (1, .int x1), (2, .int (x2 + 1)), (3, .int s9), (4, .int (((2 : Int32) * (σ 34 (x1).toNatClampNeg)) + x2))] [] 0 (pw_set σ 36 ((((2 : Int32) * (σ 34 (x1).toNatClampNeg)) + x2)).toNatClampNeg (σ 34 (s9).toNatClampNeg)) Q) (h8 : ¬ (σ 31 (s9).toNatClampNeg) = 0 → vp_in (((2 : Int32) * (σ 34 (x1).toNatClampNeg)) + x2) 1022) (h9 : ¬ (σ 31 (s9).toNatClampNeg) = 0 → (σ 36 ((((2 : Int32) * (σ 34 (x1).toNatClampNeg)) + x2)).toNatClampNeg) < 0 → vp_in s9 511) (h10 : ¬ (σ 31 (s9).toNatClampNeg) = 0 → (σ 36 ((((2 : Int32) * (σ 34 (x1).toNatClampNeg)) + x2)).toNatClampNeg) < 0 → (σ 31 (s9).toNatClampNeg) = 0 → WP g mX5_findTwins 33 [(0, .ref (pw_ad g 29)), (1, .int x1), (2, .int (x2 + 1)), (3, .int s9), (4, .int (((2 : Int32) * (σ 34 (x1).toNatClampNeg)) + x2))] [] 0 σ Q) (h11 : ¬ (σ 31 (s9).toNatClampNeg) = 0 → (σ 36 ((((2 : Int32) * (σ 34 (x1).toNatClampNeg)) + x2)).toNatClampNeg) < 0 → ¬ (σ 31 (s9).toNatClampNeg) = 0 → vp_in s9 511) (h12 : ¬ (σ 31 (s9).toNatClampNeg) = 0 → (σ 36 ((((2 : Int32) * (σ 34 (x1).toNatClampNeg)) + x2)).toNatClampNeg) < 0 → ¬ (σ 31 (s9).toNatClampNeg) = 0 → vp_in (((2 : Int32) * (σ 34 (x1).toNatClampNeg)) + x2) 1022) (h13 : ¬ (σ 31 (s9).toNatClampNeg) = 0 → (σ 36 ((((2 : Int32) * (σ 34 (x1).toNatClampNeg)) + x2)).toNatClampNeg) < 0 → ¬ (σ 31 (s9).toNatClampNeg) = 0 → WP g mX5_findTwins 33 [(0, .ref (pw_ad g 29)), (1, .int x1), (2, .int (x2 + 1)), (3, .int s9), (4, .int (((2 : Int32) * (σ 34 (x1).toNatClampNeg)) + x2))] [] 0 (pw_set σ 36 ((((2 : Int32) * (σ 34 (x1).toNatClampNeg)) + x2)).toNatClampNeg (σ 34 (s9).toNatClampNeg)) Q) (h14 : ¬ (σ 31 (s9).toNatClampNeg) = 0 → ¬ (σ 36 ((((2 : Int32) * (σ 34 (x1).toNatClampNeg)) + x2)).toNatClampNeg) < 0 → vp_in (((2 : Int32) * (σ 34 (x1).toNatClampNeg)) + x2) 1022) (h15 : ¬ (σ 31 (s9).toNatClampNeg) = 0 → ¬ (σ 36 ((((2 : Int32) * (σ 34 (x1).toNatClampNeg)) + x2)).toNatClampNeg) < 0 → vp_in s9 511) (h16 : ¬ (σ 31 (s9).toNatClampNeg) = 0 → ¬ (σ 36 ((((2 : Int32) * (σ 34 (x1).toNatClampNeg)) + x2)).toNatClampNeg) < 0 → (σ 36 ((((2 : Int32) * (σ 34 (x1).toNatClampNeg)) + x2)).toNatClampNeg) = (σ 34 (s9).toNatClampNeg) → vp_in s9 511) (h17 : ¬ (σ 31 (s9).toNatClampNeg) = 0 → ¬ (σ 36 ((((2 : Int32) * (σ 34 (x1).toNatClampNeg)) + x2)).toNatClampNeg) < 0 → (σ 36 ((((2 : Int32) * (σ 34 (x1).toNatClampNeg)) + x2)).toNatClampNeg) = (σ 34 (s9).toNatClampNeg) → (σ 31 (s9).toNatClampNeg) = 0 → WP g mX5_findTwins 33 [(0, .ref (pw_ad g 29)), (1, .int x1), (2, .int (x2 + 1)), (3, .int s9), (4, .int (((2 : Int32) * (σ 34 (x1).toNatClampNeg)) + x2))] [] 0 σ Q) (h18 : ¬ (σ 31 (s9).toNatClampNeg) = 0 → ¬ (σ 36 ((((2 : Int32) * (σ 34 (x1).toNatClampNeg)) + x2)).toNatClampNeg) < 0 → (σ 36 ((((2 : Int32) * (σ 34 (x1).toNatClampNeg)) + x2)).toNatClampNeg) = (σ 34 (s9).toNatClampNeg) → ¬ (σ 31 (s9).toNatClampNeg) = 0 → vp_in s9 511) (h19 : ¬ (σ 31 (s9).toNatClampNeg) = 0 → ¬ (σ 36 ((((2 : Int32) * (σ 34 (x1).toNatClampNeg)) + x2)).toNatClampNeg) < 0 → (σ 36 ((((2 : Int32) * (σ 34 (x1).toNatClampNeg)) + x2)).toNatClampNeg) = (σ 34 (s9).toNatClampNeg) → ¬ (σ 31 (s9).toNatClampNeg) = 0 → vp_in (((2 : Int32) * (σ 34 (x1).toNatClampNeg)) + x2) 1022) (h20 : ¬ (σ 31 (s9).toNatClampNeg) = 0 → ¬ (σ 36 ((((2 : Int32) * (σ 34 (x1).toNatClampNeg)) + x2)).toNatClampNeg) < 0 → (σ 36 ((((2 : Int32) * (σ 34 (x1).toNatClampNeg)) + x2)).toNatClampNeg) = (σ 34 (s9).toNatClampNeg) → ¬ (σ 31 (s9).toNatClampNeg) = 0 → WP g mX5_findTwins 33 [(0, .ref (pw_ad g 29)), (1, .int x1), (2, .int (x2 + 1)), (3, .int s9), (4, .int (((2 : Int32) * (σ 34 (x1).toNatClampNeg)) + x2))] [] 0 (pw_set σ 36 ((((2 : Int32) * (σ 34 (x1).toNatClampNeg)) + x2)).toNatClampNeg (σ 34 (s9).toNatClampNeg)) Q) (h21 : ¬ (σ 31 (s9).toNatClampNeg) = 0 → ¬ (σ 36 ((((2 : Int32) * (σ 34 (x1).toNatClampNeg)) + x2)).toNatClampNeg) < 0 → ¬ (σ 36 ((((2 : Int32) * (σ 34 (x1).toNatClampNeg)) + x2)).toNatClampNeg) = (σ 34 (s9).toNatClampNeg) → vp_in (((2 : Int32) * (σ 34 (x1).toNatClampNeg)) + x2) 1022) (h22 : ¬ (σ 31 (s9).toNatClampNeg) = 0 → ¬ (σ 36 ((((2 : Int32) * (σ 34 (x1).toNatClampNeg)) + x2)).toNatClampNeg) < 0 → ¬ (σ 36 ((((2 : Int32) * (σ 34 (x1).toNatClampNeg)) + x2)).toNatClampNeg) = (σ 34 (s9).toNatClampNeg) → vp_in s9 511) (h23 : ¬ (σ 31 (s9).toNatClampNeg) = 0 → ¬ (σ 36 ((((2 : Int32) * (σ 34 (x1).toNatClampNeg)) + x2)).toNatClampNeg) < 0 → ¬ (σ 36 ((((2 : Int32) * (σ 34 (x1).toNatClampNeg)) + x2)).toNatClampNeg) = (σ 34 (s9).toNatClampNeg) → Q (.inl (some (.int (1 : Int32))), (pw_set (pw_set σ 29 24 (σ 36 ((((2 : Int32) * (σ 34 (x1).toNatClampNeg)) + x2)).toNatClampNeg)) 29 25 (σ 34 (s9).toNatClampNeg)))) : WP g mX5_findTwins 52 [(0, .ref (pw_ad g 29)), (1, .int x1), (2, .int x2)] [.int s9] 0 σ Q := by
  refine wp_istore_n (pc := 52) (lv' := [(0, .ref (pw_ad g 29)), (1, .int x1), (2, .int x2), (3, .int s9)]) dX5_findTwins_52 rfl (by decide) rfl ?_
  refine wp_iconst (pc := 53) (v := (2 : Int32)) dX5_findTwins_53 (by decide) ?_
  refine wp_aload_n (pc := 54) 0 dX5_findTwins_54 rfl rfl ?_
  refine wp_getR1 (pc := 55) 29 34 (o := 4) dX5_findTwins_55 rfl fk_X5_23 rfl rfl ?_
  refine wp_iload_n (pc := 58) 1 dX5_findTwins_58 rfl rfl ?_
  refine wp_iaload (pc := 59) 34 dX5_findTwins_59 rfl (h1) ?_
  refine wp_imul (pc := 60) dX5_findTwins_60 ?_
  refine wp_iload_n (pc := 61) 2 dX5_findTwins_61 rfl rfl ?_
  refine wp_iadd (pc := 62) dX5_findTwins_62 ?_
  refine wp_istore (pc := 63) (lv' := [(0, .ref (pw_ad g 29)), (1, .int x1), (2, .int x2), (3, .int s9), (4, .int (((2 : Int32) * (σ 34 (x1).toNatClampNeg)) + x2))]) dX5_findTwins_63 (by decide) rfl ?_
  refine wp_aload_n (pc := 65) 0 dX5_findTwins_65 rfl rfl ?_
  refine wp_getR1 (pc := 66) 29 31 (o := 1) dX5_findTwins_66 rfl fk_X5_13 rfl rfl ?_
  refine wp_iload_n (pc := 69) 3 dX5_findTwins_69 rfl rfl ?_
  refine wp_baload (pc := 70) 31 dX5_findTwins_70 rfl (h2) ?_
  refine wp_if_eq (pc := 71) (tgt := 123) dX5_findTwins_71 (by decide) (fun c71 => ?_) (fun c71 => ?_)
  ·
    refine wp_aload_n (pc := 123) 0 dX5_findTwins_123 rfl rfl ?_
    refine wp_getR1 (pc := 124) 29 31 (o := 1) dX5_findTwins_124 rfl fk_X5_13 rfl rfl ?_
    refine wp_iload_n (pc := 127) 3 dX5_findTwins_127 rfl rfl ?_
    refine wp_baload (pc := 128) 31 dX5_findTwins_128 rfl (h3 c71) ?_
    refine wp_if_eq (pc := 129) (tgt := 145) dX5_findTwins_129 (by decide) (fun c129 => ?_) (fun c129 => ?_)
    ·
      refine wp_iinc (pc := 145) (v := (x2 + 1)) (lv' := [(0, .ref (pw_ad g 29)), (1, .int x1), (2, .int (x2 + 1)), (3, .int s9), (4, .int (((2 : Int32) * (σ 34 (x1).toNatClampNeg)) + x2))]) 2 dX5_findTwins_145 rfl rfl (by decide) rfl ?_
      refine wp_goto (pc := 148) (tgt := 33) dX5_findTwins_148 (by decide) ?_
      exact h4 c71 c129
    ·
      refine wp_aload_n (pc := 132) 0 dX5_findTwins_132 rfl rfl ?_
      refine wp_getR1 (pc := 133) 29 36 (o := 6) dX5_findTwins_133 rfl fk_X5_29 rfl rfl ?_
      refine wp_iload (pc := 136) 4 dX5_findTwins_136 rfl ?_
      refine wp_aload_n (pc := 138) 0 dX5_findTwins_138 rfl rfl ?_
      refine wp_getR1 (pc := 139) 29 34 (o := 4) dX5_findTwins_139 rfl fk_X5_23 rfl rfl ?_
      refine wp_iload_n (pc := 142) 3 dX5_findTwins_142 rfl rfl ?_
      refine wp_iaload (pc := 143) 34 dX5_findTwins_143 rfl (h5 c71 c129) ?_
      refine wp_iastore (pc := 144) 36 dX5_findTwins_144 rfl (h6 c71 c129) ?_
      refine wp_iinc (pc := 145) (v := (x2 + 1)) (lv' := [(0, .ref (pw_ad g 29)), (1, .int x1), (2, .int (x2 + 1)), (3, .int s9), (4, .int (((2 : Int32) * (σ 34 (x1).toNatClampNeg)) + x2))]) 2 dX5_findTwins_145 rfl rfl (by decide) rfl ?_
      refine wp_goto (pc := 148) (tgt := 33) dX5_findTwins_148 (by decide) ?_
      exact h7 c71 c129
  ·
    refine wp_aload_n (pc := 74) 0 dX5_findTwins_74 rfl rfl ?_
    refine wp_getR1 (pc := 75) 29 36 (o := 6) dX5_findTwins_75 rfl fk_X5_29 rfl rfl ?_
    refine wp_iload (pc := 78) 4 dX5_findTwins_78 rfl ?_
    refine wp_iaload (pc := 80) 36 dX5_findTwins_80 rfl (h8 c71) ?_
    refine wp_if_lt (pc := 81) (tgt := 123) dX5_findTwins_81 (by decide) (fun c81 => ?_) (fun c81 => ?_)
    ·
      refine wp_aload_n (pc := 123) 0 dX5_findTwins_123 rfl rfl ?_
      refine wp_getR1 (pc := 124) 29 31 (o := 1) dX5_findTwins_124 rfl fk_X5_13 rfl rfl ?_
      refine wp_iload_n (pc := 127) 3 dX5_findTwins_127 rfl rfl ?_
      refine wp_baload (pc := 128) 31 dX5_findTwins_128 rfl (h9 c71 c81) ?_
      refine wp_if_eq (pc := 129) (tgt := 145) dX5_findTwins_129 (by decide) (fun c129 => ?_) (fun c129 => ?_)
      ·
        refine wp_iinc (pc := 145) (v := (x2 + 1)) (lv' := [(0, .ref (pw_ad g 29)), (1, .int x1), (2, .int (x2 + 1)), (3, .int s9), (4, .int (((2 : Int32) * (σ 34 (x1).toNatClampNeg)) + x2))]) 2 dX5_findTwins_145 rfl rfl (by decide) rfl ?_
        refine wp_goto (pc := 148) (tgt := 33) dX5_findTwins_148 (by decide) ?_
        exact h10 c71 c81 c129
      ·
        refine wp_aload_n (pc := 132) 0 dX5_findTwins_132 rfl rfl ?_
        refine wp_getR1 (pc := 133) 29 36 (o := 6) dX5_findTwins_133 rfl fk_X5_29 rfl rfl ?_
        refine wp_iload (pc := 136) 4 dX5_findTwins_136 rfl ?_
        refine wp_aload_n (pc := 138) 0 dX5_findTwins_138 rfl rfl ?_
        refine wp_getR1 (pc := 139) 29 34 (o := 4) dX5_findTwins_139 rfl fk_X5_23 rfl rfl ?_
        refine wp_iload_n (pc := 142) 3 dX5_findTwins_142 rfl rfl ?_
        refine wp_iaload (pc := 143) 34 dX5_findTwins_143 rfl (h11 c71 c81 c129) ?_
        refine wp_iastore (pc := 144) 36 dX5_findTwins_144 rfl (h12 c71 c81 c129) ?_
        refine wp_iinc (pc := 145) (v := (x2 + 1)) (lv' := [(0, .ref (pw_ad g 29)), (1, .int x1), (2, .int (x2 + 1)), (3, .int s9), (4, .int (((2 : Int32) * (σ 34 (x1).toNatClampNeg)) + x2))]) 2 dX5_findTwins_145 rfl rfl (by decide) rfl ?_
        refine wp_goto (pc := 148) (tgt := 33) dX5_findTwins_148 (by decide) ?_
        exact h13 c71 c81 c129
    ·
      refine wp_aload_n (pc := 84) 0 dX5_findTwins_84 rfl rfl ?_
      refine wp_getR1 (pc := 85) 29 36 (o := 6) dX5_findTwins_85 rfl fk_X5_29 rfl rfl ?_
      refine wp_iload (pc := 88) 4 dX5_findTwins_88 rfl ?_
      refine wp_iaload (pc := 90) 36 dX5_findTwins_90 rfl (h14 c71 c81) ?_
      refine wp_aload_n (pc := 91) 0 dX5_findTwins_91 rfl rfl ?_
      refine wp_getR1 (pc := 92) 29 34 (o := 4) dX5_findTwins_92 rfl fk_X5_23 rfl rfl ?_
      refine wp_iload_n (pc := 95) 3 dX5_findTwins_95 rfl rfl ?_
      refine wp_iaload (pc := 96) 34 dX5_findTwins_96 rfl (h15 c71 c81) ?_
      refine wp_icmp_eq (pc := 97) (tgt := 123) dX5_findTwins_97 (by decide) (fun c97 => ?_) (fun c97 => ?_)
      ·
        refine wp_aload_n (pc := 123) 0 dX5_findTwins_123 rfl rfl ?_
        refine wp_getR1 (pc := 124) 29 31 (o := 1) dX5_findTwins_124 rfl fk_X5_13 rfl rfl ?_
        refine wp_iload_n (pc := 127) 3 dX5_findTwins_127 rfl rfl ?_
        refine wp_baload (pc := 128) 31 dX5_findTwins_128 rfl (h16 c71 c81 c97) ?_
        refine wp_if_eq (pc := 129) (tgt := 145) dX5_findTwins_129 (by decide) (fun c129 => ?_) (fun c129 => ?_)
        ·
          refine wp_iinc (pc := 145) (v := (x2 + 1)) (lv' := [(0, .ref (pw_ad g 29)), (1, .int x1), (2, .int (x2 + 1)), (3, .int s9), (4, .int (((2 : Int32) * (σ 34 (x1).toNatClampNeg)) + x2))]) 2 dX5_findTwins_145 rfl rfl (by decide) rfl ?_
          refine wp_goto (pc := 148) (tgt := 33) dX5_findTwins_148 (by decide) ?_
          exact h17 c71 c81 c97 c129
        ·
          refine wp_aload_n (pc := 132) 0 dX5_findTwins_132 rfl rfl ?_
          refine wp_getR1 (pc := 133) 29 36 (o := 6) dX5_findTwins_133 rfl fk_X5_29 rfl rfl ?_
          refine wp_iload (pc := 136) 4 dX5_findTwins_136 rfl ?_
          refine wp_aload_n (pc := 138) 0 dX5_findTwins_138 rfl rfl ?_
          refine wp_getR1 (pc := 139) 29 34 (o := 4) dX5_findTwins_139 rfl fk_X5_23 rfl rfl ?_
          refine wp_iload_n (pc := 142) 3 dX5_findTwins_142 rfl rfl ?_
          refine wp_iaload (pc := 143) 34 dX5_findTwins_143 rfl (h18 c71 c81 c97 c129) ?_
          refine wp_iastore (pc := 144) 36 dX5_findTwins_144 rfl (h19 c71 c81 c97 c129) ?_
          refine wp_iinc (pc := 145) (v := (x2 + 1)) (lv' := [(0, .ref (pw_ad g 29)), (1, .int x1), (2, .int (x2 + 1)), (3, .int s9), (4, .int (((2 : Int32) * (σ 34 (x1).toNatClampNeg)) + x2))]) 2 dX5_findTwins_145 rfl rfl (by decide) rfl ?_
          refine wp_goto (pc := 148) (tgt := 33) dX5_findTwins_148 (by decide) ?_
          exact h20 c71 c81 c97 c129
      ·
        refine wp_aload_n (pc := 100) 0 dX5_findTwins_100 rfl rfl ?_
        refine wp_aload_n (pc := 101) 0 dX5_findTwins_101 rfl rfl ?_
        refine wp_getR1 (pc := 102) 29 36 (o := 6) dX5_findTwins_102 rfl fk_X5_29 rfl rfl ?_
        refine wp_iload (pc := 105) 4 dX5_findTwins_105 rfl ?_
        refine wp_iaload (pc := 107) 36 dX5_findTwins_107 rfl (h21 c71 c81 c97) ?_
        refine wp_putI (pc := 108) 29 dX5_findTwins_108 rfl pk_X5_91 rfl ?_
        refine wp_aload_n (pc := 111) 0 dX5_findTwins_111 rfl rfl ?_
        refine wp_aload_n (pc := 112) 0 dX5_findTwins_112 rfl rfl ?_
        refine wp_getR1 (pc := 113) 29 34 (o := 4) dX5_findTwins_113 rfl fk_X5_23 rfl rfl ?_
        refine wp_iload_n (pc := 116) 3 dX5_findTwins_116 rfl rfl ?_
        refine wp_iaload (pc := 117) 34 dX5_findTwins_117 rfl (h22 c71 c81 c97) ?_
        refine wp_putI (pc := 118) 29 dX5_findTwins_118 rfl pk_X5_94 rfl ?_
        refine wp_iconst (pc := 121) (v := (1 : Int32)) dX5_findTwins_121 (by decide) ?_
        exact wp_ireturn (pc := 122) dX5_findTwins_122 rfl (by decide) (Nat.le_of_ble_eq_true rfl) (h23 c71 c81 c97)
set_option maxRecDepth 20000 in
theorem bX5_merge_0 {g : pw_G} {σ : pw_Mem} {Q : pw_R → Prop} {x1 x2 : Int32} (h1 : WP g mX5_merge 2 [(0, .ref (pw_ad g 29)), (1, .int x1), (2, .int x2), (3, .int (0 : Int32))] [] 0 σ Q) : WP g mX5_merge 0 [(0, .ref (pw_ad g 29)), (1, .int x1), (2, .int x2)] [] 0 σ Q := by
  refine wp_iconst (pc := 0) (v := (0 : Int32)) dX5_merge_0 (by decide) ?_
  refine wp_istore_n (pc := 1) (lv' := [(0, .ref (pw_ad g 29)), (1, .int x1), (2, .int x2), (3, .int (0 : Int32))]) dX5_merge_1 rfl (by decide) rfl ?_
  exact h1
set_option maxRecDepth 20000 in
theorem bX5_merge_2 {g : pw_G} {σ : pw_Mem} {Q : pw_R → Prop} {x1 x2 x3 : Int32} (h1 : (511 : Int32) ≤ x3 → vp_in x1 511) (h2 : (511 : Int32) ≤ x3 → vp_in x2 511) (h3 : (511 : Int32) ≤ x3 → WP g mX5_unite 0 [(0, .ref (pw_ad g 29)), (1, .int (σ 32 (x1).toNatClampNeg)), (2, .int (σ 32 (x2).toNatClampNeg))] [] 0 σ (pw_k g mX5_merge 55 [(0, .ref (pw_ad g 29)), (1, .int x1), (2, .int x2), (3, .int x3)] [] 0 Q)) (h4 : ¬ (511 : Int32) ≤ x3 → vp_in x3 511) (h5 : ¬ (511 : Int32) ≤ x3 → vp_in x3 511) (h6 : ¬ (511 : Int32) ≤ x3 → vp_in x3 511) (h7 : ¬ (511 : Int32) ≤ x3 → vp_in x3 511) (h8 : ¬ (511 : Int32) ≤ x3 → WP g mX5_merge 2 [(0, .ref (pw_ad g 29)), (1, .int x1), (2, .int x2), (3, .int (x3 + 1))] [] 0 (pw_set (pw_set σ 34 (x3).toNatClampNeg (σ 32 (x3).toNatClampNeg)) 35 (x3).toNatClampNeg (σ 33 (x3).toNatClampNeg)) Q) : WP g mX5_merge 2 [(0, .ref (pw_ad g 29)), (1, .int x1), (2, .int x2), (3, .int x3)] [] 0 σ Q := by
  refine wp_iload_n (pc := 2) 3 dX5_merge_2 rfl rfl ?_
  refine wp_sipush (pc := 3) (v := (511 : Int32)) dX5_merge_3 (by decide) ?_
  refine wp_icmp_ge (pc := 6) (tgt := 39) dX5_merge_6 (by decide) (fun c6 => ?_) (fun c6 => ?_)
  ·
    refine wp_aload_n (pc := 39) 0 dX5_merge_39 rfl rfl ?_
    refine wp_aload_n (pc := 40) 0 dX5_merge_40 rfl rfl ?_
    refine wp_getR1 (pc := 41) 29 32 (o := 2) dX5_merge_41 rfl fk_X5_17 rfl rfl ?_
    refine wp_iload_n (pc := 44) 1 dX5_merge_44 rfl rfl ?_
    refine wp_iaload (pc := 45) 32 dX5_merge_45 rfl (h1 c6) ?_
    refine wp_aload_n (pc := 46) 0 dX5_merge_46 rfl rfl ?_
    refine wp_getR1 (pc := 47) 29 32 (o := 2) dX5_merge_47 rfl fk_X5_17 rfl rfl ?_
    refine wp_iload_n (pc := 50) 2 dX5_merge_50 rfl rfl ?_
    refine wp_iaload (pc := 51) 32 dX5_merge_51 rfl (h2 c6) ?_
    refine wp_callV (pc := 52) (M' := mX5_unite) 29 [.int (σ 32 (x1).toNatClampNeg), .int (σ 32 (x2).toNatClampNeg)] [] dX5_merge_52 ck_X5_97 rfl rfl ⟨Nat.le_of_ble_eq_true rfl, Nat.le_of_ble_eq_true rfl⟩ rfl (Nat.le_of_ble_eq_true rfl) (Nat.le_of_ble_eq_true rfl) (Nat.le_of_ble_eq_true rfl) rfl ?_
    exact h3 c6
  ·
    refine wp_aload_n (pc := 9) 0 dX5_merge_9 rfl rfl ?_
    refine wp_getR1 (pc := 10) 29 34 (o := 4) dX5_merge_10 rfl fk_X5_23 rfl rfl ?_
    refine wp_iload_n (pc := 13) 3 dX5_merge_13 rfl rfl ?_
    refine wp_aload_n (pc := 14) 0 dX5_merge_14 rfl rfl ?_
    refine wp_getR1 (pc := 15) 29 32 (o := 2) dX5_merge_15 rfl fk_X5_17 rfl rfl ?_
    refine wp_iload_n (pc := 18) 3 dX5_merge_18 rfl rfl ?_
    refine wp_iaload (pc := 19) 32 dX5_merge_19 rfl (h4 c6) ?_
    refine wp_iastore (pc := 20) 34 dX5_merge_20 rfl (h5 c6) ?_
    refine wp_aload_n (pc := 21) 0 dX5_merge_21 rfl rfl ?_
    refine wp_getR1 (pc := 22) 29 35 (o := 5) dX5_merge_22 rfl fk_X5_26 rfl rfl ?_
    refine wp_iload_n (pc := 25) 3 dX5_merge_25 rfl rfl ?_
    refine wp_aload_n (pc := 26) 0 dX5_merge_26 rfl rfl ?_
    refine wp_getR1 (pc := 27) 29 33 (o := 3) dX5_merge_27 rfl fk_X5_20 rfl rfl ?_
    refine wp_iload_n (pc := 30) 3 dX5_merge_30 rfl rfl ?_
    refine wp_iaload (pc := 31) 33 dX5_merge_31 rfl (h6 c6) ?_
    refine wp_iastore (pc := 32) 35 dX5_merge_32 rfl (h7 c6) ?_
    refine wp_iinc (pc := 33) (v := (x3 + 1)) (lv' := [(0, .ref (pw_ad g 29)), (1, .int x1), (2, .int x2), (3, .int (x3 + 1))]) 3 dX5_merge_33 rfl rfl (by decide) rfl ?_
    refine wp_goto (pc := 36) (tgt := 2) dX5_merge_36 (by decide) ?_
    exact h8 c6
set_option maxRecDepth 20000 in
theorem bX5_merge_55 {g : pw_G} {σ : pw_Mem} {Q : pw_R → Prop} {s9 x1 x2 x3 : Int32} (h1 : WP g mX5_merge 56 [(0, .ref (pw_ad g 29)), (1, .int x1), (2, .int x2), (3, .int s9)] [] 0 σ Q) : WP g mX5_merge 55 [(0, .ref (pw_ad g 29)), (1, .int x1), (2, .int x2), (3, .int x3)] [.int s9] 0 σ Q := by
  refine wp_istore_n (pc := 55) (lv' := [(0, .ref (pw_ad g 29)), (1, .int x1), (2, .int x2), (3, .int s9)]) dX5_merge_55 rfl (by decide) rfl ?_
  exact h1
set_option maxRecDepth 20000 in
theorem bX5_merge_56 {g : pw_G} {σ : pw_Mem} {Q : pw_R → Prop} {x1 x2 x3 : Int32} (h1 : x3 = 0 → ¬ x3 = 0 → WP g mX5_merge 92 [(0, .ref (pw_ad g 29)), (1, .int x1), (2, .int x2), (3, .int x3), (4, .int (0 : Int32))] [] 0 σ Q) (h2 : x3 = 0 → x3 = 0 → Q (.inl (some (.int (0 : Int32))), σ)) (h3 : ¬ x3 = 0 → WP g mX5_findTwins 0 [(0, .ref (pw_ad g 29))] [] 0 σ (pw_k g mX5_merge 64 [(0, .ref (pw_ad g 29)), (1, .int x1), (2, .int x2), (3, .int x3)] [] 0 Q)) : WP g mX5_merge 56 [(0, .ref (pw_ad g 29)), (1, .int x1), (2, .int x2), (3, .int x3)] [] 0 σ Q := by
  refine wp_iload_n (pc := 56) 3 dX5_merge_56 rfl rfl ?_
  refine wp_if_eq (pc := 57) (tgt := 83) dX5_merge_57 (by decide) (fun c57 => ?_) (fun c57 => ?_)
  ·
    refine wp_iload_n (pc := 83) 3 dX5_merge_83 rfl rfl ?_
    refine wp_if_ne (pc := 84) (tgt := 89) dX5_merge_84 (by decide) (fun c84 => ?_) (fun c84 => ?_)
    ·
      refine wp_iconst (pc := 89) (v := (0 : Int32)) dX5_merge_89 (by decide) ?_
      refine wp_istore (pc := 90) (lv' := [(0, .ref (pw_ad g 29)), (1, .int x1), (2, .int x2), (3, .int x3), (4, .int (0 : Int32))]) dX5_merge_90 (by decide) rfl ?_
      exact h1 c57 c84
    ·
      refine wp_iconst (pc := 87) (v := (0 : Int32)) dX5_merge_87 (by decide) ?_
      exact wp_ireturn (pc := 88) dX5_merge_88 rfl (by decide) (Nat.le_of_ble_eq_true rfl) (h2 c57 c84)
  ·
    refine wp_aload_n (pc := 60) 0 dX5_merge_60 rfl rfl ?_
    refine wp_callV (pc := 61) (M' := mX5_findTwins) 29 [] [] dX5_merge_61 ck_X5_100 rfl rfl ⟨Nat.le_of_ble_eq_true rfl, Nat.le_of_ble_eq_true rfl⟩ rfl (Nat.le_of_ble_eq_true rfl) (Nat.le_of_ble_eq_true rfl) (Nat.le_of_ble_eq_true rfl) rfl ?_
    exact h3 c57
set_option maxRecDepth 20000 in
theorem bX5_merge_92 {g : pw_G} {σ : pw_Mem} {Q : pw_R → Prop} {x1 x2 x3 x4 : Int32} (h1 : (511 : Int32) ≤ x4 → Q (.inl (some (.int (1 : Int32))), σ)) (h2 : ¬ (511 : Int32) ≤ x4 → vp_in x4 511) (h3 : ¬ (511 : Int32) ≤ x4 → vp_in x4 511) (h4 : ¬ (511 : Int32) ≤ x4 → vp_in x4 511) (h5 : ¬ (511 : Int32) ≤ x4 → vp_in x4 511) (h6 : ¬ (511 : Int32) ≤ x4 → WP g mX5_merge 92 [(0, .ref (pw_ad g 29)), (1, .int x1), (2, .int x2), (3, .int x3), (4, .int (x4 + 1))] [] 0 (pw_set (pw_set σ 32 (x4).toNatClampNeg (σ 34 (x4).toNatClampNeg)) 33 (x4).toNatClampNeg (σ 35 (x4).toNatClampNeg)) Q) : WP g mX5_merge 92 [(0, .ref (pw_ad g 29)), (1, .int x1), (2, .int x2), (3, .int x3), (4, .int x4)] [] 0 σ Q := by
  refine wp_iload (pc := 92) 4 dX5_merge_92 rfl ?_
  refine wp_sipush (pc := 94) (v := (511 : Int32)) dX5_merge_94 (by decide) ?_
  refine wp_icmp_ge (pc := 97) (tgt := 134) dX5_merge_97 (by decide) (fun c97 => ?_) (fun c97 => ?_)
  ·
    refine wp_iconst (pc := 134) (v := (1 : Int32)) dX5_merge_134 (by decide) ?_
    exact wp_ireturn (pc := 135) dX5_merge_135 rfl (by decide) (Nat.le_of_ble_eq_true rfl) (h1 c97)
  ·
    refine wp_aload_n (pc := 100) 0 dX5_merge_100 rfl rfl ?_
    refine wp_getR1 (pc := 101) 29 32 (o := 2) dX5_merge_101 rfl fk_X5_17 rfl rfl ?_
    refine wp_iload (pc := 104) 4 dX5_merge_104 rfl ?_
    refine wp_aload_n (pc := 106) 0 dX5_merge_106 rfl rfl ?_
    refine wp_getR1 (pc := 107) 29 34 (o := 4) dX5_merge_107 rfl fk_X5_23 rfl rfl ?_
    refine wp_iload (pc := 110) 4 dX5_merge_110 rfl ?_
    refine wp_iaload (pc := 112) 34 dX5_merge_112 rfl (h2 c97) ?_
    refine wp_iastore (pc := 113) 32 dX5_merge_113 rfl (h3 c97) ?_
    refine wp_aload_n (pc := 114) 0 dX5_merge_114 rfl rfl ?_
    refine wp_getR1 (pc := 115) 29 33 (o := 3) dX5_merge_115 rfl fk_X5_20 rfl rfl ?_
    refine wp_iload (pc := 118) 4 dX5_merge_118 rfl ?_
    refine wp_aload_n (pc := 120) 0 dX5_merge_120 rfl rfl ?_
    refine wp_getR1 (pc := 121) 29 35 (o := 5) dX5_merge_121 rfl fk_X5_26 rfl rfl ?_
    refine wp_iload (pc := 124) 4 dX5_merge_124 rfl ?_
    refine wp_iaload (pc := 126) 35 dX5_merge_126 rfl (h4 c97) ?_
    refine wp_iastore (pc := 127) 33 dX5_merge_127 rfl (h5 c97) ?_
    refine wp_iinc (pc := 128) (v := (x4 + 1)) (lv' := [(0, .ref (pw_ad g 29)), (1, .int x1), (2, .int x2), (3, .int x3), (4, .int (x4 + 1))]) 4 dX5_merge_128 rfl rfl (by decide) rfl ?_
    refine wp_goto (pc := 131) (tgt := 92) dX5_merge_131 (by decide) ?_
    exact h6 c97
set_option maxRecDepth 20000 in
theorem bX5_merge_64 {g : pw_G} {σ : pw_Mem} {Q : pw_R → Prop} {s9 x1 x2 x3 : Int32} (h1 : s9 = 0 → ¬ x3 = 0 → WP g mX5_merge 92 [(0, .ref (pw_ad g 29)), (1, .int x1), (2, .int x2), (3, .int x3), (4, .int (0 : Int32))] [] 0 σ Q) (h2 : s9 = 0 → x3 = 0 → Q (.inl (some (.int (0 : Int32))), σ)) (h3 : ¬ s9 = 0 → WP g mX5_unite 0 [(0, .ref (pw_ad g 29)), (1, .int (σ 29 24)), (2, .int (σ 29 25))] [] 0 σ (pw_k g mX5_merge 79 [(0, .ref (pw_ad g 29)), (1, .int x1), (2, .int x2), (3, .int x3)] [] 0 Q)) : WP g mX5_merge 64 [(0, .ref (pw_ad g 29)), (1, .int x1), (2, .int x2), (3, .int x3)] [.int s9] 0 σ Q := by
  refine wp_if_eq (pc := 64) (tgt := 83) dX5_merge_64 (by decide) (fun c64 => ?_) (fun c64 => ?_)
  ·
    refine wp_iload_n (pc := 83) 3 dX5_merge_83 rfl rfl ?_
    refine wp_if_ne (pc := 84) (tgt := 89) dX5_merge_84 (by decide) (fun c84 => ?_) (fun c84 => ?_)
    ·
      refine wp_iconst (pc := 89) (v := (0 : Int32)) dX5_merge_89 (by decide) ?_
      refine wp_istore (pc := 90) (lv' := [(0, .ref (pw_ad g 29)), (1, .int x1), (2, .int x2), (3, .int x3), (4, .int (0 : Int32))]) dX5_merge_90 (by decide) rfl ?_
      exact h1 c64 c84
    ·
      refine wp_iconst (pc := 87) (v := (0 : Int32)) dX5_merge_87 (by decide) ?_
      exact wp_ireturn (pc := 88) dX5_merge_88 rfl (by decide) (Nat.le_of_ble_eq_true rfl) (h2 c64 c84)
  ·
    refine wp_aload_n (pc := 67) 0 dX5_merge_67 rfl rfl ?_
    refine wp_aload_n (pc := 68) 0 dX5_merge_68 rfl rfl ?_
    refine wp_getI (pc := 69) 29 dX5_merge_69 rfl fk_X5_91 rfl ?_
    refine wp_aload_n (pc := 72) 0 dX5_merge_72 rfl rfl ?_
    refine wp_getI (pc := 73) 29 dX5_merge_73 rfl fk_X5_94 rfl ?_
    refine wp_callV (pc := 76) (M' := mX5_unite) 29 [.int (σ 29 24), .int (σ 29 25)] [] dX5_merge_76 ck_X5_97 rfl rfl ⟨Nat.le_of_ble_eq_true rfl, Nat.le_of_ble_eq_true rfl⟩ rfl (Nat.le_of_ble_eq_true rfl) (Nat.le_of_ble_eq_true rfl) (Nat.le_of_ble_eq_true rfl) rfl ?_
    exact h3 c64
set_option maxRecDepth 20000 in
theorem bX5_merge_79 {g : pw_G} {σ : pw_Mem} {Q : pw_R → Prop} {s9 x1 x2 x3 : Int32} (h1 : WP g mX5_merge 56 [(0, .ref (pw_ad g 29)), (1, .int x1), (2, .int x2), (3, .int s9)] [] 0 σ Q) : WP g mX5_merge 79 [(0, .ref (pw_ad g 29)), (1, .int x1), (2, .int x2), (3, .int x3)] [.int s9] 0 σ Q := by
  refine wp_istore_n (pc := 79) (lv' := [(0, .ref (pw_ad g 29)), (1, .int x1), (2, .int x2), (3, .int s9)]) dX5_merge_79 rfl (by decide) rfl ?_
  refine wp_goto (pc := 80) (tgt := 56) dX5_merge_80 (by decide) ?_
  exact h1
set_option maxRecDepth 20000 in
theorem bX5_redOf_0 {g : pw_G} {σ : pw_Mem} {Q : pw_R → Prop} {x1 : Int32} (h1 : WP g mX5_redOf 4 [(0, .ref (pw_ad g 29)), (1, .int x1), (2, .int (-1 : Int32)), (3, .int (0 : Int32))] [] 0 σ Q) : WP g mX5_redOf 0 [(0, .ref (pw_ad g 29)), (1, .int x1)] [] 0 σ Q := by
  refine wp_iconst (pc := 0) (v := (-1 : Int32)) dX5_redOf_0 (by decide) ?_
  refine wp_istore_n (pc := 1) (lv' := [(0, .ref (pw_ad g 29)), (1, .int x1), (2, .int (-1 : Int32))]) dX5_redOf_1 rfl (by decide) rfl ?_
  refine wp_iconst (pc := 2) (v := (0 : Int32)) dX5_redOf_2 (by decide) ?_
  refine wp_istore_n (pc := 3) (lv' := [(0, .ref (pw_ad g 29)), (1, .int x1), (2, .int (-1 : Int32)), (3, .int (0 : Int32))]) dX5_redOf_3 rfl (by decide) rfl ?_
  exact h1
set_option maxRecDepth 20000 in
theorem bX5_redOf_4 {g : pw_G} {σ : pw_Mem} {Q : pw_R → Prop} {x1 x2 x3 : Int32} (h1 : (σ 29 9) ≤ x3 → Q (.inl (some (.int x2)), σ)) (h2 : ¬ (σ 29 9) ≤ x3 → vp_in x3 511) (h3 : ¬ (σ 29 9) ≤ x3 → vp_in (σ 37 (x3).toNatClampNeg) 511) (h4 : ¬ (σ 29 9) ≤ x3 → vp_in x1 511) (h5 : ¬ (σ 29 9) ≤ x3 → ¬ (σ 32 ((σ 37 (x3).toNatClampNeg)).toNatClampNeg) = (σ 32 (x1).toNatClampNeg) → WP g mX5_redOf 4 [(0, .ref (pw_ad g 29)), (1, .int x1), (2, .int x2), (3, .int (x3 + 1))] [] 0 σ Q) (h6 : ¬ (σ 29 9) ≤ x3 → (σ 32 ((σ 37 (x3).toNatClampNeg)).toNatClampNeg) = (σ 32 (x1).toNatClampNeg) → WP g mX5_redOf 4 [(0, .ref (pw_ad g 29)), (1, .int x1), (2, .int x3), (3, .int (x3 + 1))] [] 0 σ Q) : WP g mX5_redOf 4 [(0, .ref (pw_ad g 29)), (1, .int x1), (2, .int x2), (3, .int x3)] [] 0 σ Q := by
  refine wp_iload_n (pc := 4) 3 dX5_redOf_4 rfl rfl ?_
  refine wp_aload_n (pc := 5) 0 dX5_redOf_5 rfl rfl ?_
  refine wp_getI (pc := 6) 29 dX5_redOf_6 rfl fk_X5_85 rfl ?_
  refine wp_icmp_ge (pc := 9) (tgt := 44) dX5_redOf_9 (by decide) (fun c9 => ?_) (fun c9 => ?_)
  ·
    refine wp_iload_n (pc := 44) 2 dX5_redOf_44 rfl rfl ?_
    exact wp_ireturn (pc := 45) dX5_redOf_45 rfl rfl (Nat.le_of_ble_eq_true rfl) (h1 c9)
  ·
    refine wp_aload_n (pc := 12) 0 dX5_redOf_12 rfl rfl ?_
    refine wp_getR1 (pc := 13) 29 32 (o := 2) dX5_redOf_13 rfl fk_X5_17 rfl rfl ?_
    refine wp_aload_n (pc := 16) 0 dX5_redOf_16 rfl rfl ?_
    refine wp_getR1 (pc := 17) 29 37 (o := 7) dX5_redOf_17 rfl fk_X5_32 rfl rfl ?_
    refine wp_iload_n (pc := 20) 3 dX5_redOf_20 rfl rfl ?_
    refine wp_iaload (pc := 21) 37 dX5_redOf_21 rfl (h2 c9) ?_
    refine wp_iaload (pc := 22) 32 dX5_redOf_22 rfl (h3 c9) ?_
    refine wp_aload_n (pc := 23) 0 dX5_redOf_23 rfl rfl ?_
    refine wp_getR1 (pc := 24) 29 32 (o := 2) dX5_redOf_24 rfl fk_X5_17 rfl rfl ?_
    refine wp_iload_n (pc := 27) 1 dX5_redOf_27 rfl rfl ?_
    refine wp_iaload (pc := 28) 32 dX5_redOf_28 rfl (h4 c9) ?_
    refine wp_icmp_ne (pc := 29) (tgt := 36) dX5_redOf_29 (by decide) (fun c29 => ?_) (fun c29 => ?_)
    ·
      refine wp_iload_n (pc := 36) 2 dX5_redOf_36 rfl rfl ?_
      refine wp_istore_n (pc := 37) (lv' := [(0, .ref (pw_ad g 29)), (1, .int x1), (2, .int x2), (3, .int x3)]) dX5_redOf_37 rfl (by decide) rfl ?_
      refine wp_iinc (pc := 38) (v := (x3 + 1)) (lv' := [(0, .ref (pw_ad g 29)), (1, .int x1), (2, .int x2), (3, .int (x3 + 1))]) 3 dX5_redOf_38 rfl rfl (by decide) rfl ?_
      refine wp_goto (pc := 41) (tgt := 4) dX5_redOf_41 (by decide) ?_
      exact h5 c9 c29
    ·
      refine wp_iload_n (pc := 32) 3 dX5_redOf_32 rfl rfl ?_
      refine wp_goto (pc := 33) (tgt := 37) dX5_redOf_33 (by decide) ?_
      refine wp_istore_n (pc := 37) (lv' := [(0, .ref (pw_ad g 29)), (1, .int x1), (2, .int x3), (3, .int x3)]) dX5_redOf_37 rfl (by decide) rfl ?_
      refine wp_iinc (pc := 38) (v := (x3 + 1)) (lv' := [(0, .ref (pw_ad g 29)), (1, .int x1), (2, .int x3), (3, .int (x3 + 1))]) 3 dX5_redOf_38 rfl rfl (by decide) rfl ?_
      refine wp_goto (pc := 41) (tgt := 4) dX5_redOf_41 (by decide) ?_
      exact h6 c9 c29
set_option maxRecDepth 20000 in
theorem bX5_findBlue_0 {g : pw_G} {σ : pw_Mem} {Q : pw_R → Prop} (h1 : WP g mX5_findBlue 9 [(0, .ref (pw_ad g 29)), (1, .int (1 : Int32))] [] 0 (pw_set σ 29 13 (2000 : Int32)) Q) : WP g mX5_findBlue 0 [(0, .ref (pw_ad g 29))] [] 0 σ Q := by
  refine wp_aload_n (pc := 0) 0 dX5_findBlue_0 rfl rfl ?_
  refine wp_sipush (pc := 1) (v := (2000 : Int32)) dX5_findBlue_1 (by decide) ?_
  refine wp_putI (pc := 4) 29 dX5_findBlue_4 rfl pk_X5_104 rfl ?_
  refine wp_iconst (pc := 7) (v := (1 : Int32)) dX5_findBlue_7 (by decide) ?_
  refine wp_istore_n (pc := 8) (lv' := [(0, .ref (pw_ad g 29)), (1, .int (1 : Int32))]) dX5_findBlue_8 rfl (by decide) rfl ?_
  exact h1
set_option maxRecDepth 20000 in
theorem bX5_findBlue_9 {g : pw_G} {σ : pw_Mem} {Q : pw_R → Prop} {x1 : Int32} (h1 : (511 : Int32) ≤ x1 → (2000 : Int32) ≤ (σ 29 13) → Q (.inl (some (.int (0 : Int32))), σ)) (h2 : (511 : Int32) ≤ x1 → ¬ (2000 : Int32) ≤ (σ 29 13) → Q (.inl (some (.int (1 : Int32))), σ)) (h3 : ¬ (511 : Int32) ≤ x1 → vp_in x1 511) (h4 : ¬ (511 : Int32) ≤ x1 → (σ 31 (x1).toNatClampNeg) = 0 → WP g mX5_findBlue 9 [(0, .ref (pw_ad g 29)), (1, .int (x1 + 1)), (2, .int ((x1 - (1 : Int32)) / (2 : Int32))), (3, .int (-1 : Int32))] [] 0 σ Q) (h5 : ¬ (511 : Int32) ≤ x1 → ¬ (σ 31 (x1).toNatClampNeg) = 0 → WP g mX5_redOf 0 [(0, .ref (pw_ad g 29)), (1, .int x1)] [] 0 σ (pw_k g mX5_findBlue 36 [(0, .ref (pw_ad g 29)), (1, .int x1), (2, .int ((x1 - (1 : Int32)) / (2 : Int32)))] [] 0 Q)) : WP g mX5_findBlue 9 [(0, .ref (pw_ad g 29)), (1, .int x1)] [] 0 σ Q := by
  refine wp_iload_n (pc := 9) 1 dX5_findBlue_9 rfl rfl ?_
  refine wp_sipush (pc := 10) (v := (511 : Int32)) dX5_findBlue_10 (by decide) ?_
  refine wp_icmp_ge (pc := 13) (tgt := 118) dX5_findBlue_13 (by decide) (fun c13 => ?_) (fun c13 => ?_)
  ·
    refine wp_aload_n (pc := 118) 0 dX5_findBlue_118 rfl rfl ?_
    refine wp_getI (pc := 119) 29 dX5_findBlue_119 rfl fk_X5_104 rfl ?_
    refine wp_sipush (pc := 122) (v := (2000 : Int32)) dX5_findBlue_122 (by decide) ?_
    refine wp_icmp_ge (pc := 125) (tgt := 132) dX5_findBlue_125 (by decide) (fun c125 => ?_) (fun c125 => ?_)
    ·
      refine wp_iconst (pc := 132) (v := (0 : Int32)) dX5_findBlue_132 (by decide) ?_
      exact wp_ireturn (pc := 133) dX5_findBlue_133 rfl (by decide) (Nat.le_of_ble_eq_true rfl) (h1 c13 c125)
    ·
      refine wp_iconst (pc := 128) (v := (1 : Int32)) dX5_findBlue_128 (by decide) ?_
      refine wp_goto (pc := 129) (tgt := 133) dX5_findBlue_129 (by decide) ?_
      exact wp_ireturn (pc := 133) dX5_findBlue_133 rfl (by decide) (Nat.le_of_ble_eq_true rfl) (h2 c13 c125)
  ·
    refine wp_iload_n (pc := 16) 1 dX5_findBlue_16 rfl rfl ?_
    refine wp_iconst (pc := 17) (v := (1 : Int32)) dX5_findBlue_17 (by decide) ?_
    refine wp_isub (pc := 18) dX5_findBlue_18 ?_
    refine wp_iconst (pc := 19) (v := (2 : Int32)) dX5_findBlue_19 (by decide) ?_
    refine wp_idiv (pc := 20) dX5_findBlue_20 (by decide) ?_
    refine wp_istore_n (pc := 21) (lv' := [(0, .ref (pw_ad g 29)), (1, .int x1), (2, .int ((x1 - (1 : Int32)) / (2 : Int32)))]) dX5_findBlue_21 rfl (by decide) rfl ?_
    refine wp_aload_n (pc := 22) 0 dX5_findBlue_22 rfl rfl ?_
    refine wp_getR1 (pc := 23) 29 31 (o := 1) dX5_findBlue_23 rfl fk_X5_13 rfl rfl ?_
    refine wp_iload_n (pc := 26) 1 dX5_findBlue_26 rfl rfl ?_
    refine wp_baload (pc := 27) 31 dX5_findBlue_27 rfl (h3 c13) ?_
    refine wp_if_eq (pc := 28) (tgt := 47) dX5_findBlue_28 (by decide) (fun c28 => ?_) (fun c28 => ?_)
    ·
      refine wp_iconst (pc := 47) (v := (-1 : Int32)) dX5_findBlue_47 (by decide) ?_
      refine wp_istore_n (pc := 48) (lv' := [(0, .ref (pw_ad g 29)), (1, .int x1), (2, .int ((x1 - (1 : Int32)) / (2 : Int32))), (3, .int (-1 : Int32))]) dX5_findBlue_48 rfl (by decide) rfl ?_
      refine wp_iload_n (pc := 49) 3 dX5_findBlue_49 rfl rfl ?_
      refine wp_if_lt (pc := 50) (tgt := 112) dX5_findBlue_50 (by decide) (fun _ => ?_) (fun c9 => absurd c9 (by decide))
      refine wp_iinc (pc := 112) (v := (x1 + 1)) (lv' := [(0, .ref (pw_ad g 29)), (1, .int (x1 + 1)), (2, .int ((x1 - (1 : Int32)) / (2 : Int32))), (3, .int (-1 : Int32))]) 1 dX5_findBlue_112 rfl rfl (by decide) rfl ?_
      refine wp_goto (pc := 115) (tgt := 9) dX5_findBlue_115 (by decide) ?_
      exact h4 c13 c28
    ·
      refine wp_aload_n (pc := 31) 0 dX5_findBlue_31 rfl rfl ?_
      refine wp_iload_n (pc := 32) 1 dX5_findBlue_32 rfl rfl ?_
      refine wp_callV (pc := 33) (M' := mX5_redOf) 29 [.int x1] [] dX5_findBlue_33 ck_X5_107 rfl rfl ⟨Nat.le_of_ble_eq_true rfl, Nat.le_of_ble_eq_true rfl⟩ rfl (Nat.le_of_ble_eq_true rfl) (Nat.le_of_ble_eq_true rfl) (Nat.le_of_ble_eq_true rfl) rfl ?_
      exact h5 c13 c28
set_option maxRecDepth 20000 in
theorem bX5_findBlue_36 {g : pw_G} {σ : pw_Mem} {Q : pw_R → Prop} {s9 x1 x2 : Int32} (h1 : 0 ≤ s9 → WP g mX5_findBlue 9 [(0, .ref (pw_ad g 29)), (1, .int (x1 + 1)), (2, .int x2), (3, .int (-1 : Int32))] [] 0 σ Q) (h2 : ¬ 0 ≤ s9 → WP g mX5_redOf 0 [(0, .ref (pw_ad g 29)), (1, .int x2)] [] 0 σ (pw_k g mX5_findBlue 44 [(0, .ref (pw_ad g 29)), (1, .int x1), (2, .int x2)] [] 0 Q)) : WP g mX5_findBlue 36 [(0, .ref (pw_ad g 29)), (1, .int x1), (2, .int x2)] [.int s9] 0 σ Q := by
  refine wp_if_ge (pc := 36) (tgt := 47) dX5_findBlue_36 (by decide) (fun c36 => ?_) (fun c36 => ?_)
  ·
    refine wp_iconst (pc := 47) (v := (-1 : Int32)) dX5_findBlue_47 (by decide) ?_
    refine wp_istore_n (pc := 48) (lv' := [(0, .ref (pw_ad g 29)), (1, .int x1), (2, .int x2), (3, .int (-1 : Int32))]) dX5_findBlue_48 rfl (by decide) rfl ?_
    refine wp_iload_n (pc := 49) 3 dX5_findBlue_49 rfl rfl ?_
    refine wp_if_lt (pc := 50) (tgt := 112) dX5_findBlue_50 (by decide) (fun _ => ?_) (fun c9 => absurd c9 (by decide))
    refine wp_iinc (pc := 112) (v := (x1 + 1)) (lv' := [(0, .ref (pw_ad g 29)), (1, .int (x1 + 1)), (2, .int x2), (3, .int (-1 : Int32))]) 1 dX5_findBlue_112 rfl rfl (by decide) rfl ?_
    refine wp_goto (pc := 115) (tgt := 9) dX5_findBlue_115 (by decide) ?_
    exact h1 c36
  ·
    refine wp_aload_n (pc := 39) 0 dX5_findBlue_39 rfl rfl ?_
    refine wp_iload_n (pc := 40) 2 dX5_findBlue_40 rfl rfl ?_
    refine wp_callV (pc := 41) (M' := mX5_redOf) 29 [.int x2] [] dX5_findBlue_41 ck_X5_107 rfl rfl ⟨Nat.le_of_ble_eq_true rfl, Nat.le_of_ble_eq_true rfl⟩ rfl (Nat.le_of_ble_eq_true rfl) (Nat.le_of_ble_eq_true rfl) (Nat.le_of_ble_eq_true rfl) rfl ?_
    exact h2 c36
set_option maxRecDepth 20000 in
theorem bX5_findBlue_44 {g : pw_G} {σ : pw_Mem} {Q : pw_R → Prop} {s9 x1 x2 : Int32} (h1 : s9 < 0 → WP g mX5_findBlue 9 [(0, .ref (pw_ad g 29)), (1, .int (x1 + 1)), (2, .int x2), (3, .int s9)] [] 0 σ Q) (h2 : ¬ s9 < 0 → vp_in s9 511) (h3 : ¬ s9 < 0 → WP g mX5_followed 0 [(0, .int (σ 38 (s9).toNatClampNeg)), (1, .int ((x1 - (1 : Int32)) - (x1 - (1 : Int32)) / (2 : Int32) * (2 : Int32)))] [] 0 σ (pw_k g mX5_findBlue 67 [(0, .ref (pw_ad g 29)), (1, .int x1), (2, .int x2), (3, .int s9)] [] 0 Q)) : WP g mX5_findBlue 44 [(0, .ref (pw_ad g 29)), (1, .int x1), (2, .int x2)] [.int s9] 0 σ Q := by
  refine wp_goto (pc := 44) (tgt := 48) dX5_findBlue_44 (by decide) ?_
  refine wp_istore_n (pc := 48) (lv' := [(0, .ref (pw_ad g 29)), (1, .int x1), (2, .int x2), (3, .int s9)]) dX5_findBlue_48 rfl (by decide) rfl ?_
  refine wp_iload_n (pc := 49) 3 dX5_findBlue_49 rfl rfl ?_
  refine wp_if_lt (pc := 50) (tgt := 112) dX5_findBlue_50 (by decide) (fun c50 => ?_) (fun c50 => ?_)
  ·
    refine wp_iinc (pc := 112) (v := (x1 + 1)) (lv' := [(0, .ref (pw_ad g 29)), (1, .int (x1 + 1)), (2, .int x2), (3, .int s9)]) 1 dX5_findBlue_112 rfl rfl (by decide) rfl ?_
    refine wp_goto (pc := 115) (tgt := 9) dX5_findBlue_115 (by decide) ?_
    exact h1 c50
  ·
    refine wp_aload_n (pc := 53) 0 dX5_findBlue_53 rfl rfl ?_
    refine wp_getR1 (pc := 54) 29 38 (o := 8) dX5_findBlue_54 rfl fk_X5_35 rfl rfl ?_
    refine wp_iload_n (pc := 57) 3 dX5_findBlue_57 rfl rfl ?_
    refine wp_iaload (pc := 58) 38 dX5_findBlue_58 rfl (h2 c50) ?_
    refine wp_iload_n (pc := 59) 1 dX5_findBlue_59 rfl rfl ?_
    refine wp_iconst (pc := 60) (v := (1 : Int32)) dX5_findBlue_60 (by decide) ?_
    refine wp_isub (pc := 61) dX5_findBlue_61 ?_
    refine wp_iconst (pc := 62) (v := (2 : Int32)) dX5_findBlue_62 (by decide) ?_
    refine wp_irem (pc := 63) dX5_findBlue_63 (by decide) ?_
    refine wp_callS (pc := 64) (M' := mX5_followed) [.int (σ 38 (s9).toNatClampNeg), .int ((x1 - (1 : Int32)) - (x1 - (1 : Int32)) / (2 : Int32) * (2 : Int32))] [] dX5_findBlue_64 ck_X5_88 ⟨Nat.le_of_ble_eq_true rfl, Nat.le_of_ble_eq_true rfl⟩ rfl (Nat.le_of_ble_eq_true rfl) (Nat.le_of_ble_eq_true rfl) (Nat.le_of_ble_eq_true rfl) rfl ?_
    exact h3 c50
set_option maxRecDepth 20000 in
theorem bX5_findBlue_67 {g : pw_G} {σ : pw_Mem} {Q : pw_R → Prop} {s9 x1 x2 x3 : Int32} (h1 : (σ 29 13) ≤ s9 → (σ 29 13) ≤ s9 → WP g mX5_findBlue 9 [(0, .ref (pw_ad g 29)), (1, .int (x1 + 1)), (2, .int x2), (3, .int x3), (4, .int s9)] [] 0 (pw_set (pw_set σ 29 12 (σ 29 12)) 29 13 (σ 29 13)) Q) (h2 : (σ 29 13) ≤ s9 → ¬ (σ 29 13) ≤ s9 → WP g mX5_findBlue 9 [(0, .ref (pw_ad g 29)), (1, .int (x1 + 1)), (2, .int x2), (3, .int x3), (4, .int s9)] [] 0 (pw_set (pw_set σ 29 12 (σ 29 12)) 29 13 s9) Q) (h3 : ¬ (σ 29 13) ≤ s9 → (σ 29 13) ≤ s9 → WP g mX5_findBlue 9 [(0, .ref (pw_ad g 29)), (1, .int (x1 + 1)), (2, .int x2), (3, .int x3), (4, .int s9)] [] 0 (pw_set (pw_set σ 29 12 x1) 29 13 (σ 29 13)) Q) (h4 : ¬ (σ 29 13) ≤ s9 → ¬ (σ 29 13) ≤ s9 → WP g mX5_findBlue 9 [(0, .ref (pw_ad g 29)), (1, .int (x1 + 1)), (2, .int x2), (3, .int x3), (4, .int s9)] [] 0 (pw_set (pw_set σ 29 12 x1) 29 13 s9) Q) : WP g mX5_findBlue 67 [(0, .ref (pw_ad g 29)), (1, .int x1), (2, .int x2), (3, .int x3)] [.int s9] 0 σ Q := by
  refine wp_istore (pc := 67) (lv' := [(0, .ref (pw_ad g 29)), (1, .int x1), (2, .int x2), (3, .int x3), (4, .int s9)]) dX5_findBlue_67 (by decide) rfl ?_
  refine wp_aload_n (pc := 69) 0 dX5_findBlue_69 rfl rfl ?_
  refine wp_iload (pc := 70) 4 dX5_findBlue_70 rfl ?_
  refine wp_aload_n (pc := 72) 0 dX5_findBlue_72 rfl rfl ?_
  refine wp_getI (pc := 73) 29 dX5_findBlue_73 rfl fk_X5_104 rfl ?_
  refine wp_icmp_ge (pc := 76) (tgt := 83) dX5_findBlue_76 (by decide) (fun c76 => ?_) (fun c76 => ?_)
  ·
    refine wp_aload_n (pc := 83) 0 dX5_findBlue_83 rfl rfl ?_
    refine wp_getI (pc := 84) 29 dX5_findBlue_84 rfl fk_X5_110 rfl ?_
    refine wp_putI (pc := 87) 29 dX5_findBlue_87 rfl pk_X5_110 rfl ?_
    refine wp_aload_n (pc := 90) 0 dX5_findBlue_90 rfl rfl ?_
    refine wp_iload (pc := 91) 4 dX5_findBlue_91 rfl ?_
    refine wp_aload_n (pc := 93) 0 dX5_findBlue_93 rfl rfl ?_
    refine wp_getI (pc := 94) 29 dX5_findBlue_94 rfl fk_X5_104 rfl ?_
    refine wp_icmp_ge (pc := 97) (tgt := 105) dX5_findBlue_97 (by decide) (fun c97 => ?_) (fun c97 => ?_)
    ·
      refine wp_aload_n (pc := 105) 0 dX5_findBlue_105 rfl rfl ?_
      refine wp_getI (pc := 106) 29 dX5_findBlue_106 rfl fk_X5_104 rfl ?_
      refine wp_putI (pc := 109) 29 dX5_findBlue_109 rfl pk_X5_104 rfl ?_
      refine wp_iinc (pc := 112) (v := (x1 + 1)) (lv' := [(0, .ref (pw_ad g 29)), (1, .int (x1 + 1)), (2, .int x2), (3, .int x3), (4, .int s9)]) 1 dX5_findBlue_112 rfl rfl (by decide) rfl ?_
      refine wp_goto (pc := 115) (tgt := 9) dX5_findBlue_115 (by decide) ?_
      exact h1 c76 c97
    ·
      refine wp_iload (pc := 100) 4 dX5_findBlue_100 rfl ?_
      refine wp_goto (pc := 102) (tgt := 109) dX5_findBlue_102 (by decide) ?_
      refine wp_putI (pc := 109) 29 dX5_findBlue_109 rfl pk_X5_104 rfl ?_
      refine wp_iinc (pc := 112) (v := (x1 + 1)) (lv' := [(0, .ref (pw_ad g 29)), (1, .int (x1 + 1)), (2, .int x2), (3, .int x3), (4, .int s9)]) 1 dX5_findBlue_112 rfl rfl (by decide) rfl ?_
      refine wp_goto (pc := 115) (tgt := 9) dX5_findBlue_115 (by decide) ?_
      exact h2 c76 c97
  ·
    refine wp_iload_n (pc := 79) 1 dX5_findBlue_79 rfl rfl ?_
    refine wp_goto (pc := 80) (tgt := 87) dX5_findBlue_80 (by decide) ?_
    refine wp_putI (pc := 87) 29 dX5_findBlue_87 rfl pk_X5_110 rfl ?_
    refine wp_aload_n (pc := 90) 0 dX5_findBlue_90 rfl rfl ?_
    refine wp_iload (pc := 91) 4 dX5_findBlue_91 rfl ?_
    refine wp_aload_n (pc := 93) 0 dX5_findBlue_93 rfl rfl ?_
    refine wp_getI (pc := 94) 29 dX5_findBlue_94 rfl fk_X5_104 rfl ?_
    refine wp_icmp_ge (pc := 97) (tgt := 105) dX5_findBlue_97 (by decide) (fun c97 => ?_) (fun c97 => ?_)
    ·
      refine wp_aload_n (pc := 105) 0 dX5_findBlue_105 rfl rfl ?_
      refine wp_getI (pc := 106) 29 dX5_findBlue_106 rfl fk_X5_104 rfl ?_
      refine wp_putI (pc := 109) 29 dX5_findBlue_109 rfl pk_X5_104 rfl ?_
      refine wp_iinc (pc := 112) (v := (x1 + 1)) (lv' := [(0, .ref (pw_ad g 29)), (1, .int (x1 + 1)), (2, .int x2), (3, .int x3), (4, .int s9)]) 1 dX5_findBlue_112 rfl rfl (by decide) rfl ?_
      refine wp_goto (pc := 115) (tgt := 9) dX5_findBlue_115 (by decide) ?_
      exact h3 c76 c97
    ·
      refine wp_iload (pc := 100) 4 dX5_findBlue_100 rfl ?_
      refine wp_goto (pc := 102) (tgt := 109) dX5_findBlue_102 (by decide) ?_
      refine wp_putI (pc := 109) 29 dX5_findBlue_109 rfl pk_X5_104 rfl ?_
      refine wp_iinc (pc := 112) (v := (x1 + 1)) (lv' := [(0, .ref (pw_ad g 29)), (1, .int (x1 + 1)), (2, .int x2), (3, .int x3), (4, .int s9)]) 1 dX5_findBlue_112 rfl rfl (by decide) rfl ?_
      refine wp_goto (pc := 115) (tgt := 9) dX5_findBlue_115 (by decide) ?_
      exact h4 c76 c97
set_option maxRecDepth 20000 in
theorem bX5_learn_0 {g : pw_G} {σ : pw_Mem} {Q : pw_R → Prop} (h1 : WP g mX5_begin 0 [(0, .ref (pw_ad g 29))] [] 0 (pw_set σ 29 0 (0 : Int32)) (pw_k g mX5_learn 9 [(0, .ref (pw_ad g 29))] [] 0 Q)) : WP g mX5_learn 0 [(0, .ref (pw_ad g 29))] [] 0 σ Q := by
  refine wp_aload_n (pc := 0) 0 dX5_learn_0 rfl rfl ?_
  refine wp_iconst (pc := 1) (v := (0 : Int32)) dX5_learn_1 (by decide) ?_
  refine wp_putI (pc := 2) 29 dX5_learn_2 rfl pk_X5_59 rfl ?_
  refine wp_aload_n (pc := 5) 0 dX5_learn_5 rfl rfl ?_
  refine wp_callV (pc := 6) (M' := mX5_begin) 29 [] [] dX5_learn_6 ck_X5_113 rfl rfl ⟨Nat.le_of_ble_eq_true rfl, Nat.le_of_ble_eq_true rfl⟩ rfl (Nat.le_of_ble_eq_true rfl) (Nat.le_of_ble_eq_true rfl) (Nat.le_of_ble_eq_true rfl) rfl ?_
  exact h1
set_option maxRecDepth 20000 in
theorem bX5_learn_9 {g : pw_G} {σ : pw_Mem} {Q : pw_R → Prop} (h1 : WP g mX5_findBlue 0 [(0, .ref (pw_ad g 29))] [] 0 σ (pw_k g mX5_learn 13 [(0, .ref (pw_ad g 29))] [] 0 Q)) : WP g mX5_learn 9 [(0, .ref (pw_ad g 29))] [] 0 σ Q := by
  refine wp_aload_n (pc := 9) 0 dX5_learn_9 rfl rfl ?_
  refine wp_callV (pc := 10) (M' := mX5_findBlue) 29 [] [] dX5_learn_10 ck_X5_116 rfl rfl ⟨Nat.le_of_ble_eq_true rfl, Nat.le_of_ble_eq_true rfl⟩ rfl (Nat.le_of_ble_eq_true rfl) (Nat.le_of_ble_eq_true rfl) (Nat.le_of_ble_eq_true rfl) rfl ?_
  exact h1
set_option maxRecDepth 20000 in
theorem bX5_learn_13 {g : pw_G} {σ : pw_Mem} {Q : pw_R → Prop} {s9 : Int32} (h1 : s9 = 0 → WP g mX5_learn 110 [(0, .ref (pw_ad g 29)), (1, .int (0 : Int32))] [] 0 (pw_set σ 29 14 (σ 29 9)) Q) (h2 : ¬ s9 = 0 → WP g mX5_learn 31 [(0, .ref (pw_ad g 29)), (1, .int (σ 29 12)), (2, .int (σ 29 13)), (3, .int (0 : Int32)), (4, .int (0 : Int32))] [] 0 σ Q) : WP g mX5_learn 13 [(0, .ref (pw_ad g 29))] [.int s9] 0 σ Q := by
  refine wp_if_eq (pc := 13) (tgt := 100) dX5_learn_13 (by decide) (fun c13 => ?_) (fun c13 => ?_)
  ·
    refine wp_aload_n (pc := 100) 0 dX5_learn_100 rfl rfl ?_
    refine wp_aload_n (pc := 101) 0 dX5_learn_101 rfl rfl ?_
    refine wp_getI (pc := 102) 29 dX5_learn_102 rfl fk_X5_85 rfl ?_
    refine wp_putI (pc := 105) 29 dX5_learn_105 rfl pk_X5_122 rfl ?_
    refine wp_iconst (pc := 108) (v := (0 : Int32)) dX5_learn_108 (by decide) ?_
    refine wp_istore_n (pc := 109) (lv' := [(0, .ref (pw_ad g 29)), (1, .int (0 : Int32))]) dX5_learn_109 rfl (by decide) rfl ?_
    exact h1 c13
  ·
    refine wp_aload_n (pc := 16) 0 dX5_learn_16 rfl rfl ?_
    refine wp_getI (pc := 17) 29 dX5_learn_17 rfl fk_X5_110 rfl ?_
    refine wp_istore_n (pc := 20) (lv' := [(0, .ref (pw_ad g 29)), (1, .int (σ 29 12))]) dX5_learn_20 rfl (by decide) rfl ?_
    refine wp_aload_n (pc := 21) 0 dX5_learn_21 rfl rfl ?_
    refine wp_getI (pc := 22) 29 dX5_learn_22 rfl fk_X5_104 rfl ?_
    refine wp_istore_n (pc := 25) (lv' := [(0, .ref (pw_ad g 29)), (1, .int (σ 29 12)), (2, .int (σ 29 13))]) dX5_learn_25 rfl (by decide) rfl ?_
    refine wp_iconst (pc := 26) (v := (0 : Int32)) dX5_learn_26 (by decide) ?_
    refine wp_istore_n (pc := 27) (lv' := [(0, .ref (pw_ad g 29)), (1, .int (σ 29 12)), (2, .int (σ 29 13)), (3, .int (0 : Int32))]) dX5_learn_27 rfl (by decide) rfl ?_
    refine wp_iconst (pc := 28) (v := (0 : Int32)) dX5_learn_28 (by decide) ?_
    refine wp_istore (pc := 29) (lv' := [(0, .ref (pw_ad g 29)), (1, .int (σ 29 12)), (2, .int (σ 29 13)), (3, .int (0 : Int32)), (4, .int (0 : Int32))]) dX5_learn_29 (by decide) rfl ?_
    exact h2 c13
set_option maxRecDepth 20000 in
theorem bX5_learn_110 {g : pw_G} {σ : pw_Mem} {Q : pw_R → Prop} {x1 : Int32} (h1 : (σ 29 9) ≤ x1 → WP g mX5_learn 168 [(0, .ref (pw_ad g 29)), (1, .int (1 : Int32))] [] 0 σ Q) (h2 : ¬ (σ 29 9) ≤ x1 → vp_in x1 511) (h3 : ¬ (σ 29 9) ≤ x1 → vp_in (σ 37 (x1).toNatClampNeg) 511) (h4 : ¬ (σ 29 9) ≤ x1 → vp_in (σ 32 ((σ 37 (x1).toNatClampNeg)).toNatClampNeg) 511) (h5 : ¬ (σ 29 9) ≤ x1 → vp_in x1 511) (h6 : ¬ (σ 29 9) ≤ x1 → vp_in ((2 : Int32) * x1) 1022) (h7 : ¬ (σ 29 9) ≤ x1 → vp_in (((2 : Int32) * x1) + (1 : Int32)) 1022) (h8 : ¬ (σ 29 9) ≤ x1 → WP g mX5_learn 110 [(0, .ref (pw_ad g 29)), (1, .int (x1 + 1))] [] 0 (pw_set (pw_set (pw_set σ 40 (x1).toNatClampNeg (σ 33 ((σ 32 ((σ 37 (x1).toNatClampNeg)).toNatClampNeg)).toNatClampNeg)) 39 (((2 : Int32) * x1)).toNatClampNeg (-1 : Int32)) 39 ((((2 : Int32) * x1) + (1 : Int32))).toNatClampNeg (-1 : Int32)) Q) : WP g mX5_learn 110 [(0, .ref (pw_ad g 29)), (1, .int x1)] [] 0 σ Q := by
  refine wp_iload_n (pc := 110) 1 dX5_learn_110 rfl rfl ?_
  refine wp_aload_n (pc := 111) 0 dX5_learn_111 rfl rfl ?_
  refine wp_getI (pc := 112) 29 dX5_learn_112 rfl fk_X5_85 rfl ?_
  refine wp_icmp_ge (pc := 115) (tgt := 166) dX5_learn_115 (by decide) (fun c115 => ?_) (fun c115 => ?_)
  ·
    refine wp_iconst (pc := 166) (v := (1 : Int32)) dX5_learn_166 (by decide) ?_
    refine wp_istore_n (pc := 167) (lv' := [(0, .ref (pw_ad g 29)), (1, .int (1 : Int32))]) dX5_learn_167 rfl (by decide) rfl ?_
    exact h1 c115
  ·
    refine wp_aload_n (pc := 118) 0 dX5_learn_118 rfl rfl ?_
    refine wp_getR1 (pc := 119) 29 40 (o := 10) dX5_learn_119 rfl fk_X5_41 rfl rfl ?_
    refine wp_iload_n (pc := 122) 1 dX5_learn_122 rfl rfl ?_
    refine wp_aload_n (pc := 123) 0 dX5_learn_123 rfl rfl ?_
    refine wp_getR1 (pc := 124) 29 33 (o := 3) dX5_learn_124 rfl fk_X5_20 rfl rfl ?_
    refine wp_aload_n (pc := 127) 0 dX5_learn_127 rfl rfl ?_
    refine wp_getR1 (pc := 128) 29 32 (o := 2) dX5_learn_128 rfl fk_X5_17 rfl rfl ?_
    refine wp_aload_n (pc := 131) 0 dX5_learn_131 rfl rfl ?_
    refine wp_getR1 (pc := 132) 29 37 (o := 7) dX5_learn_132 rfl fk_X5_32 rfl rfl ?_
    refine wp_iload_n (pc := 135) 1 dX5_learn_135 rfl rfl ?_
    refine wp_iaload (pc := 136) 37 dX5_learn_136 rfl (h2 c115) ?_
    refine wp_iaload (pc := 137) 32 dX5_learn_137 rfl (h3 c115) ?_
    refine wp_iaload (pc := 138) 33 dX5_learn_138 rfl (h4 c115) ?_
    refine wp_iastore (pc := 139) 40 dX5_learn_139 rfl (h5 c115) ?_
    refine wp_aload_n (pc := 140) 0 dX5_learn_140 rfl rfl ?_
    refine wp_getR1 (pc := 141) 29 39 (o := 9) dX5_learn_141 rfl fk_X5_38 rfl rfl ?_
    refine wp_iconst (pc := 144) (v := (2 : Int32)) dX5_learn_144 (by decide) ?_
    refine wp_iload_n (pc := 145) 1 dX5_learn_145 rfl rfl ?_
    refine wp_imul (pc := 146) dX5_learn_146 ?_
    refine wp_iconst (pc := 147) (v := (-1 : Int32)) dX5_learn_147 (by decide) ?_
    refine wp_iastore (pc := 148) 39 dX5_learn_148 rfl (h6 c115) ?_
    refine wp_aload_n (pc := 149) 0 dX5_learn_149 rfl rfl ?_
    refine wp_getR1 (pc := 150) 29 39 (o := 9) dX5_learn_150 rfl fk_X5_38 rfl rfl ?_
    refine wp_iconst (pc := 153) (v := (2 : Int32)) dX5_learn_153 (by decide) ?_
    refine wp_iload_n (pc := 154) 1 dX5_learn_154 rfl rfl ?_
    refine wp_imul (pc := 155) dX5_learn_155 ?_
    refine wp_iconst (pc := 156) (v := (1 : Int32)) dX5_learn_156 (by decide) ?_
    refine wp_iadd (pc := 157) dX5_learn_157 ?_
    refine wp_iconst (pc := 158) (v := (-1 : Int32)) dX5_learn_158 (by decide) ?_
    refine wp_iastore (pc := 159) 39 dX5_learn_159 rfl (h7 c115) ?_
    refine wp_iinc (pc := 160) (v := (x1 + 1)) (lv' := [(0, .ref (pw_ad g 29)), (1, .int (x1 + 1))]) 1 dX5_learn_160 rfl rfl (by decide) rfl ?_
    refine wp_goto (pc := 163) (tgt := 110) dX5_learn_163 (by decide) ?_
    exact h8 c115
set_option maxRecDepth 20000 in
theorem bX5_learn_31 {g : pw_G} {σ : pw_Mem} {Q : pw_R → Prop} {x1 x2 x3 x4 : Int32} (h1 : (σ 29 9) ≤ x4 → ¬ x3 = 0 → WP g mX5_learn 9 [(0, .ref (pw_ad g 29)), (1, .int x1), (2, .int x2), (3, .int x3), (4, .int x4)] [] 0 σ Q) (h2 : (σ 29 9) ≤ x4 → x3 = 0 → vp_in (σ 29 9) 511) (h3 : (σ 29 9) ≤ x4 → x3 = 0 → vp_in (σ 29 9) 511) (h4 : (σ 29 9) ≤ x4 → x3 = 0 → WP g mX5_learn 9 [(0, .ref (pw_ad g 29)), (1, .int x1), (2, .int x2), (3, .int x3), (4, .int x4)] [] 0 (pw_set (pw_set (pw_set σ 37 ((σ 29 9)).toNatClampNeg x1) 38 ((σ 29 9)).toNatClampNeg x2) 29 9 ((σ 29 9) + (1 : Int32))) Q) (h5 : ¬ (σ 29 9) ≤ x4 → ¬ x3 = 0 → ¬ x3 = 0 → WP g mX5_learn 9 [(0, .ref (pw_ad g 29)), (1, .int x1), (2, .int x2), (3, .int x3), (4, .int x4)] [] 0 σ Q) (h6 : ¬ (σ 29 9) ≤ x4 → ¬ x3 = 0 → x3 = 0 → vp_in (σ 29 9) 511) (h7 : ¬ (σ 29 9) ≤ x4 → ¬ x3 = 0 → x3 = 0 → vp_in (σ 29 9) 511) (h8 : ¬ (σ 29 9) ≤ x4 → ¬ x3 = 0 → x3 = 0 → WP g mX5_learn 9 [(0, .ref (pw_ad g 29)), (1, .int x1), (2, .int x2), (3, .int x3), (4, .int x4)] [] 0 (pw_set (pw_set (pw_set σ 37 ((σ 29 9)).toNatClampNeg x1) 38 ((σ 29 9)).toNatClampNeg x2) 29 9 ((σ 29 9) + (1 : Int32))) Q) (h9 : ¬ (σ 29 9) ≤ x4 → x3 = 0 → vp_in x4 511) (h10 : ¬ (σ 29 9) ≤ x4 → x3 = 0 → WP g mX5_merge 0 [(0, .ref (pw_ad g 29)), (1, .int (σ 37 (x4).toNatClampNeg)), (2, .int x1)] [] 0 σ (pw_k g mX5_learn 56 [(0, .ref (pw_ad g 29)), (1, .int x1), (2, .int x2), (3, .int x3), (4, .int x4)] [] 0 Q)) : WP g mX5_learn 31 [(0, .ref (pw_ad g 29)), (1, .int x1), (2, .int x2), (3, .int x3), (4, .int x4)] [] 0 σ Q := by
  refine wp_iload (pc := 31) 4 dX5_learn_31 rfl ?_
  refine wp_aload_n (pc := 33) 0 dX5_learn_33 rfl rfl ?_
  refine wp_getI (pc := 34) 29 dX5_learn_34 rfl fk_X5_85 rfl ?_
  refine wp_icmp_ge (pc := 37) (tgt := 63) dX5_learn_37 (by decide) (fun c37 => ?_) (fun c37 => ?_)
  ·
    refine wp_iload_n (pc := 63) 3 dX5_learn_63 rfl rfl ?_
    refine wp_if_ne (pc := 64) (tgt := 97) dX5_learn_64 (by decide) (fun c64 => ?_) (fun c64 => ?_)
    ·
      refine wp_goto (pc := 97) (tgt := 9) dX5_learn_97 (by decide) ?_
      exact h1 c37 c64
    ·
      refine wp_aload_n (pc := 67) 0 dX5_learn_67 rfl rfl ?_
      refine wp_getR1 (pc := 68) 29 37 (o := 7) dX5_learn_68 rfl fk_X5_32 rfl rfl ?_
      refine wp_aload_n (pc := 71) 0 dX5_learn_71 rfl rfl ?_
      refine wp_getI (pc := 72) 29 dX5_learn_72 rfl fk_X5_85 rfl ?_
      refine wp_iload_n (pc := 75) 1 dX5_learn_75 rfl rfl ?_
      refine wp_iastore (pc := 76) 37 dX5_learn_76 rfl (h2 c37 c64) ?_
      refine wp_aload_n (pc := 77) 0 dX5_learn_77 rfl rfl ?_
      refine wp_getR1 (pc := 78) 29 38 (o := 8) dX5_learn_78 rfl fk_X5_35 rfl rfl ?_
      refine wp_aload_n (pc := 81) 0 dX5_learn_81 rfl rfl ?_
      refine wp_getI (pc := 82) 29 dX5_learn_82 rfl fk_X5_85 rfl ?_
      refine wp_iload_n (pc := 85) 2 dX5_learn_85 rfl rfl ?_
      refine wp_iastore (pc := 86) 38 dX5_learn_86 rfl (h3 c37 c64) ?_
      refine wp_aload_n (pc := 87) 0 dX5_learn_87 rfl rfl ?_
      refine wp_dup (pc := 88) dX5_learn_88 rfl ?_
      refine wp_getI (pc := 89) 29 dX5_learn_89 rfl fk_X5_85 rfl ?_
      refine wp_iconst (pc := 92) (v := (1 : Int32)) dX5_learn_92 (by decide) ?_
      refine wp_iadd (pc := 93) dX5_learn_93 ?_
      refine wp_putI (pc := 94) 29 dX5_learn_94 rfl pk_X5_85 rfl ?_
      refine wp_goto (pc := 97) (tgt := 9) dX5_learn_97 (by decide) ?_
      exact h4 c37 c64
  ·
    refine wp_iload_n (pc := 40) 3 dX5_learn_40 rfl rfl ?_
    refine wp_if_ne (pc := 41) (tgt := 63) dX5_learn_41 (by decide) (fun c41 => ?_) (fun c41 => ?_)
    ·
      refine wp_iload_n (pc := 63) 3 dX5_learn_63 rfl rfl ?_
      refine wp_if_ne (pc := 64) (tgt := 97) dX5_learn_64 (by decide) (fun c64 => ?_) (fun c64 => ?_)
      ·
        refine wp_goto (pc := 97) (tgt := 9) dX5_learn_97 (by decide) ?_
        exact h5 c37 c41 c64
      ·
        refine wp_aload_n (pc := 67) 0 dX5_learn_67 rfl rfl ?_
        refine wp_getR1 (pc := 68) 29 37 (o := 7) dX5_learn_68 rfl fk_X5_32 rfl rfl ?_
        refine wp_aload_n (pc := 71) 0 dX5_learn_71 rfl rfl ?_
        refine wp_getI (pc := 72) 29 dX5_learn_72 rfl fk_X5_85 rfl ?_
        refine wp_iload_n (pc := 75) 1 dX5_learn_75 rfl rfl ?_
        refine wp_iastore (pc := 76) 37 dX5_learn_76 rfl (h6 c37 c41 c64) ?_
        refine wp_aload_n (pc := 77) 0 dX5_learn_77 rfl rfl ?_
        refine wp_getR1 (pc := 78) 29 38 (o := 8) dX5_learn_78 rfl fk_X5_35 rfl rfl ?_
        refine wp_aload_n (pc := 81) 0 dX5_learn_81 rfl rfl ?_
        refine wp_getI (pc := 82) 29 dX5_learn_82 rfl fk_X5_85 rfl ?_
        refine wp_iload_n (pc := 85) 2 dX5_learn_85 rfl rfl ?_
        refine wp_iastore (pc := 86) 38 dX5_learn_86 rfl (h7 c37 c41 c64) ?_
        refine wp_aload_n (pc := 87) 0 dX5_learn_87 rfl rfl ?_
        refine wp_dup (pc := 88) dX5_learn_88 rfl ?_
        refine wp_getI (pc := 89) 29 dX5_learn_89 rfl fk_X5_85 rfl ?_
        refine wp_iconst (pc := 92) (v := (1 : Int32)) dX5_learn_92 (by decide) ?_
        refine wp_iadd (pc := 93) dX5_learn_93 ?_
        refine wp_putI (pc := 94) 29 dX5_learn_94 rfl pk_X5_85 rfl ?_
        refine wp_goto (pc := 97) (tgt := 9) dX5_learn_97 (by decide) ?_
        exact h8 c37 c41 c64
    ·
      refine wp_aload_n (pc := 44) 0 dX5_learn_44 rfl rfl ?_
      refine wp_aload_n (pc := 45) 0 dX5_learn_45 rfl rfl ?_
      refine wp_getR1 (pc := 46) 29 37 (o := 7) dX5_learn_46 rfl fk_X5_32 rfl rfl ?_
      refine wp_iload (pc := 49) 4 dX5_learn_49 rfl ?_
      refine wp_iaload (pc := 51) 37 dX5_learn_51 rfl (h9 c37 c41) ?_
      refine wp_iload_n (pc := 52) 1 dX5_learn_52 rfl rfl ?_
      refine wp_callV (pc := 53) (M' := mX5_merge) 29 [.int (σ 37 (x4).toNatClampNeg), .int x1] [] dX5_learn_53 ck_X5_119 rfl rfl ⟨Nat.le_of_ble_eq_true rfl, Nat.le_of_ble_eq_true rfl⟩ rfl (Nat.le_of_ble_eq_true rfl) (Nat.le_of_ble_eq_true rfl) (Nat.le_of_ble_eq_true rfl) rfl ?_
      exact h10 c37 c41
set_option maxRecDepth 20000 in
theorem bX5_learn_168 {g : pw_G} {σ : pw_Mem} {Q : pw_R → Prop} {x1 : Int32} (h1 : (511 : Int32) ≤ x1 → Q (.inl (some (.int (σ 29 14))), σ)) (h2 : ¬ (511 : Int32) ≤ x1 → vp_in x1 511) (h3 : ¬ (511 : Int32) ≤ x1 → (σ 31 (x1).toNatClampNeg) = 0 → WP g mX5_learn 168 [(0, .ref (pw_ad g 29)), (1, .int (x1 + 1))] [] 0 σ Q) (h4 : ¬ (511 : Int32) ≤ x1 → ¬ (σ 31 (x1).toNatClampNeg) = 0 → WP g mX5_redOf 0 [(0, .ref (pw_ad g 29)), (1, .int ((x1 - (1 : Int32)) / (2 : Int32)))] [] 0 σ (pw_k g mX5_learn 198 [(0, .ref (pw_ad g 29)), (1, .int x1)] [.int (2 : Int32), .ref (pw_ad g 39)] 0 Q)) : WP g mX5_learn 168 [(0, .ref (pw_ad g 29)), (1, .int x1)] [] 0 σ Q := by
  refine wp_iload_n (pc := 168) 1 dX5_learn_168 rfl rfl ?_
  refine wp_sipush (pc := 169) (v := (511 : Int32)) dX5_learn_169 (by decide) ?_
  refine wp_icmp_ge (pc := 172) (tgt := 217) dX5_learn_172 (by decide) (fun c172 => ?_) (fun c172 => ?_)
  ·
    refine wp_aload_n (pc := 217) 0 dX5_learn_217 rfl rfl ?_
    refine wp_getI (pc := 218) 29 dX5_learn_218 rfl fk_X5_122 rfl ?_
    exact wp_ireturn (pc := 221) dX5_learn_221 rfl rfl (Nat.le_of_ble_eq_true rfl) (h1 c172)
  ·
    refine wp_aload_n (pc := 175) 0 dX5_learn_175 rfl rfl ?_
    refine wp_getR1 (pc := 176) 29 31 (o := 1) dX5_learn_176 rfl fk_X5_13 rfl rfl ?_
    refine wp_iload_n (pc := 179) 1 dX5_learn_179 rfl rfl ?_
    refine wp_baload (pc := 180) 31 dX5_learn_180 rfl (h2 c172) ?_
    refine wp_if_eq (pc := 181) (tgt := 211) dX5_learn_181 (by decide) (fun c181 => ?_) (fun c181 => ?_)
    ·
      refine wp_iinc (pc := 211) (v := (x1 + 1)) (lv' := [(0, .ref (pw_ad g 29)), (1, .int (x1 + 1))]) 1 dX5_learn_211 rfl rfl (by decide) rfl ?_
      refine wp_goto (pc := 214) (tgt := 168) dX5_learn_214 (by decide) ?_
      exact h3 c172 c181
    ·
      refine wp_aload_n (pc := 184) 0 dX5_learn_184 rfl rfl ?_
      refine wp_getR1 (pc := 185) 29 39 (o := 9) dX5_learn_185 rfl fk_X5_38 rfl rfl ?_
      refine wp_iconst (pc := 188) (v := (2 : Int32)) dX5_learn_188 (by decide) ?_
      refine wp_aload_n (pc := 189) 0 dX5_learn_189 rfl rfl ?_
      refine wp_iload_n (pc := 190) 1 dX5_learn_190 rfl rfl ?_
      refine wp_iconst (pc := 191) (v := (1 : Int32)) dX5_learn_191 (by decide) ?_
      refine wp_isub (pc := 192) dX5_learn_192 ?_
      refine wp_iconst (pc := 193) (v := (2 : Int32)) dX5_learn_193 (by decide) ?_
      refine wp_idiv (pc := 194) dX5_learn_194 (by decide) ?_
      refine wp_callV (pc := 195) (M' := mX5_redOf) 29 [.int ((x1 - (1 : Int32)) / (2 : Int32))] [.int (2 : Int32), .ref (pw_ad g 39)] dX5_learn_195 ck_X5_107 rfl rfl ⟨Nat.le_of_ble_eq_true rfl, Nat.le_of_ble_eq_true rfl⟩ rfl (Nat.le_of_ble_eq_true rfl) (Nat.le_of_ble_eq_true rfl) (Nat.le_of_ble_eq_true rfl) rfl ?_
      exact h4 c172 c181
set_option maxRecDepth 20000 in
theorem bX5_learn_56 {g : pw_G} {σ : pw_Mem} {Q : pw_R → Prop} {s9 x1 x2 x3 x4 : Int32} (h1 : WP g mX5_learn 31 [(0, .ref (pw_ad g 29)), (1, .int x1), (2, .int x2), (3, .int s9), (4, .int (x4 + 1))] [] 0 σ Q) : WP g mX5_learn 56 [(0, .ref (pw_ad g 29)), (1, .int x1), (2, .int x2), (3, .int x3), (4, .int x4)] [.int s9] 0 σ Q := by
  refine wp_istore_n (pc := 56) (lv' := [(0, .ref (pw_ad g 29)), (1, .int x1), (2, .int x2), (3, .int s9), (4, .int x4)]) dX5_learn_56 rfl (by decide) rfl ?_
  refine wp_iinc (pc := 57) (v := (x4 + 1)) (lv' := [(0, .ref (pw_ad g 29)), (1, .int x1), (2, .int x2), (3, .int s9), (4, .int (x4 + 1))]) 4 dX5_learn_57 rfl rfl (by decide) rfl ?_
  refine wp_goto (pc := 60) (tgt := 31) dX5_learn_60 (by decide) ?_
  exact h1
set_option maxRecDepth 20000 in
theorem bX5_learn_198 {g : pw_G} {σ : pw_Mem} {Q : pw_R → Prop} {s0 s9 x1 : Int32} (h1 : WP g mX5_redOf 0 [(0, .ref (pw_ad g 29)), (1, .int x1)] [] 0 σ (pw_k g mX5_learn 210 [(0, .ref (pw_ad g 29)), (1, .int x1)] [.int ((s0 * s9) + ((x1 - (1 : Int32)) - (x1 - (1 : Int32)) / (2 : Int32) * (2 : Int32))), .ref (pw_ad g 39)] 0 Q)) : WP g mX5_learn 198 [(0, .ref (pw_ad g 29)), (1, .int x1)] [.int s9, .int s0, .ref (pw_ad g 39)] 0 σ Q := by
  refine wp_imul (pc := 198) dX5_learn_198 ?_
  refine wp_iload_n (pc := 199) 1 dX5_learn_199 rfl rfl ?_
  refine wp_iconst (pc := 200) (v := (1 : Int32)) dX5_learn_200 (by decide) ?_
  refine wp_isub (pc := 201) dX5_learn_201 ?_
  refine wp_iconst (pc := 202) (v := (2 : Int32)) dX5_learn_202 (by decide) ?_
  refine wp_irem (pc := 203) dX5_learn_203 (by decide) ?_
  refine wp_iadd (pc := 204) dX5_learn_204 ?_
  refine wp_aload_n (pc := 205) 0 dX5_learn_205 rfl rfl ?_
  refine wp_iload_n (pc := 206) 1 dX5_learn_206 rfl rfl ?_
  refine wp_callV (pc := 207) (M' := mX5_redOf) 29 [.int x1] [.int ((s0 * s9) + ((x1 - (1 : Int32)) - (x1 - (1 : Int32)) / (2 : Int32) * (2 : Int32))), .ref (pw_ad g 39)] dX5_learn_207 ck_X5_107 rfl rfl ⟨Nat.le_of_ble_eq_true rfl, Nat.le_of_ble_eq_true rfl⟩ rfl (Nat.le_of_ble_eq_true rfl) (Nat.le_of_ble_eq_true rfl) (Nat.le_of_ble_eq_true rfl) rfl ?_
  exact h1
set_option maxRecDepth 20000 in
theorem bX5_learn_210 {g : pw_G} {σ : pw_Mem} {Q : pw_R → Prop} {s0 s9 x1 : Int32} (h1 : vp_in s0 1022) (h2 : WP g mX5_learn 168 [(0, .ref (pw_ad g 29)), (1, .int (x1 + 1))] [] 0 (pw_set σ 39 (s0).toNatClampNeg s9) Q) : WP g mX5_learn 210 [(0, .ref (pw_ad g 29)), (1, .int x1)] [.int s9, .int s0, .ref (pw_ad g 39)] 0 σ Q := by
  refine wp_iastore (pc := 210) 39 dX5_learn_210 rfl (h1) ?_
  refine wp_iinc (pc := 211) (v := (x1 + 1)) (lv' := [(0, .ref (pw_ad g 29)), (1, .int (x1 + 1))]) 1 dX5_learn_211 rfl rfl (by decide) rfl ?_
  refine wp_goto (pc := 214) (tgt := 168) dX5_learn_214 (by decide) ?_
  exact h2
set_option maxRecDepth 20000 in
theorem bX5_states_0 {g : pw_G} {σ : pw_Mem} {Q : pw_R → Prop} (h1 : Q (.inl (some (.int (σ 29 14))), (pw_set σ 29 0 (0 : Int32)))) : WP g mX5_states 0 [(0, .ref (pw_ad g 29))] [] 0 σ Q := by
  refine wp_aload_n (pc := 0) 0 dX5_states_0 rfl rfl ?_
  refine wp_iconst (pc := 1) (v := (0 : Int32)) dX5_states_1 (by decide) ?_
  refine wp_putI (pc := 2) 29 dX5_states_2 rfl pk_X5_59 rfl ?_
  refine wp_aload_n (pc := 5) 0 dX5_states_5 rfl rfl ?_
  refine wp_getI (pc := 6) 29 dX5_states_6 rfl fk_X5_122 rfl ?_
  exact wp_ireturn (pc := 9) dX5_states_9 rfl rfl (Nat.le_of_ble_eq_true rfl) (h1)
set_option maxRecDepth 20000 in
theorem bX5_isState_0 {g : pw_G} {σ : pw_Mem} {Q : pw_R → Prop} {x1 : Int32} (h1 : x1 < 0 → Q (.inl (some (.int (0 : Int32))), σ)) (h2 : ¬ x1 < 0 → (σ 29 14) ≤ x1 → Q (.inl (some (.int (0 : Int32))), σ)) (h3 : ¬ x1 < 0 → ¬ (σ 29 14) ≤ x1 → Q (.inl (some (.int (1 : Int32))), σ)) : WP g mX5_isState 0 [(0, .ref (pw_ad g 29)), (1, .int x1)] [] 0 σ Q := by
  refine wp_iload_n (pc := 0) 1 dX5_isState_0 rfl rfl ?_
  refine wp_if_lt (pc := 1) (tgt := 16) dX5_isState_1 (by decide) (fun c1 => ?_) (fun c1 => ?_)
  ·
    refine wp_iconst (pc := 16) (v := (0 : Int32)) dX5_isState_16 (by decide) ?_
    exact wp_ireturn (pc := 17) dX5_isState_17 rfl (by decide) (Nat.le_of_ble_eq_true rfl) (h1 c1)
  ·
    refine wp_iload_n (pc := 4) 1 dX5_isState_4 rfl rfl ?_
    refine wp_aload_n (pc := 5) 0 dX5_isState_5 rfl rfl ?_
    refine wp_getI (pc := 6) 29 dX5_isState_6 rfl fk_X5_122 rfl ?_
    refine wp_icmp_ge (pc := 9) (tgt := 16) dX5_isState_9 (by decide) (fun c9 => ?_) (fun c9 => ?_)
    ·
      refine wp_iconst (pc := 16) (v := (0 : Int32)) dX5_isState_16 (by decide) ?_
      exact wp_ireturn (pc := 17) dX5_isState_17 rfl (by decide) (Nat.le_of_ble_eq_true rfl) (h2 c1 c9)
    ·
      refine wp_iconst (pc := 12) (v := (1 : Int32)) dX5_isState_12 (by decide) ?_
      refine wp_goto (pc := 13) (tgt := 17) dX5_isState_13 (by decide) ?_
      exact wp_ireturn (pc := 17) dX5_isState_17 rfl (by decide) (Nat.le_of_ble_eq_true rfl) (h3 c1 c9)
set_option maxRecDepth 20000 in
theorem bX5_next_0 {g : pw_G} {σ : pw_Mem} {Q : pw_R → Prop} {x1 x2 : Int32} (h1 : WP g mX5_isState 0 [(0, .ref (pw_ad g 29)), (1, .int x1)] [] 0 σ (pw_k g mX5_next 6 [(0, .ref (pw_ad g 29)), (1, .int x1), (2, .int x2)] [.ref (pw_ad g 29)] 0 Q)) : WP g mX5_next 0 [(0, .ref (pw_ad g 29)), (1, .int x1), (2, .int x2)] [] 0 σ Q := by
  refine wp_aload_n (pc := 0) 0 dX5_next_0 rfl rfl ?_
  refine wp_aload_n (pc := 1) 0 dX5_next_1 rfl rfl ?_
  refine wp_iload_n (pc := 2) 1 dX5_next_2 rfl rfl ?_
  refine wp_callV (pc := 3) (M' := mX5_isState) 29 [.int x1] [.ref (pw_ad g 29)] dX5_next_3 ck_X5_125 rfl rfl ⟨Nat.le_of_ble_eq_true rfl, Nat.le_of_ble_eq_true rfl⟩ rfl (Nat.le_of_ble_eq_true rfl) (Nat.le_of_ble_eq_true rfl) (Nat.le_of_ble_eq_true rfl) rfl ?_
  exact h1
set_option maxRecDepth 20000 in
theorem bX5_next_6 {g : pw_G} {σ : pw_Mem} {Q : pw_R → Prop} {s9 x1 x2 : Int32} (h1 : s9 = 0 → WP g mX5_when 0 [(0, .ref (pw_ad g 29)), (1, .int (0 : Int32)), (2, .int (1 : Int32))] [] 0 σ (pw_k g mX5_next 27 [(0, .ref (pw_ad g 29)), (1, .int x1), (2, .int x2)] [] 0 Q)) (h2 : ¬ s9 = 0 → x2 < 0 → WP g mX5_when 0 [(0, .ref (pw_ad g 29)), (1, .int (0 : Int32)), (2, .int (1 : Int32))] [] 0 σ (pw_k g mX5_next 27 [(0, .ref (pw_ad g 29)), (1, .int x1), (2, .int x2)] [] 0 Q)) (h3 : ¬ s9 = 0 → ¬ x2 < 0 → (1 : Int32) < x2 → WP g mX5_when 0 [(0, .ref (pw_ad g 29)), (1, .int (0 : Int32)), (2, .int (1 : Int32))] [] 0 σ (pw_k g mX5_next 27 [(0, .ref (pw_ad g 29)), (1, .int x1), (2, .int x2)] [] 0 Q)) (h4 : ¬ s9 = 0 → ¬ x2 < 0 → ¬ (1 : Int32) < x2 → WP g mX5_when 0 [(0, .ref (pw_ad g 29)), (1, .int (1 : Int32)), (2, .int (1 : Int32))] [] 0 σ (pw_k g mX5_next 27 [(0, .ref (pw_ad g 29)), (1, .int x1), (2, .int x2)] [] 0 Q)) : WP g mX5_next 6 [(0, .ref (pw_ad g 29)), (1, .int x1), (2, .int x2)] [.int s9, .ref (pw_ad g 29)] 0 σ Q := by
  refine wp_if_eq (pc := 6) (tgt := 22) dX5_next_6 (by decide) (fun c6 => ?_) (fun c6 => ?_)
  ·
    refine wp_iconst (pc := 22) (v := (0 : Int32)) dX5_next_22 (by decide) ?_
    refine wp_iconst (pc := 23) (v := (1 : Int32)) dX5_next_23 (by decide) ?_
    refine wp_callV (pc := 24) (M' := mX5_when) 29 [.int (0 : Int32), .int (1 : Int32)] [] dX5_next_24 ck_X5_78 rfl rfl ⟨Nat.le_of_ble_eq_true rfl, Nat.le_of_ble_eq_true rfl⟩ rfl (Nat.le_of_ble_eq_true rfl) (Nat.le_of_ble_eq_true rfl) (Nat.le_of_ble_eq_true rfl) rfl ?_
    exact h1 c6
  ·
    refine wp_iload_n (pc := 9) 2 dX5_next_9 rfl rfl ?_
    refine wp_if_lt (pc := 10) (tgt := 22) dX5_next_10 (by decide) (fun c10 => ?_) (fun c10 => ?_)
    ·
      refine wp_iconst (pc := 22) (v := (0 : Int32)) dX5_next_22 (by decide) ?_
      refine wp_iconst (pc := 23) (v := (1 : Int32)) dX5_next_23 (by decide) ?_
      refine wp_callV (pc := 24) (M' := mX5_when) 29 [.int (0 : Int32), .int (1 : Int32)] [] dX5_next_24 ck_X5_78 rfl rfl ⟨Nat.le_of_ble_eq_true rfl, Nat.le_of_ble_eq_true rfl⟩ rfl (Nat.le_of_ble_eq_true rfl) (Nat.le_of_ble_eq_true rfl) (Nat.le_of_ble_eq_true rfl) rfl ?_
      exact h2 c6 c10
    ·
      refine wp_iload_n (pc := 13) 2 dX5_next_13 rfl rfl ?_
      refine wp_iconst (pc := 14) (v := (1 : Int32)) dX5_next_14 (by decide) ?_
      refine wp_icmp_gt (pc := 15) (tgt := 22) dX5_next_15 (by decide) (fun c15 => ?_) (fun c15 => ?_)
      ·
        refine wp_iconst (pc := 22) (v := (0 : Int32)) dX5_next_22 (by decide) ?_
        refine wp_iconst (pc := 23) (v := (1 : Int32)) dX5_next_23 (by decide) ?_
        refine wp_callV (pc := 24) (M' := mX5_when) 29 [.int (0 : Int32), .int (1 : Int32)] [] dX5_next_24 ck_X5_78 rfl rfl ⟨Nat.le_of_ble_eq_true rfl, Nat.le_of_ble_eq_true rfl⟩ rfl (Nat.le_of_ble_eq_true rfl) (Nat.le_of_ble_eq_true rfl) (Nat.le_of_ble_eq_true rfl) rfl ?_
        exact h3 c6 c10 c15
      ·
        refine wp_iconst (pc := 18) (v := (1 : Int32)) dX5_next_18 (by decide) ?_
        refine wp_goto (pc := 19) (tgt := 23) dX5_next_19 (by decide) ?_
        refine wp_iconst (pc := 23) (v := (1 : Int32)) dX5_next_23 (by decide) ?_
        refine wp_callV (pc := 24) (M' := mX5_when) 29 [.int (1 : Int32), .int (1 : Int32)] [] dX5_next_24 ck_X5_78 rfl rfl ⟨Nat.le_of_ble_eq_true rfl, Nat.le_of_ble_eq_true rfl⟩ rfl (Nat.le_of_ble_eq_true rfl) (Nat.le_of_ble_eq_true rfl) (Nat.le_of_ble_eq_true rfl) rfl ?_
        exact h4 c6 c10 c15
set_option maxRecDepth 20000 in
theorem bX5_next_27 {g : pw_G} {σ : pw_Mem} {Q : pw_R → Prop} {s9 x1 x2 : Int32} (h1 : s9 = 0 → Q (.inl (some (.int (0 : Int32))), σ)) (h2 : ¬ s9 = 0 → vp_in (((2 : Int32) * x1) + x2) 1022) (h3 : ¬ s9 = 0 → Q (.inl (some (.int (σ 39 ((((2 : Int32) * x1) + x2)).toNatClampNeg))), σ)) : WP g mX5_next 27 [(0, .ref (pw_ad g 29)), (1, .int x1), (2, .int x2)] [.int s9] 0 σ Q := by
  refine wp_if_eq (pc := 27) (tgt := 43) dX5_next_27 (by decide) (fun c27 => ?_) (fun c27 => ?_)
  ·
    refine wp_iconst (pc := 43) (v := (0 : Int32)) dX5_next_43 (by decide) ?_
    exact wp_ireturn (pc := 44) dX5_next_44 rfl rfl (Nat.le_of_ble_eq_true rfl) (h1 c27)
  ·
    refine wp_aload_n (pc := 30) 0 dX5_next_30 rfl rfl ?_
    refine wp_getR1 (pc := 31) 29 39 (o := 9) dX5_next_31 rfl fk_X5_38 rfl rfl ?_
    refine wp_iconst (pc := 34) (v := (2 : Int32)) dX5_next_34 (by decide) ?_
    refine wp_iload_n (pc := 35) 1 dX5_next_35 rfl rfl ?_
    refine wp_imul (pc := 36) dX5_next_36 ?_
    refine wp_iload_n (pc := 37) 2 dX5_next_37 rfl rfl ?_
    refine wp_iadd (pc := 38) dX5_next_38 ?_
    refine wp_iaload (pc := 39) 39 dX5_next_39 rfl (h2 c27) ?_
    refine wp_goto (pc := 40) (tgt := 44) dX5_next_40 (by decide) ?_
    exact wp_ireturn (pc := 44) dX5_next_44 rfl rfl (Nat.le_of_ble_eq_true rfl) (h3 c27)
set_option maxRecDepth 20000 in
theorem bX5_sign_0 {g : pw_G} {σ : pw_Mem} {Q : pw_R → Prop} {x1 : Int32} (h1 : WP g mX5_isState 0 [(0, .ref (pw_ad g 29)), (1, .int x1)] [] 0 σ (pw_k g mX5_sign 6 [(0, .ref (pw_ad g 29)), (1, .int x1)] [.ref (pw_ad g 29)] 0 Q)) : WP g mX5_sign 0 [(0, .ref (pw_ad g 29)), (1, .int x1)] [] 0 σ Q := by
  refine wp_aload_n (pc := 0) 0 dX5_sign_0 rfl rfl ?_
  refine wp_aload_n (pc := 1) 0 dX5_sign_1 rfl rfl ?_
  refine wp_iload_n (pc := 2) 1 dX5_sign_2 rfl rfl ?_
  refine wp_callV (pc := 3) (M' := mX5_isState) 29 [.int x1] [.ref (pw_ad g 29)] dX5_sign_3 ck_X5_125 rfl rfl ⟨Nat.le_of_ble_eq_true rfl, Nat.le_of_ble_eq_true rfl⟩ rfl (Nat.le_of_ble_eq_true rfl) (Nat.le_of_ble_eq_true rfl) (Nat.le_of_ble_eq_true rfl) rfl ?_
  exact h1
set_option maxRecDepth 20000 in
theorem bX5_sign_6 {g : pw_G} {σ : pw_Mem} {Q : pw_R → Prop} {s9 x1 : Int32} (h1 : WP g mX5_when 0 [(0, .ref (pw_ad g 29)), (1, .int s9), (2, .int (1 : Int32))] [] 0 σ (pw_k g mX5_sign 10 [(0, .ref (pw_ad g 29)), (1, .int x1)] [] 0 Q)) : WP g mX5_sign 6 [(0, .ref (pw_ad g 29)), (1, .int x1)] [.int s9, .ref (pw_ad g 29)] 0 σ Q := by
  refine wp_iconst (pc := 6) (v := (1 : Int32)) dX5_sign_6 (by decide) ?_
  refine wp_callV (pc := 7) (M' := mX5_when) 29 [.int s9, .int (1 : Int32)] [] dX5_sign_7 ck_X5_78 rfl rfl ⟨Nat.le_of_ble_eq_true rfl, Nat.le_of_ble_eq_true rfl⟩ rfl (Nat.le_of_ble_eq_true rfl) (Nat.le_of_ble_eq_true rfl) (Nat.le_of_ble_eq_true rfl) rfl ?_
  exact h1
set_option maxRecDepth 20000 in
theorem bX5_sign_10 {g : pw_G} {σ : pw_Mem} {Q : pw_R → Prop} {s9 x1 : Int32} (h1 : s9 = 0 → Q (.inl (some (.int (0 : Int32))), σ)) (h2 : ¬ s9 = 0 → vp_in x1 511) (h3 : ¬ s9 = 0 → Q (.inl (some (.int (σ 40 (x1).toNatClampNeg))), σ)) : WP g mX5_sign 10 [(0, .ref (pw_ad g 29)), (1, .int x1)] [.int s9] 0 σ Q := by
  refine wp_if_eq (pc := 10) (tgt := 22) dX5_sign_10 (by decide) (fun c10 => ?_) (fun c10 => ?_)
  ·
    refine wp_iconst (pc := 22) (v := (0 : Int32)) dX5_sign_22 (by decide) ?_
    exact wp_ireturn (pc := 23) dX5_sign_23 rfl rfl (Nat.le_of_ble_eq_true rfl) (h1 c10)
  ·
    refine wp_aload_n (pc := 13) 0 dX5_sign_13 rfl rfl ?_
    refine wp_getR1 (pc := 14) 29 40 (o := 10) dX5_sign_14 rfl fk_X5_41 rfl rfl ?_
    refine wp_iload_n (pc := 17) 1 dX5_sign_17 rfl rfl ?_
    refine wp_iaload (pc := 18) 40 dX5_sign_18 rfl (h2 c10) ?_
    refine wp_goto (pc := 19) (tgt := 23) dX5_sign_19 (by decide) ?_
    exact wp_ireturn (pc := 23) dX5_sign_23 rfl rfl (Nat.le_of_ble_eq_true rfl) (h3 c10)
set_option maxRecDepth 20000 in
theorem bX5_accepts_0 {g : pw_G} {σ : pw_Mem} {Q : pw_R → Prop} {x1 x2 : Int32} (h1 : WP g mX5_isWord 0 [(0, .int x1), (1, .int x2)] [] 0 σ (pw_k g mX5_accepts 6 [(0, .ref (pw_ad g 29)), (1, .int x1), (2, .int x2)] [.ref (pw_ad g 29)] 0 Q)) : WP g mX5_accepts 0 [(0, .ref (pw_ad g 29)), (1, .int x1), (2, .int x2)] [] 0 σ Q := by
  refine wp_aload_n (pc := 0) 0 dX5_accepts_0 rfl rfl ?_
  refine wp_iload_n (pc := 1) 1 dX5_accepts_1 rfl rfl ?_
  refine wp_iload_n (pc := 2) 2 dX5_accepts_2 rfl rfl ?_
  refine wp_callS (pc := 3) (M' := mX5_isWord) [.int x1, .int x2] [.ref (pw_ad g 29)] dX5_accepts_3 ck_X5_74 ⟨Nat.le_of_ble_eq_true rfl, Nat.le_of_ble_eq_true rfl⟩ rfl (Nat.le_of_ble_eq_true rfl) (Nat.le_of_ble_eq_true rfl) (Nat.le_of_ble_eq_true rfl) rfl ?_
  exact h1
set_option maxRecDepth 20000 in
theorem bX5_accepts_6 {g : pw_G} {σ : pw_Mem} {Q : pw_R → Prop} {s9 x1 x2 : Int32} (h1 : WP g mX5_when 0 [(0, .ref (pw_ad g 29)), (1, .int s9), (2, .int (1 : Int32))] [] 0 σ (pw_k g mX5_accepts 10 [(0, .ref (pw_ad g 29)), (1, .int x1), (2, .int x2)] [] 0 Q)) : WP g mX5_accepts 6 [(0, .ref (pw_ad g 29)), (1, .int x1), (2, .int x2)] [.int s9, .ref (pw_ad g 29)] 0 σ Q := by
  refine wp_iconst (pc := 6) (v := (1 : Int32)) dX5_accepts_6 (by decide) ?_
  refine wp_callV (pc := 7) (M' := mX5_when) 29 [.int s9, .int (1 : Int32)] [] dX5_accepts_7 ck_X5_78 rfl rfl ⟨Nat.le_of_ble_eq_true rfl, Nat.le_of_ble_eq_true rfl⟩ rfl (Nat.le_of_ble_eq_true rfl) (Nat.le_of_ble_eq_true rfl) (Nat.le_of_ble_eq_true rfl) rfl ?_
  exact h1
set_option maxRecDepth 20000 in
theorem bX5_accepts_10 {g : pw_G} {σ : pw_Mem} {Q : pw_R → Prop} {s9 x1 x2 : Int32} (h1 : s9 = 0 → Q (.inl (some (.int (0 : Int32))), σ)) (h2 : ¬ s9 = 0 → (σ 29 14) ≤ 0 → WP g mX5_when 0 [(0, .ref (pw_ad g 29)), (1, .int (0 : Int32)), (2, .int (2 : Int32))] [] 0 σ (pw_k g mX5_accepts 30 [(0, .ref (pw_ad g 29)), (1, .int x1), (2, .int x2)] [] 0 Q)) (h3 : ¬ s9 = 0 → ¬ (σ 29 14) ≤ 0 → WP g mX5_when 0 [(0, .ref (pw_ad g 29)), (1, .int (1 : Int32)), (2, .int (2 : Int32))] [] 0 σ (pw_k g mX5_accepts 30 [(0, .ref (pw_ad g 29)), (1, .int x1), (2, .int x2)] [] 0 Q)) : WP g mX5_accepts 10 [(0, .ref (pw_ad g 29)), (1, .int x1), (2, .int x2)] [.int s9] 0 σ Q := by
  refine wp_if_eq (pc := 10) (tgt := 33) dX5_accepts_10 (by decide) (fun c10 => ?_) (fun c10 => ?_)
  ·
    refine wp_iconst (pc := 33) (v := (0 : Int32)) dX5_accepts_33 (by decide) ?_
    exact wp_ireturn (pc := 34) dX5_accepts_34 rfl (by decide) (Nat.le_of_ble_eq_true rfl) (h1 c10)
  ·
    refine wp_aload_n (pc := 13) 0 dX5_accepts_13 rfl rfl ?_
    refine wp_aload_n (pc := 14) 0 dX5_accepts_14 rfl rfl ?_
    refine wp_getI (pc := 15) 29 dX5_accepts_15 rfl fk_X5_122 rfl ?_
    refine wp_if_le (pc := 18) (tgt := 25) dX5_accepts_18 (by decide) (fun c18 => ?_) (fun c18 => ?_)
    ·
      refine wp_iconst (pc := 25) (v := (0 : Int32)) dX5_accepts_25 (by decide) ?_
      refine wp_iconst (pc := 26) (v := (2 : Int32)) dX5_accepts_26 (by decide) ?_
      refine wp_callV (pc := 27) (M' := mX5_when) 29 [.int (0 : Int32), .int (2 : Int32)] [] dX5_accepts_27 ck_X5_78 rfl rfl ⟨Nat.le_of_ble_eq_true rfl, Nat.le_of_ble_eq_true rfl⟩ rfl (Nat.le_of_ble_eq_true rfl) (Nat.le_of_ble_eq_true rfl) (Nat.le_of_ble_eq_true rfl) rfl ?_
      exact h2 c10 c18
    ·
      refine wp_iconst (pc := 21) (v := (1 : Int32)) dX5_accepts_21 (by decide) ?_
      refine wp_goto (pc := 22) (tgt := 26) dX5_accepts_22 (by decide) ?_
      refine wp_iconst (pc := 26) (v := (2 : Int32)) dX5_accepts_26 (by decide) ?_
      refine wp_callV (pc := 27) (M' := mX5_when) 29 [.int (1 : Int32), .int (2 : Int32)] [] dX5_accepts_27 ck_X5_78 rfl rfl ⟨Nat.le_of_ble_eq_true rfl, Nat.le_of_ble_eq_true rfl⟩ rfl (Nat.le_of_ble_eq_true rfl) (Nat.le_of_ble_eq_true rfl) (Nat.le_of_ble_eq_true rfl) rfl ?_
      exact h3 c10 c18
set_option maxRecDepth 20000 in
theorem bX5_accepts_30 {g : pw_G} {σ : pw_Mem} {Q : pw_R → Prop} {s9 x1 x2 : Int32} (h1 : ¬ s9 = 0 → WP g mX5_accepts 42 [(0, .ref (pw_ad g 29)), (1, .int x1), (2, .int x2), (3, .int (0 : Int32)), (4, .int (x1 - (1 : Int32)))] [] 0 σ Q) (h2 : s9 = 0 → Q (.inl (some (.int (0 : Int32))), σ)) : WP g mX5_accepts 30 [(0, .ref (pw_ad g 29)), (1, .int x1), (2, .int x2)] [.int s9] 0 σ Q := by
  refine wp_if_ne (pc := 30) (tgt := 35) dX5_accepts_30 (by decide) (fun c30 => ?_) (fun c30 => ?_)
  ·
    refine wp_iconst (pc := 35) (v := (0 : Int32)) dX5_accepts_35 (by decide) ?_
    refine wp_istore_n (pc := 36) (lv' := [(0, .ref (pw_ad g 29)), (1, .int x1), (2, .int x2), (3, .int (0 : Int32))]) dX5_accepts_36 rfl (by decide) rfl ?_
    refine wp_iload_n (pc := 37) 1 dX5_accepts_37 rfl rfl ?_
    refine wp_iconst (pc := 38) (v := (1 : Int32)) dX5_accepts_38 (by decide) ?_
    refine wp_isub (pc := 39) dX5_accepts_39 ?_
    refine wp_istore (pc := 40) (lv' := [(0, .ref (pw_ad g 29)), (1, .int x1), (2, .int x2), (3, .int (0 : Int32)), (4, .int (x1 - (1 : Int32)))]) dX5_accepts_40 (by decide) rfl ?_
    exact h1 c30
  ·
    refine wp_iconst (pc := 33) (v := (0 : Int32)) dX5_accepts_33 (by decide) ?_
    exact wp_ireturn (pc := 34) dX5_accepts_34 rfl (by decide) (Nat.le_of_ble_eq_true rfl) (h2 c30)
set_option maxRecDepth 20000 in
theorem bX5_accepts_42 {g : pw_G} {σ : pw_Mem} {Q : pw_R → Prop} {x1 x2 x3 x4 : Int32} (h1 : x4 < 0 → x3 < 0 → Q (.inl (some (.int (0 : Int32))), σ)) (h2 : x4 < 0 → ¬ x3 < 0 → vp_in x3 511) (h3 : x4 < 0 → ¬ x3 < 0 → ¬ (σ 40 (x3).toNatClampNeg) = (1 : Int32) → Q (.inl (some (.int (0 : Int32))), σ)) (h4 : x4 < 0 → ¬ x3 < 0 → (σ 40 (x3).toNatClampNeg) = (1 : Int32) → Q (.inl (some (.int (1 : Int32))), σ)) (h5 : ¬ x4 < 0 → x3 < 0 → x3 < 0 → Q (.inl (some (.int (0 : Int32))), σ)) (h6 : ¬ x4 < 0 → x3 < 0 → ¬ x3 < 0 → vp_in x3 511) (h7 : ¬ x4 < 0 → x3 < 0 → ¬ x3 < 0 → ¬ (σ 40 (x3).toNatClampNeg) = (1 : Int32) → Q (.inl (some (.int (0 : Int32))), σ)) (h8 : ¬ x4 < 0 → x3 < 0 → ¬ x3 < 0 → (σ 40 (x3).toNatClampNeg) = (1 : Int32) → Q (.inl (some (.int (1 : Int32))), σ)) (h9 : ¬ x4 < 0 → ¬ x3 < 0 → vp_in (((2 : Int32) * x3) + ((x2 >>> (x4 &&& 31)) &&& (1 : Int32))) 1022) (h10 : ¬ x4 < 0 → ¬ x3 < 0 → WP g mX5_accepts 42 [(0, .ref (pw_ad g 29)), (1, .int x1), (2, .int x2), (3, .int (σ 39 ((((2 : Int32) * x3) + ((x2 >>> (x4 &&& 31)) &&& (1 : Int32)))).toNatClampNeg)), (4, .int (x4 + (-1)))] [] 0 σ Q) : WP g mX5_accepts 42 [(0, .ref (pw_ad g 29)), (1, .int x1), (2, .int x2), (3, .int x3), (4, .int x4)] [] 0 σ Q := by
  refine wp_iload (pc := 42) 4 dX5_accepts_42 rfl ?_
  refine wp_if_lt (pc := 44) (tgt := 73) dX5_accepts_44 (by decide) (fun c44 => ?_) (fun c44 => ?_)
  ·
    refine wp_iload_n (pc := 73) 3 dX5_accepts_73 rfl rfl ?_
    refine wp_if_lt (pc := 74) (tgt := 91) dX5_accepts_74 (by decide) (fun c74 => ?_) (fun c74 => ?_)
    ·
      refine wp_iconst (pc := 91) (v := (0 : Int32)) dX5_accepts_91 (by decide) ?_
      exact wp_ireturn (pc := 92) dX5_accepts_92 rfl (by decide) (Nat.le_of_ble_eq_true rfl) (h1 c44 c74)
    ·
      refine wp_aload_n (pc := 77) 0 dX5_accepts_77 rfl rfl ?_
      refine wp_getR1 (pc := 78) 29 40 (o := 10) dX5_accepts_78 rfl fk_X5_41 rfl rfl ?_
      refine wp_iload_n (pc := 81) 3 dX5_accepts_81 rfl rfl ?_
      refine wp_iaload (pc := 82) 40 dX5_accepts_82 rfl (h2 c44 c74) ?_
      refine wp_iconst (pc := 83) (v := (1 : Int32)) dX5_accepts_83 (by decide) ?_
      refine wp_icmp_ne (pc := 84) (tgt := 91) dX5_accepts_84 (by decide) (fun c84 => ?_) (fun c84 => ?_)
      ·
        refine wp_iconst (pc := 91) (v := (0 : Int32)) dX5_accepts_91 (by decide) ?_
        exact wp_ireturn (pc := 92) dX5_accepts_92 rfl (by decide) (Nat.le_of_ble_eq_true rfl) (h3 c44 c74 c84)
      ·
        refine wp_iconst (pc := 87) (v := (1 : Int32)) dX5_accepts_87 (by decide) ?_
        refine wp_goto (pc := 88) (tgt := 92) dX5_accepts_88 (by decide) ?_
        exact wp_ireturn (pc := 92) dX5_accepts_92 rfl (by decide) (Nat.le_of_ble_eq_true rfl) (h4 c44 c74 c84)
  ·
    refine wp_iload_n (pc := 47) 3 dX5_accepts_47 rfl rfl ?_
    refine wp_if_lt (pc := 48) (tgt := 73) dX5_accepts_48 (by decide) (fun c48 => ?_) (fun c48 => ?_)
    ·
      refine wp_iload_n (pc := 73) 3 dX5_accepts_73 rfl rfl ?_
      refine wp_if_lt (pc := 74) (tgt := 91) dX5_accepts_74 (by decide) (fun c74 => ?_) (fun c74 => ?_)
      ·
        refine wp_iconst (pc := 91) (v := (0 : Int32)) dX5_accepts_91 (by decide) ?_
        exact wp_ireturn (pc := 92) dX5_accepts_92 rfl (by decide) (Nat.le_of_ble_eq_true rfl) (h5 c44 c48 c74)
      ·
        refine wp_aload_n (pc := 77) 0 dX5_accepts_77 rfl rfl ?_
        refine wp_getR1 (pc := 78) 29 40 (o := 10) dX5_accepts_78 rfl fk_X5_41 rfl rfl ?_
        refine wp_iload_n (pc := 81) 3 dX5_accepts_81 rfl rfl ?_
        refine wp_iaload (pc := 82) 40 dX5_accepts_82 rfl (h6 c44 c48 c74) ?_
        refine wp_iconst (pc := 83) (v := (1 : Int32)) dX5_accepts_83 (by decide) ?_
        refine wp_icmp_ne (pc := 84) (tgt := 91) dX5_accepts_84 (by decide) (fun c84 => ?_) (fun c84 => ?_)
        ·
          refine wp_iconst (pc := 91) (v := (0 : Int32)) dX5_accepts_91 (by decide) ?_
          exact wp_ireturn (pc := 92) dX5_accepts_92 rfl (by decide) (Nat.le_of_ble_eq_true rfl) (h7 c44 c48 c74 c84)
        ·
          refine wp_iconst (pc := 87) (v := (1 : Int32)) dX5_accepts_87 (by decide) ?_
          refine wp_goto (pc := 88) (tgt := 92) dX5_accepts_88 (by decide) ?_
          exact wp_ireturn (pc := 92) dX5_accepts_92 rfl (by decide) (Nat.le_of_ble_eq_true rfl) (h8 c44 c48 c74 c84)
    ·
      refine wp_aload_n (pc := 51) 0 dX5_accepts_51 rfl rfl ?_
      refine wp_getR1 (pc := 52) 29 39 (o := 9) dX5_accepts_52 rfl fk_X5_38 rfl rfl ?_
      refine wp_iconst (pc := 55) (v := (2 : Int32)) dX5_accepts_55 (by decide) ?_
      refine wp_iload_n (pc := 56) 3 dX5_accepts_56 rfl rfl ?_
      refine wp_imul (pc := 57) dX5_accepts_57 ?_
      refine wp_iload_n (pc := 58) 2 dX5_accepts_58 rfl rfl ?_
      refine wp_iload (pc := 59) 4 dX5_accepts_59 rfl ?_
      refine wp_ishr (pc := 61) dX5_accepts_61 ?_
      refine wp_iconst (pc := 62) (v := (1 : Int32)) dX5_accepts_62 (by decide) ?_
      refine wp_iand (pc := 63) dX5_accepts_63 ?_
      refine wp_iadd (pc := 64) dX5_accepts_64 ?_
      refine wp_iaload (pc := 65) 39 dX5_accepts_65 rfl (h9 c44 c48) ?_
      refine wp_istore_n (pc := 66) (lv' := [(0, .ref (pw_ad g 29)), (1, .int x1), (2, .int x2), (3, .int (σ 39 ((((2 : Int32) * x3) + ((x2 >>> (x4 &&& 31)) &&& (1 : Int32)))).toNatClampNeg)), (4, .int x4)]) dX5_accepts_66 rfl (by decide) rfl ?_
      refine wp_iinc (pc := 67) (v := (x4 + (-1))) (lv' := [(0, .ref (pw_ad g 29)), (1, .int x1), (2, .int x2), (3, .int (σ 39 ((((2 : Int32) * x3) + ((x2 >>> (x4 &&& 31)) &&& (1 : Int32)))).toNatClampNeg)), (4, .int (x4 + (-1)))]) 4 dX5_accepts_67 rfl rfl (by decide) rfl ?_
      refine wp_goto (pc := 70) (tgt := 42) dX5_accepts_70 (by decide) ?_
      exact h10 c44 c48
set_option maxRecDepth 20000 in
theorem bX5_draft_0 {g : pw_G} {σ : pw_Mem} {Q : pw_R → Prop} {x1 : Int32} (h1 : x1 < (1 : Int32) → WP g mX5_when 0 [(0, .ref (pw_ad g 29)), (1, .int (0 : Int32)), (2, .int (1 : Int32))] [] 0 σ (pw_k g mX5_draft 20 [(0, .ref (pw_ad g 29)), (1, .int x1)] [] 0 Q)) (h2 : ¬ x1 < (1 : Int32) → (5 : Int32) < x1 → WP g mX5_when 0 [(0, .ref (pw_ad g 29)), (1, .int (0 : Int32)), (2, .int (1 : Int32))] [] 0 σ (pw_k g mX5_draft 20 [(0, .ref (pw_ad g 29)), (1, .int x1)] [] 0 Q)) (h3 : ¬ x1 < (1 : Int32) → ¬ (5 : Int32) < x1 → WP g mX5_when 0 [(0, .ref (pw_ad g 29)), (1, .int (1 : Int32)), (2, .int (1 : Int32))] [] 0 σ (pw_k g mX5_draft 20 [(0, .ref (pw_ad g 29)), (1, .int x1)] [] 0 Q)) : WP g mX5_draft 0 [(0, .ref (pw_ad g 29)), (1, .int x1)] [] 0 σ Q := by
  refine wp_aload_n (pc := 0) 0 dX5_draft_0 rfl rfl ?_
  refine wp_iload_n (pc := 1) 1 dX5_draft_1 rfl rfl ?_
  refine wp_iconst (pc := 2) (v := (1 : Int32)) dX5_draft_2 (by decide) ?_
  refine wp_icmp_lt (pc := 3) (tgt := 15) dX5_draft_3 (by decide) (fun c3 => ?_) (fun c3 => ?_)
  ·
    refine wp_iconst (pc := 15) (v := (0 : Int32)) dX5_draft_15 (by decide) ?_
    refine wp_iconst (pc := 16) (v := (1 : Int32)) dX5_draft_16 (by decide) ?_
    refine wp_callV (pc := 17) (M' := mX5_when) 29 [.int (0 : Int32), .int (1 : Int32)] [] dX5_draft_17 ck_X5_78 rfl rfl ⟨Nat.le_of_ble_eq_true rfl, Nat.le_of_ble_eq_true rfl⟩ rfl (Nat.le_of_ble_eq_true rfl) (Nat.le_of_ble_eq_true rfl) (Nat.le_of_ble_eq_true rfl) rfl ?_
    exact h1 c3
  ·
    refine wp_iload_n (pc := 6) 1 dX5_draft_6 rfl rfl ?_
    refine wp_iconst (pc := 7) (v := (5 : Int32)) dX5_draft_7 (by decide) ?_
    refine wp_icmp_gt (pc := 8) (tgt := 15) dX5_draft_8 (by decide) (fun c8 => ?_) (fun c8 => ?_)
    ·
      refine wp_iconst (pc := 15) (v := (0 : Int32)) dX5_draft_15 (by decide) ?_
      refine wp_iconst (pc := 16) (v := (1 : Int32)) dX5_draft_16 (by decide) ?_
      refine wp_callV (pc := 17) (M' := mX5_when) 29 [.int (0 : Int32), .int (1 : Int32)] [] dX5_draft_17 ck_X5_78 rfl rfl ⟨Nat.le_of_ble_eq_true rfl, Nat.le_of_ble_eq_true rfl⟩ rfl (Nat.le_of_ble_eq_true rfl) (Nat.le_of_ble_eq_true rfl) (Nat.le_of_ble_eq_true rfl) rfl ?_
      exact h2 c3 c8
    ·
      refine wp_iconst (pc := 11) (v := (1 : Int32)) dX5_draft_11 (by decide) ?_
      refine wp_goto (pc := 12) (tgt := 16) dX5_draft_12 (by decide) ?_
      refine wp_iconst (pc := 16) (v := (1 : Int32)) dX5_draft_16 (by decide) ?_
      refine wp_callV (pc := 17) (M' := mX5_when) 29 [.int (1 : Int32), .int (1 : Int32)] [] dX5_draft_17 ck_X5_78 rfl rfl ⟨Nat.le_of_ble_eq_true rfl, Nat.le_of_ble_eq_true rfl⟩ rfl (Nat.le_of_ble_eq_true rfl) (Nat.le_of_ble_eq_true rfl) (Nat.le_of_ble_eq_true rfl) rfl ?_
      exact h3 c3 c8
set_option maxRecDepth 20000 in
theorem bX5_draft_20 {g : pw_G} {σ : pw_Mem} {Q : pw_R → Prop} {s9 x1 : Int32} (h1 : ¬ s9 = 0 → WP g mX5_draft 31 [(0, .ref (pw_ad g 29)), (1, .int x1), (2, .int (0 : Int32))] [] 0 (pw_set σ 29 17 x1) Q) (h2 : s9 = 0 → Q (.inl none, σ)) : WP g mX5_draft 20 [(0, .ref (pw_ad g 29)), (1, .int x1)] [.int s9] 0 σ Q := by
  refine wp_if_ne (pc := 20) (tgt := 24) dX5_draft_20 (by decide) (fun c20 => ?_) (fun c20 => ?_)
  ·
    refine wp_aload_n (pc := 24) 0 dX5_draft_24 rfl rfl ?_
    refine wp_iload_n (pc := 25) 1 dX5_draft_25 rfl rfl ?_
    refine wp_putI (pc := 26) 29 dX5_draft_26 rfl pk_X5_129 rfl ?_
    refine wp_iconst (pc := 29) (v := (0 : Int32)) dX5_draft_29 (by decide) ?_
    refine wp_istore_n (pc := 30) (lv' := [(0, .ref (pw_ad g 29)), (1, .int x1), (2, .int (0 : Int32))]) dX5_draft_30 rfl (by decide) rfl ?_
    exact h1 c20
  ·
    exact wp_return (pc := 23) dX5_draft_23 rfl (Nat.le_of_ble_eq_true rfl) (h2 c20)
set_option maxRecDepth 20000 in
theorem bX5_draft_31 {g : pw_G} {σ : pw_Mem} {Q : pw_R → Prop} {x1 x2 : Int32} (h1 : x1 ≤ x2 → Q (.inl none, σ)) (h2 : ¬ x1 ≤ x2 → vp_in x2 5) (h3 : ¬ x1 ≤ x2 → vp_in ((2 : Int32) * x2) 10) (h4 : ¬ x1 ≤ x2 → vp_in (((2 : Int32) * x2) + (1 : Int32)) 10) (h5 : ¬ x1 ≤ x2 → WP g mX5_draft 31 [(0, .ref (pw_ad g 29)), (1, .int x1), (2, .int (x2 + 1))] [] 0 (pw_set (pw_set (pw_set σ 41 (x2).toNatClampNeg (0 : Int32)) 42 (((2 : Int32) * x2)).toNatClampNeg x2) 42 ((((2 : Int32) * x2) + (1 : Int32))).toNatClampNeg x2) Q) : WP g mX5_draft 31 [(0, .ref (pw_ad g 29)), (1, .int x1), (2, .int x2)] [] 0 σ Q := by
  refine wp_iload_n (pc := 31) 2 dX5_draft_31 rfl rfl ?_
  refine wp_iload_n (pc := 32) 1 dX5_draft_32 rfl rfl ?_
  refine wp_icmp_ge (pc := 33) (tgt := 69) dX5_draft_33 (by decide) (fun c33 => ?_) (fun c33 => ?_)
  ·
    exact wp_return (pc := 69) dX5_draft_69 rfl (Nat.le_of_ble_eq_true rfl) (h1 c33)
  ·
    refine wp_aload_n (pc := 36) 0 dX5_draft_36 rfl rfl ?_
    refine wp_getR1 (pc := 37) 29 41 (o := 11) dX5_draft_37 rfl fk_X5_44 rfl rfl ?_
    refine wp_iload_n (pc := 40) 2 dX5_draft_40 rfl rfl ?_
    refine wp_iconst (pc := 41) (v := (0 : Int32)) dX5_draft_41 (by decide) ?_
    refine wp_bastore (pc := 42) 41 dX5_draft_42 rfl (h2 c33) ?_
    refine wp_aload_n (pc := 43) 0 dX5_draft_43 rfl rfl ?_
    refine wp_getR1 (pc := 44) 29 42 (o := 12) dX5_draft_44 rfl fk_X5_47 rfl rfl ?_
    refine wp_iconst (pc := 47) (v := (2 : Int32)) dX5_draft_47 (by decide) ?_
    refine wp_iload_n (pc := 48) 2 dX5_draft_48 rfl rfl ?_
    refine wp_imul (pc := 49) dX5_draft_49 ?_
    refine wp_iload_n (pc := 50) 2 dX5_draft_50 rfl rfl ?_
    refine wp_iastore (pc := 51) 42 dX5_draft_51 rfl (h3 c33) ?_
    refine wp_aload_n (pc := 52) 0 dX5_draft_52 rfl rfl ?_
    refine wp_getR1 (pc := 53) 29 42 (o := 12) dX5_draft_53 rfl fk_X5_47 rfl rfl ?_
    refine wp_iconst (pc := 56) (v := (2 : Int32)) dX5_draft_56 (by decide) ?_
    refine wp_iload_n (pc := 57) 2 dX5_draft_57 rfl rfl ?_
    refine wp_imul (pc := 58) dX5_draft_58 ?_
    refine wp_iconst (pc := 59) (v := (1 : Int32)) dX5_draft_59 (by decide) ?_
    refine wp_iadd (pc := 60) dX5_draft_60 ?_
    refine wp_iload_n (pc := 61) 2 dX5_draft_61 rfl rfl ?_
    refine wp_iastore (pc := 62) 42 dX5_draft_62 rfl (h4 c33) ?_
    refine wp_iinc (pc := 63) (v := (x2 + 1)) (lv' := [(0, .ref (pw_ad g 29)), (1, .int x1), (2, .int (x2 + 1))]) 2 dX5_draft_63 rfl rfl (by decide) rfl ?_
    refine wp_goto (pc := 66) (tgt := 31) dX5_draft_66 (by decide) ?_
    exact h5 c33
set_option maxRecDepth 20000 in
theorem bX5_isDrafted_0 {g : pw_G} {σ : pw_Mem} {Q : pw_R → Prop} {x1 : Int32} (h1 : x1 < 0 → Q (.inl (some (.int (0 : Int32))), σ)) (h2 : ¬ x1 < 0 → (σ 29 17) ≤ x1 → Q (.inl (some (.int (0 : Int32))), σ)) (h3 : ¬ x1 < 0 → ¬ (σ 29 17) ≤ x1 → Q (.inl (some (.int (1 : Int32))), σ)) : WP g mX5_isDrafted 0 [(0, .ref (pw_ad g 29)), (1, .int x1)] [] 0 σ Q := by
  refine wp_iload_n (pc := 0) 1 dX5_isDrafted_0 rfl rfl ?_
  refine wp_if_lt (pc := 1) (tgt := 16) dX5_isDrafted_1 (by decide) (fun c1 => ?_) (fun c1 => ?_)
  ·
    refine wp_iconst (pc := 16) (v := (0 : Int32)) dX5_isDrafted_16 (by decide) ?_
    exact wp_ireturn (pc := 17) dX5_isDrafted_17 rfl (by decide) (Nat.le_of_ble_eq_true rfl) (h1 c1)
  ·
    refine wp_iload_n (pc := 4) 1 dX5_isDrafted_4 rfl rfl ?_
    refine wp_aload_n (pc := 5) 0 dX5_isDrafted_5 rfl rfl ?_
    refine wp_getI (pc := 6) 29 dX5_isDrafted_6 rfl fk_X5_129 rfl ?_
    refine wp_icmp_ge (pc := 9) (tgt := 16) dX5_isDrafted_9 (by decide) (fun c9 => ?_) (fun c9 => ?_)
    ·
      refine wp_iconst (pc := 16) (v := (0 : Int32)) dX5_isDrafted_16 (by decide) ?_
      exact wp_ireturn (pc := 17) dX5_isDrafted_17 rfl (by decide) (Nat.le_of_ble_eq_true rfl) (h2 c1 c9)
    ·
      refine wp_iconst (pc := 12) (v := (1 : Int32)) dX5_isDrafted_12 (by decide) ?_
      refine wp_goto (pc := 13) (tgt := 17) dX5_isDrafted_13 (by decide) ?_
      exact wp_ireturn (pc := 17) dX5_isDrafted_17 rfl (by decide) (Nat.le_of_ble_eq_true rfl) (h3 c1 c9)
set_option maxRecDepth 20000 in
theorem bX5_define_0 {g : pw_G} {σ : pw_Mem} {Q : pw_R → Prop} {x1 x2 x3 x4 : Int32} (h1 : (σ 29 17) ≤ 0 → WP g mX5_when 0 [(0, .ref (pw_ad g 29)), (1, .int (0 : Int32)), (2, .int (1 : Int32))] [] 0 σ (pw_k g mX5_define 17 [(0, .ref (pw_ad g 29)), (1, .int x1), (2, .int x2), (3, .int x3), (4, .int x4)] [] 0 Q)) (h2 : ¬ (σ 29 17) ≤ 0 → WP g mX5_when 0 [(0, .ref (pw_ad g 29)), (1, .int (1 : Int32)), (2, .int (1 : Int32))] [] 0 σ (pw_k g mX5_define 17 [(0, .ref (pw_ad g 29)), (1, .int x1), (2, .int x2), (3, .int x3), (4, .int x4)] [] 0 Q)) : WP g mX5_define 0 [(0, .ref (pw_ad g 29)), (1, .int x1), (2, .int x2), (3, .int x3), (4, .int x4)] [] 0 σ Q := by
  refine wp_aload_n (pc := 0) 0 dX5_define_0 rfl rfl ?_
  refine wp_aload_n (pc := 1) 0 dX5_define_1 rfl rfl ?_
  refine wp_getI (pc := 2) 29 dX5_define_2 rfl fk_X5_129 rfl ?_
  refine wp_if_le (pc := 5) (tgt := 12) dX5_define_5 (by decide) (fun c5 => ?_) (fun c5 => ?_)
  ·
    refine wp_iconst (pc := 12) (v := (0 : Int32)) dX5_define_12 (by decide) ?_
    refine wp_iconst (pc := 13) (v := (1 : Int32)) dX5_define_13 (by decide) ?_
    refine wp_callV (pc := 14) (M' := mX5_when) 29 [.int (0 : Int32), .int (1 : Int32)] [] dX5_define_14 ck_X5_78 rfl rfl ⟨Nat.le_of_ble_eq_true rfl, Nat.le_of_ble_eq_true rfl⟩ rfl (Nat.le_of_ble_eq_true rfl) (Nat.le_of_ble_eq_true rfl) (Nat.le_of_ble_eq_true rfl) rfl ?_
    exact h1 c5
  ·
    refine wp_iconst (pc := 8) (v := (1 : Int32)) dX5_define_8 (by decide) ?_
    refine wp_goto (pc := 9) (tgt := 13) dX5_define_9 (by decide) ?_
    refine wp_iconst (pc := 13) (v := (1 : Int32)) dX5_define_13 (by decide) ?_
    refine wp_callV (pc := 14) (M' := mX5_when) 29 [.int (1 : Int32), .int (1 : Int32)] [] dX5_define_14 ck_X5_78 rfl rfl ⟨Nat.le_of_ble_eq_true rfl, Nat.le_of_ble_eq_true rfl⟩ rfl (Nat.le_of_ble_eq_true rfl) (Nat.le_of_ble_eq_true rfl) (Nat.le_of_ble_eq_true rfl) rfl ?_
    exact h2 c5
set_option maxRecDepth 20000 in
theorem bX5_define_17 {g : pw_G} {σ : pw_Mem} {Q : pw_R → Prop} {s9 x1 x2 x3 x4 : Int32} (h1 : s9 = 0 → Q (.inl none, σ)) (h2 : ¬ s9 = 0 → WP g mX5_isDrafted 0 [(0, .ref (pw_ad g 29)), (1, .int x1)] [] 0 σ (pw_k g mX5_define 26 [(0, .ref (pw_ad g 29)), (1, .int x1), (2, .int x2), (3, .int x3), (4, .int x4)] [.ref (pw_ad g 29)] 0 Q)) : WP g mX5_define 17 [(0, .ref (pw_ad g 29)), (1, .int x1), (2, .int x2), (3, .int x3), (4, .int x4)] [.int s9] 0 σ Q := by
  refine wp_if_eq (pc := 17) (tgt := 58) dX5_define_17 (by decide) (fun c17 => ?_) (fun c17 => ?_)
  ·
    exact wp_return (pc := 58) dX5_define_58 rfl (Nat.le_of_ble_eq_true rfl) (h1 c17)
  ·
    refine wp_aload_n (pc := 20) 0 dX5_define_20 rfl rfl ?_
    refine wp_aload_n (pc := 21) 0 dX5_define_21 rfl rfl ?_
    refine wp_iload_n (pc := 22) 1 dX5_define_22 rfl rfl ?_
    refine wp_callV (pc := 23) (M' := mX5_isDrafted) 29 [.int x1] [.ref (pw_ad g 29)] dX5_define_23 ck_X5_132 rfl rfl ⟨Nat.le_of_ble_eq_true rfl, Nat.le_of_ble_eq_true rfl⟩ rfl (Nat.le_of_ble_eq_true rfl) (Nat.le_of_ble_eq_true rfl) (Nat.le_of_ble_eq_true rfl) rfl ?_
    exact h2 c17
set_option maxRecDepth 20000 in
theorem bX5_define_26 {g : pw_G} {σ : pw_Mem} {Q : pw_R → Prop} {s9 x1 x2 x3 x4 : Int32} (h1 : s9 = 0 → WP g mX5_when 0 [(0, .ref (pw_ad g 29)), (1, .int (0 : Int32)), (2, .int (2 : Int32))] [] 0 σ (pw_k g mX5_define 55 [(0, .ref (pw_ad g 29)), (1, .int x1), (2, .int x2), (3, .int x3), (4, .int x4)] [] 0 Q)) (h2 : ¬ s9 = 0 → WP g mX5_isDrafted 0 [(0, .ref (pw_ad g 29)), (1, .int x3)] [] 0 σ (pw_k g mX5_define 34 [(0, .ref (pw_ad g 29)), (1, .int x1), (2, .int x2), (3, .int x3), (4, .int x4)] [.ref (pw_ad g 29)] 0 Q)) : WP g mX5_define 26 [(0, .ref (pw_ad g 29)), (1, .int x1), (2, .int x2), (3, .int x3), (4, .int x4)] [.int s9, .ref (pw_ad g 29)] 0 σ Q := by
  refine wp_if_eq (pc := 26) (tgt := 50) dX5_define_26 (by decide) (fun c26 => ?_) (fun c26 => ?_)
  ·
    refine wp_iconst (pc := 50) (v := (0 : Int32)) dX5_define_50 (by decide) ?_
    refine wp_iconst (pc := 51) (v := (2 : Int32)) dX5_define_51 (by decide) ?_
    refine wp_callV (pc := 52) (M' := mX5_when) 29 [.int (0 : Int32), .int (2 : Int32)] [] dX5_define_52 ck_X5_78 rfl rfl ⟨Nat.le_of_ble_eq_true rfl, Nat.le_of_ble_eq_true rfl⟩ rfl (Nat.le_of_ble_eq_true rfl) (Nat.le_of_ble_eq_true rfl) (Nat.le_of_ble_eq_true rfl) rfl ?_
    exact h1 c26
  ·
    refine wp_aload_n (pc := 29) 0 dX5_define_29 rfl rfl ?_
    refine wp_iload_n (pc := 30) 3 dX5_define_30 rfl rfl ?_
    refine wp_callV (pc := 31) (M' := mX5_isDrafted) 29 [.int x3] [.ref (pw_ad g 29)] dX5_define_31 ck_X5_132 rfl rfl ⟨Nat.le_of_ble_eq_true rfl, Nat.le_of_ble_eq_true rfl⟩ rfl (Nat.le_of_ble_eq_true rfl) (Nat.le_of_ble_eq_true rfl) (Nat.le_of_ble_eq_true rfl) rfl ?_
    exact h2 c26
set_option maxRecDepth 20000 in
theorem bX5_define_55 {g : pw_G} {σ : pw_Mem} {Q : pw_R → Prop} {s9 x1 x2 x3 x4 : Int32} (h1 : ¬ s9 = 0 → vp_in x1 5) (h2 : ¬ s9 = 0 → vp_in ((2 : Int32) * x1) 10) (h3 : ¬ s9 = 0 → vp_in (((2 : Int32) * x1) + (1 : Int32)) 10) (h4 : ¬ s9 = 0 → Q (.inl none, (pw_set (pw_set (pw_set σ 41 (x1).toNatClampNeg (vp_nar .boolean x2)) 42 (((2 : Int32) * x1)).toNatClampNeg x3) 42 ((((2 : Int32) * x1) + (1 : Int32))).toNatClampNeg x4))) (h5 : s9 = 0 → Q (.inl none, σ)) : WP g mX5_define 55 [(0, .ref (pw_ad g 29)), (1, .int x1), (2, .int x2), (3, .int x3), (4, .int x4)] [.int s9] 0 σ Q := by
  refine wp_if_ne (pc := 55) (tgt := 59) dX5_define_55 (by decide) (fun c55 => ?_) (fun c55 => ?_)
  ·
    refine wp_aload_n (pc := 59) 0 dX5_define_59 rfl rfl ?_
    refine wp_getR1 (pc := 60) 29 41 (o := 11) dX5_define_60 rfl fk_X5_44 rfl rfl ?_
    refine wp_iload_n (pc := 63) 1 dX5_define_63 rfl rfl ?_
    refine wp_iload_n (pc := 64) 2 dX5_define_64 rfl rfl ?_
    refine wp_bastore (pc := 65) 41 dX5_define_65 rfl (h1 c55) ?_
    refine wp_aload_n (pc := 66) 0 dX5_define_66 rfl rfl ?_
    refine wp_getR1 (pc := 67) 29 42 (o := 12) dX5_define_67 rfl fk_X5_47 rfl rfl ?_
    refine wp_iconst (pc := 70) (v := (2 : Int32)) dX5_define_70 (by decide) ?_
    refine wp_iload_n (pc := 71) 1 dX5_define_71 rfl rfl ?_
    refine wp_imul (pc := 72) dX5_define_72 ?_
    refine wp_iload_n (pc := 73) 3 dX5_define_73 rfl rfl ?_
    refine wp_iastore (pc := 74) 42 dX5_define_74 rfl (h2 c55) ?_
    refine wp_aload_n (pc := 75) 0 dX5_define_75 rfl rfl ?_
    refine wp_getR1 (pc := 76) 29 42 (o := 12) dX5_define_76 rfl fk_X5_47 rfl rfl ?_
    refine wp_iconst (pc := 79) (v := (2 : Int32)) dX5_define_79 (by decide) ?_
    refine wp_iload_n (pc := 80) 1 dX5_define_80 rfl rfl ?_
    refine wp_imul (pc := 81) dX5_define_81 ?_
    refine wp_iconst (pc := 82) (v := (1 : Int32)) dX5_define_82 (by decide) ?_
    refine wp_iadd (pc := 83) dX5_define_83 ?_
    refine wp_iload (pc := 84) 4 dX5_define_84 rfl ?_
    refine wp_iastore (pc := 86) 42 dX5_define_86 rfl (h3 c55) ?_
    exact wp_return (pc := 87) dX5_define_87 rfl (Nat.le_of_ble_eq_true rfl) (h4 c55)
  ·
    exact wp_return (pc := 58) dX5_define_58 rfl (Nat.le_of_ble_eq_true rfl) (h5 c55)
set_option maxRecDepth 20000 in
theorem bX5_define_34 {g : pw_G} {σ : pw_Mem} {Q : pw_R → Prop} {s9 x1 x2 x3 x4 : Int32} (h1 : s9 = 0 → WP g mX5_when 0 [(0, .ref (pw_ad g 29)), (1, .int (0 : Int32)), (2, .int (2 : Int32))] [] 0 σ (pw_k g mX5_define 55 [(0, .ref (pw_ad g 29)), (1, .int x1), (2, .int x2), (3, .int x3), (4, .int x4)] [] 0 Q)) (h2 : ¬ s9 = 0 → WP g mX5_isDrafted 0 [(0, .ref (pw_ad g 29)), (1, .int x4)] [] 0 σ (pw_k g mX5_define 43 [(0, .ref (pw_ad g 29)), (1, .int x1), (2, .int x2), (3, .int x3), (4, .int x4)] [.ref (pw_ad g 29)] 0 Q)) : WP g mX5_define 34 [(0, .ref (pw_ad g 29)), (1, .int x1), (2, .int x2), (3, .int x3), (4, .int x4)] [.int s9, .ref (pw_ad g 29)] 0 σ Q := by
  refine wp_if_eq (pc := 34) (tgt := 50) dX5_define_34 (by decide) (fun c34 => ?_) (fun c34 => ?_)
  ·
    refine wp_iconst (pc := 50) (v := (0 : Int32)) dX5_define_50 (by decide) ?_
    refine wp_iconst (pc := 51) (v := (2 : Int32)) dX5_define_51 (by decide) ?_
    refine wp_callV (pc := 52) (M' := mX5_when) 29 [.int (0 : Int32), .int (2 : Int32)] [] dX5_define_52 ck_X5_78 rfl rfl ⟨Nat.le_of_ble_eq_true rfl, Nat.le_of_ble_eq_true rfl⟩ rfl (Nat.le_of_ble_eq_true rfl) (Nat.le_of_ble_eq_true rfl) (Nat.le_of_ble_eq_true rfl) rfl ?_
    exact h1 c34
  ·
    refine wp_aload_n (pc := 37) 0 dX5_define_37 rfl rfl ?_
    refine wp_iload (pc := 38) 4 dX5_define_38 rfl ?_
    refine wp_callV (pc := 40) (M' := mX5_isDrafted) 29 [.int x4] [.ref (pw_ad g 29)] dX5_define_40 ck_X5_132 rfl rfl ⟨Nat.le_of_ble_eq_true rfl, Nat.le_of_ble_eq_true rfl⟩ rfl (Nat.le_of_ble_eq_true rfl) (Nat.le_of_ble_eq_true rfl) (Nat.le_of_ble_eq_true rfl) rfl ?_
    exact h2 c34
set_option maxRecDepth 20000 in
theorem bX5_define_43 {g : pw_G} {σ : pw_Mem} {Q : pw_R → Prop} {s9 x1 x2 x3 x4 : Int32} (h1 : s9 = 0 → WP g mX5_when 0 [(0, .ref (pw_ad g 29)), (1, .int (0 : Int32)), (2, .int (2 : Int32))] [] 0 σ (pw_k g mX5_define 55 [(0, .ref (pw_ad g 29)), (1, .int x1), (2, .int x2), (3, .int x3), (4, .int x4)] [] 0 Q)) (h2 : ¬ s9 = 0 → WP g mX5_when 0 [(0, .ref (pw_ad g 29)), (1, .int (1 : Int32)), (2, .int (2 : Int32))] [] 0 σ (pw_k g mX5_define 55 [(0, .ref (pw_ad g 29)), (1, .int x1), (2, .int x2), (3, .int x3), (4, .int x4)] [] 0 Q)) : WP g mX5_define 43 [(0, .ref (pw_ad g 29)), (1, .int x1), (2, .int x2), (3, .int x3), (4, .int x4)] [.int s9, .ref (pw_ad g 29)] 0 σ Q := by
  refine wp_if_eq (pc := 43) (tgt := 50) dX5_define_43 (by decide) (fun c43 => ?_) (fun c43 => ?_)
  ·
    refine wp_iconst (pc := 50) (v := (0 : Int32)) dX5_define_50 (by decide) ?_
    refine wp_iconst (pc := 51) (v := (2 : Int32)) dX5_define_51 (by decide) ?_
    refine wp_callV (pc := 52) (M' := mX5_when) 29 [.int (0 : Int32), .int (2 : Int32)] [] dX5_define_52 ck_X5_78 rfl rfl ⟨Nat.le_of_ble_eq_true rfl, Nat.le_of_ble_eq_true rfl⟩ rfl (Nat.le_of_ble_eq_true rfl) (Nat.le_of_ble_eq_true rfl) (Nat.le_of_ble_eq_true rfl) rfl ?_
    exact h1 c43
  ·
    refine wp_iconst (pc := 46) (v := (1 : Int32)) dX5_define_46 (by decide) ?_
    refine wp_goto (pc := 47) (tgt := 51) dX5_define_47 (by decide) ?_
    refine wp_iconst (pc := 51) (v := (2 : Int32)) dX5_define_51 (by decide) ?_
    refine wp_callV (pc := 52) (M' := mX5_when) 29 [.int (1 : Int32), .int (2 : Int32)] [] dX5_define_52 ck_X5_78 rfl rfl ⟨Nat.le_of_ble_eq_true rfl, Nat.le_of_ble_eq_true rfl⟩ rfl (Nat.le_of_ble_eq_true rfl) (Nat.le_of_ble_eq_true rfl) (Nat.le_of_ble_eq_true rfl) rfl ?_
    exact h2 c43
set_option maxRecDepth 20000 in
theorem bX5_lead_0 {g : pw_G} {σ : pw_Mem} {Q : pw_R → Prop} {x1 x2 : Int32} (h1 : WP g mX5_lengthOf 0 [(0, .int x2)] [] 0 σ (pw_k g mX5_lead 6 [(0, .ref (pw_ad g 29)), (1, .int x1), (2, .int x2), (3, .int x1)] [] 0 Q)) : WP g mX5_lead 0 [(0, .ref (pw_ad g 29)), (1, .int x1), (2, .int x2)] [] 0 σ Q := by
  refine wp_iload_n (pc := 0) 1 dX5_lead_0 rfl rfl ?_
  refine wp_istore_n (pc := 1) (lv' := [(0, .ref (pw_ad g 29)), (1, .int x1), (2, .int x2), (3, .int x1)]) dX5_lead_1 rfl (by decide) rfl ?_
  refine wp_iload_n (pc := 2) 2 dX5_lead_2 rfl rfl ?_
  refine wp_callS (pc := 3) (M' := mX5_lengthOf) [.int x2] [] dX5_lead_3 ck_X5_63 ⟨Nat.le_of_ble_eq_true rfl, Nat.le_of_ble_eq_true rfl⟩ rfl (Nat.le_of_ble_eq_true rfl) (Nat.le_of_ble_eq_true rfl) (Nat.le_of_ble_eq_true rfl) rfl ?_
  exact h1
set_option maxRecDepth 20000 in
theorem bX5_lead_6 {g : pw_G} {σ : pw_Mem} {Q : pw_R → Prop} {s9 x1 x2 x3 : Int32} (h1 : WP g mX5_lettersOf 0 [(0, .int x2)] [] 0 σ (pw_k g mX5_lead 12 [(0, .ref (pw_ad g 29)), (1, .int x1), (2, .int x2), (3, .int x3), (4, .int s9)] [] 0 Q)) : WP g mX5_lead 6 [(0, .ref (pw_ad g 29)), (1, .int x1), (2, .int x2), (3, .int x3)] [.int s9] 0 σ Q := by
  refine wp_istore (pc := 6) (lv' := [(0, .ref (pw_ad g 29)), (1, .int x1), (2, .int x2), (3, .int x3), (4, .int s9)]) dX5_lead_6 (by decide) rfl ?_
  refine wp_iload_n (pc := 8) 2 dX5_lead_8 rfl rfl ?_
  refine wp_callS (pc := 9) (M' := mX5_lettersOf) [.int x2] [] dX5_lead_9 ck_X5_67 ⟨Nat.le_of_ble_eq_true rfl, Nat.le_of_ble_eq_true rfl⟩ rfl (Nat.le_of_ble_eq_true rfl) (Nat.le_of_ble_eq_true rfl) (Nat.le_of_ble_eq_true rfl) rfl ?_
  exact h1
set_option maxRecDepth 20000 in
theorem bX5_lead_12 {g : pw_G} {σ : pw_Mem} {Q : pw_R → Prop} {s9 x1 x2 x3 x4 : Int32} (h1 : WP g mX5_lead 20 [(0, .ref (pw_ad g 29)), (1, .int x1), (2, .int x2), (3, .int x3), (4, .int x4), (5, .int s9), (6, .int (x4 - (1 : Int32)))] [] 0 σ Q) : WP g mX5_lead 12 [(0, .ref (pw_ad g 29)), (1, .int x1), (2, .int x2), (3, .int x3), (4, .int x4)] [.int s9] 0 σ Q := by
  refine wp_istore (pc := 12) (lv' := [(0, .ref (pw_ad g 29)), (1, .int x1), (2, .int x2), (3, .int x3), (4, .int x4), (5, .int s9)]) dX5_lead_12 (by decide) rfl ?_
  refine wp_iload (pc := 14) 4 dX5_lead_14 rfl ?_
  refine wp_iconst (pc := 16) (v := (1 : Int32)) dX5_lead_16 (by decide) ?_
  refine wp_isub (pc := 17) dX5_lead_17 ?_
  refine wp_istore (pc := 18) (lv' := [(0, .ref (pw_ad g 29)), (1, .int x1), (2, .int x2), (3, .int x3), (4, .int x4), (5, .int s9), (6, .int (x4 - (1 : Int32)))]) dX5_lead_18 (by decide) rfl ?_
  exact h1
set_option maxRecDepth 20000 in
theorem bX5_lead_20 {g : pw_G} {σ : pw_Mem} {Q : pw_R → Prop} {x1 x2 x3 x4 x5 x6 : Int32} (h1 : x6 < 0 → Q (.inl (some (.int x3)), σ)) (h2 : ¬ x6 < 0 → vp_in (((2 : Int32) * x3) + ((x5 >>> (x6 &&& 31)) &&& (1 : Int32))) 10) (h3 : ¬ x6 < 0 → WP g mX5_lead 20 [(0, .ref (pw_ad g 29)), (1, .int x1), (2, .int x2), (3, .int (σ 42 ((((2 : Int32) * x3) + ((x5 >>> (x6 &&& 31)) &&& (1 : Int32)))).toNatClampNeg)), (4, .int x4), (5, .int x5), (6, .int (x6 + (-1)))] [] 0 σ Q) : WP g mX5_lead 20 [(0, .ref (pw_ad g 29)), (1, .int x1), (2, .int x2), (3, .int x3), (4, .int x4), (5, .int x5), (6, .int x6)] [] 0 σ Q := by
  refine wp_iload (pc := 20) 6 dX5_lead_20 rfl ?_
  refine wp_if_lt (pc := 22) (tgt := 48) dX5_lead_22 (by decide) (fun c22 => ?_) (fun c22 => ?_)
  ·
    refine wp_iload_n (pc := 48) 3 dX5_lead_48 rfl rfl ?_
    exact wp_ireturn (pc := 49) dX5_lead_49 rfl rfl (Nat.le_of_ble_eq_true rfl) (h1 c22)
  ·
    refine wp_aload_n (pc := 25) 0 dX5_lead_25 rfl rfl ?_
    refine wp_getR1 (pc := 26) 29 42 (o := 12) dX5_lead_26 rfl fk_X5_47 rfl rfl ?_
    refine wp_iconst (pc := 29) (v := (2 : Int32)) dX5_lead_29 (by decide) ?_
    refine wp_iload_n (pc := 30) 3 dX5_lead_30 rfl rfl ?_
    refine wp_imul (pc := 31) dX5_lead_31 ?_
    refine wp_iload (pc := 32) 5 dX5_lead_32 rfl ?_
    refine wp_iload (pc := 34) 6 dX5_lead_34 rfl ?_
    refine wp_ishr (pc := 36) dX5_lead_36 ?_
    refine wp_iconst (pc := 37) (v := (1 : Int32)) dX5_lead_37 (by decide) ?_
    refine wp_iand (pc := 38) dX5_lead_38 ?_
    refine wp_iadd (pc := 39) dX5_lead_39 ?_
    refine wp_iaload (pc := 40) 42 dX5_lead_40 rfl (h2 c22) ?_
    refine wp_istore_n (pc := 41) (lv' := [(0, .ref (pw_ad g 29)), (1, .int x1), (2, .int x2), (3, .int (σ 42 ((((2 : Int32) * x3) + ((x5 >>> (x6 &&& 31)) &&& (1 : Int32)))).toNatClampNeg)), (4, .int x4), (5, .int x5), (6, .int x6)]) dX5_lead_41 rfl (by decide) rfl ?_
    refine wp_iinc (pc := 42) (v := (x6 + (-1))) (lv' := [(0, .ref (pw_ad g 29)), (1, .int x1), (2, .int x2), (3, .int (σ 42 ((((2 : Int32) * x3) + ((x5 >>> (x6 &&& 31)) &&& (1 : Int32)))).toNatClampNeg)), (4, .int x4), (5, .int x5), (6, .int (x6 + (-1)))]) 6 dX5_lead_42 rfl rfl (by decide) rfl ?_
    refine wp_goto (pc := 45) (tgt := 20) dX5_lead_45 (by decide) ?_
    exact h3 c22
set_option maxRecDepth 20000 in
theorem bX5_setsApart_0 {g : pw_G} {σ : pw_Mem} {Q : pw_R → Prop} {x1 x2 : Int32} (h1 : WP g mX5_setsApart 2 [(0, .ref (pw_ad g 29)), (1, .int x1), (2, .int x2), (3, .int (0 : Int32))] [] 0 σ Q) : WP g mX5_setsApart 0 [(0, .ref (pw_ad g 29)), (1, .int x1), (2, .int x2)] [] 0 σ Q := by
  refine wp_iconst (pc := 0) (v := (0 : Int32)) dX5_setsApart_0 (by decide) ?_
  refine wp_istore_n (pc := 1) (lv' := [(0, .ref (pw_ad g 29)), (1, .int x1), (2, .int x2), (3, .int (0 : Int32))]) dX5_setsApart_1 rfl (by decide) rfl ?_
  exact h1
set_option maxRecDepth 20000 in
theorem bX5_setsApart_2 {g : pw_G} {σ : pw_Mem} {Q : pw_R → Prop} {x1 x2 x3 : Int32} (h1 : (15 : Int32) ≤ x3 → Q (.inl (some (.int (-1 : Int32))), σ)) (h2 : ¬ (15 : Int32) ≤ x3 → WP g mX5_lead 0 [(0, .ref (pw_ad g 29)), (1, .int x1), (2, .int x3)] [] 0 σ (pw_k g mX5_setsApart 18 [(0, .ref (pw_ad g 29)), (1, .int x1), (2, .int x2), (3, .int x3)] [.ref (pw_ad g 41)] 0 Q)) : WP g mX5_setsApart 2 [(0, .ref (pw_ad g 29)), (1, .int x1), (2, .int x2), (3, .int x3)] [] 0 σ Q := by
  refine wp_iload_n (pc := 2) 3 dX5_setsApart_2 rfl rfl ?_
  refine wp_bipush (pc := 3) (v := (15 : Int32)) dX5_setsApart_3 (by decide) ?_
  refine wp_icmp_ge (pc := 5) (tgt := 41) dX5_setsApart_5 (by decide) (fun c5 => ?_) (fun c5 => ?_)
  ·
    refine wp_iconst (pc := 41) (v := (-1 : Int32)) dX5_setsApart_41 (by decide) ?_
    exact wp_ireturn (pc := 42) dX5_setsApart_42 rfl rfl (Nat.le_of_ble_eq_true rfl) (h1 c5)
  ·
    refine wp_aload_n (pc := 8) 0 dX5_setsApart_8 rfl rfl ?_
    refine wp_getR1 (pc := 9) 29 41 (o := 11) dX5_setsApart_9 rfl fk_X5_44 rfl rfl ?_
    refine wp_aload_n (pc := 12) 0 dX5_setsApart_12 rfl rfl ?_
    refine wp_iload_n (pc := 13) 1 dX5_setsApart_13 rfl rfl ?_
    refine wp_iload_n (pc := 14) 3 dX5_setsApart_14 rfl rfl ?_
    refine wp_callV (pc := 15) (M' := mX5_lead) 29 [.int x1, .int x3] [.ref (pw_ad g 41)] dX5_setsApart_15 ck_X5_135 rfl rfl ⟨Nat.le_of_ble_eq_true rfl, Nat.le_of_ble_eq_true rfl⟩ rfl (Nat.le_of_ble_eq_true rfl) (Nat.le_of_ble_eq_true rfl) (Nat.le_of_ble_eq_true rfl) rfl ?_
    exact h2 c5
set_option maxRecDepth 20000 in
theorem bX5_setsApart_18 {g : pw_G} {σ : pw_Mem} {Q : pw_R → Prop} {s9 x1 x2 x3 : Int32} (h1 : vp_in s9 5) (h2 : WP g mX5_lead 0 [(0, .ref (pw_ad g 29)), (1, .int x2), (2, .int x3)] [] 0 σ (pw_k g mX5_setsApart 29 [(0, .ref (pw_ad g 29)), (1, .int x1), (2, .int x2), (3, .int x3)] [.ref (pw_ad g 41), .int (σ 41 (s9).toNatClampNeg)] 0 Q)) : WP g mX5_setsApart 18 [(0, .ref (pw_ad g 29)), (1, .int x1), (2, .int x2), (3, .int x3)] [.int s9, .ref (pw_ad g 41)] 0 σ Q := by
  refine wp_baload (pc := 18) 41 dX5_setsApart_18 rfl (h1) ?_
  refine wp_aload_n (pc := 19) 0 dX5_setsApart_19 rfl rfl ?_
  refine wp_getR1 (pc := 20) 29 41 (o := 11) dX5_setsApart_20 rfl fk_X5_44 rfl rfl ?_
  refine wp_aload_n (pc := 23) 0 dX5_setsApart_23 rfl rfl ?_
  refine wp_iload_n (pc := 24) 2 dX5_setsApart_24 rfl rfl ?_
  refine wp_iload_n (pc := 25) 3 dX5_setsApart_25 rfl rfl ?_
  refine wp_callV (pc := 26) (M' := mX5_lead) 29 [.int x2, .int x3] [.ref (pw_ad g 41), .int (σ 41 (s9).toNatClampNeg)] dX5_setsApart_26 ck_X5_135 rfl rfl ⟨Nat.le_of_ble_eq_true rfl, Nat.le_of_ble_eq_true rfl⟩ rfl (Nat.le_of_ble_eq_true rfl) (Nat.le_of_ble_eq_true rfl) (Nat.le_of_ble_eq_true rfl) rfl ?_
  exact h2
set_option maxRecDepth 20000 in
theorem bX5_setsApart_29 {g : pw_G} {σ : pw_Mem} {Q : pw_R → Prop} {s1 s9 x1 x2 x3 : Int32} (h1 : vp_in s9 5) (h2 : s1 = (σ 41 (s9).toNatClampNeg) → WP g mX5_setsApart 2 [(0, .ref (pw_ad g 29)), (1, .int x1), (2, .int x2), (3, .int (x3 + 1))] [] 0 σ Q) (h3 : ¬ s1 = (σ 41 (s9).toNatClampNeg) → Q (.inl (some (.int x3)), σ)) : WP g mX5_setsApart 29 [(0, .ref (pw_ad g 29)), (1, .int x1), (2, .int x2), (3, .int x3)] [.int s9, .ref (pw_ad g 41), .int s1] 0 σ Q := by
  refine wp_baload (pc := 29) 41 dX5_setsApart_29 rfl (h1) ?_
  refine wp_icmp_eq (pc := 30) (tgt := 35) dX5_setsApart_30 (by decide) (fun c30 => ?_) (fun c30 => ?_)
  ·
    refine wp_iinc (pc := 35) (v := (x3 + 1)) (lv' := [(0, .ref (pw_ad g 29)), (1, .int x1), (2, .int x2), (3, .int (x3 + 1))]) 3 dX5_setsApart_35 rfl rfl (by decide) rfl ?_
    refine wp_goto (pc := 38) (tgt := 2) dX5_setsApart_38 (by decide) ?_
    exact h2 c30
  ·
    refine wp_iload_n (pc := 33) 3 dX5_setsApart_33 rfl rfl ?_
    exact wp_ireturn (pc := 34) dX5_setsApart_34 rfl rfl (Nat.le_of_ble_eq_true rfl) (h3 c30)
set_option maxRecDepth 20000 in
theorem bX5_classOf_0 {g : pw_G} {σ : pw_Mem} {Q : pw_R → Prop} {x1 : Int32} (h1 : WP g mX5_classOf 4 [(0, .ref (pw_ad g 29)), (1, .int x1), (2, .int (-1 : Int32)), (3, .int (0 : Int32))] [] 0 σ Q) : WP g mX5_classOf 0 [(0, .ref (pw_ad g 29)), (1, .int x1)] [] 0 σ Q := by
  refine wp_iconst (pc := 0) (v := (-1 : Int32)) dX5_classOf_0 (by decide) ?_
  refine wp_istore_n (pc := 1) (lv' := [(0, .ref (pw_ad g 29)), (1, .int x1), (2, .int (-1 : Int32))]) dX5_classOf_1 rfl (by decide) rfl ?_
  refine wp_iconst (pc := 2) (v := (0 : Int32)) dX5_classOf_2 (by decide) ?_
  refine wp_istore_n (pc := 3) (lv' := [(0, .ref (pw_ad g 29)), (1, .int x1), (2, .int (-1 : Int32)), (3, .int (0 : Int32))]) dX5_classOf_3 rfl (by decide) rfl ?_
  exact h1
set_option maxRecDepth 20000 in
theorem bX5_classOf_4 {g : pw_G} {σ : pw_Mem} {Q : pw_R → Prop} {x1 x2 x3 : Int32} (h1 : (σ 29 20) ≤ x3 → Q (.inl (some (.int x2)), σ)) (h2 : ¬ (σ 29 20) ≤ x3 → vp_in x3 5) (h3 : ¬ (σ 29 20) ≤ x3 → WP g mX5_setsApart 0 [(0, .ref (pw_ad g 29)), (1, .int (σ 43 (x3).toNatClampNeg)), (2, .int x1)] [] 0 σ (pw_k g mX5_classOf 23 [(0, .ref (pw_ad g 29)), (1, .int x1), (2, .int x2), (3, .int x3)] [] 0 Q)) : WP g mX5_classOf 4 [(0, .ref (pw_ad g 29)), (1, .int x1), (2, .int x2), (3, .int x3)] [] 0 σ Q := by
  refine wp_iload_n (pc := 4) 3 dX5_classOf_4 rfl rfl ?_
  refine wp_aload_n (pc := 5) 0 dX5_classOf_5 rfl rfl ?_
  refine wp_getI (pc := 6) 29 dX5_classOf_6 rfl fk_X5_138 rfl ?_
  refine wp_icmp_ge (pc := 9) (tgt := 38) dX5_classOf_9 (by decide) (fun c9 => ?_) (fun c9 => ?_)
  ·
    refine wp_iload_n (pc := 38) 2 dX5_classOf_38 rfl rfl ?_
    exact wp_ireturn (pc := 39) dX5_classOf_39 rfl rfl (Nat.le_of_ble_eq_true rfl) (h1 c9)
  ·
    refine wp_aload_n (pc := 12) 0 dX5_classOf_12 rfl rfl ?_
    refine wp_aload_n (pc := 13) 0 dX5_classOf_13 rfl rfl ?_
    refine wp_getR1 (pc := 14) 29 43 (o := 13) dX5_classOf_14 rfl fk_X5_50 rfl rfl ?_
    refine wp_iload_n (pc := 17) 3 dX5_classOf_17 rfl rfl ?_
    refine wp_iaload (pc := 18) 43 dX5_classOf_18 rfl (h2 c9) ?_
    refine wp_iload_n (pc := 19) 1 dX5_classOf_19 rfl rfl ?_
    refine wp_callV (pc := 20) (M' := mX5_setsApart) 29 [.int (σ 43 (x3).toNatClampNeg), .int x1] [] dX5_classOf_20 ck_X5_141 rfl rfl ⟨Nat.le_of_ble_eq_true rfl, Nat.le_of_ble_eq_true rfl⟩ rfl (Nat.le_of_ble_eq_true rfl) (Nat.le_of_ble_eq_true rfl) (Nat.le_of_ble_eq_true rfl) rfl ?_
    exact h3 c9
set_option maxRecDepth 20000 in
theorem bX5_classOf_23 {g : pw_G} {σ : pw_Mem} {Q : pw_R → Prop} {s9 x1 x2 x3 : Int32} (h1 : 0 ≤ s9 → WP g mX5_classOf 4 [(0, .ref (pw_ad g 29)), (1, .int x1), (2, .int x2), (3, .int (x3 + 1))] [] 0 σ Q) (h2 : ¬ 0 ≤ s9 → WP g mX5_classOf 4 [(0, .ref (pw_ad g 29)), (1, .int x1), (2, .int x3), (3, .int (x3 + 1))] [] 0 σ Q) : WP g mX5_classOf 23 [(0, .ref (pw_ad g 29)), (1, .int x1), (2, .int x2), (3, .int x3)] [.int s9] 0 σ Q := by
  refine wp_if_ge (pc := 23) (tgt := 30) dX5_classOf_23 (by decide) (fun c23 => ?_) (fun c23 => ?_)
  ·
    refine wp_iload_n (pc := 30) 2 dX5_classOf_30 rfl rfl ?_
    refine wp_istore_n (pc := 31) (lv' := [(0, .ref (pw_ad g 29)), (1, .int x1), (2, .int x2), (3, .int x3)]) dX5_classOf_31 rfl (by decide) rfl ?_
    refine wp_iinc (pc := 32) (v := (x3 + 1)) (lv' := [(0, .ref (pw_ad g 29)), (1, .int x1), (2, .int x2), (3, .int (x3 + 1))]) 3 dX5_classOf_32 rfl rfl (by decide) rfl ?_
    refine wp_goto (pc := 35) (tgt := 4) dX5_classOf_35 (by decide) ?_
    exact h1 c23
  ·
    refine wp_iload_n (pc := 26) 3 dX5_classOf_26 rfl rfl ?_
    refine wp_goto (pc := 27) (tgt := 31) dX5_classOf_27 (by decide) ?_
    refine wp_istore_n (pc := 31) (lv' := [(0, .ref (pw_ad g 29)), (1, .int x1), (2, .int x3), (3, .int x3)]) dX5_classOf_31 rfl (by decide) rfl ?_
    refine wp_iinc (pc := 32) (v := (x3 + 1)) (lv' := [(0, .ref (pw_ad g 29)), (1, .int x1), (2, .int x3), (3, .int (x3 + 1))]) 3 dX5_classOf_32 rfl rfl (by decide) rfl ?_
    refine wp_goto (pc := 35) (tgt := 4) dX5_classOf_35 (by decide) ?_
    exact h2 c23
set_option maxRecDepth 20000 in
theorem bX5_reduce_0 {g : pw_G} {σ : pw_Mem} {Q : pw_R → Prop} (h1 : WP g mX5_reduce 7 [(0, .ref (pw_ad g 29)), (1, .int (0 : Int32))] [] 0 (pw_set σ 29 20 (0 : Int32)) Q) : WP g mX5_reduce 0 [(0, .ref (pw_ad g 29))] [] 0 σ Q := by
  refine wp_aload_n (pc := 0) 0 dX5_reduce_0 rfl rfl ?_
  refine wp_iconst (pc := 1) (v := (0 : Int32)) dX5_reduce_1 (by decide) ?_
  refine wp_putI (pc := 2) 29 dX5_reduce_2 rfl pk_X5_138 rfl ?_
  refine wp_iconst (pc := 5) (v := (0 : Int32)) dX5_reduce_5 (by decide) ?_
  refine wp_istore_n (pc := 6) (lv' := [(0, .ref (pw_ad g 29)), (1, .int (0 : Int32))]) dX5_reduce_6 rfl (by decide) rfl ?_
  exact h1
set_option maxRecDepth 20000 in
theorem bX5_reduce_7 {g : pw_G} {σ : pw_Mem} {Q : pw_R → Prop} {x1 : Int32} (h1 : (31 : Int32) ≤ x1 → Q (.inl none, σ)) (h2 : ¬ (31 : Int32) ≤ x1 → WP g mX5_lead 0 [(0, .ref (pw_ad g 29)), (1, .int (0 : Int32)), (2, .int x1)] [] 0 σ (pw_k g mX5_reduce 19 [(0, .ref (pw_ad g 29)), (1, .int x1)] [] 0 Q)) : WP g mX5_reduce 7 [(0, .ref (pw_ad g 29)), (1, .int x1)] [] 0 σ Q := by
  refine wp_iload_n (pc := 7) 1 dX5_reduce_7 rfl rfl ?_
  refine wp_bipush (pc := 8) (v := (31 : Int32)) dX5_reduce_8 (by decide) ?_
  refine wp_icmp_ge (pc := 10) (tgt := 64) dX5_reduce_10 (by decide) (fun c10 => ?_) (fun c10 => ?_)
  ·
    exact wp_return (pc := 64) dX5_reduce_64 rfl (Nat.le_of_ble_eq_true rfl) (h1 c10)
  ·
    refine wp_aload_n (pc := 13) 0 dX5_reduce_13 rfl rfl ?_
    refine wp_iconst (pc := 14) (v := (0 : Int32)) dX5_reduce_14 (by decide) ?_
    refine wp_iload_n (pc := 15) 1 dX5_reduce_15 rfl rfl ?_
    refine wp_callV (pc := 16) (M' := mX5_lead) 29 [.int (0 : Int32), .int x1] [] dX5_reduce_16 ck_X5_135 rfl rfl ⟨Nat.le_of_ble_eq_true rfl, Nat.le_of_ble_eq_true rfl⟩ rfl (Nat.le_of_ble_eq_true rfl) (Nat.le_of_ble_eq_true rfl) (Nat.le_of_ble_eq_true rfl) rfl ?_
    exact h2 c10
set_option maxRecDepth 20000 in
theorem bX5_reduce_19 {g : pw_G} {σ : pw_Mem} {Q : pw_R → Prop} {s9 x1 : Int32} (h1 : WP g mX5_classOf 0 [(0, .ref (pw_ad g 29)), (1, .int s9)] [] 0 σ (pw_k g mX5_reduce 25 [(0, .ref (pw_ad g 29)), (1, .int x1), (2, .int s9)] [] 0 Q)) : WP g mX5_reduce 19 [(0, .ref (pw_ad g 29)), (1, .int x1)] [.int s9] 0 σ Q := by
  refine wp_istore_n (pc := 19) (lv' := [(0, .ref (pw_ad g 29)), (1, .int x1), (2, .int s9)]) dX5_reduce_19 rfl (by decide) rfl ?_
  refine wp_aload_n (pc := 20) 0 dX5_reduce_20 rfl rfl ?_
  refine wp_iload_n (pc := 21) 2 dX5_reduce_21 rfl rfl ?_
  refine wp_callV (pc := 22) (M' := mX5_classOf) 29 [.int s9] [] dX5_reduce_22 ck_X5_144 rfl rfl ⟨Nat.le_of_ble_eq_true rfl, Nat.le_of_ble_eq_true rfl⟩ rfl (Nat.le_of_ble_eq_true rfl) (Nat.le_of_ble_eq_true rfl) (Nat.le_of_ble_eq_true rfl) rfl ?_
  exact h1
set_option maxRecDepth 20000 in
theorem bX5_reduce_25 {g : pw_G} {σ : pw_Mem} {Q : pw_R → Prop} {s9 x1 x2 : Int32} (h1 : 0 ≤ s9 → WP g mX5_reduce 7 [(0, .ref (pw_ad g 29)), (1, .int (x1 + 1)), (2, .int x2)] [] 0 σ Q) (h2 : ¬ 0 ≤ s9 → vp_in (σ 29 20) 5) (h3 : ¬ 0 ≤ s9 → vp_in (σ 29 20) 5) (h4 : ¬ 0 ≤ s9 → WP g mX5_reduce 7 [(0, .ref (pw_ad g 29)), (1, .int (x1 + 1)), (2, .int x2)] [] 0 (pw_set (pw_set (pw_set σ 43 ((σ 29 20)).toNatClampNeg x2) 44 ((σ 29 20)).toNatClampNeg x1) 29 20 ((σ 29 20) + (1 : Int32))) Q) : WP g mX5_reduce 25 [(0, .ref (pw_ad g 29)), (1, .int x1), (2, .int x2)] [.int s9] 0 σ Q := by
  refine wp_if_ge (pc := 25) (tgt := 58) dX5_reduce_25 (by decide) (fun c25 => ?_) (fun c25 => ?_)
  ·
    refine wp_iinc (pc := 58) (v := (x1 + 1)) (lv' := [(0, .ref (pw_ad g 29)), (1, .int (x1 + 1)), (2, .int x2)]) 1 dX5_reduce_58 rfl rfl (by decide) rfl ?_
    refine wp_goto (pc := 61) (tgt := 7) dX5_reduce_61 (by decide) ?_
    exact h1 c25
  ·
    refine wp_aload_n (pc := 28) 0 dX5_reduce_28 rfl rfl ?_
    refine wp_getR1 (pc := 29) 29 43 (o := 13) dX5_reduce_29 rfl fk_X5_50 rfl rfl ?_
    refine wp_aload_n (pc := 32) 0 dX5_reduce_32 rfl rfl ?_
    refine wp_getI (pc := 33) 29 dX5_reduce_33 rfl fk_X5_138 rfl ?_
    refine wp_iload_n (pc := 36) 2 dX5_reduce_36 rfl rfl ?_
    refine wp_iastore (pc := 37) 43 dX5_reduce_37 rfl (h2 c25) ?_
    refine wp_aload_n (pc := 38) 0 dX5_reduce_38 rfl rfl ?_
    refine wp_getR1 (pc := 39) 29 44 (o := 14) dX5_reduce_39 rfl fk_X5_53 rfl rfl ?_
    refine wp_aload_n (pc := 42) 0 dX5_reduce_42 rfl rfl ?_
    refine wp_getI (pc := 43) 29 dX5_reduce_43 rfl fk_X5_138 rfl ?_
    refine wp_iload_n (pc := 46) 1 dX5_reduce_46 rfl rfl ?_
    refine wp_iastore (pc := 47) 44 dX5_reduce_47 rfl (h3 c25) ?_
    refine wp_aload_n (pc := 48) 0 dX5_reduce_48 rfl rfl ?_
    refine wp_dup (pc := 49) dX5_reduce_49 rfl ?_
    refine wp_getI (pc := 50) 29 dX5_reduce_50 rfl fk_X5_138 rfl ?_
    refine wp_iconst (pc := 53) (v := (1 : Int32)) dX5_reduce_53 (by decide) ?_
    refine wp_iadd (pc := 54) dX5_reduce_54 ?_
    refine wp_putI (pc := 55) 29 dX5_reduce_55 rfl pk_X5_138 rfl ?_
    refine wp_iinc (pc := 58) (v := (x1 + 1)) (lv' := [(0, .ref (pw_ad g 29)), (1, .int (x1 + 1)), (2, .int x2)]) 1 dX5_reduce_58 rfl rfl (by decide) rfl ?_
    refine wp_goto (pc := 61) (tgt := 7) dX5_reduce_61 (by decide) ?_
    exact h4 c25
set_option maxRecDepth 20000 in
theorem bX5_least_0 {g : pw_G} {σ : pw_Mem} {Q : pw_R → Prop} (h1 : (σ 29 17) ≤ 0 → WP g mX5_when 0 [(0, .ref (pw_ad g 29)), (1, .int (0 : Int32)), (2, .int (1 : Int32))] [] 0 σ (pw_k g mX5_least 17 [(0, .ref (pw_ad g 29))] [] 0 Q)) (h2 : ¬ (σ 29 17) ≤ 0 → WP g mX5_when 0 [(0, .ref (pw_ad g 29)), (1, .int (1 : Int32)), (2, .int (1 : Int32))] [] 0 σ (pw_k g mX5_least 17 [(0, .ref (pw_ad g 29))] [] 0 Q)) : WP g mX5_least 0 [(0, .ref (pw_ad g 29))] [] 0 σ Q := by
  refine wp_aload_n (pc := 0) 0 dX5_least_0 rfl rfl ?_
  refine wp_aload_n (pc := 1) 0 dX5_least_1 rfl rfl ?_
  refine wp_getI (pc := 2) 29 dX5_least_2 rfl fk_X5_129 rfl ?_
  refine wp_if_le (pc := 5) (tgt := 12) dX5_least_5 (by decide) (fun c5 => ?_) (fun c5 => ?_)
  ·
    refine wp_iconst (pc := 12) (v := (0 : Int32)) dX5_least_12 (by decide) ?_
    refine wp_iconst (pc := 13) (v := (1 : Int32)) dX5_least_13 (by decide) ?_
    refine wp_callV (pc := 14) (M' := mX5_when) 29 [.int (0 : Int32), .int (1 : Int32)] [] dX5_least_14 ck_X5_78 rfl rfl ⟨Nat.le_of_ble_eq_true rfl, Nat.le_of_ble_eq_true rfl⟩ rfl (Nat.le_of_ble_eq_true rfl) (Nat.le_of_ble_eq_true rfl) (Nat.le_of_ble_eq_true rfl) rfl ?_
    exact h1 c5
  ·
    refine wp_iconst (pc := 8) (v := (1 : Int32)) dX5_least_8 (by decide) ?_
    refine wp_goto (pc := 9) (tgt := 13) dX5_least_9 (by decide) ?_
    refine wp_iconst (pc := 13) (v := (1 : Int32)) dX5_least_13 (by decide) ?_
    refine wp_callV (pc := 14) (M' := mX5_when) 29 [.int (1 : Int32), .int (1 : Int32)] [] dX5_least_14 ck_X5_78 rfl rfl ⟨Nat.le_of_ble_eq_true rfl, Nat.le_of_ble_eq_true rfl⟩ rfl (Nat.le_of_ble_eq_true rfl) (Nat.le_of_ble_eq_true rfl) (Nat.le_of_ble_eq_true rfl) rfl ?_
    exact h2 c5
set_option maxRecDepth 20000 in
theorem bX5_least_17 {g : pw_G} {σ : pw_Mem} {Q : pw_R → Prop} {s9 : Int32} (h1 : ¬ s9 = 0 → WP g mX5_reduce 0 [(0, .ref (pw_ad g 29))] [] 0 σ (pw_k g mX5_least 26 [(0, .ref (pw_ad g 29))] [] 0 Q)) (h2 : s9 = 0 → Q (.inl (some (.int (0 : Int32))), σ)) : WP g mX5_least 17 [(0, .ref (pw_ad g 29))] [.int s9] 0 σ Q := by
  refine wp_if_ne (pc := 17) (tgt := 22) dX5_least_17 (by decide) (fun c17 => ?_) (fun c17 => ?_)
  ·
    refine wp_aload_n (pc := 22) 0 dX5_least_22 rfl rfl ?_
    refine wp_callV (pc := 23) (M' := mX5_reduce) 29 [] [] dX5_least_23 ck_X5_147 rfl rfl ⟨Nat.le_of_ble_eq_true rfl, Nat.le_of_ble_eq_true rfl⟩ rfl (Nat.le_of_ble_eq_true rfl) (Nat.le_of_ble_eq_true rfl) (Nat.le_of_ble_eq_true rfl) rfl ?_
    exact h1 c17
  ·
    refine wp_iconst (pc := 20) (v := (0 : Int32)) dX5_least_20 (by decide) ?_
    exact wp_ireturn (pc := 21) dX5_least_21 rfl rfl (Nat.le_of_ble_eq_true rfl) (h2 c17)
set_option maxRecDepth 20000 in
theorem bX5_least_26 {g : pw_G} {σ : pw_Mem} {Q : pw_R → Prop} (h1 : Q (.inl (some (.int (σ 29 20))), σ)) : WP g mX5_least 26 [(0, .ref (pw_ad g 29))] [] 0 σ Q := by
  refine wp_aload_n (pc := 26) 0 dX5_least_26 rfl rfl ?_
  refine wp_getI (pc := 27) 29 dX5_least_27 rfl fk_X5_138 rfl ?_
  exact wp_ireturn (pc := 30) dX5_least_30 rfl rfl (Nat.le_of_ble_eq_true rfl) (h1)
set_option maxRecDepth 20000 in
theorem bX5_name_0 {g : pw_G} {σ : pw_Mem} {Q : pw_R → Prop} {x1 : Int32} (h1 : (σ 29 17) ≤ 0 → WP g mX5_when 0 [(0, .ref (pw_ad g 29)), (1, .int (0 : Int32)), (2, .int (1 : Int32))] [] 0 σ (pw_k g mX5_name 17 [(0, .ref (pw_ad g 29)), (1, .int x1)] [] 0 Q)) (h2 : ¬ (σ 29 17) ≤ 0 → WP g mX5_when 0 [(0, .ref (pw_ad g 29)), (1, .int (1 : Int32)), (2, .int (1 : Int32))] [] 0 σ (pw_k g mX5_name 17 [(0, .ref (pw_ad g 29)), (1, .int x1)] [] 0 Q)) : WP g mX5_name 0 [(0, .ref (pw_ad g 29)), (1, .int x1)] [] 0 σ Q := by
  refine wp_aload_n (pc := 0) 0 dX5_name_0 rfl rfl ?_
  refine wp_aload_n (pc := 1) 0 dX5_name_1 rfl rfl ?_
  refine wp_getI (pc := 2) 29 dX5_name_2 rfl fk_X5_129 rfl ?_
  refine wp_if_le (pc := 5) (tgt := 12) dX5_name_5 (by decide) (fun c5 => ?_) (fun c5 => ?_)
  ·
    refine wp_iconst (pc := 12) (v := (0 : Int32)) dX5_name_12 (by decide) ?_
    refine wp_iconst (pc := 13) (v := (1 : Int32)) dX5_name_13 (by decide) ?_
    refine wp_callV (pc := 14) (M' := mX5_when) 29 [.int (0 : Int32), .int (1 : Int32)] [] dX5_name_14 ck_X5_78 rfl rfl ⟨Nat.le_of_ble_eq_true rfl, Nat.le_of_ble_eq_true rfl⟩ rfl (Nat.le_of_ble_eq_true rfl) (Nat.le_of_ble_eq_true rfl) (Nat.le_of_ble_eq_true rfl) rfl ?_
    exact h1 c5
  ·
    refine wp_iconst (pc := 8) (v := (1 : Int32)) dX5_name_8 (by decide) ?_
    refine wp_goto (pc := 9) (tgt := 13) dX5_name_9 (by decide) ?_
    refine wp_iconst (pc := 13) (v := (1 : Int32)) dX5_name_13 (by decide) ?_
    refine wp_callV (pc := 14) (M' := mX5_when) 29 [.int (1 : Int32), .int (1 : Int32)] [] dX5_name_14 ck_X5_78 rfl rfl ⟨Nat.le_of_ble_eq_true rfl, Nat.le_of_ble_eq_true rfl⟩ rfl (Nat.le_of_ble_eq_true rfl) (Nat.le_of_ble_eq_true rfl) (Nat.le_of_ble_eq_true rfl) rfl ?_
    exact h2 c5
set_option maxRecDepth 20000 in
theorem bX5_name_17 {g : pw_G} {σ : pw_Mem} {Q : pw_R → Prop} {s9 x1 : Int32} (h1 : ¬ s9 = 0 → WP g mX5_reduce 0 [(0, .ref (pw_ad g 29))] [] 0 σ (pw_k g mX5_name 26 [(0, .ref (pw_ad g 29)), (1, .int x1)] [] 0 Q)) (h2 : s9 = 0 → Q (.inl (some (.int (0 : Int32))), σ)) : WP g mX5_name 17 [(0, .ref (pw_ad g 29)), (1, .int x1)] [.int s9] 0 σ Q := by
  refine wp_if_ne (pc := 17) (tgt := 22) dX5_name_17 (by decide) (fun c17 => ?_) (fun c17 => ?_)
  ·
    refine wp_aload_n (pc := 22) 0 dX5_name_22 rfl rfl ?_
    refine wp_callV (pc := 23) (M' := mX5_reduce) 29 [] [] dX5_name_23 ck_X5_147 rfl rfl ⟨Nat.le_of_ble_eq_true rfl, Nat.le_of_ble_eq_true rfl⟩ rfl (Nat.le_of_ble_eq_true rfl) (Nat.le_of_ble_eq_true rfl) (Nat.le_of_ble_eq_true rfl) rfl ?_
    exact h1 c17
  ·
    refine wp_iconst (pc := 20) (v := (0 : Int32)) dX5_name_20 (by decide) ?_
    exact wp_ireturn (pc := 21) dX5_name_21 rfl rfl (Nat.le_of_ble_eq_true rfl) (h2 c17)
set_option maxRecDepth 20000 in
theorem bX5_name_26 {g : pw_G} {σ : pw_Mem} {Q : pw_R → Prop} {x1 : Int32} (h1 : x1 < 0 → WP g mX5_when 0 [(0, .ref (pw_ad g 29)), (1, .int (0 : Int32)), (2, .int (2 : Int32))] [] 0 σ (pw_k g mX5_name 48 [(0, .ref (pw_ad g 29)), (1, .int x1)] [] 0 Q)) (h2 : ¬ x1 < 0 → (σ 29 20) ≤ x1 → WP g mX5_when 0 [(0, .ref (pw_ad g 29)), (1, .int (0 : Int32)), (2, .int (2 : Int32))] [] 0 σ (pw_k g mX5_name 48 [(0, .ref (pw_ad g 29)), (1, .int x1)] [] 0 Q)) (h3 : ¬ x1 < 0 → ¬ (σ 29 20) ≤ x1 → WP g mX5_when 0 [(0, .ref (pw_ad g 29)), (1, .int (1 : Int32)), (2, .int (2 : Int32))] [] 0 σ (pw_k g mX5_name 48 [(0, .ref (pw_ad g 29)), (1, .int x1)] [] 0 Q)) : WP g mX5_name 26 [(0, .ref (pw_ad g 29)), (1, .int x1)] [] 0 σ Q := by
  refine wp_aload_n (pc := 26) 0 dX5_name_26 rfl rfl ?_
  refine wp_iload_n (pc := 27) 1 dX5_name_27 rfl rfl ?_
  refine wp_if_lt (pc := 28) (tgt := 43) dX5_name_28 (by decide) (fun c28 => ?_) (fun c28 => ?_)
  ·
    refine wp_iconst (pc := 43) (v := (0 : Int32)) dX5_name_43 (by decide) ?_
    refine wp_iconst (pc := 44) (v := (2 : Int32)) dX5_name_44 (by decide) ?_
    refine wp_callV (pc := 45) (M' := mX5_when) 29 [.int (0 : Int32), .int (2 : Int32)] [] dX5_name_45 ck_X5_78 rfl rfl ⟨Nat.le_of_ble_eq_true rfl, Nat.le_of_ble_eq_true rfl⟩ rfl (Nat.le_of_ble_eq_true rfl) (Nat.le_of_ble_eq_true rfl) (Nat.le_of_ble_eq_true rfl) rfl ?_
    exact h1 c28
  ·
    refine wp_iload_n (pc := 31) 1 dX5_name_31 rfl rfl ?_
    refine wp_aload_n (pc := 32) 0 dX5_name_32 rfl rfl ?_
    refine wp_getI (pc := 33) 29 dX5_name_33 rfl fk_X5_138 rfl ?_
    refine wp_icmp_ge (pc := 36) (tgt := 43) dX5_name_36 (by decide) (fun c36 => ?_) (fun c36 => ?_)
    ·
      refine wp_iconst (pc := 43) (v := (0 : Int32)) dX5_name_43 (by decide) ?_
      refine wp_iconst (pc := 44) (v := (2 : Int32)) dX5_name_44 (by decide) ?_
      refine wp_callV (pc := 45) (M' := mX5_when) 29 [.int (0 : Int32), .int (2 : Int32)] [] dX5_name_45 ck_X5_78 rfl rfl ⟨Nat.le_of_ble_eq_true rfl, Nat.le_of_ble_eq_true rfl⟩ rfl (Nat.le_of_ble_eq_true rfl) (Nat.le_of_ble_eq_true rfl) (Nat.le_of_ble_eq_true rfl) rfl ?_
      exact h2 c28 c36
    ·
      refine wp_iconst (pc := 39) (v := (1 : Int32)) dX5_name_39 (by decide) ?_
      refine wp_goto (pc := 40) (tgt := 44) dX5_name_40 (by decide) ?_
      refine wp_iconst (pc := 44) (v := (2 : Int32)) dX5_name_44 (by decide) ?_
      refine wp_callV (pc := 45) (M' := mX5_when) 29 [.int (1 : Int32), .int (2 : Int32)] [] dX5_name_45 ck_X5_78 rfl rfl ⟨Nat.le_of_ble_eq_true rfl, Nat.le_of_ble_eq_true rfl⟩ rfl (Nat.le_of_ble_eq_true rfl) (Nat.le_of_ble_eq_true rfl) (Nat.le_of_ble_eq_true rfl) rfl ?_
      exact h3 c28 c36
set_option maxRecDepth 20000 in
theorem bX5_name_48 {g : pw_G} {σ : pw_Mem} {Q : pw_R → Prop} {s9 x1 : Int32} (h1 : s9 = 0 → Q (.inl (some (.int (0 : Int32))), σ)) (h2 : ¬ s9 = 0 → vp_in x1 5) (h3 : ¬ s9 = 0 → WP g mX5_given 0 [(0, .int (σ 44 (x1).toNatClampNeg))] [] 0 σ (pw_k g mX5_name 60 [(0, .ref (pw_ad g 29)), (1, .int x1)] [] 0 Q)) : WP g mX5_name 48 [(0, .ref (pw_ad g 29)), (1, .int x1)] [.int s9] 0 σ Q := by
  refine wp_if_eq (pc := 48) (tgt := 63) dX5_name_48 (by decide) (fun c48 => ?_) (fun c48 => ?_)
  ·
    refine wp_iconst (pc := 63) (v := (0 : Int32)) dX5_name_63 (by decide) ?_
    exact wp_ireturn (pc := 64) dX5_name_64 rfl rfl (Nat.le_of_ble_eq_true rfl) (h1 c48)
  ·
    refine wp_aload_n (pc := 51) 0 dX5_name_51 rfl rfl ?_
    refine wp_getR1 (pc := 52) 29 44 (o := 14) dX5_name_52 rfl fk_X5_53 rfl rfl ?_
    refine wp_iload_n (pc := 55) 1 dX5_name_55 rfl rfl ?_
    refine wp_iaload (pc := 56) 44 dX5_name_56 rfl (h2 c48) ?_
    refine wp_callS (pc := 57) (M' := mX5_given) [.int (σ 44 (x1).toNatClampNeg)] [] dX5_name_57 ck_X5_150 ⟨Nat.le_of_ble_eq_true rfl, Nat.le_of_ble_eq_true rfl⟩ rfl (Nat.le_of_ble_eq_true rfl) (Nat.le_of_ble_eq_true rfl) (Nat.le_of_ble_eq_true rfl) rfl ?_
    exact h3 c48
set_option maxRecDepth 20000 in
theorem bX5_name_60 {g : pw_G} {σ : pw_Mem} {Q : pw_R → Prop} {s9 x1 : Int32} (h1 : Q (.inl (some (.int s9)), σ)) : WP g mX5_name 60 [(0, .ref (pw_ad g 29)), (1, .int x1)] [.int s9] 0 σ Q := by
  refine wp_goto (pc := 60) (tgt := 64) dX5_name_60 (by decide) ?_
  exact wp_ireturn (pc := 64) dX5_name_64 rfl rfl (Nat.le_of_ble_eq_true rfl) (h1)
set_option maxRecDepth 20000 in
theorem bX5_apart_0 {g : pw_G} {σ : pw_Mem} {Q : pw_R → Prop} {x1 x2 : Int32} (h1 : (σ 29 17) ≤ 0 → WP g mX5_when 0 [(0, .ref (pw_ad g 29)), (1, .int (0 : Int32)), (2, .int (1 : Int32))] [] 0 σ (pw_k g mX5_apart 17 [(0, .ref (pw_ad g 29)), (1, .int x1), (2, .int x2)] [] 0 Q)) (h2 : ¬ (σ 29 17) ≤ 0 → WP g mX5_when 0 [(0, .ref (pw_ad g 29)), (1, .int (1 : Int32)), (2, .int (1 : Int32))] [] 0 σ (pw_k g mX5_apart 17 [(0, .ref (pw_ad g 29)), (1, .int x1), (2, .int x2)] [] 0 Q)) : WP g mX5_apart 0 [(0, .ref (pw_ad g 29)), (1, .int x1), (2, .int x2)] [] 0 σ Q := by
  refine wp_aload_n (pc := 0) 0 dX5_apart_0 rfl rfl ?_
  refine wp_aload_n (pc := 1) 0 dX5_apart_1 rfl rfl ?_
  refine wp_getI (pc := 2) 29 dX5_apart_2 rfl fk_X5_129 rfl ?_
  refine wp_if_le (pc := 5) (tgt := 12) dX5_apart_5 (by decide) (fun c5 => ?_) (fun c5 => ?_)
  ·
    refine wp_iconst (pc := 12) (v := (0 : Int32)) dX5_apart_12 (by decide) ?_
    refine wp_iconst (pc := 13) (v := (1 : Int32)) dX5_apart_13 (by decide) ?_
    refine wp_callV (pc := 14) (M' := mX5_when) 29 [.int (0 : Int32), .int (1 : Int32)] [] dX5_apart_14 ck_X5_78 rfl rfl ⟨Nat.le_of_ble_eq_true rfl, Nat.le_of_ble_eq_true rfl⟩ rfl (Nat.le_of_ble_eq_true rfl) (Nat.le_of_ble_eq_true rfl) (Nat.le_of_ble_eq_true rfl) rfl ?_
    exact h1 c5
  ·
    refine wp_iconst (pc := 8) (v := (1 : Int32)) dX5_apart_8 (by decide) ?_
    refine wp_goto (pc := 9) (tgt := 13) dX5_apart_9 (by decide) ?_
    refine wp_iconst (pc := 13) (v := (1 : Int32)) dX5_apart_13 (by decide) ?_
    refine wp_callV (pc := 14) (M' := mX5_when) 29 [.int (1 : Int32), .int (1 : Int32)] [] dX5_apart_14 ck_X5_78 rfl rfl ⟨Nat.le_of_ble_eq_true rfl, Nat.le_of_ble_eq_true rfl⟩ rfl (Nat.le_of_ble_eq_true rfl) (Nat.le_of_ble_eq_true rfl) (Nat.le_of_ble_eq_true rfl) rfl ?_
    exact h2 c5
set_option maxRecDepth 20000 in
theorem bX5_apart_17 {g : pw_G} {σ : pw_Mem} {Q : pw_R → Prop} {s9 x1 x2 : Int32} (h1 : ¬ s9 = 0 → WP g mX5_reduce 0 [(0, .ref (pw_ad g 29))] [] 0 σ (pw_k g mX5_apart 26 [(0, .ref (pw_ad g 29)), (1, .int x1), (2, .int x2)] [] 0 Q)) (h2 : s9 = 0 → Q (.inl (some (.int (0 : Int32))), σ)) : WP g mX5_apart 17 [(0, .ref (pw_ad g 29)), (1, .int x1), (2, .int x2)] [.int s9] 0 σ Q := by
  refine wp_if_ne (pc := 17) (tgt := 22) dX5_apart_17 (by decide) (fun c17 => ?_) (fun c17 => ?_)
  ·
    refine wp_aload_n (pc := 22) 0 dX5_apart_22 rfl rfl ?_
    refine wp_callV (pc := 23) (M' := mX5_reduce) 29 [] [] dX5_apart_23 ck_X5_147 rfl rfl ⟨Nat.le_of_ble_eq_true rfl, Nat.le_of_ble_eq_true rfl⟩ rfl (Nat.le_of_ble_eq_true rfl) (Nat.le_of_ble_eq_true rfl) (Nat.le_of_ble_eq_true rfl) rfl ?_
    exact h1 c17
  ·
    refine wp_iconst (pc := 20) (v := (0 : Int32)) dX5_apart_20 (by decide) ?_
    exact wp_ireturn (pc := 21) dX5_apart_21 rfl rfl (Nat.le_of_ble_eq_true rfl) (h2 c17)
set_option maxRecDepth 20000 in
theorem bX5_apart_26 {g : pw_G} {σ : pw_Mem} {Q : pw_R → Prop} {x1 x2 : Int32} (h1 : x1 < 0 → WP g mX5_when 0 [(0, .ref (pw_ad g 29)), (1, .int (0 : Int32)), (2, .int (2 : Int32))] [] 0 σ (pw_k g mX5_apart 60 [(0, .ref (pw_ad g 29)), (1, .int x1), (2, .int x2)] [] 0 Q)) (h2 : ¬ x1 < 0 → (σ 29 20) ≤ x1 → WP g mX5_when 0 [(0, .ref (pw_ad g 29)), (1, .int (0 : Int32)), (2, .int (2 : Int32))] [] 0 σ (pw_k g mX5_apart 60 [(0, .ref (pw_ad g 29)), (1, .int x1), (2, .int x2)] [] 0 Q)) (h3 : ¬ x1 < 0 → ¬ (σ 29 20) ≤ x1 → x2 < 0 → WP g mX5_when 0 [(0, .ref (pw_ad g 29)), (1, .int (0 : Int32)), (2, .int (2 : Int32))] [] 0 σ (pw_k g mX5_apart 60 [(0, .ref (pw_ad g 29)), (1, .int x1), (2, .int x2)] [] 0 Q)) (h4 : ¬ x1 < 0 → ¬ (σ 29 20) ≤ x1 → ¬ x2 < 0 → (σ 29 20) ≤ x2 → WP g mX5_when 0 [(0, .ref (pw_ad g 29)), (1, .int (0 : Int32)), (2, .int (2 : Int32))] [] 0 σ (pw_k g mX5_apart 60 [(0, .ref (pw_ad g 29)), (1, .int x1), (2, .int x2)] [] 0 Q)) (h5 : ¬ x1 < 0 → ¬ (σ 29 20) ≤ x1 → ¬ x2 < 0 → ¬ (σ 29 20) ≤ x2 → WP g mX5_when 0 [(0, .ref (pw_ad g 29)), (1, .int (1 : Int32)), (2, .int (2 : Int32))] [] 0 σ (pw_k g mX5_apart 60 [(0, .ref (pw_ad g 29)), (1, .int x1), (2, .int x2)] [] 0 Q)) : WP g mX5_apart 26 [(0, .ref (pw_ad g 29)), (1, .int x1), (2, .int x2)] [] 0 σ Q := by
  refine wp_aload_n (pc := 26) 0 dX5_apart_26 rfl rfl ?_
  refine wp_iload_n (pc := 27) 1 dX5_apart_27 rfl rfl ?_
  refine wp_if_lt (pc := 28) (tgt := 55) dX5_apart_28 (by decide) (fun c28 => ?_) (fun c28 => ?_)
  ·
    refine wp_iconst (pc := 55) (v := (0 : Int32)) dX5_apart_55 (by decide) ?_
    refine wp_iconst (pc := 56) (v := (2 : Int32)) dX5_apart_56 (by decide) ?_
    refine wp_callV (pc := 57) (M' := mX5_when) 29 [.int (0 : Int32), .int (2 : Int32)] [] dX5_apart_57 ck_X5_78 rfl rfl ⟨Nat.le_of_ble_eq_true rfl, Nat.le_of_ble_eq_true rfl⟩ rfl (Nat.le_of_ble_eq_true rfl) (Nat.le_of_ble_eq_true rfl) (Nat.le_of_ble_eq_true rfl) rfl ?_
    exact h1 c28
  ·
    refine wp_iload_n (pc := 31) 1 dX5_apart_31 rfl rfl ?_
    refine wp_aload_n (pc := 32) 0 dX5_apart_32 rfl rfl ?_
    refine wp_getI (pc := 33) 29 dX5_apart_33 rfl fk_X5_138 rfl ?_
    refine wp_icmp_ge (pc := 36) (tgt := 55) dX5_apart_36 (by decide) (fun c36 => ?_) (fun c36 => ?_)
    ·
      refine wp_iconst (pc := 55) (v := (0 : Int32)) dX5_apart_55 (by decide) ?_
      refine wp_iconst (pc := 56) (v := (2 : Int32)) dX5_apart_56 (by decide) ?_
      refine wp_callV (pc := 57) (M' := mX5_when) 29 [.int (0 : Int32), .int (2 : Int32)] [] dX5_apart_57 ck_X5_78 rfl rfl ⟨Nat.le_of_ble_eq_true rfl, Nat.le_of_ble_eq_true rfl⟩ rfl (Nat.le_of_ble_eq_true rfl) (Nat.le_of_ble_eq_true rfl) (Nat.le_of_ble_eq_true rfl) rfl ?_
      exact h2 c28 c36
    ·
      refine wp_iload_n (pc := 39) 2 dX5_apart_39 rfl rfl ?_
      refine wp_if_lt (pc := 40) (tgt := 55) dX5_apart_40 (by decide) (fun c40 => ?_) (fun c40 => ?_)
      ·
        refine wp_iconst (pc := 55) (v := (0 : Int32)) dX5_apart_55 (by decide) ?_
        refine wp_iconst (pc := 56) (v := (2 : Int32)) dX5_apart_56 (by decide) ?_
        refine wp_callV (pc := 57) (M' := mX5_when) 29 [.int (0 : Int32), .int (2 : Int32)] [] dX5_apart_57 ck_X5_78 rfl rfl ⟨Nat.le_of_ble_eq_true rfl, Nat.le_of_ble_eq_true rfl⟩ rfl (Nat.le_of_ble_eq_true rfl) (Nat.le_of_ble_eq_true rfl) (Nat.le_of_ble_eq_true rfl) rfl ?_
        exact h3 c28 c36 c40
      ·
        refine wp_iload_n (pc := 43) 2 dX5_apart_43 rfl rfl ?_
        refine wp_aload_n (pc := 44) 0 dX5_apart_44 rfl rfl ?_
        refine wp_getI (pc := 45) 29 dX5_apart_45 rfl fk_X5_138 rfl ?_
        refine wp_icmp_ge (pc := 48) (tgt := 55) dX5_apart_48 (by decide) (fun c48 => ?_) (fun c48 => ?_)
        ·
          refine wp_iconst (pc := 55) (v := (0 : Int32)) dX5_apart_55 (by decide) ?_
          refine wp_iconst (pc := 56) (v := (2 : Int32)) dX5_apart_56 (by decide) ?_
          refine wp_callV (pc := 57) (M' := mX5_when) 29 [.int (0 : Int32), .int (2 : Int32)] [] dX5_apart_57 ck_X5_78 rfl rfl ⟨Nat.le_of_ble_eq_true rfl, Nat.le_of_ble_eq_true rfl⟩ rfl (Nat.le_of_ble_eq_true rfl) (Nat.le_of_ble_eq_true rfl) (Nat.le_of_ble_eq_true rfl) rfl ?_
          exact h4 c28 c36 c40 c48
        ·
          refine wp_iconst (pc := 51) (v := (1 : Int32)) dX5_apart_51 (by decide) ?_
          refine wp_goto (pc := 52) (tgt := 56) dX5_apart_52 (by decide) ?_
          refine wp_iconst (pc := 56) (v := (2 : Int32)) dX5_apart_56 (by decide) ?_
          refine wp_callV (pc := 57) (M' := mX5_when) 29 [.int (1 : Int32), .int (2 : Int32)] [] dX5_apart_57 ck_X5_78 rfl rfl ⟨Nat.le_of_ble_eq_true rfl, Nat.le_of_ble_eq_true rfl⟩ rfl (Nat.le_of_ble_eq_true rfl) (Nat.le_of_ble_eq_true rfl) (Nat.le_of_ble_eq_true rfl) rfl ?_
          exact h5 c28 c36 c40 c48
set_option maxRecDepth 20000 in
theorem bX5_apart_60 {g : pw_G} {σ : pw_Mem} {Q : pw_R → Prop} {s9 x1 x2 : Int32} (h1 : ¬ s9 = 0 → ¬ x1 = x2 → vp_in x1 5) (h2 : ¬ s9 = 0 → ¬ x1 = x2 → vp_in x2 5) (h3 : ¬ s9 = 0 → ¬ x1 = x2 → WP g mX5_setsApart 0 [(0, .ref (pw_ad g 29)), (1, .int (σ 43 (x1).toNatClampNeg)), (2, .int (σ 43 (x2).toNatClampNeg))] [] 0 σ (pw_k g mX5_apart 90 [(0, .ref (pw_ad g 29)), (1, .int x1), (2, .int x2)] [] 0 Q)) (h4 : ¬ s9 = 0 → x1 = x2 → Q (.inl (some (.int (-1 : Int32))), σ)) (h5 : s9 = 0 → Q (.inl (some (.int (0 : Int32))), σ)) : WP g mX5_apart 60 [(0, .ref (pw_ad g 29)), (1, .int x1), (2, .int x2)] [.int s9] 0 σ Q := by
  refine wp_if_ne (pc := 60) (tgt := 65) dX5_apart_60 (by decide) (fun c60 => ?_) (fun c60 => ?_)
  ·
    refine wp_iload_n (pc := 65) 1 dX5_apart_65 rfl rfl ?_
    refine wp_iload_n (pc := 66) 2 dX5_apart_66 rfl rfl ?_
    refine wp_icmp_ne (pc := 67) (tgt := 74) dX5_apart_67 (by decide) (fun c67 => ?_) (fun c67 => ?_)
    ·
      refine wp_aload_n (pc := 74) 0 dX5_apart_74 rfl rfl ?_
      refine wp_aload_n (pc := 75) 0 dX5_apart_75 rfl rfl ?_
      refine wp_getR1 (pc := 76) 29 43 (o := 13) dX5_apart_76 rfl fk_X5_50 rfl rfl ?_
      refine wp_iload_n (pc := 79) 1 dX5_apart_79 rfl rfl ?_
      refine wp_iaload (pc := 80) 43 dX5_apart_80 rfl (h1 c60 c67) ?_
      refine wp_aload_n (pc := 81) 0 dX5_apart_81 rfl rfl ?_
      refine wp_getR1 (pc := 82) 29 43 (o := 13) dX5_apart_82 rfl fk_X5_50 rfl rfl ?_
      refine wp_iload_n (pc := 85) 2 dX5_apart_85 rfl rfl ?_
      refine wp_iaload (pc := 86) 43 dX5_apart_86 rfl (h2 c60 c67) ?_
      refine wp_callV (pc := 87) (M' := mX5_setsApart) 29 [.int (σ 43 (x1).toNatClampNeg), .int (σ 43 (x2).toNatClampNeg)] [] dX5_apart_87 ck_X5_141 rfl rfl ⟨Nat.le_of_ble_eq_true rfl, Nat.le_of_ble_eq_true rfl⟩ rfl (Nat.le_of_ble_eq_true rfl) (Nat.le_of_ble_eq_true rfl) (Nat.le_of_ble_eq_true rfl) rfl ?_
      exact h3 c60 c67
    ·
      refine wp_iconst (pc := 70) (v := (-1 : Int32)) dX5_apart_70 (by decide) ?_
      refine wp_goto (pc := 71) (tgt := 93) dX5_apart_71 (by decide) ?_
      exact wp_ireturn (pc := 93) dX5_apart_93 rfl rfl (Nat.le_of_ble_eq_true rfl) (h4 c60 c67)
  ·
    refine wp_iconst (pc := 63) (v := (0 : Int32)) dX5_apart_63 (by decide) ?_
    exact wp_ireturn (pc := 64) dX5_apart_64 rfl rfl (Nat.le_of_ble_eq_true rfl) (h5 c60)
set_option maxRecDepth 20000 in
theorem bX5_apart_90 {g : pw_G} {σ : pw_Mem} {Q : pw_R → Prop} {s9 x1 x2 : Int32} (h1 : WP g mX5_given 0 [(0, .int s9)] [] 0 σ (pw_k g mX5_apart 93 [(0, .ref (pw_ad g 29)), (1, .int x1), (2, .int x2)] [] 0 Q)) : WP g mX5_apart 90 [(0, .ref (pw_ad g 29)), (1, .int x1), (2, .int x2)] [.int s9] 0 σ Q := by
  refine wp_callS (pc := 90) (M' := mX5_given) [.int s9] [] dX5_apart_90 ck_X5_150 ⟨Nat.le_of_ble_eq_true rfl, Nat.le_of_ble_eq_true rfl⟩ rfl (Nat.le_of_ble_eq_true rfl) (Nat.le_of_ble_eq_true rfl) (Nat.le_of_ble_eq_true rfl) rfl ?_
  exact h1
set_option maxRecDepth 20000 in
theorem bX5_apart_93 {g : pw_G} {σ : pw_Mem} {Q : pw_R → Prop} {s9 x1 x2 : Int32} (h1 : Q (.inl (some (.int s9)), σ)) : WP g mX5_apart 93 [(0, .ref (pw_ad g 29)), (1, .int x1), (2, .int x2)] [.int s9] 0 σ Q := by
  exact wp_ireturn (pc := 93) dX5_apart_93 rfl rfl (Nat.le_of_ble_eq_true rfl) (h1)
set_option maxRecDepth 20000 in
theorem bX5_want_0 {g : pw_G} {σ : pw_Mem} {Q : pw_R → Prop} {x1 x2 : Int32} (h1 : WP g mX5_lead 0 [(0, .ref (pw_ad g 29)), (1, .int (0 : Int32)), (2, .int x1)] [] 0 σ (pw_k g mX5_want 7 [(0, .ref (pw_ad g 29)), (1, .int x1), (2, .int x2)] [.ref (pw_ad g 29)] 0 Q)) : WP g mX5_want 0 [(0, .ref (pw_ad g 29)), (1, .int x1), (2, .int x2)] [] 0 σ Q := by
  refine wp_aload_n (pc := 0) 0 dX5_want_0 rfl rfl ?_
  refine wp_aload_n (pc := 1) 0 dX5_want_1 rfl rfl ?_
  refine wp_iconst (pc := 2) (v := (0 : Int32)) dX5_want_2 (by decide) ?_
  refine wp_iload_n (pc := 3) 1 dX5_want_3 rfl rfl ?_
  refine wp_callV (pc := 4) (M' := mX5_lead) 29 [.int (0 : Int32), .int x1] [.ref (pw_ad g 29)] dX5_want_4 ck_X5_135 rfl rfl ⟨Nat.le_of_ble_eq_true rfl, Nat.le_of_ble_eq_true rfl⟩ rfl (Nat.le_of_ble_eq_true rfl) (Nat.le_of_ble_eq_true rfl) (Nat.le_of_ble_eq_true rfl) rfl ?_
  exact h1
set_option maxRecDepth 20000 in
theorem bX5_want_7 {g : pw_G} {σ : pw_Mem} {Q : pw_R → Prop} {s9 x1 x2 : Int32} (h1 : WP g mX5_lead 0 [(0, .ref (pw_ad g 29)), (1, .int (0 : Int32)), (2, .int x2)] [] 0 σ (pw_k g mX5_want 13 [(0, .ref (pw_ad g 29)), (1, .int x1), (2, .int x2)] [.int s9, .ref (pw_ad g 29)] 0 Q)) : WP g mX5_want 7 [(0, .ref (pw_ad g 29)), (1, .int x1), (2, .int x2)] [.int s9, .ref (pw_ad g 29)] 0 σ Q := by
  refine wp_aload_n (pc := 7) 0 dX5_want_7 rfl rfl ?_
  refine wp_iconst (pc := 8) (v := (0 : Int32)) dX5_want_8 (by decide) ?_
  refine wp_iload_n (pc := 9) 2 dX5_want_9 rfl rfl ?_
  refine wp_callV (pc := 10) (M' := mX5_lead) 29 [.int (0 : Int32), .int x2] [.int s9, .ref (pw_ad g 29)] dX5_want_10 ck_X5_135 rfl rfl ⟨Nat.le_of_ble_eq_true rfl, Nat.le_of_ble_eq_true rfl⟩ rfl (Nat.le_of_ble_eq_true rfl) (Nat.le_of_ble_eq_true rfl) (Nat.le_of_ble_eq_true rfl) rfl ?_
  exact h1
set_option maxRecDepth 20000 in
theorem bX5_want_13 {g : pw_G} {σ : pw_Mem} {Q : pw_R → Prop} {s0 s9 x1 x2 : Int32} (h1 : WP g mX5_setsApart 0 [(0, .ref (pw_ad g 29)), (1, .int s0), (2, .int s9)] [] 0 σ (pw_k g mX5_want 16 [(0, .ref (pw_ad g 29)), (1, .int x1), (2, .int x2)] [] 0 Q)) : WP g mX5_want 13 [(0, .ref (pw_ad g 29)), (1, .int x1), (2, .int x2)] [.int s9, .int s0, .ref (pw_ad g 29)] 0 σ Q := by
  refine wp_callV (pc := 13) (M' := mX5_setsApart) 29 [.int s0, .int s9] [] dX5_want_13 ck_X5_141 rfl rfl ⟨Nat.le_of_ble_eq_true rfl, Nat.le_of_ble_eq_true rfl⟩ rfl (Nat.le_of_ble_eq_true rfl) (Nat.le_of_ble_eq_true rfl) (Nat.le_of_ble_eq_true rfl) rfl ?_
  exact h1
set_option maxRecDepth 20000 in
theorem bX5_want_16 {g : pw_G} {σ : pw_Mem} {Q : pw_R → Prop} {s9 x1 x2 : Int32} (h1 : s9 < 0 → Q (.inl none, σ)) (h2 : ¬ s9 < 0 → WP g mX5_joined 0 [(0, .int x1), (1, .int s9)] [] 0 σ (pw_k g mX5_want 30 [(0, .ref (pw_ad g 29)), (1, .int x1), (2, .int x2), (3, .int s9)] [.ref (pw_ad g 45)] 0 Q)) : WP g mX5_want 16 [(0, .ref (pw_ad g 29)), (1, .int x1), (2, .int x2)] [.int s9] 0 σ Q := by
  refine wp_istore_n (pc := 16) (lv' := [(0, .ref (pw_ad g 29)), (1, .int x1), (2, .int x2), (3, .int s9)]) dX5_want_16 rfl (by decide) rfl ?_
  refine wp_iload_n (pc := 17) 3 dX5_want_17 rfl rfl ?_
  refine wp_if_lt (pc := 18) (tgt := 43) dX5_want_18 (by decide) (fun c18 => ?_) (fun c18 => ?_)
  ·
    exact wp_return (pc := 43) dX5_want_43 rfl (Nat.le_of_ble_eq_true rfl) (h1 c18)
  ·
    refine wp_aload_n (pc := 21) 0 dX5_want_21 rfl rfl ?_
    refine wp_getR1 (pc := 22) 29 45 (o := 15) dX5_want_22 rfl fk_X5_56 rfl rfl ?_
    refine wp_iload_n (pc := 25) 1 dX5_want_25 rfl rfl ?_
    refine wp_iload_n (pc := 26) 3 dX5_want_26 rfl rfl ?_
    refine wp_callS (pc := 27) (M' := mX5_joined) [.int x1, .int s9] [.ref (pw_ad g 45)] dX5_want_27 ck_X5_153 ⟨Nat.le_of_ble_eq_true rfl, Nat.le_of_ble_eq_true rfl⟩ rfl (Nat.le_of_ble_eq_true rfl) (Nat.le_of_ble_eq_true rfl) (Nat.le_of_ble_eq_true rfl) rfl ?_
    exact h2 c18
set_option maxRecDepth 20000 in
theorem bX5_want_30 {g : pw_G} {σ : pw_Mem} {Q : pw_R → Prop} {s9 x1 x2 x3 : Int32} (h1 : vp_in s9 511) (h2 : WP g mX5_joined 0 [(0, .int x2), (1, .int x3)] [] 0 (pw_set σ 45 (s9).toNatClampNeg (1 : Int32)) (pw_k g mX5_want 41 [(0, .ref (pw_ad g 29)), (1, .int x1), (2, .int x2), (3, .int x3)] [.ref (pw_ad g 45)] 0 Q)) : WP g mX5_want 30 [(0, .ref (pw_ad g 29)), (1, .int x1), (2, .int x2), (3, .int x3)] [.int s9, .ref (pw_ad g 45)] 0 σ Q := by
  refine wp_iconst (pc := 30) (v := (1 : Int32)) dX5_want_30 (by decide) ?_
  refine wp_bastore (pc := 31) 45 dX5_want_31 rfl (h1) ?_
  refine wp_aload_n (pc := 32) 0 dX5_want_32 rfl rfl ?_
  refine wp_getR1 (pc := 33) 29 45 (o := 15) dX5_want_33 rfl fk_X5_56 rfl rfl ?_
  refine wp_iload_n (pc := 36) 2 dX5_want_36 rfl rfl ?_
  refine wp_iload_n (pc := 37) 3 dX5_want_37 rfl rfl ?_
  refine wp_callS (pc := 38) (M' := mX5_joined) [.int x2, .int x3] [.ref (pw_ad g 45)] dX5_want_38 ck_X5_153 ⟨Nat.le_of_ble_eq_true rfl, Nat.le_of_ble_eq_true rfl⟩ rfl (Nat.le_of_ble_eq_true rfl) (Nat.le_of_ble_eq_true rfl) (Nat.le_of_ble_eq_true rfl) rfl ?_
  exact h2
set_option maxRecDepth 20000 in
theorem bX5_want_41 {g : pw_G} {σ : pw_Mem} {Q : pw_R → Prop} {s9 x1 x2 x3 : Int32} (h1 : vp_in s9 511) (h2 : Q (.inl none, (pw_set σ 45 (s9).toNatClampNeg (1 : Int32)))) : WP g mX5_want 41 [(0, .ref (pw_ad g 29)), (1, .int x1), (2, .int x2), (3, .int x3)] [.int s9, .ref (pw_ad g 45)] 0 σ Q := by
  refine wp_iconst (pc := 41) (v := (1 : Int32)) dX5_want_41 (by decide) ?_
  refine wp_bastore (pc := 42) 45 dX5_want_42 rfl (h1) ?_
  exact wp_return (pc := 43) dX5_want_43 rfl (Nat.le_of_ble_eq_true rfl) (h2)
set_option maxRecDepth 20000 in
theorem bX5_characteristic_0 {g : pw_G} {σ : pw_Mem} {Q : pw_R → Prop} (h1 : WP g mX5_reduce 0 [(0, .ref (pw_ad g 29))] [] 0 σ (pw_k g mX5_characteristic 4 [(0, .ref (pw_ad g 29))] [] 0 Q)) : WP g mX5_characteristic 0 [(0, .ref (pw_ad g 29))] [] 0 σ Q := by
  refine wp_aload_n (pc := 0) 0 dX5_characteristic_0 rfl rfl ?_
  refine wp_callV (pc := 1) (M' := mX5_reduce) 29 [] [] dX5_characteristic_1 ck_X5_147 rfl rfl ⟨Nat.le_of_ble_eq_true rfl, Nat.le_of_ble_eq_true rfl⟩ rfl (Nat.le_of_ble_eq_true rfl) (Nat.le_of_ble_eq_true rfl) (Nat.le_of_ble_eq_true rfl) rfl ?_
  exact h1
set_option maxRecDepth 20000 in
theorem bX5_characteristic_4 {g : pw_G} {σ : pw_Mem} {Q : pw_R → Prop} (h1 : WP g mX5_characteristic 6 [(0, .ref (pw_ad g 29)), (1, .int (0 : Int32))] [] 0 σ Q) : WP g mX5_characteristic 4 [(0, .ref (pw_ad g 29))] [] 0 σ Q := by
  refine wp_iconst (pc := 4) (v := (0 : Int32)) dX5_characteristic_4 (by decide) ?_
  refine wp_istore_n (pc := 5) (lv' := [(0, .ref (pw_ad g 29)), (1, .int (0 : Int32))]) dX5_characteristic_5 rfl (by decide) rfl ?_
  exact h1
set_option maxRecDepth 20000 in
theorem bX5_characteristic_6 {g : pw_G} {σ : pw_Mem} {Q : pw_R → Prop} {x1 : Int32} (h1 : (511 : Int32) ≤ x1 → WP g mX5_characteristic 36 [(0, .ref (pw_ad g 29)), (1, .int (0 : Int32))] [] 0 σ Q) (h2 : ¬ (511 : Int32) ≤ x1 → ¬ x1 = 0 → vp_in x1 511) (h3 : ¬ (511 : Int32) ≤ x1 → ¬ x1 = 0 → WP g mX5_characteristic 6 [(0, .ref (pw_ad g 29)), (1, .int (x1 + 1))] [] 0 (pw_set σ 45 (x1).toNatClampNeg (0 : Int32)) Q) (h4 : ¬ (511 : Int32) ≤ x1 → x1 = 0 → vp_in x1 511) (h5 : ¬ (511 : Int32) ≤ x1 → x1 = 0 → WP g mX5_characteristic 6 [(0, .ref (pw_ad g 29)), (1, .int (x1 + 1))] [] 0 (pw_set σ 45 (x1).toNatClampNeg (1 : Int32)) Q) : WP g mX5_characteristic 6 [(0, .ref (pw_ad g 29)), (1, .int x1)] [] 0 σ Q := by
  refine wp_iload_n (pc := 6) 1 dX5_characteristic_6 rfl rfl ?_
  refine wp_sipush (pc := 7) (v := (511 : Int32)) dX5_characteristic_7 (by decide) ?_
  refine wp_icmp_ge (pc := 10) (tgt := 34) dX5_characteristic_10 (by decide) (fun c10 => ?_) (fun c10 => ?_)
  ·
    refine wp_iconst (pc := 34) (v := (0 : Int32)) dX5_characteristic_34 (by decide) ?_
    refine wp_istore_n (pc := 35) (lv' := [(0, .ref (pw_ad g 29)), (1, .int (0 : Int32))]) dX5_characteristic_35 rfl (by decide) rfl ?_
    exact h1 c10
  ·
    refine wp_aload_n (pc := 13) 0 dX5_characteristic_13 rfl rfl ?_
    refine wp_getR1 (pc := 14) 29 45 (o := 15) dX5_characteristic_14 rfl fk_X5_56 rfl rfl ?_
    refine wp_iload_n (pc := 17) 1 dX5_characteristic_17 rfl rfl ?_
    refine wp_iload_n (pc := 18) 1 dX5_characteristic_18 rfl rfl ?_
    refine wp_if_ne (pc := 19) (tgt := 26) dX5_characteristic_19 (by decide) (fun c19 => ?_) (fun c19 => ?_)
    ·
      refine wp_iconst (pc := 26) (v := (0 : Int32)) dX5_characteristic_26 (by decide) ?_
      refine wp_bastore (pc := 27) 45 dX5_characteristic_27 rfl (h2 c10 c19) ?_
      refine wp_iinc (pc := 28) (v := (x1 + 1)) (lv' := [(0, .ref (pw_ad g 29)), (1, .int (x1 + 1))]) 1 dX5_characteristic_28 rfl rfl (by decide) rfl ?_
      refine wp_goto (pc := 31) (tgt := 6) dX5_characteristic_31 (by decide) ?_
      exact h3 c10 c19
    ·
      refine wp_iconst (pc := 22) (v := (1 : Int32)) dX5_characteristic_22 (by decide) ?_
      refine wp_goto (pc := 23) (tgt := 27) dX5_characteristic_23 (by decide) ?_
      refine wp_bastore (pc := 27) 45 dX5_characteristic_27 rfl (h4 c10 c19) ?_
      refine wp_iinc (pc := 28) (v := (x1 + 1)) (lv' := [(0, .ref (pw_ad g 29)), (1, .int (x1 + 1))]) 1 dX5_characteristic_28 rfl rfl (by decide) rfl ?_
      refine wp_goto (pc := 31) (tgt := 6) dX5_characteristic_31 (by decide) ?_
      exact h5 c10 c19
set_option maxRecDepth 20000 in
theorem bX5_characteristic_36 {g : pw_G} {σ : pw_Mem} {Q : pw_R → Prop} {x1 : Int32} (h1 : (σ 29 20) ≤ x1 → Q (.inl none, σ)) (h2 : ¬ (σ 29 20) ≤ x1 → vp_in x1 5) (h3 : ¬ (σ 29 20) ≤ x1 → vp_in (σ 44 (x1).toNatClampNeg) 511) (h4 : ¬ (σ 29 20) ≤ x1 → WP g mX5_want 0 [(0, .ref (pw_ad g 29)), (1, .int (σ 44 (x1).toNatClampNeg)), (2, .int (0 : Int32))] [] 0 (pw_set σ 45 ((σ 44 (x1).toNatClampNeg)).toNatClampNeg (1 : Int32)) (pw_k g mX5_characteristic 64 [(0, .ref (pw_ad g 29)), (1, .int x1), (2, .int (σ 44 (x1).toNatClampNeg))] [] 0 Q)) : WP g mX5_characteristic 36 [(0, .ref (pw_ad g 29)), (1, .int x1)] [] 0 σ Q := by
  refine wp_iload_n (pc := 36) 1 dX5_characteristic_36 rfl rfl ?_
  refine wp_aload_n (pc := 37) 0 dX5_characteristic_37 rfl rfl ?_
  refine wp_getI (pc := 38) 29 dX5_characteristic_38 rfl fk_X5_138 rfl ?_
  refine wp_icmp_ge (pc := 41) (tgt := 119) dX5_characteristic_41 (by decide) (fun c41 => ?_) (fun c41 => ?_)
  ·
    exact wp_return (pc := 119) dX5_characteristic_119 rfl (Nat.le_of_ble_eq_true rfl) (h1 c41)
  ·
    refine wp_aload_n (pc := 44) 0 dX5_characteristic_44 rfl rfl ?_
    refine wp_getR1 (pc := 45) 29 44 (o := 14) dX5_characteristic_45 rfl fk_X5_53 rfl rfl ?_
    refine wp_iload_n (pc := 48) 1 dX5_characteristic_48 rfl rfl ?_
    refine wp_iaload (pc := 49) 44 dX5_characteristic_49 rfl (h2 c41) ?_
    refine wp_istore_n (pc := 50) (lv' := [(0, .ref (pw_ad g 29)), (1, .int x1), (2, .int (σ 44 (x1).toNatClampNeg))]) dX5_characteristic_50 rfl (by decide) rfl ?_
    refine wp_aload_n (pc := 51) 0 dX5_characteristic_51 rfl rfl ?_
    refine wp_getR1 (pc := 52) 29 45 (o := 15) dX5_characteristic_52 rfl fk_X5_56 rfl rfl ?_
    refine wp_iload_n (pc := 55) 2 dX5_characteristic_55 rfl rfl ?_
    refine wp_iconst (pc := 56) (v := (1 : Int32)) dX5_characteristic_56 (by decide) ?_
    refine wp_bastore (pc := 57) 45 dX5_characteristic_57 rfl (h3 c41) ?_
    refine wp_aload_n (pc := 58) 0 dX5_characteristic_58 rfl rfl ?_
    refine wp_iload_n (pc := 59) 2 dX5_characteristic_59 rfl rfl ?_
    refine wp_iconst (pc := 60) (v := (0 : Int32)) dX5_characteristic_60 (by decide) ?_
    refine wp_callV (pc := 61) (M' := mX5_want) 29 [.int (σ 44 (x1).toNatClampNeg), .int (0 : Int32)] [] dX5_characteristic_61 ck_X5_156 rfl rfl ⟨Nat.le_of_ble_eq_true rfl, Nat.le_of_ble_eq_true rfl⟩ rfl (Nat.le_of_ble_eq_true rfl) (Nat.le_of_ble_eq_true rfl) (Nat.le_of_ble_eq_true rfl) rfl ?_
    exact h4 c41
set_option maxRecDepth 20000 in
theorem bX5_characteristic_64 {g : pw_G} {σ : pw_Mem} {Q : pw_R → Prop} {x1 x2 : Int32} (h1 : WP g mX5_characteristic 66 [(0, .ref (pw_ad g 29)), (1, .int x1), (2, .int x2), (3, .int (0 : Int32))] [] 0 σ Q) : WP g mX5_characteristic 64 [(0, .ref (pw_ad g 29)), (1, .int x1), (2, .int x2)] [] 0 σ Q := by
  refine wp_iconst (pc := 64) (v := (0 : Int32)) dX5_characteristic_64 (by decide) ?_
  refine wp_istore_n (pc := 65) (lv' := [(0, .ref (pw_ad g 29)), (1, .int x1), (2, .int x2), (3, .int (0 : Int32))]) dX5_characteristic_65 rfl (by decide) rfl ?_
  exact h1
set_option maxRecDepth 20000 in
theorem bX5_characteristic_66 {g : pw_G} {σ : pw_Mem} {Q : pw_R → Prop} {x1 x2 x3 : Int32} (h1 : ((2 : Int32) * (σ 29 20)) ≤ x3 → WP g mX5_characteristic 36 [(0, .ref (pw_ad g 29)), (1, .int (x1 + 1)), (2, .int x2), (3, .int x3)] [] 0 σ Q) (h2 : ¬ ((2 : Int32) * (σ 29 20)) ≤ x3 → vp_in (x3 / (2 : Int32)) 5) (h3 : ¬ ((2 : Int32) * (σ 29 20)) ≤ x3 → WP g mX5_followed 0 [(0, .int (σ 44 ((x3 / (2 : Int32))).toNatClampNeg)), (1, .int (x3 - x3 / (2 : Int32) * (2 : Int32)))] [] 0 σ (pw_k g mX5_characteristic 90 [(0, .ref (pw_ad g 29)), (1, .int x1), (2, .int x2), (3, .int x3)] [] 0 Q)) : WP g mX5_characteristic 66 [(0, .ref (pw_ad g 29)), (1, .int x1), (2, .int x2), (3, .int x3)] [] 0 σ Q := by
  refine wp_iload_n (pc := 66) 3 dX5_characteristic_66 rfl rfl ?_
  refine wp_iconst (pc := 67) (v := (2 : Int32)) dX5_characteristic_67 (by decide) ?_
  refine wp_aload_n (pc := 68) 0 dX5_characteristic_68 rfl rfl ?_
  refine wp_getI (pc := 69) 29 dX5_characteristic_69 rfl fk_X5_138 rfl ?_
  refine wp_imul (pc := 72) dX5_characteristic_72 ?_
  refine wp_icmp_ge (pc := 73) (tgt := 113) dX5_characteristic_73 (by decide) (fun c73 => ?_) (fun c73 => ?_)
  ·
    refine wp_iinc (pc := 113) (v := (x1 + 1)) (lv' := [(0, .ref (pw_ad g 29)), (1, .int (x1 + 1)), (2, .int x2), (3, .int x3)]) 1 dX5_characteristic_113 rfl rfl (by decide) rfl ?_
    refine wp_goto (pc := 116) (tgt := 36) dX5_characteristic_116 (by decide) ?_
    exact h1 c73
  ·
    refine wp_aload_n (pc := 76) 0 dX5_characteristic_76 rfl rfl ?_
    refine wp_getR1 (pc := 77) 29 44 (o := 14) dX5_characteristic_77 rfl fk_X5_53 rfl rfl ?_
    refine wp_iload_n (pc := 80) 3 dX5_characteristic_80 rfl rfl ?_
    refine wp_iconst (pc := 81) (v := (2 : Int32)) dX5_characteristic_81 (by decide) ?_
    refine wp_idiv (pc := 82) dX5_characteristic_82 (by decide) ?_
    refine wp_iaload (pc := 83) 44 dX5_characteristic_83 rfl (h2 c73) ?_
    refine wp_iload_n (pc := 84) 3 dX5_characteristic_84 rfl rfl ?_
    refine wp_iconst (pc := 85) (v := (2 : Int32)) dX5_characteristic_85 (by decide) ?_
    refine wp_irem (pc := 86) dX5_characteristic_86 (by decide) ?_
    refine wp_callS (pc := 87) (M' := mX5_followed) [.int (σ 44 ((x3 / (2 : Int32))).toNatClampNeg), .int (x3 - x3 / (2 : Int32) * (2 : Int32))] [] dX5_characteristic_87 ck_X5_88 ⟨Nat.le_of_ble_eq_true rfl, Nat.le_of_ble_eq_true rfl⟩ rfl (Nat.le_of_ble_eq_true rfl) (Nat.le_of_ble_eq_true rfl) (Nat.le_of_ble_eq_true rfl) rfl ?_
    exact h3 c73
set_option maxRecDepth 20000 in
theorem bX5_characteristic_90 {g : pw_G} {σ : pw_Mem} {Q : pw_R → Prop} {s9 x1 x2 x3 : Int32} (h1 : vp_in s9 511) (h2 : WP g mX5_want 0 [(0, .ref (pw_ad g 29)), (1, .int x2), (2, .int s9)] [] 0 (pw_set σ 45 (s9).toNatClampNeg (1 : Int32)) (pw_k g mX5_characteristic 107 [(0, .ref (pw_ad g 29)), (1, .int x1), (2, .int x2), (3, .int x3), (4, .int s9)] [] 0 Q)) : WP g mX5_characteristic 90 [(0, .ref (pw_ad g 29)), (1, .int x1), (2, .int x2), (3, .int x3)] [.int s9] 0 σ Q := by
  refine wp_istore (pc := 90) (lv' := [(0, .ref (pw_ad g 29)), (1, .int x1), (2, .int x2), (3, .int x3), (4, .int s9)]) dX5_characteristic_90 (by decide) rfl ?_
  refine wp_aload_n (pc := 92) 0 dX5_characteristic_92 rfl rfl ?_
  refine wp_getR1 (pc := 93) 29 45 (o := 15) dX5_characteristic_93 rfl fk_X5_56 rfl rfl ?_
  refine wp_iload (pc := 96) 4 dX5_characteristic_96 rfl ?_
  refine wp_iconst (pc := 98) (v := (1 : Int32)) dX5_characteristic_98 (by decide) ?_
  refine wp_bastore (pc := 99) 45 dX5_characteristic_99 rfl (h1) ?_
  refine wp_aload_n (pc := 100) 0 dX5_characteristic_100 rfl rfl ?_
  refine wp_iload_n (pc := 101) 2 dX5_characteristic_101 rfl rfl ?_
  refine wp_iload (pc := 102) 4 dX5_characteristic_102 rfl ?_
  refine wp_callV (pc := 104) (M' := mX5_want) 29 [.int x2, .int s9] [] dX5_characteristic_104 ck_X5_156 rfl rfl ⟨Nat.le_of_ble_eq_true rfl, Nat.le_of_ble_eq_true rfl⟩ rfl (Nat.le_of_ble_eq_true rfl) (Nat.le_of_ble_eq_true rfl) (Nat.le_of_ble_eq_true rfl) rfl ?_
  exact h2
set_option maxRecDepth 20000 in
theorem bX5_characteristic_107 {g : pw_G} {σ : pw_Mem} {Q : pw_R → Prop} {x1 x2 x3 x4 : Int32} (h1 : WP g mX5_characteristic 66 [(0, .ref (pw_ad g 29)), (1, .int x1), (2, .int x2), (3, .int (x3 + 1)), (4, .int x4)] [] 0 σ Q) : WP g mX5_characteristic 107 [(0, .ref (pw_ad g 29)), (1, .int x1), (2, .int x2), (3, .int x3), (4, .int x4)] [] 0 σ Q := by
  refine wp_iinc (pc := 107) (v := (x3 + 1)) (lv' := [(0, .ref (pw_ad g 29)), (1, .int x1), (2, .int x2), (3, .int (x3 + 1)), (4, .int x4)]) 3 dX5_characteristic_107 rfl rfl (by decide) rfl ?_
  refine wp_goto (pc := 110) (tgt := 66) dX5_characteristic_110 (by decide) ?_
  exact h1
set_option maxRecDepth 20000 in
theorem bX5_signOf_0 {g : pw_G} {σ : pw_Mem} {Q : pw_R → Prop} {x1 : Int32} (h1 : WP g mX5_lead 0 [(0, .ref (pw_ad g 29)), (1, .int (0 : Int32)), (2, .int x1)] [] 0 σ (pw_k g mX5_signOf 10 [(0, .ref (pw_ad g 29)), (1, .int x1)] [.ref (pw_ad g 41)] 0 Q)) : WP g mX5_signOf 0 [(0, .ref (pw_ad g 29)), (1, .int x1)] [] 0 σ Q := by
  refine wp_aload_n (pc := 0) 0 dX5_signOf_0 rfl rfl ?_
  refine wp_getR1 (pc := 1) 29 41 (o := 11) dX5_signOf_1 rfl fk_X5_44 rfl rfl ?_
  refine wp_aload_n (pc := 4) 0 dX5_signOf_4 rfl rfl ?_
  refine wp_iconst (pc := 5) (v := (0 : Int32)) dX5_signOf_5 (by decide) ?_
  refine wp_iload_n (pc := 6) 1 dX5_signOf_6 rfl rfl ?_
  refine wp_callV (pc := 7) (M' := mX5_lead) 29 [.int (0 : Int32), .int x1] [.ref (pw_ad g 41)] dX5_signOf_7 ck_X5_135 rfl rfl ⟨Nat.le_of_ble_eq_true rfl, Nat.le_of_ble_eq_true rfl⟩ rfl (Nat.le_of_ble_eq_true rfl) (Nat.le_of_ble_eq_true rfl) (Nat.le_of_ble_eq_true rfl) rfl ?_
  exact h1
set_option maxRecDepth 20000 in
theorem bX5_signOf_10 {g : pw_G} {σ : pw_Mem} {Q : pw_R → Prop} {s9 x1 : Int32} (h1 : vp_in s9 5) (h2 : (σ 41 (s9).toNatClampNeg) = 0 → Q (.inl (some (.int (-1 : Int32))), σ)) (h3 : ¬ (σ 41 (s9).toNatClampNeg) = 0 → Q (.inl (some (.int (1 : Int32))), σ)) : WP g mX5_signOf 10 [(0, .ref (pw_ad g 29)), (1, .int x1)] [.int s9, .ref (pw_ad g 41)] 0 σ Q := by
  refine wp_baload (pc := 10) 41 dX5_signOf_10 rfl (h1) ?_
  refine wp_if_eq (pc := 11) (tgt := 18) dX5_signOf_11 (by decide) (fun c11 => ?_) (fun c11 => ?_)
  ·
    refine wp_iconst (pc := 18) (v := (-1 : Int32)) dX5_signOf_18 (by decide) ?_
    exact wp_ireturn (pc := 19) dX5_signOf_19 rfl rfl (Nat.le_of_ble_eq_true rfl) (h2 c11)
  ·
    refine wp_iconst (pc := 14) (v := (1 : Int32)) dX5_signOf_14 (by decide) ?_
    refine wp_goto (pc := 15) (tgt := 19) dX5_signOf_15 (by decide) ?_
    exact wp_ireturn (pc := 19) dX5_signOf_19 rfl rfl (Nat.le_of_ble_eq_true rfl) (h3 c11)
set_option maxRecDepth 20000 in
theorem bX5_exemplify_0 {g : pw_G} {σ : pw_Mem} {Q : pw_R → Prop} (h1 : (σ 29 17) ≤ 0 → WP g mX5_when 0 [(0, .ref (pw_ad g 29)), (1, .int (0 : Int32)), (2, .int (1 : Int32))] [] 0 σ (pw_k g mX5_exemplify 17 [(0, .ref (pw_ad g 29))] [] 0 Q)) (h2 : ¬ (σ 29 17) ≤ 0 → WP g mX5_when 0 [(0, .ref (pw_ad g 29)), (1, .int (1 : Int32)), (2, .int (1 : Int32))] [] 0 σ (pw_k g mX5_exemplify 17 [(0, .ref (pw_ad g 29))] [] 0 Q)) : WP g mX5_exemplify 0 [(0, .ref (pw_ad g 29))] [] 0 σ Q := by
  refine wp_aload_n (pc := 0) 0 dX5_exemplify_0 rfl rfl ?_
  refine wp_aload_n (pc := 1) 0 dX5_exemplify_1 rfl rfl ?_
  refine wp_getI (pc := 2) 29 dX5_exemplify_2 rfl fk_X5_129 rfl ?_
  refine wp_if_le (pc := 5) (tgt := 12) dX5_exemplify_5 (by decide) (fun c5 => ?_) (fun c5 => ?_)
  ·
    refine wp_iconst (pc := 12) (v := (0 : Int32)) dX5_exemplify_12 (by decide) ?_
    refine wp_iconst (pc := 13) (v := (1 : Int32)) dX5_exemplify_13 (by decide) ?_
    refine wp_callV (pc := 14) (M' := mX5_when) 29 [.int (0 : Int32), .int (1 : Int32)] [] dX5_exemplify_14 ck_X5_78 rfl rfl ⟨Nat.le_of_ble_eq_true rfl, Nat.le_of_ble_eq_true rfl⟩ rfl (Nat.le_of_ble_eq_true rfl) (Nat.le_of_ble_eq_true rfl) (Nat.le_of_ble_eq_true rfl) rfl ?_
    exact h1 c5
  ·
    refine wp_iconst (pc := 8) (v := (1 : Int32)) dX5_exemplify_8 (by decide) ?_
    refine wp_goto (pc := 9) (tgt := 13) dX5_exemplify_9 (by decide) ?_
    refine wp_iconst (pc := 13) (v := (1 : Int32)) dX5_exemplify_13 (by decide) ?_
    refine wp_callV (pc := 14) (M' := mX5_when) 29 [.int (1 : Int32), .int (1 : Int32)] [] dX5_exemplify_14 ck_X5_78 rfl rfl ⟨Nat.le_of_ble_eq_true rfl, Nat.le_of_ble_eq_true rfl⟩ rfl (Nat.le_of_ble_eq_true rfl) (Nat.le_of_ble_eq_true rfl) (Nat.le_of_ble_eq_true rfl) rfl ?_
    exact h2 c5
set_option maxRecDepth 20000 in
theorem bX5_exemplify_17 {g : pw_G} {σ : pw_Mem} {Q : pw_R → Prop} {s9 : Int32} (h1 : ¬ s9 = 0 → WP g mX5_characteristic 0 [(0, .ref (pw_ad g 29))] [] 0 σ (pw_k g mX5_exemplify 26 [(0, .ref (pw_ad g 29))] [] 0 Q)) (h2 : s9 = 0 → Q (.inl (some (.int (0 : Int32))), σ)) : WP g mX5_exemplify 17 [(0, .ref (pw_ad g 29))] [.int s9] 0 σ Q := by
  refine wp_if_ne (pc := 17) (tgt := 22) dX5_exemplify_17 (by decide) (fun c17 => ?_) (fun c17 => ?_)
  ·
    refine wp_aload_n (pc := 22) 0 dX5_exemplify_22 rfl rfl ?_
    refine wp_callV (pc := 23) (M' := mX5_characteristic) 29 [] [] dX5_exemplify_23 ck_X5_160 rfl rfl ⟨Nat.le_of_ble_eq_true rfl, Nat.le_of_ble_eq_true rfl⟩ rfl (Nat.le_of_ble_eq_true rfl) (Nat.le_of_ble_eq_true rfl) (Nat.le_of_ble_eq_true rfl) rfl ?_
    exact h1 c17
  ·
    refine wp_iconst (pc := 20) (v := (0 : Int32)) dX5_exemplify_20 (by decide) ?_
    exact wp_ireturn (pc := 21) dX5_exemplify_21 rfl rfl (Nat.le_of_ble_eq_true rfl) (h2 c17)
set_option maxRecDepth 20000 in
theorem bX5_exemplify_26 {g : pw_G} {σ : pw_Mem} {Q : pw_R → Prop} (h1 : WP g mX5_exemplify 30 [(0, .ref (pw_ad g 29)), (1, .int (1 : Int32)), (2, .int (0 : Int32))] [] 0 σ Q) : WP g mX5_exemplify 26 [(0, .ref (pw_ad g 29))] [] 0 σ Q := by
  refine wp_iconst (pc := 26) (v := (1 : Int32)) dX5_exemplify_26 (by decide) ?_
  refine wp_istore_n (pc := 27) (lv' := [(0, .ref (pw_ad g 29)), (1, .int (1 : Int32))]) dX5_exemplify_27 rfl (by decide) rfl ?_
  refine wp_iconst (pc := 28) (v := (0 : Int32)) dX5_exemplify_28 (by decide) ?_
  refine wp_istore_n (pc := 29) (lv' := [(0, .ref (pw_ad g 29)), (1, .int (1 : Int32)), (2, .int (0 : Int32))]) dX5_exemplify_29 rfl (by decide) rfl ?_
  exact h1
set_option maxRecDepth 20000 in
theorem bX5_exemplify_30 {g : pw_G} {σ : pw_Mem} {Q : pw_R → Prop} {x1 x2 : Int32} (h1 : (511 : Int32) ≤ x2 → WP g mX5_when 0 [(0, .ref (pw_ad g 29)), (1, .int x1), (2, .int (2 : Int32))] [] 0 σ (pw_k g mX5_exemplify 83 [(0, .ref (pw_ad g 29)), (1, .int x1), (2, .int x2)] [] 0 Q)) (h2 : ¬ (511 : Int32) ≤ x2 → x1 = 0 → WP g mX5_exemplify 30 [(0, .ref (pw_ad g 29)), (1, .int (0 : Int32)), (2, .int (x2 + 1))] [] 0 σ Q) (h3 : ¬ (511 : Int32) ≤ x2 → ¬ x1 = 0 → vp_in x2 511) (h4 : ¬ (511 : Int32) ≤ x2 → ¬ x1 = 0 → (σ 45 (x2).toNatClampNeg) = 0 → WP g mX5_exemplify 30 [(0, .ref (pw_ad g 29)), (1, .int (1 : Int32)), (2, .int (x2 + 1))] [] 0 σ Q) (h5 : ¬ (511 : Int32) ≤ x2 → ¬ x1 = 0 → ¬ (σ 45 (x2).toNatClampNeg) = 0 → vp_in x2 511) (h6 : ¬ (511 : Int32) ≤ x2 → ¬ x1 = 0 → ¬ (σ 45 (x2).toNatClampNeg) = 0 → WP g mX5_signOf 0 [(0, .ref (pw_ad g 29)), (1, .int x2)] [] 0 σ (pw_k g mX5_exemplify 61 [(0, .ref (pw_ad g 29)), (1, .int x1), (2, .int x2)] [.int (σ 30 (x2).toNatClampNeg)] 0 Q)) : WP g mX5_exemplify 30 [(0, .ref (pw_ad g 29)), (1, .int x1), (2, .int x2)] [] 0 σ Q := by
  refine wp_iload_n (pc := 30) 2 dX5_exemplify_30 rfl rfl ?_
  refine wp_sipush (pc := 31) (v := (511 : Int32)) dX5_exemplify_31 (by decide) ?_
  refine wp_icmp_ge (pc := 34) (tgt := 77) dX5_exemplify_34 (by decide) (fun c34 => ?_) (fun c34 => ?_)
  ·
    refine wp_aload_n (pc := 77) 0 dX5_exemplify_77 rfl rfl ?_
    refine wp_iload_n (pc := 78) 1 dX5_exemplify_78 rfl rfl ?_
    refine wp_iconst (pc := 79) (v := (2 : Int32)) dX5_exemplify_79 (by decide) ?_
    refine wp_callV (pc := 80) (M' := mX5_when) 29 [.int x1, .int (2 : Int32)] [] dX5_exemplify_80 ck_X5_78 rfl rfl ⟨Nat.le_of_ble_eq_true rfl, Nat.le_of_ble_eq_true rfl⟩ rfl (Nat.le_of_ble_eq_true rfl) (Nat.le_of_ble_eq_true rfl) (Nat.le_of_ble_eq_true rfl) rfl ?_
    exact h1 c34
  ·
    refine wp_iload_n (pc := 37) 1 dX5_exemplify_37 rfl rfl ?_
    refine wp_if_eq (pc := 38) (tgt := 69) dX5_exemplify_38 (by decide) (fun c38 => ?_) (fun c38 => ?_)
    ·
      refine wp_iconst (pc := 69) (v := (0 : Int32)) dX5_exemplify_69 (by decide) ?_
      refine wp_istore_n (pc := 70) (lv' := [(0, .ref (pw_ad g 29)), (1, .int (0 : Int32)), (2, .int x2)]) dX5_exemplify_70 rfl (by decide) rfl ?_
      refine wp_iinc (pc := 71) (v := (x2 + 1)) (lv' := [(0, .ref (pw_ad g 29)), (1, .int (0 : Int32)), (2, .int (x2 + 1))]) 2 dX5_exemplify_71 rfl rfl (by decide) rfl ?_
      refine wp_goto (pc := 74) (tgt := 30) dX5_exemplify_74 (by decide) ?_
      exact h2 c34 c38
    ·
      refine wp_aload_n (pc := 41) 0 dX5_exemplify_41 rfl rfl ?_
      refine wp_getR1 (pc := 42) 29 45 (o := 15) dX5_exemplify_42 rfl fk_X5_56 rfl rfl ?_
      refine wp_iload_n (pc := 45) 2 dX5_exemplify_45 rfl rfl ?_
      refine wp_baload (pc := 46) 45 dX5_exemplify_46 rfl (h3 c34 c38) ?_
      refine wp_if_eq (pc := 47) (tgt := 65) dX5_exemplify_47 (by decide) (fun c47 => ?_) (fun c47 => ?_)
      ·
        refine wp_iconst (pc := 65) (v := (1 : Int32)) dX5_exemplify_65 (by decide) ?_
        refine wp_goto (pc := 66) (tgt := 70) dX5_exemplify_66 (by decide) ?_
        refine wp_istore_n (pc := 70) (lv' := [(0, .ref (pw_ad g 29)), (1, .int (1 : Int32)), (2, .int x2)]) dX5_exemplify_70 rfl (by decide) rfl ?_
        refine wp_iinc (pc := 71) (v := (x2 + 1)) (lv' := [(0, .ref (pw_ad g 29)), (1, .int (1 : Int32)), (2, .int (x2 + 1))]) 2 dX5_exemplify_71 rfl rfl (by decide) rfl ?_
        refine wp_goto (pc := 74) (tgt := 30) dX5_exemplify_74 (by decide) ?_
        exact h4 c34 c38 c47
      ·
        refine wp_aload_n (pc := 50) 0 dX5_exemplify_50 rfl rfl ?_
        refine wp_getR1 (pc := 51) 29 30 (o := 0) dX5_exemplify_51 rfl fk_X5_7 rfl rfl ?_
        refine wp_iload_n (pc := 54) 2 dX5_exemplify_54 rfl rfl ?_
        refine wp_iaload (pc := 55) 30 dX5_exemplify_55 rfl (h5 c34 c38 c47) ?_
        refine wp_aload_n (pc := 56) 0 dX5_exemplify_56 rfl rfl ?_
        refine wp_iload_n (pc := 57) 2 dX5_exemplify_57 rfl rfl ?_
        refine wp_callV (pc := 58) (M' := mX5_signOf) 29 [.int x2] [.int (σ 30 (x2).toNatClampNeg)] dX5_exemplify_58 ck_X5_163 rfl rfl ⟨Nat.le_of_ble_eq_true rfl, Nat.le_of_ble_eq_true rfl⟩ rfl (Nat.le_of_ble_eq_true rfl) (Nat.le_of_ble_eq_true rfl) (Nat.le_of_ble_eq_true rfl) rfl ?_
        exact h6 c34 c38 c47
set_option maxRecDepth 20000 in
theorem bX5_exemplify_83 {g : pw_G} {σ : pw_Mem} {Q : pw_R → Prop} {s9 x1 x2 : Int32} (h1 : ¬ s9 = 0 → WP g mX5_exemplify 92 [(0, .ref (pw_ad g 29)), (1, .int x1), (2, .int (0 : Int32)), (3, .int (0 : Int32))] [] 0 σ Q) (h2 : s9 = 0 → Q (.inl (some (.int (0 : Int32))), σ)) : WP g mX5_exemplify 83 [(0, .ref (pw_ad g 29)), (1, .int x1), (2, .int x2)] [.int s9] 0 σ Q := by
  refine wp_if_ne (pc := 83) (tgt := 88) dX5_exemplify_83 (by decide) (fun c83 => ?_) (fun c83 => ?_)
  ·
    refine wp_iconst (pc := 88) (v := (0 : Int32)) dX5_exemplify_88 (by decide) ?_
    refine wp_istore_n (pc := 89) (lv' := [(0, .ref (pw_ad g 29)), (1, .int x1), (2, .int (0 : Int32))]) dX5_exemplify_89 rfl (by decide) rfl ?_
    refine wp_iconst (pc := 90) (v := (0 : Int32)) dX5_exemplify_90 (by decide) ?_
    refine wp_istore_n (pc := 91) (lv' := [(0, .ref (pw_ad g 29)), (1, .int x1), (2, .int (0 : Int32)), (3, .int (0 : Int32))]) dX5_exemplify_91 rfl (by decide) rfl ?_
    exact h1 c83
  ·
    refine wp_iconst (pc := 86) (v := (0 : Int32)) dX5_exemplify_86 (by decide) ?_
    exact wp_ireturn (pc := 87) dX5_exemplify_87 rfl rfl (Nat.le_of_ble_eq_true rfl) (h2 c83)
set_option maxRecDepth 20000 in
theorem bX5_exemplify_61 {g : pw_G} {σ : pw_Mem} {Q : pw_R → Prop} {s0 s9 x1 x2 : Int32} (h1 : s0 = (-s9) → WP g mX5_exemplify 30 [(0, .ref (pw_ad g 29)), (1, .int (0 : Int32)), (2, .int (x2 + 1))] [] 0 σ Q) (h2 : ¬ s0 = (-s9) → WP g mX5_exemplify 30 [(0, .ref (pw_ad g 29)), (1, .int (1 : Int32)), (2, .int (x2 + 1))] [] 0 σ Q) : WP g mX5_exemplify 61 [(0, .ref (pw_ad g 29)), (1, .int x1), (2, .int x2)] [.int s9, .int s0] 0 σ Q := by
  refine wp_ineg (pc := 61) dX5_exemplify_61 ?_
  refine wp_icmp_eq (pc := 62) (tgt := 69) dX5_exemplify_62 (by decide) (fun c62 => ?_) (fun c62 => ?_)
  ·
    refine wp_iconst (pc := 69) (v := (0 : Int32)) dX5_exemplify_69 (by decide) ?_
    refine wp_istore_n (pc := 70) (lv' := [(0, .ref (pw_ad g 29)), (1, .int (0 : Int32)), (2, .int x2)]) dX5_exemplify_70 rfl (by decide) rfl ?_
    refine wp_iinc (pc := 71) (v := (x2 + 1)) (lv' := [(0, .ref (pw_ad g 29)), (1, .int (0 : Int32)), (2, .int (x2 + 1))]) 2 dX5_exemplify_71 rfl rfl (by decide) rfl ?_
    refine wp_goto (pc := 74) (tgt := 30) dX5_exemplify_74 (by decide) ?_
    exact h1 c62
  ·
    refine wp_iconst (pc := 65) (v := (1 : Int32)) dX5_exemplify_65 (by decide) ?_
    refine wp_goto (pc := 66) (tgt := 70) dX5_exemplify_66 (by decide) ?_
    refine wp_istore_n (pc := 70) (lv' := [(0, .ref (pw_ad g 29)), (1, .int (1 : Int32)), (2, .int x2)]) dX5_exemplify_70 rfl (by decide) rfl ?_
    refine wp_iinc (pc := 71) (v := (x2 + 1)) (lv' := [(0, .ref (pw_ad g 29)), (1, .int (1 : Int32)), (2, .int (x2 + 1))]) 2 dX5_exemplify_71 rfl rfl (by decide) rfl ?_
    refine wp_goto (pc := 74) (tgt := 30) dX5_exemplify_74 (by decide) ?_
    exact h2 c62
set_option maxRecDepth 20000 in
theorem bX5_exemplify_92 {g : pw_G} {σ : pw_Mem} {Q : pw_R → Prop} {x1 x2 x3 : Int32} (h1 : (511 : Int32) ≤ x3 → Q (.inl (some (.int x2)), (pw_set σ 29 1 ((σ 29 1) + x2)))) (h2 : ¬ (511 : Int32) ≤ x3 → vp_in x3 511) (h3 : ¬ (511 : Int32) ≤ x3 → (σ 45 (x3).toNatClampNeg) = 0 → WP g mX5_exemplify 92 [(0, .ref (pw_ad g 29)), (1, .int x1), (2, .int x2), (3, .int (x3 + 1))] [] 0 σ Q) (h4 : ¬ (511 : Int32) ≤ x3 → ¬ (σ 45 (x3).toNatClampNeg) = 0 → vp_in x3 511) (h5 : ¬ (511 : Int32) ≤ x3 → ¬ (σ 45 (x3).toNatClampNeg) = 0 → ¬ (σ 30 (x3).toNatClampNeg) = 0 → WP g mX5_exemplify 92 [(0, .ref (pw_ad g 29)), (1, .int x1), (2, .int x2), (3, .int (x3 + 1))] [] 0 σ Q) (h6 : ¬ (511 : Int32) ≤ x3 → ¬ (σ 45 (x3).toNatClampNeg) = 0 → (σ 30 (x3).toNatClampNeg) = 0 → WP g mX5_signOf 0 [(0, .ref (pw_ad g 29)), (1, .int x3)] [] 0 σ (pw_k g mX5_exemplify 127 [(0, .ref (pw_ad g 29)), (1, .int x1), (2, .int x2), (3, .int x3)] [.int x3, .ref (pw_ad g 30)] 0 Q)) : WP g mX5_exemplify 92 [(0, .ref (pw_ad g 29)), (1, .int x1), (2, .int x2), (3, .int x3)] [] 0 σ Q := by
  refine wp_iload_n (pc := 92) 3 dX5_exemplify_92 rfl rfl ?_
  refine wp_sipush (pc := 93) (v := (511 : Int32)) dX5_exemplify_93 (by decide) ?_
  refine wp_icmp_ge (pc := 96) (tgt := 137) dX5_exemplify_96 (by decide) (fun c96 => ?_) (fun c96 => ?_)
  ·
    refine wp_aload_n (pc := 137) 0 dX5_exemplify_137 rfl rfl ?_
    refine wp_dup (pc := 138) dX5_exemplify_138 rfl ?_
    refine wp_getI (pc := 139) 29 dX5_exemplify_139 rfl fk_X5_82 rfl ?_
    refine wp_iload_n (pc := 142) 2 dX5_exemplify_142 rfl rfl ?_
    refine wp_iadd (pc := 143) dX5_exemplify_143 ?_
    refine wp_putI (pc := 144) 29 dX5_exemplify_144 rfl pk_X5_82 rfl ?_
    refine wp_iload_n (pc := 147) 2 dX5_exemplify_147 rfl rfl ?_
    exact wp_ireturn (pc := 148) dX5_exemplify_148 rfl rfl (Nat.le_of_ble_eq_true rfl) (h1 c96)
  ·
    refine wp_aload_n (pc := 99) 0 dX5_exemplify_99 rfl rfl ?_
    refine wp_getR1 (pc := 100) 29 45 (o := 15) dX5_exemplify_100 rfl fk_X5_56 rfl rfl ?_
    refine wp_iload_n (pc := 103) 3 dX5_exemplify_103 rfl rfl ?_
    refine wp_baload (pc := 104) 45 dX5_exemplify_104 rfl (h2 c96) ?_
    refine wp_if_eq (pc := 105) (tgt := 131) dX5_exemplify_105 (by decide) (fun c105 => ?_) (fun c105 => ?_)
    ·
      refine wp_iinc (pc := 131) (v := (x3 + 1)) (lv' := [(0, .ref (pw_ad g 29)), (1, .int x1), (2, .int x2), (3, .int (x3 + 1))]) 3 dX5_exemplify_131 rfl rfl (by decide) rfl ?_
      refine wp_goto (pc := 134) (tgt := 92) dX5_exemplify_134 (by decide) ?_
      exact h3 c96 c105
    ·
      refine wp_aload_n (pc := 108) 0 dX5_exemplify_108 rfl rfl ?_
      refine wp_getR1 (pc := 109) 29 30 (o := 0) dX5_exemplify_109 rfl fk_X5_7 rfl rfl ?_
      refine wp_iload_n (pc := 112) 3 dX5_exemplify_112 rfl rfl ?_
      refine wp_iaload (pc := 113) 30 dX5_exemplify_113 rfl (h4 c96 c105) ?_
      refine wp_if_ne (pc := 114) (tgt := 131) dX5_exemplify_114 (by decide) (fun c114 => ?_) (fun c114 => ?_)
      ·
        refine wp_iinc (pc := 131) (v := (x3 + 1)) (lv' := [(0, .ref (pw_ad g 29)), (1, .int x1), (2, .int x2), (3, .int (x3 + 1))]) 3 dX5_exemplify_131 rfl rfl (by decide) rfl ?_
        refine wp_goto (pc := 134) (tgt := 92) dX5_exemplify_134 (by decide) ?_
        exact h5 c96 c105 c114
      ·
        refine wp_aload_n (pc := 117) 0 dX5_exemplify_117 rfl rfl ?_
        refine wp_getR1 (pc := 118) 29 30 (o := 0) dX5_exemplify_118 rfl fk_X5_7 rfl rfl ?_
        refine wp_iload_n (pc := 121) 3 dX5_exemplify_121 rfl rfl ?_
        refine wp_aload_n (pc := 122) 0 dX5_exemplify_122 rfl rfl ?_
        refine wp_iload_n (pc := 123) 3 dX5_exemplify_123 rfl rfl ?_
        refine wp_callV (pc := 124) (M' := mX5_signOf) 29 [.int x3] [.int x3, .ref (pw_ad g 30)] dX5_exemplify_124 ck_X5_163 rfl rfl ⟨Nat.le_of_ble_eq_true rfl, Nat.le_of_ble_eq_true rfl⟩ rfl (Nat.le_of_ble_eq_true rfl) (Nat.le_of_ble_eq_true rfl) (Nat.le_of_ble_eq_true rfl) rfl ?_
        exact h6 c96 c105 c114
set_option maxRecDepth 20000 in
theorem bX5_exemplify_127 {g : pw_G} {σ : pw_Mem} {Q : pw_R → Prop} {s0 s9 x1 x2 x3 : Int32} (h1 : vp_in s0 511) (h2 : WP g mX5_exemplify 92 [(0, .ref (pw_ad g 29)), (1, .int x1), (2, .int (x2 + 1)), (3, .int (x3 + 1))] [] 0 (pw_set σ 30 (s0).toNatClampNeg s9) Q) : WP g mX5_exemplify 127 [(0, .ref (pw_ad g 29)), (1, .int x1), (2, .int x2), (3, .int x3)] [.int s9, .int s0, .ref (pw_ad g 30)] 0 σ Q := by
  refine wp_iastore (pc := 127) 30 dX5_exemplify_127 rfl (h1) ?_
  refine wp_iinc (pc := 128) (v := (x2 + 1)) (lv' := [(0, .ref (pw_ad g 29)), (1, .int x1), (2, .int (x2 + 1)), (3, .int x3)]) 2 dX5_exemplify_128 rfl rfl (by decide) rfl ?_
  refine wp_iinc (pc := 131) (v := (x3 + 1)) (lv' := [(0, .ref (pw_ad g 29)), (1, .int x1), (2, .int (x2 + 1)), (3, .int (x3 + 1))]) 3 dX5_exemplify_131 rfl rfl (by decide) rfl ?_
  refine wp_goto (pc := 134) (tgt := 92) dX5_exemplify_134 (by decide) ?_
  exact h2
set_option maxRecDepth 20000 in
theorem bX5_same_0 {g : pw_G} {σ : pw_Mem} {Q : pw_R → Prop} (h1 : (σ 29 17) ≤ 0 → WP g mX5_when 0 [(0, .ref (pw_ad g 29)), (1, .int (0 : Int32)), (2, .int (1 : Int32))] [] 0 σ (pw_k g mX5_same 24 [(0, .ref (pw_ad g 29))] [] 0 Q)) (h2 : ¬ (σ 29 17) ≤ 0 → (σ 29 14) ≤ 0 → WP g mX5_when 0 [(0, .ref (pw_ad g 29)), (1, .int (0 : Int32)), (2, .int (1 : Int32))] [] 0 σ (pw_k g mX5_same 24 [(0, .ref (pw_ad g 29))] [] 0 Q)) (h3 : ¬ (σ 29 17) ≤ 0 → ¬ (σ 29 14) ≤ 0 → WP g mX5_when 0 [(0, .ref (pw_ad g 29)), (1, .int (1 : Int32)), (2, .int (1 : Int32))] [] 0 σ (pw_k g mX5_same 24 [(0, .ref (pw_ad g 29))] [] 0 Q)) : WP g mX5_same 0 [(0, .ref (pw_ad g 29))] [] 0 σ Q := by
  refine wp_aload_n (pc := 0) 0 dX5_same_0 rfl rfl ?_
  refine wp_aload_n (pc := 1) 0 dX5_same_1 rfl rfl ?_
  refine wp_getI (pc := 2) 29 dX5_same_2 rfl fk_X5_129 rfl ?_
  refine wp_if_le (pc := 5) (tgt := 19) dX5_same_5 (by decide) (fun c5 => ?_) (fun c5 => ?_)
  ·
    refine wp_iconst (pc := 19) (v := (0 : Int32)) dX5_same_19 (by decide) ?_
    refine wp_iconst (pc := 20) (v := (1 : Int32)) dX5_same_20 (by decide) ?_
    refine wp_callV (pc := 21) (M' := mX5_when) 29 [.int (0 : Int32), .int (1 : Int32)] [] dX5_same_21 ck_X5_78 rfl rfl ⟨Nat.le_of_ble_eq_true rfl, Nat.le_of_ble_eq_true rfl⟩ rfl (Nat.le_of_ble_eq_true rfl) (Nat.le_of_ble_eq_true rfl) (Nat.le_of_ble_eq_true rfl) rfl ?_
    exact h1 c5
  ·
    refine wp_aload_n (pc := 8) 0 dX5_same_8 rfl rfl ?_
    refine wp_getI (pc := 9) 29 dX5_same_9 rfl fk_X5_122 rfl ?_
    refine wp_if_le (pc := 12) (tgt := 19) dX5_same_12 (by decide) (fun c12 => ?_) (fun c12 => ?_)
    ·
      refine wp_iconst (pc := 19) (v := (0 : Int32)) dX5_same_19 (by decide) ?_
      refine wp_iconst (pc := 20) (v := (1 : Int32)) dX5_same_20 (by decide) ?_
      refine wp_callV (pc := 21) (M' := mX5_when) 29 [.int (0 : Int32), .int (1 : Int32)] [] dX5_same_21 ck_X5_78 rfl rfl ⟨Nat.le_of_ble_eq_true rfl, Nat.le_of_ble_eq_true rfl⟩ rfl (Nat.le_of_ble_eq_true rfl) (Nat.le_of_ble_eq_true rfl) (Nat.le_of_ble_eq_true rfl) rfl ?_
      exact h2 c5 c12
    ·
      refine wp_iconst (pc := 15) (v := (1 : Int32)) dX5_same_15 (by decide) ?_
      refine wp_goto (pc := 16) (tgt := 20) dX5_same_16 (by decide) ?_
      refine wp_iconst (pc := 20) (v := (1 : Int32)) dX5_same_20 (by decide) ?_
      refine wp_callV (pc := 21) (M' := mX5_when) 29 [.int (1 : Int32), .int (1 : Int32)] [] dX5_same_21 ck_X5_78 rfl rfl ⟨Nat.le_of_ble_eq_true rfl, Nat.le_of_ble_eq_true rfl⟩ rfl (Nat.le_of_ble_eq_true rfl) (Nat.le_of_ble_eq_true rfl) (Nat.le_of_ble_eq_true rfl) rfl ?_
      exact h3 c5 c12
set_option maxRecDepth 20000 in
theorem bX5_same_24 {g : pw_G} {σ : pw_Mem} {Q : pw_R → Prop} {s9 : Int32} (h1 : ¬ s9 = 0 → WP g mX5_reduce 0 [(0, .ref (pw_ad g 29))] [] 0 σ (pw_k g mX5_same 33 [(0, .ref (pw_ad g 29))] [] 0 Q)) (h2 : s9 = 0 → Q (.inl (some (.int (0 : Int32))), σ)) : WP g mX5_same 24 [(0, .ref (pw_ad g 29))] [.int s9] 0 σ Q := by
  refine wp_if_ne (pc := 24) (tgt := 29) dX5_same_24 (by decide) (fun c24 => ?_) (fun c24 => ?_)
  ·
    refine wp_aload_n (pc := 29) 0 dX5_same_29 rfl rfl ?_
    refine wp_callV (pc := 30) (M' := mX5_reduce) 29 [] [] dX5_same_30 ck_X5_147 rfl rfl ⟨Nat.le_of_ble_eq_true rfl, Nat.le_of_ble_eq_true rfl⟩ rfl (Nat.le_of_ble_eq_true rfl) (Nat.le_of_ble_eq_true rfl) (Nat.le_of_ble_eq_true rfl) rfl ?_
    exact h1 c24
  ·
    refine wp_iconst (pc := 27) (v := (0 : Int32)) dX5_same_27 (by decide) ?_
    exact wp_ireturn (pc := 28) dX5_same_28 rfl (by decide) (Nat.le_of_ble_eq_true rfl) (h2 c24)
set_option maxRecDepth 20000 in
theorem bX5_same_33 {g : pw_G} {σ : pw_Mem} {Q : pw_R → Prop} (h1 : ¬ (σ 29 20) = (σ 29 14) → WP g mX5_same 52 [(0, .ref (pw_ad g 29)), (1, .int (0 : Int32)), (2, .int (0 : Int32))] [] 0 σ Q) (h2 : (σ 29 20) = (σ 29 14) → WP g mX5_same 52 [(0, .ref (pw_ad g 29)), (1, .int (1 : Int32)), (2, .int (0 : Int32))] [] 0 σ Q) : WP g mX5_same 33 [(0, .ref (pw_ad g 29))] [] 0 σ Q := by
  refine wp_aload_n (pc := 33) 0 dX5_same_33 rfl rfl ?_
  refine wp_getI (pc := 34) 29 dX5_same_34 rfl fk_X5_138 rfl ?_
  refine wp_aload_n (pc := 37) 0 dX5_same_37 rfl rfl ?_
  refine wp_getI (pc := 38) 29 dX5_same_38 rfl fk_X5_122 rfl ?_
  refine wp_icmp_ne (pc := 41) (tgt := 48) dX5_same_41 (by decide) (fun c41 => ?_) (fun c41 => ?_)
  ·
    refine wp_iconst (pc := 48) (v := (0 : Int32)) dX5_same_48 (by decide) ?_
    refine wp_istore_n (pc := 49) (lv' := [(0, .ref (pw_ad g 29)), (1, .int (0 : Int32))]) dX5_same_49 rfl (by decide) rfl ?_
    refine wp_iconst (pc := 50) (v := (0 : Int32)) dX5_same_50 (by decide) ?_
    refine wp_istore_n (pc := 51) (lv' := [(0, .ref (pw_ad g 29)), (1, .int (0 : Int32)), (2, .int (0 : Int32))]) dX5_same_51 rfl (by decide) rfl ?_
    exact h1 c41
  ·
    refine wp_iconst (pc := 44) (v := (1 : Int32)) dX5_same_44 (by decide) ?_
    refine wp_goto (pc := 45) (tgt := 49) dX5_same_45 (by decide) ?_
    refine wp_istore_n (pc := 49) (lv' := [(0, .ref (pw_ad g 29)), (1, .int (1 : Int32))]) dX5_same_49 rfl (by decide) rfl ?_
    refine wp_iconst (pc := 50) (v := (0 : Int32)) dX5_same_50 (by decide) ?_
    refine wp_istore_n (pc := 51) (lv' := [(0, .ref (pw_ad g 29)), (1, .int (1 : Int32)), (2, .int (0 : Int32))]) dX5_same_51 rfl (by decide) rfl ?_
    exact h2 c41
set_option maxRecDepth 20000 in
theorem bX5_same_52 {g : pw_G} {σ : pw_Mem} {Q : pw_R → Prop} {x1 x2 : Int32} (h1 : (σ 29 20) ≤ x2 → pw_bool x1) (h2 : (σ 29 20) ≤ x2 → Q (.inl (some (.int x1)), σ)) (h3 : ¬ (σ 29 20) ≤ x2 → x1 = 0 → pw_bool x1) (h4 : ¬ (σ 29 20) ≤ x2 → x1 = 0 → Q (.inl (some (.int x1)), σ)) (h5 : ¬ (σ 29 20) ≤ x2 → ¬ x1 = 0 → vp_in x2 511) (h6 : ¬ (σ 29 20) ≤ x2 → ¬ x1 = 0 → vp_in x2 5) (h7 : ¬ (σ 29 20) ≤ x2 → ¬ x1 = 0 → vp_in (σ 43 (x2).toNatClampNeg) 5) (h8 : ¬ (σ 29 20) ≤ x2 → ¬ x1 = 0 → (σ 41 ((σ 43 (x2).toNatClampNeg)).toNatClampNeg) = 0 → ¬ (σ 40 (x2).toNatClampNeg) = (-1 : Int32) → WP g mX5_same 100 [(0, .ref (pw_ad g 29)), (1, .int (0 : Int32)), (2, .int x2), (3, .int (0 : Int32))] [] 0 σ Q) (h9 : ¬ (σ 29 20) ≤ x2 → ¬ x1 = 0 → (σ 41 ((σ 43 (x2).toNatClampNeg)).toNatClampNeg) = 0 → (σ 40 (x2).toNatClampNeg) = (-1 : Int32) → WP g mX5_same 100 [(0, .ref (pw_ad g 29)), (1, .int (1 : Int32)), (2, .int x2), (3, .int (0 : Int32))] [] 0 σ Q) (h10 : ¬ (σ 29 20) ≤ x2 → ¬ x1 = 0 → ¬ (σ 41 ((σ 43 (x2).toNatClampNeg)).toNatClampNeg) = 0 → ¬ (σ 40 (x2).toNatClampNeg) = (1 : Int32) → WP g mX5_same 100 [(0, .ref (pw_ad g 29)), (1, .int (0 : Int32)), (2, .int x2), (3, .int (0 : Int32))] [] 0 σ Q) (h11 : ¬ (σ 29 20) ≤ x2 → ¬ x1 = 0 → ¬ (σ 41 ((σ 43 (x2).toNatClampNeg)).toNatClampNeg) = 0 → (σ 40 (x2).toNatClampNeg) = (1 : Int32) → WP g mX5_same 100 [(0, .ref (pw_ad g 29)), (1, .int (1 : Int32)), (2, .int x2), (3, .int (0 : Int32))] [] 0 σ Q) : WP g mX5_same 52 [(0, .ref (pw_ad g 29)), (1, .int x1), (2, .int x2)] [] 0 σ Q := by
  refine wp_iload_n (pc := 52) 2 dX5_same_52 rfl rfl ?_
  refine wp_aload_n (pc := 53) 0 dX5_same_53 rfl rfl ?_
  refine wp_getI (pc := 54) 29 dX5_same_54 rfl fk_X5_138 rfl ?_
  refine wp_icmp_ge (pc := 57) (tgt := 159) dX5_same_57 (by decide) (fun c57 => ?_) (fun c57 => ?_)
  ·
    refine wp_iload_n (pc := 159) 1 dX5_same_159 rfl rfl ?_
    exact wp_ireturn (pc := 160) dX5_same_160 rfl (pw_nb (h1 c57)) (Nat.le_of_ble_eq_true rfl) (h2 c57)
  ·
    refine wp_iload_n (pc := 60) 1 dX5_same_60 rfl rfl ?_
    refine wp_if_eq (pc := 61) (tgt := 159) dX5_same_61 (by decide) (fun c61 => ?_) (fun c61 => ?_)
    ·
      refine wp_iload_n (pc := 159) 1 dX5_same_159 rfl rfl ?_
      exact wp_ireturn (pc := 160) dX5_same_160 rfl (pw_nb (h3 c57 c61)) (Nat.le_of_ble_eq_true rfl) (h4 c57 c61)
    ·
      refine wp_aload_n (pc := 64) 0 dX5_same_64 rfl rfl ?_
      refine wp_getR1 (pc := 65) 29 40 (o := 10) dX5_same_65 rfl fk_X5_41 rfl rfl ?_
      refine wp_iload_n (pc := 68) 2 dX5_same_68 rfl rfl ?_
      refine wp_iaload (pc := 69) 40 dX5_same_69 rfl (h5 c57 c61) ?_
      refine wp_aload_n (pc := 70) 0 dX5_same_70 rfl rfl ?_
      refine wp_getR1 (pc := 71) 29 41 (o := 11) dX5_same_71 rfl fk_X5_44 rfl rfl ?_
      refine wp_aload_n (pc := 74) 0 dX5_same_74 rfl rfl ?_
      refine wp_getR1 (pc := 75) 29 43 (o := 13) dX5_same_75 rfl fk_X5_50 rfl rfl ?_
      refine wp_iload_n (pc := 78) 2 dX5_same_78 rfl rfl ?_
      refine wp_iaload (pc := 79) 43 dX5_same_79 rfl (h6 c57 c61) ?_
      refine wp_baload (pc := 80) 41 dX5_same_80 rfl (h7 c57 c61) ?_
      refine wp_if_eq (pc := 81) (tgt := 88) dX5_same_81 (by decide) (fun c81 => ?_) (fun c81 => ?_)
      ·
        refine wp_iconst (pc := 88) (v := (-1 : Int32)) dX5_same_88 (by decide) ?_
        refine wp_icmp_ne (pc := 89) (tgt := 96) dX5_same_89 (by decide) (fun c89 => ?_) (fun c89 => ?_)
        ·
          refine wp_iconst (pc := 96) (v := (0 : Int32)) dX5_same_96 (by decide) ?_
          refine wp_istore_n (pc := 97) (lv' := [(0, .ref (pw_ad g 29)), (1, .int (0 : Int32)), (2, .int x2)]) dX5_same_97 rfl (by decide) rfl ?_
          refine wp_iconst (pc := 98) (v := (0 : Int32)) dX5_same_98 (by decide) ?_
          refine wp_istore_n (pc := 99) (lv' := [(0, .ref (pw_ad g 29)), (1, .int (0 : Int32)), (2, .int x2), (3, .int (0 : Int32))]) dX5_same_99 rfl (by decide) rfl ?_
          exact h8 c57 c61 c81 c89
        ·
          refine wp_iconst (pc := 92) (v := (1 : Int32)) dX5_same_92 (by decide) ?_
          refine wp_goto (pc := 93) (tgt := 97) dX5_same_93 (by decide) ?_
          refine wp_istore_n (pc := 97) (lv' := [(0, .ref (pw_ad g 29)), (1, .int (1 : Int32)), (2, .int x2)]) dX5_same_97 rfl (by decide) rfl ?_
          refine wp_iconst (pc := 98) (v := (0 : Int32)) dX5_same_98 (by decide) ?_
          refine wp_istore_n (pc := 99) (lv' := [(0, .ref (pw_ad g 29)), (1, .int (1 : Int32)), (2, .int x2), (3, .int (0 : Int32))]) dX5_same_99 rfl (by decide) rfl ?_
          exact h9 c57 c61 c81 c89
      ·
        refine wp_iconst (pc := 84) (v := (1 : Int32)) dX5_same_84 (by decide) ?_
        refine wp_goto (pc := 85) (tgt := 89) dX5_same_85 (by decide) ?_
        refine wp_icmp_ne (pc := 89) (tgt := 96) dX5_same_89 (by decide) (fun c89 => ?_) (fun c89 => ?_)
        ·
          refine wp_iconst (pc := 96) (v := (0 : Int32)) dX5_same_96 (by decide) ?_
          refine wp_istore_n (pc := 97) (lv' := [(0, .ref (pw_ad g 29)), (1, .int (0 : Int32)), (2, .int x2)]) dX5_same_97 rfl (by decide) rfl ?_
          refine wp_iconst (pc := 98) (v := (0 : Int32)) dX5_same_98 (by decide) ?_
          refine wp_istore_n (pc := 99) (lv' := [(0, .ref (pw_ad g 29)), (1, .int (0 : Int32)), (2, .int x2), (3, .int (0 : Int32))]) dX5_same_99 rfl (by decide) rfl ?_
          exact h10 c57 c61 c81 c89
        ·
          refine wp_iconst (pc := 92) (v := (1 : Int32)) dX5_same_92 (by decide) ?_
          refine wp_goto (pc := 93) (tgt := 97) dX5_same_93 (by decide) ?_
          refine wp_istore_n (pc := 97) (lv' := [(0, .ref (pw_ad g 29)), (1, .int (1 : Int32)), (2, .int x2)]) dX5_same_97 rfl (by decide) rfl ?_
          refine wp_iconst (pc := 98) (v := (0 : Int32)) dX5_same_98 (by decide) ?_
          refine wp_istore_n (pc := 99) (lv' := [(0, .ref (pw_ad g 29)), (1, .int (1 : Int32)), (2, .int x2), (3, .int (0 : Int32))]) dX5_same_99 rfl (by decide) rfl ?_
          exact h11 c57 c61 c81 c89
set_option maxRecDepth 20000 in
theorem bX5_same_100 {g : pw_G} {σ : pw_Mem} {Q : pw_R → Prop} {x1 x2 x3 : Int32} (h1 : (2 : Int32) ≤ x3 → WP g mX5_same 52 [(0, .ref (pw_ad g 29)), (1, .int x1), (2, .int (x2 + 1)), (3, .int x3)] [] 0 σ Q) (h2 : ¬ (2 : Int32) ≤ x3 → x1 = 0 → WP g mX5_same 100 [(0, .ref (pw_ad g 29)), (1, .int (0 : Int32)), (2, .int x2), (3, .int (x3 + 1))] [] 0 σ Q) (h3 : ¬ (2 : Int32) ≤ x3 → ¬ x1 = 0 → vp_in (((2 : Int32) * x2) + x3) 1022) (h4 : ¬ (2 : Int32) ≤ x3 → ¬ x1 = 0 → vp_in x2 5) (h5 : ¬ (2 : Int32) ≤ x3 → ¬ x1 = 0 → vp_in (((2 : Int32) * (σ 43 (x2).toNatClampNeg)) + x3) 10) (h6 : ¬ (2 : Int32) ≤ x3 → ¬ x1 = 0 → WP g mX5_classOf 0 [(0, .ref (pw_ad g 29)), (1, .int (σ 42 ((((2 : Int32) * (σ 43 (x2).toNatClampNeg)) + x3)).toNatClampNeg))] [] 0 σ (pw_k g mX5_same 138 [(0, .ref (pw_ad g 29)), (1, .int x1), (2, .int x2), (3, .int x3)] [.int (σ 39 ((((2 : Int32) * x2) + x3)).toNatClampNeg)] 0 Q)) : WP g mX5_same 100 [(0, .ref (pw_ad g 29)), (1, .int x1), (2, .int x2), (3, .int x3)] [] 0 σ Q := by
  refine wp_iload_n (pc := 100) 3 dX5_same_100 rfl rfl ?_
  refine wp_iconst (pc := 101) (v := (2 : Int32)) dX5_same_101 (by decide) ?_
  refine wp_icmp_ge (pc := 102) (tgt := 153) dX5_same_102 (by decide) (fun c102 => ?_) (fun c102 => ?_)
  ·
    refine wp_iinc (pc := 153) (v := (x2 + 1)) (lv' := [(0, .ref (pw_ad g 29)), (1, .int x1), (2, .int (x2 + 1)), (3, .int x3)]) 2 dX5_same_153 rfl rfl (by decide) rfl ?_
    refine wp_goto (pc := 156) (tgt := 52) dX5_same_156 (by decide) ?_
    exact h1 c102
  ·
    refine wp_iload_n (pc := 105) 1 dX5_same_105 rfl rfl ?_
    refine wp_if_eq (pc := 106) (tgt := 145) dX5_same_106 (by decide) (fun c106 => ?_) (fun c106 => ?_)
    ·
      refine wp_iconst (pc := 145) (v := (0 : Int32)) dX5_same_145 (by decide) ?_
      refine wp_istore_n (pc := 146) (lv' := [(0, .ref (pw_ad g 29)), (1, .int (0 : Int32)), (2, .int x2), (3, .int x3)]) dX5_same_146 rfl (by decide) rfl ?_
      refine wp_iinc (pc := 147) (v := (x3 + 1)) (lv' := [(0, .ref (pw_ad g 29)), (1, .int (0 : Int32)), (2, .int x2), (3, .int (x3 + 1))]) 3 dX5_same_147 rfl rfl (by decide) rfl ?_
      refine wp_goto (pc := 150) (tgt := 100) dX5_same_150 (by decide) ?_
      exact h2 c102 c106
    ·
      refine wp_aload_n (pc := 109) 0 dX5_same_109 rfl rfl ?_
      refine wp_getR1 (pc := 110) 29 39 (o := 9) dX5_same_110 rfl fk_X5_38 rfl rfl ?_
      refine wp_iconst (pc := 113) (v := (2 : Int32)) dX5_same_113 (by decide) ?_
      refine wp_iload_n (pc := 114) 2 dX5_same_114 rfl rfl ?_
      refine wp_imul (pc := 115) dX5_same_115 ?_
      refine wp_iload_n (pc := 116) 3 dX5_same_116 rfl rfl ?_
      refine wp_iadd (pc := 117) dX5_same_117 ?_
      refine wp_iaload (pc := 118) 39 dX5_same_118 rfl (h3 c102 c106) ?_
      refine wp_aload_n (pc := 119) 0 dX5_same_119 rfl rfl ?_
      refine wp_aload_n (pc := 120) 0 dX5_same_120 rfl rfl ?_
      refine wp_getR1 (pc := 121) 29 42 (o := 12) dX5_same_121 rfl fk_X5_47 rfl rfl ?_
      refine wp_iconst (pc := 124) (v := (2 : Int32)) dX5_same_124 (by decide) ?_
      refine wp_aload_n (pc := 125) 0 dX5_same_125 rfl rfl ?_
      refine wp_getR1 (pc := 126) 29 43 (o := 13) dX5_same_126 rfl fk_X5_50 rfl rfl ?_
      refine wp_iload_n (pc := 129) 2 dX5_same_129 rfl rfl ?_
      refine wp_iaload (pc := 130) 43 dX5_same_130 rfl (h4 c102 c106) ?_
      refine wp_imul (pc := 131) dX5_same_131 ?_
      refine wp_iload_n (pc := 132) 3 dX5_same_132 rfl rfl ?_
      refine wp_iadd (pc := 133) dX5_same_133 ?_
      refine wp_iaload (pc := 134) 42 dX5_same_134 rfl (h5 c102 c106) ?_
      refine wp_callV (pc := 135) (M' := mX5_classOf) 29 [.int (σ 42 ((((2 : Int32) * (σ 43 (x2).toNatClampNeg)) + x3)).toNatClampNeg)] [.int (σ 39 ((((2 : Int32) * x2) + x3)).toNatClampNeg)] dX5_same_135 ck_X5_144 rfl rfl ⟨Nat.le_of_ble_eq_true rfl, Nat.le_of_ble_eq_true rfl⟩ rfl (Nat.le_of_ble_eq_true rfl) (Nat.le_of_ble_eq_true rfl) (Nat.le_of_ble_eq_true rfl) rfl ?_
      exact h6 c102 c106
set_option maxRecDepth 20000 in
theorem bX5_same_138 {g : pw_G} {σ : pw_Mem} {Q : pw_R → Prop} {s0 s9 x1 x2 x3 : Int32} (h1 : ¬ s0 = s9 → WP g mX5_same 100 [(0, .ref (pw_ad g 29)), (1, .int (0 : Int32)), (2, .int x2), (3, .int (x3 + 1))] [] 0 σ Q) (h2 : s0 = s9 → WP g mX5_same 100 [(0, .ref (pw_ad g 29)), (1, .int (1 : Int32)), (2, .int x2), (3, .int (x3 + 1))] [] 0 σ Q) : WP g mX5_same 138 [(0, .ref (pw_ad g 29)), (1, .int x1), (2, .int x2), (3, .int x3)] [.int s9, .int s0] 0 σ Q := by
  refine wp_icmp_ne (pc := 138) (tgt := 145) dX5_same_138 (by decide) (fun c138 => ?_) (fun c138 => ?_)
  ·
    refine wp_iconst (pc := 145) (v := (0 : Int32)) dX5_same_145 (by decide) ?_
    refine wp_istore_n (pc := 146) (lv' := [(0, .ref (pw_ad g 29)), (1, .int (0 : Int32)), (2, .int x2), (3, .int x3)]) dX5_same_146 rfl (by decide) rfl ?_
    refine wp_iinc (pc := 147) (v := (x3 + 1)) (lv' := [(0, .ref (pw_ad g 29)), (1, .int (0 : Int32)), (2, .int x2), (3, .int (x3 + 1))]) 3 dX5_same_147 rfl rfl (by decide) rfl ?_
    refine wp_goto (pc := 150) (tgt := 100) dX5_same_150 (by decide) ?_
    exact h1 c138
  ·
    refine wp_iconst (pc := 141) (v := (1 : Int32)) dX5_same_141 (by decide) ?_
    refine wp_goto (pc := 142) (tgt := 146) dX5_same_142 (by decide) ?_
    refine wp_istore_n (pc := 146) (lv' := [(0, .ref (pw_ad g 29)), (1, .int (1 : Int32)), (2, .int x2), (3, .int x3)]) dX5_same_146 rfl (by decide) rfl ?_
    refine wp_iinc (pc := 147) (v := (x3 + 1)) (lv' := [(0, .ref (pw_ad g 29)), (1, .int (1 : Int32)), (2, .int x2), (3, .int (x3 + 1))]) 3 dX5_same_147 rfl rfl (by decide) rfl ?_
    refine wp_goto (pc := 150) (tgt := 100) dX5_same_150 (by decide) ?_
    exact h2 c138
