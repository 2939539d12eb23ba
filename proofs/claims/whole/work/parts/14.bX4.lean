set_option maxRecDepth 20000 in
theorem bX4_teach_0 {g : pw_G} {σ : pw_Mem} {Q : pw_R → Prop} {x1 x2 x3 : Int32} (h1 : WP g mX4_checkedWord 0 [(0, .int x1), (1, .int x2)] [] 0 σ (pw_k g mX4_teach 5 [(0, .ref (pw_ad g 0)), (1, .int x1), (2, .int x2), (3, .int x3)] [] 1 Q)) : WP g mX4_teach 0 [(0, .ref (pw_ad g 0)), (1, .int x1), (2, .int x2), (3, .int x3)] [] 0 σ Q := by
  refine wp_iload_n (pc := 0) 1 dX4_teach_0 rfl rfl ?_
  refine wp_iload_n (pc := 1) 2 dX4_teach_1 rfl rfl ?_
  refine wp_callS (pc := 2) (M' := mX4_checkedWord) [.int x1, .int x2] [] dX4_teach_2 ck_X4_39 ⟨Nat.le_of_ble_eq_true rfl, Nat.le_of_ble_eq_true rfl⟩ rfl (Nat.le_of_ble_eq_true rfl) (Nat.le_of_ble_eq_true rfl) (Nat.le_of_ble_eq_true rfl) rfl ?_
  exact h1
set_option maxRecDepth 20000 in
theorem bX4_teach_5 {g : pw_G} {σ : pw_Mem} {Q : pw_R → Prop} {s9 x1 x2 x3 : Int32} (h1 : x3 = 0 → WP g mX3_markOf 0 [(0, .ref (pw_ad g 1)), (1, .int s9)] [] 0 σ (pw_k g mX4_teach 27 [(0, .ref (pw_ad g 0)), (1, .int x1), (2, .int x2), (3, .int x3), (4, .int s9), (5, .int (-1 : Int32))] [] 1 Q)) (h2 : ¬ x3 = 0 → WP g mX3_markOf 0 [(0, .ref (pw_ad g 1)), (1, .int s9)] [] 0 σ (pw_k g mX4_teach 27 [(0, .ref (pw_ad g 0)), (1, .int x1), (2, .int x2), (3, .int x3), (4, .int s9), (5, .int (1 : Int32))] [] 1 Q)) : WP g mX4_teach 5 [(0, .ref (pw_ad g 0)), (1, .int x1), (2, .int x2), (3, .int x3)] [.int s9] 1 σ Q := by
  refine wp_istore (pc := 5) (lv' := [(0, .ref (pw_ad g 0)), (1, .int x1), (2, .int x2), (3, .int x3), (4, .int s9)]) dX4_teach_5 (by decide) rfl ?_
  refine wp_iload_n (pc := 7) 3 dX4_teach_7 rfl rfl ?_
  refine wp_if_eq (pc := 8) (tgt := 15) dX4_teach_8 (by decide) (fun c8 => ?_) (fun c8 => ?_)
  ·
    refine wp_iconst (pc := 15) (v := (-1 : Int32)) dX4_teach_15 (by decide) ?_
    refine wp_istore (pc := 16) (lv' := [(0, .ref (pw_ad g 0)), (1, .int x1), (2, .int x2), (3, .int x3), (4, .int s9), (5, .int (-1 : Int32))]) dX4_teach_16 (by decide) rfl ?_
    refine wp_aload_n (pc := 18) 0 dX4_teach_18 rfl rfl ?_
    refine wp_getR1 (pc := 19) 0 1 (o := 0) dX4_teach_19 rfl fk_X4_12 rfl rfl ?_
    refine wp_iload (pc := 22) 4 dX4_teach_22 rfl ?_
    refine wp_callV (pc := 24) (M' := mX3_markOf) 1 [.int s9] [] dX4_teach_24 ck_X4_43 rfl rfl ⟨Nat.le_of_ble_eq_true rfl, Nat.le_of_ble_eq_true rfl⟩ rfl (Nat.le_of_ble_eq_true rfl) (Nat.le_of_ble_eq_true rfl) (Nat.le_of_ble_eq_true rfl) rfl ?_
    exact h1 c8
  ·
    refine wp_iconst (pc := 11) (v := (1 : Int32)) dX4_teach_11 (by decide) ?_
    refine wp_goto (pc := 12) (tgt := 16) dX4_teach_12 (by decide) ?_
    refine wp_istore (pc := 16) (lv' := [(0, .ref (pw_ad g 0)), (1, .int x1), (2, .int x2), (3, .int x3), (4, .int s9), (5, .int (1 : Int32))]) dX4_teach_16 (by decide) rfl ?_
    refine wp_aload_n (pc := 18) 0 dX4_teach_18 rfl rfl ?_
    refine wp_getR1 (pc := 19) 0 1 (o := 0) dX4_teach_19 rfl fk_X4_12 rfl rfl ?_
    refine wp_iload (pc := 22) 4 dX4_teach_22 rfl ?_
    refine wp_callV (pc := 24) (M' := mX3_markOf) 1 [.int s9] [] dX4_teach_24 ck_X4_43 rfl rfl ⟨Nat.le_of_ble_eq_true rfl, Nat.le_of_ble_eq_true rfl⟩ rfl (Nat.le_of_ble_eq_true rfl) (Nat.le_of_ble_eq_true rfl) (Nat.le_of_ble_eq_true rfl) rfl ?_
    exact h2 c8
set_option maxRecDepth 20000 in
theorem bX4_teach_27 {g : pw_G} {σ : pw_Mem} {Q : pw_R → Prop} {s9 x1 x2 x3 x4 x5 : Int32} (hl9 : (pw_l g).stackTraces = false) (h1 : ¬ s9 = (-x5) → WP g mX3_take 0 [(0, .ref (pw_ad g 1)), (1, .int x4), (2, .int x5)] [] 0 σ (pw_k g mX4_teach 54 [(0, .ref (pw_ad g 0)), (1, .int x1), (2, .int x2), (3, .int x3), (4, .int x4), (5, .int x5)] [] 1 Q)) (h2 : s9 = (-x5) → Q (.inr "java/lang/IllegalStateException", σ)) : WP g mX4_teach 27 [(0, .ref (pw_ad g 0)), (1, .int x1), (2, .int x2), (3, .int x3), (4, .int x4), (5, .int x5)] [.int s9] 1 σ Q := by
  refine wp_iload (pc := 27) 5 dX4_teach_27 rfl ?_
  refine wp_ineg (pc := 29) dX4_teach_29 ?_
  refine wp_icmp_ne (pc := 30) (tgt := 43) dX4_teach_30 (by decide) (fun c30 => ?_) (fun c30 => ?_)
  ·
    refine wp_aload_n (pc := 43) 0 dX4_teach_43 rfl rfl ?_
    refine wp_getR1 (pc := 44) 0 1 (o := 0) dX4_teach_44 rfl fk_X4_12 rfl rfl ?_
    refine wp_iload (pc := 47) 4 dX4_teach_47 rfl ?_
    refine wp_iload (pc := 49) 5 dX4_teach_49 rfl ?_
    refine wp_callV (pc := 51) (M' := mX3_take) 1 [.int x4, .int x5] [] dX4_teach_51 ck_X4_54 rfl rfl ⟨Nat.le_of_ble_eq_true rfl, Nat.le_of_ble_eq_true rfl⟩ rfl (Nat.le_of_ble_eq_true rfl) (Nat.le_of_ble_eq_true rfl) (Nat.le_of_ble_eq_true rfl) rfl ?_
    exact h1 c30
  ·
    exact wp_throw (pc := 33) (is := 49) (text := "the sample has the word with the other sign") dX4_teach_33 dX4_teach_36 dX4_teach_37 dX4_teach_39 dX4_teach_42 rfl hl9 pw_ctS (by decide) (Nat.le_of_ble_eq_true rfl) (Nat.le_of_ble_eq_true rfl) (Nat.le_of_ble_eq_true rfl) (h2 c30)
set_option maxRecDepth 20000 in
theorem bX4_teach_54 {g : pw_G} {σ : pw_Mem} {Q : pw_R → Prop} {s9 x1 x2 x3 x4 x5 : Int32} (h1 : pw_bool s9) (h2 : Q (.inl (some (.int s9)), σ)) : WP g mX4_teach 54 [(0, .ref (pw_ad g 0)), (1, .int x1), (2, .int x2), (3, .int x3), (4, .int x4), (5, .int x5)] [.int s9] 1 σ Q := by
  exact wp_ireturn (pc := 54) dX4_teach_54 rfl (pw_nb (h1)) (Nat.le_of_ble_eq_true rfl) (h2)
set_option maxRecDepth 20000 in
theorem bX4_told_0 {g : pw_G} {σ : pw_Mem} {Q : pw_R → Prop} {x1 x2 : Int32} (h1 : WP g mX4_checkedWord 0 [(0, .int x1), (1, .int x2)] [] 0 σ (pw_k g mX4_told 9 [(0, .ref (pw_ad g 0)), (1, .int x1), (2, .int x2)] [.ref (pw_ad g 1)] 1 Q)) : WP g mX4_told 0 [(0, .ref (pw_ad g 0)), (1, .int x1), (2, .int x2)] [] 0 σ Q := by
  refine wp_aload_n (pc := 0) 0 dX4_told_0 rfl rfl ?_
  refine wp_getR1 (pc := 1) 0 1 (o := 0) dX4_told_1 rfl fk_X4_12 rfl rfl ?_
  refine wp_iload_n (pc := 4) 1 dX4_told_4 rfl rfl ?_
  refine wp_iload_n (pc := 5) 2 dX4_told_5 rfl rfl ?_
  refine wp_callS (pc := 6) (M' := mX4_checkedWord) [.int x1, .int x2] [.ref (pw_ad g 1)] dX4_told_6 ck_X4_39 ⟨Nat.le_of_ble_eq_true rfl, Nat.le_of_ble_eq_true rfl⟩ rfl (Nat.le_of_ble_eq_true rfl) (Nat.le_of_ble_eq_true rfl) (Nat.le_of_ble_eq_true rfl) rfl ?_
  exact h1
set_option maxRecDepth 20000 in
theorem bX4_told_9 {g : pw_G} {σ : pw_Mem} {Q : pw_R → Prop} {s9 x1 x2 : Int32} (h1 : WP g mX3_markOf 0 [(0, .ref (pw_ad g 1)), (1, .int s9)] [] 0 σ (pw_k g mX4_told 12 [(0, .ref (pw_ad g 0)), (1, .int x1), (2, .int x2)] [] 1 Q)) : WP g mX4_told 9 [(0, .ref (pw_ad g 0)), (1, .int x1), (2, .int x2)] [.int s9, .ref (pw_ad g 1)] 1 σ Q := by
  refine wp_callV (pc := 9) (M' := mX3_markOf) 1 [.int s9] [] dX4_told_9 ck_X4_43 rfl rfl ⟨Nat.le_of_ble_eq_true rfl, Nat.le_of_ble_eq_true rfl⟩ rfl (Nat.le_of_ble_eq_true rfl) (Nat.le_of_ble_eq_true rfl) (Nat.le_of_ble_eq_true rfl) rfl ?_
  exact h1
set_option maxRecDepth 20000 in
theorem bX4_told_12 {g : pw_G} {σ : pw_Mem} {Q : pw_R → Prop} {s9 x1 x2 : Int32} (h1 : Q (.inl (some (.int s9)), σ)) : WP g mX4_told 12 [(0, .ref (pw_ad g 0)), (1, .int x1), (2, .int x2)] [.int s9] 1 σ Q := by
  exact wp_ireturn (pc := 12) dX4_told_12 rfl rfl (Nat.le_of_ble_eq_true rfl) (h1)
set_option maxRecDepth 20000 in
theorem bX4_size_0 {g : pw_G} {σ : pw_Mem} {Q : pw_R → Prop} (h1 : WP g mX3_count 0 [(0, .ref (pw_ad g 1))] [] 0 σ (pw_k g mX4_size 7 [(0, .ref (pw_ad g 0))] [] 0 Q)) : WP g mX4_size 0 [(0, .ref (pw_ad g 0))] [] 0 σ Q := by
  refine wp_aload_n (pc := 0) 0 dX4_size_0 rfl rfl ?_
  refine wp_getR1 (pc := 1) 0 1 (o := 0) dX4_size_1 rfl fk_X4_12 rfl rfl ?_
  refine wp_callV (pc := 4) (M' := mX3_count) 1 [] [] dX4_size_4 ck_X4_58 rfl rfl ⟨Nat.le_of_ble_eq_true rfl, Nat.le_of_ble_eq_true rfl⟩ rfl (Nat.le_of_ble_eq_true rfl) (Nat.le_of_ble_eq_true rfl) (Nat.le_of_ble_eq_true rfl) rfl ?_
  exact h1
set_option maxRecDepth 20000 in
theorem bX4_size_7 {g : pw_G} {σ : pw_Mem} {Q : pw_R → Prop} {s9 : Int32} (h1 : Q (.inl (some (.int s9)), σ)) : WP g mX4_size 7 [(0, .ref (pw_ad g 0))] [.int s9] 0 σ Q := by
  exact wp_ireturn (pc := 7) dX4_size_7 rfl rfl (Nat.le_of_ble_eq_true rfl) (h1)
set_option maxRecDepth 20000 in
theorem bX4_forget_0 {g : pw_G} {σ : pw_Mem} {Q : pw_R → Prop} (h1 : WP g mX3_clear 0 [(0, .ref (pw_ad g 1))] [] 0 σ (pw_k g mX4_forget 7 [(0, .ref (pw_ad g 0))] [] 0 Q)) : WP g mX4_forget 0 [(0, .ref (pw_ad g 0))] [] 0 σ Q := by
  refine wp_aload_n (pc := 0) 0 dX4_forget_0 rfl rfl ?_
  refine wp_getR1 (pc := 1) 0 1 (o := 0) dX4_forget_1 rfl fk_X4_12 rfl rfl ?_
  refine wp_callV (pc := 4) (M' := mX3_clear) 1 [] [] dX4_forget_4 ck_X4_62 rfl rfl ⟨Nat.le_of_ble_eq_true rfl, Nat.le_of_ble_eq_true rfl⟩ rfl (Nat.le_of_ble_eq_true rfl) (Nat.le_of_ble_eq_true rfl) (Nat.le_of_ble_eq_true rfl) rfl ?_
  exact h1
set_option maxRecDepth 20000 in
theorem bX4_forget_7 {g : pw_G} {σ : pw_Mem} {Q : pw_R → Prop} (h1 : Q (.inl none, σ)) : WP g mX4_forget 7 [(0, .ref (pw_ad g 0))] [] 0 σ Q := by
  exact wp_return (pc := 7) dX4_forget_7 rfl (Nat.le_of_ble_eq_true rfl) (h1)
set_option maxRecDepth 20000 in
theorem bX4_learn_0 {g : pw_G} {σ : pw_Mem} {Q : pw_R → Prop} (h1 : WP g mX2_run 0 [(0, .ref (pw_ad g 3)), (1, .ref (pw_ad g 1)), (2, .ref (pw_ad g 13))] [] 0 σ (pw_k g mX4_learn 15 [(0, .ref (pw_ad g 0))] [] 0 Q)) : WP g mX4_learn 0 [(0, .ref (pw_ad g 0))] [] 0 σ Q := by
  refine wp_aload_n (pc := 0) 0 dX4_learn_0 rfl rfl ?_
  refine wp_getR1 (pc := 1) 0 3 (o := 2) dX4_learn_1 rfl fk_X4_19 rfl rfl ?_
  refine wp_aload_n (pc := 4) 0 dX4_learn_4 rfl rfl ?_
  refine wp_getR1 (pc := 5) 0 1 (o := 0) dX4_learn_5 rfl fk_X4_12 rfl rfl ?_
  refine wp_aload_n (pc := 8) 0 dX4_learn_8 rfl rfl ?_
  refine wp_getR1 (pc := 9) 0 13 (o := 12) dX4_learn_9 rfl fk_X4_28 rfl rfl ?_
  refine wp_callV (pc := 12) (M' := mX2_run) 3 [.ref (pw_ad g 1), .ref (pw_ad g 13)] [] dX4_learn_12 ck_X4_65 rfl rfl ⟨Nat.le_of_ble_eq_true rfl, Nat.le_of_ble_eq_true rfl⟩ rfl (Nat.le_of_ble_eq_true rfl) (Nat.le_of_ble_eq_true rfl) (Nat.le_of_ble_eq_true rfl) rfl ?_
  exact h1
set_option maxRecDepth 20000 in
theorem bX4_learn_15 {g : pw_G} {σ : pw_Mem} {Q : pw_R → Prop} (h1 : WP g mX0_count 0 [(0, .ref (pw_ad g 13))] [] 0 σ (pw_k g mX4_learn 22 [(0, .ref (pw_ad g 0))] [] 0 Q)) : WP g mX4_learn 15 [(0, .ref (pw_ad g 0))] [] 0 σ Q := by
  refine wp_aload_n (pc := 15) 0 dX4_learn_15 rfl rfl ?_
  refine wp_getR1 (pc := 16) 0 13 (o := 12) dX4_learn_16 rfl fk_X4_28 rfl rfl ?_
  refine wp_callV (pc := 19) (M' := mX0_count) 13 [] [] dX4_learn_19 ck_X4_69 rfl rfl ⟨Nat.le_of_ble_eq_true rfl, Nat.le_of_ble_eq_true rfl⟩ rfl (Nat.le_of_ble_eq_true rfl) (Nat.le_of_ble_eq_true rfl) (Nat.le_of_ble_eq_true rfl) rfl ?_
  exact h1
set_option maxRecDepth 20000 in
theorem bX4_learn_22 {g : pw_G} {σ : pw_Mem} {Q : pw_R → Prop} {s9 : Int32} (h1 : Q (.inl (some (.int s9)), σ)) : WP g mX4_learn 22 [(0, .ref (pw_ad g 0))] [.int s9] 0 σ Q := by
  exact wp_ireturn (pc := 22) dX4_learn_22 rfl rfl (Nat.le_of_ble_eq_true rfl) (h1)
set_option maxRecDepth 20000 in
theorem bX4_states_0 {g : pw_G} {σ : pw_Mem} {Q : pw_R → Prop} (h1 : WP g mX0_count 0 [(0, .ref (pw_ad g 13))] [] 0 σ (pw_k g mX4_states 7 [(0, .ref (pw_ad g 0))] [] 0 Q)) : WP g mX4_states 0 [(0, .ref (pw_ad g 0))] [] 0 σ Q := by
  refine wp_aload_n (pc := 0) 0 dX4_states_0 rfl rfl ?_
  refine wp_getR1 (pc := 1) 0 13 (o := 12) dX4_states_1 rfl fk_X4_28 rfl rfl ?_
  refine wp_callV (pc := 4) (M' := mX0_count) 13 [] [] dX4_states_4 ck_X4_69 rfl rfl ⟨Nat.le_of_ble_eq_true rfl, Nat.le_of_ble_eq_true rfl⟩ rfl (Nat.le_of_ble_eq_true rfl) (Nat.le_of_ble_eq_true rfl) (Nat.le_of_ble_eq_true rfl) rfl ?_
  exact h1
set_option maxRecDepth 20000 in
theorem bX4_states_7 {g : pw_G} {σ : pw_Mem} {Q : pw_R → Prop} {s9 : Int32} (h1 : Q (.inl (some (.int s9)), σ)) : WP g mX4_states 7 [(0, .ref (pw_ad g 0))] [.int s9] 0 σ Q := by
  exact wp_ireturn (pc := 7) dX4_states_7 rfl rfl (Nat.le_of_ble_eq_true rfl) (h1)
set_option maxRecDepth 20000 in
theorem bX4_next_0 {g : pw_G} {σ : pw_Mem} {Q : pw_R → Prop} {x1 x2 : Int32} (h1 : WP g mX4_checkState 0 [(0, .ref (pw_ad g 13)), (1, .int x1)] [] 0 σ (pw_k g mX4_next 8 [(0, .ref (pw_ad g 0)), (1, .int x1), (2, .int x2)] [] 1 Q)) : WP g mX4_next 0 [(0, .ref (pw_ad g 0)), (1, .int x1), (2, .int x2)] [] 0 σ Q := by
  refine wp_aload_n (pc := 0) 0 dX4_next_0 rfl rfl ?_
  refine wp_getR1 (pc := 1) 0 13 (o := 12) dX4_next_1 rfl fk_X4_28 rfl rfl ?_
  refine wp_iload_n (pc := 4) 1 dX4_next_4 rfl rfl ?_
  refine wp_callS (pc := 5) (M' := mX4_checkState) [.ref (pw_ad g 13), .int x1] [] dX4_next_5 ck_X4_70 ⟨Nat.le_of_ble_eq_true rfl, Nat.le_of_ble_eq_true rfl⟩ rfl (Nat.le_of_ble_eq_true rfl) (Nat.le_of_ble_eq_true rfl) (Nat.le_of_ble_eq_true rfl) rfl ?_
  exact h1
set_option maxRecDepth 20000 in
theorem bX4_next_8 {g : pw_G} {σ : pw_Mem} {Q : pw_R → Prop} {x1 x2 : Int32} (hl9 : (pw_l g).stackTraces = false) (h1 : x2 < 0 → Q (.inr "java/lang/IndexOutOfBoundsException", σ)) (h2 : ¬ x2 < 0 → x2 < (2 : Int32) → WP g mX0_arrow 0 [(0, .ref (pw_ad g 13)), (1, .int x1), (2, .int x2)] [] 0 σ (pw_k g mX4_next 36 [(0, .ref (pw_ad g 0)), (1, .int x1), (2, .int x2)] [] 1 Q)) (h3 : ¬ x2 < 0 → ¬ x2 < (2 : Int32) → Q (.inr "java/lang/IndexOutOfBoundsException", σ)) : WP g mX4_next 8 [(0, .ref (pw_ad g 0)), (1, .int x1), (2, .int x2)] [] 1 σ Q := by
  refine wp_iload_n (pc := 8) 2 dX4_next_8 rfl rfl ?_
  refine wp_if_lt (pc := 9) (tgt := 17) dX4_next_9 (by decide) (fun c9 => ?_) (fun c9 => ?_)
  ·
    exact wp_throw (pc := 17) (is := 76) (text := "there is no such letter") dX4_next_17 dX4_next_20 dX4_next_21 dX4_next_23 dX4_next_26 rfl hl9 pw_ctO (by decide) (Nat.le_of_ble_eq_true rfl) (Nat.le_of_ble_eq_true rfl) (Nat.le_of_ble_eq_true rfl) (h1 c9)
  ·
    refine wp_iload_n (pc := 12) 2 dX4_next_12 rfl rfl ?_
    refine wp_iconst (pc := 13) (v := (2 : Int32)) dX4_next_13 (by decide) ?_
    refine wp_icmp_lt (pc := 14) (tgt := 27) dX4_next_14 (by decide) (fun c14 => ?_) (fun c14 => ?_)
    ·
      refine wp_aload_n (pc := 27) 0 dX4_next_27 rfl rfl ?_
      refine wp_getR1 (pc := 28) 0 13 (o := 12) dX4_next_28 rfl fk_X4_28 rfl rfl ?_
      refine wp_iload_n (pc := 31) 1 dX4_next_31 rfl rfl ?_
      refine wp_iload_n (pc := 32) 2 dX4_next_32 rfl rfl ?_
      refine wp_callV (pc := 33) (M' := mX0_arrow) 13 [.int x1, .int x2] [] dX4_next_33 ck_X4_79 rfl rfl ⟨Nat.le_of_ble_eq_true rfl, Nat.le_of_ble_eq_true rfl⟩ rfl (Nat.le_of_ble_eq_true rfl) (Nat.le_of_ble_eq_true rfl) (Nat.le_of_ble_eq_true rfl) rfl ?_
      exact h2 c9 c14
    ·
      exact wp_throw (pc := 17) (is := 76) (text := "there is no such letter") dX4_next_17 dX4_next_20 dX4_next_21 dX4_next_23 dX4_next_26 rfl hl9 pw_ctO (by decide) (Nat.le_of_ble_eq_true rfl) (Nat.le_of_ble_eq_true rfl) (Nat.le_of_ble_eq_true rfl) (h3 c9 c14)
set_option maxRecDepth 20000 in
theorem bX4_next_36 {g : pw_G} {σ : pw_Mem} {Q : pw_R → Prop} {s9 x1 x2 : Int32} (h1 : Q (.inl (some (.int s9)), σ)) : WP g mX4_next 36 [(0, .ref (pw_ad g 0)), (1, .int x1), (2, .int x2)] [.int s9] 1 σ Q := by
  exact wp_ireturn (pc := 36) dX4_next_36 rfl rfl (Nat.le_of_ble_eq_true rfl) (h1)
set_option maxRecDepth 20000 in
theorem bX4_sign_0 {g : pw_G} {σ : pw_Mem} {Q : pw_R → Prop} {x1 : Int32} (h1 : WP g mX4_checkState 0 [(0, .ref (pw_ad g 13)), (1, .int x1)] [] 0 σ (pw_k g mX4_sign 8 [(0, .ref (pw_ad g 0)), (1, .int x1)] [] 1 Q)) : WP g mX4_sign 0 [(0, .ref (pw_ad g 0)), (1, .int x1)] [] 0 σ Q := by
  refine wp_aload_n (pc := 0) 0 dX4_sign_0 rfl rfl ?_
  refine wp_getR1 (pc := 1) 0 13 (o := 12) dX4_sign_1 rfl fk_X4_28 rfl rfl ?_
  refine wp_iload_n (pc := 4) 1 dX4_sign_4 rfl rfl ?_
  refine wp_callS (pc := 5) (M' := mX4_checkState) [.ref (pw_ad g 13), .int x1] [] dX4_sign_5 ck_X4_70 ⟨Nat.le_of_ble_eq_true rfl, Nat.le_of_ble_eq_true rfl⟩ rfl (Nat.le_of_ble_eq_true rfl) (Nat.le_of_ble_eq_true rfl) (Nat.le_of_ble_eq_true rfl) rfl ?_
  exact h1
set_option maxRecDepth 20000 in
theorem bX4_sign_8 {g : pw_G} {σ : pw_Mem} {Q : pw_R → Prop} {x1 : Int32} (h1 : WP g mX0_markOf 0 [(0, .ref (pw_ad g 13)), (1, .int x1)] [] 0 σ (pw_k g mX4_sign 16 [(0, .ref (pw_ad g 0)), (1, .int x1)] [] 1 Q)) : WP g mX4_sign 8 [(0, .ref (pw_ad g 0)), (1, .int x1)] [] 1 σ Q := by
  refine wp_aload_n (pc := 8) 0 dX4_sign_8 rfl rfl ?_
  refine wp_getR1 (pc := 9) 0 13 (o := 12) dX4_sign_9 rfl fk_X4_28 rfl rfl ?_
  refine wp_iload_n (pc := 12) 1 dX4_sign_12 rfl rfl ?_
  refine wp_callV (pc := 13) (M' := mX0_markOf) 13 [.int x1] [] dX4_sign_13 ck_X4_82 rfl rfl ⟨Nat.le_of_ble_eq_true rfl, Nat.le_of_ble_eq_true rfl⟩ rfl (Nat.le_of_ble_eq_true rfl) (Nat.le_of_ble_eq_true rfl) (Nat.le_of_ble_eq_true rfl) rfl ?_
  exact h1
set_option maxRecDepth 20000 in
theorem bX4_sign_16 {g : pw_G} {σ : pw_Mem} {Q : pw_R → Prop} {s9 x1 : Int32} (h1 : Q (.inl (some (.int s9)), σ)) : WP g mX4_sign 16 [(0, .ref (pw_ad g 0)), (1, .int x1)] [.int s9] 1 σ Q := by
  exact wp_ireturn (pc := 16) dX4_sign_16 rfl rfl (Nat.le_of_ble_eq_true rfl) (h1)
set_option maxRecDepth 20000 in
theorem bX4_accepts_0 {g : pw_G} {σ : pw_Mem} {Q : pw_R → Prop} {x1 x2 : Int32} (h1 : WP g mX4_checkedWord 0 [(0, .int x1), (1, .int x2)] [] 0 σ (pw_k g mX4_accepts 5 [(0, .ref (pw_ad g 0)), (1, .int x1), (2, .int x2)] [] 1 Q)) : WP g mX4_accepts 0 [(0, .ref (pw_ad g 0)), (1, .int x1), (2, .int x2)] [] 0 σ Q := by
  refine wp_iload_n (pc := 0) 1 dX4_accepts_0 rfl rfl ?_
  refine wp_iload_n (pc := 1) 2 dX4_accepts_1 rfl rfl ?_
  refine wp_callS (pc := 2) (M' := mX4_checkedWord) [.int x1, .int x2] [] dX4_accepts_2 ck_X4_39 ⟨Nat.le_of_ble_eq_true rfl, Nat.le_of_ble_eq_true rfl⟩ rfl (Nat.le_of_ble_eq_true rfl) (Nat.le_of_ble_eq_true rfl) (Nat.le_of_ble_eq_true rfl) rfl ?_
  exact h1
set_option maxRecDepth 20000 in
theorem bX4_accepts_5 {g : pw_G} {σ : pw_Mem} {Q : pw_R → Prop} {s9 x1 x2 : Int32} (h1 : WP g mX4_checkLearned 0 [(0, .ref (pw_ad g 0))] [] 0 σ (pw_k g mX4_accepts 10 [(0, .ref (pw_ad g 0)), (1, .int x1), (2, .int x2), (3, .int s9)] [] 2 Q)) : WP g mX4_accepts 5 [(0, .ref (pw_ad g 0)), (1, .int x1), (2, .int x2)] [.int s9] 1 σ Q := by
  refine wp_istore_n (pc := 5) (lv' := [(0, .ref (pw_ad g 0)), (1, .int x1), (2, .int x2), (3, .int s9)]) dX4_accepts_5 rfl (by decide) rfl ?_
  refine wp_aload_n (pc := 6) 0 dX4_accepts_6 rfl rfl ?_
  refine wp_callV (pc := 7) (M' := mX4_checkLearned) 0 [] [] dX4_accepts_7 ck_X4_83 rfl rfl ⟨Nat.le_of_ble_eq_true rfl, Nat.le_of_ble_eq_true rfl⟩ rfl (Nat.le_of_ble_eq_true rfl) (Nat.le_of_ble_eq_true rfl) (Nat.le_of_ble_eq_true rfl) rfl ?_
  exact h1
set_option maxRecDepth 20000 in
theorem bX4_accepts_10 {g : pw_G} {σ : pw_Mem} {Q : pw_R → Prop} {x1 x2 x3 : Int32} (h1 : WP g mX0_walk 0 [(0, .ref (pw_ad g 13)), (1, .int (0 : Int32)), (2, .int x3)] [] 0 σ (pw_k g mX4_accepts 19 [(0, .ref (pw_ad g 0)), (1, .int x1), (2, .int x2), (3, .int x3)] [] 2 Q)) : WP g mX4_accepts 10 [(0, .ref (pw_ad g 0)), (1, .int x1), (2, .int x2), (3, .int x3)] [] 2 σ Q := by
  refine wp_aload_n (pc := 10) 0 dX4_accepts_10 rfl rfl ?_
  refine wp_getR1 (pc := 11) 0 13 (o := 12) dX4_accepts_11 rfl fk_X4_28 rfl rfl ?_
  refine wp_iconst (pc := 14) (v := (0 : Int32)) dX4_accepts_14 (by decide) ?_
  refine wp_iload_n (pc := 15) 3 dX4_accepts_15 rfl rfl ?_
  refine wp_callV (pc := 16) (M' := mX0_walk) 13 [.int (0 : Int32), .int x3] [] dX4_accepts_16 ck_X4_86 rfl rfl ⟨Nat.le_of_ble_eq_true rfl, Nat.le_of_ble_eq_true rfl⟩ rfl (Nat.le_of_ble_eq_true rfl) (Nat.le_of_ble_eq_true rfl) (Nat.le_of_ble_eq_true rfl) rfl ?_
  exact h1
set_option maxRecDepth 20000 in
theorem bX4_accepts_19 {g : pw_G} {σ : pw_Mem} {Q : pw_R → Prop} {s9 x1 x2 x3 : Int32} (h1 : s9 = (-1 : Int32) → Q (.inl (some (.int (0 : Int32))), σ)) (h2 : ¬ s9 = (-1 : Int32) → WP g mX0_markOf 0 [(0, .ref (pw_ad g 13)), (1, .int s9)] [] 0 σ (pw_k g mX4_accepts 36 [(0, .ref (pw_ad g 0)), (1, .int x1), (2, .int x2), (3, .int x3), (4, .int s9)] [] 2 Q)) : WP g mX4_accepts 19 [(0, .ref (pw_ad g 0)), (1, .int x1), (2, .int x2), (3, .int x3)] [.int s9] 2 σ Q := by
  refine wp_istore (pc := 19) (lv' := [(0, .ref (pw_ad g 0)), (1, .int x1), (2, .int x2), (3, .int x3), (4, .int s9)]) dX4_accepts_19 (by decide) rfl ?_
  refine wp_iload (pc := 21) 4 dX4_accepts_21 rfl ?_
  refine wp_iconst (pc := 23) (v := (-1 : Int32)) dX4_accepts_23 (by decide) ?_
  refine wp_icmp_eq (pc := 24) (tgt := 44) dX4_accepts_24 (by decide) (fun c24 => ?_) (fun c24 => ?_)
  ·
    refine wp_iconst (pc := 44) (v := (0 : Int32)) dX4_accepts_44 (by decide) ?_
    exact wp_ireturn (pc := 45) dX4_accepts_45 rfl (by decide) (Nat.le_of_ble_eq_true rfl) (h1 c24)
  ·
    refine wp_aload_n (pc := 27) 0 dX4_accepts_27 rfl rfl ?_
    refine wp_getR1 (pc := 28) 0 13 (o := 12) dX4_accepts_28 rfl fk_X4_28 rfl rfl ?_
    refine wp_iload (pc := 31) 4 dX4_accepts_31 rfl ?_
    refine wp_callV (pc := 33) (M' := mX0_markOf) 13 [.int s9] [] dX4_accepts_33 ck_X4_82 rfl rfl ⟨Nat.le_of_ble_eq_true rfl, Nat.le_of_ble_eq_true rfl⟩ rfl (Nat.le_of_ble_eq_true rfl) (Nat.le_of_ble_eq_true rfl) (Nat.le_of_ble_eq_true rfl) rfl ?_
    exact h2 c24
set_option maxRecDepth 20000 in
theorem bX4_accepts_36 {g : pw_G} {σ : pw_Mem} {Q : pw_R → Prop} {s9 x1 x2 x3 x4 : Int32} (h1 : ¬ s9 = (1 : Int32) → Q (.inl (some (.int (0 : Int32))), σ)) (h2 : s9 = (1 : Int32) → Q (.inl (some (.int (1 : Int32))), σ)) : WP g mX4_accepts 36 [(0, .ref (pw_ad g 0)), (1, .int x1), (2, .int x2), (3, .int x3), (4, .int x4)] [.int s9] 2 σ Q := by
  refine wp_iconst (pc := 36) (v := (1 : Int32)) dX4_accepts_36 (by decide) ?_
  refine wp_icmp_ne (pc := 37) (tgt := 44) dX4_accepts_37 (by decide) (fun c37 => ?_) (fun c37 => ?_)
  ·
    refine wp_iconst (pc := 44) (v := (0 : Int32)) dX4_accepts_44 (by decide) ?_
    exact wp_ireturn (pc := 45) dX4_accepts_45 rfl (by decide) (Nat.le_of_ble_eq_true rfl) (h1 c37)
  ·
    refine wp_iconst (pc := 40) (v := (1 : Int32)) dX4_accepts_40 (by decide) ?_
    refine wp_goto (pc := 41) (tgt := 45) dX4_accepts_41 (by decide) ?_
    exact wp_ireturn (pc := 45) dX4_accepts_45 rfl (by decide) (Nat.le_of_ble_eq_true rfl) (h2 c37)
set_option maxRecDepth 20000 in
theorem bX4_draft_0 {g : pw_G} {σ : pw_Mem} {Q : pw_R → Prop} {x1 : Int32} (hl9 : (pw_l g).stackTraces = false) (h1 : x1 < (1 : Int32) → Q (.inr "java/lang/IllegalArgumentException", σ)) (h2 : ¬ x1 < (1 : Int32) → x1 ≤ (5 : Int32) → WP g mX1_begin 0 [(0, .ref (pw_ad g 16)), (1, .int x1)] [] 0 σ (pw_k g mX4_draft 28 [(0, .ref (pw_ad g 0)), (1, .int x1)] [] 0 Q)) (h3 : ¬ x1 < (1 : Int32) → ¬ x1 ≤ (5 : Int32) → Q (.inr "java/lang/IllegalArgumentException", σ)) : WP g mX4_draft 0 [(0, .ref (pw_ad g 0)), (1, .int x1)] [] 0 σ Q := by
  refine wp_iload_n (pc := 0) 1 dX4_draft_0 rfl rfl ?_
  refine wp_iconst (pc := 1) (v := (1 : Int32)) dX4_draft_1 (by decide) ?_
  refine wp_icmp_lt (pc := 2) (tgt := 10) dX4_draft_2 (by decide) (fun c2 => ?_) (fun c2 => ?_)
  ·
    exact wp_throw (pc := 10) (is := 91) (text := "a draft has 1 to 5 states") dX4_draft_10 dX4_draft_13 dX4_draft_14 dX4_draft_16 dX4_draft_19 rfl hl9 pw_ctA (by decide) (Nat.le_of_ble_eq_true rfl) (Nat.le_of_ble_eq_true rfl) (Nat.le_of_ble_eq_true rfl) (h1 c2)
  ·
    refine wp_iload_n (pc := 5) 1 dX4_draft_5 rfl rfl ?_
    refine wp_iconst (pc := 6) (v := (5 : Int32)) dX4_draft_6 (by decide) ?_
    refine wp_icmp_le (pc := 7) (tgt := 20) dX4_draft_7 (by decide) (fun c7 => ?_) (fun c7 => ?_)
    ·
      refine wp_aload_n (pc := 20) 0 dX4_draft_20 rfl rfl ?_
      refine wp_getR1 (pc := 21) 0 16 (o := 15) dX4_draft_21 rfl fk_X4_35 rfl rfl ?_
      refine wp_iload_n (pc := 24) 1 dX4_draft_24 rfl rfl ?_
      refine wp_callV (pc := 25) (M' := mX1_begin) 16 [.int x1] [] dX4_draft_25 ck_X4_94 rfl rfl ⟨Nat.le_of_ble_eq_true rfl, Nat.le_of_ble_eq_true rfl⟩ rfl (Nat.le_of_ble_eq_true rfl) (Nat.le_of_ble_eq_true rfl) (Nat.le_of_ble_eq_true rfl) rfl ?_
      exact h2 c2 c7
    ·
      exact wp_throw (pc := 10) (is := 91) (text := "a draft has 1 to 5 states") dX4_draft_10 dX4_draft_13 dX4_draft_14 dX4_draft_16 dX4_draft_19 rfl hl9 pw_ctA (by decide) (Nat.le_of_ble_eq_true rfl) (Nat.le_of_ble_eq_true rfl) (Nat.le_of_ble_eq_true rfl) (h3 c2 c7)
set_option maxRecDepth 20000 in
theorem bX4_draft_28 {g : pw_G} {σ : pw_Mem} {Q : pw_R → Prop} {x1 : Int32} (h1 : Q (.inl none, σ)) : WP g mX4_draft 28 [(0, .ref (pw_ad g 0)), (1, .int x1)] [] 0 σ Q := by
  exact wp_return (pc := 28) dX4_draft_28 rfl (Nat.le_of_ble_eq_true rfl) (h1)
set_option maxRecDepth 20000 in
theorem bX4_define_0 {g : pw_G} {σ : pw_Mem} {Q : pw_R → Prop} {x1 x2 x3 x4 : Int32} (h1 : WP g mX4_checkDrafted 0 [(0, .ref (pw_ad g 0))] [] 0 σ (pw_k g mX4_define 4 [(0, .ref (pw_ad g 0)), (1, .int x1), (2, .int x2), (3, .int x3), (4, .int x4)] [] 1 Q)) : WP g mX4_define 0 [(0, .ref (pw_ad g 0)), (1, .int x1), (2, .int x2), (3, .int x3), (4, .int x4)] [] 0 σ Q := by
  refine wp_aload_n (pc := 0) 0 dX4_define_0 rfl rfl ?_
  refine wp_callV (pc := 1) (M' := mX4_checkDrafted) 0 [] [] dX4_define_1 ck_X4_97 rfl rfl ⟨Nat.le_of_ble_eq_true rfl, Nat.le_of_ble_eq_true rfl⟩ rfl (Nat.le_of_ble_eq_true rfl) (Nat.le_of_ble_eq_true rfl) (Nat.le_of_ble_eq_true rfl) rfl ?_
  exact h1
set_option maxRecDepth 20000 in
theorem bX4_define_4 {g : pw_G} {σ : pw_Mem} {Q : pw_R → Prop} {x1 x2 x3 x4 : Int32} (h1 : WP g mX1_drawn 0 [(0, .ref (pw_ad g 16))] [] 0 σ (pw_k g mX4_define 11 [(0, .ref (pw_ad g 0)), (1, .int x1), (2, .int x2), (3, .int x3), (4, .int x4)] [] 1 Q)) : WP g mX4_define 4 [(0, .ref (pw_ad g 0)), (1, .int x1), (2, .int x2), (3, .int x3), (4, .int x4)] [] 1 σ Q := by
  refine wp_aload_n (pc := 4) 0 dX4_define_4 rfl rfl ?_
  refine wp_getR1 (pc := 5) 0 16 (o := 15) dX4_define_5 rfl fk_X4_35 rfl rfl ?_
  refine wp_callV (pc := 8) (M' := mX1_drawn) 16 [] [] dX4_define_8 ck_X4_100 rfl rfl ⟨Nat.le_of_ble_eq_true rfl, Nat.le_of_ble_eq_true rfl⟩ rfl (Nat.le_of_ble_eq_true rfl) (Nat.le_of_ble_eq_true rfl) (Nat.le_of_ble_eq_true rfl) rfl ?_
  exact h1
set_option maxRecDepth 20000 in
theorem bX4_define_11 {g : pw_G} {σ : pw_Mem} {Q : pw_R → Prop} {x1 x2 x3 x4 : Int32} (h1 : WP g mX4_checkState 0 [(0, .ref (pw_ad g 17)), (1, .int x1)] [] 0 σ (pw_k g mX4_define 15 [(0, .ref (pw_ad g 0)), (1, .int x1), (2, .int x2), (3, .int x3), (4, .int x4)] [] 2 Q)) : WP g mX4_define 11 [(0, .ref (pw_ad g 0)), (1, .int x1), (2, .int x2), (3, .int x3), (4, .int x4)] [.ref (pw_ad g 17)] 1 σ Q := by
  refine wp_iload_n (pc := 11) 1 dX4_define_11 rfl rfl ?_
  refine wp_callS (pc := 12) (M' := mX4_checkState) [.ref (pw_ad g 17), .int x1] [] dX4_define_12 ck_X4_70 ⟨Nat.le_of_ble_eq_true rfl, Nat.le_of_ble_eq_true rfl⟩ rfl (Nat.le_of_ble_eq_true rfl) (Nat.le_of_ble_eq_true rfl) (Nat.le_of_ble_eq_true rfl) rfl ?_
  exact h1
set_option maxRecDepth 20000 in
theorem bX4_define_15 {g : pw_G} {σ : pw_Mem} {Q : pw_R → Prop} {x1 x2 x3 x4 : Int32} (h1 : WP g mX1_drawn 0 [(0, .ref (pw_ad g 16))] [] 0 σ (pw_k g mX4_define 22 [(0, .ref (pw_ad g 0)), (1, .int x1), (2, .int x2), (3, .int x3), (4, .int x4)] [] 2 Q)) : WP g mX4_define 15 [(0, .ref (pw_ad g 0)), (1, .int x1), (2, .int x2), (3, .int x3), (4, .int x4)] [] 2 σ Q := by
  refine wp_aload_n (pc := 15) 0 dX4_define_15 rfl rfl ?_
  refine wp_getR1 (pc := 16) 0 16 (o := 15) dX4_define_16 rfl fk_X4_35 rfl rfl ?_
  refine wp_callV (pc := 19) (M' := mX1_drawn) 16 [] [] dX4_define_19 ck_X4_100 rfl rfl ⟨Nat.le_of_ble_eq_true rfl, Nat.le_of_ble_eq_true rfl⟩ rfl (Nat.le_of_ble_eq_true rfl) (Nat.le_of_ble_eq_true rfl) (Nat.le_of_ble_eq_true rfl) rfl ?_
  exact h1
set_option maxRecDepth 20000 in
theorem bX4_define_22 {g : pw_G} {σ : pw_Mem} {Q : pw_R → Prop} {x1 x2 x3 x4 : Int32} (h1 : WP g mX4_checkState 0 [(0, .ref (pw_ad g 17)), (1, .int x3)] [] 0 σ (pw_k g mX4_define 26 [(0, .ref (pw_ad g 0)), (1, .int x1), (2, .int x2), (3, .int x3), (4, .int x4)] [] 3 Q)) : WP g mX4_define 22 [(0, .ref (pw_ad g 0)), (1, .int x1), (2, .int x2), (3, .int x3), (4, .int x4)] [.ref (pw_ad g 17)] 2 σ Q := by
  refine wp_iload_n (pc := 22) 3 dX4_define_22 rfl rfl ?_
  refine wp_callS (pc := 23) (M' := mX4_checkState) [.ref (pw_ad g 17), .int x3] [] dX4_define_23 ck_X4_70 ⟨Nat.le_of_ble_eq_true rfl, Nat.le_of_ble_eq_true rfl⟩ rfl (Nat.le_of_ble_eq_true rfl) (Nat.le_of_ble_eq_true rfl) (Nat.le_of_ble_eq_true rfl) rfl ?_
  exact h1
set_option maxRecDepth 20000 in
theorem bX4_define_26 {g : pw_G} {σ : pw_Mem} {Q : pw_R → Prop} {x1 x2 x3 x4 : Int32} (h1 : WP g mX1_drawn 0 [(0, .ref (pw_ad g 16))] [] 0 σ (pw_k g mX4_define 33 [(0, .ref (pw_ad g 0)), (1, .int x1), (2, .int x2), (3, .int x3), (4, .int x4)] [] 3 Q)) : WP g mX4_define 26 [(0, .ref (pw_ad g 0)), (1, .int x1), (2, .int x2), (3, .int x3), (4, .int x4)] [] 3 σ Q := by
  refine wp_aload_n (pc := 26) 0 dX4_define_26 rfl rfl ?_
  refine wp_getR1 (pc := 27) 0 16 (o := 15) dX4_define_27 rfl fk_X4_35 rfl rfl ?_
  refine wp_callV (pc := 30) (M' := mX1_drawn) 16 [] [] dX4_define_30 ck_X4_100 rfl rfl ⟨Nat.le_of_ble_eq_true rfl, Nat.le_of_ble_eq_true rfl⟩ rfl (Nat.le_of_ble_eq_true rfl) (Nat.le_of_ble_eq_true rfl) (Nat.le_of_ble_eq_true rfl) rfl ?_
  exact h1
set_option maxRecDepth 20000 in
theorem bX4_define_33 {g : pw_G} {σ : pw_Mem} {Q : pw_R → Prop} {x1 x2 x3 x4 : Int32} (h1 : WP g mX4_checkState 0 [(0, .ref (pw_ad g 17)), (1, .int x4)] [] 0 σ (pw_k g mX4_define 38 [(0, .ref (pw_ad g 0)), (1, .int x1), (2, .int x2), (3, .int x3), (4, .int x4)] [] 4 Q)) : WP g mX4_define 33 [(0, .ref (pw_ad g 0)), (1, .int x1), (2, .int x2), (3, .int x3), (4, .int x4)] [.ref (pw_ad g 17)] 3 σ Q := by
  refine wp_iload (pc := 33) 4 dX4_define_33 rfl ?_
  refine wp_callS (pc := 35) (M' := mX4_checkState) [.ref (pw_ad g 17), .int x4] [] dX4_define_35 ck_X4_70 ⟨Nat.le_of_ble_eq_true rfl, Nat.le_of_ble_eq_true rfl⟩ rfl (Nat.le_of_ble_eq_true rfl) (Nat.le_of_ble_eq_true rfl) (Nat.le_of_ble_eq_true rfl) rfl ?_
  exact h1
set_option maxRecDepth 20000 in
theorem bX4_define_38 {g : pw_G} {σ : pw_Mem} {Q : pw_R → Prop} {x1 x2 x3 x4 : Int32} (h1 : x2 = 0 → WP g mX1_change 0 [(0, .ref (pw_ad g 16)), (1, .int x1), (2, .int (-1 : Int32)), (3, .int x3), (4, .int x4)] [] 0 σ (pw_k g mX4_define 58 [(0, .ref (pw_ad g 0)), (1, .int x1), (2, .int x2), (3, .int x3), (4, .int x4)] [] 4 Q)) (h2 : ¬ x2 = 0 → WP g mX1_change 0 [(0, .ref (pw_ad g 16)), (1, .int x1), (2, .int (1 : Int32)), (3, .int x3), (4, .int x4)] [] 0 σ (pw_k g mX4_define 58 [(0, .ref (pw_ad g 0)), (1, .int x1), (2, .int x2), (3, .int x3), (4, .int x4)] [] 4 Q)) : WP g mX4_define 38 [(0, .ref (pw_ad g 0)), (1, .int x1), (2, .int x2), (3, .int x3), (4, .int x4)] [] 4 σ Q := by
  refine wp_aload_n (pc := 38) 0 dX4_define_38 rfl rfl ?_
  refine wp_getR1 (pc := 39) 0 16 (o := 15) dX4_define_39 rfl fk_X4_35 rfl rfl ?_
  refine wp_iload_n (pc := 42) 1 dX4_define_42 rfl rfl ?_
  refine wp_iload_n (pc := 43) 2 dX4_define_43 rfl rfl ?_
  refine wp_if_eq (pc := 44) (tgt := 51) dX4_define_44 (by decide) (fun c44 => ?_) (fun c44 => ?_)
  ·
    refine wp_iconst (pc := 51) (v := (-1 : Int32)) dX4_define_51 (by decide) ?_
    refine wp_iload_n (pc := 52) 3 dX4_define_52 rfl rfl ?_
    refine wp_iload (pc := 53) 4 dX4_define_53 rfl ?_
    refine wp_callV (pc := 55) (M' := mX1_change) 16 [.int x1, .int (-1 : Int32), .int x3, .int x4] [] dX4_define_55 ck_X4_104 rfl rfl ⟨Nat.le_of_ble_eq_true rfl, Nat.le_of_ble_eq_true rfl⟩ rfl (Nat.le_of_ble_eq_true rfl) (Nat.le_of_ble_eq_true rfl) (Nat.le_of_ble_eq_true rfl) rfl ?_
    exact h1 c44
  ·
    refine wp_iconst (pc := 47) (v := (1 : Int32)) dX4_define_47 (by decide) ?_
    refine wp_goto (pc := 48) (tgt := 52) dX4_define_48 (by decide) ?_
    refine wp_iload_n (pc := 52) 3 dX4_define_52 rfl rfl ?_
    refine wp_iload (pc := 53) 4 dX4_define_53 rfl ?_
    refine wp_callV (pc := 55) (M' := mX1_change) 16 [.int x1, .int (1 : Int32), .int x3, .int x4] [] dX4_define_55 ck_X4_104 rfl rfl ⟨Nat.le_of_ble_eq_true rfl, Nat.le_of_ble_eq_true rfl⟩ rfl (Nat.le_of_ble_eq_true rfl) (Nat.le_of_ble_eq_true rfl) (Nat.le_of_ble_eq_true rfl) rfl ?_
    exact h2 c44
set_option maxRecDepth 20000 in
theorem bX4_define_58 {g : pw_G} {σ : pw_Mem} {Q : pw_R → Prop} {x1 x2 x3 x4 : Int32} (h1 : Q (.inl none, σ)) : WP g mX4_define 58 [(0, .ref (pw_ad g 0)), (1, .int x1), (2, .int x2), (3, .int x3), (4, .int x4)] [] 4 σ Q := by
  exact wp_return (pc := 58) dX4_define_58 rfl (Nat.le_of_ble_eq_true rfl) (h1)
set_option maxRecDepth 20000 in
theorem bX4_least_0 {g : pw_G} {σ : pw_Mem} {Q : pw_R → Prop} (h1 : WP g mX4_checkDrafted 0 [(0, .ref (pw_ad g 0))] [] 0 σ (pw_k g mX4_least 4 [(0, .ref (pw_ad g 0))] [] 1 Q)) : WP g mX4_least 0 [(0, .ref (pw_ad g 0))] [] 0 σ Q := by
  refine wp_aload_n (pc := 0) 0 dX4_least_0 rfl rfl ?_
  refine wp_callV (pc := 1) (M' := mX4_checkDrafted) 0 [] [] dX4_least_1 ck_X4_97 rfl rfl ⟨Nat.le_of_ble_eq_true rfl, Nat.le_of_ble_eq_true rfl⟩ rfl (Nat.le_of_ble_eq_true rfl) (Nat.le_of_ble_eq_true rfl) (Nat.le_of_ble_eq_true rfl) rfl ?_
  exact h1
set_option maxRecDepth 20000 in
theorem bX4_least_4 {g : pw_G} {σ : pw_Mem} {Q : pw_R → Prop} (h1 : WP g mX1_reduced 0 [(0, .ref (pw_ad g 16))] [] 0 σ (pw_k g mX4_least 11 [(0, .ref (pw_ad g 0))] [] 1 Q)) : WP g mX4_least 4 [(0, .ref (pw_ad g 0))] [] 1 σ Q := by
  refine wp_aload_n (pc := 4) 0 dX4_least_4 rfl rfl ?_
  refine wp_getR1 (pc := 5) 0 16 (o := 15) dX4_least_5 rfl fk_X4_35 rfl rfl ?_
  refine wp_callV (pc := 8) (M' := mX1_reduced) 16 [] [] dX4_least_8 ck_X4_108 rfl rfl ⟨Nat.le_of_ble_eq_true rfl, Nat.le_of_ble_eq_true rfl⟩ rfl (Nat.le_of_ble_eq_true rfl) (Nat.le_of_ble_eq_true rfl) (Nat.le_of_ble_eq_true rfl) rfl ?_
  exact h1
set_option maxRecDepth 20000 in
theorem bX4_least_11 {g : pw_G} {σ : pw_Mem} {Q : pw_R → Prop} (h1 : WP g mX0_count 0 [(0, .ref (pw_ad g 20))] [] 0 σ (pw_k g mX4_least 14 [(0, .ref (pw_ad g 0))] [] 1 Q)) : WP g mX4_least 11 [(0, .ref (pw_ad g 0))] [.ref (pw_ad g 20)] 1 σ Q := by
  refine wp_callV (pc := 11) (M' := mX0_count) 20 [] [] dX4_least_11 ck_X4_69 rfl rfl ⟨Nat.le_of_ble_eq_true rfl, Nat.le_of_ble_eq_true rfl⟩ rfl (Nat.le_of_ble_eq_true rfl) (Nat.le_of_ble_eq_true rfl) (Nat.le_of_ble_eq_true rfl) rfl ?_
  exact h1
set_option maxRecDepth 20000 in
theorem bX4_least_14 {g : pw_G} {σ : pw_Mem} {Q : pw_R → Prop} {s9 : Int32} (h1 : Q (.inl (some (.int s9)), σ)) : WP g mX4_least 14 [(0, .ref (pw_ad g 0))] [.int s9] 1 σ Q := by
  exact wp_ireturn (pc := 14) dX4_least_14 rfl rfl (Nat.le_of_ble_eq_true rfl) (h1)
set_option maxRecDepth 20000 in
theorem bX4_name_0 {g : pw_G} {σ : pw_Mem} {Q : pw_R → Prop} {x1 : Int32} (h1 : WP g mX4_checkDrafted 0 [(0, .ref (pw_ad g 0))] [] 0 σ (pw_k g mX4_name 4 [(0, .ref (pw_ad g 0)), (1, .int x1)] [] 1 Q)) : WP g mX4_name 0 [(0, .ref (pw_ad g 0)), (1, .int x1)] [] 0 σ Q := by
  refine wp_aload_n (pc := 0) 0 dX4_name_0 rfl rfl ?_
  refine wp_callV (pc := 1) (M' := mX4_checkDrafted) 0 [] [] dX4_name_1 ck_X4_97 rfl rfl ⟨Nat.le_of_ble_eq_true rfl, Nat.le_of_ble_eq_true rfl⟩ rfl (Nat.le_of_ble_eq_true rfl) (Nat.le_of_ble_eq_true rfl) (Nat.le_of_ble_eq_true rfl) rfl ?_
  exact h1
set_option maxRecDepth 20000 in
theorem bX4_name_4 {g : pw_G} {σ : pw_Mem} {Q : pw_R → Prop} {x1 : Int32} (h1 : WP g mX1_reduced 0 [(0, .ref (pw_ad g 16))] [] 0 σ (pw_k g mX4_name 11 [(0, .ref (pw_ad g 0)), (1, .int x1)] [] 1 Q)) : WP g mX4_name 4 [(0, .ref (pw_ad g 0)), (1, .int x1)] [] 1 σ Q := by
  refine wp_aload_n (pc := 4) 0 dX4_name_4 rfl rfl ?_
  refine wp_getR1 (pc := 5) 0 16 (o := 15) dX4_name_5 rfl fk_X4_35 rfl rfl ?_
  refine wp_callV (pc := 8) (M' := mX1_reduced) 16 [] [] dX4_name_8 ck_X4_108 rfl rfl ⟨Nat.le_of_ble_eq_true rfl, Nat.le_of_ble_eq_true rfl⟩ rfl (Nat.le_of_ble_eq_true rfl) (Nat.le_of_ble_eq_true rfl) (Nat.le_of_ble_eq_true rfl) rfl ?_
  exact h1
set_option maxRecDepth 20000 in
theorem bX4_name_11 {g : pw_G} {σ : pw_Mem} {Q : pw_R → Prop} {x1 : Int32} (h1 : WP g mX4_checkState 0 [(0, .ref (pw_ad g 20)), (1, .int x1)] [] 0 σ (pw_k g mX4_name 15 [(0, .ref (pw_ad g 0)), (1, .int x1)] [] 2 Q)) : WP g mX4_name 11 [(0, .ref (pw_ad g 0)), (1, .int x1)] [.ref (pw_ad g 20)] 1 σ Q := by
  refine wp_iload_n (pc := 11) 1 dX4_name_11 rfl rfl ?_
  refine wp_callS (pc := 12) (M' := mX4_checkState) [.ref (pw_ad g 20), .int x1] [] dX4_name_12 ck_X4_70 ⟨Nat.le_of_ble_eq_true rfl, Nat.le_of_ble_eq_true rfl⟩ rfl (Nat.le_of_ble_eq_true rfl) (Nat.le_of_ble_eq_true rfl) (Nat.le_of_ble_eq_true rfl) rfl ?_
  exact h1
set_option maxRecDepth 20000 in
theorem bX4_name_15 {g : pw_G} {σ : pw_Mem} {Q : pw_R → Prop} {x1 : Int32} (h1 : WP g mX1_nameOf 0 [(0, .ref (pw_ad g 16)), (1, .int x1)] [] 0 σ (pw_k g mX4_name 23 [(0, .ref (pw_ad g 0)), (1, .int x1)] [] 2 Q)) : WP g mX4_name 15 [(0, .ref (pw_ad g 0)), (1, .int x1)] [] 2 σ Q := by
  refine wp_aload_n (pc := 15) 0 dX4_name_15 rfl rfl ?_
  refine wp_getR1 (pc := 16) 0 16 (o := 15) dX4_name_16 rfl fk_X4_35 rfl rfl ?_
  refine wp_iload_n (pc := 19) 1 dX4_name_19 rfl rfl ?_
  refine wp_callV (pc := 20) (M' := mX1_nameOf) 16 [.int x1] [] dX4_name_20 ck_X4_111 rfl rfl ⟨Nat.le_of_ble_eq_true rfl, Nat.le_of_ble_eq_true rfl⟩ rfl (Nat.le_of_ble_eq_true rfl) (Nat.le_of_ble_eq_true rfl) (Nat.le_of_ble_eq_true rfl) rfl ?_
  exact h1
set_option maxRecDepth 20000 in
theorem bX4_name_23 {g : pw_G} {σ : pw_Mem} {Q : pw_R → Prop} {s9 x1 : Int32} (h1 : WP g mX4_codeOf 0 [(0, .int s9)] [] 0 σ (pw_k g mX4_name 26 [(0, .ref (pw_ad g 0)), (1, .int x1)] [] 2 Q)) : WP g mX4_name 23 [(0, .ref (pw_ad g 0)), (1, .int x1)] [.int s9] 2 σ Q := by
  refine wp_callS (pc := 23) (M' := mX4_codeOf) [.int s9] [] dX4_name_23 ck_X4_114 ⟨Nat.le_of_ble_eq_true rfl, Nat.le_of_ble_eq_true rfl⟩ rfl (Nat.le_of_ble_eq_true rfl) (Nat.le_of_ble_eq_true rfl) (Nat.le_of_ble_eq_true rfl) rfl ?_
  exact h1
set_option maxRecDepth 20000 in
theorem bX4_name_26 {g : pw_G} {σ : pw_Mem} {Q : pw_R → Prop} {s9 x1 : Int32} (h1 : Q (.inl (some (.int s9)), σ)) : WP g mX4_name 26 [(0, .ref (pw_ad g 0)), (1, .int x1)] [.int s9] 2 σ Q := by
  exact wp_ireturn (pc := 26) dX4_name_26 rfl rfl (Nat.le_of_ble_eq_true rfl) (h1)
set_option maxRecDepth 20000 in
theorem bX4_apart_0 {g : pw_G} {σ : pw_Mem} {Q : pw_R → Prop} {x1 x2 : Int32} (h1 : WP g mX4_checkDrafted 0 [(0, .ref (pw_ad g 0))] [] 0 σ (pw_k g mX4_apart 4 [(0, .ref (pw_ad g 0)), (1, .int x1), (2, .int x2)] [] 1 Q)) : WP g mX4_apart 0 [(0, .ref (pw_ad g 0)), (1, .int x1), (2, .int x2)] [] 0 σ Q := by
  refine wp_aload_n (pc := 0) 0 dX4_apart_0 rfl rfl ?_
  refine wp_callV (pc := 1) (M' := mX4_checkDrafted) 0 [] [] dX4_apart_1 ck_X4_97 rfl rfl ⟨Nat.le_of_ble_eq_true rfl, Nat.le_of_ble_eq_true rfl⟩ rfl (Nat.le_of_ble_eq_true rfl) (Nat.le_of_ble_eq_true rfl) (Nat.le_of_ble_eq_true rfl) rfl ?_
  exact h1
set_option maxRecDepth 20000 in
theorem bX4_apart_4 {g : pw_G} {σ : pw_Mem} {Q : pw_R → Prop} {x1 x2 : Int32} (h1 : WP g mX1_reduced 0 [(0, .ref (pw_ad g 16))] [] 0 σ (pw_k g mX4_apart 11 [(0, .ref (pw_ad g 0)), (1, .int x1), (2, .int x2)] [] 1 Q)) : WP g mX4_apart 4 [(0, .ref (pw_ad g 0)), (1, .int x1), (2, .int x2)] [] 1 σ Q := by
  refine wp_aload_n (pc := 4) 0 dX4_apart_4 rfl rfl ?_
  refine wp_getR1 (pc := 5) 0 16 (o := 15) dX4_apart_5 rfl fk_X4_35 rfl rfl ?_
  refine wp_callV (pc := 8) (M' := mX1_reduced) 16 [] [] dX4_apart_8 ck_X4_108 rfl rfl ⟨Nat.le_of_ble_eq_true rfl, Nat.le_of_ble_eq_true rfl⟩ rfl (Nat.le_of_ble_eq_true rfl) (Nat.le_of_ble_eq_true rfl) (Nat.le_of_ble_eq_true rfl) rfl ?_
  exact h1
set_option maxRecDepth 20000 in
theorem bX4_apart_11 {g : pw_G} {σ : pw_Mem} {Q : pw_R → Prop} {x1 x2 : Int32} (h1 : WP g mX4_checkState 0 [(0, .ref (pw_ad g 20)), (1, .int x1)] [] 0 σ (pw_k g mX4_apart 15 [(0, .ref (pw_ad g 0)), (1, .int x1), (2, .int x2)] [] 2 Q)) : WP g mX4_apart 11 [(0, .ref (pw_ad g 0)), (1, .int x1), (2, .int x2)] [.ref (pw_ad g 20)] 1 σ Q := by
  refine wp_iload_n (pc := 11) 1 dX4_apart_11 rfl rfl ?_
  refine wp_callS (pc := 12) (M' := mX4_checkState) [.ref (pw_ad g 20), .int x1] [] dX4_apart_12 ck_X4_70 ⟨Nat.le_of_ble_eq_true rfl, Nat.le_of_ble_eq_true rfl⟩ rfl (Nat.le_of_ble_eq_true rfl) (Nat.le_of_ble_eq_true rfl) (Nat.le_of_ble_eq_true rfl) rfl ?_
  exact h1
set_option maxRecDepth 20000 in
theorem bX4_apart_15 {g : pw_G} {σ : pw_Mem} {Q : pw_R → Prop} {x1 x2 : Int32} (h1 : WP g mX1_reduced 0 [(0, .ref (pw_ad g 16))] [] 0 σ (pw_k g mX4_apart 22 [(0, .ref (pw_ad g 0)), (1, .int x1), (2, .int x2)] [] 2 Q)) : WP g mX4_apart 15 [(0, .ref (pw_ad g 0)), (1, .int x1), (2, .int x2)] [] 2 σ Q := by
  refine wp_aload_n (pc := 15) 0 dX4_apart_15 rfl rfl ?_
  refine wp_getR1 (pc := 16) 0 16 (o := 15) dX4_apart_16 rfl fk_X4_35 rfl rfl ?_
  refine wp_callV (pc := 19) (M' := mX1_reduced) 16 [] [] dX4_apart_19 ck_X4_108 rfl rfl ⟨Nat.le_of_ble_eq_true rfl, Nat.le_of_ble_eq_true rfl⟩ rfl (Nat.le_of_ble_eq_true rfl) (Nat.le_of_ble_eq_true rfl) (Nat.le_of_ble_eq_true rfl) rfl ?_
  exact h1
set_option maxRecDepth 20000 in
theorem bX4_apart_22 {g : pw_G} {σ : pw_Mem} {Q : pw_R → Prop} {x1 x2 : Int32} (h1 : WP g mX4_checkState 0 [(0, .ref (pw_ad g 20)), (1, .int x2)] [] 0 σ (pw_k g mX4_apart 26 [(0, .ref (pw_ad g 0)), (1, .int x1), (2, .int x2)] [] 3 Q)) : WP g mX4_apart 22 [(0, .ref (pw_ad g 0)), (1, .int x1), (2, .int x2)] [.ref (pw_ad g 20)] 2 σ Q := by
  refine wp_iload_n (pc := 22) 2 dX4_apart_22 rfl rfl ?_
  refine wp_callS (pc := 23) (M' := mX4_checkState) [.ref (pw_ad g 20), .int x2] [] dX4_apart_23 ck_X4_70 ⟨Nat.le_of_ble_eq_true rfl, Nat.le_of_ble_eq_true rfl⟩ rfl (Nat.le_of_ble_eq_true rfl) (Nat.le_of_ble_eq_true rfl) (Nat.le_of_ble_eq_true rfl) rfl ?_
  exact h1
set_option maxRecDepth 20000 in
theorem bX4_apart_26 {g : pw_G} {σ : pw_Mem} {Q : pw_R → Prop} {x1 x2 : Int32} (h1 : ¬ x1 = x2 → WP g mX1_splitterOf 0 [(0, .ref (pw_ad g 16)), (1, .int x1), (2, .int x2)] [] 0 σ (pw_k g mX4_apart 44 [(0, .ref (pw_ad g 0)), (1, .int x1), (2, .int x2)] [] 3 Q)) (h2 : x1 = x2 → Q (.inl (some (.int (-1 : Int32))), σ)) : WP g mX4_apart 26 [(0, .ref (pw_ad g 0)), (1, .int x1), (2, .int x2)] [] 3 σ Q := by
  refine wp_iload_n (pc := 26) 1 dX4_apart_26 rfl rfl ?_
  refine wp_iload_n (pc := 27) 2 dX4_apart_27 rfl rfl ?_
  refine wp_icmp_ne (pc := 28) (tgt := 35) dX4_apart_28 (by decide) (fun c28 => ?_) (fun c28 => ?_)
  ·
    refine wp_aload_n (pc := 35) 0 dX4_apart_35 rfl rfl ?_
    refine wp_getR1 (pc := 36) 0 16 (o := 15) dX4_apart_36 rfl fk_X4_35 rfl rfl ?_
    refine wp_iload_n (pc := 39) 1 dX4_apart_39 rfl rfl ?_
    refine wp_iload_n (pc := 40) 2 dX4_apart_40 rfl rfl ?_
    refine wp_callV (pc := 41) (M' := mX1_splitterOf) 16 [.int x1, .int x2] [] dX4_apart_41 ck_X4_117 rfl rfl ⟨Nat.le_of_ble_eq_true rfl, Nat.le_of_ble_eq_true rfl⟩ rfl (Nat.le_of_ble_eq_true rfl) (Nat.le_of_ble_eq_true rfl) (Nat.le_of_ble_eq_true rfl) rfl ?_
    exact h1 c28
  ·
    refine wp_iconst (pc := 31) (v := (-1 : Int32)) dX4_apart_31 (by decide) ?_
    refine wp_goto (pc := 32) (tgt := 47) dX4_apart_32 (by decide) ?_
    exact wp_ireturn (pc := 47) dX4_apart_47 rfl rfl (Nat.le_of_ble_eq_true rfl) (h2 c28)
set_option maxRecDepth 20000 in
theorem bX4_apart_44 {g : pw_G} {σ : pw_Mem} {Q : pw_R → Prop} {s9 x1 x2 : Int32} (h1 : WP g mX4_codeOf 0 [(0, .int s9)] [] 0 σ (pw_k g mX4_apart 47 [(0, .ref (pw_ad g 0)), (1, .int x1), (2, .int x2)] [] 3 Q)) : WP g mX4_apart 44 [(0, .ref (pw_ad g 0)), (1, .int x1), (2, .int x2)] [.int s9] 3 σ Q := by
  refine wp_callS (pc := 44) (M' := mX4_codeOf) [.int s9] [] dX4_apart_44 ck_X4_114 ⟨Nat.le_of_ble_eq_true rfl, Nat.le_of_ble_eq_true rfl⟩ rfl (Nat.le_of_ble_eq_true rfl) (Nat.le_of_ble_eq_true rfl) (Nat.le_of_ble_eq_true rfl) rfl ?_
  exact h1
set_option maxRecDepth 20000 in
theorem bX4_apart_47 {g : pw_G} {σ : pw_Mem} {Q : pw_R → Prop} {s9 x1 x2 : Int32} (h1 : Q (.inl (some (.int s9)), σ)) : WP g mX4_apart 47 [(0, .ref (pw_ad g 0)), (1, .int x1), (2, .int x2)] [.int s9] 3 σ Q := by
  exact wp_ireturn (pc := 47) dX4_apart_47 rfl rfl (Nat.le_of_ble_eq_true rfl) (h1)
set_option maxRecDepth 20000 in
theorem bX4_exemplify_0 {g : pw_G} {σ : pw_Mem} {Q : pw_R → Prop} (h1 : WP g mX4_checkDrafted 0 [(0, .ref (pw_ad g 0))] [] 0 σ (pw_k g mX4_exemplify 4 [(0, .ref (pw_ad g 0))] [] 1 Q)) : WP g mX4_exemplify 0 [(0, .ref (pw_ad g 0))] [] 0 σ Q := by
  refine wp_aload_n (pc := 0) 0 dX4_exemplify_0 rfl rfl ?_
  refine wp_callV (pc := 1) (M' := mX4_checkDrafted) 0 [] [] dX4_exemplify_1 ck_X4_97 rfl rfl ⟨Nat.le_of_ble_eq_true rfl, Nat.le_of_ble_eq_true rfl⟩ rfl (Nat.le_of_ble_eq_true rfl) (Nat.le_of_ble_eq_true rfl) (Nat.le_of_ble_eq_true rfl) rfl ?_
  exact h1
set_option maxRecDepth 20000 in
theorem bX4_exemplify_4 {g : pw_G} {σ : pw_Mem} {Q : pw_R → Prop} (h1 : WP g mX1_examples 0 [(0, .ref (pw_ad g 16))] [] 0 σ (pw_k g mX4_exemplify 11 [(0, .ref (pw_ad g 0))] [] 1 Q)) : WP g mX4_exemplify 4 [(0, .ref (pw_ad g 0))] [] 1 σ Q := by
  refine wp_aload_n (pc := 4) 0 dX4_exemplify_4 rfl rfl ?_
  refine wp_getR1 (pc := 5) 0 16 (o := 15) dX4_exemplify_5 rfl fk_X4_35 rfl rfl ?_
  refine wp_callV (pc := 8) (M' := mX1_examples) 16 [] [] dX4_exemplify_8 ck_X4_120 rfl rfl ⟨Nat.le_of_ble_eq_true rfl, Nat.le_of_ble_eq_true rfl⟩ rfl (Nat.le_of_ble_eq_true rfl) (Nat.le_of_ble_eq_true rfl) (Nat.le_of_ble_eq_true rfl) rfl ?_
  exact h1
set_option maxRecDepth 20000 in
theorem bX4_exemplify_11 {g : pw_G} {σ : pw_Mem} {Q : pw_R → Prop} (h1 : WP g mX3_contradicts 0 [(0, .ref (pw_ad g 1)), (1, .ref (pw_ad g 28))] [] 0 σ (pw_k g mX4_exemplify 20 [(0, .ref (pw_ad g 0)), (1, .ref (pw_ad g 28))] [] 1 Q)) : WP g mX4_exemplify 11 [(0, .ref (pw_ad g 0))] [.ref (pw_ad g 28)] 1 σ Q := by
  refine wp_astore_n (pc := 11) (lv' := [(0, .ref (pw_ad g 0)), (1, .ref (pw_ad g 28))]) dX4_exemplify_11 rfl (by decide) rfl ?_
  refine wp_aload_n (pc := 12) 0 dX4_exemplify_12 rfl rfl ?_
  refine wp_getR1 (pc := 13) 0 1 (o := 0) dX4_exemplify_13 rfl fk_X4_12 rfl rfl ?_
  refine wp_aload_n (pc := 16) 1 dX4_exemplify_16 rfl rfl ?_
  refine wp_callV (pc := 17) (M' := mX3_contradicts) 1 [.ref (pw_ad g 28)] [] dX4_exemplify_17 ck_X4_124 rfl rfl ⟨Nat.le_of_ble_eq_true rfl, Nat.le_of_ble_eq_true rfl⟩ rfl (Nat.le_of_ble_eq_true rfl) (Nat.le_of_ble_eq_true rfl) (Nat.le_of_ble_eq_true rfl) rfl ?_
  exact h1
set_option maxRecDepth 20000 in
theorem bX4_exemplify_20 {g : pw_G} {σ : pw_Mem} {Q : pw_R → Prop} {s9 : Int32} (hl9 : (pw_l g).stackTraces = false) (h1 : s9 = 0 → WP g mX3_takeAll 0 [(0, .ref (pw_ad g 1)), (1, .ref (pw_ad g 28))] [] 0 σ (pw_k g mX4_exemplify 41 [(0, .ref (pw_ad g 0)), (1, .ref (pw_ad g 28))] [] 1 Q)) (h2 : ¬ s9 = 0 → Q (.inr "java/lang/IllegalArgumentException", σ)) : WP g mX4_exemplify 20 [(0, .ref (pw_ad g 0)), (1, .ref (pw_ad g 28))] [.int s9] 1 σ Q := by
  refine wp_if_eq (pc := 20) (tgt := 33) dX4_exemplify_20 (by decide) (fun c20 => ?_) (fun c20 => ?_)
  ·
    refine wp_aload_n (pc := 33) 0 dX4_exemplify_33 rfl rfl ?_
    refine wp_getR1 (pc := 34) 0 1 (o := 0) dX4_exemplify_34 rfl fk_X4_12 rfl rfl ?_
    refine wp_aload_n (pc := 37) 1 dX4_exemplify_37 rfl rfl ?_
    refine wp_callV (pc := 38) (M' := mX3_takeAll) 1 [.ref (pw_ad g 28)] [] dX4_exemplify_38 ck_X4_130 rfl rfl ⟨Nat.le_of_ble_eq_true rfl, Nat.le_of_ble_eq_true rfl⟩ rfl (Nat.le_of_ble_eq_true rfl) (Nat.le_of_ble_eq_true rfl) (Nat.le_of_ble_eq_true rfl) rfl ?_
    exact h1 c20
  ·
    exact wp_throw (pc := 23) (is := 128) (text := "the sample has a word with the other sign") dX4_exemplify_23 dX4_exemplify_26 dX4_exemplify_27 dX4_exemplify_29 dX4_exemplify_32 rfl hl9 pw_ctA (by decide) (Nat.le_of_ble_eq_true rfl) (Nat.le_of_ble_eq_true rfl) (Nat.le_of_ble_eq_true rfl) (h2 c20)
set_option maxRecDepth 20000 in
theorem bX4_exemplify_41 {g : pw_G} {σ : pw_Mem} {Q : pw_R → Prop} {s9 : Int32} (h1 : Q (.inl (some (.int s9)), σ)) : WP g mX4_exemplify 41 [(0, .ref (pw_ad g 0)), (1, .ref (pw_ad g 28))] [.int s9] 1 σ Q := by
  exact wp_ireturn (pc := 41) dX4_exemplify_41 rfl rfl (Nat.le_of_ble_eq_true rfl) (h1)
set_option maxRecDepth 20000 in
theorem bX4_same_0 {g : pw_G} {σ : pw_Mem} {Q : pw_R → Prop} (h1 : WP g mX4_checkDrafted 0 [(0, .ref (pw_ad g 0))] [] 0 σ (pw_k g mX4_same 4 [(0, .ref (pw_ad g 0))] [] 1 Q)) : WP g mX4_same 0 [(0, .ref (pw_ad g 0))] [] 0 σ Q := by
  refine wp_aload_n (pc := 0) 0 dX4_same_0 rfl rfl ?_
  refine wp_callV (pc := 1) (M' := mX4_checkDrafted) 0 [] [] dX4_same_1 ck_X4_97 rfl rfl ⟨Nat.le_of_ble_eq_true rfl, Nat.le_of_ble_eq_true rfl⟩ rfl (Nat.le_of_ble_eq_true rfl) (Nat.le_of_ble_eq_true rfl) (Nat.le_of_ble_eq_true rfl) rfl ?_
  exact h1
set_option maxRecDepth 20000 in
theorem bX4_same_4 {g : pw_G} {σ : pw_Mem} {Q : pw_R → Prop} (h1 : WP g mX4_checkLearned 0 [(0, .ref (pw_ad g 0))] [] 0 σ (pw_k g mX4_same 8 [(0, .ref (pw_ad g 0))] [] 2 Q)) : WP g mX4_same 4 [(0, .ref (pw_ad g 0))] [] 1 σ Q := by
  refine wp_aload_n (pc := 4) 0 dX4_same_4 rfl rfl ?_
  refine wp_callV (pc := 5) (M' := mX4_checkLearned) 0 [] [] dX4_same_5 ck_X4_83 rfl rfl ⟨Nat.le_of_ble_eq_true rfl, Nat.le_of_ble_eq_true rfl⟩ rfl (Nat.le_of_ble_eq_true rfl) (Nat.le_of_ble_eq_true rfl) (Nat.le_of_ble_eq_true rfl) rfl ?_
  exact h1
set_option maxRecDepth 20000 in
theorem bX4_same_8 {g : pw_G} {σ : pw_Mem} {Q : pw_R → Prop} (h1 : WP g mX1_reduced 0 [(0, .ref (pw_ad g 16))] [] 0 σ (pw_k g mX4_same 19 [(0, .ref (pw_ad g 0))] [.ref (pw_ad g 13)] 2 Q)) : WP g mX4_same 8 [(0, .ref (pw_ad g 0))] [] 2 σ Q := by
  refine wp_aload_n (pc := 8) 0 dX4_same_8 rfl rfl ?_
  refine wp_getR1 (pc := 9) 0 13 (o := 12) dX4_same_9 rfl fk_X4_28 rfl rfl ?_
  refine wp_aload_n (pc := 12) 0 dX4_same_12 rfl rfl ?_
  refine wp_getR1 (pc := 13) 0 16 (o := 15) dX4_same_13 rfl fk_X4_35 rfl rfl ?_
  refine wp_callV (pc := 16) (M' := mX1_reduced) 16 [] [.ref (pw_ad g 13)] dX4_same_16 ck_X4_108 rfl rfl ⟨Nat.le_of_ble_eq_true rfl, Nat.le_of_ble_eq_true rfl⟩ rfl (Nat.le_of_ble_eq_true rfl) (Nat.le_of_ble_eq_true rfl) (Nat.le_of_ble_eq_true rfl) rfl ?_
  exact h1
set_option maxRecDepth 20000 in
theorem bX4_same_19 {g : pw_G} {σ : pw_Mem} {Q : pw_R → Prop} (h1 : WP g mX0_isLike 0 [(0, .ref (pw_ad g 13)), (1, .ref (pw_ad g 20))] [] 0 σ (pw_k g mX4_same 22 [(0, .ref (pw_ad g 0))] [] 2 Q)) : WP g mX4_same 19 [(0, .ref (pw_ad g 0))] [.ref (pw_ad g 20), .ref (pw_ad g 13)] 2 σ Q := by
  refine wp_callV (pc := 19) (M' := mX0_isLike) 13 [.ref (pw_ad g 20)] [] dX4_same_19 ck_X4_134 rfl rfl ⟨Nat.le_of_ble_eq_true rfl, Nat.le_of_ble_eq_true rfl⟩ rfl (Nat.le_of_ble_eq_true rfl) (Nat.le_of_ble_eq_true rfl) (Nat.le_of_ble_eq_true rfl) rfl ?_
  exact h1
set_option maxRecDepth 20000 in
theorem bX4_same_22 {g : pw_G} {σ : pw_Mem} {Q : pw_R → Prop} {s9 : Int32} (h1 : pw_bool s9) (h2 : Q (.inl (some (.int s9)), σ)) : WP g mX4_same 22 [(0, .ref (pw_ad g 0))] [.int s9] 2 σ Q := by
  exact wp_ireturn (pc := 22) dX4_same_22 rfl (pw_nb (h1)) (Nat.le_of_ble_eq_true rfl) (h2)
set_option maxRecDepth 20000 in
theorem bX4_checkLearned_0 {g : pw_G} {σ : pw_Mem} {Q : pw_R → Prop} (h1 : WP g mX0_count 0 [(0, .ref (pw_ad g 13))] [] 0 σ (pw_k g mX4_checkLearned 7 [(0, .ref (pw_ad g 0))] [] 0 Q)) : WP g mX4_checkLearned 0 [(0, .ref (pw_ad g 0))] [] 0 σ Q := by
  refine wp_aload_n (pc := 0) 0 dX4_checkLearned_0 rfl rfl ?_
  refine wp_getR1 (pc := 1) 0 13 (o := 12) dX4_checkLearned_1 rfl fk_X4_28 rfl rfl ?_
  refine wp_callV (pc := 4) (M' := mX0_count) 13 [] [] dX4_checkLearned_4 ck_X4_69 rfl rfl ⟨Nat.le_of_ble_eq_true rfl, Nat.le_of_ble_eq_true rfl⟩ rfl (Nat.le_of_ble_eq_true rfl) (Nat.le_of_ble_eq_true rfl) (Nat.le_of_ble_eq_true rfl) rfl ?_
  exact h1
set_option maxRecDepth 20000 in
theorem bX4_checkLearned_7 {g : pw_G} {σ : pw_Mem} {Q : pw_R → Prop} {s9 : Int32} (hl9 : (pw_l g).stackTraces = false) (h1 : ¬ s9 = 0 → Q (.inl none, σ)) (h2 : s9 = 0 → Q (.inr "java/lang/IllegalStateException", σ)) : WP g mX4_checkLearned 7 [(0, .ref (pw_ad g 0))] [.int s9] 0 σ Q := by
  refine wp_if_ne (pc := 7) (tgt := 20) dX4_checkLearned_7 (by decide) (fun c7 => ?_) (fun c7 => ?_)
  ·
    exact wp_return (pc := 20) dX4_checkLearned_20 rfl (Nat.le_of_ble_eq_true rfl) (h1 c7)
  ·
    exact wp_throw (pc := 10) (is := 138) (text := "nothing is learned") dX4_checkLearned_10 dX4_checkLearned_13 dX4_checkLearned_14 dX4_checkLearned_16 dX4_checkLearned_19 rfl hl9 pw_ctS (by decide) (Nat.le_of_ble_eq_true rfl) (Nat.le_of_ble_eq_true rfl) (Nat.le_of_ble_eq_true rfl) (h2 c7)
set_option maxRecDepth 20000 in
theorem bX4_checkDrafted_0 {g : pw_G} {σ : pw_Mem} {Q : pw_R → Prop} (h1 : WP g mX1_drawn 0 [(0, .ref (pw_ad g 16))] [] 0 σ (pw_k g mX4_checkDrafted 7 [(0, .ref (pw_ad g 0))] [] 0 Q)) : WP g mX4_checkDrafted 0 [(0, .ref (pw_ad g 0))] [] 0 σ Q := by
  refine wp_aload_n (pc := 0) 0 dX4_checkDrafted_0 rfl rfl ?_
  refine wp_getR1 (pc := 1) 0 16 (o := 15) dX4_checkDrafted_1 rfl fk_X4_35 rfl rfl ?_
  refine wp_callV (pc := 4) (M' := mX1_drawn) 16 [] [] dX4_checkDrafted_4 ck_X4_100 rfl rfl ⟨Nat.le_of_ble_eq_true rfl, Nat.le_of_ble_eq_true rfl⟩ rfl (Nat.le_of_ble_eq_true rfl) (Nat.le_of_ble_eq_true rfl) (Nat.le_of_ble_eq_true rfl) rfl ?_
  exact h1
set_option maxRecDepth 20000 in
theorem bX4_checkDrafted_7 {g : pw_G} {σ : pw_Mem} {Q : pw_R → Prop} (h1 : WP g mX0_count 0 [(0, .ref (pw_ad g 17))] [] 0 σ (pw_k g mX4_checkDrafted 10 [(0, .ref (pw_ad g 0))] [] 0 Q)) : WP g mX4_checkDrafted 7 [(0, .ref (pw_ad g 0))] [.ref (pw_ad g 17)] 0 σ Q := by
  refine wp_callV (pc := 7) (M' := mX0_count) 17 [] [] dX4_checkDrafted_7 ck_X4_69 rfl rfl ⟨Nat.le_of_ble_eq_true rfl, Nat.le_of_ble_eq_true rfl⟩ rfl (Nat.le_of_ble_eq_true rfl) (Nat.le_of_ble_eq_true rfl) (Nat.le_of_ble_eq_true rfl) rfl ?_
  exact h1
set_option maxRecDepth 20000 in
theorem bX4_checkDrafted_10 {g : pw_G} {σ : pw_Mem} {Q : pw_R → Prop} {s9 : Int32} (hl9 : (pw_l g).stackTraces = false) (h1 : ¬ s9 = 0 → Q (.inl none, σ)) (h2 : s9 = 0 → Q (.inr "java/lang/IllegalStateException", σ)) : WP g mX4_checkDrafted 10 [(0, .ref (pw_ad g 0))] [.int s9] 0 σ Q := by
  refine wp_if_ne (pc := 10) (tgt := 23) dX4_checkDrafted_10 (by decide) (fun c10 => ?_) (fun c10 => ?_)
  ·
    exact wp_return (pc := 23) dX4_checkDrafted_23 rfl (Nat.le_of_ble_eq_true rfl) (h1 c10)
  ·
    exact wp_throw (pc := 13) (is := 140) (text := "there is no draft") dX4_checkDrafted_13 dX4_checkDrafted_16 dX4_checkDrafted_17 dX4_checkDrafted_19 dX4_checkDrafted_22 rfl hl9 pw_ctS (by decide) (Nat.le_of_ble_eq_true rfl) (Nat.le_of_ble_eq_true rfl) (Nat.le_of_ble_eq_true rfl) (h2 c10)
set_option maxRecDepth 20000 in
theorem bX4_checkState_0 {g : pw_G} {σ : pw_Mem} {Q : pw_R → Prop} {x1 : Int32} {k : Nat} (hk0 : pw_kd k = 0) (h1 : WP g mX0_has 0 [(0, .ref (pw_ad g k)), (1, .int x1)] [] 0 σ (pw_k g mX4_checkState 5 [(0, .ref (pw_ad g k)), (1, .int x1)] [] 0 Q)) : WP g mX4_checkState 0 [(0, .ref (pw_ad g k)), (1, .int x1)] [] 0 σ Q := by
  refine wp_aload_n (pc := 0) 0 dX4_checkState_0 rfl rfl ?_
  refine wp_iload_n (pc := 1) 1 dX4_checkState_1 rfl rfl ?_
  refine wp_callV (pc := 2) (M' := mX0_has) k [.int x1] [] dX4_checkState_2 ck_X4_142 hk0 rfl ⟨Nat.le_of_ble_eq_true rfl, Nat.le_of_ble_eq_true rfl⟩ rfl (Nat.le_of_ble_eq_true rfl) (Nat.le_of_ble_eq_true rfl) (Nat.le_of_ble_eq_true rfl) rfl ?_
  exact h1
set_option maxRecDepth 20000 in
theorem bX4_checkState_5 {g : pw_G} {σ : pw_Mem} {Q : pw_R → Prop} {s9 x1 : Int32} {k : Nat} (hk0 : pw_kd k = 0) (hl9 : (pw_l g).stackTraces = false) (h1 : ¬ s9 = 0 → Q (.inl none, σ)) (h2 : s9 = 0 → Q (.inr "java/lang/IndexOutOfBoundsException", σ)) : WP g mX4_checkState 5 [(0, .ref (pw_ad g k)), (1, .int x1)] [.int s9] 0 σ Q := by
  refine wp_if_ne (pc := 5) (tgt := 18) dX4_checkState_5 (by decide) (fun c5 => ?_) (fun c5 => ?_)
  ·
    exact wp_return (pc := 18) dX4_checkState_18 rfl (Nat.le_of_ble_eq_true rfl) (h1 c5)
  ·
    exact wp_throw (pc := 8) (is := 146) (text := "there is no such state") dX4_checkState_8 dX4_checkState_11 dX4_checkState_12 dX4_checkState_14 dX4_checkState_17 rfl hl9 pw_ctO (by decide) (Nat.le_of_ble_eq_true rfl) (Nat.le_of_ble_eq_true rfl) (Nat.le_of_ble_eq_true rfl) (h2 c5)
set_option maxRecDepth 20000 in
theorem bX4_checkedWord_0 {g : pw_G} {σ : pw_Mem} {Q : pw_R → Prop} {x0 x1 : Int32} (hl9 : (pw_l g).stackTraces = false) (h1 : x0 < 0 → Q (.inr "java/lang/IndexOutOfBoundsException", σ)) (h2 : ¬ x0 < 0 → (8 : Int32) < x0 → Q (.inr "java/lang/IndexOutOfBoundsException", σ)) (h3 : ¬ x0 < 0 → ¬ (8 : Int32) < x0 → x1 < 0 → Q (.inr "java/lang/IndexOutOfBoundsException", σ)) (h4 : ¬ x0 < 0 → ¬ (8 : Int32) < x0 → ¬ x1 < 0 → x1 < ((1 : Int32) <<< (x0 &&& 31)) → Q (.inl (some (.int (((1 : Int32) <<< (x0 &&& 31)) + x1))), σ)) (h5 : ¬ x0 < 0 → ¬ (8 : Int32) < x0 → ¬ x1 < 0 → ¬ x1 < ((1 : Int32) <<< (x0 &&& 31)) → Q (.inr "java/lang/IndexOutOfBoundsException", σ)) : WP g mX4_checkedWord 0 [(0, .int x0), (1, .int x1)] [] 0 σ Q := by
  refine wp_iload_n (pc := 0) 0 dX4_checkedWord_0 rfl rfl ?_
  refine wp_if_lt (pc := 1) (tgt := 21) dX4_checkedWord_1 (by decide) (fun c1 => ?_) (fun c1 => ?_)
  ·
    exact wp_throw (pc := 21) (is := 148) (text := "there is no such word") dX4_checkedWord_21 dX4_checkedWord_24 dX4_checkedWord_25 dX4_checkedWord_27 dX4_checkedWord_30 rfl hl9 pw_ctO (by decide) (Nat.le_of_ble_eq_true rfl) (Nat.le_of_ble_eq_true rfl) (Nat.le_of_ble_eq_true rfl) (h1 c1)
  ·
    refine wp_iload_n (pc := 4) 0 dX4_checkedWord_4 rfl rfl ?_
    refine wp_bipush (pc := 5) (v := (8 : Int32)) dX4_checkedWord_5 (by decide) ?_
    refine wp_icmp_gt (pc := 7) (tgt := 21) dX4_checkedWord_7 (by decide) (fun c7 => ?_) (fun c7 => ?_)
    ·
      exact wp_throw (pc := 21) (is := 148) (text := "there is no such word") dX4_checkedWord_21 dX4_checkedWord_24 dX4_checkedWord_25 dX4_checkedWord_27 dX4_checkedWord_30 rfl hl9 pw_ctO (by decide) (Nat.le_of_ble_eq_true rfl) (Nat.le_of_ble_eq_true rfl) (Nat.le_of_ble_eq_true rfl) (h2 c1 c7)
    ·
      refine wp_iload_n (pc := 10) 1 dX4_checkedWord_10 rfl rfl ?_
      refine wp_if_lt (pc := 11) (tgt := 21) dX4_checkedWord_11 (by decide) (fun c11 => ?_) (fun c11 => ?_)
      ·
        exact wp_throw (pc := 21) (is := 148) (text := "there is no such word") dX4_checkedWord_21 dX4_checkedWord_24 dX4_checkedWord_25 dX4_checkedWord_27 dX4_checkedWord_30 rfl hl9 pw_ctO (by decide) (Nat.le_of_ble_eq_true rfl) (Nat.le_of_ble_eq_true rfl) (Nat.le_of_ble_eq_true rfl) (h3 c1 c7 c11)
      ·
        refine wp_iload_n (pc := 14) 1 dX4_checkedWord_14 rfl rfl ?_
        refine wp_iconst (pc := 15) (v := (1 : Int32)) dX4_checkedWord_15 (by decide) ?_
        refine wp_iload_n (pc := 16) 0 dX4_checkedWord_16 rfl rfl ?_
        refine wp_ishl (pc := 17) dX4_checkedWord_17 ?_
        refine wp_icmp_lt (pc := 18) (tgt := 31) dX4_checkedWord_18 (by decide) (fun c18 => ?_) (fun c18 => ?_)
        ·
          refine wp_iconst (pc := 31) (v := (1 : Int32)) dX4_checkedWord_31 (by decide) ?_
          refine wp_iload_n (pc := 32) 0 dX4_checkedWord_32 rfl rfl ?_
          refine wp_ishl (pc := 33) dX4_checkedWord_33 ?_
          refine wp_iload_n (pc := 34) 1 dX4_checkedWord_34 rfl rfl ?_
          refine wp_iadd (pc := 35) dX4_checkedWord_35 ?_
          exact wp_ireturn (pc := 36) dX4_checkedWord_36 rfl rfl (Nat.le_of_ble_eq_true rfl) (h4 c1 c7 c11 c18)
        ·
          exact wp_throw (pc := 21) (is := 148) (text := "there is no such word") dX4_checkedWord_21 dX4_checkedWord_24 dX4_checkedWord_25 dX4_checkedWord_27 dX4_checkedWord_30 rfl hl9 pw_ctO (by decide) (Nat.le_of_ble_eq_true rfl) (Nat.le_of_ble_eq_true rfl) (Nat.le_of_ble_eq_true rfl) (h5 c1 c7 c11 c18)
set_option maxRecDepth 20000 in
theorem bX4_lengthOf_0 {g : pw_G} {σ : pw_Mem} {Q : pw_R → Prop} {x0 : Int32} (h1 : WP g mX4_lengthOf 2 [(0, .int x0), (1, .int (0 : Int32))] [] 0 σ Q) : WP g mX4_lengthOf 0 [(0, .int x0)] [] 0 σ Q := by
  refine wp_iconst (pc := 0) (v := (0 : Int32)) dX4_lengthOf_0 (by decide) ?_
  refine wp_istore_n (pc := 1) (lv' := [(0, .int x0), (1, .int (0 : Int32))]) dX4_lengthOf_1 rfl (by decide) rfl ?_
  exact h1
set_option maxRecDepth 20000 in
theorem bX4_lengthOf_2 {g : pw_G} {σ : pw_Mem} {Q : pw_R → Prop} {x0 x1 : Int32} (h1 : (8 : Int32) ≤ x1 → Q (.inl (some (.int x1)), σ)) (h2 : ¬ (8 : Int32) ≤ x1 → (x0 >>> ((x1 + (1 : Int32)) &&& 31)) = 0 → Q (.inl (some (.int x1)), σ)) (h3 : ¬ (8 : Int32) ≤ x1 → ¬ (x0 >>> ((x1 + (1 : Int32)) &&& 31)) = 0 → WP g mX4_lengthOf 2 [(0, .int x0), (1, .int (x1 + 1))] [] 0 σ Q) : WP g mX4_lengthOf 2 [(0, .int x0), (1, .int x1)] [] 0 σ Q := by
  refine wp_iload_n (pc := 2) 1 dX4_lengthOf_2 rfl rfl ?_
  refine wp_bipush (pc := 3) (v := (8 : Int32)) dX4_lengthOf_3 (by decide) ?_
  refine wp_icmp_ge (pc := 5) (tgt := 22) dX4_lengthOf_5 (by decide) (fun c5 => ?_) (fun c5 => ?_)
  ·
    refine wp_iload_n (pc := 22) 1 dX4_lengthOf_22 rfl rfl ?_
    exact wp_ireturn (pc := 23) dX4_lengthOf_23 rfl rfl (Nat.le_of_ble_eq_true rfl) (h1 c5)
  ·
    refine wp_iload_n (pc := 8) 0 dX4_lengthOf_8 rfl rfl ?_
    refine wp_iload_n (pc := 9) 1 dX4_lengthOf_9 rfl rfl ?_
    refine wp_iconst (pc := 10) (v := (1 : Int32)) dX4_lengthOf_10 (by decide) ?_
    refine wp_iadd (pc := 11) dX4_lengthOf_11 ?_
    refine wp_ishr (pc := 12) dX4_lengthOf_12 ?_
    refine wp_if_eq (pc := 13) (tgt := 22) dX4_lengthOf_13 (by decide) (fun c13 => ?_) (fun c13 => ?_)
    ·
      refine wp_iload_n (pc := 22) 1 dX4_lengthOf_22 rfl rfl ?_
      exact wp_ireturn (pc := 23) dX4_lengthOf_23 rfl rfl (Nat.le_of_ble_eq_true rfl) (h2 c5 c13)
    ·
      refine wp_iinc (pc := 16) (v := (x1 + 1)) (lv' := [(0, .int x0), (1, .int (x1 + 1))]) 1 dX4_lengthOf_16 rfl rfl (by decide) rfl ?_
      refine wp_goto (pc := 19) (tgt := 2) dX4_lengthOf_19 (by decide) ?_
      exact h3 c5 c13
set_option maxRecDepth 20000 in
theorem bX4_codeOf_0 {g : pw_G} {σ : pw_Mem} {Q : pw_R → Prop} {x0 : Int32} (h1 : WP g mX4_lengthOf 0 [(0, .int x0)] [] 0 σ (pw_k g mX4_codeOf 4 [(0, .int x0)] [] 0 Q)) : WP g mX4_codeOf 0 [(0, .int x0)] [] 0 σ Q := by
  refine wp_iload_n (pc := 0) 0 dX4_codeOf_0 rfl rfl ?_
  refine wp_callS (pc := 1) (M' := mX4_lengthOf) [.int x0] [] dX4_codeOf_1 ck_X4_150 ⟨Nat.le_of_ble_eq_true rfl, Nat.le_of_ble_eq_true rfl⟩ rfl (Nat.le_of_ble_eq_true rfl) (Nat.le_of_ble_eq_true rfl) (Nat.le_of_ble_eq_true rfl) rfl ?_
  exact h1
set_option maxRecDepth 20000 in
theorem bX4_codeOf_4 {g : pw_G} {σ : pw_Mem} {Q : pw_R → Prop} {s9 x0 : Int32} (h1 : Q (.inl (some (.int ((((256 : Int32) * s9) + x0) - ((1 : Int32) <<< (s9 &&& 31))))), σ)) : WP g mX4_codeOf 4 [(0, .int x0)] [.int s9] 0 σ Q := by
  refine wp_istore_n (pc := 4) (lv' := [(0, .int x0), (1, .int s9)]) dX4_codeOf_4 rfl (by decide) rfl ?_
  refine wp_sipush (pc := 5) (v := (256 : Int32)) dX4_codeOf_5 (by decide) ?_
  refine wp_iload_n (pc := 8) 1 dX4_codeOf_8 rfl rfl ?_
  refine wp_imul (pc := 9) dX4_codeOf_9 ?_
  refine wp_iload_n (pc := 10) 0 dX4_codeOf_10 rfl rfl ?_
  refine wp_iadd (pc := 11) dX4_codeOf_11 ?_
  refine wp_iconst (pc := 12) (v := (1 : Int32)) dX4_codeOf_12 (by decide) ?_
  refine wp_iload_n (pc := 13) 1 dX4_codeOf_13 rfl rfl ?_
  refine wp_ishl (pc := 14) dX4_codeOf_14 ?_
  refine wp_isub (pc := 15) dX4_codeOf_15 ?_
  exact wp_ireturn (pc := 16) dX4_codeOf_16 rfl rfl (Nat.le_of_ble_eq_true rfl) (h1)
set_option maxRecDepth 20000 in
theorem bX4_joined_0 {g : pw_G} {σ : pw_Mem} {Q : pw_R → Prop} {x0 x1 : Int32} (h1 : WP g mX4_lengthOf 0 [(0, .int x1)] [] 0 σ (pw_k g mX4_joined 4 [(0, .int x0), (1, .int x1)] [] 0 Q)) : WP g mX4_joined 0 [(0, .int x0), (1, .int x1)] [] 0 σ Q := by
  refine wp_iload_n (pc := 0) 1 dX4_joined_0 rfl rfl ?_
  refine wp_callS (pc := 1) (M' := mX4_lengthOf) [.int x1] [] dX4_joined_1 ck_X4_150 ⟨Nat.le_of_ble_eq_true rfl, Nat.le_of_ble_eq_true rfl⟩ rfl (Nat.le_of_ble_eq_true rfl) (Nat.le_of_ble_eq_true rfl) (Nat.le_of_ble_eq_true rfl) rfl ?_
  exact h1
set_option maxRecDepth 20000 in
theorem bX4_joined_4 {g : pw_G} {σ : pw_Mem} {Q : pw_R → Prop} {s9 x0 x1 : Int32} (h1 : Q (.inl (some (.int (((x0 <<< (s9 &&& 31)) + x1) - ((1 : Int32) <<< (s9 &&& 31))))), σ)) : WP g mX4_joined 4 [(0, .int x0), (1, .int x1)] [.int s9] 0 σ Q := by
  refine wp_istore_n (pc := 4) (lv' := [(0, .int x0), (1, .int x1), (2, .int s9)]) dX4_joined_4 rfl (by decide) rfl ?_
  refine wp_iload_n (pc := 5) 0 dX4_joined_5 rfl rfl ?_
  refine wp_iload_n (pc := 6) 2 dX4_joined_6 rfl rfl ?_
  refine wp_ishl (pc := 7) dX4_joined_7 ?_
  refine wp_iload_n (pc := 8) 1 dX4_joined_8 rfl rfl ?_
  refine wp_iadd (pc := 9) dX4_joined_9 ?_
  refine wp_iconst (pc := 10) (v := (1 : Int32)) dX4_joined_10 (by decide) ?_
  refine wp_iload_n (pc := 11) 2 dX4_joined_11 rfl rfl ?_
  refine wp_ishl (pc := 12) dX4_joined_12 ?_
  refine wp_isub (pc := 13) dX4_joined_13 ?_
  exact wp_ireturn (pc := 14) dX4_joined_14 rfl rfl (Nat.le_of_ble_eq_true rfl) (h1)
