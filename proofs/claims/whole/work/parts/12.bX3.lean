set_option maxRecDepth 20000 in
theorem bX3_count_0 {g : pw_G} {σ : pw_Mem} {Q : pw_R → Prop} (h1 : Q (.inl (some (.int (σ 1 1))), σ)) : WP g mX3_count 0 [(0, .ref (pw_ad g 1))] [] 0 σ Q := by
  refine wp_aload_n (pc := 0) 0 dX3_count_0 rfl rfl ?_
  refine wp_getI (pc := 1) 1 dX3_count_1 rfl fk_X3_15 rfl ?_
  exact wp_ireturn (pc := 4) dX3_count_4 rfl rfl (Nat.le_of_ble_eq_true rfl) (h1)
set_option maxRecDepth 20000 in
theorem bX3_markOf_0 {g : pw_G} {σ : pw_Mem} {Q : pw_R → Prop} {x1 : Int32} (h1 : vp_in x1 512) (h2 : Q (.inl (some (.int (σ 2 (x1).toNatClampNeg))), σ)) : WP g mX3_markOf 0 [(0, .ref (pw_ad g 1)), (1, .int x1)] [] 0 σ Q := by
  refine wp_aload_n (pc := 0) 0 dX3_markOf_0 rfl rfl ?_
  refine wp_getR1 (pc := 1) 1 2 (o := 0) dX3_markOf_1 rfl fk_X3_9 rfl rfl ?_
  refine wp_iload_n (pc := 4) 1 dX3_markOf_4 rfl rfl ?_
  refine wp_iaload (pc := 5) 2 dX3_markOf_5 rfl (h1) ?_
  exact wp_ireturn (pc := 6) dX3_markOf_6 rfl rfl (Nat.le_of_ble_eq_true rfl) (h2)
set_option maxRecDepth 20000 in
theorem bX3_clear_0 {g : pw_G} {σ : pw_Mem} {Q : pw_R → Prop} (h1 : WP g mJ7_fill_53178 0 [(0, .ref (pw_ad g 2)), (1, .int (0 : Int32))] [] 0 σ (pw_k g mX3_clear 8 [(0, .ref (pw_ad g 1))] [] 0 Q)) : WP g mX3_clear 0 [(0, .ref (pw_ad g 1))] [] 0 σ Q := by
  refine wp_aload_n (pc := 0) 0 dX3_clear_0 rfl rfl ?_
  refine wp_getR1 (pc := 1) 1 2 (o := 0) dX3_clear_1 rfl fk_X3_9 rfl rfl ?_
  refine wp_iconst (pc := 4) (v := (0 : Int32)) dX3_clear_4 (by decide) ?_
  refine wp_callS (pc := 5) (M' := mJ7_fill_53178) [.ref (pw_ad g 2), .int (0 : Int32)] [] dX3_clear_5 ck_X3_19 ⟨Nat.le_of_ble_eq_true rfl, Nat.le_of_ble_eq_true rfl⟩ rfl (Nat.le_of_ble_eq_true rfl) (Nat.le_of_ble_eq_true rfl) (Nat.le_of_ble_eq_true rfl) rfl ?_
  exact h1
set_option maxRecDepth 20000 in
theorem bX3_clear_8 {g : pw_G} {σ : pw_Mem} {Q : pw_R → Prop} (h1 : Q (.inl none, (pw_set σ 1 1 (0 : Int32)))) : WP g mX3_clear 8 [(0, .ref (pw_ad g 1))] [] 0 σ Q := by
  refine wp_aload_n (pc := 8) 0 dX3_clear_8 rfl rfl ?_
  refine wp_iconst (pc := 9) (v := (0 : Int32)) dX3_clear_9 (by decide) ?_
  refine wp_putI (pc := 10) 1 dX3_clear_10 rfl pk_X3_15 rfl ?_
  exact wp_return (pc := 13) dX3_clear_13 rfl (Nat.le_of_ble_eq_true rfl) (h1)
set_option maxRecDepth 20000 in
theorem bX3_take_0 {g : pw_G} {σ : pw_Mem} {Q : pw_R → Prop} {x1 x2 : Int32} (h1 : vp_in x1 512) (h2 : ¬ (σ 2 (x1).toNatClampNeg) = 0 → vp_in x1 512) (h3 : ¬ (σ 2 (x1).toNatClampNeg) = 0 → Q (.inl (some (.int (0 : Int32))), (pw_set σ 2 (x1).toNatClampNeg x2))) (h4 : (σ 2 (x1).toNatClampNeg) = 0 → vp_in x1 512) (h5 : (σ 2 (x1).toNatClampNeg) = 0 → Q (.inl (some (.int (1 : Int32))), (pw_set (pw_set σ 2 (x1).toNatClampNeg x2) 1 1 ((σ 1 1) + (1 : Int32))))) : WP g mX3_take 0 [(0, .ref (pw_ad g 1)), (1, .int x1), (2, .int x2)] [] 0 σ Q := by
  refine wp_aload_n (pc := 0) 0 dX3_take_0 rfl rfl ?_
  refine wp_getR1 (pc := 1) 1 2 (o := 0) dX3_take_1 rfl fk_X3_9 rfl rfl ?_
  refine wp_iload_n (pc := 4) 1 dX3_take_4 rfl rfl ?_
  refine wp_iaload (pc := 5) 2 dX3_take_5 rfl (h1) ?_
  refine wp_if_ne (pc := 6) (tgt := 13) dX3_take_6 (by decide) (fun c6 => ?_) (fun c6 => ?_)
  ·
    refine wp_iconst (pc := 13) (v := (0 : Int32)) dX3_take_13 (by decide) ?_
    refine wp_istore_n (pc := 14) (lv' := [(0, .ref (pw_ad g 1)), (1, .int x1), (2, .int x2), (3, .int (0 : Int32))]) dX3_take_14 rfl (by decide) rfl ?_
    refine wp_aload_n (pc := 15) 0 dX3_take_15 rfl rfl ?_
    refine wp_getR1 (pc := 16) 1 2 (o := 0) dX3_take_16 rfl fk_X3_9 rfl rfl ?_
    refine wp_iload_n (pc := 19) 1 dX3_take_19 rfl rfl ?_
    refine wp_iload_n (pc := 20) 2 dX3_take_20 rfl rfl ?_
    refine wp_iastore (pc := 21) 2 dX3_take_21 rfl (h2 c6) ?_
    refine wp_iload_n (pc := 22) 3 dX3_take_22 rfl rfl ?_
    refine wp_if_eq (pc := 23) (tgt := 36) dX3_take_23 (by decide) (fun _ => ?_) (fun c9 => absurd c9 (by decide))
    refine wp_iload_n (pc := 36) 3 dX3_take_36 rfl rfl ?_
    exact wp_ireturn (pc := 37) dX3_take_37 rfl (by decide) (Nat.le_of_ble_eq_true rfl) (h3 c6)
  ·
    refine wp_iconst (pc := 9) (v := (1 : Int32)) dX3_take_9 (by decide) ?_
    refine wp_goto (pc := 10) (tgt := 14) dX3_take_10 (by decide) ?_
    refine wp_istore_n (pc := 14) (lv' := [(0, .ref (pw_ad g 1)), (1, .int x1), (2, .int x2), (3, .int (1 : Int32))]) dX3_take_14 rfl (by decide) rfl ?_
    refine wp_aload_n (pc := 15) 0 dX3_take_15 rfl rfl ?_
    refine wp_getR1 (pc := 16) 1 2 (o := 0) dX3_take_16 rfl fk_X3_9 rfl rfl ?_
    refine wp_iload_n (pc := 19) 1 dX3_take_19 rfl rfl ?_
    refine wp_iload_n (pc := 20) 2 dX3_take_20 rfl rfl ?_
    refine wp_iastore (pc := 21) 2 dX3_take_21 rfl (h4 c6) ?_
    refine wp_iload_n (pc := 22) 3 dX3_take_22 rfl rfl ?_
    refine wp_if_eq (pc := 23) (tgt := 36) dX3_take_23 (by decide) (fun c9 => absurd c9 (by decide)) (fun _ => ?_)
    refine wp_aload_n (pc := 26) 0 dX3_take_26 rfl rfl ?_
    refine wp_dup (pc := 27) dX3_take_27 rfl ?_
    refine wp_getI (pc := 28) 1 dX3_take_28 rfl fk_X3_15 rfl ?_
    refine wp_iconst (pc := 31) (v := (1 : Int32)) dX3_take_31 (by decide) ?_
    refine wp_iadd (pc := 32) dX3_take_32 ?_
    refine wp_putI (pc := 33) 1 dX3_take_33 rfl pk_X3_15 rfl ?_
    refine wp_iload_n (pc := 36) 3 dX3_take_36 rfl rfl ?_
    exact wp_ireturn (pc := 37) dX3_take_37 rfl (by decide) (Nat.le_of_ble_eq_true rfl) (h5 c6)
set_option maxRecDepth 20000 in
theorem bX3_contradicts_0 {g : pw_G} {σ : pw_Mem} {Q : pw_R → Prop} (h1 : WP g mX3_contradicts 2 [(0, .ref (pw_ad g 1)), (1, .ref (pw_ad g 28)), (2, .int (1 : Int32))] [] 0 σ Q) : WP g mX3_contradicts 0 [(0, .ref (pw_ad g 1)), (1, .ref (pw_ad g 28))] [] 0 σ Q := by
  refine wp_iconst (pc := 0) (v := (1 : Int32)) dX3_contradicts_0 (by decide) ?_
  refine wp_istore_n (pc := 1) (lv' := [(0, .ref (pw_ad g 1)), (1, .ref (pw_ad g 28)), (2, .int (1 : Int32))]) dX3_contradicts_1 rfl (by decide) rfl ?_
  exact h1
set_option maxRecDepth 20000 in
theorem bX3_contradicts_2 {g : pw_G} {σ : pw_Mem} {Q : pw_R → Prop} {x2 : Int32} (h1 : (512 : Int32) ≤ x2 → Q (.inl (some (.int (0 : Int32))), σ)) (h2 : ¬ (512 : Int32) ≤ x2 → vp_in x2 512) (h3 : ¬ (512 : Int32) ≤ x2 → vp_in x2 512) (h4 : ¬ (512 : Int32) ≤ x2 → 0 ≤ ((σ 28 (x2).toNatClampNeg) * (σ 2 (x2).toNatClampNeg)) → WP g mX3_contradicts 2 [(0, .ref (pw_ad g 1)), (1, .ref (pw_ad g 28)), (2, .int (x2 + 1))] [] 0 σ Q) (h5 : ¬ (512 : Int32) ≤ x2 → ¬ 0 ≤ ((σ 28 (x2).toNatClampNeg) * (σ 2 (x2).toNatClampNeg)) → Q (.inl (some (.int (1 : Int32))), σ)) : WP g mX3_contradicts 2 [(0, .ref (pw_ad g 1)), (1, .ref (pw_ad g 28)), (2, .int x2)] [] 0 σ Q := by
  refine wp_iload_n (pc := 2) 2 dX3_contradicts_2 rfl rfl ?_
  refine wp_sipush (pc := 3) (v := (512 : Int32)) dX3_contradicts_3 (by decide) ?_
  refine wp_icmp_ge (pc := 6) (tgt := 30) dX3_contradicts_6 (by decide) (fun c6 => ?_) (fun c6 => ?_)
  ·
    refine wp_iconst (pc := 30) (v := (0 : Int32)) dX3_contradicts_30 (by decide) ?_
    exact wp_ireturn (pc := 31) dX3_contradicts_31 rfl (by decide) (Nat.le_of_ble_eq_true rfl) (h1 c6)
  ·
    refine wp_aload_n (pc := 9) 1 dX3_contradicts_9 rfl rfl ?_
    refine wp_iload_n (pc := 10) 2 dX3_contradicts_10 rfl rfl ?_
    refine wp_iaload (pc := 11) 28 dX3_contradicts_11 rfl (h2 c6) ?_
    refine wp_aload_n (pc := 12) 0 dX3_contradicts_12 rfl rfl ?_
    refine wp_getR1 (pc := 13) 1 2 (o := 0) dX3_contradicts_13 rfl fk_X3_9 rfl rfl ?_
    refine wp_iload_n (pc := 16) 2 dX3_contradicts_16 rfl rfl ?_
    refine wp_iaload (pc := 17) 2 dX3_contradicts_17 rfl (h3 c6) ?_
    refine wp_imul (pc := 18) dX3_contradicts_18 ?_
    refine wp_if_ge (pc := 19) (tgt := 24) dX3_contradicts_19 (by decide) (fun c19 => ?_) (fun c19 => ?_)
    ·
      refine wp_iinc (pc := 24) (v := (x2 + 1)) (lv' := [(0, .ref (pw_ad g 1)), (1, .ref (pw_ad g 28)), (2, .int (x2 + 1))]) 2 dX3_contradicts_24 rfl rfl (by decide) rfl ?_
      refine wp_goto (pc := 27) (tgt := 2) dX3_contradicts_27 (by decide) ?_
      exact h4 c6 c19
    ·
      refine wp_iconst (pc := 22) (v := (1 : Int32)) dX3_contradicts_22 (by decide) ?_
      exact wp_ireturn (pc := 23) dX3_contradicts_23 rfl (by decide) (Nat.le_of_ble_eq_true rfl) (h5 c6 c19)
set_option maxRecDepth 20000 in
theorem bX3_takeAll_0 {g : pw_G} {σ : pw_Mem} {Q : pw_R → Prop} (h1 : WP g mX3_takeAll 7 [(0, .ref (pw_ad g 1)), (1, .ref (pw_ad g 28)), (2, .int (σ 1 1)), (3, .int (1 : Int32))] [] 0 σ Q) : WP g mX3_takeAll 0 [(0, .ref (pw_ad g 1)), (1, .ref (pw_ad g 28))] [] 0 σ Q := by
  refine wp_aload_n (pc := 0) 0 dX3_takeAll_0 rfl rfl ?_
  refine wp_getI (pc := 1) 1 dX3_takeAll_1 rfl fk_X3_15 rfl ?_
  refine wp_istore_n (pc := 4) (lv' := [(0, .ref (pw_ad g 1)), (1, .ref (pw_ad g 28)), (2, .int (σ 1 1))]) dX3_takeAll_4 rfl (by decide) rfl ?_
  refine wp_iconst (pc := 5) (v := (1 : Int32)) dX3_takeAll_5 (by decide) ?_
  refine wp_istore_n (pc := 6) (lv' := [(0, .ref (pw_ad g 1)), (1, .ref (pw_ad g 28)), (2, .int (σ 1 1)), (3, .int (1 : Int32))]) dX3_takeAll_6 rfl (by decide) rfl ?_
  exact h1
set_option maxRecDepth 20000 in
theorem bX3_takeAll_7 {g : pw_G} {σ : pw_Mem} {Q : pw_R → Prop} {x2 x3 : Int32} (h1 : (512 : Int32) ≤ x3 → Q (.inl (some (.int ((σ 1 1) - x2))), σ)) (h2 : ¬ (512 : Int32) ≤ x3 → vp_in x3 512) (h3 : ¬ (512 : Int32) ≤ x3 → (σ 28 (x3).toNatClampNeg) = 0 → WP g mX3_takeAll 7 [(0, .ref (pw_ad g 1)), (1, .ref (pw_ad g 28)), (2, .int x2), (3, .int (x3 + 1))] [] 0 σ Q) (h4 : ¬ (512 : Int32) ≤ x3 → ¬ (σ 28 (x3).toNatClampNeg) = 0 → vp_in x3 512) (h5 : ¬ (512 : Int32) ≤ x3 → ¬ (σ 28 (x3).toNatClampNeg) = 0 → WP g mX3_take 0 [(0, .ref (pw_ad g 1)), (1, .int x3), (2, .int (σ 28 (x3).toNatClampNeg))] [] 0 σ (pw_k g mX3_takeAll 28 [(0, .ref (pw_ad g 1)), (1, .ref (pw_ad g 28)), (2, .int x2), (3, .int x3)] [] 0 Q)) : WP g mX3_takeAll 7 [(0, .ref (pw_ad g 1)), (1, .ref (pw_ad g 28)), (2, .int x2), (3, .int x3)] [] 0 σ Q := by
  refine wp_iload_n (pc := 7) 3 dX3_takeAll_7 rfl rfl ?_
  refine wp_sipush (pc := 8) (v := (512 : Int32)) dX3_takeAll_8 (by decide) ?_
  refine wp_icmp_ge (pc := 11) (tgt := 35) dX3_takeAll_11 (by decide) (fun c11 => ?_) (fun c11 => ?_)
  ·
    refine wp_aload_n (pc := 35) 0 dX3_takeAll_35 rfl rfl ?_
    refine wp_getI (pc := 36) 1 dX3_takeAll_36 rfl fk_X3_15 rfl ?_
    refine wp_iload_n (pc := 39) 2 dX3_takeAll_39 rfl rfl ?_
    refine wp_isub (pc := 40) dX3_takeAll_40 ?_
    exact wp_ireturn (pc := 41) dX3_takeAll_41 rfl rfl (Nat.le_of_ble_eq_true rfl) (h1 c11)
  ·
    refine wp_aload_n (pc := 14) 1 dX3_takeAll_14 rfl rfl ?_
    refine wp_iload_n (pc := 15) 3 dX3_takeAll_15 rfl rfl ?_
    refine wp_iaload (pc := 16) 28 dX3_takeAll_16 rfl (h2 c11) ?_
    refine wp_if_eq (pc := 17) (tgt := 29) dX3_takeAll_17 (by decide) (fun c17 => ?_) (fun c17 => ?_)
    ·
      refine wp_iinc (pc := 29) (v := (x3 + 1)) (lv' := [(0, .ref (pw_ad g 1)), (1, .ref (pw_ad g 28)), (2, .int x2), (3, .int (x3 + 1))]) 3 dX3_takeAll_29 rfl rfl (by decide) rfl ?_
      refine wp_goto (pc := 32) (tgt := 7) dX3_takeAll_32 (by decide) ?_
      exact h3 c11 c17
    ·
      refine wp_aload_n (pc := 20) 0 dX3_takeAll_20 rfl rfl ?_
      refine wp_iload_n (pc := 21) 3 dX3_takeAll_21 rfl rfl ?_
      refine wp_aload_n (pc := 22) 1 dX3_takeAll_22 rfl rfl ?_
      refine wp_iload_n (pc := 23) 3 dX3_takeAll_23 rfl rfl ?_
      refine wp_iaload (pc := 24) 28 dX3_takeAll_24 rfl (h4 c11 c17) ?_
      refine wp_callV (pc := 25) (M' := mX3_take) 1 [.int x3, .int (σ 28 (x3).toNatClampNeg)] [] dX3_takeAll_25 ck_X3_25 rfl rfl ⟨Nat.le_of_ble_eq_true rfl, Nat.le_of_ble_eq_true rfl⟩ rfl (Nat.le_of_ble_eq_true rfl) (Nat.le_of_ble_eq_true rfl) (Nat.le_of_ble_eq_true rfl) rfl ?_
      exact h5 c11 c17
set_option maxRecDepth 20000 in
theorem bX3_takeAll_28 {g : pw_G} {σ : pw_Mem} {Q : pw_R → Prop} {s9 x2 x3 : Int32} (h1 : WP g mX3_takeAll 7 [(0, .ref (pw_ad g 1)), (1, .ref (pw_ad g 28)), (2, .int x2), (3, .int (x3 + 1))] [] 0 σ Q) : WP g mX3_takeAll 28 [(0, .ref (pw_ad g 1)), (1, .ref (pw_ad g 28)), (2, .int x2), (3, .int x3)] [.int s9] 0 σ Q := by
  refine wp_pop (pc := 28) dX3_takeAll_28 rfl ?_
  refine wp_iinc (pc := 29) (v := (x3 + 1)) (lv' := [(0, .ref (pw_ad g 1)), (1, .ref (pw_ad g 28)), (2, .int x2), (3, .int (x3 + 1))]) 3 dX3_takeAll_29 rfl rfl (by decide) rfl ?_
  refine wp_goto (pc := 32) (tgt := 7) dX3_takeAll_32 (by decide) ?_
  exact h1
