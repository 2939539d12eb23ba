set_option maxRecDepth 20000 in
theorem bX1_drawn_0 {g : pw_G} {σ : pw_Mem} {Q : pw_R → Prop} (h1 : Q (.inl (some (.ref (pw_ad g 17))), σ)) : WP g mX1_drawn 0 [(0, .ref (pw_ad g 16))] [] 0 σ Q := by
  refine wp_aload_n (pc := 0) 0 dX1_drawn_0 rfl rfl ?_
  refine wp_getR1 (pc := 1) 16 17 (o := 0) dX1_drawn_1 rfl fk_X1_14 rfl rfl ?_
  exact wp_areturn (pc := 4) dX1_drawn_4 rfl (Or.inl ⟨_, rfl⟩) (Nat.le_of_ble_eq_true rfl) (h1)
set_option maxRecDepth 20000 in
theorem bX1_reduced_0 {g : pw_G} {σ : pw_Mem} {Q : pw_R → Prop} (h1 : Q (.inl (some (.ref (pw_ad g 20))), σ)) : WP g mX1_reduced 0 [(0, .ref (pw_ad g 16))] [] 0 σ Q := by
  refine wp_aload_n (pc := 0) 0 dX1_reduced_0 rfl rfl ?_
  refine wp_getR1 (pc := 1) 16 20 (o := 3) dX1_reduced_1 rfl fk_X1_20 rfl rfl ?_
  exact wp_areturn (pc := 4) dX1_reduced_4 rfl (Or.inl ⟨_, rfl⟩) (Nat.le_of_ble_eq_true rfl) (h1)
set_option maxRecDepth 20000 in
theorem bX1_begin_0 {g : pw_G} {σ : pw_Mem} {Q : pw_R → Prop} {x1 : Int32} (h1 : WP g mX0_resize 0 [(0, .ref (pw_ad g 17)), (1, .int x1)] [] 0 σ (pw_k g mX1_begin 8 [(0, .ref (pw_ad g 16)), (1, .int x1)] [] 0 Q)) : WP g mX1_begin 0 [(0, .ref (pw_ad g 16)), (1, .int x1)] [] 0 σ Q := by
  refine wp_aload_n (pc := 0) 0 dX1_begin_0 rfl rfl ?_
  refine wp_getR1 (pc := 1) 16 17 (o := 0) dX1_begin_1 rfl fk_X1_14 rfl rfl ?_
  refine wp_iload_n (pc := 4) 1 dX1_begin_4 rfl rfl ?_
  refine wp_callV (pc := 5) (M' := mX0_resize) 17 [.int x1] [] dX1_begin_5 ck_X1_42 rfl rfl ⟨Nat.le_of_ble_eq_true rfl, Nat.le_of_ble_eq_true rfl⟩ rfl (Nat.le_of_ble_eq_true rfl) (Nat.le_of_ble_eq_true rfl) (Nat.le_of_ble_eq_true rfl) rfl ?_
  exact h1
set_option maxRecDepth 20000 in
theorem bX1_begin_8 {g : pw_G} {σ : pw_Mem} {Q : pw_R → Prop} {x1 : Int32} (h1 : WP g mX1_begin 10 [(0, .ref (pw_ad g 16)), (1, .int x1), (2, .int (0 : Int32))] [] 0 σ Q) : WP g mX1_begin 8 [(0, .ref (pw_ad g 16)), (1, .int x1)] [] 0 σ Q := by
  refine wp_iconst (pc := 8) (v := (0 : Int32)) dX1_begin_8 (by decide) ?_
  refine wp_istore_n (pc := 9) (lv' := [(0, .ref (pw_ad g 16)), (1, .int x1), (2, .int (0 : Int32))]) dX1_begin_9 rfl (by decide) rfl ?_
  exact h1
set_option maxRecDepth 20000 in
theorem bX1_begin_10 {g : pw_G} {σ : pw_Mem} {Q : pw_R → Prop} {x1 x2 : Int32} (h1 : x1 ≤ x2 → WP g mX1_reduce 0 [(0, .ref (pw_ad g 16))] [] 0 σ (pw_k g mX1_begin 36 [(0, .ref (pw_ad g 16)), (1, .int x1), (2, .int x2)] [] 0 Q)) (h2 : ¬ x1 ≤ x2 → WP g mX0_put 0 [(0, .ref (pw_ad g 17)), (1, .int x2), (2, .int (-1 : Int32)), (3, .int x2), (4, .int x2)] [] 0 σ (pw_k g mX1_begin 26 [(0, .ref (pw_ad g 16)), (1, .int x1), (2, .int x2)] [] 0 Q)) : WP g mX1_begin 10 [(0, .ref (pw_ad g 16)), (1, .int x1), (2, .int x2)] [] 0 σ Q := by
  refine wp_iload_n (pc := 10) 2 dX1_begin_10 rfl rfl ?_
  refine wp_iload_n (pc := 11) 1 dX1_begin_11 rfl rfl ?_
  refine wp_icmp_ge (pc := 12) (tgt := 32) dX1_begin_12 (by decide) (fun c12 => ?_) (fun c12 => ?_)
  ·
    refine wp_aload_n (pc := 32) 0 dX1_begin_32 rfl rfl ?_
    refine wp_callV (pc := 33) (M' := mX1_reduce) 16 [] [] dX1_begin_33 ck_X1_49 rfl rfl ⟨Nat.le_of_ble_eq_true rfl, Nat.le_of_ble_eq_true rfl⟩ rfl (Nat.le_of_ble_eq_true rfl) (Nat.le_of_ble_eq_true rfl) (Nat.le_of_ble_eq_true rfl) rfl ?_
    exact h1 c12
  ·
    refine wp_aload_n (pc := 15) 0 dX1_begin_15 rfl rfl ?_
    refine wp_getR1 (pc := 16) 16 17 (o := 0) dX1_begin_16 rfl fk_X1_14 rfl rfl ?_
    refine wp_iload_n (pc := 19) 2 dX1_begin_19 rfl rfl ?_
    refine wp_iconst (pc := 20) (v := (-1 : Int32)) dX1_begin_20 (by decide) ?_
    refine wp_iload_n (pc := 21) 2 dX1_begin_21 rfl rfl ?_
    refine wp_iload_n (pc := 22) 2 dX1_begin_22 rfl rfl ?_
    refine wp_callV (pc := 23) (M' := mX0_put) 17 [.int x2, .int (-1 : Int32), .int x2, .int x2] [] dX1_begin_23 ck_X1_45 rfl rfl ⟨Nat.le_of_ble_eq_true rfl, Nat.le_of_ble_eq_true rfl⟩ rfl (Nat.le_of_ble_eq_true rfl) (Nat.le_of_ble_eq_true rfl) (Nat.le_of_ble_eq_true rfl) rfl ?_
    exact h2 c12
set_option maxRecDepth 20000 in
theorem bX1_begin_36 {g : pw_G} {σ : pw_Mem} {Q : pw_R → Prop} {x1 x2 : Int32} (h1 : Q (.inl none, σ)) : WP g mX1_begin 36 [(0, .ref (pw_ad g 16)), (1, .int x1), (2, .int x2)] [] 0 σ Q := by
  exact wp_return (pc := 36) dX1_begin_36 rfl (Nat.le_of_ble_eq_true rfl) (h1)
set_option maxRecDepth 20000 in
theorem bX1_begin_26 {g : pw_G} {σ : pw_Mem} {Q : pw_R → Prop} {x1 x2 : Int32} (h1 : WP g mX1_begin 10 [(0, .ref (pw_ad g 16)), (1, .int x1), (2, .int (x2 + 1))] [] 0 σ Q) : WP g mX1_begin 26 [(0, .ref (pw_ad g 16)), (1, .int x1), (2, .int x2)] [] 0 σ Q := by
  refine wp_iinc (pc := 26) (v := (x2 + 1)) (lv' := [(0, .ref (pw_ad g 16)), (1, .int x1), (2, .int (x2 + 1))]) 2 dX1_begin_26 rfl rfl (by decide) rfl ?_
  refine wp_goto (pc := 29) (tgt := 10) dX1_begin_29 (by decide) ?_
  exact h1
set_option maxRecDepth 20000 in
theorem bX1_change_0 {g : pw_G} {σ : pw_Mem} {Q : pw_R → Prop} {x1 x2 x3 x4 : Int32} (h1 : WP g mX0_put 0 [(0, .ref (pw_ad g 17)), (1, .int x1), (2, .int x2), (3, .int x3), (4, .int x4)] [] 0 σ (pw_k g mX1_change 12 [(0, .ref (pw_ad g 16)), (1, .int x1), (2, .int x2), (3, .int x3), (4, .int x4)] [] 0 Q)) : WP g mX1_change 0 [(0, .ref (pw_ad g 16)), (1, .int x1), (2, .int x2), (3, .int x3), (4, .int x4)] [] 0 σ Q := by
  refine wp_aload_n (pc := 0) 0 dX1_change_0 rfl rfl ?_
  refine wp_getR1 (pc := 1) 16 17 (o := 0) dX1_change_1 rfl fk_X1_14 rfl rfl ?_
  refine wp_iload_n (pc := 4) 1 dX1_change_4 rfl rfl ?_
  refine wp_iload_n (pc := 5) 2 dX1_change_5 rfl rfl ?_
  refine wp_iload_n (pc := 6) 3 dX1_change_6 rfl rfl ?_
  refine wp_iload (pc := 7) 4 dX1_change_7 rfl ?_
  refine wp_callV (pc := 9) (M' := mX0_put) 17 [.int x1, .int x2, .int x3, .int x4] [] dX1_change_9 ck_X1_45 rfl rfl ⟨Nat.le_of_ble_eq_true rfl, Nat.le_of_ble_eq_true rfl⟩ rfl (Nat.le_of_ble_eq_true rfl) (Nat.le_of_ble_eq_true rfl) (Nat.le_of_ble_eq_true rfl) rfl ?_
  exact h1
set_option maxRecDepth 20000 in
theorem bX1_change_12 {g : pw_G} {σ : pw_Mem} {Q : pw_R → Prop} {x1 x2 x3 x4 : Int32} (h1 : WP g mX1_reduce 0 [(0, .ref (pw_ad g 16))] [] 0 σ (pw_k g mX1_change 16 [(0, .ref (pw_ad g 16)), (1, .int x1), (2, .int x2), (3, .int x3), (4, .int x4)] [] 0 Q)) : WP g mX1_change 12 [(0, .ref (pw_ad g 16)), (1, .int x1), (2, .int x2), (3, .int x3), (4, .int x4)] [] 0 σ Q := by
  refine wp_aload_n (pc := 12) 0 dX1_change_12 rfl rfl ?_
  refine wp_callV (pc := 13) (M' := mX1_reduce) 16 [] [] dX1_change_13 ck_X1_49 rfl rfl ⟨Nat.le_of_ble_eq_true rfl, Nat.le_of_ble_eq_true rfl⟩ rfl (Nat.le_of_ble_eq_true rfl) (Nat.le_of_ble_eq_true rfl) (Nat.le_of_ble_eq_true rfl) rfl ?_
  exact h1
set_option maxRecDepth 20000 in
theorem bX1_change_16 {g : pw_G} {σ : pw_Mem} {Q : pw_R → Prop} {x1 x2 x3 x4 : Int32} (h1 : Q (.inl none, σ)) : WP g mX1_change 16 [(0, .ref (pw_ad g 16)), (1, .int x1), (2, .int x2), (3, .int x3), (4, .int x4)] [] 0 σ Q := by
  exact wp_return (pc := 16) dX1_change_16 rfl (Nat.le_of_ble_eq_true rfl) (h1)
set_option maxRecDepth 20000 in
theorem bX1_nameOf_0 {g : pw_G} {σ : pw_Mem} {Q : pw_R → Prop} {x1 : Int32} (h1 : vp_in x1 5) (h2 : Q (.inl (some (.int (σ 27 (x1).toNatClampNeg))), σ)) : WP g mX1_nameOf 0 [(0, .ref (pw_ad g 16)), (1, .int x1)] [] 0 σ Q := by
  refine wp_aload_n (pc := 0) 0 dX1_nameOf_0 rfl rfl ?_
  refine wp_getR1 (pc := 1) 16 27 (o := 10) dX1_nameOf_1 rfl fk_X1_36 rfl rfl ?_
  refine wp_iload_n (pc := 4) 1 dX1_nameOf_4 rfl rfl ?_
  refine wp_iaload (pc := 5) 27 dX1_nameOf_5 rfl (h1) ?_
  exact wp_ireturn (pc := 6) dX1_nameOf_6 rfl rfl (Nat.le_of_ble_eq_true rfl) (h2)
set_option maxRecDepth 20000 in
theorem bX1_splitterOf_0 {g : pw_G} {σ : pw_Mem} {Q : pw_R → Prop} {x1 x2 : Int32} (h1 : vp_in x1 5) (h2 : vp_in x2 5) (h3 : WP g mX1_splitterOfDrawn 0 [(0, .ref (pw_ad g 16)), (1, .int (σ 26 (x1).toNatClampNeg)), (2, .int (σ 26 (x2).toNatClampNeg))] [] 0 σ (pw_k g mX1_splitterOf 16 [(0, .ref (pw_ad g 16)), (1, .int x1), (2, .int x2)] [] 0 Q)) : WP g mX1_splitterOf 0 [(0, .ref (pw_ad g 16)), (1, .int x1), (2, .int x2)] [] 0 σ Q := by
  refine wp_aload_n (pc := 0) 0 dX1_splitterOf_0 rfl rfl ?_
  refine wp_aload_n (pc := 1) 0 dX1_splitterOf_1 rfl rfl ?_
  refine wp_getR1 (pc := 2) 16 26 (o := 9) dX1_splitterOf_2 rfl fk_X1_33 rfl rfl ?_
  refine wp_iload_n (pc := 5) 1 dX1_splitterOf_5 rfl rfl ?_
  refine wp_iaload (pc := 6) 26 dX1_splitterOf_6 rfl (h1) ?_
  refine wp_aload_n (pc := 7) 0 dX1_splitterOf_7 rfl rfl ?_
  refine wp_getR1 (pc := 8) 16 26 (o := 9) dX1_splitterOf_8 rfl fk_X1_33 rfl rfl ?_
  refine wp_iload_n (pc := 11) 2 dX1_splitterOf_11 rfl rfl ?_
  refine wp_iaload (pc := 12) 26 dX1_splitterOf_12 rfl (h2) ?_
  refine wp_callV (pc := 13) (M' := mX1_splitterOfDrawn) 16 [.int (σ 26 (x1).toNatClampNeg), .int (σ 26 (x2).toNatClampNeg)] [] dX1_splitterOf_13 ck_X1_52 rfl rfl ⟨Nat.le_of_ble_eq_true rfl, Nat.le_of_ble_eq_true rfl⟩ rfl (Nat.le_of_ble_eq_true rfl) (Nat.le_of_ble_eq_true rfl) (Nat.le_of_ble_eq_true rfl) rfl ?_
  exact h3
set_option maxRecDepth 20000 in
theorem bX1_splitterOf_16 {g : pw_G} {σ : pw_Mem} {Q : pw_R → Prop} {s9 x1 x2 : Int32} (h1 : Q (.inl (some (.int s9)), σ)) : WP g mX1_splitterOf 16 [(0, .ref (pw_ad g 16)), (1, .int x1), (2, .int x2)] [.int s9] 0 σ Q := by
  exact wp_ireturn (pc := 16) dX1_splitterOf_16 rfl rfl (Nat.le_of_ble_eq_true rfl) (h1)
set_option maxRecDepth 20000 in
theorem bX1_splitterOfDrawn_0 {g : pw_G} {σ : pw_Mem} {Q : pw_R → Prop} {x1 x2 : Int32} (h1 : vp_in (((5 : Int32) * x1) + x2) 25) (h2 : Q (.inl (some (.int (σ 23 ((((5 : Int32) * x1) + x2)).toNatClampNeg))), σ)) : WP g mX1_splitterOfDrawn 0 [(0, .ref (pw_ad g 16)), (1, .int x1), (2, .int x2)] [] 0 σ Q := by
  refine wp_aload_n (pc := 0) 0 dX1_splitterOfDrawn_0 rfl rfl ?_
  refine wp_getR1 (pc := 1) 16 23 (o := 6) dX1_splitterOfDrawn_1 rfl fk_X1_23 rfl rfl ?_
  refine wp_iconst (pc := 4) (v := (5 : Int32)) dX1_splitterOfDrawn_4 (by decide) ?_
  refine wp_iload_n (pc := 5) 1 dX1_splitterOfDrawn_5 rfl rfl ?_
  refine wp_imul (pc := 6) dX1_splitterOfDrawn_6 ?_
  refine wp_iload_n (pc := 7) 2 dX1_splitterOfDrawn_7 rfl rfl ?_
  refine wp_iadd (pc := 8) dX1_splitterOfDrawn_8 ?_
  refine wp_iaload (pc := 9) 23 dX1_splitterOfDrawn_9 rfl (h1) ?_
  exact wp_ireturn (pc := 10) dX1_splitterOfDrawn_10 rfl rfl (Nat.le_of_ble_eq_true rfl) (h2)
set_option maxRecDepth 20000 in
theorem bX1_reduce_0 {g : pw_G} {σ : pw_Mem} {Q : pw_R → Prop} (h1 : WP g mX1_findSplitters 0 [(0, .ref (pw_ad g 16))] [] 0 σ (pw_k g mX1_reduce 4 [(0, .ref (pw_ad g 16))] [] 0 Q)) : WP g mX1_reduce 0 [(0, .ref (pw_ad g 16))] [] 0 σ Q := by
  refine wp_aload_n (pc := 0) 0 dX1_reduce_0 rfl rfl ?_
  refine wp_callV (pc := 1) (M' := mX1_findSplitters) 16 [] [] dX1_reduce_1 ck_X1_56 rfl rfl ⟨Nat.le_of_ble_eq_true rfl, Nat.le_of_ble_eq_true rfl⟩ rfl (Nat.le_of_ble_eq_true rfl) (Nat.le_of_ble_eq_true rfl) (Nat.le_of_ble_eq_true rfl) rfl ?_
  exact h1
set_option maxRecDepth 20000 in
theorem bX1_reduce_4 {g : pw_G} {σ : pw_Mem} {Q : pw_R → Prop} (h1 : WP g mX1_findClasses 0 [(0, .ref (pw_ad g 16))] [] 0 σ (pw_k g mX1_reduce 8 [(0, .ref (pw_ad g 16))] [] 0 Q)) : WP g mX1_reduce 4 [(0, .ref (pw_ad g 16))] [] 0 σ Q := by
  refine wp_aload_n (pc := 4) 0 dX1_reduce_4 rfl rfl ?_
  refine wp_callV (pc := 5) (M' := mX1_findClasses) 16 [] [] dX1_reduce_5 ck_X1_59 rfl rfl ⟨Nat.le_of_ble_eq_true rfl, Nat.le_of_ble_eq_true rfl⟩ rfl (Nat.le_of_ble_eq_true rfl) (Nat.le_of_ble_eq_true rfl) (Nat.le_of_ble_eq_true rfl) rfl ?_
  exact h1
set_option maxRecDepth 20000 in
theorem bX1_reduce_8 {g : pw_G} {σ : pw_Mem} {Q : pw_R → Prop} (h1 : WP g mX1_reduce 10 [(0, .ref (pw_ad g 16)), (1, .int (0 : Int32))] [] 0 σ Q) : WP g mX1_reduce 8 [(0, .ref (pw_ad g 16))] [] 0 σ Q := by
  refine wp_iconst (pc := 8) (v := (0 : Int32)) dX1_reduce_8 (by decide) ?_
  refine wp_istore_n (pc := 9) (lv' := [(0, .ref (pw_ad g 16)), (1, .int (0 : Int32))]) dX1_reduce_9 rfl (by decide) rfl ?_
  exact h1
set_option maxRecDepth 20000 in
theorem bX1_reduce_10 {g : pw_G} {σ : pw_Mem} {Q : pw_R → Prop} {x1 : Int32} (h1 : WP g mX0_count 0 [(0, .ref (pw_ad g 20))] [] 0 σ (pw_k g mX1_reduce 18 [(0, .ref (pw_ad g 16)), (1, .int x1)] [.int x1] 0 Q)) : WP g mX1_reduce 10 [(0, .ref (pw_ad g 16)), (1, .int x1)] [] 0 σ Q := by
  refine wp_iload_n (pc := 10) 1 dX1_reduce_10 rfl rfl ?_
  refine wp_aload_n (pc := 11) 0 dX1_reduce_11 rfl rfl ?_
  refine wp_getR1 (pc := 12) 16 20 (o := 3) dX1_reduce_12 rfl fk_X1_20 rfl rfl ?_
  refine wp_callV (pc := 15) (M' := mX0_count) 20 [] [.int x1] dX1_reduce_15 ck_X1_62 rfl rfl ⟨Nat.le_of_ble_eq_true rfl, Nat.le_of_ble_eq_true rfl⟩ rfl (Nat.le_of_ble_eq_true rfl) (Nat.le_of_ble_eq_true rfl) (Nat.le_of_ble_eq_true rfl) rfl ?_
  exact h1
set_option maxRecDepth 20000 in
theorem bX1_reduce_18 {g : pw_G} {σ : pw_Mem} {Q : pw_R → Prop} {s0 s9 x1 : Int32} (h1 : s9 ≤ s0 → Q (.inl none, σ)) (h2 : ¬ s9 ≤ s0 → vp_in x1 5) (h3 : ¬ s9 ≤ s0 → WP g mX0_markOf 0 [(0, .ref (pw_ad g 17)), (1, .int (σ 26 (x1).toNatClampNeg))] [] 0 σ (pw_k g mX1_reduce 41 [(0, .ref (pw_ad g 16)), (1, .int x1), (2, .int (σ 26 (x1).toNatClampNeg))] [.int x1, .ref (pw_ad g 20)] 0 Q)) : WP g mX1_reduce 18 [(0, .ref (pw_ad g 16)), (1, .int x1)] [.int s9, .int s0] 0 σ Q := by
  refine wp_icmp_ge (pc := 18) (tgt := 78) dX1_reduce_18 (by decide) (fun c18 => ?_) (fun c18 => ?_)
  ·
    exact wp_return (pc := 78) dX1_reduce_78 rfl (Nat.le_of_ble_eq_true rfl) (h1 c18)
  ·
    refine wp_aload_n (pc := 21) 0 dX1_reduce_21 rfl rfl ?_
    refine wp_getR1 (pc := 22) 16 26 (o := 9) dX1_reduce_22 rfl fk_X1_33 rfl rfl ?_
    refine wp_iload_n (pc := 25) 1 dX1_reduce_25 rfl rfl ?_
    refine wp_iaload (pc := 26) 26 dX1_reduce_26 rfl (h2 c18) ?_
    refine wp_istore_n (pc := 27) (lv' := [(0, .ref (pw_ad g 16)), (1, .int x1), (2, .int (σ 26 (x1).toNatClampNeg))]) dX1_reduce_27 rfl (by decide) rfl ?_
    refine wp_aload_n (pc := 28) 0 dX1_reduce_28 rfl rfl ?_
    refine wp_getR1 (pc := 29) 16 20 (o := 3) dX1_reduce_29 rfl fk_X1_20 rfl rfl ?_
    refine wp_iload_n (pc := 32) 1 dX1_reduce_32 rfl rfl ?_
    refine wp_aload_n (pc := 33) 0 dX1_reduce_33 rfl rfl ?_
    refine wp_getR1 (pc := 34) 16 17 (o := 0) dX1_reduce_34 rfl fk_X1_14 rfl rfl ?_
    refine wp_iload_n (pc := 37) 2 dX1_reduce_37 rfl rfl ?_
    refine wp_callV (pc := 38) (M' := mX0_markOf) 17 [.int (σ 26 (x1).toNatClampNeg)] [.int x1, .ref (pw_ad g 20)] dX1_reduce_38 ck_X1_66 rfl rfl ⟨Nat.le_of_ble_eq_true rfl, Nat.le_of_ble_eq_true rfl⟩ rfl (Nat.le_of_ble_eq_true rfl) (Nat.le_of_ble_eq_true rfl) (Nat.le_of_ble_eq_true rfl) rfl ?_
    exact h3 c18
set_option maxRecDepth 20000 in
theorem bX1_reduce_41 {g : pw_G} {σ : pw_Mem} {Q : pw_R → Prop} {s0 s9 x1 x2 : Int32} (h1 : WP g mX0_arrow 0 [(0, .ref (pw_ad g 17)), (1, .int x2), (2, .int (0 : Int32))] [] 0 σ (pw_k g mX1_reduce 54 [(0, .ref (pw_ad g 16)), (1, .int x1), (2, .int x2)] [.ref (pw_ad g 25), .int s9, .int s0, .ref (pw_ad g 20)] 0 Q)) : WP g mX1_reduce 41 [(0, .ref (pw_ad g 16)), (1, .int x1), (2, .int x2)] [.int s9, .int s0, .ref (pw_ad g 20)] 0 σ Q := by
  refine wp_aload_n (pc := 41) 0 dX1_reduce_41 rfl rfl ?_
  refine wp_getR1 (pc := 42) 16 25 (o := 8) dX1_reduce_42 rfl fk_X1_30 rfl rfl ?_
  refine wp_aload_n (pc := 45) 0 dX1_reduce_45 rfl rfl ?_
  refine wp_getR1 (pc := 46) 16 17 (o := 0) dX1_reduce_46 rfl fk_X1_14 rfl rfl ?_
  refine wp_iload_n (pc := 49) 2 dX1_reduce_49 rfl rfl ?_
  refine wp_iconst (pc := 50) (v := (0 : Int32)) dX1_reduce_50 (by decide) ?_
  refine wp_callV (pc := 51) (M' := mX0_arrow) 17 [.int x2, .int (0 : Int32)] [.ref (pw_ad g 25), .int s9, .int s0, .ref (pw_ad g 20)] dX1_reduce_51 ck_X1_70 rfl rfl ⟨Nat.le_of_ble_eq_true rfl, Nat.le_of_ble_eq_true rfl⟩ rfl (Nat.le_of_ble_eq_true rfl) (Nat.le_of_ble_eq_true rfl) (Nat.le_of_ble_eq_true rfl) rfl ?_
  exact h1
set_option maxRecDepth 20000 in
theorem bX1_reduce_54 {g : pw_G} {σ : pw_Mem} {Q : pw_R → Prop} {s1 s2 s9 x1 x2 : Int32} (h1 : vp_in s9 5) (h2 : WP g mX0_arrow 0 [(0, .ref (pw_ad g 17)), (1, .int x2), (2, .int (1 : Int32))] [] 0 σ (pw_k g mX1_reduce 68 [(0, .ref (pw_ad g 16)), (1, .int x1), (2, .int x2)] [.ref (pw_ad g 25), .int (σ 25 (s9).toNatClampNeg), .int s1, .int s2, .ref (pw_ad g 20)] 0 Q)) : WP g mX1_reduce 54 [(0, .ref (pw_ad g 16)), (1, .int x1), (2, .int x2)] [.int s9, .ref (pw_ad g 25), .int s1, .int s2, .ref (pw_ad g 20)] 0 σ Q := by
  refine wp_iaload (pc := 54) 25 dX1_reduce_54 rfl (h1) ?_
  refine wp_aload_n (pc := 55) 0 dX1_reduce_55 rfl rfl ?_
  refine wp_getR1 (pc := 56) 16 25 (o := 8) dX1_reduce_56 rfl fk_X1_30 rfl rfl ?_
  refine wp_aload_n (pc := 59) 0 dX1_reduce_59 rfl rfl ?_
  refine wp_getR1 (pc := 60) 16 17 (o := 0) dX1_reduce_60 rfl fk_X1_14 rfl rfl ?_
  refine wp_iload_n (pc := 63) 2 dX1_reduce_63 rfl rfl ?_
  refine wp_iconst (pc := 64) (v := (1 : Int32)) dX1_reduce_64 (by decide) ?_
  refine wp_callV (pc := 65) (M' := mX0_arrow) 17 [.int x2, .int (1 : Int32)] [.ref (pw_ad g 25), .int (σ 25 (s9).toNatClampNeg), .int s1, .int s2, .ref (pw_ad g 20)] dX1_reduce_65 ck_X1_70 rfl rfl ⟨Nat.le_of_ble_eq_true rfl, Nat.le_of_ble_eq_true rfl⟩ rfl (Nat.le_of_ble_eq_true rfl) (Nat.le_of_ble_eq_true rfl) (Nat.le_of_ble_eq_true rfl) rfl ?_
  exact h2
set_option maxRecDepth 20000 in
theorem bX1_reduce_68 {g : pw_G} {σ : pw_Mem} {Q : pw_R → Prop} {s1 s2 s3 s9 x1 x2 : Int32} (h1 : vp_in s9 5) (h2 : WP g mX0_put 0 [(0, .ref (pw_ad g 20)), (1, .int s3), (2, .int s2), (3, .int s1), (4, .int (σ 25 (s9).toNatClampNeg))] [] 0 σ (pw_k g mX1_reduce 72 [(0, .ref (pw_ad g 16)), (1, .int x1), (2, .int x2)] [] 0 Q)) : WP g mX1_reduce 68 [(0, .ref (pw_ad g 16)), (1, .int x1), (2, .int x2)] [.int s9, .ref (pw_ad g 25), .int s1, .int s2, .int s3, .ref (pw_ad g 20)] 0 σ Q := by
  refine wp_iaload (pc := 68) 25 dX1_reduce_68 rfl (h1) ?_
  refine wp_callV (pc := 69) (M' := mX0_put) 20 [.int s3, .int s2, .int s1, .int (σ 25 (s9).toNatClampNeg)] [] dX1_reduce_69 ck_X1_45 rfl rfl ⟨Nat.le_of_ble_eq_true rfl, Nat.le_of_ble_eq_true rfl⟩ rfl (Nat.le_of_ble_eq_true rfl) (Nat.le_of_ble_eq_true rfl) (Nat.le_of_ble_eq_true rfl) rfl ?_
  exact h2
set_option maxRecDepth 20000 in
theorem bX1_reduce_72 {g : pw_G} {σ : pw_Mem} {Q : pw_R → Prop} {x1 x2 : Int32} (h1 : WP g mX1_reduce 10 [(0, .ref (pw_ad g 16)), (1, .int (x1 + 1)), (2, .int x2)] [] 0 σ Q) : WP g mX1_reduce 72 [(0, .ref (pw_ad g 16)), (1, .int x1), (2, .int x2)] [] 0 σ Q := by
  refine wp_iinc (pc := 72) (v := (x1 + 1)) (lv' := [(0, .ref (pw_ad g 16)), (1, .int (x1 + 1)), (2, .int x2)]) 1 dX1_reduce_72 rfl rfl (by decide) rfl ?_
  refine wp_goto (pc := 75) (tgt := 10) dX1_reduce_75 (by decide) ?_
  exact h1
set_option maxRecDepth 20000 in
theorem bX1_findSplitters_0 {g : pw_G} {σ : pw_Mem} {Q : pw_R → Prop} (h1 : WP g mJ7_fill_53178 0 [(0, .ref (pw_ad g 23)), (1, .int (0 : Int32))] [] 0 σ (pw_k g mX1_findSplitters 8 [(0, .ref (pw_ad g 16))] [] 0 Q)) : WP g mX1_findSplitters 0 [(0, .ref (pw_ad g 16))] [] 0 σ Q := by
  refine wp_aload_n (pc := 0) 0 dX1_findSplitters_0 rfl rfl ?_
  refine wp_getR1 (pc := 1) 16 23 (o := 6) dX1_findSplitters_1 rfl fk_X1_23 rfl rfl ?_
  refine wp_iconst (pc := 4) (v := (0 : Int32)) dX1_findSplitters_4 (by decide) ?_
  refine wp_callS (pc := 5) (M' := mJ7_fill_53178) [.ref (pw_ad g 23), .int (0 : Int32)] [] dX1_findSplitters_5 ck_X1_73 ⟨Nat.le_of_ble_eq_true rfl, Nat.le_of_ble_eq_true rfl⟩ rfl (Nat.le_of_ble_eq_true rfl) (Nat.le_of_ble_eq_true rfl) (Nat.le_of_ble_eq_true rfl) rfl ?_
  exact h1
set_option maxRecDepth 20000 in
theorem bX1_findSplitters_8 {g : pw_G} {σ : pw_Mem} {Q : pw_R → Prop} (h1 : WP g mX1_findSplitters 11 [(0, .ref (pw_ad g 16)), (1, .int (15 : Int32))] [] 0 σ Q) : WP g mX1_findSplitters 8 [(0, .ref (pw_ad g 16))] [] 0 σ Q := by
  refine wp_bipush (pc := 8) (v := (15 : Int32)) dX1_findSplitters_8 (by decide) ?_
  refine wp_istore_n (pc := 10) (lv' := [(0, .ref (pw_ad g 16)), (1, .int (15 : Int32))]) dX1_findSplitters_10 rfl (by decide) rfl ?_
  exact h1
set_option maxRecDepth 20000 in
theorem bX1_findSplitters_11 {g : pw_G} {σ : pw_Mem} {Q : pw_R → Prop} {x1 : Int32} (h1 : x1 < (1 : Int32) → Q (.inl none, σ)) (h2 : ¬ x1 < (1 : Int32) → WP g mX1_splitBy 0 [(0, .ref (pw_ad g 16)), (1, .int x1)] [] 0 σ (pw_k g mX1_findSplitters 21 [(0, .ref (pw_ad g 16)), (1, .int x1)] [] 0 Q)) : WP g mX1_findSplitters 11 [(0, .ref (pw_ad g 16)), (1, .int x1)] [] 0 σ Q := by
  refine wp_iload_n (pc := 11) 1 dX1_findSplitters_11 rfl rfl ?_
  refine wp_iconst (pc := 12) (v := (1 : Int32)) dX1_findSplitters_12 (by decide) ?_
  refine wp_icmp_lt (pc := 13) (tgt := 27) dX1_findSplitters_13 (by decide) (fun c13 => ?_) (fun c13 => ?_)
  ·
    exact wp_return (pc := 27) dX1_findSplitters_27 rfl (Nat.le_of_ble_eq_true rfl) (h1 c13)
  ·
    refine wp_aload_n (pc := 16) 0 dX1_findSplitters_16 rfl rfl ?_
    refine wp_iload_n (pc := 17) 1 dX1_findSplitters_17 rfl rfl ?_
    refine wp_callV (pc := 18) (M' := mX1_splitBy) 16 [.int x1] [] dX1_findSplitters_18 ck_X1_79 rfl rfl ⟨Nat.le_of_ble_eq_true rfl, Nat.le_of_ble_eq_true rfl⟩ rfl (Nat.le_of_ble_eq_true rfl) (Nat.le_of_ble_eq_true rfl) (Nat.le_of_ble_eq_true rfl) rfl ?_
    exact h2 c13
set_option maxRecDepth 20000 in
theorem bX1_findSplitters_21 {g : pw_G} {σ : pw_Mem} {Q : pw_R → Prop} {x1 : Int32} (h1 : WP g mX1_findSplitters 11 [(0, .ref (pw_ad g 16)), (1, .int (x1 + (-1)))] [] 0 σ Q) : WP g mX1_findSplitters 21 [(0, .ref (pw_ad g 16)), (1, .int x1)] [] 0 σ Q := by
  refine wp_iinc (pc := 21) (v := (x1 + (-1))) (lv' := [(0, .ref (pw_ad g 16)), (1, .int (x1 + (-1)))]) 1 dX1_findSplitters_21 rfl rfl (by decide) rfl ?_
  refine wp_goto (pc := 24) (tgt := 11) dX1_findSplitters_24 (by decide) ?_
  exact h1
set_option maxRecDepth 20000 in
theorem bX1_splitBy_0 {g : pw_G} {σ : pw_Mem} {Q : pw_R → Prop} {x1 : Int32} (h1 : WP g mX1_splitBy 2 [(0, .ref (pw_ad g 16)), (1, .int x1), (2, .int (0 : Int32))] [] 0 σ Q) : WP g mX1_splitBy 0 [(0, .ref (pw_ad g 16)), (1, .int x1)] [] 0 σ Q := by
  refine wp_iconst (pc := 0) (v := (0 : Int32)) dX1_splitBy_0 (by decide) ?_
  refine wp_istore_n (pc := 1) (lv' := [(0, .ref (pw_ad g 16)), (1, .int x1), (2, .int (0 : Int32))]) dX1_splitBy_1 rfl (by decide) rfl ?_
  exact h1
set_option maxRecDepth 20000 in
theorem bX1_splitBy_2 {g : pw_G} {σ : pw_Mem} {Q : pw_R → Prop} {x1 x2 : Int32} (h1 : WP g mX0_count 0 [(0, .ref (pw_ad g 17))] [] 0 σ (pw_k g mX1_splitBy 10 [(0, .ref (pw_ad g 16)), (1, .int x1), (2, .int x2)] [.int x2] 0 Q)) : WP g mX1_splitBy 2 [(0, .ref (pw_ad g 16)), (1, .int x1), (2, .int x2)] [] 0 σ Q := by
  refine wp_iload_n (pc := 2) 2 dX1_splitBy_2 rfl rfl ?_
  refine wp_aload_n (pc := 3) 0 dX1_splitBy_3 rfl rfl ?_
  refine wp_getR1 (pc := 4) 16 17 (o := 0) dX1_splitBy_4 rfl fk_X1_14 rfl rfl ?_
  refine wp_callV (pc := 7) (M' := mX0_count) 17 [] [.int x2] dX1_splitBy_7 ck_X1_62 rfl rfl ⟨Nat.le_of_ble_eq_true rfl, Nat.le_of_ble_eq_true rfl⟩ rfl (Nat.le_of_ble_eq_true rfl) (Nat.le_of_ble_eq_true rfl) (Nat.le_of_ble_eq_true rfl) rfl ?_
  exact h1
set_option maxRecDepth 20000 in
theorem bX1_splitBy_10 {g : pw_G} {σ : pw_Mem} {Q : pw_R → Prop} {s0 s9 x1 x2 : Int32} (h1 : s9 ≤ s0 → WP g mX1_splitBy 36 [(0, .ref (pw_ad g 16)), (1, .int x1), (2, .int (0 : Int32))] [] 0 σ Q) (h2 : ¬ s9 ≤ s0 → WP g mX0_walk 0 [(0, .ref (pw_ad g 17)), (1, .int x2), (2, .int x1)] [] 0 σ (pw_k g mX1_splitBy 27 [(0, .ref (pw_ad g 16)), (1, .int x1), (2, .int x2)] [.int x2, .ref (pw_ad g 24)] 0 Q)) : WP g mX1_splitBy 10 [(0, .ref (pw_ad g 16)), (1, .int x1), (2, .int x2)] [.int s9, .int s0] 0 σ Q := by
  refine wp_icmp_ge (pc := 10) (tgt := 34) dX1_splitBy_10 (by decide) (fun c10 => ?_) (fun c10 => ?_)
  ·
    refine wp_iconst (pc := 34) (v := (0 : Int32)) dX1_splitBy_34 (by decide) ?_
    refine wp_istore_n (pc := 35) (lv' := [(0, .ref (pw_ad g 16)), (1, .int x1), (2, .int (0 : Int32))]) dX1_splitBy_35 rfl (by decide) rfl ?_
    exact h1 c10
  ·
    refine wp_aload_n (pc := 13) 0 dX1_splitBy_13 rfl rfl ?_
    refine wp_getR1 (pc := 14) 16 24 (o := 7) dX1_splitBy_14 rfl fk_X1_27 rfl rfl ?_
    refine wp_iload_n (pc := 17) 2 dX1_splitBy_17 rfl rfl ?_
    refine wp_aload_n (pc := 18) 0 dX1_splitBy_18 rfl rfl ?_
    refine wp_getR1 (pc := 19) 16 17 (o := 0) dX1_splitBy_19 rfl fk_X1_14 rfl rfl ?_
    refine wp_iload_n (pc := 22) 2 dX1_splitBy_22 rfl rfl ?_
    refine wp_iload_n (pc := 23) 1 dX1_splitBy_23 rfl rfl ?_
    refine wp_callV (pc := 24) (M' := mX0_walk) 17 [.int x2, .int x1] [.int x2, .ref (pw_ad g 24)] dX1_splitBy_24 ck_X1_82 rfl rfl ⟨Nat.le_of_ble_eq_true rfl, Nat.le_of_ble_eq_true rfl⟩ rfl (Nat.le_of_ble_eq_true rfl) (Nat.le_of_ble_eq_true rfl) (Nat.le_of_ble_eq_true rfl) rfl ?_
    exact h2 c10
set_option maxRecDepth 20000 in
theorem bX1_splitBy_36 {g : pw_G} {σ : pw_Mem} {Q : pw_R → Prop} {x1 x2 : Int32} (h1 : WP g mX0_count 0 [(0, .ref (pw_ad g 17))] [] 0 σ (pw_k g mX1_splitBy 44 [(0, .ref (pw_ad g 16)), (1, .int x1), (2, .int x2)] [.int x2] 0 Q)) : WP g mX1_splitBy 36 [(0, .ref (pw_ad g 16)), (1, .int x1), (2, .int x2)] [] 0 σ Q := by
  refine wp_iload_n (pc := 36) 2 dX1_splitBy_36 rfl rfl ?_
  refine wp_aload_n (pc := 37) 0 dX1_splitBy_37 rfl rfl ?_
  refine wp_getR1 (pc := 38) 16 17 (o := 0) dX1_splitBy_38 rfl fk_X1_14 rfl rfl ?_
  refine wp_callV (pc := 41) (M' := mX0_count) 17 [] [.int x2] dX1_splitBy_41 ck_X1_62 rfl rfl ⟨Nat.le_of_ble_eq_true rfl, Nat.le_of_ble_eq_true rfl⟩ rfl (Nat.le_of_ble_eq_true rfl) (Nat.le_of_ble_eq_true rfl) (Nat.le_of_ble_eq_true rfl) rfl ?_
  exact h1
set_option maxRecDepth 20000 in
theorem bX1_splitBy_27 {g : pw_G} {σ : pw_Mem} {Q : pw_R → Prop} {s0 s9 x1 x2 : Int32} (h1 : vp_in s0 5) (h2 : WP g mX1_splitBy 2 [(0, .ref (pw_ad g 16)), (1, .int x1), (2, .int (x2 + 1))] [] 0 (pw_set σ 24 (s0).toNatClampNeg s9) Q) : WP g mX1_splitBy 27 [(0, .ref (pw_ad g 16)), (1, .int x1), (2, .int x2)] [.int s9, .int s0, .ref (pw_ad g 24)] 0 σ Q := by
  refine wp_iastore (pc := 27) 24 dX1_splitBy_27 rfl (h1) ?_
  refine wp_iinc (pc := 28) (v := (x2 + 1)) (lv' := [(0, .ref (pw_ad g 16)), (1, .int x1), (2, .int (x2 + 1))]) 2 dX1_splitBy_28 rfl rfl (by decide) rfl ?_
  refine wp_goto (pc := 31) (tgt := 2) dX1_splitBy_31 (by decide) ?_
  exact h2
set_option maxRecDepth 20000 in
theorem bX1_splitBy_44 {g : pw_G} {σ : pw_Mem} {Q : pw_R → Prop} {s0 s9 x1 x2 : Int32} (h1 : s9 ≤ s0 → Q (.inl none, σ)) (h2 : ¬ s9 ≤ s0 → WP g mX1_splitBy 49 [(0, .ref (pw_ad g 16)), (1, .int x1), (2, .int x2), (3, .int (0 : Int32))] [] 0 σ Q) : WP g mX1_splitBy 44 [(0, .ref (pw_ad g 16)), (1, .int x1), (2, .int x2)] [.int s9, .int s0] 0 σ Q := by
  refine wp_icmp_ge (pc := 44) (tgt := 112) dX1_splitBy_44 (by decide) (fun c44 => ?_) (fun c44 => ?_)
  ·
    exact wp_return (pc := 112) dX1_splitBy_112 rfl (Nat.le_of_ble_eq_true rfl) (h1 c44)
  ·
    refine wp_iconst (pc := 47) (v := (0 : Int32)) dX1_splitBy_47 (by decide) ?_
    refine wp_istore_n (pc := 48) (lv' := [(0, .ref (pw_ad g 16)), (1, .int x1), (2, .int x2), (3, .int (0 : Int32))]) dX1_splitBy_48 rfl (by decide) rfl ?_
    exact h2 c44
set_option maxRecDepth 20000 in
theorem bX1_splitBy_49 {g : pw_G} {σ : pw_Mem} {Q : pw_R → Prop} {x1 x2 x3 : Int32} (h1 : WP g mX0_count 0 [(0, .ref (pw_ad g 17))] [] 0 σ (pw_k g mX1_splitBy 57 [(0, .ref (pw_ad g 16)), (1, .int x1), (2, .int x2), (3, .int x3)] [.int x3] 0 Q)) : WP g mX1_splitBy 49 [(0, .ref (pw_ad g 16)), (1, .int x1), (2, .int x2), (3, .int x3)] [] 0 σ Q := by
  refine wp_iload_n (pc := 49) 3 dX1_splitBy_49 rfl rfl ?_
  refine wp_aload_n (pc := 50) 0 dX1_splitBy_50 rfl rfl ?_
  refine wp_getR1 (pc := 51) 16 17 (o := 0) dX1_splitBy_51 rfl fk_X1_14 rfl rfl ?_
  refine wp_callV (pc := 54) (M' := mX0_count) 17 [] [.int x3] dX1_splitBy_54 ck_X1_62 rfl rfl ⟨Nat.le_of_ble_eq_true rfl, Nat.le_of_ble_eq_true rfl⟩ rfl (Nat.le_of_ble_eq_true rfl) (Nat.le_of_ble_eq_true rfl) (Nat.le_of_ble_eq_true rfl) rfl ?_
  exact h1
set_option maxRecDepth 20000 in
theorem bX1_splitBy_57 {g : pw_G} {σ : pw_Mem} {Q : pw_R → Prop} {s0 s9 x1 x2 x3 : Int32} (h1 : s9 ≤ s0 → WP g mX1_splitBy 36 [(0, .ref (pw_ad g 16)), (1, .int x1), (2, .int (x2 + 1)), (3, .int x3)] [] 0 σ Q) (h2 : ¬ s9 ≤ s0 → vp_in x2 5) (h3 : ¬ s9 ≤ s0 → WP g mX0_markOf 0 [(0, .ref (pw_ad g 17)), (1, .int (σ 24 (x2).toNatClampNeg))] [] 0 σ (pw_k g mX1_splitBy 73 [(0, .ref (pw_ad g 16)), (1, .int x1), (2, .int x2), (3, .int x3)] [] 0 Q)) : WP g mX1_splitBy 57 [(0, .ref (pw_ad g 16)), (1, .int x1), (2, .int x2), (3, .int x3)] [.int s9, .int s0] 0 σ Q := by
  refine wp_icmp_ge (pc := 57) (tgt := 106) dX1_splitBy_57 (by decide) (fun c57 => ?_) (fun c57 => ?_)
  ·
    refine wp_iinc (pc := 106) (v := (x2 + 1)) (lv' := [(0, .ref (pw_ad g 16)), (1, .int x1), (2, .int (x2 + 1)), (3, .int x3)]) 2 dX1_splitBy_106 rfl rfl (by decide) rfl ?_
    refine wp_goto (pc := 109) (tgt := 36) dX1_splitBy_109 (by decide) ?_
    exact h1 c57
  ·
    refine wp_aload_n (pc := 60) 0 dX1_splitBy_60 rfl rfl ?_
    refine wp_getR1 (pc := 61) 16 17 (o := 0) dX1_splitBy_61 rfl fk_X1_14 rfl rfl ?_
    refine wp_aload_n (pc := 64) 0 dX1_splitBy_64 rfl rfl ?_
    refine wp_getR1 (pc := 65) 16 24 (o := 7) dX1_splitBy_65 rfl fk_X1_27 rfl rfl ?_
    refine wp_iload_n (pc := 68) 2 dX1_splitBy_68 rfl rfl ?_
    refine wp_iaload (pc := 69) 24 dX1_splitBy_69 rfl (h2 c57) ?_
    refine wp_callV (pc := 70) (M' := mX0_markOf) 17 [.int (σ 24 (x2).toNatClampNeg)] [] dX1_splitBy_70 ck_X1_66 rfl rfl ⟨Nat.le_of_ble_eq_true rfl, Nat.le_of_ble_eq_true rfl⟩ rfl (Nat.le_of_ble_eq_true rfl) (Nat.le_of_ble_eq_true rfl) (Nat.le_of_ble_eq_true rfl) rfl ?_
    exact h3 c57
set_option maxRecDepth 20000 in
theorem bX1_splitBy_73 {g : pw_G} {σ : pw_Mem} {Q : pw_R → Prop} {s9 x1 x2 x3 : Int32} (h1 : vp_in x3 5) (h2 : WP g mX0_markOf 0 [(0, .ref (pw_ad g 17)), (1, .int (σ 24 (x3).toNatClampNeg))] [] 0 σ (pw_k g mX1_splitBy 86 [(0, .ref (pw_ad g 16)), (1, .int x1), (2, .int x2), (3, .int x3)] [.int s9] 0 Q)) : WP g mX1_splitBy 73 [(0, .ref (pw_ad g 16)), (1, .int x1), (2, .int x2), (3, .int x3)] [.int s9] 0 σ Q := by
  refine wp_aload_n (pc := 73) 0 dX1_splitBy_73 rfl rfl ?_
  refine wp_getR1 (pc := 74) 16 17 (o := 0) dX1_splitBy_74 rfl fk_X1_14 rfl rfl ?_
  refine wp_aload_n (pc := 77) 0 dX1_splitBy_77 rfl rfl ?_
  refine wp_getR1 (pc := 78) 16 24 (o := 7) dX1_splitBy_78 rfl fk_X1_27 rfl rfl ?_
  refine wp_iload_n (pc := 81) 3 dX1_splitBy_81 rfl rfl ?_
  refine wp_iaload (pc := 82) 24 dX1_splitBy_82 rfl (h1) ?_
  refine wp_callV (pc := 83) (M' := mX0_markOf) 17 [.int (σ 24 (x3).toNatClampNeg)] [.int s9] dX1_splitBy_83 ck_X1_66 rfl rfl ⟨Nat.le_of_ble_eq_true rfl, Nat.le_of_ble_eq_true rfl⟩ rfl (Nat.le_of_ble_eq_true rfl) (Nat.le_of_ble_eq_true rfl) (Nat.le_of_ble_eq_true rfl) rfl ?_
  exact h2
set_option maxRecDepth 20000 in
theorem bX1_splitBy_86 {g : pw_G} {σ : pw_Mem} {Q : pw_R → Prop} {s0 s9 x1 x2 x3 : Int32} (h1 : s0 = s9 → WP g mX1_splitBy 49 [(0, .ref (pw_ad g 16)), (1, .int x1), (2, .int x2), (3, .int (x3 + 1))] [] 0 σ Q) (h2 : ¬ s0 = s9 → vp_in (((5 : Int32) * x2) + x3) 25) (h3 : ¬ s0 = s9 → WP g mX1_splitBy 49 [(0, .ref (pw_ad g 16)), (1, .int x1), (2, .int x2), (3, .int (x3 + 1))] [] 0 (pw_set σ 23 ((((5 : Int32) * x2) + x3)).toNatClampNeg x1) Q) : WP g mX1_splitBy 86 [(0, .ref (pw_ad g 16)), (1, .int x1), (2, .int x2), (3, .int x3)] [.int s9, .int s0] 0 σ Q := by
  refine wp_icmp_eq (pc := 86) (tgt := 100) dX1_splitBy_86 (by decide) (fun c86 => ?_) (fun c86 => ?_)
  ·
    refine wp_iinc (pc := 100) (v := (x3 + 1)) (lv' := [(0, .ref (pw_ad g 16)), (1, .int x1), (2, .int x2), (3, .int (x3 + 1))]) 3 dX1_splitBy_100 rfl rfl (by decide) rfl ?_
    refine wp_goto (pc := 103) (tgt := 49) dX1_splitBy_103 (by decide) ?_
    exact h1 c86
  ·
    refine wp_aload_n (pc := 89) 0 dX1_splitBy_89 rfl rfl ?_
    refine wp_getR1 (pc := 90) 16 23 (o := 6) dX1_splitBy_90 rfl fk_X1_23 rfl rfl ?_
    refine wp_iconst (pc := 93) (v := (5 : Int32)) dX1_splitBy_93 (by decide) ?_
    refine wp_iload_n (pc := 94) 2 dX1_splitBy_94 rfl rfl ?_
    refine wp_imul (pc := 95) dX1_splitBy_95 ?_
    refine wp_iload_n (pc := 96) 3 dX1_splitBy_96 rfl rfl ?_
    refine wp_iadd (pc := 97) dX1_splitBy_97 ?_
    refine wp_iload_n (pc := 98) 1 dX1_splitBy_98 rfl rfl ?_
    refine wp_iastore (pc := 99) 23 dX1_splitBy_99 rfl (h2 c86) ?_
    refine wp_iinc (pc := 100) (v := (x3 + 1)) (lv' := [(0, .ref (pw_ad g 16)), (1, .int x1), (2, .int x2), (3, .int (x3 + 1))]) 3 dX1_splitBy_100 rfl rfl (by decide) rfl ?_
    refine wp_goto (pc := 103) (tgt := 49) dX1_splitBy_103 (by decide) ?_
    exact h3 c86
set_option maxRecDepth 20000 in
theorem bX1_findClasses_0 {g : pw_G} {σ : pw_Mem} {Q : pw_R → Prop} (h1 : WP g mJ7_fill_53178 0 [(0, .ref (pw_ad g 25)), (1, .int (-1 : Int32))] [] 0 σ (pw_k g mX1_findClasses 8 [(0, .ref (pw_ad g 16))] [] 0 Q)) : WP g mX1_findClasses 0 [(0, .ref (pw_ad g 16))] [] 0 σ Q := by
  refine wp_aload_n (pc := 0) 0 dX1_findClasses_0 rfl rfl ?_
  refine wp_getR1 (pc := 1) 16 25 (o := 8) dX1_findClasses_1 rfl fk_X1_30 rfl rfl ?_
  refine wp_iconst (pc := 4) (v := (-1 : Int32)) dX1_findClasses_4 (by decide) ?_
  refine wp_callS (pc := 5) (M' := mJ7_fill_53178) [.ref (pw_ad g 25), .int (-1 : Int32)] [] dX1_findClasses_5 ck_X1_73 ⟨Nat.le_of_ble_eq_true rfl, Nat.le_of_ble_eq_true rfl⟩ rfl (Nat.le_of_ble_eq_true rfl) (Nat.le_of_ble_eq_true rfl) (Nat.le_of_ble_eq_true rfl) rfl ?_
  exact h1
set_option maxRecDepth 20000 in
theorem bX1_findClasses_8 {g : pw_G} {σ : pw_Mem} {Q : pw_R → Prop} (h1 : WP g mX0_resize 0 [(0, .ref (pw_ad g 20)), (1, .int (0 : Int32))] [] 0 σ (pw_k g mX1_findClasses 16 [(0, .ref (pw_ad g 16))] [] 0 Q)) : WP g mX1_findClasses 8 [(0, .ref (pw_ad g 16))] [] 0 σ Q := by
  refine wp_aload_n (pc := 8) 0 dX1_findClasses_8 rfl rfl ?_
  refine wp_getR1 (pc := 9) 16 20 (o := 3) dX1_findClasses_9 rfl fk_X1_20 rfl rfl ?_
  refine wp_iconst (pc := 12) (v := (0 : Int32)) dX1_findClasses_12 (by decide) ?_
  refine wp_callV (pc := 13) (M' := mX0_resize) 20 [.int (0 : Int32)] [] dX1_findClasses_13 ck_X1_42 rfl rfl ⟨Nat.le_of_ble_eq_true rfl, Nat.le_of_ble_eq_true rfl⟩ rfl (Nat.le_of_ble_eq_true rfl) (Nat.le_of_ble_eq_true rfl) (Nat.le_of_ble_eq_true rfl) rfl ?_
  exact h1
set_option maxRecDepth 20000 in
theorem bX1_findClasses_16 {g : pw_G} {σ : pw_Mem} {Q : pw_R → Prop} (h1 : WP g mX1_findClasses 18 [(0, .ref (pw_ad g 16)), (1, .int (1 : Int32))] [] 0 σ Q) : WP g mX1_findClasses 16 [(0, .ref (pw_ad g 16))] [] 0 σ Q := by
  refine wp_iconst (pc := 16) (v := (1 : Int32)) dX1_findClasses_16 (by decide) ?_
  refine wp_istore_n (pc := 17) (lv' := [(0, .ref (pw_ad g 16)), (1, .int (1 : Int32))]) dX1_findClasses_17 rfl (by decide) rfl ?_
  exact h1
set_option maxRecDepth 20000 in
theorem bX1_findClasses_18 {g : pw_G} {σ : pw_Mem} {Q : pw_R → Prop} {x1 : Int32} (h1 : (32 : Int32) ≤ x1 → Q (.inl none, σ)) (h2 : ¬ (32 : Int32) ≤ x1 → WP g mX0_walk 0 [(0, .ref (pw_ad g 17)), (1, .int (0 : Int32)), (2, .int x1)] [] 0 σ (pw_k g mX1_findClasses 33 [(0, .ref (pw_ad g 16)), (1, .int x1)] [] 0 Q)) : WP g mX1_findClasses 18 [(0, .ref (pw_ad g 16)), (1, .int x1)] [] 0 σ Q := by
  refine wp_iload_n (pc := 18) 1 dX1_findClasses_18 rfl rfl ?_
  refine wp_bipush (pc := 19) (v := (32 : Int32)) dX1_findClasses_19 (by decide) ?_
  refine wp_icmp_ge (pc := 21) (tgt := 56) dX1_findClasses_21 (by decide) (fun c21 => ?_) (fun c21 => ?_)
  ·
    exact wp_return (pc := 56) dX1_findClasses_56 rfl (Nat.le_of_ble_eq_true rfl) (h1 c21)
  ·
    refine wp_aload_n (pc := 24) 0 dX1_findClasses_24 rfl rfl ?_
    refine wp_getR1 (pc := 25) 16 17 (o := 0) dX1_findClasses_25 rfl fk_X1_14 rfl rfl ?_
    refine wp_iconst (pc := 28) (v := (0 : Int32)) dX1_findClasses_28 (by decide) ?_
    refine wp_iload_n (pc := 29) 1 dX1_findClasses_29 rfl rfl ?_
    refine wp_callV (pc := 30) (M' := mX0_walk) 17 [.int (0 : Int32), .int x1] [] dX1_findClasses_30 ck_X1_82 rfl rfl ⟨Nat.le_of_ble_eq_true rfl, Nat.le_of_ble_eq_true rfl⟩ rfl (Nat.le_of_ble_eq_true rfl) (Nat.le_of_ble_eq_true rfl) (Nat.le_of_ble_eq_true rfl) rfl ?_
    exact h2 c21
set_option maxRecDepth 20000 in
theorem bX1_findClasses_33 {g : pw_G} {σ : pw_Mem} {Q : pw_R → Prop} {s9 x1 : Int32} (h1 : vp_in s9 5) (h2 : ¬ (σ 25 (s9).toNatClampNeg) = (-1 : Int32) → WP g mX1_findClasses 18 [(0, .ref (pw_ad g 16)), (1, .int (x1 + 1)), (2, .int s9)] [] 0 σ Q) (h3 : (σ 25 (s9).toNatClampNeg) = (-1 : Int32) → WP g mX1_openClass 0 [(0, .ref (pw_ad g 16)), (1, .int s9), (2, .int x1)] [] 0 σ (pw_k g mX1_findClasses 50 [(0, .ref (pw_ad g 16)), (1, .int x1), (2, .int s9)] [] 0 Q)) : WP g mX1_findClasses 33 [(0, .ref (pw_ad g 16)), (1, .int x1)] [.int s9] 0 σ Q := by
  refine wp_istore_n (pc := 33) (lv' := [(0, .ref (pw_ad g 16)), (1, .int x1), (2, .int s9)]) dX1_findClasses_33 rfl (by decide) rfl ?_
  refine wp_aload_n (pc := 34) 0 dX1_findClasses_34 rfl rfl ?_
  refine wp_getR1 (pc := 35) 16 25 (o := 8) dX1_findClasses_35 rfl fk_X1_30 rfl rfl ?_
  refine wp_iload_n (pc := 38) 2 dX1_findClasses_38 rfl rfl ?_
  refine wp_iaload (pc := 39) 25 dX1_findClasses_39 rfl (h1) ?_
  refine wp_iconst (pc := 40) (v := (-1 : Int32)) dX1_findClasses_40 (by decide) ?_
  refine wp_icmp_ne (pc := 41) (tgt := 50) dX1_findClasses_41 (by decide) (fun c41 => ?_) (fun c41 => ?_)
  ·
    refine wp_iinc (pc := 50) (v := (x1 + 1)) (lv' := [(0, .ref (pw_ad g 16)), (1, .int (x1 + 1)), (2, .int s9)]) 1 dX1_findClasses_50 rfl rfl (by decide) rfl ?_
    refine wp_goto (pc := 53) (tgt := 18) dX1_findClasses_53 (by decide) ?_
    exact h2 c41
  ·
    refine wp_aload_n (pc := 44) 0 dX1_findClasses_44 rfl rfl ?_
    refine wp_iload_n (pc := 45) 2 dX1_findClasses_45 rfl rfl ?_
    refine wp_iload_n (pc := 46) 1 dX1_findClasses_46 rfl rfl ?_
    refine wp_callV (pc := 47) (M' := mX1_openClass) 16 [.int s9, .int x1] [] dX1_findClasses_47 ck_X1_85 rfl rfl ⟨Nat.le_of_ble_eq_true rfl, Nat.le_of_ble_eq_true rfl⟩ rfl (Nat.le_of_ble_eq_true rfl) (Nat.le_of_ble_eq_true rfl) (Nat.le_of_ble_eq_true rfl) rfl ?_
    exact h3 c41
set_option maxRecDepth 20000 in
theorem bX1_findClasses_50 {g : pw_G} {σ : pw_Mem} {Q : pw_R → Prop} {x1 x2 : Int32} (h1 : WP g mX1_findClasses 18 [(0, .ref (pw_ad g 16)), (1, .int (x1 + 1)), (2, .int x2)] [] 0 σ Q) : WP g mX1_findClasses 50 [(0, .ref (pw_ad g 16)), (1, .int x1), (2, .int x2)] [] 0 σ Q := by
  refine wp_iinc (pc := 50) (v := (x1 + 1)) (lv' := [(0, .ref (pw_ad g 16)), (1, .int (x1 + 1)), (2, .int x2)]) 1 dX1_findClasses_50 rfl rfl (by decide) rfl ?_
  refine wp_goto (pc := 53) (tgt := 18) dX1_findClasses_53 (by decide) ?_
  exact h1
set_option maxRecDepth 20000 in
theorem bX1_openClass_0 {g : pw_G} {σ : pw_Mem} {Q : pw_R → Prop} {x1 x2 : Int32} (h1 : WP g mX0_count 0 [(0, .ref (pw_ad g 20))] [] 0 σ (pw_k g mX1_openClass 7 [(0, .ref (pw_ad g 16)), (1, .int x1), (2, .int x2)] [] 0 Q)) : WP g mX1_openClass 0 [(0, .ref (pw_ad g 16)), (1, .int x1), (2, .int x2)] [] 0 σ Q := by
  refine wp_aload_n (pc := 0) 0 dX1_openClass_0 rfl rfl ?_
  refine wp_getR1 (pc := 1) 16 20 (o := 3) dX1_openClass_1 rfl fk_X1_20 rfl rfl ?_
  refine wp_callV (pc := 4) (M' := mX0_count) 20 [] [] dX1_openClass_4 ck_X1_62 rfl rfl ⟨Nat.le_of_ble_eq_true rfl, Nat.le_of_ble_eq_true rfl⟩ rfl (Nat.le_of_ble_eq_true rfl) (Nat.le_of_ble_eq_true rfl) (Nat.le_of_ble_eq_true rfl) rfl ?_
  exact h1
set_option maxRecDepth 20000 in
theorem bX1_openClass_7 {g : pw_G} {σ : pw_Mem} {Q : pw_R → Prop} {s9 x1 x2 : Int32} (h1 : WP g mX0_resize 0 [(0, .ref (pw_ad g 20)), (1, .int (s9 + (1 : Int32)))] [] 0 σ (pw_k g mX1_openClass 18 [(0, .ref (pw_ad g 16)), (1, .int x1), (2, .int x2), (3, .int s9)] [] 0 Q)) : WP g mX1_openClass 7 [(0, .ref (pw_ad g 16)), (1, .int x1), (2, .int x2)] [.int s9] 0 σ Q := by
  refine wp_istore_n (pc := 7) (lv' := [(0, .ref (pw_ad g 16)), (1, .int x1), (2, .int x2), (3, .int s9)]) dX1_openClass_7 rfl (by decide) rfl ?_
  refine wp_aload_n (pc := 8) 0 dX1_openClass_8 rfl rfl ?_
  refine wp_getR1 (pc := 9) 16 20 (o := 3) dX1_openClass_9 rfl fk_X1_20 rfl rfl ?_
  refine wp_iload_n (pc := 12) 3 dX1_openClass_12 rfl rfl ?_
  refine wp_iconst (pc := 13) (v := (1 : Int32)) dX1_openClass_13 (by decide) ?_
  refine wp_iadd (pc := 14) dX1_openClass_14 ?_
  refine wp_callV (pc := 15) (M' := mX0_resize) 20 [.int (s9 + (1 : Int32))] [] dX1_openClass_15 ck_X1_42 rfl rfl ⟨Nat.le_of_ble_eq_true rfl, Nat.le_of_ble_eq_true rfl⟩ rfl (Nat.le_of_ble_eq_true rfl) (Nat.le_of_ble_eq_true rfl) (Nat.le_of_ble_eq_true rfl) rfl ?_
  exact h1
set_option maxRecDepth 20000 in
theorem bX1_openClass_18 {g : pw_G} {σ : pw_Mem} {Q : pw_R → Prop} {x1 x2 x3 : Int32} (h1 : vp_in x3 5) (h2 : vp_in x3 5) (h3 : WP g mX1_openClass 35 [(0, .ref (pw_ad g 16)), (1, .int x1), (2, .int x2), (3, .int x3), (4, .int (0 : Int32))] [] 0 (pw_set (pw_set σ 26 (x3).toNatClampNeg x1) 27 (x3).toNatClampNeg x2) Q) : WP g mX1_openClass 18 [(0, .ref (pw_ad g 16)), (1, .int x1), (2, .int x2), (3, .int x3)] [] 0 σ Q := by
  refine wp_aload_n (pc := 18) 0 dX1_openClass_18 rfl rfl ?_
  refine wp_getR1 (pc := 19) 16 26 (o := 9) dX1_openClass_19 rfl fk_X1_33 rfl rfl ?_
  refine wp_iload_n (pc := 22) 3 dX1_openClass_22 rfl rfl ?_
  refine wp_iload_n (pc := 23) 1 dX1_openClass_23 rfl rfl ?_
  refine wp_iastore (pc := 24) 26 dX1_openClass_24 rfl (h1) ?_
  refine wp_aload_n (pc := 25) 0 dX1_openClass_25 rfl rfl ?_
  refine wp_getR1 (pc := 26) 16 27 (o := 10) dX1_openClass_26 rfl fk_X1_36 rfl rfl ?_
  refine wp_iload_n (pc := 29) 3 dX1_openClass_29 rfl rfl ?_
  refine wp_iload_n (pc := 30) 2 dX1_openClass_30 rfl rfl ?_
  refine wp_iastore (pc := 31) 27 dX1_openClass_31 rfl (h2) ?_
  refine wp_iconst (pc := 32) (v := (0 : Int32)) dX1_openClass_32 (by decide) ?_
  refine wp_istore (pc := 33) (lv' := [(0, .ref (pw_ad g 16)), (1, .int x1), (2, .int x2), (3, .int x3), (4, .int (0 : Int32))]) dX1_openClass_33 (by decide) rfl ?_
  exact h3
set_option maxRecDepth 20000 in
theorem bX1_openClass_35 {g : pw_G} {σ : pw_Mem} {Q : pw_R → Prop} {x1 x2 x3 x4 : Int32} (h1 : WP g mX0_count 0 [(0, .ref (pw_ad g 17))] [] 0 σ (pw_k g mX1_openClass 44 [(0, .ref (pw_ad g 16)), (1, .int x1), (2, .int x2), (3, .int x3), (4, .int x4)] [.int x4] 0 Q)) : WP g mX1_openClass 35 [(0, .ref (pw_ad g 16)), (1, .int x1), (2, .int x2), (3, .int x3), (4, .int x4)] [] 0 σ Q := by
  refine wp_iload (pc := 35) 4 dX1_openClass_35 rfl ?_
  refine wp_aload_n (pc := 37) 0 dX1_openClass_37 rfl rfl ?_
  refine wp_getR1 (pc := 38) 16 17 (o := 0) dX1_openClass_38 rfl fk_X1_14 rfl rfl ?_
  refine wp_callV (pc := 41) (M' := mX0_count) 17 [] [.int x4] dX1_openClass_41 ck_X1_62 rfl rfl ⟨Nat.le_of_ble_eq_true rfl, Nat.le_of_ble_eq_true rfl⟩ rfl (Nat.le_of_ble_eq_true rfl) (Nat.le_of_ble_eq_true rfl) (Nat.le_of_ble_eq_true rfl) rfl ?_
  exact h1
set_option maxRecDepth 20000 in
theorem bX1_openClass_44 {g : pw_G} {σ : pw_Mem} {Q : pw_R → Prop} {s0 s9 x1 x2 x3 x4 : Int32} (h1 : s9 ≤ s0 → Q (.inl none, σ)) (h2 : ¬ s9 ≤ s0 → WP g mX1_splitterOfDrawn 0 [(0, .ref (pw_ad g 16)), (1, .int x1), (2, .int x4)] [] 0 σ (pw_k g mX1_openClass 54 [(0, .ref (pw_ad g 16)), (1, .int x1), (2, .int x2), (3, .int x3), (4, .int x4)] [] 0 Q)) : WP g mX1_openClass 44 [(0, .ref (pw_ad g 16)), (1, .int x1), (2, .int x2), (3, .int x3), (4, .int x4)] [.int s9, .int s0] 0 σ Q := by
  refine wp_icmp_ge (pc := 44) (tgt := 71) dX1_openClass_44 (by decide) (fun c44 => ?_) (fun c44 => ?_)
  ·
    exact wp_return (pc := 71) dX1_openClass_71 rfl (Nat.le_of_ble_eq_true rfl) (h1 c44)
  ·
    refine wp_aload_n (pc := 47) 0 dX1_openClass_47 rfl rfl ?_
    refine wp_iload_n (pc := 48) 1 dX1_openClass_48 rfl rfl ?_
    refine wp_iload (pc := 49) 4 dX1_openClass_49 rfl ?_
    refine wp_callV (pc := 51) (M' := mX1_splitterOfDrawn) 16 [.int x1, .int x4] [] dX1_openClass_51 ck_X1_52 rfl rfl ⟨Nat.le_of_ble_eq_true rfl, Nat.le_of_ble_eq_true rfl⟩ rfl (Nat.le_of_ble_eq_true rfl) (Nat.le_of_ble_eq_true rfl) (Nat.le_of_ble_eq_true rfl) rfl ?_
    exact h2 c44
set_option maxRecDepth 20000 in
theorem bX1_openClass_54 {g : pw_G} {σ : pw_Mem} {Q : pw_R → Prop} {s9 x1 x2 x3 x4 : Int32} (h1 : ¬ s9 = 0 → WP g mX1_openClass 35 [(0, .ref (pw_ad g 16)), (1, .int x1), (2, .int x2), (3, .int x3), (4, .int (x4 + 1))] [] 0 σ Q) (h2 : s9 = 0 → vp_in x4 5) (h3 : s9 = 0 → WP g mX1_openClass 35 [(0, .ref (pw_ad g 16)), (1, .int x1), (2, .int x2), (3, .int x3), (4, .int (x4 + 1))] [] 0 (pw_set σ 25 (x4).toNatClampNeg x3) Q) : WP g mX1_openClass 54 [(0, .ref (pw_ad g 16)), (1, .int x1), (2, .int x2), (3, .int x3), (4, .int x4)] [.int s9] 0 σ Q := by
  refine wp_if_ne (pc := 54) (tgt := 65) dX1_openClass_54 (by decide) (fun c54 => ?_) (fun c54 => ?_)
  ·
    refine wp_iinc (pc := 65) (v := (x4 + 1)) (lv' := [(0, .ref (pw_ad g 16)), (1, .int x1), (2, .int x2), (3, .int x3), (4, .int (x4 + 1))]) 4 dX1_openClass_65 rfl rfl (by decide) rfl ?_
    refine wp_goto (pc := 68) (tgt := 35) dX1_openClass_68 (by decide) ?_
    exact h1 c54
  ·
    refine wp_aload_n (pc := 57) 0 dX1_openClass_57 rfl rfl ?_
    refine wp_getR1 (pc := 58) 16 25 (o := 8) dX1_openClass_58 rfl fk_X1_30 rfl rfl ?_
    refine wp_iload (pc := 61) 4 dX1_openClass_61 rfl ?_
    refine wp_iload_n (pc := 63) 3 dX1_openClass_63 rfl rfl ?_
    refine wp_iastore (pc := 64) 25 dX1_openClass_64 rfl (h2 c54) ?_
    refine wp_iinc (pc := 65) (v := (x4 + 1)) (lv' := [(0, .ref (pw_ad g 16)), (1, .int x1), (2, .int x2), (3, .int x3), (4, .int (x4 + 1))]) 4 dX1_openClass_65 rfl rfl (by decide) rfl ?_
    refine wp_goto (pc := 68) (tgt := 35) dX1_openClass_68 (by decide) ?_
    exact h3 c54
set_option maxRecDepth 20000 in
theorem bX1_examples_0 {g : pw_G} {σ : pw_Mem} {Q : pw_R → Prop} (h1 : WP g mJ7_fill_53178 0 [(0, .ref (pw_ad g 28)), (1, .int (0 : Int32))] [] 0 σ (pw_k g mX1_examples 8 [(0, .ref (pw_ad g 16))] [] 0 Q)) : WP g mX1_examples 0 [(0, .ref (pw_ad g 16))] [] 0 σ Q := by
  refine wp_aload_n (pc := 0) 0 dX1_examples_0 rfl rfl ?_
  refine wp_getR1 (pc := 1) 16 28 (o := 11) dX1_examples_1 rfl fk_X1_39 rfl rfl ?_
  refine wp_iconst (pc := 4) (v := (0 : Int32)) dX1_examples_4 (by decide) ?_
  refine wp_callS (pc := 5) (M' := mJ7_fill_53178) [.ref (pw_ad g 28), .int (0 : Int32)] [] dX1_examples_5 ck_X1_73 ⟨Nat.le_of_ble_eq_true rfl, Nat.le_of_ble_eq_true rfl⟩ rfl (Nat.le_of_ble_eq_true rfl) (Nat.le_of_ble_eq_true rfl) (Nat.le_of_ble_eq_true rfl) rfl ?_
  exact h1
set_option maxRecDepth 20000 in
theorem bX1_examples_8 {g : pw_G} {σ : pw_Mem} {Q : pw_R → Prop} (h1 : WP g mX1_examples 10 [(0, .ref (pw_ad g 16)), (1, .int (0 : Int32))] [] 0 σ Q) : WP g mX1_examples 8 [(0, .ref (pw_ad g 16))] [] 0 σ Q := by
  refine wp_iconst (pc := 8) (v := (0 : Int32)) dX1_examples_8 (by decide) ?_
  refine wp_istore_n (pc := 9) (lv' := [(0, .ref (pw_ad g 16)), (1, .int (0 : Int32))]) dX1_examples_9 rfl (by decide) rfl ?_
  exact h1
set_option maxRecDepth 20000 in
theorem bX1_examples_10 {g : pw_G} {σ : pw_Mem} {Q : pw_R → Prop} {x1 : Int32} (h1 : WP g mX0_count 0 [(0, .ref (pw_ad g 20))] [] 0 σ (pw_k g mX1_examples 18 [(0, .ref (pw_ad g 16)), (1, .int x1)] [.int x1] 0 Q)) : WP g mX1_examples 10 [(0, .ref (pw_ad g 16)), (1, .int x1)] [] 0 σ Q := by
  refine wp_iload_n (pc := 10) 1 dX1_examples_10 rfl rfl ?_
  refine wp_aload_n (pc := 11) 0 dX1_examples_11 rfl rfl ?_
  refine wp_getR1 (pc := 12) 16 20 (o := 3) dX1_examples_12 rfl fk_X1_20 rfl rfl ?_
  refine wp_callV (pc := 15) (M' := mX0_count) 20 [] [.int x1] dX1_examples_15 ck_X1_62 rfl rfl ⟨Nat.le_of_ble_eq_true rfl, Nat.le_of_ble_eq_true rfl⟩ rfl (Nat.le_of_ble_eq_true rfl) (Nat.le_of_ble_eq_true rfl) (Nat.le_of_ble_eq_true rfl) rfl ?_
  exact h1
set_option maxRecDepth 20000 in
theorem bX1_examples_18 {g : pw_G} {σ : pw_Mem} {Q : pw_R → Prop} {s0 s9 x1 : Int32} (h1 : s9 ≤ s0 → Q (.inl (some (.ref (pw_ad g 28))), σ)) (h2 : ¬ s9 ≤ s0 → WP g mX1_addExamples 0 [(0, .ref (pw_ad g 16)), (1, .int x1), (2, .int (1 : Int32))] [] 0 σ (pw_k g mX1_examples 27 [(0, .ref (pw_ad g 16)), (1, .int x1)] [] 0 Q)) : WP g mX1_examples 18 [(0, .ref (pw_ad g 16)), (1, .int x1)] [.int s9, .int s0] 0 σ Q := by
  refine wp_icmp_ge (pc := 18) (tgt := 80) dX1_examples_18 (by decide) (fun c18 => ?_) (fun c18 => ?_)
  ·
    refine wp_aload_n (pc := 80) 0 dX1_examples_80 rfl rfl ?_
    refine wp_getR1 (pc := 81) 16 28 (o := 11) dX1_examples_81 rfl fk_X1_39 rfl rfl ?_
    exact wp_areturn (pc := 84) dX1_examples_84 rfl (Or.inr ⟨_, rfl⟩) (Nat.le_of_ble_eq_true rfl) (h1 c18)
  ·
    refine wp_aload_n (pc := 21) 0 dX1_examples_21 rfl rfl ?_
    refine wp_iload_n (pc := 22) 1 dX1_examples_22 rfl rfl ?_
    refine wp_iconst (pc := 23) (v := (1 : Int32)) dX1_examples_23 (by decide) ?_
    refine wp_callV (pc := 24) (M' := mX1_addExamples) 16 [.int x1, .int (1 : Int32)] [] dX1_examples_24 ck_X1_89 rfl rfl ⟨Nat.le_of_ble_eq_true rfl, Nat.le_of_ble_eq_true rfl⟩ rfl (Nat.le_of_ble_eq_true rfl) (Nat.le_of_ble_eq_true rfl) (Nat.le_of_ble_eq_true rfl) rfl ?_
    exact h2 c18
set_option maxRecDepth 20000 in
theorem bX1_examples_27 {g : pw_G} {σ : pw_Mem} {Q : pw_R → Prop} {x1 : Int32} (h1 : WP g mX1_examples 29 [(0, .ref (pw_ad g 16)), (1, .int x1), (2, .int (0 : Int32))] [] 0 σ Q) : WP g mX1_examples 27 [(0, .ref (pw_ad g 16)), (1, .int x1)] [] 0 σ Q := by
  refine wp_iconst (pc := 27) (v := (0 : Int32)) dX1_examples_27 (by decide) ?_
  refine wp_istore_n (pc := 28) (lv' := [(0, .ref (pw_ad g 16)), (1, .int x1), (2, .int (0 : Int32))]) dX1_examples_28 rfl (by decide) rfl ?_
  exact h1
set_option maxRecDepth 20000 in
theorem bX1_examples_29 {g : pw_G} {σ : pw_Mem} {Q : pw_R → Prop} {x1 x2 : Int32} (h1 : WP g mX0_count 0 [(0, .ref (pw_ad g 20))] [] 0 σ (pw_k g mX1_examples 37 [(0, .ref (pw_ad g 16)), (1, .int x1), (2, .int x2)] [.int x2] 0 Q)) : WP g mX1_examples 29 [(0, .ref (pw_ad g 16)), (1, .int x1), (2, .int x2)] [] 0 σ Q := by
  refine wp_iload_n (pc := 29) 2 dX1_examples_29 rfl rfl ?_
  refine wp_aload_n (pc := 30) 0 dX1_examples_30 rfl rfl ?_
  refine wp_getR1 (pc := 31) 16 20 (o := 3) dX1_examples_31 rfl fk_X1_20 rfl rfl ?_
  refine wp_callV (pc := 34) (M' := mX0_count) 20 [] [.int x2] dX1_examples_34 ck_X1_62 rfl rfl ⟨Nat.le_of_ble_eq_true rfl, Nat.le_of_ble_eq_true rfl⟩ rfl (Nat.le_of_ble_eq_true rfl) (Nat.le_of_ble_eq_true rfl) (Nat.le_of_ble_eq_true rfl) rfl ?_
  exact h1
set_option maxRecDepth 20000 in
theorem bX1_examples_37 {g : pw_G} {σ : pw_Mem} {Q : pw_R → Prop} {s0 s9 x1 x2 : Int32} (h1 : s9 ≤ s0 → WP g mX1_examples 10 [(0, .ref (pw_ad g 16)), (1, .int (x1 + 1)), (2, .int x2)] [] 0 σ Q) (h2 : ¬ s9 ≤ s0 → vp_in x2 5) (h3 : ¬ s9 ≤ s0 → WP g mX1_addExamples 0 [(0, .ref (pw_ad g 16)), (1, .int x1), (2, .int ((2 : Int32) * (σ 27 (x2).toNatClampNeg)))] [] 0 σ (pw_k g mX1_examples 53 [(0, .ref (pw_ad g 16)), (1, .int x1), (2, .int x2)] [] 0 Q)) : WP g mX1_examples 37 [(0, .ref (pw_ad g 16)), (1, .int x1), (2, .int x2)] [.int s9, .int s0] 0 σ Q := by
  refine wp_icmp_ge (pc := 37) (tgt := 74) dX1_examples_37 (by decide) (fun c37 => ?_) (fun c37 => ?_)
  ·
    refine wp_iinc (pc := 74) (v := (x1 + 1)) (lv' := [(0, .ref (pw_ad g 16)), (1, .int (x1 + 1)), (2, .int x2)]) 1 dX1_examples_74 rfl rfl (by decide) rfl ?_
    refine wp_goto (pc := 77) (tgt := 10) dX1_examples_77 (by decide) ?_
    exact h1 c37
  ·
    refine wp_aload_n (pc := 40) 0 dX1_examples_40 rfl rfl ?_
    refine wp_iload_n (pc := 41) 1 dX1_examples_41 rfl rfl ?_
    refine wp_iconst (pc := 42) (v := (2 : Int32)) dX1_examples_42 (by decide) ?_
    refine wp_aload_n (pc := 43) 0 dX1_examples_43 rfl rfl ?_
    refine wp_getR1 (pc := 44) 16 27 (o := 10) dX1_examples_44 rfl fk_X1_36 rfl rfl ?_
    refine wp_iload_n (pc := 47) 2 dX1_examples_47 rfl rfl ?_
    refine wp_iaload (pc := 48) 27 dX1_examples_48 rfl (h2 c37) ?_
    refine wp_imul (pc := 49) dX1_examples_49 ?_
    refine wp_callV (pc := 50) (M' := mX1_addExamples) 16 [.int x1, .int ((2 : Int32) * (σ 27 (x2).toNatClampNeg))] [] dX1_examples_50 ck_X1_89 rfl rfl ⟨Nat.le_of_ble_eq_true rfl, Nat.le_of_ble_eq_true rfl⟩ rfl (Nat.le_of_ble_eq_true rfl) (Nat.le_of_ble_eq_true rfl) (Nat.le_of_ble_eq_true rfl) rfl ?_
    exact h3 c37
set_option maxRecDepth 20000 in
theorem bX1_examples_53 {g : pw_G} {σ : pw_Mem} {Q : pw_R → Prop} {x1 x2 : Int32} (h1 : vp_in x2 5) (h2 : WP g mX1_addExamples 0 [(0, .ref (pw_ad g 16)), (1, .int x1), (2, .int (((2 : Int32) * (σ 27 (x2).toNatClampNeg)) + (1 : Int32)))] [] 0 σ (pw_k g mX1_examples 68 [(0, .ref (pw_ad g 16)), (1, .int x1), (2, .int x2)] [] 0 Q)) : WP g mX1_examples 53 [(0, .ref (pw_ad g 16)), (1, .int x1), (2, .int x2)] [] 0 σ Q := by
  refine wp_aload_n (pc := 53) 0 dX1_examples_53 rfl rfl ?_
  refine wp_iload_n (pc := 54) 1 dX1_examples_54 rfl rfl ?_
  refine wp_iconst (pc := 55) (v := (2 : Int32)) dX1_examples_55 (by decide) ?_
  refine wp_aload_n (pc := 56) 0 dX1_examples_56 rfl rfl ?_
  refine wp_getR1 (pc := 57) 16 27 (o := 10) dX1_examples_57 rfl fk_X1_36 rfl rfl ?_
  refine wp_iload_n (pc := 60) 2 dX1_examples_60 rfl rfl ?_
  refine wp_iaload (pc := 61) 27 dX1_examples_61 rfl (h1) ?_
  refine wp_imul (pc := 62) dX1_examples_62 ?_
  refine wp_iconst (pc := 63) (v := (1 : Int32)) dX1_examples_63 (by decide) ?_
  refine wp_iadd (pc := 64) dX1_examples_64 ?_
  refine wp_callV (pc := 65) (M' := mX1_addExamples) 16 [.int x1, .int (((2 : Int32) * (σ 27 (x2).toNatClampNeg)) + (1 : Int32))] [] dX1_examples_65 ck_X1_89 rfl rfl ⟨Nat.le_of_ble_eq_true rfl, Nat.le_of_ble_eq_true rfl⟩ rfl (Nat.le_of_ble_eq_true rfl) (Nat.le_of_ble_eq_true rfl) (Nat.le_of_ble_eq_true rfl) rfl ?_
  exact h2
set_option maxRecDepth 20000 in
theorem bX1_examples_68 {g : pw_G} {σ : pw_Mem} {Q : pw_R → Prop} {x1 x2 : Int32} (h1 : WP g mX1_examples 29 [(0, .ref (pw_ad g 16)), (1, .int x1), (2, .int (x2 + 1))] [] 0 σ Q) : WP g mX1_examples 68 [(0, .ref (pw_ad g 16)), (1, .int x1), (2, .int x2)] [] 0 σ Q := by
  refine wp_iinc (pc := 68) (v := (x2 + 1)) (lv' := [(0, .ref (pw_ad g 16)), (1, .int x1), (2, .int (x2 + 1))]) 2 dX1_examples_68 rfl rfl (by decide) rfl ?_
  refine wp_goto (pc := 71) (tgt := 29) dX1_examples_71 (by decide) ?_
  exact h1
set_option maxRecDepth 20000 in
theorem bX1_addExamples_0 {g : pw_G} {σ : pw_Mem} {Q : pw_R → Prop} {x1 x2 : Int32} (h1 : vp_in x1 5) (h2 : WP g mX1_addExample 0 [(0, .ref (pw_ad g 16)), (1, .int (σ 27 (x1).toNatClampNeg))] [] 0 σ (pw_k g mX1_addExamples 10 [(0, .ref (pw_ad g 16)), (1, .int x1), (2, .int x2)] [] 0 Q)) : WP g mX1_addExamples 0 [(0, .ref (pw_ad g 16)), (1, .int x1), (2, .int x2)] [] 0 σ Q := by
  refine wp_aload_n (pc := 0) 0 dX1_addExamples_0 rfl rfl ?_
  refine wp_aload_n (pc := 1) 0 dX1_addExamples_1 rfl rfl ?_
  refine wp_getR1 (pc := 2) 16 27 (o := 10) dX1_addExamples_2 rfl fk_X1_36 rfl rfl ?_
  refine wp_iload_n (pc := 5) 1 dX1_addExamples_5 rfl rfl ?_
  refine wp_iaload (pc := 6) 27 dX1_addExamples_6 rfl (h1) ?_
  refine wp_callV (pc := 7) (M' := mX1_addExample) 16 [.int (σ 27 (x1).toNatClampNeg)] [] dX1_addExamples_7 ck_X1_92 rfl rfl ⟨Nat.le_of_ble_eq_true rfl, Nat.le_of_ble_eq_true rfl⟩ rfl (Nat.le_of_ble_eq_true rfl) (Nat.le_of_ble_eq_true rfl) (Nat.le_of_ble_eq_true rfl) rfl ?_
  exact h2
set_option maxRecDepth 20000 in
theorem bX1_addExamples_10 {g : pw_G} {σ : pw_Mem} {Q : pw_R → Prop} {x1 x2 : Int32} (h1 : WP g mX1_addExample 0 [(0, .ref (pw_ad g 16)), (1, .int x2)] [] 0 σ (pw_k g mX1_addExamples 15 [(0, .ref (pw_ad g 16)), (1, .int x1), (2, .int x2)] [] 0 Q)) : WP g mX1_addExamples 10 [(0, .ref (pw_ad g 16)), (1, .int x1), (2, .int x2)] [] 0 σ Q := by
  refine wp_aload_n (pc := 10) 0 dX1_addExamples_10 rfl rfl ?_
  refine wp_iload_n (pc := 11) 2 dX1_addExamples_11 rfl rfl ?_
  refine wp_callV (pc := 12) (M' := mX1_addExample) 16 [.int x2] [] dX1_addExamples_12 ck_X1_92 rfl rfl ⟨Nat.le_of_ble_eq_true rfl, Nat.le_of_ble_eq_true rfl⟩ rfl (Nat.le_of_ble_eq_true rfl) (Nat.le_of_ble_eq_true rfl) (Nat.le_of_ble_eq_true rfl) rfl ?_
  exact h1
set_option maxRecDepth 20000 in
theorem bX1_addExamples_15 {g : pw_G} {σ : pw_Mem} {Q : pw_R → Prop} {x1 x2 : Int32} (h1 : WP g mX0_walk 0 [(0, .ref (pw_ad g 20)), (1, .int (0 : Int32)), (2, .int x2)] [] 0 σ (pw_k g mX1_addExamples 24 [(0, .ref (pw_ad g 16)), (1, .int x1), (2, .int x2)] [] 0 Q)) : WP g mX1_addExamples 15 [(0, .ref (pw_ad g 16)), (1, .int x1), (2, .int x2)] [] 0 σ Q := by
  refine wp_aload_n (pc := 15) 0 dX1_addExamples_15 rfl rfl ?_
  refine wp_getR1 (pc := 16) 16 20 (o := 3) dX1_addExamples_16 rfl fk_X1_20 rfl rfl ?_
  refine wp_iconst (pc := 19) (v := (0 : Int32)) dX1_addExamples_19 (by decide) ?_
  refine wp_iload_n (pc := 20) 2 dX1_addExamples_20 rfl rfl ?_
  refine wp_callV (pc := 21) (M' := mX0_walk) 20 [.int (0 : Int32), .int x2] [] dX1_addExamples_21 ck_X1_82 rfl rfl ⟨Nat.le_of_ble_eq_true rfl, Nat.le_of_ble_eq_true rfl⟩ rfl (Nat.le_of_ble_eq_true rfl) (Nat.le_of_ble_eq_true rfl) (Nat.le_of_ble_eq_true rfl) rfl ?_
  exact h1
set_option maxRecDepth 20000 in
theorem bX1_addExamples_24 {g : pw_G} {σ : pw_Mem} {Q : pw_R → Prop} {s9 x1 x2 : Int32} (h1 : s9 = x1 → Q (.inl none, σ)) (h2 : ¬ s9 = x1 → WP g mX1_splitterOf 0 [(0, .ref (pw_ad g 16)), (1, .int x1), (2, .int s9)] [] 0 σ (pw_k g mX1_addExamples 36 [(0, .ref (pw_ad g 16)), (1, .int x1), (2, .int x2), (3, .int s9)] [] 0 Q)) : WP g mX1_addExamples 24 [(0, .ref (pw_ad g 16)), (1, .int x1), (2, .int x2)] [.int s9] 0 σ Q := by
  refine wp_istore_n (pc := 24) (lv' := [(0, .ref (pw_ad g 16)), (1, .int x1), (2, .int x2), (3, .int s9)]) dX1_addExamples_24 rfl (by decide) rfl ?_
  refine wp_iload_n (pc := 25) 3 dX1_addExamples_25 rfl rfl ?_
  refine wp_iload_n (pc := 26) 1 dX1_addExamples_26 rfl rfl ?_
  refine wp_icmp_eq (pc := 27) (tgt := 63) dX1_addExamples_27 (by decide) (fun c27 => ?_) (fun c27 => ?_)
  ·
    exact wp_return (pc := 63) dX1_addExamples_63 rfl (Nat.le_of_ble_eq_true rfl) (h1 c27)
  ·
    refine wp_aload_n (pc := 30) 0 dX1_addExamples_30 rfl rfl ?_
    refine wp_iload_n (pc := 31) 1 dX1_addExamples_31 rfl rfl ?_
    refine wp_iload_n (pc := 32) 3 dX1_addExamples_32 rfl rfl ?_
    refine wp_callV (pc := 33) (M' := mX1_splitterOf) 16 [.int x1, .int s9] [] dX1_addExamples_33 ck_X1_95 rfl rfl ⟨Nat.le_of_ble_eq_true rfl, Nat.le_of_ble_eq_true rfl⟩ rfl (Nat.le_of_ble_eq_true rfl) (Nat.le_of_ble_eq_true rfl) (Nat.le_of_ble_eq_true rfl) rfl ?_
    exact h2 c27
set_option maxRecDepth 20000 in
theorem bX1_addExamples_36 {g : pw_G} {σ : pw_Mem} {Q : pw_R → Prop} {s9 x1 x2 x3 : Int32} (h1 : vp_in x1 5) (h2 : WP g mX1_addExamples 47 [(0, .ref (pw_ad g 16)), (1, .int x1), (2, .int x2), (3, .int x3), (4, .int s9)] [.int s9, .int (σ 27 (x1).toNatClampNeg), .ref (pw_ad g 16)] 0 σ Q) : WP g mX1_addExamples 36 [(0, .ref (pw_ad g 16)), (1, .int x1), (2, .int x2), (3, .int x3)] [.int s9] 0 σ Q := by
  refine wp_istore (pc := 36) (lv' := [(0, .ref (pw_ad g 16)), (1, .int x1), (2, .int x2), (3, .int x3), (4, .int s9)]) dX1_addExamples_36 (by decide) rfl ?_
  refine wp_aload_n (pc := 38) 0 dX1_addExamples_38 rfl rfl ?_
  refine wp_aload_n (pc := 39) 0 dX1_addExamples_39 rfl rfl ?_
  refine wp_getR1 (pc := 40) 16 27 (o := 10) dX1_addExamples_40 rfl fk_X1_36 rfl rfl ?_
  refine wp_iload_n (pc := 43) 1 dX1_addExamples_43 rfl rfl ?_
  refine wp_iaload (pc := 44) 27 dX1_addExamples_44 rfl (h1) ?_
  refine wp_iload (pc := 45) 4 dX1_addExamples_45 rfl ?_
  exact h2
set_option maxRecDepth 20000 in
theorem bX1_addExamples_50 {g : pw_G} {σ : pw_Mem} {Q : pw_R → Prop} {s0 x1 x2 x3 x4 : Int32} (h1 : WP g mX1_addExample 0 [(0, .ref (pw_ad g 16)), (1, .int s0)] [] 0 σ (pw_k g mX1_addExamples 53 [(0, .ref (pw_ad g 16)), (1, .int x1), (2, .int x2), (3, .int x3), (4, .int x4)] [] 0 Q)) : WP g mX1_addExamples 50 [(0, .ref (pw_ad g 16)), (1, .int x1), (2, .int x2), (3, .int x3), (4, .int x4)] [.int s0, .ref (pw_ad g 16)] 0 σ Q := by
  refine wp_callV (pc := 50) (M' := mX1_addExample) 16 [.int s0] [] dX1_addExamples_50 ck_X1_92 rfl rfl ⟨Nat.le_of_ble_eq_true rfl, Nat.le_of_ble_eq_true rfl⟩ rfl (Nat.le_of_ble_eq_true rfl) (Nat.le_of_ble_eq_true rfl) (Nat.le_of_ble_eq_true rfl) rfl ?_
  exact h1
set_option maxRecDepth 20000 in
theorem bX1_addExamples_53 {g : pw_G} {σ : pw_Mem} {Q : pw_R → Prop} {x1 x2 x3 x4 : Int32} (h1 : WP g mX1_addExamples 57 [(0, .ref (pw_ad g 16)), (1, .int x1), (2, .int x2), (3, .int x3), (4, .int x4)] [.int x4, .int x2, .ref (pw_ad g 16)] 0 σ Q) : WP g mX1_addExamples 53 [(0, .ref (pw_ad g 16)), (1, .int x1), (2, .int x2), (3, .int x3), (4, .int x4)] [] 0 σ Q := by
  refine wp_aload_n (pc := 53) 0 dX1_addExamples_53 rfl rfl ?_
  refine wp_iload_n (pc := 54) 2 dX1_addExamples_54 rfl rfl ?_
  refine wp_iload (pc := 55) 4 dX1_addExamples_55 rfl ?_
  exact h1
set_option maxRecDepth 20000 in
theorem bX1_addExamples_60 {g : pw_G} {σ : pw_Mem} {Q : pw_R → Prop} {s0 x1 x2 x3 x4 : Int32} (h1 : WP g mX1_addExample 0 [(0, .ref (pw_ad g 16)), (1, .int s0)] [] 0 σ (pw_k g mX1_addExamples 63 [(0, .ref (pw_ad g 16)), (1, .int x1), (2, .int x2), (3, .int x3), (4, .int x4)] [] 0 Q)) : WP g mX1_addExamples 60 [(0, .ref (pw_ad g 16)), (1, .int x1), (2, .int x2), (3, .int x3), (4, .int x4)] [.int s0, .ref (pw_ad g 16)] 0 σ Q := by
  refine wp_callV (pc := 60) (M' := mX1_addExample) 16 [.int s0] [] dX1_addExamples_60 ck_X1_92 rfl rfl ⟨Nat.le_of_ble_eq_true rfl, Nat.le_of_ble_eq_true rfl⟩ rfl (Nat.le_of_ble_eq_true rfl) (Nat.le_of_ble_eq_true rfl) (Nat.le_of_ble_eq_true rfl) rfl ?_
  exact h1
set_option maxRecDepth 20000 in
theorem bX1_addExamples_63 {g : pw_G} {σ : pw_Mem} {Q : pw_R → Prop} {x1 x2 x3 x4 : Int32} (h1 : Q (.inl none, σ)) : WP g mX1_addExamples 63 [(0, .ref (pw_ad g 16)), (1, .int x1), (2, .int x2), (3, .int x3), (4, .int x4)] [] 0 σ Q := by
  exact wp_return (pc := 63) dX1_addExamples_63 rfl (Nat.le_of_ble_eq_true rfl) (h1)
set_option maxRecDepth 20000 in
theorem bX1_addExample_0 {g : pw_G} {σ : pw_Mem} {Q : pw_R → Prop} {x1 : Int32} (h1 : WP g mX0_walk 0 [(0, .ref (pw_ad g 20)), (1, .int (0 : Int32)), (2, .int x1)] [] 0 σ (pw_k g mX1_addExample 18 [(0, .ref (pw_ad g 16)), (1, .int x1)] [.ref (pw_ad g 20), .int x1, .ref (pw_ad g 28)] 0 Q)) : WP g mX1_addExample 0 [(0, .ref (pw_ad g 16)), (1, .int x1)] [] 0 σ Q := by
  refine wp_aload_n (pc := 0) 0 dX1_addExample_0 rfl rfl ?_
  refine wp_getR1 (pc := 1) 16 28 (o := 11) dX1_addExample_1 rfl fk_X1_39 rfl rfl ?_
  refine wp_iload_n (pc := 4) 1 dX1_addExample_4 rfl rfl ?_
  refine wp_aload_n (pc := 5) 0 dX1_addExample_5 rfl rfl ?_
  refine wp_getR1 (pc := 6) 16 20 (o := 3) dX1_addExample_6 rfl fk_X1_20 rfl rfl ?_
  refine wp_aload_n (pc := 9) 0 dX1_addExample_9 rfl rfl ?_
  refine wp_getR1 (pc := 10) 16 20 (o := 3) dX1_addExample_10 rfl fk_X1_20 rfl rfl ?_
  refine wp_iconst (pc := 13) (v := (0 : Int32)) dX1_addExample_13 (by decide) ?_
  refine wp_iload_n (pc := 14) 1 dX1_addExample_14 rfl rfl ?_
  refine wp_callV (pc := 15) (M' := mX0_walk) 20 [.int (0 : Int32), .int x1] [.ref (pw_ad g 20), .int x1, .ref (pw_ad g 28)] dX1_addExample_15 ck_X1_82 rfl rfl ⟨Nat.le_of_ble_eq_true rfl, Nat.le_of_ble_eq_true rfl⟩ rfl (Nat.le_of_ble_eq_true rfl) (Nat.le_of_ble_eq_true rfl) (Nat.le_of_ble_eq_true rfl) rfl ?_
  exact h1
set_option maxRecDepth 20000 in
theorem bX1_addExample_18 {g : pw_G} {σ : pw_Mem} {Q : pw_R → Prop} {s1 s9 x1 : Int32} (h1 : WP g mX0_markOf 0 [(0, .ref (pw_ad g 20)), (1, .int s9)] [] 0 σ (pw_k g mX1_addExample 21 [(0, .ref (pw_ad g 16)), (1, .int x1)] [.int s1, .ref (pw_ad g 28)] 0 Q)) : WP g mX1_addExample 18 [(0, .ref (pw_ad g 16)), (1, .int x1)] [.int s9, .ref (pw_ad g 20), .int s1, .ref (pw_ad g 28)] 0 σ Q := by
  refine wp_callV (pc := 18) (M' := mX0_markOf) 20 [.int s9] [.int s1, .ref (pw_ad g 28)] dX1_addExample_18 ck_X1_66 rfl rfl ⟨Nat.le_of_ble_eq_true rfl, Nat.le_of_ble_eq_true rfl⟩ rfl (Nat.le_of_ble_eq_true rfl) (Nat.le_of_ble_eq_true rfl) (Nat.le_of_ble_eq_true rfl) rfl ?_
  exact h1
set_option maxRecDepth 20000 in
theorem bX1_addExample_21 {g : pw_G} {σ : pw_Mem} {Q : pw_R → Prop} {s0 s9 x1 : Int32} (h1 : vp_in s0 512) (h2 : Q (.inl none, (pw_set σ 28 (s0).toNatClampNeg s9))) : WP g mX1_addExample 21 [(0, .ref (pw_ad g 16)), (1, .int x1)] [.int s9, .int s0, .ref (pw_ad g 28)] 0 σ Q := by
  refine wp_iastore (pc := 21) 28 dX1_addExample_21 rfl (h1) ?_
  exact wp_return (pc := 22) dX1_addExample_22 rfl (Nat.le_of_ble_eq_true rfl) (h2)
