set_option maxRecDepth 20000 in
theorem bX2_run_0 {g : pw_G} {σ : pw_Mem} {Q : pw_R → Prop} (h1 : WP g mX2_plantTree 0 [(0, .ref (pw_ad g 3)), (1, .ref (pw_ad g 1))] [] 0 σ (pw_k g mX2_run 5 [(0, .ref (pw_ad g 3)), (1, .ref (pw_ad g 1)), (2, .ref (pw_ad g 13))] [] 0 Q)) : WP g mX2_run 0 [(0, .ref (pw_ad g 3)), (1, .ref (pw_ad g 1)), (2, .ref (pw_ad g 13))] [] 0 σ Q := by
  refine wp_aload_n (pc := 0) 0 dX2_run_0 rfl rfl ?_
  refine wp_aload_n (pc := 1) 1 dX2_run_1 rfl rfl ?_
  refine wp_callV (pc := 2) (M' := mX2_plantTree) 3 [.ref (pw_ad g 1)] [] dX2_run_2 ck_X2_52 rfl rfl ⟨Nat.le_of_ble_eq_true rfl, Nat.le_of_ble_eq_true rfl⟩ rfl (Nat.le_of_ble_eq_true rfl) (Nat.le_of_ble_eq_true rfl) (Nat.le_of_ble_eq_true rfl) rfl ?_
  exact h1
set_option maxRecDepth 20000 in
theorem bX2_run_5 {g : pw_G} {σ : pw_Mem} {Q : pw_R → Prop} (h1 : WP g mX2_redden 0 [(0, .ref (pw_ad g 3)), (1, .int (1 : Int32)), (2, .int (1 : Int32))] [] 0 σ (pw_k g mX2_run 11 [(0, .ref (pw_ad g 3)), (1, .ref (pw_ad g 1)), (2, .ref (pw_ad g 13))] [] 0 Q)) : WP g mX2_run 5 [(0, .ref (pw_ad g 3)), (1, .ref (pw_ad g 1)), (2, .ref (pw_ad g 13))] [] 0 σ Q := by
  refine wp_aload_n (pc := 5) 0 dX2_run_5 rfl rfl ?_
  refine wp_iconst (pc := 6) (v := (1 : Int32)) dX2_run_6 (by decide) ?_
  refine wp_iconst (pc := 7) (v := (1 : Int32)) dX2_run_7 (by decide) ?_
  refine wp_callV (pc := 8) (M' := mX2_redden) 3 [.int (1 : Int32), .int (1 : Int32)] [] dX2_run_8 ck_X2_56 rfl rfl ⟨Nat.le_of_ble_eq_true rfl, Nat.le_of_ble_eq_true rfl⟩ rfl (Nat.le_of_ble_eq_true rfl) (Nat.le_of_ble_eq_true rfl) (Nat.le_of_ble_eq_true rfl) rfl ?_
  exact h1
set_option maxRecDepth 20000 in
theorem bX2_run_11 {g : pw_G} {σ : pw_Mem} {Q : pw_R → Prop} (h1 : WP g mX2_run 13 [(0, .ref (pw_ad g 3)), (1, .ref (pw_ad g 1)), (2, .ref (pw_ad g 13)), (3, .int (0 : Int32))] [] 0 σ Q) : WP g mX2_run 11 [(0, .ref (pw_ad g 3)), (1, .ref (pw_ad g 1)), (2, .ref (pw_ad g 13))] [] 0 σ Q := by
  refine wp_iconst (pc := 11) (v := (0 : Int32)) dX2_run_11 (by decide) ?_
  refine wp_istore_n (pc := 12) (lv' := [(0, .ref (pw_ad g 3)), (1, .ref (pw_ad g 1)), (2, .ref (pw_ad g 13)), (3, .int (0 : Int32))]) dX2_run_12 rfl (by decide) rfl ?_
  exact h1
set_option maxRecDepth 20000 in
theorem bX2_run_13 {g : pw_G} {σ : pw_Mem} {Q : pw_R → Prop} {x3 : Int32} (h1 : (512 : Int32) ≤ x3 → WP g mX2_writeTo 0 [(0, .ref (pw_ad g 3)), (1, .ref (pw_ad g 13))] [] 0 σ (pw_k g mX2_run 51 [(0, .ref (pw_ad g 3)), (1, .ref (pw_ad g 1)), (2, .ref (pw_ad g 13)), (3, .int x3)] [] 0 Q)) (h2 : ¬ (512 : Int32) ≤ x3 → WP g mX2_firstArrowToBlue 0 [(0, .ref (pw_ad g 3))] [] 0 σ (pw_k g mX2_run 24 [(0, .ref (pw_ad g 3)), (1, .ref (pw_ad g 1)), (2, .ref (pw_ad g 13)), (3, .int x3)] [] 0 Q)) : WP g mX2_run 13 [(0, .ref (pw_ad g 3)), (1, .ref (pw_ad g 1)), (2, .ref (pw_ad g 13)), (3, .int x3)] [] 0 σ Q := by
  refine wp_iload_n (pc := 13) 3 dX2_run_13 rfl rfl ?_
  refine wp_sipush (pc := 14) (v := (512 : Int32)) dX2_run_14 (by decide) ?_
  refine wp_icmp_ge (pc := 17) (tgt := 46) dX2_run_17 (by decide) (fun c17 => ?_) (fun c17 => ?_)
  ·
    refine wp_aload_n (pc := 46) 0 dX2_run_46 rfl rfl ?_
    refine wp_aload_n (pc := 47) 2 dX2_run_47 rfl rfl ?_
    refine wp_callV (pc := 48) (M' := mX2_writeTo) 3 [.ref (pw_ad g 13)] [] dX2_run_48 ck_X2_68 rfl rfl ⟨Nat.le_of_ble_eq_true rfl, Nat.le_of_ble_eq_true rfl⟩ rfl (Nat.le_of_ble_eq_true rfl) (Nat.le_of_ble_eq_true rfl) (Nat.le_of_ble_eq_true rfl) rfl ?_
    exact h1 c17
  ·
    refine wp_aload_n (pc := 20) 0 dX2_run_20 rfl rfl ?_
    refine wp_callV (pc := 21) (M' := mX2_firstArrowToBlue) 3 [] [] dX2_run_21 ck_X2_60 rfl rfl ⟨Nat.le_of_ble_eq_true rfl, Nat.le_of_ble_eq_true rfl⟩ rfl (Nat.le_of_ble_eq_true rfl) (Nat.le_of_ble_eq_true rfl) (Nat.le_of_ble_eq_true rfl) rfl ?_
    exact h2 c17
set_option maxRecDepth 20000 in
theorem bX2_run_51 {g : pw_G} {σ : pw_Mem} {Q : pw_R → Prop} {x3 : Int32} (h1 : Q (.inl none, σ)) : WP g mX2_run 51 [(0, .ref (pw_ad g 3)), (1, .ref (pw_ad g 1)), (2, .ref (pw_ad g 13)), (3, .int x3)] [] 0 σ Q := by
  exact wp_return (pc := 51) dX2_run_51 rfl (Nat.le_of_ble_eq_true rfl) (h1)
set_option maxRecDepth 20000 in
theorem bX2_run_24 {g : pw_G} {σ : pw_Mem} {Q : pw_R → Prop} {s9 x3 : Int32} (h1 : ¬ s9 = 0 → WP g mX2_settle 0 [(0, .ref (pw_ad g 3)), (1, .int s9)] [] 0 σ (pw_k g mX2_run 40 [(0, .ref (pw_ad g 3)), (1, .ref (pw_ad g 1)), (2, .ref (pw_ad g 13)), (3, .int x3), (4, .int s9)] [] 0 Q)) (h2 : s9 = 0 → WP g mX2_writeTo 0 [(0, .ref (pw_ad g 3)), (1, .ref (pw_ad g 13))] [] 0 σ (pw_k g mX2_run 51 [(0, .ref (pw_ad g 3)), (1, .ref (pw_ad g 1)), (2, .ref (pw_ad g 13)), (3, .int x3), (4, .int s9)] [] 0 Q)) : WP g mX2_run 24 [(0, .ref (pw_ad g 3)), (1, .ref (pw_ad g 1)), (2, .ref (pw_ad g 13)), (3, .int x3)] [.int s9] 0 σ Q := by
  refine wp_istore (pc := 24) (lv' := [(0, .ref (pw_ad g 3)), (1, .ref (pw_ad g 1)), (2, .ref (pw_ad g 13)), (3, .int x3), (4, .int s9)]) dX2_run_24 (by decide) rfl ?_
  refine wp_iload (pc := 26) 4 dX2_run_26 rfl ?_
  refine wp_if_ne (pc := 28) (tgt := 34) dX2_run_28 (by decide) (fun c28 => ?_) (fun c28 => ?_)
  ·
    refine wp_aload_n (pc := 34) 0 dX2_run_34 rfl rfl ?_
    refine wp_iload (pc := 35) 4 dX2_run_35 rfl ?_
    refine wp_callV (pc := 37) (M' := mX2_settle) 3 [.int s9] [] dX2_run_37 ck_X2_64 rfl rfl ⟨Nat.le_of_ble_eq_true rfl, Nat.le_of_ble_eq_true rfl⟩ rfl (Nat.le_of_ble_eq_true rfl) (Nat.le_of_ble_eq_true rfl) (Nat.le_of_ble_eq_true rfl) rfl ?_
    exact h1 c28
  ·
    refine wp_goto (pc := 31) (tgt := 46) dX2_run_31 (by decide) ?_
    refine wp_aload_n (pc := 46) 0 dX2_run_46 rfl rfl ?_
    refine wp_aload_n (pc := 47) 2 dX2_run_47 rfl rfl ?_
    refine wp_callV (pc := 48) (M' := mX2_writeTo) 3 [.ref (pw_ad g 13)] [] dX2_run_48 ck_X2_68 rfl rfl ⟨Nat.le_of_ble_eq_true rfl, Nat.le_of_ble_eq_true rfl⟩ rfl (Nat.le_of_ble_eq_true rfl) (Nat.le_of_ble_eq_true rfl) (Nat.le_of_ble_eq_true rfl) rfl ?_
    exact h2 c28
set_option maxRecDepth 20000 in
theorem bX2_run_40 {g : pw_G} {σ : pw_Mem} {Q : pw_R → Prop} {x3 x4 : Int32} (h1 : WP g mX2_run 13 [(0, .ref (pw_ad g 3)), (1, .ref (pw_ad g 1)), (2, .ref (pw_ad g 13)), (3, .int (x3 + 1)), (4, .int x4)] [] 0 σ Q) : WP g mX2_run 40 [(0, .ref (pw_ad g 3)), (1, .ref (pw_ad g 1)), (2, .ref (pw_ad g 13)), (3, .int x3), (4, .int x4)] [] 0 σ Q := by
  refine wp_iinc (pc := 40) (v := (x3 + 1)) (lv' := [(0, .ref (pw_ad g 3)), (1, .ref (pw_ad g 1)), (2, .ref (pw_ad g 13)), (3, .int (x3 + 1)), (4, .int x4)]) 3 dX2_run_40 rfl rfl (by decide) rfl ?_
  refine wp_goto (pc := 43) (tgt := 13) dX2_run_43 (by decide) ?_
  exact h1
set_option maxRecDepth 20000 in
theorem bX2_plantTree_0 {g : pw_G} {σ : pw_Mem} {Q : pw_R → Prop} (h1 : WP g mJ7_fill_53178 0 [(0, .ref (pw_ad g 5)), (1, .int (0 : Int32))] [] 0 σ (pw_k g mX2_plantTree 8 [(0, .ref (pw_ad g 3)), (1, .ref (pw_ad g 1))] [] 0 Q)) : WP g mX2_plantTree 0 [(0, .ref (pw_ad g 3)), (1, .ref (pw_ad g 1))] [] 0 σ Q := by
  refine wp_aload_n (pc := 0) 0 dX2_plantTree_0 rfl rfl ?_
  refine wp_getR1 (pc := 1) 3 5 (o := 1) dX2_plantTree_1 rfl fk_X2_15 rfl rfl ?_
  refine wp_iconst (pc := 4) (v := (0 : Int32)) dX2_plantTree_4 (by decide) ?_
  refine wp_callS (pc := 5) (M' := mJ7_fill_53178) [.ref (pw_ad g 5), .int (0 : Int32)] [] dX2_plantTree_5 ck_X2_72 ⟨Nat.le_of_ble_eq_true rfl, Nat.le_of_ble_eq_true rfl⟩ rfl (Nat.le_of_ble_eq_true rfl) (Nat.le_of_ble_eq_true rfl) (Nat.le_of_ble_eq_true rfl) rfl ?_
  exact h1
set_option maxRecDepth 20000 in
theorem bX2_plantTree_8 {g : pw_G} {σ : pw_Mem} {Q : pw_R → Prop} (h1 : WP g mJ7_fill_53178 0 [(0, .ref (pw_ad g 8)), (1, .int (-1 : Int32))] [] 0 σ (pw_k g mX2_plantTree 16 [(0, .ref (pw_ad g 3)), (1, .ref (pw_ad g 1))] [] 0 Q)) : WP g mX2_plantTree 8 [(0, .ref (pw_ad g 3)), (1, .ref (pw_ad g 1))] [] 0 σ Q := by
  refine wp_aload_n (pc := 8) 0 dX2_plantTree_8 rfl rfl ?_
  refine wp_getR1 (pc := 9) 3 8 (o := 4) dX2_plantTree_9 rfl fk_X2_24 rfl rfl ?_
  refine wp_iconst (pc := 12) (v := (-1 : Int32)) dX2_plantTree_12 (by decide) ?_
  refine wp_callS (pc := 13) (M' := mJ7_fill_53178) [.ref (pw_ad g 8), .int (-1 : Int32)] [] dX2_plantTree_13 ck_X2_72 ⟨Nat.le_of_ble_eq_true rfl, Nat.le_of_ble_eq_true rfl⟩ rfl (Nat.le_of_ble_eq_true rfl) (Nat.le_of_ble_eq_true rfl) (Nat.le_of_ble_eq_true rfl) rfl ?_
  exact h1
set_option maxRecDepth 20000 in
theorem bX2_plantTree_16 {g : pw_G} {σ : pw_Mem} {Q : pw_R → Prop} (h1 : WP g mX2_plantTree 25 [(0, .ref (pw_ad g 3)), (1, .ref (pw_ad g 1)), (2, .int (511 : Int32))] [] 0 (pw_set σ 3 5 (0 : Int32)) Q) : WP g mX2_plantTree 16 [(0, .ref (pw_ad g 3)), (1, .ref (pw_ad g 1))] [] 0 σ Q := by
  refine wp_aload_n (pc := 16) 0 dX2_plantTree_16 rfl rfl ?_
  refine wp_iconst (pc := 17) (v := (0 : Int32)) dX2_plantTree_17 (by decide) ?_
  refine wp_putI (pc := 18) 3 dX2_plantTree_18 rfl pk_X2_27 rfl ?_
  refine wp_sipush (pc := 21) (v := (511 : Int32)) dX2_plantTree_21 (by decide) ?_
  refine wp_istore_n (pc := 24) (lv' := [(0, .ref (pw_ad g 3)), (1, .ref (pw_ad g 1)), (2, .int (511 : Int32))]) dX2_plantTree_24 rfl (by decide) rfl ?_
  exact h1
set_option maxRecDepth 20000 in
theorem bX2_plantTree_25 {g : pw_G} {σ : pw_Mem} {Q : pw_R → Prop} {x2 : Int32} (h1 : x2 < (1 : Int32) → Q (.inl none, σ)) (h2 : ¬ x2 < (1 : Int32) → WP g mX3_markOf 0 [(0, .ref (pw_ad g 1)), (1, .int x2)] [] 0 σ (pw_k g mX2_plantTree 40 [(0, .ref (pw_ad g 3)), (1, .ref (pw_ad g 1)), (2, .int x2)] [.int x2, .ref (pw_ad g 4)] 0 Q)) : WP g mX2_plantTree 25 [(0, .ref (pw_ad g 3)), (1, .ref (pw_ad g 1)), (2, .int x2)] [] 0 σ Q := by
  refine wp_iload_n (pc := 25) 2 dX2_plantTree_25 rfl rfl ?_
  refine wp_iconst (pc := 26) (v := (1 : Int32)) dX2_plantTree_26 (by decide) ?_
  refine wp_icmp_lt (pc := 27) (tgt := 101) dX2_plantTree_27 (by decide) (fun c27 => ?_) (fun c27 => ?_)
  ·
    exact wp_return (pc := 101) dX2_plantTree_101 rfl (Nat.le_of_ble_eq_true rfl) (h1 c27)
  ·
    refine wp_aload_n (pc := 30) 0 dX2_plantTree_30 rfl rfl ?_
    refine wp_getR1 (pc := 31) 3 4 (o := 0) dX2_plantTree_31 rfl fk_X2_9 rfl rfl ?_
    refine wp_iload_n (pc := 34) 2 dX2_plantTree_34 rfl rfl ?_
    refine wp_aload_n (pc := 35) 1 dX2_plantTree_35 rfl rfl ?_
    refine wp_iload_n (pc := 36) 2 dX2_plantTree_36 rfl rfl ?_
    refine wp_callV (pc := 37) (M' := mX3_markOf) 1 [.int x2] [.int x2, .ref (pw_ad g 4)] dX2_plantTree_37 ck_X2_78 rfl rfl ⟨Nat.le_of_ble_eq_true rfl, Nat.le_of_ble_eq_true rfl⟩ rfl (Nat.le_of_ble_eq_true rfl) (Nat.le_of_ble_eq_true rfl) (Nat.le_of_ble_eq_true rfl) rfl ?_
    exact h2 c27
set_option maxRecDepth 20000 in
theorem bX2_plantTree_40 {g : pw_G} {σ : pw_Mem} {Q : pw_R → Prop} {s0 s9 x2 : Int32} (h1 : vp_in s0 512) (h2 : vp_in x2 512) (h3 : ¬ ((pw_set σ 4 (s0).toNatClampNeg s9) 4 (x2).toNatClampNeg) = 0 → vp_in x2 1024) (h4 : ¬ ((pw_set σ 4 (s0).toNatClampNeg s9) 4 (x2).toNatClampNeg) = 0 → WP g mX2_plantTree 25 [(0, .ref (pw_ad g 3)), (1, .ref (pw_ad g 1)), (2, .int (x2 + (-1))), (3, .int (1 : Int32))] [] 0 (pw_set (pw_set σ 4 (s0).toNatClampNeg s9) 5 (x2).toNatClampNeg x2) Q) (h5 : ((pw_set σ 4 (s0).toNatClampNeg s9) 4 (x2).toNatClampNeg) = 0 → vp_in ((2 : Int32) * x2) 1024) (h6 : ((pw_set σ 4 (s0).toNatClampNeg s9) 4 (x2).toNatClampNeg) = 0 → ¬ (σ 5 (((2 : Int32) * x2)).toNatClampNeg) = 0 → vp_in x2 1024) (h7 : ((pw_set σ 4 (s0).toNatClampNeg s9) 4 (x2).toNatClampNeg) = 0 → ¬ (σ 5 (((2 : Int32) * x2)).toNatClampNeg) = 0 → WP g mX2_plantTree 25 [(0, .ref (pw_ad g 3)), (1, .ref (pw_ad g 1)), (2, .int (x2 + (-1))), (3, .int (1 : Int32))] [] 0 (pw_set (pw_set σ 4 (s0).toNatClampNeg s9) 5 (x2).toNatClampNeg x2) Q) (h8 : ((pw_set σ 4 (s0).toNatClampNeg s9) 4 (x2).toNatClampNeg) = 0 → (σ 5 (((2 : Int32) * x2)).toNatClampNeg) = 0 → vp_in (((2 : Int32) * x2) + (1 : Int32)) 1024) (h9 : ((pw_set σ 4 (s0).toNatClampNeg s9) 4 (x2).toNatClampNeg) = 0 → (σ 5 (((2 : Int32) * x2)).toNatClampNeg) = 0 → (σ 5 ((((2 : Int32) * x2) + (1 : Int32))).toNatClampNeg) = 0 → vp_in x2 1024) (h10 : ((pw_set σ 4 (s0).toNatClampNeg s9) 4 (x2).toNatClampNeg) = 0 → (σ 5 (((2 : Int32) * x2)).toNatClampNeg) = 0 → (σ 5 ((((2 : Int32) * x2) + (1 : Int32))).toNatClampNeg) = 0 → WP g mX2_plantTree 25 [(0, .ref (pw_ad g 3)), (1, .ref (pw_ad g 1)), (2, .int (x2 + (-1))), (3, .int (0 : Int32))] [] 0 (pw_set (pw_set σ 4 (s0).toNatClampNeg s9) 5 (x2).toNatClampNeg (0 : Int32)) Q) (h11 : ((pw_set σ 4 (s0).toNatClampNeg s9) 4 (x2).toNatClampNeg) = 0 → (σ 5 (((2 : Int32) * x2)).toNatClampNeg) = 0 → ¬ (σ 5 ((((2 : Int32) * x2) + (1 : Int32))).toNatClampNeg) = 0 → vp_in x2 1024) (h12 : ((pw_set σ 4 (s0).toNatClampNeg s9) 4 (x2).toNatClampNeg) = 0 → (σ 5 (((2 : Int32) * x2)).toNatClampNeg) = 0 → ¬ (σ 5 ((((2 : Int32) * x2) + (1 : Int32))).toNatClampNeg) = 0 → WP g mX2_plantTree 25 [(0, .ref (pw_ad g 3)), (1, .ref (pw_ad g 1)), (2, .int (x2 + (-1))), (3, .int (1 : Int32))] [] 0 (pw_set (pw_set σ 4 (s0).toNatClampNeg s9) 5 (x2).toNatClampNeg x2) Q) : WP g mX2_plantTree 40 [(0, .ref (pw_ad g 3)), (1, .ref (pw_ad g 1)), (2, .int x2)] [.int s9, .int s0, .ref (pw_ad g 4)] 0 σ Q := by
  refine wp_iastore (pc := 40) 4 dX2_plantTree_40 rfl (h1) ?_
  refine wp_aload_n (pc := 41) 0 dX2_plantTree_41 rfl rfl ?_
  refine wp_getR1 (pc := 42) 3 4 (o := 0) dX2_plantTree_42 rfl fk_X2_9 rfl rfl ?_
  refine wp_iload_n (pc := 45) 2 dX2_plantTree_45 rfl rfl ?_
  refine wp_iaload (pc := 46) 4 dX2_plantTree_46 rfl (h2) ?_
  refine wp_if_ne (pc := 47) (tgt := 74) dX2_plantTree_47 (by decide) (fun c47 => ?_) (fun c47 => ?_)
  ·
    refine wp_iconst (pc := 74) (v := (1 : Int32)) dX2_plantTree_74 (by decide) ?_
    refine wp_goto (pc := 75) (tgt := 79) dX2_plantTree_75 (by decide) ?_
    refine wp_istore_n (pc := 79) (lv' := [(0, .ref (pw_ad g 3)), (1, .ref (pw_ad g 1)), (2, .int x2), (3, .int (1 : Int32))]) dX2_plantTree_79 rfl (by decide) rfl ?_
    refine wp_aload_n (pc := 80) 0 dX2_plantTree_80 rfl rfl ?_
    refine wp_getR1 (pc := 81) 3 5 (o := 1) dX2_plantTree_81 rfl fk_X2_15 rfl rfl ?_
    refine wp_iload_n (pc := 84) 2 dX2_plantTree_84 rfl rfl ?_
    refine wp_iload_n (pc := 85) 3 dX2_plantTree_85 rfl rfl ?_
    refine wp_if_eq (pc := 86) (tgt := 93) dX2_plantTree_86 (by decide) (fun c9 => absurd c9 (by decide)) (fun _ => ?_)
    refine wp_iload_n (pc := 89) 2 dX2_plantTree_89 rfl rfl ?_
    refine wp_goto (pc := 90) (tgt := 94) dX2_plantTree_90 (by decide) ?_
    refine wp_iastore (pc := 94) 5 dX2_plantTree_94 rfl (h3 c47) ?_
    refine wp_iinc (pc := 95) (v := (x2 + (-1))) (lv' := [(0, .ref (pw_ad g 3)), (1, .ref (pw_ad g 1)), (2, .int (x2 + (-1))), (3, .int (1 : Int32))]) 2 dX2_plantTree_95 rfl rfl (by decide) rfl ?_
    refine wp_goto (pc := 98) (tgt := 25) dX2_plantTree_98 (by decide) ?_
    exact h4 c47
  ·
    refine wp_aload_n (pc := 50) 0 dX2_plantTree_50 rfl rfl ?_
    refine wp_getR1 (pc := 51) 3 5 (o := 1) dX2_plantTree_51 rfl fk_X2_15 rfl rfl ?_
    refine wp_iconst (pc := 54) (v := (2 : Int32)) dX2_plantTree_54 (by decide) ?_
    refine wp_iload_n (pc := 55) 2 dX2_plantTree_55 rfl rfl ?_
    refine wp_imul (pc := 56) dX2_plantTree_56 ?_
    refine wp_iaload (pc := 57) 5 dX2_plantTree_57 rfl (h5 c47) ?_
    refine wp_if_ne (pc := 58) (tgt := 74) dX2_plantTree_58 (by decide) (fun c58 => ?_) (fun c58 => ?_)
    ·
      refine wp_iconst (pc := 74) (v := (1 : Int32)) dX2_plantTree_74 (by decide) ?_
      refine wp_goto (pc := 75) (tgt := 79) dX2_plantTree_75 (by decide) ?_
      refine wp_istore_n (pc := 79) (lv' := [(0, .ref (pw_ad g 3)), (1, .ref (pw_ad g 1)), (2, .int x2), (3, .int (1 : Int32))]) dX2_plantTree_79 rfl (by decide) rfl ?_
      refine wp_aload_n (pc := 80) 0 dX2_plantTree_80 rfl rfl ?_
      refine wp_getR1 (pc := 81) 3 5 (o := 1) dX2_plantTree_81 rfl fk_X2_15 rfl rfl ?_
      refine wp_iload_n (pc := 84) 2 dX2_plantTree_84 rfl rfl ?_
      refine wp_iload_n (pc := 85) 3 dX2_plantTree_85 rfl rfl ?_
      refine wp_if_eq (pc := 86) (tgt := 93) dX2_plantTree_86 (by decide) (fun c9 => absurd c9 (by decide)) (fun _ => ?_)
      refine wp_iload_n (pc := 89) 2 dX2_plantTree_89 rfl rfl ?_
      refine wp_goto (pc := 90) (tgt := 94) dX2_plantTree_90 (by decide) ?_
      refine wp_iastore (pc := 94) 5 dX2_plantTree_94 rfl (h6 c47 c58) ?_
      refine wp_iinc (pc := 95) (v := (x2 + (-1))) (lv' := [(0, .ref (pw_ad g 3)), (1, .ref (pw_ad g 1)), (2, .int (x2 + (-1))), (3, .int (1 : Int32))]) 2 dX2_plantTree_95 rfl rfl (by decide) rfl ?_
      refine wp_goto (pc := 98) (tgt := 25) dX2_plantTree_98 (by decide) ?_
      exact h7 c47 c58
    ·
      refine wp_aload_n (pc := 61) 0 dX2_plantTree_61 rfl rfl ?_
      refine wp_getR1 (pc := 62) 3 5 (o := 1) dX2_plantTree_62 rfl fk_X2_15 rfl rfl ?_
      refine wp_iconst (pc := 65) (v := (2 : Int32)) dX2_plantTree_65 (by decide) ?_
      refine wp_iload_n (pc := 66) 2 dX2_plantTree_66 rfl rfl ?_
      refine wp_imul (pc := 67) dX2_plantTree_67 ?_
      refine wp_iconst (pc := 68) (v := (1 : Int32)) dX2_plantTree_68 (by decide) ?_
      refine wp_iadd (pc := 69) dX2_plantTree_69 ?_
      refine wp_iaload (pc := 70) 5 dX2_plantTree_70 rfl (h8 c47 c58) ?_
      refine wp_if_eq (pc := 71) (tgt := 78) dX2_plantTree_71 (by decide) (fun c71 => ?_) (fun c71 => ?_)
      ·
        refine wp_iconst (pc := 78) (v := (0 : Int32)) dX2_plantTree_78 (by decide) ?_
        refine wp_istore_n (pc := 79) (lv' := [(0, .ref (pw_ad g 3)), (1, .ref (pw_ad g 1)), (2, .int x2), (3, .int (0 : Int32))]) dX2_plantTree_79 rfl (by decide) rfl ?_
        refine wp_aload_n (pc := 80) 0 dX2_plantTree_80 rfl rfl ?_
        refine wp_getR1 (pc := 81) 3 5 (o := 1) dX2_plantTree_81 rfl fk_X2_15 rfl rfl ?_
        refine wp_iload_n (pc := 84) 2 dX2_plantTree_84 rfl rfl ?_
        refine wp_iload_n (pc := 85) 3 dX2_plantTree_85 rfl rfl ?_
        refine wp_if_eq (pc := 86) (tgt := 93) dX2_plantTree_86 (by decide) (fun _ => ?_) (fun c9 => absurd c9 (by decide))
        refine wp_iconst (pc := 93) (v := (0 : Int32)) dX2_plantTree_93 (by decide) ?_
        refine wp_iastore (pc := 94) 5 dX2_plantTree_94 rfl (h9 c47 c58 c71) ?_
        refine wp_iinc (pc := 95) (v := (x2 + (-1))) (lv' := [(0, .ref (pw_ad g 3)), (1, .ref (pw_ad g 1)), (2, .int (x2 + (-1))), (3, .int (0 : Int32))]) 2 dX2_plantTree_95 rfl rfl (by decide) rfl ?_
        refine wp_goto (pc := 98) (tgt := 25) dX2_plantTree_98 (by decide) ?_
        exact h10 c47 c58 c71
      ·
        refine wp_iconst (pc := 74) (v := (1 : Int32)) dX2_plantTree_74 (by decide) ?_
        refine wp_goto (pc := 75) (tgt := 79) dX2_plantTree_75 (by decide) ?_
        refine wp_istore_n (pc := 79) (lv' := [(0, .ref (pw_ad g 3)), (1, .ref (pw_ad g 1)), (2, .int x2), (3, .int (1 : Int32))]) dX2_plantTree_79 rfl (by decide) rfl ?_
        refine wp_aload_n (pc := 80) 0 dX2_plantTree_80 rfl rfl ?_
        refine wp_getR1 (pc := 81) 3 5 (o := 1) dX2_plantTree_81 rfl fk_X2_15 rfl rfl ?_
        refine wp_iload_n (pc := 84) 2 dX2_plantTree_84 rfl rfl ?_
        refine wp_iload_n (pc := 85) 3 dX2_plantTree_85 rfl rfl ?_
        refine wp_if_eq (pc := 86) (tgt := 93) dX2_plantTree_86 (by decide) (fun c9 => absurd c9 (by decide)) (fun _ => ?_)
        refine wp_iload_n (pc := 89) 2 dX2_plantTree_89 rfl rfl ?_
        refine wp_goto (pc := 90) (tgt := 94) dX2_plantTree_90 (by decide) ?_
        refine wp_iastore (pc := 94) 5 dX2_plantTree_94 rfl (h11 c47 c58 c71) ?_
        refine wp_iinc (pc := 95) (v := (x2 + (-1))) (lv' := [(0, .ref (pw_ad g 3)), (1, .ref (pw_ad g 1)), (2, .int (x2 + (-1))), (3, .int (1 : Int32))]) 2 dX2_plantTree_95 rfl rfl (by decide) rfl ?_
        refine wp_goto (pc := 98) (tgt := 25) dX2_plantTree_98 (by decide) ?_
        exact h12 c47 c58 c71
set_option maxRecDepth 20000 in
theorem bX2_redden_0 {g : pw_G} {σ : pw_Mem} {Q : pw_R → Prop} {x1 x2 : Int32} (h1 : vp_in (σ 3 5) 512) (h2 : vp_in (σ 3 5) 512) (h3 : vp_in x1 512) (h4 : Q (.inl none, (pw_set (pw_set (pw_set (pw_set σ 6 ((σ 3 5)).toNatClampNeg x1) 7 ((σ 3 5)).toNatClampNeg x2) 8 (x1).toNatClampNeg (σ 3 5)) 3 5 ((σ 3 5) + (1 : Int32))))) : WP g mX2_redden 0 [(0, .ref (pw_ad g 3)), (1, .int x1), (2, .int x2)] [] 0 σ Q := by
  refine wp_aload_n (pc := 0) 0 dX2_redden_0 rfl rfl ?_
  refine wp_getR1 (pc := 1) 3 6 (o := 2) dX2_redden_1 rfl fk_X2_18 rfl rfl ?_
  refine wp_aload_n (pc := 4) 0 dX2_redden_4 rfl rfl ?_
  refine wp_getI (pc := 5) 3 dX2_redden_5 rfl fk_X2_27 rfl ?_
  refine wp_iload_n (pc := 8) 1 dX2_redden_8 rfl rfl ?_
  refine wp_iastore (pc := 9) 6 dX2_redden_9 rfl (h1) ?_
  refine wp_aload_n (pc := 10) 0 dX2_redden_10 rfl rfl ?_
  refine wp_getR1 (pc := 11) 3 7 (o := 3) dX2_redden_11 rfl fk_X2_21 rfl rfl ?_
  refine wp_aload_n (pc := 14) 0 dX2_redden_14 rfl rfl ?_
  refine wp_getI (pc := 15) 3 dX2_redden_15 rfl fk_X2_27 rfl ?_
  refine wp_iload_n (pc := 18) 2 dX2_redden_18 rfl rfl ?_
  refine wp_iastore (pc := 19) 7 dX2_redden_19 rfl (h2) ?_
  refine wp_aload_n (pc := 20) 0 dX2_redden_20 rfl rfl ?_
  refine wp_getR1 (pc := 21) 3 8 (o := 4) dX2_redden_21 rfl fk_X2_24 rfl rfl ?_
  refine wp_iload_n (pc := 24) 1 dX2_redden_24 rfl rfl ?_
  refine wp_aload_n (pc := 25) 0 dX2_redden_25 rfl rfl ?_
  refine wp_getI (pc := 26) 3 dX2_redden_26 rfl fk_X2_27 rfl ?_
  refine wp_iastore (pc := 29) 8 dX2_redden_29 rfl (h3) ?_
  refine wp_aload_n (pc := 30) 0 dX2_redden_30 rfl rfl ?_
  refine wp_dup (pc := 31) dX2_redden_31 rfl ?_
  refine wp_getI (pc := 32) 3 dX2_redden_32 rfl fk_X2_27 rfl ?_
  refine wp_iconst (pc := 35) (v := (1 : Int32)) dX2_redden_35 (by decide) ?_
  refine wp_iadd (pc := 36) dX2_redden_36 ?_
  refine wp_putI (pc := 37) 3 dX2_redden_37 rfl pk_X2_27 rfl ?_
  exact wp_return (pc := 40) dX2_redden_40 rfl (Nat.le_of_ble_eq_true rfl) (h4)
set_option maxRecDepth 20000 in
theorem bX2_nameBehind_0 {g : pw_G} {σ : pw_Mem} {Q : pw_R → Prop} {x1 : Int32} (h1 : vp_in (x1 / (2 : Int32)) 512) (h2 : vp_in (σ 8 ((x1 / (2 : Int32))).toNatClampNeg) 512) (h3 : Q (.inl (some (.int (((2 : Int32) * (σ 7 ((σ 8 ((x1 / (2 : Int32))).toNatClampNeg)).toNatClampNeg)) + (x1 - x1 / (2 : Int32) * (2 : Int32))))), σ)) : WP g mX2_nameBehind 0 [(0, .ref (pw_ad g 3)), (1, .int x1)] [] 0 σ Q := by
  refine wp_iconst (pc := 0) (v := (2 : Int32)) dX2_nameBehind_0 (by decide) ?_
  refine wp_aload_n (pc := 1) 0 dX2_nameBehind_1 rfl rfl ?_
  refine wp_getR1 (pc := 2) 3 7 (o := 3) dX2_nameBehind_2 rfl fk_X2_21 rfl rfl ?_
  refine wp_aload_n (pc := 5) 0 dX2_nameBehind_5 rfl rfl ?_
  refine wp_getR1 (pc := 6) 3 8 (o := 4) dX2_nameBehind_6 rfl fk_X2_24 rfl rfl ?_
  refine wp_iload_n (pc := 9) 1 dX2_nameBehind_9 rfl rfl ?_
  refine wp_iconst (pc := 10) (v := (2 : Int32)) dX2_nameBehind_10 (by decide) ?_
  refine wp_idiv (pc := 11) dX2_nameBehind_11 (by decide) ?_
  refine wp_iaload (pc := 12) 8 dX2_nameBehind_12 rfl (h1) ?_
  refine wp_iaload (pc := 13) 7 dX2_nameBehind_13 rfl (h2) ?_
  refine wp_imul (pc := 14) dX2_nameBehind_14 ?_
  refine wp_iload_n (pc := 15) 1 dX2_nameBehind_15 rfl rfl ?_
  refine wp_iconst (pc := 16) (v := (2 : Int32)) dX2_nameBehind_16 (by decide) ?_
  refine wp_irem (pc := 17) dX2_nameBehind_17 (by decide) ?_
  refine wp_iadd (pc := 18) dX2_nameBehind_18 ?_
  exact wp_ireturn (pc := 19) dX2_nameBehind_19 rfl rfl (Nat.le_of_ble_eq_true rfl) (h3)
set_option maxRecDepth 20000 in
theorem bX2_firstArrowToBlue_0 {g : pw_G} {σ : pw_Mem} {Q : pw_R → Prop} (h1 : WP g mX2_firstArrowToBlue 4 [(0, .ref (pw_ad g 3)), (1, .int (0 : Int32)), (2, .int (0 : Int32))] [] 0 σ Q) : WP g mX2_firstArrowToBlue 0 [(0, .ref (pw_ad g 3))] [] 0 σ Q := by
  refine wp_iconst (pc := 0) (v := (0 : Int32)) dX2_firstArrowToBlue_0 (by decide) ?_
  refine wp_istore_n (pc := 1) (lv' := [(0, .ref (pw_ad g 3)), (1, .int (0 : Int32))]) dX2_firstArrowToBlue_1 rfl (by decide) rfl ?_
  refine wp_iconst (pc := 2) (v := (0 : Int32)) dX2_firstArrowToBlue_2 (by decide) ?_
  refine wp_istore_n (pc := 3) (lv' := [(0, .ref (pw_ad g 3)), (1, .int (0 : Int32)), (2, .int (0 : Int32))]) dX2_firstArrowToBlue_3 rfl (by decide) rfl ?_
  exact h1
set_option maxRecDepth 20000 in
theorem bX2_firstArrowToBlue_4 {g : pw_G} {σ : pw_Mem} {Q : pw_R → Prop} {x1 x2 : Int32} (h1 : (σ 3 5) ≤ x2 → Q (.inl (some (.int x1)), σ)) (h2 : ¬ (σ 3 5) ≤ x2 → WP g mX2_firstArrowToBlue 14 [(0, .ref (pw_ad g 3)), (1, .int x1), (2, .int x2), (3, .int (0 : Int32))] [] 0 σ Q) : WP g mX2_firstArrowToBlue 4 [(0, .ref (pw_ad g 3)), (1, .int x1), (2, .int x2)] [] 0 σ Q := by
  refine wp_iload_n (pc := 4) 2 dX2_firstArrowToBlue_4 rfl rfl ?_
  refine wp_aload_n (pc := 5) 0 dX2_firstArrowToBlue_5 rfl rfl ?_
  refine wp_getI (pc := 6) 3 dX2_firstArrowToBlue_6 rfl fk_X2_27 rfl ?_
  refine wp_icmp_ge (pc := 9) (tgt := 73) dX2_firstArrowToBlue_9 (by decide) (fun c9 => ?_) (fun c9 => ?_)
  ·
    refine wp_iload_n (pc := 73) 1 dX2_firstArrowToBlue_73 rfl rfl ?_
    exact wp_ireturn (pc := 74) dX2_firstArrowToBlue_74 rfl rfl (Nat.le_of_ble_eq_true rfl) (h1 c9)
  ·
    refine wp_iconst (pc := 12) (v := (0 : Int32)) dX2_firstArrowToBlue_12 (by decide) ?_
    refine wp_istore_n (pc := 13) (lv' := [(0, .ref (pw_ad g 3)), (1, .int x1), (2, .int x2), (3, .int (0 : Int32))]) dX2_firstArrowToBlue_13 rfl (by decide) rfl ?_
    exact h2 c9
set_option maxRecDepth 20000 in
theorem bX2_firstArrowToBlue_14 {g : pw_G} {σ : pw_Mem} {Q : pw_R → Prop} {x1 x2 x3 : Int32} (h1 : (2 : Int32) ≤ x3 → WP g mX2_firstArrowToBlue 4 [(0, .ref (pw_ad g 3)), (1, .int x1), (2, .int (x2 + 1)), (3, .int x3)] [] 0 σ Q) (h2 : ¬ (2 : Int32) ≤ x3 → vp_in x2 512) (h3 : ¬ (2 : Int32) ≤ x3 → WP g mX2_leadsToBlue 0 [(0, .ref (pw_ad g 3)), (1, .int (((2 : Int32) * (σ 6 (x2).toNatClampNeg)) + x3))] [] 0 σ (pw_k g mX2_firstArrowToBlue 37 [(0, .ref (pw_ad g 3)), (1, .int x1), (2, .int x2), (3, .int x3), (4, .int (((2 : Int32) * (σ 6 (x2).toNatClampNeg)) + x3))] [] 0 Q)) : WP g mX2_firstArrowToBlue 14 [(0, .ref (pw_ad g 3)), (1, .int x1), (2, .int x2), (3, .int x3)] [] 0 σ Q := by
  refine wp_iload_n (pc := 14) 3 dX2_firstArrowToBlue_14 rfl rfl ?_
  refine wp_iconst (pc := 15) (v := (2 : Int32)) dX2_firstArrowToBlue_15 (by decide) ?_
  refine wp_icmp_ge (pc := 16) (tgt := 67) dX2_firstArrowToBlue_16 (by decide) (fun c16 => ?_) (fun c16 => ?_)
  ·
    refine wp_iinc (pc := 67) (v := (x2 + 1)) (lv' := [(0, .ref (pw_ad g 3)), (1, .int x1), (2, .int (x2 + 1)), (3, .int x3)]) 2 dX2_firstArrowToBlue_67 rfl rfl (by decide) rfl ?_
    refine wp_goto (pc := 70) (tgt := 4) dX2_firstArrowToBlue_70 (by decide) ?_
    exact h1 c16
  ·
    refine wp_iconst (pc := 19) (v := (2 : Int32)) dX2_firstArrowToBlue_19 (by decide) ?_
    refine wp_aload_n (pc := 20) 0 dX2_firstArrowToBlue_20 rfl rfl ?_
    refine wp_getR1 (pc := 21) 3 6 (o := 2) dX2_firstArrowToBlue_21 rfl fk_X2_18 rfl rfl ?_
    refine wp_iload_n (pc := 24) 2 dX2_firstArrowToBlue_24 rfl rfl ?_
    refine wp_iaload (pc := 25) 6 dX2_firstArrowToBlue_25 rfl (h2 c16) ?_
    refine wp_imul (pc := 26) dX2_firstArrowToBlue_26 ?_
    refine wp_iload_n (pc := 27) 3 dX2_firstArrowToBlue_27 rfl rfl ?_
    refine wp_iadd (pc := 28) dX2_firstArrowToBlue_28 ?_
    refine wp_istore (pc := 29) (lv' := [(0, .ref (pw_ad g 3)), (1, .int x1), (2, .int x2), (3, .int x3), (4, .int (((2 : Int32) * (σ 6 (x2).toNatClampNeg)) + x3))]) dX2_firstArrowToBlue_29 (by decide) rfl ?_
    refine wp_aload_n (pc := 31) 0 dX2_firstArrowToBlue_31 rfl rfl ?_
    refine wp_iload (pc := 32) 4 dX2_firstArrowToBlue_32 rfl ?_
    refine wp_callV (pc := 34) (M' := mX2_leadsToBlue) 3 [.int (((2 : Int32) * (σ 6 (x2).toNatClampNeg)) + x3)] [] dX2_firstArrowToBlue_34 ck_X2_84 rfl rfl ⟨Nat.le_of_ble_eq_true rfl, Nat.le_of_ble_eq_true rfl⟩ rfl (Nat.le_of_ble_eq_true rfl) (Nat.le_of_ble_eq_true rfl) (Nat.le_of_ble_eq_true rfl) rfl ?_
    exact h3 c16
set_option maxRecDepth 20000 in
theorem bX2_firstArrowToBlue_37 {g : pw_G} {σ : pw_Mem} {Q : pw_R → Prop} {s9 x1 x2 x3 x4 : Int32} (h1 : s9 = 0 → WP g mX2_firstArrowToBlue 14 [(0, .ref (pw_ad g 3)), (1, .int x1), (2, .int x2), (3, .int (x3 + 1)), (4, .int x4)] [] 0 σ Q) (h2 : ¬ s9 = 0 → x1 = 0 → WP g mX2_firstArrowToBlue 14 [(0, .ref (pw_ad g 3)), (1, .int x4), (2, .int x2), (3, .int (x3 + 1)), (4, .int x4)] [] 0 σ Q) (h3 : ¬ s9 = 0 → ¬ x1 = 0 → WP g mX2_nameBehind 0 [(0, .ref (pw_ad g 3)), (1, .int x4)] [] 0 σ (pw_k g mX2_firstArrowToBlue 50 [(0, .ref (pw_ad g 3)), (1, .int x1), (2, .int x2), (3, .int x3), (4, .int x4)] [] 0 Q)) : WP g mX2_firstArrowToBlue 37 [(0, .ref (pw_ad g 3)), (1, .int x1), (2, .int x2), (3, .int x3), (4, .int x4)] [.int s9] 0 σ Q := by
  refine wp_if_eq (pc := 37) (tgt := 61) dX2_firstArrowToBlue_37 (by decide) (fun c37 => ?_) (fun c37 => ?_)
  ·
    refine wp_iinc (pc := 61) (v := (x3 + 1)) (lv' := [(0, .ref (pw_ad g 3)), (1, .int x1), (2, .int x2), (3, .int (x3 + 1)), (4, .int x4)]) 3 dX2_firstArrowToBlue_61 rfl rfl (by decide) rfl ?_
    refine wp_goto (pc := 64) (tgt := 14) dX2_firstArrowToBlue_64 (by decide) ?_
    exact h1 c37
  ·
    refine wp_iload_n (pc := 40) 1 dX2_firstArrowToBlue_40 rfl rfl ?_
    refine wp_if_eq (pc := 41) (tgt := 58) dX2_firstArrowToBlue_41 (by decide) (fun c41 => ?_) (fun c41 => ?_)
    ·
      refine wp_iload (pc := 58) 4 dX2_firstArrowToBlue_58 rfl ?_
      refine wp_istore_n (pc := 60) (lv' := [(0, .ref (pw_ad g 3)), (1, .int x4), (2, .int x2), (3, .int x3), (4, .int x4)]) dX2_firstArrowToBlue_60 rfl (by decide) rfl ?_
      refine wp_iinc (pc := 61) (v := (x3 + 1)) (lv' := [(0, .ref (pw_ad g 3)), (1, .int x4), (2, .int x2), (3, .int (x3 + 1)), (4, .int x4)]) 3 dX2_firstArrowToBlue_61 rfl rfl (by decide) rfl ?_
      refine wp_goto (pc := 64) (tgt := 14) dX2_firstArrowToBlue_64 (by decide) ?_
      exact h2 c37 c41
    ·
      refine wp_aload_n (pc := 44) 0 dX2_firstArrowToBlue_44 rfl rfl ?_
      refine wp_iload (pc := 45) 4 dX2_firstArrowToBlue_45 rfl ?_
      refine wp_callV (pc := 47) (M' := mX2_nameBehind) 3 [.int x4] [] dX2_firstArrowToBlue_47 ck_X2_88 rfl rfl ⟨Nat.le_of_ble_eq_true rfl, Nat.le_of_ble_eq_true rfl⟩ rfl (Nat.le_of_ble_eq_true rfl) (Nat.le_of_ble_eq_true rfl) (Nat.le_of_ble_eq_true rfl) rfl ?_
      exact h3 c37 c41
set_option maxRecDepth 20000 in
theorem bX2_firstArrowToBlue_50 {g : pw_G} {σ : pw_Mem} {Q : pw_R → Prop} {s9 x1 x2 x3 x4 : Int32} (h1 : WP g mX2_nameBehind 0 [(0, .ref (pw_ad g 3)), (1, .int x1)] [] 0 σ (pw_k g mX2_firstArrowToBlue 55 [(0, .ref (pw_ad g 3)), (1, .int x1), (2, .int x2), (3, .int x3), (4, .int x4)] [.int s9] 0 Q)) : WP g mX2_firstArrowToBlue 50 [(0, .ref (pw_ad g 3)), (1, .int x1), (2, .int x2), (3, .int x3), (4, .int x4)] [.int s9] 0 σ Q := by
  refine wp_aload_n (pc := 50) 0 dX2_firstArrowToBlue_50 rfl rfl ?_
  refine wp_iload_n (pc := 51) 1 dX2_firstArrowToBlue_51 rfl rfl ?_
  refine wp_callV (pc := 52) (M' := mX2_nameBehind) 3 [.int x1] [.int s9] dX2_firstArrowToBlue_52 ck_X2_88 rfl rfl ⟨Nat.le_of_ble_eq_true rfl, Nat.le_of_ble_eq_true rfl⟩ rfl (Nat.le_of_ble_eq_true rfl) (Nat.le_of_ble_eq_true rfl) (Nat.le_of_ble_eq_true rfl) rfl ?_
  exact h1
set_option maxRecDepth 20000 in
theorem bX2_firstArrowToBlue_55 {g : pw_G} {σ : pw_Mem} {Q : pw_R → Prop} {s0 s9 x1 x2 x3 x4 : Int32} (h1 : s9 ≤ s0 → WP g mX2_firstArrowToBlue 14 [(0, .ref (pw_ad g 3)), (1, .int x1), (2, .int x2), (3, .int (x3 + 1)), (4, .int x4)] [] 0 σ Q) (h2 : ¬ s9 ≤ s0 → WP g mX2_firstArrowToBlue 14 [(0, .ref (pw_ad g 3)), (1, .int x4), (2, .int x2), (3, .int (x3 + 1)), (4, .int x4)] [] 0 σ Q) : WP g mX2_firstArrowToBlue 55 [(0, .ref (pw_ad g 3)), (1, .int x1), (2, .int x2), (3, .int x3), (4, .int x4)] [.int s9, .int s0] 0 σ Q := by
  refine wp_icmp_ge (pc := 55) (tgt := 61) dX2_firstArrowToBlue_55 (by decide) (fun c55 => ?_) (fun c55 => ?_)
  ·
    refine wp_iinc (pc := 61) (v := (x3 + 1)) (lv' := [(0, .ref (pw_ad g 3)), (1, .int x1), (2, .int x2), (3, .int (x3 + 1)), (4, .int x4)]) 3 dX2_firstArrowToBlue_61 rfl rfl (by decide) rfl ?_
    refine wp_goto (pc := 64) (tgt := 14) dX2_firstArrowToBlue_64 (by decide) ?_
    exact h1 c55
  ·
    refine wp_iload (pc := 58) 4 dX2_firstArrowToBlue_58 rfl ?_
    refine wp_istore_n (pc := 60) (lv' := [(0, .ref (pw_ad g 3)), (1, .int x4), (2, .int x2), (3, .int x3), (4, .int x4)]) dX2_firstArrowToBlue_60 rfl (by decide) rfl ?_
    refine wp_iinc (pc := 61) (v := (x3 + 1)) (lv' := [(0, .ref (pw_ad g 3)), (1, .int x4), (2, .int x2), (3, .int (x3 + 1)), (4, .int x4)]) 3 dX2_firstArrowToBlue_61 rfl rfl (by decide) rfl ?_
    refine wp_goto (pc := 64) (tgt := 14) dX2_firstArrowToBlue_64 (by decide) ?_
    exact h2 c55
set_option maxRecDepth 20000 in
theorem bX2_leadsToBlue_0 {g : pw_G} {σ : pw_Mem} {Q : pw_R → Prop} {x1 : Int32} (h1 : vp_in x1 1024) (h2 : (σ 5 (x1).toNatClampNeg) = 0 → Q (.inl (some (.int (0 : Int32))), σ)) (h3 : ¬ (σ 5 (x1).toNatClampNeg) = 0 → vp_in x1 1024) (h4 : ¬ (σ 5 (x1).toNatClampNeg) = 0 → vp_in (σ 5 (x1).toNatClampNeg) 512) (h5 : ¬ (σ 5 (x1).toNatClampNeg) = 0 → ¬ (σ 8 ((σ 5 (x1).toNatClampNeg)).toNatClampNeg) = (-1 : Int32) → Q (.inl (some (.int (0 : Int32))), σ)) (h6 : ¬ (σ 5 (x1).toNatClampNeg) = 0 → (σ 8 ((σ 5 (x1).toNatClampNeg)).toNatClampNeg) = (-1 : Int32) → Q (.inl (some (.int (1 : Int32))), σ)) : WP g mX2_leadsToBlue 0 [(0, .ref (pw_ad g 3)), (1, .int x1)] [] 0 σ Q := by
  refine wp_aload_n (pc := 0) 0 dX2_leadsToBlue_0 rfl rfl ?_
  refine wp_getR1 (pc := 1) 3 5 (o := 1) dX2_leadsToBlue_1 rfl fk_X2_15 rfl rfl ?_
  refine wp_iload_n (pc := 4) 1 dX2_leadsToBlue_4 rfl rfl ?_
  refine wp_iaload (pc := 5) 5 dX2_leadsToBlue_5 rfl (h1) ?_
  refine wp_if_eq (pc := 6) (tgt := 28) dX2_leadsToBlue_6 (by decide) (fun c6 => ?_) (fun c6 => ?_)
  ·
    refine wp_iconst (pc := 28) (v := (0 : Int32)) dX2_leadsToBlue_28 (by decide) ?_
    exact wp_ireturn (pc := 29) dX2_leadsToBlue_29 rfl (by decide) (Nat.le_of_ble_eq_true rfl) (h2 c6)
  ·
    refine wp_aload_n (pc := 9) 0 dX2_leadsToBlue_9 rfl rfl ?_
    refine wp_getR1 (pc := 10) 3 8 (o := 4) dX2_leadsToBlue_10 rfl fk_X2_24 rfl rfl ?_
    refine wp_aload_n (pc := 13) 0 dX2_leadsToBlue_13 rfl rfl ?_
    refine wp_getR1 (pc := 14) 3 5 (o := 1) dX2_leadsToBlue_14 rfl fk_X2_15 rfl rfl ?_
    refine wp_iload_n (pc := 17) 1 dX2_leadsToBlue_17 rfl rfl ?_
    refine wp_iaload (pc := 18) 5 dX2_leadsToBlue_18 rfl (h3 c6) ?_
    refine wp_iaload (pc := 19) 8 dX2_leadsToBlue_19 rfl (h4 c6) ?_
    refine wp_iconst (pc := 20) (v := (-1 : Int32)) dX2_leadsToBlue_20 (by decide) ?_
    refine wp_icmp_ne (pc := 21) (tgt := 28) dX2_leadsToBlue_21 (by decide) (fun c21 => ?_) (fun c21 => ?_)
    ·
      refine wp_iconst (pc := 28) (v := (0 : Int32)) dX2_leadsToBlue_28 (by decide) ?_
      exact wp_ireturn (pc := 29) dX2_leadsToBlue_29 rfl (by decide) (Nat.le_of_ble_eq_true rfl) (h5 c6 c21)
    ·
      refine wp_iconst (pc := 24) (v := (1 : Int32)) dX2_leadsToBlue_24 (by decide) ?_
      refine wp_goto (pc := 25) (tgt := 29) dX2_leadsToBlue_25 (by decide) ?_
      exact wp_ireturn (pc := 29) dX2_leadsToBlue_29 rfl (by decide) (Nat.le_of_ble_eq_true rfl) (h6 c6 c21)
set_option maxRecDepth 20000 in
theorem bX2_settle_0 {g : pw_G} {σ : pw_Mem} {Q : pw_R → Prop} {x1 : Int32} (h1 : WP g mX2_settle 2 [(0, .ref (pw_ad g 3)), (1, .int x1), (2, .int (0 : Int32))] [] 0 σ Q) : WP g mX2_settle 0 [(0, .ref (pw_ad g 3)), (1, .int x1)] [] 0 σ Q := by
  refine wp_iconst (pc := 0) (v := (0 : Int32)) dX2_settle_0 (by decide) ?_
  refine wp_istore_n (pc := 1) (lv' := [(0, .ref (pw_ad g 3)), (1, .int x1), (2, .int (0 : Int32))]) dX2_settle_1 rfl (by decide) rfl ?_
  exact h1
set_option maxRecDepth 20000 in
theorem bX2_settle_2 {g : pw_G} {σ : pw_Mem} {Q : pw_R → Prop} {x1 x2 : Int32} (h1 : (σ 3 5) ≤ x2 → vp_in x1 1024) (h2 : (σ 3 5) ≤ x2 → WP g mX2_nameBehind 0 [(0, .ref (pw_ad g 3)), (1, .int x1)] [] 0 σ (pw_k g mX2_settle 43 [(0, .ref (pw_ad g 3)), (1, .int x1), (2, .int x2)] [.int (σ 5 (x1).toNatClampNeg), .ref (pw_ad g 3)] 0 Q)) (h3 : ¬ (σ 3 5) ≤ x2 → vp_in x2 512) (h4 : ¬ (σ 3 5) ≤ x2 → WP g mX2_merges 0 [(0, .ref (pw_ad g 3)), (1, .int x1), (2, .int (σ 6 (x2).toNatClampNeg))] [] 0 σ (pw_k g mX2_settle 21 [(0, .ref (pw_ad g 3)), (1, .int x1), (2, .int x2)] [] 0 Q)) : WP g mX2_settle 2 [(0, .ref (pw_ad g 3)), (1, .int x1), (2, .int x2)] [] 0 σ Q := by
  refine wp_iload_n (pc := 2) 2 dX2_settle_2 rfl rfl ?_
  refine wp_aload_n (pc := 3) 0 dX2_settle_3 rfl rfl ?_
  refine wp_getI (pc := 4) 3 dX2_settle_4 rfl fk_X2_27 rfl ?_
  refine wp_icmp_ge (pc := 7) (tgt := 31) dX2_settle_7 (by decide) (fun c7 => ?_) (fun c7 => ?_)
  ·
    refine wp_aload_n (pc := 31) 0 dX2_settle_31 rfl rfl ?_
    refine wp_aload_n (pc := 32) 0 dX2_settle_32 rfl rfl ?_
    refine wp_getR1 (pc := 33) 3 5 (o := 1) dX2_settle_33 rfl fk_X2_15 rfl rfl ?_
    refine wp_iload_n (pc := 36) 1 dX2_settle_36 rfl rfl ?_
    refine wp_iaload (pc := 37) 5 dX2_settle_37 rfl (h1 c7) ?_
    refine wp_aload_n (pc := 38) 0 dX2_settle_38 rfl rfl ?_
    refine wp_iload_n (pc := 39) 1 dX2_settle_39 rfl rfl ?_
    refine wp_callV (pc := 40) (M' := mX2_nameBehind) 3 [.int x1] [.int (σ 5 (x1).toNatClampNeg), .ref (pw_ad g 3)] dX2_settle_40 ck_X2_88 rfl rfl ⟨Nat.le_of_ble_eq_true rfl, Nat.le_of_ble_eq_true rfl⟩ rfl (Nat.le_of_ble_eq_true rfl) (Nat.le_of_ble_eq_true rfl) (Nat.le_of_ble_eq_true rfl) rfl ?_
    exact h2 c7
  ·
    refine wp_aload_n (pc := 10) 0 dX2_settle_10 rfl rfl ?_
    refine wp_iload_n (pc := 11) 1 dX2_settle_11 rfl rfl ?_
    refine wp_aload_n (pc := 12) 0 dX2_settle_12 rfl rfl ?_
    refine wp_getR1 (pc := 13) 3 6 (o := 2) dX2_settle_13 rfl fk_X2_18 rfl rfl ?_
    refine wp_iload_n (pc := 16) 2 dX2_settle_16 rfl rfl ?_
    refine wp_iaload (pc := 17) 6 dX2_settle_17 rfl (h3 c7) ?_
    refine wp_callV (pc := 18) (M' := mX2_merges) 3 [.int x1, .int (σ 6 (x2).toNatClampNeg)] [] dX2_settle_18 ck_X2_91 rfl rfl ⟨Nat.le_of_ble_eq_true rfl, Nat.le_of_ble_eq_true rfl⟩ rfl (Nat.le_of_ble_eq_true rfl) (Nat.le_of_ble_eq_true rfl) (Nat.le_of_ble_eq_true rfl) rfl ?_
    exact h4 c7
set_option maxRecDepth 20000 in
theorem bX2_settle_43 {g : pw_G} {σ : pw_Mem} {Q : pw_R → Prop} {s0 s9 x1 x2 : Int32} (h1 : WP g mX2_redden 0 [(0, .ref (pw_ad g 3)), (1, .int s0), (2, .int s9)] [] 0 σ (pw_k g mX2_settle 46 [(0, .ref (pw_ad g 3)), (1, .int x1), (2, .int x2)] [] 0 Q)) : WP g mX2_settle 43 [(0, .ref (pw_ad g 3)), (1, .int x1), (2, .int x2)] [.int s9, .int s0, .ref (pw_ad g 3)] 0 σ Q := by
  refine wp_callV (pc := 43) (M' := mX2_redden) 3 [.int s0, .int s9] [] dX2_settle_43 ck_X2_56 rfl rfl ⟨Nat.le_of_ble_eq_true rfl, Nat.le_of_ble_eq_true rfl⟩ rfl (Nat.le_of_ble_eq_true rfl) (Nat.le_of_ble_eq_true rfl) (Nat.le_of_ble_eq_true rfl) rfl ?_
  exact h1
set_option maxRecDepth 20000 in
theorem bX2_settle_21 {g : pw_G} {σ : pw_Mem} {Q : pw_R → Prop} {s9 x1 x2 : Int32} (h1 : s9 = 0 → WP g mX2_settle 2 [(0, .ref (pw_ad g 3)), (1, .int x1), (2, .int (x2 + 1))] [] 0 σ Q) (h2 : ¬ s9 = 0 → Q (.inl none, σ)) : WP g mX2_settle 21 [(0, .ref (pw_ad g 3)), (1, .int x1), (2, .int x2)] [.int s9] 0 σ Q := by
  refine wp_if_eq (pc := 21) (tgt := 25) dX2_settle_21 (by decide) (fun c21 => ?_) (fun c21 => ?_)
  ·
    refine wp_iinc (pc := 25) (v := (x2 + 1)) (lv' := [(0, .ref (pw_ad g 3)), (1, .int x1), (2, .int (x2 + 1))]) 2 dX2_settle_25 rfl rfl (by decide) rfl ?_
    refine wp_goto (pc := 28) (tgt := 2) dX2_settle_28 (by decide) ?_
    exact h1 c21
  ·
    exact wp_return (pc := 24) dX2_settle_24 rfl (Nat.le_of_ble_eq_true rfl) (h2 c21)
set_option maxRecDepth 20000 in
theorem bX2_settle_46 {g : pw_G} {σ : pw_Mem} {Q : pw_R → Prop} {x1 x2 : Int32} (h1 : Q (.inl none, σ)) : WP g mX2_settle 46 [(0, .ref (pw_ad g 3)), (1, .int x1), (2, .int x2)] [] 0 σ Q := by
  exact wp_return (pc := 46) dX2_settle_46 rfl (Nat.le_of_ble_eq_true rfl) (h1)
set_option maxRecDepth 20000 in
theorem bX2_merges_0 {g : pw_G} {σ : pw_Mem} {Q : pw_R → Prop} {x1 x2 : Int32} (h1 : vp_in x1 1024) (h2 : vp_in x1 1024) (h3 : WP g mX2_addPair 0 [(0, .ref (pw_ad g 3)), (1, .int x2), (2, .int (σ 5 (x1).toNatClampNeg))] [] 0 (pw_set (pw_set (pw_set (pw_set σ 3 10 (0 : Int32)) 3 12 (0 : Int32)) 3 8 (0 : Int32)) 5 (x1).toNatClampNeg x2) (pw_k g mX2_merges 35 [(0, .ref (pw_ad g 3)), (1, .int x1), (2, .int x2), (3, .int (σ 5 (x1).toNatClampNeg))] [] 0 Q)) : WP g mX2_merges 0 [(0, .ref (pw_ad g 3)), (1, .int x1), (2, .int x2)] [] 0 σ Q := by
  refine wp_aload_n (pc := 0) 0 dX2_merges_0 rfl rfl ?_
  refine wp_getR1 (pc := 1) 3 5 (o := 1) dX2_merges_1 rfl fk_X2_15 rfl rfl ?_
  refine wp_iload_n (pc := 4) 1 dX2_merges_4 rfl rfl ?_
  refine wp_iaload (pc := 5) 5 dX2_merges_5 rfl (h1) ?_
  refine wp_istore_n (pc := 6) (lv' := [(0, .ref (pw_ad g 3)), (1, .int x1), (2, .int x2), (3, .int (σ 5 (x1).toNatClampNeg))]) dX2_merges_6 rfl (by decide) rfl ?_
  refine wp_aload_n (pc := 7) 0 dX2_merges_7 rfl rfl ?_
  refine wp_iconst (pc := 8) (v := (0 : Int32)) dX2_merges_8 (by decide) ?_
  refine wp_putI (pc := 9) 3 dX2_merges_9 rfl pk_X2_43 rfl ?_
  refine wp_aload_n (pc := 12) 0 dX2_merges_12 rfl rfl ?_
  refine wp_iconst (pc := 13) (v := (0 : Int32)) dX2_merges_13 (by decide) ?_
  refine wp_putI (pc := 14) 3 dX2_merges_14 rfl pk_X2_49 rfl ?_
  refine wp_aload_n (pc := 17) 0 dX2_merges_17 rfl rfl ?_
  refine wp_iconst (pc := 18) (v := (0 : Int32)) dX2_merges_18 (by decide) ?_
  refine wp_putI (pc := 19) 3 dX2_merges_19 rfl pk_X2_37 rfl ?_
  refine wp_aload_n (pc := 22) 0 dX2_merges_22 rfl rfl ?_
  refine wp_getR1 (pc := 23) 3 5 (o := 1) dX2_merges_23 rfl fk_X2_15 rfl rfl ?_
  refine wp_iload_n (pc := 26) 1 dX2_merges_26 rfl rfl ?_
  refine wp_iload_n (pc := 27) 2 dX2_merges_27 rfl rfl ?_
  refine wp_iastore (pc := 28) 5 dX2_merges_28 rfl (h2) ?_
  refine wp_aload_n (pc := 29) 0 dX2_merges_29 rfl rfl ?_
  refine wp_iload_n (pc := 30) 2 dX2_merges_30 rfl rfl ?_
  refine wp_iload_n (pc := 31) 3 dX2_merges_31 rfl rfl ?_
  refine wp_callV (pc := 32) (M' := mX2_addPair) 3 [.int x2, .int (σ 5 (x1).toNatClampNeg)] [] dX2_merges_32 ck_X2_95 rfl rfl ⟨Nat.le_of_ble_eq_true rfl, Nat.le_of_ble_eq_true rfl⟩ rfl (Nat.le_of_ble_eq_true rfl) (Nat.le_of_ble_eq_true rfl) (Nat.le_of_ble_eq_true rfl) rfl ?_
  exact h3
set_option maxRecDepth 20000 in
theorem bX2_merges_35 {g : pw_G} {σ : pw_Mem} {Q : pw_R → Prop} {x1 x2 x3 : Int32} (h1 : WP g mX2_merges 38 [(0, .ref (pw_ad g 3)), (1, .int x1), (2, .int x2), (3, .int x3), (4, .int (0 : Int32))] [] 0 σ Q) : WP g mX2_merges 35 [(0, .ref (pw_ad g 3)), (1, .int x1), (2, .int x2), (3, .int x3)] [] 0 σ Q := by
  refine wp_iconst (pc := 35) (v := (0 : Int32)) dX2_merges_35 (by decide) ?_
  refine wp_istore (pc := 36) (lv' := [(0, .ref (pw_ad g 3)), (1, .int x1), (2, .int x2), (3, .int x3), (4, .int (0 : Int32))]) dX2_merges_36 (by decide) rfl ?_
  exact h1
set_option maxRecDepth 20000 in
theorem bX2_merges_38 {g : pw_G} {σ : pw_Mem} {Q : pw_R → Prop} {x1 x2 x3 x4 : Int32} (h1 : (σ 3 8) ≤ x4 → Q (.inl (some (.int (1 : Int32))), σ)) (h2 : ¬ (σ 3 8) ≤ x4 → (512 : Int32) ≤ x4 → Q (.inl (some (.int (1 : Int32))), σ)) (h3 : ¬ (σ 3 8) ≤ x4 → ¬ (512 : Int32) ≤ x4 → vp_in x4 512) (h4 : ¬ (σ 3 8) ≤ x4 → ¬ (512 : Int32) ≤ x4 → vp_in (σ 9 (x4).toNatClampNeg) 512) (h5 : ¬ (σ 3 8) ≤ x4 → ¬ (512 : Int32) ≤ x4 → vp_in x4 512) (h6 : ¬ (σ 3 8) ≤ x4 → ¬ (512 : Int32) ≤ x4 → vp_in (σ 10 (x4).toNatClampNeg) 512) (h7 : ¬ (σ 3 8) ≤ x4 → ¬ (512 : Int32) ≤ x4 → 0 ≤ ((σ 4 ((σ 9 (x4).toNatClampNeg)).toNatClampNeg) * (σ 4 ((σ 10 (x4).toNatClampNeg)).toNatClampNeg)) → vp_in x4 512) (h8 : ¬ (σ 3 8) ≤ x4 → ¬ (512 : Int32) ≤ x4 → 0 ≤ ((σ 4 ((σ 9 (x4).toNatClampNeg)).toNatClampNeg) * (σ 4 ((σ 10 (x4).toNatClampNeg)).toNatClampNeg)) → vp_in x4 512) (h9 : ¬ (σ 3 8) ≤ x4 → ¬ (512 : Int32) ≤ x4 → 0 ≤ ((σ 4 ((σ 9 (x4).toNatClampNeg)).toNatClampNeg) * (σ 4 ((σ 10 (x4).toNatClampNeg)).toNatClampNeg)) → WP g mX2_layOver 0 [(0, .ref (pw_ad g 3)), (1, .int (σ 9 (x4).toNatClampNeg)), (2, .int (σ 10 (x4).toNatClampNeg))] [] 0 σ (pw_k g mX2_merges 114 [(0, .ref (pw_ad g 3)), (1, .int x1), (2, .int x2), (3, .int x3), (4, .int x4)] [] 0 Q)) (h10 : ¬ (σ 3 8) ≤ x4 → ¬ (512 : Int32) ≤ x4 → ¬ 0 ≤ ((σ 4 ((σ 9 (x4).toNatClampNeg)).toNatClampNeg) * (σ 4 ((σ 10 (x4).toNatClampNeg)).toNatClampNeg)) → WP g mX2_takeBack 0 [(0, .ref (pw_ad g 3))] [] 0 σ (pw_k g mX2_merges 87 [(0, .ref (pw_ad g 3)), (1, .int x1), (2, .int x2), (3, .int x3), (4, .int x4)] [] 0 Q)) : WP g mX2_merges 38 [(0, .ref (pw_ad g 3)), (1, .int x1), (2, .int x2), (3, .int x3), (4, .int x4)] [] 0 σ Q := by
  refine wp_iload (pc := 38) 4 dX2_merges_38 rfl ?_
  refine wp_aload_n (pc := 40) 0 dX2_merges_40 rfl rfl ?_
  refine wp_getI (pc := 41) 3 dX2_merges_41 rfl fk_X2_37 rfl ?_
  refine wp_icmp_ge (pc := 44) (tgt := 120) dX2_merges_44 (by decide) (fun c44 => ?_) (fun c44 => ?_)
  ·
    refine wp_iconst (pc := 120) (v := (1 : Int32)) dX2_merges_120 (by decide) ?_
    exact wp_ireturn (pc := 121) dX2_merges_121 rfl (by decide) (Nat.le_of_ble_eq_true rfl) (h1 c44)
  ·
    refine wp_iload (pc := 47) 4 dX2_merges_47 rfl ?_
    refine wp_sipush (pc := 49) (v := (512 : Int32)) dX2_merges_49 (by decide) ?_
    refine wp_icmp_ge (pc := 52) (tgt := 120) dX2_merges_52 (by decide) (fun c52 => ?_) (fun c52 => ?_)
    ·
      refine wp_iconst (pc := 120) (v := (1 : Int32)) dX2_merges_120 (by decide) ?_
      exact wp_ireturn (pc := 121) dX2_merges_121 rfl (by decide) (Nat.le_of_ble_eq_true rfl) (h2 c44 c52)
    ·
      refine wp_aload_n (pc := 55) 0 dX2_merges_55 rfl rfl ?_
      refine wp_getR1 (pc := 56) 3 4 (o := 0) dX2_merges_56 rfl fk_X2_9 rfl rfl ?_
      refine wp_aload_n (pc := 59) 0 dX2_merges_59 rfl rfl ?_
      refine wp_getR1 (pc := 60) 3 9 (o := 5) dX2_merges_60 rfl fk_X2_31 rfl rfl ?_
      refine wp_iload (pc := 63) 4 dX2_merges_63 rfl ?_
      refine wp_iaload (pc := 65) 9 dX2_merges_65 rfl (h3 c44 c52) ?_
      refine wp_iaload (pc := 66) 4 dX2_merges_66 rfl (h4 c44 c52) ?_
      refine wp_aload_n (pc := 67) 0 dX2_merges_67 rfl rfl ?_
      refine wp_getR1 (pc := 68) 3 4 (o := 0) dX2_merges_68 rfl fk_X2_9 rfl rfl ?_
      refine wp_aload_n (pc := 71) 0 dX2_merges_71 rfl rfl ?_
      refine wp_getR1 (pc := 72) 3 10 (o := 6) dX2_merges_72 rfl fk_X2_34 rfl rfl ?_
      refine wp_iload (pc := 75) 4 dX2_merges_75 rfl ?_
      refine wp_iaload (pc := 77) 10 dX2_merges_77 rfl (h5 c44 c52) ?_
      refine wp_iaload (pc := 78) 4 dX2_merges_78 rfl (h6 c44 c52) ?_
      refine wp_imul (pc := 79) dX2_merges_79 ?_
      refine wp_if_ge (pc := 80) (tgt := 96) dX2_merges_80 (by decide) (fun c80 => ?_) (fun c80 => ?_)
      ·
        refine wp_aload_n (pc := 96) 0 dX2_merges_96 rfl rfl ?_
        refine wp_aload_n (pc := 97) 0 dX2_merges_97 rfl rfl ?_
        refine wp_getR1 (pc := 98) 3 9 (o := 5) dX2_merges_98 rfl fk_X2_31 rfl rfl ?_
        refine wp_iload (pc := 101) 4 dX2_merges_101 rfl ?_
        refine wp_iaload (pc := 103) 9 dX2_merges_103 rfl (h7 c44 c52 c80) ?_
        refine wp_aload_n (pc := 104) 0 dX2_merges_104 rfl rfl ?_
        refine wp_getR1 (pc := 105) 3 10 (o := 6) dX2_merges_105 rfl fk_X2_34 rfl rfl ?_
        refine wp_iload (pc := 108) 4 dX2_merges_108 rfl ?_
        refine wp_iaload (pc := 110) 10 dX2_merges_110 rfl (h8 c44 c52 c80) ?_
        refine wp_callV (pc := 111) (M' := mX2_layOver) 3 [.int (σ 9 (x4).toNatClampNeg), .int (σ 10 (x4).toNatClampNeg)] [] dX2_merges_111 ck_X2_101 rfl rfl ⟨Nat.le_of_ble_eq_true rfl, Nat.le_of_ble_eq_true rfl⟩ rfl (Nat.le_of_ble_eq_true rfl) (Nat.le_of_ble_eq_true rfl) (Nat.le_of_ble_eq_true rfl) rfl ?_
        exact h9 c44 c52 c80
      ·
        refine wp_aload_n (pc := 83) 0 dX2_merges_83 rfl rfl ?_
        refine wp_callV (pc := 84) (M' := mX2_takeBack) 3 [] [] dX2_merges_84 ck_X2_98 rfl rfl ⟨Nat.le_of_ble_eq_true rfl, Nat.le_of_ble_eq_true rfl⟩ rfl (Nat.le_of_ble_eq_true rfl) (Nat.le_of_ble_eq_true rfl) (Nat.le_of_ble_eq_true rfl) rfl ?_
        exact h10 c44 c52 c80
set_option maxRecDepth 20000 in
theorem bX2_merges_114 {g : pw_G} {σ : pw_Mem} {Q : pw_R → Prop} {x1 x2 x3 x4 : Int32} (h1 : WP g mX2_merges 38 [(0, .ref (pw_ad g 3)), (1, .int x1), (2, .int x2), (3, .int x3), (4, .int (x4 + 1))] [] 0 σ Q) : WP g mX2_merges 114 [(0, .ref (pw_ad g 3)), (1, .int x1), (2, .int x2), (3, .int x3), (4, .int x4)] [] 0 σ Q := by
  refine wp_iinc (pc := 114) (v := (x4 + 1)) (lv' := [(0, .ref (pw_ad g 3)), (1, .int x1), (2, .int x2), (3, .int x3), (4, .int (x4 + 1))]) 4 dX2_merges_114 rfl rfl (by decide) rfl ?_
  refine wp_goto (pc := 117) (tgt := 38) dX2_merges_117 (by decide) ?_
  exact h1
set_option maxRecDepth 20000 in
theorem bX2_merges_87 {g : pw_G} {σ : pw_Mem} {Q : pw_R → Prop} {x1 x2 x3 x4 : Int32} (h1 : vp_in x1 1024) (h2 : Q (.inl (some (.int (0 : Int32))), (pw_set σ 5 (x1).toNatClampNeg x3))) : WP g mX2_merges 87 [(0, .ref (pw_ad g 3)), (1, .int x1), (2, .int x2), (3, .int x3), (4, .int x4)] [] 0 σ Q := by
  refine wp_aload_n (pc := 87) 0 dX2_merges_87 rfl rfl ?_
  refine wp_getR1 (pc := 88) 3 5 (o := 1) dX2_merges_88 rfl fk_X2_15 rfl rfl ?_
  refine wp_iload_n (pc := 91) 1 dX2_merges_91 rfl rfl ?_
  refine wp_iload_n (pc := 92) 3 dX2_merges_92 rfl rfl ?_
  refine wp_iastore (pc := 93) 5 dX2_merges_93 rfl (h1) ?_
  refine wp_iconst (pc := 94) (v := (0 : Int32)) dX2_merges_94 (by decide) ?_
  exact wp_ireturn (pc := 95) dX2_merges_95 rfl (by decide) (Nat.le_of_ble_eq_true rfl) (h2)
set_option maxRecDepth 20000 in
theorem bX2_addPair_0 {g : pw_G} {σ : pw_Mem} {Q : pw_R → Prop} {x1 x2 : Int32} (h1 : vp_in (σ 3 8) 512) (h2 : vp_in (σ 3 8) 512) (h3 : Q (.inl none, (pw_set (pw_set (pw_set σ 9 ((σ 3 8)).toNatClampNeg x1) 10 ((σ 3 8)).toNatClampNeg x2) 3 8 ((σ 3 8) + (1 : Int32))))) : WP g mX2_addPair 0 [(0, .ref (pw_ad g 3)), (1, .int x1), (2, .int x2)] [] 0 σ Q := by
  refine wp_aload_n (pc := 0) 0 dX2_addPair_0 rfl rfl ?_
  refine wp_getR1 (pc := 1) 3 9 (o := 5) dX2_addPair_1 rfl fk_X2_31 rfl rfl ?_
  refine wp_aload_n (pc := 4) 0 dX2_addPair_4 rfl rfl ?_
  refine wp_getI (pc := 5) 3 dX2_addPair_5 rfl fk_X2_37 rfl ?_
  refine wp_iload_n (pc := 8) 1 dX2_addPair_8 rfl rfl ?_
  refine wp_iastore (pc := 9) 9 dX2_addPair_9 rfl (h1) ?_
  refine wp_aload_n (pc := 10) 0 dX2_addPair_10 rfl rfl ?_
  refine wp_getR1 (pc := 11) 3 10 (o := 6) dX2_addPair_11 rfl fk_X2_34 rfl rfl ?_
  refine wp_aload_n (pc := 14) 0 dX2_addPair_14 rfl rfl ?_
  refine wp_getI (pc := 15) 3 dX2_addPair_15 rfl fk_X2_37 rfl ?_
  refine wp_iload_n (pc := 18) 2 dX2_addPair_18 rfl rfl ?_
  refine wp_iastore (pc := 19) 10 dX2_addPair_19 rfl (h2) ?_
  refine wp_aload_n (pc := 20) 0 dX2_addPair_20 rfl rfl ?_
  refine wp_dup (pc := 21) dX2_addPair_21 rfl ?_
  refine wp_getI (pc := 22) 3 dX2_addPair_22 rfl fk_X2_37 rfl ?_
  refine wp_iconst (pc := 25) (v := (1 : Int32)) dX2_addPair_25 (by decide) ?_
  refine wp_iadd (pc := 26) dX2_addPair_26 ?_
  refine wp_putI (pc := 27) 3 dX2_addPair_27 rfl pk_X2_37 rfl ?_
  exact wp_return (pc := 30) dX2_addPair_30 rfl (Nat.le_of_ble_eq_true rfl) (h3)
set_option maxRecDepth 20000 in
theorem bX2_layOver_0 {g : pw_G} {σ : pw_Mem} {Q : pw_R → Prop} {x1 x2 : Int32} (h1 : vp_in x1 512) (h2 : ¬ (σ 4 (x1).toNatClampNeg) = 0 → WP g mX2_layOver 52 [(0, .ref (pw_ad g 3)), (1, .int x1), (2, .int x2), (3, .int (0 : Int32))] [] 0 σ Q) (h3 : (σ 4 (x1).toNatClampNeg) = 0 → vp_in x2 512) (h4 : (σ 4 (x1).toNatClampNeg) = 0 → (σ 4 (x2).toNatClampNeg) = 0 → WP g mX2_layOver 52 [(0, .ref (pw_ad g 3)), (1, .int x1), (2, .int x2), (3, .int (0 : Int32))] [] 0 σ Q) (h5 : (σ 4 (x1).toNatClampNeg) = 0 → ¬ (σ 4 (x2).toNatClampNeg) = 0 → vp_in x2 512) (h6 : (σ 4 (x1).toNatClampNeg) = 0 → ¬ (σ 4 (x2).toNatClampNeg) = 0 → vp_in x1 512) (h7 : (σ 4 (x1).toNatClampNeg) = 0 → ¬ (σ 4 (x2).toNatClampNeg) = 0 → vp_in (σ 3 10) 512) (h8 : (σ 4 (x1).toNatClampNeg) = 0 → ¬ (σ 4 (x2).toNatClampNeg) = 0 → WP g mX2_layOver 52 [(0, .ref (pw_ad g 3)), (1, .int x1), (2, .int x2), (3, .int (0 : Int32))] [] 0 (pw_set (pw_set (pw_set σ 4 (x1).toNatClampNeg (σ 4 (x2).toNatClampNeg)) 11 ((σ 3 10)).toNatClampNeg x1) 3 10 ((σ 3 10) + (1 : Int32))) Q) : WP g mX2_layOver 0 [(0, .ref (pw_ad g 3)), (1, .int x1), (2, .int x2)] [] 0 σ Q := by
  refine wp_aload_n (pc := 0) 0 dX2_layOver_0 rfl rfl ?_
  refine wp_getR1 (pc := 1) 3 4 (o := 0) dX2_layOver_1 rfl fk_X2_9 rfl rfl ?_
  refine wp_iload_n (pc := 4) 1 dX2_layOver_4 rfl rfl ?_
  refine wp_iaload (pc := 5) 4 dX2_layOver_5 rfl (h1) ?_
  refine wp_if_ne (pc := 6) (tgt := 50) dX2_layOver_6 (by decide) (fun c6 => ?_) (fun c6 => ?_)
  ·
    refine wp_iconst (pc := 50) (v := (0 : Int32)) dX2_layOver_50 (by decide) ?_
    refine wp_istore_n (pc := 51) (lv' := [(0, .ref (pw_ad g 3)), (1, .int x1), (2, .int x2), (3, .int (0 : Int32))]) dX2_layOver_51 rfl (by decide) rfl ?_
    exact h2 c6
  ·
    refine wp_aload_n (pc := 9) 0 dX2_layOver_9 rfl rfl ?_
    refine wp_getR1 (pc := 10) 3 4 (o := 0) dX2_layOver_10 rfl fk_X2_9 rfl rfl ?_
    refine wp_iload_n (pc := 13) 2 dX2_layOver_13 rfl rfl ?_
    refine wp_iaload (pc := 14) 4 dX2_layOver_14 rfl (h3 c6) ?_
    refine wp_if_eq (pc := 15) (tgt := 50) dX2_layOver_15 (by decide) (fun c15 => ?_) (fun c15 => ?_)
    ·
      refine wp_iconst (pc := 50) (v := (0 : Int32)) dX2_layOver_50 (by decide) ?_
      refine wp_istore_n (pc := 51) (lv' := [(0, .ref (pw_ad g 3)), (1, .int x1), (2, .int x2), (3, .int (0 : Int32))]) dX2_layOver_51 rfl (by decide) rfl ?_
      exact h4 c6 c15
    ·
      refine wp_aload_n (pc := 18) 0 dX2_layOver_18 rfl rfl ?_
      refine wp_getR1 (pc := 19) 3 4 (o := 0) dX2_layOver_19 rfl fk_X2_9 rfl rfl ?_
      refine wp_iload_n (pc := 22) 1 dX2_layOver_22 rfl rfl ?_
      refine wp_aload_n (pc := 23) 0 dX2_layOver_23 rfl rfl ?_
      refine wp_getR1 (pc := 24) 3 4 (o := 0) dX2_layOver_24 rfl fk_X2_9 rfl rfl ?_
      refine wp_iload_n (pc := 27) 2 dX2_layOver_27 rfl rfl ?_
      refine wp_iaload (pc := 28) 4 dX2_layOver_28 rfl (h5 c6 c15) ?_
      refine wp_iastore (pc := 29) 4 dX2_layOver_29 rfl (h6 c6 c15) ?_
      refine wp_aload_n (pc := 30) 0 dX2_layOver_30 rfl rfl ?_
      refine wp_getR1 (pc := 31) 3 11 (o := 7) dX2_layOver_31 rfl fk_X2_40 rfl rfl ?_
      refine wp_aload_n (pc := 34) 0 dX2_layOver_34 rfl rfl ?_
      refine wp_getI (pc := 35) 3 dX2_layOver_35 rfl fk_X2_43 rfl ?_
      refine wp_iload_n (pc := 38) 1 dX2_layOver_38 rfl rfl ?_
      refine wp_iastore (pc := 39) 11 dX2_layOver_39 rfl (h7 c6 c15) ?_
      refine wp_aload_n (pc := 40) 0 dX2_layOver_40 rfl rfl ?_
      refine wp_dup (pc := 41) dX2_layOver_41 rfl ?_
      refine wp_getI (pc := 42) 3 dX2_layOver_42 rfl fk_X2_43 rfl ?_
      refine wp_iconst (pc := 45) (v := (1 : Int32)) dX2_layOver_45 (by decide) ?_
      refine wp_iadd (pc := 46) dX2_layOver_46 ?_
      refine wp_putI (pc := 47) 3 dX2_layOver_47 rfl pk_X2_43 rfl ?_
      refine wp_iconst (pc := 50) (v := (0 : Int32)) dX2_layOver_50 (by decide) ?_
      refine wp_istore_n (pc := 51) (lv' := [(0, .ref (pw_ad g 3)), (1, .int x1), (2, .int x2), (3, .int (0 : Int32))]) dX2_layOver_51 rfl (by decide) rfl ?_
      exact h8 c6 c15
set_option maxRecDepth 20000 in
theorem bX2_layOver_52 {g : pw_G} {σ : pw_Mem} {Q : pw_R → Prop} {x1 x2 x3 : Int32} (h1 : (2 : Int32) ≤ x3 → Q (.inl none, σ)) (h2 : ¬ (2 : Int32) ≤ x3 → vp_in (((2 : Int32) * x2) + x3) 1024) (h3 : ¬ (2 : Int32) ≤ x3 → WP g mX2_layArrowOver 0 [(0, .ref (pw_ad g 3)), (1, .int (((2 : Int32) * x1) + x3)), (2, .int (σ 5 ((((2 : Int32) * x2) + x3)).toNatClampNeg))] [] 0 σ (pw_k g mX2_layOver 76 [(0, .ref (pw_ad g 3)), (1, .int x1), (2, .int x2), (3, .int x3)] [] 0 Q)) : WP g mX2_layOver 52 [(0, .ref (pw_ad g 3)), (1, .int x1), (2, .int x2), (3, .int x3)] [] 0 σ Q := by
  refine wp_iload_n (pc := 52) 3 dX2_layOver_52 rfl rfl ?_
  refine wp_iconst (pc := 53) (v := (2 : Int32)) dX2_layOver_53 (by decide) ?_
  refine wp_icmp_ge (pc := 54) (tgt := 82) dX2_layOver_54 (by decide) (fun c54 => ?_) (fun c54 => ?_)
  ·
    exact wp_return (pc := 82) dX2_layOver_82 rfl (Nat.le_of_ble_eq_true rfl) (h1 c54)
  ·
    refine wp_aload_n (pc := 57) 0 dX2_layOver_57 rfl rfl ?_
    refine wp_iconst (pc := 58) (v := (2 : Int32)) dX2_layOver_58 (by decide) ?_
    refine wp_iload_n (pc := 59) 1 dX2_layOver_59 rfl rfl ?_
    refine wp_imul (pc := 60) dX2_layOver_60 ?_
    refine wp_iload_n (pc := 61) 3 dX2_layOver_61 rfl rfl ?_
    refine wp_iadd (pc := 62) dX2_layOver_62 ?_
    refine wp_aload_n (pc := 63) 0 dX2_layOver_63 rfl rfl ?_
    refine wp_getR1 (pc := 64) 3 5 (o := 1) dX2_layOver_64 rfl fk_X2_15 rfl rfl ?_
    refine wp_iconst (pc := 67) (v := (2 : Int32)) dX2_layOver_67 (by decide) ?_
    refine wp_iload_n (pc := 68) 2 dX2_layOver_68 rfl rfl ?_
    refine wp_imul (pc := 69) dX2_layOver_69 ?_
    refine wp_iload_n (pc := 70) 3 dX2_layOver_70 rfl rfl ?_
    refine wp_iadd (pc := 71) dX2_layOver_71 ?_
    refine wp_iaload (pc := 72) 5 dX2_layOver_72 rfl (h2 c54) ?_
    refine wp_callV (pc := 73) (M' := mX2_layArrowOver) 3 [.int (((2 : Int32) * x1) + x3), .int (σ 5 ((((2 : Int32) * x2) + x3)).toNatClampNeg)] [] dX2_layOver_73 ck_X2_104 rfl rfl ⟨Nat.le_of_ble_eq_true rfl, Nat.le_of_ble_eq_true rfl⟩ rfl (Nat.le_of_ble_eq_true rfl) (Nat.le_of_ble_eq_true rfl) (Nat.le_of_ble_eq_true rfl) rfl ?_
    exact h3 c54
set_option maxRecDepth 20000 in
theorem bX2_layOver_76 {g : pw_G} {σ : pw_Mem} {Q : pw_R → Prop} {x1 x2 x3 : Int32} (h1 : WP g mX2_layOver 52 [(0, .ref (pw_ad g 3)), (1, .int x1), (2, .int x2), (3, .int (x3 + 1))] [] 0 σ Q) : WP g mX2_layOver 76 [(0, .ref (pw_ad g 3)), (1, .int x1), (2, .int x2), (3, .int x3)] [] 0 σ Q := by
  refine wp_iinc (pc := 76) (v := (x3 + 1)) (lv' := [(0, .ref (pw_ad g 3)), (1, .int x1), (2, .int x2), (3, .int (x3 + 1))]) 3 dX2_layOver_76 rfl rfl (by decide) rfl ?_
  refine wp_goto (pc := 79) (tgt := 52) dX2_layOver_79 (by decide) ?_
  exact h1
set_option maxRecDepth 20000 in
theorem bX2_layArrowOver_0 {g : pw_G} {σ : pw_Mem} {Q : pw_R → Prop} {x1 x2 : Int32} (h1 : ¬ x2 = 0 → vp_in x1 1024) (h2 : ¬ x2 = 0 → (σ 5 (x1).toNatClampNeg) = 0 → vp_in x1 1024) (h3 : ¬ x2 = 0 → (σ 5 (x1).toNatClampNeg) = 0 → vp_in (σ 3 12) 512) (h4 : ¬ x2 = 0 → (σ 5 (x1).toNatClampNeg) = 0 → Q (.inl none, (pw_set (pw_set (pw_set σ 5 (x1).toNatClampNeg x2) 12 ((σ 3 12)).toNatClampNeg x1) 3 12 ((σ 3 12) + (1 : Int32))))) (h5 : ¬ x2 = 0 → ¬ (σ 5 (x1).toNatClampNeg) = 0 → vp_in x1 1024) (h6 : ¬ x2 = 0 → ¬ (σ 5 (x1).toNatClampNeg) = 0 → WP g mX2_addPair 0 [(0, .ref (pw_ad g 3)), (1, .int (σ 5 (x1).toNatClampNeg)), (2, .int x2)] [] 0 σ (pw_k g mX2_layArrowOver 25 [(0, .ref (pw_ad g 3)), (1, .int x1), (2, .int x2)] [] 0 Q)) (h7 : x2 = 0 → Q (.inl none, σ)) : WP g mX2_layArrowOver 0 [(0, .ref (pw_ad g 3)), (1, .int x1), (2, .int x2)] [] 0 σ Q := by
  refine wp_iload_n (pc := 0) 2 dX2_layArrowOver_0 rfl rfl ?_
  refine wp_if_ne (pc := 1) (tgt := 5) dX2_layArrowOver_1 (by decide) (fun c1 => ?_) (fun c1 => ?_)
  ·
    refine wp_aload_n (pc := 5) 0 dX2_layArrowOver_5 rfl rfl ?_
    refine wp_getR1 (pc := 6) 3 5 (o := 1) dX2_layArrowOver_6 rfl fk_X2_15 rfl rfl ?_
    refine wp_iload_n (pc := 9) 1 dX2_layArrowOver_9 rfl rfl ?_
    refine wp_iaload (pc := 10) 5 dX2_layArrowOver_10 rfl (h1 c1) ?_
    refine wp_if_eq (pc := 11) (tgt := 26) dX2_layArrowOver_11 (by decide) (fun c11 => ?_) (fun c11 => ?_)
    ·
      refine wp_aload_n (pc := 26) 0 dX2_layArrowOver_26 rfl rfl ?_
      refine wp_getR1 (pc := 27) 3 5 (o := 1) dX2_layArrowOver_27 rfl fk_X2_15 rfl rfl ?_
      refine wp_iload_n (pc := 30) 1 dX2_layArrowOver_30 rfl rfl ?_
      refine wp_iload_n (pc := 31) 2 dX2_layArrowOver_31 rfl rfl ?_
      refine wp_iastore (pc := 32) 5 dX2_layArrowOver_32 rfl (h2 c1 c11) ?_
      refine wp_aload_n (pc := 33) 0 dX2_layArrowOver_33 rfl rfl ?_
      refine wp_getR1 (pc := 34) 3 12 (o := 8) dX2_layArrowOver_34 rfl fk_X2_46 rfl rfl ?_
      refine wp_aload_n (pc := 37) 0 dX2_layArrowOver_37 rfl rfl ?_
      refine wp_getI (pc := 38) 3 dX2_layArrowOver_38 rfl fk_X2_49 rfl ?_
      refine wp_iload_n (pc := 41) 1 dX2_layArrowOver_41 rfl rfl ?_
      refine wp_iastore (pc := 42) 12 dX2_layArrowOver_42 rfl (h3 c1 c11) ?_
      refine wp_aload_n (pc := 43) 0 dX2_layArrowOver_43 rfl rfl ?_
      refine wp_dup (pc := 44) dX2_layArrowOver_44 rfl ?_
      refine wp_getI (pc := 45) 3 dX2_layArrowOver_45 rfl fk_X2_49 rfl ?_
      refine wp_iconst (pc := 48) (v := (1 : Int32)) dX2_layArrowOver_48 (by decide) ?_
      refine wp_iadd (pc := 49) dX2_layArrowOver_49 ?_
      refine wp_putI (pc := 50) 3 dX2_layArrowOver_50 rfl pk_X2_49 rfl ?_
      exact wp_return (pc := 53) dX2_layArrowOver_53 rfl (Nat.le_of_ble_eq_true rfl) (h4 c1 c11)
    ·
      refine wp_aload_n (pc := 14) 0 dX2_layArrowOver_14 rfl rfl ?_
      refine wp_aload_n (pc := 15) 0 dX2_layArrowOver_15 rfl rfl ?_
      refine wp_getR1 (pc := 16) 3 5 (o := 1) dX2_layArrowOver_16 rfl fk_X2_15 rfl rfl ?_
      refine wp_iload_n (pc := 19) 1 dX2_layArrowOver_19 rfl rfl ?_
      refine wp_iaload (pc := 20) 5 dX2_layArrowOver_20 rfl (h5 c1 c11) ?_
      refine wp_iload_n (pc := 21) 2 dX2_layArrowOver_21 rfl rfl ?_
      refine wp_callV (pc := 22) (M' := mX2_addPair) 3 [.int (σ 5 (x1).toNatClampNeg), .int x2] [] dX2_layArrowOver_22 ck_X2_95 rfl rfl ⟨Nat.le_of_ble_eq_true rfl, Nat.le_of_ble_eq_true rfl⟩ rfl (Nat.le_of_ble_eq_true rfl) (Nat.le_of_ble_eq_true rfl) (Nat.le_of_ble_eq_true rfl) rfl ?_
      exact h6 c1 c11
  ·
    exact wp_return (pc := 4) dX2_layArrowOver_4 rfl (Nat.le_of_ble_eq_true rfl) (h7 c1)
set_option maxRecDepth 20000 in
theorem bX2_layArrowOver_25 {g : pw_G} {σ : pw_Mem} {Q : pw_R → Prop} {x1 x2 : Int32} (h1 : Q (.inl none, σ)) : WP g mX2_layArrowOver 25 [(0, .ref (pw_ad g 3)), (1, .int x1), (2, .int x2)] [] 0 σ Q := by
  exact wp_return (pc := 25) dX2_layArrowOver_25 rfl (Nat.le_of_ble_eq_true rfl) (h1)
set_option maxRecDepth 20000 in
theorem bX2_takeBack_0 {g : pw_G} {σ : pw_Mem} {Q : pw_R → Prop} (h1 : WP g mX2_takeBack 2 [(0, .ref (pw_ad g 3)), (1, .int (0 : Int32))] [] 0 σ Q) : WP g mX2_takeBack 0 [(0, .ref (pw_ad g 3))] [] 0 σ Q := by
  refine wp_iconst (pc := 0) (v := (0 : Int32)) dX2_takeBack_0 (by decide) ?_
  refine wp_istore_n (pc := 1) (lv' := [(0, .ref (pw_ad g 3)), (1, .int (0 : Int32))]) dX2_takeBack_1 rfl (by decide) rfl ?_
  exact h1
set_option maxRecDepth 20000 in
theorem bX2_takeBack_2 {g : pw_G} {σ : pw_Mem} {Q : pw_R → Prop} {x1 : Int32} (h1 : (σ 3 10) ≤ x1 → WP g mX2_takeBack 30 [(0, .ref (pw_ad g 3)), (1, .int (0 : Int32))] [] 0 σ Q) (h2 : ¬ (σ 3 10) ≤ x1 → vp_in x1 512) (h3 : ¬ (σ 3 10) ≤ x1 → vp_in (σ 11 (x1).toNatClampNeg) 512) (h4 : ¬ (σ 3 10) ≤ x1 → WP g mX2_takeBack 2 [(0, .ref (pw_ad g 3)), (1, .int (x1 + 1))] [] 0 (pw_set σ 4 ((σ 11 (x1).toNatClampNeg)).toNatClampNeg (0 : Int32)) Q) : WP g mX2_takeBack 2 [(0, .ref (pw_ad g 3)), (1, .int x1)] [] 0 σ Q := by
  refine wp_iload_n (pc := 2) 1 dX2_takeBack_2 rfl rfl ?_
  refine wp_aload_n (pc := 3) 0 dX2_takeBack_3 rfl rfl ?_
  refine wp_getI (pc := 4) 3 dX2_takeBack_4 rfl fk_X2_43 rfl ?_
  refine wp_icmp_ge (pc := 7) (tgt := 28) dX2_takeBack_7 (by decide) (fun c7 => ?_) (fun c7 => ?_)
  ·
    refine wp_iconst (pc := 28) (v := (0 : Int32)) dX2_takeBack_28 (by decide) ?_
    refine wp_istore_n (pc := 29) (lv' := [(0, .ref (pw_ad g 3)), (1, .int (0 : Int32))]) dX2_takeBack_29 rfl (by decide) rfl ?_
    exact h1 c7
  ·
    refine wp_aload_n (pc := 10) 0 dX2_takeBack_10 rfl rfl ?_
    refine wp_getR1 (pc := 11) 3 4 (o := 0) dX2_takeBack_11 rfl fk_X2_9 rfl rfl ?_
    refine wp_aload_n (pc := 14) 0 dX2_takeBack_14 rfl rfl ?_
    refine wp_getR1 (pc := 15) 3 11 (o := 7) dX2_takeBack_15 rfl fk_X2_40 rfl rfl ?_
    refine wp_iload_n (pc := 18) 1 dX2_takeBack_18 rfl rfl ?_
    refine wp_iaload (pc := 19) 11 dX2_takeBack_19 rfl (h2 c7) ?_
    refine wp_iconst (pc := 20) (v := (0 : Int32)) dX2_takeBack_20 (by decide) ?_
    refine wp_iastore (pc := 21) 4 dX2_takeBack_21 rfl (h3 c7) ?_
    refine wp_iinc (pc := 22) (v := (x1 + 1)) (lv' := [(0, .ref (pw_ad g 3)), (1, .int (x1 + 1))]) 1 dX2_takeBack_22 rfl rfl (by decide) rfl ?_
    refine wp_goto (pc := 25) (tgt := 2) dX2_takeBack_25 (by decide) ?_
    exact h4 c7
set_option maxRecDepth 20000 in
theorem bX2_takeBack_30 {g : pw_G} {σ : pw_Mem} {Q : pw_R → Prop} {x1 : Int32} (h1 : (σ 3 12) ≤ x1 → Q (.inl none, σ)) (h2 : ¬ (σ 3 12) ≤ x1 → vp_in x1 512) (h3 : ¬ (σ 3 12) ≤ x1 → vp_in (σ 12 (x1).toNatClampNeg) 1024) (h4 : ¬ (σ 3 12) ≤ x1 → WP g mX2_takeBack 30 [(0, .ref (pw_ad g 3)), (1, .int (x1 + 1))] [] 0 (pw_set σ 5 ((σ 12 (x1).toNatClampNeg)).toNatClampNeg (0 : Int32)) Q) : WP g mX2_takeBack 30 [(0, .ref (pw_ad g 3)), (1, .int x1)] [] 0 σ Q := by
  refine wp_iload_n (pc := 30) 1 dX2_takeBack_30 rfl rfl ?_
  refine wp_aload_n (pc := 31) 0 dX2_takeBack_31 rfl rfl ?_
  refine wp_getI (pc := 32) 3 dX2_takeBack_32 rfl fk_X2_49 rfl ?_
  refine wp_icmp_ge (pc := 35) (tgt := 56) dX2_takeBack_35 (by decide) (fun c35 => ?_) (fun c35 => ?_)
  ·
    exact wp_return (pc := 56) dX2_takeBack_56 rfl (Nat.le_of_ble_eq_true rfl) (h1 c35)
  ·
    refine wp_aload_n (pc := 38) 0 dX2_takeBack_38 rfl rfl ?_
    refine wp_getR1 (pc := 39) 3 5 (o := 1) dX2_takeBack_39 rfl fk_X2_15 rfl rfl ?_
    refine wp_aload_n (pc := 42) 0 dX2_takeBack_42 rfl rfl ?_
    refine wp_getR1 (pc := 43) 3 12 (o := 8) dX2_takeBack_43 rfl fk_X2_46 rfl rfl ?_
    refine wp_iload_n (pc := 46) 1 dX2_takeBack_46 rfl rfl ?_
    refine wp_iaload (pc := 47) 12 dX2_takeBack_47 rfl (h2 c35) ?_
    refine wp_iconst (pc := 48) (v := (0 : Int32)) dX2_takeBack_48 (by decide) ?_
    refine wp_iastore (pc := 49) 5 dX2_takeBack_49 rfl (h3 c35) ?_
    refine wp_iinc (pc := 50) (v := (x1 + 1)) (lv' := [(0, .ref (pw_ad g 3)), (1, .int (x1 + 1))]) 1 dX2_takeBack_50 rfl rfl (by decide) rfl ?_
    refine wp_goto (pc := 53) (tgt := 30) dX2_takeBack_53 (by decide) ?_
    exact h4 c35
set_option maxRecDepth 20000 in
theorem bX2_writeTo_0 {g : pw_G} {σ : pw_Mem} {Q : pw_R → Prop} (h1 : WP g mX0_resize 0 [(0, .ref (pw_ad g 13)), (1, .int (σ 3 5))] [] 0 σ (pw_k g mX2_writeTo 8 [(0, .ref (pw_ad g 3)), (1, .ref (pw_ad g 13))] [] 0 Q)) : WP g mX2_writeTo 0 [(0, .ref (pw_ad g 3)), (1, .ref (pw_ad g 13))] [] 0 σ Q := by
  refine wp_aload_n (pc := 0) 1 dX2_writeTo_0 rfl rfl ?_
  refine wp_aload_n (pc := 1) 0 dX2_writeTo_1 rfl rfl ?_
  refine wp_getI (pc := 2) 3 dX2_writeTo_2 rfl fk_X2_27 rfl ?_
  refine wp_callV (pc := 5) (M' := mX0_resize) 13 [.int (σ 3 5)] [] dX2_writeTo_5 ck_X2_107 rfl rfl ⟨Nat.le_of_ble_eq_true rfl, Nat.le_of_ble_eq_true rfl⟩ rfl (Nat.le_of_ble_eq_true rfl) (Nat.le_of_ble_eq_true rfl) (Nat.le_of_ble_eq_true rfl) rfl ?_
  exact h1
set_option maxRecDepth 20000 in
theorem bX2_writeTo_8 {g : pw_G} {σ : pw_Mem} {Q : pw_R → Prop} (h1 : WP g mX2_writeTo 10 [(0, .ref (pw_ad g 3)), (1, .ref (pw_ad g 13)), (2, .int (0 : Int32))] [] 0 σ Q) : WP g mX2_writeTo 8 [(0, .ref (pw_ad g 3)), (1, .ref (pw_ad g 13))] [] 0 σ Q := by
  refine wp_iconst (pc := 8) (v := (0 : Int32)) dX2_writeTo_8 (by decide) ?_
  refine wp_istore_n (pc := 9) (lv' := [(0, .ref (pw_ad g 3)), (1, .ref (pw_ad g 13)), (2, .int (0 : Int32))]) dX2_writeTo_9 rfl (by decide) rfl ?_
  exact h1
set_option maxRecDepth 20000 in
theorem bX2_writeTo_10 {g : pw_G} {σ : pw_Mem} {Q : pw_R → Prop} {x2 : Int32} (h1 : (σ 3 5) ≤ x2 → Q (.inl none, σ)) (h2 : ¬ (σ 3 5) ≤ x2 → vp_in x2 512) (h3 : ¬ (σ 3 5) ≤ x2 → vp_in (σ 6 (x2).toNatClampNeg) 512) (h4 : ¬ (σ 3 5) ≤ x2 → vp_in ((2 : Int32) * (σ 6 (x2).toNatClampNeg)) 1024) (h5 : ¬ (σ 3 5) ≤ x2 → vp_in (σ 5 (((2 : Int32) * (σ 6 (x2).toNatClampNeg))).toNatClampNeg) 512) (h6 : ¬ (σ 3 5) ≤ x2 → vp_in (((2 : Int32) * (σ 6 (x2).toNatClampNeg)) + (1 : Int32)) 1024) (h7 : ¬ (σ 3 5) ≤ x2 → vp_in (σ 5 ((((2 : Int32) * (σ 6 (x2).toNatClampNeg)) + (1 : Int32))).toNatClampNeg) 512) (h8 : ¬ (σ 3 5) ≤ x2 → WP g mX0_put 0 [(0, .ref (pw_ad g 13)), (1, .int x2), (2, .int (σ 4 ((σ 6 (x2).toNatClampNeg)).toNatClampNeg)), (3, .int (σ 8 ((σ 5 (((2 : Int32) * (σ 6 (x2).toNatClampNeg))).toNatClampNeg)).toNatClampNeg)), (4, .int (σ 8 ((σ 5 ((((2 : Int32) * (σ 6 (x2).toNatClampNeg)) + (1 : Int32))).toNatClampNeg)).toNatClampNeg))] [] 0 σ (pw_k g mX2_writeTo 64 [(0, .ref (pw_ad g 3)), (1, .ref (pw_ad g 13)), (2, .int x2), (3, .int (σ 6 (x2).toNatClampNeg))] [] 0 Q)) : WP g mX2_writeTo 10 [(0, .ref (pw_ad g 3)), (1, .ref (pw_ad g 13)), (2, .int x2)] [] 0 σ Q := by
  refine wp_iload_n (pc := 10) 2 dX2_writeTo_10 rfl rfl ?_
  refine wp_aload_n (pc := 11) 0 dX2_writeTo_11 rfl rfl ?_
  refine wp_getI (pc := 12) 3 dX2_writeTo_12 rfl fk_X2_27 rfl ?_
  refine wp_icmp_ge (pc := 15) (tgt := 70) dX2_writeTo_15 (by decide) (fun c15 => ?_) (fun c15 => ?_)
  ·
    exact wp_return (pc := 70) dX2_writeTo_70 rfl (Nat.le_of_ble_eq_true rfl) (h1 c15)
  ·
    refine wp_aload_n (pc := 18) 0 dX2_writeTo_18 rfl rfl ?_
    refine wp_getR1 (pc := 19) 3 6 (o := 2) dX2_writeTo_19 rfl fk_X2_18 rfl rfl ?_
    refine wp_iload_n (pc := 22) 2 dX2_writeTo_22 rfl rfl ?_
    refine wp_iaload (pc := 23) 6 dX2_writeTo_23 rfl (h2 c15) ?_
    refine wp_istore_n (pc := 24) (lv' := [(0, .ref (pw_ad g 3)), (1, .ref (pw_ad g 13)), (2, .int x2), (3, .int (σ 6 (x2).toNatClampNeg))]) dX2_writeTo_24 rfl (by decide) rfl ?_
    refine wp_aload_n (pc := 25) 1 dX2_writeTo_25 rfl rfl ?_
    refine wp_iload_n (pc := 26) 2 dX2_writeTo_26 rfl rfl ?_
    refine wp_aload_n (pc := 27) 0 dX2_writeTo_27 rfl rfl ?_
    refine wp_getR1 (pc := 28) 3 4 (o := 0) dX2_writeTo_28 rfl fk_X2_9 rfl rfl ?_
    refine wp_iload_n (pc := 31) 3 dX2_writeTo_31 rfl rfl ?_
    refine wp_iaload (pc := 32) 4 dX2_writeTo_32 rfl (h3 c15) ?_
    refine wp_aload_n (pc := 33) 0 dX2_writeTo_33 rfl rfl ?_
    refine wp_getR1 (pc := 34) 3 8 (o := 4) dX2_writeTo_34 rfl fk_X2_24 rfl rfl ?_
    refine wp_aload_n (pc := 37) 0 dX2_writeTo_37 rfl rfl ?_
    refine wp_getR1 (pc := 38) 3 5 (o := 1) dX2_writeTo_38 rfl fk_X2_15 rfl rfl ?_
    refine wp_iconst (pc := 41) (v := (2 : Int32)) dX2_writeTo_41 (by decide) ?_
    refine wp_iload_n (pc := 42) 3 dX2_writeTo_42 rfl rfl ?_
    refine wp_imul (pc := 43) dX2_writeTo_43 ?_
    refine wp_iaload (pc := 44) 5 dX2_writeTo_44 rfl (h4 c15) ?_
    refine wp_iaload (pc := 45) 8 dX2_writeTo_45 rfl (h5 c15) ?_
    refine wp_aload_n (pc := 46) 0 dX2_writeTo_46 rfl rfl ?_
    refine wp_getR1 (pc := 47) 3 8 (o := 4) dX2_writeTo_47 rfl fk_X2_24 rfl rfl ?_
    refine wp_aload_n (pc := 50) 0 dX2_writeTo_50 rfl rfl ?_
    refine wp_getR1 (pc := 51) 3 5 (o := 1) dX2_writeTo_51 rfl fk_X2_15 rfl rfl ?_
    refine wp_iconst (pc := 54) (v := (2 : Int32)) dX2_writeTo_54 (by decide) ?_
    refine wp_iload_n (pc := 55) 3 dX2_writeTo_55 rfl rfl ?_
    refine wp_imul (pc := 56) dX2_writeTo_56 ?_
    refine wp_iconst (pc := 57) (v := (1 : Int32)) dX2_writeTo_57 (by decide) ?_
    refine wp_iadd (pc := 58) dX2_writeTo_58 ?_
    refine wp_iaload (pc := 59) 5 dX2_writeTo_59 rfl (h6 c15) ?_
    refine wp_iaload (pc := 60) 8 dX2_writeTo_60 rfl (h7 c15) ?_
    refine wp_callV (pc := 61) (M' := mX0_put) 13 [.int x2, .int (σ 4 ((σ 6 (x2).toNatClampNeg)).toNatClampNeg), .int (σ 8 ((σ 5 (((2 : Int32) * (σ 6 (x2).toNatClampNeg))).toNatClampNeg)).toNatClampNeg), .int (σ 8 ((σ 5 ((((2 : Int32) * (σ 6 (x2).toNatClampNeg)) + (1 : Int32))).toNatClampNeg)).toNatClampNeg)] [] dX2_writeTo_61 ck_X2_112 rfl rfl ⟨Nat.le_of_ble_eq_true rfl, Nat.le_of_ble_eq_true rfl⟩ rfl (Nat.le_of_ble_eq_true rfl) (Nat.le_of_ble_eq_true rfl) (Nat.le_of_ble_eq_true rfl) rfl ?_
    exact h8 c15
set_option maxRecDepth 20000 in
theorem bX2_writeTo_64 {g : pw_G} {σ : pw_Mem} {Q : pw_R → Prop} {x2 x3 : Int32} (h1 : WP g mX2_writeTo 10 [(0, .ref (pw_ad g 3)), (1, .ref (pw_ad g 13)), (2, .int (x2 + 1)), (3, .int x3)] [] 0 σ Q) : WP g mX2_writeTo 64 [(0, .ref (pw_ad g 3)), (1, .ref (pw_ad g 13)), (2, .int x2), (3, .int x3)] [] 0 σ Q := by
  refine wp_iinc (pc := 64) (v := (x2 + 1)) (lv' := [(0, .ref (pw_ad g 3)), (1, .ref (pw_ad g 13)), (2, .int (x2 + 1)), (3, .int x3)]) 2 dX2_writeTo_64 rfl rfl (by decide) rfl ?_
  refine wp_goto (pc := 67) (tgt := 10) dX2_writeTo_67 (by decide) ?_
  exact h1
