section PWG
variable {g : pw_G} {M : pw_M} {pc : Nat} {lv : List (Nat × Value)} {st : List Value} {u : Nat} {σ : pw_Mem} {Q : pw_R → Prop}
theorem wp_getR1 (k0 k1 : Nat) {idx f ci o : Nat} (d : decode (pw_cc M) pc = .ok (.getfield idx, 3)) (hk : pw_kd k0 = ci) (hf : pw_fk (pw_y M).cls idx ci f) (ho : (pw_off ci)[f]? = some (o + 1)) (h1 : k0 + (o + 1) = k1) (k : WP g M (pc + 3) lv (.ref (pw_ad g k1) :: st) u σ Q) : WP g M pc lv (.ref (pw_ad g k0) :: st) u σ Q := by
  subst h1
  exact wp_getR k0 d hk hf ho k
def pw_bool (x : Int32) : Prop := x = 0 ∨ x = 1
theorem pw_nb {x : Int32} (h : pw_bool x) : narrow .boolean (.int x) = .int x := by
  rcases h with rfl | rfl <;> decide
end PWG

set_option maxRecDepth 20000 in
theorem bX0_count_0 {g : pw_G} {σ : pw_Mem} {Q : pw_R → Prop} {k : Nat} (hk0 : pw_kd k = 0) (hk1 : pw_kd (k + 1) = 6) (hk2 : pw_kd (k + 2) = 6) (h1 : Q (.inl (some (.int (σ k 2))), σ)) : WP g mX0_count 0 [(0, .ref (pw_ad g k))] [] 0 σ Q := by
  refine wp_aload_n (pc := 0) 0 dX0_count_0 rfl rfl ?_
  refine wp_getI (pc := 1) k dX0_count_1 hk0 fk_X0_9 rfl ?_
  exact wp_ireturn (pc := 4) dX0_count_4 rfl rfl (Nat.le_of_ble_eq_true rfl) (h1)
set_option maxRecDepth 20000 in
theorem bX0_resize_0 {g : pw_G} {σ : pw_Mem} {Q : pw_R → Prop} {x1 : Int32} {k : Nat} (hk0 : pw_kd k = 0) (hk1 : pw_kd (k + 1) = 6) (hk2 : pw_kd (k + 2) = 6) (h1 : Q (.inl none, (pw_set σ k 2 x1))) : WP g mX0_resize 0 [(0, .ref (pw_ad g k)), (1, .int x1)] [] 0 σ Q := by
  refine wp_aload_n (pc := 0) 0 dX0_resize_0 rfl rfl ?_
  refine wp_iload_n (pc := 1) 1 dX0_resize_1 rfl rfl ?_
  refine wp_putI (pc := 2) k dX0_resize_2 hk0 pk_X0_9 rfl ?_
  exact wp_return (pc := 5) dX0_resize_5 rfl (Nat.le_of_ble_eq_true rfl) (h1)
set_option maxRecDepth 20000 in
theorem bX0_has_0 {g : pw_G} {σ : pw_Mem} {Q : pw_R → Prop} {x1 : Int32} {k : Nat} (hk0 : pw_kd k = 0) (hk1 : pw_kd (k + 1) = 6) (hk2 : pw_kd (k + 2) = 6) (h1 : x1 < 0 → Q (.inl (some (.int (0 : Int32))), σ)) (h2 : ¬ x1 < 0 → (σ k 2) ≤ x1 → Q (.inl (some (.int (0 : Int32))), σ)) (h3 : ¬ x1 < 0 → ¬ (σ k 2) ≤ x1 → Q (.inl (some (.int (1 : Int32))), σ)) : WP g mX0_has 0 [(0, .ref (pw_ad g k)), (1, .int x1)] [] 0 σ Q := by
  refine wp_iload_n (pc := 0) 1 dX0_has_0 rfl rfl ?_
  refine wp_if_lt (pc := 1) (tgt := 16) dX0_has_1 (by decide) (fun c1 => ?_) (fun c1 => ?_)
  ·
    refine wp_iconst (pc := 16) (v := (0 : Int32)) dX0_has_16 (by decide) ?_
    exact wp_ireturn (pc := 17) dX0_has_17 rfl (by decide) (Nat.le_of_ble_eq_true rfl) (h1 c1)
  ·
    refine wp_iload_n (pc := 4) 1 dX0_has_4 rfl rfl ?_
    refine wp_aload_n (pc := 5) 0 dX0_has_5 rfl rfl ?_
    refine wp_getI (pc := 6) k dX0_has_6 hk0 fk_X0_9 rfl ?_
    refine wp_icmp_ge (pc := 9) (tgt := 16) dX0_has_9 (by decide) (fun c9 => ?_) (fun c9 => ?_)
    ·
      refine wp_iconst (pc := 16) (v := (0 : Int32)) dX0_has_16 (by decide) ?_
      exact wp_ireturn (pc := 17) dX0_has_17 rfl (by decide) (Nat.le_of_ble_eq_true rfl) (h2 c1 c9)
    ·
      refine wp_iconst (pc := 12) (v := (1 : Int32)) dX0_has_12 (by decide) ?_
      refine wp_goto (pc := 13) (tgt := 17) dX0_has_13 (by decide) ?_
      exact wp_ireturn (pc := 17) dX0_has_17 rfl (by decide) (Nat.le_of_ble_eq_true rfl) (h3 c1 c9)
set_option maxRecDepth 20000 in
theorem bX0_markOf_0 {g : pw_G} {σ : pw_Mem} {Q : pw_R → Prop} {x1 : Int32} {k : Nat} (hk0 : pw_kd k = 0) (hk1 : pw_kd (k + 1) = 6) (hk2 : pw_kd (k + 2) = 6) (h1 : vp_in x1 (pw_ln (k + 1))) (h2 : Q (.inl (some (.int (σ (k + 1) (x1).toNatClampNeg))), σ)) : WP g mX0_markOf 0 [(0, .ref (pw_ad g k)), (1, .int x1)] [] 0 σ Q := by
  refine wp_aload_n (pc := 0) 0 dX0_markOf_0 rfl rfl ?_
  refine wp_getR1 (pc := 1) k (k + 1) (o := 0) dX0_markOf_1 hk0 fk_X0_15 rfl rfl ?_
  refine wp_iload_n (pc := 4) 1 dX0_markOf_4 rfl rfl ?_
  refine wp_iaload (pc := 5) (k + 1) dX0_markOf_5 hk1 (h1) ?_
  exact wp_ireturn (pc := 6) dX0_markOf_6 rfl rfl (Nat.le_of_ble_eq_true rfl) (h2)
set_option maxRecDepth 20000 in
theorem bX0_arrow_0 {g : pw_G} {σ : pw_Mem} {Q : pw_R → Prop} {x1 x2 : Int32} {k : Nat} (hk0 : pw_kd k = 0) (hk1 : pw_kd (k + 1) = 6) (hk2 : pw_kd (k + 2) = 6) (h1 : vp_in (((2 : Int32) * x1) + x2) (pw_ln (k + 2))) (h2 : Q (.inl (some (.int (σ (k + 2) ((((2 : Int32) * x1) + x2)).toNatClampNeg))), σ)) : WP g mX0_arrow 0 [(0, .ref (pw_ad g k)), (1, .int x1), (2, .int x2)] [] 0 σ Q := by
  refine wp_aload_n (pc := 0) 0 dX0_arrow_0 rfl rfl ?_
  refine wp_getR1 (pc := 1) k (k + 2) (o := 1) dX0_arrow_1 hk0 fk_X0_19 rfl rfl ?_
  refine wp_iconst (pc := 4) (v := (2 : Int32)) dX0_arrow_4 (by decide) ?_
  refine wp_iload_n (pc := 5) 1 dX0_arrow_5 rfl rfl ?_
  refine wp_imul (pc := 6) dX0_arrow_6 ?_
  refine wp_iload_n (pc := 7) 2 dX0_arrow_7 rfl rfl ?_
  refine wp_iadd (pc := 8) dX0_arrow_8 ?_
  refine wp_iaload (pc := 9) (k + 2) dX0_arrow_9 hk2 (h1) ?_
  exact wp_ireturn (pc := 10) dX0_arrow_10 rfl rfl (Nat.le_of_ble_eq_true rfl) (h2)
set_option maxRecDepth 20000 in
theorem bX0_put_0 {g : pw_G} {σ : pw_Mem} {Q : pw_R → Prop} {x1 x2 x3 x4 : Int32} {k : Nat} (hk0 : pw_kd k = 0) (hk1 : pw_kd (k + 1) = 6) (hk2 : pw_kd (k + 2) = 6) (h1 : vp_in x1 (pw_ln (k + 1))) (h2 : vp_in ((2 : Int32) * x1) (pw_ln (k + 2))) (h3 : vp_in (((2 : Int32) * x1) + (1 : Int32)) (pw_ln (k + 2))) (h4 : Q (.inl none, (pw_set (pw_set (pw_set σ (k + 1) (x1).toNatClampNeg x2) (k + 2) (((2 : Int32) * x1)).toNatClampNeg x3) (k + 2) ((((2 : Int32) * x1) + (1 : Int32))).toNatClampNeg x4))) : WP g mX0_put 0 [(0, .ref (pw_ad g k)), (1, .int x1), (2, .int x2), (3, .int x3), (4, .int x4)] [] 0 σ Q := by
  refine wp_aload_n (pc := 0) 0 dX0_put_0 rfl rfl ?_
  refine wp_getR1 (pc := 1) k (k + 1) (o := 0) dX0_put_1 hk0 fk_X0_15 rfl rfl ?_
  refine wp_iload_n (pc := 4) 1 dX0_put_4 rfl rfl ?_
  refine wp_iload_n (pc := 5) 2 dX0_put_5 rfl rfl ?_
  refine wp_iastore (pc := 6) (k + 1) dX0_put_6 hk1 (h1) ?_
  refine wp_aload_n (pc := 7) 0 dX0_put_7 rfl rfl ?_
  refine wp_getR1 (pc := 8) k (k + 2) (o := 1) dX0_put_8 hk0 fk_X0_19 rfl rfl ?_
  refine wp_iconst (pc := 11) (v := (2 : Int32)) dX0_put_11 (by decide) ?_
  refine wp_iload_n (pc := 12) 1 dX0_put_12 rfl rfl ?_
  refine wp_imul (pc := 13) dX0_put_13 ?_
  refine wp_iload_n (pc := 14) 3 dX0_put_14 rfl rfl ?_
  refine wp_iastore (pc := 15) (k + 2) dX0_put_15 hk2 (h2) ?_
  refine wp_aload_n (pc := 16) 0 dX0_put_16 rfl rfl ?_
  refine wp_getR1 (pc := 17) k (k + 2) (o := 1) dX0_put_17 hk0 fk_X0_19 rfl rfl ?_
  refine wp_iconst (pc := 20) (v := (2 : Int32)) dX0_put_20 (by decide) ?_
  refine wp_iload_n (pc := 21) 1 dX0_put_21 rfl rfl ?_
  refine wp_imul (pc := 22) dX0_put_22 ?_
  refine wp_iconst (pc := 23) (v := (1 : Int32)) dX0_put_23 (by decide) ?_
  refine wp_iadd (pc := 24) dX0_put_24 ?_
  refine wp_iload (pc := 25) 4 dX0_put_25 rfl ?_
  refine wp_iastore (pc := 27) (k + 2) dX0_put_27 hk2 (h3) ?_
  exact wp_return (pc := 28) dX0_put_28 rfl (Nat.le_of_ble_eq_true rfl) (h4)
set_option maxRecDepth 20000 in
theorem bX0_walk_0 {g : pw_G} {σ : pw_Mem} {Q : pw_R → Prop} {x1 x2 : Int32} {k : Nat} (hk0 : pw_kd k = 0) (hk1 : pw_kd (k + 1) = 6) (hk2 : pw_kd (k + 2) = 6) (h1 : WP g mX0_walk 3 [(0, .ref (pw_ad g k)), (1, .int x1), (2, .int x2), (3, .int x1)] [.int x2] 0 σ Q) : WP g mX0_walk 0 [(0, .ref (pw_ad g k)), (1, .int x1), (2, .int x2)] [] 0 σ Q := by
  refine wp_iload_n (pc := 0) 1 dX0_walk_0 rfl rfl ?_
  refine wp_istore_n (pc := 1) (lv' := [(0, .ref (pw_ad g k)), (1, .int x1), (2, .int x2), (3, .int x1)]) dX0_walk_1 rfl (by decide) rfl ?_
  refine wp_iload_n (pc := 2) 2 dX0_walk_2 rfl rfl ?_
  exact h1
set_option maxRecDepth 20000 in
theorem bX0_walk_6 {g : pw_G} {σ : pw_Mem} {Q : pw_R → Prop} {s0 x1 x2 x3 : Int32} {k : Nat} (hk0 : pw_kd k = 0) (hk1 : pw_kd (k + 1) = 6) (hk2 : pw_kd (k + 2) = 6) (h1 : WP g mX0_walk 10 [(0, .ref (pw_ad g k)), (1, .int x1), (2, .int x2), (3, .int x3), (4, .int (s0 - (1 : Int32)))] [] 0 σ Q) : WP g mX0_walk 6 [(0, .ref (pw_ad g k)), (1, .int x1), (2, .int x2), (3, .int x3)] [.int s0] 0 σ Q := by
  refine wp_iconst (pc := 6) (v := (1 : Int32)) dX0_walk_6 (by decide) ?_
  refine wp_isub (pc := 7) dX0_walk_7 ?_
  refine wp_istore (pc := 8) (lv' := [(0, .ref (pw_ad g k)), (1, .int x1), (2, .int x2), (3, .int x3), (4, .int (s0 - (1 : Int32)))]) dX0_walk_8 (by decide) rfl ?_
  exact h1
set_option maxRecDepth 20000 in
theorem bX0_walk_10 {g : pw_G} {σ : pw_Mem} {Q : pw_R → Prop} {x1 x2 x3 x4 : Int32} {k : Nat} (hk0 : pw_kd k = 0) (hk1 : pw_kd (k + 1) = 6) (hk2 : pw_kd (k + 2) = 6) (h1 : x4 < 0 → Q (.inl (some (.int x3)), σ)) (h2 : ¬ x4 < 0 → x3 = (-1 : Int32) → Q (.inl (some (.int x3)), σ)) (h3 : ¬ x4 < 0 → ¬ x3 = (-1 : Int32) → WP g mX0_arrow 0 [(0, .ref (pw_ad g k)), (1, .int x3), (2, .int ((x2 >>> (x4 &&& 31)) &&& (1 : Int32)))] [] 0 σ (pw_k g mX0_walk 31 [(0, .ref (pw_ad g k)), (1, .int x1), (2, .int x2), (3, .int x3), (4, .int x4)] [] 0 Q)) : WP g mX0_walk 10 [(0, .ref (pw_ad g k)), (1, .int x1), (2, .int x2), (3, .int x3), (4, .int x4)] [] 0 σ Q := by
  refine wp_iload (pc := 10) 4 dX0_walk_10 rfl ?_
  refine wp_if_lt (pc := 12) (tgt := 38) dX0_walk_12 (by decide) (fun c12 => ?_) (fun c12 => ?_)
  ·
    refine wp_iload_n (pc := 38) 3 dX0_walk_38 rfl rfl ?_
    exact wp_ireturn (pc := 39) dX0_walk_39 rfl rfl (Nat.le_of_ble_eq_true rfl) (h1 c12)
  ·
    refine wp_iload_n (pc := 15) 3 dX0_walk_15 rfl rfl ?_
    refine wp_iconst (pc := 16) (v := (-1 : Int32)) dX0_walk_16 (by decide) ?_
    refine wp_icmp_eq (pc := 17) (tgt := 38) dX0_walk_17 (by decide) (fun c17 => ?_) (fun c17 => ?_)
    ·
      refine wp_iload_n (pc := 38) 3 dX0_walk_38 rfl rfl ?_
      exact wp_ireturn (pc := 39) dX0_walk_39 rfl rfl (Nat.le_of_ble_eq_true rfl) (h2 c12 c17)
    ·
      refine wp_aload_n (pc := 20) 0 dX0_walk_20 rfl rfl ?_
      refine wp_iload_n (pc := 21) 3 dX0_walk_21 rfl rfl ?_
      refine wp_iload_n (pc := 22) 2 dX0_walk_22 rfl rfl ?_
      refine wp_iload (pc := 23) 4 dX0_walk_23 rfl ?_
      refine wp_ishr (pc := 25) dX0_walk_25 ?_
      refine wp_iconst (pc := 26) (v := (1 : Int32)) dX0_walk_26 (by decide) ?_
      refine wp_iand (pc := 27) dX0_walk_27 ?_
      refine wp_callV (pc := 28) (M' := mX0_arrow) k [.int x3, .int ((x2 >>> (x4 &&& 31)) &&& (1 : Int32))] [] dX0_walk_28 ck_X0_26 hk0 rfl ⟨Nat.le_of_ble_eq_true rfl, Nat.le_of_ble_eq_true rfl⟩ rfl (Nat.le_of_ble_eq_true rfl) (Nat.le_of_ble_eq_true rfl) (Nat.le_of_ble_eq_true rfl) rfl ?_
      exact h3 c12 c17
set_option maxRecDepth 20000 in
theorem bX0_walk_31 {g : pw_G} {σ : pw_Mem} {Q : pw_R → Prop} {s9 x1 x2 x3 x4 : Int32} {k : Nat} (hk0 : pw_kd k = 0) (hk1 : pw_kd (k + 1) = 6) (hk2 : pw_kd (k + 2) = 6) (h1 : WP g mX0_walk 10 [(0, .ref (pw_ad g k)), (1, .int x1), (2, .int x2), (3, .int s9), (4, .int (x4 + (-1)))] [] 0 σ Q) : WP g mX0_walk 31 [(0, .ref (pw_ad g k)), (1, .int x1), (2, .int x2), (3, .int x3), (4, .int x4)] [.int s9] 0 σ Q := by
  refine wp_istore_n (pc := 31) (lv' := [(0, .ref (pw_ad g k)), (1, .int x1), (2, .int x2), (3, .int s9), (4, .int x4)]) dX0_walk_31 rfl (by decide) rfl ?_
  refine wp_iinc (pc := 32) (v := (x4 + (-1))) (lv' := [(0, .ref (pw_ad g k)), (1, .int x1), (2, .int x2), (3, .int s9), (4, .int (x4 + (-1)))]) 4 dX0_walk_32 rfl rfl (by decide) rfl ?_
  refine wp_goto (pc := 35) (tgt := 10) dX0_walk_35 (by decide) ?_
  exact h1
set_option maxRecDepth 20000 in
theorem bX0_isLike_0 {g : pw_G} {σ : pw_Mem} {Q : pw_R → Prop} (h1 : (σ 13 2) = (σ 20 2) → WP g mX0_isLike 15 [(0, .ref (pw_ad g 13)), (1, .ref (pw_ad g 20)), (2, .int (0 : Int32))] [] 0 σ Q) (h2 : ¬ (σ 13 2) = (σ 20 2) → Q (.inl (some (.int (0 : Int32))), σ)) : WP g mX0_isLike 0 [(0, .ref (pw_ad g 13)), (1, .ref (pw_ad g 20))] [] 0 σ Q := by
  refine wp_aload_n (pc := 0) 0 dX0_isLike_0 rfl rfl ?_
  refine wp_getI (pc := 1) 13 dX0_isLike_1 rfl fk_X0_9 rfl ?_
  refine wp_aload_n (pc := 4) 1 dX0_isLike_4 rfl rfl ?_
  refine wp_getI (pc := 5) 20 dX0_isLike_5 rfl fk_X0_9 rfl ?_
  refine wp_icmp_eq (pc := 8) (tgt := 13) dX0_isLike_8 (by decide) (fun c8 => ?_) (fun c8 => ?_)
  ·
    refine wp_iconst (pc := 13) (v := (0 : Int32)) dX0_isLike_13 (by decide) ?_
    refine wp_istore_n (pc := 14) (lv' := [(0, .ref (pw_ad g 13)), (1, .ref (pw_ad g 20)), (2, .int (0 : Int32))]) dX0_isLike_14 rfl (by decide) rfl ?_
    exact h1 c8
  ·
    refine wp_iconst (pc := 11) (v := (0 : Int32)) dX0_isLike_11 (by decide) ?_
    exact wp_ireturn (pc := 12) dX0_isLike_12 rfl (by decide) (Nat.le_of_ble_eq_true rfl) (h2 c8)
set_option maxRecDepth 20000 in
theorem bX0_isLike_15 {g : pw_G} {σ : pw_Mem} {Q : pw_R → Prop} {x2 : Int32} (h1 : (σ 13 2) ≤ x2 → Q (.inl (some (.int (1 : Int32))), σ)) (h2 : ¬ (σ 13 2) ≤ x2 → vp_in x2 512) (h3 : ¬ (σ 13 2) ≤ x2 → vp_in x2 5) (h4 : ¬ (σ 13 2) ≤ x2 → ¬ (σ 14 (x2).toNatClampNeg) = (σ 21 (x2).toNatClampNeg) → Q (.inl (some (.int (0 : Int32))), σ)) (h5 : ¬ (σ 13 2) ≤ x2 → (σ 14 (x2).toNatClampNeg) = (σ 21 (x2).toNatClampNeg) → WP g mX0_arrow 0 [(0, .ref (pw_ad g 13)), (1, .int x2), (2, .int (0 : Int32))] [] 0 σ (pw_k g mX0_isLike 44 [(0, .ref (pw_ad g 13)), (1, .ref (pw_ad g 20)), (2, .int x2)] [] 0 Q)) : WP g mX0_isLike 15 [(0, .ref (pw_ad g 13)), (1, .ref (pw_ad g 20)), (2, .int x2)] [] 0 σ Q := by
  refine wp_iload_n (pc := 15) 2 dX0_isLike_15 rfl rfl ?_
  refine wp_aload_n (pc := 16) 0 dX0_isLike_16 rfl rfl ?_
  refine wp_getI (pc := 17) 13 dX0_isLike_17 rfl fk_X0_9 rfl ?_
  refine wp_icmp_ge (pc := 20) (tgt := 76) dX0_isLike_20 (by decide) (fun c20 => ?_) (fun c20 => ?_)
  ·
    refine wp_iconst (pc := 76) (v := (1 : Int32)) dX0_isLike_76 (by decide) ?_
    exact wp_ireturn (pc := 77) dX0_isLike_77 rfl (by decide) (Nat.le_of_ble_eq_true rfl) (h1 c20)
  ·
    refine wp_aload_n (pc := 23) 0 dX0_isLike_23 rfl rfl ?_
    refine wp_getR1 (pc := 24) 13 14 (o := 0) dX0_isLike_24 rfl fk_X0_15 rfl rfl ?_
    refine wp_iload_n (pc := 27) 2 dX0_isLike_27 rfl rfl ?_
    refine wp_iaload (pc := 28) 14 dX0_isLike_28 rfl (h2 c20) ?_
    refine wp_aload_n (pc := 29) 1 dX0_isLike_29 rfl rfl ?_
    refine wp_getR1 (pc := 30) 20 21 (o := 0) dX0_isLike_30 rfl fk_X0_15 rfl rfl ?_
    refine wp_iload_n (pc := 33) 2 dX0_isLike_33 rfl rfl ?_
    refine wp_iaload (pc := 34) 21 dX0_isLike_34 rfl (h3 c20) ?_
    refine wp_icmp_ne (pc := 35) (tgt := 68) dX0_isLike_35 (by decide) (fun c35 => ?_) (fun c35 => ?_)
    ·
      refine wp_iconst (pc := 68) (v := (0 : Int32)) dX0_isLike_68 (by decide) ?_
      exact wp_ireturn (pc := 69) dX0_isLike_69 rfl (by decide) (Nat.le_of_ble_eq_true rfl) (h4 c20 c35)
    ·
      refine wp_aload_n (pc := 38) 0 dX0_isLike_38 rfl rfl ?_
      refine wp_iload_n (pc := 39) 2 dX0_isLike_39 rfl rfl ?_
      refine wp_iconst (pc := 40) (v := (0 : Int32)) dX0_isLike_40 (by decide) ?_
      refine wp_callV (pc := 41) (M' := mX0_arrow) 13 [.int x2, .int (0 : Int32)] [] dX0_isLike_41 ck_X0_26 rfl rfl ⟨Nat.le_of_ble_eq_true rfl, Nat.le_of_ble_eq_true rfl⟩ rfl (Nat.le_of_ble_eq_true rfl) (Nat.le_of_ble_eq_true rfl) (Nat.le_of_ble_eq_true rfl) rfl ?_
      exact h5 c20 c35
set_option maxRecDepth 20000 in
theorem bX0_isLike_44 {g : pw_G} {σ : pw_Mem} {Q : pw_R → Prop} {s9 x2 : Int32} (h1 : WP g mX0_arrow 0 [(0, .ref (pw_ad g 20)), (1, .int x2), (2, .int (0 : Int32))] [] 0 σ (pw_k g mX0_isLike 50 [(0, .ref (pw_ad g 13)), (1, .ref (pw_ad g 20)), (2, .int x2)] [.int s9] 0 Q)) : WP g mX0_isLike 44 [(0, .ref (pw_ad g 13)), (1, .ref (pw_ad g 20)), (2, .int x2)] [.int s9] 0 σ Q := by
  refine wp_aload_n (pc := 44) 1 dX0_isLike_44 rfl rfl ?_
  refine wp_iload_n (pc := 45) 2 dX0_isLike_45 rfl rfl ?_
  refine wp_iconst (pc := 46) (v := (0 : Int32)) dX0_isLike_46 (by decide) ?_
  refine wp_callV (pc := 47) (M' := mX0_arrow) 20 [.int x2, .int (0 : Int32)] [.int s9] dX0_isLike_47 ck_X0_26 rfl rfl ⟨Nat.le_of_ble_eq_true rfl, Nat.le_of_ble_eq_true rfl⟩ rfl (Nat.le_of_ble_eq_true rfl) (Nat.le_of_ble_eq_true rfl) (Nat.le_of_ble_eq_true rfl) rfl ?_
  exact h1
set_option maxRecDepth 20000 in
theorem bX0_isLike_50 {g : pw_G} {σ : pw_Mem} {Q : pw_R → Prop} {s0 s9 x2 : Int32} (h1 : ¬ s0 = s9 → Q (.inl (some (.int (0 : Int32))), σ)) (h2 : s0 = s9 → WP g mX0_arrow 0 [(0, .ref (pw_ad g 13)), (1, .int x2), (2, .int (1 : Int32))] [] 0 σ (pw_k g mX0_isLike 59 [(0, .ref (pw_ad g 13)), (1, .ref (pw_ad g 20)), (2, .int x2)] [] 0 Q)) : WP g mX0_isLike 50 [(0, .ref (pw_ad g 13)), (1, .ref (pw_ad g 20)), (2, .int x2)] [.int s9, .int s0] 0 σ Q := by
  refine wp_icmp_ne (pc := 50) (tgt := 68) dX0_isLike_50 (by decide) (fun c50 => ?_) (fun c50 => ?_)
  ·
    refine wp_iconst (pc := 68) (v := (0 : Int32)) dX0_isLike_68 (by decide) ?_
    exact wp_ireturn (pc := 69) dX0_isLike_69 rfl (by decide) (Nat.le_of_ble_eq_true rfl) (h1 c50)
  ·
    refine wp_aload_n (pc := 53) 0 dX0_isLike_53 rfl rfl ?_
    refine wp_iload_n (pc := 54) 2 dX0_isLike_54 rfl rfl ?_
    refine wp_iconst (pc := 55) (v := (1 : Int32)) dX0_isLike_55 (by decide) ?_
    refine wp_callV (pc := 56) (M' := mX0_arrow) 13 [.int x2, .int (1 : Int32)] [] dX0_isLike_56 ck_X0_26 rfl rfl ⟨Nat.le_of_ble_eq_true rfl, Nat.le_of_ble_eq_true rfl⟩ rfl (Nat.le_of_ble_eq_true rfl) (Nat.le_of_ble_eq_true rfl) (Nat.le_of_ble_eq_true rfl) rfl ?_
    exact h2 c50
set_option maxRecDepth 20000 in
theorem bX0_isLike_59 {g : pw_G} {σ : pw_Mem} {Q : pw_R → Prop} {s9 x2 : Int32} (h1 : WP g mX0_arrow 0 [(0, .ref (pw_ad g 20)), (1, .int x2), (2, .int (1 : Int32))] [] 0 σ (pw_k g mX0_isLike 65 [(0, .ref (pw_ad g 13)), (1, .ref (pw_ad g 20)), (2, .int x2)] [.int s9] 0 Q)) : WP g mX0_isLike 59 [(0, .ref (pw_ad g 13)), (1, .ref (pw_ad g 20)), (2, .int x2)] [.int s9] 0 σ Q := by
  refine wp_aload_n (pc := 59) 1 dX0_isLike_59 rfl rfl ?_
  refine wp_iload_n (pc := 60) 2 dX0_isLike_60 rfl rfl ?_
  refine wp_iconst (pc := 61) (v := (1 : Int32)) dX0_isLike_61 (by decide) ?_
  refine wp_callV (pc := 62) (M' := mX0_arrow) 20 [.int x2, .int (1 : Int32)] [.int s9] dX0_isLike_62 ck_X0_26 rfl rfl ⟨Nat.le_of_ble_eq_true rfl, Nat.le_of_ble_eq_true rfl⟩ rfl (Nat.le_of_ble_eq_true rfl) (Nat.le_of_ble_eq_true rfl) (Nat.le_of_ble_eq_true rfl) rfl ?_
  exact h1
set_option maxRecDepth 20000 in
theorem bX0_isLike_65 {g : pw_G} {σ : pw_Mem} {Q : pw_R → Prop} {s0 s9 x2 : Int32} (h1 : s0 = s9 → WP g mX0_isLike 15 [(0, .ref (pw_ad g 13)), (1, .ref (pw_ad g 20)), (2, .int (x2 + 1))] [] 0 σ Q) (h2 : ¬ s0 = s9 → Q (.inl (some (.int (0 : Int32))), σ)) : WP g mX0_isLike 65 [(0, .ref (pw_ad g 13)), (1, .ref (pw_ad g 20)), (2, .int x2)] [.int s9, .int s0] 0 σ Q := by
  refine wp_icmp_eq (pc := 65) (tgt := 70) dX0_isLike_65 (by decide) (fun c65 => ?_) (fun c65 => ?_)
  ·
    refine wp_iinc (pc := 70) (v := (x2 + 1)) (lv' := [(0, .ref (pw_ad g 13)), (1, .ref (pw_ad g 20)), (2, .int (x2 + 1))]) 2 dX0_isLike_70 rfl rfl (by decide) rfl ?_
    refine wp_goto (pc := 73) (tgt := 15) dX0_isLike_73 (by decide) ?_
    exact h1 c65
  ·
    refine wp_iconst (pc := 68) (v := (0 : Int32)) dX0_isLike_68 (by decide) ?_
    exact wp_ireturn (pc := 69) dX0_isLike_69 rfl (by decide) (Nat.le_of_ble_eq_true rfl) (h2 c65)
set_option maxRecDepth 20000 in
theorem bJ7_fill_53178_0 {g : pw_G} {σ : pw_Mem} {Q : pw_R → Prop} {x1 : Int32} {k : Nat} (hk0 : pw_kd k = 6) (h1 : WP g mJ7_fill_53178 5 [(0, .ref (pw_ad g k)), (1, .int x1), (2, .int (0 : Int32)), (3, .int (Int32.ofNat (pw_ln k)))] [] 0 σ Q) : WP g mJ7_fill_53178 0 [(0, .ref (pw_ad g k)), (1, .int x1)] [] 0 σ Q := by
  refine wp_iconst (pc := 0) (v := (0 : Int32)) dJ7_fill_53178_0 (by decide) ?_
  refine wp_istore_n (pc := 1) (lv' := [(0, .ref (pw_ad g k)), (1, .int x1), (2, .int (0 : Int32))]) dJ7_fill_53178_1 rfl (by decide) rfl ?_
  refine wp_aload_n (pc := 2) 0 dJ7_fill_53178_2 rfl rfl ?_
  refine wp_alen (pc := 3) (v := (Int32.ofNat (pw_ln k))) k dJ7_fill_53178_3 hk0 rfl ?_
  refine wp_istore_n (pc := 4) (lv' := [(0, .ref (pw_ad g k)), (1, .int x1), (2, .int (0 : Int32)), (3, .int (Int32.ofNat (pw_ln k)))]) dJ7_fill_53178_4 rfl (by decide) rfl ?_
  exact h1
set_option maxRecDepth 20000 in
theorem bJ7_fill_53178_5 {g : pw_G} {σ : pw_Mem} {Q : pw_R → Prop} {x1 x2 x3 : Int32} {k : Nat} (hk0 : pw_kd k = 6) (h1 : x3 ≤ x2 → Q (.inl none, σ)) (h2 : ¬ x3 ≤ x2 → vp_in x2 (pw_ln k)) (h3 : ¬ x3 ≤ x2 → WP g mJ7_fill_53178 5 [(0, .ref (pw_ad g k)), (1, .int x1), (2, .int (x2 + 1)), (3, .int x3)] [] 0 (pw_set σ k (x2).toNatClampNeg x1) Q) : WP g mJ7_fill_53178 5 [(0, .ref (pw_ad g k)), (1, .int x1), (2, .int x2), (3, .int x3)] [] 0 σ Q := by
  refine wp_iload_n (pc := 5) 2 dJ7_fill_53178_5 rfl rfl ?_
  refine wp_iload_n (pc := 6) 3 dJ7_fill_53178_6 rfl rfl ?_
  refine wp_icmp_ge (pc := 7) (tgt := 20) dJ7_fill_53178_7 (by decide) (fun c7 => ?_) (fun c7 => ?_)
  ·
    exact wp_return (pc := 20) dJ7_fill_53178_20 rfl (Nat.le_of_ble_eq_true rfl) (h1 c7)
  ·
    refine wp_aload_n (pc := 10) 0 dJ7_fill_53178_10 rfl rfl ?_
    refine wp_iload_n (pc := 11) 2 dJ7_fill_53178_11 rfl rfl ?_
    refine wp_iload_n (pc := 12) 1 dJ7_fill_53178_12 rfl rfl ?_
    refine wp_iastore (pc := 13) k dJ7_fill_53178_13 hk0 (h2 c7) ?_
    refine wp_iinc (pc := 14) (v := (x2 + 1)) (lv' := [(0, .ref (pw_ad g k)), (1, .int x1), (2, .int (x2 + 1)), (3, .int x3)]) 2 dJ7_fill_53178_14 rfl rfl (by decide) rfl ?_
    refine wp_goto (pc := 17) (tgt := 5) dJ7_fill_53178_17 (by decide) ?_
    exact h3 c7
