theorem dJ6_compare_7cf53_0 : decode cJ6_compare_7cf53 0 = .ok (.iload_n 0, 1) := by decide +kernel
theorem dJ6_compare_7cf53_1 : decode cJ6_compare_7cf53 1 = .ok (.iload_n 1, 1) := by decide +kernel
theorem dJ6_compare_7cf53_2 : decode cJ6_compare_7cf53 2 = .ok (.if_icmp .ge 7, 3) := by decide +kernel
theorem dJ6_compare_7cf53_5 : decode cJ6_compare_7cf53 5 = .ok (.iconst (-1), 1) := by decide +kernel
theorem dJ6_compare_7cf53_6 : decode cJ6_compare_7cf53 6 = .ok (.goto 13, 3) := by decide +kernel
theorem dJ6_compare_7cf53_9 : decode cJ6_compare_7cf53 9 = .ok (.iload_n 0, 1) := by decide +kernel
theorem dJ6_compare_7cf53_10 : decode cJ6_compare_7cf53 10 = .ok (.iload_n 1, 1) := by decide +kernel
theorem dJ6_compare_7cf53_11 : decode cJ6_compare_7cf53 11 = .ok (.if_icmp .ne 7, 3) := by decide +kernel
theorem dJ6_compare_7cf53_14 : decode cJ6_compare_7cf53 14 = .ok (.iconst 0, 1) := by decide +kernel
theorem dJ6_compare_7cf53_15 : decode cJ6_compare_7cf53 15 = .ok (.goto 4, 3) := by decide +kernel
theorem dJ6_compare_7cf53_18 : decode cJ6_compare_7cf53 18 = .ok (.iconst 1, 1) := by decide +kernel
theorem dJ6_compare_7cf53_19 : decode cJ6_compare_7cf53 19 = .ok (.ireturn, 1) := by decide +kernel

def fJ6_compare_7cf53 (p0 : Int32) (p1 : Int32) : Option Int32 :=
  (if p1 ≤ p0 then (if p0 = p1 then (some 0) else (some 1)) else (some (-1)))
set_option maxRecDepth 20000 in
set_option maxHeartbeats 4000000 in
theorem aJ6_compare_7cf53  (p0 : Int32) (p1 : Int32)  (σ : qMem) : qAt wC mJ6_compare_7cf53 (ρp σ) 0 [(0, .int p0), (1, .int p1)] [] σ (fJ6_compare_7cf53 p0 p1) := by
  unfold fJ6_compare_7cf53
  refine q_iload_n (i := 0) (x := p0) dJ6_compare_7cf53_0 rfl 0 rfl ?_
  refine q_iload_n (i := 1) (x := p1) dJ6_compare_7cf53_1 rfl 1 rfl ?_
  refine q_icmp_ge (tgt := 9) dJ6_compare_7cf53_2 (by decide) ?_ ?_
  · refine q_iload_n (i := 0) (x := p0) dJ6_compare_7cf53_9 rfl 0 rfl ?_
    refine q_iload_n (i := 1) (x := p1) dJ6_compare_7cf53_10 rfl 1 rfl ?_
    refine q_icmp_ne (tgt := 18) dJ6_compare_7cf53_11 (by decide) ?_ ?_
    · refine q_iconst (v := 1) dJ6_compare_7cf53_18 (by decide) ?_
      exact q_ireti (y := 1) dJ6_compare_7cf53_19 rfl rfl
    refine q_iconst (v := 0) dJ6_compare_7cf53_14 (by decide) ?_
    refine q_goto (tgt := 19) dJ6_compare_7cf53_15 (by decide) ?_
    exact q_ireti (y := 0) dJ6_compare_7cf53_19 rfl rfl
  refine q_iconst (v := (-1)) dJ6_compare_7cf53_5 (by decide) ?_
  refine q_goto (tgt := 19) dJ6_compare_7cf53_6 (by decide) ?_
  exact q_ireti (y := (-1)) dJ6_compare_7cf53_19 rfl rfl
theorem kJ6_compare_7cf53  (p0 : Int32) (p1 : Int32)  (σ : qMem) : qMc wC mJ6_compare_7cf53 (ρp σ) [.int p0, .int p1] σ (fJ6_compare_7cf53 p0 p1) := qMc_of (moJ6_compare_7cf53) (Nat.le_of_ble_eq_true rfl) (aJ6_compare_7cf53 p0 p1  σ)

theorem dJ6_bitCount_0f7a4_0 : decode cJ6_bitCount_0f7a4 0 = .ok (.iload_n 0, 1) := by decide +kernel
theorem dJ6_bitCount_0f7a4_1 : decode cJ6_bitCount_0f7a4 1 = .ok (.iload_n 0, 1) := by decide +kernel
theorem dJ6_bitCount_0f7a4_2 : decode cJ6_bitCount_0f7a4 2 = .ok (.iconst 1, 1) := by decide +kernel
theorem dJ6_bitCount_0f7a4_3 : decode cJ6_bitCount_0f7a4 3 = .ok (.iushr, 1) := by decide +kernel
theorem dJ6_bitCount_0f7a4_4 : decode cJ6_bitCount_0f7a4 4 = .ok (.ldc_w 265, 3) := by decide +kernel
theorem dJ6_bitCount_0f7a4_7 : decode cJ6_bitCount_0f7a4 7 = .ok (.iand, 1) := by decide +kernel
theorem dJ6_bitCount_0f7a4_8 : decode cJ6_bitCount_0f7a4 8 = .ok (.isub, 1) := by decide +kernel
theorem dJ6_bitCount_0f7a4_9 : decode cJ6_bitCount_0f7a4 9 = .ok (.istore_n 0, 1) := by decide +kernel
theorem dJ6_bitCount_0f7a4_10 : decode cJ6_bitCount_0f7a4 10 = .ok (.iload_n 0, 1) := by decide +kernel
theorem dJ6_bitCount_0f7a4_11 : decode cJ6_bitCount_0f7a4 11 = .ok (.ldc_w 266, 3) := by decide +kernel
theorem dJ6_bitCount_0f7a4_14 : decode cJ6_bitCount_0f7a4 14 = .ok (.iand, 1) := by decide +kernel
theorem dJ6_bitCount_0f7a4_15 : decode cJ6_bitCount_0f7a4 15 = .ok (.iload_n 0, 1) := by decide +kernel
theorem dJ6_bitCount_0f7a4_16 : decode cJ6_bitCount_0f7a4 16 = .ok (.iconst 2, 1) := by decide +kernel
theorem dJ6_bitCount_0f7a4_17 : decode cJ6_bitCount_0f7a4 17 = .ok (.iushr, 1) := by decide +kernel
theorem dJ6_bitCount_0f7a4_18 : decode cJ6_bitCount_0f7a4 18 = .ok (.ldc_w 266, 3) := by decide +kernel
theorem dJ6_bitCount_0f7a4_21 : decode cJ6_bitCount_0f7a4 21 = .ok (.iand, 1) := by decide +kernel
theorem dJ6_bitCount_0f7a4_22 : decode cJ6_bitCount_0f7a4 22 = .ok (.iadd, 1) := by decide +kernel
theorem dJ6_bitCount_0f7a4_23 : decode cJ6_bitCount_0f7a4 23 = .ok (.istore_n 0, 1) := by decide +kernel
theorem dJ6_bitCount_0f7a4_24 : decode cJ6_bitCount_0f7a4 24 = .ok (.iload_n 0, 1) := by decide +kernel
theorem dJ6_bitCount_0f7a4_25 : decode cJ6_bitCount_0f7a4 25 = .ok (.iload_n 0, 1) := by decide +kernel
theorem dJ6_bitCount_0f7a4_26 : decode cJ6_bitCount_0f7a4 26 = .ok (.iconst 4, 1) := by decide +kernel
theorem dJ6_bitCount_0f7a4_27 : decode cJ6_bitCount_0f7a4 27 = .ok (.iushr, 1) := by decide +kernel
theorem dJ6_bitCount_0f7a4_28 : decode cJ6_bitCount_0f7a4 28 = .ok (.iadd, 1) := by decide +kernel
theorem dJ6_bitCount_0f7a4_29 : decode cJ6_bitCount_0f7a4 29 = .ok (.ldc_w 267, 3) := by decide +kernel
theorem dJ6_bitCount_0f7a4_32 : decode cJ6_bitCount_0f7a4 32 = .ok (.iand, 1) := by decide +kernel
theorem dJ6_bitCount_0f7a4_33 : decode cJ6_bitCount_0f7a4 33 = .ok (.istore_n 0, 1) := by decide +kernel
theorem dJ6_bitCount_0f7a4_34 : decode cJ6_bitCount_0f7a4 34 = .ok (.iload_n 0, 1) := by decide +kernel
theorem dJ6_bitCount_0f7a4_35 : decode cJ6_bitCount_0f7a4 35 = .ok (.iload_n 0, 1) := by decide +kernel
theorem dJ6_bitCount_0f7a4_36 : decode cJ6_bitCount_0f7a4 36 = .ok (.bipush 8, 2) := by decide +kernel
theorem dJ6_bitCount_0f7a4_38 : decode cJ6_bitCount_0f7a4 38 = .ok (.iushr, 1) := by decide +kernel
theorem dJ6_bitCount_0f7a4_39 : decode cJ6_bitCount_0f7a4 39 = .ok (.iadd, 1) := by decide +kernel
theorem dJ6_bitCount_0f7a4_40 : decode cJ6_bitCount_0f7a4 40 = .ok (.istore_n 0, 1) := by decide +kernel
theorem dJ6_bitCount_0f7a4_41 : decode cJ6_bitCount_0f7a4 41 = .ok (.iload_n 0, 1) := by decide +kernel
theorem dJ6_bitCount_0f7a4_42 : decode cJ6_bitCount_0f7a4 42 = .ok (.iload_n 0, 1) := by decide +kernel
theorem dJ6_bitCount_0f7a4_43 : decode cJ6_bitCount_0f7a4 43 = .ok (.bipush 16, 2) := by decide +kernel
theorem dJ6_bitCount_0f7a4_45 : decode cJ6_bitCount_0f7a4 45 = .ok (.iushr, 1) := by decide +kernel
theorem dJ6_bitCount_0f7a4_46 : decode cJ6_bitCount_0f7a4 46 = .ok (.iadd, 1) := by decide +kernel
theorem dJ6_bitCount_0f7a4_47 : decode cJ6_bitCount_0f7a4 47 = .ok (.istore_n 0, 1) := by decide +kernel
theorem dJ6_bitCount_0f7a4_48 : decode cJ6_bitCount_0f7a4 48 = .ok (.iload_n 0, 1) := by decide +kernel
theorem dJ6_bitCount_0f7a4_49 : decode cJ6_bitCount_0f7a4 49 = .ok (.bipush 63, 2) := by decide +kernel
theorem dJ6_bitCount_0f7a4_51 : decode cJ6_bitCount_0f7a4 51 = .ok (.iand, 1) := by decide +kernel
theorem dJ6_bitCount_0f7a4_52 : decode cJ6_bitCount_0f7a4 52 = .ok (.ireturn, 1) := by decide +kernel

def fJ6_bitCount_0f7a4 (p0 : Int32) : Option Int32 :=
  (nmI (p0 - ((ushr p0 (1 : Int32)) &&& 1431655765)) fun x1 => (nmI ((x1 &&& 858993459) + ((ushr x1 (2 : Int32)) &&& 858993459)) fun x2 => (nmI ((x2 + (ushr x2 (4 : Int32))) &&& 252645135) fun x3 => (nmI (x3 + (ushr x3 (8 : Int32))) fun x4 => (nmI (x4 + (ushr x4 (16 : Int32))) fun x5 => (some (x5 &&& 63)))))))
set_option maxRecDepth 20000 in
set_option maxHeartbeats 4000000 in
theorem aJ6_bitCount_0f7a4  (p0 : Int32)  (σ : qMem) : qAt wC mJ6_bitCount_0f7a4 (ρp σ) 0 [(0, .int p0)] [] σ (fJ6_bitCount_0f7a4 p0) := by
  unfold fJ6_bitCount_0f7a4
  refine q_iload_n (i := 0) (x := p0) dJ6_bitCount_0f7a4_0 rfl 0 rfl ?_
  refine q_iload_n (i := 0) (x := p0) dJ6_bitCount_0f7a4_1 rfl 0 rfl ?_
  refine q_iconst (v := 1) dJ6_bitCount_0f7a4_2 (by decide) ?_
  refine q_iushr dJ6_bitCount_0f7a4_3 ?_
  refine q_ldc_w (v := 1431655765) dJ6_bitCount_0f7a4_4 (g_4 202 (by decide +kernel) rfl) ?_
  refine q_iand dJ6_bitCount_0f7a4_7 ?_
  refine q_isub dJ6_bitCount_0f7a4_8 ?_
  refine q_nmI (fun x1 => ?_)
  refine q_istore_n (i := 0) (L' := [(0, .int x1)]) dJ6_bitCount_0f7a4_9 rfl (Nat.le_of_ble_eq_true rfl) rfl ?_
  refine q_iload_n (i := 0) (x := x1) dJ6_bitCount_0f7a4_10 rfl 0 rfl ?_
  refine q_ldc_w (v := 858993459) dJ6_bitCount_0f7a4_11 (g_4 203 (by decide +kernel) rfl) ?_
  refine q_iand dJ6_bitCount_0f7a4_14 ?_
  refine q_iload_n (i := 0) (x := x1) dJ6_bitCount_0f7a4_15 rfl 0 rfl ?_
  refine q_iconst (v := 2) dJ6_bitCount_0f7a4_16 (by decide) ?_
  refine q_iushr dJ6_bitCount_0f7a4_17 ?_
  refine q_ldc_w (v := 858993459) dJ6_bitCount_0f7a4_18 (g_4 203 (by decide +kernel) rfl) ?_
  refine q_iand dJ6_bitCount_0f7a4_21 ?_
  refine q_iadd dJ6_bitCount_0f7a4_22 ?_
  refine q_nmI (fun x2 => ?_)
  refine q_istore_n (i := 0) (L' := [(0, .int x2)]) dJ6_bitCount_0f7a4_23 rfl (Nat.le_of_ble_eq_true rfl) rfl ?_
  refine q_iload_n (i := 0) (x := x2) dJ6_bitCount_0f7a4_24 rfl 0 rfl ?_
  refine q_iload_n (i := 0) (x := x2) dJ6_bitCount_0f7a4_25 rfl 0 rfl ?_
  refine q_iconst (v := 4) dJ6_bitCount_0f7a4_26 (by decide) ?_
  refine q_iushr dJ6_bitCount_0f7a4_27 ?_
  refine q_iadd dJ6_bitCount_0f7a4_28 ?_
  refine q_ldc_w (v := 252645135) dJ6_bitCount_0f7a4_29 (g_4 204 (by decide +kernel) rfl) ?_
  refine q_iand dJ6_bitCount_0f7a4_32 ?_
  refine q_nmI (fun x3 => ?_)
  refine q_istore_n (i := 0) (L' := [(0, .int x3)]) dJ6_bitCount_0f7a4_33 rfl (Nat.le_of_ble_eq_true rfl) rfl ?_
  refine q_iload_n (i := 0) (x := x3) dJ6_bitCount_0f7a4_34 rfl 0 rfl ?_
  refine q_iload_n (i := 0) (x := x3) dJ6_bitCount_0f7a4_35 rfl 0 rfl ?_
  refine q_bipush (v := 8) dJ6_bitCount_0f7a4_36 (by decide) ?_
  refine q_iushr dJ6_bitCount_0f7a4_38 ?_
  refine q_iadd dJ6_bitCount_0f7a4_39 ?_
  refine q_nmI (fun x4 => ?_)
  refine q_istore_n (i := 0) (L' := [(0, .int x4)]) dJ6_bitCount_0f7a4_40 rfl (Nat.le_of_ble_eq_true rfl) rfl ?_
  refine q_iload_n (i := 0) (x := x4) dJ6_bitCount_0f7a4_41 rfl 0 rfl ?_
  refine q_iload_n (i := 0) (x := x4) dJ6_bitCount_0f7a4_42 rfl 0 rfl ?_
  refine q_bipush (v := 16) dJ6_bitCount_0f7a4_43 (by decide) ?_
  refine q_iushr dJ6_bitCount_0f7a4_45 ?_
  refine q_iadd dJ6_bitCount_0f7a4_46 ?_
  refine q_nmI (fun x5 => ?_)
  refine q_istore_n (i := 0) (L' := [(0, .int x5)]) dJ6_bitCount_0f7a4_47 rfl (Nat.le_of_ble_eq_true rfl) rfl ?_
  refine q_iload_n (i := 0) (x := x5) dJ6_bitCount_0f7a4_48 rfl 0 rfl ?_
  refine q_bipush (v := 63) dJ6_bitCount_0f7a4_49 (by decide) ?_
  refine q_iand dJ6_bitCount_0f7a4_51 ?_
  exact q_ireti (y := (x5 &&& 63)) dJ6_bitCount_0f7a4_52 rfl rfl
theorem kJ6_bitCount_0f7a4  (p0 : Int32)  (σ : qMem) : qMc wC mJ6_bitCount_0f7a4 (ρp σ) [.int p0] σ (fJ6_bitCount_0f7a4 p0) := qMc_of (moJ6_bitCount_0f7a4) (Nat.le_of_ble_eq_true rfl) (aJ6_bitCount_0f7a4 p0  σ)

theorem dJ9_floorDiv_7cf53_0 : decode cJ9_floorDiv_7cf53 0 = .ok (.iload_n 0, 1) := by decide +kernel
theorem dJ9_floorDiv_7cf53_1 : decode cJ9_floorDiv_7cf53 1 = .ok (.iload_n 1, 1) := by decide +kernel
theorem dJ9_floorDiv_7cf53_2 : decode cJ9_floorDiv_7cf53 2 = .ok (.idiv, 1) := by decide +kernel
theorem dJ9_floorDiv_7cf53_3 : decode cJ9_floorDiv_7cf53 3 = .ok (.istore_n 2, 1) := by decide +kernel
theorem dJ9_floorDiv_7cf53_4 : decode cJ9_floorDiv_7cf53 4 = .ok (.iload_n 0, 1) := by decide +kernel
theorem dJ9_floorDiv_7cf53_5 : decode cJ9_floorDiv_7cf53 5 = .ok (.iload_n 1, 1) := by decide +kernel
theorem dJ9_floorDiv_7cf53_6 : decode cJ9_floorDiv_7cf53 6 = .ok (.ixor, 1) := by decide +kernel
theorem dJ9_floorDiv_7cf53_7 : decode cJ9_floorDiv_7cf53 7 = .ok (.ifCond .ge 14, 3) := by decide +kernel
theorem dJ9_floorDiv_7cf53_10 : decode cJ9_floorDiv_7cf53 10 = .ok (.iload_n 2, 1) := by decide +kernel
theorem dJ9_floorDiv_7cf53_11 : decode cJ9_floorDiv_7cf53 11 = .ok (.iload_n 1, 1) := by decide +kernel
theorem dJ9_floorDiv_7cf53_12 : decode cJ9_floorDiv_7cf53 12 = .ok (.imul, 1) := by decide +kernel
theorem dJ9_floorDiv_7cf53_13 : decode cJ9_floorDiv_7cf53 13 = .ok (.iload_n 0, 1) := by decide +kernel
theorem dJ9_floorDiv_7cf53_14 : decode cJ9_floorDiv_7cf53 14 = .ok (.if_icmp .eq 7, 3) := by decide +kernel
theorem dJ9_floorDiv_7cf53_17 : decode cJ9_floorDiv_7cf53 17 = .ok (.iload_n 2, 1) := by decide +kernel
theorem dJ9_floorDiv_7cf53_18 : decode cJ9_floorDiv_7cf53 18 = .ok (.iconst 1, 1) := by decide +kernel
theorem dJ9_floorDiv_7cf53_19 : decode cJ9_floorDiv_7cf53 19 = .ok (.isub, 1) := by decide +kernel
theorem dJ9_floorDiv_7cf53_20 : decode cJ9_floorDiv_7cf53 20 = .ok (.ireturn, 1) := by decide +kernel
theorem dJ9_floorDiv_7cf53_21 : decode cJ9_floorDiv_7cf53 21 = .ok (.iload_n 2, 1) := by decide +kernel
theorem dJ9_floorDiv_7cf53_22 : decode cJ9_floorDiv_7cf53 22 = .ok (.ireturn, 1) := by decide +kernel

def fJ9_floorDiv_7cf53 (p0 : Int32) (p1 : Int32) : Option Int32 :=
  (if p1 = 0 then none else (if 0 ≤ (p0 ^^^ p1) then (some (p0 / p1)) else (if ((p0 / p1) * p1) = p0 then (some (p0 / p1)) else (some ((p0 / p1) - 1)))))
set_option maxRecDepth 20000 in
set_option maxHeartbeats 4000000 in
theorem aJ9_floorDiv_7cf53  (p0 : Int32) (p1 : Int32)  (σ : qMem) : qAt wC mJ9_floorDiv_7cf53 (ρp σ) 0 [(0, .int p0), (1, .int p1)] [] σ (fJ9_floorDiv_7cf53 p0 p1) := by
  unfold fJ9_floorDiv_7cf53
  refine q_iload_n (i := 0) (x := p0) dJ9_floorDiv_7cf53_0 rfl 0 rfl ?_
  refine q_iload_n (i := 1) (x := p1) dJ9_floorDiv_7cf53_1 rfl 1 rfl ?_
  refine q_idivC dJ9_floorDiv_7cf53_2 ?_
  refine q_istore_n (i := 2) (L' := [(2, .int (p0 / p1)), (0, .int p0), (1, .int p1)]) dJ9_floorDiv_7cf53_3 rfl (Nat.le_of_ble_eq_true rfl) rfl ?_
  refine q_iload_n (i := 0) (x := p0) dJ9_floorDiv_7cf53_4 rfl 1 rfl ?_
  refine q_iload_n (i := 1) (x := p1) dJ9_floorDiv_7cf53_5 rfl 2 rfl ?_
  refine q_ixor dJ9_floorDiv_7cf53_6 ?_
  refine q_if_ge (tgt := 21) dJ9_floorDiv_7cf53_7 (by decide) ?_ ?_
  · refine q_iload_n (i := 2) (x := (p0 / p1)) dJ9_floorDiv_7cf53_21 rfl 0 rfl ?_
    exact q_ireti (y := (p0 / p1)) dJ9_floorDiv_7cf53_22 rfl rfl
  refine q_iload_n (i := 2) (x := (p0 / p1)) dJ9_floorDiv_7cf53_10 rfl 0 rfl ?_
  refine q_iload_n (i := 1) (x := p1) dJ9_floorDiv_7cf53_11 rfl 2 rfl ?_
  refine q_imul dJ9_floorDiv_7cf53_12 ?_
  refine q_iload_n (i := 0) (x := p0) dJ9_floorDiv_7cf53_13 rfl 1 rfl ?_
  refine q_icmp_eq (tgt := 21) dJ9_floorDiv_7cf53_14 (by decide) ?_ ?_
  · refine q_iload_n (i := 2) (x := (p0 / p1)) dJ9_floorDiv_7cf53_21 rfl 0 rfl ?_
    exact q_ireti (y := (p0 / p1)) dJ9_floorDiv_7cf53_22 rfl rfl
  refine q_iload_n (i := 2) (x := (p0 / p1)) dJ9_floorDiv_7cf53_17 rfl 0 rfl ?_
  refine q_iconst (v := 1) dJ9_floorDiv_7cf53_18 (by decide) ?_
  refine q_isub dJ9_floorDiv_7cf53_19 ?_
  exact q_ireti (y := ((p0 / p1) - 1)) dJ9_floorDiv_7cf53_20 rfl rfl
theorem kJ9_floorDiv_7cf53  (p0 : Int32) (p1 : Int32)  (σ : qMem) : qMc wC mJ9_floorDiv_7cf53 (ρp σ) [.int p0, .int p1] σ (fJ9_floorDiv_7cf53 p0 p1) := qMc_of (moJ9_floorDiv_7cf53) (Nat.le_of_ble_eq_true rfl) (aJ9_floorDiv_7cf53 p0 p1  σ)

theorem dJ9_floorMod_7cf53_0 : decode cJ9_floorMod_7cf53 0 = .ok (.iload_n 0, 1) := by decide +kernel
theorem dJ9_floorMod_7cf53_1 : decode cJ9_floorMod_7cf53 1 = .ok (.iload_n 1, 1) := by decide +kernel
theorem dJ9_floorMod_7cf53_2 : decode cJ9_floorMod_7cf53 2 = .ok (.irem, 1) := by decide +kernel
theorem dJ9_floorMod_7cf53_3 : decode cJ9_floorMod_7cf53 3 = .ok (.istore_n 2, 1) := by decide +kernel
theorem dJ9_floorMod_7cf53_4 : decode cJ9_floorMod_7cf53 4 = .ok (.iload_n 0, 1) := by decide +kernel
theorem dJ9_floorMod_7cf53_5 : decode cJ9_floorMod_7cf53 5 = .ok (.iload_n 1, 1) := by decide +kernel
theorem dJ9_floorMod_7cf53_6 : decode cJ9_floorMod_7cf53 6 = .ok (.ixor, 1) := by decide +kernel
theorem dJ9_floorMod_7cf53_7 : decode cJ9_floorMod_7cf53 7 = .ok (.ifCond .ge 11, 3) := by decide +kernel
theorem dJ9_floorMod_7cf53_10 : decode cJ9_floorMod_7cf53 10 = .ok (.iload_n 2, 1) := by decide +kernel
theorem dJ9_floorMod_7cf53_11 : decode cJ9_floorMod_7cf53 11 = .ok (.ifCond .eq 7, 3) := by decide +kernel
theorem dJ9_floorMod_7cf53_14 : decode cJ9_floorMod_7cf53 14 = .ok (.iload_n 2, 1) := by decide +kernel
theorem dJ9_floorMod_7cf53_15 : decode cJ9_floorMod_7cf53 15 = .ok (.iload_n 1, 1) := by decide +kernel
theorem dJ9_floorMod_7cf53_16 : decode cJ9_floorMod_7cf53 16 = .ok (.iadd, 1) := by decide +kernel
theorem dJ9_floorMod_7cf53_17 : decode cJ9_floorMod_7cf53 17 = .ok (.ireturn, 1) := by decide +kernel
theorem dJ9_floorMod_7cf53_18 : decode cJ9_floorMod_7cf53 18 = .ok (.iload_n 2, 1) := by decide +kernel
theorem dJ9_floorMod_7cf53_19 : decode cJ9_floorMod_7cf53 19 = .ok (.ireturn, 1) := by decide +kernel

def fJ9_floorMod_7cf53 (p0 : Int32) (p1 : Int32) : Option Int32 :=
  (if p1 = 0 then none else (if 0 ≤ (p0 ^^^ p1) then (some (irm p0 p1)) else (if (irm p0 p1) = 0 then (some (irm p0 p1)) else (some ((irm p0 p1) + p1)))))
set_option maxRecDepth 20000 in
set_option maxHeartbeats 4000000 in
theorem aJ9_floorMod_7cf53  (p0 : Int32) (p1 : Int32)  (σ : qMem) : qAt wC mJ9_floorMod_7cf53 (ρp σ) 0 [(0, .int p0), (1, .int p1)] [] σ (fJ9_floorMod_7cf53 p0 p1) := by
  unfold fJ9_floorMod_7cf53
  refine q_iload_n (i := 0) (x := p0) dJ9_floorMod_7cf53_0 rfl 0 rfl ?_
  refine q_iload_n (i := 1) (x := p1) dJ9_floorMod_7cf53_1 rfl 1 rfl ?_
  refine q_iremC dJ9_floorMod_7cf53_2 ?_
  refine q_istore_n (i := 2) (L' := [(2, .int (irm p0 p1)), (0, .int p0), (1, .int p1)]) dJ9_floorMod_7cf53_3 rfl (Nat.le_of_ble_eq_true rfl) rfl ?_
  refine q_iload_n (i := 0) (x := p0) dJ9_floorMod_7cf53_4 rfl 1 rfl ?_
  refine q_iload_n (i := 1) (x := p1) dJ9_floorMod_7cf53_5 rfl 2 rfl ?_
  refine q_ixor dJ9_floorMod_7cf53_6 ?_
  refine q_if_ge (tgt := 18) dJ9_floorMod_7cf53_7 (by decide) ?_ ?_
  · refine q_iload_n (i := 2) (x := (irm p0 p1)) dJ9_floorMod_7cf53_18 rfl 0 rfl ?_
    exact q_ireti (y := (irm p0 p1)) dJ9_floorMod_7cf53_19 rfl rfl
  refine q_iload_n (i := 2) (x := (irm p0 p1)) dJ9_floorMod_7cf53_10 rfl 0 rfl ?_
  refine q_if_eq (tgt := 18) dJ9_floorMod_7cf53_11 (by decide) ?_ ?_
  · refine q_iload_n (i := 2) (x := (irm p0 p1)) dJ9_floorMod_7cf53_18 rfl 0 rfl ?_
    exact q_ireti (y := (irm p0 p1)) dJ9_floorMod_7cf53_19 rfl rfl
  refine q_iload_n (i := 2) (x := (irm p0 p1)) dJ9_floorMod_7cf53_14 rfl 0 rfl ?_
  refine q_iload_n (i := 1) (x := p1) dJ9_floorMod_7cf53_15 rfl 2 rfl ?_
  refine q_iadd dJ9_floorMod_7cf53_16 ?_
  exact q_ireti (y := ((irm p0 p1) + p1)) dJ9_floorMod_7cf53_17 rfl rfl
theorem kJ9_floorMod_7cf53  (p0 : Int32) (p1 : Int32)  (σ : qMem) : qMc wC mJ9_floorMod_7cf53 (ρp σ) [.int p0, .int p1] σ (fJ9_floorMod_7cf53 p0 p1) := qMc_of (moJ9_floorMod_7cf53) (Nat.le_of_ble_eq_true rfl) (aJ9_floorMod_7cf53 p0 p1  σ)

theorem dJ9_abs_0f7a4_0 : decode cJ9_abs_0f7a4 0 = .ok (.iload_n 0, 1) := by decide +kernel
theorem dJ9_abs_0f7a4_1 : decode cJ9_abs_0f7a4 1 = .ok (.ifCond .ge 8, 3) := by decide +kernel
theorem dJ9_abs_0f7a4_4 : decode cJ9_abs_0f7a4 4 = .ok (.iload_n 0, 1) := by decide +kernel
theorem dJ9_abs_0f7a4_5 : decode cJ9_abs_0f7a4 5 = .ok (.ineg, 1) := by decide +kernel
theorem dJ9_abs_0f7a4_6 : decode cJ9_abs_0f7a4 6 = .ok (.goto 4, 3) := by decide +kernel
theorem dJ9_abs_0f7a4_9 : decode cJ9_abs_0f7a4 9 = .ok (.iload_n 0, 1) := by decide +kernel
theorem dJ9_abs_0f7a4_10 : decode cJ9_abs_0f7a4 10 = .ok (.ireturn, 1) := by decide +kernel

def fJ9_abs_0f7a4 (p0 : Int32) : Option Int32 :=
  (if 0 ≤ p0 then (some p0) else (some (-p0)))
set_option maxRecDepth 20000 in
set_option maxHeartbeats 4000000 in
theorem aJ9_abs_0f7a4  (p0 : Int32)  (σ : qMem) : qAt wC mJ9_abs_0f7a4 (ρp σ) 0 [(0, .int p0)] [] σ (fJ9_abs_0f7a4 p0) := by
  unfold fJ9_abs_0f7a4
  refine q_iload_n (i := 0) (x := p0) dJ9_abs_0f7a4_0 rfl 0 rfl ?_
  refine q_if_ge (tgt := 9) dJ9_abs_0f7a4_1 (by decide) ?_ ?_
  · refine q_iload_n (i := 0) (x := p0) dJ9_abs_0f7a4_9 rfl 0 rfl ?_
    exact q_ireti (y := p0) dJ9_abs_0f7a4_10 rfl rfl
  refine q_iload_n (i := 0) (x := p0) dJ9_abs_0f7a4_4 rfl 0 rfl ?_
  refine q_ineg dJ9_abs_0f7a4_5 ?_
  refine q_goto (tgt := 10) dJ9_abs_0f7a4_6 (by decide) ?_
  exact q_ireti (y := (-p0)) dJ9_abs_0f7a4_10 rfl rfl
theorem kJ9_abs_0f7a4  (p0 : Int32)  (σ : qMem) : qMc wC mJ9_abs_0f7a4 (ρp σ) [.int p0] σ (fJ9_abs_0f7a4 p0) := qMc_of (moJ9_abs_0f7a4) (Nat.le_of_ble_eq_true rfl) (aJ9_abs_0f7a4 p0  σ)

theorem dJ9_max_7cf53_0 : decode cJ9_max_7cf53 0 = .ok (.iload_n 0, 1) := by decide +kernel
theorem dJ9_max_7cf53_1 : decode cJ9_max_7cf53 1 = .ok (.iload_n 1, 1) := by decide +kernel
theorem dJ9_max_7cf53_2 : decode cJ9_max_7cf53 2 = .ok (.if_icmp .lt 7, 3) := by decide +kernel
theorem dJ9_max_7cf53_5 : decode cJ9_max_7cf53 5 = .ok (.iload_n 0, 1) := by decide +kernel
theorem dJ9_max_7cf53_6 : decode cJ9_max_7cf53 6 = .ok (.goto 4, 3) := by decide +kernel
theorem dJ9_max_7cf53_9 : decode cJ9_max_7cf53 9 = .ok (.iload_n 1, 1) := by decide +kernel
theorem dJ9_max_7cf53_10 : decode cJ9_max_7cf53 10 = .ok (.ireturn, 1) := by decide +kernel

def fJ9_max_7cf53 (p0 : Int32) (p1 : Int32) : Option Int32 :=
  (if p0 < p1 then (some p1) else (some p0))
set_option maxRecDepth 20000 in
set_option maxHeartbeats 4000000 in
theorem aJ9_max_7cf53  (p0 : Int32) (p1 : Int32)  (σ : qMem) : qAt wC mJ9_max_7cf53 (ρp σ) 0 [(0, .int p0), (1, .int p1)] [] σ (fJ9_max_7cf53 p0 p1) := by
  unfold fJ9_max_7cf53
  refine q_iload_n (i := 0) (x := p0) dJ9_max_7cf53_0 rfl 0 rfl ?_
  refine q_iload_n (i := 1) (x := p1) dJ9_max_7cf53_1 rfl 1 rfl ?_
  refine q_icmp_lt (tgt := 9) dJ9_max_7cf53_2 (by decide) ?_ ?_
  · refine q_iload_n (i := 1) (x := p1) dJ9_max_7cf53_9 rfl 1 rfl ?_
    exact q_ireti (y := p1) dJ9_max_7cf53_10 rfl rfl
  refine q_iload_n (i := 0) (x := p0) dJ9_max_7cf53_5 rfl 0 rfl ?_
  refine q_goto (tgt := 10) dJ9_max_7cf53_6 (by decide) ?_
  exact q_ireti (y := p0) dJ9_max_7cf53_10 rfl rfl
theorem kJ9_max_7cf53  (p0 : Int32) (p1 : Int32)  (σ : qMem) : qMc wC mJ9_max_7cf53 (ρp σ) [.int p0, .int p1] σ (fJ9_max_7cf53 p0 p1) := qMc_of (moJ9_max_7cf53) (Nat.le_of_ble_eq_true rfl) (aJ9_max_7cf53 p0 p1  σ)

theorem dJ9_min_7cf53_0 : decode cJ9_min_7cf53 0 = .ok (.iload_n 0, 1) := by decide +kernel
theorem dJ9_min_7cf53_1 : decode cJ9_min_7cf53 1 = .ok (.iload_n 1, 1) := by decide +kernel
theorem dJ9_min_7cf53_2 : decode cJ9_min_7cf53 2 = .ok (.if_icmp .gt 7, 3) := by decide +kernel
theorem dJ9_min_7cf53_5 : decode cJ9_min_7cf53 5 = .ok (.iload_n 0, 1) := by decide +kernel
theorem dJ9_min_7cf53_6 : decode cJ9_min_7cf53 6 = .ok (.goto 4, 3) := by decide +kernel
theorem dJ9_min_7cf53_9 : decode cJ9_min_7cf53 9 = .ok (.iload_n 1, 1) := by decide +kernel
theorem dJ9_min_7cf53_10 : decode cJ9_min_7cf53 10 = .ok (.ireturn, 1) := by decide +kernel

def fJ9_min_7cf53 (p0 : Int32) (p1 : Int32) : Option Int32 :=
  (if p1 < p0 then (some p1) else (some p0))
set_option maxRecDepth 20000 in
set_option maxHeartbeats 4000000 in
theorem aJ9_min_7cf53  (p0 : Int32) (p1 : Int32)  (σ : qMem) : qAt wC mJ9_min_7cf53 (ρp σ) 0 [(0, .int p0), (1, .int p1)] [] σ (fJ9_min_7cf53 p0 p1) := by
  unfold fJ9_min_7cf53
  refine q_iload_n (i := 0) (x := p0) dJ9_min_7cf53_0 rfl 0 rfl ?_
  refine q_iload_n (i := 1) (x := p1) dJ9_min_7cf53_1 rfl 1 rfl ?_
  refine q_icmp_gt (tgt := 9) dJ9_min_7cf53_2 (by decide) ?_ ?_
  · refine q_iload_n (i := 1) (x := p1) dJ9_min_7cf53_9 rfl 1 rfl ?_
    exact q_ireti (y := p1) dJ9_min_7cf53_10 rfl rfl
  refine q_iload_n (i := 0) (x := p0) dJ9_min_7cf53_5 rfl 0 rfl ?_
  refine q_goto (tgt := 10) dJ9_min_7cf53_6 (by decide) ?_
  exact q_ireti (y := p0) dJ9_min_7cf53_10 rfl rfl
theorem kJ9_min_7cf53  (p0 : Int32) (p1 : Int32)  (σ : qMem) : qMc wC mJ9_min_7cf53 (ρp σ) [.int p0, .int p1] σ (fJ9_min_7cf53 p0 p1) := qMc_of (moJ9_min_7cf53) (Nat.le_of_ble_eq_true rfl) (aJ9_min_7cf53 p0 p1  σ)

theorem dJ7_fill_53178_0 : decode cJ7_fill_53178 0 = .ok (.iconst 0, 1) := by decide +kernel
theorem dJ7_fill_53178_1 : decode cJ7_fill_53178 1 = .ok (.istore_n 2, 1) := by decide +kernel
theorem dJ7_fill_53178_2 : decode cJ7_fill_53178 2 = .ok (.aload_n 0, 1) := by decide +kernel
theorem dJ7_fill_53178_3 : decode cJ7_fill_53178 3 = .ok (.arraylength, 1) := by decide +kernel
theorem dJ7_fill_53178_4 : decode cJ7_fill_53178 4 = .ok (.istore_n 3, 1) := by decide +kernel
theorem dJ7_fill_53178_5 : decode cJ7_fill_53178 5 = .ok (.iload_n 2, 1) := by decide +kernel
theorem dJ7_fill_53178_6 : decode cJ7_fill_53178 6 = .ok (.iload_n 3, 1) := by decide +kernel
theorem dJ7_fill_53178_7 : decode cJ7_fill_53178 7 = .ok (.if_icmp .ge 13, 3) := by decide +kernel
theorem dJ7_fill_53178_10 : decode cJ7_fill_53178 10 = .ok (.aload_n 0, 1) := by decide +kernel
theorem dJ7_fill_53178_11 : decode cJ7_fill_53178 11 = .ok (.iload_n 2, 1) := by decide +kernel
theorem dJ7_fill_53178_12 : decode cJ7_fill_53178 12 = .ok (.iload_n 1, 1) := by decide +kernel
theorem dJ7_fill_53178_13 : decode cJ7_fill_53178 13 = .ok (.iastore, 1) := by decide +kernel
theorem dJ7_fill_53178_14 : decode cJ7_fill_53178 14 = .ok (.iinc 2 1, 3) := by decide +kernel
theorem dJ7_fill_53178_17 : decode cJ7_fill_53178 17 = .ok (.goto (-12), 3) := by decide +kernel
theorem dJ7_fill_53178_20 : decode cJ7_fill_53178 20 = .ok (.return_, 1) := by decide +kernel
def fJ7_fill_53178_s5 (N : Nat) (k0 n0 : Nat) (c5 : Int32 → Int32 → Int32 → qMem → Option qMem) (v1 : Int32) (v2 : Int32) (v3 : Int32) (σ : qMem) : Option qMem :=
  (if v3 ≤ v2 then (some σ) else (if ck v2 n0 = true then (nmM (si σ k0 v2.toNatClampNeg v1) fun s1 => (c5 v1 (v2 + 1) v3 s1)) else none))
set_option maxRecDepth 20000 in
set_option maxHeartbeats 4000000 in
theorem aJ7_fill_53178_s5 (N : Nat) (k0 n0 : Nat) (hk0 : wC.1[k0]? = some (.inl (.int, n0, []))) (c5 : Int32 → Int32 → Int32 → qMem → Option qMem) (hc5 : ∀ (v1 : Int32) (v2 : Int32) (v3 : Int32) (σ : qMem), qAt wC mJ7_fill_53178 (ρv) 5 [(0, .ref k0), (1, .int v1), (2, .int v2), (3, .int v3)] [] σ (c5 v1 v2 v3 σ)) (v1 : Int32) (v2 : Int32) (v3 : Int32) (σ : qMem) : qAt wC mJ7_fill_53178 (ρv) 5 [(0, .ref k0), (1, .int v1), (2, .int v2), (3, .int v3)] [] σ (fJ7_fill_53178_s5 N k0 n0 c5 v1 v2 v3 σ) := by
  unfold fJ7_fill_53178_s5
  refine q_iload_n (i := 2) (x := v2) dJ7_fill_53178_5 rfl 2 rfl ?_
  refine q_iload_n (i := 3) (x := v3) dJ7_fill_53178_6 rfl 3 rfl ?_
  refine q_icmp_ge (tgt := 20) dJ7_fill_53178_7 (by decide) ?_ ?_
  · exact q_vret (y := σ) dJ7_fill_53178_20 rfl rfl
  refine q_aload_n (i := 0) (x := k0) dJ7_fill_53178_10 rfl 0 rfl ?_
  refine q_iload_n (i := 2) (x := v2) dJ7_fill_53178_11 rfl 2 rfl ?_
  refine q_iload_n (i := 1) (x := v1) dJ7_fill_53178_12 rfl 1 rfl ?_
  refine q_iast dJ7_fill_53178_13 hk0 ?_
  refine q_nmM (fun s1 => ?_)
  refine q_iinc (i := 2) (x := v2) (v := (v2 + 1)) (L' := [(2, .int (v2 + 1)), (0, .ref k0), (1, .int v1), (3, .int v3)]) dJ7_fill_53178_14 2 rfl (q_cst v2 (by decide)) (Nat.le_of_ble_eq_true rfl) rfl ?_
  refine q_goto (tgt := 5) dJ7_fill_53178_17 (by decide) ?_
  exact q_sub [1, 2, 0, 3] rfl (hc5 v1 (v2 + 1) v3 s1)
def fJ7_fill_53178_l5 (N : Nat) (k0 n0 : Nat) : Nat → Int32 → Int32 → Int32 → qMem → Option qMem
  | 0 => fun _ _ _ _ => none
  | n + 1 => fun v1 v2 v3 σ => fJ7_fill_53178_s5 N k0 n0 (fJ7_fill_53178_l5 N k0 n0 n) v1 v2 v3 σ
theorem aJ7_fill_53178_l5 (N : Nat) (k0 n0 : Nat) (hk0 : wC.1[k0]? = some (.inl (.int, n0, []))) : ∀ (n : Nat) (v1 : Int32) (v2 : Int32) (v3 : Int32) (σ : qMem), qAt wC mJ7_fill_53178 (ρv) 5 [(0, .ref k0), (1, .int v1), (2, .int v2), (3, .int v3)] [] σ (fJ7_fill_53178_l5 N k0 n0 n v1 v2 v3 σ) := by
  intro n
  induction n with
  | zero => intro v1 v2 v3 σ; exact q_none
  | succ n ih => intro v1 v2 v3 σ; exact aJ7_fill_53178_s5 N k0 n0 hk0 (fJ7_fill_53178_l5 N k0 n0 n) ih v1 v2 v3 σ

def fJ7_fill_53178 (N : Nat) (k0 n0 : Nat) (p1 : Int32) (σ : qMem) : Option qMem :=
  (fJ7_fill_53178_l5 N k0 n0 N p1 0 (nI n0) σ)
set_option maxRecDepth 20000 in
set_option maxHeartbeats 4000000 in
theorem aJ7_fill_53178  (N : Nat) (k0 n0 : Nat) (p1 : Int32) (hk0 : wC.1[k0]? = some (.inl (.int, n0, []))) (σ : qMem) : qAt wC mJ7_fill_53178 (ρv) 0 [(0, .ref k0), (1, .int p1)] [] σ (fJ7_fill_53178 N k0 n0 p1 σ) := by
  unfold fJ7_fill_53178
  refine q_iconst (v := 0) dJ7_fill_53178_0 (by decide) ?_
  refine q_istore_n (i := 2) (L' := [(2, .int 0), (0, .ref k0), (1, .int p1)]) dJ7_fill_53178_1 rfl (Nat.le_of_ble_eq_true rfl) rfl ?_
  refine q_aload_n (i := 0) (x := k0) dJ7_fill_53178_2 rfl 1 rfl ?_
  refine q_alen (t0 := 0) (v := (nI n0)) dJ7_fill_53178_3 hk0 (fun _ => rfl) rfl ?_
  refine q_istore_n (i := 3) (L' := [(3, .int (nI n0)), (2, .int 0), (0, .ref k0), (1, .int p1)]) dJ7_fill_53178_4 rfl (Nat.le_of_ble_eq_true rfl) rfl ?_
  exact q_sub [2, 3, 1, 0] rfl (aJ7_fill_53178_l5 N k0 n0 hk0 N p1 0 (nI n0) σ)
theorem kJ7_fill_53178  (N : Nat) (k0 n0 : Nat) (p1 : Int32) (hk0 : wC.1[k0]? = some (.inl (.int, n0, []))) (σ : qMem) : qMc wC mJ7_fill_53178 (ρv) [.ref k0, .int p1] σ (fJ7_fill_53178 N k0 n0 p1 σ) := qMc_of (moJ7_fill_53178) (Nat.le_of_ble_eq_true rfl) (aJ7_fill_53178 N k0 n0 p1 hk0 σ)

theorem dX0_mark_0 : decode cX0_mark 0 = .ok (.aload_n 0, 1) := by decide +kernel
theorem dX0_mark_1 : decode cX0_mark 1 = .ok (.iload_n 1, 1) := by decide +kernel
theorem dX0_mark_2 : decode cX0_mark 2 = .ok (.putfield 9, 3) := by decide +kernel
theorem dX0_mark_5 : decode cX0_mark 5 = .ok (.aload_n 0, 1) := by decide +kernel
theorem dX0_mark_6 : decode cX0_mark 6 = .ok (.iload_n 2, 1) := by decide +kernel
theorem dX0_mark_7 : decode cX0_mark 7 = .ok (.putfield 15, 3) := by decide +kernel
theorem dX0_mark_10 : decode cX0_mark 10 = .ok (.aload_n 0, 1) := by decide +kernel
theorem dX0_mark_11 : decode cX0_mark 11 = .ok (.iload_n 3, 1) := by decide +kernel
theorem dX0_mark_12 : decode cX0_mark 12 = .ok (.putfield 18, 3) := by decide +kernel
theorem dX0_mark_15 : decode cX0_mark 15 = .ok (.aload_n 0, 1) := by decide +kernel
theorem dX0_mark_16 : decode cX0_mark 16 = .ok (.iload 4, 2) := by decide +kernel
theorem dX0_mark_18 : decode cX0_mark 18 = .ok (.putfield 21, 3) := by decide +kernel
theorem dX0_mark_21 : decode cX0_mark 21 = .ok (.return_, 1) := by decide +kernel

def fX0_mark (p1 : Int32) (p2 : Int32) (p3 : Int32) (p4 : Int32) (σ : qMem) : Option qMem :=
  (nmM (si σ 62 0 p1) fun s1 => (nmM (si s1 62 1 p2) fun s2 => (nmM (si s2 62 2 p3) fun s3 => (nmM (si s3 62 3 p4) fun s4 => (some s4)))))
set_option maxRecDepth 20000 in
set_option maxHeartbeats 4000000 in
theorem aX0_mark  (p1 : Int32) (p2 : Int32) (p3 : Int32) (p4 : Int32)  (σ : qMem) : qAt wC mX0_mark (ρv) 0 [(0, .ref 62), (1, .int p1), (2, .int p2), (3, .int p3), (4, .int p4)] [] σ (fX0_mark p1 p2 p3 p4 σ) := by
  unfold fX0_mark
  refine q_aload_n (i := 0) (x := 62) dX0_mark_0 rfl 0 rfl ?_
  refine q_iload_n (i := 1) (x := p1) dX0_mark_1 rfl 1 rfl ?_
  refine q_puti dX0_mark_2 foX0_9 fwX0_0 zC_62 rfl ?_
  refine q_nmM (fun s1 => ?_)
  refine q_aload_n (i := 0) (x := 62) dX0_mark_5 rfl 0 rfl ?_
  refine q_iload_n (i := 2) (x := p2) dX0_mark_6 rfl 2 rfl ?_
  refine q_puti dX0_mark_7 foX0_15 fwX0_1 zC_62 rfl ?_
  refine q_nmM (fun s2 => ?_)
  refine q_aload_n (i := 0) (x := 62) dX0_mark_10 rfl 0 rfl ?_
  refine q_iload_n (i := 3) (x := p3) dX0_mark_11 rfl 3 rfl ?_
  refine q_puti dX0_mark_12 foX0_18 fwX0_2 zC_62 rfl ?_
  refine q_nmM (fun s3 => ?_)
  refine q_aload_n (i := 0) (x := 62) dX0_mark_15 rfl 0 rfl ?_
  refine q_iload (i := 4) (x := p4) dX0_mark_16 4 rfl ?_
  refine q_puti dX0_mark_18 foX0_21 fwX0_3 zC_62 rfl ?_
  refine q_nmM (fun s4 => ?_)
  exact q_vret (y := s4) dX0_mark_21 rfl rfl
theorem kX0_mark  (p1 : Int32) (p2 : Int32) (p3 : Int32) (p4 : Int32)  (σ : qMem) : qMc wC mX0_mark (ρv) [.ref 62, .int p1, .int p2, .int p3, .int p4] σ (fX0_mark p1 p2 p3 p4 σ) := qMc_of (moX0_mark) (Nat.le_of_ble_eq_true rfl) (aX0_mark p1 p2 p3 p4  σ)

theorem dX0_border_0 : decode cX0_border 0 = .ok (.bipush 10, 2) := by decide +kernel
theorem dX0_border_2 : decode cX0_border 2 = .ok (.iload_n 0, 1) := by decide +kernel
theorem dX0_border_3 : decode cX0_border 3 = .ok (.bipush 10, 2) := by decide +kernel
theorem dX0_border_5 : decode cX0_border 5 = .ok (.isub, 1) := by decide +kernel
theorem dX0_border_6 : decode cX0_border 6 = .ok (.bipush 50, 2) := by decide +kernel
theorem dX0_border_8 : decode cX0_border 8 = .ok (.iload_n 0, 1) := by decide +kernel
theorem dX0_border_9 : decode cX0_border 9 = .ok (.isub, 1) := by decide +kernel
theorem dX0_border_10 : decode cX0_border 10 = .ok (.invokestatic 42, 3) := by decide +kernel
theorem dX0_border_13 : decode cX0_border 13 = .ok (.invokestatic 42, 3) := by decide +kernel
theorem dX0_border_16 : decode cX0_border 16 = .ok (.istore_n 2, 1) := by decide +kernel
theorem dX0_border_17 : decode cX0_border 17 = .ok (.bipush (-10), 2) := by decide +kernel
theorem dX0_border_19 : decode cX0_border 19 = .ok (.bipush 10, 2) := by decide +kernel
theorem dX0_border_21 : decode cX0_border 21 = .ok (.bipush 30, 2) := by decide +kernel
theorem dX0_border_23 : decode cX0_border 23 = .ok (.iload_n 0, 1) := by decide +kernel
theorem dX0_border_24 : decode cX0_border 24 = .ok (.isub, 1) := by decide +kernel
theorem dX0_border_25 : decode cX0_border 25 = .ok (.invokestatic 42, 3) := by decide +kernel
theorem dX0_border_28 : decode cX0_border 28 = .ok (.invokestatic 39, 3) := by decide +kernel
theorem dX0_border_31 : decode cX0_border 31 = .ok (.istore_n 3, 1) := by decide +kernel
theorem dX0_border_32 : decode cX0_border 32 = .ok (.iload_n 2, 1) := by decide +kernel
theorem dX0_border_33 : decode cX0_border 33 = .ok (.ifCond .gt 7, 3) := by decide +kernel
theorem dX0_border_36 : decode cX0_border 36 = .ok (.iconst 0, 1) := by decide +kernel
theorem dX0_border_37 : decode cX0_border 37 = .ok (.goto 10, 3) := by decide +kernel
theorem dX0_border_40 : decode cX0_border 40 = .ok (.iload_n 3, 1) := by decide +kernel
theorem dX0_border_41 : decode cX0_border 41 = .ok (.iload_n 1, 1) := by decide +kernel
theorem dX0_border_42 : decode cX0_border 42 = .ok (.imul, 1) := by decide +kernel
theorem dX0_border_43 : decode cX0_border 43 = .ok (.iload_n 2, 1) := by decide +kernel
theorem dX0_border_44 : decode cX0_border 44 = .ok (.invokestatic 52, 3) := by decide +kernel
theorem dX0_border_47 : decode cX0_border 47 = .ok (.ireturn, 1) := by decide +kernel

def fX0_border (p0 : Int32) (p1 : Int32) : Option Int32 :=
  ((fJ9_min_7cf53 (p0 - 10) (50 - p0)).bind fun y1 => ((fJ9_min_7cf53 10 y1).bind fun y2 => ((fJ9_min_7cf53 10 (30 - p0)).bind fun y3 => ((fJ9_max_7cf53 (-10) y3).bind fun y4 => (if 0 < y2 then ((fJ9_floorDiv_7cf53 (y4 * p1) y2).bind fun y5 => (some y5)) else (some 0))))))
set_option maxRecDepth 20000 in
set_option maxHeartbeats 4000000 in
theorem aX0_border  (p0 : Int32) (p1 : Int32)  (σ : qMem) : qAt wC mX0_border (ρp σ) 0 [(0, .int p0), (1, .int p1)] [] σ (fX0_border p0 p1) := by
  unfold fX0_border
  refine q_bipush (v := 10) dX0_border_0 (by decide) ?_
  refine q_iload_n (i := 0) (x := p0) dX0_border_2 rfl 0 rfl ?_
  refine q_bipush (v := 10) dX0_border_3 (by decide) ?_
  refine q_isub dX0_border_5 ?_
  refine q_bipush (v := 50) dX0_border_6 (by decide) ?_
  refine q_iload_n (i := 0) (x := p0) dX0_border_8 rfl 0 rfl ?_
  refine q_isub dX0_border_9 ?_
  refine q_cSp mJ9_min_7cf53 [.int (p0 - 10), .int (50 - p0)] (st := [.int 10]) dX0_border_10 (ssX0_42) ⟨Nat.le_of_ble_eq_true rfl, Nat.le_of_ble_eq_true rfl⟩ rfl rfl (Nat.le_of_ble_eq_true rfl) (kJ9_min_7cf53 (p0 - 10) (50 - p0) σ) (fun y1 => ?_)
  refine q_cSp mJ9_min_7cf53 [.int 10, .int y1] (st := []) dX0_border_13 (ssX0_42) ⟨Nat.le_of_ble_eq_true rfl, Nat.le_of_ble_eq_true rfl⟩ rfl rfl (Nat.le_of_ble_eq_true rfl) (kJ9_min_7cf53 10 y1 σ) (fun y2 => ?_)
  refine q_istore_n (i := 2) (L' := [(2, .int y2), (0, .int p0), (1, .int p1)]) dX0_border_16 rfl (Nat.le_of_ble_eq_true rfl) rfl ?_
  refine q_bipush (v := (-10)) dX0_border_17 (by decide) ?_
  refine q_bipush (v := 10) dX0_border_19 (by decide) ?_
  refine q_bipush (v := 30) dX0_border_21 (by decide) ?_
  refine q_iload_n (i := 0) (x := p0) dX0_border_23 rfl 1 rfl ?_
  refine q_isub dX0_border_24 ?_
  refine q_cSp mJ9_min_7cf53 [.int 10, .int (30 - p0)] (st := [.int (-10)]) dX0_border_25 (ssX0_42) ⟨Nat.le_of_ble_eq_true rfl, Nat.le_of_ble_eq_true rfl⟩ rfl rfl (Nat.le_of_ble_eq_true rfl) (kJ9_min_7cf53 10 (30 - p0) σ) (fun y3 => ?_)
  refine q_cSp mJ9_max_7cf53 [.int (-10), .int y3] (st := []) dX0_border_28 (ssX0_39) ⟨Nat.le_of_ble_eq_true rfl, Nat.le_of_ble_eq_true rfl⟩ rfl rfl (Nat.le_of_ble_eq_true rfl) (kJ9_max_7cf53 (-10) y3 σ) (fun y4 => ?_)
  refine q_istore_n (i := 3) (L' := [(3, .int y4), (2, .int y2), (0, .int p0), (1, .int p1)]) dX0_border_31 rfl (Nat.le_of_ble_eq_true rfl) rfl ?_
  refine q_iload_n (i := 2) (x := y2) dX0_border_32 rfl 1 rfl ?_
  refine q_if_gt (tgt := 40) dX0_border_33 (by decide) ?_ ?_
  · refine q_iload_n (i := 3) (x := y4) dX0_border_40 rfl 0 rfl ?_
    refine q_iload_n (i := 1) (x := p1) dX0_border_41 rfl 3 rfl ?_
    refine q_imul dX0_border_42 ?_
    refine q_iload_n (i := 2) (x := y2) dX0_border_43 rfl 1 rfl ?_
    refine q_cSp mJ9_floorDiv_7cf53 [.int (y4 * p1), .int y2] (st := []) dX0_border_44 (ssX0_52) ⟨Nat.le_of_ble_eq_true rfl, Nat.le_of_ble_eq_true rfl⟩ rfl rfl (Nat.le_of_ble_eq_true rfl) (kJ9_floorDiv_7cf53 (y4 * p1) y2 σ) (fun y5 => ?_)
    exact q_ireti (y := y5) dX0_border_47 rfl rfl
  refine q_iconst (v := 0) dX0_border_36 (by decide) ?_
  refine q_goto (tgt := 47) dX0_border_37 (by decide) ?_
  exact q_ireti (y := 0) dX0_border_47 rfl rfl
theorem kX0_border  (p0 : Int32) (p1 : Int32)  (σ : qMem) : qMc wC mX0_border (ρp σ) [.int p0, .int p1] σ (fX0_border p0 p1) := qMc_of (moX0_border) (Nat.le_of_ble_eq_true rfl) (aX0_border p0 p1  σ)

theorem dX11_between_0 : decode cX11_between 0 = .ok (.iload_n 0, 1) := by decide +kernel
theorem dX11_between_1 : decode cX11_between 1 = .ok (.iload_n 1, 1) := by decide +kernel
theorem dX11_between_2 : decode cX11_between 2 = .ok (.isub, 1) := by decide +kernel
theorem dX11_between_3 : decode cX11_between 3 = .ok (.bipush 80, 2) := by decide +kernel
theorem dX11_between_5 : decode cX11_between 5 = .ok (.invokestatic 390, 3) := by decide +kernel
theorem dX11_between_8 : decode cX11_between 8 = .ok (.istore_n 2, 1) := by decide +kernel
theorem dX11_between_9 : decode cX11_between 9 = .ok (.iload_n 2, 1) := by decide +kernel
theorem dX11_between_10 : decode cX11_between 10 = .ok (.bipush 80, 2) := by decide +kernel
theorem dX11_between_12 : decode cX11_between 12 = .ok (.iload_n 2, 1) := by decide +kernel
theorem dX11_between_13 : decode cX11_between 13 = .ok (.isub, 1) := by decide +kernel
theorem dX11_between_14 : decode cX11_between 14 = .ok (.invokestatic 393, 3) := by decide +kernel
theorem dX11_between_17 : decode cX11_between 17 = .ok (.ireturn, 1) := by decide +kernel

def fX11_between (p0 : Int32) (p1 : Int32) : Option Int32 :=
  ((fJ9_floorMod_7cf53 (p0 - p1) 80).bind fun y1 => ((fJ9_min_7cf53 y1 (80 - y1)).bind fun y2 => (some y2)))
set_option maxRecDepth 20000 in
set_option maxHeartbeats 4000000 in
theorem aX11_between  (p0 : Int32) (p1 : Int32)  (σ : qMem) : qAt wC mX11_between (ρp σ) 0 [(0, .int p0), (1, .int p1)] [] σ (fX11_between p0 p1) := by
  unfold fX11_between
  refine q_iload_n (i := 0) (x := p0) dX11_between_0 rfl 0 rfl ?_
  refine q_iload_n (i := 1) (x := p1) dX11_between_1 rfl 1 rfl ?_
  refine q_isub dX11_between_2 ?_
  refine q_bipush (v := 80) dX11_between_3 (by decide) ?_
  refine q_cSp mJ9_floorMod_7cf53 [.int (p0 - p1), .int 80] (st := []) dX11_between_5 (ssX11_390) ⟨Nat.le_of_ble_eq_true rfl, Nat.le_of_ble_eq_true rfl⟩ rfl rfl (Nat.le_of_ble_eq_true rfl) (kJ9_floorMod_7cf53 (p0 - p1) 80 σ) (fun y1 => ?_)
  refine q_istore_n (i := 2) (L' := [(2, .int y1), (0, .int p0), (1, .int p1)]) dX11_between_8 rfl (Nat.le_of_ble_eq_true rfl) rfl ?_
  refine q_iload_n (i := 2) (x := y1) dX11_between_9 rfl 0 rfl ?_
  refine q_bipush (v := 80) dX11_between_10 (by decide) ?_
  refine q_iload_n (i := 2) (x := y1) dX11_between_12 rfl 0 rfl ?_
  refine q_isub dX11_between_13 ?_
  refine q_cSp mJ9_min_7cf53 [.int y1, .int (80 - y1)] (st := []) dX11_between_14 (ssX11_393) ⟨Nat.le_of_ble_eq_true rfl, Nat.le_of_ble_eq_true rfl⟩ rfl rfl (Nat.le_of_ble_eq_true rfl) (kJ9_min_7cf53 y1 (80 - y1) σ) (fun y2 => ?_)
  exact q_ireti (y := y2) dX11_between_17 rfl rfl
theorem kX11_between  (p0 : Int32) (p1 : Int32)  (σ : qMem) : qMc wC mX11_between (ρp σ) [.int p0, .int p1] σ (fX11_between p0 p1) := qMc_of (moX11_between) (Nat.le_of_ble_eq_true rfl) (aX11_between p0 p1  σ)

theorem dX0_arc_0 : decode cX0_arc 0 = .ok (.iload_n 3, 1) := by decide +kernel
theorem dX0_arc_1 : decode cX0_arc 1 = .ok (.ifCond .ne 66, 3) := by decide +kernel
theorem dX0_arc_4 : decode cX0_arc 4 = .ok (.iload_n 1, 1) := by decide +kernel
theorem dX0_arc_5 : decode cX0_arc 5 = .ok (.bipush 10, 2) := by decide +kernel
theorem dX0_arc_7 : decode cX0_arc 7 = .ok (.invokestatic 24, 3) := by decide +kernel
theorem dX0_arc_10 : decode cX0_arc 10 = .ok (.iload_n 2, 1) := by decide +kernel
theorem dX0_arc_11 : decode cX0_arc 11 = .ok (.if_icmp .gt 7, 3) := by decide +kernel
theorem dX0_arc_14 : decode cX0_arc 14 = .ok (.iconst 1, 1) := by decide +kernel
theorem dX0_arc_15 : decode cX0_arc 15 = .ok (.goto 4, 3) := by decide +kernel
theorem dX0_arc_18 : decode cX0_arc 18 = .ok (.iconst 0, 1) := by decide +kernel
theorem dX0_arc_19 : decode cX0_arc 19 = .ok (.istore 4, 2) := by decide +kernel
theorem dX0_arc_21 : decode cX0_arc 21 = .ok (.iload_n 1, 1) := by decide +kernel
theorem dX0_arc_22 : decode cX0_arc 22 = .ok (.bipush 50, 2) := by decide +kernel
theorem dX0_arc_24 : decode cX0_arc 24 = .ok (.invokestatic 24, 3) := by decide +kernel
theorem dX0_arc_27 : decode cX0_arc 27 = .ok (.iload_n 2, 1) := by decide +kernel
theorem dX0_arc_28 : decode cX0_arc 28 = .ok (.if_icmp .gt 7, 3) := by decide +kernel
theorem dX0_arc_31 : decode cX0_arc 31 = .ok (.iconst 1, 1) := by decide +kernel
theorem dX0_arc_32 : decode cX0_arc 32 = .ok (.goto 4, 3) := by decide +kernel
theorem dX0_arc_35 : decode cX0_arc 35 = .ok (.iconst 0, 1) := by decide +kernel
theorem dX0_arc_36 : decode cX0_arc 36 = .ok (.istore 5, 2) := by decide +kernel
theorem dX0_arc_38 : decode cX0_arc 38 = .ok (.aload_n 0, 1) := by decide +kernel
theorem dX0_arc_39 : decode cX0_arc 39 = .ok (.iload 5, 2) := by decide +kernel
theorem dX0_arc_41 : decode cX0_arc 41 = .ok (.ifCond .eq 8, 3) := by decide +kernel
theorem dX0_arc_44 : decode cX0_arc 44 = .ok (.ldc 28, 2) := by decide +kernel
theorem dX0_arc_46 : decode cX0_arc 46 = .ok (.goto 4, 3) := by decide +kernel
theorem dX0_arc_49 : decode cX0_arc 49 = .ok (.iconst 1, 1) := by decide +kernel
theorem dX0_arc_50 : decode cX0_arc 50 = .ok (.iload 4, 2) := by decide +kernel
theorem dX0_arc_52 : decode cX0_arc 52 = .ok (.ifCond .eq 8, 3) := by decide +kernel
theorem dX0_arc_55 : decode cX0_arc 55 = .ok (.ldc 29, 2) := by decide +kernel
theorem dX0_arc_57 : decode cX0_arc 57 = .ok (.goto 4, 3) := by decide +kernel
theorem dX0_arc_60 : decode cX0_arc 60 = .ok (.iconst (-1), 1) := by decide +kernel
theorem dX0_arc_61 : decode cX0_arc 61 = .ok (.iconst 0, 1) := by decide +kernel
theorem dX0_arc_62 : decode cX0_arc 62 = .ok (.iconst 0, 1) := by decide +kernel
theorem dX0_arc_63 : decode cX0_arc 63 = .ok (.invokevirtual 30, 3) := by decide +kernel
theorem dX0_arc_66 : decode cX0_arc 66 = .ok (.return_, 1) := by decide +kernel
theorem dX0_arc_67 : decode cX0_arc 67 = .ok (.iload_n 3, 1) := by decide +kernel
theorem dX0_arc_68 : decode cX0_arc 68 = .ok (.ifCond .le 7, 3) := by decide +kernel
theorem dX0_arc_71 : decode cX0_arc 71 = .ok (.iload_n 1, 1) := by decide +kernel
theorem dX0_arc_72 : decode cX0_arc 72 = .ok (.goto 7, 3) := by decide +kernel
theorem dX0_arc_75 : decode cX0_arc 75 = .ok (.iload_n 1, 1) := by decide +kernel
theorem dX0_arc_76 : decode cX0_arc 76 = .ok (.bipush 40, 2) := by decide +kernel
theorem dX0_arc_78 : decode cX0_arc 78 = .ok (.iadd, 1) := by decide +kernel
theorem dX0_arc_79 : decode cX0_arc 79 = .ok (.iload_n 2, 1) := by decide +kernel
theorem dX0_arc_80 : decode cX0_arc 80 = .ok (.isub, 1) := by decide +kernel
theorem dX0_arc_81 : decode cX0_arc 81 = .ok (.bipush 80, 2) := by decide +kernel
theorem dX0_arc_83 : decode cX0_arc 83 = .ok (.invokestatic 34, 3) := by decide +kernel
theorem dX0_arc_86 : decode cX0_arc 86 = .ok (.istore 4, 2) := by decide +kernel
theorem dX0_arc_88 : decode cX0_arc 88 = .ok (.iload 4, 2) := by decide +kernel
theorem dX0_arc_90 : decode cX0_arc 90 = .ok (.iconst 2, 1) := by decide +kernel
theorem dX0_arc_91 : decode cX0_arc 91 = .ok (.iload_n 2, 1) := by decide +kernel
theorem dX0_arc_92 : decode cX0_arc 92 = .ok (.imul, 1) := by decide +kernel
theorem dX0_arc_93 : decode cX0_arc 93 = .ok (.iadd, 1) := by decide +kernel
theorem dX0_arc_94 : decode cX0_arc 94 = .ok (.istore 5, 2) := by decide +kernel
theorem dX0_arc_96 : decode cX0_arc 96 = .ok (.iload 4, 2) := by decide +kernel
theorem dX0_arc_98 : decode cX0_arc 98 = .ok (.bipush 10, 2) := by decide +kernel
theorem dX0_arc_100 : decode cX0_arc 100 = .ok (.invokestatic 39, 3) := by decide +kernel
theorem dX0_arc_103 : decode cX0_arc 103 = .ok (.istore 6, 2) := by decide +kernel
theorem dX0_arc_105 : decode cX0_arc 105 = .ok (.iload 5, 2) := by decide +kernel
theorem dX0_arc_107 : decode cX0_arc 107 = .ok (.bipush 49, 2) := by decide +kernel
theorem dX0_arc_109 : decode cX0_arc 109 = .ok (.invokestatic 42, 3) := by decide +kernel
theorem dX0_arc_112 : decode cX0_arc 112 = .ok (.istore 7, 2) := by decide +kernel
theorem dX0_arc_114 : decode cX0_arc 114 = .ok (.iload 6, 2) := by decide +kernel
theorem dX0_arc_116 : decode cX0_arc 116 = .ok (.iload 7, 2) := by decide +kernel
theorem dX0_arc_118 : decode cX0_arc 118 = .ok (.if_icmp .le 27, 3) := by decide +kernel
theorem dX0_arc_121 : decode cX0_arc 121 = .ok (.iload 4, 2) := by decide +kernel
theorem dX0_arc_123 : decode cX0_arc 123 = .ok (.bipush 80, 2) := by decide +kernel
theorem dX0_arc_125 : decode cX0_arc 125 = .ok (.isub, 1) := by decide +kernel
theorem dX0_arc_126 : decode cX0_arc 126 = .ok (.bipush 10, 2) := by decide +kernel
theorem dX0_arc_128 : decode cX0_arc 128 = .ok (.invokestatic 39, 3) := by decide +kernel
theorem dX0_arc_131 : decode cX0_arc 131 = .ok (.istore 6, 2) := by decide +kernel
theorem dX0_arc_133 : decode cX0_arc 133 = .ok (.iload 5, 2) := by decide +kernel
theorem dX0_arc_135 : decode cX0_arc 135 = .ok (.bipush 80, 2) := by decide +kernel
theorem dX0_arc_137 : decode cX0_arc 137 = .ok (.isub, 1) := by decide +kernel
theorem dX0_arc_138 : decode cX0_arc 138 = .ok (.bipush 49, 2) := by decide +kernel
theorem dX0_arc_140 : decode cX0_arc 140 = .ok (.invokestatic 42, 3) := by decide +kernel
theorem dX0_arc_143 : decode cX0_arc 143 = .ok (.istore 7, 2) := by decide +kernel
theorem dX0_arc_145 : decode cX0_arc 145 = .ok (.iload_n 3, 1) := by decide +kernel
theorem dX0_arc_146 : decode cX0_arc 146 = .ok (.invokestatic 45, 3) := by decide +kernel
theorem dX0_arc_149 : decode cX0_arc 149 = .ok (.istore 8, 2) := by decide +kernel
theorem dX0_arc_151 : decode cX0_arc 151 = .ok (.iload 6, 2) := by decide +kernel
theorem dX0_arc_153 : decode cX0_arc 153 = .ok (.iload 7, 2) := by decide +kernel
theorem dX0_arc_155 : decode cX0_arc 155 = .ok (.if_icmp .le 8, 3) := by decide +kernel
theorem dX0_arc_158 : decode cX0_arc 158 = .ok (.ldc 28, 2) := by decide +kernel
theorem dX0_arc_160 : decode cX0_arc 160 = .ok (.goto 22, 3) := by decide +kernel
theorem dX0_arc_163 : decode cX0_arc 163 = .ok (.iload 6, 2) := by decide +kernel
theorem dX0_arc_165 : decode cX0_arc 165 = .ok (.bipush 10, 2) := by decide +kernel
theorem dX0_arc_167 : decode cX0_arc 167 = .ok (.if_icmp .ne 8, 3) := by decide +kernel
theorem dX0_arc_170 : decode cX0_arc 170 = .ok (.ldc 29, 2) := by decide +kernel
theorem dX0_arc_172 : decode cX0_arc 172 = .ok (.goto 10, 3) := by decide +kernel
theorem dX0_arc_175 : decode cX0_arc 175 = .ok (.iload 6, 2) := by decide +kernel
theorem dX0_arc_177 : decode cX0_arc 177 = .ok (.iload 8, 2) := by decide +kernel
theorem dX0_arc_179 : decode cX0_arc 179 = .ok (.invokestatic 49, 3) := by decide +kernel
theorem dX0_arc_182 : decode cX0_arc 182 = .ok (.istore 9, 2) := by decide +kernel
theorem dX0_arc_184 : decode cX0_arc 184 = .ok (.iload 6, 2) := by decide +kernel
theorem dX0_arc_186 : decode cX0_arc 186 = .ok (.iload 7, 2) := by decide +kernel
theorem dX0_arc_188 : decode cX0_arc 188 = .ok (.if_icmp .le 8, 3) := by decide +kernel
theorem dX0_arc_191 : decode cX0_arc 191 = .ok (.ldc 29, 2) := by decide +kernel
theorem dX0_arc_193 : decode cX0_arc 193 = .ok (.goto 26, 3) := by decide +kernel
theorem dX0_arc_196 : decode cX0_arc 196 = .ok (.iload 7, 2) := by decide +kernel
theorem dX0_arc_198 : decode cX0_arc 198 = .ok (.bipush 49, 2) := by decide +kernel
theorem dX0_arc_200 : decode cX0_arc 200 = .ok (.if_icmp .ne 8, 3) := by decide +kernel
theorem dX0_arc_203 : decode cX0_arc 203 = .ok (.ldc 28, 2) := by decide +kernel
theorem dX0_arc_205 : decode cX0_arc 205 = .ok (.goto 14, 3) := by decide +kernel
theorem dX0_arc_208 : decode cX0_arc 208 = .ok (.iload 7, 2) := by decide +kernel
theorem dX0_arc_210 : decode cX0_arc 210 = .ok (.iconst 1, 1) := by decide +kernel
theorem dX0_arc_211 : decode cX0_arc 211 = .ok (.iadd, 1) := by decide +kernel
theorem dX0_arc_212 : decode cX0_arc 212 = .ok (.iload 8, 2) := by decide +kernel
theorem dX0_arc_214 : decode cX0_arc 214 = .ok (.invokestatic 49, 3) := by decide +kernel
theorem dX0_arc_217 : decode cX0_arc 217 = .ok (.iconst 1, 1) := by decide +kernel
theorem dX0_arc_218 : decode cX0_arc 218 = .ok (.iadd, 1) := by decide +kernel
theorem dX0_arc_219 : decode cX0_arc 219 = .ok (.istore 10, 2) := by decide +kernel
theorem dX0_arc_221 : decode cX0_arc 221 = .ok (.aload_n 0, 1) := by decide +kernel
theorem dX0_arc_222 : decode cX0_arc 222 = .ok (.iload_n 3, 1) := by decide +kernel
theorem dX0_arc_223 : decode cX0_arc 223 = .ok (.ifCond .le 8, 3) := by decide +kernel
theorem dX0_arc_226 : decode cX0_arc 226 = .ok (.iload 10, 2) := by decide +kernel
theorem dX0_arc_228 : decode cX0_arc 228 = .ok (.goto 6, 3) := by decide +kernel
theorem dX0_arc_231 : decode cX0_arc 231 = .ok (.iload 9, 2) := by decide +kernel
theorem dX0_arc_233 : decode cX0_arc 233 = .ok (.ineg, 1) := by decide +kernel
theorem dX0_arc_234 : decode cX0_arc 234 = .ok (.iload_n 3, 1) := by decide +kernel
theorem dX0_arc_235 : decode cX0_arc 235 = .ok (.ifCond .le 8, 3) := by decide +kernel
theorem dX0_arc_238 : decode cX0_arc 238 = .ok (.iload 9, 2) := by decide +kernel
theorem dX0_arc_240 : decode cX0_arc 240 = .ok (.goto 6, 3) := by decide +kernel
theorem dX0_arc_243 : decode cX0_arc 243 = .ok (.iload 10, 2) := by decide +kernel
theorem dX0_arc_245 : decode cX0_arc 245 = .ok (.ineg, 1) := by decide +kernel
theorem dX0_arc_246 : decode cX0_arc 246 = .ok (.iconst 0, 1) := by decide +kernel
theorem dX0_arc_247 : decode cX0_arc 247 = .ok (.iconst (-1), 1) := by decide +kernel
theorem dX0_arc_248 : decode cX0_arc 248 = .ok (.invokevirtual 30, 3) := by decide +kernel
theorem dX0_arc_251 : decode cX0_arc 251 = .ok (.return_, 1) := by decide +kernel
def fX0_arc_b246 (u1 : Int32) (u2 : Int32) (σ : qMem) : Option qMem :=
  ((fX0_mark u1 u2 0 (-1) σ).bind fun y12 => (some y12))
set_option maxRecDepth 20000 in
set_option maxHeartbeats 4000000 in
theorem aX0_arc_b246 (u1 : Int32) (u2 : Int32) (σ : qMem) : qAt wC mX0_arc (ρv) 246 [] [.int u2, .int u1, .ref 62] σ (fX0_arc_b246 u1 u2 σ) := by
  unfold fX0_arc_b246
  refine q_iconst (v := 0) dX0_arc_246 (by decide) ?_
  refine q_iconst (v := (-1)) dX0_arc_247 (by decide) ?_
  refine q_cVv mX0_mark [.int u1, .int u2, .int 0, .int (-1)] (st := []) dX0_arc_248 (svX0_30) ⟨Nat.le_of_ble_eq_true rfl, Nat.le_of_ble_eq_true rfl⟩ zC_62 rfl rfl rfl (Nat.le_of_ble_eq_true rfl) (kX0_mark u1 u2 0 (-1) σ) (fun y12 => ?_)
  exact q_vret (y := y12) dX0_arc_251 rfl rfl

def fX0_arc_b234 (v3 : Int32) (v9 : Int32) (v10 : Int32) (u1 : Int32) (σ : qMem) : Option qMem :=
  (if v3 ≤ 0 then (fX0_arc_b246 u1 (-v10) σ) else (fX0_arc_b246 u1 v9 σ))
set_option maxRecDepth 20000 in
set_option maxHeartbeats 4000000 in
theorem aX0_arc_b234 (v3 : Int32) (v9 : Int32) (v10 : Int32) (u1 : Int32) (σ : qMem) : qAt wC mX0_arc (ρv) 234 [(3, .int v3), (9, .int v9), (10, .int v10)] [.int u1, .ref 62] σ (fX0_arc_b234 v3 v9 v10 u1 σ) := by
  unfold fX0_arc_b234
  refine q_iload_n (i := 3) (x := v3) dX0_arc_234 rfl 0 rfl ?_
  refine q_if_le (tgt := 243) dX0_arc_235 (by decide) ?_ ?_
  · refine q_iload (i := 10) (x := v10) dX0_arc_243 2 rfl ?_
    refine q_ineg dX0_arc_245 ?_
    exact q_sub [] rfl (aX0_arc_b246 u1 (-v10) σ)
  refine q_iload (i := 9) (x := v9) dX0_arc_238 1 rfl ?_
  refine q_goto (tgt := 246) dX0_arc_240 (by decide) ?_
  exact q_sub [] rfl (aX0_arc_b246 u1 v9 σ)

def fX0_arc_b219 (v3 : Int32) (v9 : Int32) (u0 : Int32) (σ : qMem) : Option qMem :=
  (if v3 ≤ 0 then (fX0_arc_b234 v3 v9 u0 (-v9) σ) else (fX0_arc_b234 v3 v9 u0 u0 σ))
set_option maxRecDepth 20000 in
set_option maxHeartbeats 4000000 in
theorem aX0_arc_b219 (v3 : Int32) (v9 : Int32) (u0 : Int32) (σ : qMem) : qAt wC mX0_arc (ρv) 219 [(0, .ref 62), (3, .int v3), (9, .int v9)] [.int u0] σ (fX0_arc_b219 v3 v9 u0 σ) := by
  unfold fX0_arc_b219
  refine q_istore (i := 10) (L' := [(10, .int u0), (0, .ref 62), (3, .int v3), (9, .int v9)]) dX0_arc_219 (Nat.le_of_ble_eq_true rfl) rfl ?_
  refine q_aload_n (i := 0) (x := 62) dX0_arc_221 rfl 1 rfl ?_
  refine q_iload_n (i := 3) (x := v3) dX0_arc_222 rfl 2 rfl ?_
  refine q_if_le (tgt := 231) dX0_arc_223 (by decide) ?_ ?_
  · refine q_iload (i := 9) (x := v9) dX0_arc_231 3 rfl ?_
    refine q_ineg dX0_arc_233 ?_
    exact q_sub [2, 3, 0] rfl (aX0_arc_b234 v3 v9 u0 (-v9) σ)
  refine q_iload (i := 10) (x := u0) dX0_arc_226 0 rfl ?_
  refine q_goto (tgt := 234) dX0_arc_228 (by decide) ?_
  exact q_sub [2, 3, 0] rfl (aX0_arc_b234 v3 v9 u0 u0 σ)

def fX0_arc_b182 (v3 : Int32) (v6 : Int32) (v7 : Int32) (v8 : Int32) (u0 : Int32) (σ : qMem) : Option qMem :=
  (if v6 ≤ v7 then (if v7 = 49 then (fX0_arc_b219 v3 u0 (-100000) σ) else ((fX0_border (v7 + 1) v8).bind fun y11 => (fX0_arc_b219 v3 u0 (y11 + 1) σ))) else (fX0_arc_b219 v3 u0 100000 σ))
set_option maxRecDepth 20000 in
set_option maxHeartbeats 4000000 in
theorem aX0_arc_b182 (v3 : Int32) (v6 : Int32) (v7 : Int32) (v8 : Int32) (u0 : Int32) (σ : qMem) : qAt wC mX0_arc (ρv) 182 [(0, .ref 62), (3, .int v3), (6, .int v6), (7, .int v7), (8, .int v8)] [.int u0] σ (fX0_arc_b182 v3 v6 v7 v8 u0 σ) := by
  unfold fX0_arc_b182
  refine q_istore (i := 9) (L' := [(9, .int u0), (0, .ref 62), (3, .int v3), (6, .int v6), (7, .int v7), (8, .int v8)]) dX0_arc_182 (Nat.le_of_ble_eq_true rfl) rfl ?_
  refine q_iload (i := 6) (x := v6) dX0_arc_184 3 rfl ?_
  refine q_iload (i := 7) (x := v7) dX0_arc_186 4 rfl ?_
  refine q_icmp_le (tgt := 196) dX0_arc_188 (by decide) ?_ ?_
  · refine q_iload (i := 7) (x := v7) dX0_arc_196 4 rfl ?_
    refine q_bipush (v := 49) dX0_arc_198 (by decide) ?_
    refine q_icmp_ne (tgt := 208) dX0_arc_200 (by decide) ?_ ?_
    · refine q_iload (i := 7) (x := v7) dX0_arc_208 4 rfl ?_
      refine q_iconst (v := 1) dX0_arc_210 (by decide) ?_
      refine q_iadd dX0_arc_211 ?_
      refine q_iload (i := 8) (x := v8) dX0_arc_212 5 rfl ?_
      refine q_cSp mX0_border [.int (v7 + 1), .int v8] (st := []) dX0_arc_214 (ssX0_49) ⟨Nat.le_of_ble_eq_true rfl, Nat.le_of_ble_eq_true rfl⟩ rfl rfl (Nat.le_of_ble_eq_true rfl) (kX0_border (v7 + 1) v8 σ) (fun y11 => ?_)
      refine q_iconst (v := 1) dX0_arc_217 (by decide) ?_
      refine q_iadd dX0_arc_218 ?_
      exact q_sub [1, 2, 0] rfl (aX0_arc_b219 v3 u0 (y11 + 1) σ)
    refine q_ldc (v := (-100000)) dX0_arc_203 (g_3 165 (by decide +kernel) rfl) ?_
    refine q_goto (tgt := 219) dX0_arc_205 (by decide) ?_
    exact q_sub [1, 2, 0] rfl (aX0_arc_b219 v3 u0 (-100000) σ)
  refine q_ldc (v := 100000) dX0_arc_191 (g_3 166 (by decide +kernel) rfl) ?_
  refine q_goto (tgt := 219) dX0_arc_193 (by decide) ?_
  exact q_sub [1, 2, 0] rfl (aX0_arc_b219 v3 u0 100000 σ)

def fX0_arc_b145 (v3 : Int32) (v6 : Int32) (v7 : Int32) (σ : qMem) : Option qMem :=
  ((fJ9_abs_0f7a4 v3).bind fun y9 => (if v6 ≤ v7 then (if v6 = 10 then (fX0_arc_b182 v3 v6 v7 y9 100000 σ) else ((fX0_border v6 y9).bind fun y10 => (fX0_arc_b182 v3 v6 v7 y9 y10 σ))) else (fX0_arc_b182 v3 v6 v7 y9 (-100000) σ)))
set_option maxRecDepth 20000 in
set_option maxHeartbeats 4000000 in
theorem aX0_arc_b145 (v3 : Int32) (v6 : Int32) (v7 : Int32) (σ : qMem) : qAt wC mX0_arc (ρv) 145 [(0, .ref 62), (3, .int v3), (6, .int v6), (7, .int v7)] [] σ (fX0_arc_b145 v3 v6 v7 σ) := by
  unfold fX0_arc_b145
  refine q_iload_n (i := 3) (x := v3) dX0_arc_145 rfl 1 rfl ?_
  refine q_cSp mJ9_abs_0f7a4 [.int v3] (st := []) dX0_arc_146 (ssX0_45) ⟨Nat.le_of_ble_eq_true rfl, Nat.le_of_ble_eq_true rfl⟩ rfl rfl (Nat.le_of_ble_eq_true rfl) (kJ9_abs_0f7a4 v3 σ) (fun y9 => ?_)
  refine q_istore (i := 8) (L' := [(8, .int y9), (0, .ref 62), (3, .int v3), (6, .int v6), (7, .int v7)]) dX0_arc_149 (Nat.le_of_ble_eq_true rfl) rfl ?_
  refine q_iload (i := 6) (x := v6) dX0_arc_151 3 rfl ?_
  refine q_iload (i := 7) (x := v7) dX0_arc_153 4 rfl ?_
  refine q_icmp_le (tgt := 163) dX0_arc_155 (by decide) ?_ ?_
  · refine q_iload (i := 6) (x := v6) dX0_arc_163 3 rfl ?_
    refine q_bipush (v := 10) dX0_arc_165 (by decide) ?_
    refine q_icmp_ne (tgt := 175) dX0_arc_167 (by decide) ?_ ?_
    · refine q_iload (i := 6) (x := v6) dX0_arc_175 3 rfl ?_
      refine q_iload (i := 8) (x := y9) dX0_arc_177 0 rfl ?_
      refine q_cSp mX0_border [.int v6, .int y9] (st := []) dX0_arc_179 (ssX0_49) ⟨Nat.le_of_ble_eq_true rfl, Nat.le_of_ble_eq_true rfl⟩ rfl rfl (Nat.le_of_ble_eq_true rfl) (kX0_border v6 y9 σ) (fun y10 => ?_)
      exact q_sub [1, 2, 3, 4, 0] rfl (aX0_arc_b182 v3 v6 v7 y9 y10 σ)
    refine q_ldc (v := 100000) dX0_arc_170 (g_3 166 (by decide +kernel) rfl) ?_
    refine q_goto (tgt := 182) dX0_arc_172 (by decide) ?_
    exact q_sub [1, 2, 3, 4, 0] rfl (aX0_arc_b182 v3 v6 v7 y9 100000 σ)
  refine q_ldc (v := (-100000)) dX0_arc_158 (g_3 165 (by decide +kernel) rfl) ?_
  refine q_goto (tgt := 182) dX0_arc_160 (by decide) ?_
  exact q_sub [1, 2, 3, 4, 0] rfl (aX0_arc_b182 v3 v6 v7 y9 (-100000) σ)

def fX0_arc_b79 (v2 : Int32) (v3 : Int32) (u0 : Int32) (σ : qMem) : Option qMem :=
  ((fJ9_floorMod_7cf53 (u0 - v2) 80).bind fun y4 => ((fJ9_max_7cf53 y4 10).bind fun y5 => ((fJ9_min_7cf53 (y4 + (2 * v2)) 49).bind fun y6 => (if y5 ≤ y6 then (fX0_arc_b145 v3 y5 y6 σ) else ((fJ9_max_7cf53 (y4 - 80) 10).bind fun y7 => ((fJ9_min_7cf53 ((y4 + (2 * v2)) - 80) 49).bind fun y8 => (fX0_arc_b145 v3 y7 y8 σ)))))))
set_option maxRecDepth 20000 in
set_option maxHeartbeats 4000000 in
theorem aX0_arc_b79 (v2 : Int32) (v3 : Int32) (u0 : Int32) (σ : qMem) : qAt wC mX0_arc (ρv) 79 [(0, .ref 62), (2, .int v2), (3, .int v3)] [.int u0] σ (fX0_arc_b79 v2 v3 u0 σ) := by
  unfold fX0_arc_b79
  refine q_iload_n (i := 2) (x := v2) dX0_arc_79 rfl 1 rfl ?_
  refine q_isub dX0_arc_80 ?_
  refine q_bipush (v := 80) dX0_arc_81 (by decide) ?_
  refine q_cSp mJ9_floorMod_7cf53 [.int (u0 - v2), .int 80] (st := []) dX0_arc_83 (ssX0_34) ⟨Nat.le_of_ble_eq_true rfl, Nat.le_of_ble_eq_true rfl⟩ rfl rfl (Nat.le_of_ble_eq_true rfl) (kJ9_floorMod_7cf53 (u0 - v2) 80 σ) (fun y4 => ?_)
  refine q_istore (i := 4) (L' := [(4, .int y4), (0, .ref 62), (2, .int v2), (3, .int v3)]) dX0_arc_86 (Nat.le_of_ble_eq_true rfl) rfl ?_
  refine q_iload (i := 4) (x := y4) dX0_arc_88 0 rfl ?_
  refine q_iconst (v := 2) dX0_arc_90 (by decide) ?_
  refine q_iload_n (i := 2) (x := v2) dX0_arc_91 rfl 2 rfl ?_
  refine q_imul dX0_arc_92 ?_
  refine q_iadd dX0_arc_93 ?_
  refine q_istore (i := 5) (L' := [(5, .int (y4 + (2 * v2))), (4, .int y4), (0, .ref 62), (2, .int v2), (3, .int v3)]) dX0_arc_94 (Nat.le_of_ble_eq_true rfl) rfl ?_
  refine q_iload (i := 4) (x := y4) dX0_arc_96 1 rfl ?_
  refine q_bipush (v := 10) dX0_arc_98 (by decide) ?_
  refine q_cSp mJ9_max_7cf53 [.int y4, .int 10] (st := []) dX0_arc_100 (ssX0_39) ⟨Nat.le_of_ble_eq_true rfl, Nat.le_of_ble_eq_true rfl⟩ rfl rfl (Nat.le_of_ble_eq_true rfl) (kJ9_max_7cf53 y4 10 σ) (fun y5 => ?_)
  refine q_istore (i := 6) (L' := [(6, .int y5), (5, .int (y4 + (2 * v2))), (4, .int y4), (0, .ref 62), (2, .int v2), (3, .int v3)]) dX0_arc_103 (Nat.le_of_ble_eq_true rfl) rfl ?_
  refine q_iload (i := 5) (x := (y4 + (2 * v2))) dX0_arc_105 1 rfl ?_
  refine q_bipush (v := 49) dX0_arc_107 (by decide) ?_
  refine q_cSp mJ9_min_7cf53 [.int (y4 + (2 * v2)), .int 49] (st := []) dX0_arc_109 (ssX0_42) ⟨Nat.le_of_ble_eq_true rfl, Nat.le_of_ble_eq_true rfl⟩ rfl rfl (Nat.le_of_ble_eq_true rfl) (kJ9_min_7cf53 (y4 + (2 * v2)) 49 σ) (fun y6 => ?_)
  refine q_istore (i := 7) (L' := [(7, .int y6), (6, .int y5), (5, .int (y4 + (2 * v2))), (4, .int y4), (0, .ref 62), (2, .int v2), (3, .int v3)]) dX0_arc_112 (Nat.le_of_ble_eq_true rfl) rfl ?_
  refine q_iload (i := 6) (x := y5) dX0_arc_114 1 rfl ?_
  refine q_iload (i := 7) (x := y6) dX0_arc_116 0 rfl ?_
  refine q_icmp_le (tgt := 145) dX0_arc_118 (by decide) ?_ ?_
  · exact q_sub [4, 6, 1, 0] rfl (aX0_arc_b145 v3 y5 y6 σ)
  refine q_iload (i := 4) (x := y4) dX0_arc_121 3 rfl ?_
  refine q_bipush (v := 80) dX0_arc_123 (by decide) ?_
  refine q_isub dX0_arc_125 ?_
  refine q_bipush (v := 10) dX0_arc_126 (by decide) ?_
  refine q_cSp mJ9_max_7cf53 [.int (y4 - 80), .int 10] (st := []) dX0_arc_128 (ssX0_39) ⟨Nat.le_of_ble_eq_true rfl, Nat.le_of_ble_eq_true rfl⟩ rfl rfl (Nat.le_of_ble_eq_true rfl) (kJ9_max_7cf53 (y4 - 80) 10 σ) (fun y7 => ?_)
  refine q_istore (i := 6) (L' := [(6, .int y7), (7, .int y6), (5, .int (y4 + (2 * v2))), (4, .int y4), (0, .ref 62), (2, .int v2), (3, .int v3)]) dX0_arc_131 (Nat.le_of_ble_eq_true rfl) rfl ?_
  refine q_iload (i := 5) (x := (y4 + (2 * v2))) dX0_arc_133 2 rfl ?_
  refine q_bipush (v := 80) dX0_arc_135 (by decide) ?_
  refine q_isub dX0_arc_137 ?_
  refine q_bipush (v := 49) dX0_arc_138 (by decide) ?_
  refine q_cSp mJ9_min_7cf53 [.int ((y4 + (2 * v2)) - 80), .int 49] (st := []) dX0_arc_140 (ssX0_42) ⟨Nat.le_of_ble_eq_true rfl, Nat.le_of_ble_eq_true rfl⟩ rfl rfl (Nat.le_of_ble_eq_true rfl) (kJ9_min_7cf53 ((y4 + (2 * v2)) - 80) 49 σ) (fun y8 => ?_)
  refine q_istore (i := 7) (L' := [(7, .int y8), (6, .int y7), (5, .int (y4 + (2 * v2))), (4, .int y4), (0, .ref 62), (2, .int v2), (3, .int v3)]) dX0_arc_143 (Nat.le_of_ble_eq_true rfl) rfl ?_
  exact q_sub [4, 6, 1, 0] rfl (aX0_arc_b145 v3 y7 y8 σ)

def fX0_arc_b61 (u1 : Int32) (u2 : Int32) (σ : qMem) : Option qMem :=
  ((fX0_mark u1 u2 0 0 σ).bind fun y3 => (some y3))
set_option maxRecDepth 20000 in
set_option maxHeartbeats 4000000 in
theorem aX0_arc_b61 (u1 : Int32) (u2 : Int32) (σ : qMem) : qAt wC mX0_arc (ρv) 61 [] [.int u2, .int u1, .ref 62] σ (fX0_arc_b61 u1 u2 σ) := by
  unfold fX0_arc_b61
  refine q_iconst (v := 0) dX0_arc_61 (by decide) ?_
  refine q_iconst (v := 0) dX0_arc_62 (by decide) ?_
  refine q_cVv mX0_mark [.int u1, .int u2, .int 0, .int 0] (st := []) dX0_arc_63 (svX0_30) ⟨Nat.le_of_ble_eq_true rfl, Nat.le_of_ble_eq_true rfl⟩ zC_62 rfl rfl rfl (Nat.le_of_ble_eq_true rfl) (kX0_mark u1 u2 0 0 σ) (fun y3 => ?_)
  exact q_vret (y := y3) dX0_arc_66 rfl rfl

def fX0_arc_b50 (v4 : Int32) (u1 : Int32) (σ : qMem) : Option qMem :=
  (if v4 = 0 then (fX0_arc_b61 u1 (-1) σ) else (fX0_arc_b61 u1 100000 σ))
set_option maxRecDepth 20000 in
set_option maxHeartbeats 4000000 in
theorem aX0_arc_b50 (v4 : Int32) (u1 : Int32) (σ : qMem) : qAt wC mX0_arc (ρv) 50 [(4, .int v4)] [.int u1, .ref 62] σ (fX0_arc_b50 v4 u1 σ) := by
  unfold fX0_arc_b50
  refine q_iload (i := 4) (x := v4) dX0_arc_50 0 rfl ?_
  refine q_if_eq (tgt := 60) dX0_arc_52 (by decide) ?_ ?_
  · refine q_iconst (v := (-1)) dX0_arc_60 (by decide) ?_
    exact q_sub [] rfl (aX0_arc_b61 u1 (-1) σ)
  refine q_ldc (v := 100000) dX0_arc_55 (g_3 166 (by decide +kernel) rfl) ?_
  refine q_goto (tgt := 61) dX0_arc_57 (by decide) ?_
  exact q_sub [] rfl (aX0_arc_b61 u1 100000 σ)

def fX0_arc_b36 (v4 : Int32) (u0 : Int32) (σ : qMem) : Option qMem :=
  (if u0 = 0 then (fX0_arc_b50 v4 1 σ) else (fX0_arc_b50 v4 (-100000) σ))
set_option maxRecDepth 20000 in
set_option maxHeartbeats 4000000 in
theorem aX0_arc_b36 (v4 : Int32) (u0 : Int32) (σ : qMem) : qAt wC mX0_arc (ρv) 36 [(0, .ref 62), (4, .int v4)] [.int u0] σ (fX0_arc_b36 v4 u0 σ) := by
  unfold fX0_arc_b36
  refine q_istore (i := 5) (L' := [(5, .int u0), (0, .ref 62), (4, .int v4)]) dX0_arc_36 (Nat.le_of_ble_eq_true rfl) rfl ?_
  refine q_aload_n (i := 0) (x := 62) dX0_arc_38 rfl 1 rfl ?_
  refine q_iload (i := 5) (x := u0) dX0_arc_39 0 rfl ?_
  refine q_if_eq (tgt := 49) dX0_arc_41 (by decide) ?_ ?_
  · refine q_iconst (v := 1) dX0_arc_49 (by decide) ?_
    exact q_sub [2] rfl (aX0_arc_b50 v4 1 σ)
  refine q_ldc (v := (-100000)) dX0_arc_44 (g_3 165 (by decide +kernel) rfl) ?_
  refine q_goto (tgt := 50) dX0_arc_46 (by decide) ?_
  exact q_sub [2] rfl (aX0_arc_b50 v4 (-100000) σ)

def fX0_arc_b19 (v1 : Int32) (v2 : Int32) (u0 : Int32) (σ : qMem) : Option qMem :=
  ((fX11_between v1 50).bind fun y2 => (if v2 < y2 then (fX0_arc_b36 u0 0 σ) else (fX0_arc_b36 u0 1 σ)))
set_option maxRecDepth 20000 in
set_option maxHeartbeats 4000000 in
theorem aX0_arc_b19 (v1 : Int32) (v2 : Int32) (u0 : Int32) (σ : qMem) : qAt wC mX0_arc (ρv) 19 [(0, .ref 62), (1, .int v1), (2, .int v2)] [.int u0] σ (fX0_arc_b19 v1 v2 u0 σ) := by
  unfold fX0_arc_b19
  refine q_istore (i := 4) (L' := [(4, .int u0), (0, .ref 62), (1, .int v1), (2, .int v2)]) dX0_arc_19 (Nat.le_of_ble_eq_true rfl) rfl ?_
  refine q_iload_n (i := 1) (x := v1) dX0_arc_21 rfl 2 rfl ?_
  refine q_bipush (v := 50) dX0_arc_22 (by decide) ?_
  refine q_cSp mX11_between [.int v1, .int 50] (st := []) dX0_arc_24 (ssX0_24) ⟨Nat.le_of_ble_eq_true rfl, Nat.le_of_ble_eq_true rfl⟩ rfl rfl (Nat.le_of_ble_eq_true rfl) (kX11_between v1 50 σ) (fun y2 => ?_)
  refine q_iload_n (i := 2) (x := v2) dX0_arc_27 rfl 3 rfl ?_
  refine q_icmp_gt (tgt := 35) dX0_arc_28 (by decide) ?_ ?_
  · refine q_iconst (v := 0) dX0_arc_35 (by decide) ?_
    exact q_sub [1, 0] rfl (aX0_arc_b36 u0 0 σ)
  refine q_iconst (v := 1) dX0_arc_31 (by decide) ?_
  refine q_goto (tgt := 36) dX0_arc_32 (by decide) ?_
  exact q_sub [1, 0] rfl (aX0_arc_b36 u0 1 σ)

def fX0_arc (p1 : Int32) (p2 : Int32) (p3 : Int32) (σ : qMem) : Option qMem :=
  (if p3 = 0 then ((fX11_between p1 10).bind fun y1 => (if p2 < y1 then (fX0_arc_b19 p1 p2 0 σ) else (fX0_arc_b19 p1 p2 1 σ))) else (if p3 ≤ 0 then (fX0_arc_b79 p2 p3 (p1 + 40) σ) else (fX0_arc_b79 p2 p3 p1 σ)))
set_option maxRecDepth 20000 in
set_option maxHeartbeats 4000000 in
theorem aX0_arc  (p1 : Int32) (p2 : Int32) (p3 : Int32)  (σ : qMem) : qAt wC mX0_arc (ρv) 0 [(0, .ref 62), (1, .int p1), (2, .int p2), (3, .int p3)] [] σ (fX0_arc p1 p2 p3 σ) := by
  unfold fX0_arc
  refine q_iload_n (i := 3) (x := p3) dX0_arc_0 rfl 3 rfl ?_
  refine q_if_ne (tgt := 67) dX0_arc_1 (by decide) ?_ ?_
  · refine q_iload_n (i := 3) (x := p3) dX0_arc_67 rfl 3 rfl ?_
    refine q_if_le (tgt := 75) dX0_arc_68 (by decide) ?_ ?_
    · refine q_iload_n (i := 1) (x := p1) dX0_arc_75 rfl 1 rfl ?_
      refine q_bipush (v := 40) dX0_arc_76 (by decide) ?_
      refine q_iadd dX0_arc_78 ?_
      exact q_sub [0, 2, 3] rfl (aX0_arc_b79 p2 p3 (p1 + 40) σ)
    refine q_iload_n (i := 1) (x := p1) dX0_arc_71 rfl 1 rfl ?_
    refine q_goto (tgt := 79) dX0_arc_72 (by decide) ?_
    exact q_sub [0, 2, 3] rfl (aX0_arc_b79 p2 p3 p1 σ)
  refine q_iload_n (i := 1) (x := p1) dX0_arc_4 rfl 1 rfl ?_
  refine q_bipush (v := 10) dX0_arc_5 (by decide) ?_
  refine q_cSp mX11_between [.int p1, .int 10] (st := []) dX0_arc_7 (ssX0_24) ⟨Nat.le_of_ble_eq_true rfl, Nat.le_of_ble_eq_true rfl⟩ rfl rfl (Nat.le_of_ble_eq_true rfl) (kX11_between p1 10 σ) (fun y1 => ?_)
  refine q_iload_n (i := 2) (x := p2) dX0_arc_10 rfl 2 rfl ?_
  refine q_icmp_gt (tgt := 18) dX0_arc_11 (by decide) ?_ ?_
  · refine q_iconst (v := 0) dX0_arc_18 (by decide) ?_
    exact q_sub [0, 1, 2] rfl (aX0_arc_b19 p1 p2 0 σ)
  refine q_iconst (v := 1) dX0_arc_14 (by decide) ?_
  refine q_goto (tgt := 19) dX0_arc_15 (by decide) ?_
  exact q_sub [0, 1, 2] rfl (aX0_arc_b19 p1 p2 1 σ)
theorem kX0_arc  (p1 : Int32) (p2 : Int32) (p3 : Int32)  (σ : qMem) : qMc wC mX0_arc (ρv) [.ref 62, .int p1, .int p2, .int p3] σ (fX0_arc p1 p2 p3 σ) := qMc_of (moX0_arc) (Nat.le_of_ble_eq_true rfl) (aX0_arc p1 p2 p3  σ)

theorem dX0_root_0 : decode cX0_root 0 = .ok (.iload_n 0, 1) := by decide +kernel
theorem dX0_root_1 : decode cX0_root 1 = .ok (.ifCond .ge 5, 3) := by decide +kernel
theorem dX0_root_4 : decode cX0_root 4 = .ok (.iconst (-1), 1) := by decide +kernel
theorem dX0_root_5 : decode cX0_root 5 = .ok (.ireturn, 1) := by decide +kernel
theorem dX0_root_6 : decode cX0_root 6 = .ok (.iconst 0, 1) := by decide +kernel
theorem dX0_root_7 : decode cX0_root 7 = .ok (.istore_n 1, 1) := by decide +kernel
theorem dX0_root_8 : decode cX0_root 8 = .ok (.bipush 64, 2) := by decide +kernel
theorem dX0_root_10 : decode cX0_root 10 = .ok (.istore_n 2, 1) := by decide +kernel
theorem dX0_root_11 : decode cX0_root 11 = .ok (.iload_n 2, 1) := by decide +kernel
theorem dX0_root_12 : decode cX0_root 12 = .ok (.ifCond .le 25, 3) := by decide +kernel
theorem dX0_root_15 : decode cX0_root 15 = .ok (.iload_n 1, 1) := by decide +kernel
theorem dX0_root_16 : decode cX0_root 16 = .ok (.iload_n 2, 1) := by decide +kernel
theorem dX0_root_17 : decode cX0_root 17 = .ok (.iadd, 1) := by decide +kernel
theorem dX0_root_18 : decode cX0_root 18 = .ok (.iload_n 1, 1) := by decide +kernel
theorem dX0_root_19 : decode cX0_root 19 = .ok (.iload_n 2, 1) := by decide +kernel
theorem dX0_root_20 : decode cX0_root 20 = .ok (.iadd, 1) := by decide +kernel
theorem dX0_root_21 : decode cX0_root 21 = .ok (.imul, 1) := by decide +kernel
theorem dX0_root_22 : decode cX0_root 22 = .ok (.iload_n 0, 1) := by decide +kernel
theorem dX0_root_23 : decode cX0_root 23 = .ok (.if_icmp .gt 7, 3) := by decide +kernel
theorem dX0_root_26 : decode cX0_root 26 = .ok (.iload_n 1, 1) := by decide +kernel
theorem dX0_root_27 : decode cX0_root 27 = .ok (.iload_n 2, 1) := by decide +kernel
theorem dX0_root_28 : decode cX0_root 28 = .ok (.iadd, 1) := by decide +kernel
theorem dX0_root_29 : decode cX0_root 29 = .ok (.istore_n 1, 1) := by decide +kernel
theorem dX0_root_30 : decode cX0_root 30 = .ok (.iload_n 2, 1) := by decide +kernel
theorem dX0_root_31 : decode cX0_root 31 = .ok (.iconst 1, 1) := by decide +kernel
theorem dX0_root_32 : decode cX0_root 32 = .ok (.ishr, 1) := by decide +kernel
theorem dX0_root_33 : decode cX0_root 33 = .ok (.istore_n 2, 1) := by decide +kernel
theorem dX0_root_34 : decode cX0_root 34 = .ok (.goto (-23), 3) := by decide +kernel
theorem dX0_root_37 : decode cX0_root 37 = .ok (.iload_n 1, 1) := by decide +kernel
theorem dX0_root_38 : decode cX0_root 38 = .ok (.ireturn, 1) := by decide +kernel
def fX0_root_b30 (N : Nat) (c11 : Int32 → Int32 → Int32 → Option Int32) (v0 : Int32) (v1 : Int32) (v2 : Int32) : Option Int32 :=
  (c11 v0 v1 (v2 >>> (1 &&& 31)))
set_option maxRecDepth 20000 in
set_option maxHeartbeats 4000000 in
theorem aX0_root_b30 (N : Nat) (σ : qMem) (c11 : Int32 → Int32 → Int32 → Option Int32) (hc11 : ∀ (v0 : Int32) (v1 : Int32) (v2 : Int32) , qAt wC mX0_root (ρp σ) 11 [(0, .int v0), (1, .int v1), (2, .int v2)] [] σ (c11 v0 v1 v2)) (v0 : Int32) (v1 : Int32) (v2 : Int32) : qAt wC mX0_root (ρp σ) 30 [(0, .int v0), (1, .int v1), (2, .int v2)] [] σ (fX0_root_b30 N c11 v0 v1 v2) := by
  unfold fX0_root_b30
  refine q_iload_n (i := 2) (x := v2) dX0_root_30 rfl 2 rfl ?_
  refine q_iconst (v := 1) dX0_root_31 (by decide) ?_
  refine q_ishr dX0_root_32 ?_
  refine q_istore_n (i := 2) (L' := [(2, .int (v2 >>> (1 &&& 31))), (0, .int v0), (1, .int v1)]) dX0_root_33 rfl (Nat.le_of_ble_eq_true rfl) rfl ?_
  refine q_goto (tgt := 11) dX0_root_34 (by decide) ?_
  exact q_sub [1, 2, 0] rfl (hc11 v0 v1 (v2 >>> (1 &&& 31)))

def fX0_root_s11 (N : Nat) (c11 : Int32 → Int32 → Int32 → Option Int32) (v0 : Int32) (v1 : Int32) (v2 : Int32) : Option Int32 :=
  (if v2 ≤ 0 then (some v1) else (if v0 < ((v1 + v2) * (v1 + v2)) then (fX0_root_b30 N c11 v0 v1 v2) else (fX0_root_b30 N c11 v0 (v1 + v2) v2)))
set_option maxRecDepth 20000 in
set_option maxHeartbeats 4000000 in
theorem aX0_root_s11 (N : Nat) (σ : qMem) (c11 : Int32 → Int32 → Int32 → Option Int32) (hc11 : ∀ (v0 : Int32) (v1 : Int32) (v2 : Int32) , qAt wC mX0_root (ρp σ) 11 [(0, .int v0), (1, .int v1), (2, .int v2)] [] σ (c11 v0 v1 v2)) (v0 : Int32) (v1 : Int32) (v2 : Int32) : qAt wC mX0_root (ρp σ) 11 [(0, .int v0), (1, .int v1), (2, .int v2)] [] σ (fX0_root_s11 N c11 v0 v1 v2) := by
  unfold fX0_root_s11
  refine q_iload_n (i := 2) (x := v2) dX0_root_11 rfl 2 rfl ?_
  refine q_if_le (tgt := 37) dX0_root_12 (by decide) ?_ ?_
  · refine q_iload_n (i := 1) (x := v1) dX0_root_37 rfl 1 rfl ?_
    exact q_ireti (y := v1) dX0_root_38 rfl rfl
  refine q_iload_n (i := 1) (x := v1) dX0_root_15 rfl 1 rfl ?_
  refine q_iload_n (i := 2) (x := v2) dX0_root_16 rfl 2 rfl ?_
  refine q_iadd dX0_root_17 ?_
  refine q_iload_n (i := 1) (x := v1) dX0_root_18 rfl 1 rfl ?_
  refine q_iload_n (i := 2) (x := v2) dX0_root_19 rfl 2 rfl ?_
  refine q_iadd dX0_root_20 ?_
  refine q_imul dX0_root_21 ?_
  refine q_iload_n (i := 0) (x := v0) dX0_root_22 rfl 0 rfl ?_
  refine q_icmp_gt (tgt := 30) dX0_root_23 (by decide) ?_ ?_
  · exact q_sub [0, 1, 2] rfl (aX0_root_b30 N σ c11 hc11 v0 v1 v2)
  refine q_iload_n (i := 1) (x := v1) dX0_root_26 rfl 1 rfl ?_
  refine q_iload_n (i := 2) (x := v2) dX0_root_27 rfl 2 rfl ?_
  refine q_iadd dX0_root_28 ?_
  refine q_istore_n (i := 1) (L' := [(1, .int (v1 + v2)), (0, .int v0), (2, .int v2)]) dX0_root_29 rfl (Nat.le_of_ble_eq_true rfl) rfl ?_
  exact q_sub [1, 0, 2] rfl (aX0_root_b30 N σ c11 hc11 v0 (v1 + v2) v2)
def fX0_root_l11 (N : Nat) : Nat → Int32 → Int32 → Int32 → Option Int32
  | 0 => fun _ _ _ => none
  | n + 1 => fun v0 v1 v2 => fX0_root_s11 N (fX0_root_l11 N n) v0 v1 v2
theorem aX0_root_l11 (N : Nat) (σ : qMem) : ∀ (n : Nat) (v0 : Int32) (v1 : Int32) (v2 : Int32), qAt wC mX0_root (ρp σ) 11 [(0, .int v0), (1, .int v1), (2, .int v2)] [] σ (fX0_root_l11 N n v0 v1 v2) := by
  intro n
  induction n with
  | zero => intro v0 v1 v2; exact q_none
  | succ n ih => intro v0 v1 v2; exact aX0_root_s11 N σ (fX0_root_l11 N n) ih v0 v1 v2

def fX0_root (N : Nat) (p0 : Int32) : Option Int32 :=
  (if 0 ≤ p0 then (fX0_root_l11 N N p0 0 64) else (some (-1)))
set_option maxRecDepth 20000 in
set_option maxHeartbeats 4000000 in
theorem aX0_root  (N : Nat) (p0 : Int32)  (σ : qMem) : qAt wC mX0_root (ρp σ) 0 [(0, .int p0)] [] σ (fX0_root N p0) := by
  unfold fX0_root
  refine q_iload_n (i := 0) (x := p0) dX0_root_0 rfl 0 rfl ?_
  refine q_if_ge (tgt := 6) dX0_root_1 (by decide) ?_ ?_
  · refine q_iconst (v := 0) dX0_root_6 (by decide) ?_
    refine q_istore_n (i := 1) (L' := [(1, .int 0), (0, .int p0)]) dX0_root_7 rfl (Nat.le_of_ble_eq_true rfl) rfl ?_
    refine q_bipush (v := 64) dX0_root_8 (by decide) ?_
    refine q_istore_n (i := 2) (L' := [(2, .int 64), (1, .int 0), (0, .int p0)]) dX0_root_10 rfl (Nat.le_of_ble_eq_true rfl) rfl ?_
    exact q_sub [2, 1, 0] rfl (aX0_root_l11 N σ N p0 0 64)
  refine q_iconst (v := (-1)) dX0_root_4 (by decide) ?_
  exact q_ireti (y := (-1)) dX0_root_5 rfl rfl
theorem kX0_root  (N : Nat) (p0 : Int32)  (σ : qMem) : qMc wC mX0_root (ρp σ) [.int p0] σ (fX0_root N p0) := qMc_of (moX0_root) (Nat.le_of_ble_eq_true rfl) (aX0_root N p0  σ)

theorem dX0_circle_0 : decode cX0_circle 0 = .ok (.iconst 0, 1) := by decide +kernel
theorem dX0_circle_1 : decode cX0_circle 1 = .ok (.iload_n 1, 1) := by decide +kernel
theorem dX0_circle_2 : decode cX0_circle 2 = .ok (.iload_n 2, 1) := by decide +kernel
theorem dX0_circle_3 : decode cX0_circle 3 = .ok (.isub, 1) := by decide +kernel
theorem dX0_circle_4 : decode cX0_circle 4 = .ok (.invokestatic 39, 3) := by decide +kernel
theorem dX0_circle_7 : decode cX0_circle 7 = .ok (.istore 4, 2) := by decide +kernel
theorem dX0_circle_9 : decode cX0_circle 9 = .ok (.iload_n 1, 1) := by decide +kernel
theorem dX0_circle_10 : decode cX0_circle 10 = .ok (.iload_n 2, 1) := by decide +kernel
theorem dX0_circle_11 : decode cX0_circle 11 = .ok (.iadd, 1) := by decide +kernel
theorem dX0_circle_12 : decode cX0_circle 12 = .ok (.istore 5, 2) := by decide +kernel
theorem dX0_circle_14 : decode cX0_circle 14 = .ok (.iload 5, 2) := by decide +kernel
theorem dX0_circle_16 : decode cX0_circle 16 = .ok (.iload 5, 2) := by decide +kernel
theorem dX0_circle_18 : decode cX0_circle 18 = .ok (.imul, 1) := by decide +kernel
theorem dX0_circle_19 : decode cX0_circle 19 = .ok (.iload_n 3, 1) := by decide +kernel
theorem dX0_circle_20 : decode cX0_circle 20 = .ok (.iload_n 3, 1) := by decide +kernel
theorem dX0_circle_21 : decode cX0_circle 21 = .ok (.imul, 1) := by decide +kernel
theorem dX0_circle_22 : decode cX0_circle 22 = .ok (.isub, 1) := by decide +kernel
theorem dX0_circle_23 : decode cX0_circle 23 = .ok (.invokestatic 55, 3) := by decide +kernel
theorem dX0_circle_26 : decode cX0_circle 26 = .ok (.istore 6, 2) := by decide +kernel
theorem dX0_circle_28 : decode cX0_circle 28 = .ok (.iload 4, 2) := by decide +kernel
theorem dX0_circle_30 : decode cX0_circle 30 = .ok (.iload 4, 2) := by decide +kernel
theorem dX0_circle_32 : decode cX0_circle 32 = .ok (.imul, 1) := by decide +kernel
theorem dX0_circle_33 : decode cX0_circle 33 = .ok (.iload_n 3, 1) := by decide +kernel
theorem dX0_circle_34 : decode cX0_circle 34 = .ok (.iload_n 3, 1) := by decide +kernel
theorem dX0_circle_35 : decode cX0_circle 35 = .ok (.imul, 1) := by decide +kernel
theorem dX0_circle_36 : decode cX0_circle 36 = .ok (.isub, 1) := by decide +kernel
theorem dX0_circle_37 : decode cX0_circle 37 = .ok (.iconst 1, 1) := by decide +kernel
theorem dX0_circle_38 : decode cX0_circle 38 = .ok (.isub, 1) := by decide +kernel
theorem dX0_circle_39 : decode cX0_circle 39 = .ok (.invokestatic 55, 3) := by decide +kernel
theorem dX0_circle_42 : decode cX0_circle 42 = .ok (.istore 7, 2) := by decide +kernel
theorem dX0_circle_44 : decode cX0_circle 44 = .ok (.aload_n 0, 1) := by decide +kernel
theorem dX0_circle_45 : decode cX0_circle 45 = .ok (.iload 6, 2) := by decide +kernel
theorem dX0_circle_47 : decode cX0_circle 47 = .ok (.ineg, 1) := by decide +kernel
theorem dX0_circle_48 : decode cX0_circle 48 = .ok (.iload 6, 2) := by decide +kernel
theorem dX0_circle_50 : decode cX0_circle 50 = .ok (.iload 7, 2) := by decide +kernel
theorem dX0_circle_52 : decode cX0_circle 52 = .ok (.ineg, 1) := by decide +kernel
theorem dX0_circle_53 : decode cX0_circle 53 = .ok (.iload 7, 2) := by decide +kernel
theorem dX0_circle_55 : decode cX0_circle 55 = .ok (.invokevirtual 30, 3) := by decide +kernel
theorem dX0_circle_58 : decode cX0_circle 58 = .ok (.return_, 1) := by decide +kernel

def fX0_circle (N : Nat) (p1 : Int32) (p2 : Int32) (p3 : Int32) (σ : qMem) : Option qMem :=
  ((fJ9_max_7cf53 0 (p1 - p2)).bind fun y1 => ((fX0_root N (((p1 + p2) * (p1 + p2)) - (p3 * p3))).bind fun y2 => ((fX0_root N (((y1 * y1) - (p3 * p3)) - 1)).bind fun y3 => ((fX0_mark (-y2) y2 (-y3) y3 σ).bind fun y4 => (some y4)))))
set_option maxRecDepth 20000 in
set_option maxHeartbeats 4000000 in
theorem aX0_circle  (N : Nat) (p1 : Int32) (p2 : Int32) (p3 : Int32)  (σ : qMem) : qAt wC mX0_circle (ρv) 0 [(0, .ref 62), (1, .int p1), (2, .int p2), (3, .int p3)] [] σ (fX0_circle N p1 p2 p3 σ) := by
  unfold fX0_circle
  refine q_iconst (v := 0) dX0_circle_0 (by decide) ?_
  refine q_iload_n (i := 1) (x := p1) dX0_circle_1 rfl 1 rfl ?_
  refine q_iload_n (i := 2) (x := p2) dX0_circle_2 rfl 2 rfl ?_
  refine q_isub dX0_circle_3 ?_
  refine q_cSp mJ9_max_7cf53 [.int 0, .int (p1 - p2)] (st := []) dX0_circle_4 (ssX0_39) ⟨Nat.le_of_ble_eq_true rfl, Nat.le_of_ble_eq_true rfl⟩ rfl rfl (Nat.le_of_ble_eq_true rfl) (kJ9_max_7cf53 0 (p1 - p2) σ) (fun y1 => ?_)
  refine q_istore (i := 4) (L' := [(4, .int y1), (0, .ref 62), (1, .int p1), (2, .int p2), (3, .int p3)]) dX0_circle_7 (Nat.le_of_ble_eq_true rfl) rfl ?_
  refine q_iload_n (i := 1) (x := p1) dX0_circle_9 rfl 2 rfl ?_
  refine q_iload_n (i := 2) (x := p2) dX0_circle_10 rfl 3 rfl ?_
  refine q_iadd dX0_circle_11 ?_
  refine q_istore (i := 5) (L' := [(5, .int (p1 + p2)), (4, .int y1), (0, .ref 62), (1, .int p1), (2, .int p2), (3, .int p3)]) dX0_circle_12 (Nat.le_of_ble_eq_true rfl) rfl ?_
  refine q_iload (i := 5) (x := (p1 + p2)) dX0_circle_14 0 rfl ?_
  refine q_iload (i := 5) (x := (p1 + p2)) dX0_circle_16 0 rfl ?_
  refine q_imul dX0_circle_18 ?_
  refine q_iload_n (i := 3) (x := p3) dX0_circle_19 rfl 5 rfl ?_
  refine q_iload_n (i := 3) (x := p3) dX0_circle_20 rfl 5 rfl ?_
  refine q_imul dX0_circle_21 ?_
  refine q_isub dX0_circle_22 ?_
  refine q_cSp mX0_root [.int (((p1 + p2) * (p1 + p2)) - (p3 * p3))] (st := []) dX0_circle_23 (ssX0_55) ⟨Nat.le_of_ble_eq_true rfl, Nat.le_of_ble_eq_true rfl⟩ rfl rfl (Nat.le_of_ble_eq_true rfl) (kX0_root N (((p1 + p2) * (p1 + p2)) - (p3 * p3)) σ) (fun y2 => ?_)
  refine q_istore (i := 6) (L' := [(6, .int y2), (5, .int (p1 + p2)), (4, .int y1), (0, .ref 62), (1, .int p1), (2, .int p2), (3, .int p3)]) dX0_circle_26 (Nat.le_of_ble_eq_true rfl) rfl ?_
  refine q_iload (i := 4) (x := y1) dX0_circle_28 2 rfl ?_
  refine q_iload (i := 4) (x := y1) dX0_circle_30 2 rfl ?_
  refine q_imul dX0_circle_32 ?_
  refine q_iload_n (i := 3) (x := p3) dX0_circle_33 rfl 6 rfl ?_
  refine q_iload_n (i := 3) (x := p3) dX0_circle_34 rfl 6 rfl ?_
  refine q_imul dX0_circle_35 ?_
  refine q_isub dX0_circle_36 ?_
  refine q_iconst (v := 1) dX0_circle_37 (by decide) ?_
  refine q_isub dX0_circle_38 ?_
  refine q_cSp mX0_root [.int (((y1 * y1) - (p3 * p3)) - 1)] (st := []) dX0_circle_39 (ssX0_55) ⟨Nat.le_of_ble_eq_true rfl, Nat.le_of_ble_eq_true rfl⟩ rfl rfl (Nat.le_of_ble_eq_true rfl) (kX0_root N (((y1 * y1) - (p3 * p3)) - 1) σ) (fun y3 => ?_)
  refine q_istore (i := 7) (L' := [(7, .int y3), (6, .int y2), (5, .int (p1 + p2)), (4, .int y1), (0, .ref 62), (1, .int p1), (2, .int p2), (3, .int p3)]) dX0_circle_42 (Nat.le_of_ble_eq_true rfl) rfl ?_
  refine q_aload_n (i := 0) (x := 62) dX0_circle_44 rfl 4 rfl ?_
  refine q_iload (i := 6) (x := y2) dX0_circle_45 1 rfl ?_
  refine q_ineg dX0_circle_47 ?_
  refine q_iload (i := 6) (x := y2) dX0_circle_48 1 rfl ?_
  refine q_iload (i := 7) (x := y3) dX0_circle_50 0 rfl ?_
  refine q_ineg dX0_circle_52 ?_
  refine q_iload (i := 7) (x := y3) dX0_circle_53 0 rfl ?_
  refine q_cVv mX0_mark [.int (-y2), .int y2, .int (-y3), .int y3] (st := []) dX0_circle_55 (svX0_30) ⟨Nat.le_of_ble_eq_true rfl, Nat.le_of_ble_eq_true rfl⟩ zC_62 rfl rfl rfl (Nat.le_of_ble_eq_true rfl) (kX0_mark (-y2) y2 (-y3) y3 σ) (fun y4 => ?_)
  exact q_vret (y := y4) dX0_circle_58 rfl rfl
theorem kX0_circle  (N : Nat) (p1 : Int32) (p2 : Int32) (p3 : Int32)  (σ : qMem) : qMc wC mX0_circle (ρv) [.ref 62, .int p1, .int p2, .int p3] σ (fX0_circle N p1 p2 p3 σ) := qMc_of (moX0_circle) (Nat.le_of_ble_eq_true rfl) (aX0_circle N p1 p2 p3  σ)

theorem dX0_bits_0 : decode cX0_bits 0 = .ok (.iload_n 0, 1) := by decide +kernel
theorem dX0_bits_1 : decode cX0_bits 1 = .ok (.iconst 0, 1) := by decide +kernel
theorem dX0_bits_2 : decode cX0_bits 2 = .ok (.invokestatic 39, 3) := by decide +kernel
theorem dX0_bits_5 : decode cX0_bits 5 = .ok (.istore_n 2, 1) := by decide +kernel
theorem dX0_bits_6 : decode cX0_bits 6 = .ok (.iload_n 1, 1) := by decide +kernel
theorem dX0_bits_7 : decode cX0_bits 7 = .ok (.bipush 31, 2) := by decide +kernel
theorem dX0_bits_9 : decode cX0_bits 9 = .ok (.invokestatic 42, 3) := by decide +kernel
theorem dX0_bits_12 : decode cX0_bits 12 = .ok (.istore_n 3, 1) := by decide +kernel
theorem dX0_bits_13 : decode cX0_bits 13 = .ok (.iload_n 2, 1) := by decide +kernel
theorem dX0_bits_14 : decode cX0_bits 14 = .ok (.iload_n 3, 1) := by decide +kernel
theorem dX0_bits_15 : decode cX0_bits 15 = .ok (.if_icmp .le 7, 3) := by decide +kernel
theorem dX0_bits_18 : decode cX0_bits 18 = .ok (.iconst 0, 1) := by decide +kernel
theorem dX0_bits_19 : decode cX0_bits 19 = .ok (.goto 13, 3) := by decide +kernel
theorem dX0_bits_22 : decode cX0_bits 22 = .ok (.iconst (-1), 1) := by decide +kernel
theorem dX0_bits_23 : decode cX0_bits 23 = .ok (.iload_n 2, 1) := by decide +kernel
theorem dX0_bits_24 : decode cX0_bits 24 = .ok (.ishl, 1) := by decide +kernel
theorem dX0_bits_25 : decode cX0_bits 25 = .ok (.iconst (-1), 1) := by decide +kernel
theorem dX0_bits_26 : decode cX0_bits 26 = .ok (.bipush 31, 2) := by decide +kernel
theorem dX0_bits_28 : decode cX0_bits 28 = .ok (.iload_n 3, 1) := by decide +kernel
theorem dX0_bits_29 : decode cX0_bits 29 = .ok (.isub, 1) := by decide +kernel
theorem dX0_bits_30 : decode cX0_bits 30 = .ok (.iushr, 1) := by decide +kernel
theorem dX0_bits_31 : decode cX0_bits 31 = .ok (.iand, 1) := by decide +kernel
theorem dX0_bits_32 : decode cX0_bits 32 = .ok (.ireturn, 1) := by decide +kernel

def fX0_bits (p0 : Int32) (p1 : Int32) : Option Int32 :=
  ((fJ9_max_7cf53 p0 0).bind fun y1 => ((fJ9_min_7cf53 p1 31).bind fun y2 => (if y1 ≤ y2 then (some ((((-1) : Int32) <<< (y1 &&& 31)) &&& (ushr ((-1) : Int32) (31 - y2)))) else (some 0))))
set_option maxRecDepth 20000 in
set_option maxHeartbeats 4000000 in
theorem aX0_bits  (p0 : Int32) (p1 : Int32)  (σ : qMem) : qAt wC mX0_bits (ρp σ) 0 [(0, .int p0), (1, .int p1)] [] σ (fX0_bits p0 p1) := by
  unfold fX0_bits
  refine q_iload_n (i := 0) (x := p0) dX0_bits_0 rfl 0 rfl ?_
  refine q_iconst (v := 0) dX0_bits_1 (by decide) ?_
  refine q_cSp mJ9_max_7cf53 [.int p0, .int 0] (st := []) dX0_bits_2 (ssX0_39) ⟨Nat.le_of_ble_eq_true rfl, Nat.le_of_ble_eq_true rfl⟩ rfl rfl (Nat.le_of_ble_eq_true rfl) (kJ9_max_7cf53 p0 0 σ) (fun y1 => ?_)
  refine q_istore_n (i := 2) (L' := [(2, .int y1), (0, .int p0), (1, .int p1)]) dX0_bits_5 rfl (Nat.le_of_ble_eq_true rfl) rfl ?_
  refine q_iload_n (i := 1) (x := p1) dX0_bits_6 rfl 2 rfl ?_
  refine q_bipush (v := 31) dX0_bits_7 (by decide) ?_
  refine q_cSp mJ9_min_7cf53 [.int p1, .int 31] (st := []) dX0_bits_9 (ssX0_42) ⟨Nat.le_of_ble_eq_true rfl, Nat.le_of_ble_eq_true rfl⟩ rfl rfl (Nat.le_of_ble_eq_true rfl) (kJ9_min_7cf53 p1 31 σ) (fun y2 => ?_)
  refine q_istore_n (i := 3) (L' := [(3, .int y2), (2, .int y1), (0, .int p0), (1, .int p1)]) dX0_bits_12 rfl (Nat.le_of_ble_eq_true rfl) rfl ?_
  refine q_iload_n (i := 2) (x := y1) dX0_bits_13 rfl 1 rfl ?_
  refine q_iload_n (i := 3) (x := y2) dX0_bits_14 rfl 0 rfl ?_
  refine q_icmp_le (tgt := 22) dX0_bits_15 (by decide) ?_ ?_
  · refine q_iconst (v := (-1)) dX0_bits_22 (by decide) ?_
    refine q_iload_n (i := 2) (x := y1) dX0_bits_23 rfl 1 rfl ?_
    refine q_ishl dX0_bits_24 ?_
    refine q_iconst (v := (-1)) dX0_bits_25 (by decide) ?_
    refine q_bipush (v := 31) dX0_bits_26 (by decide) ?_
    refine q_iload_n (i := 3) (x := y2) dX0_bits_28 rfl 0 rfl ?_
    refine q_isub dX0_bits_29 ?_
    refine q_iushr dX0_bits_30 ?_
    refine q_iand dX0_bits_31 ?_
    exact q_ireti (y := ((((-1) : Int32) <<< (y1 &&& 31)) &&& (ushr ((-1) : Int32) (31 - y2)))) dX0_bits_32 rfl rfl
  refine q_iconst (v := 0) dX0_bits_18 (by decide) ?_
  refine q_goto (tgt := 32) dX0_bits_19 (by decide) ?_
  exact q_ireti (y := 0) dX0_bits_32 rfl rfl
theorem kX0_bits  (p0 : Int32) (p1 : Int32)  (σ : qMem) : qMc wC mX0_bits (ρp σ) [.int p0, .int p1] σ (fX0_bits p0 p1) := qMc_of (moX0_bits) (Nat.le_of_ble_eq_true rfl) (aX0_bits p0 p1  σ)

theorem dX0_column_0 : decode cX0_column 0 = .ok (.aload_n 0, 1) := by decide +kernel
theorem dX0_column_1 : decode cX0_column 1 = .ok (.getfield 9, 3) := by decide +kernel
theorem dX0_column_4 : decode cX0_column 4 = .ok (.iload_n 1, 1) := by decide +kernel
theorem dX0_column_5 : decode cX0_column 5 = .ok (.isub, 1) := by decide +kernel
theorem dX0_column_6 : decode cX0_column 6 = .ok (.aload_n 0, 1) := by decide +kernel
theorem dX0_column_7 : decode cX0_column 7 = .ok (.getfield 15, 3) := by decide +kernel
theorem dX0_column_10 : decode cX0_column 10 = .ok (.iload_n 1, 1) := by decide +kernel
theorem dX0_column_11 : decode cX0_column 11 = .ok (.isub, 1) := by decide +kernel
theorem dX0_column_12 : decode cX0_column 12 = .ok (.invokestatic 58, 3) := by decide +kernel
theorem dX0_column_15 : decode cX0_column 15 = .ok (.istore_n 2, 1) := by decide +kernel
theorem dX0_column_16 : decode cX0_column 16 = .ok (.iload_n 2, 1) := by decide +kernel
theorem dX0_column_17 : decode cX0_column 17 = .ok (.ifCond .eq 14, 3) := by decide +kernel
theorem dX0_column_20 : decode cX0_column 20 = .ok (.aload_n 0, 1) := by decide +kernel
theorem dX0_column_21 : decode cX0_column 21 = .ok (.getfield 18, 3) := by decide +kernel
theorem dX0_column_24 : decode cX0_column 24 = .ok (.aload_n 0, 1) := by decide +kernel
theorem dX0_column_25 : decode cX0_column 25 = .ok (.getfield 21, 3) := by decide +kernel
theorem dX0_column_28 : decode cX0_column 28 = .ok (.if_icmp .le 7, 3) := by decide +kernel
theorem dX0_column_31 : decode cX0_column 31 = .ok (.iload_n 2, 1) := by decide +kernel
theorem dX0_column_32 : decode cX0_column 32 = .ok (.goto 22, 3) := by decide +kernel
theorem dX0_column_35 : decode cX0_column 35 = .ok (.iload_n 2, 1) := by decide +kernel
theorem dX0_column_36 : decode cX0_column 36 = .ok (.aload_n 0, 1) := by decide +kernel
theorem dX0_column_37 : decode cX0_column 37 = .ok (.getfield 18, 3) := by decide +kernel
theorem dX0_column_40 : decode cX0_column 40 = .ok (.iload_n 1, 1) := by decide +kernel
theorem dX0_column_41 : decode cX0_column 41 = .ok (.isub, 1) := by decide +kernel
theorem dX0_column_42 : decode cX0_column 42 = .ok (.aload_n 0, 1) := by decide +kernel
theorem dX0_column_43 : decode cX0_column 43 = .ok (.getfield 21, 3) := by decide +kernel
theorem dX0_column_46 : decode cX0_column 46 = .ok (.iload_n 1, 1) := by decide +kernel
theorem dX0_column_47 : decode cX0_column 47 = .ok (.isub, 1) := by decide +kernel
theorem dX0_column_48 : decode cX0_column 48 = .ok (.invokestatic 58, 3) := by decide +kernel
theorem dX0_column_51 : decode cX0_column 51 = .ok (.iconst (-1), 1) := by decide +kernel
theorem dX0_column_52 : decode cX0_column 52 = .ok (.ixor, 1) := by decide +kernel
theorem dX0_column_53 : decode cX0_column 53 = .ok (.iand, 1) := by decide +kernel
theorem dX0_column_54 : decode cX0_column 54 = .ok (.ireturn, 1) := by decide +kernel
def fX0_column_b31 (v2 : Int32) (σ : qMem) : Option Int32 :=
  (some v2)
set_option maxRecDepth 20000 in
set_option maxHeartbeats 4000000 in
theorem aX0_column_b31 (σ : qMem) (v2 : Int32) : qAt wC mX0_column (ρp σ) 31 [(2, .int v2)] [] σ (fX0_column_b31 v2 σ) := by
  unfold fX0_column_b31
  refine q_iload_n (i := 2) (x := v2) dX0_column_31 rfl 0 rfl ?_
  refine q_goto (tgt := 54) dX0_column_32 (by decide) ?_
  exact q_ireti (y := v2) dX0_column_54 rfl rfl

def fX0_column (p1 : Int32) (σ : qMem) : Option Int32 :=
  ((fX0_bits ((gi σ 62 0) - p1) ((gi σ 62 1) - p1)).bind fun y1 => (if y1 = 0 then (fX0_column_b31 y1 σ) else (if (gi σ 62 2) ≤ (gi σ 62 3) then ((fX0_bits ((gi σ 62 2) - p1) ((gi σ 62 3) - p1)).bind fun y2 => (some (y1 &&& (y2 ^^^ (-1))))) else (fX0_column_b31 y1 σ))))
set_option maxRecDepth 20000 in
set_option maxHeartbeats 4000000 in
theorem aX0_column  (p1 : Int32)  (σ : qMem) : qAt wC mX0_column (ρp σ) 0 [(0, .ref 62), (1, .int p1)] [] σ (fX0_column p1 σ) := by
  unfold fX0_column
  refine q_aload_n (i := 0) (x := 62) dX0_column_0 rfl 0 rfl ?_
  refine q_geti dX0_column_1 foX0_9 zC_62 rfl ?_
  refine q_iload_n (i := 1) (x := p1) dX0_column_4 rfl 1 rfl ?_
  refine q_isub dX0_column_5 ?_
  refine q_aload_n (i := 0) (x := 62) dX0_column_6 rfl 0 rfl ?_
  refine q_geti dX0_column_7 foX0_15 zC_62 rfl ?_
  refine q_iload_n (i := 1) (x := p1) dX0_column_10 rfl 1 rfl ?_
  refine q_isub dX0_column_11 ?_
  refine q_cSp mX0_bits [.int ((gi σ 62 0) - p1), .int ((gi σ 62 1) - p1)] (st := []) dX0_column_12 (ssX0_58) ⟨Nat.le_of_ble_eq_true rfl, Nat.le_of_ble_eq_true rfl⟩ rfl rfl (Nat.le_of_ble_eq_true rfl) (kX0_bits ((gi σ 62 0) - p1) ((gi σ 62 1) - p1) σ) (fun y1 => ?_)
  refine q_istore_n (i := 2) (L' := [(2, .int y1), (0, .ref 62), (1, .int p1)]) dX0_column_15 rfl (Nat.le_of_ble_eq_true rfl) rfl ?_
  refine q_iload_n (i := 2) (x := y1) dX0_column_16 rfl 0 rfl ?_
  refine q_if_eq (tgt := 31) dX0_column_17 (by decide) ?_ ?_
  · exact q_sub [0] rfl (aX0_column_b31 σ y1)
  refine q_aload_n (i := 0) (x := 62) dX0_column_20 rfl 1 rfl ?_
  refine q_geti dX0_column_21 foX0_18 zC_62 rfl ?_
  refine q_aload_n (i := 0) (x := 62) dX0_column_24 rfl 1 rfl ?_
  refine q_geti dX0_column_25 foX0_21 zC_62 rfl ?_
  refine q_icmp_le (tgt := 35) dX0_column_28 (by decide) ?_ ?_
  · refine q_iload_n (i := 2) (x := y1) dX0_column_35 rfl 0 rfl ?_
    refine q_aload_n (i := 0) (x := 62) dX0_column_36 rfl 1 rfl ?_
    refine q_geti dX0_column_37 foX0_18 zC_62 rfl ?_
    refine q_iload_n (i := 1) (x := p1) dX0_column_40 rfl 2 rfl ?_
    refine q_isub dX0_column_41 ?_
    refine q_aload_n (i := 0) (x := 62) dX0_column_42 rfl 1 rfl ?_
    refine q_geti dX0_column_43 foX0_21 zC_62 rfl ?_
    refine q_iload_n (i := 1) (x := p1) dX0_column_46 rfl 2 rfl ?_
    refine q_isub dX0_column_47 ?_
    refine q_cSp mX0_bits [.int ((gi σ 62 2) - p1), .int ((gi σ 62 3) - p1)] (st := [.int y1]) dX0_column_48 (ssX0_58) ⟨Nat.le_of_ble_eq_true rfl, Nat.le_of_ble_eq_true rfl⟩ rfl rfl (Nat.le_of_ble_eq_true rfl) (kX0_bits ((gi σ 62 2) - p1) ((gi σ 62 3) - p1) σ) (fun y2 => ?_)
    refine q_iconst (v := (-1)) dX0_column_51 (by decide) ?_
    refine q_ixor dX0_column_52 ?_
    refine q_iand dX0_column_53 ?_
    exact q_ireti (y := (y1 &&& (y2 ^^^ (-1)))) dX0_column_54 rfl rfl
  exact q_sub [0] rfl (aX0_column_b31 σ y1)
theorem kX0_column  (p1 : Int32)  (σ : qMem) : qMc wC mX0_column (ρp σ) [.ref 62, .int p1] σ (fX0_column p1 σ) := qMc_of (moX0_column) (Nat.le_of_ble_eq_true rfl) (aX0_column p1  σ)

theorem dX8_at_0 : decode cX8_at 0 = .ok (.iload_n 1, 1) := by decide +kernel
theorem dX8_at_1 : decode cX8_at 1 = .ok (.ifCond .lt 23, 3) := by decide +kernel
theorem dX8_at_4 : decode cX8_at 4 = .ok (.iload_n 1, 1) := by decide +kernel
theorem dX8_at_5 : decode cX8_at 5 = .ok (.aload_n 0, 1) := by decide +kernel
theorem dX8_at_6 : decode cX8_at 6 = .ok (.getfield 9, 3) := by decide +kernel
theorem dX8_at_9 : decode cX8_at 9 = .ok (.if_icmp .ge 15, 3) := by decide +kernel
theorem dX8_at_12 : decode cX8_at 12 = .ok (.iload_n 2, 1) := by decide +kernel
theorem dX8_at_13 : decode cX8_at 13 = .ok (.ifCond .lt 11, 3) := by decide +kernel
theorem dX8_at_16 : decode cX8_at 16 = .ok (.iload_n 2, 1) := by decide +kernel
theorem dX8_at_17 : decode cX8_at 17 = .ok (.aload_n 0, 1) := by decide +kernel
theorem dX8_at_18 : decode cX8_at 18 = .ok (.getfield 21, 3) := by decide +kernel
theorem dX8_at_21 : decode cX8_at 21 = .ok (.if_icmp .lt 5, 3) := by decide +kernel
theorem dX8_at_24 : decode cX8_at 24 = .ok (.iconst 0, 1) := by decide +kernel
theorem dX8_at_25 : decode cX8_at 25 = .ok (.ireturn, 1) := by decide +kernel
theorem dX8_at_26 : decode cX8_at 26 = .ok (.aload_n 0, 1) := by decide +kernel
theorem dX8_at_27 : decode cX8_at 27 = .ok (.getfield 27, 3) := by decide +kernel
theorem dX8_at_30 : decode cX8_at 30 = .ok (.iload_n 1, 1) := by decide +kernel
theorem dX8_at_31 : decode cX8_at 31 = .ok (.aload_n 0, 1) := by decide +kernel
theorem dX8_at_32 : decode cX8_at 32 = .ok (.getfield 21, 3) := by decide +kernel
theorem dX8_at_35 : decode cX8_at 35 = .ok (.imul, 1) := by decide +kernel
theorem dX8_at_36 : decode cX8_at 36 = .ok (.iload_n 2, 1) := by decide +kernel
theorem dX8_at_37 : decode cX8_at 37 = .ok (.iadd, 1) := by decide +kernel
theorem dX8_at_38 : decode cX8_at 38 = .ok (.iaload, 1) := by decide +kernel
theorem dX8_at_39 : decode cX8_at 39 = .ok (.ireturn, 1) := by decide +kernel

def fX8_at (k n : Nat) (p1 : Int32) (p2 : Int32) (σ : qMem) : Option Int32 :=
  (if p1 < 0 then (some 0) else (if (gi σ k 3) ≤ p1 then (some 0) else (if p2 < 0 then (some 0) else (if p2 < (gi σ k 0) then (if ck ((p1 * (gi σ k 0)) + p2) n = true then (some (gi σ (k + 1) ((p1 * (gi σ k 0)) + p2).toNatClampNeg)) else none) else (some 0)))))
set_option maxRecDepth 20000 in
set_option maxHeartbeats 4000000 in
theorem aX8_at  (k n : Nat) (p1 : Int32) (p2 : Int32) (hk : iRows k n) (σ : qMem) : qAt wC mX8_at (ρp σ) 0 [(0, .ref k), (1, .int p1), (2, .int p2)] [] σ (fX8_at k n p1 p2 σ) := by
  unfold fX8_at
  refine q_iload_n (i := 1) (x := p1) dX8_at_0 rfl 1 rfl ?_
  refine q_if_lt (tgt := 24) dX8_at_1 (by decide) ?_ ?_
  · refine q_iconst (v := 0) dX8_at_24 (by decide) ?_
    exact q_ireti (y := 0) dX8_at_25 rfl rfl
  refine q_iload_n (i := 1) (x := p1) dX8_at_4 rfl 1 rfl ?_
  refine q_aload_n (i := 0) (x := k) dX8_at_5 rfl 0 rfl ?_
  refine q_geti dX8_at_6 foX8_9 hk.1 rfl ?_
  refine q_icmp_ge (tgt := 24) dX8_at_9 (by decide) ?_ ?_
  · refine q_iconst (v := 0) dX8_at_24 (by decide) ?_
    exact q_ireti (y := 0) dX8_at_25 rfl rfl
  refine q_iload_n (i := 2) (x := p2) dX8_at_12 rfl 2 rfl ?_
  refine q_if_lt (tgt := 24) dX8_at_13 (by decide) ?_ ?_
  · refine q_iconst (v := 0) dX8_at_24 (by decide) ?_
    exact q_ireti (y := 0) dX8_at_25 rfl rfl
  refine q_iload_n (i := 2) (x := p2) dX8_at_16 rfl 2 rfl ?_
  refine q_aload_n (i := 0) (x := k) dX8_at_17 rfl 0 rfl ?_
  refine q_geti dX8_at_18 foX8_21 hk.1 rfl ?_
  refine q_icmp_lt (tgt := 26) dX8_at_21 (by decide) ?_ ?_
  · refine q_aload_n (i := 0) (x := k) dX8_at_26 rfl 0 rfl ?_
    refine q_getr (t := (k + 1)) dX8_at_27 foX8_27 hk.1 rfl ?_
    refine q_iload_n (i := 1) (x := p1) dX8_at_30 rfl 1 rfl ?_
    refine q_aload_n (i := 0) (x := k) dX8_at_31 rfl 0 rfl ?_
    refine q_geti dX8_at_32 foX8_21 hk.1 rfl ?_
    refine q_imul dX8_at_35 ?_
    refine q_iload_n (i := 2) (x := p2) dX8_at_36 rfl 2 rfl ?_
    refine q_iadd dX8_at_37 ?_
    refine q_iald dX8_at_38 hk.2 ?_
    exact q_ireti (y := (gi σ (k + 1) ((p1 * (gi σ k 0)) + p2).toNatClampNeg)) dX8_at_39 rfl rfl
  refine q_iconst (v := 0) dX8_at_24 (by decide) ?_
  exact q_ireti (y := 0) dX8_at_25 rfl rfl
theorem kX8_at  (k n : Nat) (p1 : Int32) (p2 : Int32) (hk : iRows k n) (σ : qMem) : qMc wC mX8_at (ρp σ) [.ref k, .int p1, .int p2] σ (fX8_at k n p1 p2 σ) := qMc_of (moX8_at) (Nat.le_of_ble_eq_true rfl) (aX8_at k n p1 p2 hk σ)

theorem dX1_follow_0 : decode cX1_follow 0 = .ok (.aload_n 0, 1) := by decide +kernel
theorem dX1_follow_1 : decode cX1_follow 1 = .ok (.getfield 20, 3) := by decide +kernel
theorem dX1_follow_4 : decode cX1_follow 4 = .ok (.iconst 0, 1) := by decide +kernel
theorem dX1_follow_5 : decode cX1_follow 5 = .ok (.iaload, 1) := by decide +kernel
theorem dX1_follow_6 : decode cX1_follow 6 = .ok (.istore_n 1, 1) := by decide +kernel
theorem dX1_follow_7 : decode cX1_follow 7 = .ok (.aload_n 0, 1) := by decide +kernel
theorem dX1_follow_8 : decode cX1_follow 8 = .ok (.getfield 24, 3) := by decide +kernel
theorem dX1_follow_11 : decode cX1_follow 11 = .ok (.iconst 0, 1) := by decide +kernel
theorem dX1_follow_12 : decode cX1_follow 12 = .ok (.iaload, 1) := by decide +kernel
theorem dX1_follow_13 : decode cX1_follow 13 = .ok (.istore_n 2, 1) := by decide +kernel
theorem dX1_follow_14 : decode cX1_follow 14 = .ok (.iconst 0, 1) := by decide +kernel
theorem dX1_follow_15 : decode cX1_follow 15 = .ok (.istore_n 3, 1) := by decide +kernel
theorem dX1_follow_16 : decode cX1_follow 16 = .ok (.iconst 0, 1) := by decide +kernel
theorem dX1_follow_17 : decode cX1_follow 17 = .ok (.istore 4, 2) := by decide +kernel
theorem dX1_follow_19 : decode cX1_follow 19 = .ok (.iconst 0, 1) := by decide +kernel
theorem dX1_follow_20 : decode cX1_follow 20 = .ok (.istore 5, 2) := by decide +kernel
theorem dX1_follow_22 : decode cX1_follow 22 = .ok (.iconst 0, 1) := by decide +kernel
theorem dX1_follow_23 : decode cX1_follow 23 = .ok (.istore 6, 2) := by decide +kernel
theorem dX1_follow_25 : decode cX1_follow 25 = .ok (.iload 6, 2) := by decide +kernel
theorem dX1_follow_27 : decode cX1_follow 27 = .ok (.bipush 24, 2) := by decide +kernel
theorem dX1_follow_29 : decode cX1_follow 29 = .ok (.if_icmp .ge 106, 3) := by decide +kernel
theorem dX1_follow_32 : decode cX1_follow 32 = .ok (.iload 5, 2) := by decide +kernel
theorem dX1_follow_34 : decode cX1_follow 34 = .ok (.aload_n 0, 1) := by decide +kernel
theorem dX1_follow_35 : decode cX1_follow 35 = .ok (.getfield 14, 3) := by decide +kernel
theorem dX1_follow_38 : decode cX1_follow 38 = .ok (.getfield 34, 3) := by decide +kernel
theorem dX1_follow_41 : decode cX1_follow 41 = .ok (.if_icmp .ge 44, 3) := by decide +kernel
theorem dX1_follow_44 : decode cX1_follow 44 = .ok (.aload_n 0, 1) := by decide +kernel
theorem dX1_follow_45 : decode cX1_follow 45 = .ok (.getfield 14, 3) := by decide +kernel
theorem dX1_follow_48 : decode cX1_follow 48 = .ok (.iload 5, 2) := by decide +kernel
theorem dX1_follow_50 : decode cX1_follow 50 = .ok (.iconst 0, 1) := by decide +kernel
theorem dX1_follow_51 : decode cX1_follow 51 = .ok (.invokevirtual 40, 3) := by decide +kernel
theorem dX1_follow_54 : decode cX1_follow 54 = .ok (.iload 6, 2) := by decide +kernel
theorem dX1_follow_56 : decode cX1_follow 56 = .ok (.if_icmp .ne 29, 3) := by decide +kernel
theorem dX1_follow_59 : decode cX1_follow 59 = .ok (.aload_n 0, 1) := by decide +kernel
theorem dX1_follow_60 : decode cX1_follow 60 = .ok (.getfield 14, 3) := by decide +kernel
theorem dX1_follow_63 : decode cX1_follow 63 = .ok (.iload 5, 2) := by decide +kernel
theorem dX1_follow_65 : decode cX1_follow 65 = .ok (.iconst 1, 1) := by decide +kernel
theorem dX1_follow_66 : decode cX1_follow 66 = .ok (.invokevirtual 40, 3) := by decide +kernel
theorem dX1_follow_69 : decode cX1_follow 69 = .ok (.istore_n 3, 1) := by decide +kernel
theorem dX1_follow_70 : decode cX1_follow 70 = .ok (.aload_n 0, 1) := by decide +kernel
theorem dX1_follow_71 : decode cX1_follow 71 = .ok (.getfield 14, 3) := by decide +kernel
theorem dX1_follow_74 : decode cX1_follow 74 = .ok (.iload 5, 2) := by decide +kernel
theorem dX1_follow_76 : decode cX1_follow 76 = .ok (.iconst 2, 1) := by decide +kernel
theorem dX1_follow_77 : decode cX1_follow 77 = .ok (.invokevirtual 40, 3) := by decide +kernel
theorem dX1_follow_80 : decode cX1_follow 80 = .ok (.istore 4, 2) := by decide +kernel
theorem dX1_follow_82 : decode cX1_follow 82 = .ok (.iinc 5 1, 3) := by decide +kernel
theorem dX1_follow_85 : decode cX1_follow 85 = .ok (.aload_n 0, 1) := by decide +kernel
theorem dX1_follow_86 : decode cX1_follow 86 = .ok (.getfield 20, 3) := by decide +kernel
theorem dX1_follow_89 : decode cX1_follow 89 = .ok (.iload 6, 2) := by decide +kernel
theorem dX1_follow_91 : decode cX1_follow 91 = .ok (.iload_n 1, 1) := by decide +kernel
theorem dX1_follow_92 : decode cX1_follow 92 = .ok (.iastore, 1) := by decide +kernel
theorem dX1_follow_93 : decode cX1_follow 93 = .ok (.aload_n 0, 1) := by decide +kernel
theorem dX1_follow_94 : decode cX1_follow 94 = .ok (.getfield 24, 3) := by decide +kernel
theorem dX1_follow_97 : decode cX1_follow 97 = .ok (.iload 6, 2) := by decide +kernel
theorem dX1_follow_99 : decode cX1_follow 99 = .ok (.iload_n 2, 1) := by decide +kernel
theorem dX1_follow_100 : decode cX1_follow 100 = .ok (.iastore, 1) := by decide +kernel
theorem dX1_follow_101 : decode cX1_follow 101 = .ok (.aload_n 0, 1) := by decide +kernel
theorem dX1_follow_102 : decode cX1_follow 102 = .ok (.getfield 27, 3) := by decide +kernel
theorem dX1_follow_105 : decode cX1_follow 105 = .ok (.iload 6, 2) := by decide +kernel
theorem dX1_follow_107 : decode cX1_follow 107 = .ok (.iload_n 3, 1) := by decide +kernel
theorem dX1_follow_108 : decode cX1_follow 108 = .ok (.invokestatic 44, 3) := by decide +kernel
theorem dX1_follow_111 : decode cX1_follow 111 = .ok (.iload 4, 2) := by decide +kernel
theorem dX1_follow_113 : decode cX1_follow 113 = .ok (.invokestatic 44, 3) := by decide +kernel
theorem dX1_follow_116 : decode cX1_follow 116 = .ok (.invokestatic 50, 3) := by decide +kernel
theorem dX1_follow_119 : decode cX1_follow 119 = .ok (.iastore, 1) := by decide +kernel
theorem dX1_follow_120 : decode cX1_follow 120 = .ok (.iload_n 1, 1) := by decide +kernel
theorem dX1_follow_121 : decode cX1_follow 121 = .ok (.iload_n 3, 1) := by decide +kernel
theorem dX1_follow_122 : decode cX1_follow 122 = .ok (.iadd, 1) := by decide +kernel
theorem dX1_follow_123 : decode cX1_follow 123 = .ok (.istore_n 1, 1) := by decide +kernel
theorem dX1_follow_124 : decode cX1_follow 124 = .ok (.iload_n 2, 1) := by decide +kernel
theorem dX1_follow_125 : decode cX1_follow 125 = .ok (.iload 4, 2) := by decide +kernel
theorem dX1_follow_127 : decode cX1_follow 127 = .ok (.iadd, 1) := by decide +kernel
theorem dX1_follow_128 : decode cX1_follow 128 = .ok (.istore_n 2, 1) := by decide +kernel
theorem dX1_follow_129 : decode cX1_follow 129 = .ok (.iinc 6 1, 3) := by decide +kernel
theorem dX1_follow_132 : decode cX1_follow 132 = .ok (.goto (-107), 3) := by decide +kernel
theorem dX1_follow_135 : decode cX1_follow 135 = .ok (.return_, 1) := by decide +kernel
def fX1_follow_b85 (N : Nat) (k : Nat) (c25 : Int32 → Int32 → Int32 → Int32 → Int32 → Int32 → qMem → Option qMem) (v1 : Int32) (v2 : Int32) (v3 : Int32) (v4 : Int32) (v5 : Int32) (v6 : Int32) (σ : qMem) : Option qMem :=
  (if ck v6 24 = true then (nmM (si σ (k + 3) v6.toNatClampNeg v1) fun s6 => (if ck v6 24 = true then (nmM (si s6 (k + 4) v6.toNatClampNeg v2) fun s7 => ((fJ9_abs_0f7a4 v3).bind fun y8 => ((fJ9_abs_0f7a4 v4).bind fun y9 => ((fJ9_max_7cf53 y8 y9).bind fun y10 => (if ck v6 24 = true then (nmM (si s7 (k + 5) v6.toNatClampNeg y10) fun s11 => (c25 (v1 + v3) (v2 + v4) v3 v4 v5 (v6 + 1) s11)) else none))))) else none)) else none)
set_option maxRecDepth 20000 in
set_option maxHeartbeats 4000000 in
theorem aX1_follow_b85 (N : Nat) (k : Nat) (hk : iBoat k) (c25 : Int32 → Int32 → Int32 → Int32 → Int32 → Int32 → qMem → Option qMem) (hc25 : ∀ (v1 : Int32) (v2 : Int32) (v3 : Int32) (v4 : Int32) (v5 : Int32) (v6 : Int32) (σ : qMem), qAt wC mX1_follow (ρv) 25 [(0, .ref k), (1, .int v1), (2, .int v2), (3, .int v3), (4, .int v4), (5, .int v5), (6, .int v6)] [] σ (c25 v1 v2 v3 v4 v5 v6 σ)) (v1 : Int32) (v2 : Int32) (v3 : Int32) (v4 : Int32) (v5 : Int32) (v6 : Int32) (σ : qMem) : qAt wC mX1_follow (ρv) 85 [(0, .ref k), (1, .int v1), (2, .int v2), (3, .int v3), (4, .int v4), (5, .int v5), (6, .int v6)] [] σ (fX1_follow_b85 N k c25 v1 v2 v3 v4 v5 v6 σ) := by
  unfold fX1_follow_b85
  refine q_aload_n (i := 0) (x := k) dX1_follow_85 rfl 0 rfl ?_
  refine q_getr (t := (k + 3)) dX1_follow_86 foX1_20 hk.1 rfl ?_
  refine q_iload (i := 6) (x := v6) dX1_follow_89 6 rfl ?_
  refine q_iload_n (i := 1) (x := v1) dX1_follow_91 rfl 1 rfl ?_
  refine q_iast dX1_follow_92 hk.2.2.1 ?_
  refine q_nmM (fun s6 => ?_)
  refine q_aload_n (i := 0) (x := k) dX1_follow_93 rfl 0 rfl ?_
  refine q_getr (t := (k + 4)) dX1_follow_94 foX1_24 hk.1 rfl ?_
  refine q_iload (i := 6) (x := v6) dX1_follow_97 6 rfl ?_
  refine q_iload_n (i := 2) (x := v2) dX1_follow_99 rfl 2 rfl ?_
  refine q_iast dX1_follow_100 hk.2.2.2.1 ?_
  refine q_nmM (fun s7 => ?_)
  refine q_aload_n (i := 0) (x := k) dX1_follow_101 rfl 0 rfl ?_
  refine q_getr (t := (k + 5)) dX1_follow_102 foX1_27 hk.1 rfl ?_
  refine q_iload (i := 6) (x := v6) dX1_follow_105 6 rfl ?_
  refine q_iload_n (i := 3) (x := v3) dX1_follow_107 rfl 3 rfl ?_
  refine q_cSp mJ9_abs_0f7a4 [.int v3] (st := [.int v6, .ref (k + 5)]) dX1_follow_108 (ssX1_44) ⟨Nat.le_of_ble_eq_true rfl, Nat.le_of_ble_eq_true rfl⟩ rfl rfl (Nat.le_of_ble_eq_true rfl) (kJ9_abs_0f7a4 v3 s7) (fun y8 => ?_)
  refine q_iload (i := 4) (x := v4) dX1_follow_111 4 rfl ?_
  refine q_cSp mJ9_abs_0f7a4 [.int v4] (st := [.int y8, .int v6, .ref (k + 5)]) dX1_follow_113 (ssX1_44) ⟨Nat.le_of_ble_eq_true rfl, Nat.le_of_ble_eq_true rfl⟩ rfl rfl (Nat.le_of_ble_eq_true rfl) (kJ9_abs_0f7a4 v4 s7) (fun y9 => ?_)
  refine q_cSp mJ9_max_7cf53 [.int y8, .int y9] (st := [.int v6, .ref (k + 5)]) dX1_follow_116 (ssX1_50) ⟨Nat.le_of_ble_eq_true rfl, Nat.le_of_ble_eq_true rfl⟩ rfl rfl (Nat.le_of_ble_eq_true rfl) (kJ9_max_7cf53 y8 y9 s7) (fun y10 => ?_)
  refine q_iast dX1_follow_119 hk.2.2.2.2 ?_
  refine q_nmM (fun s11 => ?_)
  refine q_iload_n (i := 1) (x := v1) dX1_follow_120 rfl 1 rfl ?_
  refine q_iload_n (i := 3) (x := v3) dX1_follow_121 rfl 3 rfl ?_
  refine q_iadd dX1_follow_122 ?_
  refine q_istore_n (i := 1) (L' := [(1, .int (v1 + v3)), (0, .ref k), (2, .int v2), (3, .int v3), (4, .int v4), (5, .int v5), (6, .int v6)]) dX1_follow_123 rfl (Nat.le_of_ble_eq_true rfl) rfl ?_
  refine q_iload_n (i := 2) (x := v2) dX1_follow_124 rfl 2 rfl ?_
  refine q_iload (i := 4) (x := v4) dX1_follow_125 4 rfl ?_
  refine q_iadd dX1_follow_127 ?_
  refine q_istore_n (i := 2) (L' := [(2, .int (v2 + v4)), (1, .int (v1 + v3)), (0, .ref k), (3, .int v3), (4, .int v4), (5, .int v5), (6, .int v6)]) dX1_follow_128 rfl (Nat.le_of_ble_eq_true rfl) rfl ?_
  refine q_iinc (i := 6) (x := v6) (v := (v6 + 1)) (L' := [(6, .int (v6 + 1)), (2, .int (v2 + v4)), (1, .int (v1 + v3)), (0, .ref k), (3, .int v3), (4, .int v4), (5, .int v5)]) dX1_follow_129 6 rfl (q_cst v6 (by decide)) (Nat.le_of_ble_eq_true rfl) rfl ?_
  refine q_goto (tgt := 25) dX1_follow_132 (by decide) ?_
  exact q_sub [3, 2, 1, 4, 5, 6, 0] rfl (hc25 (v1 + v3) (v2 + v4) v3 v4 v5 (v6 + 1) s11)

def fX1_follow_s25 (N : Nat) (k : Nat) (c25 : Int32 → Int32 → Int32 → Int32 → Int32 → Int32 → qMem → Option qMem) (v1 : Int32) (v2 : Int32) (v3 : Int32) (v4 : Int32) (v5 : Int32) (v6 : Int32) (σ : qMem) : Option qMem :=
  (if 24 ≤ v6 then (some σ) else (if (gi σ (k + 1) 3) ≤ v5 then (fX1_follow_b85 N k c25 v1 v2 v3 v4 v5 v6 σ) else ((fX8_at (k + 1) 18 v5 0 σ).bind fun y3 => (if y3 = v6 then ((fX8_at (k + 1) 18 v5 1 σ).bind fun y4 => ((fX8_at (k + 1) 18 v5 2 σ).bind fun y5 => (fX1_follow_b85 N k c25 v1 v2 y4 y5 (v5 + 1) v6 σ))) else (fX1_follow_b85 N k c25 v1 v2 v3 v4 v5 v6 σ)))))
set_option maxRecDepth 20000 in
set_option maxHeartbeats 4000000 in
theorem aX1_follow_s25 (N : Nat) (k : Nat) (hk : iBoat k) (c25 : Int32 → Int32 → Int32 → Int32 → Int32 → Int32 → qMem → Option qMem) (hc25 : ∀ (v1 : Int32) (v2 : Int32) (v3 : Int32) (v4 : Int32) (v5 : Int32) (v6 : Int32) (σ : qMem), qAt wC mX1_follow (ρv) 25 [(0, .ref k), (1, .int v1), (2, .int v2), (3, .int v3), (4, .int v4), (5, .int v5), (6, .int v6)] [] σ (c25 v1 v2 v3 v4 v5 v6 σ)) (v1 : Int32) (v2 : Int32) (v3 : Int32) (v4 : Int32) (v5 : Int32) (v6 : Int32) (σ : qMem) : qAt wC mX1_follow (ρv) 25 [(0, .ref k), (1, .int v1), (2, .int v2), (3, .int v3), (4, .int v4), (5, .int v5), (6, .int v6)] [] σ (fX1_follow_s25 N k c25 v1 v2 v3 v4 v5 v6 σ) := by
  unfold fX1_follow_s25
  refine q_iload (i := 6) (x := v6) dX1_follow_25 6 rfl ?_
  refine q_bipush (v := 24) dX1_follow_27 (by decide) ?_
  refine q_icmp_ge (tgt := 135) dX1_follow_29 (by decide) ?_ ?_
  · exact q_vret (y := σ) dX1_follow_135 rfl rfl
  refine q_iload (i := 5) (x := v5) dX1_follow_32 5 rfl ?_
  refine q_aload_n (i := 0) (x := k) dX1_follow_34 rfl 0 rfl ?_
  refine q_getr (t := (k + 1)) dX1_follow_35 foX1_14 hk.1 rfl ?_
  refine q_geti dX1_follow_38 foX1_34 hk.2.1.1 rfl ?_
  refine q_icmp_ge (tgt := 85) dX1_follow_41 (by decide) ?_ ?_
  · exact q_sub [0, 1, 2, 3, 4, 5, 6] rfl (aX1_follow_b85 N k hk c25 hc25 v1 v2 v3 v4 v5 v6 σ)
  refine q_aload_n (i := 0) (x := k) dX1_follow_44 rfl 0 rfl ?_
  refine q_getr (t := (k + 1)) dX1_follow_45 foX1_14 hk.1 rfl ?_
  refine q_iload (i := 5) (x := v5) dX1_follow_48 5 rfl ?_
  refine q_iconst (v := 0) dX1_follow_50 (by decide) ?_
  refine q_cVp mX8_at [.int v5, .int 0] (st := []) dX1_follow_51 (svX1_40) ⟨Nat.le_of_ble_eq_true rfl, Nat.le_of_ble_eq_true rfl⟩ hk.2.1.1 rfl rfl rfl (Nat.le_of_ble_eq_true rfl) (kX8_at (k + 1) 18 v5 0 hk.2.1 σ) (fun y3 => ?_)
  refine q_iload (i := 6) (x := v6) dX1_follow_54 6 rfl ?_
  refine q_icmp_ne (tgt := 85) dX1_follow_56 (by decide) ?_ ?_
  · exact q_sub [0, 1, 2, 3, 4, 5, 6] rfl (aX1_follow_b85 N k hk c25 hc25 v1 v2 v3 v4 v5 v6 σ)
  refine q_aload_n (i := 0) (x := k) dX1_follow_59 rfl 0 rfl ?_
  refine q_getr (t := (k + 1)) dX1_follow_60 foX1_14 hk.1 rfl ?_
  refine q_iload (i := 5) (x := v5) dX1_follow_63 5 rfl ?_
  refine q_iconst (v := 1) dX1_follow_65 (by decide) ?_
  refine q_cVp mX8_at [.int v5, .int 1] (st := []) dX1_follow_66 (svX1_40) ⟨Nat.le_of_ble_eq_true rfl, Nat.le_of_ble_eq_true rfl⟩ hk.2.1.1 rfl rfl rfl (Nat.le_of_ble_eq_true rfl) (kX8_at (k + 1) 18 v5 1 hk.2.1 σ) (fun y4 => ?_)
  refine q_istore_n (i := 3) (L' := [(3, .int y4), (0, .ref k), (1, .int v1), (2, .int v2), (4, .int v4), (5, .int v5), (6, .int v6)]) dX1_follow_69 rfl (Nat.le_of_ble_eq_true rfl) rfl ?_
  refine q_aload_n (i := 0) (x := k) dX1_follow_70 rfl 1 rfl ?_
  refine q_getr (t := (k + 1)) dX1_follow_71 foX1_14 hk.1 rfl ?_
  refine q_iload (i := 5) (x := v5) dX1_follow_74 5 rfl ?_
  refine q_iconst (v := 2) dX1_follow_76 (by decide) ?_
  refine q_cVp mX8_at [.int v5, .int 2] (st := []) dX1_follow_77 (svX1_40) ⟨Nat.le_of_ble_eq_true rfl, Nat.le_of_ble_eq_true rfl⟩ hk.2.1.1 rfl rfl rfl (Nat.le_of_ble_eq_true rfl) (kX8_at (k + 1) 18 v5 2 hk.2.1 σ) (fun y5 => ?_)
  refine q_istore (i := 4) (L' := [(4, .int y5), (3, .int y4), (0, .ref k), (1, .int v1), (2, .int v2), (5, .int v5), (6, .int v6)]) dX1_follow_80 (Nat.le_of_ble_eq_true rfl) rfl ?_
  refine q_iinc (i := 5) (x := v5) (v := (v5 + 1)) (L' := [(5, .int (v5 + 1)), (4, .int y5), (3, .int y4), (0, .ref k), (1, .int v1), (2, .int v2), (6, .int v6)]) dX1_follow_82 5 rfl (q_cst v5 (by decide)) (Nat.le_of_ble_eq_true rfl) rfl ?_
  exact q_sub [3, 4, 5, 2, 1, 0, 6] rfl (aX1_follow_b85 N k hk c25 hc25 v1 v2 y4 y5 (v5 + 1) v6 σ)
def fX1_follow_l25 (N : Nat) (k : Nat) : Nat → Int32 → Int32 → Int32 → Int32 → Int32 → Int32 → qMem → Option qMem
  | 0 => fun _ _ _ _ _ _ _ => none
  | n + 1 => fun v1 v2 v3 v4 v5 v6 σ => fX1_follow_s25 N k (fX1_follow_l25 N k n) v1 v2 v3 v4 v5 v6 σ
theorem aX1_follow_l25 (N : Nat) (k : Nat) (hk : iBoat k) : ∀ (n : Nat) (v1 : Int32) (v2 : Int32) (v3 : Int32) (v4 : Int32) (v5 : Int32) (v6 : Int32) (σ : qMem), qAt wC mX1_follow (ρv) 25 [(0, .ref k), (1, .int v1), (2, .int v2), (3, .int v3), (4, .int v4), (5, .int v5), (6, .int v6)] [] σ (fX1_follow_l25 N k n v1 v2 v3 v4 v5 v6 σ) := by
  intro n
  induction n with
  | zero => intro v1 v2 v3 v4 v5 v6 σ; exact q_none
  | succ n ih => intro v1 v2 v3 v4 v5 v6 σ; exact aX1_follow_s25 N k hk (fX1_follow_l25 N k n) ih v1 v2 v3 v4 v5 v6 σ

def fX1_follow (N : Nat) (k : Nat) (σ : qMem) : Option qMem :=
  (if ck 0 24 = true then (nmI (gi σ (k + 3) (0 : Int32).toNatClampNeg) fun x1 => (if ck 0 24 = true then (nmI (gi σ (k + 4) (0 : Int32).toNatClampNeg) fun x2 => (fX1_follow_l25 N k N x1 x2 0 0 0 0 σ)) else none)) else none)
set_option maxRecDepth 20000 in
set_option maxHeartbeats 4000000 in
theorem aX1_follow  (N : Nat) (k : Nat) (hk : iBoat k) (σ : qMem) : qAt wC mX1_follow (ρv) 0 [(0, .ref k)] [] σ (fX1_follow N k σ) := by
  unfold fX1_follow
  refine q_aload_n (i := 0) (x := k) dX1_follow_0 rfl 0 rfl ?_
  refine q_getr (t := (k + 3)) dX1_follow_1 foX1_20 hk.1 rfl ?_
  refine q_iconst (v := 0) dX1_follow_4 (by decide) ?_
  refine q_iald dX1_follow_5 hk.2.2.1 ?_
  refine q_nmI (fun x1 => ?_)
  refine q_istore_n (i := 1) (L' := [(1, .int x1), (0, .ref k)]) dX1_follow_6 rfl (Nat.le_of_ble_eq_true rfl) rfl ?_
  refine q_aload_n (i := 0) (x := k) dX1_follow_7 rfl 1 rfl ?_
  refine q_getr (t := (k + 4)) dX1_follow_8 foX1_24 hk.1 rfl ?_
  refine q_iconst (v := 0) dX1_follow_11 (by decide) ?_
  refine q_iald dX1_follow_12 hk.2.2.2.1 ?_
  refine q_nmI (fun x2 => ?_)
  refine q_istore_n (i := 2) (L' := [(2, .int x2), (1, .int x1), (0, .ref k)]) dX1_follow_13 rfl (Nat.le_of_ble_eq_true rfl) rfl ?_
  refine q_iconst (v := 0) dX1_follow_14 (by decide) ?_
  refine q_istore_n (i := 3) (L' := [(3, .int 0), (2, .int x2), (1, .int x1), (0, .ref k)]) dX1_follow_15 rfl (Nat.le_of_ble_eq_true rfl) rfl ?_
  refine q_iconst (v := 0) dX1_follow_16 (by decide) ?_
  refine q_istore (i := 4) (L' := [(4, .int 0), (3, .int 0), (2, .int x2), (1, .int x1), (0, .ref k)]) dX1_follow_17 (Nat.le_of_ble_eq_true rfl) rfl ?_
  refine q_iconst (v := 0) dX1_follow_19 (by decide) ?_
  refine q_istore (i := 5) (L' := [(5, .int 0), (4, .int 0), (3, .int 0), (2, .int x2), (1, .int x1), (0, .ref k)]) dX1_follow_20 (Nat.le_of_ble_eq_true rfl) rfl ?_
  refine q_iconst (v := 0) dX1_follow_22 (by decide) ?_
  refine q_istore (i := 6) (L' := [(6, .int 0), (5, .int 0), (4, .int 0), (3, .int 0), (2, .int x2), (1, .int x1), (0, .ref k)]) dX1_follow_23 (Nat.le_of_ble_eq_true rfl) rfl ?_
  exact q_sub [6, 5, 4, 3, 2, 1, 0] rfl (aX1_follow_l25 N k hk N x1 x2 0 0 0 0 σ)
theorem kX1_follow  (N : Nat) (k : Nat) (hk : iBoat k) (σ : qMem) : qMc wC mX1_follow (ρv) [.ref k] σ (fX1_follow N k σ) := qMc_of (moX1_follow) (Nat.le_of_ble_eq_true rfl) (aX1_follow N k hk σ)

theorem dX1_start_0 : decode cX1_start 0 = .ok (.aload_n 0, 1) := by decide +kernel
theorem dX1_start_1 : decode cX1_start 1 = .ok (.getfield 14, 3) := by decide +kernel
theorem dX1_start_4 : decode cX1_start 4 = .ok (.iconst 0, 1) := by decide +kernel
theorem dX1_start_5 : decode cX1_start 5 = .ok (.putfield 34, 3) := by decide +kernel
theorem dX1_start_8 : decode cX1_start 8 = .ok (.aload_n 0, 1) := by decide +kernel
theorem dX1_start_9 : decode cX1_start 9 = .ok (.getfield 20, 3) := by decide +kernel
theorem dX1_start_12 : decode cX1_start 12 = .ok (.iconst 0, 1) := by decide +kernel
theorem dX1_start_13 : decode cX1_start 13 = .ok (.iload_n 1, 1) := by decide +kernel
theorem dX1_start_14 : decode cX1_start 14 = .ok (.iastore, 1) := by decide +kernel
theorem dX1_start_15 : decode cX1_start 15 = .ok (.aload_n 0, 1) := by decide +kernel
theorem dX1_start_16 : decode cX1_start 16 = .ok (.getfield 24, 3) := by decide +kernel
theorem dX1_start_19 : decode cX1_start 19 = .ok (.iconst 0, 1) := by decide +kernel
theorem dX1_start_20 : decode cX1_start 20 = .ok (.iload_n 2, 1) := by decide +kernel
theorem dX1_start_21 : decode cX1_start 21 = .ok (.iastore, 1) := by decide +kernel
theorem dX1_start_22 : decode cX1_start 22 = .ok (.aload_n 0, 1) := by decide +kernel
theorem dX1_start_23 : decode cX1_start 23 = .ok (.iload_n 3, 1) := by decide +kernel
theorem dX1_start_24 : decode cX1_start 24 = .ok (.putfield 30, 3) := by decide +kernel
theorem dX1_start_27 : decode cX1_start 27 = .ok (.aload_n 0, 1) := by decide +kernel
theorem dX1_start_28 : decode cX1_start 28 = .ok (.invokevirtual 37, 3) := by decide +kernel
theorem dX1_start_31 : decode cX1_start 31 = .ok (.return_, 1) := by decide +kernel

def fX1_start (N : Nat) (k : Nat) (p1 : Int32) (p2 : Int32) (p3 : Int32) (σ : qMem) : Option qMem :=
  (nmM (si σ (k + 1) 3 0) fun s1 => (if ck 0 24 = true then (nmM (si s1 (k + 3) (0 : Int32).toNatClampNeg p1) fun s2 => (if ck 0 24 = true then (nmM (si s2 (k + 4) (0 : Int32).toNatClampNeg p2) fun s3 => (nmM (si s3 k 4 p3) fun s4 => ((fX1_follow N k s4).bind fun y5 => (some y5)))) else none)) else none))
set_option maxRecDepth 20000 in
set_option maxHeartbeats 4000000 in
theorem aX1_start  (N : Nat) (k : Nat) (p1 : Int32) (p2 : Int32) (p3 : Int32) (hk : iBoat k) (σ : qMem) : qAt wC mX1_start (ρv) 0 [(0, .ref k), (1, .int p1), (2, .int p2), (3, .int p3)] [] σ (fX1_start N k p1 p2 p3 σ) := by
  unfold fX1_start
  refine q_aload_n (i := 0) (x := k) dX1_start_0 rfl 0 rfl ?_
  refine q_getr (t := (k + 1)) dX1_start_1 foX1_14 hk.1 rfl ?_
  refine q_iconst (v := 0) dX1_start_4 (by decide) ?_
  refine q_puti dX1_start_5 foX1_34 fwX8_3 hk.2.1.1 rfl ?_
  refine q_nmM (fun s1 => ?_)
  refine q_aload_n (i := 0) (x := k) dX1_start_8 rfl 0 rfl ?_
  refine q_getr (t := (k + 3)) dX1_start_9 foX1_20 hk.1 rfl ?_
  refine q_iconst (v := 0) dX1_start_12 (by decide) ?_
  refine q_iload_n (i := 1) (x := p1) dX1_start_13 rfl 1 rfl ?_
  refine q_iast dX1_start_14 hk.2.2.1 ?_
  refine q_nmM (fun s2 => ?_)
  refine q_aload_n (i := 0) (x := k) dX1_start_15 rfl 0 rfl ?_
  refine q_getr (t := (k + 4)) dX1_start_16 foX1_24 hk.1 rfl ?_
  refine q_iconst (v := 0) dX1_start_19 (by decide) ?_
  refine q_iload_n (i := 2) (x := p2) dX1_start_20 rfl 2 rfl ?_
  refine q_iast dX1_start_21 hk.2.2.2.1 ?_
  refine q_nmM (fun s3 => ?_)
  refine q_aload_n (i := 0) (x := k) dX1_start_22 rfl 0 rfl ?_
  refine q_iload_n (i := 3) (x := p3) dX1_start_23 rfl 3 rfl ?_
  refine q_puti dX1_start_24 foX1_30 fwX1_4 hk.1 rfl ?_
  refine q_nmM (fun s4 => ?_)
  refine q_aload_n (i := 0) (x := k) dX1_start_27 rfl 0 rfl ?_
  refine q_cVv mX1_follow [] (st := []) dX1_start_28 (svX1_37) ⟨Nat.le_of_ble_eq_true rfl, Nat.le_of_ble_eq_true rfl⟩ hk.1 rfl rfl rfl (Nat.le_of_ble_eq_true rfl) (kX1_follow N k hk s4) (fun y5 => ?_)
  exact q_vret (y := y5) dX1_start_31 rfl rfl
theorem kX1_start  (N : Nat) (k : Nat) (p1 : Int32) (p2 : Int32) (p3 : Int32) (hk : iBoat k) (σ : qMem) : qMc wC mX1_start (ρv) [.ref k, .int p1, .int p2, .int p3] σ (fX1_start N k p1 p2 p3 σ) := qMc_of (moX1_start) (Nat.le_of_ble_eq_true rfl) (aX1_start N k p1 p2 p3 hk σ)

theorem dX8_copy_0 : decode cX8_copy 0 = .ok (.aload_n 1, 1) := by decide +kernel
theorem dX8_copy_1 : decode cX8_copy 1 = .ok (.getfield 27, 3) := by decide +kernel
theorem dX8_copy_4 : decode cX8_copy 4 = .ok (.iconst 0, 1) := by decide +kernel
theorem dX8_copy_5 : decode cX8_copy 5 = .ok (.aload_n 0, 1) := by decide +kernel
theorem dX8_copy_6 : decode cX8_copy 6 = .ok (.getfield 27, 3) := by decide +kernel
theorem dX8_copy_9 : decode cX8_copy 9 = .ok (.iconst 0, 1) := by decide +kernel
theorem dX8_copy_10 : decode cX8_copy 10 = .ok (.aload_n 0, 1) := by decide +kernel
theorem dX8_copy_11 : decode cX8_copy 11 = .ok (.getfield 27, 3) := by decide +kernel
theorem dX8_copy_14 : decode cX8_copy 14 = .ok (.arraylength, 1) := by decide +kernel
theorem dX8_copy_15 : decode cX8_copy 15 = .ok (.aload_n 1, 1) := by decide +kernel
theorem dX8_copy_16 : decode cX8_copy 16 = .ok (.getfield 27, 3) := by decide +kernel
theorem dX8_copy_19 : decode cX8_copy 19 = .ok (.arraylength, 1) := by decide +kernel
theorem dX8_copy_20 : decode cX8_copy 20 = .ok (.invokestatic 39, 3) := by decide +kernel
theorem dX8_copy_23 : decode cX8_copy 23 = .ok (.invokestatic 42, 3) := by decide +kernel
theorem dX8_copy_26 : decode cX8_copy 26 = .ok (.aload_n 0, 1) := by decide +kernel
theorem dX8_copy_27 : decode cX8_copy 27 = .ok (.aload_n 0, 1) := by decide +kernel
theorem dX8_copy_28 : decode cX8_copy 28 = .ok (.getfield 24, 3) := by decide +kernel
theorem dX8_copy_31 : decode cX8_copy 31 = .ok (.aload_n 1, 1) := by decide +kernel
theorem dX8_copy_32 : decode cX8_copy 32 = .ok (.getfield 9, 3) := by decide +kernel
theorem dX8_copy_35 : decode cX8_copy 35 = .ok (.invokestatic 39, 3) := by decide +kernel
theorem dX8_copy_38 : decode cX8_copy 38 = .ok (.putfield 9, 3) := by decide +kernel
theorem dX8_copy_41 : decode cX8_copy 41 = .ok (.return_, 1) := by decide +kernel

def fX8_copy (k n : Nat) (k1 n1 : Nat) (σ : qMem) : Option qMem :=
  ((fJ9_min_7cf53 (nI n) (nI n1)).bind fun y1 => (if cpOK 0 0 y1 n1 n = true then (nmM (cp σ (k1 + 1) (k + 1) 0 0 y1) fun s2 => ((fJ9_min_7cf53 (gi s2 k 1) (gi s2 k1 3)).bind fun y3 => (nmM (si s2 k 3 y3) fun s4 => (some s4)))) else none))
set_option maxRecDepth 20000 in
set_option maxHeartbeats 4000000 in
theorem aX8_copy  (k n : Nat) (k1 n1 : Nat) (hk : iRows k n) (hk1 : iRows k1 n1) (σ : qMem) : qAt wC mX8_copy (ρv) 0 [(0, .ref k), (1, .ref k1)] [] σ (fX8_copy k n k1 n1 σ) := by
  unfold fX8_copy
  refine q_aload_n (i := 1) (x := k1) dX8_copy_0 rfl 1 rfl ?_
  refine q_getr (t := (k1 + 1)) dX8_copy_1 foX8_27 hk1.1 rfl ?_
  refine q_iconst (v := 0) dX8_copy_4 (by decide) ?_
  refine q_aload_n (i := 0) (x := k) dX8_copy_5 rfl 0 rfl ?_
  refine q_getr (t := (k + 1)) dX8_copy_6 foX8_27 hk.1 rfl ?_
  refine q_iconst (v := 0) dX8_copy_9 (by decide) ?_
  refine q_aload_n (i := 0) (x := k) dX8_copy_10 rfl 0 rfl ?_
  refine q_getr (t := (k + 1)) dX8_copy_11 foX8_27 hk.1 rfl ?_
  refine q_alen (t0 := 0) (v := (nI n)) dX8_copy_14 hk.2 (fun _ => rfl) rfl ?_
  refine q_aload_n (i := 1) (x := k1) dX8_copy_15 rfl 1 rfl ?_
  refine q_getr (t := (k1 + 1)) dX8_copy_16 foX8_27 hk1.1 rfl ?_
  refine q_alen (t0 := 0) (v := (nI n1)) dX8_copy_19 hk1.2 (fun _ => rfl) rfl ?_
  refine q_cSp mJ9_min_7cf53 [.int (nI n), .int (nI n1)] (st := [.int 0, .ref (k + 1), .int 0, .ref (k1 + 1)]) dX8_copy_20 (ssX8_39) ⟨Nat.le_of_ble_eq_true rfl, Nat.le_of_ble_eq_true rfl⟩ rfl rfl (Nat.le_of_ble_eq_true rfl) (kJ9_min_7cf53 (nI n) (nI n1) σ) (fun y1 => ?_)
  refine q_copy dX8_copy_23 (cplX8_42) cp_nat cp_st cp_in hk1.2 hk.2 ⟨Nat.le_of_ble_eq_true rfl, Nat.le_of_ble_eq_true rfl⟩ ?_
  refine q_nmM (fun s2 => ?_)
  refine q_aload_n (i := 0) (x := k) dX8_copy_26 rfl 0 rfl ?_
  refine q_aload_n (i := 0) (x := k) dX8_copy_27 rfl 0 rfl ?_
  refine q_geti dX8_copy_28 foX8_24 hk.1 rfl ?_
  refine q_aload_n (i := 1) (x := k1) dX8_copy_31 rfl 1 rfl ?_
  refine q_geti dX8_copy_32 foX8_9 hk1.1 rfl ?_
  refine q_cSp mJ9_min_7cf53 [.int (gi s2 k 1), .int (gi s2 k1 3)] (st := [.ref k]) dX8_copy_35 (ssX8_39) ⟨Nat.le_of_ble_eq_true rfl, Nat.le_of_ble_eq_true rfl⟩ rfl rfl (Nat.le_of_ble_eq_true rfl) (kJ9_min_7cf53 (gi s2 k 1) (gi s2 k1 3) s2) (fun y3 => ?_)
  refine q_puti dX8_copy_38 foX8_9 fwX8_3 hk.1 rfl ?_
  refine q_nmM (fun s4 => ?_)
  exact q_vret (y := s4) dX8_copy_41 rfl rfl
theorem kX8_copy  (k n : Nat) (k1 n1 : Nat) (hk : iRows k n) (hk1 : iRows k1 n1) (σ : qMem) : qMc wC mX8_copy (ρv) [.ref k, .ref k1] σ (fX8_copy k n k1 n1 σ) := qMc_of (moX8_copy) (Nat.le_of_ble_eq_true rfl) (aX8_copy k n k1 n1 hk hk1 σ)

theorem dX1_copy_0 : decode cX1_copy 0 = .ok (.aload_n 0, 1) := by decide +kernel
theorem dX1_copy_1 : decode cX1_copy 1 = .ok (.getfield 14, 3) := by decide +kernel
theorem dX1_copy_4 : decode cX1_copy 4 = .ok (.aload_n 1, 1) := by decide +kernel
theorem dX1_copy_5 : decode cX1_copy 5 = .ok (.getfield 14, 3) := by decide +kernel
theorem dX1_copy_8 : decode cX1_copy 8 = .ok (.invokevirtual 53, 3) := by decide +kernel
theorem dX1_copy_11 : decode cX1_copy 11 = .ok (.aload_n 1, 1) := by decide +kernel
theorem dX1_copy_12 : decode cX1_copy 12 = .ok (.getfield 20, 3) := by decide +kernel
theorem dX1_copy_15 : decode cX1_copy 15 = .ok (.iconst 0, 1) := by decide +kernel
theorem dX1_copy_16 : decode cX1_copy 16 = .ok (.aload_n 0, 1) := by decide +kernel
theorem dX1_copy_17 : decode cX1_copy 17 = .ok (.getfield 20, 3) := by decide +kernel
theorem dX1_copy_20 : decode cX1_copy 20 = .ok (.iconst 0, 1) := by decide +kernel
theorem dX1_copy_21 : decode cX1_copy 21 = .ok (.bipush 24, 2) := by decide +kernel
theorem dX1_copy_23 : decode cX1_copy 23 = .ok (.invokestatic 57, 3) := by decide +kernel
theorem dX1_copy_26 : decode cX1_copy 26 = .ok (.aload_n 1, 1) := by decide +kernel
theorem dX1_copy_27 : decode cX1_copy 27 = .ok (.getfield 24, 3) := by decide +kernel
theorem dX1_copy_30 : decode cX1_copy 30 = .ok (.iconst 0, 1) := by decide +kernel
theorem dX1_copy_31 : decode cX1_copy 31 = .ok (.aload_n 0, 1) := by decide +kernel
theorem dX1_copy_32 : decode cX1_copy 32 = .ok (.getfield 24, 3) := by decide +kernel
theorem dX1_copy_35 : decode cX1_copy 35 = .ok (.iconst 0, 1) := by decide +kernel
theorem dX1_copy_36 : decode cX1_copy 36 = .ok (.bipush 24, 2) := by decide +kernel
theorem dX1_copy_38 : decode cX1_copy 38 = .ok (.invokestatic 57, 3) := by decide +kernel
theorem dX1_copy_41 : decode cX1_copy 41 = .ok (.aload_n 1, 1) := by decide +kernel
theorem dX1_copy_42 : decode cX1_copy 42 = .ok (.getfield 27, 3) := by decide +kernel
theorem dX1_copy_45 : decode cX1_copy 45 = .ok (.iconst 0, 1) := by decide +kernel
theorem dX1_copy_46 : decode cX1_copy 46 = .ok (.aload_n 0, 1) := by decide +kernel
theorem dX1_copy_47 : decode cX1_copy 47 = .ok (.getfield 27, 3) := by decide +kernel
theorem dX1_copy_50 : decode cX1_copy 50 = .ok (.iconst 0, 1) := by decide +kernel
theorem dX1_copy_51 : decode cX1_copy 51 = .ok (.bipush 24, 2) := by decide +kernel
theorem dX1_copy_53 : decode cX1_copy 53 = .ok (.invokestatic 57, 3) := by decide +kernel
theorem dX1_copy_56 : decode cX1_copy 56 = .ok (.aload_n 0, 1) := by decide +kernel
theorem dX1_copy_57 : decode cX1_copy 57 = .ok (.aload_n 1, 1) := by decide +kernel
theorem dX1_copy_58 : decode cX1_copy 58 = .ok (.getfield 30, 3) := by decide +kernel
theorem dX1_copy_61 : decode cX1_copy 61 = .ok (.putfield 30, 3) := by decide +kernel
theorem dX1_copy_64 : decode cX1_copy 64 = .ok (.return_, 1) := by decide +kernel

def fX1_copy (k : Nat) (k1 : Nat) (σ : qMem) : Option qMem :=
  ((fX8_copy (k + 1) 18 (k1 + 1) 18 σ).bind fun y1 => (if cpOK 0 0 24 24 24 = true then (nmM (cp y1 (k1 + 3) (k + 3) 0 0 24) fun s2 => (if cpOK 0 0 24 24 24 = true then (nmM (cp s2 (k1 + 4) (k + 4) 0 0 24) fun s3 => (if cpOK 0 0 24 24 24 = true then (nmM (cp s3 (k1 + 5) (k + 5) 0 0 24) fun s4 => (nmM (si s4 k 4 (gi s4 k1 4)) fun s5 => (some s5))) else none)) else none)) else none))
set_option maxRecDepth 20000 in
set_option maxHeartbeats 4000000 in
theorem aX1_copy  (k : Nat) (k1 : Nat) (hk : iBoat k) (hk1 : iBoat k1) (σ : qMem) : qAt wC mX1_copy (ρv) 0 [(0, .ref k), (1, .ref k1)] [] σ (fX1_copy k k1 σ) := by
  unfold fX1_copy
  refine q_aload_n (i := 0) (x := k) dX1_copy_0 rfl 0 rfl ?_
  refine q_getr (t := (k + 1)) dX1_copy_1 foX1_14 hk.1 rfl ?_
  refine q_aload_n (i := 1) (x := k1) dX1_copy_4 rfl 1 rfl ?_
  refine q_getr (t := (k1 + 1)) dX1_copy_5 foX1_14 hk1.1 rfl ?_
  refine q_cVv mX8_copy [.ref (k1 + 1)] (st := []) dX1_copy_8 (svX1_53) ⟨Nat.le_of_ble_eq_true rfl, Nat.le_of_ble_eq_true rfl⟩ hk.2.1.1 rfl rfl rfl (Nat.le_of_ble_eq_true rfl) (kX8_copy (k + 1) 18 (k1 + 1) 18 hk.2.1 hk1.2.1 σ) (fun y1 => ?_)
  refine q_aload_n (i := 1) (x := k1) dX1_copy_11 rfl 1 rfl ?_
  refine q_getr (t := (k1 + 3)) dX1_copy_12 foX1_20 hk1.1 rfl ?_
  refine q_iconst (v := 0) dX1_copy_15 (by decide) ?_
  refine q_aload_n (i := 0) (x := k) dX1_copy_16 rfl 0 rfl ?_
  refine q_getr (t := (k + 3)) dX1_copy_17 foX1_20 hk.1 rfl ?_
  refine q_iconst (v := 0) dX1_copy_20 (by decide) ?_
  refine q_bipush (v := 24) dX1_copy_21 (by decide) ?_
  refine q_copy dX1_copy_23 (cplX1_57) cp_nat cp_st cp_in hk1.2.2.1 hk.2.2.1 ⟨Nat.le_of_ble_eq_true rfl, Nat.le_of_ble_eq_true rfl⟩ ?_
  refine q_nmM (fun s2 => ?_)
  refine q_aload_n (i := 1) (x := k1) dX1_copy_26 rfl 1 rfl ?_
  refine q_getr (t := (k1 + 4)) dX1_copy_27 foX1_24 hk1.1 rfl ?_
  refine q_iconst (v := 0) dX1_copy_30 (by decide) ?_
  refine q_aload_n (i := 0) (x := k) dX1_copy_31 rfl 0 rfl ?_
  refine q_getr (t := (k + 4)) dX1_copy_32 foX1_24 hk.1 rfl ?_
  refine q_iconst (v := 0) dX1_copy_35 (by decide) ?_
  refine q_bipush (v := 24) dX1_copy_36 (by decide) ?_
  refine q_copy dX1_copy_38 (cplX1_57) cp_nat cp_st cp_in hk1.2.2.2.1 hk.2.2.2.1 ⟨Nat.le_of_ble_eq_true rfl, Nat.le_of_ble_eq_true rfl⟩ ?_
  refine q_nmM (fun s3 => ?_)
  refine q_aload_n (i := 1) (x := k1) dX1_copy_41 rfl 1 rfl ?_
  refine q_getr (t := (k1 + 5)) dX1_copy_42 foX1_27 hk1.1 rfl ?_
  refine q_iconst (v := 0) dX1_copy_45 (by decide) ?_
  refine q_aload_n (i := 0) (x := k) dX1_copy_46 rfl 0 rfl ?_
  refine q_getr (t := (k + 5)) dX1_copy_47 foX1_27 hk.1 rfl ?_
  refine q_iconst (v := 0) dX1_copy_50 (by decide) ?_
  refine q_bipush (v := 24) dX1_copy_51 (by decide) ?_
  refine q_copy dX1_copy_53 (cplX1_57) cp_nat cp_st cp_in hk1.2.2.2.2 hk.2.2.2.2 ⟨Nat.le_of_ble_eq_true rfl, Nat.le_of_ble_eq_true rfl⟩ ?_
  refine q_nmM (fun s4 => ?_)
  refine q_aload_n (i := 0) (x := k) dX1_copy_56 rfl 0 rfl ?_
  refine q_aload_n (i := 1) (x := k1) dX1_copy_57 rfl 1 rfl ?_
  refine q_geti dX1_copy_58 foX1_30 hk1.1 rfl ?_
  refine q_puti dX1_copy_61 foX1_30 fwX1_4 hk.1 rfl ?_
  refine q_nmM (fun s5 => ?_)
  exact q_vret (y := s5) dX1_copy_64 rfl rfl
theorem kX1_copy  (k : Nat) (k1 : Nat) (hk : iBoat k) (hk1 : iBoat k1) (σ : qMem) : qMc wC mX1_copy (ρv) [.ref k, .ref k1] σ (fX1_copy k k1 σ) := qMc_of (moX1_copy) (Nat.le_of_ble_eq_true rfl) (aX1_copy k k1 hk hk1 σ)

theorem dX10_copy_0 : decode cX10_copy 0 = .ok (.aload_n 1, 1) := by decide +kernel
theorem dX10_copy_1 : decode cX10_copy 1 = .ok (.getfield 9, 3) := by decide +kernel
theorem dX10_copy_4 : decode cX10_copy 4 = .ok (.iconst 0, 1) := by decide +kernel
theorem dX10_copy_5 : decode cX10_copy 5 = .ok (.aload_n 0, 1) := by decide +kernel
theorem dX10_copy_6 : decode cX10_copy 6 = .ok (.getfield 9, 3) := by decide +kernel
theorem dX10_copy_9 : decode cX10_copy 9 = .ok (.iconst 0, 1) := by decide +kernel
theorem dX10_copy_10 : decode cX10_copy 10 = .ok (.aload_n 0, 1) := by decide +kernel
theorem dX10_copy_11 : decode cX10_copy 11 = .ok (.getfield 9, 3) := by decide +kernel
theorem dX10_copy_14 : decode cX10_copy 14 = .ok (.arraylength, 1) := by decide +kernel
theorem dX10_copy_15 : decode cX10_copy 15 = .ok (.invokestatic 45, 3) := by decide +kernel
theorem dX10_copy_18 : decode cX10_copy 18 = .ok (.aload_n 0, 1) := by decide +kernel
theorem dX10_copy_19 : decode cX10_copy 19 = .ok (.aload_n 1, 1) := by decide +kernel
theorem dX10_copy_20 : decode cX10_copy 20 = .ok (.getfield 18, 3) := by decide +kernel
theorem dX10_copy_23 : decode cX10_copy 23 = .ok (.putfield 18, 3) := by decide +kernel
theorem dX10_copy_26 : decode cX10_copy 26 = .ok (.return_, 1) := by decide +kernel

def fX10_copy (k : Nat) (k1 : Nat) (σ : qMem) : Option qMem :=
  (if cpOK 0 0 30 30 30 = true then (nmM (cp σ (k1 + 1) (k + 1) 0 0 30) fun s1 => (nmM (si s1 k 2 (gi s1 k1 2)) fun s2 => (some s2))) else none)
set_option maxRecDepth 20000 in
set_option maxHeartbeats 4000000 in
theorem aX10_copy  (k : Nat) (k1 : Nat) (hk : iWater k) (hk1 : iWater k1) (σ : qMem) : qAt wC mX10_copy (ρv) 0 [(0, .ref k), (1, .ref k1)] [] σ (fX10_copy k k1 σ) := by
  unfold fX10_copy
  refine q_aload_n (i := 1) (x := k1) dX10_copy_0 rfl 1 rfl ?_
  refine q_getr (t := (k1 + 1)) dX10_copy_1 foX10_9 hk1.1 rfl ?_
  refine q_iconst (v := 0) dX10_copy_4 (by decide) ?_
  refine q_aload_n (i := 0) (x := k) dX10_copy_5 rfl 0 rfl ?_
  refine q_getr (t := (k + 1)) dX10_copy_6 foX10_9 hk.1 rfl ?_
  refine q_iconst (v := 0) dX10_copy_9 (by decide) ?_
  refine q_aload_n (i := 0) (x := k) dX10_copy_10 rfl 0 rfl ?_
  refine q_getr (t := (k + 1)) dX10_copy_11 foX10_9 hk.1 rfl ?_
  refine q_alen (t0 := 0) (v := 30) dX10_copy_14 hk.2.1 (fun _ => rfl) (by decide) ?_
  refine q_copy dX10_copy_15 (cplX10_45) cp_nat cp_st cp_in hk1.2.1 hk.2.1 ⟨Nat.le_of_ble_eq_true rfl, Nat.le_of_ble_eq_true rfl⟩ ?_
  refine q_nmM (fun s1 => ?_)
  refine q_aload_n (i := 0) (x := k) dX10_copy_18 rfl 0 rfl ?_
  refine q_aload_n (i := 1) (x := k1) dX10_copy_19 rfl 1 rfl ?_
  refine q_geti dX10_copy_20 foX10_18 hk1.1 rfl ?_
  refine q_puti dX10_copy_23 foX10_18 fwX10_2 hk.1 rfl ?_
  refine q_nmM (fun s2 => ?_)
  exact q_vret (y := s2) dX10_copy_26 rfl rfl
theorem kX10_copy  (k : Nat) (k1 : Nat) (hk : iWater k) (hk1 : iWater k1) (σ : qMem) : qMc wC mX10_copy (ρv) [.ref k, .ref k1] σ (fX10_copy k k1 σ) := qMc_of (moX10_copy) (Nat.le_of_ble_eq_true rfl) (aX10_copy k k1 hk hk1 σ)

theorem dX5_copy_0 : decode cX5_copy 0 = .ok (.aload_n 0, 1) := by decide +kernel
theorem dX5_copy_1 : decode cX5_copy 1 = .ok (.getfield 16, 3) := by decide +kernel
theorem dX5_copy_4 : decode cX5_copy 4 = .ok (.aload_n 1, 1) := by decide +kernel
theorem dX5_copy_5 : decode cX5_copy 5 = .ok (.getfield 16, 3) := by decide +kernel
theorem dX5_copy_8 : decode cX5_copy 8 = .ok (.invokevirtual 42, 3) := by decide +kernel
theorem dX5_copy_11 : decode cX5_copy 11 = .ok (.aload_n 1, 1) := by decide +kernel
theorem dX5_copy_12 : decode cX5_copy 12 = .ok (.getfield 20, 3) := by decide +kernel
theorem dX5_copy_15 : decode cX5_copy 15 = .ok (.iconst 0, 1) := by decide +kernel
theorem dX5_copy_16 : decode cX5_copy 16 = .ok (.aload_n 0, 1) := by decide +kernel
theorem dX5_copy_17 : decode cX5_copy 17 = .ok (.getfield 20, 3) := by decide +kernel
theorem dX5_copy_20 : decode cX5_copy 20 = .ok (.iconst 0, 1) := by decide +kernel
theorem dX5_copy_21 : decode cX5_copy 21 = .ok (.sipush 400, 3) := by decide +kernel
theorem dX5_copy_24 : decode cX5_copy 24 = .ok (.invokestatic 46, 3) := by decide +kernel
theorem dX5_copy_27 : decode cX5_copy 27 = .ok (.aload_n 1, 1) := by decide +kernel
theorem dX5_copy_28 : decode cX5_copy 28 = .ok (.getfield 24, 3) := by decide +kernel
theorem dX5_copy_31 : decode cX5_copy 31 = .ok (.iconst 0, 1) := by decide +kernel
theorem dX5_copy_32 : decode cX5_copy 32 = .ok (.aload_n 0, 1) := by decide +kernel
theorem dX5_copy_33 : decode cX5_copy 33 = .ok (.getfield 24, 3) := by decide +kernel
theorem dX5_copy_36 : decode cX5_copy 36 = .ok (.iconst 0, 1) := by decide +kernel
theorem dX5_copy_37 : decode cX5_copy 37 = .ok (.sipush 400, 3) := by decide +kernel
theorem dX5_copy_40 : decode cX5_copy 40 = .ok (.invokestatic 46, 3) := by decide +kernel
theorem dX5_copy_43 : decode cX5_copy 43 = .ok (.aload_n 0, 1) := by decide +kernel
theorem dX5_copy_44 : decode cX5_copy 44 = .ok (.aload_n 1, 1) := by decide +kernel
theorem dX5_copy_45 : decode cX5_copy 45 = .ok (.getfield 34, 3) := by decide +kernel
theorem dX5_copy_48 : decode cX5_copy 48 = .ok (.putfield 34, 3) := by decide +kernel
theorem dX5_copy_51 : decode cX5_copy 51 = .ok (.return_, 1) := by decide +kernel

def fX5_copy (k : Nat) (k1 : Nat) (σ : qMem) : Option qMem :=
  ((fX8_copy (k + 1) 48 (k1 + 1) 48 σ).bind fun y1 => (if cpOK 0 0 400 400 400 = true then (nmM (cp y1 (k1 + 3) (k + 3) 0 0 400) fun s2 => (if cpOK 0 0 400 400 400 = true then (nmM (cp s2 (k1 + 4) (k + 4) 0 0 400) fun s3 => (nmM (si s3 k 5 (gi s3 k1 5)) fun s4 => (some s4))) else none)) else none))
set_option maxRecDepth 20000 in
set_option maxHeartbeats 4000000 in
theorem aX5_copy  (k : Nat) (k1 : Nat) (hk : iLaw k) (hk1 : iLaw k1) (σ : qMem) : qAt wC mX5_copy (ρv) 0 [(0, .ref k), (1, .ref k1)] [] σ (fX5_copy k k1 σ) := by
  unfold fX5_copy
  refine q_aload_n (i := 0) (x := k) dX5_copy_0 rfl 0 rfl ?_
  refine q_getr (t := (k + 1)) dX5_copy_1 foX5_16 hk.1 rfl ?_
  refine q_aload_n (i := 1) (x := k1) dX5_copy_4 rfl 1 rfl ?_
  refine q_getr (t := (k1 + 1)) dX5_copy_5 foX5_16 hk1.1 rfl ?_
  refine q_cVv mX8_copy [.ref (k1 + 1)] (st := []) dX5_copy_8 (svX5_42) ⟨Nat.le_of_ble_eq_true rfl, Nat.le_of_ble_eq_true rfl⟩ hk.2.1.1 rfl rfl rfl (Nat.le_of_ble_eq_true rfl) (kX8_copy (k + 1) 48 (k1 + 1) 48 hk.2.1 hk1.2.1 σ) (fun y1 => ?_)
  refine q_aload_n (i := 1) (x := k1) dX5_copy_11 rfl 1 rfl ?_
  refine q_getr (t := (k1 + 3)) dX5_copy_12 foX5_20 hk1.1 rfl ?_
  refine q_iconst (v := 0) dX5_copy_15 (by decide) ?_
  refine q_aload_n (i := 0) (x := k) dX5_copy_16 rfl 0 rfl ?_
  refine q_getr (t := (k + 3)) dX5_copy_17 foX5_20 hk.1 rfl ?_
  refine q_iconst (v := 0) dX5_copy_20 (by decide) ?_
  refine q_sipush (v := 400) dX5_copy_21 (by decide) ?_
  refine q_copy dX5_copy_24 (cplX5_46) cp_nat cp_st cp_in hk1.2.2.1 hk.2.2.1 ⟨Nat.le_of_ble_eq_true rfl, Nat.le_of_ble_eq_true rfl⟩ ?_
  refine q_nmM (fun s2 => ?_)
  refine q_aload_n (i := 1) (x := k1) dX5_copy_27 rfl 1 rfl ?_
  refine q_getr (t := (k1 + 4)) dX5_copy_28 foX5_24 hk1.1 rfl ?_
  refine q_iconst (v := 0) dX5_copy_31 (by decide) ?_
  refine q_aload_n (i := 0) (x := k) dX5_copy_32 rfl 0 rfl ?_
  refine q_getr (t := (k + 4)) dX5_copy_33 foX5_24 hk.1 rfl ?_
  refine q_iconst (v := 0) dX5_copy_36 (by decide) ?_
  refine q_sipush (v := 400) dX5_copy_37 (by decide) ?_
  refine q_copy dX5_copy_40 (cplX5_46) cp_nat cp_st cp_in hk1.2.2.2.1 hk.2.2.2.1 ⟨Nat.le_of_ble_eq_true rfl, Nat.le_of_ble_eq_true rfl⟩ ?_
  refine q_nmM (fun s3 => ?_)
  refine q_aload_n (i := 0) (x := k) dX5_copy_43 rfl 0 rfl ?_
  refine q_aload_n (i := 1) (x := k1) dX5_copy_44 rfl 1 rfl ?_
  refine q_geti dX5_copy_45 foX5_34 hk1.1 rfl ?_
  refine q_puti dX5_copy_48 foX5_34 fwX5_5 hk.1 rfl ?_
  refine q_nmM (fun s4 => ?_)
  exact q_vret (y := s4) dX5_copy_51 rfl rfl
theorem kX5_copy  (k : Nat) (k1 : Nat) (hk : iLaw k) (hk1 : iLaw k1) (σ : qMem) : qMc wC mX5_copy (ρv) [.ref k, .ref k1] σ (fX5_copy k k1 σ) := qMc_of (moX5_copy) (Nat.le_of_ble_eq_true rfl) (aX5_copy k k1 hk hk1 σ)

theorem dX2_copy_0 : decode cX2_copy 0 = .ok (.aload_n 0, 1) := by decide +kernel
theorem dX2_copy_1 : decode cX2_copy 1 = .ok (.getfield 12, 3) := by decide +kernel
theorem dX2_copy_4 : decode cX2_copy 4 = .ok (.iconst 0, 1) := by decide +kernel
theorem dX2_copy_5 : decode cX2_copy 5 = .ok (.aaload, 1) := by decide +kernel
theorem dX2_copy_6 : decode cX2_copy 6 = .ok (.aload_n 1, 1) := by decide +kernel
theorem dX2_copy_7 : decode cX2_copy 7 = .ok (.getfield 12, 3) := by decide +kernel
theorem dX2_copy_10 : decode cX2_copy 10 = .ok (.iconst 0, 1) := by decide +kernel
theorem dX2_copy_11 : decode cX2_copy 11 = .ok (.aaload, 1) := by decide +kernel
theorem dX2_copy_12 : decode cX2_copy 12 = .ok (.invokevirtual 75, 3) := by decide +kernel
theorem dX2_copy_15 : decode cX2_copy 15 = .ok (.aload_n 0, 1) := by decide +kernel
theorem dX2_copy_16 : decode cX2_copy 16 = .ok (.getfield 12, 3) := by decide +kernel
theorem dX2_copy_19 : decode cX2_copy 19 = .ok (.iconst 1, 1) := by decide +kernel
theorem dX2_copy_20 : decode cX2_copy 20 = .ok (.aaload, 1) := by decide +kernel
theorem dX2_copy_21 : decode cX2_copy 21 = .ok (.aload_n 1, 1) := by decide +kernel
theorem dX2_copy_22 : decode cX2_copy 22 = .ok (.getfield 12, 3) := by decide +kernel
theorem dX2_copy_25 : decode cX2_copy 25 = .ok (.iconst 1, 1) := by decide +kernel
theorem dX2_copy_26 : decode cX2_copy 26 = .ok (.aaload, 1) := by decide +kernel
theorem dX2_copy_27 : decode cX2_copy 27 = .ok (.invokevirtual 75, 3) := by decide +kernel
theorem dX2_copy_30 : decode cX2_copy 30 = .ok (.aload_n 0, 1) := by decide +kernel
theorem dX2_copy_31 : decode cX2_copy 31 = .ok (.getfield 21, 3) := by decide +kernel
theorem dX2_copy_34 : decode cX2_copy 34 = .ok (.aload_n 1, 1) := by decide +kernel
theorem dX2_copy_35 : decode cX2_copy 35 = .ok (.getfield 21, 3) := by decide +kernel
theorem dX2_copy_38 : decode cX2_copy 38 = .ok (.invokevirtual 79, 3) := by decide +kernel
theorem dX2_copy_41 : decode cX2_copy 41 = .ok (.aload_n 1, 1) := by decide +kernel
theorem dX2_copy_42 : decode cX2_copy 42 = .ok (.getfield 29, 3) := by decide +kernel
theorem dX2_copy_45 : decode cX2_copy 45 = .ok (.iconst 0, 1) := by decide +kernel
theorem dX2_copy_46 : decode cX2_copy 46 = .ok (.aload_n 0, 1) := by decide +kernel
theorem dX2_copy_47 : decode cX2_copy 47 = .ok (.getfield 29, 3) := by decide +kernel
theorem dX2_copy_50 : decode cX2_copy 50 = .ok (.iconst 0, 1) := by decide +kernel
theorem dX2_copy_51 : decode cX2_copy 51 = .ok (.aload_n 0, 1) := by decide +kernel
theorem dX2_copy_52 : decode cX2_copy 52 = .ok (.getfield 29, 3) := by decide +kernel
theorem dX2_copy_55 : decode cX2_copy 55 = .ok (.arraylength, 1) := by decide +kernel
theorem dX2_copy_56 : decode cX2_copy 56 = .ok (.invokestatic 69, 3) := by decide +kernel
theorem dX2_copy_59 : decode cX2_copy 59 = .ok (.aload_n 0, 1) := by decide +kernel
theorem dX2_copy_60 : decode cX2_copy 60 = .ok (.getfield 37, 3) := by decide +kernel
theorem dX2_copy_63 : decode cX2_copy 63 = .ok (.aload_n 1, 1) := by decide +kernel
theorem dX2_copy_64 : decode cX2_copy 64 = .ok (.getfield 37, 3) := by decide +kernel
theorem dX2_copy_67 : decode cX2_copy 67 = .ok (.invokevirtual 82, 3) := by decide +kernel
theorem dX2_copy_70 : decode cX2_copy 70 = .ok (.aload_n 0, 1) := by decide +kernel
theorem dX2_copy_71 : decode cX2_copy 71 = .ok (.getfield 41, 3) := by decide +kernel
theorem dX2_copy_74 : decode cX2_copy 74 = .ok (.aload_n 1, 1) := by decide +kernel
theorem dX2_copy_75 : decode cX2_copy 75 = .ok (.getfield 41, 3) := by decide +kernel
theorem dX2_copy_78 : decode cX2_copy 78 = .ok (.invokevirtual 82, 3) := by decide +kernel
theorem dX2_copy_81 : decode cX2_copy 81 = .ok (.aload_n 0, 1) := by decide +kernel
theorem dX2_copy_82 : decode cX2_copy 82 = .ok (.getfield 44, 3) := by decide +kernel
theorem dX2_copy_85 : decode cX2_copy 85 = .ok (.aload_n 1, 1) := by decide +kernel
theorem dX2_copy_86 : decode cX2_copy 86 = .ok (.getfield 44, 3) := by decide +kernel
theorem dX2_copy_89 : decode cX2_copy 89 = .ok (.invokevirtual 82, 3) := by decide +kernel
theorem dX2_copy_92 : decode cX2_copy 92 = .ok (.aload_n 0, 1) := by decide +kernel
theorem dX2_copy_93 : decode cX2_copy 93 = .ok (.getfield 47, 3) := by decide +kernel
theorem dX2_copy_96 : decode cX2_copy 96 = .ok (.aload_n 1, 1) := by decide +kernel
theorem dX2_copy_97 : decode cX2_copy 97 = .ok (.getfield 47, 3) := by decide +kernel
theorem dX2_copy_100 : decode cX2_copy 100 = .ok (.invokevirtual 82, 3) := by decide +kernel
theorem dX2_copy_103 : decode cX2_copy 103 = .ok (.aload_n 0, 1) := by decide +kernel
theorem dX2_copy_104 : decode cX2_copy 104 = .ok (.getfield 50, 3) := by decide +kernel
theorem dX2_copy_107 : decode cX2_copy 107 = .ok (.aload_n 1, 1) := by decide +kernel
theorem dX2_copy_108 : decode cX2_copy 108 = .ok (.getfield 50, 3) := by decide +kernel
theorem dX2_copy_111 : decode cX2_copy 111 = .ok (.invokevirtual 82, 3) := by decide +kernel
theorem dX2_copy_114 : decode cX2_copy 114 = .ok (.aload_n 0, 1) := by decide +kernel
theorem dX2_copy_115 : decode cX2_copy 115 = .ok (.getfield 53, 3) := by decide +kernel
theorem dX2_copy_118 : decode cX2_copy 118 = .ok (.aload_n 1, 1) := by decide +kernel
theorem dX2_copy_119 : decode cX2_copy 119 = .ok (.getfield 53, 3) := by decide +kernel
theorem dX2_copy_122 : decode cX2_copy 122 = .ok (.invokevirtual 82, 3) := by decide +kernel
theorem dX2_copy_125 : decode cX2_copy 125 = .ok (.aload_n 0, 1) := by decide +kernel
theorem dX2_copy_126 : decode cX2_copy 126 = .ok (.getfield 56, 3) := by decide +kernel
theorem dX2_copy_129 : decode cX2_copy 129 = .ok (.aload_n 1, 1) := by decide +kernel
theorem dX2_copy_130 : decode cX2_copy 130 = .ok (.getfield 56, 3) := by decide +kernel
theorem dX2_copy_133 : decode cX2_copy 133 = .ok (.invokevirtual 82, 3) := by decide +kernel
theorem dX2_copy_136 : decode cX2_copy 136 = .ok (.aload_n 0, 1) := by decide +kernel
theorem dX2_copy_137 : decode cX2_copy 137 = .ok (.getfield 59, 3) := by decide +kernel
theorem dX2_copy_140 : decode cX2_copy 140 = .ok (.aload_n 1, 1) := by decide +kernel
theorem dX2_copy_141 : decode cX2_copy 141 = .ok (.getfield 59, 3) := by decide +kernel
theorem dX2_copy_144 : decode cX2_copy 144 = .ok (.invokevirtual 82, 3) := by decide +kernel
theorem dX2_copy_147 : decode cX2_copy 147 = .ok (.aload_n 0, 1) := by decide +kernel
theorem dX2_copy_148 : decode cX2_copy 148 = .ok (.getfield 65, 3) := by decide +kernel
theorem dX2_copy_151 : decode cX2_copy 151 = .ok (.aload_n 1, 1) := by decide +kernel
theorem dX2_copy_152 : decode cX2_copy 152 = .ok (.getfield 65, 3) := by decide +kernel
theorem dX2_copy_155 : decode cX2_copy 155 = .ok (.invokevirtual 85, 3) := by decide +kernel
theorem dX2_copy_158 : decode cX2_copy 158 = .ok (.return_, 1) := by decide +kernel

def fX2_copy (k : Nat) (k1 : Nat) (σ : qMem) : Option qMem :=
  ((fX1_copy (k + 2) (k1 + 2) σ).bind fun y1 => ((fX1_copy (k + 8) (k1 + 8) y1).bind fun y2 => ((fX10_copy (k + 14) (k1 + 14) y2).bind fun y3 => (if cpOK 0 0 6 6 6 = true then (nmM (cp y3 (k1 + 17) (k + 17) 0 0 6) fun s4 => ((fX8_copy (k + 18) 72 (k1 + 18) 72 s4).bind fun y5 => ((fX8_copy (k + 20) 36 (k1 + 20) 36 y5).bind fun y6 => ((fX8_copy (k + 22) 40 (k1 + 22) 40 y6).bind fun y7 => ((fX8_copy (k + 24) 30 (k1 + 24) 30 y7).bind fun y8 => ((fX8_copy (k + 26) 32 (k1 + 26) 32 y8).bind fun y9 => ((fX8_copy (k + 28) 16 (k1 + 28) 16 y9).bind fun y10 => ((fX8_copy (k + 30) 6 (k1 + 30) 6 y10).bind fun y11 => ((fX8_copy (k + 32) 12 (k1 + 32) 12 y11).bind fun y12 => ((fX5_copy (k + 34) (k1 + 34) y12).bind fun y13 => (some y13))))))))))) else none))))
set_option maxRecDepth 20000 in
set_option maxHeartbeats 4000000 in
theorem aX2_copy  (k : Nat) (k1 : Nat) (hk : iBook k) (hk1 : iBook k1) (σ : qMem) : qAt wC mX2_copy (ρv) 0 [(0, .ref k), (1, .ref k1)] [] σ (fX2_copy k k1 σ) := by
  unfold fX2_copy
  refine q_aload_n (i := 0) (x := k) dX2_copy_0 rfl 0 rfl ?_
  refine q_getr (t := (k + 1)) dX2_copy_1 foX2_12 hk.1 rfl ?_
  refine q_iconst (v := 0) dX2_copy_4 (by decide) ?_
  refine q_aaldC (t0 := 4) (j := 0) (t := (k + 2)) dX2_copy_5 hk.2.1 (fun _ => rfl) (by decide) (by decide) rfl ?_
  refine q_aload_n (i := 1) (x := k1) dX2_copy_6 rfl 1 rfl ?_
  refine q_getr (t := (k1 + 1)) dX2_copy_7 foX2_12 hk1.1 rfl ?_
  refine q_iconst (v := 0) dX2_copy_10 (by decide) ?_
  refine q_aaldC (t0 := 4) (j := 0) (t := (k1 + 2)) dX2_copy_11 hk1.2.1 (fun _ => rfl) (by decide) (by decide) rfl ?_
  refine q_cVv mX1_copy [.ref (k1 + 2)] (st := []) dX2_copy_12 (svX2_75) ⟨Nat.le_of_ble_eq_true rfl, Nat.le_of_ble_eq_true rfl⟩ hk.2.2.1.1 rfl rfl rfl (Nat.le_of_ble_eq_true rfl) (kX1_copy (k + 2) (k1 + 2) hk.2.2.1 hk1.2.2.1 σ) (fun y1 => ?_)
  refine q_aload_n (i := 0) (x := k) dX2_copy_15 rfl 0 rfl ?_
  refine q_getr (t := (k + 1)) dX2_copy_16 foX2_12 hk.1 rfl ?_
  refine q_iconst (v := 1) dX2_copy_19 (by decide) ?_
  refine q_aaldC (t0 := 4) (j := 1) (t := (k + 8)) dX2_copy_20 hk.2.1 (fun _ => rfl) (by decide) (by decide) rfl ?_
  refine q_aload_n (i := 1) (x := k1) dX2_copy_21 rfl 1 rfl ?_
  refine q_getr (t := (k1 + 1)) dX2_copy_22 foX2_12 hk1.1 rfl ?_
  refine q_iconst (v := 1) dX2_copy_25 (by decide) ?_
  refine q_aaldC (t0 := 4) (j := 1) (t := (k1 + 8)) dX2_copy_26 hk1.2.1 (fun _ => rfl) (by decide) (by decide) rfl ?_
  refine q_cVv mX1_copy [.ref (k1 + 8)] (st := []) dX2_copy_27 (svX2_75) ⟨Nat.le_of_ble_eq_true rfl, Nat.le_of_ble_eq_true rfl⟩ hk.2.2.2.1.1 rfl rfl rfl (Nat.le_of_ble_eq_true rfl) (kX1_copy (k + 8) (k1 + 8) hk.2.2.2.1 hk1.2.2.2.1 y1) (fun y2 => ?_)
  refine q_aload_n (i := 0) (x := k) dX2_copy_30 rfl 0 rfl ?_
  refine q_getr (t := (k + 14)) dX2_copy_31 foX2_21 hk.1 rfl ?_
  refine q_aload_n (i := 1) (x := k1) dX2_copy_34 rfl 1 rfl ?_
  refine q_getr (t := (k1 + 14)) dX2_copy_35 foX2_21 hk1.1 rfl ?_
  refine q_cVv mX10_copy [.ref (k1 + 14)] (st := []) dX2_copy_38 (svX2_79) ⟨Nat.le_of_ble_eq_true rfl, Nat.le_of_ble_eq_true rfl⟩ hk.2.2.2.2.1.1 rfl rfl rfl (Nat.le_of_ble_eq_true rfl) (kX10_copy (k + 14) (k1 + 14) hk.2.2.2.2.1 hk1.2.2.2.2.1 y2) (fun y3 => ?_)
  refine q_aload_n (i := 1) (x := k1) dX2_copy_41 rfl 1 rfl ?_
  refine q_getr (t := (k1 + 17)) dX2_copy_42 foX2_29 hk1.1 rfl ?_
  refine q_iconst (v := 0) dX2_copy_45 (by decide) ?_
  refine q_aload_n (i := 0) (x := k) dX2_copy_46 rfl 0 rfl ?_
  refine q_getr (t := (k + 17)) dX2_copy_47 foX2_29 hk.1 rfl ?_
  refine q_iconst (v := 0) dX2_copy_50 (by decide) ?_
  refine q_aload_n (i := 0) (x := k) dX2_copy_51 rfl 0 rfl ?_
  refine q_getr (t := (k + 17)) dX2_copy_52 foX2_29 hk.1 rfl ?_
  refine q_alen (t0 := 0) (v := 6) dX2_copy_55 hk.2.2.2.2.2.1 (fun _ => rfl) (by decide) ?_
  refine q_copy dX2_copy_56 (cplX2_69) cp_nat cp_st cp_in hk1.2.2.2.2.2.1 hk.2.2.2.2.2.1 ⟨Nat.le_of_ble_eq_true rfl, Nat.le_of_ble_eq_true rfl⟩ ?_
  refine q_nmM (fun s4 => ?_)
  refine q_aload_n (i := 0) (x := k) dX2_copy_59 rfl 0 rfl ?_
  refine q_getr (t := (k + 18)) dX2_copy_60 foX2_37 hk.1 rfl ?_
  refine q_aload_n (i := 1) (x := k1) dX2_copy_63 rfl 1 rfl ?_
  refine q_getr (t := (k1 + 18)) dX2_copy_64 foX2_37 hk1.1 rfl ?_
  refine q_cVv mX8_copy [.ref (k1 + 18)] (st := []) dX2_copy_67 (svX2_82) ⟨Nat.le_of_ble_eq_true rfl, Nat.le_of_ble_eq_true rfl⟩ hk.2.2.2.2.2.2.1.1 rfl rfl rfl (Nat.le_of_ble_eq_true rfl) (kX8_copy (k + 18) 72 (k1 + 18) 72 hk.2.2.2.2.2.2.1 hk1.2.2.2.2.2.2.1 s4) (fun y5 => ?_)
  refine q_aload_n (i := 0) (x := k) dX2_copy_70 rfl 0 rfl ?_
  refine q_getr (t := (k + 20)) dX2_copy_71 foX2_41 hk.1 rfl ?_
  refine q_aload_n (i := 1) (x := k1) dX2_copy_74 rfl 1 rfl ?_
  refine q_getr (t := (k1 + 20)) dX2_copy_75 foX2_41 hk1.1 rfl ?_
  refine q_cVv mX8_copy [.ref (k1 + 20)] (st := []) dX2_copy_78 (svX2_82) ⟨Nat.le_of_ble_eq_true rfl, Nat.le_of_ble_eq_true rfl⟩ hk.2.2.2.2.2.2.2.1.1 rfl rfl rfl (Nat.le_of_ble_eq_true rfl) (kX8_copy (k + 20) 36 (k1 + 20) 36 hk.2.2.2.2.2.2.2.1 hk1.2.2.2.2.2.2.2.1 y5) (fun y6 => ?_)
  refine q_aload_n (i := 0) (x := k) dX2_copy_81 rfl 0 rfl ?_
  refine q_getr (t := (k + 22)) dX2_copy_82 foX2_44 hk.1 rfl ?_
  refine q_aload_n (i := 1) (x := k1) dX2_copy_85 rfl 1 rfl ?_
  refine q_getr (t := (k1 + 22)) dX2_copy_86 foX2_44 hk1.1 rfl ?_
  refine q_cVv mX8_copy [.ref (k1 + 22)] (st := []) dX2_copy_89 (svX2_82) ⟨Nat.le_of_ble_eq_true rfl, Nat.le_of_ble_eq_true rfl⟩ hk.2.2.2.2.2.2.2.2.1.1 rfl rfl rfl (Nat.le_of_ble_eq_true rfl) (kX8_copy (k + 22) 40 (k1 + 22) 40 hk.2.2.2.2.2.2.2.2.1 hk1.2.2.2.2.2.2.2.2.1 y6) (fun y7 => ?_)
  refine q_aload_n (i := 0) (x := k) dX2_copy_92 rfl 0 rfl ?_
  refine q_getr (t := (k + 24)) dX2_copy_93 foX2_47 hk.1 rfl ?_
  refine q_aload_n (i := 1) (x := k1) dX2_copy_96 rfl 1 rfl ?_
  refine q_getr (t := (k1 + 24)) dX2_copy_97 foX2_47 hk1.1 rfl ?_
  refine q_cVv mX8_copy [.ref (k1 + 24)] (st := []) dX2_copy_100 (svX2_82) ⟨Nat.le_of_ble_eq_true rfl, Nat.le_of_ble_eq_true rfl⟩ hk.2.2.2.2.2.2.2.2.2.1.1 rfl rfl rfl (Nat.le_of_ble_eq_true rfl) (kX8_copy (k + 24) 30 (k1 + 24) 30 hk.2.2.2.2.2.2.2.2.2.1 hk1.2.2.2.2.2.2.2.2.2.1 y7) (fun y8 => ?_)
  refine q_aload_n (i := 0) (x := k) dX2_copy_103 rfl 0 rfl ?_
  refine q_getr (t := (k + 26)) dX2_copy_104 foX2_50 hk.1 rfl ?_
  refine q_aload_n (i := 1) (x := k1) dX2_copy_107 rfl 1 rfl ?_
  refine q_getr (t := (k1 + 26)) dX2_copy_108 foX2_50 hk1.1 rfl ?_
  refine q_cVv mX8_copy [.ref (k1 + 26)] (st := []) dX2_copy_111 (svX2_82) ⟨Nat.le_of_ble_eq_true rfl, Nat.le_of_ble_eq_true rfl⟩ hk.2.2.2.2.2.2.2.2.2.2.1.1 rfl rfl rfl (Nat.le_of_ble_eq_true rfl) (kX8_copy (k + 26) 32 (k1 + 26) 32 hk.2.2.2.2.2.2.2.2.2.2.1 hk1.2.2.2.2.2.2.2.2.2.2.1 y8) (fun y9 => ?_)
  refine q_aload_n (i := 0) (x := k) dX2_copy_114 rfl 0 rfl ?_
  refine q_getr (t := (k + 28)) dX2_copy_115 foX2_53 hk.1 rfl ?_
  refine q_aload_n (i := 1) (x := k1) dX2_copy_118 rfl 1 rfl ?_
  refine q_getr (t := (k1 + 28)) dX2_copy_119 foX2_53 hk1.1 rfl ?_
  refine q_cVv mX8_copy [.ref (k1 + 28)] (st := []) dX2_copy_122 (svX2_82) ⟨Nat.le_of_ble_eq_true rfl, Nat.le_of_ble_eq_true rfl⟩ hk.2.2.2.2.2.2.2.2.2.2.2.1.1 rfl rfl rfl (Nat.le_of_ble_eq_true rfl) (kX8_copy (k + 28) 16 (k1 + 28) 16 hk.2.2.2.2.2.2.2.2.2.2.2.1 hk1.2.2.2.2.2.2.2.2.2.2.2.1 y9) (fun y10 => ?_)
  refine q_aload_n (i := 0) (x := k) dX2_copy_125 rfl 0 rfl ?_
  refine q_getr (t := (k + 30)) dX2_copy_126 foX2_56 hk.1 rfl ?_
  refine q_aload_n (i := 1) (x := k1) dX2_copy_129 rfl 1 rfl ?_
  refine q_getr (t := (k1 + 30)) dX2_copy_130 foX2_56 hk1.1 rfl ?_
  refine q_cVv mX8_copy [.ref (k1 + 30)] (st := []) dX2_copy_133 (svX2_82) ⟨Nat.le_of_ble_eq_true rfl, Nat.le_of_ble_eq_true rfl⟩ hk.2.2.2.2.2.2.2.2.2.2.2.2.1.1 rfl rfl rfl (Nat.le_of_ble_eq_true rfl) (kX8_copy (k + 30) 6 (k1 + 30) 6 hk.2.2.2.2.2.2.2.2.2.2.2.2.1 hk1.2.2.2.2.2.2.2.2.2.2.2.2.1 y10) (fun y11 => ?_)
  refine q_aload_n (i := 0) (x := k) dX2_copy_136 rfl 0 rfl ?_
  refine q_getr (t := (k + 32)) dX2_copy_137 foX2_59 hk.1 rfl ?_
  refine q_aload_n (i := 1) (x := k1) dX2_copy_140 rfl 1 rfl ?_
  refine q_getr (t := (k1 + 32)) dX2_copy_141 foX2_59 hk1.1 rfl ?_
  refine q_cVv mX8_copy [.ref (k1 + 32)] (st := []) dX2_copy_144 (svX2_82) ⟨Nat.le_of_ble_eq_true rfl, Nat.le_of_ble_eq_true rfl⟩ hk.2.2.2.2.2.2.2.2.2.2.2.2.2.1.1 rfl rfl rfl (Nat.le_of_ble_eq_true rfl) (kX8_copy (k + 32) 12 (k1 + 32) 12 hk.2.2.2.2.2.2.2.2.2.2.2.2.2.1 hk1.2.2.2.2.2.2.2.2.2.2.2.2.2.1 y11) (fun y12 => ?_)
  refine q_aload_n (i := 0) (x := k) dX2_copy_147 rfl 0 rfl ?_
  refine q_getr (t := (k + 34)) dX2_copy_148 foX2_65 hk.1 rfl ?_
  refine q_aload_n (i := 1) (x := k1) dX2_copy_151 rfl 1 rfl ?_
  refine q_getr (t := (k1 + 34)) dX2_copy_152 foX2_65 hk1.1 rfl ?_
  refine q_cVv mX5_copy [.ref (k1 + 34)] (st := []) dX2_copy_155 (svX2_85) ⟨Nat.le_of_ble_eq_true rfl, Nat.le_of_ble_eq_true rfl⟩ hk.2.2.2.2.2.2.2.2.2.2.2.2.2.2.1 rfl rfl rfl (Nat.le_of_ble_eq_true rfl) (kX5_copy (k + 34) (k1 + 34) hk.2.2.2.2.2.2.2.2.2.2.2.2.2.2 hk1.2.2.2.2.2.2.2.2.2.2.2.2.2.2 y12) (fun y13 => ?_)
  exact q_vret (y := y13) dX2_copy_158 rfl rfl
theorem kX2_copy  (k : Nat) (k1 : Nat) (hk : iBook k) (hk1 : iBook k1) (σ : qMem) : qMc wC mX2_copy (ρv) [.ref k, .ref k1] σ (fX2_copy k k1 σ) := qMc_of (moX2_copy) (Nat.le_of_ble_eq_true rfl) (aX2_copy k k1 hk hk1 σ)

theorem dX3_forget_0 : decode cX3_forget 0 = .ok (.aload_n 0, 1) := by decide +kernel
theorem dX3_forget_1 : decode cX3_forget 1 = .ok (.iconst 0, 1) := by decide +kernel
theorem dX3_forget_2 : decode cX3_forget 2 = .ok (.putfield 70, 3) := by decide +kernel
theorem dX3_forget_5 : decode cX3_forget 5 = .ok (.aload_n 0, 1) := by decide +kernel
theorem dX3_forget_6 : decode cX3_forget 6 = .ok (.iconst 0, 1) := by decide +kernel
theorem dX3_forget_7 : decode cX3_forget 7 = .ok (.putfield 74, 3) := by decide +kernel
theorem dX3_forget_10 : decode cX3_forget 10 = .ok (.aload_n 0, 1) := by decide +kernel
theorem dX3_forget_11 : decode cX3_forget 11 = .ok (.iconst 0, 1) := by decide +kernel
theorem dX3_forget_12 : decode cX3_forget 12 = .ok (.putfield 77, 3) := by decide +kernel
theorem dX3_forget_15 : decode cX3_forget 15 = .ok (.return_, 1) := by decide +kernel

def fX3_forget  (σ : qMem) : Option qMem :=
  (nmM (si σ 44 15 0) fun s1 => (nmM (si s1 44 16 0) fun s2 => (nmM (si s2 44 17 0) fun s3 => (some s3))))
set_option maxRecDepth 20000 in
set_option maxHeartbeats 4000000 in
theorem aX3_forget    (σ : qMem) : qAt wC mX3_forget (ρv) 0 [(0, .ref 44)] [] σ (fX3_forget σ) := by
  unfold fX3_forget
  refine q_aload_n (i := 0) (x := 44) dX3_forget_0 rfl 0 rfl ?_
  refine q_iconst (v := 0) dX3_forget_1 (by decide) ?_
  refine q_putz dX3_forget_2 foX3_70 fwX3_15 zC_44 rfl (by decide) ?_
  refine q_nmM (fun s1 => ?_)
  refine q_aload_n (i := 0) (x := 44) dX3_forget_5 rfl 0 rfl ?_
  refine q_iconst (v := 0) dX3_forget_6 (by decide) ?_
  refine q_putz dX3_forget_7 foX3_74 fwX3_16 zC_44 rfl (by decide) ?_
  refine q_nmM (fun s2 => ?_)
  refine q_aload_n (i := 0) (x := 44) dX3_forget_10 rfl 0 rfl ?_
  refine q_iconst (v := 0) dX3_forget_11 (by decide) ?_
  refine q_putz dX3_forget_12 foX3_77 fwX3_17 zC_44 rfl (by decide) ?_
  refine q_nmM (fun s3 => ?_)
  exact q_vret (y := s3) dX3_forget_15 rfl rfl
theorem kX3_forget    (σ : qMem) : qMc wC mX3_forget (ρv) [.ref 44] σ (fX3_forget σ) := qMc_of (moX3_forget) (Nat.le_of_ble_eq_true rfl) (aX3_forget  σ)

theorem dX11_isBoat_0 : decode cX11_isBoat 0 = .ok (.iload_n 0, 1) := by decide +kernel
theorem dX11_isBoat_1 : decode cX11_isBoat 1 = .ok (.ifCond .eq 8, 3) := by decide +kernel
theorem dX11_isBoat_4 : decode cX11_isBoat 4 = .ok (.iload_n 0, 1) := by decide +kernel
theorem dX11_isBoat_5 : decode cX11_isBoat 5 = .ok (.iconst 1, 1) := by decide +kernel
theorem dX11_isBoat_6 : decode cX11_isBoat 6 = .ok (.if_icmp .ne 7, 3) := by decide +kernel
theorem dX11_isBoat_9 : decode cX11_isBoat 9 = .ok (.iconst 1, 1) := by decide +kernel
theorem dX11_isBoat_10 : decode cX11_isBoat 10 = .ok (.goto 4, 3) := by decide +kernel
theorem dX11_isBoat_13 : decode cX11_isBoat 13 = .ok (.iconst 0, 1) := by decide +kernel
theorem dX11_isBoat_14 : decode cX11_isBoat 14 = .ok (.ireturn, 1) := by decide +kernel
def fX11_isBoat_b9  : Option Int32 :=
  (some 1)
set_option maxRecDepth 20000 in
set_option maxHeartbeats 4000000 in
theorem aX11_isBoat_b9 (σ : qMem) : qAt wC mX11_isBoat (ρp σ) 9 [] [] σ (fX11_isBoat_b9) := by
  unfold fX11_isBoat_b9
  refine q_iconst (v := 1) dX11_isBoat_9 (by decide) ?_
  refine q_goto (tgt := 14) dX11_isBoat_10 (by decide) ?_
  exact q_iretz (y := 1) dX11_isBoat_14 rfl rfl rfl

def fX11_isBoat (p0 : Int32) : Option Int32 :=
  (if p0 = 0 then (fX11_isBoat_b9 ) else (if p0 = 1 then (fX11_isBoat_b9 ) else (some 0)))
set_option maxRecDepth 20000 in
set_option maxHeartbeats 4000000 in
theorem aX11_isBoat  (p0 : Int32)  (σ : qMem) : qAt wC mX11_isBoat (ρp σ) 0 [(0, .int p0)] [] σ (fX11_isBoat p0) := by
  unfold fX11_isBoat
  refine q_iload_n (i := 0) (x := p0) dX11_isBoat_0 rfl 0 rfl ?_
  refine q_if_eq (tgt := 9) dX11_isBoat_1 (by decide) ?_ ?_
  · exact q_sub [] rfl (aX11_isBoat_b9 σ)
  refine q_iload_n (i := 0) (x := p0) dX11_isBoat_4 rfl 0 rfl ?_
  refine q_iconst (v := 1) dX11_isBoat_5 (by decide) ?_
  refine q_icmp_ne (tgt := 13) dX11_isBoat_6 (by decide) ?_ ?_
  · refine q_iconst (v := 0) dX11_isBoat_13 (by decide) ?_
    exact q_iretz (y := 0) dX11_isBoat_14 rfl rfl rfl
  exact q_sub [] rfl (aX11_isBoat_b9 σ)
theorem kX11_isBoat  (p0 : Int32)  (σ : qMem) : qMc wC mX11_isBoat (ρp σ) [.int p0] σ (fX11_isBoat p0) := qMc_of (moX11_isBoat) (Nat.le_of_ble_eq_true rfl) (aX11_isBoat p0  σ)

theorem dX11_isIn_0 : decode cX11_isIn 0 = .ok (.iload_n 0, 1) := by decide +kernel
theorem dX11_isIn_1 : decode cX11_isIn 1 = .ok (.iload_n 1, 1) := by decide +kernel
theorem dX11_isIn_2 : decode cX11_isIn 2 = .ok (.if_icmp .lt 12, 3) := by decide +kernel
theorem dX11_isIn_5 : decode cX11_isIn 5 = .ok (.iload_n 0, 1) := by decide +kernel
theorem dX11_isIn_6 : decode cX11_isIn 6 = .ok (.iload_n 2, 1) := by decide +kernel
theorem dX11_isIn_7 : decode cX11_isIn 7 = .ok (.if_icmp .gt 7, 3) := by decide +kernel
theorem dX11_isIn_10 : decode cX11_isIn 10 = .ok (.iconst 1, 1) := by decide +kernel
theorem dX11_isIn_11 : decode cX11_isIn 11 = .ok (.goto 4, 3) := by decide +kernel
theorem dX11_isIn_14 : decode cX11_isIn 14 = .ok (.iconst 0, 1) := by decide +kernel
theorem dX11_isIn_15 : decode cX11_isIn 15 = .ok (.ireturn, 1) := by decide +kernel
def fX11_isIn_b14  : Option Int32 :=
  (some 0)
set_option maxRecDepth 20000 in
set_option maxHeartbeats 4000000 in
theorem aX11_isIn_b14 (σ : qMem) : qAt wC mX11_isIn (ρp σ) 14 [] [] σ (fX11_isIn_b14) := by
  unfold fX11_isIn_b14
  refine q_iconst (v := 0) dX11_isIn_14 (by decide) ?_
  exact q_iretz (y := 0) dX11_isIn_15 rfl rfl rfl

def fX11_isIn (p0 : Int32) (p1 : Int32) (p2 : Int32) : Option Int32 :=
  (if p0 < p1 then (fX11_isIn_b14 ) else (if p2 < p0 then (fX11_isIn_b14 ) else (some 1)))
set_option maxRecDepth 20000 in
set_option maxHeartbeats 4000000 in
theorem aX11_isIn  (p0 : Int32) (p1 : Int32) (p2 : Int32)  (σ : qMem) : qAt wC mX11_isIn (ρp σ) 0 [(0, .int p0), (1, .int p1), (2, .int p2)] [] σ (fX11_isIn p0 p1 p2) := by
  unfold fX11_isIn
  refine q_iload_n (i := 0) (x := p0) dX11_isIn_0 rfl 0 rfl ?_
  refine q_iload_n (i := 1) (x := p1) dX11_isIn_1 rfl 1 rfl ?_
  refine q_icmp_lt (tgt := 14) dX11_isIn_2 (by decide) ?_ ?_
  · exact q_sub [] rfl (aX11_isIn_b14 σ)
  refine q_iload_n (i := 0) (x := p0) dX11_isIn_5 rfl 0 rfl ?_
  refine q_iload_n (i := 2) (x := p2) dX11_isIn_6 rfl 2 rfl ?_
  refine q_icmp_gt (tgt := 14) dX11_isIn_7 (by decide) ?_ ?_
  · exact q_sub [] rfl (aX11_isIn_b14 σ)
  refine q_iconst (v := 1) dX11_isIn_10 (by decide) ?_
  refine q_goto (tgt := 15) dX11_isIn_11 (by decide) ?_
  exact q_iretz (y := 1) dX11_isIn_15 rfl rfl rfl
theorem kX11_isIn  (p0 : Int32) (p1 : Int32) (p2 : Int32)  (σ : qMem) : qMc wC mX11_isIn (ρp σ) [.int p0, .int p1, .int p2] σ (fX11_isIn p0 p1 p2) := qMc_of (moX11_isIn) (Nat.le_of_ble_eq_true rfl) (aX11_isIn p0 p1 p2  σ)

theorem dX11_isBell_0 : decode cX11_isBell 0 = .ok (.iload_n 0, 1) := by decide +kernel
theorem dX11_isBell_1 : decode cX11_isBell 1 = .ok (.iconst 0, 1) := by decide +kernel
theorem dX11_isBell_2 : decode cX11_isBell 2 = .ok (.bipush 23, 2) := by decide +kernel
theorem dX11_isBell_4 : decode cX11_isBell 4 = .ok (.invokestatic 83, 3) := by decide +kernel
theorem dX11_isBell_7 : decode cX11_isBell 7 = .ok (.ireturn, 1) := by decide +kernel

def fX11_isBell (p0 : Int32) : Option Int32 :=
  ((fX11_isIn p0 0 23).bind fun y1 => (if y1 = 0 ∨ y1 = 1 then some y1 else none))
set_option maxRecDepth 20000 in
set_option maxHeartbeats 4000000 in
theorem aX11_isBell  (p0 : Int32)  (σ : qMem) : qAt wC mX11_isBell (ρp σ) 0 [(0, .int p0)] [] σ (fX11_isBell p0) := by
  unfold fX11_isBell
  refine q_iload_n (i := 0) (x := p0) dX11_isBell_0 rfl 0 rfl ?_
  refine q_iconst (v := 0) dX11_isBell_1 (by decide) ?_
  refine q_bipush (v := 23) dX11_isBell_2 (by decide) ?_
  refine q_cSp mX11_isIn [.int p0, .int 0, .int 23] (st := []) dX11_isBell_4 (ssX11_83) ⟨Nat.le_of_ble_eq_true rfl, Nat.le_of_ble_eq_true rfl⟩ rfl rfl (Nat.le_of_ble_eq_true rfl) (kX11_isIn p0 0 23 σ) (fun y1 => ?_)
  exact q_if (fun hz => q_iretz (y := y1) dX11_isBell_7 rfl (nb_ok hz) rfl)
theorem kX11_isBell  (p0 : Int32)  (σ : qMem) : qMc wC mX11_isBell (ρp σ) [.int p0] σ (fX11_isBell p0) := qMc_of (moX11_isBell) (Nat.le_of_ble_eq_true rfl) (aX11_isBell p0  σ)

theorem dX3_isAnswered_0 : decode cX3_isAnswered 0 = .ok (.iload_n 3, 1) := by decide +kernel
theorem dX3_isAnswered_1 : decode cX3_isAnswered 1 = .ok (.invokestatic 147, 3) := by decide +kernel
theorem dX3_isAnswered_4 : decode cX3_isAnswered 4 = .ok (.ifCond .eq 11, 3) := by decide +kernel
theorem dX3_isAnswered_7 : decode cX3_isAnswered 7 = .ok (.iload 4, 2) := by decide +kernel
theorem dX3_isAnswered_9 : decode cX3_isAnswered 9 = .ok (.invokestatic 155, 3) := by decide +kernel
theorem dX3_isAnswered_12 : decode cX3_isAnswered 12 = .ok (.ifCond .ne 5, 3) := by decide +kernel
theorem dX3_isAnswered_15 : decode cX3_isAnswered 15 = .ok (.iconst 0, 1) := by decide +kernel
theorem dX3_isAnswered_16 : decode cX3_isAnswered 16 = .ok (.ireturn, 1) := by decide +kernel
theorem dX3_isAnswered_17 : decode cX3_isAnswered 17 = .ok (.iconst 0, 1) := by decide +kernel
theorem dX3_isAnswered_18 : decode cX3_isAnswered 18 = .ok (.istore 6, 2) := by decide +kernel
theorem dX3_isAnswered_20 : decode cX3_isAnswered 20 = .ok (.iload 6, 2) := by decide +kernel
theorem dX3_isAnswered_22 : decode cX3_isAnswered 22 = .ok (.aload_n 1, 1) := by decide +kernel
theorem dX3_isAnswered_23 : decode cX3_isAnswered 23 = .ok (.getfield 84, 3) := by decide +kernel
theorem dX3_isAnswered_26 : decode cX3_isAnswered 26 = .ok (.if_icmp .ge 190, 3) := by decide +kernel
theorem dX3_isAnswered_29 : decode cX3_isAnswered 29 = .ok (.aload_n 1, 1) := by decide +kernel
theorem dX3_isAnswered_30 : decode cX3_isAnswered 30 = .ok (.iload 6, 2) := by decide +kernel
theorem dX3_isAnswered_32 : decode cX3_isAnswered 32 = .ok (.iconst 2, 1) := by decide +kernel
theorem dX3_isAnswered_33 : decode cX3_isAnswered 33 = .ok (.invokevirtual 133, 3) := by decide +kernel
theorem dX3_isAnswered_36 : decode cX3_isAnswered 36 = .ok (.istore 7, 2) := by decide +kernel
theorem dX3_isAnswered_38 : decode cX3_isAnswered 38 = .ok (.aload_n 1, 1) := by decide +kernel
theorem dX3_isAnswered_39 : decode cX3_isAnswered 39 = .ok (.iload 6, 2) := by decide +kernel
theorem dX3_isAnswered_41 : decode cX3_isAnswered 41 = .ok (.iconst 1, 1) := by decide +kernel
theorem dX3_isAnswered_42 : decode cX3_isAnswered 42 = .ok (.invokevirtual 133, 3) := by decide +kernel
theorem dX3_isAnswered_45 : decode cX3_isAnswered 45 = .ok (.iload 7, 2) := by decide +kernel
theorem dX3_isAnswered_47 : decode cX3_isAnswered 47 = .ok (.isub, 1) := by decide +kernel
theorem dX3_isAnswered_48 : decode cX3_isAnswered 48 = .ok (.aload_n 0, 1) := by decide +kernel
theorem dX3_isAnswered_49 : decode cX3_isAnswered 49 = .ok (.getfield 80, 3) := by decide +kernel
theorem dX3_isAnswered_52 : decode cX3_isAnswered 52 = .ok (.getfield 113, 3) := by decide +kernel
theorem dX3_isAnswered_55 : decode cX3_isAnswered 55 = .ok (.iload_n 3, 1) := by decide +kernel
theorem dX3_isAnswered_56 : decode cX3_isAnswered 56 = .ok (.aaload, 1) := by decide +kernel
theorem dX3_isAnswered_57 : decode cX3_isAnswered 57 = .ok (.getfield 158, 3) := by decide +kernel
theorem dX3_isAnswered_60 : decode cX3_isAnswered 60 = .ok (.iload 4, 2) := by decide +kernel
theorem dX3_isAnswered_62 : decode cX3_isAnswered 62 = .ok (.iaload, 1) := by decide +kernel
theorem dX3_isAnswered_63 : decode cX3_isAnswered 63 = .ok (.isub, 1) := by decide +kernel
theorem dX3_isAnswered_64 : decode cX3_isAnswered 64 = .ok (.istore 8, 2) := by decide +kernel
theorem dX3_isAnswered_66 : decode cX3_isAnswered 66 = .ok (.aload_n 1, 1) := by decide +kernel
theorem dX3_isAnswered_67 : decode cX3_isAnswered 67 = .ok (.iload 6, 2) := by decide +kernel
theorem dX3_isAnswered_69 : decode cX3_isAnswered 69 = .ok (.iconst 0, 1) := by decide +kernel
theorem dX3_isAnswered_70 : decode cX3_isAnswered 70 = .ok (.invokevirtual 133, 3) := by decide +kernel
theorem dX3_isAnswered_73 : decode cX3_isAnswered 73 = .ok (.aload_n 0, 1) := by decide +kernel
theorem dX3_isAnswered_74 : decode cX3_isAnswered 74 = .ok (.getfield 80, 3) := by decide +kernel
theorem dX3_isAnswered_77 : decode cX3_isAnswered 77 = .ok (.getfield 113, 3) := by decide +kernel
theorem dX3_isAnswered_80 : decode cX3_isAnswered 80 = .ok (.iload_n 3, 1) := by decide +kernel
theorem dX3_isAnswered_81 : decode cX3_isAnswered 81 = .ok (.aaload, 1) := by decide +kernel
theorem dX3_isAnswered_82 : decode cX3_isAnswered 82 = .ok (.getfield 161, 3) := by decide +kernel
theorem dX3_isAnswered_85 : decode cX3_isAnswered 85 = .ok (.iload 4, 2) := by decide +kernel
theorem dX3_isAnswered_87 : decode cX3_isAnswered 87 = .ok (.iaload, 1) := by decide +kernel
theorem dX3_isAnswered_88 : decode cX3_isAnswered 88 = .ok (.isub, 1) := by decide +kernel
theorem dX3_isAnswered_89 : decode cX3_isAnswered 89 = .ok (.istore 9, 2) := by decide +kernel
theorem dX3_isAnswered_91 : decode cX3_isAnswered 91 = .ok (.iload 4, 2) := by decide +kernel
theorem dX3_isAnswered_93 : decode cX3_isAnswered 93 = .ok (.aload_n 1, 1) := by decide +kernel
theorem dX3_isAnswered_94 : decode cX3_isAnswered 94 = .ok (.iload 6, 2) := by decide +kernel
theorem dX3_isAnswered_96 : decode cX3_isAnswered 96 = .ok (.iconst 3, 1) := by decide +kernel
theorem dX3_isAnswered_97 : decode cX3_isAnswered 97 = .ok (.invokevirtual 133, 3) := by decide +kernel
theorem dX3_isAnswered_100 : decode cX3_isAnswered 100 = .ok (.aload_n 1, 1) := by decide +kernel
theorem dX3_isAnswered_101 : decode cX3_isAnswered 101 = .ok (.iload 6, 2) := by decide +kernel
theorem dX3_isAnswered_103 : decode cX3_isAnswered 103 = .ok (.iconst 4, 1) := by decide +kernel
theorem dX3_isAnswered_104 : decode cX3_isAnswered 104 = .ok (.invokevirtual 133, 3) := by decide +kernel
theorem dX3_isAnswered_107 : decode cX3_isAnswered 107 = .ok (.invokestatic 164, 3) := by decide +kernel
theorem dX3_isAnswered_110 : decode cX3_isAnswered 110 = .ok (.istore 10, 2) := by decide +kernel
theorem dX3_isAnswered_112 : decode cX3_isAnswered 112 = .ok (.iload 9, 2) := by decide +kernel
theorem dX3_isAnswered_114 : decode cX3_isAnswered 114 = .ok (.iload 7, 2) := by decide +kernel
theorem dX3_isAnswered_116 : decode cX3_isAnswered 116 = .ok (.isub, 1) := by decide +kernel
theorem dX3_isAnswered_117 : decode cX3_isAnswered 117 = .ok (.istore 11, 2) := by decide +kernel
theorem dX3_isAnswered_119 : decode cX3_isAnswered 119 = .ok (.iload 10, 2) := by decide +kernel
theorem dX3_isAnswered_121 : decode cX3_isAnswered 121 = .ok (.ifCond .eq 89, 3) := by decide +kernel
theorem dX3_isAnswered_124 : decode cX3_isAnswered 124 = .ok (.iload 11, 2) := by decide +kernel
theorem dX3_isAnswered_126 : decode cX3_isAnswered 126 = .ok (.iload 9, 2) := by decide +kernel
theorem dX3_isAnswered_128 : decode cX3_isAnswered 128 = .ok (.iload 7, 2) := by decide +kernel
theorem dX3_isAnswered_130 : decode cX3_isAnswered 130 = .ok (.iadd, 1) := by decide +kernel
theorem dX3_isAnswered_131 : decode cX3_isAnswered 131 = .ok (.if_icmp .gt 79, 3) := by decide +kernel
theorem dX3_isAnswered_134 : decode cX3_isAnswered 134 = .ok (.iload_n 2, 1) := by decide +kernel
theorem dX3_isAnswered_135 : decode cX3_isAnswered 135 = .ok (.ifCond .ne 26, 3) := by decide +kernel
theorem dX3_isAnswered_138 : decode cX3_isAnswered 138 = .ok (.aload_n 0, 1) := by decide +kernel
theorem dX3_isAnswered_139 : decode cX3_isAnswered 139 = .ok (.getfield 41, 3) := by decide +kernel
theorem dX3_isAnswered_142 : decode cX3_isAnswered 142 = .ok (.iload 5, 2) := by decide +kernel
theorem dX3_isAnswered_144 : decode cX3_isAnswered 144 = .ok (.aload_n 0, 1) := by decide +kernel
theorem dX3_isAnswered_145 : decode cX3_isAnswered 145 = .ok (.getfield 80, 3) := by decide +kernel
theorem dX3_isAnswered_148 : decode cX3_isAnswered 148 = .ok (.getfield 104, 3) := by decide +kernel
theorem dX3_isAnswered_151 : decode cX3_isAnswered 151 = .ok (.iconst 0, 1) := by decide +kernel
theorem dX3_isAnswered_152 : decode cX3_isAnswered 152 = .ok (.iaload, 1) := by decide +kernel
theorem dX3_isAnswered_153 : decode cX3_isAnswered 153 = .ok (.iload 11, 2) := by decide +kernel
theorem dX3_isAnswered_155 : decode cX3_isAnswered 155 = .ok (.invokevirtual 168, 3) := by decide +kernel
theorem dX3_isAnswered_158 : decode cX3_isAnswered 158 = .ok (.goto 23, 3) := by decide +kernel
theorem dX3_isAnswered_161 : decode cX3_isAnswered 161 = .ok (.aload_n 0, 1) := by decide +kernel
theorem dX3_isAnswered_162 : decode cX3_isAnswered 162 = .ok (.getfield 41, 3) := by decide +kernel
theorem dX3_isAnswered_165 : decode cX3_isAnswered 165 = .ok (.iload 5, 2) := by decide +kernel
theorem dX3_isAnswered_167 : decode cX3_isAnswered 167 = .ok (.aload_n 0, 1) := by decide +kernel
theorem dX3_isAnswered_168 : decode cX3_isAnswered 168 = .ok (.getfield 80, 3) := by decide +kernel
theorem dX3_isAnswered_171 : decode cX3_isAnswered 171 = .ok (.getfield 104, 3) := by decide +kernel
theorem dX3_isAnswered_174 : decode cX3_isAnswered 174 = .ok (.iconst 1, 1) := by decide +kernel
theorem dX3_isAnswered_175 : decode cX3_isAnswered 175 = .ok (.iaload, 1) := by decide +kernel
theorem dX3_isAnswered_176 : decode cX3_isAnswered 176 = .ok (.iload 11, 2) := by decide +kernel
theorem dX3_isAnswered_178 : decode cX3_isAnswered 178 = .ok (.invokevirtual 172, 3) := by decide +kernel
theorem dX3_isAnswered_181 : decode cX3_isAnswered 181 = .ok (.aload_n 0, 1) := by decide +kernel
theorem dX3_isAnswered_182 : decode cX3_isAnswered 182 = .ok (.getfield 41, 3) := by decide +kernel
theorem dX3_isAnswered_185 : decode cX3_isAnswered 185 = .ok (.iload 8, 2) := by decide +kernel
theorem dX3_isAnswered_187 : decode cX3_isAnswered 187 = .ok (.invokevirtual 175, 3) := by decide +kernel
theorem dX3_isAnswered_190 : decode cX3_isAnswered 190 = .ok (.iconst 0, 1) := by decide +kernel
theorem dX3_isAnswered_191 : decode cX3_isAnswered 191 = .ok (.iconst 2, 1) := by decide +kernel
theorem dX3_isAnswered_192 : decode cX3_isAnswered 192 = .ok (.iload 7, 2) := by decide +kernel
theorem dX3_isAnswered_194 : decode cX3_isAnswered 194 = .ok (.imul, 1) := by decide +kernel
theorem dX3_isAnswered_195 : decode cX3_isAnswered 195 = .ok (.invokestatic 179, 3) := by decide +kernel
theorem dX3_isAnswered_198 : decode cX3_isAnswered 198 = .ok (.iand, 1) := by decide +kernel
theorem dX3_isAnswered_199 : decode cX3_isAnswered 199 = .ok (.ifCond .eq 5, 3) := by decide +kernel
theorem dX3_isAnswered_202 : decode cX3_isAnswered 202 = .ok (.iconst 1, 1) := by decide +kernel
theorem dX3_isAnswered_203 : decode cX3_isAnswered 203 = .ok (.ireturn, 1) := by decide +kernel
theorem dX3_isAnswered_204 : decode cX3_isAnswered 204 = .ok (.iinc 11 1, 3) := by decide +kernel
theorem dX3_isAnswered_207 : decode cX3_isAnswered 207 = .ok (.goto (-88), 3) := by decide +kernel
theorem dX3_isAnswered_210 : decode cX3_isAnswered 210 = .ok (.iinc 6 1, 3) := by decide +kernel
theorem dX3_isAnswered_213 : decode cX3_isAnswered 213 = .ok (.goto (-193), 3) := by decide +kernel
theorem dX3_isAnswered_216 : decode cX3_isAnswered 216 = .ok (.iconst 0, 1) := by decide +kernel
theorem dX3_isAnswered_217 : decode cX3_isAnswered 217 = .ok (.ireturn, 1) := by decide +kernel
def fX3_isAnswered_b210 (N : Nat) (k1 n1 : Nat) (c20 : Int32 → Int32 → Int32 → Int32 → Int32 → qMem → Option (Int32 × qMem)) (v2 : Int32) (v3 : Int32) (v4 : Int32) (v5 : Int32) (v6 : Int32) (σ : qMem) : Option (Int32 × qMem) :=
  (c20 v2 v3 v4 v5 (v6 + 1) σ)
set_option maxRecDepth 20000 in
set_option maxHeartbeats 4000000 in
theorem aX3_isAnswered_b210 (N : Nat) (k1 n1 : Nat) (hk1 : iRows k1 n1) (c20 : Int32 → Int32 → Int32 → Int32 → Int32 → qMem → Option (Int32 × qMem)) (hc20 : ∀ (v2 : Int32) (v3 : Int32) (v4 : Int32) (v5 : Int32) (v6 : Int32) (σ : qMem), qAt wC mX3_isAnswered (ρi) 20 [(0, .ref 44), (1, .ref k1), (2, .int v2), (3, .int v3), (4, .int v4), (5, .int v5), (6, .int v6)] [] σ (c20 v2 v3 v4 v5 v6 σ)) (v2 : Int32) (v3 : Int32) (v4 : Int32) (v5 : Int32) (v6 : Int32) (σ : qMem) : qAt wC mX3_isAnswered (ρi) 210 [(0, .ref 44), (1, .ref k1), (2, .int v2), (3, .int v3), (4, .int v4), (5, .int v5), (6, .int v6)] [] σ (fX3_isAnswered_b210 N k1 n1 c20 v2 v3 v4 v5 v6 σ) := by
  unfold fX3_isAnswered_b210
  refine q_iinc (i := 6) (x := v6) (v := (v6 + 1)) (L' := [(6, .int (v6 + 1)), (0, .ref 44), (1, .ref k1), (2, .int v2), (3, .int v3), (4, .int v4), (5, .int v5)]) dX3_isAnswered_210 6 rfl (q_cst v6 (by decide)) (Nat.le_of_ble_eq_true rfl) rfl ?_
  refine q_goto (tgt := 20) dX3_isAnswered_213 (by decide) ?_
  exact q_sub [1, 2, 3, 4, 5, 6, 0] rfl (hc20 v2 v3 v4 v5 (v6 + 1) σ)

def fX3_isAnswered_b181 (N : Nat) (k1 n1 : Nat) (c20 : Int32 → Int32 → Int32 → Int32 → Int32 → qMem → Option (Int32 × qMem)) (c119 : Int32 → Int32 → Int32 → Int32 → Int32 → Int32 → Int32 → Int32 → Int32 → Int32 → qMem → Option (Int32 × qMem)) (v2 : Int32) (v3 : Int32) (v4 : Int32) (v5 : Int32) (v6 : Int32) (v7 : Int32) (v8 : Int32) (v9 : Int32) (v10 : Int32) (v11 : Int32) (σ : qMem) : Option (Int32 × qMem) :=
  ((fX0_column v8 σ).bind fun y15 => ((fX0_bits 0 (2 * v7)).bind fun y16 => (if (y15 &&& y16) = 0 then (c119 v2 v3 v4 v5 v6 v7 v8 v9 v10 (v11 + 1) σ) else (some (1, σ)))))
set_option maxRecDepth 20000 in
set_option maxHeartbeats 4000000 in
theorem aX3_isAnswered_b181 (N : Nat) (k1 n1 : Nat) (hk1 : iRows k1 n1) (c20 : Int32 → Int32 → Int32 → Int32 → Int32 → qMem → Option (Int32 × qMem)) (c119 : Int32 → Int32 → Int32 → Int32 → Int32 → Int32 → Int32 → Int32 → Int32 → Int32 → qMem → Option (Int32 × qMem)) (hc20 : ∀ (v2 : Int32) (v3 : Int32) (v4 : Int32) (v5 : Int32) (v6 : Int32) (σ : qMem), qAt wC mX3_isAnswered (ρi) 20 [(0, .ref 44), (1, .ref k1), (2, .int v2), (3, .int v3), (4, .int v4), (5, .int v5), (6, .int v6)] [] σ (c20 v2 v3 v4 v5 v6 σ)) (hc119 : ∀ (v2 : Int32) (v3 : Int32) (v4 : Int32) (v5 : Int32) (v6 : Int32) (v7 : Int32) (v8 : Int32) (v9 : Int32) (v10 : Int32) (v11 : Int32) (σ : qMem), qAt wC mX3_isAnswered (ρi) 119 [(0, .ref 44), (1, .ref k1), (2, .int v2), (3, .int v3), (4, .int v4), (5, .int v5), (6, .int v6), (7, .int v7), (8, .int v8), (9, .int v9), (10, .int v10), (11, .int v11)] [] σ (c119 v2 v3 v4 v5 v6 v7 v8 v9 v10 v11 σ)) (v2 : Int32) (v3 : Int32) (v4 : Int32) (v5 : Int32) (v6 : Int32) (v7 : Int32) (v8 : Int32) (v9 : Int32) (v10 : Int32) (v11 : Int32) (σ : qMem) : qAt wC mX3_isAnswered (ρi) 181 [(0, .ref 44), (1, .ref k1), (2, .int v2), (3, .int v3), (4, .int v4), (5, .int v5), (6, .int v6), (7, .int v7), (8, .int v8), (9, .int v9), (10, .int v10), (11, .int v11)] [] σ (fX3_isAnswered_b181 N k1 n1 c20 c119 v2 v3 v4 v5 v6 v7 v8 v9 v10 v11 σ) := by
  unfold fX3_isAnswered_b181
  refine q_aload_n (i := 0) (x := 44) dX3_isAnswered_181 rfl 0 rfl ?_
  refine q_getr (t := 62) dX3_isAnswered_182 foX3_41 zC_44 rfl ?_
  refine q_iload (i := 8) (x := v8) dX3_isAnswered_185 8 rfl ?_
  refine q_cVp mX0_column [.int v8] (st := []) dX3_isAnswered_187 (svX3_175) ⟨Nat.le_of_ble_eq_true rfl, Nat.le_of_ble_eq_true rfl⟩ zC_62 rfl rfl rfl (Nat.le_of_ble_eq_true rfl) (kX0_column v8 σ) (fun y15 => ?_)
  refine q_iconst (v := 0) dX3_isAnswered_190 (by decide) ?_
  refine q_iconst (v := 2) dX3_isAnswered_191 (by decide) ?_
  refine q_iload (i := 7) (x := v7) dX3_isAnswered_192 7 rfl ?_
  refine q_imul dX3_isAnswered_194 ?_
  refine q_cSp mX0_bits [.int 0, .int (2 * v7)] (st := [.int y15]) dX3_isAnswered_195 (ssX3_179) ⟨Nat.le_of_ble_eq_true rfl, Nat.le_of_ble_eq_true rfl⟩ rfl rfl (Nat.le_of_ble_eq_true rfl) (kX0_bits 0 (2 * v7) σ) (fun y16 => ?_)
  refine q_iand dX3_isAnswered_198 ?_
  refine q_if_eq (tgt := 204) dX3_isAnswered_199 (by decide) ?_ ?_
  · refine q_iinc (i := 11) (x := v11) (v := (v11 + 1)) (L' := [(11, .int (v11 + 1)), (0, .ref 44), (1, .ref k1), (2, .int v2), (3, .int v3), (4, .int v4), (5, .int v5), (6, .int v6), (7, .int v7), (8, .int v8), (9, .int v9), (10, .int v10)]) dX3_isAnswered_204 11 rfl (q_cst v11 (by decide)) (Nat.le_of_ble_eq_true rfl) rfl ?_
    refine q_goto (tgt := 119) dX3_isAnswered_207 (by decide) ?_
    exact q_sub [1, 2, 3, 4, 5, 6, 7, 8, 9, 10, 11, 0] rfl (hc119 v2 v3 v4 v5 v6 v7 v8 v9 v10 (v11 + 1) σ)
  refine q_iconst (v := 1) dX3_isAnswered_202 (by decide) ?_
  exact q_iretz (y := (1, σ)) dX3_isAnswered_203 rfl rfl rfl

def fX3_isAnswered_s119 (N : Nat) (k1 n1 : Nat) (c20 : Int32 → Int32 → Int32 → Int32 → Int32 → qMem → Option (Int32 × qMem)) (c119 : Int32 → Int32 → Int32 → Int32 → Int32 → Int32 → Int32 → Int32 → Int32 → Int32 → qMem → Option (Int32 × qMem)) (v2 : Int32) (v3 : Int32) (v4 : Int32) (v5 : Int32) (v6 : Int32) (v7 : Int32) (v8 : Int32) (v9 : Int32) (v10 : Int32) (v11 : Int32) (σ : qMem) : Option (Int32 × qMem) :=
  (if v10 = 0 then (fX3_isAnswered_b210 N k1 n1 c20 v2 v3 v4 v5 v6 σ) else (if (v9 + v7) < v11 then (fX3_isAnswered_b210 N k1 n1 c20 v2 v3 v4 v5 v6 σ) else (if v2 = 0 then (if ck 0 6 = true then ((fX0_arc v5 (gi σ 18 (0 : Int32).toNatClampNeg) v11 σ).bind fun y14 => (fX3_isAnswered_b181 N k1 n1 c20 c119 v2 v3 v4 v5 v6 v7 v8 v9 v10 v11 y14)) else none) else (if ck 1 6 = true then ((fX0_circle N v5 (gi σ 18 (1 : Int32).toNatClampNeg) v11 σ).bind fun y13 => (fX3_isAnswered_b181 N k1 n1 c20 c119 v2 v3 v4 v5 v6 v7 v8 v9 v10 v11 y13)) else none))))
set_option maxRecDepth 20000 in
set_option maxHeartbeats 4000000 in
theorem aX3_isAnswered_s119 (N : Nat) (k1 n1 : Nat) (hk1 : iRows k1 n1) (c20 : Int32 → Int32 → Int32 → Int32 → Int32 → qMem → Option (Int32 × qMem)) (hc20 : ∀ (v2 : Int32) (v3 : Int32) (v4 : Int32) (v5 : Int32) (v6 : Int32) (σ : qMem), qAt wC mX3_isAnswered (ρi) 20 [(0, .ref 44), (1, .ref k1), (2, .int v2), (3, .int v3), (4, .int v4), (5, .int v5), (6, .int v6)] [] σ (c20 v2 v3 v4 v5 v6 σ)) (c119 : Int32 → Int32 → Int32 → Int32 → Int32 → Int32 → Int32 → Int32 → Int32 → Int32 → qMem → Option (Int32 × qMem)) (hc119 : ∀ (v2 : Int32) (v3 : Int32) (v4 : Int32) (v5 : Int32) (v6 : Int32) (v7 : Int32) (v8 : Int32) (v9 : Int32) (v10 : Int32) (v11 : Int32) (σ : qMem), qAt wC mX3_isAnswered (ρi) 119 [(0, .ref 44), (1, .ref k1), (2, .int v2), (3, .int v3), (4, .int v4), (5, .int v5), (6, .int v6), (7, .int v7), (8, .int v8), (9, .int v9), (10, .int v10), (11, .int v11)] [] σ (c119 v2 v3 v4 v5 v6 v7 v8 v9 v10 v11 σ)) (v2 : Int32) (v3 : Int32) (v4 : Int32) (v5 : Int32) (v6 : Int32) (v7 : Int32) (v8 : Int32) (v9 : Int32) (v10 : Int32) (v11 : Int32) (σ : qMem) : qAt wC mX3_isAnswered (ρi) 119 [(0, .ref 44), (1, .ref k1), (2, .int v2), (3, .int v3), (4, .int v4), (5, .int v5), (6, .int v6), (7, .int v7), (8, .int v8), (9, .int v9), (10, .int v10), (11, .int v11)] [] σ (fX3_isAnswered_s119 N k1 n1 c20 c119 v2 v3 v4 v5 v6 v7 v8 v9 v10 v11 σ) := by
  unfold fX3_isAnswered_s119
  refine q_iload (i := 10) (x := v10) dX3_isAnswered_119 10 rfl ?_
  refine q_if_eq (tgt := 210) dX3_isAnswered_121 (by decide) ?_ ?_
  · exact q_sub [0, 1, 2, 3, 4, 5, 6] rfl (aX3_isAnswered_b210 N k1 n1 hk1 c20 hc20 v2 v3 v4 v5 v6 σ)
  refine q_iload (i := 11) (x := v11) dX3_isAnswered_124 11 rfl ?_
  refine q_iload (i := 9) (x := v9) dX3_isAnswered_126 9 rfl ?_
  refine q_iload (i := 7) (x := v7) dX3_isAnswered_128 7 rfl ?_
  refine q_iadd dX3_isAnswered_130 ?_
  refine q_icmp_gt (tgt := 210) dX3_isAnswered_131 (by decide) ?_ ?_
  · exact q_sub [0, 1, 2, 3, 4, 5, 6] rfl (aX3_isAnswered_b210 N k1 n1 hk1 c20 hc20 v2 v3 v4 v5 v6 σ)
  refine q_iload_n (i := 2) (x := v2) dX3_isAnswered_134 rfl 2 rfl ?_
  refine q_if_ne (tgt := 161) dX3_isAnswered_135 (by decide) ?_ ?_
  · refine q_aload_n (i := 0) (x := 44) dX3_isAnswered_161 rfl 0 rfl ?_
    refine q_getr (t := 62) dX3_isAnswered_162 foX3_41 zC_44 rfl ?_
    refine q_iload (i := 5) (x := v5) dX3_isAnswered_165 5 rfl ?_
    refine q_aload_n (i := 0) (x := 44) dX3_isAnswered_167 rfl 0 rfl ?_
    refine q_getr (t := 1) dX3_isAnswered_168 foX3_80 zC_44 rfl ?_
    refine q_getr (t := 18) dX3_isAnswered_171 foX3_104 zC_1 rfl ?_
    refine q_iconst (v := 1) dX3_isAnswered_174 (by decide) ?_
    refine q_iald dX3_isAnswered_175 zC_18 ?_
    refine q_iload (i := 11) (x := v11) dX3_isAnswered_176 11 rfl ?_
    refine q_cVv mX0_circle [.int v5, .int (gi σ 18 (1 : Int32).toNatClampNeg), .int v11] (st := []) dX3_isAnswered_178 (svX3_172) ⟨Nat.le_of_ble_eq_true rfl, Nat.le_of_ble_eq_true rfl⟩ zC_62 rfl rfl rfl (Nat.le_of_ble_eq_true rfl) (kX0_circle N v5 (gi σ 18 (1 : Int32).toNatClampNeg) v11 σ) (fun y13 => ?_)
    exact q_sub [0, 1, 2, 3, 4, 5, 6, 7, 8, 9, 10, 11] rfl (aX3_isAnswered_b181 N k1 n1 hk1 c20 c119 hc20 hc119 v2 v3 v4 v5 v6 v7 v8 v9 v10 v11 y13)
  refine q_aload_n (i := 0) (x := 44) dX3_isAnswered_138 rfl 0 rfl ?_
  refine q_getr (t := 62) dX3_isAnswered_139 foX3_41 zC_44 rfl ?_
  refine q_iload (i := 5) (x := v5) dX3_isAnswered_142 5 rfl ?_
  refine q_aload_n (i := 0) (x := 44) dX3_isAnswered_144 rfl 0 rfl ?_
  refine q_getr (t := 1) dX3_isAnswered_145 foX3_80 zC_44 rfl ?_
  refine q_getr (t := 18) dX3_isAnswered_148 foX3_104 zC_1 rfl ?_
  refine q_iconst (v := 0) dX3_isAnswered_151 (by decide) ?_
  refine q_iald dX3_isAnswered_152 zC_18 ?_
  refine q_iload (i := 11) (x := v11) dX3_isAnswered_153 11 rfl ?_
  refine q_cVv mX0_arc [.int v5, .int (gi σ 18 (0 : Int32).toNatClampNeg), .int v11] (st := []) dX3_isAnswered_155 (svX3_168) ⟨Nat.le_of_ble_eq_true rfl, Nat.le_of_ble_eq_true rfl⟩ zC_62 rfl rfl rfl (Nat.le_of_ble_eq_true rfl) (kX0_arc v5 (gi σ 18 (0 : Int32).toNatClampNeg) v11 σ) (fun y14 => ?_)
  refine q_goto (tgt := 181) dX3_isAnswered_158 (by decide) ?_
  exact q_sub [0, 1, 2, 3, 4, 5, 6, 7, 8, 9, 10, 11] rfl (aX3_isAnswered_b181 N k1 n1 hk1 c20 c119 hc20 hc119 v2 v3 v4 v5 v6 v7 v8 v9 v10 v11 y14)
def fX3_isAnswered_l119 (N : Nat) (k1 n1 : Nat) (c20 : Int32 → Int32 → Int32 → Int32 → Int32 → qMem → Option (Int32 × qMem)) : Nat → Int32 → Int32 → Int32 → Int32 → Int32 → Int32 → Int32 → Int32 → Int32 → Int32 → qMem → Option (Int32 × qMem)
  | 0 => fun _ _ _ _ _ _ _ _ _ _ _ => none
  | n + 1 => fun v2 v3 v4 v5 v6 v7 v8 v9 v10 v11 σ => fX3_isAnswered_s119 N k1 n1 c20 (fX3_isAnswered_l119 N k1 n1 c20 n) v2 v3 v4 v5 v6 v7 v8 v9 v10 v11 σ
theorem aX3_isAnswered_l119 (N : Nat) (k1 n1 : Nat) (hk1 : iRows k1 n1) (c20 : Int32 → Int32 → Int32 → Int32 → Int32 → qMem → Option (Int32 × qMem)) (hc20 : ∀ (v2 : Int32) (v3 : Int32) (v4 : Int32) (v5 : Int32) (v6 : Int32) (σ : qMem), qAt wC mX3_isAnswered (ρi) 20 [(0, .ref 44), (1, .ref k1), (2, .int v2), (3, .int v3), (4, .int v4), (5, .int v5), (6, .int v6)] [] σ (c20 v2 v3 v4 v5 v6 σ)) : ∀ (n : Nat) (v2 : Int32) (v3 : Int32) (v4 : Int32) (v5 : Int32) (v6 : Int32) (v7 : Int32) (v8 : Int32) (v9 : Int32) (v10 : Int32) (v11 : Int32) (σ : qMem), qAt wC mX3_isAnswered (ρi) 119 [(0, .ref 44), (1, .ref k1), (2, .int v2), (3, .int v3), (4, .int v4), (5, .int v5), (6, .int v6), (7, .int v7), (8, .int v8), (9, .int v9), (10, .int v10), (11, .int v11)] [] σ (fX3_isAnswered_l119 N k1 n1 c20 n v2 v3 v4 v5 v6 v7 v8 v9 v10 v11 σ) := by
  intro n
  induction n with
  | zero => intro v2 v3 v4 v5 v6 v7 v8 v9 v10 v11 σ; exact q_none
  | succ n ih => intro v2 v3 v4 v5 v6 v7 v8 v9 v10 v11 σ; exact aX3_isAnswered_s119 N k1 n1 hk1 c20 hc20 (fX3_isAnswered_l119 N k1 n1 c20 n) ih v2 v3 v4 v5 v6 v7 v8 v9 v10 v11 σ

def fX3_isAnswered_s20 (N : Nat) (k1 n1 : Nat) (c20 : Int32 → Int32 → Int32 → Int32 → Int32 → qMem → Option (Int32 × qMem)) (v2 : Int32) (v3 : Int32) (v4 : Int32) (v5 : Int32) (v6 : Int32) (σ : qMem) : Option (Int32 × qMem) :=
  (if (gi σ k1 3) ≤ v6 then (some (0, σ)) else ((fX8_at k1 n1 v6 2 σ).bind fun y3 => ((fX8_at k1 n1 v6 1 σ).bind fun y4 => (if ck v3 2 = true then (if ck v4 24 = true then (nmI ((y4 - y3) - (gi σ ((3 + 6 * v3.toNatClampNeg) + 4) v4.toNatClampNeg)) fun x6 => ((fX8_at k1 n1 v6 0 σ).bind fun y7 => (if ck v3 2 = true then (if ck v4 24 = true then (nmI (y7 - (gi σ ((3 + 6 * v3.toNatClampNeg) + 3) v4.toNatClampNeg)) fun x9 => ((fX8_at k1 n1 v6 3 σ).bind fun y10 => ((fX8_at k1 n1 v6 4 σ).bind fun y11 => ((fX11_isIn v4 y10 y11).bind fun y12 => (fX3_isAnswered_l119 N k1 n1 c20 N v2 v3 v4 v5 v6 y3 x6 x9 y12 (x9 - y3) σ))))) else none) else none))) else none) else none))))
set_option maxRecDepth 20000 in
set_option maxHeartbeats 4000000 in
theorem aX3_isAnswered_s20 (N : Nat) (k1 n1 : Nat) (hk1 : iRows k1 n1) (c20 : Int32 → Int32 → Int32 → Int32 → Int32 → qMem → Option (Int32 × qMem)) (hc20 : ∀ (v2 : Int32) (v3 : Int32) (v4 : Int32) (v5 : Int32) (v6 : Int32) (σ : qMem), qAt wC mX3_isAnswered (ρi) 20 [(0, .ref 44), (1, .ref k1), (2, .int v2), (3, .int v3), (4, .int v4), (5, .int v5), (6, .int v6)] [] σ (c20 v2 v3 v4 v5 v6 σ)) (v2 : Int32) (v3 : Int32) (v4 : Int32) (v5 : Int32) (v6 : Int32) (σ : qMem) : qAt wC mX3_isAnswered (ρi) 20 [(0, .ref 44), (1, .ref k1), (2, .int v2), (3, .int v3), (4, .int v4), (5, .int v5), (6, .int v6)] [] σ (fX3_isAnswered_s20 N k1 n1 c20 v2 v3 v4 v5 v6 σ) := by
  unfold fX3_isAnswered_s20
  refine q_iload (i := 6) (x := v6) dX3_isAnswered_20 6 rfl ?_
  refine q_aload_n (i := 1) (x := k1) dX3_isAnswered_22 rfl 1 rfl ?_
  refine q_geti dX3_isAnswered_23 foX3_84 hk1.1 rfl ?_
  refine q_icmp_ge (tgt := 216) dX3_isAnswered_26 (by decide) ?_ ?_
  · refine q_iconst (v := 0) dX3_isAnswered_216 (by decide) ?_
    exact q_iretz (y := (0, σ)) dX3_isAnswered_217 rfl rfl rfl
  refine q_aload_n (i := 1) (x := k1) dX3_isAnswered_29 rfl 1 rfl ?_
  refine q_iload (i := 6) (x := v6) dX3_isAnswered_30 6 rfl ?_
  refine q_iconst (v := 2) dX3_isAnswered_32 (by decide) ?_
  refine q_cVp mX8_at [.int v6, .int 2] (st := []) dX3_isAnswered_33 (svX3_133) ⟨Nat.le_of_ble_eq_true rfl, Nat.le_of_ble_eq_true rfl⟩ hk1.1 rfl rfl rfl (Nat.le_of_ble_eq_true rfl) (kX8_at k1 n1 v6 2 hk1 σ) (fun y3 => ?_)
  refine q_istore (i := 7) (L' := [(7, .int y3), (0, .ref 44), (1, .ref k1), (2, .int v2), (3, .int v3), (4, .int v4), (5, .int v5), (6, .int v6)]) dX3_isAnswered_36 (Nat.le_of_ble_eq_true rfl) rfl ?_
  refine q_aload_n (i := 1) (x := k1) dX3_isAnswered_38 rfl 2 rfl ?_
  refine q_iload (i := 6) (x := v6) dX3_isAnswered_39 7 rfl ?_
  refine q_iconst (v := 1) dX3_isAnswered_41 (by decide) ?_
  refine q_cVp mX8_at [.int v6, .int 1] (st := []) dX3_isAnswered_42 (svX3_133) ⟨Nat.le_of_ble_eq_true rfl, Nat.le_of_ble_eq_true rfl⟩ hk1.1 rfl rfl rfl (Nat.le_of_ble_eq_true rfl) (kX8_at k1 n1 v6 1 hk1 σ) (fun y4 => ?_)
  refine q_iload (i := 7) (x := y3) dX3_isAnswered_45 0 rfl ?_
  refine q_isub dX3_isAnswered_47 ?_
  refine q_aload_n (i := 0) (x := 44) dX3_isAnswered_48 rfl 1 rfl ?_
  refine q_getr (t := 1) dX3_isAnswered_49 foX3_80 zC_44 rfl ?_
  refine q_getr (t := 2) dX3_isAnswered_52 foX3_113 zC_1 rfl ?_
  refine q_iload_n (i := 3) (x := v3) dX3_isAnswered_55 rfl 4 rfl ?_
  refine q_aald (t0 := 4) (fun j => 3 + 6 * j) dX3_isAnswered_56 zC_2 (fun _ => rfl) (by decide) (fun hc_5 => ?_)
  refine q_getr (t := ((3 + 6 * v3.toNatClampNeg) + 4)) dX3_isAnswered_57 foX3_158 (xBoat hc_5).1 rfl ?_
  refine q_iload (i := 4) (x := v4) dX3_isAnswered_60 5 rfl ?_
  refine q_iald dX3_isAnswered_62 (xBoat hc_5).2.2.2.1 ?_
  refine q_isub dX3_isAnswered_63 ?_
  refine q_nmI (fun x6 => ?_)
  refine q_istore (i := 8) (L' := [(8, .int x6), (7, .int y3), (0, .ref 44), (1, .ref k1), (2, .int v2), (3, .int v3), (4, .int v4), (5, .int v5), (6, .int v6)]) dX3_isAnswered_64 (Nat.le_of_ble_eq_true rfl) rfl ?_
  refine q_aload_n (i := 1) (x := k1) dX3_isAnswered_66 rfl 3 rfl ?_
  refine q_iload (i := 6) (x := v6) dX3_isAnswered_67 8 rfl ?_
  refine q_iconst (v := 0) dX3_isAnswered_69 (by decide) ?_
  refine q_cVp mX8_at [.int v6, .int 0] (st := []) dX3_isAnswered_70 (svX3_133) ⟨Nat.le_of_ble_eq_true rfl, Nat.le_of_ble_eq_true rfl⟩ hk1.1 rfl rfl rfl (Nat.le_of_ble_eq_true rfl) (kX8_at k1 n1 v6 0 hk1 σ) (fun y7 => ?_)
  refine q_aload_n (i := 0) (x := 44) dX3_isAnswered_73 rfl 2 rfl ?_
  refine q_getr (t := 1) dX3_isAnswered_74 foX3_80 zC_44 rfl ?_
  refine q_getr (t := 2) dX3_isAnswered_77 foX3_113 zC_1 rfl ?_
  refine q_iload_n (i := 3) (x := v3) dX3_isAnswered_80 rfl 5 rfl ?_
  refine q_aald (t0 := 4) (fun j => 3 + 6 * j) dX3_isAnswered_81 zC_2 (fun _ => rfl) (by decide) (fun hc_8 => ?_)
  refine q_getr (t := ((3 + 6 * v3.toNatClampNeg) + 3)) dX3_isAnswered_82 foX3_161 (xBoat hc_8).1 rfl ?_
  refine q_iload (i := 4) (x := v4) dX3_isAnswered_85 6 rfl ?_
  refine q_iald dX3_isAnswered_87 (xBoat hc_8).2.2.1 ?_
  refine q_isub dX3_isAnswered_88 ?_
  refine q_nmI (fun x9 => ?_)
  refine q_istore (i := 9) (L' := [(9, .int x9), (8, .int x6), (7, .int y3), (0, .ref 44), (1, .ref k1), (2, .int v2), (3, .int v3), (4, .int v4), (5, .int v5), (6, .int v6)]) dX3_isAnswered_89 (Nat.le_of_ble_eq_true rfl) rfl ?_
  refine q_iload (i := 4) (x := v4) dX3_isAnswered_91 7 rfl ?_
  refine q_aload_n (i := 1) (x := k1) dX3_isAnswered_93 rfl 4 rfl ?_
  refine q_iload (i := 6) (x := v6) dX3_isAnswered_94 9 rfl ?_
  refine q_iconst (v := 3) dX3_isAnswered_96 (by decide) ?_
  refine q_cVp mX8_at [.int v6, .int 3] (st := [.int v4]) dX3_isAnswered_97 (svX3_133) ⟨Nat.le_of_ble_eq_true rfl, Nat.le_of_ble_eq_true rfl⟩ hk1.1 rfl rfl rfl (Nat.le_of_ble_eq_true rfl) (kX8_at k1 n1 v6 3 hk1 σ) (fun y10 => ?_)
  refine q_aload_n (i := 1) (x := k1) dX3_isAnswered_100 rfl 4 rfl ?_
  refine q_iload (i := 6) (x := v6) dX3_isAnswered_101 9 rfl ?_
  refine q_iconst (v := 4) dX3_isAnswered_103 (by decide) ?_
  refine q_cVp mX8_at [.int v6, .int 4] (st := [.int y10, .int v4]) dX3_isAnswered_104 (svX3_133) ⟨Nat.le_of_ble_eq_true rfl, Nat.le_of_ble_eq_true rfl⟩ hk1.1 rfl rfl rfl (Nat.le_of_ble_eq_true rfl) (kX8_at k1 n1 v6 4 hk1 σ) (fun y11 => ?_)
  refine q_cSp mX11_isIn [.int v4, .int y10, .int y11] (st := []) dX3_isAnswered_107 (ssX3_164) ⟨Nat.le_of_ble_eq_true rfl, Nat.le_of_ble_eq_true rfl⟩ rfl rfl (Nat.le_of_ble_eq_true rfl) (kX11_isIn v4 y10 y11 σ) (fun y12 => ?_)
  refine q_istore (i := 10) (L' := [(10, .int y12), (9, .int x9), (8, .int x6), (7, .int y3), (0, .ref 44), (1, .ref k1), (2, .int v2), (3, .int v3), (4, .int v4), (5, .int v5), (6, .int v6)]) dX3_isAnswered_110 (Nat.le_of_ble_eq_true rfl) rfl ?_
  refine q_iload (i := 9) (x := x9) dX3_isAnswered_112 1 rfl ?_
  refine q_iload (i := 7) (x := y3) dX3_isAnswered_114 3 rfl ?_
  refine q_isub dX3_isAnswered_116 ?_
  refine q_istore (i := 11) (L' := [(11, .int (x9 - y3)), (10, .int y12), (9, .int x9), (8, .int x6), (7, .int y3), (0, .ref 44), (1, .ref k1), (2, .int v2), (3, .int v3), (4, .int v4), (5, .int v5), (6, .int v6)]) dX3_isAnswered_117 (Nat.le_of_ble_eq_true rfl) rfl ?_
  exact q_sub [5, 6, 7, 8, 9, 10, 11, 4, 3, 2, 1, 0] rfl (aX3_isAnswered_l119 N k1 n1 hk1 c20 hc20 N v2 v3 v4 v5 v6 y3 x6 x9 y12 (x9 - y3) σ)
def fX3_isAnswered_l20 (N : Nat) (k1 n1 : Nat) : Nat → Int32 → Int32 → Int32 → Int32 → Int32 → qMem → Option (Int32 × qMem)
  | 0 => fun _ _ _ _ _ _ => none
  | n + 1 => fun v2 v3 v4 v5 v6 σ => fX3_isAnswered_s20 N k1 n1 (fX3_isAnswered_l20 N k1 n1 n) v2 v3 v4 v5 v6 σ
theorem aX3_isAnswered_l20 (N : Nat) (k1 n1 : Nat) (hk1 : iRows k1 n1) : ∀ (n : Nat) (v2 : Int32) (v3 : Int32) (v4 : Int32) (v5 : Int32) (v6 : Int32) (σ : qMem), qAt wC mX3_isAnswered (ρi) 20 [(0, .ref 44), (1, .ref k1), (2, .int v2), (3, .int v3), (4, .int v4), (5, .int v5), (6, .int v6)] [] σ (fX3_isAnswered_l20 N k1 n1 n v2 v3 v4 v5 v6 σ) := by
  intro n
  induction n with
  | zero => intro v2 v3 v4 v5 v6 σ; exact q_none
  | succ n ih => intro v2 v3 v4 v5 v6 σ; exact aX3_isAnswered_s20 N k1 n1 hk1 (fX3_isAnswered_l20 N k1 n1 n) ih v2 v3 v4 v5 v6 σ

def fX3_isAnswered (N : Nat) (k1 n1 : Nat) (p2 : Int32) (p3 : Int32) (p4 : Int32) (p5 : Int32) (σ : qMem) : Option (Int32 × qMem) :=
  ((fX11_isBoat p3).bind fun y1 => (if y1 = 0 then (some (0, σ)) else ((fX11_isBell p4).bind fun y2 => (if y2 = 0 then (some (0, σ)) else (fX3_isAnswered_l20 N k1 n1 N p2 p3 p4 p5 0 σ)))))
set_option maxRecDepth 20000 in
set_option maxHeartbeats 4000000 in
theorem aX3_isAnswered  (N : Nat) (k1 n1 : Nat) (p2 : Int32) (p3 : Int32) (p4 : Int32) (p5 : Int32) (hk1 : iRows k1 n1) (σ : qMem) : qAt wC mX3_isAnswered (ρi) 0 [(0, .ref 44), (1, .ref k1), (2, .int p2), (3, .int p3), (4, .int p4), (5, .int p5)] [] σ (fX3_isAnswered N k1 n1 p2 p3 p4 p5 σ) := by
  unfold fX3_isAnswered
  refine q_iload_n (i := 3) (x := p3) dX3_isAnswered_0 rfl 3 rfl ?_
  refine q_cSp mX11_isBoat [.int p3] (st := []) dX3_isAnswered_1 (ssX3_147) ⟨Nat.le_of_ble_eq_true rfl, Nat.le_of_ble_eq_true rfl⟩ rfl rfl (Nat.le_of_ble_eq_true rfl) (kX11_isBoat p3 σ) (fun y1 => ?_)
  refine q_if_eq (tgt := 15) dX3_isAnswered_4 (by decide) ?_ ?_
  · refine q_iconst (v := 0) dX3_isAnswered_15 (by decide) ?_
    exact q_iretz (y := (0, σ)) dX3_isAnswered_16 rfl rfl rfl
  refine q_iload (i := 4) (x := p4) dX3_isAnswered_7 4 rfl ?_
  refine q_cSp mX11_isBell [.int p4] (st := []) dX3_isAnswered_9 (ssX3_155) ⟨Nat.le_of_ble_eq_true rfl, Nat.le_of_ble_eq_true rfl⟩ rfl rfl (Nat.le_of_ble_eq_true rfl) (kX11_isBell p4 σ) (fun y2 => ?_)
  refine q_if_ne (tgt := 17) dX3_isAnswered_12 (by decide) ?_ ?_
  · refine q_iconst (v := 0) dX3_isAnswered_17 (by decide) ?_
    refine q_istore (i := 6) (L' := [(6, .int 0), (0, .ref 44), (1, .ref k1), (2, .int p2), (3, .int p3), (4, .int p4), (5, .int p5)]) dX3_isAnswered_18 (Nat.le_of_ble_eq_true rfl) rfl ?_
    exact q_sub [1, 2, 3, 4, 5, 6, 0] rfl (aX3_isAnswered_l20 N k1 n1 hk1 N p2 p3 p4 p5 0 σ)
  refine q_iconst (v := 0) dX3_isAnswered_15 (by decide) ?_
  exact q_iretz (y := (0, σ)) dX3_isAnswered_16 rfl rfl rfl
theorem kX3_isAnswered  (N : Nat) (k1 n1 : Nat) (p2 : Int32) (p3 : Int32) (p4 : Int32) (p5 : Int32) (hk1 : iRows k1 n1) (σ : qMem) : qMc wC mX3_isAnswered (ρi) [.ref 44, .ref k1, .int p2, .int p3, .int p4, .int p5] σ (fX3_isAnswered N k1 n1 p2 p3 p4 p5 σ) := qMc_of (moX3_isAnswered) (Nat.le_of_ble_eq_true rfl) (aX3_isAnswered N k1 n1 p2 p3 p4 p5 hk1 σ)

theorem dX8_isFull_0 : decode cX8_isFull 0 = .ok (.aload_n 0, 1) := by decide +kernel
theorem dX8_isFull_1 : decode cX8_isFull 1 = .ok (.getfield 9, 3) := by decide +kernel
theorem dX8_isFull_4 : decode cX8_isFull 4 = .ok (.aload_n 0, 1) := by decide +kernel
theorem dX8_isFull_5 : decode cX8_isFull 5 = .ok (.getfield 24, 3) := by decide +kernel
theorem dX8_isFull_8 : decode cX8_isFull 8 = .ok (.if_icmp .lt 7, 3) := by decide +kernel
theorem dX8_isFull_11 : decode cX8_isFull 11 = .ok (.iconst 1, 1) := by decide +kernel
theorem dX8_isFull_12 : decode cX8_isFull 12 = .ok (.goto 4, 3) := by decide +kernel
theorem dX8_isFull_15 : decode cX8_isFull 15 = .ok (.iconst 0, 1) := by decide +kernel
theorem dX8_isFull_16 : decode cX8_isFull 16 = .ok (.ireturn, 1) := by decide +kernel

def fX8_isFull (k n : Nat) (σ : qMem) : Option Int32 :=
  (if (gi σ k 3) < (gi σ k 1) then (some 0) else (some 1))
set_option maxRecDepth 20000 in
set_option maxHeartbeats 4000000 in
theorem aX8_isFull  (k n : Nat) (hk : iRows k n) (σ : qMem) : qAt wC mX8_isFull (ρp σ) 0 [(0, .ref k)] [] σ (fX8_isFull k n σ) := by
  unfold fX8_isFull
  refine q_aload_n (i := 0) (x := k) dX8_isFull_0 rfl 0 rfl ?_
  refine q_geti dX8_isFull_1 foX8_9 hk.1 rfl ?_
  refine q_aload_n (i := 0) (x := k) dX8_isFull_4 rfl 0 rfl ?_
  refine q_geti dX8_isFull_5 foX8_24 hk.1 rfl ?_
  refine q_icmp_lt (tgt := 15) dX8_isFull_8 (by decide) ?_ ?_
  · refine q_iconst (v := 0) dX8_isFull_15 (by decide) ?_
    exact q_iretz (y := 0) dX8_isFull_16 rfl rfl rfl
  refine q_iconst (v := 1) dX8_isFull_11 (by decide) ?_
  refine q_goto (tgt := 16) dX8_isFull_12 (by decide) ?_
  exact q_iretz (y := 1) dX8_isFull_16 rfl rfl rfl
theorem kX8_isFull  (k n : Nat) (hk : iRows k n) (σ : qMem) : qMc wC mX8_isFull (ρp σ) [.ref k] σ (fX8_isFull k n σ) := qMc_of (moX8_isFull) (Nat.le_of_ble_eq_true rfl) (aX8_isFull k n hk σ)

theorem dX8_put_0 : decode cX8_put 0 = .ok (.iload_n 1, 1) := by decide +kernel
theorem dX8_put_1 : decode cX8_put 1 = .ok (.aload_n 0, 1) := by decide +kernel
theorem dX8_put_2 : decode cX8_put 2 = .ok (.getfield 21, 3) := by decide +kernel
theorem dX8_put_5 : decode cX8_put 5 = .ok (.if_icmp .ge 31, 3) := by decide +kernel
theorem dX8_put_8 : decode cX8_put 8 = .ok (.aload_n 0, 1) := by decide +kernel
theorem dX8_put_9 : decode cX8_put 9 = .ok (.getfield 9, 3) := by decide +kernel
theorem dX8_put_12 : decode cX8_put 12 = .ok (.aload_n 0, 1) := by decide +kernel
theorem dX8_put_13 : decode cX8_put 13 = .ok (.getfield 24, 3) := by decide +kernel
theorem dX8_put_16 : decode cX8_put 16 = .ok (.if_icmp .ge 20, 3) := by decide +kernel
theorem dX8_put_19 : decode cX8_put 19 = .ok (.aload_n 0, 1) := by decide +kernel
theorem dX8_put_20 : decode cX8_put 20 = .ok (.getfield 27, 3) := by decide +kernel
theorem dX8_put_23 : decode cX8_put 23 = .ok (.aload_n 0, 1) := by decide +kernel
theorem dX8_put_24 : decode cX8_put 24 = .ok (.getfield 9, 3) := by decide +kernel
theorem dX8_put_27 : decode cX8_put 27 = .ok (.aload_n 0, 1) := by decide +kernel
theorem dX8_put_28 : decode cX8_put 28 = .ok (.getfield 21, 3) := by decide +kernel
theorem dX8_put_31 : decode cX8_put 31 = .ok (.imul, 1) := by decide +kernel
theorem dX8_put_32 : decode cX8_put 32 = .ok (.iload_n 1, 1) := by decide +kernel
theorem dX8_put_33 : decode cX8_put 33 = .ok (.iadd, 1) := by decide +kernel
theorem dX8_put_34 : decode cX8_put 34 = .ok (.iload_n 2, 1) := by decide +kernel
theorem dX8_put_35 : decode cX8_put 35 = .ok (.iastore, 1) := by decide +kernel
theorem dX8_put_36 : decode cX8_put 36 = .ok (.return_, 1) := by decide +kernel

def fX8_put (k n : Nat) (p1 : Int32) (p2 : Int32) (σ : qMem) : Option qMem :=
  (if (gi σ k 0) ≤ p1 then (some σ) else (if (gi σ k 1) ≤ (gi σ k 3) then (some σ) else (if ck (((gi σ k 3) * (gi σ k 0)) + p1) n = true then (nmM (si σ (k + 1) (((gi σ k 3) * (gi σ k 0)) + p1).toNatClampNeg p2) fun s1 => (some s1)) else none)))
set_option maxRecDepth 20000 in
set_option maxHeartbeats 4000000 in
theorem aX8_put  (k n : Nat) (p1 : Int32) (p2 : Int32) (hk : iRows k n) (σ : qMem) : qAt wC mX8_put (ρv) 0 [(0, .ref k), (1, .int p1), (2, .int p2)] [] σ (fX8_put k n p1 p2 σ) := by
  unfold fX8_put
  refine q_iload_n (i := 1) (x := p1) dX8_put_0 rfl 1 rfl ?_
  refine q_aload_n (i := 0) (x := k) dX8_put_1 rfl 0 rfl ?_
  refine q_geti dX8_put_2 foX8_21 hk.1 rfl ?_
  refine q_icmp_ge (tgt := 36) dX8_put_5 (by decide) ?_ ?_
  · exact q_vret (y := σ) dX8_put_36 rfl rfl
  refine q_aload_n (i := 0) (x := k) dX8_put_8 rfl 0 rfl ?_
  refine q_geti dX8_put_9 foX8_9 hk.1 rfl ?_
  refine q_aload_n (i := 0) (x := k) dX8_put_12 rfl 0 rfl ?_
  refine q_geti dX8_put_13 foX8_24 hk.1 rfl ?_
  refine q_icmp_ge (tgt := 36) dX8_put_16 (by decide) ?_ ?_
  · exact q_vret (y := σ) dX8_put_36 rfl rfl
  refine q_aload_n (i := 0) (x := k) dX8_put_19 rfl 0 rfl ?_
  refine q_getr (t := (k + 1)) dX8_put_20 foX8_27 hk.1 rfl ?_
  refine q_aload_n (i := 0) (x := k) dX8_put_23 rfl 0 rfl ?_
  refine q_geti dX8_put_24 foX8_9 hk.1 rfl ?_
  refine q_aload_n (i := 0) (x := k) dX8_put_27 rfl 0 rfl ?_
  refine q_geti dX8_put_28 foX8_21 hk.1 rfl ?_
  refine q_imul dX8_put_31 ?_
  refine q_iload_n (i := 1) (x := p1) dX8_put_32 rfl 1 rfl ?_
  refine q_iadd dX8_put_33 ?_
  refine q_iload_n (i := 2) (x := p2) dX8_put_34 rfl 2 rfl ?_
  refine q_iast dX8_put_35 hk.2 ?_
  refine q_nmM (fun s1 => ?_)
  exact q_vret (y := s1) dX8_put_36 rfl rfl
theorem kX8_put  (k n : Nat) (p1 : Int32) (p2 : Int32) (hk : iRows k n) (σ : qMem) : qMc wC mX8_put (ρv) [.ref k, .int p1, .int p2] σ (fX8_put k n p1 p2 σ) := qMc_of (moX8_put) (Nat.le_of_ble_eq_true rfl) (aX8_put k n p1 p2 hk σ)

theorem dX8_add_0 : decode cX8_add 0 = .ok (.aload_n 0, 1) := by decide +kernel
theorem dX8_add_1 : decode cX8_add 1 = .ok (.invokevirtual 31, 3) := by decide +kernel
theorem dX8_add_4 : decode cX8_add 4 = .ok (.ifCond .eq 5, 3) := by decide +kernel
theorem dX8_add_7 : decode cX8_add 7 = .ok (.iconst (-1), 1) := by decide +kernel
theorem dX8_add_8 : decode cX8_add 8 = .ok (.ireturn, 1) := by decide +kernel
theorem dX8_add_9 : decode cX8_add 9 = .ok (.aload_n 0, 1) := by decide +kernel
theorem dX8_add_10 : decode cX8_add 10 = .ok (.iconst 0, 1) := by decide +kernel
theorem dX8_add_11 : decode cX8_add 11 = .ok (.iload_n 1, 1) := by decide +kernel
theorem dX8_add_12 : decode cX8_add 12 = .ok (.invokevirtual 35, 3) := by decide +kernel
theorem dX8_add_15 : decode cX8_add 15 = .ok (.aload_n 0, 1) := by decide +kernel
theorem dX8_add_16 : decode cX8_add 16 = .ok (.iconst 1, 1) := by decide +kernel
theorem dX8_add_17 : decode cX8_add 17 = .ok (.iload_n 2, 1) := by decide +kernel
theorem dX8_add_18 : decode cX8_add 18 = .ok (.invokevirtual 35, 3) := by decide +kernel
theorem dX8_add_21 : decode cX8_add 21 = .ok (.aload_n 0, 1) := by decide +kernel
theorem dX8_add_22 : decode cX8_add 22 = .ok (.iconst 2, 1) := by decide +kernel
theorem dX8_add_23 : decode cX8_add 23 = .ok (.iload_n 3, 1) := by decide +kernel
theorem dX8_add_24 : decode cX8_add 24 = .ok (.invokevirtual 35, 3) := by decide +kernel
theorem dX8_add_27 : decode cX8_add 27 = .ok (.aload_n 0, 1) := by decide +kernel
theorem dX8_add_28 : decode cX8_add 28 = .ok (.iconst 3, 1) := by decide +kernel
theorem dX8_add_29 : decode cX8_add 29 = .ok (.iload 4, 2) := by decide +kernel
theorem dX8_add_31 : decode cX8_add 31 = .ok (.invokevirtual 35, 3) := by decide +kernel
theorem dX8_add_34 : decode cX8_add 34 = .ok (.aload_n 0, 1) := by decide +kernel
theorem dX8_add_35 : decode cX8_add 35 = .ok (.iconst 4, 1) := by decide +kernel
theorem dX8_add_36 : decode cX8_add 36 = .ok (.iload 5, 2) := by decide +kernel
theorem dX8_add_38 : decode cX8_add 38 = .ok (.invokevirtual 35, 3) := by decide +kernel
theorem dX8_add_41 : decode cX8_add 41 = .ok (.aload_n 0, 1) := by decide +kernel
theorem dX8_add_42 : decode cX8_add 42 = .ok (.dup, 1) := by decide +kernel
theorem dX8_add_43 : decode cX8_add 43 = .ok (.getfield 9, 3) := by decide +kernel
theorem dX8_add_46 : decode cX8_add 46 = .ok (.iconst 1, 1) := by decide +kernel
theorem dX8_add_47 : decode cX8_add 47 = .ok (.iadd, 1) := by decide +kernel
theorem dX8_add_48 : decode cX8_add 48 = .ok (.putfield 9, 3) := by decide +kernel
theorem dX8_add_51 : decode cX8_add 51 = .ok (.aload_n 0, 1) := by decide +kernel
theorem dX8_add_52 : decode cX8_add 52 = .ok (.getfield 9, 3) := by decide +kernel
theorem dX8_add_55 : decode cX8_add 55 = .ok (.iconst 1, 1) := by decide +kernel
theorem dX8_add_56 : decode cX8_add 56 = .ok (.isub, 1) := by decide +kernel
theorem dX8_add_57 : decode cX8_add 57 = .ok (.ireturn, 1) := by decide +kernel

def fX8_add (k n : Nat) (p1 : Int32) (p2 : Int32) (p3 : Int32) (p4 : Int32) (p5 : Int32) (σ : qMem) : Option (Int32 × qMem) :=
  ((fX8_isFull k n σ).bind fun y1 => (if y1 = 0 then ((fX8_put k n 0 p1 σ).bind fun y2 => ((fX8_put k n 1 p2 y2).bind fun y3 => ((fX8_put k n 2 p3 y3).bind fun y4 => ((fX8_put k n 3 p4 y4).bind fun y5 => ((fX8_put k n 4 p5 y5).bind fun y6 => (nmM (si y6 k 3 ((gi y6 k 3) + 1)) fun s7 => (some (((gi s7 k 3) - 1), s7)))))))) else (some ((-1), σ))))
set_option maxRecDepth 20000 in
set_option maxHeartbeats 4000000 in
theorem aX8_add  (k n : Nat) (p1 : Int32) (p2 : Int32) (p3 : Int32) (p4 : Int32) (p5 : Int32) (hk : iRows k n) (σ : qMem) : qAt wC mX8_add (ρi) 0 [(0, .ref k), (1, .int p1), (2, .int p2), (3, .int p3), (4, .int p4), (5, .int p5)] [] σ (fX8_add k n p1 p2 p3 p4 p5 σ) := by
  unfold fX8_add
  refine q_aload_n (i := 0) (x := k) dX8_add_0 rfl 0 rfl ?_
  refine q_cVp mX8_isFull [] (st := []) dX8_add_1 (svX8_31) ⟨Nat.le_of_ble_eq_true rfl, Nat.le_of_ble_eq_true rfl⟩ hk.1 rfl rfl rfl (Nat.le_of_ble_eq_true rfl) (kX8_isFull k n hk σ) (fun y1 => ?_)
  refine q_if_eq (tgt := 9) dX8_add_4 (by decide) ?_ ?_
  · refine q_aload_n (i := 0) (x := k) dX8_add_9 rfl 0 rfl ?_
    refine q_iconst (v := 0) dX8_add_10 (by decide) ?_
    refine q_iload_n (i := 1) (x := p1) dX8_add_11 rfl 1 rfl ?_
    refine q_cVv mX8_put [.int 0, .int p1] (st := []) dX8_add_12 (svX8_35) ⟨Nat.le_of_ble_eq_true rfl, Nat.le_of_ble_eq_true rfl⟩ hk.1 rfl rfl rfl (Nat.le_of_ble_eq_true rfl) (kX8_put k n 0 p1 hk σ) (fun y2 => ?_)
    refine q_aload_n (i := 0) (x := k) dX8_add_15 rfl 0 rfl ?_
    refine q_iconst (v := 1) dX8_add_16 (by decide) ?_
    refine q_iload_n (i := 2) (x := p2) dX8_add_17 rfl 2 rfl ?_
    refine q_cVv mX8_put [.int 1, .int p2] (st := []) dX8_add_18 (svX8_35) ⟨Nat.le_of_ble_eq_true rfl, Nat.le_of_ble_eq_true rfl⟩ hk.1 rfl rfl rfl (Nat.le_of_ble_eq_true rfl) (kX8_put k n 1 p2 hk y2) (fun y3 => ?_)
    refine q_aload_n (i := 0) (x := k) dX8_add_21 rfl 0 rfl ?_
    refine q_iconst (v := 2) dX8_add_22 (by decide) ?_
    refine q_iload_n (i := 3) (x := p3) dX8_add_23 rfl 3 rfl ?_
    refine q_cVv mX8_put [.int 2, .int p3] (st := []) dX8_add_24 (svX8_35) ⟨Nat.le_of_ble_eq_true rfl, Nat.le_of_ble_eq_true rfl⟩ hk.1 rfl rfl rfl (Nat.le_of_ble_eq_true rfl) (kX8_put k n 2 p3 hk y3) (fun y4 => ?_)
    refine q_aload_n (i := 0) (x := k) dX8_add_27 rfl 0 rfl ?_
    refine q_iconst (v := 3) dX8_add_28 (by decide) ?_
    refine q_iload (i := 4) (x := p4) dX8_add_29 4 rfl ?_
    refine q_cVv mX8_put [.int 3, .int p4] (st := []) dX8_add_31 (svX8_35) ⟨Nat.le_of_ble_eq_true rfl, Nat.le_of_ble_eq_true rfl⟩ hk.1 rfl rfl rfl (Nat.le_of_ble_eq_true rfl) (kX8_put k n 3 p4 hk y4) (fun y5 => ?_)
    refine q_aload_n (i := 0) (x := k) dX8_add_34 rfl 0 rfl ?_
    refine q_iconst (v := 4) dX8_add_35 (by decide) ?_
    refine q_iload (i := 5) (x := p5) dX8_add_36 5 rfl ?_
    refine q_cVv mX8_put [.int 4, .int p5] (st := []) dX8_add_38 (svX8_35) ⟨Nat.le_of_ble_eq_true rfl, Nat.le_of_ble_eq_true rfl⟩ hk.1 rfl rfl rfl (Nat.le_of_ble_eq_true rfl) (kX8_put k n 4 p5 hk y5) (fun y6 => ?_)
    refine q_aload_n (i := 0) (x := k) dX8_add_41 rfl 0 rfl ?_
    refine q_dup dX8_add_42 rfl ?_
    refine q_geti dX8_add_43 foX8_9 hk.1 rfl ?_
    refine q_iconst (v := 1) dX8_add_46 (by decide) ?_
    refine q_iadd dX8_add_47 ?_
    refine q_puti dX8_add_48 foX8_9 fwX8_3 hk.1 rfl ?_
    refine q_nmM (fun s7 => ?_)
    refine q_aload_n (i := 0) (x := k) dX8_add_51 rfl 0 rfl ?_
    refine q_geti dX8_add_52 foX8_9 hk.1 rfl ?_
    refine q_iconst (v := 1) dX8_add_55 (by decide) ?_
    refine q_isub dX8_add_56 ?_
    exact q_ireti (y := (((gi s7 k 3) - 1), s7)) dX8_add_57 rfl rfl
  refine q_iconst (v := (-1)) dX8_add_7 (by decide) ?_
  exact q_ireti (y := ((-1), σ)) dX8_add_8 rfl rfl
theorem kX8_add  (k n : Nat) (p1 : Int32) (p2 : Int32) (p3 : Int32) (p4 : Int32) (p5 : Int32) (hk : iRows k n) (σ : qMem) : qMc wC mX8_add (ρi) [.ref k, .int p1, .int p2, .int p3, .int p4, .int p5] σ (fX8_add k n p1 p2 p3 p4 p5 σ) := qMc_of (moX8_add) (Nat.le_of_ble_eq_true rfl) (aX8_add k n p1 p2 p3 p4 p5 hk σ)

theorem dX3_sortKind_0 : decode cX3_sortKind 0 = .ok (.iconst 0, 1) := by decide +kernel
theorem dX3_sortKind_1 : decode cX3_sortKind 1 = .ok (.istore_n 3, 1) := by decide +kernel
theorem dX3_sortKind_2 : decode cX3_sortKind 2 = .ok (.iconst 0, 1) := by decide +kernel
theorem dX3_sortKind_3 : decode cX3_sortKind 3 = .ok (.istore 4, 2) := by decide +kernel
theorem dX3_sortKind_5 : decode cX3_sortKind 5 = .ok (.iload 4, 2) := by decide +kernel
theorem dX3_sortKind_7 : decode cX3_sortKind 7 = .ok (.aload_n 2, 1) := by decide +kernel
theorem dX3_sortKind_8 : decode cX3_sortKind 8 = .ok (.getfield 84, 3) := by decide +kernel
theorem dX3_sortKind_11 : decode cX3_sortKind 11 = .ok (.if_icmp .ge 114, 3) := by decide +kernel
theorem dX3_sortKind_14 : decode cX3_sortKind 14 = .ok (.aload_n 2, 1) := by decide +kernel
theorem dX3_sortKind_15 : decode cX3_sortKind 15 = .ok (.iload 4, 2) := by decide +kernel
theorem dX3_sortKind_17 : decode cX3_sortKind 17 = .ok (.iconst 0, 1) := by decide +kernel
theorem dX3_sortKind_18 : decode cX3_sortKind 18 = .ok (.invokevirtual 133, 3) := by decide +kernel
theorem dX3_sortKind_21 : decode cX3_sortKind 21 = .ok (.istore 5, 2) := by decide +kernel
theorem dX3_sortKind_23 : decode cX3_sortKind 23 = .ok (.aload_n 2, 1) := by decide +kernel
theorem dX3_sortKind_24 : decode cX3_sortKind 24 = .ok (.iload 4, 2) := by decide +kernel
theorem dX3_sortKind_26 : decode cX3_sortKind 26 = .ok (.iconst 1, 1) := by decide +kernel
theorem dX3_sortKind_27 : decode cX3_sortKind 27 = .ok (.invokevirtual 133, 3) := by decide +kernel
theorem dX3_sortKind_30 : decode cX3_sortKind 30 = .ok (.istore 6, 2) := by decide +kernel
theorem dX3_sortKind_32 : decode cX3_sortKind 32 = .ok (.aload_n 2, 1) := by decide +kernel
theorem dX3_sortKind_33 : decode cX3_sortKind 33 = .ok (.iload 4, 2) := by decide +kernel
theorem dX3_sortKind_35 : decode cX3_sortKind 35 = .ok (.iconst 2, 1) := by decide +kernel
theorem dX3_sortKind_36 : decode cX3_sortKind 36 = .ok (.invokevirtual 133, 3) := by decide +kernel
theorem dX3_sortKind_39 : decode cX3_sortKind 39 = .ok (.istore 7, 2) := by decide +kernel
theorem dX3_sortKind_41 : decode cX3_sortKind 41 = .ok (.aload_n 0, 1) := by decide +kernel
theorem dX3_sortKind_42 : decode cX3_sortKind 42 = .ok (.aload_n 0, 1) := by decide +kernel
theorem dX3_sortKind_43 : decode cX3_sortKind 43 = .ok (.getfield 80, 3) := by decide +kernel
theorem dX3_sortKind_46 : decode cX3_sortKind 46 = .ok (.getfield 137, 3) := by decide +kernel
theorem dX3_sortKind_49 : decode cX3_sortKind 49 = .ok (.iload_n 1, 1) := by decide +kernel
theorem dX3_sortKind_50 : decode cX3_sortKind 50 = .ok (.iload 5, 2) := by decide +kernel
theorem dX3_sortKind_52 : decode cX3_sortKind 52 = .ok (.iload 6, 2) := by decide +kernel
theorem dX3_sortKind_54 : decode cX3_sortKind 54 = .ok (.iload 7, 2) := by decide +kernel
theorem dX3_sortKind_56 : decode cX3_sortKind 56 = .ok (.invokevirtual 140, 3) := by decide +kernel
theorem dX3_sortKind_59 : decode cX3_sortKind 59 = .ok (.ifCond .ne 24, 3) := by decide +kernel
theorem dX3_sortKind_62 : decode cX3_sortKind 62 = .ok (.aload_n 0, 1) := by decide +kernel
theorem dX3_sortKind_63 : decode cX3_sortKind 63 = .ok (.aload_n 0, 1) := by decide +kernel
theorem dX3_sortKind_64 : decode cX3_sortKind 64 = .ok (.getfield 80, 3) := by decide +kernel
theorem dX3_sortKind_67 : decode cX3_sortKind 67 = .ok (.getfield 144, 3) := by decide +kernel
theorem dX3_sortKind_70 : decode cX3_sortKind 70 = .ok (.iload_n 1, 1) := by decide +kernel
theorem dX3_sortKind_71 : decode cX3_sortKind 71 = .ok (.iload 5, 2) := by decide +kernel
theorem dX3_sortKind_73 : decode cX3_sortKind 73 = .ok (.iload 6, 2) := by decide +kernel
theorem dX3_sortKind_75 : decode cX3_sortKind 75 = .ok (.iload 7, 2) := by decide +kernel
theorem dX3_sortKind_77 : decode cX3_sortKind 77 = .ok (.invokevirtual 140, 3) := by decide +kernel
theorem dX3_sortKind_80 : decode cX3_sortKind 80 = .ok (.ifCond .eq 13, 3) := by decide +kernel
theorem dX3_sortKind_83 : decode cX3_sortKind 83 = .ok (.iload_n 3, 1) := by decide +kernel
theorem dX3_sortKind_84 : decode cX3_sortKind 84 = .ok (.iconst 1, 1) := by decide +kernel
theorem dX3_sortKind_85 : decode cX3_sortKind 85 = .ok (.iload 4, 2) := by decide +kernel
theorem dX3_sortKind_87 : decode cX3_sortKind 87 = .ok (.ishl, 1) := by decide +kernel
theorem dX3_sortKind_88 : decode cX3_sortKind 88 = .ok (.ior, 1) := by decide +kernel
theorem dX3_sortKind_89 : decode cX3_sortKind 89 = .ok (.istore_n 3, 1) := by decide +kernel
theorem dX3_sortKind_90 : decode cX3_sortKind 90 = .ok (.goto 29, 3) := by decide +kernel
theorem dX3_sortKind_93 : decode cX3_sortKind 93 = .ok (.iload 5, 2) := by decide +kernel
theorem dX3_sortKind_95 : decode cX3_sortKind 95 = .ok (.invokestatic 147, 3) := by decide +kernel
theorem dX3_sortKind_98 : decode cX3_sortKind 98 = .ok (.ifCond .eq 21, 3) := by decide +kernel
theorem dX3_sortKind_101 : decode cX3_sortKind 101 = .ok (.aload_n 0, 1) := by decide +kernel
theorem dX3_sortKind_102 : decode cX3_sortKind 102 = .ok (.getfield 14, 3) := by decide +kernel
theorem dX3_sortKind_105 : decode cX3_sortKind 105 = .ok (.iload 5, 2) := by decide +kernel
theorem dX3_sortKind_107 : decode cX3_sortKind 107 = .ok (.aaload, 1) := by decide +kernel
theorem dX3_sortKind_108 : decode cX3_sortKind 108 = .ok (.iload_n 1, 1) := by decide +kernel
theorem dX3_sortKind_109 : decode cX3_sortKind 109 = .ok (.iload 6, 2) := by decide +kernel
theorem dX3_sortKind_111 : decode cX3_sortKind 111 = .ok (.iload 7, 2) := by decide +kernel
theorem dX3_sortKind_113 : decode cX3_sortKind 113 = .ok (.iconst 0, 1) := by decide +kernel
theorem dX3_sortKind_114 : decode cX3_sortKind 114 = .ok (.iconst 0, 1) := by decide +kernel
theorem dX3_sortKind_115 : decode cX3_sortKind 115 = .ok (.invokevirtual 151, 3) := by decide +kernel
theorem dX3_sortKind_118 : decode cX3_sortKind 118 = .ok (.pop, 1) := by decide +kernel
theorem dX3_sortKind_119 : decode cX3_sortKind 119 = .ok (.iinc 4 1, 3) := by decide +kernel
theorem dX3_sortKind_122 : decode cX3_sortKind 122 = .ok (.goto (-117), 3) := by decide +kernel
theorem dX3_sortKind_125 : decode cX3_sortKind 125 = .ok (.iload_n 3, 1) := by decide +kernel
theorem dX3_sortKind_126 : decode cX3_sortKind 126 = .ok (.ireturn, 1) := by decide +kernel
def fX3_sortKind_b119 (N : Nat) (k2 n2 : Nat) (c5 : Int32 → Int32 → Int32 → qMem → Option (Int32 × qMem)) (v1 : Int32) (v3 : Int32) (v4 : Int32) (σ : qMem) : Option (Int32 × qMem) :=
  (c5 v1 v3 (v4 + 1) σ)
set_option maxRecDepth 20000 in
set_option maxHeartbeats 4000000 in
theorem aX3_sortKind_b119 (N : Nat) (k2 n2 : Nat) (hk2 : iRows k2 n2) (c5 : Int32 → Int32 → Int32 → qMem → Option (Int32 × qMem)) (hc5 : ∀ (v1 : Int32) (v3 : Int32) (v4 : Int32) (σ : qMem), qAt wC mX3_sortKind (ρi) 5 [(0, .ref 44), (1, .int v1), (2, .ref k2), (3, .int v3), (4, .int v4)] [] σ (c5 v1 v3 v4 σ)) (v1 : Int32) (v3 : Int32) (v4 : Int32) (σ : qMem) : qAt wC mX3_sortKind (ρi) 119 [(0, .ref 44), (1, .int v1), (2, .ref k2), (3, .int v3), (4, .int v4)] [] σ (fX3_sortKind_b119 N k2 n2 c5 v1 v3 v4 σ) := by
  unfold fX3_sortKind_b119
  refine q_iinc (i := 4) (x := v4) (v := (v4 + 1)) (L' := [(4, .int (v4 + 1)), (0, .ref 44), (1, .int v1), (2, .ref k2), (3, .int v3)]) dX3_sortKind_119 4 rfl (q_cst v4 (by decide)) (Nat.le_of_ble_eq_true rfl) rfl ?_
  refine q_goto (tgt := 5) dX3_sortKind_122 (by decide) ?_
  exact q_sub [1, 2, 3, 4, 0] rfl (hc5 v1 v3 (v4 + 1) σ)

def fX3_sortKind_b83 (N : Nat) (k2 n2 : Nat) (c5 : Int32 → Int32 → Int32 → qMem → Option (Int32 × qMem)) (v1 : Int32) (v3 : Int32) (v4 : Int32) (σ : qMem) : Option (Int32 × qMem) :=
  (nmI (v3 ||| ((1 : Int32) <<< (v4 &&& 31))) fun x9 => (fX3_sortKind_b119 N k2 n2 c5 v1 x9 v4 σ))
set_option maxRecDepth 20000 in
set_option maxHeartbeats 4000000 in
theorem aX3_sortKind_b83 (N : Nat) (k2 n2 : Nat) (hk2 : iRows k2 n2) (c5 : Int32 → Int32 → Int32 → qMem → Option (Int32 × qMem)) (hc5 : ∀ (v1 : Int32) (v3 : Int32) (v4 : Int32) (σ : qMem), qAt wC mX3_sortKind (ρi) 5 [(0, .ref 44), (1, .int v1), (2, .ref k2), (3, .int v3), (4, .int v4)] [] σ (c5 v1 v3 v4 σ)) (v1 : Int32) (v3 : Int32) (v4 : Int32) (σ : qMem) : qAt wC mX3_sortKind (ρi) 83 [(0, .ref 44), (1, .int v1), (2, .ref k2), (3, .int v3), (4, .int v4)] [] σ (fX3_sortKind_b83 N k2 n2 c5 v1 v3 v4 σ) := by
  unfold fX3_sortKind_b83
  refine q_iload_n (i := 3) (x := v3) dX3_sortKind_83 rfl 3 rfl ?_
  refine q_iconst (v := 1) dX3_sortKind_84 (by decide) ?_
  refine q_iload (i := 4) (x := v4) dX3_sortKind_85 4 rfl ?_
  refine q_ishl dX3_sortKind_87 ?_
  refine q_ior dX3_sortKind_88 ?_
  refine q_nmI (fun x9 => ?_)
  refine q_istore_n (i := 3) (L' := [(3, .int x9), (0, .ref 44), (1, .int v1), (2, .ref k2), (4, .int v4)]) dX3_sortKind_89 rfl (Nat.le_of_ble_eq_true rfl) rfl ?_
  refine q_goto (tgt := 119) dX3_sortKind_90 (by decide) ?_
  exact q_sub [1, 2, 3, 0, 4] rfl (aX3_sortKind_b119 N k2 n2 hk2 c5 hc5 v1 x9 v4 σ)

def fX3_sortKind_s5 (N : Nat) (k2 n2 : Nat) (c5 : Int32 → Int32 → Int32 → qMem → Option (Int32 × qMem)) (v1 : Int32) (v3 : Int32) (v4 : Int32) (σ : qMem) : Option (Int32 × qMem) :=
  (if (gi σ k2 3) ≤ v4 then (some (v3, σ)) else ((fX8_at k2 n2 v4 0 σ).bind fun y1 => ((fX8_at k2 n2 v4 1 σ).bind fun y2 => ((fX8_at k2 n2 v4 2 σ).bind fun y3 => ((fX3_isAnswered N 23 40 v1 y1 y2 y3 σ).bind fun y4 => (if y4.1 = 0 then ((fX3_isAnswered N 25 30 v1 y1 y2 y3 y4.2).bind fun y5 => (if y5.1 = 0 then ((fX11_isBoat y1).bind fun y6 => (if y6 = 0 then (fX3_sortKind_b119 N k2 n2 c5 v1 v3 v4 y5.2) else (if ck y1 2 = true then ((fX8_add (46 + 2 * y1.toNatClampNeg) 108 v1 y2 y3 0 0 y5.2).bind fun y8 => (fX3_sortKind_b119 N k2 n2 c5 v1 v3 v4 y8.2)) else none))) else (fX3_sortKind_b83 N k2 n2 c5 v1 v3 v4 y5.2))) else (fX3_sortKind_b83 N k2 n2 c5 v1 v3 v4 y4.2)))))))
set_option maxRecDepth 20000 in
set_option maxHeartbeats 4000000 in
theorem aX3_sortKind_s5 (N : Nat) (k2 n2 : Nat) (hk2 : iRows k2 n2) (c5 : Int32 → Int32 → Int32 → qMem → Option (Int32 × qMem)) (hc5 : ∀ (v1 : Int32) (v3 : Int32) (v4 : Int32) (σ : qMem), qAt wC mX3_sortKind (ρi) 5 [(0, .ref 44), (1, .int v1), (2, .ref k2), (3, .int v3), (4, .int v4)] [] σ (c5 v1 v3 v4 σ)) (v1 : Int32) (v3 : Int32) (v4 : Int32) (σ : qMem) : qAt wC mX3_sortKind (ρi) 5 [(0, .ref 44), (1, .int v1), (2, .ref k2), (3, .int v3), (4, .int v4)] [] σ (fX3_sortKind_s5 N k2 n2 c5 v1 v3 v4 σ) := by
  unfold fX3_sortKind_s5
  refine q_iload (i := 4) (x := v4) dX3_sortKind_5 4 rfl ?_
  refine q_aload_n (i := 2) (x := k2) dX3_sortKind_7 rfl 2 rfl ?_
  refine q_geti dX3_sortKind_8 foX3_84 hk2.1 rfl ?_
  refine q_icmp_ge (tgt := 125) dX3_sortKind_11 (by decide) ?_ ?_
  · refine q_iload_n (i := 3) (x := v3) dX3_sortKind_125 rfl 3 rfl ?_
    exact q_ireti (y := (v3, σ)) dX3_sortKind_126 rfl rfl
  refine q_aload_n (i := 2) (x := k2) dX3_sortKind_14 rfl 2 rfl ?_
  refine q_iload (i := 4) (x := v4) dX3_sortKind_15 4 rfl ?_
  refine q_iconst (v := 0) dX3_sortKind_17 (by decide) ?_
  refine q_cVp mX8_at [.int v4, .int 0] (st := []) dX3_sortKind_18 (svX3_133) ⟨Nat.le_of_ble_eq_true rfl, Nat.le_of_ble_eq_true rfl⟩ hk2.1 rfl rfl rfl (Nat.le_of_ble_eq_true rfl) (kX8_at k2 n2 v4 0 hk2 σ) (fun y1 => ?_)
  refine q_istore (i := 5) (L' := [(5, .int y1), (0, .ref 44), (1, .int v1), (2, .ref k2), (3, .int v3), (4, .int v4)]) dX3_sortKind_21 (Nat.le_of_ble_eq_true rfl) rfl ?_
  refine q_aload_n (i := 2) (x := k2) dX3_sortKind_23 rfl 3 rfl ?_
  refine q_iload (i := 4) (x := v4) dX3_sortKind_24 5 rfl ?_
  refine q_iconst (v := 1) dX3_sortKind_26 (by decide) ?_
  refine q_cVp mX8_at [.int v4, .int 1] (st := []) dX3_sortKind_27 (svX3_133) ⟨Nat.le_of_ble_eq_true rfl, Nat.le_of_ble_eq_true rfl⟩ hk2.1 rfl rfl rfl (Nat.le_of_ble_eq_true rfl) (kX8_at k2 n2 v4 1 hk2 σ) (fun y2 => ?_)
  refine q_istore (i := 6) (L' := [(6, .int y2), (5, .int y1), (0, .ref 44), (1, .int v1), (2, .ref k2), (3, .int v3), (4, .int v4)]) dX3_sortKind_30 (Nat.le_of_ble_eq_true rfl) rfl ?_
  refine q_aload_n (i := 2) (x := k2) dX3_sortKind_32 rfl 4 rfl ?_
  refine q_iload (i := 4) (x := v4) dX3_sortKind_33 6 rfl ?_
  refine q_iconst (v := 2) dX3_sortKind_35 (by decide) ?_
  refine q_cVp mX8_at [.int v4, .int 2] (st := []) dX3_sortKind_36 (svX3_133) ⟨Nat.le_of_ble_eq_true rfl, Nat.le_of_ble_eq_true rfl⟩ hk2.1 rfl rfl rfl (Nat.le_of_ble_eq_true rfl) (kX8_at k2 n2 v4 2 hk2 σ) (fun y3 => ?_)
  refine q_istore (i := 7) (L' := [(7, .int y3), (6, .int y2), (5, .int y1), (0, .ref 44), (1, .int v1), (2, .ref k2), (3, .int v3), (4, .int v4)]) dX3_sortKind_39 (Nat.le_of_ble_eq_true rfl) rfl ?_
  refine q_aload_n (i := 0) (x := 44) dX3_sortKind_41 rfl 3 rfl ?_
  refine q_aload_n (i := 0) (x := 44) dX3_sortKind_42 rfl 3 rfl ?_
  refine q_getr (t := 1) dX3_sortKind_43 foX3_80 zC_44 rfl ?_
  refine q_getr (t := 23) dX3_sortKind_46 foX3_137 zC_1 rfl ?_
  refine q_iload_n (i := 1) (x := v1) dX3_sortKind_49 rfl 4 rfl ?_
  refine q_iload (i := 5) (x := y1) dX3_sortKind_50 2 rfl ?_
  refine q_iload (i := 6) (x := y2) dX3_sortKind_52 1 rfl ?_
  refine q_iload (i := 7) (x := y3) dX3_sortKind_54 0 rfl ?_
  refine q_cVi mX3_isAnswered [.ref 23, .int v1, .int y1, .int y2, .int y3] (st := []) dX3_sortKind_56 (svX3_140) ⟨Nat.le_of_ble_eq_true rfl, Nat.le_of_ble_eq_true rfl⟩ zC_44 rfl rfl rfl (Nat.le_of_ble_eq_true rfl) (kX3_isAnswered N 23 40 v1 y1 y2 y3 pC_23 σ) (fun y4 => ?_)
  refine q_if_ne (tgt := 83) dX3_sortKind_59 (by decide) ?_ ?_
  · exact q_sub [3, 4, 5, 6, 7] rfl (aX3_sortKind_b83 N k2 n2 hk2 c5 hc5 v1 v3 v4 y4.2)
  refine q_aload_n (i := 0) (x := 44) dX3_sortKind_62 rfl 3 rfl ?_
  refine q_aload_n (i := 0) (x := 44) dX3_sortKind_63 rfl 3 rfl ?_
  refine q_getr (t := 1) dX3_sortKind_64 foX3_80 zC_44 rfl ?_
  refine q_getr (t := 25) dX3_sortKind_67 foX3_144 zC_1 rfl ?_
  refine q_iload_n (i := 1) (x := v1) dX3_sortKind_70 rfl 4 rfl ?_
  refine q_iload (i := 5) (x := y1) dX3_sortKind_71 2 rfl ?_
  refine q_iload (i := 6) (x := y2) dX3_sortKind_73 1 rfl ?_
  refine q_iload (i := 7) (x := y3) dX3_sortKind_75 0 rfl ?_
  refine q_cVi mX3_isAnswered [.ref 25, .int v1, .int y1, .int y2, .int y3] (st := []) dX3_sortKind_77 (svX3_140) ⟨Nat.le_of_ble_eq_true rfl, Nat.le_of_ble_eq_true rfl⟩ zC_44 rfl rfl rfl (Nat.le_of_ble_eq_true rfl) (kX3_isAnswered N 25 30 v1 y1 y2 y3 pC_25 y4.2) (fun y5 => ?_)
  refine q_if_eq (tgt := 93) dX3_sortKind_80 (by decide) ?_ ?_
  · refine q_iload (i := 5) (x := y1) dX3_sortKind_93 2 rfl ?_
    refine q_cSp mX11_isBoat [.int y1] (st := []) dX3_sortKind_95 (ssX3_147) ⟨Nat.le_of_ble_eq_true rfl, Nat.le_of_ble_eq_true rfl⟩ rfl rfl (Nat.le_of_ble_eq_true rfl) (kX11_isBoat y1 y5.2) (fun y6 => ?_)
    refine q_if_eq (tgt := 119) dX3_sortKind_98 (by decide) ?_ ?_
    · exact q_sub [3, 4, 5, 6, 7] rfl (aX3_sortKind_b119 N k2 n2 hk2 c5 hc5 v1 v3 v4 y5.2)
    refine q_aload_n (i := 0) (x := 44) dX3_sortKind_101 rfl 3 rfl ?_
    refine q_getr (t := 45) dX3_sortKind_102 foX3_14 zC_44 rfl ?_
    refine q_iload (i := 5) (x := y1) dX3_sortKind_105 2 rfl ?_
    refine q_aald (t0 := 7) (fun j => 46 + 2 * j) dX3_sortKind_107 zC_45 (fun _ => rfl) (by decide) (fun hc_7 => ?_)
    refine q_iload_n (i := 1) (x := v1) dX3_sortKind_108 rfl 4 rfl ?_
    refine q_iload (i := 6) (x := y2) dX3_sortKind_109 1 rfl ?_
    refine q_iload (i := 7) (x := y3) dX3_sortKind_111 0 rfl ?_
    refine q_iconst (v := 0) dX3_sortKind_113 (by decide) ?_
    refine q_iconst (v := 0) dX3_sortKind_114 (by decide) ?_
    refine q_cVi mX8_add [.int v1, .int y2, .int y3, .int 0, .int 0] (st := []) dX3_sortKind_115 (svX3_151) ⟨Nat.le_of_ble_eq_true rfl, Nat.le_of_ble_eq_true rfl⟩ (xRowsF hc_7).1 rfl rfl rfl (Nat.le_of_ble_eq_true rfl) (kX8_add (46 + 2 * y1.toNatClampNeg) 108 v1 y2 y3 0 0 (xRowsF hc_7) y5.2) (fun y8 => ?_)
    refine q_pop dX3_sortKind_118 rfl ?_
    exact q_sub [3, 4, 5, 6, 7] rfl (aX3_sortKind_b119 N k2 n2 hk2 c5 hc5 v1 v3 v4 y8.2)
  exact q_sub [3, 4, 5, 6, 7] rfl (aX3_sortKind_b83 N k2 n2 hk2 c5 hc5 v1 v3 v4 y5.2)
def fX3_sortKind_l5 (N : Nat) (k2 n2 : Nat) : Nat → Int32 → Int32 → Int32 → qMem → Option (Int32 × qMem)
  | 0 => fun _ _ _ _ => none
  | n + 1 => fun v1 v3 v4 σ => fX3_sortKind_s5 N k2 n2 (fX3_sortKind_l5 N k2 n2 n) v1 v3 v4 σ
theorem aX3_sortKind_l5 (N : Nat) (k2 n2 : Nat) (hk2 : iRows k2 n2) : ∀ (n : Nat) (v1 : Int32) (v3 : Int32) (v4 : Int32) (σ : qMem), qAt wC mX3_sortKind (ρi) 5 [(0, .ref 44), (1, .int v1), (2, .ref k2), (3, .int v3), (4, .int v4)] [] σ (fX3_sortKind_l5 N k2 n2 n v1 v3 v4 σ) := by
  intro n
  induction n with
  | zero => intro v1 v3 v4 σ; exact q_none
  | succ n ih => intro v1 v3 v4 σ; exact aX3_sortKind_s5 N k2 n2 hk2 (fX3_sortKind_l5 N k2 n2 n) ih v1 v3 v4 σ

def fX3_sortKind (N : Nat) (p1 : Int32) (k2 n2 : Nat) (σ : qMem) : Option (Int32 × qMem) :=
  (fX3_sortKind_l5 N k2 n2 N p1 0 0 σ)
set_option maxRecDepth 20000 in
set_option maxHeartbeats 4000000 in
theorem aX3_sortKind  (N : Nat) (p1 : Int32) (k2 n2 : Nat) (hk2 : iRows k2 n2) (σ : qMem) : qAt wC mX3_sortKind (ρi) 0 [(0, .ref 44), (1, .int p1), (2, .ref k2)] [] σ (fX3_sortKind N p1 k2 n2 σ) := by
  unfold fX3_sortKind
  refine q_iconst (v := 0) dX3_sortKind_0 (by decide) ?_
  refine q_istore_n (i := 3) (L' := [(3, .int 0), (0, .ref 44), (1, .int p1), (2, .ref k2)]) dX3_sortKind_1 rfl (Nat.le_of_ble_eq_true rfl) rfl ?_
  refine q_iconst (v := 0) dX3_sortKind_2 (by decide) ?_
  refine q_istore (i := 4) (L' := [(4, .int 0), (3, .int 0), (0, .ref 44), (1, .int p1), (2, .ref k2)]) dX3_sortKind_3 (Nat.le_of_ble_eq_true rfl) rfl ?_
  exact q_sub [2, 3, 4, 1, 0] rfl (aX3_sortKind_l5 N k2 n2 hk2 N p1 0 0 σ)
theorem kX3_sortKind  (N : Nat) (p1 : Int32) (k2 n2 : Nat) (hk2 : iRows k2 n2) (σ : qMem) : qMc wC mX3_sortKind (ρi) [.ref 44, .int p1, .ref k2] σ (fX3_sortKind N p1 k2 n2 σ) := qMc_of (moX3_sortKind) (Nat.le_of_ble_eq_true rfl) (aX3_sortKind N p1 k2 n2 hk2 σ)

theorem dX3_sortOut_0 : decode cX3_sortOut 0 = .ok (.aload_n 0, 1) := by decide +kernel
theorem dX3_sortOut_1 : decode cX3_sortOut 1 = .ok (.getfield 70, 3) := by decide +kernel
theorem dX3_sortOut_4 : decode cX3_sortOut 4 = .ok (.ifCond .eq 4, 3) := by decide +kernel
theorem dX3_sortOut_7 : decode cX3_sortOut 7 = .ok (.return_, 1) := by decide +kernel
theorem dX3_sortOut_8 : decode cX3_sortOut 8 = .ok (.aload_n 0, 1) := by decide +kernel
theorem dX3_sortOut_9 : decode cX3_sortOut 9 = .ok (.getfield 14, 3) := by decide +kernel
theorem dX3_sortOut_12 : decode cX3_sortOut 12 = .ok (.iconst 0, 1) := by decide +kernel
theorem dX3_sortOut_13 : decode cX3_sortOut 13 = .ok (.aaload, 1) := by decide +kernel
theorem dX3_sortOut_14 : decode cX3_sortOut 14 = .ok (.iconst 0, 1) := by decide +kernel
theorem dX3_sortOut_15 : decode cX3_sortOut 15 = .ok (.putfield 84, 3) := by decide +kernel
theorem dX3_sortOut_18 : decode cX3_sortOut 18 = .ok (.aload_n 0, 1) := by decide +kernel
theorem dX3_sortOut_19 : decode cX3_sortOut 19 = .ok (.getfield 14, 3) := by decide +kernel
theorem dX3_sortOut_22 : decode cX3_sortOut 22 = .ok (.iconst 1, 1) := by decide +kernel
theorem dX3_sortOut_23 : decode cX3_sortOut 23 = .ok (.aaload, 1) := by decide +kernel
theorem dX3_sortOut_24 : decode cX3_sortOut 24 = .ok (.iconst 0, 1) := by decide +kernel
theorem dX3_sortOut_25 : decode cX3_sortOut 25 = .ok (.putfield 84, 3) := by decide +kernel
theorem dX3_sortOut_28 : decode cX3_sortOut 28 = .ok (.aload_n 0, 1) := by decide +kernel
theorem dX3_sortOut_29 : decode cX3_sortOut 29 = .ok (.aload_n 0, 1) := by decide +kernel
theorem dX3_sortOut_30 : decode cX3_sortOut 30 = .ok (.iconst 0, 1) := by decide +kernel
theorem dX3_sortOut_31 : decode cX3_sortOut 31 = .ok (.aload_n 0, 1) := by decide +kernel
theorem dX3_sortOut_32 : decode cX3_sortOut 32 = .ok (.getfield 80, 3) := by decide +kernel
theorem dX3_sortOut_35 : decode cX3_sortOut 35 = .ok (.getfield 87, 3) := by decide +kernel
theorem dX3_sortOut_38 : decode cX3_sortOut 38 = .ok (.invokevirtual 93, 3) := by decide +kernel
theorem dX3_sortOut_41 : decode cX3_sortOut 41 = .ok (.putfield 60, 3) := by decide +kernel
theorem dX3_sortOut_44 : decode cX3_sortOut 44 = .ok (.aload_n 0, 1) := by decide +kernel
theorem dX3_sortOut_45 : decode cX3_sortOut 45 = .ok (.aload_n 0, 1) := by decide +kernel
theorem dX3_sortOut_46 : decode cX3_sortOut 46 = .ok (.iconst 1, 1) := by decide +kernel
theorem dX3_sortOut_47 : decode cX3_sortOut 47 = .ok (.aload_n 0, 1) := by decide +kernel
theorem dX3_sortOut_48 : decode cX3_sortOut 48 = .ok (.getfield 80, 3) := by decide +kernel
theorem dX3_sortOut_51 : decode cX3_sortOut 51 = .ok (.getfield 97, 3) := by decide +kernel
theorem dX3_sortOut_54 : decode cX3_sortOut 54 = .ok (.invokevirtual 93, 3) := by decide +kernel
theorem dX3_sortOut_57 : decode cX3_sortOut 57 = .ok (.putfield 64, 3) := by decide +kernel
theorem dX3_sortOut_60 : decode cX3_sortOut 60 = .ok (.aload_n 0, 1) := by decide +kernel
theorem dX3_sortOut_61 : decode cX3_sortOut 61 = .ok (.iconst 1, 1) := by decide +kernel
theorem dX3_sortOut_62 : decode cX3_sortOut 62 = .ok (.putfield 70, 3) := by decide +kernel
theorem dX3_sortOut_65 : decode cX3_sortOut 65 = .ok (.return_, 1) := by decide +kernel

def fX3_sortOut (N : Nat)  (σ : qMem) : Option qMem :=
  (if (gi σ 44 15) = 0 then (nmM (si σ 46 3 0) fun s1 => (nmM (si s1 48 3 0) fun s2 => ((fX3_sortKind N 0 19 72 s2).bind fun y3 => (nmM (si y3.2 44 12 y3.1) fun s4 => ((fX3_sortKind N 1 21 36 s4).bind fun y5 => (nmM (si y5.2 44 13 y5.1) fun s6 => (nmM (si s6 44 15 1) fun s7 => (some s7)))))))) else (some σ))
set_option maxRecDepth 20000 in
set_option maxHeartbeats 4000000 in
theorem aX3_sortOut  (N : Nat)   (σ : qMem) : qAt wC mX3_sortOut (ρv) 0 [(0, .ref 44)] [] σ (fX3_sortOut N σ) := by
  unfold fX3_sortOut
  refine q_aload_n (i := 0) (x := 44) dX3_sortOut_0 rfl 0 rfl ?_
  refine q_geti dX3_sortOut_1 foX3_70 zC_44 rfl ?_
  refine q_if_eq (tgt := 8) dX3_sortOut_4 (by decide) ?_ ?_
  · refine q_aload_n (i := 0) (x := 44) dX3_sortOut_8 rfl 0 rfl ?_
    refine q_getr (t := 45) dX3_sortOut_9 foX3_14 zC_44 rfl ?_
    refine q_iconst (v := 0) dX3_sortOut_12 (by decide) ?_
    refine q_aaldC (t0 := 7) (j := 0) (t := 46) dX3_sortOut_13 zC_45 (fun _ => rfl) (by decide) (by decide) rfl ?_
    refine q_iconst (v := 0) dX3_sortOut_14 (by decide) ?_
    refine q_puti dX3_sortOut_15 foX3_84 fwX8_3 zC_46 rfl ?_
    refine q_nmM (fun s1 => ?_)
    refine q_aload_n (i := 0) (x := 44) dX3_sortOut_18 rfl 0 rfl ?_
    refine q_getr (t := 45) dX3_sortOut_19 foX3_14 zC_44 rfl ?_
    refine q_iconst (v := 1) dX3_sortOut_22 (by decide) ?_
    refine q_aaldC (t0 := 7) (j := 1) (t := 48) dX3_sortOut_23 zC_45 (fun _ => rfl) (by decide) (by decide) rfl ?_
    refine q_iconst (v := 0) dX3_sortOut_24 (by decide) ?_
    refine q_puti dX3_sortOut_25 foX3_84 fwX8_3 zC_48 rfl ?_
    refine q_nmM (fun s2 => ?_)
    refine q_aload_n (i := 0) (x := 44) dX3_sortOut_28 rfl 0 rfl ?_
    refine q_aload_n (i := 0) (x := 44) dX3_sortOut_29 rfl 0 rfl ?_
    refine q_iconst (v := 0) dX3_sortOut_30 (by decide) ?_
    refine q_aload_n (i := 0) (x := 44) dX3_sortOut_31 rfl 0 rfl ?_
    refine q_getr (t := 1) dX3_sortOut_32 foX3_80 zC_44 rfl ?_
    refine q_getr (t := 19) dX3_sortOut_35 foX3_87 zC_1 rfl ?_
    refine q_cVi mX3_sortKind [.int 0, .ref 19] (st := [.ref 44]) dX3_sortOut_38 (svX3_93) ⟨Nat.le_of_ble_eq_true rfl, Nat.le_of_ble_eq_true rfl⟩ zC_44 rfl rfl rfl (Nat.le_of_ble_eq_true rfl) (kX3_sortKind N 0 19 72 pC_19 s2) (fun y3 => ?_)
    refine q_puti dX3_sortOut_41 foX3_60 fwX3_12 zC_44 rfl ?_
    refine q_nmM (fun s4 => ?_)
    refine q_aload_n (i := 0) (x := 44) dX3_sortOut_44 rfl 0 rfl ?_
    refine q_aload_n (i := 0) (x := 44) dX3_sortOut_45 rfl 0 rfl ?_
    refine q_iconst (v := 1) dX3_sortOut_46 (by decide) ?_
    refine q_aload_n (i := 0) (x := 44) dX3_sortOut_47 rfl 0 rfl ?_
    refine q_getr (t := 1) dX3_sortOut_48 foX3_80 zC_44 rfl ?_
    refine q_getr (t := 21) dX3_sortOut_51 foX3_97 zC_1 rfl ?_
    refine q_cVi mX3_sortKind [.int 1, .ref 21] (st := [.ref 44]) dX3_sortOut_54 (svX3_93) ⟨Nat.le_of_ble_eq_true rfl, Nat.le_of_ble_eq_true rfl⟩ zC_44 rfl rfl rfl (Nat.le_of_ble_eq_true rfl) (kX3_sortKind N 1 21 36 pC_21 s4) (fun y5 => ?_)
    refine q_puti dX3_sortOut_57 foX3_64 fwX3_13 zC_44 rfl ?_
    refine q_nmM (fun s6 => ?_)
    refine q_aload_n (i := 0) (x := 44) dX3_sortOut_60 rfl 0 rfl ?_
    refine q_iconst (v := 1) dX3_sortOut_61 (by decide) ?_
    refine q_putz dX3_sortOut_62 foX3_70 fwX3_15 zC_44 rfl (by decide) ?_
    refine q_nmM (fun s7 => ?_)
    exact q_vret (y := s7) dX3_sortOut_65 rfl rfl
  exact q_vret (y := σ) dX3_sortOut_7 rfl rfl
theorem kX3_sortOut  (N : Nat)   (σ : qMem) : qMc wC mX3_sortOut (ρv) [.ref 44] σ (fX3_sortOut N σ) := qMc_of (moX3_sortOut) (Nat.le_of_ble_eq_true rfl) (aX3_sortOut N  σ)

theorem dX10_isNear_0 : decode cX10_isNear 0 = .ok (.iload_n 0, 1) := by decide +kernel
theorem dX10_isNear_1 : decode cX10_isNear 1 = .ok (.bipush 7, 2) := by decide +kernel
theorem dX10_isNear_3 : decode cX10_isNear 3 = .ok (.iload_n 1, 1) := by decide +kernel
theorem dX10_isNear_4 : decode cX10_isNear 4 = .ok (.ishl, 1) := by decide +kernel
theorem dX10_isNear_5 : decode cX10_isNear 5 = .ok (.iconst 1, 1) := by decide +kernel
theorem dX10_isNear_6 : decode cX10_isNear 6 = .ok (.ishr, 1) := by decide +kernel
theorem dX10_isNear_7 : decode cX10_isNear 7 = .ok (.iand, 1) := by decide +kernel
theorem dX10_isNear_8 : decode cX10_isNear 8 = .ok (.ifCond .eq 7, 3) := by decide +kernel
theorem dX10_isNear_11 : decode cX10_isNear 11 = .ok (.iconst 1, 1) := by decide +kernel
theorem dX10_isNear_12 : decode cX10_isNear 12 = .ok (.goto 4, 3) := by decide +kernel
theorem dX10_isNear_15 : decode cX10_isNear 15 = .ok (.iconst 0, 1) := by decide +kernel
theorem dX10_isNear_16 : decode cX10_isNear 16 = .ok (.ireturn, 1) := by decide +kernel

def fX10_isNear (p0 : Int32) (p1 : Int32) : Option Int32 :=
  (if (p0 &&& (((7 : Int32) <<< (p1 &&& 31)) >>> (1 &&& 31))) = 0 then (some 0) else (some 1))
set_option maxRecDepth 20000 in
set_option maxHeartbeats 4000000 in
theorem aX10_isNear  (p0 : Int32) (p1 : Int32)  (σ : qMem) : qAt wC mX10_isNear (ρp σ) 0 [(0, .int p0), (1, .int p1)] [] σ (fX10_isNear p0 p1) := by
  unfold fX10_isNear
  refine q_iload_n (i := 0) (x := p0) dX10_isNear_0 rfl 0 rfl ?_
  refine q_bipush (v := 7) dX10_isNear_1 (by decide) ?_
  refine q_iload_n (i := 1) (x := p1) dX10_isNear_3 rfl 1 rfl ?_
  refine q_ishl dX10_isNear_4 ?_
  refine q_iconst (v := 1) dX10_isNear_5 (by decide) ?_
  refine q_ishr dX10_isNear_6 ?_
  refine q_iand dX10_isNear_7 ?_
  refine q_if_eq (tgt := 15) dX10_isNear_8 (by decide) ?_ ?_
  · refine q_iconst (v := 0) dX10_isNear_15 (by decide) ?_
    exact q_iretz (y := 0) dX10_isNear_16 rfl rfl rfl
  refine q_iconst (v := 1) dX10_isNear_11 (by decide) ?_
  refine q_goto (tgt := 16) dX10_isNear_12 (by decide) ?_
  exact q_iretz (y := 1) dX10_isNear_16 rfl rfl rfl
theorem kX10_isNear  (p0 : Int32) (p1 : Int32)  (σ : qMem) : qMc wC mX10_isNear (ρp σ) [.int p0, .int p1] σ (fX10_isNear p0 p1) := qMc_of (moX10_isNear) (Nat.le_of_ble_eq_true rfl) (aX10_isNear p0 p1  σ)

theorem dX10_findBends_0 : decode cX10_findBends 0 = .ok (.iconst 0, 1) := by decide +kernel
theorem dX10_findBends_1 : decode cX10_findBends 1 = .ok (.iconst 2, 1) := by decide +kernel
theorem dX10_findBends_2 : decode cX10_findBends 2 = .ok (.aload_n 0, 1) := by decide +kernel
theorem dX10_findBends_3 : decode cX10_findBends 3 = .ok (.getfield 18, 3) := by decide +kernel
theorem dX10_findBends_6 : decode cX10_findBends 6 = .ok (.invokestatic 28, 3) := by decide +kernel
theorem dX10_findBends_9 : decode cX10_findBends 9 = .ok (.invokestatic 37, 3) := by decide +kernel
theorem dX10_findBends_12 : decode cX10_findBends 12 = .ok (.bipush 10, 2) := by decide +kernel
theorem dX10_findBends_14 : decode cX10_findBends 14 = .ok (.imul, 1) := by decide +kernel
theorem dX10_findBends_15 : decode cX10_findBends 15 = .ok (.istore_n 1, 1) := by decide +kernel
theorem dX10_findBends_16 : decode cX10_findBends 16 = .ok (.iconst 0, 1) := by decide +kernel
theorem dX10_findBends_17 : decode cX10_findBends 17 = .ok (.istore_n 2, 1) := by decide +kernel
theorem dX10_findBends_18 : decode cX10_findBends 18 = .ok (.iload_n 2, 1) := by decide +kernel
theorem dX10_findBends_19 : decode cX10_findBends 19 = .ok (.bipush 10, 2) := by decide +kernel
theorem dX10_findBends_21 : decode cX10_findBends 21 = .ok (.if_icmp .ge 53, 3) := by decide +kernel
theorem dX10_findBends_24 : decode cX10_findBends 24 = .ok (.aload_n 0, 1) := by decide +kernel
theorem dX10_findBends_25 : decode cX10_findBends 25 = .ok (.getfield 9, 3) := by decide +kernel
theorem dX10_findBends_28 : decode cX10_findBends 28 = .ok (.iload_n 1, 1) := by decide +kernel
theorem dX10_findBends_29 : decode cX10_findBends 29 = .ok (.iload_n 2, 1) := by decide +kernel
theorem dX10_findBends_30 : decode cX10_findBends 30 = .ok (.iconst 1, 1) := by decide +kernel
theorem dX10_findBends_31 : decode cX10_findBends 31 = .ok (.iadd, 1) := by decide +kernel
theorem dX10_findBends_32 : decode cX10_findBends 32 = .ok (.bipush 9, 2) := by decide +kernel
theorem dX10_findBends_34 : decode cX10_findBends 34 = .ok (.invokestatic 28, 3) := by decide +kernel
theorem dX10_findBends_37 : decode cX10_findBends 37 = .ok (.iadd, 1) := by decide +kernel
theorem dX10_findBends_38 : decode cX10_findBends 38 = .ok (.iaload, 1) := by decide +kernel
theorem dX10_findBends_39 : decode cX10_findBends 39 = .ok (.istore_n 3, 1) := by decide +kernel
theorem dX10_findBends_40 : decode cX10_findBends 40 = .ok (.aload_n 0, 1) := by decide +kernel
theorem dX10_findBends_41 : decode cX10_findBends 41 = .ok (.getfield 9, 3) := by decide +kernel
theorem dX10_findBends_44 : decode cX10_findBends 44 = .ok (.iload_n 1, 1) := by decide +kernel
theorem dX10_findBends_45 : decode cX10_findBends 45 = .ok (.iload_n 2, 1) := by decide +kernel
theorem dX10_findBends_46 : decode cX10_findBends 46 = .ok (.iconst 1, 1) := by decide +kernel
theorem dX10_findBends_47 : decode cX10_findBends 47 = .ok (.isub, 1) := by decide +kernel
theorem dX10_findBends_48 : decode cX10_findBends 48 = .ok (.iconst 0, 1) := by decide +kernel
theorem dX10_findBends_49 : decode cX10_findBends 49 = .ok (.invokestatic 37, 3) := by decide +kernel
theorem dX10_findBends_52 : decode cX10_findBends 52 = .ok (.iadd, 1) := by decide +kernel
theorem dX10_findBends_53 : decode cX10_findBends 53 = .ok (.iaload, 1) := by decide +kernel
theorem dX10_findBends_54 : decode cX10_findBends 54 = .ok (.istore 4, 2) := by decide +kernel
theorem dX10_findBends_56 : decode cX10_findBends 56 = .ok (.aload_n 0, 1) := by decide +kernel
theorem dX10_findBends_57 : decode cX10_findBends 57 = .ok (.getfield 15, 3) := by decide +kernel
theorem dX10_findBends_60 : decode cX10_findBends 60 = .ok (.iload_n 2, 1) := by decide +kernel
theorem dX10_findBends_61 : decode cX10_findBends 61 = .ok (.iload_n 3, 1) := by decide +kernel
theorem dX10_findBends_62 : decode cX10_findBends 62 = .ok (.iload 4, 2) := by decide +kernel
theorem dX10_findBends_64 : decode cX10_findBends 64 = .ok (.invokestatic 40, 3) := by decide +kernel
theorem dX10_findBends_67 : decode cX10_findBends 67 = .ok (.iastore, 1) := by decide +kernel
theorem dX10_findBends_68 : decode cX10_findBends 68 = .ok (.iinc 2 1, 3) := by decide +kernel
theorem dX10_findBends_71 : decode cX10_findBends 71 = .ok (.goto (-53), 3) := by decide +kernel
theorem dX10_findBends_74 : decode cX10_findBends 74 = .ok (.return_, 1) := by decide +kernel
def fX10_findBends_s18 (N : Nat) (k : Nat) (c18 : Int32 → Int32 → qMem → Option qMem) (v1 : Int32) (v2 : Int32) (σ : qMem) : Option qMem :=
  (if 10 ≤ v2 then (some σ) else ((fJ9_min_7cf53 (v2 + 1) 9).bind fun y3 => (if ck (v1 + y3) 30 = true then (nmI (gi σ (k + 1) (v1 + y3).toNatClampNeg) fun x4 => ((fJ9_max_7cf53 (v2 - 1) 0).bind fun y5 => (if ck (v1 + y5) 30 = true then (nmI (gi σ (k + 1) (v1 + y5).toNatClampNeg) fun x6 => ((fJ6_compare_7cf53 x4 x6).bind fun y7 => (if ck v2 10 = true then (nmM (si σ (k + 2) v2.toNatClampNeg y7) fun s8 => (c18 v1 (v2 + 1) s8)) else none))) else none))) else none)))
set_option maxRecDepth 20000 in
set_option maxHeartbeats 4000000 in
theorem aX10_findBends_s18 (N : Nat) (k : Nat) (hk : iWater k) (c18 : Int32 → Int32 → qMem → Option qMem) (hc18 : ∀ (v1 : Int32) (v2 : Int32) (σ : qMem), qAt wC mX10_findBends (ρv) 18 [(0, .ref k), (1, .int v1), (2, .int v2)] [] σ (c18 v1 v2 σ)) (v1 : Int32) (v2 : Int32) (σ : qMem) : qAt wC mX10_findBends (ρv) 18 [(0, .ref k), (1, .int v1), (2, .int v2)] [] σ (fX10_findBends_s18 N k c18 v1 v2 σ) := by
  unfold fX10_findBends_s18
  refine q_iload_n (i := 2) (x := v2) dX10_findBends_18 rfl 2 rfl ?_
  refine q_bipush (v := 10) dX10_findBends_19 (by decide) ?_
  refine q_icmp_ge (tgt := 74) dX10_findBends_21 (by decide) ?_ ?_
  · exact q_vret (y := σ) dX10_findBends_74 rfl rfl
  refine q_aload_n (i := 0) (x := k) dX10_findBends_24 rfl 0 rfl ?_
  refine q_getr (t := (k + 1)) dX10_findBends_25 foX10_9 hk.1 rfl ?_
  refine q_iload_n (i := 1) (x := v1) dX10_findBends_28 rfl 1 rfl ?_
  refine q_iload_n (i := 2) (x := v2) dX10_findBends_29 rfl 2 rfl ?_
  refine q_iconst (v := 1) dX10_findBends_30 (by decide) ?_
  refine q_iadd dX10_findBends_31 ?_
  refine q_bipush (v := 9) dX10_findBends_32 (by decide) ?_
  refine q_cSp mJ9_min_7cf53 [.int (v2 + 1), .int 9] (st := [.int v1, .ref (k + 1)]) dX10_findBends_34 (ssX10_28) ⟨Nat.le_of_ble_eq_true rfl, Nat.le_of_ble_eq_true rfl⟩ rfl rfl (Nat.le_of_ble_eq_true rfl) (kJ9_min_7cf53 (v2 + 1) 9 σ) (fun y3 => ?_)
  refine q_iadd dX10_findBends_37 ?_
  refine q_iald dX10_findBends_38 hk.2.1 ?_
  refine q_nmI (fun x4 => ?_)
  refine q_istore_n (i := 3) (L' := [(3, .int x4), (0, .ref k), (1, .int v1), (2, .int v2)]) dX10_findBends_39 rfl (Nat.le_of_ble_eq_true rfl) rfl ?_
  refine q_aload_n (i := 0) (x := k) dX10_findBends_40 rfl 1 rfl ?_
  refine q_getr (t := (k + 1)) dX10_findBends_41 foX10_9 hk.1 rfl ?_
  refine q_iload_n (i := 1) (x := v1) dX10_findBends_44 rfl 2 rfl ?_
  refine q_iload_n (i := 2) (x := v2) dX10_findBends_45 rfl 3 rfl ?_
  refine q_iconst (v := 1) dX10_findBends_46 (by decide) ?_
  refine q_isub dX10_findBends_47 ?_
  refine q_iconst (v := 0) dX10_findBends_48 (by decide) ?_
  refine q_cSp mJ9_max_7cf53 [.int (v2 - 1), .int 0] (st := [.int v1, .ref (k + 1)]) dX10_findBends_49 (ssX10_37) ⟨Nat.le_of_ble_eq_true rfl, Nat.le_of_ble_eq_true rfl⟩ rfl rfl (Nat.le_of_ble_eq_true rfl) (kJ9_max_7cf53 (v2 - 1) 0 σ) (fun y5 => ?_)
  refine q_iadd dX10_findBends_52 ?_
  refine q_iald dX10_findBends_53 hk.2.1 ?_
  refine q_nmI (fun x6 => ?_)
  refine q_istore (i := 4) (L' := [(4, .int x6), (3, .int x4), (0, .ref k), (1, .int v1), (2, .int v2)]) dX10_findBends_54 (Nat.le_of_ble_eq_true rfl) rfl ?_
  refine q_aload_n (i := 0) (x := k) dX10_findBends_56 rfl 2 rfl ?_
  refine q_getr (t := (k + 2)) dX10_findBends_57 foX10_15 hk.1 rfl ?_
  refine q_iload_n (i := 2) (x := v2) dX10_findBends_60 rfl 4 rfl ?_
  refine q_iload_n (i := 3) (x := x4) dX10_findBends_61 rfl 1 rfl ?_
  refine q_iload (i := 4) (x := x6) dX10_findBends_62 0 rfl ?_
  refine q_cSp mJ6_compare_7cf53 [.int x4, .int x6] (st := [.int v2, .ref (k + 2)]) dX10_findBends_64 (ssX10_40) ⟨Nat.le_of_ble_eq_true rfl, Nat.le_of_ble_eq_true rfl⟩ rfl rfl (Nat.le_of_ble_eq_true rfl) (kJ6_compare_7cf53 x4 x6 σ) (fun y7 => ?_)
  refine q_iast dX10_findBends_67 hk.2.2 ?_
  refine q_nmM (fun s8 => ?_)
  refine q_iinc (i := 2) (x := v2) (v := (v2 + 1)) (L' := [(2, .int (v2 + 1)), (4, .int x6), (3, .int x4), (0, .ref k), (1, .int v1)]) dX10_findBends_68 4 rfl (q_cst v2 (by decide)) (Nat.le_of_ble_eq_true rfl) rfl ?_
  refine q_goto (tgt := 18) dX10_findBends_71 (by decide) ?_
  exact q_sub [3, 4, 0] rfl (hc18 v1 (v2 + 1) s8)
def fX10_findBends_l18 (N : Nat) (k : Nat) : Nat → Int32 → Int32 → qMem → Option qMem
  | 0 => fun _ _ _ => none
  | n + 1 => fun v1 v2 σ => fX10_findBends_s18 N k (fX10_findBends_l18 N k n) v1 v2 σ
theorem aX10_findBends_l18 (N : Nat) (k : Nat) (hk : iWater k) : ∀ (n : Nat) (v1 : Int32) (v2 : Int32) (σ : qMem), qAt wC mX10_findBends (ρv) 18 [(0, .ref k), (1, .int v1), (2, .int v2)] [] σ (fX10_findBends_l18 N k n v1 v2 σ) := by
  intro n
  induction n with
  | zero => intro v1 v2 σ; exact q_none
  | succ n ih => intro v1 v2 σ; exact aX10_findBends_s18 N k hk (fX10_findBends_l18 N k n) ih v1 v2 σ

def fX10_findBends (N : Nat) (k : Nat) (σ : qMem) : Option qMem :=
  ((fJ9_min_7cf53 2 (gi σ k 2)).bind fun y1 => ((fJ9_max_7cf53 0 y1).bind fun y2 => (fX10_findBends_l18 N k N (y2 * 10) 0 σ)))
set_option maxRecDepth 20000 in
set_option maxHeartbeats 4000000 in
theorem aX10_findBends  (N : Nat) (k : Nat) (hk : iWater k) (σ : qMem) : qAt wC mX10_findBends (ρv) 0 [(0, .ref k)] [] σ (fX10_findBends N k σ) := by
  unfold fX10_findBends
  refine q_iconst (v := 0) dX10_findBends_0 (by decide) ?_
  refine q_iconst (v := 2) dX10_findBends_1 (by decide) ?_
  refine q_aload_n (i := 0) (x := k) dX10_findBends_2 rfl 0 rfl ?_
  refine q_geti dX10_findBends_3 foX10_18 hk.1 rfl ?_
  refine q_cSp mJ9_min_7cf53 [.int 2, .int (gi σ k 2)] (st := [.int 0]) dX10_findBends_6 (ssX10_28) ⟨Nat.le_of_ble_eq_true rfl, Nat.le_of_ble_eq_true rfl⟩ rfl rfl (Nat.le_of_ble_eq_true rfl) (kJ9_min_7cf53 2 (gi σ k 2) σ) (fun y1 => ?_)
  refine q_cSp mJ9_max_7cf53 [.int 0, .int y1] (st := []) dX10_findBends_9 (ssX10_37) ⟨Nat.le_of_ble_eq_true rfl, Nat.le_of_ble_eq_true rfl⟩ rfl rfl (Nat.le_of_ble_eq_true rfl) (kJ9_max_7cf53 0 y1 σ) (fun y2 => ?_)
  refine q_bipush (v := 10) dX10_findBends_12 (by decide) ?_
  refine q_imul dX10_findBends_14 ?_
  refine q_istore_n (i := 1) (L' := [(1, .int (y2 * 10)), (0, .ref k)]) dX10_findBends_15 rfl (Nat.le_of_ble_eq_true rfl) rfl ?_
  refine q_iconst (v := 0) dX10_findBends_16 (by decide) ?_
  refine q_istore_n (i := 2) (L' := [(2, .int 0), (1, .int (y2 * 10)), (0, .ref k)]) dX10_findBends_17 rfl (Nat.le_of_ble_eq_true rfl) rfl ?_
  exact q_sub [2, 1, 0] rfl (aX10_findBends_l18 N k hk N (y2 * 10) 0 σ)
theorem kX10_findBends  (N : Nat) (k : Nat) (hk : iWater k) (σ : qMem) : qMc wC mX10_findBends (ρv) [.ref k] σ (fX10_findBends N k σ) := qMc_of (moX10_findBends) (Nat.le_of_ble_eq_true rfl) (aX10_findBends N k hk σ)

theorem dX10_sendRays_0 : decode cX10_sendRays 0 = .ok (.iload_n 2, 1) := by decide +kernel
theorem dX10_sendRays_1 : decode cX10_sendRays 1 = .ok (.aload_n 3, 1) := by decide +kernel
theorem dX10_sendRays_2 : decode cX10_sendRays 2 = .ok (.arraylength, 1) := by decide +kernel
theorem dX10_sendRays_3 : decode cX10_sendRays 3 = .ok (.iconst 1, 1) := by decide +kernel
theorem dX10_sendRays_4 : decode cX10_sendRays 4 = .ok (.isub, 1) := by decide +kernel
theorem dX10_sendRays_5 : decode cX10_sendRays 5 = .ok (.invokestatic 28, 3) := by decide +kernel
theorem dX10_sendRays_8 : decode cX10_sendRays 8 = .ok (.istore 4, 2) := by decide +kernel
theorem dX10_sendRays_10 : decode cX10_sendRays 10 = .ok (.aload_n 3, 1) := by decide +kernel
theorem dX10_sendRays_11 : decode cX10_sendRays 11 = .ok (.iconst 0, 1) := by decide +kernel
theorem dX10_sendRays_12 : decode cX10_sendRays 12 = .ok (.invokestatic 22, 3) := by decide +kernel
theorem dX10_sendRays_15 : decode cX10_sendRays 15 = .ok (.aload_n 0, 1) := by decide +kernel
theorem dX10_sendRays_16 : decode cX10_sendRays 16 = .ok (.invokevirtual 34, 3) := by decide +kernel
theorem dX10_sendRays_19 : decode cX10_sendRays 19 = .ok (.bipush (-2), 2) := by decide +kernel
theorem dX10_sendRays_21 : decode cX10_sendRays 21 = .ok (.istore 5, 2) := by decide +kernel
theorem dX10_sendRays_23 : decode cX10_sendRays 23 = .ok (.iload 5, 2) := by decide +kernel
theorem dX10_sendRays_25 : decode cX10_sendRays 25 = .ok (.iconst 2, 1) := by decide +kernel
theorem dX10_sendRays_26 : decode cX10_sendRays 26 = .ok (.if_icmp .gt 108, 3) := by decide +kernel
theorem dX10_sendRays_29 : decode cX10_sendRays 29 = .ok (.iload_n 1, 1) := by decide +kernel
theorem dX10_sendRays_30 : decode cX10_sendRays 30 = .ok (.istore 6, 2) := by decide +kernel
theorem dX10_sendRays_32 : decode cX10_sendRays 32 = .ok (.iload 5, 2) := by decide +kernel
theorem dX10_sendRays_34 : decode cX10_sendRays 34 = .ok (.istore 7, 2) := by decide +kernel
theorem dX10_sendRays_36 : decode cX10_sendRays 36 = .ok (.iconst 0, 1) := by decide +kernel
theorem dX10_sendRays_37 : decode cX10_sendRays 37 = .ok (.istore 8, 2) := by decide +kernel
theorem dX10_sendRays_39 : decode cX10_sendRays 39 = .ok (.iload 8, 2) := by decide +kernel
theorem dX10_sendRays_41 : decode cX10_sendRays 41 = .ok (.iload 4, 2) := by decide +kernel
theorem dX10_sendRays_43 : decode cX10_sendRays 43 = .ok (.if_icmp .gt 85, 3) := by decide +kernel
theorem dX10_sendRays_46 : decode cX10_sendRays 46 = .ok (.aload_n 3, 1) := by decide +kernel
theorem dX10_sendRays_47 : decode cX10_sendRays 47 = .ok (.iload 8, 2) := by decide +kernel
theorem dX10_sendRays_49 : decode cX10_sendRays 49 = .ok (.dup2, 1) := by decide +kernel
theorem dX10_sendRays_50 : decode cX10_sendRays 50 = .ok (.iaload, 1) := by decide +kernel
theorem dX10_sendRays_51 : decode cX10_sendRays 51 = .ok (.iconst 1, 1) := by decide +kernel
theorem dX10_sendRays_52 : decode cX10_sendRays 52 = .ok (.iload 6, 2) := by decide +kernel
theorem dX10_sendRays_54 : decode cX10_sendRays 54 = .ok (.ishl, 1) := by decide +kernel
theorem dX10_sendRays_55 : decode cX10_sendRays 55 = .ok (.ior, 1) := by decide +kernel
theorem dX10_sendRays_56 : decode cX10_sendRays 56 = .ok (.iastore, 1) := by decide +kernel
theorem dX10_sendRays_57 : decode cX10_sendRays 57 = .ok (.bipush (-2), 2) := by decide +kernel
theorem dX10_sendRays_59 : decode cX10_sendRays 59 = .ok (.iconst 2, 1) := by decide +kernel
theorem dX10_sendRays_60 : decode cX10_sendRays 60 = .ok (.iload 7, 2) := by decide +kernel
theorem dX10_sendRays_62 : decode cX10_sendRays 62 = .ok (.aload_n 0, 1) := by decide +kernel
theorem dX10_sendRays_63 : decode cX10_sendRays 63 = .ok (.getfield 15, 3) := by decide +kernel
theorem dX10_sendRays_66 : decode cX10_sendRays 66 = .ok (.iload 6, 2) := by decide +kernel
theorem dX10_sendRays_68 : decode cX10_sendRays 68 = .ok (.iaload, 1) := by decide +kernel
theorem dX10_sendRays_69 : decode cX10_sendRays 69 = .ok (.iadd, 1) := by decide +kernel
theorem dX10_sendRays_70 : decode cX10_sendRays 70 = .ok (.invokestatic 28, 3) := by decide +kernel
theorem dX10_sendRays_73 : decode cX10_sendRays 73 = .ok (.invokestatic 37, 3) := by decide +kernel
theorem dX10_sendRays_76 : decode cX10_sendRays 76 = .ok (.istore 7, 2) := by decide +kernel
theorem dX10_sendRays_78 : decode cX10_sendRays 78 = .ok (.iload 6, 2) := by decide +kernel
theorem dX10_sendRays_80 : decode cX10_sendRays 80 = .ok (.iload 7, 2) := by decide +kernel
theorem dX10_sendRays_82 : decode cX10_sendRays 82 = .ok (.iadd, 1) := by decide +kernel
theorem dX10_sendRays_83 : decode cX10_sendRays 83 = .ok (.istore 6, 2) := by decide +kernel
theorem dX10_sendRays_85 : decode cX10_sendRays 85 = .ok (.iload 6, 2) := by decide +kernel
theorem dX10_sendRays_87 : decode cX10_sendRays 87 = .ok (.ifCond .ge 16, 3) := by decide +kernel
theorem dX10_sendRays_90 : decode cX10_sendRays 90 = .ok (.iload 6, 2) := by decide +kernel
theorem dX10_sendRays_92 : decode cX10_sendRays 92 = .ok (.ineg, 1) := by decide +kernel
theorem dX10_sendRays_93 : decode cX10_sendRays 93 = .ok (.istore 6, 2) := by decide +kernel
theorem dX10_sendRays_95 : decode cX10_sendRays 95 = .ok (.iload 7, 2) := by decide +kernel
theorem dX10_sendRays_97 : decode cX10_sendRays 97 = .ok (.ineg, 1) := by decide +kernel
theorem dX10_sendRays_98 : decode cX10_sendRays 98 = .ok (.istore 7, 2) := by decide +kernel
theorem dX10_sendRays_100 : decode cX10_sendRays 100 = .ok (.goto 22, 3) := by decide +kernel
theorem dX10_sendRays_103 : decode cX10_sendRays 103 = .ok (.iload 6, 2) := by decide +kernel
theorem dX10_sendRays_105 : decode cX10_sendRays 105 = .ok (.bipush 9, 2) := by decide +kernel
theorem dX10_sendRays_107 : decode cX10_sendRays 107 = .ok (.if_icmp .le 15, 3) := by decide +kernel
theorem dX10_sendRays_110 : decode cX10_sendRays 110 = .ok (.bipush 18, 2) := by decide +kernel
theorem dX10_sendRays_112 : decode cX10_sendRays 112 = .ok (.iload 6, 2) := by decide +kernel
theorem dX10_sendRays_114 : decode cX10_sendRays 114 = .ok (.isub, 1) := by decide +kernel
theorem dX10_sendRays_115 : decode cX10_sendRays 115 = .ok (.istore 6, 2) := by decide +kernel
theorem dX10_sendRays_117 : decode cX10_sendRays 117 = .ok (.iload 7, 2) := by decide +kernel
theorem dX10_sendRays_119 : decode cX10_sendRays 119 = .ok (.ineg, 1) := by decide +kernel
theorem dX10_sendRays_120 : decode cX10_sendRays 120 = .ok (.istore 7, 2) := by decide +kernel
theorem dX10_sendRays_122 : decode cX10_sendRays 122 = .ok (.iinc 8 1, 3) := by decide +kernel
theorem dX10_sendRays_125 : decode cX10_sendRays 125 = .ok (.goto (-86), 3) := by decide +kernel
theorem dX10_sendRays_128 : decode cX10_sendRays 128 = .ok (.iinc 5 1, 3) := by decide +kernel
theorem dX10_sendRays_131 : decode cX10_sendRays 131 = .ok (.goto (-108), 3) := by decide +kernel
theorem dX10_sendRays_134 : decode cX10_sendRays 134 = .ok (.return_, 1) := by decide +kernel
def fX10_sendRays_b122 (N : Nat) (k : Nat) (c23 : Int32 → Int32 → Int32 → qMem → Option qMem) (c39 : Int32 → Int32 → Int32 → Int32 → Int32 → Int32 → qMem → Option qMem) (v1 : Int32) (v4 : Int32) (v5 : Int32) (v6 : Int32) (v7 : Int32) (v8 : Int32) (σ : qMem) : Option qMem :=
  (c39 v1 v4 v5 v6 v7 (v8 + 1) σ)
set_option maxRecDepth 20000 in
set_option maxHeartbeats 4000000 in
theorem aX10_sendRays_b122 (N : Nat) (k : Nat) (hk : iWater k) (c23 : Int32 → Int32 → Int32 → qMem → Option qMem) (c39 : Int32 → Int32 → Int32 → Int32 → Int32 → Int32 → qMem → Option qMem) (hc23 : ∀ (v1 : Int32) (v4 : Int32) (v5 : Int32) (σ : qMem), qAt wC mX10_sendRays (ρv) 23 [(0, .ref k), (1, .int v1), (3, .ref 60), (4, .int v4), (5, .int v5)] [] σ (c23 v1 v4 v5 σ)) (hc39 : ∀ (v1 : Int32) (v4 : Int32) (v5 : Int32) (v6 : Int32) (v7 : Int32) (v8 : Int32) (σ : qMem), qAt wC mX10_sendRays (ρv) 39 [(0, .ref k), (1, .int v1), (3, .ref 60), (4, .int v4), (5, .int v5), (6, .int v6), (7, .int v7), (8, .int v8)] [] σ (c39 v1 v4 v5 v6 v7 v8 σ)) (v1 : Int32) (v4 : Int32) (v5 : Int32) (v6 : Int32) (v7 : Int32) (v8 : Int32) (σ : qMem) : qAt wC mX10_sendRays (ρv) 122 [(0, .ref k), (1, .int v1), (3, .ref 60), (4, .int v4), (5, .int v5), (6, .int v6), (7, .int v7), (8, .int v8)] [] σ (fX10_sendRays_b122 N k c23 c39 v1 v4 v5 v6 v7 v8 σ) := by
  unfold fX10_sendRays_b122
  refine q_iinc (i := 8) (x := v8) (v := (v8 + 1)) (L' := [(8, .int (v8 + 1)), (0, .ref k), (1, .int v1), (3, .ref 60), (4, .int v4), (5, .int v5), (6, .int v6), (7, .int v7)]) dX10_sendRays_122 7 rfl (q_cst v8 (by decide)) (Nat.le_of_ble_eq_true rfl) rfl ?_
  refine q_goto (tgt := 39) dX10_sendRays_125 (by decide) ?_
  exact q_sub [1, 2, 3, 4, 5, 6, 7, 0] rfl (hc39 v1 v4 v5 v6 v7 (v8 + 1) σ)

def fX10_sendRays_s39 (N : Nat) (k : Nat) (c23 : Int32 → Int32 → Int32 → qMem → Option qMem) (c39 : Int32 → Int32 → Int32 → Int32 → Int32 → Int32 → qMem → Option qMem) (v1 : Int32) (v4 : Int32) (v5 : Int32) (v6 : Int32) (v7 : Int32) (v8 : Int32) (σ : qMem) : Option qMem :=
  (if v4 < v8 then (c23 v1 v4 (v5 + 1) σ) else (if ck v8 201 = true then (if ck v8 201 = true then (nmM (si σ 60 v8.toNatClampNeg ((gi σ 60 v8.toNatClampNeg) ||| ((1 : Int32) <<< (v6 &&& 31)))) fun s4 => (if ck v6 10 = true then ((fJ9_min_7cf53 2 (v7 + (gi s4 (k + 2) v6.toNatClampNeg))).bind fun y5 => ((fJ9_max_7cf53 (-2) y5).bind fun y6 => (if 0 ≤ (v6 + y6) then (if (v6 + y6) ≤ 9 then (fX10_sendRays_b122 N k c23 c39 v1 v4 v5 (v6 + y6) y6 v8 s4) else (fX10_sendRays_b122 N k c23 c39 v1 v4 v5 (18 - (v6 + y6)) (-y6) v8 s4)) else (fX10_sendRays_b122 N k c23 c39 v1 v4 v5 (-(v6 + y6)) (-y6) v8 s4)))) else none)) else none) else none))
set_option maxRecDepth 20000 in
set_option maxHeartbeats 4000000 in
theorem aX10_sendRays_s39 (N : Nat) (k : Nat) (hk : iWater k) (c23 : Int32 → Int32 → Int32 → qMem → Option qMem) (hc23 : ∀ (v1 : Int32) (v4 : Int32) (v5 : Int32) (σ : qMem), qAt wC mX10_sendRays (ρv) 23 [(0, .ref k), (1, .int v1), (3, .ref 60), (4, .int v4), (5, .int v5)] [] σ (c23 v1 v4 v5 σ)) (c39 : Int32 → Int32 → Int32 → Int32 → Int32 → Int32 → qMem → Option qMem) (hc39 : ∀ (v1 : Int32) (v4 : Int32) (v5 : Int32) (v6 : Int32) (v7 : Int32) (v8 : Int32) (σ : qMem), qAt wC mX10_sendRays (ρv) 39 [(0, .ref k), (1, .int v1), (3, .ref 60), (4, .int v4), (5, .int v5), (6, .int v6), (7, .int v7), (8, .int v8)] [] σ (c39 v1 v4 v5 v6 v7 v8 σ)) (v1 : Int32) (v4 : Int32) (v5 : Int32) (v6 : Int32) (v7 : Int32) (v8 : Int32) (σ : qMem) : qAt wC mX10_sendRays (ρv) 39 [(0, .ref k), (1, .int v1), (3, .ref 60), (4, .int v4), (5, .int v5), (6, .int v6), (7, .int v7), (8, .int v8)] [] σ (fX10_sendRays_s39 N k c23 c39 v1 v4 v5 v6 v7 v8 σ) := by
  unfold fX10_sendRays_s39
  refine q_iload (i := 8) (x := v8) dX10_sendRays_39 7 rfl ?_
  refine q_iload (i := 4) (x := v4) dX10_sendRays_41 3 rfl ?_
  refine q_icmp_gt (tgt := 128) dX10_sendRays_43 (by decide) ?_ ?_
  · refine q_iinc (i := 5) (x := v5) (v := (v5 + 1)) (L' := [(5, .int (v5 + 1)), (0, .ref k), (1, .int v1), (3, .ref 60), (4, .int v4), (6, .int v6), (7, .int v7), (8, .int v8)]) dX10_sendRays_128 4 rfl (q_cst v5 (by decide)) (Nat.le_of_ble_eq_true rfl) rfl ?_
    refine q_goto (tgt := 23) dX10_sendRays_131 (by decide) ?_
    exact q_sub [1, 2, 3, 4, 0] rfl (hc23 v1 v4 (v5 + 1) σ)
  refine q_aload_n (i := 3) (x := 60) dX10_sendRays_46 rfl 2 rfl ?_
  refine q_iload (i := 8) (x := v8) dX10_sendRays_47 7 rfl ?_
  refine q_dup2 dX10_sendRays_49 rfl rfl ?_
  refine q_iald dX10_sendRays_50 zC_60 ?_
  refine q_iconst (v := 1) dX10_sendRays_51 (by decide) ?_
  refine q_iload (i := 6) (x := v6) dX10_sendRays_52 5 rfl ?_
  refine q_ishl dX10_sendRays_54 ?_
  refine q_ior dX10_sendRays_55 ?_
  refine q_iast dX10_sendRays_56 zC_60 ?_
  refine q_nmM (fun s4 => ?_)
  refine q_bipush (v := (-2)) dX10_sendRays_57 (by decide) ?_
  refine q_iconst (v := 2) dX10_sendRays_59 (by decide) ?_
  refine q_iload (i := 7) (x := v7) dX10_sendRays_60 6 rfl ?_
  refine q_aload_n (i := 0) (x := k) dX10_sendRays_62 rfl 0 rfl ?_
  refine q_getr (t := (k + 2)) dX10_sendRays_63 foX10_15 hk.1 rfl ?_
  refine q_iload (i := 6) (x := v6) dX10_sendRays_66 5 rfl ?_
  refine q_iald dX10_sendRays_68 hk.2.2 ?_
  refine q_iadd dX10_sendRays_69 ?_
  refine q_cSp mJ9_min_7cf53 [.int 2, .int (v7 + (gi s4 (k + 2) v6.toNatClampNeg))] (st := [.int (-2)]) dX10_sendRays_70 (ssX10_28) ⟨Nat.le_of_ble_eq_true rfl, Nat.le_of_ble_eq_true rfl⟩ rfl rfl (Nat.le_of_ble_eq_true rfl) (kJ9_min_7cf53 2 (v7 + (gi s4 (k + 2) v6.toNatClampNeg)) s4) (fun y5 => ?_)
  refine q_cSp mJ9_max_7cf53 [.int (-2), .int y5] (st := []) dX10_sendRays_73 (ssX10_37) ⟨Nat.le_of_ble_eq_true rfl, Nat.le_of_ble_eq_true rfl⟩ rfl rfl (Nat.le_of_ble_eq_true rfl) (kJ9_max_7cf53 (-2) y5 s4) (fun y6 => ?_)
  refine q_istore (i := 7) (L' := [(7, .int y6), (0, .ref k), (1, .int v1), (3, .ref 60), (4, .int v4), (5, .int v5), (6, .int v6), (8, .int v8)]) dX10_sendRays_76 (Nat.le_of_ble_eq_true rfl) rfl ?_
  refine q_iload (i := 6) (x := v6) dX10_sendRays_78 6 rfl ?_
  refine q_iload (i := 7) (x := y6) dX10_sendRays_80 0 rfl ?_
  refine q_iadd dX10_sendRays_82 ?_
  refine q_istore (i := 6) (L' := [(6, .int (v6 + y6)), (7, .int y6), (0, .ref k), (1, .int v1), (3, .ref 60), (4, .int v4), (5, .int v5), (8, .int v8)]) dX10_sendRays_83 (Nat.le_of_ble_eq_true rfl) rfl ?_
  refine q_iload (i := 6) (x := (v6 + y6)) dX10_sendRays_85 0 rfl ?_
  refine q_if_ge (tgt := 103) dX10_sendRays_87 (by decide) ?_ ?_
  · refine q_iload (i := 6) (x := (v6 + y6)) dX10_sendRays_103 0 rfl ?_
    refine q_bipush (v := 9) dX10_sendRays_105 (by decide) ?_
    refine q_icmp_le (tgt := 122) dX10_sendRays_107 (by decide) ?_ ?_
    · exact q_sub [2, 3, 4, 5, 6, 0, 1, 7] rfl (aX10_sendRays_b122 N k hk c23 c39 hc23 hc39 v1 v4 v5 (v6 + y6) y6 v8 s4)
    refine q_bipush (v := 18) dX10_sendRays_110 (by decide) ?_
    refine q_iload (i := 6) (x := (v6 + y6)) dX10_sendRays_112 0 rfl ?_
    refine q_isub dX10_sendRays_114 ?_
    refine q_istore (i := 6) (L' := [(6, .int (18 - (v6 + y6))), (7, .int y6), (0, .ref k), (1, .int v1), (3, .ref 60), (4, .int v4), (5, .int v5), (8, .int v8)]) dX10_sendRays_115 (Nat.le_of_ble_eq_true rfl) rfl ?_
    refine q_iload (i := 7) (x := y6) dX10_sendRays_117 1 rfl ?_
    refine q_ineg dX10_sendRays_119 ?_
    refine q_istore (i := 7) (L' := [(7, .int (-y6)), (6, .int (18 - (v6 + y6))), (0, .ref k), (1, .int v1), (3, .ref 60), (4, .int v4), (5, .int v5), (8, .int v8)]) dX10_sendRays_120 (Nat.le_of_ble_eq_true rfl) rfl ?_
    exact q_sub [2, 3, 4, 5, 6, 1, 0, 7] rfl (aX10_sendRays_b122 N k hk c23 c39 hc23 hc39 v1 v4 v5 (18 - (v6 + y6)) (-y6) v8 s4)
  refine q_iload (i := 6) (x := (v6 + y6)) dX10_sendRays_90 0 rfl ?_
  refine q_ineg dX10_sendRays_92 ?_
  refine q_istore (i := 6) (L' := [(6, .int (-(v6 + y6))), (7, .int y6), (0, .ref k), (1, .int v1), (3, .ref 60), (4, .int v4), (5, .int v5), (8, .int v8)]) dX10_sendRays_93 (Nat.le_of_ble_eq_true rfl) rfl ?_
  refine q_iload (i := 7) (x := y6) dX10_sendRays_95 1 rfl ?_
  refine q_ineg dX10_sendRays_97 ?_
  refine q_istore (i := 7) (L' := [(7, .int (-y6)), (6, .int (-(v6 + y6))), (0, .ref k), (1, .int v1), (3, .ref 60), (4, .int v4), (5, .int v5), (8, .int v8)]) dX10_sendRays_98 (Nat.le_of_ble_eq_true rfl) rfl ?_
  refine q_goto (tgt := 122) dX10_sendRays_100 (by decide) ?_
  exact q_sub [2, 3, 4, 5, 6, 1, 0, 7] rfl (aX10_sendRays_b122 N k hk c23 c39 hc23 hc39 v1 v4 v5 (-(v6 + y6)) (-y6) v8 s4)
def fX10_sendRays_l39 (N : Nat) (k : Nat) (c23 : Int32 → Int32 → Int32 → qMem → Option qMem) : Nat → Int32 → Int32 → Int32 → Int32 → Int32 → Int32 → qMem → Option qMem
  | 0 => fun _ _ _ _ _ _ _ => none
  | n + 1 => fun v1 v4 v5 v6 v7 v8 σ => fX10_sendRays_s39 N k c23 (fX10_sendRays_l39 N k c23 n) v1 v4 v5 v6 v7 v8 σ
theorem aX10_sendRays_l39 (N : Nat) (k : Nat) (hk : iWater k) (c23 : Int32 → Int32 → Int32 → qMem → Option qMem) (hc23 : ∀ (v1 : Int32) (v4 : Int32) (v5 : Int32) (σ : qMem), qAt wC mX10_sendRays (ρv) 23 [(0, .ref k), (1, .int v1), (3, .ref 60), (4, .int v4), (5, .int v5)] [] σ (c23 v1 v4 v5 σ)) : ∀ (n : Nat) (v1 : Int32) (v4 : Int32) (v5 : Int32) (v6 : Int32) (v7 : Int32) (v8 : Int32) (σ : qMem), qAt wC mX10_sendRays (ρv) 39 [(0, .ref k), (1, .int v1), (3, .ref 60), (4, .int v4), (5, .int v5), (6, .int v6), (7, .int v7), (8, .int v8)] [] σ (fX10_sendRays_l39 N k c23 n v1 v4 v5 v6 v7 v8 σ) := by
  intro n
  induction n with
  | zero => intro v1 v4 v5 v6 v7 v8 σ; exact q_none
  | succ n ih => intro v1 v4 v5 v6 v7 v8 σ; exact aX10_sendRays_s39 N k hk c23 hc23 (fX10_sendRays_l39 N k c23 n) ih v1 v4 v5 v6 v7 v8 σ

def fX10_sendRays_s23 (N : Nat) (k : Nat) (c23 : Int32 → Int32 → Int32 → qMem → Option qMem) (v1 : Int32) (v4 : Int32) (v5 : Int32) (σ : qMem) : Option qMem :=
  (if 2 < v5 then (some σ) else (fX10_sendRays_l39 N k c23 N v1 v4 v5 v1 v5 0 σ))
set_option maxRecDepth 20000 in
set_option maxHeartbeats 4000000 in
theorem aX10_sendRays_s23 (N : Nat) (k : Nat) (hk : iWater k) (c23 : Int32 → Int32 → Int32 → qMem → Option qMem) (hc23 : ∀ (v1 : Int32) (v4 : Int32) (v5 : Int32) (σ : qMem), qAt wC mX10_sendRays (ρv) 23 [(0, .ref k), (1, .int v1), (3, .ref 60), (4, .int v4), (5, .int v5)] [] σ (c23 v1 v4 v5 σ)) (v1 : Int32) (v4 : Int32) (v5 : Int32) (σ : qMem) : qAt wC mX10_sendRays (ρv) 23 [(0, .ref k), (1, .int v1), (3, .ref 60), (4, .int v4), (5, .int v5)] [] σ (fX10_sendRays_s23 N k c23 v1 v4 v5 σ) := by
  unfold fX10_sendRays_s23
  refine q_iload (i := 5) (x := v5) dX10_sendRays_23 4 rfl ?_
  refine q_iconst (v := 2) dX10_sendRays_25 (by decide) ?_
  refine q_icmp_gt (tgt := 134) dX10_sendRays_26 (by decide) ?_ ?_
  · exact q_vret (y := σ) dX10_sendRays_134 rfl rfl
  refine q_iload_n (i := 1) (x := v1) dX10_sendRays_29 rfl 1 rfl ?_
  refine q_istore (i := 6) (L' := [(6, .int v1), (0, .ref k), (1, .int v1), (3, .ref 60), (4, .int v4), (5, .int v5)]) dX10_sendRays_30 (Nat.le_of_ble_eq_true rfl) rfl ?_
  refine q_iload (i := 5) (x := v5) dX10_sendRays_32 5 rfl ?_
  refine q_istore (i := 7) (L' := [(7, .int v5), (6, .int v1), (0, .ref k), (1, .int v1), (3, .ref 60), (4, .int v4), (5, .int v5)]) dX10_sendRays_34 (Nat.le_of_ble_eq_true rfl) rfl ?_
  refine q_iconst (v := 0) dX10_sendRays_36 (by decide) ?_
  refine q_istore (i := 8) (L' := [(8, .int 0), (7, .int v5), (6, .int v1), (0, .ref k), (1, .int v1), (3, .ref 60), (4, .int v4), (5, .int v5)]) dX10_sendRays_37 (Nat.le_of_ble_eq_true rfl) rfl ?_
  exact q_sub [3, 4, 5, 6, 7, 2, 1, 0] rfl (aX10_sendRays_l39 N k hk c23 hc23 N v1 v4 v5 v1 v5 0 σ)
def fX10_sendRays_l23 (N : Nat) (k : Nat) : Nat → Int32 → Int32 → Int32 → qMem → Option qMem
  | 0 => fun _ _ _ _ => none
  | n + 1 => fun v1 v4 v5 σ => fX10_sendRays_s23 N k (fX10_sendRays_l23 N k n) v1 v4 v5 σ
theorem aX10_sendRays_l23 (N : Nat) (k : Nat) (hk : iWater k) : ∀ (n : Nat) (v1 : Int32) (v4 : Int32) (v5 : Int32) (σ : qMem), qAt wC mX10_sendRays (ρv) 23 [(0, .ref k), (1, .int v1), (3, .ref 60), (4, .int v4), (5, .int v5)] [] σ (fX10_sendRays_l23 N k n v1 v4 v5 σ) := by
  intro n
  induction n with
  | zero => intro v1 v4 v5 σ; exact q_none
  | succ n ih => intro v1 v4 v5 σ; exact aX10_sendRays_s23 N k hk (fX10_sendRays_l23 N k n) ih v1 v4 v5 σ

def fX10_sendRays (N : Nat) (k : Nat) (p1 : Int32) (p2 : Int32) (σ : qMem) : Option qMem :=
  ((fJ9_min_7cf53 p2 ((201 : Int32) - 1)).bind fun y1 => ((fJ7_fill_53178 N 60 201 0 σ).bind fun y2 => ((fX10_findBends N k y2).bind fun y3 => (fX10_sendRays_l23 N k N p1 y1 (-2) y3))))
set_option maxRecDepth 20000 in
set_option maxHeartbeats 4000000 in
theorem aX10_sendRays  (N : Nat) (k : Nat) (p1 : Int32) (p2 : Int32) (hk : iWater k) (σ : qMem) : qAt wC mX10_sendRays (ρv) 0 [(0, .ref k), (1, .int p1), (2, .int p2), (3, .ref 60)] [] σ (fX10_sendRays N k p1 p2 σ) := by
  unfold fX10_sendRays
  refine q_iload_n (i := 2) (x := p2) dX10_sendRays_0 rfl 2 rfl ?_
  refine q_aload_n (i := 3) (x := 60) dX10_sendRays_1 rfl 3 rfl ?_
  refine q_alen (t0 := 0) (v := 201) dX10_sendRays_2 zC_60 (fun _ => rfl) (by decide) ?_
  refine q_iconst (v := 1) dX10_sendRays_3 (by decide) ?_
  refine q_isub dX10_sendRays_4 ?_
  refine q_cSp mJ9_min_7cf53 [.int p2, .int ((201 : Int32) - 1)] (st := []) dX10_sendRays_5 (ssX10_28) ⟨Nat.le_of_ble_eq_true rfl, Nat.le_of_ble_eq_true rfl⟩ rfl rfl (Nat.le_of_ble_eq_true rfl) (kJ9_min_7cf53 p2 ((201 : Int32) - 1) σ) (fun y1 => ?_)
  refine q_istore (i := 4) (L' := [(4, .int y1), (0, .ref k), (1, .int p1), (2, .int p2), (3, .ref 60)]) dX10_sendRays_8 (Nat.le_of_ble_eq_true rfl) rfl ?_
  refine q_aload_n (i := 3) (x := 60) dX10_sendRays_10 rfl 4 rfl ?_
  refine q_iconst (v := 0) dX10_sendRays_11 (by decide) ?_
  refine q_cSv mJ7_fill_53178 [.ref 60, .int 0] (st := []) dX10_sendRays_12 (ssX10_22) ⟨Nat.le_of_ble_eq_true rfl, Nat.le_of_ble_eq_true rfl⟩ rfl rfl (Nat.le_of_ble_eq_true rfl) (kJ7_fill_53178 N 60 201 0 zC_60 σ) (fun y2 => ?_)
  refine q_aload_n (i := 0) (x := k) dX10_sendRays_15 rfl 1 rfl ?_
  refine q_cVv mX10_findBends [] (st := []) dX10_sendRays_16 (svX10_34) ⟨Nat.le_of_ble_eq_true rfl, Nat.le_of_ble_eq_true rfl⟩ hk.1 rfl rfl rfl (Nat.le_of_ble_eq_true rfl) (kX10_findBends N k hk y2) (fun y3 => ?_)
  refine q_bipush (v := (-2)) dX10_sendRays_19 (by decide) ?_
  refine q_istore (i := 5) (L' := [(5, .int (-2)), (4, .int y1), (0, .ref k), (1, .int p1), (2, .int p2), (3, .ref 60)]) dX10_sendRays_21 (Nat.le_of_ble_eq_true rfl) rfl ?_
  exact q_sub [2, 3, 5, 1, 0] rfl (aX10_sendRays_l23 N k hk N p1 y1 (-2) y3)
theorem kX10_sendRays  (N : Nat) (k : Nat) (p1 : Int32) (p2 : Int32) (hk : iWater k) (σ : qMem) : qMc wC mX10_sendRays (ρv) [.ref k, .int p1, .int p2, .ref 60] σ (fX10_sendRays N k p1 p2 σ) := qMc_of (moX10_sendRays) (Nat.le_of_ble_eq_true rfl) (aX10_sendRays N k p1 p2 hk σ)

theorem dX7_put_0 : decode cX7_put 0 = .ok (.iload_n 1, 1) := by decide +kernel
theorem dX7_put_1 : decode cX7_put 1 = .ok (.ifCond .lt 17, 3) := by decide +kernel
theorem dX7_put_4 : decode cX7_put 4 = .ok (.iload_n 1, 1) := by decide +kernel
theorem dX7_put_5 : decode cX7_put 5 = .ok (.sipush 200, 3) := by decide +kernel
theorem dX7_put_8 : decode cX7_put 8 = .ok (.if_icmp .gt 10, 3) := by decide +kernel
theorem dX7_put_11 : decode cX7_put 11 = .ok (.aload_n 0, 1) := by decide +kernel
theorem dX7_put_12 : decode cX7_put 12 = .ok (.getfield 9, 3) := by decide +kernel
theorem dX7_put_15 : decode cX7_put 15 = .ok (.iload_n 1, 1) := by decide +kernel
theorem dX7_put_16 : decode cX7_put 16 = .ok (.iload_n 2, 1) := by decide +kernel
theorem dX7_put_17 : decode cX7_put 17 = .ok (.bastore, 1) := by decide +kernel
theorem dX7_put_18 : decode cX7_put 18 = .ok (.return_, 1) := by decide +kernel

def fX7_put (k : Nat) (p1 : Int32) (p2 : Int32) (σ : qMem) : Option qMem :=
  (if p1 < 0 then (some σ) else (if 200 < p1 then (some σ) else (if ck p1 201 = true then (nmM (si σ (k + 1) p1.toNatClampNeg (vp_nar .boolean p2)) fun s1 => (some s1)) else none)))
set_option maxRecDepth 20000 in
set_option maxHeartbeats 4000000 in
theorem aX7_put  (k : Nat) (p1 : Int32) (p2 : Int32) (hk : iRings k) (σ : qMem) : qAt wC mX7_put (ρv) 0 [(0, .ref k), (1, .int p1), (2, .int p2)] [] σ (fX7_put k p1 p2 σ) := by
  unfold fX7_put
  refine q_iload_n (i := 1) (x := p1) dX7_put_0 rfl 1 rfl ?_
  refine q_if_lt (tgt := 18) dX7_put_1 (by decide) ?_ ?_
  · exact q_vret (y := σ) dX7_put_18 rfl rfl
  refine q_iload_n (i := 1) (x := p1) dX7_put_4 rfl 1 rfl ?_
  refine q_sipush (v := 200) dX7_put_5 (by decide) ?_
  refine q_icmp_gt (tgt := 18) dX7_put_8 (by decide) ?_ ?_
  · exact q_vret (y := σ) dX7_put_18 rfl rfl
  refine q_aload_n (i := 0) (x := k) dX7_put_11 rfl 0 rfl ?_
  refine q_getr (t := (k + 1)) dX7_put_12 foX7_9 hk.1 rfl ?_
  refine q_iload_n (i := 1) (x := p1) dX7_put_15 rfl 1 rfl ?_
  refine q_iload_n (i := 2) (x := p2) dX7_put_16 rfl 2 rfl ?_
  refine q_zast dX7_put_17 hk.2.1 ?_
  refine q_nmM (fun s1 => ?_)
  exact q_vret (y := s1) dX7_put_18 rfl rfl
theorem kX7_put  (k : Nat) (p1 : Int32) (p2 : Int32) (hk : iRings k) (σ : qMem) : qMc wC mX7_put (ρv) [.ref k, .int p1, .int p2] σ (fX7_put k p1 p2 σ) := qMc_of (moX7_put) (Nat.le_of_ble_eq_true rfl) (aX7_put k p1 p2 hk σ)

theorem dX7_settle_0 : decode cX7_settle 0 = .ok (.iconst 0, 1) := by decide +kernel
theorem dX7_settle_1 : decode cX7_settle 1 = .ok (.istore_n 1, 1) := by decide +kernel
theorem dX7_settle_2 : decode cX7_settle 2 = .ok (.sipush 200, 3) := by decide +kernel
theorem dX7_settle_5 : decode cX7_settle 5 = .ok (.istore_n 2, 1) := by decide +kernel
theorem dX7_settle_6 : decode cX7_settle 6 = .ok (.iload_n 2, 1) := by decide +kernel
theorem dX7_settle_7 : decode cX7_settle 7 = .ok (.sipush (-200), 3) := by decide +kernel
theorem dX7_settle_10 : decode cX7_settle 10 = .ok (.if_icmp .lt 42, 3) := by decide +kernel
theorem dX7_settle_13 : decode cX7_settle 13 = .ok (.iload_n 1, 1) := by decide +kernel
theorem dX7_settle_14 : decode cX7_settle 14 = .ok (.iconst 1, 1) := by decide +kernel
theorem dX7_settle_15 : decode cX7_settle 15 = .ok (.ishl, 1) := by decide +kernel
theorem dX7_settle_16 : decode cX7_settle 16 = .ok (.aload_n 0, 1) := by decide +kernel
theorem dX7_settle_17 : decode cX7_settle 17 = .ok (.getfield 9, 3) := by decide +kernel
theorem dX7_settle_20 : decode cX7_settle 20 = .ok (.iload_n 2, 1) := by decide +kernel
theorem dX7_settle_21 : decode cX7_settle 21 = .ok (.invokestatic 19, 3) := by decide +kernel
theorem dX7_settle_24 : decode cX7_settle 24 = .ok (.baload, 1) := by decide +kernel
theorem dX7_settle_25 : decode cX7_settle 25 = .ok (.ifCond .eq 7, 3) := by decide +kernel
theorem dX7_settle_28 : decode cX7_settle 28 = .ok (.iconst 1, 1) := by decide +kernel
theorem dX7_settle_29 : decode cX7_settle 29 = .ok (.goto 4, 3) := by decide +kernel
theorem dX7_settle_32 : decode cX7_settle 32 = .ok (.iconst 0, 1) := by decide +kernel
theorem dX7_settle_33 : decode cX7_settle 33 = .ok (.ior, 1) := by decide +kernel
theorem dX7_settle_34 : decode cX7_settle 34 = .ok (.istore_n 1, 1) := by decide +kernel
theorem dX7_settle_35 : decode cX7_settle 35 = .ok (.aload_n 0, 1) := by decide +kernel
theorem dX7_settle_36 : decode cX7_settle 36 = .ok (.getfield 15, 3) := by decide +kernel
theorem dX7_settle_39 : decode cX7_settle 39 = .ok (.iload_n 2, 1) := by decide +kernel
theorem dX7_settle_40 : decode cX7_settle 40 = .ok (.sipush 200, 3) := by decide +kernel
theorem dX7_settle_43 : decode cX7_settle 43 = .ok (.iadd, 1) := by decide +kernel
theorem dX7_settle_44 : decode cX7_settle 44 = .ok (.iload_n 1, 1) := by decide +kernel
theorem dX7_settle_45 : decode cX7_settle 45 = .ok (.iastore, 1) := by decide +kernel
theorem dX7_settle_46 : decode cX7_settle 46 = .ok (.iinc 2 (-1), 3) := by decide +kernel
theorem dX7_settle_49 : decode cX7_settle 49 = .ok (.goto (-43), 3) := by decide +kernel
theorem dX7_settle_52 : decode cX7_settle 52 = .ok (.return_, 1) := by decide +kernel
def fX7_settle_b33 (N : Nat) (k : Nat) (c6 : Int32 → Int32 → qMem → Option qMem) (v2 : Int32) (u0 : Int32) (u1 : Int32) (σ : qMem) : Option qMem :=
  (if ck (v2 + 200) 401 = true then (nmM (si σ (k + 2) (v2 + 200).toNatClampNeg (u0 ||| u1)) fun s2 => (c6 (u0 ||| u1) (v2 + (-1)) s2)) else none)
set_option maxRecDepth 20000 in
set_option maxHeartbeats 4000000 in
theorem aX7_settle_b33 (N : Nat) (k : Nat) (hk : iRings k) (c6 : Int32 → Int32 → qMem → Option qMem) (hc6 : ∀ (v1 : Int32) (v2 : Int32) (σ : qMem), qAt wC mX7_settle (ρv) 6 [(0, .ref k), (1, .int v1), (2, .int v2)] [] σ (c6 v1 v2 σ)) (v2 : Int32) (u0 : Int32) (u1 : Int32) (σ : qMem) : qAt wC mX7_settle (ρv) 33 [(0, .ref k), (2, .int v2)] [.int u1, .int u0] σ (fX7_settle_b33 N k c6 v2 u0 u1 σ) := by
  unfold fX7_settle_b33
  refine q_ior dX7_settle_33 ?_
  refine q_istore_n (i := 1) (L' := [(1, .int (u0 ||| u1)), (0, .ref k), (2, .int v2)]) dX7_settle_34 rfl (Nat.le_of_ble_eq_true rfl) rfl ?_
  refine q_aload_n (i := 0) (x := k) dX7_settle_35 rfl 1 rfl ?_
  refine q_getr (t := (k + 2)) dX7_settle_36 foX7_15 hk.1 rfl ?_
  refine q_iload_n (i := 2) (x := v2) dX7_settle_39 rfl 2 rfl ?_
  refine q_sipush (v := 200) dX7_settle_40 (by decide) ?_
  refine q_iadd dX7_settle_43 ?_
  refine q_iload_n (i := 1) (x := (u0 ||| u1)) dX7_settle_44 rfl 0 rfl ?_
  refine q_iast dX7_settle_45 hk.2.2 ?_
  refine q_nmM (fun s2 => ?_)
  refine q_iinc (i := 2) (x := v2) (v := (v2 + (-1))) (L' := [(2, .int (v2 + (-1))), (1, .int (u0 ||| u1)), (0, .ref k)]) dX7_settle_46 2 rfl (q_cst v2 (by decide)) (Nat.le_of_ble_eq_true rfl) rfl ?_
  refine q_goto (tgt := 6) dX7_settle_49 (by decide) ?_
  exact q_sub [2, 1, 0] rfl (hc6 (u0 ||| u1) (v2 + (-1)) s2)

def fX7_settle_s6 (N : Nat) (k : Nat) (c6 : Int32 → Int32 → qMem → Option qMem) (v1 : Int32) (v2 : Int32) (σ : qMem) : Option qMem :=
  (if v2 < (-200) then (some σ) else ((fJ9_abs_0f7a4 v2).bind fun y1 => (if ck y1 201 = true then (if (gi σ (k + 1) y1.toNatClampNeg) = 0 then (fX7_settle_b33 N k c6 v2 (v1 <<< (1 &&& 31)) 0 σ) else (fX7_settle_b33 N k c6 v2 (v1 <<< (1 &&& 31)) 1 σ)) else none)))
set_option maxRecDepth 20000 in
set_option maxHeartbeats 4000000 in
theorem aX7_settle_s6 (N : Nat) (k : Nat) (hk : iRings k) (c6 : Int32 → Int32 → qMem → Option qMem) (hc6 : ∀ (v1 : Int32) (v2 : Int32) (σ : qMem), qAt wC mX7_settle (ρv) 6 [(0, .ref k), (1, .int v1), (2, .int v2)] [] σ (c6 v1 v2 σ)) (v1 : Int32) (v2 : Int32) (σ : qMem) : qAt wC mX7_settle (ρv) 6 [(0, .ref k), (1, .int v1), (2, .int v2)] [] σ (fX7_settle_s6 N k c6 v1 v2 σ) := by
  unfold fX7_settle_s6
  refine q_iload_n (i := 2) (x := v2) dX7_settle_6 rfl 2 rfl ?_
  refine q_sipush (v := (-200)) dX7_settle_7 (by decide) ?_
  refine q_icmp_lt (tgt := 52) dX7_settle_10 (by decide) ?_ ?_
  · exact q_vret (y := σ) dX7_settle_52 rfl rfl
  refine q_iload_n (i := 1) (x := v1) dX7_settle_13 rfl 1 rfl ?_
  refine q_iconst (v := 1) dX7_settle_14 (by decide) ?_
  refine q_ishl dX7_settle_15 ?_
  refine q_aload_n (i := 0) (x := k) dX7_settle_16 rfl 0 rfl ?_
  refine q_getr (t := (k + 1)) dX7_settle_17 foX7_9 hk.1 rfl ?_
  refine q_iload_n (i := 2) (x := v2) dX7_settle_20 rfl 2 rfl ?_
  refine q_cSp mJ9_abs_0f7a4 [.int v2] (st := [.ref (k + 1), .int (v1 <<< (1 &&& 31))]) dX7_settle_21 (ssX7_19) ⟨Nat.le_of_ble_eq_true rfl, Nat.le_of_ble_eq_true rfl⟩ rfl rfl (Nat.le_of_ble_eq_true rfl) (kJ9_abs_0f7a4 v2 σ) (fun y1 => ?_)
  refine q_zald dX7_settle_24 hk.2.1 ?_
  refine q_if_eq (tgt := 32) dX7_settle_25 (by decide) ?_ ?_
  · refine q_iconst (v := 0) dX7_settle_32 (by decide) ?_
    exact q_sub [0, 2] rfl (aX7_settle_b33 N k hk c6 hc6 v2 (v1 <<< (1 &&& 31)) 0 σ)
  refine q_iconst (v := 1) dX7_settle_28 (by decide) ?_
  refine q_goto (tgt := 33) dX7_settle_29 (by decide) ?_
  exact q_sub [0, 2] rfl (aX7_settle_b33 N k hk c6 hc6 v2 (v1 <<< (1 &&& 31)) 1 σ)
def fX7_settle_l6 (N : Nat) (k : Nat) : Nat → Int32 → Int32 → qMem → Option qMem
  | 0 => fun _ _ _ => none
  | n + 1 => fun v1 v2 σ => fX7_settle_s6 N k (fX7_settle_l6 N k n) v1 v2 σ
theorem aX7_settle_l6 (N : Nat) (k : Nat) (hk : iRings k) : ∀ (n : Nat) (v1 : Int32) (v2 : Int32) (σ : qMem), qAt wC mX7_settle (ρv) 6 [(0, .ref k), (1, .int v1), (2, .int v2)] [] σ (fX7_settle_l6 N k n v1 v2 σ) := by
  intro n
  induction n with
  | zero => intro v1 v2 σ; exact q_none
  | succ n ih => intro v1 v2 σ; exact aX7_settle_s6 N k hk (fX7_settle_l6 N k n) ih v1 v2 σ

def fX7_settle (N : Nat) (k : Nat) (σ : qMem) : Option qMem :=
  (fX7_settle_l6 N k N 0 200 σ)
set_option maxRecDepth 20000 in
set_option maxHeartbeats 4000000 in
theorem aX7_settle  (N : Nat) (k : Nat) (hk : iRings k) (σ : qMem) : qAt wC mX7_settle (ρv) 0 [(0, .ref k)] [] σ (fX7_settle N k σ) := by
  unfold fX7_settle
  refine q_iconst (v := 0) dX7_settle_0 (by decide) ?_
  refine q_istore_n (i := 1) (L' := [(1, .int 0), (0, .ref k)]) dX7_settle_1 rfl (Nat.le_of_ble_eq_true rfl) rfl ?_
  refine q_sipush (v := 200) dX7_settle_2 (by decide) ?_
  refine q_istore_n (i := 2) (L' := [(2, .int 200), (1, .int 0), (0, .ref k)]) dX7_settle_5 rfl (Nat.le_of_ble_eq_true rfl) rfl ?_
  exact q_sub [2, 1, 0] rfl (aX7_settle_l6 N k hk N 0 200 σ)
theorem kX7_settle  (N : Nat) (k : Nat) (hk : iRings k) (σ : qMem) : qMc wC mX7_settle (ρv) [.ref k] σ (fX7_settle N k σ) := qMc_of (moX7_settle) (Nat.le_of_ble_eq_true rfl) (aX7_settle N k hk σ)

theorem dX3_tune_0 : decode cX3_tune 0 = .ok (.aload_n 0, 1) := by decide +kernel
theorem dX3_tune_1 : decode cX3_tune 1 = .ok (.getfield 74, 3) := by decide +kernel
theorem dX3_tune_4 : decode cX3_tune 4 = .ok (.ifCond .eq 4, 3) := by decide +kernel
theorem dX3_tune_7 : decode cX3_tune 7 = .ok (.return_, 1) := by decide +kernel
theorem dX3_tune_8 : decode cX3_tune 8 = .ok (.aload_n 0, 1) := by decide +kernel
theorem dX3_tune_9 : decode cX3_tune 9 = .ok (.getfield 80, 3) := by decide +kernel
theorem dX3_tune_12 : decode cX3_tune 12 = .ok (.getfield 100, 3) := by decide +kernel
theorem dX3_tune_15 : decode cX3_tune 15 = .ok (.aload_n 0, 1) := by decide +kernel
theorem dX3_tune_16 : decode cX3_tune 16 = .ok (.getfield 80, 3) := by decide +kernel
theorem dX3_tune_19 : decode cX3_tune 19 = .ok (.getfield 104, 3) := by decide +kernel
theorem dX3_tune_22 : decode cX3_tune 22 = .ok (.iconst 3, 1) := by decide +kernel
theorem dX3_tune_23 : decode cX3_tune 23 = .ok (.iaload, 1) := by decide +kernel
theorem dX3_tune_24 : decode cX3_tune 24 = .ok (.sipush 200, 3) := by decide +kernel
theorem dX3_tune_27 : decode cX3_tune 27 = .ok (.aload_n 0, 1) := by decide +kernel
theorem dX3_tune_28 : decode cX3_tune 28 = .ok (.getfield 31, 3) := by decide +kernel
theorem dX3_tune_31 : decode cX3_tune 31 = .ok (.invokevirtual 107, 3) := by decide +kernel
theorem dX3_tune_34 : decode cX3_tune 34 = .ok (.iconst 0, 1) := by decide +kernel
theorem dX3_tune_35 : decode cX3_tune 35 = .ok (.istore_n 1, 1) := by decide +kernel
theorem dX3_tune_36 : decode cX3_tune 36 = .ok (.iload_n 1, 1) := by decide +kernel
theorem dX3_tune_37 : decode cX3_tune 37 = .ok (.iconst 2, 1) := by decide +kernel
theorem dX3_tune_38 : decode cX3_tune 38 = .ok (.if_icmp .ge 64, 3) := by decide +kernel
theorem dX3_tune_41 : decode cX3_tune 41 = .ok (.iconst 0, 1) := by decide +kernel
theorem dX3_tune_42 : decode cX3_tune 42 = .ok (.istore_n 2, 1) := by decide +kernel
theorem dX3_tune_43 : decode cX3_tune 43 = .ok (.iload_n 2, 1) := by decide +kernel
theorem dX3_tune_44 : decode cX3_tune 44 = .ok (.sipush 200, 3) := by decide +kernel
theorem dX3_tune_47 : decode cX3_tune 47 = .ok (.if_icmp .gt 40, 3) := by decide +kernel
theorem dX3_tune_50 : decode cX3_tune 50 = .ok (.aload_n 0, 1) := by decide +kernel
theorem dX3_tune_51 : decode cX3_tune 51 = .ok (.getfield 23, 3) := by decide +kernel
theorem dX3_tune_54 : decode cX3_tune 54 = .ok (.iload_n 1, 1) := by decide +kernel
theorem dX3_tune_55 : decode cX3_tune 55 = .ok (.aaload, 1) := by decide +kernel
theorem dX3_tune_56 : decode cX3_tune 56 = .ok (.iload_n 2, 1) := by decide +kernel
theorem dX3_tune_57 : decode cX3_tune 57 = .ok (.aload_n 0, 1) := by decide +kernel
theorem dX3_tune_58 : decode cX3_tune 58 = .ok (.getfield 31, 3) := by decide +kernel
theorem dX3_tune_61 : decode cX3_tune 61 = .ok (.iload_n 2, 1) := by decide +kernel
theorem dX3_tune_62 : decode cX3_tune 62 = .ok (.iaload, 1) := by decide +kernel
theorem dX3_tune_63 : decode cX3_tune 63 = .ok (.aload_n 0, 1) := by decide +kernel
theorem dX3_tune_64 : decode cX3_tune 64 = .ok (.getfield 80, 3) := by decide +kernel
theorem dX3_tune_67 : decode cX3_tune 67 = .ok (.getfield 113, 3) := by decide +kernel
theorem dX3_tune_70 : decode cX3_tune 70 = .ok (.iload_n 1, 1) := by decide +kernel
theorem dX3_tune_71 : decode cX3_tune 71 = .ok (.aaload, 1) := by decide +kernel
theorem dX3_tune_72 : decode cX3_tune 72 = .ok (.getfield 117, 3) := by decide +kernel
theorem dX3_tune_75 : decode cX3_tune 75 = .ok (.invokestatic 122, 3) := by decide +kernel
theorem dX3_tune_78 : decode cX3_tune 78 = .ok (.invokevirtual 126, 3) := by decide +kernel
theorem dX3_tune_81 : decode cX3_tune 81 = .ok (.iinc 2 1, 3) := by decide +kernel
theorem dX3_tune_84 : decode cX3_tune 84 = .ok (.goto (-41), 3) := by decide +kernel
theorem dX3_tune_87 : decode cX3_tune 87 = .ok (.aload_n 0, 1) := by decide +kernel
theorem dX3_tune_88 : decode cX3_tune 88 = .ok (.getfield 23, 3) := by decide +kernel
theorem dX3_tune_91 : decode cX3_tune 91 = .ok (.iload_n 1, 1) := by decide +kernel
theorem dX3_tune_92 : decode cX3_tune 92 = .ok (.aaload, 1) := by decide +kernel
theorem dX3_tune_93 : decode cX3_tune 93 = .ok (.invokevirtual 130, 3) := by decide +kernel
theorem dX3_tune_96 : decode cX3_tune 96 = .ok (.iinc 1 1, 3) := by decide +kernel
theorem dX3_tune_99 : decode cX3_tune 99 = .ok (.goto (-63), 3) := by decide +kernel
theorem dX3_tune_102 : decode cX3_tune 102 = .ok (.aload_n 0, 1) := by decide +kernel
theorem dX3_tune_103 : decode cX3_tune 103 = .ok (.iconst 1, 1) := by decide +kernel
theorem dX3_tune_104 : decode cX3_tune 104 = .ok (.putfield 74, 3) := by decide +kernel
theorem dX3_tune_107 : decode cX3_tune 107 = .ok (.return_, 1) := by decide +kernel
def fX3_tune_s43 (N : Nat) (c36 : Int32 → qMem → Option qMem) (c43 : Int32 → Int32 → qMem → Option qMem) (v1 : Int32) (v2 : Int32) (σ : qMem) : Option qMem :=
  (if 200 < v2 then (if ck v1 2 = true then ((fX7_settle N (51 + 3 * v1.toNatClampNeg) σ).bind fun y4 => (c36 (v1 + 1) y4)) else none) else (if ck v1 2 = true then (if ck v2 201 = true then (if ck v1 2 = true then ((fX10_isNear (gi σ 60 v2.toNatClampNeg) (gi σ (3 + 6 * v1.toNatClampNeg) 4)).bind fun y7 => ((fX7_put (51 + 3 * v1.toNatClampNeg) v2 y7 σ).bind fun y8 => (c43 v1 (v2 + 1) y8))) else none) else none) else none))
set_option maxRecDepth 20000 in
set_option maxHeartbeats 4000000 in
theorem aX3_tune_s43 (N : Nat) (c36 : Int32 → qMem → Option qMem) (hc36 : ∀ (v1 : Int32) (σ : qMem), qAt wC mX3_tune (ρv) 36 [(0, .ref 44), (1, .int v1)] [] σ (c36 v1 σ)) (c43 : Int32 → Int32 → qMem → Option qMem) (hc43 : ∀ (v1 : Int32) (v2 : Int32) (σ : qMem), qAt wC mX3_tune (ρv) 43 [(0, .ref 44), (1, .int v1), (2, .int v2)] [] σ (c43 v1 v2 σ)) (v1 : Int32) (v2 : Int32) (σ : qMem) : qAt wC mX3_tune (ρv) 43 [(0, .ref 44), (1, .int v1), (2, .int v2)] [] σ (fX3_tune_s43 N c36 c43 v1 v2 σ) := by
  unfold fX3_tune_s43
  refine q_iload_n (i := 2) (x := v2) dX3_tune_43 rfl 2 rfl ?_
  refine q_sipush (v := 200) dX3_tune_44 (by decide) ?_
  refine q_icmp_gt (tgt := 87) dX3_tune_47 (by decide) ?_ ?_
  · refine q_aload_n (i := 0) (x := 44) dX3_tune_87 rfl 0 rfl ?_
    refine q_getr (t := 50) dX3_tune_88 foX3_23 zC_44 rfl ?_
    refine q_iload_n (i := 1) (x := v1) dX3_tune_91 rfl 1 rfl ?_
    refine q_aald (t0 := 6) (fun j => 51 + 3 * j) dX3_tune_92 zC_50 (fun _ => rfl) (by decide) (fun hc_3 => ?_)
    refine q_cVv mX7_settle [] (st := []) dX3_tune_93 (svX3_130) ⟨Nat.le_of_ble_eq_true rfl, Nat.le_of_ble_eq_true rfl⟩ (xRings hc_3).1 rfl rfl rfl (Nat.le_of_ble_eq_true rfl) (kX7_settle N (51 + 3 * v1.toNatClampNeg) (xRings hc_3) σ) (fun y4 => ?_)
    refine q_iinc (i := 1) (x := v1) (v := (v1 + 1)) (L' := [(1, .int (v1 + 1)), (0, .ref 44), (2, .int v2)]) dX3_tune_96 1 rfl (q_cst v1 (by decide)) (Nat.le_of_ble_eq_true rfl) rfl ?_
    refine q_goto (tgt := 36) dX3_tune_99 (by decide) ?_
    exact q_sub [1, 0] rfl (hc36 (v1 + 1) y4)
  refine q_aload_n (i := 0) (x := 44) dX3_tune_50 rfl 0 rfl ?_
  refine q_getr (t := 50) dX3_tune_51 foX3_23 zC_44 rfl ?_
  refine q_iload_n (i := 1) (x := v1) dX3_tune_54 rfl 1 rfl ?_
  refine q_aald (t0 := 6) (fun j => 51 + 3 * j) dX3_tune_55 zC_50 (fun _ => rfl) (by decide) (fun hc_5 => ?_)
  refine q_iload_n (i := 2) (x := v2) dX3_tune_56 rfl 2 rfl ?_
  refine q_aload_n (i := 0) (x := 44) dX3_tune_57 rfl 0 rfl ?_
  refine q_getr (t := 60) dX3_tune_58 foX3_31 zC_44 rfl ?_
  refine q_iload_n (i := 2) (x := v2) dX3_tune_61 rfl 2 rfl ?_
  refine q_iald dX3_tune_62 zC_60 ?_
  refine q_aload_n (i := 0) (x := 44) dX3_tune_63 rfl 0 rfl ?_
  refine q_getr (t := 1) dX3_tune_64 foX3_80 zC_44 rfl ?_
  refine q_getr (t := 2) dX3_tune_67 foX3_113 zC_1 rfl ?_
  refine q_iload_n (i := 1) (x := v1) dX3_tune_70 rfl 1 rfl ?_
  refine q_aald (t0 := 4) (fun j => 3 + 6 * j) dX3_tune_71 zC_2 (fun _ => rfl) (by decide) (fun hc_6 => ?_)
  refine q_geti dX3_tune_72 foX3_117 (xBoat hc_6).1 rfl ?_
  refine q_cSp mX10_isNear [.int (gi σ 60 v2.toNatClampNeg), .int (gi σ (3 + 6 * v1.toNatClampNeg) 4)] (st := [.int v2, .ref (51 + 3 * v1.toNatClampNeg)]) dX3_tune_75 (ssX3_122) ⟨Nat.le_of_ble_eq_true rfl, Nat.le_of_ble_eq_true rfl⟩ rfl rfl (Nat.le_of_ble_eq_true rfl) (kX10_isNear (gi σ 60 v2.toNatClampNeg) (gi σ (3 + 6 * v1.toNatClampNeg) 4) σ) (fun y7 => ?_)
  refine q_cVv mX7_put [.int v2, .int y7] (st := []) dX3_tune_78 (svX3_126) ⟨Nat.le_of_ble_eq_true rfl, Nat.le_of_ble_eq_true rfl⟩ (xRings hc_5).1 rfl rfl rfl (Nat.le_of_ble_eq_true rfl) (kX7_put (51 + 3 * v1.toNatClampNeg) v2 y7 (xRings hc_5) σ) (fun y8 => ?_)
  refine q_iinc (i := 2) (x := v2) (v := (v2 + 1)) (L' := [(2, .int (v2 + 1)), (0, .ref 44), (1, .int v1)]) dX3_tune_81 2 rfl (q_cst v2 (by decide)) (Nat.le_of_ble_eq_true rfl) rfl ?_
  refine q_goto (tgt := 43) dX3_tune_84 (by decide) ?_
  exact q_sub [1, 2, 0] rfl (hc43 v1 (v2 + 1) y8)
def fX3_tune_l43 (N : Nat) (c36 : Int32 → qMem → Option qMem) : Nat → Int32 → Int32 → qMem → Option qMem
  | 0 => fun _ _ _ => none
  | n + 1 => fun v1 v2 σ => fX3_tune_s43 N c36 (fX3_tune_l43 N c36 n) v1 v2 σ
theorem aX3_tune_l43 (N : Nat) (c36 : Int32 → qMem → Option qMem) (hc36 : ∀ (v1 : Int32) (σ : qMem), qAt wC mX3_tune (ρv) 36 [(0, .ref 44), (1, .int v1)] [] σ (c36 v1 σ)) : ∀ (n : Nat) (v1 : Int32) (v2 : Int32) (σ : qMem), qAt wC mX3_tune (ρv) 43 [(0, .ref 44), (1, .int v1), (2, .int v2)] [] σ (fX3_tune_l43 N c36 n v1 v2 σ) := by
  intro n
  induction n with
  | zero => intro v1 v2 σ; exact q_none
  | succ n ih => intro v1 v2 σ; exact aX3_tune_s43 N c36 hc36 (fX3_tune_l43 N c36 n) ih v1 v2 σ

def fX3_tune_s36 (N : Nat) (c36 : Int32 → qMem → Option qMem) (v1 : Int32) (σ : qMem) : Option qMem :=
  (if 2 ≤ v1 then (nmM (si σ 44 16 1) fun s2 => (some s2)) else (fX3_tune_l43 N c36 N v1 0 σ))
set_option maxRecDepth 20000 in
set_option maxHeartbeats 4000000 in
theorem aX3_tune_s36 (N : Nat) (c36 : Int32 → qMem → Option qMem) (hc36 : ∀ (v1 : Int32) (σ : qMem), qAt wC mX3_tune (ρv) 36 [(0, .ref 44), (1, .int v1)] [] σ (c36 v1 σ)) (v1 : Int32) (σ : qMem) : qAt wC mX3_tune (ρv) 36 [(0, .ref 44), (1, .int v1)] [] σ (fX3_tune_s36 N c36 v1 σ) := by
  unfold fX3_tune_s36
  refine q_iload_n (i := 1) (x := v1) dX3_tune_36 rfl 1 rfl ?_
  refine q_iconst (v := 2) dX3_tune_37 (by decide) ?_
  refine q_icmp_ge (tgt := 102) dX3_tune_38 (by decide) ?_ ?_
  · refine q_aload_n (i := 0) (x := 44) dX3_tune_102 rfl 0 rfl ?_
    refine q_iconst (v := 1) dX3_tune_103 (by decide) ?_
    refine q_putz dX3_tune_104 foX3_74 fwX3_16 zC_44 rfl (by decide) ?_
    refine q_nmM (fun s2 => ?_)
    exact q_vret (y := s2) dX3_tune_107 rfl rfl
  refine q_iconst (v := 0) dX3_tune_41 (by decide) ?_
  refine q_istore_n (i := 2) (L' := [(2, .int 0), (0, .ref 44), (1, .int v1)]) dX3_tune_42 rfl (Nat.le_of_ble_eq_true rfl) rfl ?_
  exact q_sub [1, 2, 0] rfl (aX3_tune_l43 N c36 hc36 N v1 0 σ)
def fX3_tune_l36 (N : Nat) : Nat → Int32 → qMem → Option qMem
  | 0 => fun _ _ => none
  | n + 1 => fun v1 σ => fX3_tune_s36 N (fX3_tune_l36 N n) v1 σ
theorem aX3_tune_l36 (N : Nat) : ∀ (n : Nat) (v1 : Int32) (σ : qMem), qAt wC mX3_tune (ρv) 36 [(0, .ref 44), (1, .int v1)] [] σ (fX3_tune_l36 N n v1 σ) := by
  intro n
  induction n with
  | zero => intro v1 σ; exact q_none
  | succ n ih => intro v1 σ; exact aX3_tune_s36 N (fX3_tune_l36 N n) ih v1 σ

def fX3_tune (N : Nat)  (σ : qMem) : Option qMem :=
  (if (gi σ 44 16) = 0 then (if ck 3 6 = true then ((fX10_sendRays N 15 (gi σ 18 (3 : Int32).toNatClampNeg) 200 σ).bind fun y1 => (fX3_tune_l36 N N 0 y1)) else none) else (some σ))
set_option maxRecDepth 20000 in
set_option maxHeartbeats 4000000 in
theorem aX3_tune  (N : Nat)   (σ : qMem) : qAt wC mX3_tune (ρv) 0 [(0, .ref 44)] [] σ (fX3_tune N σ) := by
  unfold fX3_tune
  refine q_aload_n (i := 0) (x := 44) dX3_tune_0 rfl 0 rfl ?_
  refine q_geti dX3_tune_1 foX3_74 zC_44 rfl ?_
  refine q_if_eq (tgt := 8) dX3_tune_4 (by decide) ?_ ?_
  · refine q_aload_n (i := 0) (x := 44) dX3_tune_8 rfl 0 rfl ?_
    refine q_getr (t := 1) dX3_tune_9 foX3_80 zC_44 rfl ?_
    refine q_getr (t := 15) dX3_tune_12 foX3_100 zC_1 rfl ?_
    refine q_aload_n (i := 0) (x := 44) dX3_tune_15 rfl 0 rfl ?_
    refine q_getr (t := 1) dX3_tune_16 foX3_80 zC_44 rfl ?_
    refine q_getr (t := 18) dX3_tune_19 foX3_104 zC_1 rfl ?_
    refine q_iconst (v := 3) dX3_tune_22 (by decide) ?_
    refine q_iald dX3_tune_23 zC_18 ?_
    refine q_sipush (v := 200) dX3_tune_24 (by decide) ?_
    refine q_aload_n (i := 0) (x := 44) dX3_tune_27 rfl 0 rfl ?_
    refine q_getr (t := 60) dX3_tune_28 foX3_31 zC_44 rfl ?_
    refine q_cVv mX10_sendRays [.int (gi σ 18 (3 : Int32).toNatClampNeg), .int 200, .ref 60] (st := []) dX3_tune_31 (svX3_107) ⟨Nat.le_of_ble_eq_true rfl, Nat.le_of_ble_eq_true rfl⟩ zC_15 rfl rfl rfl (Nat.le_of_ble_eq_true rfl) (kX10_sendRays N 15 (gi σ 18 (3 : Int32).toNatClampNeg) 200 pC_15 σ) (fun y1 => ?_)
    refine q_iconst (v := 0) dX3_tune_34 (by decide) ?_
    refine q_istore_n (i := 1) (L' := [(1, .int 0), (0, .ref 44)]) dX3_tune_35 rfl (Nat.le_of_ble_eq_true rfl) rfl ?_
    exact q_sub [1, 0] rfl (aX3_tune_l36 N N 0 y1)
  exact q_vret (y := σ) dX3_tune_7 rfl rfl
theorem kX3_tune  (N : Nat)   (σ : qMem) : qMc wC mX3_tune (ρv) [.ref 44] σ (fX3_tune N σ) := qMc_of (moX3_tune) (Nat.le_of_ble_eq_true rfl) (aX3_tune N  σ)

theorem dX3_eastOf_0 : decode cX3_eastOf 0 = .ok (.iload_n 0, 1) := by decide +kernel
theorem dX3_eastOf_1 : decode cX3_eastOf 1 = .ok (.bipush 49, 2) := by decide +kernel
theorem dX3_eastOf_3 : decode cX3_eastOf 3 = .ok (.idiv, 1) := by decide +kernel
theorem dX3_eastOf_4 : decode cX3_eastOf 4 = .ok (.iload_n 0, 1) := by decide +kernel
theorem dX3_eastOf_5 : decode cX3_eastOf 5 = .ok (.bipush 7, 2) := by decide +kernel
theorem dX3_eastOf_7 : decode cX3_eastOf 7 = .ok (.idiv, 1) := by decide +kernel
theorem dX3_eastOf_8 : decode cX3_eastOf 8 = .ok (.bipush 7, 2) := by decide +kernel
theorem dX3_eastOf_10 : decode cX3_eastOf 10 = .ok (.irem, 1) := by decide +kernel
theorem dX3_eastOf_11 : decode cX3_eastOf 11 = .ok (.iconst 3, 1) := by decide +kernel
theorem dX3_eastOf_12 : decode cX3_eastOf 12 = .ok (.isub, 1) := by decide +kernel
theorem dX3_eastOf_13 : decode cX3_eastOf 13 = .ok (.iload_n 1, 1) := by decide +kernel
theorem dX3_eastOf_14 : decode cX3_eastOf 14 = .ok (.imul, 1) := by decide +kernel
theorem dX3_eastOf_15 : decode cX3_eastOf 15 = .ok (.iadd, 1) := by decide +kernel
theorem dX3_eastOf_16 : decode cX3_eastOf 16 = .ok (.ireturn, 1) := by decide +kernel

def fX3_eastOf (p0 : Int32) (p1 : Int32) : Option Int32 :=
  (some ((p0 / 49) + (((irm (p0 / 7) 7) - 3) * p1)))
set_option maxRecDepth 20000 in
set_option maxHeartbeats 4000000 in
theorem aX3_eastOf  (p0 : Int32) (p1 : Int32)  (σ : qMem) : qAt wC mX3_eastOf (ρp σ) 0 [(0, .int p0), (1, .int p1)] [] σ (fX3_eastOf p0 p1) := by
  unfold fX3_eastOf
  refine q_iload_n (i := 0) (x := p0) dX3_eastOf_0 rfl 0 rfl ?_
  refine q_bipush (v := 49) dX3_eastOf_1 (by decide) ?_
  refine q_idiv dX3_eastOf_3 (by decide) ?_
  refine q_iload_n (i := 0) (x := p0) dX3_eastOf_4 rfl 0 rfl ?_
  refine q_bipush (v := 7) dX3_eastOf_5 (by decide) ?_
  refine q_idiv dX3_eastOf_7 (by decide) ?_
  refine q_bipush (v := 7) dX3_eastOf_8 (by decide) ?_
  refine q_irem dX3_eastOf_10 (by decide) ?_
  refine q_iconst (v := 3) dX3_eastOf_11 (by decide) ?_
  refine q_isub dX3_eastOf_12 ?_
  refine q_iload_n (i := 1) (x := p1) dX3_eastOf_13 rfl 1 rfl ?_
  refine q_imul dX3_eastOf_14 ?_
  refine q_iadd dX3_eastOf_15 ?_
  exact q_ireti (y := ((p0 / 49) + (((irm (p0 / 7) 7) - 3) * p1))) dX3_eastOf_16 rfl rfl
theorem kX3_eastOf  (p0 : Int32) (p1 : Int32)  (σ : qMem) : qMc wC mX3_eastOf (ρp σ) [.int p0, .int p1] σ (fX3_eastOf p0 p1) := qMc_of (moX3_eastOf) (Nat.le_of_ble_eq_true rfl) (aX3_eastOf p0 p1  σ)

theorem dX3_lowOf_0 : decode cX3_lowOf 0 = .ok (.iload_n 0, 1) := by decide +kernel
theorem dX3_lowOf_1 : decode cX3_lowOf 1 = .ok (.bipush 7, 2) := by decide +kernel
theorem dX3_lowOf_3 : decode cX3_lowOf 3 = .ok (.irem, 1) := by decide +kernel
theorem dX3_lowOf_4 : decode cX3_lowOf 4 = .ok (.iconst 3, 1) := by decide +kernel
theorem dX3_lowOf_5 : decode cX3_lowOf 5 = .ok (.isub, 1) := by decide +kernel
theorem dX3_lowOf_6 : decode cX3_lowOf 6 = .ok (.iload_n 1, 1) := by decide +kernel
theorem dX3_lowOf_7 : decode cX3_lowOf 7 = .ok (.imul, 1) := by decide +kernel
theorem dX3_lowOf_8 : decode cX3_lowOf 8 = .ok (.ireturn, 1) := by decide +kernel

def fX3_lowOf (p0 : Int32) (p1 : Int32) : Option Int32 :=
  (some (((irm p0 7) - 3) * p1))
set_option maxRecDepth 20000 in
set_option maxHeartbeats 4000000 in
theorem aX3_lowOf  (p0 : Int32) (p1 : Int32)  (σ : qMem) : qAt wC mX3_lowOf (ρp σ) 0 [(0, .int p0), (1, .int p1)] [] σ (fX3_lowOf p0 p1) := by
  unfold fX3_lowOf
  refine q_iload_n (i := 0) (x := p0) dX3_lowOf_0 rfl 0 rfl ?_
  refine q_bipush (v := 7) dX3_lowOf_1 (by decide) ?_
  refine q_irem dX3_lowOf_3 (by decide) ?_
  refine q_iconst (v := 3) dX3_lowOf_4 (by decide) ?_
  refine q_isub dX3_lowOf_5 ?_
  refine q_iload_n (i := 1) (x := p1) dX3_lowOf_6 rfl 1 rfl ?_
  refine q_imul dX3_lowOf_7 ?_
  exact q_ireti (y := (((irm p0 7) - 3) * p1)) dX3_lowOf_8 rfl rfl
theorem kX3_lowOf  (p0 : Int32) (p1 : Int32)  (σ : qMem) : qMc wC mX3_lowOf (ρp σ) [.int p0, .int p1] σ (fX3_lowOf p0 p1) := qMc_of (moX3_lowOf) (Nat.le_of_ble_eq_true rfl) (aX3_lowOf p0 p1  σ)

theorem dX7_column_0 : decode cX7_column 0 = .ok (.iload_n 1, 1) := by decide +kernel
theorem dX7_column_1 : decode cX7_column 1 = .ok (.invokestatic 19, 3) := by decide +kernel
theorem dX7_column_4 : decode cX7_column 4 = .ok (.istore_n 3, 1) := by decide +kernel
theorem dX7_column_5 : decode cX7_column 5 = .ok (.iload_n 3, 1) := by decide +kernel
theorem dX7_column_6 : decode cX7_column 6 = .ok (.sipush 200, 3) := by decide +kernel
theorem dX7_column_9 : decode cX7_column 9 = .ok (.if_icmp .gt 17, 3) := by decide +kernel
theorem dX7_column_12 : decode cX7_column 12 = .ok (.iload_n 2, 1) := by decide +kernel
theorem dX7_column_13 : decode cX7_column 13 = .ok (.sipush (-200), 3) := by decide +kernel
theorem dX7_column_16 : decode cX7_column 16 = .ok (.if_icmp .lt 10, 3) := by decide +kernel
theorem dX7_column_19 : decode cX7_column 19 = .ok (.iload_n 2, 1) := by decide +kernel
theorem dX7_column_20 : decode cX7_column 20 = .ok (.sipush 200, 3) := by decide +kernel
theorem dX7_column_23 : decode cX7_column 23 = .ok (.if_icmp .le 5, 3) := by decide +kernel
theorem dX7_column_26 : decode cX7_column 26 = .ok (.iconst 0, 1) := by decide +kernel
theorem dX7_column_27 : decode cX7_column 27 = .ok (.ireturn, 1) := by decide +kernel
theorem dX7_column_28 : decode cX7_column 28 = .ok (.iload_n 3, 1) := by decide +kernel
theorem dX7_column_29 : decode cX7_column 29 = .ok (.ineg, 1) := by decide +kernel
theorem dX7_column_30 : decode cX7_column 30 = .ok (.iload_n 2, 1) := by decide +kernel
theorem dX7_column_31 : decode cX7_column 31 = .ok (.isub, 1) := by decide +kernel
theorem dX7_column_32 : decode cX7_column 32 = .ok (.iload_n 3, 1) := by decide +kernel
theorem dX7_column_33 : decode cX7_column 33 = .ok (.iload_n 2, 1) := by decide +kernel
theorem dX7_column_34 : decode cX7_column 34 = .ok (.isub, 1) := by decide +kernel
theorem dX7_column_35 : decode cX7_column 35 = .ok (.invokestatic 25, 3) := by decide +kernel
theorem dX7_column_38 : decode cX7_column 38 = .ok (.istore 4, 2) := by decide +kernel
theorem dX7_column_40 : decode cX7_column 40 = .ok (.aload_n 0, 1) := by decide +kernel
theorem dX7_column_41 : decode cX7_column 41 = .ok (.getfield 15, 3) := by decide +kernel
theorem dX7_column_44 : decode cX7_column 44 = .ok (.iload_n 2, 1) := by decide +kernel
theorem dX7_column_45 : decode cX7_column 45 = .ok (.sipush 200, 3) := by decide +kernel
theorem dX7_column_48 : decode cX7_column 48 = .ok (.iadd, 1) := by decide +kernel
theorem dX7_column_49 : decode cX7_column 49 = .ok (.iaload, 1) := by decide +kernel
theorem dX7_column_50 : decode cX7_column 50 = .ok (.iload 4, 2) := by decide +kernel
theorem dX7_column_52 : decode cX7_column 52 = .ok (.iconst (-1), 1) := by decide +kernel
theorem dX7_column_53 : decode cX7_column 53 = .ok (.ixor, 1) := by decide +kernel
theorem dX7_column_54 : decode cX7_column 54 = .ok (.iand, 1) := by decide +kernel
theorem dX7_column_55 : decode cX7_column 55 = .ok (.aload_n 0, 1) := by decide +kernel
theorem dX7_column_56 : decode cX7_column 56 = .ok (.getfield 9, 3) := by decide +kernel
theorem dX7_column_59 : decode cX7_column 59 = .ok (.iload_n 3, 1) := by decide +kernel
theorem dX7_column_60 : decode cX7_column 60 = .ok (.baload, 1) := by decide +kernel
theorem dX7_column_61 : decode cX7_column 61 = .ok (.ifCond .eq 8, 3) := by decide +kernel
theorem dX7_column_64 : decode cX7_column 64 = .ok (.iload 4, 2) := by decide +kernel
theorem dX7_column_66 : decode cX7_column 66 = .ok (.goto 4, 3) := by decide +kernel
theorem dX7_column_69 : decode cX7_column 69 = .ok (.iconst 0, 1) := by decide +kernel
theorem dX7_column_70 : decode cX7_column 70 = .ok (.ior, 1) := by decide +kernel
theorem dX7_column_71 : decode cX7_column 71 = .ok (.ireturn, 1) := by decide +kernel

def fX7_column (k : Nat) (p1 : Int32) (p2 : Int32) (σ : qMem) : Option Int32 :=
  ((fJ9_abs_0f7a4 p1).bind fun y1 => (if 200 < y1 then (some 0) else (if p2 < (-200) then (some 0) else (if p2 ≤ 200 then ((fX0_bits ((-y1) - p2) (y1 - p2)).bind fun y2 => (if ck (p2 + 200) 401 = true then (if ck y1 201 = true then (if (gi σ (k + 1) y1.toNatClampNeg) = 0 then (some (((gi σ (k + 2) (p2 + 200).toNatClampNeg) &&& (y2 ^^^ (-1))) ||| 0)) else (some (((gi σ (k + 2) (p2 + 200).toNatClampNeg) &&& (y2 ^^^ (-1))) ||| y2))) else none) else none)) else (some 0)))))
set_option maxRecDepth 20000 in
set_option maxHeartbeats 4000000 in
theorem aX7_column  (k : Nat) (p1 : Int32) (p2 : Int32) (hk : iRings k) (σ : qMem) : qAt wC mX7_column (ρp σ) 0 [(0, .ref k), (1, .int p1), (2, .int p2)] [] σ (fX7_column k p1 p2 σ) := by
  unfold fX7_column
  refine q_iload_n (i := 1) (x := p1) dX7_column_0 rfl 1 rfl ?_
  refine q_cSp mJ9_abs_0f7a4 [.int p1] (st := []) dX7_column_1 (ssX7_19) ⟨Nat.le_of_ble_eq_true rfl, Nat.le_of_ble_eq_true rfl⟩ rfl rfl (Nat.le_of_ble_eq_true rfl) (kJ9_abs_0f7a4 p1 σ) (fun y1 => ?_)
  refine q_istore_n (i := 3) (L' := [(3, .int y1), (0, .ref k), (1, .int p1), (2, .int p2)]) dX7_column_4 rfl (Nat.le_of_ble_eq_true rfl) rfl ?_
  refine q_iload_n (i := 3) (x := y1) dX7_column_5 rfl 0 rfl ?_
  refine q_sipush (v := 200) dX7_column_6 (by decide) ?_
  refine q_icmp_gt (tgt := 26) dX7_column_9 (by decide) ?_ ?_
  · refine q_iconst (v := 0) dX7_column_26 (by decide) ?_
    exact q_ireti (y := 0) dX7_column_27 rfl rfl
  refine q_iload_n (i := 2) (x := p2) dX7_column_12 rfl 3 rfl ?_
  refine q_sipush (v := (-200)) dX7_column_13 (by decide) ?_
  refine q_icmp_lt (tgt := 26) dX7_column_16 (by decide) ?_ ?_
  · refine q_iconst (v := 0) dX7_column_26 (by decide) ?_
    exact q_ireti (y := 0) dX7_column_27 rfl rfl
  refine q_iload_n (i := 2) (x := p2) dX7_column_19 rfl 3 rfl ?_
  refine q_sipush (v := 200) dX7_column_20 (by decide) ?_
  refine q_icmp_le (tgt := 28) dX7_column_23 (by decide) ?_ ?_
  · refine q_iload_n (i := 3) (x := y1) dX7_column_28 rfl 0 rfl ?_
    refine q_ineg dX7_column_29 ?_
    refine q_iload_n (i := 2) (x := p2) dX7_column_30 rfl 3 rfl ?_
    refine q_isub dX7_column_31 ?_
    refine q_iload_n (i := 3) (x := y1) dX7_column_32 rfl 0 rfl ?_
    refine q_iload_n (i := 2) (x := p2) dX7_column_33 rfl 3 rfl ?_
    refine q_isub dX7_column_34 ?_
    refine q_cSp mX0_bits [.int ((-y1) - p2), .int (y1 - p2)] (st := []) dX7_column_35 (ssX7_25) ⟨Nat.le_of_ble_eq_true rfl, Nat.le_of_ble_eq_true rfl⟩ rfl rfl (Nat.le_of_ble_eq_true rfl) (kX0_bits ((-y1) - p2) (y1 - p2) σ) (fun y2 => ?_)
    refine q_istore (i := 4) (L' := [(4, .int y2), (3, .int y1), (0, .ref k), (1, .int p1), (2, .int p2)]) dX7_column_38 (Nat.le_of_ble_eq_true rfl) rfl ?_
    refine q_aload_n (i := 0) (x := k) dX7_column_40 rfl 2 rfl ?_
    refine q_getr (t := (k + 2)) dX7_column_41 foX7_15 hk.1 rfl ?_
    refine q_iload_n (i := 2) (x := p2) dX7_column_44 rfl 4 rfl ?_
    refine q_sipush (v := 200) dX7_column_45 (by decide) ?_
    refine q_iadd dX7_column_48 ?_
    refine q_iald dX7_column_49 hk.2.2 ?_
    refine q_iload (i := 4) (x := y2) dX7_column_50 0 rfl ?_
    refine q_iconst (v := (-1)) dX7_column_52 (by decide) ?_
    refine q_ixor dX7_column_53 ?_
    refine q_iand dX7_column_54 ?_
    refine q_aload_n (i := 0) (x := k) dX7_column_55 rfl 2 rfl ?_
    refine q_getr (t := (k + 1)) dX7_column_56 foX7_9 hk.1 rfl ?_
    refine q_iload_n (i := 3) (x := y1) dX7_column_59 rfl 1 rfl ?_
    refine q_zald dX7_column_60 hk.2.1 ?_
    refine q_if_eq (tgt := 69) dX7_column_61 (by decide) ?_ ?_
    · refine q_iconst (v := 0) dX7_column_69 (by decide) ?_
      refine q_ior dX7_column_70 ?_
      exact q_ireti (y := (((gi σ (k + 2) (p2 + 200).toNatClampNeg) &&& (y2 ^^^ (-1))) ||| 0)) dX7_column_71 rfl rfl
    refine q_iload (i := 4) (x := y2) dX7_column_64 0 rfl ?_
    refine q_goto (tgt := 70) dX7_column_66 (by decide) ?_
    refine q_ior dX7_column_70 ?_
    exact q_ireti (y := (((gi σ (k + 2) (p2 + 200).toNatClampNeg) &&& (y2 ^^^ (-1))) ||| y2)) dX7_column_71 rfl rfl
  refine q_iconst (v := 0) dX7_column_26 (by decide) ?_
  exact q_ireti (y := 0) dX7_column_27 rfl rfl
theorem kX7_column  (k : Nat) (p1 : Int32) (p2 : Int32) (hk : iRings k) (σ : qMem) : qMc wC mX7_column (ρp σ) [.ref k, .int p1, .int p2] σ (fX7_column k p1 p2 σ) := qMc_of (moX7_column) (Nat.le_of_ble_eq_true rfl) (aX7_column k p1 p2 hk σ)

theorem dX3_look_0 : decode cX3_look 0 = .ok (.iload_n 1, 1) := by decide +kernel
theorem dX3_look_1 : decode cX3_look 1 = .ok (.invokestatic 147, 3) := by decide +kernel
theorem dX3_look_4 : decode cX3_look 4 = .ok (.ifCond .eq 10, 3) := by decide +kernel
theorem dX3_look_7 : decode cX3_look 7 = .ok (.iload_n 3, 1) := by decide +kernel
theorem dX3_look_8 : decode cX3_look 8 = .ok (.invokestatic 155, 3) := by decide +kernel
theorem dX3_look_11 : decode cX3_look 11 = .ok (.ifCond .ne 12, 3) := by decide +kernel
theorem dX3_look_14 : decode cX3_look 14 = .ok (.aload_n 0, 1) := by decide +kernel
theorem dX3_look_15 : decode cX3_look 15 = .ok (.getfield 45, 3) := by decide +kernel
theorem dX3_look_18 : decode cX3_look 18 = .ok (.iconst 0, 1) := by decide +kernel
theorem dX3_look_19 : decode cX3_look 19 = .ok (.invokestatic 182, 3) := by decide +kernel
theorem dX3_look_22 : decode cX3_look 22 = .ok (.return_, 1) := by decide +kernel
theorem dX3_look_23 : decode cX3_look 23 = .ok (.iload 4, 2) := by decide +kernel
theorem dX3_look_25 : decode cX3_look 25 = .ok (.bipush 7, 2) := by decide +kernel
theorem dX3_look_27 : decode cX3_look 27 = .ok (.imul, 1) := by decide +kernel
theorem dX3_look_28 : decode cX3_look 28 = .ok (.iload_n 3, 1) := by decide +kernel
theorem dX3_look_29 : decode cX3_look 29 = .ok (.invokestatic 188, 3) := by decide +kernel
theorem dX3_look_32 : decode cX3_look 32 = .ok (.aload_n 0, 1) := by decide +kernel
theorem dX3_look_33 : decode cX3_look 33 = .ok (.getfield 80, 3) := by decide +kernel
theorem dX3_look_36 : decode cX3_look 36 = .ok (.getfield 113, 3) := by decide +kernel
theorem dX3_look_39 : decode cX3_look 39 = .ok (.iload_n 1, 1) := by decide +kernel
theorem dX3_look_40 : decode cX3_look 40 = .ok (.aaload, 1) := by decide +kernel
theorem dX3_look_41 : decode cX3_look 41 = .ok (.getfield 161, 3) := by decide +kernel
theorem dX3_look_44 : decode cX3_look 44 = .ok (.iload_n 3, 1) := by decide +kernel
theorem dX3_look_45 : decode cX3_look 45 = .ok (.iaload, 1) := by decide +kernel
theorem dX3_look_46 : decode cX3_look 46 = .ok (.isub, 1) := by decide +kernel
theorem dX3_look_47 : decode cX3_look 47 = .ok (.istore 5, 2) := by decide +kernel
theorem dX3_look_49 : decode cX3_look 49 = .ok (.aload_n 0, 1) := by decide +kernel
theorem dX3_look_50 : decode cX3_look 50 = .ok (.getfield 14, 3) := by decide +kernel
theorem dX3_look_53 : decode cX3_look 53 = .ok (.iload_n 1, 1) := by decide +kernel
theorem dX3_look_54 : decode cX3_look 54 = .ok (.aaload, 1) := by decide +kernel
theorem dX3_look_55 : decode cX3_look 55 = .ok (.iload_n 2, 1) := by decide +kernel
theorem dX3_look_56 : decode cX3_look 56 = .ok (.iconst 2, 1) := by decide +kernel
theorem dX3_look_57 : decode cX3_look 57 = .ok (.invokevirtual 133, 3) := by decide +kernel
theorem dX3_look_60 : decode cX3_look 60 = .ok (.istore 6, 2) := by decide +kernel
theorem dX3_look_62 : decode cX3_look 62 = .ok (.aload_n 0, 1) := by decide +kernel
theorem dX3_look_63 : decode cX3_look 63 = .ok (.getfield 14, 3) := by decide +kernel
theorem dX3_look_66 : decode cX3_look 66 = .ok (.iload_n 1, 1) := by decide +kernel
theorem dX3_look_67 : decode cX3_look 67 = .ok (.aaload, 1) := by decide +kernel
theorem dX3_look_68 : decode cX3_look 68 = .ok (.iload_n 2, 1) := by decide +kernel
theorem dX3_look_69 : decode cX3_look 69 = .ok (.iconst 0, 1) := by decide +kernel
theorem dX3_look_70 : decode cX3_look 70 = .ok (.invokevirtual 133, 3) := by decide +kernel
theorem dX3_look_73 : decode cX3_look 73 = .ok (.ifCond .ne 26, 3) := by decide +kernel
theorem dX3_look_76 : decode cX3_look 76 = .ok (.aload_n 0, 1) := by decide +kernel
theorem dX3_look_77 : decode cX3_look 77 = .ok (.getfield 41, 3) := by decide +kernel
theorem dX3_look_80 : decode cX3_look 80 = .ok (.iload 6, 2) := by decide +kernel
theorem dX3_look_82 : decode cX3_look 82 = .ok (.aload_n 0, 1) := by decide +kernel
theorem dX3_look_83 : decode cX3_look 83 = .ok (.getfield 80, 3) := by decide +kernel
theorem dX3_look_86 : decode cX3_look 86 = .ok (.getfield 104, 3) := by decide +kernel
theorem dX3_look_89 : decode cX3_look 89 = .ok (.iconst 0, 1) := by decide +kernel
theorem dX3_look_90 : decode cX3_look 90 = .ok (.iaload, 1) := by decide +kernel
theorem dX3_look_91 : decode cX3_look 91 = .ok (.iload 5, 2) := by decide +kernel
theorem dX3_look_93 : decode cX3_look 93 = .ok (.invokevirtual 168, 3) := by decide +kernel
theorem dX3_look_96 : decode cX3_look 96 = .ok (.goto 23, 3) := by decide +kernel
theorem dX3_look_99 : decode cX3_look 99 = .ok (.aload_n 0, 1) := by decide +kernel
theorem dX3_look_100 : decode cX3_look 100 = .ok (.getfield 41, 3) := by decide +kernel
theorem dX3_look_103 : decode cX3_look 103 = .ok (.iload 6, 2) := by decide +kernel
theorem dX3_look_105 : decode cX3_look 105 = .ok (.aload_n 0, 1) := by decide +kernel
theorem dX3_look_106 : decode cX3_look 106 = .ok (.getfield 80, 3) := by decide +kernel
theorem dX3_look_109 : decode cX3_look 109 = .ok (.getfield 104, 3) := by decide +kernel
theorem dX3_look_112 : decode cX3_look 112 = .ok (.iconst 1, 1) := by decide +kernel
theorem dX3_look_113 : decode cX3_look 113 = .ok (.iaload, 1) := by decide +kernel
theorem dX3_look_114 : decode cX3_look 114 = .ok (.iload 5, 2) := by decide +kernel
theorem dX3_look_116 : decode cX3_look 116 = .ok (.invokevirtual 172, 3) := by decide +kernel
theorem dX3_look_119 : decode cX3_look 119 = .ok (.iconst 0, 1) := by decide +kernel
theorem dX3_look_120 : decode cX3_look 120 = .ok (.istore 7, 2) := by decide +kernel
theorem dX3_look_122 : decode cX3_look 122 = .ok (.iload 7, 2) := by decide +kernel
theorem dX3_look_124 : decode cX3_look 124 = .ok (.bipush 7, 2) := by decide +kernel
theorem dX3_look_126 : decode cX3_look 126 = .ok (.if_icmp .ge 75, 3) := by decide +kernel
theorem dX3_look_129 : decode cX3_look 129 = .ok (.iload 7, 2) := by decide +kernel
theorem dX3_look_131 : decode cX3_look 131 = .ok (.iload_n 3, 1) := by decide +kernel
theorem dX3_look_132 : decode cX3_look 132 = .ok (.invokestatic 191, 3) := by decide +kernel
theorem dX3_look_135 : decode cX3_look 135 = .ok (.aload_n 0, 1) := by decide +kernel
theorem dX3_look_136 : decode cX3_look 136 = .ok (.getfield 80, 3) := by decide +kernel
theorem dX3_look_139 : decode cX3_look 139 = .ok (.getfield 113, 3) := by decide +kernel
theorem dX3_look_142 : decode cX3_look 142 = .ok (.iload_n 1, 1) := by decide +kernel
theorem dX3_look_143 : decode cX3_look 143 = .ok (.aaload, 1) := by decide +kernel
theorem dX3_look_144 : decode cX3_look 144 = .ok (.getfield 158, 3) := by decide +kernel
theorem dX3_look_147 : decode cX3_look 147 = .ok (.iload_n 3, 1) := by decide +kernel
theorem dX3_look_148 : decode cX3_look 148 = .ok (.iaload, 1) := by decide +kernel
theorem dX3_look_149 : decode cX3_look 149 = .ok (.isub, 1) := by decide +kernel
theorem dX3_look_150 : decode cX3_look 150 = .ok (.istore 8, 2) := by decide +kernel
theorem dX3_look_152 : decode cX3_look 152 = .ok (.aload_n 0, 1) := by decide +kernel
theorem dX3_look_153 : decode cX3_look 153 = .ok (.getfield 41, 3) := by decide +kernel
theorem dX3_look_156 : decode cX3_look 156 = .ok (.iload 8, 2) := by decide +kernel
theorem dX3_look_158 : decode cX3_look 158 = .ok (.invokevirtual 175, 3) := by decide +kernel
theorem dX3_look_161 : decode cX3_look 161 = .ok (.istore 9, 2) := by decide +kernel
theorem dX3_look_163 : decode cX3_look 163 = .ok (.aload_n 0, 1) := by decide +kernel
theorem dX3_look_164 : decode cX3_look 164 = .ok (.getfield 45, 3) := by decide +kernel
theorem dX3_look_167 : decode cX3_look 167 = .ok (.iload 7, 2) := by decide +kernel
theorem dX3_look_169 : decode cX3_look 169 = .ok (.iload 9, 2) := by decide +kernel
theorem dX3_look_171 : decode cX3_look 171 = .ok (.ifCond .ne 7, 3) := by decide +kernel
theorem dX3_look_174 : decode cX3_look 174 = .ok (.iconst 0, 1) := by decide +kernel
theorem dX3_look_175 : decode cX3_look 175 = .ok (.goto 19, 3) := by decide +kernel
theorem dX3_look_178 : decode cX3_look 178 = .ok (.iload 9, 2) := by decide +kernel
theorem dX3_look_180 : decode cX3_look 180 = .ok (.aload_n 0, 1) := by decide +kernel
theorem dX3_look_181 : decode cX3_look 181 = .ok (.getfield 23, 3) := by decide +kernel
theorem dX3_look_184 : decode cX3_look 184 = .ok (.iload_n 1, 1) := by decide +kernel
theorem dX3_look_185 : decode cX3_look 185 = .ok (.aaload, 1) := by decide +kernel
theorem dX3_look_186 : decode cX3_look 186 = .ok (.iload 5, 2) := by decide +kernel
theorem dX3_look_188 : decode cX3_look 188 = .ok (.iload 8, 2) := by decide +kernel
theorem dX3_look_190 : decode cX3_look 190 = .ok (.invokevirtual 194, 3) := by decide +kernel
theorem dX3_look_193 : decode cX3_look 193 = .ok (.iand, 1) := by decide +kernel
theorem dX3_look_194 : decode cX3_look 194 = .ok (.iastore, 1) := by decide +kernel
theorem dX3_look_195 : decode cX3_look 195 = .ok (.iinc 7 1, 3) := by decide +kernel
theorem dX3_look_198 : decode cX3_look 198 = .ok (.goto (-76), 3) := by decide +kernel
theorem dX3_look_201 : decode cX3_look 201 = .ok (.return_, 1) := by decide +kernel
def fX3_look_b14 (N : Nat) (σ : qMem) : Option qMem :=
  ((fJ7_fill_53178 N 63 7 0 σ).bind fun y19 => (some y19))
set_option maxRecDepth 20000 in
set_option maxHeartbeats 4000000 in
theorem aX3_look_b14 (N : Nat) (σ : qMem) : qAt wC mX3_look (ρv) 14 [(0, .ref 44)] [] σ (fX3_look_b14 N σ) := by
  unfold fX3_look_b14
  refine q_aload_n (i := 0) (x := 44) dX3_look_14 rfl 0 rfl ?_
  refine q_getr (t := 63) dX3_look_15 foX3_45 zC_44 rfl ?_
  refine q_iconst (v := 0) dX3_look_18 (by decide) ?_
  refine q_cSv mJ7_fill_53178 [.ref 63, .int 0] (st := []) dX3_look_19 (ssX3_182) ⟨Nat.le_of_ble_eq_true rfl, Nat.le_of_ble_eq_true rfl⟩ rfl rfl (Nat.le_of_ble_eq_true rfl) (kJ7_fill_53178 N 63 7 0 zC_63 σ) (fun y19 => ?_)
  exact q_vret (y := y19) dX3_look_22 rfl rfl

def fX3_look_b194 (N : Nat) (c122 : Int32 → Int32 → Int32 → Int32 → qMem → Option qMem) (v1 : Int32) (v3 : Int32) (v5 : Int32) (v7 : Int32) (u1 : Int32) (u2 : Int32) (σ : qMem) : Option qMem :=
  (if ck u1 7 = true then (nmM (si σ 63 u1.toNatClampNeg u2) fun s18 => (c122 v1 v3 v5 (v7 + 1) s18)) else none)
set_option maxRecDepth 20000 in
set_option maxHeartbeats 4000000 in
theorem aX3_look_b194 (N : Nat) (c122 : Int32 → Int32 → Int32 → Int32 → qMem → Option qMem) (hc122 : ∀ (v1 : Int32) (v3 : Int32) (v5 : Int32) (v7 : Int32) (σ : qMem), qAt wC mX3_look (ρv) 122 [(0, .ref 44), (1, .int v1), (3, .int v3), (5, .int v5), (7, .int v7)] [] σ (c122 v1 v3 v5 v7 σ)) (v1 : Int32) (v3 : Int32) (v5 : Int32) (v7 : Int32) (u1 : Int32) (u2 : Int32) (σ : qMem) : qAt wC mX3_look (ρv) 194 [(0, .ref 44), (1, .int v1), (3, .int v3), (5, .int v5), (7, .int v7)] [.int u2, .int u1, .ref 63] σ (fX3_look_b194 N c122 v1 v3 v5 v7 u1 u2 σ) := by
  unfold fX3_look_b194
  refine q_iast dX3_look_194 zC_63 ?_
  refine q_nmM (fun s18 => ?_)
  refine q_iinc (i := 7) (x := v7) (v := (v7 + 1)) (L' := [(7, .int (v7 + 1)), (0, .ref 44), (1, .int v1), (3, .int v3), (5, .int v5)]) dX3_look_195 4 rfl (q_cst v7 (by decide)) (Nat.le_of_ble_eq_true rfl) rfl ?_
  refine q_goto (tgt := 122) dX3_look_198 (by decide) ?_
  exact q_sub [1, 2, 3, 4, 0] rfl (hc122 v1 v3 v5 (v7 + 1) s18)

def fX3_look_s122 (N : Nat) (c122 : Int32 → Int32 → Int32 → Int32 → qMem → Option qMem) (v1 : Int32) (v3 : Int32) (v5 : Int32) (v7 : Int32) (σ : qMem) : Option qMem :=
  (if 7 ≤ v7 then (some σ) else ((fX3_lowOf v7 v3).bind fun y12 => (if ck v1 2 = true then (if ck v3 24 = true then (nmI (y12 - (gi σ ((3 + 6 * v1.toNatClampNeg) + 4) v3.toNatClampNeg)) fun x14 => ((fX0_column x14 σ).bind fun y15 => (if y15 = 0 then (fX3_look_b194 N c122 v1 v3 v5 v7 v7 0 σ) else (if ck v1 2 = true then ((fX7_column (51 + 3 * v1.toNatClampNeg) v5 x14 σ).bind fun y17 => (fX3_look_b194 N c122 v1 v3 v5 v7 v7 (y15 &&& y17) σ)) else none)))) else none) else none)))
set_option maxRecDepth 20000 in
set_option maxHeartbeats 4000000 in
theorem aX3_look_s122 (N : Nat) (c122 : Int32 → Int32 → Int32 → Int32 → qMem → Option qMem) (hc122 : ∀ (v1 : Int32) (v3 : Int32) (v5 : Int32) (v7 : Int32) (σ : qMem), qAt wC mX3_look (ρv) 122 [(0, .ref 44), (1, .int v1), (3, .int v3), (5, .int v5), (7, .int v7)] [] σ (c122 v1 v3 v5 v7 σ)) (v1 : Int32) (v3 : Int32) (v5 : Int32) (v7 : Int32) (σ : qMem) : qAt wC mX3_look (ρv) 122 [(0, .ref 44), (1, .int v1), (3, .int v3), (5, .int v5), (7, .int v7)] [] σ (fX3_look_s122 N c122 v1 v3 v5 v7 σ) := by
  unfold fX3_look_s122
  refine q_iload (i := 7) (x := v7) dX3_look_122 4 rfl ?_
  refine q_bipush (v := 7) dX3_look_124 (by decide) ?_
  refine q_icmp_ge (tgt := 201) dX3_look_126 (by decide) ?_ ?_
  · exact q_vret (y := σ) dX3_look_201 rfl rfl
  refine q_iload (i := 7) (x := v7) dX3_look_129 4 rfl ?_
  refine q_iload_n (i := 3) (x := v3) dX3_look_131 rfl 2 rfl ?_
  refine q_cSp mX3_lowOf [.int v7, .int v3] (st := []) dX3_look_132 (ssX3_191) ⟨Nat.le_of_ble_eq_true rfl, Nat.le_of_ble_eq_true rfl⟩ rfl rfl (Nat.le_of_ble_eq_true rfl) (kX3_lowOf v7 v3 σ) (fun y12 => ?_)
  refine q_aload_n (i := 0) (x := 44) dX3_look_135 rfl 0 rfl ?_
  refine q_getr (t := 1) dX3_look_136 foX3_80 zC_44 rfl ?_
  refine q_getr (t := 2) dX3_look_139 foX3_113 zC_1 rfl ?_
  refine q_iload_n (i := 1) (x := v1) dX3_look_142 rfl 1 rfl ?_
  refine q_aald (t0 := 4) (fun j => 3 + 6 * j) dX3_look_143 zC_2 (fun _ => rfl) (by decide) (fun hc_13 => ?_)
  refine q_getr (t := ((3 + 6 * v1.toNatClampNeg) + 4)) dX3_look_144 foX3_158 (xBoat hc_13).1 rfl ?_
  refine q_iload_n (i := 3) (x := v3) dX3_look_147 rfl 2 rfl ?_
  refine q_iald dX3_look_148 (xBoat hc_13).2.2.2.1 ?_
  refine q_isub dX3_look_149 ?_
  refine q_nmI (fun x14 => ?_)
  refine q_istore (i := 8) (L' := [(8, .int x14), (0, .ref 44), (1, .int v1), (3, .int v3), (5, .int v5), (7, .int v7)]) dX3_look_150 (Nat.le_of_ble_eq_true rfl) rfl ?_
  refine q_aload_n (i := 0) (x := 44) dX3_look_152 rfl 1 rfl ?_
  refine q_getr (t := 62) dX3_look_153 foX3_41 zC_44 rfl ?_
  refine q_iload (i := 8) (x := x14) dX3_look_156 0 rfl ?_
  refine q_cVp mX0_column [.int x14] (st := []) dX3_look_158 (svX3_175) ⟨Nat.le_of_ble_eq_true rfl, Nat.le_of_ble_eq_true rfl⟩ zC_62 rfl rfl rfl (Nat.le_of_ble_eq_true rfl) (kX0_column x14 σ) (fun y15 => ?_)
  refine q_istore (i := 9) (L' := [(9, .int y15), (8, .int x14), (0, .ref 44), (1, .int v1), (3, .int v3), (5, .int v5), (7, .int v7)]) dX3_look_161 (Nat.le_of_ble_eq_true rfl) rfl ?_
  refine q_aload_n (i := 0) (x := 44) dX3_look_163 rfl 2 rfl ?_
  refine q_getr (t := 63) dX3_look_164 foX3_45 zC_44 rfl ?_
  refine q_iload (i := 7) (x := v7) dX3_look_167 6 rfl ?_
  refine q_iload (i := 9) (x := y15) dX3_look_169 0 rfl ?_
  refine q_if_ne (tgt := 178) dX3_look_171 (by decide) ?_ ?_
  · refine q_iload (i := 9) (x := y15) dX3_look_178 0 rfl ?_
    refine q_aload_n (i := 0) (x := 44) dX3_look_180 rfl 2 rfl ?_
    refine q_getr (t := 50) dX3_look_181 foX3_23 zC_44 rfl ?_
    refine q_iload_n (i := 1) (x := v1) dX3_look_184 rfl 3 rfl ?_
    refine q_aald (t0 := 6) (fun j => 51 + 3 * j) dX3_look_185 zC_50 (fun _ => rfl) (by decide) (fun hc_16 => ?_)
    refine q_iload (i := 5) (x := v5) dX3_look_186 5 rfl ?_
    refine q_iload (i := 8) (x := x14) dX3_look_188 1 rfl ?_
    refine q_cVp mX7_column [.int v5, .int x14] (st := [.int y15, .int v7, .ref 63]) dX3_look_190 (svX3_194) ⟨Nat.le_of_ble_eq_true rfl, Nat.le_of_ble_eq_true rfl⟩ (xRings hc_16).1 rfl rfl rfl (Nat.le_of_ble_eq_true rfl) (kX7_column (51 + 3 * v1.toNatClampNeg) v5 x14 (xRings hc_16) σ) (fun y17 => ?_)
    refine q_iand dX3_look_193 ?_
    exact q_sub [2, 3, 4, 5, 6] rfl (aX3_look_b194 N c122 hc122 v1 v3 v5 v7 v7 (y15 &&& y17) σ)
  refine q_iconst (v := 0) dX3_look_174 (by decide) ?_
  refine q_goto (tgt := 194) dX3_look_175 (by decide) ?_
  exact q_sub [2, 3, 4, 5, 6] rfl (aX3_look_b194 N c122 hc122 v1 v3 v5 v7 v7 0 σ)
def fX3_look_l122 (N : Nat) : Nat → Int32 → Int32 → Int32 → Int32 → qMem → Option qMem
  | 0 => fun _ _ _ _ _ => none
  | n + 1 => fun v1 v3 v5 v7 σ => fX3_look_s122 N (fX3_look_l122 N n) v1 v3 v5 v7 σ
theorem aX3_look_l122 (N : Nat) : ∀ (n : Nat) (v1 : Int32) (v3 : Int32) (v5 : Int32) (v7 : Int32) (σ : qMem), qAt wC mX3_look (ρv) 122 [(0, .ref 44), (1, .int v1), (3, .int v3), (5, .int v5), (7, .int v7)] [] σ (fX3_look_l122 N n v1 v3 v5 v7 σ) := by
  intro n
  induction n with
  | zero => intro v1 v3 v5 v7 σ; exact q_none
  | succ n ih => intro v1 v3 v5 v7 σ; exact aX3_look_s122 N (fX3_look_l122 N n) ih v1 v3 v5 v7 σ

def fX3_look_b119 (N : Nat) (v1 : Int32) (v3 : Int32) (v5 : Int32) (σ : qMem) : Option qMem :=
  (fX3_look_l122 N N v1 v3 v5 0 σ)
set_option maxRecDepth 20000 in
set_option maxHeartbeats 4000000 in
theorem aX3_look_b119 (N : Nat) (v1 : Int32) (v3 : Int32) (v5 : Int32) (σ : qMem) : qAt wC mX3_look (ρv) 119 [(0, .ref 44), (1, .int v1), (3, .int v3), (5, .int v5)] [] σ (fX3_look_b119 N v1 v3 v5 σ) := by
  unfold fX3_look_b119
  refine q_iconst (v := 0) dX3_look_119 (by decide) ?_
  refine q_istore (i := 7) (L' := [(7, .int 0), (0, .ref 44), (1, .int v1), (3, .int v3), (5, .int v5)]) dX3_look_120 (Nat.le_of_ble_eq_true rfl) rfl ?_
  exact q_sub [1, 2, 3, 4, 0] rfl (aX3_look_l122 N N v1 v3 v5 0 σ)

def fX3_look (N : Nat) (p1 : Int32) (p2 : Int32) (p3 : Int32) (p4 : Int32) (σ : qMem) : Option qMem :=
  ((fX11_isBoat p1).bind fun y1 => (if y1 = 0 then (fX3_look_b14 N σ) else ((fX11_isBell p3).bind fun y2 => (if y2 = 0 then (fX3_look_b14 N σ) else ((fX3_eastOf (p4 * 7) p3).bind fun y3 => (if ck p1 2 = true then (if ck p3 24 = true then (nmI (y3 - (gi σ ((3 + 6 * p1.toNatClampNeg) + 3) p3.toNatClampNeg)) fun x5 => (if ck p1 2 = true then ((fX8_at (46 + 2 * p1.toNatClampNeg) 108 p2 2 σ).bind fun y7 => (if ck p1 2 = true then ((fX8_at (46 + 2 * p1.toNatClampNeg) 108 p2 0 σ).bind fun y9 => (if y9 = 0 then (if ck 0 6 = true then ((fX0_arc y7 (gi σ 18 (0 : Int32).toNatClampNeg) x5 σ).bind fun y11 => (fX3_look_b119 N p1 p3 x5 y11)) else none) else (if ck 1 6 = true then ((fX0_circle N y7 (gi σ 18 (1 : Int32).toNatClampNeg) x5 σ).bind fun y10 => (fX3_look_b119 N p1 p3 x5 y10)) else none))) else none)) else none)) else none) else none))))))
set_option maxRecDepth 20000 in
set_option maxHeartbeats 4000000 in
theorem aX3_look  (N : Nat) (p1 : Int32) (p2 : Int32) (p3 : Int32) (p4 : Int32)  (σ : qMem) : qAt wC mX3_look (ρv) 0 [(0, .ref 44), (1, .int p1), (2, .int p2), (3, .int p3), (4, .int p4)] [] σ (fX3_look N p1 p2 p3 p4 σ) := by
  unfold fX3_look
  refine q_iload_n (i := 1) (x := p1) dX3_look_0 rfl 1 rfl ?_
  refine q_cSp mX11_isBoat [.int p1] (st := []) dX3_look_1 (ssX3_147) ⟨Nat.le_of_ble_eq_true rfl, Nat.le_of_ble_eq_true rfl⟩ rfl rfl (Nat.le_of_ble_eq_true rfl) (kX11_isBoat p1 σ) (fun y1 => ?_)
  refine q_if_eq (tgt := 14) dX3_look_4 (by decide) ?_ ?_
  · exact q_sub [0] rfl (aX3_look_b14 N σ)
  refine q_iload_n (i := 3) (x := p3) dX3_look_7 rfl 3 rfl ?_
  refine q_cSp mX11_isBell [.int p3] (st := []) dX3_look_8 (ssX3_155) ⟨Nat.le_of_ble_eq_true rfl, Nat.le_of_ble_eq_true rfl⟩ rfl rfl (Nat.le_of_ble_eq_true rfl) (kX11_isBell p3 σ) (fun y2 => ?_)
  refine q_if_ne (tgt := 23) dX3_look_11 (by decide) ?_ ?_
  · refine q_iload (i := 4) (x := p4) dX3_look_23 4 rfl ?_
    refine q_bipush (v := 7) dX3_look_25 (by decide) ?_
    refine q_imul dX3_look_27 ?_
    refine q_iload_n (i := 3) (x := p3) dX3_look_28 rfl 3 rfl ?_
    refine q_cSp mX3_eastOf [.int (p4 * 7), .int p3] (st := []) dX3_look_29 (ssX3_188) ⟨Nat.le_of_ble_eq_true rfl, Nat.le_of_ble_eq_true rfl⟩ rfl rfl (Nat.le_of_ble_eq_true rfl) (kX3_eastOf (p4 * 7) p3 σ) (fun y3 => ?_)
    refine q_aload_n (i := 0) (x := 44) dX3_look_32 rfl 0 rfl ?_
    refine q_getr (t := 1) dX3_look_33 foX3_80 zC_44 rfl ?_
    refine q_getr (t := 2) dX3_look_36 foX3_113 zC_1 rfl ?_
    refine q_iload_n (i := 1) (x := p1) dX3_look_39 rfl 1 rfl ?_
    refine q_aald (t0 := 4) (fun j => 3 + 6 * j) dX3_look_40 zC_2 (fun _ => rfl) (by decide) (fun hc_4 => ?_)
    refine q_getr (t := ((3 + 6 * p1.toNatClampNeg) + 3)) dX3_look_41 foX3_161 (xBoat hc_4).1 rfl ?_
    refine q_iload_n (i := 3) (x := p3) dX3_look_44 rfl 3 rfl ?_
    refine q_iald dX3_look_45 (xBoat hc_4).2.2.1 ?_
    refine q_isub dX3_look_46 ?_
    refine q_nmI (fun x5 => ?_)
    refine q_istore (i := 5) (L' := [(5, .int x5), (0, .ref 44), (1, .int p1), (2, .int p2), (3, .int p3), (4, .int p4)]) dX3_look_47 (Nat.le_of_ble_eq_true rfl) rfl ?_
    refine q_aload_n (i := 0) (x := 44) dX3_look_49 rfl 1 rfl ?_
    refine q_getr (t := 45) dX3_look_50 foX3_14 zC_44 rfl ?_
    refine q_iload_n (i := 1) (x := p1) dX3_look_53 rfl 2 rfl ?_
    refine q_aald (t0 := 7) (fun j => 46 + 2 * j) dX3_look_54 zC_45 (fun _ => rfl) (by decide) (fun hc_6 => ?_)
    refine q_iload_n (i := 2) (x := p2) dX3_look_55 rfl 3 rfl ?_
    refine q_iconst (v := 2) dX3_look_56 (by decide) ?_
    refine q_cVp mX8_at [.int p2, .int 2] (st := []) dX3_look_57 (svX3_133) ⟨Nat.le_of_ble_eq_true rfl, Nat.le_of_ble_eq_true rfl⟩ (xRowsF hc_6).1 rfl rfl rfl (Nat.le_of_ble_eq_true rfl) (kX8_at (46 + 2 * p1.toNatClampNeg) 108 p2 2 (xRowsF hc_6) σ) (fun y7 => ?_)
    refine q_istore (i := 6) (L' := [(6, .int y7), (5, .int x5), (0, .ref 44), (1, .int p1), (2, .int p2), (3, .int p3), (4, .int p4)]) dX3_look_60 (Nat.le_of_ble_eq_true rfl) rfl ?_
    refine q_aload_n (i := 0) (x := 44) dX3_look_62 rfl 2 rfl ?_
    refine q_getr (t := 45) dX3_look_63 foX3_14 zC_44 rfl ?_
    refine q_iload_n (i := 1) (x := p1) dX3_look_66 rfl 3 rfl ?_
    refine q_aald (t0 := 7) (fun j => 46 + 2 * j) dX3_look_67 zC_45 (fun _ => rfl) (by decide) (fun hc_8 => ?_)
    refine q_iload_n (i := 2) (x := p2) dX3_look_68 rfl 4 rfl ?_
    refine q_iconst (v := 0) dX3_look_69 (by decide) ?_
    refine q_cVp mX8_at [.int p2, .int 0] (st := []) dX3_look_70 (svX3_133) ⟨Nat.le_of_ble_eq_true rfl, Nat.le_of_ble_eq_true rfl⟩ (xRowsF hc_8).1 rfl rfl rfl (Nat.le_of_ble_eq_true rfl) (kX8_at (46 + 2 * p1.toNatClampNeg) 108 p2 0 (xRowsF hc_8) σ) (fun y9 => ?_)
    refine q_if_ne (tgt := 99) dX3_look_73 (by decide) ?_ ?_
    · refine q_aload_n (i := 0) (x := 44) dX3_look_99 rfl 2 rfl ?_
      refine q_getr (t := 62) dX3_look_100 foX3_41 zC_44 rfl ?_
      refine q_iload (i := 6) (x := y7) dX3_look_103 0 rfl ?_
      refine q_aload_n (i := 0) (x := 44) dX3_look_105 rfl 2 rfl ?_
      refine q_getr (t := 1) dX3_look_106 foX3_80 zC_44 rfl ?_
      refine q_getr (t := 18) dX3_look_109 foX3_104 zC_1 rfl ?_
      refine q_iconst (v := 1) dX3_look_112 (by decide) ?_
      refine q_iald dX3_look_113 zC_18 ?_
      refine q_iload (i := 5) (x := x5) dX3_look_114 1 rfl ?_
      refine q_cVv mX0_circle [.int y7, .int (gi σ 18 (1 : Int32).toNatClampNeg), .int x5] (st := []) dX3_look_116 (svX3_172) ⟨Nat.le_of_ble_eq_true rfl, Nat.le_of_ble_eq_true rfl⟩ zC_62 rfl rfl rfl (Nat.le_of_ble_eq_true rfl) (kX0_circle N y7 (gi σ 18 (1 : Int32).toNatClampNeg) x5 σ) (fun y10 => ?_)
      exact q_sub [2, 3, 5, 1] rfl (aX3_look_b119 N p1 p3 x5 y10)
    refine q_aload_n (i := 0) (x := 44) dX3_look_76 rfl 2 rfl ?_
    refine q_getr (t := 62) dX3_look_77 foX3_41 zC_44 rfl ?_
    refine q_iload (i := 6) (x := y7) dX3_look_80 0 rfl ?_
    refine q_aload_n (i := 0) (x := 44) dX3_look_82 rfl 2 rfl ?_
    refine q_getr (t := 1) dX3_look_83 foX3_80 zC_44 rfl ?_
    refine q_getr (t := 18) dX3_look_86 foX3_104 zC_1 rfl ?_
    refine q_iconst (v := 0) dX3_look_89 (by decide) ?_
    refine q_iald dX3_look_90 zC_18 ?_
    refine q_iload (i := 5) (x := x5) dX3_look_91 1 rfl ?_
    refine q_cVv mX0_arc [.int y7, .int (gi σ 18 (0 : Int32).toNatClampNeg), .int x5] (st := []) dX3_look_93 (svX3_168) ⟨Nat.le_of_ble_eq_true rfl, Nat.le_of_ble_eq_true rfl⟩ zC_62 rfl rfl rfl (Nat.le_of_ble_eq_true rfl) (kX0_arc y7 (gi σ 18 (0 : Int32).toNatClampNeg) x5 σ) (fun y11 => ?_)
    refine q_goto (tgt := 119) dX3_look_96 (by decide) ?_
    exact q_sub [2, 3, 5, 1] rfl (aX3_look_b119 N p1 p3 x5 y11)
  exact q_sub [0] rfl (aX3_look_b14 N σ)
theorem kX3_look  (N : Nat) (p1 : Int32) (p2 : Int32) (p3 : Int32) (p4 : Int32)  (σ : qMem) : qMc wC mX3_look (ρv) [.ref 44, .int p1, .int p2, .int p3, .int p4] σ (fX3_look N p1 p2 p3 p4 σ) := qMc_of (moX3_look) (Nat.le_of_ble_eq_true rfl) (aX3_look N p1 p2 p3 p4  σ)

theorem dX3_countFrom_0 : decode cX3_countFrom 0 = .ok (.iconst 0, 1) := by decide +kernel
theorem dX3_countFrom_1 : decode cX3_countFrom 1 = .ok (.istore 4, 2) := by decide +kernel
theorem dX3_countFrom_3 : decode cX3_countFrom 3 = .ok (.iload_n 1, 1) := by decide +kernel
theorem dX3_countFrom_4 : decode cX3_countFrom 4 = .ok (.istore 5, 2) := by decide +kernel
theorem dX3_countFrom_6 : decode cX3_countFrom 6 = .ok (.iload 5, 2) := by decide +kernel
theorem dX3_countFrom_8 : decode cX3_countFrom 8 = .ok (.iload_n 1, 1) := by decide +kernel
theorem dX3_countFrom_9 : decode cX3_countFrom 9 = .ok (.iload_n 2, 1) := by decide +kernel
theorem dX3_countFrom_10 : decode cX3_countFrom 10 = .ok (.iadd, 1) := by decide +kernel
theorem dX3_countFrom_11 : decode cX3_countFrom 11 = .ok (.if_icmp .ge 34, 3) := by decide +kernel
theorem dX3_countFrom_14 : decode cX3_countFrom 14 = .ok (.iload 5, 2) := by decide +kernel
theorem dX3_countFrom_16 : decode cX3_countFrom 16 = .ok (.sipush 1568, 3) := by decide +kernel
theorem dX3_countFrom_19 : decode cX3_countFrom 19 = .ok (.if_icmp .ge 26, 3) := by decide +kernel
theorem dX3_countFrom_22 : decode cX3_countFrom 22 = .ok (.iload 4, 2) := by decide +kernel
theorem dX3_countFrom_24 : decode cX3_countFrom 24 = .ok (.aload_n 0, 1) := by decide +kernel
theorem dX3_countFrom_25 : decode cX3_countFrom 25 = .ok (.getfield 35, 3) := by decide +kernel
theorem dX3_countFrom_28 : decode cX3_countFrom 28 = .ok (.iload 5, 2) := by decide +kernel
theorem dX3_countFrom_30 : decode cX3_countFrom 30 = .ok (.iaload, 1) := by decide +kernel
theorem dX3_countFrom_31 : decode cX3_countFrom 31 = .ok (.iload_n 3, 1) := by decide +kernel
theorem dX3_countFrom_32 : decode cX3_countFrom 32 = .ok (.iand, 1) := by decide +kernel
theorem dX3_countFrom_33 : decode cX3_countFrom 33 = .ok (.invokestatic 224, 3) := by decide +kernel
theorem dX3_countFrom_36 : decode cX3_countFrom 36 = .ok (.iadd, 1) := by decide +kernel
theorem dX3_countFrom_37 : decode cX3_countFrom 37 = .ok (.istore 4, 2) := by decide +kernel
theorem dX3_countFrom_39 : decode cX3_countFrom 39 = .ok (.iinc 5 1, 3) := by decide +kernel
theorem dX3_countFrom_42 : decode cX3_countFrom 42 = .ok (.goto (-36), 3) := by decide +kernel
theorem dX3_countFrom_45 : decode cX3_countFrom 45 = .ok (.iload 4, 2) := by decide +kernel
theorem dX3_countFrom_47 : decode cX3_countFrom 47 = .ok (.ireturn, 1) := by decide +kernel
def fX3_countFrom_s6 (N : Nat) (c6 : Int32 → Int32 → Int32 → Int32 → Int32 → Option Int32) (v1 : Int32) (v2 : Int32) (v3 : Int32) (v4 : Int32) (v5 : Int32) (σ : qMem) : Option Int32 :=
  (if (v1 + v2) ≤ v5 then (some v4) else (if 1568 ≤ v5 then (some v4) else (if ck v5 1568 = true then ((fJ6_bitCount_0f7a4 ((gi σ 61 v5.toNatClampNeg) &&& v3)).bind fun y1 => (c6 v1 v2 v3 (v4 + y1) (v5 + 1))) else none)))
set_option maxRecDepth 20000 in
set_option maxHeartbeats 4000000 in
theorem aX3_countFrom_s6 (N : Nat) (σ : qMem) (c6 : Int32 → Int32 → Int32 → Int32 → Int32 → Option Int32) (hc6 : ∀ (v1 : Int32) (v2 : Int32) (v3 : Int32) (v4 : Int32) (v5 : Int32) , qAt wC mX3_countFrom (ρp σ) 6 [(0, .ref 44), (1, .int v1), (2, .int v2), (3, .int v3), (4, .int v4), (5, .int v5)] [] σ (c6 v1 v2 v3 v4 v5)) (v1 : Int32) (v2 : Int32) (v3 : Int32) (v4 : Int32) (v5 : Int32) : qAt wC mX3_countFrom (ρp σ) 6 [(0, .ref 44), (1, .int v1), (2, .int v2), (3, .int v3), (4, .int v4), (5, .int v5)] [] σ (fX3_countFrom_s6 N c6 v1 v2 v3 v4 v5 σ) := by
  unfold fX3_countFrom_s6
  refine q_iload (i := 5) (x := v5) dX3_countFrom_6 5 rfl ?_
  refine q_iload_n (i := 1) (x := v1) dX3_countFrom_8 rfl 1 rfl ?_
  refine q_iload_n (i := 2) (x := v2) dX3_countFrom_9 rfl 2 rfl ?_
  refine q_iadd dX3_countFrom_10 ?_
  refine q_icmp_ge (tgt := 45) dX3_countFrom_11 (by decide) ?_ ?_
  · refine q_iload (i := 4) (x := v4) dX3_countFrom_45 4 rfl ?_
    exact q_ireti (y := v4) dX3_countFrom_47 rfl rfl
  refine q_iload (i := 5) (x := v5) dX3_countFrom_14 5 rfl ?_
  refine q_sipush (v := 1568) dX3_countFrom_16 (by decide) ?_
  refine q_icmp_ge (tgt := 45) dX3_countFrom_19 (by decide) ?_ ?_
  · refine q_iload (i := 4) (x := v4) dX3_countFrom_45 4 rfl ?_
    exact q_ireti (y := v4) dX3_countFrom_47 rfl rfl
  refine q_iload (i := 4) (x := v4) dX3_countFrom_22 4 rfl ?_
  refine q_aload_n (i := 0) (x := 44) dX3_countFrom_24 rfl 0 rfl ?_
  refine q_getr (t := 61) dX3_countFrom_25 foX3_35 zC_44 rfl ?_
  refine q_iload (i := 5) (x := v5) dX3_countFrom_28 5 rfl ?_
  refine q_iald dX3_countFrom_30 zC_61 ?_
  refine q_iload_n (i := 3) (x := v3) dX3_countFrom_31 rfl 3 rfl ?_
  refine q_iand dX3_countFrom_32 ?_
  refine q_cSp mJ6_bitCount_0f7a4 [.int ((gi σ 61 v5.toNatClampNeg) &&& v3)] (st := [.int v4]) dX3_countFrom_33 (ssX3_224) ⟨Nat.le_of_ble_eq_true rfl, Nat.le_of_ble_eq_true rfl⟩ rfl rfl (Nat.le_of_ble_eq_true rfl) (kJ6_bitCount_0f7a4 ((gi σ 61 v5.toNatClampNeg) &&& v3) σ) (fun y1 => ?_)
  refine q_iadd dX3_countFrom_36 ?_
  refine q_istore (i := 4) (L' := [(4, .int (v4 + y1)), (0, .ref 44), (1, .int v1), (2, .int v2), (3, .int v3), (5, .int v5)]) dX3_countFrom_37 (Nat.le_of_ble_eq_true rfl) rfl ?_
  refine q_iinc (i := 5) (x := v5) (v := (v5 + 1)) (L' := [(5, .int (v5 + 1)), (4, .int (v4 + y1)), (0, .ref 44), (1, .int v1), (2, .int v2), (3, .int v3)]) dX3_countFrom_39 5 rfl (q_cst v5 (by decide)) (Nat.le_of_ble_eq_true rfl) rfl ?_
  refine q_goto (tgt := 6) dX3_countFrom_42 (by decide) ?_
  exact q_sub [2, 3, 4, 5, 1, 0] rfl (hc6 v1 v2 v3 (v4 + y1) (v5 + 1))
def fX3_countFrom_l6 (N : Nat) (σ : qMem) : Nat → Int32 → Int32 → Int32 → Int32 → Int32 → Option Int32
  | 0 => fun _ _ _ _ _ => none
  | n + 1 => fun v1 v2 v3 v4 v5 => fX3_countFrom_s6 N (fX3_countFrom_l6 N σ n) v1 v2 v3 v4 v5 σ
theorem aX3_countFrom_l6 (N : Nat) (σ : qMem) : ∀ (n : Nat) (v1 : Int32) (v2 : Int32) (v3 : Int32) (v4 : Int32) (v5 : Int32), qAt wC mX3_countFrom (ρp σ) 6 [(0, .ref 44), (1, .int v1), (2, .int v2), (3, .int v3), (4, .int v4), (5, .int v5)] [] σ (fX3_countFrom_l6 N σ n v1 v2 v3 v4 v5) := by
  intro n
  induction n with
  | zero => intro v1 v2 v3 v4 v5; exact q_none
  | succ n ih => intro v1 v2 v3 v4 v5; exact aX3_countFrom_s6 N σ (fX3_countFrom_l6 N σ n) ih v1 v2 v3 v4 v5

def fX3_countFrom (N : Nat) (p1 : Int32) (p2 : Int32) (p3 : Int32) (σ : qMem) : Option Int32 :=
  (fX3_countFrom_l6 N σ N p1 p2 p3 0 p1)
set_option maxRecDepth 20000 in
set_option maxHeartbeats 4000000 in
theorem aX3_countFrom  (N : Nat) (p1 : Int32) (p2 : Int32) (p3 : Int32)  (σ : qMem) : qAt wC mX3_countFrom (ρp σ) 0 [(0, .ref 44), (1, .int p1), (2, .int p2), (3, .int p3)] [] σ (fX3_countFrom N p1 p2 p3 σ) := by
  unfold fX3_countFrom
  refine q_iconst (v := 0) dX3_countFrom_0 (by decide) ?_
  refine q_istore (i := 4) (L' := [(4, .int 0), (0, .ref 44), (1, .int p1), (2, .int p2), (3, .int p3)]) dX3_countFrom_1 (Nat.le_of_ble_eq_true rfl) rfl ?_
  refine q_iload_n (i := 1) (x := p1) dX3_countFrom_3 rfl 2 rfl ?_
  refine q_istore (i := 5) (L' := [(5, .int p1), (4, .int 0), (0, .ref 44), (1, .int p1), (2, .int p2), (3, .int p3)]) dX3_countFrom_4 (Nat.le_of_ble_eq_true rfl) rfl ?_
  exact q_sub [2, 3, 4, 5, 1, 0] rfl (aX3_countFrom_l6 N σ N p1 p2 p3 0 p1)
theorem kX3_countFrom  (N : Nat) (p1 : Int32) (p2 : Int32) (p3 : Int32)  (σ : qMem) : qMc wC mX3_countFrom (ρp σ) [.ref 44, .int p1, .int p2, .int p3] σ (fX3_countFrom N p1 p2 p3 σ) := qMc_of (moX3_countFrom) (Nat.le_of_ble_eq_true rfl) (aX3_countFrom N p1 p2 p3  σ)

theorem dX3_narrow_0 : decode cX3_narrow 0 = .ok (.iconst 1, 1) := by decide +kernel
theorem dX3_narrow_1 : decode cX3_narrow 1 = .ok (.istore 5, 2) := by decide +kernel
theorem dX3_narrow_3 : decode cX3_narrow 3 = .ok (.iconst 0, 1) := by decide +kernel
theorem dX3_narrow_4 : decode cX3_narrow 4 = .ok (.istore 6, 2) := by decide +kernel
theorem dX3_narrow_6 : decode cX3_narrow 6 = .ok (.iload 6, 2) := by decide +kernel
theorem dX3_narrow_8 : decode cX3_narrow 8 = .ok (.aload_n 0, 1) := by decide +kernel
theorem dX3_narrow_9 : decode cX3_narrow 9 = .ok (.getfield 14, 3) := by decide +kernel
theorem dX3_narrow_12 : decode cX3_narrow 12 = .ok (.iload_n 2, 1) := by decide +kernel
theorem dX3_narrow_13 : decode cX3_narrow 13 = .ok (.aaload, 1) := by decide +kernel
theorem dX3_narrow_14 : decode cX3_narrow 14 = .ok (.getfield 84, 3) := by decide +kernel
theorem dX3_narrow_17 : decode cX3_narrow 17 = .ok (.if_icmp .ge 89, 3) := by decide +kernel
theorem dX3_narrow_20 : decode cX3_narrow 20 = .ok (.iload 5, 2) := by decide +kernel
theorem dX3_narrow_22 : decode cX3_narrow 22 = .ok (.ifCond .eq 84, 3) := by decide +kernel
theorem dX3_narrow_25 : decode cX3_narrow 25 = .ok (.aload_n 0, 1) := by decide +kernel
theorem dX3_narrow_26 : decode cX3_narrow 26 = .ok (.iload_n 2, 1) := by decide +kernel
theorem dX3_narrow_27 : decode cX3_narrow 27 = .ok (.iload 6, 2) := by decide +kernel
theorem dX3_narrow_29 : decode cX3_narrow 29 = .ok (.aload_n 0, 1) := by decide +kernel
theorem dX3_narrow_30 : decode cX3_narrow 30 = .ok (.getfield 14, 3) := by decide +kernel
theorem dX3_narrow_33 : decode cX3_narrow 33 = .ok (.iload_n 2, 1) := by decide +kernel
theorem dX3_narrow_34 : decode cX3_narrow 34 = .ok (.aaload, 1) := by decide +kernel
theorem dX3_narrow_35 : decode cX3_narrow 35 = .ok (.iload 6, 2) := by decide +kernel
theorem dX3_narrow_37 : decode cX3_narrow 37 = .ok (.iconst 1, 1) := by decide +kernel
theorem dX3_narrow_38 : decode cX3_narrow 38 = .ok (.invokevirtual 133, 3) := by decide +kernel
theorem dX3_narrow_41 : decode cX3_narrow 41 = .ok (.iload_n 3, 1) := by decide +kernel
theorem dX3_narrow_42 : decode cX3_narrow 42 = .ok (.iadd, 1) := by decide +kernel
theorem dX3_narrow_43 : decode cX3_narrow 43 = .ok (.iload 4, 2) := by decide +kernel
theorem dX3_narrow_45 : decode cX3_narrow 45 = .ok (.invokevirtual 220, 3) := by decide +kernel
theorem dX3_narrow_48 : decode cX3_narrow 48 = .ok (.iconst 0, 1) := by decide +kernel
theorem dX3_narrow_49 : decode cX3_narrow 49 = .ok (.istore 5, 2) := by decide +kernel
theorem dX3_narrow_51 : decode cX3_narrow 51 = .ok (.iconst 0, 1) := by decide +kernel
theorem dX3_narrow_52 : decode cX3_narrow 52 = .ok (.istore 7, 2) := by decide +kernel
theorem dX3_narrow_54 : decode cX3_narrow 54 = .ok (.iload 7, 2) := by decide +kernel
theorem dX3_narrow_56 : decode cX3_narrow 56 = .ok (.bipush 7, 2) := by decide +kernel
theorem dX3_narrow_58 : decode cX3_narrow 58 = .ok (.if_icmp .ge 42, 3) := by decide +kernel
theorem dX3_narrow_61 : decode cX3_narrow 61 = .ok (.aload_n 1, 1) := by decide +kernel
theorem dX3_narrow_62 : decode cX3_narrow 62 = .ok (.iload 7, 2) := by decide +kernel
theorem dX3_narrow_64 : decode cX3_narrow 64 = .ok (.dup2, 1) := by decide +kernel
theorem dX3_narrow_65 : decode cX3_narrow 65 = .ok (.iaload, 1) := by decide +kernel
theorem dX3_narrow_66 : decode cX3_narrow 66 = .ok (.aload_n 0, 1) := by decide +kernel
theorem dX3_narrow_67 : decode cX3_narrow 67 = .ok (.getfield 45, 3) := by decide +kernel
theorem dX3_narrow_70 : decode cX3_narrow 70 = .ok (.iload 7, 2) := by decide +kernel
theorem dX3_narrow_72 : decode cX3_narrow 72 = .ok (.iaload, 1) := by decide +kernel
theorem dX3_narrow_73 : decode cX3_narrow 73 = .ok (.iand, 1) := by decide +kernel
theorem dX3_narrow_74 : decode cX3_narrow 74 = .ok (.iastore, 1) := by decide +kernel
theorem dX3_narrow_75 : decode cX3_narrow 75 = .ok (.iload 5, 2) := by decide +kernel
theorem dX3_narrow_77 : decode cX3_narrow 77 = .ok (.ifCond .ne 10, 3) := by decide +kernel
theorem dX3_narrow_80 : decode cX3_narrow 80 = .ok (.aload_n 1, 1) := by decide +kernel
theorem dX3_narrow_81 : decode cX3_narrow 81 = .ok (.iload 7, 2) := by decide +kernel
theorem dX3_narrow_83 : decode cX3_narrow 83 = .ok (.iaload, 1) := by decide +kernel
theorem dX3_narrow_84 : decode cX3_narrow 84 = .ok (.ifCond .eq 7, 3) := by decide +kernel
theorem dX3_narrow_87 : decode cX3_narrow 87 = .ok (.iconst 1, 1) := by decide +kernel
theorem dX3_narrow_88 : decode cX3_narrow 88 = .ok (.goto 4, 3) := by decide +kernel
theorem dX3_narrow_91 : decode cX3_narrow 91 = .ok (.iconst 0, 1) := by decide +kernel
theorem dX3_narrow_92 : decode cX3_narrow 92 = .ok (.istore 5, 2) := by decide +kernel
theorem dX3_narrow_94 : decode cX3_narrow 94 = .ok (.iinc 7 1, 3) := by decide +kernel
theorem dX3_narrow_97 : decode cX3_narrow 97 = .ok (.goto (-43), 3) := by decide +kernel
theorem dX3_narrow_100 : decode cX3_narrow 100 = .ok (.iinc 6 1, 3) := by decide +kernel
theorem dX3_narrow_103 : decode cX3_narrow 103 = .ok (.goto (-97), 3) := by decide +kernel
theorem dX3_narrow_106 : decode cX3_narrow 106 = .ok (.iload 5, 2) := by decide +kernel
theorem dX3_narrow_108 : decode cX3_narrow 108 = .ok (.ireturn, 1) := by decide +kernel
def fX3_narrow_b92 (N : Nat) (k1 : Nat) (c6 : Int32 → Int32 → Int32 → Int32 → Int32 → qMem → Option (Int32 × qMem)) (c54 : Int32 → Int32 → Int32 → Int32 → Int32 → Int32 → qMem → Option (Int32 × qMem)) (v2 : Int32) (v3 : Int32) (v4 : Int32) (v6 : Int32) (v7 : Int32) (u0 : Int32) (σ : qMem) : Option (Int32 × qMem) :=
  (c54 v2 v3 v4 u0 v6 (v7 + 1) σ)
set_option maxRecDepth 20000 in
set_option maxHeartbeats 4000000 in
theorem aX3_narrow_b92 (N : Nat) (k1 : Nat) (hk1 : wC.1[k1]? = some (.inl (.int, 7, []))) (c6 : Int32 → Int32 → Int32 → Int32 → Int32 → qMem → Option (Int32 × qMem)) (c54 : Int32 → Int32 → Int32 → Int32 → Int32 → Int32 → qMem → Option (Int32 × qMem)) (hc6 : ∀ (v2 : Int32) (v3 : Int32) (v4 : Int32) (v5 : Int32) (v6 : Int32) (σ : qMem), qAt wC mX3_narrow (ρi) 6 [(0, .ref 44), (1, .ref k1), (2, .int v2), (3, .int v3), (4, .int v4), (5, .int v5), (6, .int v6)] [] σ (c6 v2 v3 v4 v5 v6 σ)) (hc54 : ∀ (v2 : Int32) (v3 : Int32) (v4 : Int32) (v5 : Int32) (v6 : Int32) (v7 : Int32) (σ : qMem), qAt wC mX3_narrow (ρi) 54 [(0, .ref 44), (1, .ref k1), (2, .int v2), (3, .int v3), (4, .int v4), (5, .int v5), (6, .int v6), (7, .int v7)] [] σ (c54 v2 v3 v4 v5 v6 v7 σ)) (v2 : Int32) (v3 : Int32) (v4 : Int32) (v6 : Int32) (v7 : Int32) (u0 : Int32) (σ : qMem) : qAt wC mX3_narrow (ρi) 92 [(0, .ref 44), (1, .ref k1), (2, .int v2), (3, .int v3), (4, .int v4), (6, .int v6), (7, .int v7)] [.int u0] σ (fX3_narrow_b92 N k1 c6 c54 v2 v3 v4 v6 v7 u0 σ) := by
  unfold fX3_narrow_b92
  refine q_istore (i := 5) (L' := [(5, .int u0), (0, .ref 44), (1, .ref k1), (2, .int v2), (3, .int v3), (4, .int v4), (6, .int v6), (7, .int v7)]) dX3_narrow_92 (Nat.le_of_ble_eq_true rfl) rfl ?_
  refine q_iinc (i := 7) (x := v7) (v := (v7 + 1)) (L' := [(7, .int (v7 + 1)), (5, .int u0), (0, .ref 44), (1, .ref k1), (2, .int v2), (3, .int v3), (4, .int v4), (6, .int v6)]) dX3_narrow_94 7 rfl (q_cst v7 (by decide)) (Nat.le_of_ble_eq_true rfl) rfl ?_
  refine q_goto (tgt := 54) dX3_narrow_97 (by decide) ?_
  exact q_sub [2, 3, 4, 5, 6, 1, 7, 0] rfl (hc54 v2 v3 v4 u0 v6 (v7 + 1) σ)

def fX3_narrow_b87 (N : Nat) (k1 : Nat) (c6 : Int32 → Int32 → Int32 → Int32 → Int32 → qMem → Option (Int32 × qMem)) (c54 : Int32 → Int32 → Int32 → Int32 → Int32 → Int32 → qMem → Option (Int32 × qMem)) (v2 : Int32) (v3 : Int32) (v4 : Int32) (v6 : Int32) (v7 : Int32) (σ : qMem) : Option (Int32 × qMem) :=
  (fX3_narrow_b92 N k1 c6 c54 v2 v3 v4 v6 v7 1 σ)
set_option maxRecDepth 20000 in
set_option maxHeartbeats 4000000 in
theorem aX3_narrow_b87 (N : Nat) (k1 : Nat) (hk1 : wC.1[k1]? = some (.inl (.int, 7, []))) (c6 : Int32 → Int32 → Int32 → Int32 → Int32 → qMem → Option (Int32 × qMem)) (c54 : Int32 → Int32 → Int32 → Int32 → Int32 → Int32 → qMem → Option (Int32 × qMem)) (hc6 : ∀ (v2 : Int32) (v3 : Int32) (v4 : Int32) (v5 : Int32) (v6 : Int32) (σ : qMem), qAt wC mX3_narrow (ρi) 6 [(0, .ref 44), (1, .ref k1), (2, .int v2), (3, .int v3), (4, .int v4), (5, .int v5), (6, .int v6)] [] σ (c6 v2 v3 v4 v5 v6 σ)) (hc54 : ∀ (v2 : Int32) (v3 : Int32) (v4 : Int32) (v5 : Int32) (v6 : Int32) (v7 : Int32) (σ : qMem), qAt wC mX3_narrow (ρi) 54 [(0, .ref 44), (1, .ref k1), (2, .int v2), (3, .int v3), (4, .int v4), (5, .int v5), (6, .int v6), (7, .int v7)] [] σ (c54 v2 v3 v4 v5 v6 v7 σ)) (v2 : Int32) (v3 : Int32) (v4 : Int32) (v6 : Int32) (v7 : Int32) (σ : qMem) : qAt wC mX3_narrow (ρi) 87 [(0, .ref 44), (1, .ref k1), (2, .int v2), (3, .int v3), (4, .int v4), (6, .int v6), (7, .int v7)] [] σ (fX3_narrow_b87 N k1 c6 c54 v2 v3 v4 v6 v7 σ) := by
  unfold fX3_narrow_b87
  refine q_iconst (v := 1) dX3_narrow_87 (by decide) ?_
  refine q_goto (tgt := 92) dX3_narrow_88 (by decide) ?_
  exact q_sub [0, 1, 2, 3, 4, 5, 6] rfl (aX3_narrow_b92 N k1 hk1 c6 c54 hc6 hc54 v2 v3 v4 v6 v7 1 σ)

def fX3_narrow_s54 (N : Nat) (k1 : Nat) (c6 : Int32 → Int32 → Int32 → Int32 → Int32 → qMem → Option (Int32 × qMem)) (c54 : Int32 → Int32 → Int32 → Int32 → Int32 → Int32 → qMem → Option (Int32 × qMem)) (v2 : Int32) (v3 : Int32) (v4 : Int32) (v5 : Int32) (v6 : Int32) (v7 : Int32) (σ : qMem) : Option (Int32 × qMem) :=
  (if 7 ≤ v7 then (c6 v2 v3 v4 v5 (v6 + 1) σ) else (if ck v7 7 = true then (if ck v7 7 = true then (if ck v7 7 = true then (nmM (si σ k1 v7.toNatClampNeg ((gi σ k1 v7.toNatClampNeg) &&& (gi σ 63 v7.toNatClampNeg))) fun s5 => (if v5 = 0 then (if ck v7 7 = true then (if (gi s5 k1 v7.toNatClampNeg) = 0 then (fX3_narrow_b92 N k1 c6 c54 v2 v3 v4 v6 v7 0 s5) else (fX3_narrow_b87 N k1 c6 c54 v2 v3 v4 v6 v7 s5)) else none) else (fX3_narrow_b87 N k1 c6 c54 v2 v3 v4 v6 v7 s5))) else none) else none) else none))
set_option maxRecDepth 20000 in
set_option maxHeartbeats 4000000 in
theorem aX3_narrow_s54 (N : Nat) (k1 : Nat) (hk1 : wC.1[k1]? = some (.inl (.int, 7, []))) (c6 : Int32 → Int32 → Int32 → Int32 → Int32 → qMem → Option (Int32 × qMem)) (hc6 : ∀ (v2 : Int32) (v3 : Int32) (v4 : Int32) (v5 : Int32) (v6 : Int32) (σ : qMem), qAt wC mX3_narrow (ρi) 6 [(0, .ref 44), (1, .ref k1), (2, .int v2), (3, .int v3), (4, .int v4), (5, .int v5), (6, .int v6)] [] σ (c6 v2 v3 v4 v5 v6 σ)) (c54 : Int32 → Int32 → Int32 → Int32 → Int32 → Int32 → qMem → Option (Int32 × qMem)) (hc54 : ∀ (v2 : Int32) (v3 : Int32) (v4 : Int32) (v5 : Int32) (v6 : Int32) (v7 : Int32) (σ : qMem), qAt wC mX3_narrow (ρi) 54 [(0, .ref 44), (1, .ref k1), (2, .int v2), (3, .int v3), (4, .int v4), (5, .int v5), (6, .int v6), (7, .int v7)] [] σ (c54 v2 v3 v4 v5 v6 v7 σ)) (v2 : Int32) (v3 : Int32) (v4 : Int32) (v5 : Int32) (v6 : Int32) (v7 : Int32) (σ : qMem) : qAt wC mX3_narrow (ρi) 54 [(0, .ref 44), (1, .ref k1), (2, .int v2), (3, .int v3), (4, .int v4), (5, .int v5), (6, .int v6), (7, .int v7)] [] σ (fX3_narrow_s54 N k1 c6 c54 v2 v3 v4 v5 v6 v7 σ) := by
  unfold fX3_narrow_s54
  refine q_iload (i := 7) (x := v7) dX3_narrow_54 7 rfl ?_
  refine q_bipush (v := 7) dX3_narrow_56 (by decide) ?_
  refine q_icmp_ge (tgt := 100) dX3_narrow_58 (by decide) ?_ ?_
  · refine q_iinc (i := 6) (x := v6) (v := (v6 + 1)) (L' := [(6, .int (v6 + 1)), (0, .ref 44), (1, .ref k1), (2, .int v2), (3, .int v3), (4, .int v4), (5, .int v5), (7, .int v7)]) dX3_narrow_100 6 rfl (q_cst v6 (by decide)) (Nat.le_of_ble_eq_true rfl) rfl ?_
    refine q_goto (tgt := 6) dX3_narrow_103 (by decide) ?_
    exact q_sub [1, 2, 3, 4, 5, 6, 0] rfl (hc6 v2 v3 v4 v5 (v6 + 1) σ)
  refine q_aload_n (i := 1) (x := k1) dX3_narrow_61 rfl 1 rfl ?_
  refine q_iload (i := 7) (x := v7) dX3_narrow_62 7 rfl ?_
  refine q_dup2 dX3_narrow_64 rfl rfl ?_
  refine q_iald dX3_narrow_65 hk1 ?_
  refine q_aload_n (i := 0) (x := 44) dX3_narrow_66 rfl 0 rfl ?_
  refine q_getr (t := 63) dX3_narrow_67 foX3_45 zC_44 rfl ?_
  refine q_iload (i := 7) (x := v7) dX3_narrow_70 7 rfl ?_
  refine q_iald dX3_narrow_72 zC_63 ?_
  refine q_iand dX3_narrow_73 ?_
  refine q_iast dX3_narrow_74 hk1 ?_
  refine q_nmM (fun s5 => ?_)
  refine q_iload (i := 5) (x := v5) dX3_narrow_75 5 rfl ?_
  refine q_if_ne (tgt := 87) dX3_narrow_77 (by decide) ?_ ?_
  · exact q_sub [0, 1, 2, 3, 4, 6, 7] rfl (aX3_narrow_b87 N k1 hk1 c6 c54 hc6 hc54 v2 v3 v4 v6 v7 s5)
  refine q_aload_n (i := 1) (x := k1) dX3_narrow_80 rfl 1 rfl ?_
  refine q_iload (i := 7) (x := v7) dX3_narrow_81 7 rfl ?_
  refine q_iald dX3_narrow_83 hk1 ?_
  refine q_if_eq (tgt := 91) dX3_narrow_84 (by decide) ?_ ?_
  · refine q_iconst (v := 0) dX3_narrow_91 (by decide) ?_
    exact q_sub [0, 1, 2, 3, 4, 6, 7] rfl (aX3_narrow_b92 N k1 hk1 c6 c54 hc6 hc54 v2 v3 v4 v6 v7 0 s5)
  exact q_sub [0, 1, 2, 3, 4, 6, 7] rfl (aX3_narrow_b87 N k1 hk1 c6 c54 hc6 hc54 v2 v3 v4 v6 v7 s5)
def fX3_narrow_l54 (N : Nat) (k1 : Nat) (c6 : Int32 → Int32 → Int32 → Int32 → Int32 → qMem → Option (Int32 × qMem)) : Nat → Int32 → Int32 → Int32 → Int32 → Int32 → Int32 → qMem → Option (Int32 × qMem)
  | 0 => fun _ _ _ _ _ _ _ => none
  | n + 1 => fun v2 v3 v4 v5 v6 v7 σ => fX3_narrow_s54 N k1 c6 (fX3_narrow_l54 N k1 c6 n) v2 v3 v4 v5 v6 v7 σ
theorem aX3_narrow_l54 (N : Nat) (k1 : Nat) (hk1 : wC.1[k1]? = some (.inl (.int, 7, []))) (c6 : Int32 → Int32 → Int32 → Int32 → Int32 → qMem → Option (Int32 × qMem)) (hc6 : ∀ (v2 : Int32) (v3 : Int32) (v4 : Int32) (v5 : Int32) (v6 : Int32) (σ : qMem), qAt wC mX3_narrow (ρi) 6 [(0, .ref 44), (1, .ref k1), (2, .int v2), (3, .int v3), (4, .int v4), (5, .int v5), (6, .int v6)] [] σ (c6 v2 v3 v4 v5 v6 σ)) : ∀ (n : Nat) (v2 : Int32) (v3 : Int32) (v4 : Int32) (v5 : Int32) (v6 : Int32) (v7 : Int32) (σ : qMem), qAt wC mX3_narrow (ρi) 54 [(0, .ref 44), (1, .ref k1), (2, .int v2), (3, .int v3), (4, .int v4), (5, .int v5), (6, .int v6), (7, .int v7)] [] σ (fX3_narrow_l54 N k1 c6 n v2 v3 v4 v5 v6 v7 σ) := by
  intro n
  induction n with
  | zero => intro v2 v3 v4 v5 v6 v7 σ; exact q_none
  | succ n ih => intro v2 v3 v4 v5 v6 v7 σ; exact aX3_narrow_s54 N k1 hk1 c6 hc6 (fX3_narrow_l54 N k1 c6 n) ih v2 v3 v4 v5 v6 v7 σ

def fX3_narrow_s6 (N : Nat) (k1 : Nat) (c6 : Int32 → Int32 → Int32 → Int32 → Int32 → qMem → Option (Int32 × qMem)) (v2 : Int32) (v3 : Int32) (v4 : Int32) (v5 : Int32) (v6 : Int32) (σ : qMem) : Option (Int32 × qMem) :=
  (if ck v2 2 = true then (if (gi σ (46 + 2 * v2.toNatClampNeg) 3) ≤ v6 then (if v5 = 0 ∨ v5 = 1 then some (v5, σ) else none) else (if v5 = 0 then (if v5 = 0 ∨ v5 = 1 then some (v5, σ) else none) else (if ck v2 2 = true then ((fX8_at (46 + 2 * v2.toNatClampNeg) 108 v6 1 σ).bind fun y3 => ((fX3_look N v2 v6 (y3 + v3) v4 σ).bind fun y4 => (fX3_narrow_l54 N k1 c6 N v2 v3 v4 0 v6 0 y4))) else none))) else none)
set_option maxRecDepth 20000 in
set_option maxHeartbeats 4000000 in
theorem aX3_narrow_s6 (N : Nat) (k1 : Nat) (hk1 : wC.1[k1]? = some (.inl (.int, 7, []))) (c6 : Int32 → Int32 → Int32 → Int32 → Int32 → qMem → Option (Int32 × qMem)) (hc6 : ∀ (v2 : Int32) (v3 : Int32) (v4 : Int32) (v5 : Int32) (v6 : Int32) (σ : qMem), qAt wC mX3_narrow (ρi) 6 [(0, .ref 44), (1, .ref k1), (2, .int v2), (3, .int v3), (4, .int v4), (5, .int v5), (6, .int v6)] [] σ (c6 v2 v3 v4 v5 v6 σ)) (v2 : Int32) (v3 : Int32) (v4 : Int32) (v5 : Int32) (v6 : Int32) (σ : qMem) : qAt wC mX3_narrow (ρi) 6 [(0, .ref 44), (1, .ref k1), (2, .int v2), (3, .int v3), (4, .int v4), (5, .int v5), (6, .int v6)] [] σ (fX3_narrow_s6 N k1 c6 v2 v3 v4 v5 v6 σ) := by
  unfold fX3_narrow_s6
  refine q_iload (i := 6) (x := v6) dX3_narrow_6 6 rfl ?_
  refine q_aload_n (i := 0) (x := 44) dX3_narrow_8 rfl 0 rfl ?_
  refine q_getr (t := 45) dX3_narrow_9 foX3_14 zC_44 rfl ?_
  refine q_iload_n (i := 2) (x := v2) dX3_narrow_12 rfl 2 rfl ?_
  refine q_aald (t0 := 7) (fun j => 46 + 2 * j) dX3_narrow_13 zC_45 (fun _ => rfl) (by decide) (fun hc_1 => ?_)
  refine q_geti dX3_narrow_14 foX3_84 (xRowsF hc_1).1 rfl ?_
  refine q_icmp_ge (tgt := 106) dX3_narrow_17 (by decide) ?_ ?_
  · refine q_iload (i := 5) (x := v5) dX3_narrow_106 5 rfl ?_
    exact q_if (fun hz => q_iretz (y := (v5, σ)) dX3_narrow_108 rfl (nb_ok hz) rfl)
  refine q_iload (i := 5) (x := v5) dX3_narrow_20 5 rfl ?_
  refine q_if_eq (tgt := 106) dX3_narrow_22 (by decide) ?_ ?_
  · refine q_iload (i := 5) (x := v5) dX3_narrow_106 5 rfl ?_
    exact q_if (fun hz => q_iretz (y := (v5, σ)) dX3_narrow_108 rfl (nb_ok hz) rfl)
  refine q_aload_n (i := 0) (x := 44) dX3_narrow_25 rfl 0 rfl ?_
  refine q_iload_n (i := 2) (x := v2) dX3_narrow_26 rfl 2 rfl ?_
  refine q_iload (i := 6) (x := v6) dX3_narrow_27 6 rfl ?_
  refine q_aload_n (i := 0) (x := 44) dX3_narrow_29 rfl 0 rfl ?_
  refine q_getr (t := 45) dX3_narrow_30 foX3_14 zC_44 rfl ?_
  refine q_iload_n (i := 2) (x := v2) dX3_narrow_33 rfl 2 rfl ?_
  refine q_aald (t0 := 7) (fun j => 46 + 2 * j) dX3_narrow_34 zC_45 (fun _ => rfl) (by decide) (fun hc_2 => ?_)
  refine q_iload (i := 6) (x := v6) dX3_narrow_35 6 rfl ?_
  refine q_iconst (v := 1) dX3_narrow_37 (by decide) ?_
  refine q_cVp mX8_at [.int v6, .int 1] (st := [.int v6, .int v2, .ref 44]) dX3_narrow_38 (svX3_133) ⟨Nat.le_of_ble_eq_true rfl, Nat.le_of_ble_eq_true rfl⟩ (xRowsF hc_2).1 rfl rfl rfl (Nat.le_of_ble_eq_true rfl) (kX8_at (46 + 2 * v2.toNatClampNeg) 108 v6 1 (xRowsF hc_2) σ) (fun y3 => ?_)
  refine q_iload_n (i := 3) (x := v3) dX3_narrow_41 rfl 3 rfl ?_
  refine q_iadd dX3_narrow_42 ?_
  refine q_iload (i := 4) (x := v4) dX3_narrow_43 4 rfl ?_
  refine q_cVv mX3_look [.int v2, .int v6, .int (y3 + v3), .int v4] (st := []) dX3_narrow_45 (svX3_220) ⟨Nat.le_of_ble_eq_true rfl, Nat.le_of_ble_eq_true rfl⟩ zC_44 rfl rfl rfl (Nat.le_of_ble_eq_true rfl) (kX3_look N v2 v6 (y3 + v3) v4 σ) (fun y4 => ?_)
  refine q_iconst (v := 0) dX3_narrow_48 (by decide) ?_
  refine q_istore (i := 5) (L' := [(5, .int 0), (0, .ref 44), (1, .ref k1), (2, .int v2), (3, .int v3), (4, .int v4), (6, .int v6)]) dX3_narrow_49 (Nat.le_of_ble_eq_true rfl) rfl ?_
  refine q_iconst (v := 0) dX3_narrow_51 (by decide) ?_
  refine q_istore (i := 7) (L' := [(7, .int 0), (5, .int 0), (0, .ref 44), (1, .ref k1), (2, .int v2), (3, .int v3), (4, .int v4), (6, .int v6)]) dX3_narrow_52 (Nat.le_of_ble_eq_true rfl) rfl ?_
  exact q_sub [2, 3, 4, 5, 6, 1, 7, 0] rfl (aX3_narrow_l54 N k1 hk1 c6 hc6 N v2 v3 v4 0 v6 0 y4)
def fX3_narrow_l6 (N : Nat) (k1 : Nat) : Nat → Int32 → Int32 → Int32 → Int32 → Int32 → qMem → Option (Int32 × qMem)
  | 0 => fun _ _ _ _ _ _ => none
  | n + 1 => fun v2 v3 v4 v5 v6 σ => fX3_narrow_s6 N k1 (fX3_narrow_l6 N k1 n) v2 v3 v4 v5 v6 σ
theorem aX3_narrow_l6 (N : Nat) (k1 : Nat) (hk1 : wC.1[k1]? = some (.inl (.int, 7, []))) : ∀ (n : Nat) (v2 : Int32) (v3 : Int32) (v4 : Int32) (v5 : Int32) (v6 : Int32) (σ : qMem), qAt wC mX3_narrow (ρi) 6 [(0, .ref 44), (1, .ref k1), (2, .int v2), (3, .int v3), (4, .int v4), (5, .int v5), (6, .int v6)] [] σ (fX3_narrow_l6 N k1 n v2 v3 v4 v5 v6 σ) := by
  intro n
  induction n with
  | zero => intro v2 v3 v4 v5 v6 σ; exact q_none
  | succ n ih => intro v2 v3 v4 v5 v6 σ; exact aX3_narrow_s6 N k1 hk1 (fX3_narrow_l6 N k1 n) ih v2 v3 v4 v5 v6 σ

def fX3_narrow (N : Nat) (k1 : Nat) (p2 : Int32) (p3 : Int32) (p4 : Int32) (σ : qMem) : Option (Int32 × qMem) :=
  (fX3_narrow_l6 N k1 N p2 p3 p4 1 0 σ)
set_option maxRecDepth 20000 in
set_option maxHeartbeats 4000000 in
theorem aX3_narrow  (N : Nat) (k1 : Nat) (p2 : Int32) (p3 : Int32) (p4 : Int32) (hk1 : wC.1[k1]? = some (.inl (.int, 7, []))) (σ : qMem) : qAt wC mX3_narrow (ρi) 0 [(0, .ref 44), (1, .ref k1), (2, .int p2), (3, .int p3), (4, .int p4)] [] σ (fX3_narrow N k1 p2 p3 p4 σ) := by
  unfold fX3_narrow
  refine q_iconst (v := 1) dX3_narrow_0 (by decide) ?_
  refine q_istore (i := 5) (L' := [(5, .int 1), (0, .ref 44), (1, .ref k1), (2, .int p2), (3, .int p3), (4, .int p4)]) dX3_narrow_1 (Nat.le_of_ble_eq_true rfl) rfl ?_
  refine q_iconst (v := 0) dX3_narrow_3 (by decide) ?_
  refine q_istore (i := 6) (L' := [(6, .int 0), (5, .int 1), (0, .ref 44), (1, .ref k1), (2, .int p2), (3, .int p3), (4, .int p4)]) dX3_narrow_4 (Nat.le_of_ble_eq_true rfl) rfl ?_
  exact q_sub [2, 3, 4, 5, 6, 1, 0] rfl (aX3_narrow_l6 N k1 hk1 N p2 p3 p4 1 0 σ)
theorem kX3_narrow  (N : Nat) (k1 : Nat) (p2 : Int32) (p3 : Int32) (p4 : Int32) (hk1 : wC.1[k1]? = some (.inl (.int, 7, []))) (σ : qMem) : qMc wC mX3_narrow (ρi) [.ref 44, .ref k1, .int p2, .int p3, .int p4] σ (fX3_narrow N k1 p2 p3 p4 σ) := qMc_of (moX3_narrow) (Nat.le_of_ble_eq_true rfl) (aX3_narrow N k1 p2 p3 p4 hk1 σ)

theorem dX3_plotSheaf_0 : decode cX3_plotSheaf 0 = .ok (.aload_n 0, 1) := by decide +kernel
theorem dX3_plotSheaf_1 : decode cX3_plotSheaf 1 = .ok (.getfield 48, 3) := by decide +kernel
theorem dX3_plotSheaf_4 : decode cX3_plotSheaf 4 = .ok (.iconst (-1), 1) := by decide +kernel
theorem dX3_plotSheaf_5 : decode cX3_plotSheaf 5 = .ok (.invokestatic 182, 3) := by decide +kernel
theorem dX3_plotSheaf_8 : decode cX3_plotSheaf 8 = .ok (.aload_n 0, 1) := by decide +kernel
theorem dX3_plotSheaf_9 : decode cX3_plotSheaf 9 = .ok (.aload_n 0, 1) := by decide +kernel
theorem dX3_plotSheaf_10 : decode cX3_plotSheaf 10 = .ok (.getfield 48, 3) := by decide +kernel
theorem dX3_plotSheaf_13 : decode cX3_plotSheaf 13 = .ok (.iconst 0, 1) := by decide +kernel
theorem dX3_plotSheaf_14 : decode cX3_plotSheaf 14 = .ok (.iconst 0, 1) := by decide +kernel
theorem dX3_plotSheaf_15 : decode cX3_plotSheaf 15 = .ok (.iload_n 1, 1) := by decide +kernel
theorem dX3_plotSheaf_16 : decode cX3_plotSheaf 16 = .ok (.invokevirtual 210, 3) := by decide +kernel
theorem dX3_plotSheaf_19 : decode cX3_plotSheaf 19 = .ok (.istore_n 2, 1) := by decide +kernel
theorem dX3_plotSheaf_20 : decode cX3_plotSheaf 20 = .ok (.aload_n 0, 1) := by decide +kernel
theorem dX3_plotSheaf_21 : decode cX3_plotSheaf 21 = .ok (.getfield 14, 3) := by decide +kernel
theorem dX3_plotSheaf_24 : decode cX3_plotSheaf 24 = .ok (.iconst 1, 1) := by decide +kernel
theorem dX3_plotSheaf_25 : decode cX3_plotSheaf 25 = .ok (.aaload, 1) := by decide +kernel
theorem dX3_plotSheaf_26 : decode cX3_plotSheaf 26 = .ok (.getfield 84, 3) := by decide +kernel
theorem dX3_plotSheaf_29 : decode cX3_plotSheaf 29 = .ok (.ifCond .ne 22, 3) := by decide +kernel
theorem dX3_plotSheaf_32 : decode cX3_plotSheaf 32 = .ok (.aload_n 0, 1) := by decide +kernel
theorem dX3_plotSheaf_33 : decode cX3_plotSheaf 33 = .ok (.getfield 48, 3) := by decide +kernel
theorem dX3_plotSheaf_36 : decode cX3_plotSheaf 36 = .ok (.iconst 0, 1) := by decide +kernel
theorem dX3_plotSheaf_37 : decode cX3_plotSheaf 37 = .ok (.aload_n 0, 1) := by decide +kernel
theorem dX3_plotSheaf_38 : decode cX3_plotSheaf 38 = .ok (.getfield 35, 3) := by decide +kernel
theorem dX3_plotSheaf_41 : decode cX3_plotSheaf 41 = .ok (.iload_n 1, 1) := by decide +kernel
theorem dX3_plotSheaf_42 : decode cX3_plotSheaf 42 = .ok (.bipush 7, 2) := by decide +kernel
theorem dX3_plotSheaf_44 : decode cX3_plotSheaf 44 = .ok (.imul, 1) := by decide +kernel
theorem dX3_plotSheaf_45 : decode cX3_plotSheaf 45 = .ok (.bipush 7, 2) := by decide +kernel
theorem dX3_plotSheaf_47 : decode cX3_plotSheaf 47 = .ok (.invokestatic 214, 3) := by decide +kernel
theorem dX3_plotSheaf_50 : decode cX3_plotSheaf 50 = .ok (.return_, 1) := by decide +kernel
theorem dX3_plotSheaf_51 : decode cX3_plotSheaf 51 = .ok (.aload_n 0, 1) := by decide +kernel
theorem dX3_plotSheaf_52 : decode cX3_plotSheaf 52 = .ok (.getfield 80, 3) := by decide +kernel
theorem dX3_plotSheaf_55 : decode cX3_plotSheaf 55 = .ok (.getfield 104, 3) := by decide +kernel
theorem dX3_plotSheaf_58 : decode cX3_plotSheaf 58 = .ok (.iconst 2, 1) := by decide +kernel
theorem dX3_plotSheaf_59 : decode cX3_plotSheaf 59 = .ok (.iaload, 1) := by decide +kernel
theorem dX3_plotSheaf_60 : decode cX3_plotSheaf 60 = .ok (.istore_n 3, 1) := by decide +kernel
theorem dX3_plotSheaf_61 : decode cX3_plotSheaf 61 = .ok (.iload_n 3, 1) := by decide +kernel
theorem dX3_plotSheaf_62 : decode cX3_plotSheaf 62 = .ok (.ineg, 1) := by decide +kernel
theorem dX3_plotSheaf_63 : decode cX3_plotSheaf 63 = .ok (.istore 4, 2) := by decide +kernel
theorem dX3_plotSheaf_65 : decode cX3_plotSheaf 65 = .ok (.iload_n 2, 1) := by decide +kernel
theorem dX3_plotSheaf_66 : decode cX3_plotSheaf 66 = .ok (.ifCond .eq 83, 3) := by decide +kernel
theorem dX3_plotSheaf_69 : decode cX3_plotSheaf 69 = .ok (.iload 4, 2) := by decide +kernel
theorem dX3_plotSheaf_71 : decode cX3_plotSheaf 71 = .ok (.iload_n 3, 1) := by decide +kernel
theorem dX3_plotSheaf_72 : decode cX3_plotSheaf 72 = .ok (.if_icmp .gt 77, 3) := by decide +kernel
theorem dX3_plotSheaf_75 : decode cX3_plotSheaf 75 = .ok (.aload_n 0, 1) := by decide +kernel
theorem dX3_plotSheaf_76 : decode cX3_plotSheaf 76 = .ok (.getfield 48, 3) := by decide +kernel
theorem dX3_plotSheaf_79 : decode cX3_plotSheaf 79 = .ok (.iconst 0, 1) := by decide +kernel
theorem dX3_plotSheaf_80 : decode cX3_plotSheaf 80 = .ok (.aload_n 0, 1) := by decide +kernel
theorem dX3_plotSheaf_81 : decode cX3_plotSheaf 81 = .ok (.getfield 51, 3) := by decide +kernel
theorem dX3_plotSheaf_84 : decode cX3_plotSheaf 84 = .ok (.iconst 0, 1) := by decide +kernel
theorem dX3_plotSheaf_85 : decode cX3_plotSheaf 85 = .ok (.bipush 7, 2) := by decide +kernel
theorem dX3_plotSheaf_87 : decode cX3_plotSheaf 87 = .ok (.invokestatic 214, 3) := by decide +kernel
theorem dX3_plotSheaf_90 : decode cX3_plotSheaf 90 = .ok (.aload_n 0, 1) := by decide +kernel
theorem dX3_plotSheaf_91 : decode cX3_plotSheaf 91 = .ok (.aload_n 0, 1) := by decide +kernel
theorem dX3_plotSheaf_92 : decode cX3_plotSheaf 92 = .ok (.getfield 51, 3) := by decide +kernel
theorem dX3_plotSheaf_95 : decode cX3_plotSheaf 95 = .ok (.iconst 1, 1) := by decide +kernel
theorem dX3_plotSheaf_96 : decode cX3_plotSheaf 96 = .ok (.iload 4, 2) := by decide +kernel
theorem dX3_plotSheaf_98 : decode cX3_plotSheaf 98 = .ok (.iload_n 1, 1) := by decide +kernel
theorem dX3_plotSheaf_99 : decode cX3_plotSheaf 99 = .ok (.invokevirtual 210, 3) := by decide +kernel
theorem dX3_plotSheaf_102 : decode cX3_plotSheaf 102 = .ok (.ifCond .eq 41, 3) := by decide +kernel
theorem dX3_plotSheaf_105 : decode cX3_plotSheaf 105 = .ok (.iconst 0, 1) := by decide +kernel
theorem dX3_plotSheaf_106 : decode cX3_plotSheaf 106 = .ok (.istore 5, 2) := by decide +kernel
theorem dX3_plotSheaf_108 : decode cX3_plotSheaf 108 = .ok (.iload 5, 2) := by decide +kernel
theorem dX3_plotSheaf_110 : decode cX3_plotSheaf 110 = .ok (.bipush 7, 2) := by decide +kernel
theorem dX3_plotSheaf_112 : decode cX3_plotSheaf 112 = .ok (.if_icmp .ge 31, 3) := by decide +kernel
theorem dX3_plotSheaf_115 : decode cX3_plotSheaf 115 = .ok (.aload_n 0, 1) := by decide +kernel
theorem dX3_plotSheaf_116 : decode cX3_plotSheaf 116 = .ok (.getfield 35, 3) := by decide +kernel
theorem dX3_plotSheaf_119 : decode cX3_plotSheaf 119 = .ok (.iload_n 1, 1) := by decide +kernel
theorem dX3_plotSheaf_120 : decode cX3_plotSheaf 120 = .ok (.bipush 7, 2) := by decide +kernel
theorem dX3_plotSheaf_122 : decode cX3_plotSheaf 122 = .ok (.imul, 1) := by decide +kernel
theorem dX3_plotSheaf_123 : decode cX3_plotSheaf 123 = .ok (.iload 5, 2) := by decide +kernel
theorem dX3_plotSheaf_125 : decode cX3_plotSheaf 125 = .ok (.iadd, 1) := by decide +kernel
theorem dX3_plotSheaf_126 : decode cX3_plotSheaf 126 = .ok (.dup2, 1) := by decide +kernel
theorem dX3_plotSheaf_127 : decode cX3_plotSheaf 127 = .ok (.iaload, 1) := by decide +kernel
theorem dX3_plotSheaf_128 : decode cX3_plotSheaf 128 = .ok (.aload_n 0, 1) := by decide +kernel
theorem dX3_plotSheaf_129 : decode cX3_plotSheaf 129 = .ok (.getfield 51, 3) := by decide +kernel
theorem dX3_plotSheaf_132 : decode cX3_plotSheaf 132 = .ok (.iload 5, 2) := by decide +kernel
theorem dX3_plotSheaf_134 : decode cX3_plotSheaf 134 = .ok (.iaload, 1) := by decide +kernel
theorem dX3_plotSheaf_135 : decode cX3_plotSheaf 135 = .ok (.ior, 1) := by decide +kernel
theorem dX3_plotSheaf_136 : decode cX3_plotSheaf 136 = .ok (.iastore, 1) := by decide +kernel
theorem dX3_plotSheaf_137 : decode cX3_plotSheaf 137 = .ok (.iinc 5 1, 3) := by decide +kernel
theorem dX3_plotSheaf_140 : decode cX3_plotSheaf 140 = .ok (.goto (-32), 3) := by decide +kernel
theorem dX3_plotSheaf_143 : decode cX3_plotSheaf 143 = .ok (.iinc 4 1, 3) := by decide +kernel
theorem dX3_plotSheaf_146 : decode cX3_plotSheaf 146 = .ok (.goto (-81), 3) := by decide +kernel
theorem dX3_plotSheaf_149 : decode cX3_plotSheaf 149 = .ok (.return_, 1) := by decide +kernel
def fX3_plotSheaf_b143 (N : Nat) (c65 : Int32 → Int32 → Int32 → Int32 → qMem → Option qMem) (v1 : Int32) (v2 : Int32) (v3 : Int32) (v4 : Int32) (σ : qMem) : Option qMem :=
  (c65 v1 v2 v3 (v4 + 1) σ)
set_option maxRecDepth 20000 in
set_option maxHeartbeats 4000000 in
theorem aX3_plotSheaf_b143 (N : Nat) (c65 : Int32 → Int32 → Int32 → Int32 → qMem → Option qMem) (hc65 : ∀ (v1 : Int32) (v2 : Int32) (v3 : Int32) (v4 : Int32) (σ : qMem), qAt wC mX3_plotSheaf (ρv) 65 [(0, .ref 44), (1, .int v1), (2, .int v2), (3, .int v3), (4, .int v4)] [] σ (c65 v1 v2 v3 v4 σ)) (v1 : Int32) (v2 : Int32) (v3 : Int32) (v4 : Int32) (σ : qMem) : qAt wC mX3_plotSheaf (ρv) 143 [(0, .ref 44), (1, .int v1), (2, .int v2), (3, .int v3), (4, .int v4)] [] σ (fX3_plotSheaf_b143 N c65 v1 v2 v3 v4 σ) := by
  unfold fX3_plotSheaf_b143
  refine q_iinc (i := 4) (x := v4) (v := (v4 + 1)) (L' := [(4, .int (v4 + 1)), (0, .ref 44), (1, .int v1), (2, .int v2), (3, .int v3)]) dX3_plotSheaf_143 4 rfl (q_cst v4 (by decide)) (Nat.le_of_ble_eq_true rfl) rfl ?_
  refine q_goto (tgt := 65) dX3_plotSheaf_146 (by decide) ?_
  exact q_sub [1, 2, 3, 4, 0] rfl (hc65 v1 v2 v3 (v4 + 1) σ)

def fX3_plotSheaf_s108 (N : Nat) (c65 : Int32 → Int32 → Int32 → Int32 → qMem → Option qMem) (c108 : Int32 → Int32 → Int32 → Int32 → Int32 → qMem → Option qMem) (v1 : Int32) (v2 : Int32) (v3 : Int32) (v4 : Int32) (v5 : Int32) (σ : qMem) : Option qMem :=
  (if 7 ≤ v5 then (fX3_plotSheaf_b143 N c65 v1 v2 v3 v4 σ) else (if ck ((v1 * 7) + v5) 1568 = true then (if ck v5 7 = true then (if ck ((v1 * 7) + v5) 1568 = true then (nmM (si σ 61 ((v1 * 7) + v5).toNatClampNeg ((gi σ 61 ((v1 * 7) + v5).toNatClampNeg) ||| (gi σ 65 v5.toNatClampNeg))) fun s7 => (c108 v1 v2 v3 v4 (v5 + 1) s7)) else none) else none) else none))
set_option maxRecDepth 20000 in
set_option maxHeartbeats 4000000 in
theorem aX3_plotSheaf_s108 (N : Nat) (c65 : Int32 → Int32 → Int32 → Int32 → qMem → Option qMem) (hc65 : ∀ (v1 : Int32) (v2 : Int32) (v3 : Int32) (v4 : Int32) (σ : qMem), qAt wC mX3_plotSheaf (ρv) 65 [(0, .ref 44), (1, .int v1), (2, .int v2), (3, .int v3), (4, .int v4)] [] σ (c65 v1 v2 v3 v4 σ)) (c108 : Int32 → Int32 → Int32 → Int32 → Int32 → qMem → Option qMem) (hc108 : ∀ (v1 : Int32) (v2 : Int32) (v3 : Int32) (v4 : Int32) (v5 : Int32) (σ : qMem), qAt wC mX3_plotSheaf (ρv) 108 [(0, .ref 44), (1, .int v1), (2, .int v2), (3, .int v3), (4, .int v4), (5, .int v5)] [] σ (c108 v1 v2 v3 v4 v5 σ)) (v1 : Int32) (v2 : Int32) (v3 : Int32) (v4 : Int32) (v5 : Int32) (σ : qMem) : qAt wC mX3_plotSheaf (ρv) 108 [(0, .ref 44), (1, .int v1), (2, .int v2), (3, .int v3), (4, .int v4), (5, .int v5)] [] σ (fX3_plotSheaf_s108 N c65 c108 v1 v2 v3 v4 v5 σ) := by
  unfold fX3_plotSheaf_s108
  refine q_iload (i := 5) (x := v5) dX3_plotSheaf_108 5 rfl ?_
  refine q_bipush (v := 7) dX3_plotSheaf_110 (by decide) ?_
  refine q_icmp_ge (tgt := 143) dX3_plotSheaf_112 (by decide) ?_ ?_
  · exact q_sub [0, 1, 2, 3, 4] rfl (aX3_plotSheaf_b143 N c65 hc65 v1 v2 v3 v4 σ)
  refine q_aload_n (i := 0) (x := 44) dX3_plotSheaf_115 rfl 0 rfl ?_
  refine q_getr (t := 61) dX3_plotSheaf_116 foX3_35 zC_44 rfl ?_
  refine q_iload_n (i := 1) (x := v1) dX3_plotSheaf_119 rfl 1 rfl ?_
  refine q_bipush (v := 7) dX3_plotSheaf_120 (by decide) ?_
  refine q_imul dX3_plotSheaf_122 ?_
  refine q_iload (i := 5) (x := v5) dX3_plotSheaf_123 5 rfl ?_
  refine q_iadd dX3_plotSheaf_125 ?_
  refine q_dup2 dX3_plotSheaf_126 rfl rfl ?_
  refine q_iald dX3_plotSheaf_127 zC_61 ?_
  refine q_aload_n (i := 0) (x := 44) dX3_plotSheaf_128 rfl 0 rfl ?_
  refine q_getr (t := 65) dX3_plotSheaf_129 foX3_51 zC_44 rfl ?_
  refine q_iload (i := 5) (x := v5) dX3_plotSheaf_132 5 rfl ?_
  refine q_iald dX3_plotSheaf_134 zC_65 ?_
  refine q_ior dX3_plotSheaf_135 ?_
  refine q_iast dX3_plotSheaf_136 zC_61 ?_
  refine q_nmM (fun s7 => ?_)
  refine q_iinc (i := 5) (x := v5) (v := (v5 + 1)) (L' := [(5, .int (v5 + 1)), (0, .ref 44), (1, .int v1), (2, .int v2), (3, .int v3), (4, .int v4)]) dX3_plotSheaf_137 5 rfl (q_cst v5 (by decide)) (Nat.le_of_ble_eq_true rfl) rfl ?_
  refine q_goto (tgt := 108) dX3_plotSheaf_140 (by decide) ?_
  exact q_sub [1, 2, 3, 4, 5, 0] rfl (hc108 v1 v2 v3 v4 (v5 + 1) s7)
def fX3_plotSheaf_l108 (N : Nat) (c65 : Int32 → Int32 → Int32 → Int32 → qMem → Option qMem) : Nat → Int32 → Int32 → Int32 → Int32 → Int32 → qMem → Option qMem
  | 0 => fun _ _ _ _ _ _ => none
  | n + 1 => fun v1 v2 v3 v4 v5 σ => fX3_plotSheaf_s108 N c65 (fX3_plotSheaf_l108 N c65 n) v1 v2 v3 v4 v5 σ
theorem aX3_plotSheaf_l108 (N : Nat) (c65 : Int32 → Int32 → Int32 → Int32 → qMem → Option qMem) (hc65 : ∀ (v1 : Int32) (v2 : Int32) (v3 : Int32) (v4 : Int32) (σ : qMem), qAt wC mX3_plotSheaf (ρv) 65 [(0, .ref 44), (1, .int v1), (2, .int v2), (3, .int v3), (4, .int v4)] [] σ (c65 v1 v2 v3 v4 σ)) : ∀ (n : Nat) (v1 : Int32) (v2 : Int32) (v3 : Int32) (v4 : Int32) (v5 : Int32) (σ : qMem), qAt wC mX3_plotSheaf (ρv) 108 [(0, .ref 44), (1, .int v1), (2, .int v2), (3, .int v3), (4, .int v4), (5, .int v5)] [] σ (fX3_plotSheaf_l108 N c65 n v1 v2 v3 v4 v5 σ) := by
  intro n
  induction n with
  | zero => intro v1 v2 v3 v4 v5 σ; exact q_none
  | succ n ih => intro v1 v2 v3 v4 v5 σ; exact aX3_plotSheaf_s108 N c65 hc65 (fX3_plotSheaf_l108 N c65 n) ih v1 v2 v3 v4 v5 σ

def fX3_plotSheaf_s65 (N : Nat) (c65 : Int32 → Int32 → Int32 → Int32 → qMem → Option qMem) (v1 : Int32) (v2 : Int32) (v3 : Int32) (v4 : Int32) (σ : qMem) : Option qMem :=
  (if v2 = 0 then (some σ) else (if v3 < v4 then (some σ) else (if cpOK 0 0 7 7 7 = true then (nmM (cp σ 64 65 0 0 7) fun s5 => ((fX3_narrow N 65 1 v4 v1 s5).bind fun y6 => (if y6.1 = 0 then (fX3_plotSheaf_b143 N c65 v1 v2 v3 v4 y6.2) else (fX3_plotSheaf_l108 N c65 N v1 v2 v3 v4 0 y6.2)))) else none)))
set_option maxRecDepth 20000 in
set_option maxHeartbeats 4000000 in
theorem aX3_plotSheaf_s65 (N : Nat) (c65 : Int32 → Int32 → Int32 → Int32 → qMem → Option qMem) (hc65 : ∀ (v1 : Int32) (v2 : Int32) (v3 : Int32) (v4 : Int32) (σ : qMem), qAt wC mX3_plotSheaf (ρv) 65 [(0, .ref 44), (1, .int v1), (2, .int v2), (3, .int v3), (4, .int v4)] [] σ (c65 v1 v2 v3 v4 σ)) (v1 : Int32) (v2 : Int32) (v3 : Int32) (v4 : Int32) (σ : qMem) : qAt wC mX3_plotSheaf (ρv) 65 [(0, .ref 44), (1, .int v1), (2, .int v2), (3, .int v3), (4, .int v4)] [] σ (fX3_plotSheaf_s65 N c65 v1 v2 v3 v4 σ) := by
  unfold fX3_plotSheaf_s65
  refine q_iload_n (i := 2) (x := v2) dX3_plotSheaf_65 rfl 2 rfl ?_
  refine q_if_eq (tgt := 149) dX3_plotSheaf_66 (by decide) ?_ ?_
  · exact q_vret (y := σ) dX3_plotSheaf_149 rfl rfl
  refine q_iload (i := 4) (x := v4) dX3_plotSheaf_69 4 rfl ?_
  refine q_iload_n (i := 3) (x := v3) dX3_plotSheaf_71 rfl 3 rfl ?_
  refine q_icmp_gt (tgt := 149) dX3_plotSheaf_72 (by decide) ?_ ?_
  · exact q_vret (y := σ) dX3_plotSheaf_149 rfl rfl
  refine q_aload_n (i := 0) (x := 44) dX3_plotSheaf_75 rfl 0 rfl ?_
  refine q_getr (t := 64) dX3_plotSheaf_76 foX3_48 zC_44 rfl ?_
  refine q_iconst (v := 0) dX3_plotSheaf_79 (by decide) ?_
  refine q_aload_n (i := 0) (x := 44) dX3_plotSheaf_80 rfl 0 rfl ?_
  refine q_getr (t := 65) dX3_plotSheaf_81 foX3_51 zC_44 rfl ?_
  refine q_iconst (v := 0) dX3_plotSheaf_84 (by decide) ?_
  refine q_bipush (v := 7) dX3_plotSheaf_85 (by decide) ?_
  refine q_copy dX3_plotSheaf_87 (cplX3_214) cp_nat cp_st cp_in zC_64 zC_65 ⟨Nat.le_of_ble_eq_true rfl, Nat.le_of_ble_eq_true rfl⟩ ?_
  refine q_nmM (fun s5 => ?_)
  refine q_aload_n (i := 0) (x := 44) dX3_plotSheaf_90 rfl 0 rfl ?_
  refine q_aload_n (i := 0) (x := 44) dX3_plotSheaf_91 rfl 0 rfl ?_
  refine q_getr (t := 65) dX3_plotSheaf_92 foX3_51 zC_44 rfl ?_
  refine q_iconst (v := 1) dX3_plotSheaf_95 (by decide) ?_
  refine q_iload (i := 4) (x := v4) dX3_plotSheaf_96 4 rfl ?_
  refine q_iload_n (i := 1) (x := v1) dX3_plotSheaf_98 rfl 1 rfl ?_
  refine q_cVi mX3_narrow [.ref 65, .int 1, .int v4, .int v1] (st := []) dX3_plotSheaf_99 (svX3_210) ⟨Nat.le_of_ble_eq_true rfl, Nat.le_of_ble_eq_true rfl⟩ zC_44 rfl rfl rfl (Nat.le_of_ble_eq_true rfl) (kX3_narrow N 65 1 v4 v1 zC_65 s5) (fun y6 => ?_)
  refine q_if_eq (tgt := 143) dX3_plotSheaf_102 (by decide) ?_ ?_
  · exact q_sub [0, 1, 2, 3, 4] rfl (aX3_plotSheaf_b143 N c65 hc65 v1 v2 v3 v4 y6.2)
  refine q_iconst (v := 0) dX3_plotSheaf_105 (by decide) ?_
  refine q_istore (i := 5) (L' := [(5, .int 0), (0, .ref 44), (1, .int v1), (2, .int v2), (3, .int v3), (4, .int v4)]) dX3_plotSheaf_106 (Nat.le_of_ble_eq_true rfl) rfl ?_
  exact q_sub [1, 2, 3, 4, 5, 0] rfl (aX3_plotSheaf_l108 N c65 hc65 N v1 v2 v3 v4 0 y6.2)
def fX3_plotSheaf_l65 (N : Nat) : Nat → Int32 → Int32 → Int32 → Int32 → qMem → Option qMem
  | 0 => fun _ _ _ _ _ => none
  | n + 1 => fun v1 v2 v3 v4 σ => fX3_plotSheaf_s65 N (fX3_plotSheaf_l65 N n) v1 v2 v3 v4 σ
theorem aX3_plotSheaf_l65 (N : Nat) : ∀ (n : Nat) (v1 : Int32) (v2 : Int32) (v3 : Int32) (v4 : Int32) (σ : qMem), qAt wC mX3_plotSheaf (ρv) 65 [(0, .ref 44), (1, .int v1), (2, .int v2), (3, .int v3), (4, .int v4)] [] σ (fX3_plotSheaf_l65 N n v1 v2 v3 v4 σ) := by
  intro n
  induction n with
  | zero => intro v1 v2 v3 v4 σ; exact q_none
  | succ n ih => intro v1 v2 v3 v4 σ; exact aX3_plotSheaf_s65 N (fX3_plotSheaf_l65 N n) ih v1 v2 v3 v4 σ

def fX3_plotSheaf (N : Nat) (p1 : Int32) (σ : qMem) : Option qMem :=
  ((fJ7_fill_53178 N 64 7 (-1) σ).bind fun y1 => ((fX3_narrow N 64 0 0 p1 y1).bind fun y2 => (if (gi y2.2 48 3) = 0 then (if cpOK 0 (p1 * 7) 7 7 1568 = true then (nmM (cp y2.2 64 61 0 (p1 * 7) 7) fun s4 => (some s4)) else none) else (if ck 2 6 = true then (nmI (gi y2.2 18 (2 : Int32).toNatClampNeg) fun x3 => (fX3_plotSheaf_l65 N N p1 y2.1 x3 (-x3) y2.2)) else none))))
set_option maxRecDepth 20000 in
set_option maxHeartbeats 4000000 in
theorem aX3_plotSheaf  (N : Nat) (p1 : Int32)  (σ : qMem) : qAt wC mX3_plotSheaf (ρv) 0 [(0, .ref 44), (1, .int p1)] [] σ (fX3_plotSheaf N p1 σ) := by
  unfold fX3_plotSheaf
  refine q_aload_n (i := 0) (x := 44) dX3_plotSheaf_0 rfl 0 rfl ?_
  refine q_getr (t := 64) dX3_plotSheaf_1 foX3_48 zC_44 rfl ?_
  refine q_iconst (v := (-1)) dX3_plotSheaf_4 (by decide) ?_
  refine q_cSv mJ7_fill_53178 [.ref 64, .int (-1)] (st := []) dX3_plotSheaf_5 (ssX3_182) ⟨Nat.le_of_ble_eq_true rfl, Nat.le_of_ble_eq_true rfl⟩ rfl rfl (Nat.le_of_ble_eq_true rfl) (kJ7_fill_53178 N 64 7 (-1) zC_64 σ) (fun y1 => ?_)
  refine q_aload_n (i := 0) (x := 44) dX3_plotSheaf_8 rfl 0 rfl ?_
  refine q_aload_n (i := 0) (x := 44) dX3_plotSheaf_9 rfl 0 rfl ?_
  refine q_getr (t := 64) dX3_plotSheaf_10 foX3_48 zC_44 rfl ?_
  refine q_iconst (v := 0) dX3_plotSheaf_13 (by decide) ?_
  refine q_iconst (v := 0) dX3_plotSheaf_14 (by decide) ?_
  refine q_iload_n (i := 1) (x := p1) dX3_plotSheaf_15 rfl 1 rfl ?_
  refine q_cVi mX3_narrow [.ref 64, .int 0, .int 0, .int p1] (st := []) dX3_plotSheaf_16 (svX3_210) ⟨Nat.le_of_ble_eq_true rfl, Nat.le_of_ble_eq_true rfl⟩ zC_44 rfl rfl rfl (Nat.le_of_ble_eq_true rfl) (kX3_narrow N 64 0 0 p1 zC_64 y1) (fun y2 => ?_)
  refine q_istore_n (i := 2) (L' := [(2, .int y2.1), (0, .ref 44), (1, .int p1)]) dX3_plotSheaf_19 rfl (Nat.le_of_ble_eq_true rfl) rfl ?_
  refine q_aload_n (i := 0) (x := 44) dX3_plotSheaf_20 rfl 1 rfl ?_
  refine q_getr (t := 45) dX3_plotSheaf_21 foX3_14 zC_44 rfl ?_
  refine q_iconst (v := 1) dX3_plotSheaf_24 (by decide) ?_
  refine q_aaldC (t0 := 7) (j := 1) (t := 48) dX3_plotSheaf_25 zC_45 (fun _ => rfl) (by decide) (by decide) rfl ?_
  refine q_geti dX3_plotSheaf_26 foX3_84 zC_48 rfl ?_
  refine q_if_ne (tgt := 51) dX3_plotSheaf_29 (by decide) ?_ ?_
  · refine q_aload_n (i := 0) (x := 44) dX3_plotSheaf_51 rfl 1 rfl ?_
    refine q_getr (t := 1) dX3_plotSheaf_52 foX3_80 zC_44 rfl ?_
    refine q_getr (t := 18) dX3_plotSheaf_55 foX3_104 zC_1 rfl ?_
    refine q_iconst (v := 2) dX3_plotSheaf_58 (by decide) ?_
    refine q_iald dX3_plotSheaf_59 zC_18 ?_
    refine q_nmI (fun x3 => ?_)
    refine q_istore_n (i := 3) (L' := [(3, .int x3), (2, .int y2.1), (0, .ref 44), (1, .int p1)]) dX3_plotSheaf_60 rfl (Nat.le_of_ble_eq_true rfl) rfl ?_
    refine q_iload_n (i := 3) (x := x3) dX3_plotSheaf_61 rfl 0 rfl ?_
    refine q_ineg dX3_plotSheaf_62 ?_
    refine q_istore (i := 4) (L' := [(4, .int (-x3)), (3, .int x3), (2, .int y2.1), (0, .ref 44), (1, .int p1)]) dX3_plotSheaf_63 (Nat.le_of_ble_eq_true rfl) rfl ?_
    exact q_sub [3, 4, 2, 1, 0] rfl (aX3_plotSheaf_l65 N N p1 y2.1 x3 (-x3) y2.2)
  refine q_aload_n (i := 0) (x := 44) dX3_plotSheaf_32 rfl 1 rfl ?_
  refine q_getr (t := 64) dX3_plotSheaf_33 foX3_48 zC_44 rfl ?_
  refine q_iconst (v := 0) dX3_plotSheaf_36 (by decide) ?_
  refine q_aload_n (i := 0) (x := 44) dX3_plotSheaf_37 rfl 1 rfl ?_
  refine q_getr (t := 61) dX3_plotSheaf_38 foX3_35 zC_44 rfl ?_
  refine q_iload_n (i := 1) (x := p1) dX3_plotSheaf_41 rfl 2 rfl ?_
  refine q_bipush (v := 7) dX3_plotSheaf_42 (by decide) ?_
  refine q_imul dX3_plotSheaf_44 ?_
  refine q_bipush (v := 7) dX3_plotSheaf_45 (by decide) ?_
  refine q_copy dX3_plotSheaf_47 (cplX3_214) cp_nat cp_st cp_in zC_64 zC_61 ⟨Nat.le_of_ble_eq_true rfl, Nat.le_of_ble_eq_true rfl⟩ ?_
  refine q_nmM (fun s4 => ?_)
  exact q_vret (y := s4) dX3_plotSheaf_50 rfl rfl
theorem kX3_plotSheaf  (N : Nat) (p1 : Int32)  (σ : qMem) : qMc wC mX3_plotSheaf (ρv) [.ref 44, .int p1] σ (fX3_plotSheaf N p1 σ) := qMc_of (moX3_plotSheaf) (Nat.le_of_ble_eq_true rfl) (aX3_plotSheaf N p1  σ)

