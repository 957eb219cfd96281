theorem dX11_echo_0 : decode cX11_echo 0 = .ok (.iload_n 2, 1) := by decide +kernel
theorem dX11_echo_1 : decode cX11_echo 1 = .ok (.invokestatic 117, 3) := by decide +kernel
theorem dX11_echo_4 : decode cX11_echo 4 = .ok (.ifCond .eq 13, 3) := by decide +kernel
theorem dX11_echo_7 : decode cX11_echo 7 = .ok (.iload_n 3, 1) := by decide +kernel
theorem dX11_echo_8 : decode cX11_echo 8 = .ok (.iconst 0, 1) := by decide +kernel
theorem dX11_echo_9 : decode cX11_echo 9 = .ok (.bipush 99, 2) := by decide +kernel
theorem dX11_echo_11 : decode cX11_echo 11 = .ok (.invokestatic 83, 3) := by decide +kernel
theorem dX11_echo_14 : decode cX11_echo 14 = .ok (.ifCond .ne 9, 3) := by decide +kernel
theorem dX11_echo_17 : decode cX11_echo 17 = .ok (.aload_n 0, 1) := by decide +kernel
theorem dX11_echo_18 : decode cX11_echo 18 = .ok (.iconst (-1), 1) := by decide +kernel
theorem dX11_echo_19 : decode cX11_echo 19 = .ok (.invokevirtual 87, 3) := by decide +kernel
theorem dX11_echo_22 : decode cX11_echo 22 = .ok (.ireturn, 1) := by decide +kernel
theorem dX11_echo_23 : decode cX11_echo 23 = .ok (.iload_n 1, 1) := by decide +kernel
theorem dX11_echo_24 : decode cX11_echo 24 = .ok (.invokestatic 91, 3) := by decide +kernel
theorem dX11_echo_27 : decode cX11_echo 27 = .ok (.ifCond .ne 10, 3) := by decide +kernel
theorem dX11_echo_30 : decode cX11_echo 30 = .ok (.aload_n 0, 1) := by decide +kernel
theorem dX11_echo_31 : decode cX11_echo 31 = .ok (.bipush (-2), 2) := by decide +kernel
theorem dX11_echo_33 : decode cX11_echo 33 = .ok (.invokevirtual 87, 3) := by decide +kernel
theorem dX11_echo_36 : decode cX11_echo 36 = .ok (.ireturn, 1) := by decide +kernel
theorem dX11_echo_37 : decode cX11_echo 37 = .ok (.aload_n 0, 1) := by decide +kernel
theorem dX11_echo_38 : decode cX11_echo 38 = .ok (.aload_n 0, 1) := by decide +kernel
theorem dX11_echo_39 : decode cX11_echo 39 = .ok (.getfield 12, 3) := by decide +kernel
theorem dX11_echo_42 : decode cX11_echo 42 = .ok (.getfield 191, 3) := by decide +kernel
theorem dX11_echo_45 : decode cX11_echo 45 = .ok (.iload_n 1, 1) := by decide +kernel
theorem dX11_echo_46 : decode cX11_echo 46 = .ok (.iload_n 2, 1) := by decide +kernel
theorem dX11_echo_47 : decode cX11_echo 47 = .ok (.iload_n 3, 1) := by decide +kernel
theorem dX11_echo_48 : decode cX11_echo 48 = .ok (.iconst 0, 1) := by decide +kernel
theorem dX11_echo_49 : decode cX11_echo 49 = .ok (.iconst 0, 1) := by decide +kernel
theorem dX11_echo_50 : decode cX11_echo 50 = .ok (.invokevirtual 187, 3) := by decide +kernel
theorem dX11_echo_53 : decode cX11_echo 53 = .ok (.ireturn, 1) := by decide +kernel
def fX11_echo_b17 (σ : qMem) : Option (Int32 × qMem) :=
  ((fX11_refuse (-1) σ).bind fun y6 => (some (y6.1, y6.2)))
set_option maxRecDepth 20000 in
set_option maxHeartbeats 4000000 in
theorem aX11_echo_b17 (σ : qMem) : qAt wC mX11_echo (ρi) 17 [(0, .ref 0)] [] σ (fX11_echo_b17 σ) := by
  unfold fX11_echo_b17
  refine q_aload_n (i := 0) (x := 0) dX11_echo_17 rfl 0 rfl ?_
  refine q_iconst (v := (-1)) dX11_echo_18 (by decide) ?_
  refine q_cVi mX11_refuse [.int (-1)] (st := []) dX11_echo_19 (svX11_87) ⟨Nat.le_of_ble_eq_true rfl, Nat.le_of_ble_eq_true rfl⟩ zC_0 rfl rfl rfl (Nat.le_of_ble_eq_true rfl) (kX11_refuse (-1) σ) (fun y6 => ?_)
  exact q_ireti (y := (y6.1, y6.2)) dX11_echo_22 rfl rfl

def fX11_echo (p1 : Int32) (p2 : Int32) (p3 : Int32) (σ : qMem) : Option (Int32 × qMem) :=
  ((fX11_isBell p2).bind fun y1 => (if y1 = 0 then (fX11_echo_b17 σ) else ((fX11_isIn p3 0 99).bind fun y2 => (if y2 = 0 then (fX11_echo_b17 σ) else ((fX11_isBoat p1).bind fun y3 => (if y3 = 0 then ((fX11_refuse (-2) σ).bind fun y5 => (some (y5.1, y5.2))) else ((fX11_addChanging 21 36 p1 p2 p3 0 0 σ).bind fun y4 => (some (y4.1, y4.2)))))))))
set_option maxRecDepth 20000 in
set_option maxHeartbeats 4000000 in
theorem aX11_echo  (p1 : Int32) (p2 : Int32) (p3 : Int32)  (σ : qMem) : qAt wC mX11_echo (ρi) 0 [(0, .ref 0), (1, .int p1), (2, .int p2), (3, .int p3)] [] σ (fX11_echo p1 p2 p3 σ) := by
  unfold fX11_echo
  refine q_iload_n (i := 2) (x := p2) dX11_echo_0 rfl 2 rfl ?_
  refine q_cSp mX11_isBell [.int p2] (st := []) dX11_echo_1 (ssX11_117) ⟨Nat.le_of_ble_eq_true rfl, Nat.le_of_ble_eq_true rfl⟩ rfl rfl (Nat.le_of_ble_eq_true rfl) (kX11_isBell p2 σ) (fun y1 => ?_)
  refine q_if_eq (tgt := 17) dX11_echo_4 (by decide) ?_ ?_
  · exact q_sub [0] rfl (aX11_echo_b17 σ)
  refine q_iload_n (i := 3) (x := p3) dX11_echo_7 rfl 3 rfl ?_
  refine q_iconst (v := 0) dX11_echo_8 (by decide) ?_
  refine q_bipush (v := 99) dX11_echo_9 (by decide) ?_
  refine q_cSp mX11_isIn [.int p3, .int 0, .int 99] (st := []) dX11_echo_11 (ssX11_83) ⟨Nat.le_of_ble_eq_true rfl, Nat.le_of_ble_eq_true rfl⟩ rfl rfl (Nat.le_of_ble_eq_true rfl) (kX11_isIn p3 0 99 σ) (fun y2 => ?_)
  refine q_if_ne (tgt := 23) dX11_echo_14 (by decide) ?_ ?_
  · refine q_iload_n (i := 1) (x := p1) dX11_echo_23 rfl 1 rfl ?_
    refine q_cSp mX11_isBoat [.int p1] (st := []) dX11_echo_24 (ssX11_91) ⟨Nat.le_of_ble_eq_true rfl, Nat.le_of_ble_eq_true rfl⟩ rfl rfl (Nat.le_of_ble_eq_true rfl) (kX11_isBoat p1 σ) (fun y3 => ?_)
    refine q_if_ne (tgt := 37) dX11_echo_27 (by decide) ?_ ?_
    · refine q_aload_n (i := 0) (x := 0) dX11_echo_37 rfl 0 rfl ?_
      refine q_aload_n (i := 0) (x := 0) dX11_echo_38 rfl 0 rfl ?_
      refine q_getr (t := 1) dX11_echo_39 foX11_12 zC_0 rfl ?_
      refine q_getr (t := 21) dX11_echo_42 foX11_191 zC_1 rfl ?_
      refine q_iload_n (i := 1) (x := p1) dX11_echo_45 rfl 1 rfl ?_
      refine q_iload_n (i := 2) (x := p2) dX11_echo_46 rfl 2 rfl ?_
      refine q_iload_n (i := 3) (x := p3) dX11_echo_47 rfl 3 rfl ?_
      refine q_iconst (v := 0) dX11_echo_48 (by decide) ?_
      refine q_iconst (v := 0) dX11_echo_49 (by decide) ?_
      refine q_cVi mX11_addChanging [.ref 21, .int p1, .int p2, .int p3, .int 0, .int 0] (st := []) dX11_echo_50 (svX11_187) ⟨Nat.le_of_ble_eq_true rfl, Nat.le_of_ble_eq_true rfl⟩ zC_0 rfl rfl rfl (Nat.le_of_ble_eq_true rfl) (kX11_addChanging 21 36 p1 p2 p3 0 0 pC_21 σ) (fun y4 => ?_)
      exact q_ireti (y := (y4.1, y4.2)) dX11_echo_53 rfl rfl
    refine q_aload_n (i := 0) (x := 0) dX11_echo_30 rfl 0 rfl ?_
    refine q_bipush (v := (-2)) dX11_echo_31 (by decide) ?_
    refine q_cVi mX11_refuse [.int (-2)] (st := []) dX11_echo_33 (svX11_87) ⟨Nat.le_of_ble_eq_true rfl, Nat.le_of_ble_eq_true rfl⟩ zC_0 rfl rfl rfl (Nat.le_of_ble_eq_true rfl) (kX11_refuse (-2) σ) (fun y5 => ?_)
    exact q_ireti (y := (y5.1, y5.2)) dX11_echo_36 rfl rfl
  exact q_sub [0] rfl (aX11_echo_b17 σ)
theorem kX11_echo  (p1 : Int32) (p2 : Int32) (p3 : Int32)  (σ : qMem) : qMc wC mX11_echo (ρi) [.ref 0, .int p1, .int p2, .int p3] σ (fX11_echo p1 p2 p3 σ) := qMc_of (moX11_echo) (Nat.le_of_ble_eq_true rfl) (aX11_echo p1 p2 p3  σ)

theorem dX11_wreck_0 : decode cX11_wreck 0 = .ok (.iload_n 1, 1) := by decide +kernel
theorem dX11_wreck_1 : decode cX11_wreck 1 = .ok (.iload_n 2, 1) := by decide +kernel
theorem dX11_wreck_2 : decode cX11_wreck 2 = .ok (.invokestatic 79, 3) := by decide +kernel
theorem dX11_wreck_5 : decode cX11_wreck 5 = .ok (.ifCond .ne 9, 3) := by decide +kernel
theorem dX11_wreck_8 : decode cX11_wreck 8 = .ok (.aload_n 0, 1) := by decide +kernel
theorem dX11_wreck_9 : decode cX11_wreck 9 = .ok (.iconst (-1), 1) := by decide +kernel
theorem dX11_wreck_10 : decode cX11_wreck 10 = .ok (.invokevirtual 87, 3) := by decide +kernel
theorem dX11_wreck_13 : decode cX11_wreck 13 = .ok (.ireturn, 1) := by decide +kernel
theorem dX11_wreck_14 : decode cX11_wreck 14 = .ok (.aload_n 0, 1) := by decide +kernel
theorem dX11_wreck_15 : decode cX11_wreck 15 = .ok (.aload_n 0, 1) := by decide +kernel
theorem dX11_wreck_16 : decode cX11_wreck 16 = .ok (.getfield 12, 3) := by decide +kernel
theorem dX11_wreck_19 : decode cX11_wreck 19 = .ok (.getfield 194, 3) := by decide +kernel
theorem dX11_wreck_22 : decode cX11_wreck 22 = .ok (.iload_n 1, 1) := by decide +kernel
theorem dX11_wreck_23 : decode cX11_wreck 23 = .ok (.iload_n 2, 1) := by decide +kernel
theorem dX11_wreck_24 : decode cX11_wreck 24 = .ok (.iconst 0, 1) := by decide +kernel
theorem dX11_wreck_25 : decode cX11_wreck 25 = .ok (.iconst 0, 1) := by decide +kernel
theorem dX11_wreck_26 : decode cX11_wreck 26 = .ok (.bipush 23, 2) := by decide +kernel
theorem dX11_wreck_28 : decode cX11_wreck 28 = .ok (.invokevirtual 187, 3) := by decide +kernel
theorem dX11_wreck_31 : decode cX11_wreck 31 = .ok (.ireturn, 1) := by decide +kernel

def fX11_wreck (p1 : Int32) (p2 : Int32) (σ : qMem) : Option (Int32 × qMem) :=
  ((fX11_ofSea p1 p2).bind fun y1 => (if y1 = 0 then ((fX11_refuse (-1) σ).bind fun y3 => (some (y3.1, y3.2))) else ((fX11_addChanging 23 40 p1 p2 0 0 23 σ).bind fun y2 => (some (y2.1, y2.2)))))
set_option maxRecDepth 20000 in
set_option maxHeartbeats 4000000 in
theorem aX11_wreck  (p1 : Int32) (p2 : Int32)  (σ : qMem) : qAt wC mX11_wreck (ρi) 0 [(0, .ref 0), (1, .int p1), (2, .int p2)] [] σ (fX11_wreck p1 p2 σ) := by
  unfold fX11_wreck
  refine q_iload_n (i := 1) (x := p1) dX11_wreck_0 rfl 1 rfl ?_
  refine q_iload_n (i := 2) (x := p2) dX11_wreck_1 rfl 2 rfl ?_
  refine q_cSp mX11_ofSea [.int p1, .int p2] (st := []) dX11_wreck_2 (ssX11_79) ⟨Nat.le_of_ble_eq_true rfl, Nat.le_of_ble_eq_true rfl⟩ rfl rfl (Nat.le_of_ble_eq_true rfl) (kX11_ofSea p1 p2 σ) (fun y1 => ?_)
  refine q_if_ne (tgt := 14) dX11_wreck_5 (by decide) ?_ ?_
  · refine q_aload_n (i := 0) (x := 0) dX11_wreck_14 rfl 0 rfl ?_
    refine q_aload_n (i := 0) (x := 0) dX11_wreck_15 rfl 0 rfl ?_
    refine q_getr (t := 1) dX11_wreck_16 foX11_12 zC_0 rfl ?_
    refine q_getr (t := 23) dX11_wreck_19 foX11_194 zC_1 rfl ?_
    refine q_iload_n (i := 1) (x := p1) dX11_wreck_22 rfl 1 rfl ?_
    refine q_iload_n (i := 2) (x := p2) dX11_wreck_23 rfl 2 rfl ?_
    refine q_iconst (v := 0) dX11_wreck_24 (by decide) ?_
    refine q_iconst (v := 0) dX11_wreck_25 (by decide) ?_
    refine q_bipush (v := 23) dX11_wreck_26 (by decide) ?_
    refine q_cVi mX11_addChanging [.ref 23, .int p1, .int p2, .int 0, .int 0, .int 23] (st := []) dX11_wreck_28 (svX11_187) ⟨Nat.le_of_ble_eq_true rfl, Nat.le_of_ble_eq_true rfl⟩ zC_0 rfl rfl rfl (Nat.le_of_ble_eq_true rfl) (kX11_addChanging 23 40 p1 p2 0 0 23 pC_23 σ) (fun y2 => ?_)
    exact q_ireti (y := (y2.1, y2.2)) dX11_wreck_31 rfl rfl
  refine q_aload_n (i := 0) (x := 0) dX11_wreck_8 rfl 0 rfl ?_
  refine q_iconst (v := (-1)) dX11_wreck_9 (by decide) ?_
  refine q_cVi mX11_refuse [.int (-1)] (st := []) dX11_wreck_10 (svX11_87) ⟨Nat.le_of_ble_eq_true rfl, Nat.le_of_ble_eq_true rfl⟩ zC_0 rfl rfl rfl (Nat.le_of_ble_eq_true rfl) (kX11_refuse (-1) σ) (fun y3 => ?_)
  exact q_ireti (y := (y3.1, y3.2)) dX11_wreck_13 rfl rfl
theorem kX11_wreck  (p1 : Int32) (p2 : Int32)  (σ : qMem) : qMc wC mX11_wreck (ρi) [.ref 0, .int p1, .int p2] σ (fX11_wreck p1 p2 σ) := qMc_of (moX11_wreck) (Nat.le_of_ble_eq_true rfl) (aX11_wreck p1 p2  σ)

theorem dX11_shoal_0 : decode cX11_shoal 0 = .ok (.iload_n 1, 1) := by decide +kernel
theorem dX11_shoal_1 : decode cX11_shoal 1 = .ok (.iload_n 2, 1) := by decide +kernel
theorem dX11_shoal_2 : decode cX11_shoal 2 = .ok (.invokestatic 79, 3) := by decide +kernel
theorem dX11_shoal_5 : decode cX11_shoal 5 = .ok (.ifCond .eq 36, 3) := by decide +kernel
theorem dX11_shoal_8 : decode cX11_shoal 8 = .ok (.iload_n 3, 1) := by decide +kernel
theorem dX11_shoal_9 : decode cX11_shoal 9 = .ok (.iconst 0, 1) := by decide +kernel
theorem dX11_shoal_10 : decode cX11_shoal 10 = .ok (.bipush 9, 2) := by decide +kernel
theorem dX11_shoal_12 : decode cX11_shoal 12 = .ok (.invokestatic 83, 3) := by decide +kernel
theorem dX11_shoal_15 : decode cX11_shoal 15 = .ok (.ifCond .eq 26, 3) := by decide +kernel
theorem dX11_shoal_18 : decode cX11_shoal 18 = .ok (.iload 4, 2) := by decide +kernel
theorem dX11_shoal_20 : decode cX11_shoal 20 = .ok (.invokestatic 117, 3) := by decide +kernel
theorem dX11_shoal_23 : decode cX11_shoal 23 = .ok (.ifCond .eq 18, 3) := by decide +kernel
theorem dX11_shoal_26 : decode cX11_shoal 26 = .ok (.iload 5, 2) := by decide +kernel
theorem dX11_shoal_28 : decode cX11_shoal 28 = .ok (.invokestatic 117, 3) := by decide +kernel
theorem dX11_shoal_31 : decode cX11_shoal 31 = .ok (.ifCond .eq 10, 3) := by decide +kernel
theorem dX11_shoal_34 : decode cX11_shoal 34 = .ok (.iload 5, 2) := by decide +kernel
theorem dX11_shoal_36 : decode cX11_shoal 36 = .ok (.iload 4, 2) := by decide +kernel
theorem dX11_shoal_38 : decode cX11_shoal 38 = .ok (.if_icmp .ge 9, 3) := by decide +kernel
theorem dX11_shoal_41 : decode cX11_shoal 41 = .ok (.aload_n 0, 1) := by decide +kernel
theorem dX11_shoal_42 : decode cX11_shoal 42 = .ok (.iconst (-1), 1) := by decide +kernel
theorem dX11_shoal_43 : decode cX11_shoal 43 = .ok (.invokevirtual 87, 3) := by decide +kernel
theorem dX11_shoal_46 : decode cX11_shoal 46 = .ok (.ireturn, 1) := by decide +kernel
theorem dX11_shoal_47 : decode cX11_shoal 47 = .ok (.aload_n 0, 1) := by decide +kernel
theorem dX11_shoal_48 : decode cX11_shoal 48 = .ok (.aload_n 0, 1) := by decide +kernel
theorem dX11_shoal_49 : decode cX11_shoal 49 = .ok (.getfield 12, 3) := by decide +kernel
theorem dX11_shoal_52 : decode cX11_shoal 52 = .ok (.getfield 197, 3) := by decide +kernel
theorem dX11_shoal_55 : decode cX11_shoal 55 = .ok (.iload_n 1, 1) := by decide +kernel
theorem dX11_shoal_56 : decode cX11_shoal 56 = .ok (.iload_n 2, 1) := by decide +kernel
theorem dX11_shoal_57 : decode cX11_shoal 57 = .ok (.iload_n 3, 1) := by decide +kernel
theorem dX11_shoal_58 : decode cX11_shoal 58 = .ok (.iload 4, 2) := by decide +kernel
theorem dX11_shoal_60 : decode cX11_shoal 60 = .ok (.iload 5, 2) := by decide +kernel
theorem dX11_shoal_62 : decode cX11_shoal 62 = .ok (.invokevirtual 187, 3) := by decide +kernel
theorem dX11_shoal_65 : decode cX11_shoal 65 = .ok (.ireturn, 1) := by decide +kernel
def fX11_shoal_b41 (σ : qMem) : Option (Int32 × qMem) :=
  ((fX11_refuse (-1) σ).bind fun y6 => (some (y6.1, y6.2)))
set_option maxRecDepth 20000 in
set_option maxHeartbeats 4000000 in
theorem aX11_shoal_b41 (σ : qMem) : qAt wC mX11_shoal (ρi) 41 [(0, .ref 0)] [] σ (fX11_shoal_b41 σ) := by
  unfold fX11_shoal_b41
  refine q_aload_n (i := 0) (x := 0) dX11_shoal_41 rfl 0 rfl ?_
  refine q_iconst (v := (-1)) dX11_shoal_42 (by decide) ?_
  refine q_cVi mX11_refuse [.int (-1)] (st := []) dX11_shoal_43 (svX11_87) ⟨Nat.le_of_ble_eq_true rfl, Nat.le_of_ble_eq_true rfl⟩ zC_0 rfl rfl rfl (Nat.le_of_ble_eq_true rfl) (kX11_refuse (-1) σ) (fun y6 => ?_)
  exact q_ireti (y := (y6.1, y6.2)) dX11_shoal_46 rfl rfl

def fX11_shoal (p1 : Int32) (p2 : Int32) (p3 : Int32) (p4 : Int32) (p5 : Int32) (σ : qMem) : Option (Int32 × qMem) :=
  ((fX11_ofSea p1 p2).bind fun y1 => (if y1 = 0 then (fX11_shoal_b41 σ) else ((fX11_isIn p3 0 9).bind fun y2 => (if y2 = 0 then (fX11_shoal_b41 σ) else ((fX11_isBell p4).bind fun y3 => (if y3 = 0 then (fX11_shoal_b41 σ) else ((fX11_isBell p5).bind fun y4 => (if y4 = 0 then (fX11_shoal_b41 σ) else (if p4 ≤ p5 then ((fX11_addChanging 25 30 p1 p2 p3 p4 p5 σ).bind fun y5 => (some (y5.1, y5.2))) else (fX11_shoal_b41 σ))))))))))
set_option maxRecDepth 20000 in
set_option maxHeartbeats 4000000 in
theorem aX11_shoal  (p1 : Int32) (p2 : Int32) (p3 : Int32) (p4 : Int32) (p5 : Int32)  (σ : qMem) : qAt wC mX11_shoal (ρi) 0 [(0, .ref 0), (1, .int p1), (2, .int p2), (3, .int p3), (4, .int p4), (5, .int p5)] [] σ (fX11_shoal p1 p2 p3 p4 p5 σ) := by
  unfold fX11_shoal
  refine q_iload_n (i := 1) (x := p1) dX11_shoal_0 rfl 1 rfl ?_
  refine q_iload_n (i := 2) (x := p2) dX11_shoal_1 rfl 2 rfl ?_
  refine q_cSp mX11_ofSea [.int p1, .int p2] (st := []) dX11_shoal_2 (ssX11_79) ⟨Nat.le_of_ble_eq_true rfl, Nat.le_of_ble_eq_true rfl⟩ rfl rfl (Nat.le_of_ble_eq_true rfl) (kX11_ofSea p1 p2 σ) (fun y1 => ?_)
  refine q_if_eq (tgt := 41) dX11_shoal_5 (by decide) ?_ ?_
  · exact q_sub [0] rfl (aX11_shoal_b41 σ)
  refine q_iload_n (i := 3) (x := p3) dX11_shoal_8 rfl 3 rfl ?_
  refine q_iconst (v := 0) dX11_shoal_9 (by decide) ?_
  refine q_bipush (v := 9) dX11_shoal_10 (by decide) ?_
  refine q_cSp mX11_isIn [.int p3, .int 0, .int 9] (st := []) dX11_shoal_12 (ssX11_83) ⟨Nat.le_of_ble_eq_true rfl, Nat.le_of_ble_eq_true rfl⟩ rfl rfl (Nat.le_of_ble_eq_true rfl) (kX11_isIn p3 0 9 σ) (fun y2 => ?_)
  refine q_if_eq (tgt := 41) dX11_shoal_15 (by decide) ?_ ?_
  · exact q_sub [0] rfl (aX11_shoal_b41 σ)
  refine q_iload (i := 4) (x := p4) dX11_shoal_18 4 rfl ?_
  refine q_cSp mX11_isBell [.int p4] (st := []) dX11_shoal_20 (ssX11_117) ⟨Nat.le_of_ble_eq_true rfl, Nat.le_of_ble_eq_true rfl⟩ rfl rfl (Nat.le_of_ble_eq_true rfl) (kX11_isBell p4 σ) (fun y3 => ?_)
  refine q_if_eq (tgt := 41) dX11_shoal_23 (by decide) ?_ ?_
  · exact q_sub [0] rfl (aX11_shoal_b41 σ)
  refine q_iload (i := 5) (x := p5) dX11_shoal_26 5 rfl ?_
  refine q_cSp mX11_isBell [.int p5] (st := []) dX11_shoal_28 (ssX11_117) ⟨Nat.le_of_ble_eq_true rfl, Nat.le_of_ble_eq_true rfl⟩ rfl rfl (Nat.le_of_ble_eq_true rfl) (kX11_isBell p5 σ) (fun y4 => ?_)
  refine q_if_eq (tgt := 41) dX11_shoal_31 (by decide) ?_ ?_
  · exact q_sub [0] rfl (aX11_shoal_b41 σ)
  refine q_iload (i := 5) (x := p5) dX11_shoal_34 5 rfl ?_
  refine q_iload (i := 4) (x := p4) dX11_shoal_36 4 rfl ?_
  refine q_icmp_ge (tgt := 47) dX11_shoal_38 (by decide) ?_ ?_
  · refine q_aload_n (i := 0) (x := 0) dX11_shoal_47 rfl 0 rfl ?_
    refine q_aload_n (i := 0) (x := 0) dX11_shoal_48 rfl 0 rfl ?_
    refine q_getr (t := 1) dX11_shoal_49 foX11_12 zC_0 rfl ?_
    refine q_getr (t := 25) dX11_shoal_52 foX11_197 zC_1 rfl ?_
    refine q_iload_n (i := 1) (x := p1) dX11_shoal_55 rfl 1 rfl ?_
    refine q_iload_n (i := 2) (x := p2) dX11_shoal_56 rfl 2 rfl ?_
    refine q_iload_n (i := 3) (x := p3) dX11_shoal_57 rfl 3 rfl ?_
    refine q_iload (i := 4) (x := p4) dX11_shoal_58 4 rfl ?_
    refine q_iload (i := 5) (x := p5) dX11_shoal_60 5 rfl ?_
    refine q_cVi mX11_addChanging [.ref 25, .int p1, .int p2, .int p3, .int p4, .int p5] (st := []) dX11_shoal_62 (svX11_187) ⟨Nat.le_of_ble_eq_true rfl, Nat.le_of_ble_eq_true rfl⟩ zC_0 rfl rfl rfl (Nat.le_of_ble_eq_true rfl) (kX11_addChanging 25 30 p1 p2 p3 p4 p5 pC_25 σ) (fun y5 => ?_)
    exact q_ireti (y := (y5.1, y5.2)) dX11_shoal_65 rfl rfl
  exact q_sub [0] rfl (aX11_shoal_b41 σ)
theorem kX11_shoal  (p1 : Int32) (p2 : Int32) (p3 : Int32) (p4 : Int32) (p5 : Int32)  (σ : qMem) : qMc wC mX11_shoal (ρi) [.ref 0, .int p1, .int p2, .int p3, .int p4, .int p5] σ (fX11_shoal p1 p2 p3 p4 p5 σ) := qMc_of (moX11_shoal) (Nat.le_of_ble_eq_true rfl) (aX11_shoal p1 p2 p3 p4 p5  σ)

theorem dX11_known_0 : decode cX11_known 0 = .ok (.iload_n 1, 1) := by decide +kernel
theorem dX11_known_1 : decode cX11_known 1 = .ok (.ifCond .ne 42, 3) := by decide +kernel
theorem dX11_known_4 : decode cX11_known 4 = .ok (.iload_n 2, 1) := by decide +kernel
theorem dX11_known_5 : decode cX11_known 5 = .ok (.iconst 0, 1) := by decide +kernel
theorem dX11_known_6 : decode cX11_known 6 = .ok (.aload_n 0, 1) := by decide +kernel
theorem dX11_known_7 : decode cX11_known 7 = .ok (.getfield 12, 3) := by decide +kernel
theorem dX11_known_10 : decode cX11_known 10 = .ok (.getfield 184, 3) := by decide +kernel
theorem dX11_known_13 : decode cX11_known 13 = .ok (.getfield 105, 3) := by decide +kernel
theorem dX11_known_16 : decode cX11_known 16 = .ok (.iconst 1, 1) := by decide +kernel
theorem dX11_known_17 : decode cX11_known 17 = .ok (.isub, 1) := by decide +kernel
theorem dX11_known_18 : decode cX11_known 18 = .ok (.invokestatic 83, 3) := by decide +kernel
theorem dX11_known_21 : decode cX11_known 21 = .ok (.ifCond .eq 22, 3) := by decide +kernel
theorem dX11_known_24 : decode cX11_known 24 = .ok (.aload_n 0, 1) := by decide +kernel
theorem dX11_known_25 : decode cX11_known 25 = .ok (.getfield 29, 3) := by decide +kernel
theorem dX11_known_28 : decode cX11_known 28 = .ok (.invokevirtual 200, 3) := by decide +kernel
theorem dX11_known_31 : decode cX11_known 31 = .ok (.aload_n 0, 1) := by decide +kernel
theorem dX11_known_32 : decode cX11_known 32 = .ok (.getfield 29, 3) := by decide +kernel
theorem dX11_known_35 : decode cX11_known 35 = .ok (.getfield 203, 3) := by decide +kernel
theorem dX11_known_38 : decode cX11_known 38 = .ok (.iload_n 2, 1) := by decide +kernel
theorem dX11_known_39 : decode cX11_known 39 = .ok (.iushr, 1) := by decide +kernel
theorem dX11_known_40 : decode cX11_known 40 = .ok (.iconst 1, 1) := by decide +kernel
theorem dX11_known_41 : decode cX11_known 41 = .ok (.iand, 1) := by decide +kernel
theorem dX11_known_42 : decode cX11_known 42 = .ok (.ireturn, 1) := by decide +kernel
theorem dX11_known_43 : decode cX11_known 43 = .ok (.iload_n 1, 1) := by decide +kernel
theorem dX11_known_44 : decode cX11_known 44 = .ok (.iconst 1, 1) := by decide +kernel
theorem dX11_known_45 : decode cX11_known 45 = .ok (.if_icmp .ne 42, 3) := by decide +kernel
theorem dX11_known_48 : decode cX11_known 48 = .ok (.iload_n 2, 1) := by decide +kernel
theorem dX11_known_49 : decode cX11_known 49 = .ok (.iconst 0, 1) := by decide +kernel
theorem dX11_known_50 : decode cX11_known 50 = .ok (.aload_n 0, 1) := by decide +kernel
theorem dX11_known_51 : decode cX11_known 51 = .ok (.getfield 12, 3) := by decide +kernel
theorem dX11_known_54 : decode cX11_known 54 = .ok (.getfield 191, 3) := by decide +kernel
theorem dX11_known_57 : decode cX11_known 57 = .ok (.getfield 105, 3) := by decide +kernel
theorem dX11_known_60 : decode cX11_known 60 = .ok (.iconst 1, 1) := by decide +kernel
theorem dX11_known_61 : decode cX11_known 61 = .ok (.isub, 1) := by decide +kernel
theorem dX11_known_62 : decode cX11_known 62 = .ok (.invokestatic 83, 3) := by decide +kernel
theorem dX11_known_65 : decode cX11_known 65 = .ok (.ifCond .eq 22, 3) := by decide +kernel
theorem dX11_known_68 : decode cX11_known 68 = .ok (.aload_n 0, 1) := by decide +kernel
theorem dX11_known_69 : decode cX11_known 69 = .ok (.getfield 29, 3) := by decide +kernel
theorem dX11_known_72 : decode cX11_known 72 = .ok (.invokevirtual 200, 3) := by decide +kernel
theorem dX11_known_75 : decode cX11_known 75 = .ok (.aload_n 0, 1) := by decide +kernel
theorem dX11_known_76 : decode cX11_known 76 = .ok (.getfield 29, 3) := by decide +kernel
theorem dX11_known_79 : decode cX11_known 79 = .ok (.getfield 206, 3) := by decide +kernel
theorem dX11_known_82 : decode cX11_known 82 = .ok (.iload_n 2, 1) := by decide +kernel
theorem dX11_known_83 : decode cX11_known 83 = .ok (.iushr, 1) := by decide +kernel
theorem dX11_known_84 : decode cX11_known 84 = .ok (.iconst 1, 1) := by decide +kernel
theorem dX11_known_85 : decode cX11_known 85 = .ok (.iand, 1) := by decide +kernel
theorem dX11_known_86 : decode cX11_known 86 = .ok (.ireturn, 1) := by decide +kernel
theorem dX11_known_87 : decode cX11_known 87 = .ok (.iconst (-1), 1) := by decide +kernel
theorem dX11_known_88 : decode cX11_known 88 = .ok (.ireturn, 1) := by decide +kernel
def fX11_known_b43 (N : Nat) (v1 : Int32) (v2 : Int32) (σ : qMem) : Option (Int32 × qMem) :=
  (if v1 = 1 then ((fX11_isIn v2 0 ((gi σ 21 3) - 1)).bind fun y3 => (if y3 = 0 then (some ((-1), σ)) else ((fX3_sortOut N σ).bind fun y4 => (some (((ushr (gi y4 44 13) v2) &&& 1), y4))))) else (some ((-1), σ)))
set_option maxRecDepth 20000 in
set_option maxHeartbeats 4000000 in
theorem aX11_known_b43 (N : Nat) (v1 : Int32) (v2 : Int32) (σ : qMem) : qAt wC mX11_known (ρi) 43 [(0, .ref 0), (1, .int v1), (2, .int v2)] [] σ (fX11_known_b43 N v1 v2 σ) := by
  unfold fX11_known_b43
  refine q_iload_n (i := 1) (x := v1) dX11_known_43 rfl 1 rfl ?_
  refine q_iconst (v := 1) dX11_known_44 (by decide) ?_
  refine q_icmp_ne (tgt := 87) dX11_known_45 (by decide) ?_ ?_
  · refine q_iconst (v := (-1)) dX11_known_87 (by decide) ?_
    exact q_ireti (y := ((-1), σ)) dX11_known_88 rfl rfl
  refine q_iload_n (i := 2) (x := v2) dX11_known_48 rfl 2 rfl ?_
  refine q_iconst (v := 0) dX11_known_49 (by decide) ?_
  refine q_aload_n (i := 0) (x := 0) dX11_known_50 rfl 0 rfl ?_
  refine q_getr (t := 1) dX11_known_51 foX11_12 zC_0 rfl ?_
  refine q_getr (t := 21) dX11_known_54 foX11_191 zC_1 rfl ?_
  refine q_geti dX11_known_57 foX11_105 zC_21 rfl ?_
  refine q_iconst (v := 1) dX11_known_60 (by decide) ?_
  refine q_isub dX11_known_61 ?_
  refine q_cSp mX11_isIn [.int v2, .int 0, .int ((gi σ 21 3) - 1)] (st := []) dX11_known_62 (ssX11_83) ⟨Nat.le_of_ble_eq_true rfl, Nat.le_of_ble_eq_true rfl⟩ rfl rfl (Nat.le_of_ble_eq_true rfl) (kX11_isIn v2 0 ((gi σ 21 3) - 1) σ) (fun y3 => ?_)
  refine q_if_eq (tgt := 87) dX11_known_65 (by decide) ?_ ?_
  · refine q_iconst (v := (-1)) dX11_known_87 (by decide) ?_
    exact q_ireti (y := ((-1), σ)) dX11_known_88 rfl rfl
  refine q_aload_n (i := 0) (x := 0) dX11_known_68 rfl 0 rfl ?_
  refine q_getr (t := 44) dX11_known_69 foX11_29 zC_0 rfl ?_
  refine q_cVv mX3_sortOut [] (st := []) dX11_known_72 (svX11_200) ⟨Nat.le_of_ble_eq_true rfl, Nat.le_of_ble_eq_true rfl⟩ zC_44 rfl rfl rfl (Nat.le_of_ble_eq_true rfl) (kX3_sortOut N σ) (fun y4 => ?_)
  refine q_aload_n (i := 0) (x := 0) dX11_known_75 rfl 0 rfl ?_
  refine q_getr (t := 44) dX11_known_76 foX11_29 zC_0 rfl ?_
  refine q_geti dX11_known_79 foX11_206 zC_44 rfl ?_
  refine q_iload_n (i := 2) (x := v2) dX11_known_82 rfl 2 rfl ?_
  refine q_iushr dX11_known_83 ?_
  refine q_iconst (v := 1) dX11_known_84 (by decide) ?_
  refine q_iand dX11_known_85 ?_
  exact q_ireti (y := (((ushr (gi y4 44 13) v2) &&& 1), y4)) dX11_known_86 rfl rfl

def fX11_known (N : Nat) (p1 : Int32) (p2 : Int32) (σ : qMem) : Option (Int32 × qMem) :=
  (if p1 = 0 then ((fX11_isIn p2 0 ((gi σ 19 3) - 1)).bind fun y1 => (if y1 = 0 then (fX11_known_b43 N p1 p2 σ) else ((fX3_sortOut N σ).bind fun y2 => (some (((ushr (gi y2 44 12) p2) &&& 1), y2))))) else (fX11_known_b43 N p1 p2 σ))
set_option maxRecDepth 20000 in
set_option maxHeartbeats 4000000 in
theorem aX11_known  (N : Nat) (p1 : Int32) (p2 : Int32)  (σ : qMem) : qAt wC mX11_known (ρi) 0 [(0, .ref 0), (1, .int p1), (2, .int p2)] [] σ (fX11_known N p1 p2 σ) := by
  unfold fX11_known
  refine q_iload_n (i := 1) (x := p1) dX11_known_0 rfl 1 rfl ?_
  refine q_if_ne (tgt := 43) dX11_known_1 (by decide) ?_ ?_
  · exact q_sub [0, 1, 2] rfl (aX11_known_b43 N p1 p2 σ)
  refine q_iload_n (i := 2) (x := p2) dX11_known_4 rfl 2 rfl ?_
  refine q_iconst (v := 0) dX11_known_5 (by decide) ?_
  refine q_aload_n (i := 0) (x := 0) dX11_known_6 rfl 0 rfl ?_
  refine q_getr (t := 1) dX11_known_7 foX11_12 zC_0 rfl ?_
  refine q_getr (t := 19) dX11_known_10 foX11_184 zC_1 rfl ?_
  refine q_geti dX11_known_13 foX11_105 zC_19 rfl ?_
  refine q_iconst (v := 1) dX11_known_16 (by decide) ?_
  refine q_isub dX11_known_17 ?_
  refine q_cSp mX11_isIn [.int p2, .int 0, .int ((gi σ 19 3) - 1)] (st := []) dX11_known_18 (ssX11_83) ⟨Nat.le_of_ble_eq_true rfl, Nat.le_of_ble_eq_true rfl⟩ rfl rfl (Nat.le_of_ble_eq_true rfl) (kX11_isIn p2 0 ((gi σ 19 3) - 1) σ) (fun y1 => ?_)
  refine q_if_eq (tgt := 43) dX11_known_21 (by decide) ?_ ?_
  · exact q_sub [0, 1, 2] rfl (aX11_known_b43 N p1 p2 σ)
  refine q_aload_n (i := 0) (x := 0) dX11_known_24 rfl 0 rfl ?_
  refine q_getr (t := 44) dX11_known_25 foX11_29 zC_0 rfl ?_
  refine q_cVv mX3_sortOut [] (st := []) dX11_known_28 (svX11_200) ⟨Nat.le_of_ble_eq_true rfl, Nat.le_of_ble_eq_true rfl⟩ zC_44 rfl rfl rfl (Nat.le_of_ble_eq_true rfl) (kX3_sortOut N σ) (fun y2 => ?_)
  refine q_aload_n (i := 0) (x := 0) dX11_known_31 rfl 0 rfl ?_
  refine q_getr (t := 44) dX11_known_32 foX11_29 zC_0 rfl ?_
  refine q_geti dX11_known_35 foX11_203 zC_44 rfl ?_
  refine q_iload_n (i := 2) (x := p2) dX11_known_38 rfl 2 rfl ?_
  refine q_iushr dX11_known_39 ?_
  refine q_iconst (v := 1) dX11_known_40 (by decide) ?_
  refine q_iand dX11_known_41 ?_
  exact q_ireti (y := (((ushr (gi y2 44 12) p2) &&& 1), y2)) dX11_known_42 rfl rfl
theorem kX11_known  (N : Nat) (p1 : Int32) (p2 : Int32)  (σ : qMem) : qMc wC mX11_known (ρi) [.ref 0, .int p1, .int p2] σ (fX11_known N p1 p2 σ) := qMc_of (moX11_known) (Nat.le_of_ble_eq_true rfl) (aX11_known N p1 p2  σ)

theorem dX11_inWatch_0 : decode cX11_inWatch 0 = .ok (.iconst 0, 1) := by decide +kernel
theorem dX11_inWatch_1 : decode cX11_inWatch 1 = .ok (.istore_n 3, 1) := by decide +kernel
theorem dX11_inWatch_2 : decode cX11_inWatch 2 = .ok (.iconst 0, 1) := by decide +kernel
theorem dX11_inWatch_3 : decode cX11_inWatch 3 = .ok (.istore 4, 2) := by decide +kernel
theorem dX11_inWatch_5 : decode cX11_inWatch 5 = .ok (.iload 4, 2) := by decide +kernel
theorem dX11_inWatch_7 : decode cX11_inWatch 7 = .ok (.aload_n 0, 1) := by decide +kernel
theorem dX11_inWatch_8 : decode cX11_inWatch 8 = .ok (.getfield 105, 3) := by decide +kernel
theorem dX11_inWatch_11 : decode cX11_inWatch 11 = .ok (.if_icmp .ge 34, 3) := by decide +kernel
theorem dX11_inWatch_14 : decode cX11_inWatch 14 = .ok (.aload_n 0, 1) := by decide +kernel
theorem dX11_inWatch_15 : decode cX11_inWatch 15 = .ok (.iload 4, 2) := by decide +kernel
theorem dX11_inWatch_17 : decode cX11_inWatch 17 = .ok (.iconst 1, 1) := by decide +kernel
theorem dX11_inWatch_18 : decode cX11_inWatch 18 = .ok (.invokevirtual 123, 3) := by decide +kernel
theorem dX11_inWatch_21 : decode cX11_inWatch 21 = .ok (.iconst 4, 1) := by decide +kernel
theorem dX11_inWatch_22 : decode cX11_inWatch 22 = .ok (.idiv, 1) := by decide +kernel
theorem dX11_inWatch_23 : decode cX11_inWatch 23 = .ok (.iload_n 1, 1) := by decide +kernel
theorem dX11_inWatch_24 : decode cX11_inWatch 24 = .ok (.if_icmp .ne 15, 3) := by decide +kernel
theorem dX11_inWatch_27 : decode cX11_inWatch 27 = .ok (.iload_n 2, 1) := by decide +kernel
theorem dX11_inWatch_28 : decode cX11_inWatch 28 = .ok (.iload 4, 2) := by decide +kernel
theorem dX11_inWatch_30 : decode cX11_inWatch 30 = .ok (.iushr, 1) := by decide +kernel
theorem dX11_inWatch_31 : decode cX11_inWatch 31 = .ok (.iconst 1, 1) := by decide +kernel
theorem dX11_inWatch_32 : decode cX11_inWatch 32 = .ok (.iand, 1) := by decide +kernel
theorem dX11_inWatch_33 : decode cX11_inWatch 33 = .ok (.ifCond .ne 6, 3) := by decide +kernel
theorem dX11_inWatch_36 : decode cX11_inWatch 36 = .ok (.iinc 3 1, 3) := by decide +kernel
theorem dX11_inWatch_39 : decode cX11_inWatch 39 = .ok (.iinc 4 1, 3) := by decide +kernel
theorem dX11_inWatch_42 : decode cX11_inWatch 42 = .ok (.goto (-37), 3) := by decide +kernel
theorem dX11_inWatch_45 : decode cX11_inWatch 45 = .ok (.iload_n 3, 1) := by decide +kernel
theorem dX11_inWatch_46 : decode cX11_inWatch 46 = .ok (.ireturn, 1) := by decide +kernel
def fX11_inWatch_b39 (N : Nat) (k0 n0 : Nat) (c5 : Int32 → Int32 → Int32 → Int32 → Option Int32) (v1 : Int32) (v2 : Int32) (v3 : Int32) (v4 : Int32) (σ : qMem) : Option Int32 :=
  (c5 v1 v2 v3 (v4 + 1))
set_option maxRecDepth 20000 in
set_option maxHeartbeats 4000000 in
theorem aX11_inWatch_b39 (N : Nat) (k0 n0 : Nat) (hk0 : iRows k0 n0) (σ : qMem) (c5 : Int32 → Int32 → Int32 → Int32 → Option Int32) (hc5 : ∀ (v1 : Int32) (v2 : Int32) (v3 : Int32) (v4 : Int32) , qAt wC mX11_inWatch (ρp σ) 5 [(0, .ref k0), (1, .int v1), (2, .int v2), (3, .int v3), (4, .int v4)] [] σ (c5 v1 v2 v3 v4)) (v1 : Int32) (v2 : Int32) (v3 : Int32) (v4 : Int32) : qAt wC mX11_inWatch (ρp σ) 39 [(0, .ref k0), (1, .int v1), (2, .int v2), (3, .int v3), (4, .int v4)] [] σ (fX11_inWatch_b39 N k0 n0 c5 v1 v2 v3 v4 σ) := by
  unfold fX11_inWatch_b39
  refine q_iinc (i := 4) (x := v4) (v := (v4 + 1)) (L' := [(4, .int (v4 + 1)), (0, .ref k0), (1, .int v1), (2, .int v2), (3, .int v3)]) dX11_inWatch_39 4 rfl (q_cst v4 (by decide)) (Nat.le_of_ble_eq_true rfl) rfl ?_
  refine q_goto (tgt := 5) dX11_inWatch_42 (by decide) ?_
  exact q_sub [1, 2, 3, 4, 0] rfl (hc5 v1 v2 v3 (v4 + 1))

def fX11_inWatch_s5 (N : Nat) (k0 n0 : Nat) (c5 : Int32 → Int32 → Int32 → Int32 → Option Int32) (v1 : Int32) (v2 : Int32) (v3 : Int32) (v4 : Int32) (σ : qMem) : Option Int32 :=
  (if (gi σ k0 3) ≤ v4 then (some v3) else ((fX8_at k0 n0 v4 1 σ).bind fun y1 => (if (y1 / 4) = v1 then (if ((ushr v2 v4) &&& 1) = 0 then (fX11_inWatch_b39 N k0 n0 c5 v1 v2 (v3 + 1) v4 σ) else (fX11_inWatch_b39 N k0 n0 c5 v1 v2 v3 v4 σ)) else (fX11_inWatch_b39 N k0 n0 c5 v1 v2 v3 v4 σ))))
set_option maxRecDepth 20000 in
set_option maxHeartbeats 4000000 in
theorem aX11_inWatch_s5 (N : Nat) (k0 n0 : Nat) (hk0 : iRows k0 n0) (σ : qMem) (c5 : Int32 → Int32 → Int32 → Int32 → Option Int32) (hc5 : ∀ (v1 : Int32) (v2 : Int32) (v3 : Int32) (v4 : Int32) , qAt wC mX11_inWatch (ρp σ) 5 [(0, .ref k0), (1, .int v1), (2, .int v2), (3, .int v3), (4, .int v4)] [] σ (c5 v1 v2 v3 v4)) (v1 : Int32) (v2 : Int32) (v3 : Int32) (v4 : Int32) : qAt wC mX11_inWatch (ρp σ) 5 [(0, .ref k0), (1, .int v1), (2, .int v2), (3, .int v3), (4, .int v4)] [] σ (fX11_inWatch_s5 N k0 n0 c5 v1 v2 v3 v4 σ) := by
  unfold fX11_inWatch_s5
  refine q_iload (i := 4) (x := v4) dX11_inWatch_5 4 rfl ?_
  refine q_aload_n (i := 0) (x := k0) dX11_inWatch_7 rfl 0 rfl ?_
  refine q_geti dX11_inWatch_8 foX11_105 hk0.1 rfl ?_
  refine q_icmp_ge (tgt := 45) dX11_inWatch_11 (by decide) ?_ ?_
  · refine q_iload_n (i := 3) (x := v3) dX11_inWatch_45 rfl 3 rfl ?_
    exact q_ireti (y := v3) dX11_inWatch_46 rfl rfl
  refine q_aload_n (i := 0) (x := k0) dX11_inWatch_14 rfl 0 rfl ?_
  refine q_iload (i := 4) (x := v4) dX11_inWatch_15 4 rfl ?_
  refine q_iconst (v := 1) dX11_inWatch_17 (by decide) ?_
  refine q_cVp mX8_at [.int v4, .int 1] (st := []) dX11_inWatch_18 (svX11_123) ⟨Nat.le_of_ble_eq_true rfl, Nat.le_of_ble_eq_true rfl⟩ hk0.1 rfl rfl rfl (Nat.le_of_ble_eq_true rfl) (kX8_at k0 n0 v4 1 hk0 σ) (fun y1 => ?_)
  refine q_iconst (v := 4) dX11_inWatch_21 (by decide) ?_
  refine q_idiv dX11_inWatch_22 (by decide) ?_
  refine q_iload_n (i := 1) (x := v1) dX11_inWatch_23 rfl 1 rfl ?_
  refine q_icmp_ne (tgt := 39) dX11_inWatch_24 (by decide) ?_ ?_
  · exact q_sub [0, 1, 2, 3, 4] rfl (aX11_inWatch_b39 N k0 n0 hk0 σ c5 hc5 v1 v2 v3 v4)
  refine q_iload_n (i := 2) (x := v2) dX11_inWatch_27 rfl 2 rfl ?_
  refine q_iload (i := 4) (x := v4) dX11_inWatch_28 4 rfl ?_
  refine q_iushr dX11_inWatch_30 ?_
  refine q_iconst (v := 1) dX11_inWatch_31 (by decide) ?_
  refine q_iand dX11_inWatch_32 ?_
  refine q_if_ne (tgt := 39) dX11_inWatch_33 (by decide) ?_ ?_
  · exact q_sub [0, 1, 2, 3, 4] rfl (aX11_inWatch_b39 N k0 n0 hk0 σ c5 hc5 v1 v2 v3 v4)
  refine q_iinc (i := 3) (x := v3) (v := (v3 + 1)) (L' := [(3, .int (v3 + 1)), (0, .ref k0), (1, .int v1), (2, .int v2), (4, .int v4)]) dX11_inWatch_36 3 rfl (q_cst v3 (by decide)) (Nat.le_of_ble_eq_true rfl) rfl ?_
  exact q_sub [1, 2, 3, 0, 4] rfl (aX11_inWatch_b39 N k0 n0 hk0 σ c5 hc5 v1 v2 (v3 + 1) v4)
def fX11_inWatch_l5 (N : Nat) (k0 n0 : Nat) (σ : qMem) : Nat → Int32 → Int32 → Int32 → Int32 → Option Int32
  | 0 => fun _ _ _ _ => none
  | n + 1 => fun v1 v2 v3 v4 => fX11_inWatch_s5 N k0 n0 (fX11_inWatch_l5 N k0 n0 σ n) v1 v2 v3 v4 σ
theorem aX11_inWatch_l5 (N : Nat) (k0 n0 : Nat) (hk0 : iRows k0 n0) (σ : qMem) : ∀ (n : Nat) (v1 : Int32) (v2 : Int32) (v3 : Int32) (v4 : Int32), qAt wC mX11_inWatch (ρp σ) 5 [(0, .ref k0), (1, .int v1), (2, .int v2), (3, .int v3), (4, .int v4)] [] σ (fX11_inWatch_l5 N k0 n0 σ n v1 v2 v3 v4) := by
  intro n
  induction n with
  | zero => intro v1 v2 v3 v4; exact q_none
  | succ n ih => intro v1 v2 v3 v4; exact aX11_inWatch_s5 N k0 n0 hk0 σ (fX11_inWatch_l5 N k0 n0 σ n) ih v1 v2 v3 v4

def fX11_inWatch (N : Nat) (k0 n0 : Nat) (p1 : Int32) (p2 : Int32) (σ : qMem) : Option Int32 :=
  (fX11_inWatch_l5 N k0 n0 σ N p1 p2 0 0)
set_option maxRecDepth 20000 in
set_option maxHeartbeats 4000000 in
theorem aX11_inWatch  (N : Nat) (k0 n0 : Nat) (p1 : Int32) (p2 : Int32) (hk0 : iRows k0 n0) (σ : qMem) : qAt wC mX11_inWatch (ρp σ) 0 [(0, .ref k0), (1, .int p1), (2, .int p2)] [] σ (fX11_inWatch N k0 n0 p1 p2 σ) := by
  unfold fX11_inWatch
  refine q_iconst (v := 0) dX11_inWatch_0 (by decide) ?_
  refine q_istore_n (i := 3) (L' := [(3, .int 0), (0, .ref k0), (1, .int p1), (2, .int p2)]) dX11_inWatch_1 rfl (Nat.le_of_ble_eq_true rfl) rfl ?_
  refine q_iconst (v := 0) dX11_inWatch_2 (by decide) ?_
  refine q_istore (i := 4) (L' := [(4, .int 0), (3, .int 0), (0, .ref k0), (1, .int p1), (2, .int p2)]) dX11_inWatch_3 (Nat.le_of_ble_eq_true rfl) rfl ?_
  exact q_sub [2, 3, 4, 1, 0] rfl (aX11_inWatch_l5 N k0 n0 hk0 σ N p1 p2 0 0)
theorem kX11_inWatch  (N : Nat) (k0 n0 : Nat) (p1 : Int32) (p2 : Int32) (hk0 : iRows k0 n0) (σ : qMem) : qMc wC mX11_inWatch (ρp σ) [.ref k0, .int p1, .int p2] σ (fX11_inWatch N k0 n0 p1 p2 σ) := qMc_of (moX11_inWatch) (Nat.le_of_ble_eq_true rfl) (aX11_inWatch N k0 n0 p1 p2 hk0 σ)

theorem dX11_watch_0 : decode cX11_watch 0 = .ok (.iload_n 1, 1) := by decide +kernel
theorem dX11_watch_1 : decode cX11_watch 1 = .ok (.iconst 0, 1) := by decide +kernel
theorem dX11_watch_2 : decode cX11_watch 2 = .ok (.iconst 5, 1) := by decide +kernel
theorem dX11_watch_3 : decode cX11_watch 3 = .ok (.invokestatic 83, 3) := by decide +kernel
theorem dX11_watch_6 : decode cX11_watch 6 = .ok (.ifCond .eq 12, 3) := by decide +kernel
theorem dX11_watch_9 : decode cX11_watch 9 = .ok (.iload_n 2, 1) := by decide +kernel
theorem dX11_watch_10 : decode cX11_watch 10 = .ok (.iconst 0, 1) := by decide +kernel
theorem dX11_watch_11 : decode cX11_watch 11 = .ok (.iconst 3, 1) := by decide +kernel
theorem dX11_watch_12 : decode cX11_watch 12 = .ok (.invokestatic 83, 3) := by decide +kernel
theorem dX11_watch_15 : decode cX11_watch 15 = .ok (.ifCond .ne 5, 3) := by decide +kernel
theorem dX11_watch_18 : decode cX11_watch 18 = .ok (.iconst (-1), 1) := by decide +kernel
theorem dX11_watch_19 : decode cX11_watch 19 = .ok (.ireturn, 1) := by decide +kernel
theorem dX11_watch_20 : decode cX11_watch 20 = .ok (.aload_n 0, 1) := by decide +kernel
theorem dX11_watch_21 : decode cX11_watch 21 = .ok (.getfield 29, 3) := by decide +kernel
theorem dX11_watch_24 : decode cX11_watch 24 = .ok (.invokevirtual 200, 3) := by decide +kernel
theorem dX11_watch_27 : decode cX11_watch 27 = .ok (.iload_n 2, 1) := by decide +kernel
theorem dX11_watch_28 : decode cX11_watch 28 = .ok (.iconst 2, 1) := by decide +kernel
theorem dX11_watch_29 : decode cX11_watch 29 = .ok (.irem, 1) := by decide +kernel
theorem dX11_watch_30 : decode cX11_watch 30 = .ok (.iconst 1, 1) := by decide +kernel
theorem dX11_watch_31 : decode cX11_watch 31 = .ok (.if_icmp .ne 7, 3) := by decide +kernel
theorem dX11_watch_34 : decode cX11_watch 34 = .ok (.iconst 1, 1) := by decide +kernel
theorem dX11_watch_35 : decode cX11_watch 35 = .ok (.goto 4, 3) := by decide +kernel
theorem dX11_watch_38 : decode cX11_watch 38 = .ok (.iconst 0, 1) := by decide +kernel
theorem dX11_watch_39 : decode cX11_watch 39 = .ok (.istore_n 3, 1) := by decide +kernel
theorem dX11_watch_40 : decode cX11_watch 40 = .ok (.iload_n 2, 1) := by decide +kernel
theorem dX11_watch_41 : decode cX11_watch 41 = .ok (.iconst 2, 1) := by decide +kernel
theorem dX11_watch_42 : decode cX11_watch 42 = .ok (.if_icmp .ge 30, 3) := by decide +kernel
theorem dX11_watch_45 : decode cX11_watch 45 = .ok (.aload_n 0, 1) := by decide +kernel
theorem dX11_watch_46 : decode cX11_watch 46 = .ok (.getfield 12, 3) := by decide +kernel
theorem dX11_watch_49 : decode cX11_watch 49 = .ok (.getfield 184, 3) := by decide +kernel
theorem dX11_watch_52 : decode cX11_watch 52 = .ok (.iload_n 1, 1) := by decide +kernel
theorem dX11_watch_53 : decode cX11_watch 53 = .ok (.iload_n 3, 1) := by decide +kernel
theorem dX11_watch_54 : decode cX11_watch 54 = .ok (.ifCond .eq 13, 3) := by decide +kernel
theorem dX11_watch_57 : decode cX11_watch 57 = .ok (.aload_n 0, 1) := by decide +kernel
theorem dX11_watch_58 : decode cX11_watch 58 = .ok (.getfield 29, 3) := by decide +kernel
theorem dX11_watch_61 : decode cX11_watch 61 = .ok (.getfield 203, 3) := by decide +kernel
theorem dX11_watch_64 : decode cX11_watch 64 = .ok (.goto 4, 3) := by decide +kernel
theorem dX11_watch_67 : decode cX11_watch 67 = .ok (.iconst 0, 1) := by decide +kernel
theorem dX11_watch_68 : decode cX11_watch 68 = .ok (.invokestatic 209, 3) := by decide +kernel
theorem dX11_watch_71 : decode cX11_watch 71 = .ok (.ireturn, 1) := by decide +kernel
theorem dX11_watch_72 : decode cX11_watch 72 = .ok (.aload_n 0, 1) := by decide +kernel
theorem dX11_watch_73 : decode cX11_watch 73 = .ok (.getfield 12, 3) := by decide +kernel
theorem dX11_watch_76 : decode cX11_watch 76 = .ok (.getfield 191, 3) := by decide +kernel
theorem dX11_watch_79 : decode cX11_watch 79 = .ok (.iload_n 1, 1) := by decide +kernel
theorem dX11_watch_80 : decode cX11_watch 80 = .ok (.iload_n 3, 1) := by decide +kernel
theorem dX11_watch_81 : decode cX11_watch 81 = .ok (.ifCond .eq 13, 3) := by decide +kernel
theorem dX11_watch_84 : decode cX11_watch 84 = .ok (.aload_n 0, 1) := by decide +kernel
theorem dX11_watch_85 : decode cX11_watch 85 = .ok (.getfield 29, 3) := by decide +kernel
theorem dX11_watch_88 : decode cX11_watch 88 = .ok (.getfield 206, 3) := by decide +kernel
theorem dX11_watch_91 : decode cX11_watch 91 = .ok (.goto 4, 3) := by decide +kernel
theorem dX11_watch_94 : decode cX11_watch 94 = .ok (.iconst 0, 1) := by decide +kernel
theorem dX11_watch_95 : decode cX11_watch 95 = .ok (.invokestatic 209, 3) := by decide +kernel
theorem dX11_watch_98 : decode cX11_watch 98 = .ok (.ireturn, 1) := by decide +kernel
def fX11_watch_b95 (N : Nat) (u1 : Int32) (u2 : Int32) (σ : qMem) : Option (Int32 × qMem) :=
  ((fX11_inWatch N 21 36 u1 u2 σ).bind fun y5 => (some (y5, σ)))
set_option maxRecDepth 20000 in
set_option maxHeartbeats 4000000 in
theorem aX11_watch_b95 (N : Nat) (u1 : Int32) (u2 : Int32) (σ : qMem) : qAt wC mX11_watch (ρi) 95 [] [.int u2, .int u1, .ref 21] σ (fX11_watch_b95 N u1 u2 σ) := by
  unfold fX11_watch_b95
  refine q_cSp mX11_inWatch [.ref 21, .int u1, .int u2] (st := []) dX11_watch_95 (ssX11_209) ⟨Nat.le_of_ble_eq_true rfl, Nat.le_of_ble_eq_true rfl⟩ rfl rfl (Nat.le_of_ble_eq_true rfl) (kX11_inWatch N 21 36 u1 u2 pC_21 σ) (fun y5 => ?_)
  exact q_ireti (y := (y5, σ)) dX11_watch_98 rfl rfl

def fX11_watch_b68 (N : Nat) (u1 : Int32) (u2 : Int32) (σ : qMem) : Option (Int32 × qMem) :=
  ((fX11_inWatch N 19 72 u1 u2 σ).bind fun y4 => (some (y4, σ)))
set_option maxRecDepth 20000 in
set_option maxHeartbeats 4000000 in
theorem aX11_watch_b68 (N : Nat) (u1 : Int32) (u2 : Int32) (σ : qMem) : qAt wC mX11_watch (ρi) 68 [] [.int u2, .int u1, .ref 19] σ (fX11_watch_b68 N u1 u2 σ) := by
  unfold fX11_watch_b68
  refine q_cSp mX11_inWatch [.ref 19, .int u1, .int u2] (st := []) dX11_watch_68 (ssX11_209) ⟨Nat.le_of_ble_eq_true rfl, Nat.le_of_ble_eq_true rfl⟩ rfl rfl (Nat.le_of_ble_eq_true rfl) (kX11_inWatch N 19 72 u1 u2 pC_19 σ) (fun y4 => ?_)
  exact q_ireti (y := (y4, σ)) dX11_watch_71 rfl rfl

def fX11_watch_b39 (N : Nat) (v1 : Int32) (v2 : Int32) (u0 : Int32) (σ : qMem) : Option (Int32 × qMem) :=
  (if 2 ≤ v2 then (if u0 = 0 then (fX11_watch_b95 N v1 0 σ) else (fX11_watch_b95 N v1 (gi σ 44 13) σ)) else (if u0 = 0 then (fX11_watch_b68 N v1 0 σ) else (fX11_watch_b68 N v1 (gi σ 44 12) σ)))
set_option maxRecDepth 20000 in
set_option maxHeartbeats 4000000 in
theorem aX11_watch_b39 (N : Nat) (v1 : Int32) (v2 : Int32) (u0 : Int32) (σ : qMem) : qAt wC mX11_watch (ρi) 39 [(0, .ref 0), (1, .int v1), (2, .int v2)] [.int u0] σ (fX11_watch_b39 N v1 v2 u0 σ) := by
  unfold fX11_watch_b39
  refine q_istore_n (i := 3) (L' := [(3, .int u0), (0, .ref 0), (1, .int v1), (2, .int v2)]) dX11_watch_39 rfl (Nat.le_of_ble_eq_true rfl) rfl ?_
  refine q_iload_n (i := 2) (x := v2) dX11_watch_40 rfl 3 rfl ?_
  refine q_iconst (v := 2) dX11_watch_41 (by decide) ?_
  refine q_icmp_ge (tgt := 72) dX11_watch_42 (by decide) ?_ ?_
  · refine q_aload_n (i := 0) (x := 0) dX11_watch_72 rfl 1 rfl ?_
    refine q_getr (t := 1) dX11_watch_73 foX11_12 zC_0 rfl ?_
    refine q_getr (t := 21) dX11_watch_76 foX11_191 zC_1 rfl ?_
    refine q_iload_n (i := 1) (x := v1) dX11_watch_79 rfl 2 rfl ?_
    refine q_iload_n (i := 3) (x := u0) dX11_watch_80 rfl 0 rfl ?_
    refine q_if_eq (tgt := 94) dX11_watch_81 (by decide) ?_ ?_
    · refine q_iconst (v := 0) dX11_watch_94 (by decide) ?_
      exact q_sub [] rfl (aX11_watch_b95 N v1 0 σ)
    refine q_aload_n (i := 0) (x := 0) dX11_watch_84 rfl 1 rfl ?_
    refine q_getr (t := 44) dX11_watch_85 foX11_29 zC_0 rfl ?_
    refine q_geti dX11_watch_88 foX11_206 zC_44 rfl ?_
    refine q_goto (tgt := 95) dX11_watch_91 (by decide) ?_
    exact q_sub [] rfl (aX11_watch_b95 N v1 (gi σ 44 13) σ)
  refine q_aload_n (i := 0) (x := 0) dX11_watch_45 rfl 1 rfl ?_
  refine q_getr (t := 1) dX11_watch_46 foX11_12 zC_0 rfl ?_
  refine q_getr (t := 19) dX11_watch_49 foX11_184 zC_1 rfl ?_
  refine q_iload_n (i := 1) (x := v1) dX11_watch_52 rfl 2 rfl ?_
  refine q_iload_n (i := 3) (x := u0) dX11_watch_53 rfl 0 rfl ?_
  refine q_if_eq (tgt := 67) dX11_watch_54 (by decide) ?_ ?_
  · refine q_iconst (v := 0) dX11_watch_67 (by decide) ?_
    exact q_sub [] rfl (aX11_watch_b68 N v1 0 σ)
  refine q_aload_n (i := 0) (x := 0) dX11_watch_57 rfl 1 rfl ?_
  refine q_getr (t := 44) dX11_watch_58 foX11_29 zC_0 rfl ?_
  refine q_geti dX11_watch_61 foX11_203 zC_44 rfl ?_
  refine q_goto (tgt := 68) dX11_watch_64 (by decide) ?_
  exact q_sub [] rfl (aX11_watch_b68 N v1 (gi σ 44 12) σ)

def fX11_watch (N : Nat) (p1 : Int32) (p2 : Int32) (σ : qMem) : Option (Int32 × qMem) :=
  ((fX11_isIn p1 0 5).bind fun y1 => (if y1 = 0 then (some ((-1), σ)) else ((fX11_isIn p2 0 3).bind fun y2 => (if y2 = 0 then (some ((-1), σ)) else ((fX3_sortOut N σ).bind fun y3 => (if (irm p2 2) = 1 then (fX11_watch_b39 N p1 p2 1 y3) else (fX11_watch_b39 N p1 p2 0 y3)))))))
set_option maxRecDepth 20000 in
set_option maxHeartbeats 4000000 in
theorem aX11_watch  (N : Nat) (p1 : Int32) (p2 : Int32)  (σ : qMem) : qAt wC mX11_watch (ρi) 0 [(0, .ref 0), (1, .int p1), (2, .int p2)] [] σ (fX11_watch N p1 p2 σ) := by
  unfold fX11_watch
  refine q_iload_n (i := 1) (x := p1) dX11_watch_0 rfl 1 rfl ?_
  refine q_iconst (v := 0) dX11_watch_1 (by decide) ?_
  refine q_iconst (v := 5) dX11_watch_2 (by decide) ?_
  refine q_cSp mX11_isIn [.int p1, .int 0, .int 5] (st := []) dX11_watch_3 (ssX11_83) ⟨Nat.le_of_ble_eq_true rfl, Nat.le_of_ble_eq_true rfl⟩ rfl rfl (Nat.le_of_ble_eq_true rfl) (kX11_isIn p1 0 5 σ) (fun y1 => ?_)
  refine q_if_eq (tgt := 18) dX11_watch_6 (by decide) ?_ ?_
  · refine q_iconst (v := (-1)) dX11_watch_18 (by decide) ?_
    exact q_ireti (y := ((-1), σ)) dX11_watch_19 rfl rfl
  refine q_iload_n (i := 2) (x := p2) dX11_watch_9 rfl 2 rfl ?_
  refine q_iconst (v := 0) dX11_watch_10 (by decide) ?_
  refine q_iconst (v := 3) dX11_watch_11 (by decide) ?_
  refine q_cSp mX11_isIn [.int p2, .int 0, .int 3] (st := []) dX11_watch_12 (ssX11_83) ⟨Nat.le_of_ble_eq_true rfl, Nat.le_of_ble_eq_true rfl⟩ rfl rfl (Nat.le_of_ble_eq_true rfl) (kX11_isIn p2 0 3 σ) (fun y2 => ?_)
  refine q_if_ne (tgt := 20) dX11_watch_15 (by decide) ?_ ?_
  · refine q_aload_n (i := 0) (x := 0) dX11_watch_20 rfl 0 rfl ?_
    refine q_getr (t := 44) dX11_watch_21 foX11_29 zC_0 rfl ?_
    refine q_cVv mX3_sortOut [] (st := []) dX11_watch_24 (svX11_200) ⟨Nat.le_of_ble_eq_true rfl, Nat.le_of_ble_eq_true rfl⟩ zC_44 rfl rfl rfl (Nat.le_of_ble_eq_true rfl) (kX3_sortOut N σ) (fun y3 => ?_)
    refine q_iload_n (i := 2) (x := p2) dX11_watch_27 rfl 2 rfl ?_
    refine q_iconst (v := 2) dX11_watch_28 (by decide) ?_
    refine q_irem dX11_watch_29 (by decide) ?_
    refine q_iconst (v := 1) dX11_watch_30 (by decide) ?_
    refine q_icmp_ne (tgt := 38) dX11_watch_31 (by decide) ?_ ?_
    · refine q_iconst (v := 0) dX11_watch_38 (by decide) ?_
      exact q_sub [0, 1, 2] rfl (aX11_watch_b39 N p1 p2 0 y3)
    refine q_iconst (v := 1) dX11_watch_34 (by decide) ?_
    refine q_goto (tgt := 39) dX11_watch_35 (by decide) ?_
    exact q_sub [0, 1, 2] rfl (aX11_watch_b39 N p1 p2 1 y3)
  refine q_iconst (v := (-1)) dX11_watch_18 (by decide) ?_
  exact q_ireti (y := ((-1), σ)) dX11_watch_19 rfl rfl
theorem kX11_watch  (N : Nat) (p1 : Int32) (p2 : Int32)  (σ : qMem) : qMc wC mX11_watch (ρi) [.ref 0, .int p1, .int p2] σ (fX11_watch N p1 p2 σ) := qMc_of (moX11_watch) (Nat.le_of_ble_eq_true rfl) (aX11_watch N p1 p2  σ)

theorem dX11_feedNumber_0 : decode cX11_feedNumber 0 = .ok (.bipush 24, 2) := by decide +kernel
theorem dX11_feedNumber_2 : decode cX11_feedNumber 2 = .ok (.istore_n 2, 1) := by decide +kernel
theorem dX11_feedNumber_3 : decode cX11_feedNumber 3 = .ok (.iload_n 2, 1) := by decide +kernel
theorem dX11_feedNumber_4 : decode cX11_feedNumber 4 = .ok (.ifCond .lt 45, 3) := by decide +kernel
theorem dX11_feedNumber_7 : decode cX11_feedNumber 7 = .ok (.aload_n 0, 1) := by decide +kernel
theorem dX11_feedNumber_8 : decode cX11_feedNumber 8 = .ok (.getfield 66, 3) := by decide +kernel
theorem dX11_feedNumber_11 : decode cX11_feedNumber 11 = .ok (.sipush 400, 3) := by decide +kernel
theorem dX11_feedNumber_14 : decode cX11_feedNumber 14 = .ok (.if_icmp .ge 35, 3) := by decide +kernel
theorem dX11_feedNumber_17 : decode cX11_feedNumber 17 = .ok (.aload_n 0, 1) := by decide +kernel
theorem dX11_feedNumber_18 : decode cX11_feedNumber 18 = .ok (.getfield 56, 3) := by decide +kernel
theorem dX11_feedNumber_21 : decode cX11_feedNumber 21 = .ok (.aload_n 0, 1) := by decide +kernel
theorem dX11_feedNumber_22 : decode cX11_feedNumber 22 = .ok (.getfield 66, 3) := by decide +kernel
theorem dX11_feedNumber_25 : decode cX11_feedNumber 25 = .ok (.iload_n 1, 1) := by decide +kernel
theorem dX11_feedNumber_26 : decode cX11_feedNumber 26 = .ok (.iload_n 2, 1) := by decide +kernel
theorem dX11_feedNumber_27 : decode cX11_feedNumber 27 = .ok (.iushr, 1) := by decide +kernel
theorem dX11_feedNumber_28 : decode cX11_feedNumber 28 = .ok (.sipush 255, 3) := by decide +kernel
theorem dX11_feedNumber_31 : decode cX11_feedNumber 31 = .ok (.iand, 1) := by decide +kernel
theorem dX11_feedNumber_32 : decode cX11_feedNumber 32 = .ok (.iastore, 1) := by decide +kernel
theorem dX11_feedNumber_33 : decode cX11_feedNumber 33 = .ok (.aload_n 0, 1) := by decide +kernel
theorem dX11_feedNumber_34 : decode cX11_feedNumber 34 = .ok (.dup, 1) := by decide +kernel
theorem dX11_feedNumber_35 : decode cX11_feedNumber 35 = .ok (.getfield 66, 3) := by decide +kernel
theorem dX11_feedNumber_38 : decode cX11_feedNumber 38 = .ok (.iconst 1, 1) := by decide +kernel
theorem dX11_feedNumber_39 : decode cX11_feedNumber 39 = .ok (.iadd, 1) := by decide +kernel
theorem dX11_feedNumber_40 : decode cX11_feedNumber 40 = .ok (.putfield 66, 3) := by decide +kernel
theorem dX11_feedNumber_43 : decode cX11_feedNumber 43 = .ok (.iinc 2 (-8), 3) := by decide +kernel
theorem dX11_feedNumber_46 : decode cX11_feedNumber 46 = .ok (.goto (-43), 3) := by decide +kernel
theorem dX11_feedNumber_49 : decode cX11_feedNumber 49 = .ok (.return_, 1) := by decide +kernel
def fX11_feedNumber_s3 (N : Nat) (c3 : Int32 → Int32 → qMem → Option qMem) (v1 : Int32) (v2 : Int32) (σ : qMem) : Option qMem :=
  (if v2 < 0 then (some σ) else (if 400 ≤ (gi σ 0 10) then (some σ) else (if ck (gi σ 0 10) 400 = true then (nmM (si σ 86 (gi σ 0 10).toNatClampNeg ((ushr v1 v2) &&& 255)) fun s1 => (nmM (si s1 0 10 ((gi s1 0 10) + 1)) fun s2 => (c3 v1 (v2 + (-8)) s2))) else none)))
set_option maxRecDepth 20000 in
set_option maxHeartbeats 4000000 in
theorem aX11_feedNumber_s3 (N : Nat) (c3 : Int32 → Int32 → qMem → Option qMem) (hc3 : ∀ (v1 : Int32) (v2 : Int32) (σ : qMem), qAt wC mX11_feedNumber (ρv) 3 [(0, .ref 0), (1, .int v1), (2, .int v2)] [] σ (c3 v1 v2 σ)) (v1 : Int32) (v2 : Int32) (σ : qMem) : qAt wC mX11_feedNumber (ρv) 3 [(0, .ref 0), (1, .int v1), (2, .int v2)] [] σ (fX11_feedNumber_s3 N c3 v1 v2 σ) := by
  unfold fX11_feedNumber_s3
  refine q_iload_n (i := 2) (x := v2) dX11_feedNumber_3 rfl 2 rfl ?_
  refine q_if_lt (tgt := 49) dX11_feedNumber_4 (by decide) ?_ ?_
  · exact q_vret (y := σ) dX11_feedNumber_49 rfl rfl
  refine q_aload_n (i := 0) (x := 0) dX11_feedNumber_7 rfl 0 rfl ?_
  refine q_geti dX11_feedNumber_8 foX11_66 zC_0 rfl ?_
  refine q_sipush (v := 400) dX11_feedNumber_11 (by decide) ?_
  refine q_icmp_ge (tgt := 49) dX11_feedNumber_14 (by decide) ?_ ?_
  · exact q_vret (y := σ) dX11_feedNumber_49 rfl rfl
  refine q_aload_n (i := 0) (x := 0) dX11_feedNumber_17 rfl 0 rfl ?_
  refine q_getr (t := 86) dX11_feedNumber_18 foX11_56 zC_0 rfl ?_
  refine q_aload_n (i := 0) (x := 0) dX11_feedNumber_21 rfl 0 rfl ?_
  refine q_geti dX11_feedNumber_22 foX11_66 zC_0 rfl ?_
  refine q_iload_n (i := 1) (x := v1) dX11_feedNumber_25 rfl 1 rfl ?_
  refine q_iload_n (i := 2) (x := v2) dX11_feedNumber_26 rfl 2 rfl ?_
  refine q_iushr dX11_feedNumber_27 ?_
  refine q_sipush (v := 255) dX11_feedNumber_28 (by decide) ?_
  refine q_iand dX11_feedNumber_31 ?_
  refine q_iast dX11_feedNumber_32 zC_86 ?_
  refine q_nmM (fun s1 => ?_)
  refine q_aload_n (i := 0) (x := 0) dX11_feedNumber_33 rfl 0 rfl ?_
  refine q_dup dX11_feedNumber_34 rfl ?_
  refine q_geti dX11_feedNumber_35 foX11_66 zC_0 rfl ?_
  refine q_iconst (v := 1) dX11_feedNumber_38 (by decide) ?_
  refine q_iadd dX11_feedNumber_39 ?_
  refine q_puti dX11_feedNumber_40 foX11_66 fwX11_10 zC_0 rfl ?_
  refine q_nmM (fun s2 => ?_)
  refine q_iinc (i := 2) (x := v2) (v := (v2 + (-8))) (L' := [(2, .int (v2 + (-8))), (0, .ref 0), (1, .int v1)]) dX11_feedNumber_43 2 rfl (q_cst v2 (by decide)) (Nat.le_of_ble_eq_true rfl) rfl ?_
  refine q_goto (tgt := 3) dX11_feedNumber_46 (by decide) ?_
  exact q_sub [1, 2, 0] rfl (hc3 v1 (v2 + (-8)) s2)
def fX11_feedNumber_l3 (N : Nat) : Nat → Int32 → Int32 → qMem → Option qMem
  | 0 => fun _ _ _ => none
  | n + 1 => fun v1 v2 σ => fX11_feedNumber_s3 N (fX11_feedNumber_l3 N n) v1 v2 σ
theorem aX11_feedNumber_l3 (N : Nat) : ∀ (n : Nat) (v1 : Int32) (v2 : Int32) (σ : qMem), qAt wC mX11_feedNumber (ρv) 3 [(0, .ref 0), (1, .int v1), (2, .int v2)] [] σ (fX11_feedNumber_l3 N n v1 v2 σ) := by
  intro n
  induction n with
  | zero => intro v1 v2 σ; exact q_none
  | succ n ih => intro v1 v2 σ; exact aX11_feedNumber_s3 N (fX11_feedNumber_l3 N n) ih v1 v2 σ

def fX11_feedNumber (N : Nat) (p1 : Int32) (σ : qMem) : Option qMem :=
  (fX11_feedNumber_l3 N N p1 24 σ)
set_option maxRecDepth 20000 in
set_option maxHeartbeats 4000000 in
theorem aX11_feedNumber  (N : Nat) (p1 : Int32)  (σ : qMem) : qAt wC mX11_feedNumber (ρv) 0 [(0, .ref 0), (1, .int p1)] [] σ (fX11_feedNumber N p1 σ) := by
  unfold fX11_feedNumber
  refine q_bipush (v := 24) dX11_feedNumber_0 (by decide) ?_
  refine q_istore_n (i := 2) (L' := [(2, .int 24), (0, .ref 0), (1, .int p1)]) dX11_feedNumber_2 rfl (Nat.le_of_ble_eq_true rfl) rfl ?_
  exact q_sub [1, 2, 0] rfl (aX11_feedNumber_l3 N N p1 24 σ)
theorem kX11_feedNumber  (N : Nat) (p1 : Int32)  (σ : qMem) : qMc wC mX11_feedNumber (ρv) [.ref 0, .int p1] σ (fX11_feedNumber N p1 σ) := qMc_of (moX11_feedNumber) (Nat.le_of_ble_eq_true rfl) (aX11_feedNumber N p1  σ)

theorem dX11_feed_0 : decode cX11_feed 0 = .ok (.aload_n 0, 1) := by decide +kernel
theorem dX11_feed_1 : decode cX11_feed 1 = .ok (.getfield 66, 3) := by decide +kernel
theorem dX11_feed_4 : decode cX11_feed 4 = .ok (.bipush 20, 2) := by decide +kernel
theorem dX11_feed_6 : decode cX11_feed 6 = .ok (.iadd, 1) := by decide +kernel
theorem dX11_feed_7 : decode cX11_feed 7 = .ok (.sipush 400, 3) := by decide +kernel
theorem dX11_feed_10 : decode cX11_feed 10 = .ok (.if_icmp .le 5, 3) := by decide +kernel
theorem dX11_feed_13 : decode cX11_feed 13 = .ok (.iconst (-1), 1) := by decide +kernel
theorem dX11_feed_14 : decode cX11_feed 14 = .ok (.ireturn, 1) := by decide +kernel
theorem dX11_feed_15 : decode cX11_feed 15 = .ok (.aload_n 0, 1) := by decide +kernel
theorem dX11_feed_16 : decode cX11_feed 16 = .ok (.iload_n 1, 1) := by decide +kernel
theorem dX11_feed_17 : decode cX11_feed 17 = .ok (.invokevirtual 213, 3) := by decide +kernel
theorem dX11_feed_20 : decode cX11_feed 20 = .ok (.aload_n 0, 1) := by decide +kernel
theorem dX11_feed_21 : decode cX11_feed 21 = .ok (.iload_n 2, 1) := by decide +kernel
theorem dX11_feed_22 : decode cX11_feed 22 = .ok (.invokevirtual 213, 3) := by decide +kernel
theorem dX11_feed_25 : decode cX11_feed 25 = .ok (.aload_n 0, 1) := by decide +kernel
theorem dX11_feed_26 : decode cX11_feed 26 = .ok (.iload_n 3, 1) := by decide +kernel
theorem dX11_feed_27 : decode cX11_feed 27 = .ok (.invokevirtual 213, 3) := by decide +kernel
theorem dX11_feed_30 : decode cX11_feed 30 = .ok (.aload_n 0, 1) := by decide +kernel
theorem dX11_feed_31 : decode cX11_feed 31 = .ok (.iload 4, 2) := by decide +kernel
theorem dX11_feed_33 : decode cX11_feed 33 = .ok (.invokevirtual 213, 3) := by decide +kernel
theorem dX11_feed_36 : decode cX11_feed 36 = .ok (.aload_n 0, 1) := by decide +kernel
theorem dX11_feed_37 : decode cX11_feed 37 = .ok (.iload 5, 2) := by decide +kernel
theorem dX11_feed_39 : decode cX11_feed 39 = .ok (.invokevirtual 213, 3) := by decide +kernel
theorem dX11_feed_42 : decode cX11_feed 42 = .ok (.aload_n 0, 1) := by decide +kernel
theorem dX11_feed_43 : decode cX11_feed 43 = .ok (.getfield 66, 3) := by decide +kernel
theorem dX11_feed_46 : decode cX11_feed 46 = .ok (.ireturn, 1) := by decide +kernel

def fX11_feed (N : Nat) (p1 : Int32) (p2 : Int32) (p3 : Int32) (p4 : Int32) (p5 : Int32) (σ : qMem) : Option (Int32 × qMem) :=
  (if ((gi σ 0 10) + 20) ≤ 400 then ((fX11_feedNumber N p1 σ).bind fun y1 => ((fX11_feedNumber N p2 y1).bind fun y2 => ((fX11_feedNumber N p3 y2).bind fun y3 => ((fX11_feedNumber N p4 y3).bind fun y4 => ((fX11_feedNumber N p5 y4).bind fun y5 => (some ((gi y5 0 10), y5))))))) else (some ((-1), σ)))
set_option maxRecDepth 20000 in
set_option maxHeartbeats 4000000 in
theorem aX11_feed  (N : Nat) (p1 : Int32) (p2 : Int32) (p3 : Int32) (p4 : Int32) (p5 : Int32)  (σ : qMem) : qAt wC mX11_feed (ρi) 0 [(0, .ref 0), (1, .int p1), (2, .int p2), (3, .int p3), (4, .int p4), (5, .int p5)] [] σ (fX11_feed N p1 p2 p3 p4 p5 σ) := by
  unfold fX11_feed
  refine q_aload_n (i := 0) (x := 0) dX11_feed_0 rfl 0 rfl ?_
  refine q_geti dX11_feed_1 foX11_66 zC_0 rfl ?_
  refine q_bipush (v := 20) dX11_feed_4 (by decide) ?_
  refine q_iadd dX11_feed_6 ?_
  refine q_sipush (v := 400) dX11_feed_7 (by decide) ?_
  refine q_icmp_le (tgt := 15) dX11_feed_10 (by decide) ?_ ?_
  · refine q_aload_n (i := 0) (x := 0) dX11_feed_15 rfl 0 rfl ?_
    refine q_iload_n (i := 1) (x := p1) dX11_feed_16 rfl 1 rfl ?_
    refine q_cVv mX11_feedNumber [.int p1] (st := []) dX11_feed_17 (svX11_213) ⟨Nat.le_of_ble_eq_true rfl, Nat.le_of_ble_eq_true rfl⟩ zC_0 rfl rfl rfl (Nat.le_of_ble_eq_true rfl) (kX11_feedNumber N p1 σ) (fun y1 => ?_)
    refine q_aload_n (i := 0) (x := 0) dX11_feed_20 rfl 0 rfl ?_
    refine q_iload_n (i := 2) (x := p2) dX11_feed_21 rfl 2 rfl ?_
    refine q_cVv mX11_feedNumber [.int p2] (st := []) dX11_feed_22 (svX11_213) ⟨Nat.le_of_ble_eq_true rfl, Nat.le_of_ble_eq_true rfl⟩ zC_0 rfl rfl rfl (Nat.le_of_ble_eq_true rfl) (kX11_feedNumber N p2 y1) (fun y2 => ?_)
    refine q_aload_n (i := 0) (x := 0) dX11_feed_25 rfl 0 rfl ?_
    refine q_iload_n (i := 3) (x := p3) dX11_feed_26 rfl 3 rfl ?_
    refine q_cVv mX11_feedNumber [.int p3] (st := []) dX11_feed_27 (svX11_213) ⟨Nat.le_of_ble_eq_true rfl, Nat.le_of_ble_eq_true rfl⟩ zC_0 rfl rfl rfl (Nat.le_of_ble_eq_true rfl) (kX11_feedNumber N p3 y2) (fun y3 => ?_)
    refine q_aload_n (i := 0) (x := 0) dX11_feed_30 rfl 0 rfl ?_
    refine q_iload (i := 4) (x := p4) dX11_feed_31 4 rfl ?_
    refine q_cVv mX11_feedNumber [.int p4] (st := []) dX11_feed_33 (svX11_213) ⟨Nat.le_of_ble_eq_true rfl, Nat.le_of_ble_eq_true rfl⟩ zC_0 rfl rfl rfl (Nat.le_of_ble_eq_true rfl) (kX11_feedNumber N p4 y3) (fun y4 => ?_)
    refine q_aload_n (i := 0) (x := 0) dX11_feed_36 rfl 0 rfl ?_
    refine q_iload (i := 5) (x := p5) dX11_feed_37 5 rfl ?_
    refine q_cVv mX11_feedNumber [.int p5] (st := []) dX11_feed_39 (svX11_213) ⟨Nat.le_of_ble_eq_true rfl, Nat.le_of_ble_eq_true rfl⟩ zC_0 rfl rfl rfl (Nat.le_of_ble_eq_true rfl) (kX11_feedNumber N p5 y4) (fun y5 => ?_)
    refine q_aload_n (i := 0) (x := 0) dX11_feed_42 rfl 0 rfl ?_
    refine q_geti dX11_feed_43 foX11_66 zC_0 rfl ?_
    exact q_ireti (y := ((gi y5 0 10), y5)) dX11_feed_46 rfl rfl
  refine q_iconst (v := (-1)) dX11_feed_13 (by decide) ?_
  exact q_ireti (y := ((-1), σ)) dX11_feed_14 rfl rfl
theorem kX11_feed  (N : Nat) (p1 : Int32) (p2 : Int32) (p3 : Int32) (p4 : Int32) (p5 : Int32)  (σ : qMem) : qMc wC mX11_feed (ρi) [.ref 0, .int p1, .int p2, .int p3, .int p4, .int p5] σ (fX11_feed N p1 p2 p3 p4 p5 σ) := qMc_of (moX11_feed) (Nat.le_of_ble_eq_true rfl) (aX11_feed N p1 p2 p3 p4 p5  σ)

theorem dX11_end_0 : decode cX11_end 0 = .ok (.iload_n 1, 1) := by decide +kernel
theorem dX11_end_1 : decode cX11_end 1 = .ok (.iconst 0, 1) := by decide +kernel
theorem dX11_end_2 : decode cX11_end 2 = .ok (.aload_n 0, 1) := by decide +kernel
theorem dX11_end_3 : decode cX11_end 3 = .ok (.getfield 66, 3) := by decide +kernel
theorem dX11_end_6 : decode cX11_end 6 = .ok (.invokestatic 83, 3) := by decide +kernel
theorem dX11_end_9 : decode cX11_end 9 = .ok (.ifCond .ne 5, 3) := by decide +kernel
theorem dX11_end_12 : decode cX11_end 12 = .ok (.iconst (-1), 1) := by decide +kernel
theorem dX11_end_13 : decode cX11_end 13 = .ok (.ireturn, 1) := by decide +kernel
theorem dX11_end_14 : decode cX11_end 14 = .ok (.aload_n 0, 1) := by decide +kernel
theorem dX11_end_15 : decode cX11_end 15 = .ok (.iload_n 1, 1) := by decide +kernel
theorem dX11_end_16 : decode cX11_end 16 = .ok (.putfield 66, 3) := by decide +kernel
theorem dX11_end_19 : decode cX11_end 19 = .ok (.iload_n 1, 1) := by decide +kernel
theorem dX11_end_20 : decode cX11_end 20 = .ok (.ireturn, 1) := by decide +kernel

def fX11_end (p1 : Int32) (σ : qMem) : Option (Int32 × qMem) :=
  ((fX11_isIn p1 0 (gi σ 0 10)).bind fun y1 => (if y1 = 0 then (some ((-1), σ)) else (nmM (si σ 0 10 p1) fun s2 => (some (p1, s2)))))
set_option maxRecDepth 20000 in
set_option maxHeartbeats 4000000 in
theorem aX11_end  (p1 : Int32)  (σ : qMem) : qAt wC mX11_end (ρi) 0 [(0, .ref 0), (1, .int p1)] [] σ (fX11_end p1 σ) := by
  unfold fX11_end
  refine q_iload_n (i := 1) (x := p1) dX11_end_0 rfl 1 rfl ?_
  refine q_iconst (v := 0) dX11_end_1 (by decide) ?_
  refine q_aload_n (i := 0) (x := 0) dX11_end_2 rfl 0 rfl ?_
  refine q_geti dX11_end_3 foX11_66 zC_0 rfl ?_
  refine q_cSp mX11_isIn [.int p1, .int 0, .int (gi σ 0 10)] (st := []) dX11_end_6 (ssX11_83) ⟨Nat.le_of_ble_eq_true rfl, Nat.le_of_ble_eq_true rfl⟩ rfl rfl (Nat.le_of_ble_eq_true rfl) (kX11_isIn p1 0 (gi σ 0 10) σ) (fun y1 => ?_)
  refine q_if_ne (tgt := 14) dX11_end_9 (by decide) ?_ ?_
  · refine q_aload_n (i := 0) (x := 0) dX11_end_14 rfl 0 rfl ?_
    refine q_iload_n (i := 1) (x := p1) dX11_end_15 rfl 1 rfl ?_
    refine q_puti dX11_end_16 foX11_66 fwX11_10 zC_0 rfl ?_
    refine q_nmM (fun s2 => ?_)
    refine q_iload_n (i := 1) (x := p1) dX11_end_19 rfl 1 rfl ?_
    exact q_ireti (y := (p1, s2)) dX11_end_20 rfl rfl
  refine q_iconst (v := (-1)) dX11_end_12 (by decide) ?_
  exact q_ireti (y := ((-1), σ)) dX11_end_13 rfl rfl
theorem kX11_end  (p1 : Int32)  (σ : qMem) : qMc wC mX11_end (ρi) [.ref 0, .int p1] σ (fX11_end p1 σ) := qMc_of (moX11_end) (Nat.le_of_ble_eq_true rfl) (aX11_end p1  σ)

theorem dX11_cameFromTape_0 : decode cX11_cameFromTape 0 = .ok (.iload_n 1, 1) := by decide +kernel
theorem dX11_cameFromTape_1 : decode cX11_cameFromTape 1 = .ok (.invokestatic 91, 3) := by decide +kernel
theorem dX11_cameFromTape_4 : decode cX11_cameFromTape 4 = .ok (.ifCond .eq 16, 3) := by decide +kernel
theorem dX11_cameFromTape_7 : decode cX11_cameFromTape 7 = .ok (.iload_n 2, 1) := by decide +kernel
theorem dX11_cameFromTape_8 : decode cX11_cameFromTape 8 = .ok (.invokestatic 117, 3) := by decide +kernel
theorem dX11_cameFromTape_11 : decode cX11_cameFromTape 11 = .ok (.ifCond .eq 9, 3) := by decide +kernel
theorem dX11_cameFromTape_14 : decode cX11_cameFromTape 14 = .ok (.iload_n 3, 1) := by decide +kernel
theorem dX11_cameFromTape_15 : decode cX11_cameFromTape 15 = .ok (.bipush 80, 2) := by decide +kernel
theorem dX11_cameFromTape_17 : decode cX11_cameFromTape 17 = .ok (.if_icmp .lt 5, 3) := by decide +kernel
theorem dX11_cameFromTape_20 : decode cX11_cameFromTape 20 = .ok (.iconst 0, 1) := by decide +kernel
theorem dX11_cameFromTape_21 : decode cX11_cameFromTape 21 = .ok (.ireturn, 1) := by decide +kernel
theorem dX11_cameFromTape_22 : decode cX11_cameFromTape 22 = .ok (.aload_n 0, 1) := by decide +kernel
theorem dX11_cameFromTape_23 : decode cX11_cameFromTape 23 = .ok (.getfield 12, 3) := by decide +kernel
theorem dX11_cameFromTape_26 : decode cX11_cameFromTape 26 = .ok (.getfield 184, 3) := by decide +kernel
theorem dX11_cameFromTape_29 : decode cX11_cameFromTape 29 = .ok (.iload_n 1, 1) := by decide +kernel
theorem dX11_cameFromTape_30 : decode cX11_cameFromTape 30 = .ok (.iload_n 2, 1) := by decide +kernel
theorem dX11_cameFromTape_31 : decode cX11_cameFromTape 31 = .ok (.iload_n 3, 1) := by decide +kernel
theorem dX11_cameFromTape_32 : decode cX11_cameFromTape 32 = .ok (.iconst 0, 1) := by decide +kernel
theorem dX11_cameFromTape_33 : decode cX11_cameFromTape 33 = .ok (.iconst 0, 1) := by decide +kernel
theorem dX11_cameFromTape_34 : decode cX11_cameFromTape 34 = .ok (.invokevirtual 131, 3) := by decide +kernel
theorem dX11_cameFromTape_37 : decode cX11_cameFromTape 37 = .ok (.iconst (-1), 1) := by decide +kernel
theorem dX11_cameFromTape_38 : decode cX11_cameFromTape 38 = .ok (.if_icmp .eq 7, 3) := by decide +kernel
theorem dX11_cameFromTape_41 : decode cX11_cameFromTape 41 = .ok (.iconst 1, 1) := by decide +kernel
theorem dX11_cameFromTape_42 : decode cX11_cameFromTape 42 = .ok (.goto 4, 3) := by decide +kernel
theorem dX11_cameFromTape_45 : decode cX11_cameFromTape 45 = .ok (.iconst 0, 1) := by decide +kernel
theorem dX11_cameFromTape_46 : decode cX11_cameFromTape 46 = .ok (.ireturn, 1) := by decide +kernel

def fX11_cameFromTape (p1 : Int32) (p2 : Int32) (p3 : Int32) (σ : qMem) : Option (Int32 × qMem) :=
  ((fX11_isBoat p1).bind fun y1 => (if y1 = 0 then (some (0, σ)) else ((fX11_isBell p2).bind fun y2 => (if y2 = 0 then (some (0, σ)) else (if p3 < 80 then ((fX8_add 19 72 p1 p2 p3 0 0 σ).bind fun y3 => (if y3.1 = (-1) then (some (0, y3.2)) else (some (1, y3.2)))) else (some (0, σ)))))))
set_option maxRecDepth 20000 in
set_option maxHeartbeats 4000000 in
theorem aX11_cameFromTape  (p1 : Int32) (p2 : Int32) (p3 : Int32)  (σ : qMem) : qAt wC mX11_cameFromTape (ρi) 0 [(0, .ref 0), (1, .int p1), (2, .int p2), (3, .int p3)] [] σ (fX11_cameFromTape p1 p2 p3 σ) := by
  unfold fX11_cameFromTape
  refine q_iload_n (i := 1) (x := p1) dX11_cameFromTape_0 rfl 1 rfl ?_
  refine q_cSp mX11_isBoat [.int p1] (st := []) dX11_cameFromTape_1 (ssX11_91) ⟨Nat.le_of_ble_eq_true rfl, Nat.le_of_ble_eq_true rfl⟩ rfl rfl (Nat.le_of_ble_eq_true rfl) (kX11_isBoat p1 σ) (fun y1 => ?_)
  refine q_if_eq (tgt := 20) dX11_cameFromTape_4 (by decide) ?_ ?_
  · refine q_iconst (v := 0) dX11_cameFromTape_20 (by decide) ?_
    exact q_iretz (y := (0, σ)) dX11_cameFromTape_21 rfl rfl rfl
  refine q_iload_n (i := 2) (x := p2) dX11_cameFromTape_7 rfl 2 rfl ?_
  refine q_cSp mX11_isBell [.int p2] (st := []) dX11_cameFromTape_8 (ssX11_117) ⟨Nat.le_of_ble_eq_true rfl, Nat.le_of_ble_eq_true rfl⟩ rfl rfl (Nat.le_of_ble_eq_true rfl) (kX11_isBell p2 σ) (fun y2 => ?_)
  refine q_if_eq (tgt := 20) dX11_cameFromTape_11 (by decide) ?_ ?_
  · refine q_iconst (v := 0) dX11_cameFromTape_20 (by decide) ?_
    exact q_iretz (y := (0, σ)) dX11_cameFromTape_21 rfl rfl rfl
  refine q_iload_n (i := 3) (x := p3) dX11_cameFromTape_14 rfl 3 rfl ?_
  refine q_bipush (v := 80) dX11_cameFromTape_15 (by decide) ?_
  refine q_icmp_lt (tgt := 22) dX11_cameFromTape_17 (by decide) ?_ ?_
  · refine q_aload_n (i := 0) (x := 0) dX11_cameFromTape_22 rfl 0 rfl ?_
    refine q_getr (t := 1) dX11_cameFromTape_23 foX11_12 zC_0 rfl ?_
    refine q_getr (t := 19) dX11_cameFromTape_26 foX11_184 zC_1 rfl ?_
    refine q_iload_n (i := 1) (x := p1) dX11_cameFromTape_29 rfl 1 rfl ?_
    refine q_iload_n (i := 2) (x := p2) dX11_cameFromTape_30 rfl 2 rfl ?_
    refine q_iload_n (i := 3) (x := p3) dX11_cameFromTape_31 rfl 3 rfl ?_
    refine q_iconst (v := 0) dX11_cameFromTape_32 (by decide) ?_
    refine q_iconst (v := 0) dX11_cameFromTape_33 (by decide) ?_
    refine q_cVi mX8_add [.int p1, .int p2, .int p3, .int 0, .int 0] (st := []) dX11_cameFromTape_34 (svX11_131) ⟨Nat.le_of_ble_eq_true rfl, Nat.le_of_ble_eq_true rfl⟩ zC_19 rfl rfl rfl (Nat.le_of_ble_eq_true rfl) (kX8_add 19 72 p1 p2 p3 0 0 pC_19 σ) (fun y3 => ?_)
    refine q_iconst (v := (-1)) dX11_cameFromTape_37 (by decide) ?_
    refine q_icmp_eq (tgt := 45) dX11_cameFromTape_38 (by decide) ?_ ?_
    · refine q_iconst (v := 0) dX11_cameFromTape_45 (by decide) ?_
      exact q_iretz (y := (0, y3.2)) dX11_cameFromTape_46 rfl rfl rfl
    refine q_iconst (v := 1) dX11_cameFromTape_41 (by decide) ?_
    refine q_goto (tgt := 46) dX11_cameFromTape_42 (by decide) ?_
    exact q_iretz (y := (1, y3.2)) dX11_cameFromTape_46 rfl rfl rfl
  refine q_iconst (v := 0) dX11_cameFromTape_20 (by decide) ?_
  exact q_iretz (y := (0, σ)) dX11_cameFromTape_21 rfl rfl rfl
theorem kX11_cameFromTape  (p1 : Int32) (p2 : Int32) (p3 : Int32)  (σ : qMem) : qMc wC mX11_cameFromTape (ρi) [.ref 0, .int p1, .int p2, .int p3] σ (fX11_cameFromTape p1 p2 p3 σ) := qMc_of (moX11_cameFromTape) (Nat.le_of_ble_eq_true rfl) (aX11_cameFromTape p1 p2 p3  σ)

theorem dX11_row_0 : decode cX11_row 0 = .ok (.aload_n 0, 1) := by decide +kernel
theorem dX11_row_1 : decode cX11_row 1 = .ok (.getfield 66, 3) := by decide +kernel
theorem dX11_row_4 : decode cX11_row 4 = .ok (.ifCond .ne 10, 3) := by decide +kernel
theorem dX11_row_7 : decode cX11_row 7 = .ok (.aload_n 0, 1) := by decide +kernel
theorem dX11_row_8 : decode cX11_row 8 = .ok (.bipush (-6), 2) := by decide +kernel
theorem dX11_row_10 : decode cX11_row 10 = .ok (.invokevirtual 87, 3) := by decide +kernel
theorem dX11_row_13 : decode cX11_row 13 = .ok (.ireturn, 1) := by decide +kernel
theorem dX11_row_14 : decode cX11_row 14 = .ok (.iconst 0, 1) := by decide +kernel
theorem dX11_row_15 : decode cX11_row 15 = .ok (.istore_n 1, 1) := by decide +kernel
theorem dX11_row_16 : decode cX11_row 16 = .ok (.aload_n 0, 1) := by decide +kernel
theorem dX11_row_17 : decode cX11_row 17 = .ok (.aload_n 0, 1) := by decide +kernel
theorem dX11_row_18 : decode cX11_row 18 = .ok (.getfield 66, 3) := by decide +kernel
theorem dX11_row_21 : decode cX11_row 21 = .ok (.iconst 3, 1) := by decide +kernel
theorem dX11_row_22 : decode cX11_row 22 = .ok (.irem, 1) := by decide +kernel
theorem dX11_row_23 : decode cX11_row 23 = .ok (.ifCond .ne 7, 3) := by decide +kernel
theorem dX11_row_26 : decode cX11_row 26 = .ok (.iconst 0, 1) := by decide +kernel
theorem dX11_row_27 : decode cX11_row 27 = .ok (.goto 4, 3) := by decide +kernel
theorem dX11_row_30 : decode cX11_row 30 = .ok (.iconst 1, 1) := by decide +kernel
theorem dX11_row_31 : decode cX11_row 31 = .ok (.putfield 73, 3) := by decide +kernel
theorem dX11_row_34 : decode cX11_row 34 = .ok (.iconst 0, 1) := by decide +kernel
theorem dX11_row_35 : decode cX11_row 35 = .ok (.istore_n 2, 1) := by decide +kernel
theorem dX11_row_36 : decode cX11_row 36 = .ok (.iload_n 2, 1) := by decide +kernel
theorem dX11_row_37 : decode cX11_row 37 = .ok (.iconst 2, 1) := by decide +kernel
theorem dX11_row_38 : decode cX11_row 38 = .ok (.iadd, 1) := by decide +kernel
theorem dX11_row_39 : decode cX11_row 39 = .ok (.aload_n 0, 1) := by decide +kernel
theorem dX11_row_40 : decode cX11_row 40 = .ok (.getfield 66, 3) := by decide +kernel
theorem dX11_row_43 : decode cX11_row 43 = .ok (.if_icmp .ge 54, 3) := by decide +kernel
theorem dX11_row_46 : decode cX11_row 46 = .ok (.aload_n 0, 1) := by decide +kernel
theorem dX11_row_47 : decode cX11_row 47 = .ok (.aload_n 0, 1) := by decide +kernel
theorem dX11_row_48 : decode cX11_row 48 = .ok (.getfield 56, 3) := by decide +kernel
theorem dX11_row_51 : decode cX11_row 51 = .ok (.iload_n 2, 1) := by decide +kernel
theorem dX11_row_52 : decode cX11_row 52 = .ok (.iaload, 1) := by decide +kernel
theorem dX11_row_53 : decode cX11_row 53 = .ok (.aload_n 0, 1) := by decide +kernel
theorem dX11_row_54 : decode cX11_row 54 = .ok (.getfield 56, 3) := by decide +kernel
theorem dX11_row_57 : decode cX11_row 57 = .ok (.iload_n 2, 1) := by decide +kernel
theorem dX11_row_58 : decode cX11_row 58 = .ok (.iconst 1, 1) := by decide +kernel
theorem dX11_row_59 : decode cX11_row 59 = .ok (.iadd, 1) := by decide +kernel
theorem dX11_row_60 : decode cX11_row 60 = .ok (.iaload, 1) := by decide +kernel
theorem dX11_row_61 : decode cX11_row 61 = .ok (.aload_n 0, 1) := by decide +kernel
theorem dX11_row_62 : decode cX11_row 62 = .ok (.getfield 56, 3) := by decide +kernel
theorem dX11_row_65 : decode cX11_row 65 = .ok (.iload_n 2, 1) := by decide +kernel
theorem dX11_row_66 : decode cX11_row 66 = .ok (.iconst 2, 1) := by decide +kernel
theorem dX11_row_67 : decode cX11_row 67 = .ok (.iadd, 1) := by decide +kernel
theorem dX11_row_68 : decode cX11_row 68 = .ok (.iaload, 1) := by decide +kernel
theorem dX11_row_69 : decode cX11_row 69 = .ok (.invokevirtual 217, 3) := by decide +kernel
theorem dX11_row_72 : decode cX11_row 72 = .ok (.ifCond .eq 9, 3) := by decide +kernel
theorem dX11_row_75 : decode cX11_row 75 = .ok (.iinc 1 1, 3) := by decide +kernel
theorem dX11_row_78 : decode cX11_row 78 = .ok (.goto 13, 3) := by decide +kernel
theorem dX11_row_81 : decode cX11_row 81 = .ok (.aload_n 0, 1) := by decide +kernel
theorem dX11_row_82 : decode cX11_row 82 = .ok (.dup, 1) := by decide +kernel
theorem dX11_row_83 : decode cX11_row 83 = .ok (.getfield 73, 3) := by decide +kernel
theorem dX11_row_86 : decode cX11_row 86 = .ok (.iconst 1, 1) := by decide +kernel
theorem dX11_row_87 : decode cX11_row 87 = .ok (.iadd, 1) := by decide +kernel
theorem dX11_row_88 : decode cX11_row 88 = .ok (.putfield 73, 3) := by decide +kernel
theorem dX11_row_91 : decode cX11_row 91 = .ok (.iinc 2 3, 3) := by decide +kernel
theorem dX11_row_94 : decode cX11_row 94 = .ok (.goto (-58), 3) := by decide +kernel
theorem dX11_row_97 : decode cX11_row 97 = .ok (.aload_n 0, 1) := by decide +kernel
theorem dX11_row_98 : decode cX11_row 98 = .ok (.iconst 0, 1) := by decide +kernel
theorem dX11_row_99 : decode cX11_row 99 = .ok (.putfield 66, 3) := by decide +kernel
theorem dX11_row_102 : decode cX11_row 102 = .ok (.aload_n 0, 1) := by decide +kernel
theorem dX11_row_103 : decode cX11_row 103 = .ok (.iload_n 1, 1) := by decide +kernel
theorem dX11_row_104 : decode cX11_row 104 = .ok (.invokevirtual 114, 3) := by decide +kernel
theorem dX11_row_107 : decode cX11_row 107 = .ok (.ireturn, 1) := by decide +kernel
def fX11_row_b91 (N : Nat) (c36 : Int32 → Int32 → qMem → Option (Int32 × qMem)) (v1 : Int32) (v2 : Int32) (σ : qMem) : Option (Int32 × qMem) :=
  (c36 v1 (v2 + 3) σ)
set_option maxRecDepth 20000 in
set_option maxHeartbeats 4000000 in
theorem aX11_row_b91 (N : Nat) (c36 : Int32 → Int32 → qMem → Option (Int32 × qMem)) (hc36 : ∀ (v1 : Int32) (v2 : Int32) (σ : qMem), qAt wC mX11_row (ρi) 36 [(0, .ref 0), (1, .int v1), (2, .int v2)] [] σ (c36 v1 v2 σ)) (v1 : Int32) (v2 : Int32) (σ : qMem) : qAt wC mX11_row (ρi) 91 [(0, .ref 0), (1, .int v1), (2, .int v2)] [] σ (fX11_row_b91 N c36 v1 v2 σ) := by
  unfold fX11_row_b91
  refine q_iinc (i := 2) (x := v2) (v := (v2 + 3)) (L' := [(2, .int (v2 + 3)), (0, .ref 0), (1, .int v1)]) dX11_row_91 2 rfl (q_cst v2 (by decide)) (Nat.le_of_ble_eq_true rfl) rfl ?_
  refine q_goto (tgt := 36) dX11_row_94 (by decide) ?_
  exact q_sub [1, 2, 0] rfl (hc36 v1 (v2 + 3) σ)

def fX11_row_s36 (N : Nat) (c36 : Int32 → Int32 → qMem → Option (Int32 × qMem)) (v1 : Int32) (v2 : Int32) (σ : qMem) : Option (Int32 × qMem) :=
  (if (gi σ 0 10) ≤ (v2 + 2) then (nmM (si σ 0 10 0) fun s3 => ((fX11_changed v1 s3).bind fun y4 => (some (y4.1, y4.2)))) else (if ck v2 400 = true then (if ck (v2 + 1) 400 = true then (if ck (v2 + 2) 400 = true then ((fX11_cameFromTape (gi σ 86 v2.toNatClampNeg) (gi σ 86 (v2 + 1).toNatClampNeg) (gi σ 86 (v2 + 2).toNatClampNeg) σ).bind fun y5 => (if y5.1 = 0 then (nmM (si y5.2 0 12 ((gi y5.2 0 12) + 1)) fun s6 => (fX11_row_b91 N c36 v1 v2 s6)) else (fX11_row_b91 N c36 (v1 + 1) v2 y5.2))) else none) else none) else none))
set_option maxRecDepth 20000 in
set_option maxHeartbeats 4000000 in
theorem aX11_row_s36 (N : Nat) (c36 : Int32 → Int32 → qMem → Option (Int32 × qMem)) (hc36 : ∀ (v1 : Int32) (v2 : Int32) (σ : qMem), qAt wC mX11_row (ρi) 36 [(0, .ref 0), (1, .int v1), (2, .int v2)] [] σ (c36 v1 v2 σ)) (v1 : Int32) (v2 : Int32) (σ : qMem) : qAt wC mX11_row (ρi) 36 [(0, .ref 0), (1, .int v1), (2, .int v2)] [] σ (fX11_row_s36 N c36 v1 v2 σ) := by
  unfold fX11_row_s36
  refine q_iload_n (i := 2) (x := v2) dX11_row_36 rfl 2 rfl ?_
  refine q_iconst (v := 2) dX11_row_37 (by decide) ?_
  refine q_iadd dX11_row_38 ?_
  refine q_aload_n (i := 0) (x := 0) dX11_row_39 rfl 0 rfl ?_
  refine q_geti dX11_row_40 foX11_66 zC_0 rfl ?_
  refine q_icmp_ge (tgt := 97) dX11_row_43 (by decide) ?_ ?_
  · refine q_aload_n (i := 0) (x := 0) dX11_row_97 rfl 0 rfl ?_
    refine q_iconst (v := 0) dX11_row_98 (by decide) ?_
    refine q_puti dX11_row_99 foX11_66 fwX11_10 zC_0 rfl ?_
    refine q_nmM (fun s3 => ?_)
    refine q_aload_n (i := 0) (x := 0) dX11_row_102 rfl 0 rfl ?_
    refine q_iload_n (i := 1) (x := v1) dX11_row_103 rfl 1 rfl ?_
    refine q_cVi mX11_changed [.int v1] (st := []) dX11_row_104 (svX11_114) ⟨Nat.le_of_ble_eq_true rfl, Nat.le_of_ble_eq_true rfl⟩ zC_0 rfl rfl rfl (Nat.le_of_ble_eq_true rfl) (kX11_changed v1 s3) (fun y4 => ?_)
    exact q_ireti (y := (y4.1, y4.2)) dX11_row_107 rfl rfl
  refine q_aload_n (i := 0) (x := 0) dX11_row_46 rfl 0 rfl ?_
  refine q_aload_n (i := 0) (x := 0) dX11_row_47 rfl 0 rfl ?_
  refine q_getr (t := 86) dX11_row_48 foX11_56 zC_0 rfl ?_
  refine q_iload_n (i := 2) (x := v2) dX11_row_51 rfl 2 rfl ?_
  refine q_iald dX11_row_52 zC_86 ?_
  refine q_aload_n (i := 0) (x := 0) dX11_row_53 rfl 0 rfl ?_
  refine q_getr (t := 86) dX11_row_54 foX11_56 zC_0 rfl ?_
  refine q_iload_n (i := 2) (x := v2) dX11_row_57 rfl 2 rfl ?_
  refine q_iconst (v := 1) dX11_row_58 (by decide) ?_
  refine q_iadd dX11_row_59 ?_
  refine q_iald dX11_row_60 zC_86 ?_
  refine q_aload_n (i := 0) (x := 0) dX11_row_61 rfl 0 rfl ?_
  refine q_getr (t := 86) dX11_row_62 foX11_56 zC_0 rfl ?_
  refine q_iload_n (i := 2) (x := v2) dX11_row_65 rfl 2 rfl ?_
  refine q_iconst (v := 2) dX11_row_66 (by decide) ?_
  refine q_iadd dX11_row_67 ?_
  refine q_iald dX11_row_68 zC_86 ?_
  refine q_cVi mX11_cameFromTape [.int (gi σ 86 v2.toNatClampNeg), .int (gi σ 86 (v2 + 1).toNatClampNeg), .int (gi σ 86 (v2 + 2).toNatClampNeg)] (st := []) dX11_row_69 (svX11_217) ⟨Nat.le_of_ble_eq_true rfl, Nat.le_of_ble_eq_true rfl⟩ zC_0 rfl rfl rfl (Nat.le_of_ble_eq_true rfl) (kX11_cameFromTape (gi σ 86 v2.toNatClampNeg) (gi σ 86 (v2 + 1).toNatClampNeg) (gi σ 86 (v2 + 2).toNatClampNeg) σ) (fun y5 => ?_)
  refine q_if_eq (tgt := 81) dX11_row_72 (by decide) ?_ ?_
  · refine q_aload_n (i := 0) (x := 0) dX11_row_81 rfl 0 rfl ?_
    refine q_dup dX11_row_82 rfl ?_
    refine q_geti dX11_row_83 foX11_73 zC_0 rfl ?_
    refine q_iconst (v := 1) dX11_row_86 (by decide) ?_
    refine q_iadd dX11_row_87 ?_
    refine q_puti dX11_row_88 foX11_73 fwX11_12 zC_0 rfl ?_
    refine q_nmM (fun s6 => ?_)
    exact q_sub [0, 1, 2] rfl (aX11_row_b91 N c36 hc36 v1 v2 s6)
  refine q_iinc (i := 1) (x := v1) (v := (v1 + 1)) (L' := [(1, .int (v1 + 1)), (0, .ref 0), (2, .int v2)]) dX11_row_75 1 rfl (q_cst v1 (by decide)) (Nat.le_of_ble_eq_true rfl) rfl ?_
  refine q_goto (tgt := 91) dX11_row_78 (by decide) ?_
  exact q_sub [1, 0, 2] rfl (aX11_row_b91 N c36 hc36 (v1 + 1) v2 y5.2)
def fX11_row_l36 (N : Nat) : Nat → Int32 → Int32 → qMem → Option (Int32 × qMem)
  | 0 => fun _ _ _ => none
  | n + 1 => fun v1 v2 σ => fX11_row_s36 N (fX11_row_l36 N n) v1 v2 σ
theorem aX11_row_l36 (N : Nat) : ∀ (n : Nat) (v1 : Int32) (v2 : Int32) (σ : qMem), qAt wC mX11_row (ρi) 36 [(0, .ref 0), (1, .int v1), (2, .int v2)] [] σ (fX11_row_l36 N n v1 v2 σ) := by
  intro n
  induction n with
  | zero => intro v1 v2 σ; exact q_none
  | succ n ih => intro v1 v2 σ; exact aX11_row_s36 N (fX11_row_l36 N n) ih v1 v2 σ

def fX11_row_b31 (N : Nat) (v1 : Int32) (u1 : Int32) (σ : qMem) : Option (Int32 × qMem) :=
  (nmM (si σ 0 12 u1) fun s2 => (fX11_row_l36 N N v1 0 s2))
set_option maxRecDepth 20000 in
set_option maxHeartbeats 4000000 in
theorem aX11_row_b31 (N : Nat) (v1 : Int32) (u1 : Int32) (σ : qMem) : qAt wC mX11_row (ρi) 31 [(0, .ref 0), (1, .int v1)] [.int u1, .ref 0] σ (fX11_row_b31 N v1 u1 σ) := by
  unfold fX11_row_b31
  refine q_puti dX11_row_31 foX11_73 fwX11_12 zC_0 rfl ?_
  refine q_nmM (fun s2 => ?_)
  refine q_iconst (v := 0) dX11_row_34 (by decide) ?_
  refine q_istore_n (i := 2) (L' := [(2, .int 0), (0, .ref 0), (1, .int v1)]) dX11_row_35 rfl (Nat.le_of_ble_eq_true rfl) rfl ?_
  exact q_sub [1, 2, 0] rfl (aX11_row_l36 N N v1 0 s2)

def fX11_row (N : Nat)  (σ : qMem) : Option (Int32 × qMem) :=
  (if (gi σ 0 10) = 0 then ((fX11_refuse (-6) σ).bind fun y1 => (some (y1.1, y1.2))) else (if (irm (gi σ 0 10) 3) = 0 then (fX11_row_b31 N 0 0 σ) else (fX11_row_b31 N 0 1 σ)))
set_option maxRecDepth 20000 in
set_option maxHeartbeats 4000000 in
theorem aX11_row  (N : Nat)   (σ : qMem) : qAt wC mX11_row (ρi) 0 [(0, .ref 0)] [] σ (fX11_row N σ) := by
  unfold fX11_row
  refine q_aload_n (i := 0) (x := 0) dX11_row_0 rfl 0 rfl ?_
  refine q_geti dX11_row_1 foX11_66 zC_0 rfl ?_
  refine q_if_ne (tgt := 14) dX11_row_4 (by decide) ?_ ?_
  · refine q_iconst (v := 0) dX11_row_14 (by decide) ?_
    refine q_istore_n (i := 1) (L' := [(1, .int 0), (0, .ref 0)]) dX11_row_15 rfl (Nat.le_of_ble_eq_true rfl) rfl ?_
    refine q_aload_n (i := 0) (x := 0) dX11_row_16 rfl 1 rfl ?_
    refine q_aload_n (i := 0) (x := 0) dX11_row_17 rfl 1 rfl ?_
    refine q_geti dX11_row_18 foX11_66 zC_0 rfl ?_
    refine q_iconst (v := 3) dX11_row_21 (by decide) ?_
    refine q_irem dX11_row_22 (by decide) ?_
    refine q_if_ne (tgt := 30) dX11_row_23 (by decide) ?_ ?_
    · refine q_iconst (v := 1) dX11_row_30 (by decide) ?_
      exact q_sub [1, 0] rfl (aX11_row_b31 N 0 1 σ)
    refine q_iconst (v := 0) dX11_row_26 (by decide) ?_
    refine q_goto (tgt := 31) dX11_row_27 (by decide) ?_
    exact q_sub [1, 0] rfl (aX11_row_b31 N 0 0 σ)
  refine q_aload_n (i := 0) (x := 0) dX11_row_7 rfl 0 rfl ?_
  refine q_bipush (v := (-6)) dX11_row_8 (by decide) ?_
  refine q_cVi mX11_refuse [.int (-6)] (st := []) dX11_row_10 (svX11_87) ⟨Nat.le_of_ble_eq_true rfl, Nat.le_of_ble_eq_true rfl⟩ zC_0 rfl rfl rfl (Nat.le_of_ble_eq_true rfl) (kX11_refuse (-6) σ) (fun y1 => ?_)
  exact q_ireti (y := (y1.1, y1.2)) dX11_row_13 rfl rfl
theorem kX11_row  (N : Nat)   (σ : qMem) : qMc wC mX11_row (ρi) [.ref 0] σ (fX11_row N σ) := qMc_of (moX11_row) (Nat.le_of_ble_eq_true rfl) (aX11_row N  σ)

theorem dX11_torn_0 : decode cX11_torn 0 = .ok (.aload_n 0, 1) := by decide +kernel
theorem dX11_torn_1 : decode cX11_torn 1 = .ok (.getfield 73, 3) := by decide +kernel
theorem dX11_torn_4 : decode cX11_torn 4 = .ok (.ireturn, 1) := by decide +kernel

def fX11_torn  (σ : qMem) : Option Int32 :=
  (some (gi σ 0 12))
set_option maxRecDepth 20000 in
set_option maxHeartbeats 4000000 in
theorem aX11_torn    (σ : qMem) : qAt wC mX11_torn (ρp σ) 0 [(0, .ref 0)] [] σ (fX11_torn σ) := by
  unfold fX11_torn
  refine q_aload_n (i := 0) (x := 0) dX11_torn_0 rfl 0 rfl ?_
  refine q_geti dX11_torn_1 foX11_73 zC_0 rfl ?_
  exact q_ireti (y := (gi σ 0 12)) dX11_torn_4 rfl rfl
theorem kX11_torn    (σ : qMem) : qMc wC mX11_torn (ρp σ) [.ref 0] σ (fX11_torn σ) := qMc_of (moX11_torn) (Nat.le_of_ble_eq_true rfl) (aX11_torn  σ)

theorem dX11_law_0 : decode cX11_law 0 = .ok (.aload_n 0, 1) := by decide +kernel
theorem dX11_law_1 : decode cX11_law 1 = .ok (.aload_n 0, 1) := by decide +kernel
theorem dX11_law_2 : decode cX11_law 2 = .ok (.getfield 52, 3) := by decide +kernel
theorem dX11_law_5 : decode cX11_law 5 = .ok (.aload_n 0, 1) := by decide +kernel
theorem dX11_law_6 : decode cX11_law 6 = .ok (.getfield 56, 3) := by decide +kernel
theorem dX11_law_9 : decode cX11_law 9 = .ok (.aload_n 0, 1) := by decide +kernel
theorem dX11_law_10 : decode cX11_law 10 = .ok (.getfield 66, 3) := by decide +kernel
theorem dX11_law_13 : decode cX11_law 13 = .ok (.invokevirtual 220, 3) := by decide +kernel
theorem dX11_law_16 : decode cX11_law 16 = .ok (.putfield 70, 3) := by decide +kernel
theorem dX11_law_19 : decode cX11_law 19 = .ok (.aload_n 0, 1) := by decide +kernel
theorem dX11_law_20 : decode cX11_law 20 = .ok (.iconst 0, 1) := by decide +kernel
theorem dX11_law_21 : decode cX11_law 21 = .ok (.putfield 66, 3) := by decide +kernel
theorem dX11_law_24 : decode cX11_law 24 = .ok (.aload_n 0, 1) := by decide +kernel
theorem dX11_law_25 : decode cX11_law 25 = .ok (.getfield 70, 3) := by decide +kernel
theorem dX11_law_28 : decode cX11_law 28 = .ok (.iconst (-1), 1) := by decide +kernel
theorem dX11_law_29 : decode cX11_law 29 = .ok (.if_icmp .eq 10, 3) := by decide +kernel
theorem dX11_law_32 : decode cX11_law 32 = .ok (.aload_n 0, 1) := by decide +kernel
theorem dX11_law_33 : decode cX11_law 33 = .ok (.bipush (-6), 2) := by decide +kernel
theorem dX11_law_35 : decode cX11_law 35 = .ok (.invokevirtual 87, 3) := by decide +kernel
theorem dX11_law_38 : decode cX11_law 38 = .ok (.ireturn, 1) := by decide +kernel
theorem dX11_law_39 : decode cX11_law 39 = .ok (.aload_n 0, 1) := by decide +kernel
theorem dX11_law_40 : decode cX11_law 40 = .ok (.getfield 12, 3) := by decide +kernel
theorem dX11_law_43 : decode cX11_law 43 = .ok (.getfield 224, 3) := by decide +kernel
theorem dX11_law_46 : decode cX11_law 46 = .ok (.aload_n 0, 1) := by decide +kernel
theorem dX11_law_47 : decode cX11_law 47 = .ok (.getfield 52, 3) := by decide +kernel
theorem dX11_law_50 : decode cX11_law 50 = .ok (.getfield 228, 3) := by decide +kernel
theorem dX11_law_53 : decode cX11_law 53 = .ok (.invokevirtual 231, 3) := by decide +kernel
theorem dX11_law_56 : decode cX11_law 56 = .ok (.aload_n 0, 1) := by decide +kernel
theorem dX11_law_57 : decode cX11_law 57 = .ok (.aload_n 0, 1) := by decide +kernel
theorem dX11_law_58 : decode cX11_law 58 = .ok (.getfield 12, 3) := by decide +kernel
theorem dX11_law_61 : decode cX11_law 61 = .ok (.getfield 224, 3) := by decide +kernel
theorem dX11_law_64 : decode cX11_law 64 = .ok (.getfield 237, 3) := by decide +kernel
theorem dX11_law_67 : decode cX11_law 67 = .ok (.getfield 105, 3) := by decide +kernel
theorem dX11_law_70 : decode cX11_law 70 = .ok (.invokevirtual 240, 3) := by decide +kernel
theorem dX11_law_73 : decode cX11_law 73 = .ok (.ireturn, 1) := by decide +kernel

def fX11_law (N : Nat)  (σ : qMem) : Option (Int32 × qMem) :=
  ((fX6_read N (gi σ 0 10) σ).bind fun y1 => (nmM (si y1.2 0 11 y1.1) fun s2 => (nmM (si s2 0 10 0) fun s3 => (if (gi s3 0 11) = (-1) then ((fX5_copy 35 78 s3).bind fun y4 => ((fX11_accept (gi y4 36 3) y4).bind fun y5 => (some (y5.1, y5.2)))) else ((fX11_refuse (-6) s3).bind fun y6 => (some (y6.1, y6.2)))))))
set_option maxRecDepth 20000 in
set_option maxHeartbeats 4000000 in
theorem aX11_law  (N : Nat)   (σ : qMem) : qAt wC mX11_law (ρi) 0 [(0, .ref 0)] [] σ (fX11_law N σ) := by
  unfold fX11_law
  refine q_aload_n (i := 0) (x := 0) dX11_law_0 rfl 0 rfl ?_
  refine q_aload_n (i := 0) (x := 0) dX11_law_1 rfl 0 rfl ?_
  refine q_getr (t := 77) dX11_law_2 foX11_52 zC_0 rfl ?_
  refine q_aload_n (i := 0) (x := 0) dX11_law_5 rfl 0 rfl ?_
  refine q_getr (t := 86) dX11_law_6 foX11_56 zC_0 rfl ?_
  refine q_aload_n (i := 0) (x := 0) dX11_law_9 rfl 0 rfl ?_
  refine q_geti dX11_law_10 foX11_66 zC_0 rfl ?_
  refine q_cVi mX6_read [.ref 86, .int (gi σ 0 10)] (st := [.ref 0]) dX11_law_13 (svX11_220) ⟨Nat.le_of_ble_eq_true rfl, Nat.le_of_ble_eq_true rfl⟩ zC_77 rfl rfl rfl (Nat.le_of_ble_eq_true rfl) (kX6_read N (gi σ 0 10) σ) (fun y1 => ?_)
  refine q_puti dX11_law_16 foX11_70 fwX11_11 zC_0 rfl ?_
  refine q_nmM (fun s2 => ?_)
  refine q_aload_n (i := 0) (x := 0) dX11_law_19 rfl 0 rfl ?_
  refine q_iconst (v := 0) dX11_law_20 (by decide) ?_
  refine q_puti dX11_law_21 foX11_66 fwX11_10 zC_0 rfl ?_
  refine q_nmM (fun s3 => ?_)
  refine q_aload_n (i := 0) (x := 0) dX11_law_24 rfl 0 rfl ?_
  refine q_geti dX11_law_25 foX11_70 zC_0 rfl ?_
  refine q_iconst (v := (-1)) dX11_law_28 (by decide) ?_
  refine q_icmp_eq (tgt := 39) dX11_law_29 (by decide) ?_ ?_
  · refine q_aload_n (i := 0) (x := 0) dX11_law_39 rfl 0 rfl ?_
    refine q_getr (t := 1) dX11_law_40 foX11_12 zC_0 rfl ?_
    refine q_getr (t := 35) dX11_law_43 foX11_224 zC_1 rfl ?_
    refine q_aload_n (i := 0) (x := 0) dX11_law_46 rfl 0 rfl ?_
    refine q_getr (t := 77) dX11_law_47 foX11_52 zC_0 rfl ?_
    refine q_getr (t := 78) dX11_law_50 foX11_228 zC_77 rfl ?_
    refine q_cVv mX5_copy [.ref 78] (st := []) dX11_law_53 (svX11_231) ⟨Nat.le_of_ble_eq_true rfl, Nat.le_of_ble_eq_true rfl⟩ zC_35 rfl rfl rfl (Nat.le_of_ble_eq_true rfl) (kX5_copy 35 78 pC_35 pC_78 s3) (fun y4 => ?_)
    refine q_aload_n (i := 0) (x := 0) dX11_law_56 rfl 0 rfl ?_
    refine q_aload_n (i := 0) (x := 0) dX11_law_57 rfl 0 rfl ?_
    refine q_getr (t := 1) dX11_law_58 foX11_12 zC_0 rfl ?_
    refine q_getr (t := 35) dX11_law_61 foX11_224 zC_1 rfl ?_
    refine q_getr (t := 36) dX11_law_64 foX11_237 zC_35 rfl ?_
    refine q_geti dX11_law_67 foX11_105 zC_36 rfl ?_
    refine q_cVi mX11_accept [.int (gi y4 36 3)] (st := []) dX11_law_70 (svX11_240) ⟨Nat.le_of_ble_eq_true rfl, Nat.le_of_ble_eq_true rfl⟩ zC_0 rfl rfl rfl (Nat.le_of_ble_eq_true rfl) (kX11_accept (gi y4 36 3) y4) (fun y5 => ?_)
    exact q_ireti (y := (y5.1, y5.2)) dX11_law_73 rfl rfl
  refine q_aload_n (i := 0) (x := 0) dX11_law_32 rfl 0 rfl ?_
  refine q_bipush (v := (-6)) dX11_law_33 (by decide) ?_
  refine q_cVi mX11_refuse [.int (-6)] (st := []) dX11_law_35 (svX11_87) ⟨Nat.le_of_ble_eq_true rfl, Nat.le_of_ble_eq_true rfl⟩ zC_0 rfl rfl rfl (Nat.le_of_ble_eq_true rfl) (kX11_refuse (-6) s3) (fun y6 => ?_)
  exact q_ireti (y := (y6.1, y6.2)) dX11_law_38 rfl rfl
theorem kX11_law  (N : Nat)   (σ : qMem) : qMc wC mX11_law (ρi) [.ref 0] σ (fX11_law N σ) := qMc_of (moX11_law) (Nat.le_of_ble_eq_true rfl) (aX11_law N  σ)

theorem dX11_fault_0 : decode cX11_fault 0 = .ok (.aload_n 0, 1) := by decide +kernel
theorem dX11_fault_1 : decode cX11_fault 1 = .ok (.getfield 70, 3) := by decide +kernel
theorem dX11_fault_4 : decode cX11_fault 4 = .ok (.ireturn, 1) := by decide +kernel

def fX11_fault  (σ : qMem) : Option Int32 :=
  (some (gi σ 0 11))
set_option maxRecDepth 20000 in
set_option maxHeartbeats 4000000 in
theorem aX11_fault    (σ : qMem) : qAt wC mX11_fault (ρp σ) 0 [(0, .ref 0)] [] σ (fX11_fault σ) := by
  unfold fX11_fault
  refine q_aload_n (i := 0) (x := 0) dX11_fault_0 rfl 0 rfl ?_
  refine q_geti dX11_fault_1 foX11_70 zC_0 rfl ?_
  exact q_ireti (y := (gi σ 0 11)) dX11_fault_4 rfl rfl
theorem kX11_fault    (σ : qMem) : qMc wC mX11_fault (ρp σ) [.ref 0] σ (fX11_fault σ) := qMc_of (moX11_fault) (Nat.le_of_ble_eq_true rfl) (aX11_fault  σ)

theorem dX11_runs_0 : decode cX11_runs 0 = .ok (.aload_n 0, 1) := by decide +kernel
theorem dX11_runs_1 : decode cX11_runs 1 = .ok (.getfield 29, 3) := by decide +kernel
theorem dX11_runs_4 : decode cX11_runs 4 = .ok (.invokevirtual 243, 3) := by decide +kernel
theorem dX11_runs_7 : decode cX11_runs 7 = .ok (.aload_n 0, 1) := by decide +kernel
theorem dX11_runs_8 : decode cX11_runs 8 = .ok (.getfield 29, 3) := by decide +kernel
theorem dX11_runs_11 : decode cX11_runs 11 = .ok (.getfield 246, 3) := by decide +kernel
theorem dX11_runs_14 : decode cX11_runs 14 = .ok (.ireturn, 1) := by decide +kernel

def fX11_runs (N : Nat)  (σ : qMem) : Option (Int32 × qMem) :=
  ((fX3_plot N σ).bind fun y1 => (some ((gi y1 44 14), y1)))
set_option maxRecDepth 20000 in
set_option maxHeartbeats 4000000 in
theorem aX11_runs  (N : Nat)   (σ : qMem) : qAt wC mX11_runs (ρi) 0 [(0, .ref 0)] [] σ (fX11_runs N σ) := by
  unfold fX11_runs
  refine q_aload_n (i := 0) (x := 0) dX11_runs_0 rfl 0 rfl ?_
  refine q_getr (t := 44) dX11_runs_1 foX11_29 zC_0 rfl ?_
  refine q_cVv mX3_plot [] (st := []) dX11_runs_4 (svX11_243) ⟨Nat.le_of_ble_eq_true rfl, Nat.le_of_ble_eq_true rfl⟩ zC_44 rfl rfl rfl (Nat.le_of_ble_eq_true rfl) (kX3_plot N σ) (fun y1 => ?_)
  refine q_aload_n (i := 0) (x := 0) dX11_runs_7 rfl 0 rfl ?_
  refine q_getr (t := 44) dX11_runs_8 foX11_29 zC_0 rfl ?_
  refine q_geti dX11_runs_11 foX11_246 zC_44 rfl ?_
  exact q_ireti (y := ((gi y1 44 14), y1)) dX11_runs_14 rfl rfl
theorem kX11_runs  (N : Nat)   (σ : qMem) : qMc wC mX11_runs (ρi) [.ref 0] σ (fX11_runs N σ) := qMc_of (moX11_runs) (Nat.le_of_ble_eq_true rfl) (aX11_runs N  σ)

theorem dX11_run_0 : decode cX11_run 0 = .ok (.iload_n 1, 1) := by decide +kernel
theorem dX11_run_1 : decode cX11_run 1 = .ok (.ifCond .lt 12, 3) := by decide +kernel
theorem dX11_run_4 : decode cX11_run 4 = .ok (.iload_n 2, 1) := by decide +kernel
theorem dX11_run_5 : decode cX11_run 5 = .ok (.iconst 0, 1) := by decide +kernel
theorem dX11_run_6 : decode cX11_run 6 = .ok (.iconst 3, 1) := by decide +kernel
theorem dX11_run_7 : decode cX11_run 7 = .ok (.invokestatic 83, 3) := by decide +kernel
theorem dX11_run_10 : decode cX11_run 10 = .ok (.ifCond .ne 7, 3) := by decide +kernel
theorem dX11_run_13 : decode cX11_run 13 = .ok (.sipush (-1000), 3) := by decide +kernel
theorem dX11_run_16 : decode cX11_run 16 = .ok (.ireturn, 1) := by decide +kernel
theorem dX11_run_17 : decode cX11_run 17 = .ok (.aload_n 0, 1) := by decide +kernel
theorem dX11_run_18 : decode cX11_run 18 = .ok (.getfield 29, 3) := by decide +kernel
theorem dX11_run_21 : decode cX11_run 21 = .ok (.invokevirtual 243, 3) := by decide +kernel
theorem dX11_run_24 : decode cX11_run 24 = .ok (.iload_n 1, 1) := by decide +kernel
theorem dX11_run_25 : decode cX11_run 25 = .ok (.aload_n 0, 1) := by decide +kernel
theorem dX11_run_26 : decode cX11_run 26 = .ok (.getfield 29, 3) := by decide +kernel
theorem dX11_run_29 : decode cX11_run 29 = .ok (.getfield 246, 3) := by decide +kernel
theorem dX11_run_32 : decode cX11_run 32 = .ok (.if_icmp .ge 15, 3) := by decide +kernel
theorem dX11_run_35 : decode cX11_run 35 = .ok (.aload_n 0, 1) := by decide +kernel
theorem dX11_run_36 : decode cX11_run 36 = .ok (.getfield 29, 3) := by decide +kernel
theorem dX11_run_39 : decode cX11_run 39 = .ok (.iload_n 1, 1) := by decide +kernel
theorem dX11_run_40 : decode cX11_run 40 = .ok (.iload_n 2, 1) := by decide +kernel
theorem dX11_run_41 : decode cX11_run 41 = .ok (.invokevirtual 249, 3) := by decide +kernel
theorem dX11_run_44 : decode cX11_run 44 = .ok (.goto 6, 3) := by decide +kernel
theorem dX11_run_47 : decode cX11_run 47 = .ok (.sipush (-1000), 3) := by decide +kernel
theorem dX11_run_50 : decode cX11_run 50 = .ok (.ireturn, 1) := by decide +kernel

def fX11_run (N : Nat) (p1 : Int32) (p2 : Int32) (σ : qMem) : Option (Int32 × qMem) :=
  (if p1 < 0 then (some ((-1000), σ)) else ((fX11_isIn p2 0 3).bind fun y1 => (if y1 = 0 then (some ((-1000), σ)) else ((fX3_plot N σ).bind fun y2 => (if (gi y2 44 14) ≤ p1 then (some ((-1000), y2)) else ((fX3_pick N p1 p2 y2).bind fun y3 => (some (y3, y2))))))))
set_option maxRecDepth 20000 in
set_option maxHeartbeats 4000000 in
theorem aX11_run  (N : Nat) (p1 : Int32) (p2 : Int32)  (σ : qMem) : qAt wC mX11_run (ρi) 0 [(0, .ref 0), (1, .int p1), (2, .int p2)] [] σ (fX11_run N p1 p2 σ) := by
  unfold fX11_run
  refine q_iload_n (i := 1) (x := p1) dX11_run_0 rfl 1 rfl ?_
  refine q_if_lt (tgt := 13) dX11_run_1 (by decide) ?_ ?_
  · refine q_sipush (v := (-1000)) dX11_run_13 (by decide) ?_
    exact q_ireti (y := ((-1000), σ)) dX11_run_16 rfl rfl
  refine q_iload_n (i := 2) (x := p2) dX11_run_4 rfl 2 rfl ?_
  refine q_iconst (v := 0) dX11_run_5 (by decide) ?_
  refine q_iconst (v := 3) dX11_run_6 (by decide) ?_
  refine q_cSp mX11_isIn [.int p2, .int 0, .int 3] (st := []) dX11_run_7 (ssX11_83) ⟨Nat.le_of_ble_eq_true rfl, Nat.le_of_ble_eq_true rfl⟩ rfl rfl (Nat.le_of_ble_eq_true rfl) (kX11_isIn p2 0 3 σ) (fun y1 => ?_)
  refine q_if_ne (tgt := 17) dX11_run_10 (by decide) ?_ ?_
  · refine q_aload_n (i := 0) (x := 0) dX11_run_17 rfl 0 rfl ?_
    refine q_getr (t := 44) dX11_run_18 foX11_29 zC_0 rfl ?_
    refine q_cVv mX3_plot [] (st := []) dX11_run_21 (svX11_243) ⟨Nat.le_of_ble_eq_true rfl, Nat.le_of_ble_eq_true rfl⟩ zC_44 rfl rfl rfl (Nat.le_of_ble_eq_true rfl) (kX3_plot N σ) (fun y2 => ?_)
    refine q_iload_n (i := 1) (x := p1) dX11_run_24 rfl 1 rfl ?_
    refine q_aload_n (i := 0) (x := 0) dX11_run_25 rfl 0 rfl ?_
    refine q_getr (t := 44) dX11_run_26 foX11_29 zC_0 rfl ?_
    refine q_geti dX11_run_29 foX11_246 zC_44 rfl ?_
    refine q_icmp_ge (tgt := 47) dX11_run_32 (by decide) ?_ ?_
    · refine q_sipush (v := (-1000)) dX11_run_47 (by decide) ?_
      exact q_ireti (y := ((-1000), y2)) dX11_run_50 rfl rfl
    refine q_aload_n (i := 0) (x := 0) dX11_run_35 rfl 0 rfl ?_
    refine q_getr (t := 44) dX11_run_36 foX11_29 zC_0 rfl ?_
    refine q_iload_n (i := 1) (x := p1) dX11_run_39 rfl 1 rfl ?_
    refine q_iload_n (i := 2) (x := p2) dX11_run_40 rfl 2 rfl ?_
    refine q_cVp mX3_pick [.int p1, .int p2] (st := []) dX11_run_41 (svX11_249) ⟨Nat.le_of_ble_eq_true rfl, Nat.le_of_ble_eq_true rfl⟩ zC_44 rfl rfl rfl (Nat.le_of_ble_eq_true rfl) (kX3_pick N p1 p2 y2) (fun y3 => ?_)
    refine q_goto (tgt := 50) dX11_run_44 (by decide) ?_
    exact q_ireti (y := (y3, y2)) dX11_run_50 rfl rfl
  refine q_sipush (v := (-1000)) dX11_run_13 (by decide) ?_
  exact q_ireti (y := ((-1000), σ)) dX11_run_16 rfl rfl
theorem kX11_run  (N : Nat) (p1 : Int32) (p2 : Int32)  (σ : qMem) : qMc wC mX11_run (ρi) [.ref 0, .int p1, .int p2] σ (fX11_run N p1 p2 σ) := qMc_of (moX11_run) (Nat.le_of_ble_eq_true rfl) (aX11_run N p1 p2  σ)

theorem dX11_span_0 : decode cX11_span 0 = .ok (.iload_n 1, 1) := by decide +kernel
theorem dX11_span_1 : decode cX11_span 1 = .ok (.invokestatic 117, 3) := by decide +kernel
theorem dX11_span_4 : decode cX11_span 4 = .ok (.ifCond .eq 12, 3) := by decide +kernel
theorem dX11_span_7 : decode cX11_span 7 = .ok (.iload_n 2, 1) := by decide +kernel
theorem dX11_span_8 : decode cX11_span 8 = .ok (.iconst 0, 1) := by decide +kernel
theorem dX11_span_9 : decode cX11_span 9 = .ok (.iconst 3, 1) := by decide +kernel
theorem dX11_span_10 : decode cX11_span 10 = .ok (.invokestatic 83, 3) := by decide +kernel
theorem dX11_span_13 : decode cX11_span 13 = .ok (.ifCond .ne 7, 3) := by decide +kernel
theorem dX11_span_16 : decode cX11_span 16 = .ok (.sipush (-1000), 3) := by decide +kernel
theorem dX11_span_19 : decode cX11_span 19 = .ok (.ireturn, 1) := by decide +kernel
theorem dX11_span_20 : decode cX11_span 20 = .ok (.aload_n 0, 1) := by decide +kernel
theorem dX11_span_21 : decode cX11_span 21 = .ok (.getfield 29, 3) := by decide +kernel
theorem dX11_span_24 : decode cX11_span 24 = .ok (.invokevirtual 243, 3) := by decide +kernel
theorem dX11_span_27 : decode cX11_span 27 = .ok (.aload_n 0, 1) := by decide +kernel
theorem dX11_span_28 : decode cX11_span 28 = .ok (.getfield 29, 3) := by decide +kernel
theorem dX11_span_31 : decode cX11_span 31 = .ok (.getfield 246, 3) := by decide +kernel
theorem dX11_span_34 : decode cX11_span 34 = .ok (.ifCond .le 15, 3) := by decide +kernel
theorem dX11_span_37 : decode cX11_span 37 = .ok (.aload_n 0, 1) := by decide +kernel
theorem dX11_span_38 : decode cX11_span 38 = .ok (.getfield 29, 3) := by decide +kernel
theorem dX11_span_41 : decode cX11_span 41 = .ok (.iload_n 1, 1) := by decide +kernel
theorem dX11_span_42 : decode cX11_span 42 = .ok (.iload_n 2, 1) := by decide +kernel
theorem dX11_span_43 : decode cX11_span 43 = .ok (.invokevirtual 252, 3) := by decide +kernel
theorem dX11_span_46 : decode cX11_span 46 = .ok (.goto 6, 3) := by decide +kernel
theorem dX11_span_49 : decode cX11_span 49 = .ok (.sipush (-1000), 3) := by decide +kernel
theorem dX11_span_52 : decode cX11_span 52 = .ok (.ireturn, 1) := by decide +kernel

def fX11_span (N : Nat) (p1 : Int32) (p2 : Int32) (σ : qMem) : Option (Int32 × qMem) :=
  ((fX11_isBell p1).bind fun y1 => (if y1 = 0 then (some ((-1000), σ)) else ((fX11_isIn p2 0 3).bind fun y2 => (if y2 = 0 then (some ((-1000), σ)) else ((fX3_plot N σ).bind fun y3 => (if (gi y3 44 14) ≤ 0 then (some ((-1000), y3)) else ((fX3_edge N p1 p2 y3).bind fun y4 => (some (y4, y3)))))))))
set_option maxRecDepth 20000 in
set_option maxHeartbeats 4000000 in
theorem aX11_span  (N : Nat) (p1 : Int32) (p2 : Int32)  (σ : qMem) : qAt wC mX11_span (ρi) 0 [(0, .ref 0), (1, .int p1), (2, .int p2)] [] σ (fX11_span N p1 p2 σ) := by
  unfold fX11_span
  refine q_iload_n (i := 1) (x := p1) dX11_span_0 rfl 1 rfl ?_
  refine q_cSp mX11_isBell [.int p1] (st := []) dX11_span_1 (ssX11_117) ⟨Nat.le_of_ble_eq_true rfl, Nat.le_of_ble_eq_true rfl⟩ rfl rfl (Nat.le_of_ble_eq_true rfl) (kX11_isBell p1 σ) (fun y1 => ?_)
  refine q_if_eq (tgt := 16) dX11_span_4 (by decide) ?_ ?_
  · refine q_sipush (v := (-1000)) dX11_span_16 (by decide) ?_
    exact q_ireti (y := ((-1000), σ)) dX11_span_19 rfl rfl
  refine q_iload_n (i := 2) (x := p2) dX11_span_7 rfl 2 rfl ?_
  refine q_iconst (v := 0) dX11_span_8 (by decide) ?_
  refine q_iconst (v := 3) dX11_span_9 (by decide) ?_
  refine q_cSp mX11_isIn [.int p2, .int 0, .int 3] (st := []) dX11_span_10 (ssX11_83) ⟨Nat.le_of_ble_eq_true rfl, Nat.le_of_ble_eq_true rfl⟩ rfl rfl (Nat.le_of_ble_eq_true rfl) (kX11_isIn p2 0 3 σ) (fun y2 => ?_)
  refine q_if_ne (tgt := 20) dX11_span_13 (by decide) ?_ ?_
  · refine q_aload_n (i := 0) (x := 0) dX11_span_20 rfl 0 rfl ?_
    refine q_getr (t := 44) dX11_span_21 foX11_29 zC_0 rfl ?_
    refine q_cVv mX3_plot [] (st := []) dX11_span_24 (svX11_243) ⟨Nat.le_of_ble_eq_true rfl, Nat.le_of_ble_eq_true rfl⟩ zC_44 rfl rfl rfl (Nat.le_of_ble_eq_true rfl) (kX3_plot N σ) (fun y3 => ?_)
    refine q_aload_n (i := 0) (x := 0) dX11_span_27 rfl 0 rfl ?_
    refine q_getr (t := 44) dX11_span_28 foX11_29 zC_0 rfl ?_
    refine q_geti dX11_span_31 foX11_246 zC_44 rfl ?_
    refine q_if_le (tgt := 49) dX11_span_34 (by decide) ?_ ?_
    · refine q_sipush (v := (-1000)) dX11_span_49 (by decide) ?_
      exact q_ireti (y := ((-1000), y3)) dX11_span_52 rfl rfl
    refine q_aload_n (i := 0) (x := 0) dX11_span_37 rfl 0 rfl ?_
    refine q_getr (t := 44) dX11_span_38 foX11_29 zC_0 rfl ?_
    refine q_iload_n (i := 1) (x := p1) dX11_span_41 rfl 1 rfl ?_
    refine q_iload_n (i := 2) (x := p2) dX11_span_42 rfl 2 rfl ?_
    refine q_cVp mX3_edge [.int p1, .int p2] (st := []) dX11_span_43 (svX11_252) ⟨Nat.le_of_ble_eq_true rfl, Nat.le_of_ble_eq_true rfl⟩ zC_44 rfl rfl rfl (Nat.le_of_ble_eq_true rfl) (kX3_edge N p1 p2 y3) (fun y4 => ?_)
    refine q_goto (tgt := 52) dX11_span_46 (by decide) ?_
    exact q_ireti (y := (y4, y3)) dX11_span_52 rfl rfl
  refine q_sipush (v := (-1000)) dX11_span_16 (by decide) ?_
  exact q_ireti (y := ((-1000), σ)) dX11_span_19 rfl rfl
theorem kX11_span  (N : Nat) (p1 : Int32) (p2 : Int32)  (σ : qMem) : qMc wC mX11_span (ρi) [.ref 0, .int p1, .int p2] σ (fX11_span N p1 p2 σ) := qMc_of (moX11_span) (Nat.le_of_ble_eq_true rfl) (aX11_span N p1 p2  σ)

theorem dX11_isRun_0 : decode cX11_isRun 0 = .ok (.iload_n 0, 1) := by decide +kernel
theorem dX11_isRun_1 : decode cX11_isRun 1 = .ok (.iload_n 1, 1) := by decide +kernel
theorem dX11_isRun_2 : decode cX11_isRun 2 = .ok (.invokestatic 79, 3) := by decide +kernel
theorem dX11_isRun_5 : decode cX11_isRun 5 = .ok (.ifCond .eq 15, 3) := by decide +kernel
theorem dX11_isRun_8 : decode cX11_isRun 8 = .ok (.iload_n 2, 1) := by decide +kernel
theorem dX11_isRun_9 : decode cX11_isRun 9 = .ok (.iload_n 3, 1) := by decide +kernel
theorem dX11_isRun_10 : decode cX11_isRun 10 = .ok (.invokestatic 120, 3) := by decide +kernel
theorem dX11_isRun_13 : decode cX11_isRun 13 = .ok (.ifCond .eq 7, 3) := by decide +kernel
theorem dX11_isRun_16 : decode cX11_isRun 16 = .ok (.iconst 1, 1) := by decide +kernel
theorem dX11_isRun_17 : decode cX11_isRun 17 = .ok (.goto 4, 3) := by decide +kernel
theorem dX11_isRun_20 : decode cX11_isRun 20 = .ok (.iconst 0, 1) := by decide +kernel
theorem dX11_isRun_21 : decode cX11_isRun 21 = .ok (.ireturn, 1) := by decide +kernel
def fX11_isRun_b20  : Option Int32 :=
  (some 0)
set_option maxRecDepth 20000 in
set_option maxHeartbeats 4000000 in
theorem aX11_isRun_b20 (σ : qMem) : qAt wC mX11_isRun (ρp σ) 20 [] [] σ (fX11_isRun_b20) := by
  unfold fX11_isRun_b20
  refine q_iconst (v := 0) dX11_isRun_20 (by decide) ?_
  exact q_iretz (y := 0) dX11_isRun_21 rfl rfl rfl

def fX11_isRun (p0 : Int32) (p1 : Int32) (p2 : Int32) (p3 : Int32) : Option Int32 :=
  ((fX11_ofSea p0 p1).bind fun y1 => (if y1 = 0 then (fX11_isRun_b20 ) else ((fX11_isPace p2 p3).bind fun y2 => (if y2 = 0 then (fX11_isRun_b20 ) else (some 1)))))
set_option maxRecDepth 20000 in
set_option maxHeartbeats 4000000 in
theorem aX11_isRun  (p0 : Int32) (p1 : Int32) (p2 : Int32) (p3 : Int32)  (σ : qMem) : qAt wC mX11_isRun (ρp σ) 0 [(0, .int p0), (1, .int p1), (2, .int p2), (3, .int p3)] [] σ (fX11_isRun p0 p1 p2 p3) := by
  unfold fX11_isRun
  refine q_iload_n (i := 0) (x := p0) dX11_isRun_0 rfl 0 rfl ?_
  refine q_iload_n (i := 1) (x := p1) dX11_isRun_1 rfl 1 rfl ?_
  refine q_cSp mX11_ofSea [.int p0, .int p1] (st := []) dX11_isRun_2 (ssX11_79) ⟨Nat.le_of_ble_eq_true rfl, Nat.le_of_ble_eq_true rfl⟩ rfl rfl (Nat.le_of_ble_eq_true rfl) (kX11_ofSea p0 p1 σ) (fun y1 => ?_)
  refine q_if_eq (tgt := 20) dX11_isRun_5 (by decide) ?_ ?_
  · exact q_sub [] rfl (aX11_isRun_b20 σ)
  refine q_iload_n (i := 2) (x := p2) dX11_isRun_8 rfl 2 rfl ?_
  refine q_iload_n (i := 3) (x := p3) dX11_isRun_9 rfl 3 rfl ?_
  refine q_cSp mX11_isPace [.int p2, .int p3] (st := []) dX11_isRun_10 (ssX11_120) ⟨Nat.le_of_ble_eq_true rfl, Nat.le_of_ble_eq_true rfl⟩ rfl rfl (Nat.le_of_ble_eq_true rfl) (kX11_isPace p2 p3 σ) (fun y2 => ?_)
  refine q_if_eq (tgt := 20) dX11_isRun_13 (by decide) ?_ ?_
  · exact q_sub [] rfl (aX11_isRun_b20 σ)
  refine q_iconst (v := 1) dX11_isRun_16 (by decide) ?_
  refine q_goto (tgt := 21) dX11_isRun_17 (by decide) ?_
  exact q_iretz (y := 1) dX11_isRun_21 rfl rfl rfl
theorem kX11_isRun  (p0 : Int32) (p1 : Int32) (p2 : Int32) (p3 : Int32)  (σ : qMem) : qMc wC mX11_isRun (ρp σ) [.int p0, .int p1, .int p2, .int p3] σ (fX11_isRun p0 p1 p2 p3) := qMc_of (moX11_isRun) (Nat.le_of_ble_eq_true rfl) (aX11_isRun p0 p1 p2 p3  σ)

theorem dX11_misses_0 : decode cX11_misses 0 = .ok (.iload_n 1, 1) := by decide +kernel
theorem dX11_misses_1 : decode cX11_misses 1 = .ok (.iload_n 2, 1) := by decide +kernel
theorem dX11_misses_2 : decode cX11_misses 2 = .ok (.iload_n 3, 1) := by decide +kernel
theorem dX11_misses_3 : decode cX11_misses 3 = .ok (.iload 4, 2) := by decide +kernel
theorem dX11_misses_5 : decode cX11_misses 5 = .ok (.invokestatic 255, 3) := by decide +kernel
theorem dX11_misses_8 : decode cX11_misses 8 = .ok (.ifCond .eq 18, 3) := by decide +kernel
theorem dX11_misses_11 : decode cX11_misses 11 = .ok (.aload_n 0, 1) := by decide +kernel
theorem dX11_misses_12 : decode cX11_misses 12 = .ok (.getfield 38, 3) := by decide +kernel
theorem dX11_misses_15 : decode cX11_misses 15 = .ok (.iload_n 1, 1) := by decide +kernel
theorem dX11_misses_16 : decode cX11_misses 16 = .ok (.iload_n 2, 1) := by decide +kernel
theorem dX11_misses_17 : decode cX11_misses 17 = .ok (.iload_n 3, 1) := by decide +kernel
theorem dX11_misses_18 : decode cX11_misses 18 = .ok (.iload 4, 2) := by decide +kernel
theorem dX11_misses_20 : decode cX11_misses 20 = .ok (.invokevirtual 259, 3) := by decide +kernel
theorem dX11_misses_23 : decode cX11_misses 23 = .ok (.goto 4, 3) := by decide +kernel
theorem dX11_misses_26 : decode cX11_misses 26 = .ok (.iconst (-1), 1) := by decide +kernel
theorem dX11_misses_27 : decode cX11_misses 27 = .ok (.ireturn, 1) := by decide +kernel

def fX11_misses (N : Nat) (p1 : Int32) (p2 : Int32) (p3 : Int32) (p4 : Int32) (σ : qMem) : Option (Int32 × qMem) :=
  ((fX11_isRun p1 p2 p3 p4).bind fun y1 => (if y1 = 0 then (some ((-1), σ)) else ((fX9_missesOf N p1 p2 p3 p4 σ).bind fun y2 => (some (y2.1, y2.2)))))
set_option maxRecDepth 20000 in
set_option maxHeartbeats 4000000 in
theorem aX11_misses  (N : Nat) (p1 : Int32) (p2 : Int32) (p3 : Int32) (p4 : Int32)  (σ : qMem) : qAt wC mX11_misses (ρi) 0 [(0, .ref 0), (1, .int p1), (2, .int p2), (3, .int p3), (4, .int p4)] [] σ (fX11_misses N p1 p2 p3 p4 σ) := by
  unfold fX11_misses
  refine q_iload_n (i := 1) (x := p1) dX11_misses_0 rfl 1 rfl ?_
  refine q_iload_n (i := 2) (x := p2) dX11_misses_1 rfl 2 rfl ?_
  refine q_iload_n (i := 3) (x := p3) dX11_misses_2 rfl 3 rfl ?_
  refine q_iload (i := 4) (x := p4) dX11_misses_3 4 rfl ?_
  refine q_cSp mX11_isRun [.int p1, .int p2, .int p3, .int p4] (st := []) dX11_misses_5 (ssX11_255) ⟨Nat.le_of_ble_eq_true rfl, Nat.le_of_ble_eq_true rfl⟩ rfl rfl (Nat.le_of_ble_eq_true rfl) (kX11_isRun p1 p2 p3 p4 σ) (fun y1 => ?_)
  refine q_if_eq (tgt := 26) dX11_misses_8 (by decide) ?_ ?_
  · refine q_iconst (v := (-1)) dX11_misses_26 (by decide) ?_
    exact q_ireti (y := ((-1), σ)) dX11_misses_27 rfl rfl
  refine q_aload_n (i := 0) (x := 0) dX11_misses_11 rfl 0 rfl ?_
  refine q_getr (t := 68) dX11_misses_12 foX11_38 zC_0 rfl ?_
  refine q_iload_n (i := 1) (x := p1) dX11_misses_15 rfl 1 rfl ?_
  refine q_iload_n (i := 2) (x := p2) dX11_misses_16 rfl 2 rfl ?_
  refine q_iload_n (i := 3) (x := p3) dX11_misses_17 rfl 3 rfl ?_
  refine q_iload (i := 4) (x := p4) dX11_misses_18 4 rfl ?_
  refine q_cVi mX9_missesOf [.int p1, .int p2, .int p3, .int p4] (st := []) dX11_misses_20 (svX11_259) ⟨Nat.le_of_ble_eq_true rfl, Nat.le_of_ble_eq_true rfl⟩ zC_68 rfl rfl rfl (Nat.le_of_ble_eq_true rfl) (kX9_missesOf N p1 p2 p3 p4 σ) (fun y2 => ?_)
  refine q_goto (tgt := 27) dX11_misses_23 (by decide) ?_
  exact q_ireti (y := (y2.1, y2.2)) dX11_misses_27 rfl rfl
theorem kX11_misses  (N : Nat) (p1 : Int32) (p2 : Int32) (p3 : Int32) (p4 : Int32)  (σ : qMem) : qMc wC mX11_misses (ρi) [.ref 0, .int p1, .int p2, .int p3, .int p4] σ (fX11_misses N p1 p2 p3 p4 σ) := qMc_of (moX11_misses) (Nat.le_of_ble_eq_true rfl) (aX11_misses N p1 p2 p3 p4  σ)

theorem dX11_alone_0 : decode cX11_alone 0 = .ok (.iload_n 1, 1) := by decide +kernel
theorem dX11_alone_1 : decode cX11_alone 1 = .ok (.invokestatic 117, 3) := by decide +kernel
theorem dX11_alone_4 : decode cX11_alone 4 = .ok (.ifCond .eq 12, 3) := by decide +kernel
theorem dX11_alone_7 : decode cX11_alone 7 = .ok (.iload_n 2, 1) := by decide +kernel
theorem dX11_alone_8 : decode cX11_alone 8 = .ok (.iconst 0, 1) := by decide +kernel
theorem dX11_alone_9 : decode cX11_alone 9 = .ok (.iconst 1, 1) := by decide +kernel
theorem dX11_alone_10 : decode cX11_alone 10 = .ok (.invokestatic 83, 3) := by decide +kernel
theorem dX11_alone_13 : decode cX11_alone 13 = .ok (.ifCond .ne 7, 3) := by decide +kernel
theorem dX11_alone_16 : decode cX11_alone 16 = .ok (.sipush (-1000), 3) := by decide +kernel
theorem dX11_alone_19 : decode cX11_alone 19 = .ok (.ireturn, 1) := by decide +kernel
theorem dX11_alone_20 : decode cX11_alone 20 = .ok (.aload_n 0, 1) := by decide +kernel
theorem dX11_alone_21 : decode cX11_alone 21 = .ok (.getfield 29, 3) := by decide +kernel
theorem dX11_alone_24 : decode cX11_alone 24 = .ok (.invokevirtual 243, 3) := by decide +kernel
theorem dX11_alone_27 : decode cX11_alone 27 = .ok (.aload_n 0, 1) := by decide +kernel
theorem dX11_alone_28 : decode cX11_alone 28 = .ok (.getfield 29, 3) := by decide +kernel
theorem dX11_alone_31 : decode cX11_alone 31 = .ok (.getfield 246, 3) := by decide +kernel
theorem dX11_alone_34 : decode cX11_alone 34 = .ok (.ifCond .ne 7, 3) := by decide +kernel
theorem dX11_alone_37 : decode cX11_alone 37 = .ok (.sipush (-1000), 3) := by decide +kernel
theorem dX11_alone_40 : decode cX11_alone 40 = .ok (.ireturn, 1) := by decide +kernel
theorem dX11_alone_41 : decode cX11_alone 41 = .ok (.aload_n 0, 1) := by decide +kernel
theorem dX11_alone_42 : decode cX11_alone 42 = .ok (.getfield 29, 3) := by decide +kernel
theorem dX11_alone_45 : decode cX11_alone 45 = .ok (.iload_n 1, 1) := by decide +kernel
theorem dX11_alone_46 : decode cX11_alone 46 = .ok (.iconst 0, 1) := by decide +kernel
theorem dX11_alone_47 : decode cX11_alone 47 = .ok (.invokevirtual 252, 3) := by decide +kernel
theorem dX11_alone_50 : decode cX11_alone 50 = .ok (.istore_n 3, 1) := by decide +kernel
theorem dX11_alone_51 : decode cX11_alone 51 = .ok (.aload_n 0, 1) := by decide +kernel
theorem dX11_alone_52 : decode cX11_alone 52 = .ok (.getfield 29, 3) := by decide +kernel
theorem dX11_alone_55 : decode cX11_alone 55 = .ok (.iload_n 1, 1) := by decide +kernel
theorem dX11_alone_56 : decode cX11_alone 56 = .ok (.iconst 2, 1) := by decide +kernel
theorem dX11_alone_57 : decode cX11_alone 57 = .ok (.invokevirtual 252, 3) := by decide +kernel
theorem dX11_alone_60 : decode cX11_alone 60 = .ok (.istore 4, 2) := by decide +kernel
theorem dX11_alone_62 : decode cX11_alone 62 = .ok (.iload_n 3, 1) := by decide +kernel
theorem dX11_alone_63 : decode cX11_alone 63 = .ok (.aload_n 0, 1) := by decide +kernel
theorem dX11_alone_64 : decode cX11_alone 64 = .ok (.getfield 29, 3) := by decide +kernel
theorem dX11_alone_67 : decode cX11_alone 67 = .ok (.iload_n 1, 1) := by decide +kernel
theorem dX11_alone_68 : decode cX11_alone 68 = .ok (.iconst 1, 1) := by decide +kernel
theorem dX11_alone_69 : decode cX11_alone 69 = .ok (.invokevirtual 252, 3) := by decide +kernel
theorem dX11_alone_72 : decode cX11_alone 72 = .ok (.if_icmp .ne 17, 3) := by decide +kernel
theorem dX11_alone_75 : decode cX11_alone 75 = .ok (.iload 4, 2) := by decide +kernel
theorem dX11_alone_77 : decode cX11_alone 77 = .ok (.aload_n 0, 1) := by decide +kernel
theorem dX11_alone_78 : decode cX11_alone 78 = .ok (.getfield 29, 3) := by decide +kernel
theorem dX11_alone_81 : decode cX11_alone 81 = .ok (.iload_n 1, 1) := by decide +kernel
theorem dX11_alone_82 : decode cX11_alone 82 = .ok (.iconst 3, 1) := by decide +kernel
theorem dX11_alone_83 : decode cX11_alone 83 = .ok (.invokevirtual 252, 3) := by decide +kernel
theorem dX11_alone_86 : decode cX11_alone 86 = .ok (.if_icmp .eq 7, 3) := by decide +kernel
theorem dX11_alone_89 : decode cX11_alone 89 = .ok (.sipush (-1000), 3) := by decide +kernel
theorem dX11_alone_92 : decode cX11_alone 92 = .ok (.ireturn, 1) := by decide +kernel
theorem dX11_alone_93 : decode cX11_alone 93 = .ok (.iload_n 2, 1) := by decide +kernel
theorem dX11_alone_94 : decode cX11_alone 94 = .ok (.ifCond .ne 7, 3) := by decide +kernel
theorem dX11_alone_97 : decode cX11_alone 97 = .ok (.iload_n 3, 1) := by decide +kernel
theorem dX11_alone_98 : decode cX11_alone 98 = .ok (.goto 5, 3) := by decide +kernel
theorem dX11_alone_101 : decode cX11_alone 101 = .ok (.iload 4, 2) := by decide +kernel
theorem dX11_alone_103 : decode cX11_alone 103 = .ok (.ireturn, 1) := by decide +kernel

def fX11_alone (N : Nat) (p1 : Int32) (p2 : Int32) (σ : qMem) : Option (Int32 × qMem) :=
  ((fX11_isBell p1).bind fun y1 => (if y1 = 0 then (some ((-1000), σ)) else ((fX11_isIn p2 0 1).bind fun y2 => (if y2 = 0 then (some ((-1000), σ)) else ((fX3_plot N σ).bind fun y3 => (if (gi y3 44 14) = 0 then (some ((-1000), y3)) else ((fX3_edge N p1 0 y3).bind fun y4 => ((fX3_edge N p1 2 y3).bind fun y5 => ((fX3_edge N p1 1 y3).bind fun y6 => (if y4 = y6 then ((fX3_edge N p1 3 y3).bind fun y7 => (if y5 = y7 then (if p2 = 0 then (some (y4, y3)) else (some (y5, y3))) else (some ((-1000), y3)))) else (some ((-1000), y3))))))))))))
set_option maxRecDepth 20000 in
set_option maxHeartbeats 4000000 in
theorem aX11_alone  (N : Nat) (p1 : Int32) (p2 : Int32)  (σ : qMem) : qAt wC mX11_alone (ρi) 0 [(0, .ref 0), (1, .int p1), (2, .int p2)] [] σ (fX11_alone N p1 p2 σ) := by
  unfold fX11_alone
  refine q_iload_n (i := 1) (x := p1) dX11_alone_0 rfl 1 rfl ?_
  refine q_cSp mX11_isBell [.int p1] (st := []) dX11_alone_1 (ssX11_117) ⟨Nat.le_of_ble_eq_true rfl, Nat.le_of_ble_eq_true rfl⟩ rfl rfl (Nat.le_of_ble_eq_true rfl) (kX11_isBell p1 σ) (fun y1 => ?_)
  refine q_if_eq (tgt := 16) dX11_alone_4 (by decide) ?_ ?_
  · refine q_sipush (v := (-1000)) dX11_alone_16 (by decide) ?_
    exact q_ireti (y := ((-1000), σ)) dX11_alone_19 rfl rfl
  refine q_iload_n (i := 2) (x := p2) dX11_alone_7 rfl 2 rfl ?_
  refine q_iconst (v := 0) dX11_alone_8 (by decide) ?_
  refine q_iconst (v := 1) dX11_alone_9 (by decide) ?_
  refine q_cSp mX11_isIn [.int p2, .int 0, .int 1] (st := []) dX11_alone_10 (ssX11_83) ⟨Nat.le_of_ble_eq_true rfl, Nat.le_of_ble_eq_true rfl⟩ rfl rfl (Nat.le_of_ble_eq_true rfl) (kX11_isIn p2 0 1 σ) (fun y2 => ?_)
  refine q_if_ne (tgt := 20) dX11_alone_13 (by decide) ?_ ?_
  · refine q_aload_n (i := 0) (x := 0) dX11_alone_20 rfl 0 rfl ?_
    refine q_getr (t := 44) dX11_alone_21 foX11_29 zC_0 rfl ?_
    refine q_cVv mX3_plot [] (st := []) dX11_alone_24 (svX11_243) ⟨Nat.le_of_ble_eq_true rfl, Nat.le_of_ble_eq_true rfl⟩ zC_44 rfl rfl rfl (Nat.le_of_ble_eq_true rfl) (kX3_plot N σ) (fun y3 => ?_)
    refine q_aload_n (i := 0) (x := 0) dX11_alone_27 rfl 0 rfl ?_
    refine q_getr (t := 44) dX11_alone_28 foX11_29 zC_0 rfl ?_
    refine q_geti dX11_alone_31 foX11_246 zC_44 rfl ?_
    refine q_if_ne (tgt := 41) dX11_alone_34 (by decide) ?_ ?_
    · refine q_aload_n (i := 0) (x := 0) dX11_alone_41 rfl 0 rfl ?_
      refine q_getr (t := 44) dX11_alone_42 foX11_29 zC_0 rfl ?_
      refine q_iload_n (i := 1) (x := p1) dX11_alone_45 rfl 1 rfl ?_
      refine q_iconst (v := 0) dX11_alone_46 (by decide) ?_
      refine q_cVp mX3_edge [.int p1, .int 0] (st := []) dX11_alone_47 (svX11_252) ⟨Nat.le_of_ble_eq_true rfl, Nat.le_of_ble_eq_true rfl⟩ zC_44 rfl rfl rfl (Nat.le_of_ble_eq_true rfl) (kX3_edge N p1 0 y3) (fun y4 => ?_)
      refine q_istore_n (i := 3) (L' := [(3, .int y4), (0, .ref 0), (1, .int p1), (2, .int p2)]) dX11_alone_50 rfl (Nat.le_of_ble_eq_true rfl) rfl ?_
      refine q_aload_n (i := 0) (x := 0) dX11_alone_51 rfl 1 rfl ?_
      refine q_getr (t := 44) dX11_alone_52 foX11_29 zC_0 rfl ?_
      refine q_iload_n (i := 1) (x := p1) dX11_alone_55 rfl 2 rfl ?_
      refine q_iconst (v := 2) dX11_alone_56 (by decide) ?_
      refine q_cVp mX3_edge [.int p1, .int 2] (st := []) dX11_alone_57 (svX11_252) ⟨Nat.le_of_ble_eq_true rfl, Nat.le_of_ble_eq_true rfl⟩ zC_44 rfl rfl rfl (Nat.le_of_ble_eq_true rfl) (kX3_edge N p1 2 y3) (fun y5 => ?_)
      refine q_istore (i := 4) (L' := [(4, .int y5), (3, .int y4), (0, .ref 0), (1, .int p1), (2, .int p2)]) dX11_alone_60 (Nat.le_of_ble_eq_true rfl) rfl ?_
      refine q_iload_n (i := 3) (x := y4) dX11_alone_62 rfl 1 rfl ?_
      refine q_aload_n (i := 0) (x := 0) dX11_alone_63 rfl 2 rfl ?_
      refine q_getr (t := 44) dX11_alone_64 foX11_29 zC_0 rfl ?_
      refine q_iload_n (i := 1) (x := p1) dX11_alone_67 rfl 3 rfl ?_
      refine q_iconst (v := 1) dX11_alone_68 (by decide) ?_
      refine q_cVp mX3_edge [.int p1, .int 1] (st := [.int y4]) dX11_alone_69 (svX11_252) ⟨Nat.le_of_ble_eq_true rfl, Nat.le_of_ble_eq_true rfl⟩ zC_44 rfl rfl rfl (Nat.le_of_ble_eq_true rfl) (kX3_edge N p1 1 y3) (fun y6 => ?_)
      refine q_icmp_ne (tgt := 89) dX11_alone_72 (by decide) ?_ ?_
      · refine q_sipush (v := (-1000)) dX11_alone_89 (by decide) ?_
        exact q_ireti (y := ((-1000), y3)) dX11_alone_92 rfl rfl
      refine q_iload (i := 4) (x := y5) dX11_alone_75 0 rfl ?_
      refine q_aload_n (i := 0) (x := 0) dX11_alone_77 rfl 2 rfl ?_
      refine q_getr (t := 44) dX11_alone_78 foX11_29 zC_0 rfl ?_
      refine q_iload_n (i := 1) (x := p1) dX11_alone_81 rfl 3 rfl ?_
      refine q_iconst (v := 3) dX11_alone_82 (by decide) ?_
      refine q_cVp mX3_edge [.int p1, .int 3] (st := [.int y5]) dX11_alone_83 (svX11_252) ⟨Nat.le_of_ble_eq_true rfl, Nat.le_of_ble_eq_true rfl⟩ zC_44 rfl rfl rfl (Nat.le_of_ble_eq_true rfl) (kX3_edge N p1 3 y3) (fun y7 => ?_)
      refine q_icmp_eq (tgt := 93) dX11_alone_86 (by decide) ?_ ?_
      · refine q_iload_n (i := 2) (x := p2) dX11_alone_93 rfl 4 rfl ?_
        refine q_if_ne (tgt := 101) dX11_alone_94 (by decide) ?_ ?_
        · refine q_iload (i := 4) (x := y5) dX11_alone_101 0 rfl ?_
          exact q_ireti (y := (y5, y3)) dX11_alone_103 rfl rfl
        refine q_iload_n (i := 3) (x := y4) dX11_alone_97 rfl 1 rfl ?_
        refine q_goto (tgt := 103) dX11_alone_98 (by decide) ?_
        exact q_ireti (y := (y4, y3)) dX11_alone_103 rfl rfl
      refine q_sipush (v := (-1000)) dX11_alone_89 (by decide) ?_
      exact q_ireti (y := ((-1000), y3)) dX11_alone_92 rfl rfl
    refine q_sipush (v := (-1000)) dX11_alone_37 (by decide) ?_
    exact q_ireti (y := ((-1000), y3)) dX11_alone_40 rfl rfl
  refine q_sipush (v := (-1000)) dX11_alone_16 (by decide) ?_
  exact q_ireti (y := ((-1000), σ)) dX11_alone_19 rfl rfl
theorem kX11_alone  (N : Nat) (p1 : Int32) (p2 : Int32)  (σ : qMem) : qMc wC mX11_alone (ρi) [.ref 0, .int p1, .int p2] σ (fX11_alone N p1 p2 σ) := qMc_of (moX11_alone) (Nat.le_of_ble_eq_true rfl) (aX11_alone N p1 p2  σ)

theorem dX11_within_0 : decode cX11_within 0 = .ok (.iload_n 1, 1) := by decide +kernel
theorem dX11_within_1 : decode cX11_within 1 = .ok (.invokestatic 117, 3) := by decide +kernel
theorem dX11_within_4 : decode cX11_within 4 = .ok (.ifCond .eq 38, 3) := by decide +kernel
theorem dX11_within_7 : decode cX11_within 7 = .ok (.iload_n 2, 1) := by decide +kernel
theorem dX11_within_8 : decode cX11_within 8 = .ok (.bipush (-99), 2) := by decide +kernel
theorem dX11_within_10 : decode cX11_within 10 = .ok (.sipush 199, 3) := by decide +kernel
theorem dX11_within_13 : decode cX11_within 13 = .ok (.invokestatic 83, 3) := by decide +kernel
theorem dX11_within_16 : decode cX11_within 16 = .ok (.ifCond .eq 26, 3) := by decide +kernel
theorem dX11_within_19 : decode cX11_within 19 = .ok (.iload_n 3, 1) := by decide +kernel
theorem dX11_within_20 : decode cX11_within 20 = .ok (.bipush (-99), 2) := by decide +kernel
theorem dX11_within_22 : decode cX11_within 22 = .ok (.sipush 199, 3) := by decide +kernel
theorem dX11_within_25 : decode cX11_within 25 = .ok (.invokestatic 83, 3) := by decide +kernel
theorem dX11_within_28 : decode cX11_within 28 = .ok (.ifCond .eq 14, 3) := by decide +kernel
theorem dX11_within_31 : decode cX11_within 31 = .ok (.iload 4, 2) := by decide +kernel
theorem dX11_within_33 : decode cX11_within 33 = .ok (.iconst 0, 1) := by decide +kernel
theorem dX11_within_34 : decode cX11_within 34 = .ok (.bipush 99, 2) := by decide +kernel
theorem dX11_within_36 : decode cX11_within 36 = .ok (.invokestatic 83, 3) := by decide +kernel
theorem dX11_within_39 : decode cX11_within 39 = .ok (.ifCond .ne 5, 3) := by decide +kernel
theorem dX11_within_42 : decode cX11_within 42 = .ok (.iconst (-1), 1) := by decide +kernel
theorem dX11_within_43 : decode cX11_within 43 = .ok (.ireturn, 1) := by decide +kernel
theorem dX11_within_44 : decode cX11_within 44 = .ok (.aload_n 0, 1) := by decide +kernel
theorem dX11_within_45 : decode cX11_within 45 = .ok (.getfield 29, 3) := by decide +kernel
theorem dX11_within_48 : decode cX11_within 48 = .ok (.invokevirtual 243, 3) := by decide +kernel
theorem dX11_within_51 : decode cX11_within 51 = .ok (.aload_n 0, 1) := by decide +kernel
theorem dX11_within_52 : decode cX11_within 52 = .ok (.getfield 29, 3) := by decide +kernel
theorem dX11_within_55 : decode cX11_within 55 = .ok (.iload_n 1, 1) := by decide +kernel
theorem dX11_within_56 : decode cX11_within 56 = .ok (.iload_n 2, 1) := by decide +kernel
theorem dX11_within_57 : decode cX11_within 57 = .ok (.iload_n 3, 1) := by decide +kernel
theorem dX11_within_58 : decode cX11_within 58 = .ok (.iload 4, 2) := by decide +kernel
theorem dX11_within_60 : decode cX11_within 60 = .ok (.invokevirtual 263, 3) := by decide +kernel
theorem dX11_within_63 : decode cX11_within 63 = .ok (.ireturn, 1) := by decide +kernel

def fX11_within (N : Nat) (p1 : Int32) (p2 : Int32) (p3 : Int32) (p4 : Int32) (σ : qMem) : Option (Int32 × qMem) :=
  ((fX11_isBell p1).bind fun y1 => (if y1 = 0 then (some ((-1), σ)) else ((fX11_isIn p2 (-99) 199).bind fun y2 => (if y2 = 0 then (some ((-1), σ)) else ((fX11_isIn p3 (-99) 199).bind fun y3 => (if y3 = 0 then (some ((-1), σ)) else ((fX11_isIn p4 0 99).bind fun y4 => (if y4 = 0 then (some ((-1), σ)) else ((fX3_plot N σ).bind fun y5 => ((fX3_inSquare N p1 p2 p3 p4 y5).bind fun y6 => (some (y6, y5))))))))))))
set_option maxRecDepth 20000 in
set_option maxHeartbeats 4000000 in
theorem aX11_within  (N : Nat) (p1 : Int32) (p2 : Int32) (p3 : Int32) (p4 : Int32)  (σ : qMem) : qAt wC mX11_within (ρi) 0 [(0, .ref 0), (1, .int p1), (2, .int p2), (3, .int p3), (4, .int p4)] [] σ (fX11_within N p1 p2 p3 p4 σ) := by
  unfold fX11_within
  refine q_iload_n (i := 1) (x := p1) dX11_within_0 rfl 1 rfl ?_
  refine q_cSp mX11_isBell [.int p1] (st := []) dX11_within_1 (ssX11_117) ⟨Nat.le_of_ble_eq_true rfl, Nat.le_of_ble_eq_true rfl⟩ rfl rfl (Nat.le_of_ble_eq_true rfl) (kX11_isBell p1 σ) (fun y1 => ?_)
  refine q_if_eq (tgt := 42) dX11_within_4 (by decide) ?_ ?_
  · refine q_iconst (v := (-1)) dX11_within_42 (by decide) ?_
    exact q_ireti (y := ((-1), σ)) dX11_within_43 rfl rfl
  refine q_iload_n (i := 2) (x := p2) dX11_within_7 rfl 2 rfl ?_
  refine q_bipush (v := (-99)) dX11_within_8 (by decide) ?_
  refine q_sipush (v := 199) dX11_within_10 (by decide) ?_
  refine q_cSp mX11_isIn [.int p2, .int (-99), .int 199] (st := []) dX11_within_13 (ssX11_83) ⟨Nat.le_of_ble_eq_true rfl, Nat.le_of_ble_eq_true rfl⟩ rfl rfl (Nat.le_of_ble_eq_true rfl) (kX11_isIn p2 (-99) 199 σ) (fun y2 => ?_)
  refine q_if_eq (tgt := 42) dX11_within_16 (by decide) ?_ ?_
  · refine q_iconst (v := (-1)) dX11_within_42 (by decide) ?_
    exact q_ireti (y := ((-1), σ)) dX11_within_43 rfl rfl
  refine q_iload_n (i := 3) (x := p3) dX11_within_19 rfl 3 rfl ?_
  refine q_bipush (v := (-99)) dX11_within_20 (by decide) ?_
  refine q_sipush (v := 199) dX11_within_22 (by decide) ?_
  refine q_cSp mX11_isIn [.int p3, .int (-99), .int 199] (st := []) dX11_within_25 (ssX11_83) ⟨Nat.le_of_ble_eq_true rfl, Nat.le_of_ble_eq_true rfl⟩ rfl rfl (Nat.le_of_ble_eq_true rfl) (kX11_isIn p3 (-99) 199 σ) (fun y3 => ?_)
  refine q_if_eq (tgt := 42) dX11_within_28 (by decide) ?_ ?_
  · refine q_iconst (v := (-1)) dX11_within_42 (by decide) ?_
    exact q_ireti (y := ((-1), σ)) dX11_within_43 rfl rfl
  refine q_iload (i := 4) (x := p4) dX11_within_31 4 rfl ?_
  refine q_iconst (v := 0) dX11_within_33 (by decide) ?_
  refine q_bipush (v := 99) dX11_within_34 (by decide) ?_
  refine q_cSp mX11_isIn [.int p4, .int 0, .int 99] (st := []) dX11_within_36 (ssX11_83) ⟨Nat.le_of_ble_eq_true rfl, Nat.le_of_ble_eq_true rfl⟩ rfl rfl (Nat.le_of_ble_eq_true rfl) (kX11_isIn p4 0 99 σ) (fun y4 => ?_)
  refine q_if_ne (tgt := 44) dX11_within_39 (by decide) ?_ ?_
  · refine q_aload_n (i := 0) (x := 0) dX11_within_44 rfl 0 rfl ?_
    refine q_getr (t := 44) dX11_within_45 foX11_29 zC_0 rfl ?_
    refine q_cVv mX3_plot [] (st := []) dX11_within_48 (svX11_243) ⟨Nat.le_of_ble_eq_true rfl, Nat.le_of_ble_eq_true rfl⟩ zC_44 rfl rfl rfl (Nat.le_of_ble_eq_true rfl) (kX3_plot N σ) (fun y5 => ?_)
    refine q_aload_n (i := 0) (x := 0) dX11_within_51 rfl 0 rfl ?_
    refine q_getr (t := 44) dX11_within_52 foX11_29 zC_0 rfl ?_
    refine q_iload_n (i := 1) (x := p1) dX11_within_55 rfl 1 rfl ?_
    refine q_iload_n (i := 2) (x := p2) dX11_within_56 rfl 2 rfl ?_
    refine q_iload_n (i := 3) (x := p3) dX11_within_57 rfl 3 rfl ?_
    refine q_iload (i := 4) (x := p4) dX11_within_58 4 rfl ?_
    refine q_cVp mX3_inSquare [.int p1, .int p2, .int p3, .int p4] (st := []) dX11_within_60 (svX11_263) ⟨Nat.le_of_ble_eq_true rfl, Nat.le_of_ble_eq_true rfl⟩ zC_44 rfl rfl rfl (Nat.le_of_ble_eq_true rfl) (kX3_inSquare N p1 p2 p3 p4 y5) (fun y6 => ?_)
    exact q_ireti (y := (y6, y5)) dX11_within_63 rfl rfl
  refine q_iconst (v := (-1)) dX11_within_42 (by decide) ?_
  exact q_ireti (y := ((-1), σ)) dX11_within_43 rfl rfl
theorem kX11_within  (N : Nat) (p1 : Int32) (p2 : Int32) (p3 : Int32) (p4 : Int32)  (σ : qMem) : qMc wC mX11_within (ρi) [.ref 0, .int p1, .int p2, .int p3, .int p4] σ (fX11_within N p1 p2 p3 p4 σ) := qMc_of (moX11_within) (Nat.le_of_ble_eq_true rfl) (aX11_within N p1 p2 p3 p4  σ)

theorem dX11_least_0 : decode cX11_least 0 = .ok (.iload_n 1, 1) := by decide +kernel
theorem dX11_least_1 : decode cX11_least 1 = .ok (.iconst 0, 1) := by decide +kernel
theorem dX11_least_2 : decode cX11_least 2 = .ok (.iconst 2, 1) := by decide +kernel
theorem dX11_least_3 : decode cX11_least 3 = .ok (.invokestatic 83, 3) := by decide +kernel
theorem dX11_least_6 : decode cX11_least 6 = .ok (.ifCond .ne 5, 3) := by decide +kernel
theorem dX11_least_9 : decode cX11_least 9 = .ok (.iconst (-1), 1) := by decide +kernel
theorem dX11_least_10 : decode cX11_least 10 = .ok (.ireturn, 1) := by decide +kernel
theorem dX11_least_11 : decode cX11_least 11 = .ok (.aload_n 0, 1) := by decide +kernel
theorem dX11_least_12 : decode cX11_least 12 = .ok (.getfield 38, 3) := by decide +kernel
theorem dX11_least_15 : decode cX11_least 15 = .ok (.invokevirtual 266, 3) := by decide +kernel
theorem dX11_least_18 : decode cX11_least 18 = .ok (.iload_n 1, 1) := by decide +kernel
theorem dX11_least_19 : decode cX11_least 19 = .ok (.lookupswitch 50 #[(0, 25), (1, 33)], 25) := by decide +kernel
theorem dX11_least_44 : decode cX11_least 44 = .ok (.aload_n 0, 1) := by decide +kernel
theorem dX11_least_45 : decode cX11_least 45 = .ok (.getfield 38, 3) := by decide +kernel
theorem dX11_least_48 : decode cX11_least 48 = .ok (.getfield 269, 3) := by decide +kernel
theorem dX11_least_51 : decode cX11_least 51 = .ok (.ireturn, 1) := by decide +kernel
theorem dX11_least_52 : decode cX11_least 52 = .ok (.aload_n 0, 1) := by decide +kernel
theorem dX11_least_53 : decode cX11_least 53 = .ok (.getfield 38, 3) := by decide +kernel
theorem dX11_least_56 : decode cX11_least 56 = .ok (.aload_n 0, 1) := by decide +kernel
theorem dX11_least_57 : decode cX11_least 57 = .ok (.getfield 38, 3) := by decide +kernel
theorem dX11_least_60 : decode cX11_least 60 = .ok (.getfield 269, 3) := by decide +kernel
theorem dX11_least_63 : decode cX11_least 63 = .ok (.iconst 1, 1) := by decide +kernel
theorem dX11_least_64 : decode cX11_least 64 = .ok (.iadd, 1) := by decide +kernel
theorem dX11_least_65 : decode cX11_least 65 = .ok (.invokevirtual 272, 3) := by decide +kernel
theorem dX11_least_68 : decode cX11_least 68 = .ok (.ireturn, 1) := by decide +kernel
theorem dX11_least_69 : decode cX11_least 69 = .ok (.aload_n 0, 1) := by decide +kernel
theorem dX11_least_70 : decode cX11_least 70 = .ok (.getfield 38, 3) := by decide +kernel
theorem dX11_least_73 : decode cX11_least 73 = .ok (.getfield 275, 3) := by decide +kernel
theorem dX11_least_76 : decode cX11_least 76 = .ok (.ireturn, 1) := by decide +kernel

def fX11_least (N : Nat) (p1 : Int32) (σ : qMem) : Option (Int32 × qMem) :=
  ((fX11_isIn p1 0 2).bind fun y1 => (if y1 = 0 then (some ((-1), σ)) else ((fX9_reckon N σ).bind fun y2 => (if p1 = 0 then (some ((gi y2 68 6), y2)) else (if p1 = 1 then ((fX9_below N ((gi y2 68 6) + 1) y2).bind fun y5 => (some (y5, y2))) else (some ((gi y2 68 7), y2)))))))
set_option maxRecDepth 20000 in
set_option maxHeartbeats 4000000 in
theorem aX11_least  (N : Nat) (p1 : Int32)  (σ : qMem) : qAt wC mX11_least (ρi) 0 [(0, .ref 0), (1, .int p1)] [] σ (fX11_least N p1 σ) := by
  unfold fX11_least
  refine q_iload_n (i := 1) (x := p1) dX11_least_0 rfl 1 rfl ?_
  refine q_iconst (v := 0) dX11_least_1 (by decide) ?_
  refine q_iconst (v := 2) dX11_least_2 (by decide) ?_
  refine q_cSp mX11_isIn [.int p1, .int 0, .int 2] (st := []) dX11_least_3 (ssX11_83) ⟨Nat.le_of_ble_eq_true rfl, Nat.le_of_ble_eq_true rfl⟩ rfl rfl (Nat.le_of_ble_eq_true rfl) (kX11_isIn p1 0 2 σ) (fun y1 => ?_)
  refine q_if_ne (tgt := 11) dX11_least_6 (by decide) ?_ ?_
  · refine q_aload_n (i := 0) (x := 0) dX11_least_11 rfl 0 rfl ?_
    refine q_getr (t := 68) dX11_least_12 foX11_38 zC_0 rfl ?_
    refine q_cVv mX9_reckon [] (st := []) dX11_least_15 (svX11_266) ⟨Nat.le_of_ble_eq_true rfl, Nat.le_of_ble_eq_true rfl⟩ zC_68 rfl rfl rfl (Nat.le_of_ble_eq_true rfl) (kX9_reckon N σ) (fun y2 => ?_)
    refine q_iload_n (i := 1) (x := p1) dX11_least_18 rfl 1 rfl ?_
    refine q_lswC (off := 25) (tgt := 44) 0 dX11_least_19 (by decide) (by decide) (by decide) ?_ (fun hs3 => ?_)
    · refine q_aload_n (i := 0) (x := 0) dX11_least_44 rfl 0 rfl ?_
      refine q_getr (t := 68) dX11_least_45 foX11_38 zC_0 rfl ?_
      refine q_geti dX11_least_48 foX11_269 zC_68 rfl ?_
      exact q_ireti (y := ((gi y2 68 6), y2)) dX11_least_51 rfl rfl
    refine q_lswC (off := 33) (tgt := 52) 1 dX11_least_19 (by decide) (by decide) (by decide) ?_ (fun hs4 => ?_)
    · refine q_aload_n (i := 0) (x := 0) dX11_least_52 rfl 0 rfl ?_
      refine q_getr (t := 68) dX11_least_53 foX11_38 zC_0 rfl ?_
      refine q_aload_n (i := 0) (x := 0) dX11_least_56 rfl 0 rfl ?_
      refine q_getr (t := 68) dX11_least_57 foX11_38 zC_0 rfl ?_
      refine q_geti dX11_least_60 foX11_269 zC_68 rfl ?_
      refine q_iconst (v := 1) dX11_least_63 (by decide) ?_
      refine q_iadd dX11_least_64 ?_
      refine q_cVp mX9_below [.int ((gi y2 68 6) + 1)] (st := []) dX11_least_65 (svX11_272) ⟨Nat.le_of_ble_eq_true rfl, Nat.le_of_ble_eq_true rfl⟩ zC_68 rfl rfl rfl (Nat.le_of_ble_eq_true rfl) (kX9_below N ((gi y2 68 6) + 1) y2) (fun y5 => ?_)
      exact q_ireti (y := (y5, y2)) dX11_least_68 rfl rfl
    refine q_lsw (tgt := 69) dX11_least_19 (by decide) (lsw2 hs3 hs4) (by decide) ?_
    refine q_aload_n (i := 0) (x := 0) dX11_least_69 rfl 0 rfl ?_
    refine q_getr (t := 68) dX11_least_70 foX11_38 zC_0 rfl ?_
    refine q_geti dX11_least_73 foX11_275 zC_68 rfl ?_
    exact q_ireti (y := ((gi y2 68 7), y2)) dX11_least_76 rfl rfl
  refine q_iconst (v := (-1)) dX11_least_9 (by decide) ?_
  exact q_ireti (y := ((-1), σ)) dX11_least_10 rfl rfl
theorem kX11_least  (N : Nat) (p1 : Int32)  (σ : qMem) : qMc wC mX11_least (ρi) [.ref 0, .int p1] σ (fX11_least N p1 σ) := qMc_of (moX11_least) (Nat.le_of_ble_eq_true rfl) (aX11_least N p1  σ)

theorem dX11_addTo_0 : decode cX11_addTo 0 = .ok (.aload_n 1, 1) := by decide +kernel
theorem dX11_addTo_1 : decode cX11_addTo 1 = .ok (.invokevirtual 127, 3) := by decide +kernel
theorem dX11_addTo_4 : decode cX11_addTo 4 = .ok (.ifCond .eq 12, 3) := by decide +kernel
theorem dX11_addTo_7 : decode cX11_addTo 7 = .ok (.aload_n 0, 1) := by decide +kernel
theorem dX11_addTo_8 : decode cX11_addTo 8 = .ok (.bipush (-5), 2) := by decide +kernel
theorem dX11_addTo_10 : decode cX11_addTo 10 = .ok (.invokevirtual 87, 3) := by decide +kernel
theorem dX11_addTo_13 : decode cX11_addTo 13 = .ok (.goto 19, 3) := by decide +kernel
theorem dX11_addTo_16 : decode cX11_addTo 16 = .ok (.aload_n 0, 1) := by decide +kernel
theorem dX11_addTo_17 : decode cX11_addTo 17 = .ok (.aload_n 1, 1) := by decide +kernel
theorem dX11_addTo_18 : decode cX11_addTo 18 = .ok (.iload_n 2, 1) := by decide +kernel
theorem dX11_addTo_19 : decode cX11_addTo 19 = .ok (.iload_n 3, 1) := by decide +kernel
theorem dX11_addTo_20 : decode cX11_addTo 20 = .ok (.iload 4, 2) := by decide +kernel
theorem dX11_addTo_22 : decode cX11_addTo 22 = .ok (.iload 5, 2) := by decide +kernel
theorem dX11_addTo_24 : decode cX11_addTo 24 = .ok (.iload 6, 2) := by decide +kernel
theorem dX11_addTo_26 : decode cX11_addTo 26 = .ok (.invokevirtual 131, 3) := by decide +kernel
theorem dX11_addTo_29 : decode cX11_addTo 29 = .ok (.invokevirtual 240, 3) := by decide +kernel
theorem dX11_addTo_32 : decode cX11_addTo 32 = .ok (.ireturn, 1) := by decide +kernel

def fX11_addTo (k1 n1 : Nat) (p2 : Int32) (p3 : Int32) (p4 : Int32) (p5 : Int32) (p6 : Int32) (σ : qMem) : Option (Int32 × qMem) :=
  ((fX8_isFull k1 n1 σ).bind fun y1 => (if y1 = 0 then ((fX8_add k1 n1 p2 p3 p4 p5 p6 σ).bind fun y2 => ((fX11_accept y2.1 y2.2).bind fun y3 => (some (y3.1, y3.2)))) else ((fX11_refuse (-5) σ).bind fun y4 => (some (y4.1, y4.2)))))
set_option maxRecDepth 20000 in
set_option maxHeartbeats 4000000 in
theorem aX11_addTo  (k1 n1 : Nat) (p2 : Int32) (p3 : Int32) (p4 : Int32) (p5 : Int32) (p6 : Int32) (hk1 : iRows k1 n1) (σ : qMem) : qAt wC mX11_addTo (ρi) 0 [(0, .ref 0), (1, .ref k1), (2, .int p2), (3, .int p3), (4, .int p4), (5, .int p5), (6, .int p6)] [] σ (fX11_addTo k1 n1 p2 p3 p4 p5 p6 σ) := by
  unfold fX11_addTo
  refine q_aload_n (i := 1) (x := k1) dX11_addTo_0 rfl 1 rfl ?_
  refine q_cVp mX8_isFull [] (st := []) dX11_addTo_1 (svX11_127) ⟨Nat.le_of_ble_eq_true rfl, Nat.le_of_ble_eq_true rfl⟩ hk1.1 rfl rfl rfl (Nat.le_of_ble_eq_true rfl) (kX8_isFull k1 n1 hk1 σ) (fun y1 => ?_)
  refine q_if_eq (tgt := 16) dX11_addTo_4 (by decide) ?_ ?_
  · refine q_aload_n (i := 0) (x := 0) dX11_addTo_16 rfl 0 rfl ?_
    refine q_aload_n (i := 1) (x := k1) dX11_addTo_17 rfl 1 rfl ?_
    refine q_iload_n (i := 2) (x := p2) dX11_addTo_18 rfl 2 rfl ?_
    refine q_iload_n (i := 3) (x := p3) dX11_addTo_19 rfl 3 rfl ?_
    refine q_iload (i := 4) (x := p4) dX11_addTo_20 4 rfl ?_
    refine q_iload (i := 5) (x := p5) dX11_addTo_22 5 rfl ?_
    refine q_iload (i := 6) (x := p6) dX11_addTo_24 6 rfl ?_
    refine q_cVi mX8_add [.int p2, .int p3, .int p4, .int p5, .int p6] (st := [.ref 0]) dX11_addTo_26 (svX11_131) ⟨Nat.le_of_ble_eq_true rfl, Nat.le_of_ble_eq_true rfl⟩ hk1.1 rfl rfl rfl (Nat.le_of_ble_eq_true rfl) (kX8_add k1 n1 p2 p3 p4 p5 p6 hk1 σ) (fun y2 => ?_)
    refine q_cVi mX11_accept [.int y2.1] (st := []) dX11_addTo_29 (svX11_240) ⟨Nat.le_of_ble_eq_true rfl, Nat.le_of_ble_eq_true rfl⟩ zC_0 rfl rfl rfl (Nat.le_of_ble_eq_true rfl) (kX11_accept y2.1 y2.2) (fun y3 => ?_)
    exact q_ireti (y := (y3.1, y3.2)) dX11_addTo_32 rfl rfl
  refine q_aload_n (i := 0) (x := 0) dX11_addTo_7 rfl 0 rfl ?_
  refine q_bipush (v := (-5)) dX11_addTo_8 (by decide) ?_
  refine q_cVi mX11_refuse [.int (-5)] (st := []) dX11_addTo_10 (svX11_87) ⟨Nat.le_of_ble_eq_true rfl, Nat.le_of_ble_eq_true rfl⟩ zC_0 rfl rfl rfl (Nat.le_of_ble_eq_true rfl) (kX11_refuse (-5) σ) (fun y4 => ?_)
  refine q_goto (tgt := 32) dX11_addTo_13 (by decide) ?_
  exact q_ireti (y := (y4.1, y4.2)) dX11_addTo_32 rfl rfl
theorem kX11_addTo  (k1 n1 : Nat) (p2 : Int32) (p3 : Int32) (p4 : Int32) (p5 : Int32) (p6 : Int32) (hk1 : iRows k1 n1) (σ : qMem) : qMc wC mX11_addTo (ρi) [.ref 0, .ref k1, .int p2, .int p3, .int p4, .int p5, .int p6] σ (fX11_addTo k1 n1 p2 p3 p4 p5 p6 σ) := qMc_of (moX11_addTo) (Nat.le_of_ble_eq_true rfl) (aX11_addTo k1 n1 p2 p3 p4 p5 p6 hk1 σ)

theorem dX11_guess_0 : decode cX11_guess 0 = .ok (.iload_n 1, 1) := by decide +kernel
theorem dX11_guess_1 : decode cX11_guess 1 = .ok (.iload_n 2, 1) := by decide +kernel
theorem dX11_guess_2 : decode cX11_guess 2 = .ok (.iload_n 3, 1) := by decide +kernel
theorem dX11_guess_3 : decode cX11_guess 3 = .ok (.iload 4, 2) := by decide +kernel
theorem dX11_guess_5 : decode cX11_guess 5 = .ok (.invokestatic 255, 3) := by decide +kernel
theorem dX11_guess_8 : decode cX11_guess 8 = .ok (.ifCond .ne 9, 3) := by decide +kernel
theorem dX11_guess_11 : decode cX11_guess 11 = .ok (.aload_n 0, 1) := by decide +kernel
theorem dX11_guess_12 : decode cX11_guess 12 = .ok (.iconst (-1), 1) := by decide +kernel
theorem dX11_guess_13 : decode cX11_guess 13 = .ok (.invokevirtual 87, 3) := by decide +kernel
theorem dX11_guess_16 : decode cX11_guess 16 = .ok (.ireturn, 1) := by decide +kernel
theorem dX11_guess_17 : decode cX11_guess 17 = .ok (.aload_n 0, 1) := by decide +kernel
theorem dX11_guess_18 : decode cX11_guess 18 = .ok (.aload_n 0, 1) := by decide +kernel
theorem dX11_guess_19 : decode cX11_guess 19 = .ok (.getfield 12, 3) := by decide +kernel
theorem dX11_guess_22 : decode cX11_guess 22 = .ok (.getfield 278, 3) := by decide +kernel
theorem dX11_guess_25 : decode cX11_guess 25 = .ok (.iload_n 1, 1) := by decide +kernel
theorem dX11_guess_26 : decode cX11_guess 26 = .ok (.iload_n 2, 1) := by decide +kernel
theorem dX11_guess_27 : decode cX11_guess 27 = .ok (.iload_n 3, 1) := by decide +kernel
theorem dX11_guess_28 : decode cX11_guess 28 = .ok (.iload 4, 2) := by decide +kernel
theorem dX11_guess_30 : decode cX11_guess 30 = .ok (.iconst 0, 1) := by decide +kernel
theorem dX11_guess_31 : decode cX11_guess 31 = .ok (.invokevirtual 281, 3) := by decide +kernel
theorem dX11_guess_34 : decode cX11_guess 34 = .ok (.ireturn, 1) := by decide +kernel

def fX11_guess (p1 : Int32) (p2 : Int32) (p3 : Int32) (p4 : Int32) (σ : qMem) : Option (Int32 × qMem) :=
  ((fX11_isRun p1 p2 p3 p4).bind fun y1 => (if y1 = 0 then ((fX11_refuse (-1) σ).bind fun y3 => (some (y3.1, y3.2))) else ((fX11_addTo 27 32 p1 p2 p3 p4 0 σ).bind fun y2 => (some (y2.1, y2.2)))))
set_option maxRecDepth 20000 in
set_option maxHeartbeats 4000000 in
theorem aX11_guess  (p1 : Int32) (p2 : Int32) (p3 : Int32) (p4 : Int32)  (σ : qMem) : qAt wC mX11_guess (ρi) 0 [(0, .ref 0), (1, .int p1), (2, .int p2), (3, .int p3), (4, .int p4)] [] σ (fX11_guess p1 p2 p3 p4 σ) := by
  unfold fX11_guess
  refine q_iload_n (i := 1) (x := p1) dX11_guess_0 rfl 1 rfl ?_
  refine q_iload_n (i := 2) (x := p2) dX11_guess_1 rfl 2 rfl ?_
  refine q_iload_n (i := 3) (x := p3) dX11_guess_2 rfl 3 rfl ?_
  refine q_iload (i := 4) (x := p4) dX11_guess_3 4 rfl ?_
  refine q_cSp mX11_isRun [.int p1, .int p2, .int p3, .int p4] (st := []) dX11_guess_5 (ssX11_255) ⟨Nat.le_of_ble_eq_true rfl, Nat.le_of_ble_eq_true rfl⟩ rfl rfl (Nat.le_of_ble_eq_true rfl) (kX11_isRun p1 p2 p3 p4 σ) (fun y1 => ?_)
  refine q_if_ne (tgt := 17) dX11_guess_8 (by decide) ?_ ?_
  · refine q_aload_n (i := 0) (x := 0) dX11_guess_17 rfl 0 rfl ?_
    refine q_aload_n (i := 0) (x := 0) dX11_guess_18 rfl 0 rfl ?_
    refine q_getr (t := 1) dX11_guess_19 foX11_12 zC_0 rfl ?_
    refine q_getr (t := 27) dX11_guess_22 foX11_278 zC_1 rfl ?_
    refine q_iload_n (i := 1) (x := p1) dX11_guess_25 rfl 1 rfl ?_
    refine q_iload_n (i := 2) (x := p2) dX11_guess_26 rfl 2 rfl ?_
    refine q_iload_n (i := 3) (x := p3) dX11_guess_27 rfl 3 rfl ?_
    refine q_iload (i := 4) (x := p4) dX11_guess_28 4 rfl ?_
    refine q_iconst (v := 0) dX11_guess_30 (by decide) ?_
    refine q_cVi mX11_addTo [.ref 27, .int p1, .int p2, .int p3, .int p4, .int 0] (st := []) dX11_guess_31 (svX11_281) ⟨Nat.le_of_ble_eq_true rfl, Nat.le_of_ble_eq_true rfl⟩ zC_0 rfl rfl rfl (Nat.le_of_ble_eq_true rfl) (kX11_addTo 27 32 p1 p2 p3 p4 0 pC_27 σ) (fun y2 => ?_)
    exact q_ireti (y := (y2.1, y2.2)) dX11_guess_34 rfl rfl
  refine q_aload_n (i := 0) (x := 0) dX11_guess_11 rfl 0 rfl ?_
  refine q_iconst (v := (-1)) dX11_guess_12 (by decide) ?_
  refine q_cVi mX11_refuse [.int (-1)] (st := []) dX11_guess_13 (svX11_87) ⟨Nat.le_of_ble_eq_true rfl, Nat.le_of_ble_eq_true rfl⟩ zC_0 rfl rfl rfl (Nat.le_of_ble_eq_true rfl) (kX11_refuse (-1) σ) (fun y3 => ?_)
  exact q_ireti (y := (y3.1, y3.2)) dX11_guess_16 rfl rfl
theorem kX11_guess  (p1 : Int32) (p2 : Int32) (p3 : Int32) (p4 : Int32)  (σ : qMem) : qMc wC mX11_guess (ρi) [.ref 0, .int p1, .int p2, .int p3, .int p4] σ (fX11_guess p1 p2 p3 p4 σ) := qMc_of (moX11_guess) (Nat.le_of_ble_eq_true rfl) (aX11_guess p1 p2 p3 p4  σ)

theorem dX11_better_0 : decode cX11_better 0 = .ok (.aload_n 0, 1) := by decide +kernel
theorem dX11_better_1 : decode cX11_better 1 = .ok (.getfield 12, 3) := by decide +kernel
theorem dX11_better_4 : decode cX11_better 4 = .ok (.getfield 278, 3) := by decide +kernel
theorem dX11_better_7 : decode cX11_better 7 = .ok (.astore_n 2, 1) := by decide +kernel
theorem dX11_better_8 : decode cX11_better 8 = .ok (.iload_n 1, 1) := by decide +kernel
theorem dX11_better_9 : decode cX11_better 9 = .ok (.iconst 0, 1) := by decide +kernel
theorem dX11_better_10 : decode cX11_better 10 = .ok (.aload_n 2, 1) := by decide +kernel
theorem dX11_better_11 : decode cX11_better 11 = .ok (.getfield 105, 3) := by decide +kernel
theorem dX11_better_14 : decode cX11_better 14 = .ok (.iconst 1, 1) := by decide +kernel
theorem dX11_better_15 : decode cX11_better 15 = .ok (.isub, 1) := by decide +kernel
theorem dX11_better_16 : decode cX11_better 16 = .ok (.invokestatic 83, 3) := by decide +kernel
theorem dX11_better_19 : decode cX11_better 19 = .ok (.ifCond .ne 5, 3) := by decide +kernel
theorem dX11_better_22 : decode cX11_better 22 = .ok (.iconst (-1), 1) := by decide +kernel
theorem dX11_better_23 : decode cX11_better 23 = .ok (.ireturn, 1) := by decide +kernel
theorem dX11_better_24 : decode cX11_better 24 = .ok (.aload_n 0, 1) := by decide +kernel
theorem dX11_better_25 : decode cX11_better 25 = .ok (.getfield 38, 3) := by decide +kernel
theorem dX11_better_28 : decode cX11_better 28 = .ok (.invokevirtual 266, 3) := by decide +kernel
theorem dX11_better_31 : decode cX11_better 31 = .ok (.aload_n 0, 1) := by decide +kernel
theorem dX11_better_32 : decode cX11_better 32 = .ok (.getfield 38, 3) := by decide +kernel
theorem dX11_better_35 : decode cX11_better 35 = .ok (.aload_n 2, 1) := by decide +kernel
theorem dX11_better_36 : decode cX11_better 36 = .ok (.iload_n 1, 1) := by decide +kernel
theorem dX11_better_37 : decode cX11_better 37 = .ok (.iconst 0, 1) := by decide +kernel
theorem dX11_better_38 : decode cX11_better 38 = .ok (.invokevirtual 123, 3) := by decide +kernel
theorem dX11_better_41 : decode cX11_better 41 = .ok (.aload_n 2, 1) := by decide +kernel
theorem dX11_better_42 : decode cX11_better 42 = .ok (.iload_n 1, 1) := by decide +kernel
theorem dX11_better_43 : decode cX11_better 43 = .ok (.iconst 1, 1) := by decide +kernel
theorem dX11_better_44 : decode cX11_better 44 = .ok (.invokevirtual 123, 3) := by decide +kernel
theorem dX11_better_47 : decode cX11_better 47 = .ok (.aload_n 2, 1) := by decide +kernel
theorem dX11_better_48 : decode cX11_better 48 = .ok (.iload_n 1, 1) := by decide +kernel
theorem dX11_better_49 : decode cX11_better 49 = .ok (.iconst 2, 1) := by decide +kernel
theorem dX11_better_50 : decode cX11_better 50 = .ok (.invokevirtual 123, 3) := by decide +kernel
theorem dX11_better_53 : decode cX11_better 53 = .ok (.aload_n 2, 1) := by decide +kernel
theorem dX11_better_54 : decode cX11_better 54 = .ok (.iload_n 1, 1) := by decide +kernel
theorem dX11_better_55 : decode cX11_better 55 = .ok (.iconst 3, 1) := by decide +kernel
theorem dX11_better_56 : decode cX11_better 56 = .ok (.invokevirtual 123, 3) := by decide +kernel
theorem dX11_better_59 : decode cX11_better 59 = .ok (.invokevirtual 259, 3) := by decide +kernel
theorem dX11_better_62 : decode cX11_better 62 = .ok (.istore_n 3, 1) := by decide +kernel
theorem dX11_better_63 : decode cX11_better 63 = .ok (.aload_n 0, 1) := by decide +kernel
theorem dX11_better_64 : decode cX11_better 64 = .ok (.getfield 38, 3) := by decide +kernel
theorem dX11_better_67 : decode cX11_better 67 = .ok (.iload_n 3, 1) := by decide +kernel
theorem dX11_better_68 : decode cX11_better 68 = .ok (.invokevirtual 272, 3) := by decide +kernel
theorem dX11_better_71 : decode cX11_better 71 = .ok (.ireturn, 1) := by decide +kernel

def fX11_better (N : Nat) (p1 : Int32) (σ : qMem) : Option (Int32 × qMem) :=
  ((fX11_isIn p1 0 ((gi σ 27 3) - 1)).bind fun y1 => (if y1 = 0 then (some ((-1), σ)) else ((fX9_reckon N σ).bind fun y2 => ((fX8_at 27 32 p1 0 y2).bind fun y3 => ((fX8_at 27 32 p1 1 y2).bind fun y4 => ((fX8_at 27 32 p1 2 y2).bind fun y5 => ((fX8_at 27 32 p1 3 y2).bind fun y6 => ((fX9_missesOf N y3 y4 y5 y6 y2).bind fun y7 => ((fX9_below N y7.1 y7.2).bind fun y8 => (some (y8, y7.2)))))))))))
set_option maxRecDepth 20000 in
set_option maxHeartbeats 4000000 in
theorem aX11_better  (N : Nat) (p1 : Int32)  (σ : qMem) : qAt wC mX11_better (ρi) 0 [(0, .ref 0), (1, .int p1)] [] σ (fX11_better N p1 σ) := by
  unfold fX11_better
  refine q_aload_n (i := 0) (x := 0) dX11_better_0 rfl 0 rfl ?_
  refine q_getr (t := 1) dX11_better_1 foX11_12 zC_0 rfl ?_
  refine q_getr (t := 27) dX11_better_4 foX11_278 zC_1 rfl ?_
  refine q_astore_n (i := 2) (L' := [(2, .ref 27), (0, .ref 0), (1, .int p1)]) dX11_better_7 rfl (Nat.le_of_ble_eq_true rfl) rfl ?_
  refine q_iload_n (i := 1) (x := p1) dX11_better_8 rfl 2 rfl ?_
  refine q_iconst (v := 0) dX11_better_9 (by decide) ?_
  refine q_aload_n (i := 2) (x := 27) dX11_better_10 rfl 0 rfl ?_
  refine q_geti dX11_better_11 foX11_105 zC_27 rfl ?_
  refine q_iconst (v := 1) dX11_better_14 (by decide) ?_
  refine q_isub dX11_better_15 ?_
  refine q_cSp mX11_isIn [.int p1, .int 0, .int ((gi σ 27 3) - 1)] (st := []) dX11_better_16 (ssX11_83) ⟨Nat.le_of_ble_eq_true rfl, Nat.le_of_ble_eq_true rfl⟩ rfl rfl (Nat.le_of_ble_eq_true rfl) (kX11_isIn p1 0 ((gi σ 27 3) - 1) σ) (fun y1 => ?_)
  refine q_if_ne (tgt := 24) dX11_better_19 (by decide) ?_ ?_
  · refine q_aload_n (i := 0) (x := 0) dX11_better_24 rfl 1 rfl ?_
    refine q_getr (t := 68) dX11_better_25 foX11_38 zC_0 rfl ?_
    refine q_cVv mX9_reckon [] (st := []) dX11_better_28 (svX11_266) ⟨Nat.le_of_ble_eq_true rfl, Nat.le_of_ble_eq_true rfl⟩ zC_68 rfl rfl rfl (Nat.le_of_ble_eq_true rfl) (kX9_reckon N σ) (fun y2 => ?_)
    refine q_aload_n (i := 0) (x := 0) dX11_better_31 rfl 1 rfl ?_
    refine q_getr (t := 68) dX11_better_32 foX11_38 zC_0 rfl ?_
    refine q_aload_n (i := 2) (x := 27) dX11_better_35 rfl 0 rfl ?_
    refine q_iload_n (i := 1) (x := p1) dX11_better_36 rfl 2 rfl ?_
    refine q_iconst (v := 0) dX11_better_37 (by decide) ?_
    refine q_cVp mX8_at [.int p1, .int 0] (st := [.ref 68]) dX11_better_38 (svX11_123) ⟨Nat.le_of_ble_eq_true rfl, Nat.le_of_ble_eq_true rfl⟩ zC_27 rfl rfl rfl (Nat.le_of_ble_eq_true rfl) (kX8_at 27 32 p1 0 pC_27 y2) (fun y3 => ?_)
    refine q_aload_n (i := 2) (x := 27) dX11_better_41 rfl 0 rfl ?_
    refine q_iload_n (i := 1) (x := p1) dX11_better_42 rfl 2 rfl ?_
    refine q_iconst (v := 1) dX11_better_43 (by decide) ?_
    refine q_cVp mX8_at [.int p1, .int 1] (st := [.int y3, .ref 68]) dX11_better_44 (svX11_123) ⟨Nat.le_of_ble_eq_true rfl, Nat.le_of_ble_eq_true rfl⟩ zC_27 rfl rfl rfl (Nat.le_of_ble_eq_true rfl) (kX8_at 27 32 p1 1 pC_27 y2) (fun y4 => ?_)
    refine q_aload_n (i := 2) (x := 27) dX11_better_47 rfl 0 rfl ?_
    refine q_iload_n (i := 1) (x := p1) dX11_better_48 rfl 2 rfl ?_
    refine q_iconst (v := 2) dX11_better_49 (by decide) ?_
    refine q_cVp mX8_at [.int p1, .int 2] (st := [.int y4, .int y3, .ref 68]) dX11_better_50 (svX11_123) ⟨Nat.le_of_ble_eq_true rfl, Nat.le_of_ble_eq_true rfl⟩ zC_27 rfl rfl rfl (Nat.le_of_ble_eq_true rfl) (kX8_at 27 32 p1 2 pC_27 y2) (fun y5 => ?_)
    refine q_aload_n (i := 2) (x := 27) dX11_better_53 rfl 0 rfl ?_
    refine q_iload_n (i := 1) (x := p1) dX11_better_54 rfl 2 rfl ?_
    refine q_iconst (v := 3) dX11_better_55 (by decide) ?_
    refine q_cVp mX8_at [.int p1, .int 3] (st := [.int y5, .int y4, .int y3, .ref 68]) dX11_better_56 (svX11_123) ⟨Nat.le_of_ble_eq_true rfl, Nat.le_of_ble_eq_true rfl⟩ zC_27 rfl rfl rfl (Nat.le_of_ble_eq_true rfl) (kX8_at 27 32 p1 3 pC_27 y2) (fun y6 => ?_)
    refine q_cVi mX9_missesOf [.int y3, .int y4, .int y5, .int y6] (st := []) dX11_better_59 (svX11_259) ⟨Nat.le_of_ble_eq_true rfl, Nat.le_of_ble_eq_true rfl⟩ zC_68 rfl rfl rfl (Nat.le_of_ble_eq_true rfl) (kX9_missesOf N y3 y4 y5 y6 y2) (fun y7 => ?_)
    refine q_istore_n (i := 3) (L' := [(3, .int y7.1), (2, .ref 27), (0, .ref 0), (1, .int p1)]) dX11_better_62 rfl (Nat.le_of_ble_eq_true rfl) rfl ?_
    refine q_aload_n (i := 0) (x := 0) dX11_better_63 rfl 2 rfl ?_
    refine q_getr (t := 68) dX11_better_64 foX11_38 zC_0 rfl ?_
    refine q_iload_n (i := 3) (x := y7.1) dX11_better_67 rfl 0 rfl ?_
    refine q_cVp mX9_below [.int y7.1] (st := []) dX11_better_68 (svX11_272) ⟨Nat.le_of_ble_eq_true rfl, Nat.le_of_ble_eq_true rfl⟩ zC_68 rfl rfl rfl (Nat.le_of_ble_eq_true rfl) (kX9_below N y7.1 y7.2) (fun y8 => ?_)
    exact q_ireti (y := (y8, y7.2)) dX11_better_71 rfl rfl
  refine q_iconst (v := (-1)) dX11_better_22 (by decide) ?_
  exact q_ireti (y := ((-1), σ)) dX11_better_23 rfl rfl
theorem kX11_better  (N : Nat) (p1 : Int32)  (σ : qMem) : qMc wC mX11_better (ρi) [.ref 0, .int p1] σ (fX11_better N p1 σ) := qMc_of (moX11_better) (Nat.le_of_ble_eq_true rfl) (aX11_better N p1  σ)

theorem dX11_offer_0 : decode cX11_offer 0 = .ok (.iload_n 1, 1) := by decide +kernel
theorem dX11_offer_1 : decode cX11_offer 1 = .ok (.iload_n 2, 1) := by decide +kernel
theorem dX11_offer_2 : decode cX11_offer 2 = .ok (.invokestatic 120, 3) := by decide +kernel
theorem dX11_offer_5 : decode cX11_offer 5 = .ok (.ifCond .ne 9, 3) := by decide +kernel
theorem dX11_offer_8 : decode cX11_offer 8 = .ok (.aload_n 0, 1) := by decide +kernel
theorem dX11_offer_9 : decode cX11_offer 9 = .ok (.iconst (-1), 1) := by decide +kernel
theorem dX11_offer_10 : decode cX11_offer 10 = .ok (.invokevirtual 87, 3) := by decide +kernel
theorem dX11_offer_13 : decode cX11_offer 13 = .ok (.ireturn, 1) := by decide +kernel
theorem dX11_offer_14 : decode cX11_offer 14 = .ok (.aload_n 0, 1) := by decide +kernel
theorem dX11_offer_15 : decode cX11_offer 15 = .ok (.aload_n 0, 1) := by decide +kernel
theorem dX11_offer_16 : decode cX11_offer 16 = .ok (.getfield 12, 3) := by decide +kernel
theorem dX11_offer_19 : decode cX11_offer 19 = .ok (.getfield 284, 3) := by decide +kernel
theorem dX11_offer_22 : decode cX11_offer 22 = .ok (.iload_n 1, 1) := by decide +kernel
theorem dX11_offer_23 : decode cX11_offer 23 = .ok (.iload_n 2, 1) := by decide +kernel
theorem dX11_offer_24 : decode cX11_offer 24 = .ok (.iconst 0, 1) := by decide +kernel
theorem dX11_offer_25 : decode cX11_offer 25 = .ok (.iconst 0, 1) := by decide +kernel
theorem dX11_offer_26 : decode cX11_offer 26 = .ok (.iconst 0, 1) := by decide +kernel
theorem dX11_offer_27 : decode cX11_offer 27 = .ok (.invokevirtual 281, 3) := by decide +kernel
theorem dX11_offer_30 : decode cX11_offer 30 = .ok (.ireturn, 1) := by decide +kernel

def fX11_offer (p1 : Int32) (p2 : Int32) (σ : qMem) : Option (Int32 × qMem) :=
  ((fX11_isPace p1 p2).bind fun y1 => (if y1 = 0 then ((fX11_refuse (-1) σ).bind fun y3 => (some (y3.1, y3.2))) else ((fX11_addTo 29 16 p1 p2 0 0 0 σ).bind fun y2 => (some (y2.1, y2.2)))))
set_option maxRecDepth 20000 in
set_option maxHeartbeats 4000000 in
theorem aX11_offer  (p1 : Int32) (p2 : Int32)  (σ : qMem) : qAt wC mX11_offer (ρi) 0 [(0, .ref 0), (1, .int p1), (2, .int p2)] [] σ (fX11_offer p1 p2 σ) := by
  unfold fX11_offer
  refine q_iload_n (i := 1) (x := p1) dX11_offer_0 rfl 1 rfl ?_
  refine q_iload_n (i := 2) (x := p2) dX11_offer_1 rfl 2 rfl ?_
  refine q_cSp mX11_isPace [.int p1, .int p2] (st := []) dX11_offer_2 (ssX11_120) ⟨Nat.le_of_ble_eq_true rfl, Nat.le_of_ble_eq_true rfl⟩ rfl rfl (Nat.le_of_ble_eq_true rfl) (kX11_isPace p1 p2 σ) (fun y1 => ?_)
  refine q_if_ne (tgt := 14) dX11_offer_5 (by decide) ?_ ?_
  · refine q_aload_n (i := 0) (x := 0) dX11_offer_14 rfl 0 rfl ?_
    refine q_aload_n (i := 0) (x := 0) dX11_offer_15 rfl 0 rfl ?_
    refine q_getr (t := 1) dX11_offer_16 foX11_12 zC_0 rfl ?_
    refine q_getr (t := 29) dX11_offer_19 foX11_284 zC_1 rfl ?_
    refine q_iload_n (i := 1) (x := p1) dX11_offer_22 rfl 1 rfl ?_
    refine q_iload_n (i := 2) (x := p2) dX11_offer_23 rfl 2 rfl ?_
    refine q_iconst (v := 0) dX11_offer_24 (by decide) ?_
    refine q_iconst (v := 0) dX11_offer_25 (by decide) ?_
    refine q_iconst (v := 0) dX11_offer_26 (by decide) ?_
    refine q_cVi mX11_addTo [.ref 29, .int p1, .int p2, .int 0, .int 0, .int 0] (st := []) dX11_offer_27 (svX11_281) ⟨Nat.le_of_ble_eq_true rfl, Nat.le_of_ble_eq_true rfl⟩ zC_0 rfl rfl rfl (Nat.le_of_ble_eq_true rfl) (kX11_addTo 29 16 p1 p2 0 0 0 pC_29 σ) (fun y2 => ?_)
    exact q_ireti (y := (y2.1, y2.2)) dX11_offer_30 rfl rfl
  refine q_aload_n (i := 0) (x := 0) dX11_offer_8 rfl 0 rfl ?_
  refine q_iconst (v := (-1)) dX11_offer_9 (by decide) ?_
  refine q_cVi mX11_refuse [.int (-1)] (st := []) dX11_offer_10 (svX11_87) ⟨Nat.le_of_ble_eq_true rfl, Nat.le_of_ble_eq_true rfl⟩ zC_0 rfl rfl rfl (Nat.le_of_ble_eq_true rfl) (kX11_refuse (-1) σ) (fun y3 => ?_)
  exact q_ireti (y := (y3.1, y3.2)) dX11_offer_13 rfl rfl
theorem kX11_offer  (p1 : Int32) (p2 : Int32)  (σ : qMem) : qMc wC mX11_offer (ρi) [.ref 0, .int p1, .int p2] σ (fX11_offer p1 p2 σ) := qMc_of (moX11_offer) (Nat.le_of_ble_eq_true rfl) (aX11_offer p1 p2  σ)

theorem dX11_isAhead_0 : decode cX11_isAhead 0 = .ok (.iload_n 0, 1) := by decide +kernel
theorem dX11_isAhead_1 : decode cX11_isAhead 1 = .ok (.invokestatic 117, 3) := by decide +kernel
theorem dX11_isAhead_4 : decode cX11_isAhead 4 = .ok (.ifCond .eq 26, 3) := by decide +kernel
theorem dX11_isAhead_7 : decode cX11_isAhead 7 = .ok (.iload_n 1, 1) := by decide +kernel
theorem dX11_isAhead_8 : decode cX11_isAhead 8 = .ok (.iconst 1, 1) := by decide +kernel
theorem dX11_isAhead_9 : decode cX11_isAhead 9 = .ok (.bipush 9, 2) := by decide +kernel
theorem dX11_isAhead_11 : decode cX11_isAhead 11 = .ok (.invokestatic 83, 3) := by decide +kernel
theorem dX11_isAhead_14 : decode cX11_isAhead 14 = .ok (.ifCond .eq 16, 3) := by decide +kernel
theorem dX11_isAhead_17 : decode cX11_isAhead 17 = .ok (.iload_n 0, 1) := by decide +kernel
theorem dX11_isAhead_18 : decode cX11_isAhead 18 = .ok (.iload_n 1, 1) := by decide +kernel
theorem dX11_isAhead_19 : decode cX11_isAhead 19 = .ok (.iadd, 1) := by decide +kernel
theorem dX11_isAhead_20 : decode cX11_isAhead 20 = .ok (.invokestatic 117, 3) := by decide +kernel
theorem dX11_isAhead_23 : decode cX11_isAhead 23 = .ok (.ifCond .eq 7, 3) := by decide +kernel
theorem dX11_isAhead_26 : decode cX11_isAhead 26 = .ok (.iconst 1, 1) := by decide +kernel
theorem dX11_isAhead_27 : decode cX11_isAhead 27 = .ok (.goto 4, 3) := by decide +kernel
theorem dX11_isAhead_30 : decode cX11_isAhead 30 = .ok (.iconst 0, 1) := by decide +kernel
theorem dX11_isAhead_31 : decode cX11_isAhead 31 = .ok (.ireturn, 1) := by decide +kernel
def fX11_isAhead_b30  : Option Int32 :=
  (some 0)
set_option maxRecDepth 20000 in
set_option maxHeartbeats 4000000 in
theorem aX11_isAhead_b30 (σ : qMem) : qAt wC mX11_isAhead (ρp σ) 30 [] [] σ (fX11_isAhead_b30) := by
  unfold fX11_isAhead_b30
  refine q_iconst (v := 0) dX11_isAhead_30 (by decide) ?_
  exact q_iretz (y := 0) dX11_isAhead_31 rfl rfl rfl

def fX11_isAhead (p0 : Int32) (p1 : Int32) : Option Int32 :=
  ((fX11_isBell p0).bind fun y1 => (if y1 = 0 then (fX11_isAhead_b30 ) else ((fX11_isIn p1 1 9).bind fun y2 => (if y2 = 0 then (fX11_isAhead_b30 ) else ((fX11_isBell (p0 + p1)).bind fun y3 => (if y3 = 0 then (fX11_isAhead_b30 ) else (some 1)))))))
set_option maxRecDepth 20000 in
set_option maxHeartbeats 4000000 in
theorem aX11_isAhead  (p0 : Int32) (p1 : Int32)  (σ : qMem) : qAt wC mX11_isAhead (ρp σ) 0 [(0, .int p0), (1, .int p1)] [] σ (fX11_isAhead p0 p1) := by
  unfold fX11_isAhead
  refine q_iload_n (i := 0) (x := p0) dX11_isAhead_0 rfl 0 rfl ?_
  refine q_cSp mX11_isBell [.int p0] (st := []) dX11_isAhead_1 (ssX11_117) ⟨Nat.le_of_ble_eq_true rfl, Nat.le_of_ble_eq_true rfl⟩ rfl rfl (Nat.le_of_ble_eq_true rfl) (kX11_isBell p0 σ) (fun y1 => ?_)
  refine q_if_eq (tgt := 30) dX11_isAhead_4 (by decide) ?_ ?_
  · exact q_sub [] rfl (aX11_isAhead_b30 σ)
  refine q_iload_n (i := 1) (x := p1) dX11_isAhead_7 rfl 1 rfl ?_
  refine q_iconst (v := 1) dX11_isAhead_8 (by decide) ?_
  refine q_bipush (v := 9) dX11_isAhead_9 (by decide) ?_
  refine q_cSp mX11_isIn [.int p1, .int 1, .int 9] (st := []) dX11_isAhead_11 (ssX11_83) ⟨Nat.le_of_ble_eq_true rfl, Nat.le_of_ble_eq_true rfl⟩ rfl rfl (Nat.le_of_ble_eq_true rfl) (kX11_isIn p1 1 9 σ) (fun y2 => ?_)
  refine q_if_eq (tgt := 30) dX11_isAhead_14 (by decide) ?_ ?_
  · exact q_sub [] rfl (aX11_isAhead_b30 σ)
  refine q_iload_n (i := 0) (x := p0) dX11_isAhead_17 rfl 0 rfl ?_
  refine q_iload_n (i := 1) (x := p1) dX11_isAhead_18 rfl 1 rfl ?_
  refine q_iadd dX11_isAhead_19 ?_
  refine q_cSp mX11_isBell [.int (p0 + p1)] (st := []) dX11_isAhead_20 (ssX11_117) ⟨Nat.le_of_ble_eq_true rfl, Nat.le_of_ble_eq_true rfl⟩ rfl rfl (Nat.le_of_ble_eq_true rfl) (kX11_isBell (p0 + p1) σ) (fun y3 => ?_)
  refine q_if_eq (tgt := 30) dX11_isAhead_23 (by decide) ?_ ?_
  · exact q_sub [] rfl (aX11_isAhead_b30 σ)
  refine q_iconst (v := 1) dX11_isAhead_26 (by decide) ?_
  refine q_goto (tgt := 31) dX11_isAhead_27 (by decide) ?_
  exact q_iretz (y := 1) dX11_isAhead_31 rfl rfl rfl
theorem kX11_isAhead  (p0 : Int32) (p1 : Int32)  (σ : qMem) : qMc wC mX11_isAhead (ρp σ) [.int p0, .int p1] σ (fX11_isAhead p0 p1) := qMc_of (moX11_isAhead) (Nat.le_of_ble_eq_true rfl) (aX11_isAhead p0 p1  σ)

theorem dX11_offerEast_0 : decode cX11_offerEast 0 = .ok (.aload_n 0, 1) := by decide +kernel
theorem dX11_offerEast_1 : decode cX11_offerEast 1 = .ok (.getfield 12, 3) := by decide +kernel
theorem dX11_offerEast_4 : decode cX11_offerEast 4 = .ok (.getfield 95, 3) := by decide +kernel
theorem dX11_offerEast_7 : decode cX11_offerEast 7 = .ok (.iconst 0, 1) := by decide +kernel
theorem dX11_offerEast_8 : decode cX11_offerEast 8 = .ok (.aaload, 1) := by decide +kernel
theorem dX11_offerEast_9 : decode cX11_offerEast 9 = .ok (.getfield 138, 3) := by decide +kernel
theorem dX11_offerEast_12 : decode cX11_offerEast 12 = .ok (.iload_n 1, 1) := by decide +kernel
theorem dX11_offerEast_13 : decode cX11_offerEast 13 = .ok (.iaload, 1) := by decide +kernel
theorem dX11_offerEast_14 : decode cX11_offerEast 14 = .ok (.iload_n 2, 1) := by decide +kernel
theorem dX11_offerEast_15 : decode cX11_offerEast 15 = .ok (.aload_n 0, 1) := by decide +kernel
theorem dX11_offerEast_16 : decode cX11_offerEast 16 = .ok (.getfield 12, 3) := by decide +kernel
theorem dX11_offerEast_19 : decode cX11_offerEast 19 = .ok (.getfield 284, 3) := by decide +kernel
theorem dX11_offerEast_22 : decode cX11_offerEast 22 = .ok (.iload_n 3, 1) := by decide +kernel
theorem dX11_offerEast_23 : decode cX11_offerEast 23 = .ok (.iconst 0, 1) := by decide +kernel
theorem dX11_offerEast_24 : decode cX11_offerEast 24 = .ok (.invokevirtual 123, 3) := by decide +kernel
theorem dX11_offerEast_27 : decode cX11_offerEast 27 = .ok (.imul, 1) := by decide +kernel
theorem dX11_offerEast_28 : decode cX11_offerEast 28 = .ok (.iadd, 1) := by decide +kernel
theorem dX11_offerEast_29 : decode cX11_offerEast 29 = .ok (.ireturn, 1) := by decide +kernel

def fX11_offerEast (p1 : Int32) (p2 : Int32) (p3 : Int32) (σ : qMem) : Option Int32 :=
  (if ck p1 24 = true then ((fX8_at 29 16 p3 0 σ).bind fun y1 => (some ((gi σ 6 p1.toNatClampNeg) + (p2 * y1)))) else none)
set_option maxRecDepth 20000 in
set_option maxHeartbeats 4000000 in
theorem aX11_offerEast  (p1 : Int32) (p2 : Int32) (p3 : Int32)  (σ : qMem) : qAt wC mX11_offerEast (ρp σ) 0 [(0, .ref 0), (1, .int p1), (2, .int p2), (3, .int p3)] [] σ (fX11_offerEast p1 p2 p3 σ) := by
  unfold fX11_offerEast
  refine q_aload_n (i := 0) (x := 0) dX11_offerEast_0 rfl 0 rfl ?_
  refine q_getr (t := 1) dX11_offerEast_1 foX11_12 zC_0 rfl ?_
  refine q_getr (t := 2) dX11_offerEast_4 foX11_95 zC_1 rfl ?_
  refine q_iconst (v := 0) dX11_offerEast_7 (by decide) ?_
  refine q_aaldC (t0 := 4) (j := 0) (t := 3) dX11_offerEast_8 zC_2 (fun _ => rfl) (by decide) (by decide) rfl ?_
  refine q_getr (t := 6) dX11_offerEast_9 foX11_138 zC_3 rfl ?_
  refine q_iload_n (i := 1) (x := p1) dX11_offerEast_12 rfl 1 rfl ?_
  refine q_iald dX11_offerEast_13 zC_6 ?_
  refine q_iload_n (i := 2) (x := p2) dX11_offerEast_14 rfl 2 rfl ?_
  refine q_aload_n (i := 0) (x := 0) dX11_offerEast_15 rfl 0 rfl ?_
  refine q_getr (t := 1) dX11_offerEast_16 foX11_12 zC_0 rfl ?_
  refine q_getr (t := 29) dX11_offerEast_19 foX11_284 zC_1 rfl ?_
  refine q_iload_n (i := 3) (x := p3) dX11_offerEast_22 rfl 3 rfl ?_
  refine q_iconst (v := 0) dX11_offerEast_23 (by decide) ?_
  refine q_cVp mX8_at [.int p3, .int 0] (st := [.int p2, .int (gi σ 6 p1.toNatClampNeg)]) dX11_offerEast_24 (svX11_123) ⟨Nat.le_of_ble_eq_true rfl, Nat.le_of_ble_eq_true rfl⟩ zC_29 rfl rfl rfl (Nat.le_of_ble_eq_true rfl) (kX8_at 29 16 p3 0 pC_29 σ) (fun y1 => ?_)
  refine q_imul dX11_offerEast_27 ?_
  refine q_iadd dX11_offerEast_28 ?_
  exact q_ireti (y := ((gi σ 6 p1.toNatClampNeg) + (p2 * y1))) dX11_offerEast_29 rfl rfl
theorem kX11_offerEast  (p1 : Int32) (p2 : Int32) (p3 : Int32)  (σ : qMem) : qMc wC mX11_offerEast (ρp σ) [.ref 0, .int p1, .int p2, .int p3] σ (fX11_offerEast p1 p2 p3 σ) := qMc_of (moX11_offerEast) (Nat.le_of_ble_eq_true rfl) (aX11_offerEast p1 p2 p3  σ)

theorem dX11_offerNorth_0 : decode cX11_offerNorth 0 = .ok (.aload_n 0, 1) := by decide +kernel
theorem dX11_offerNorth_1 : decode cX11_offerNorth 1 = .ok (.getfield 12, 3) := by decide +kernel
theorem dX11_offerNorth_4 : decode cX11_offerNorth 4 = .ok (.getfield 95, 3) := by decide +kernel
theorem dX11_offerNorth_7 : decode cX11_offerNorth 7 = .ok (.iconst 0, 1) := by decide +kernel
theorem dX11_offerNorth_8 : decode cX11_offerNorth 8 = .ok (.aaload, 1) := by decide +kernel
theorem dX11_offerNorth_9 : decode cX11_offerNorth 9 = .ok (.getfield 141, 3) := by decide +kernel
theorem dX11_offerNorth_12 : decode cX11_offerNorth 12 = .ok (.iload_n 1, 1) := by decide +kernel
theorem dX11_offerNorth_13 : decode cX11_offerNorth 13 = .ok (.iaload, 1) := by decide +kernel
theorem dX11_offerNorth_14 : decode cX11_offerNorth 14 = .ok (.iload_n 2, 1) := by decide +kernel
theorem dX11_offerNorth_15 : decode cX11_offerNorth 15 = .ok (.aload_n 0, 1) := by decide +kernel
theorem dX11_offerNorth_16 : decode cX11_offerNorth 16 = .ok (.getfield 12, 3) := by decide +kernel
theorem dX11_offerNorth_19 : decode cX11_offerNorth 19 = .ok (.getfield 284, 3) := by decide +kernel
theorem dX11_offerNorth_22 : decode cX11_offerNorth 22 = .ok (.iload_n 3, 1) := by decide +kernel
theorem dX11_offerNorth_23 : decode cX11_offerNorth 23 = .ok (.iconst 1, 1) := by decide +kernel
theorem dX11_offerNorth_24 : decode cX11_offerNorth 24 = .ok (.invokevirtual 123, 3) := by decide +kernel
theorem dX11_offerNorth_27 : decode cX11_offerNorth 27 = .ok (.imul, 1) := by decide +kernel
theorem dX11_offerNorth_28 : decode cX11_offerNorth 28 = .ok (.iadd, 1) := by decide +kernel
theorem dX11_offerNorth_29 : decode cX11_offerNorth 29 = .ok (.ireturn, 1) := by decide +kernel

def fX11_offerNorth (p1 : Int32) (p2 : Int32) (p3 : Int32) (σ : qMem) : Option Int32 :=
  (if ck p1 24 = true then ((fX8_at 29 16 p3 1 σ).bind fun y1 => (some ((gi σ 7 p1.toNatClampNeg) + (p2 * y1)))) else none)
set_option maxRecDepth 20000 in
set_option maxHeartbeats 4000000 in
theorem aX11_offerNorth  (p1 : Int32) (p2 : Int32) (p3 : Int32)  (σ : qMem) : qAt wC mX11_offerNorth (ρp σ) 0 [(0, .ref 0), (1, .int p1), (2, .int p2), (3, .int p3)] [] σ (fX11_offerNorth p1 p2 p3 σ) := by
  unfold fX11_offerNorth
  refine q_aload_n (i := 0) (x := 0) dX11_offerNorth_0 rfl 0 rfl ?_
  refine q_getr (t := 1) dX11_offerNorth_1 foX11_12 zC_0 rfl ?_
  refine q_getr (t := 2) dX11_offerNorth_4 foX11_95 zC_1 rfl ?_
  refine q_iconst (v := 0) dX11_offerNorth_7 (by decide) ?_
  refine q_aaldC (t0 := 4) (j := 0) (t := 3) dX11_offerNorth_8 zC_2 (fun _ => rfl) (by decide) (by decide) rfl ?_
  refine q_getr (t := 7) dX11_offerNorth_9 foX11_141 zC_3 rfl ?_
  refine q_iload_n (i := 1) (x := p1) dX11_offerNorth_12 rfl 1 rfl ?_
  refine q_iald dX11_offerNorth_13 zC_7 ?_
  refine q_iload_n (i := 2) (x := p2) dX11_offerNorth_14 rfl 2 rfl ?_
  refine q_aload_n (i := 0) (x := 0) dX11_offerNorth_15 rfl 0 rfl ?_
  refine q_getr (t := 1) dX11_offerNorth_16 foX11_12 zC_0 rfl ?_
  refine q_getr (t := 29) dX11_offerNorth_19 foX11_284 zC_1 rfl ?_
  refine q_iload_n (i := 3) (x := p3) dX11_offerNorth_22 rfl 3 rfl ?_
  refine q_iconst (v := 1) dX11_offerNorth_23 (by decide) ?_
  refine q_cVp mX8_at [.int p3, .int 1] (st := [.int p2, .int (gi σ 7 p1.toNatClampNeg)]) dX11_offerNorth_24 (svX11_123) ⟨Nat.le_of_ble_eq_true rfl, Nat.le_of_ble_eq_true rfl⟩ zC_29 rfl rfl rfl (Nat.le_of_ble_eq_true rfl) (kX8_at 29 16 p3 1 pC_29 σ) (fun y1 => ?_)
  refine q_imul dX11_offerNorth_27 ?_
  refine q_iadd dX11_offerNorth_28 ?_
  exact q_ireti (y := ((gi σ 7 p1.toNatClampNeg) + (p2 * y1))) dX11_offerNorth_29 rfl rfl
theorem kX11_offerNorth  (p1 : Int32) (p2 : Int32) (p3 : Int32)  (σ : qMem) : qMc wC mX11_offerNorth (ρp σ) [.ref 0, .int p1, .int p2, .int p3] σ (fX11_offerNorth p1 p2 p3 σ) := qMc_of (moX11_offerNorth) (Nat.le_of_ble_eq_true rfl) (aX11_offerNorth p1 p2 p3  σ)

theorem dX11_parts_0 : decode cX11_parts 0 = .ok (.iload_n 1, 1) := by decide +kernel
theorem dX11_parts_1 : decode cX11_parts 1 = .ok (.iload_n 2, 1) := by decide +kernel
theorem dX11_parts_2 : decode cX11_parts 2 = .ok (.invokestatic 287, 3) := by decide +kernel
theorem dX11_parts_5 : decode cX11_parts 5 = .ok (.ifCond .eq 23, 3) := by decide +kernel
theorem dX11_parts_8 : decode cX11_parts 8 = .ok (.iload_n 3, 1) := by decide +kernel
theorem dX11_parts_9 : decode cX11_parts 9 = .ok (.iconst 0, 1) := by decide +kernel
theorem dX11_parts_10 : decode cX11_parts 10 = .ok (.aload_n 0, 1) := by decide +kernel
theorem dX11_parts_11 : decode cX11_parts 11 = .ok (.getfield 12, 3) := by decide +kernel
theorem dX11_parts_14 : decode cX11_parts 14 = .ok (.getfield 284, 3) := by decide +kernel
theorem dX11_parts_17 : decode cX11_parts 17 = .ok (.getfield 105, 3) := by decide +kernel
theorem dX11_parts_20 : decode cX11_parts 20 = .ok (.iconst 1, 1) := by decide +kernel
theorem dX11_parts_21 : decode cX11_parts 21 = .ok (.isub, 1) := by decide +kernel
theorem dX11_parts_22 : decode cX11_parts 22 = .ok (.invokestatic 83, 3) := by decide +kernel
theorem dX11_parts_25 : decode cX11_parts 25 = .ok (.ifCond .ne 5, 3) := by decide +kernel
theorem dX11_parts_28 : decode cX11_parts 28 = .ok (.iconst (-1), 1) := by decide +kernel
theorem dX11_parts_29 : decode cX11_parts 29 = .ok (.ireturn, 1) := by decide +kernel
theorem dX11_parts_30 : decode cX11_parts 30 = .ok (.aload_n 0, 1) := by decide +kernel
theorem dX11_parts_31 : decode cX11_parts 31 = .ok (.getfield 29, 3) := by decide +kernel
theorem dX11_parts_34 : decode cX11_parts 34 = .ok (.invokevirtual 243, 3) := by decide +kernel
theorem dX11_parts_37 : decode cX11_parts 37 = .ok (.aload_n 0, 1) := by decide +kernel
theorem dX11_parts_38 : decode cX11_parts 38 = .ok (.getfield 29, 3) := by decide +kernel
theorem dX11_parts_41 : decode cX11_parts 41 = .ok (.iload_n 1, 1) := by decide +kernel
theorem dX11_parts_42 : decode cX11_parts 42 = .ok (.iload_n 2, 1) := by decide +kernel
theorem dX11_parts_43 : decode cX11_parts 43 = .ok (.iadd, 1) := by decide +kernel
theorem dX11_parts_44 : decode cX11_parts 44 = .ok (.aload_n 0, 1) := by decide +kernel
theorem dX11_parts_45 : decode cX11_parts 45 = .ok (.iload_n 1, 1) := by decide +kernel
theorem dX11_parts_46 : decode cX11_parts 46 = .ok (.iload_n 2, 1) := by decide +kernel
theorem dX11_parts_47 : decode cX11_parts 47 = .ok (.iload_n 3, 1) := by decide +kernel
theorem dX11_parts_48 : decode cX11_parts 48 = .ok (.invokevirtual 290, 3) := by decide +kernel
theorem dX11_parts_51 : decode cX11_parts 51 = .ok (.aload_n 0, 1) := by decide +kernel
theorem dX11_parts_52 : decode cX11_parts 52 = .ok (.iload_n 1, 1) := by decide +kernel
theorem dX11_parts_53 : decode cX11_parts 53 = .ok (.iload_n 2, 1) := by decide +kernel
theorem dX11_parts_54 : decode cX11_parts 54 = .ok (.iload_n 3, 1) := by decide +kernel
theorem dX11_parts_55 : decode cX11_parts 55 = .ok (.invokevirtual 294, 3) := by decide +kernel
theorem dX11_parts_58 : decode cX11_parts 58 = .ok (.invokevirtual 297, 3) := by decide +kernel
theorem dX11_parts_61 : decode cX11_parts 61 = .ok (.ireturn, 1) := by decide +kernel

def fX11_parts (N : Nat) (p1 : Int32) (p2 : Int32) (p3 : Int32) (σ : qMem) : Option (Int32 × qMem) :=
  ((fX11_isAhead p1 p2).bind fun y1 => (if y1 = 0 then (some ((-1), σ)) else ((fX11_isIn p3 0 ((gi σ 29 3) - 1)).bind fun y2 => (if y2 = 0 then (some ((-1), σ)) else ((fX3_plot N σ).bind fun y3 => ((fX11_offerEast p1 p2 p3 y3).bind fun y4 => ((fX11_offerNorth p1 p2 p3 y3).bind fun y5 => ((fX3_largestGroup N (p1 + p2) y4 y5 y3).bind fun y6 => (some (y6.1, y6.2))))))))))
set_option maxRecDepth 20000 in
set_option maxHeartbeats 4000000 in
theorem aX11_parts  (N : Nat) (p1 : Int32) (p2 : Int32) (p3 : Int32)  (σ : qMem) : qAt wC mX11_parts (ρi) 0 [(0, .ref 0), (1, .int p1), (2, .int p2), (3, .int p3)] [] σ (fX11_parts N p1 p2 p3 σ) := by
  unfold fX11_parts
  refine q_iload_n (i := 1) (x := p1) dX11_parts_0 rfl 1 rfl ?_
  refine q_iload_n (i := 2) (x := p2) dX11_parts_1 rfl 2 rfl ?_
  refine q_cSp mX11_isAhead [.int p1, .int p2] (st := []) dX11_parts_2 (ssX11_287) ⟨Nat.le_of_ble_eq_true rfl, Nat.le_of_ble_eq_true rfl⟩ rfl rfl (Nat.le_of_ble_eq_true rfl) (kX11_isAhead p1 p2 σ) (fun y1 => ?_)
  refine q_if_eq (tgt := 28) dX11_parts_5 (by decide) ?_ ?_
  · refine q_iconst (v := (-1)) dX11_parts_28 (by decide) ?_
    exact q_ireti (y := ((-1), σ)) dX11_parts_29 rfl rfl
  refine q_iload_n (i := 3) (x := p3) dX11_parts_8 rfl 3 rfl ?_
  refine q_iconst (v := 0) dX11_parts_9 (by decide) ?_
  refine q_aload_n (i := 0) (x := 0) dX11_parts_10 rfl 0 rfl ?_
  refine q_getr (t := 1) dX11_parts_11 foX11_12 zC_0 rfl ?_
  refine q_getr (t := 29) dX11_parts_14 foX11_284 zC_1 rfl ?_
  refine q_geti dX11_parts_17 foX11_105 zC_29 rfl ?_
  refine q_iconst (v := 1) dX11_parts_20 (by decide) ?_
  refine q_isub dX11_parts_21 ?_
  refine q_cSp mX11_isIn [.int p3, .int 0, .int ((gi σ 29 3) - 1)] (st := []) dX11_parts_22 (ssX11_83) ⟨Nat.le_of_ble_eq_true rfl, Nat.le_of_ble_eq_true rfl⟩ rfl rfl (Nat.le_of_ble_eq_true rfl) (kX11_isIn p3 0 ((gi σ 29 3) - 1) σ) (fun y2 => ?_)
  refine q_if_ne (tgt := 30) dX11_parts_25 (by decide) ?_ ?_
  · refine q_aload_n (i := 0) (x := 0) dX11_parts_30 rfl 0 rfl ?_
    refine q_getr (t := 44) dX11_parts_31 foX11_29 zC_0 rfl ?_
    refine q_cVv mX3_plot [] (st := []) dX11_parts_34 (svX11_243) ⟨Nat.le_of_ble_eq_true rfl, Nat.le_of_ble_eq_true rfl⟩ zC_44 rfl rfl rfl (Nat.le_of_ble_eq_true rfl) (kX3_plot N σ) (fun y3 => ?_)
    refine q_aload_n (i := 0) (x := 0) dX11_parts_37 rfl 0 rfl ?_
    refine q_getr (t := 44) dX11_parts_38 foX11_29 zC_0 rfl ?_
    refine q_iload_n (i := 1) (x := p1) dX11_parts_41 rfl 1 rfl ?_
    refine q_iload_n (i := 2) (x := p2) dX11_parts_42 rfl 2 rfl ?_
    refine q_iadd dX11_parts_43 ?_
    refine q_aload_n (i := 0) (x := 0) dX11_parts_44 rfl 0 rfl ?_
    refine q_iload_n (i := 1) (x := p1) dX11_parts_45 rfl 1 rfl ?_
    refine q_iload_n (i := 2) (x := p2) dX11_parts_46 rfl 2 rfl ?_
    refine q_iload_n (i := 3) (x := p3) dX11_parts_47 rfl 3 rfl ?_
    refine q_cVp mX11_offerEast [.int p1, .int p2, .int p3] (st := [.int (p1 + p2), .ref 44]) dX11_parts_48 (svX11_290) ⟨Nat.le_of_ble_eq_true rfl, Nat.le_of_ble_eq_true rfl⟩ zC_0 rfl rfl rfl (Nat.le_of_ble_eq_true rfl) (kX11_offerEast p1 p2 p3 y3) (fun y4 => ?_)
    refine q_aload_n (i := 0) (x := 0) dX11_parts_51 rfl 0 rfl ?_
    refine q_iload_n (i := 1) (x := p1) dX11_parts_52 rfl 1 rfl ?_
    refine q_iload_n (i := 2) (x := p2) dX11_parts_53 rfl 2 rfl ?_
    refine q_iload_n (i := 3) (x := p3) dX11_parts_54 rfl 3 rfl ?_
    refine q_cVp mX11_offerNorth [.int p1, .int p2, .int p3] (st := [.int y4, .int (p1 + p2), .ref 44]) dX11_parts_55 (svX11_294) ⟨Nat.le_of_ble_eq_true rfl, Nat.le_of_ble_eq_true rfl⟩ zC_0 rfl rfl rfl (Nat.le_of_ble_eq_true rfl) (kX11_offerNorth p1 p2 p3 y3) (fun y5 => ?_)
    refine q_cVi mX3_largestGroup [.int (p1 + p2), .int y4, .int y5] (st := []) dX11_parts_58 (svX11_297) ⟨Nat.le_of_ble_eq_true rfl, Nat.le_of_ble_eq_true rfl⟩ zC_44 rfl rfl rfl (Nat.le_of_ble_eq_true rfl) (kX3_largestGroup N (p1 + p2) y4 y5 y3) (fun y6 => ?_)
    exact q_ireti (y := (y6.1, y6.2)) dX11_parts_61 rfl rfl
  refine q_iconst (v := (-1)) dX11_parts_28 (by decide) ?_
  exact q_ireti (y := ((-1), σ)) dX11_parts_29 rfl rfl
theorem kX11_parts  (N : Nat) (p1 : Int32) (p2 : Int32) (p3 : Int32)  (σ : qMem) : qMc wC mX11_parts (ρi) [.ref 0, .int p1, .int p2, .int p3] σ (fX11_parts N p1 p2 p3 σ) := qMc_of (moX11_parts) (Nat.le_of_ble_eq_true rfl) (aX11_parts N p1 p2 p3  σ)

theorem dX11_offerSpeed_0 : decode cX11_offerSpeed 0 = .ok (.aload_n 0, 1) := by decide +kernel
theorem dX11_offerSpeed_1 : decode cX11_offerSpeed 1 = .ok (.getfield 12, 3) := by decide +kernel
theorem dX11_offerSpeed_4 : decode cX11_offerSpeed 4 = .ok (.getfield 284, 3) := by decide +kernel
theorem dX11_offerSpeed_7 : decode cX11_offerSpeed 7 = .ok (.iload_n 1, 1) := by decide +kernel
theorem dX11_offerSpeed_8 : decode cX11_offerSpeed 8 = .ok (.iconst 0, 1) := by decide +kernel
theorem dX11_offerSpeed_9 : decode cX11_offerSpeed 9 = .ok (.invokevirtual 123, 3) := by decide +kernel
theorem dX11_offerSpeed_12 : decode cX11_offerSpeed 12 = .ok (.invokestatic 396, 3) := by decide +kernel
theorem dX11_offerSpeed_15 : decode cX11_offerSpeed 15 = .ok (.aload_n 0, 1) := by decide +kernel
theorem dX11_offerSpeed_16 : decode cX11_offerSpeed 16 = .ok (.getfield 12, 3) := by decide +kernel
theorem dX11_offerSpeed_19 : decode cX11_offerSpeed 19 = .ok (.getfield 284, 3) := by decide +kernel
theorem dX11_offerSpeed_22 : decode cX11_offerSpeed 22 = .ok (.iload_n 1, 1) := by decide +kernel
theorem dX11_offerSpeed_23 : decode cX11_offerSpeed 23 = .ok (.iconst 1, 1) := by decide +kernel
theorem dX11_offerSpeed_24 : decode cX11_offerSpeed 24 = .ok (.invokevirtual 123, 3) := by decide +kernel
theorem dX11_offerSpeed_27 : decode cX11_offerSpeed 27 = .ok (.invokestatic 396, 3) := by decide +kernel
theorem dX11_offerSpeed_30 : decode cX11_offerSpeed 30 = .ok (.invokestatic 399, 3) := by decide +kernel
theorem dX11_offerSpeed_33 : decode cX11_offerSpeed 33 = .ok (.ireturn, 1) := by decide +kernel

def fX11_offerSpeed (p1 : Int32) (σ : qMem) : Option Int32 :=
  ((fX8_at 29 16 p1 0 σ).bind fun y1 => ((fJ9_abs_0f7a4 y1).bind fun y2 => ((fX8_at 29 16 p1 1 σ).bind fun y3 => ((fJ9_abs_0f7a4 y3).bind fun y4 => ((fJ9_max_7cf53 y2 y4).bind fun y5 => (some y5))))))
set_option maxRecDepth 20000 in
set_option maxHeartbeats 4000000 in
theorem aX11_offerSpeed  (p1 : Int32)  (σ : qMem) : qAt wC mX11_offerSpeed (ρp σ) 0 [(0, .ref 0), (1, .int p1)] [] σ (fX11_offerSpeed p1 σ) := by
  unfold fX11_offerSpeed
  refine q_aload_n (i := 0) (x := 0) dX11_offerSpeed_0 rfl 0 rfl ?_
  refine q_getr (t := 1) dX11_offerSpeed_1 foX11_12 zC_0 rfl ?_
  refine q_getr (t := 29) dX11_offerSpeed_4 foX11_284 zC_1 rfl ?_
  refine q_iload_n (i := 1) (x := p1) dX11_offerSpeed_7 rfl 1 rfl ?_
  refine q_iconst (v := 0) dX11_offerSpeed_8 (by decide) ?_
  refine q_cVp mX8_at [.int p1, .int 0] (st := []) dX11_offerSpeed_9 (svX11_123) ⟨Nat.le_of_ble_eq_true rfl, Nat.le_of_ble_eq_true rfl⟩ zC_29 rfl rfl rfl (Nat.le_of_ble_eq_true rfl) (kX8_at 29 16 p1 0 pC_29 σ) (fun y1 => ?_)
  refine q_cSp mJ9_abs_0f7a4 [.int y1] (st := []) dX11_offerSpeed_12 (ssX11_396) ⟨Nat.le_of_ble_eq_true rfl, Nat.le_of_ble_eq_true rfl⟩ rfl rfl (Nat.le_of_ble_eq_true rfl) (kJ9_abs_0f7a4 y1 σ) (fun y2 => ?_)
  refine q_aload_n (i := 0) (x := 0) dX11_offerSpeed_15 rfl 0 rfl ?_
  refine q_getr (t := 1) dX11_offerSpeed_16 foX11_12 zC_0 rfl ?_
  refine q_getr (t := 29) dX11_offerSpeed_19 foX11_284 zC_1 rfl ?_
  refine q_iload_n (i := 1) (x := p1) dX11_offerSpeed_22 rfl 1 rfl ?_
  refine q_iconst (v := 1) dX11_offerSpeed_23 (by decide) ?_
  refine q_cVp mX8_at [.int p1, .int 1] (st := [.int y2]) dX11_offerSpeed_24 (svX11_123) ⟨Nat.le_of_ble_eq_true rfl, Nat.le_of_ble_eq_true rfl⟩ zC_29 rfl rfl rfl (Nat.le_of_ble_eq_true rfl) (kX8_at 29 16 p1 1 pC_29 σ) (fun y3 => ?_)
  refine q_cSp mJ9_abs_0f7a4 [.int y3] (st := [.int y2]) dX11_offerSpeed_27 (ssX11_396) ⟨Nat.le_of_ble_eq_true rfl, Nat.le_of_ble_eq_true rfl⟩ rfl rfl (Nat.le_of_ble_eq_true rfl) (kJ9_abs_0f7a4 y3 σ) (fun y4 => ?_)
  refine q_cSp mJ9_max_7cf53 [.int y2, .int y4] (st := []) dX11_offerSpeed_30 (ssX11_399) ⟨Nat.le_of_ble_eq_true rfl, Nat.le_of_ble_eq_true rfl⟩ rfl rfl (Nat.le_of_ble_eq_true rfl) (kJ9_max_7cf53 y2 y4 σ) (fun y5 => ?_)
  exact q_ireti (y := y5) dX11_offerSpeed_33 rfl rfl
theorem kX11_offerSpeed  (p1 : Int32)  (σ : qMem) : qMc wC mX11_offerSpeed (ρp σ) [.ref 0, .int p1] σ (fX11_offerSpeed p1 σ) := qMc_of (moX11_offerSpeed) (Nat.le_of_ble_eq_true rfl) (aX11_offerSpeed p1  σ)

theorem dX11_bestOffer_0 : decode cX11_bestOffer 0 = .ok (.iload_n 1, 1) := by decide +kernel
theorem dX11_bestOffer_1 : decode cX11_bestOffer 1 = .ok (.iload_n 2, 1) := by decide +kernel
theorem dX11_bestOffer_2 : decode cX11_bestOffer 2 = .ok (.iadd, 1) := by decide +kernel
theorem dX11_bestOffer_3 : decode cX11_bestOffer 3 = .ok (.istore 4, 2) := by decide +kernel
theorem dX11_bestOffer_5 : decode cX11_bestOffer 5 = .ok (.iconst (-1), 1) := by decide +kernel
theorem dX11_bestOffer_6 : decode cX11_bestOffer 6 = .ok (.istore 5, 2) := by decide +kernel
theorem dX11_bestOffer_8 : decode cX11_bestOffer 8 = .ok (.iconst 0, 1) := by decide +kernel
theorem dX11_bestOffer_9 : decode cX11_bestOffer 9 = .ok (.istore 6, 2) := by decide +kernel
theorem dX11_bestOffer_11 : decode cX11_bestOffer 11 = .ok (.iconst 0, 1) := by decide +kernel
theorem dX11_bestOffer_12 : decode cX11_bestOffer 12 = .ok (.istore 7, 2) := by decide +kernel
theorem dX11_bestOffer_14 : decode cX11_bestOffer 14 = .ok (.iload 7, 2) := by decide +kernel
theorem dX11_bestOffer_16 : decode cX11_bestOffer 16 = .ok (.aload_n 0, 1) := by decide +kernel
theorem dX11_bestOffer_17 : decode cX11_bestOffer 17 = .ok (.getfield 12, 3) := by decide +kernel
theorem dX11_bestOffer_20 : decode cX11_bestOffer 20 = .ok (.getfield 284, 3) := by decide +kernel
theorem dX11_bestOffer_23 : decode cX11_bestOffer 23 = .ok (.getfield 105, 3) := by decide +kernel
theorem dX11_bestOffer_26 : decode cX11_bestOffer 26 = .ok (.if_icmp .ge 100, 3) := by decide +kernel
theorem dX11_bestOffer_29 : decode cX11_bestOffer 29 = .ok (.aload_n 0, 1) := by decide +kernel
theorem dX11_bestOffer_30 : decode cX11_bestOffer 30 = .ok (.iload_n 1, 1) := by decide +kernel
theorem dX11_bestOffer_31 : decode cX11_bestOffer 31 = .ok (.iload_n 2, 1) := by decide +kernel
theorem dX11_bestOffer_32 : decode cX11_bestOffer 32 = .ok (.iload 7, 2) := by decide +kernel
theorem dX11_bestOffer_34 : decode cX11_bestOffer 34 = .ok (.invokevirtual 290, 3) := by decide +kernel
theorem dX11_bestOffer_37 : decode cX11_bestOffer 37 = .ok (.istore 8, 2) := by decide +kernel
theorem dX11_bestOffer_39 : decode cX11_bestOffer 39 = .ok (.aload_n 0, 1) := by decide +kernel
theorem dX11_bestOffer_40 : decode cX11_bestOffer 40 = .ok (.iload_n 1, 1) := by decide +kernel
theorem dX11_bestOffer_41 : decode cX11_bestOffer 41 = .ok (.iload_n 2, 1) := by decide +kernel
theorem dX11_bestOffer_42 : decode cX11_bestOffer 42 = .ok (.iload 7, 2) := by decide +kernel
theorem dX11_bestOffer_44 : decode cX11_bestOffer 44 = .ok (.invokevirtual 294, 3) := by decide +kernel
theorem dX11_bestOffer_47 : decode cX11_bestOffer 47 = .ok (.istore 9, 2) := by decide +kernel
theorem dX11_bestOffer_49 : decode cX11_bestOffer 49 = .ok (.iload_n 3, 1) := by decide +kernel
theorem dX11_bestOffer_50 : decode cX11_bestOffer 50 = .ok (.aload_n 0, 1) := by decide +kernel
theorem dX11_bestOffer_51 : decode cX11_bestOffer 51 = .ok (.getfield 29, 3) := by decide +kernel
theorem dX11_bestOffer_54 : decode cX11_bestOffer 54 = .ok (.getfield 246, 3) := by decide +kernel
theorem dX11_bestOffer_57 : decode cX11_bestOffer 57 = .ok (.if_icmp .ge 27, 3) := by decide +kernel
theorem dX11_bestOffer_60 : decode cX11_bestOffer 60 = .ok (.aload_n 0, 1) := by decide +kernel
theorem dX11_bestOffer_61 : decode cX11_bestOffer 61 = .ok (.getfield 29, 3) := by decide +kernel
theorem dX11_bestOffer_64 : decode cX11_bestOffer 64 = .ok (.iconst 0, 1) := by decide +kernel
theorem dX11_bestOffer_65 : decode cX11_bestOffer 65 = .ok (.iload 4, 2) := by decide +kernel
theorem dX11_bestOffer_67 : decode cX11_bestOffer 67 = .ok (.aload_n 0, 1) := by decide +kernel
theorem dX11_bestOffer_68 : decode cX11_bestOffer 68 = .ok (.iload 7, 2) := by decide +kernel
theorem dX11_bestOffer_70 : decode cX11_bestOffer 70 = .ok (.invokevirtual 303, 3) := by decide +kernel
theorem dX11_bestOffer_73 : decode cX11_bestOffer 73 = .ok (.iload 8, 2) := by decide +kernel
theorem dX11_bestOffer_75 : decode cX11_bestOffer 75 = .ok (.iload 9, 2) := by decide +kernel
theorem dX11_bestOffer_77 : decode cX11_bestOffer 77 = .ok (.invokevirtual 306, 3) := by decide +kernel
theorem dX11_bestOffer_80 : decode cX11_bestOffer 80 = .ok (.iload_n 3, 1) := by decide +kernel
theorem dX11_bestOffer_81 : decode cX11_bestOffer 81 = .ok (.if_icmp .gt 39, 3) := by decide +kernel
theorem dX11_bestOffer_84 : decode cX11_bestOffer 84 = .ok (.aload_n 0, 1) := by decide +kernel
theorem dX11_bestOffer_85 : decode cX11_bestOffer 85 = .ok (.getfield 29, 3) := by decide +kernel
theorem dX11_bestOffer_88 : decode cX11_bestOffer 88 = .ok (.iload 4, 2) := by decide +kernel
theorem dX11_bestOffer_90 : decode cX11_bestOffer 90 = .ok (.iload 8, 2) := by decide +kernel
theorem dX11_bestOffer_92 : decode cX11_bestOffer 92 = .ok (.iload 9, 2) := by decide +kernel
theorem dX11_bestOffer_94 : decode cX11_bestOffer 94 = .ok (.invokevirtual 297, 3) := by decide +kernel
theorem dX11_bestOffer_97 : decode cX11_bestOffer 97 = .ok (.istore 10, 2) := by decide +kernel
theorem dX11_bestOffer_99 : decode cX11_bestOffer 99 = .ok (.iload 5, 2) := by decide +kernel
theorem dX11_bestOffer_101 : decode cX11_bestOffer 101 = .ok (.iconst (-1), 1) := by decide +kernel
theorem dX11_bestOffer_102 : decode cX11_bestOffer 102 = .ok (.if_icmp .eq 10, 3) := by decide +kernel
theorem dX11_bestOffer_105 : decode cX11_bestOffer 105 = .ok (.iload 10, 2) := by decide +kernel
theorem dX11_bestOffer_107 : decode cX11_bestOffer 107 = .ok (.iload 6, 2) := by decide +kernel
theorem dX11_bestOffer_109 : decode cX11_bestOffer 109 = .ok (.if_icmp .ge 11, 3) := by decide +kernel
theorem dX11_bestOffer_112 : decode cX11_bestOffer 112 = .ok (.iload 7, 2) := by decide +kernel
theorem dX11_bestOffer_114 : decode cX11_bestOffer 114 = .ok (.istore 5, 2) := by decide +kernel
theorem dX11_bestOffer_116 : decode cX11_bestOffer 116 = .ok (.iload 10, 2) := by decide +kernel
theorem dX11_bestOffer_118 : decode cX11_bestOffer 118 = .ok (.istore 6, 2) := by decide +kernel
theorem dX11_bestOffer_120 : decode cX11_bestOffer 120 = .ok (.iinc 7 1, 3) := by decide +kernel
theorem dX11_bestOffer_123 : decode cX11_bestOffer 123 = .ok (.goto (-109), 3) := by decide +kernel
theorem dX11_bestOffer_126 : decode cX11_bestOffer 126 = .ok (.iload 5, 2) := by decide +kernel
theorem dX11_bestOffer_128 : decode cX11_bestOffer 128 = .ok (.ireturn, 1) := by decide +kernel
def fX11_bestOffer_b120 (N : Nat) (c14 : Int32 → Int32 → Int32 → Int32 → Int32 → Int32 → Int32 → qMem → Option (Int32 × qMem)) (v1 : Int32) (v2 : Int32) (v3 : Int32) (v4 : Int32) (v5 : Int32) (v6 : Int32) (v7 : Int32) (σ : qMem) : Option (Int32 × qMem) :=
  (c14 v1 v2 v3 v4 v5 v6 (v7 + 1) σ)
set_option maxRecDepth 20000 in
set_option maxHeartbeats 4000000 in
theorem aX11_bestOffer_b120 (N : Nat) (c14 : Int32 → Int32 → Int32 → Int32 → Int32 → Int32 → Int32 → qMem → Option (Int32 × qMem)) (hc14 : ∀ (v1 : Int32) (v2 : Int32) (v3 : Int32) (v4 : Int32) (v5 : Int32) (v6 : Int32) (v7 : Int32) (σ : qMem), qAt wC mX11_bestOffer (ρi) 14 [(0, .ref 0), (1, .int v1), (2, .int v2), (3, .int v3), (4, .int v4), (5, .int v5), (6, .int v6), (7, .int v7)] [] σ (c14 v1 v2 v3 v4 v5 v6 v7 σ)) (v1 : Int32) (v2 : Int32) (v3 : Int32) (v4 : Int32) (v5 : Int32) (v6 : Int32) (v7 : Int32) (σ : qMem) : qAt wC mX11_bestOffer (ρi) 120 [(0, .ref 0), (1, .int v1), (2, .int v2), (3, .int v3), (4, .int v4), (5, .int v5), (6, .int v6), (7, .int v7)] [] σ (fX11_bestOffer_b120 N c14 v1 v2 v3 v4 v5 v6 v7 σ) := by
  unfold fX11_bestOffer_b120
  refine q_iinc (i := 7) (x := v7) (v := (v7 + 1)) (L' := [(7, .int (v7 + 1)), (0, .ref 0), (1, .int v1), (2, .int v2), (3, .int v3), (4, .int v4), (5, .int v5), (6, .int v6)]) dX11_bestOffer_120 7 rfl (q_cst v7 (by decide)) (Nat.le_of_ble_eq_true rfl) rfl ?_
  refine q_goto (tgt := 14) dX11_bestOffer_123 (by decide) ?_
  exact q_sub [1, 2, 3, 4, 5, 6, 7, 0] rfl (hc14 v1 v2 v3 v4 v5 v6 (v7 + 1) σ)

def fX11_bestOffer_b112 (N : Nat) (c14 : Int32 → Int32 → Int32 → Int32 → Int32 → Int32 → Int32 → qMem → Option (Int32 × qMem)) (v1 : Int32) (v2 : Int32) (v3 : Int32) (v4 : Int32) (v7 : Int32) (v10 : Int32) (σ : qMem) : Option (Int32 × qMem) :=
  (fX11_bestOffer_b120 N c14 v1 v2 v3 v4 v7 v10 v7 σ)
set_option maxRecDepth 20000 in
set_option maxHeartbeats 4000000 in
theorem aX11_bestOffer_b112 (N : Nat) (c14 : Int32 → Int32 → Int32 → Int32 → Int32 → Int32 → Int32 → qMem → Option (Int32 × qMem)) (hc14 : ∀ (v1 : Int32) (v2 : Int32) (v3 : Int32) (v4 : Int32) (v5 : Int32) (v6 : Int32) (v7 : Int32) (σ : qMem), qAt wC mX11_bestOffer (ρi) 14 [(0, .ref 0), (1, .int v1), (2, .int v2), (3, .int v3), (4, .int v4), (5, .int v5), (6, .int v6), (7, .int v7)] [] σ (c14 v1 v2 v3 v4 v5 v6 v7 σ)) (v1 : Int32) (v2 : Int32) (v3 : Int32) (v4 : Int32) (v7 : Int32) (v10 : Int32) (σ : qMem) : qAt wC mX11_bestOffer (ρi) 112 [(0, .ref 0), (1, .int v1), (2, .int v2), (3, .int v3), (4, .int v4), (7, .int v7), (10, .int v10)] [] σ (fX11_bestOffer_b112 N c14 v1 v2 v3 v4 v7 v10 σ) := by
  unfold fX11_bestOffer_b112
  refine q_iload (i := 7) (x := v7) dX11_bestOffer_112 5 rfl ?_
  refine q_istore (i := 5) (L' := [(5, .int v7), (0, .ref 0), (1, .int v1), (2, .int v2), (3, .int v3), (4, .int v4), (7, .int v7), (10, .int v10)]) dX11_bestOffer_114 (Nat.le_of_ble_eq_true rfl) rfl ?_
  refine q_iload (i := 10) (x := v10) dX11_bestOffer_116 7 rfl ?_
  refine q_istore (i := 6) (L' := [(6, .int v10), (5, .int v7), (0, .ref 0), (1, .int v1), (2, .int v2), (3, .int v3), (4, .int v4), (7, .int v7), (10, .int v10)]) dX11_bestOffer_118 (Nat.le_of_ble_eq_true rfl) rfl ?_
  exact q_sub [2, 3, 4, 5, 6, 1, 0, 7] rfl (aX11_bestOffer_b120 N c14 hc14 v1 v2 v3 v4 v7 v10 v7 σ)

def fX11_bestOffer_b84 (N : Nat) (c14 : Int32 → Int32 → Int32 → Int32 → Int32 → Int32 → Int32 → qMem → Option (Int32 × qMem)) (v1 : Int32) (v2 : Int32) (v3 : Int32) (v4 : Int32) (v5 : Int32) (v6 : Int32) (v7 : Int32) (v8 : Int32) (v9 : Int32) (σ : qMem) : Option (Int32 × qMem) :=
  ((fX3_largestGroup N v4 v8 v9 σ).bind fun y5 => (if v5 = (-1) then (fX11_bestOffer_b112 N c14 v1 v2 v3 v4 v7 y5.1 y5.2) else (if v6 ≤ y5.1 then (fX11_bestOffer_b120 N c14 v1 v2 v3 v4 v5 v6 v7 y5.2) else (fX11_bestOffer_b112 N c14 v1 v2 v3 v4 v7 y5.1 y5.2))))
set_option maxRecDepth 20000 in
set_option maxHeartbeats 4000000 in
theorem aX11_bestOffer_b84 (N : Nat) (c14 : Int32 → Int32 → Int32 → Int32 → Int32 → Int32 → Int32 → qMem → Option (Int32 × qMem)) (hc14 : ∀ (v1 : Int32) (v2 : Int32) (v3 : Int32) (v4 : Int32) (v5 : Int32) (v6 : Int32) (v7 : Int32) (σ : qMem), qAt wC mX11_bestOffer (ρi) 14 [(0, .ref 0), (1, .int v1), (2, .int v2), (3, .int v3), (4, .int v4), (5, .int v5), (6, .int v6), (7, .int v7)] [] σ (c14 v1 v2 v3 v4 v5 v6 v7 σ)) (v1 : Int32) (v2 : Int32) (v3 : Int32) (v4 : Int32) (v5 : Int32) (v6 : Int32) (v7 : Int32) (v8 : Int32) (v9 : Int32) (σ : qMem) : qAt wC mX11_bestOffer (ρi) 84 [(0, .ref 0), (1, .int v1), (2, .int v2), (3, .int v3), (4, .int v4), (5, .int v5), (6, .int v6), (7, .int v7), (8, .int v8), (9, .int v9)] [] σ (fX11_bestOffer_b84 N c14 v1 v2 v3 v4 v5 v6 v7 v8 v9 σ) := by
  unfold fX11_bestOffer_b84
  refine q_aload_n (i := 0) (x := 0) dX11_bestOffer_84 rfl 0 rfl ?_
  refine q_getr (t := 44) dX11_bestOffer_85 foX11_29 zC_0 rfl ?_
  refine q_iload (i := 4) (x := v4) dX11_bestOffer_88 4 rfl ?_
  refine q_iload (i := 8) (x := v8) dX11_bestOffer_90 8 rfl ?_
  refine q_iload (i := 9) (x := v9) dX11_bestOffer_92 9 rfl ?_
  refine q_cVi mX3_largestGroup [.int v4, .int v8, .int v9] (st := []) dX11_bestOffer_94 (svX11_297) ⟨Nat.le_of_ble_eq_true rfl, Nat.le_of_ble_eq_true rfl⟩ zC_44 rfl rfl rfl (Nat.le_of_ble_eq_true rfl) (kX3_largestGroup N v4 v8 v9 σ) (fun y5 => ?_)
  refine q_istore (i := 10) (L' := [(10, .int y5.1), (0, .ref 0), (1, .int v1), (2, .int v2), (3, .int v3), (4, .int v4), (5, .int v5), (6, .int v6), (7, .int v7), (8, .int v8), (9, .int v9)]) dX11_bestOffer_97 (Nat.le_of_ble_eq_true rfl) rfl ?_
  refine q_iload (i := 5) (x := v5) dX11_bestOffer_99 6 rfl ?_
  refine q_iconst (v := (-1)) dX11_bestOffer_101 (by decide) ?_
  refine q_icmp_eq (tgt := 112) dX11_bestOffer_102 (by decide) ?_ ?_
  · exact q_sub [1, 2, 3, 4, 5, 8, 0] rfl (aX11_bestOffer_b112 N c14 hc14 v1 v2 v3 v4 v7 y5.1 y5.2)
  refine q_iload (i := 10) (x := y5.1) dX11_bestOffer_105 0 rfl ?_
  refine q_iload (i := 6) (x := v6) dX11_bestOffer_107 7 rfl ?_
  refine q_icmp_ge (tgt := 120) dX11_bestOffer_109 (by decide) ?_ ?_
  · exact q_sub [1, 2, 3, 4, 5, 6, 7, 8] rfl (aX11_bestOffer_b120 N c14 hc14 v1 v2 v3 v4 v5 v6 v7 y5.2)
  exact q_sub [1, 2, 3, 4, 5, 8, 0] rfl (aX11_bestOffer_b112 N c14 hc14 v1 v2 v3 v4 v7 y5.1 y5.2)

def fX11_bestOffer_s14 (N : Nat) (c14 : Int32 → Int32 → Int32 → Int32 → Int32 → Int32 → Int32 → qMem → Option (Int32 × qMem)) (v1 : Int32) (v2 : Int32) (v3 : Int32) (v4 : Int32) (v5 : Int32) (v6 : Int32) (v7 : Int32) (σ : qMem) : Option (Int32 × qMem) :=
  (if (gi σ 29 3) ≤ v7 then (some (v5, σ)) else ((fX11_offerEast v1 v2 v7 σ).bind fun y1 => ((fX11_offerNorth v1 v2 v7 σ).bind fun y2 => (if (gi σ 44 14) ≤ v3 then (fX11_bestOffer_b84 N c14 v1 v2 v3 v4 v5 v6 v7 y1 y2 σ) else ((fX11_offerSpeed v7 σ).bind fun y3 => ((fX3_hearers N 0 v4 y3 y1 y2 σ).bind fun y4 => (if v3 < y4.1 then (fX11_bestOffer_b120 N c14 v1 v2 v3 v4 v5 v6 v7 y4.2) else (fX11_bestOffer_b84 N c14 v1 v2 v3 v4 v5 v6 v7 y1 y2 y4.2))))))))
set_option maxRecDepth 20000 in
set_option maxHeartbeats 4000000 in
theorem aX11_bestOffer_s14 (N : Nat) (c14 : Int32 → Int32 → Int32 → Int32 → Int32 → Int32 → Int32 → qMem → Option (Int32 × qMem)) (hc14 : ∀ (v1 : Int32) (v2 : Int32) (v3 : Int32) (v4 : Int32) (v5 : Int32) (v6 : Int32) (v7 : Int32) (σ : qMem), qAt wC mX11_bestOffer (ρi) 14 [(0, .ref 0), (1, .int v1), (2, .int v2), (3, .int v3), (4, .int v4), (5, .int v5), (6, .int v6), (7, .int v7)] [] σ (c14 v1 v2 v3 v4 v5 v6 v7 σ)) (v1 : Int32) (v2 : Int32) (v3 : Int32) (v4 : Int32) (v5 : Int32) (v6 : Int32) (v7 : Int32) (σ : qMem) : qAt wC mX11_bestOffer (ρi) 14 [(0, .ref 0), (1, .int v1), (2, .int v2), (3, .int v3), (4, .int v4), (5, .int v5), (6, .int v6), (7, .int v7)] [] σ (fX11_bestOffer_s14 N c14 v1 v2 v3 v4 v5 v6 v7 σ) := by
  unfold fX11_bestOffer_s14
  refine q_iload (i := 7) (x := v7) dX11_bestOffer_14 7 rfl ?_
  refine q_aload_n (i := 0) (x := 0) dX11_bestOffer_16 rfl 0 rfl ?_
  refine q_getr (t := 1) dX11_bestOffer_17 foX11_12 zC_0 rfl ?_
  refine q_getr (t := 29) dX11_bestOffer_20 foX11_284 zC_1 rfl ?_
  refine q_geti dX11_bestOffer_23 foX11_105 zC_29 rfl ?_
  refine q_icmp_ge (tgt := 126) dX11_bestOffer_26 (by decide) ?_ ?_
  · refine q_iload (i := 5) (x := v5) dX11_bestOffer_126 5 rfl ?_
    exact q_ireti (y := (v5, σ)) dX11_bestOffer_128 rfl rfl
  refine q_aload_n (i := 0) (x := 0) dX11_bestOffer_29 rfl 0 rfl ?_
  refine q_iload_n (i := 1) (x := v1) dX11_bestOffer_30 rfl 1 rfl ?_
  refine q_iload_n (i := 2) (x := v2) dX11_bestOffer_31 rfl 2 rfl ?_
  refine q_iload (i := 7) (x := v7) dX11_bestOffer_32 7 rfl ?_
  refine q_cVp mX11_offerEast [.int v1, .int v2, .int v7] (st := []) dX11_bestOffer_34 (svX11_290) ⟨Nat.le_of_ble_eq_true rfl, Nat.le_of_ble_eq_true rfl⟩ zC_0 rfl rfl rfl (Nat.le_of_ble_eq_true rfl) (kX11_offerEast v1 v2 v7 σ) (fun y1 => ?_)
  refine q_istore (i := 8) (L' := [(8, .int y1), (0, .ref 0), (1, .int v1), (2, .int v2), (3, .int v3), (4, .int v4), (5, .int v5), (6, .int v6), (7, .int v7)]) dX11_bestOffer_37 (Nat.le_of_ble_eq_true rfl) rfl ?_
  refine q_aload_n (i := 0) (x := 0) dX11_bestOffer_39 rfl 1 rfl ?_
  refine q_iload_n (i := 1) (x := v1) dX11_bestOffer_40 rfl 2 rfl ?_
  refine q_iload_n (i := 2) (x := v2) dX11_bestOffer_41 rfl 3 rfl ?_
  refine q_iload (i := 7) (x := v7) dX11_bestOffer_42 8 rfl ?_
  refine q_cVp mX11_offerNorth [.int v1, .int v2, .int v7] (st := []) dX11_bestOffer_44 (svX11_294) ⟨Nat.le_of_ble_eq_true rfl, Nat.le_of_ble_eq_true rfl⟩ zC_0 rfl rfl rfl (Nat.le_of_ble_eq_true rfl) (kX11_offerNorth v1 v2 v7 σ) (fun y2 => ?_)
  refine q_istore (i := 9) (L' := [(9, .int y2), (8, .int y1), (0, .ref 0), (1, .int v1), (2, .int v2), (3, .int v3), (4, .int v4), (5, .int v5), (6, .int v6), (7, .int v7)]) dX11_bestOffer_47 (Nat.le_of_ble_eq_true rfl) rfl ?_
  refine q_iload_n (i := 3) (x := v3) dX11_bestOffer_49 rfl 5 rfl ?_
  refine q_aload_n (i := 0) (x := 0) dX11_bestOffer_50 rfl 2 rfl ?_
  refine q_getr (t := 44) dX11_bestOffer_51 foX11_29 zC_0 rfl ?_
  refine q_geti dX11_bestOffer_54 foX11_246 zC_44 rfl ?_
  refine q_icmp_ge (tgt := 84) dX11_bestOffer_57 (by decide) ?_ ?_
  · exact q_sub [2, 3, 4, 5, 6, 7, 8, 9, 1, 0] rfl (aX11_bestOffer_b84 N c14 hc14 v1 v2 v3 v4 v5 v6 v7 y1 y2 σ)
  refine q_aload_n (i := 0) (x := 0) dX11_bestOffer_60 rfl 2 rfl ?_
  refine q_getr (t := 44) dX11_bestOffer_61 foX11_29 zC_0 rfl ?_
  refine q_iconst (v := 0) dX11_bestOffer_64 (by decide) ?_
  refine q_iload (i := 4) (x := v4) dX11_bestOffer_65 6 rfl ?_
  refine q_aload_n (i := 0) (x := 0) dX11_bestOffer_67 rfl 2 rfl ?_
  refine q_iload (i := 7) (x := v7) dX11_bestOffer_68 9 rfl ?_
  refine q_cVp mX11_offerSpeed [.int v7] (st := [.int v4, .int 0, .ref 44]) dX11_bestOffer_70 (svX11_303) ⟨Nat.le_of_ble_eq_true rfl, Nat.le_of_ble_eq_true rfl⟩ zC_0 rfl rfl rfl (Nat.le_of_ble_eq_true rfl) (kX11_offerSpeed v7 σ) (fun y3 => ?_)
  refine q_iload (i := 8) (x := y1) dX11_bestOffer_73 1 rfl ?_
  refine q_iload (i := 9) (x := y2) dX11_bestOffer_75 0 rfl ?_
  refine q_cVi mX3_hearers [.int 0, .int v4, .int y3, .int y1, .int y2] (st := []) dX11_bestOffer_77 (svX11_306) ⟨Nat.le_of_ble_eq_true rfl, Nat.le_of_ble_eq_true rfl⟩ zC_44 rfl rfl rfl (Nat.le_of_ble_eq_true rfl) (kX3_hearers N 0 v4 y3 y1 y2 σ) (fun y4 => ?_)
  refine q_iload_n (i := 3) (x := v3) dX11_bestOffer_80 rfl 5 rfl ?_
  refine q_icmp_gt (tgt := 120) dX11_bestOffer_81 (by decide) ?_ ?_
  · exact q_sub [2, 3, 4, 5, 6, 7, 8, 9] rfl (aX11_bestOffer_b120 N c14 hc14 v1 v2 v3 v4 v5 v6 v7 y4.2)
  exact q_sub [2, 3, 4, 5, 6, 7, 8, 9, 1, 0] rfl (aX11_bestOffer_b84 N c14 hc14 v1 v2 v3 v4 v5 v6 v7 y1 y2 y4.2)
def fX11_bestOffer_l14 (N : Nat) : Nat → Int32 → Int32 → Int32 → Int32 → Int32 → Int32 → Int32 → qMem → Option (Int32 × qMem)
  | 0 => fun _ _ _ _ _ _ _ _ => none
  | n + 1 => fun v1 v2 v3 v4 v5 v6 v7 σ => fX11_bestOffer_s14 N (fX11_bestOffer_l14 N n) v1 v2 v3 v4 v5 v6 v7 σ
theorem aX11_bestOffer_l14 (N : Nat) : ∀ (n : Nat) (v1 : Int32) (v2 : Int32) (v3 : Int32) (v4 : Int32) (v5 : Int32) (v6 : Int32) (v7 : Int32) (σ : qMem), qAt wC mX11_bestOffer (ρi) 14 [(0, .ref 0), (1, .int v1), (2, .int v2), (3, .int v3), (4, .int v4), (5, .int v5), (6, .int v6), (7, .int v7)] [] σ (fX11_bestOffer_l14 N n v1 v2 v3 v4 v5 v6 v7 σ) := by
  intro n
  induction n with
  | zero => intro v1 v2 v3 v4 v5 v6 v7 σ; exact q_none
  | succ n ih => intro v1 v2 v3 v4 v5 v6 v7 σ; exact aX11_bestOffer_s14 N (fX11_bestOffer_l14 N n) ih v1 v2 v3 v4 v5 v6 v7 σ

def fX11_bestOffer (N : Nat) (p1 : Int32) (p2 : Int32) (p3 : Int32) (σ : qMem) : Option (Int32 × qMem) :=
  (fX11_bestOffer_l14 N N p1 p2 p3 (p1 + p2) (-1) 0 0 σ)
set_option maxRecDepth 20000 in
set_option maxHeartbeats 4000000 in
theorem aX11_bestOffer  (N : Nat) (p1 : Int32) (p2 : Int32) (p3 : Int32)  (σ : qMem) : qAt wC mX11_bestOffer (ρi) 0 [(0, .ref 0), (1, .int p1), (2, .int p2), (3, .int p3)] [] σ (fX11_bestOffer N p1 p2 p3 σ) := by
  unfold fX11_bestOffer
  refine q_iload_n (i := 1) (x := p1) dX11_bestOffer_0 rfl 1 rfl ?_
  refine q_iload_n (i := 2) (x := p2) dX11_bestOffer_1 rfl 2 rfl ?_
  refine q_iadd dX11_bestOffer_2 ?_
  refine q_istore (i := 4) (L' := [(4, .int (p1 + p2)), (0, .ref 0), (1, .int p1), (2, .int p2), (3, .int p3)]) dX11_bestOffer_3 (Nat.le_of_ble_eq_true rfl) rfl ?_
  refine q_iconst (v := (-1)) dX11_bestOffer_5 (by decide) ?_
  refine q_istore (i := 5) (L' := [(5, .int (-1)), (4, .int (p1 + p2)), (0, .ref 0), (1, .int p1), (2, .int p2), (3, .int p3)]) dX11_bestOffer_6 (Nat.le_of_ble_eq_true rfl) rfl ?_
  refine q_iconst (v := 0) dX11_bestOffer_8 (by decide) ?_
  refine q_istore (i := 6) (L' := [(6, .int 0), (5, .int (-1)), (4, .int (p1 + p2)), (0, .ref 0), (1, .int p1), (2, .int p2), (3, .int p3)]) dX11_bestOffer_9 (Nat.le_of_ble_eq_true rfl) rfl ?_
  refine q_iconst (v := 0) dX11_bestOffer_11 (by decide) ?_
  refine q_istore (i := 7) (L' := [(7, .int 0), (6, .int 0), (5, .int (-1)), (4, .int (p1 + p2)), (0, .ref 0), (1, .int p1), (2, .int p2), (3, .int p3)]) dX11_bestOffer_12 (Nat.le_of_ble_eq_true rfl) rfl ?_
  exact q_sub [4, 5, 6, 7, 3, 2, 1, 0] rfl (aX11_bestOffer_l14 N N p1 p2 p3 (p1 + p2) (-1) 0 0 σ)
theorem kX11_bestOffer  (N : Nat) (p1 : Int32) (p2 : Int32) (p3 : Int32)  (σ : qMem) : qMc wC mX11_bestOffer (ρi) [.ref 0, .int p1, .int p2, .int p3] σ (fX11_bestOffer N p1 p2 p3 σ) := qMc_of (moX11_bestOffer) (Nat.le_of_ble_eq_true rfl) (aX11_bestOffer N p1 p2 p3  σ)

theorem dX11_turn_0 : decode cX11_turn 0 = .ok (.iload_n 1, 1) := by decide +kernel
theorem dX11_turn_1 : decode cX11_turn 1 = .ok (.iload_n 2, 1) := by decide +kernel
theorem dX11_turn_2 : decode cX11_turn 2 = .ok (.invokestatic 287, 3) := by decide +kernel
theorem dX11_turn_5 : decode cX11_turn 5 = .ok (.ifCond .ne 5, 3) := by decide +kernel
theorem dX11_turn_8 : decode cX11_turn 8 = .ok (.iconst (-1), 1) := by decide +kernel
theorem dX11_turn_9 : decode cX11_turn 9 = .ok (.ireturn, 1) := by decide +kernel
theorem dX11_turn_10 : decode cX11_turn 10 = .ok (.aload_n 0, 1) := by decide +kernel
theorem dX11_turn_11 : decode cX11_turn 11 = .ok (.getfield 29, 3) := by decide +kernel
theorem dX11_turn_14 : decode cX11_turn 14 = .ok (.invokevirtual 243, 3) := by decide +kernel
theorem dX11_turn_17 : decode cX11_turn 17 = .ok (.aload_n 0, 1) := by decide +kernel
theorem dX11_turn_18 : decode cX11_turn 18 = .ok (.iload_n 1, 1) := by decide +kernel
theorem dX11_turn_19 : decode cX11_turn 19 = .ok (.iload_n 2, 1) := by decide +kernel
theorem dX11_turn_20 : decode cX11_turn 20 = .ok (.aload_n 0, 1) := by decide +kernel
theorem dX11_turn_21 : decode cX11_turn 21 = .ok (.getfield 29, 3) := by decide +kernel
theorem dX11_turn_24 : decode cX11_turn 24 = .ok (.getfield 246, 3) := by decide +kernel
theorem dX11_turn_27 : decode cX11_turn 27 = .ok (.invokevirtual 300, 3) := by decide +kernel
theorem dX11_turn_30 : decode cX11_turn 30 = .ok (.ireturn, 1) := by decide +kernel

def fX11_turn (N : Nat) (p1 : Int32) (p2 : Int32) (σ : qMem) : Option (Int32 × qMem) :=
  ((fX11_isAhead p1 p2).bind fun y1 => (if y1 = 0 then (some ((-1), σ)) else ((fX3_plot N σ).bind fun y2 => ((fX11_bestOffer N p1 p2 (gi y2 44 14) y2).bind fun y3 => (some (y3.1, y3.2))))))
set_option maxRecDepth 20000 in
set_option maxHeartbeats 4000000 in
theorem aX11_turn  (N : Nat) (p1 : Int32) (p2 : Int32)  (σ : qMem) : qAt wC mX11_turn (ρi) 0 [(0, .ref 0), (1, .int p1), (2, .int p2)] [] σ (fX11_turn N p1 p2 σ) := by
  unfold fX11_turn
  refine q_iload_n (i := 1) (x := p1) dX11_turn_0 rfl 1 rfl ?_
  refine q_iload_n (i := 2) (x := p2) dX11_turn_1 rfl 2 rfl ?_
  refine q_cSp mX11_isAhead [.int p1, .int p2] (st := []) dX11_turn_2 (ssX11_287) ⟨Nat.le_of_ble_eq_true rfl, Nat.le_of_ble_eq_true rfl⟩ rfl rfl (Nat.le_of_ble_eq_true rfl) (kX11_isAhead p1 p2 σ) (fun y1 => ?_)
  refine q_if_ne (tgt := 10) dX11_turn_5 (by decide) ?_ ?_
  · refine q_aload_n (i := 0) (x := 0) dX11_turn_10 rfl 0 rfl ?_
    refine q_getr (t := 44) dX11_turn_11 foX11_29 zC_0 rfl ?_
    refine q_cVv mX3_plot [] (st := []) dX11_turn_14 (svX11_243) ⟨Nat.le_of_ble_eq_true rfl, Nat.le_of_ble_eq_true rfl⟩ zC_44 rfl rfl rfl (Nat.le_of_ble_eq_true rfl) (kX3_plot N σ) (fun y2 => ?_)
    refine q_aload_n (i := 0) (x := 0) dX11_turn_17 rfl 0 rfl ?_
    refine q_iload_n (i := 1) (x := p1) dX11_turn_18 rfl 1 rfl ?_
    refine q_iload_n (i := 2) (x := p2) dX11_turn_19 rfl 2 rfl ?_
    refine q_aload_n (i := 0) (x := 0) dX11_turn_20 rfl 0 rfl ?_
    refine q_getr (t := 44) dX11_turn_21 foX11_29 zC_0 rfl ?_
    refine q_geti dX11_turn_24 foX11_246 zC_44 rfl ?_
    refine q_cVi mX11_bestOffer [.int p1, .int p2, .int (gi y2 44 14)] (st := []) dX11_turn_27 (svX11_300) ⟨Nat.le_of_ble_eq_true rfl, Nat.le_of_ble_eq_true rfl⟩ zC_0 rfl rfl rfl (Nat.le_of_ble_eq_true rfl) (kX11_bestOffer N p1 p2 (gi y2 44 14) y2) (fun y3 => ?_)
    exact q_ireti (y := (y3.1, y3.2)) dX11_turn_30 rfl rfl
  refine q_iconst (v := (-1)) dX11_turn_8 (by decide) ?_
  exact q_ireti (y := ((-1), σ)) dX11_turn_9 rfl rfl
theorem kX11_turn  (N : Nat) (p1 : Int32) (p2 : Int32)  (σ : qMem) : qMc wC mX11_turn (ρi) [.ref 0, .int p1, .int p2] σ (fX11_turn N p1 p2 σ) := qMc_of (moX11_turn) (Nat.le_of_ble_eq_true rfl) (aX11_turn N p1 p2  σ)

theorem dX11_heardBy_0 : decode cX11_heardBy 0 = .ok (.iload_n 1, 1) := by decide +kernel
theorem dX11_heardBy_1 : decode cX11_heardBy 1 = .ok (.iload_n 2, 1) := by decide +kernel
theorem dX11_heardBy_2 : decode cX11_heardBy 2 = .ok (.invokestatic 287, 3) := by decide +kernel
theorem dX11_heardBy_5 : decode cX11_heardBy 5 = .ok (.ifCond .eq 23, 3) := by decide +kernel
theorem dX11_heardBy_8 : decode cX11_heardBy 8 = .ok (.iload_n 3, 1) := by decide +kernel
theorem dX11_heardBy_9 : decode cX11_heardBy 9 = .ok (.iconst 0, 1) := by decide +kernel
theorem dX11_heardBy_10 : decode cX11_heardBy 10 = .ok (.aload_n 0, 1) := by decide +kernel
theorem dX11_heardBy_11 : decode cX11_heardBy 11 = .ok (.getfield 12, 3) := by decide +kernel
theorem dX11_heardBy_14 : decode cX11_heardBy 14 = .ok (.getfield 284, 3) := by decide +kernel
theorem dX11_heardBy_17 : decode cX11_heardBy 17 = .ok (.getfield 105, 3) := by decide +kernel
theorem dX11_heardBy_20 : decode cX11_heardBy 20 = .ok (.iconst 1, 1) := by decide +kernel
theorem dX11_heardBy_21 : decode cX11_heardBy 21 = .ok (.isub, 1) := by decide +kernel
theorem dX11_heardBy_22 : decode cX11_heardBy 22 = .ok (.invokestatic 83, 3) := by decide +kernel
theorem dX11_heardBy_25 : decode cX11_heardBy 25 = .ok (.ifCond .ne 5, 3) := by decide +kernel
theorem dX11_heardBy_28 : decode cX11_heardBy 28 = .ok (.iconst (-1), 1) := by decide +kernel
theorem dX11_heardBy_29 : decode cX11_heardBy 29 = .ok (.ireturn, 1) := by decide +kernel
theorem dX11_heardBy_30 : decode cX11_heardBy 30 = .ok (.aload_n 0, 1) := by decide +kernel
theorem dX11_heardBy_31 : decode cX11_heardBy 31 = .ok (.getfield 29, 3) := by decide +kernel
theorem dX11_heardBy_34 : decode cX11_heardBy 34 = .ok (.invokevirtual 243, 3) := by decide +kernel
theorem dX11_heardBy_37 : decode cX11_heardBy 37 = .ok (.aload_n 0, 1) := by decide +kernel
theorem dX11_heardBy_38 : decode cX11_heardBy 38 = .ok (.iload_n 1, 1) := by decide +kernel
theorem dX11_heardBy_39 : decode cX11_heardBy 39 = .ok (.iload_n 2, 1) := by decide +kernel
theorem dX11_heardBy_40 : decode cX11_heardBy 40 = .ok (.iload_n 3, 1) := by decide +kernel
theorem dX11_heardBy_41 : decode cX11_heardBy 41 = .ok (.invokevirtual 290, 3) := by decide +kernel
theorem dX11_heardBy_44 : decode cX11_heardBy 44 = .ok (.istore 4, 2) := by decide +kernel
theorem dX11_heardBy_46 : decode cX11_heardBy 46 = .ok (.aload_n 0, 1) := by decide +kernel
theorem dX11_heardBy_47 : decode cX11_heardBy 47 = .ok (.iload_n 1, 1) := by decide +kernel
theorem dX11_heardBy_48 : decode cX11_heardBy 48 = .ok (.iload_n 2, 1) := by decide +kernel
theorem dX11_heardBy_49 : decode cX11_heardBy 49 = .ok (.iload_n 3, 1) := by decide +kernel
theorem dX11_heardBy_50 : decode cX11_heardBy 50 = .ok (.invokevirtual 294, 3) := by decide +kernel
theorem dX11_heardBy_53 : decode cX11_heardBy 53 = .ok (.istore 5, 2) := by decide +kernel
theorem dX11_heardBy_55 : decode cX11_heardBy 55 = .ok (.aload_n 0, 1) := by decide +kernel
theorem dX11_heardBy_56 : decode cX11_heardBy 56 = .ok (.getfield 29, 3) := by decide +kernel
theorem dX11_heardBy_59 : decode cX11_heardBy 59 = .ok (.iconst 0, 1) := by decide +kernel
theorem dX11_heardBy_60 : decode cX11_heardBy 60 = .ok (.iload_n 1, 1) := by decide +kernel
theorem dX11_heardBy_61 : decode cX11_heardBy 61 = .ok (.iload_n 2, 1) := by decide +kernel
theorem dX11_heardBy_62 : decode cX11_heardBy 62 = .ok (.iadd, 1) := by decide +kernel
theorem dX11_heardBy_63 : decode cX11_heardBy 63 = .ok (.aload_n 0, 1) := by decide +kernel
theorem dX11_heardBy_64 : decode cX11_heardBy 64 = .ok (.iload_n 3, 1) := by decide +kernel
theorem dX11_heardBy_65 : decode cX11_heardBy 65 = .ok (.invokevirtual 303, 3) := by decide +kernel
theorem dX11_heardBy_68 : decode cX11_heardBy 68 = .ok (.iload 4, 2) := by decide +kernel
theorem dX11_heardBy_70 : decode cX11_heardBy 70 = .ok (.iload 5, 2) := by decide +kernel
theorem dX11_heardBy_72 : decode cX11_heardBy 72 = .ok (.invokevirtual 306, 3) := by decide +kernel
theorem dX11_heardBy_75 : decode cX11_heardBy 75 = .ok (.ireturn, 1) := by decide +kernel

def fX11_heardBy (N : Nat) (p1 : Int32) (p2 : Int32) (p3 : Int32) (σ : qMem) : Option (Int32 × qMem) :=
  ((fX11_isAhead p1 p2).bind fun y1 => (if y1 = 0 then (some ((-1), σ)) else ((fX11_isIn p3 0 ((gi σ 29 3) - 1)).bind fun y2 => (if y2 = 0 then (some ((-1), σ)) else ((fX3_plot N σ).bind fun y3 => ((fX11_offerEast p1 p2 p3 y3).bind fun y4 => ((fX11_offerNorth p1 p2 p3 y3).bind fun y5 => ((fX11_offerSpeed p3 y3).bind fun y6 => ((fX3_hearers N 0 (p1 + p2) y6 y4 y5 y3).bind fun y7 => (some (y7.1, y7.2)))))))))))
set_option maxRecDepth 20000 in
set_option maxHeartbeats 4000000 in
theorem aX11_heardBy  (N : Nat) (p1 : Int32) (p2 : Int32) (p3 : Int32)  (σ : qMem) : qAt wC mX11_heardBy (ρi) 0 [(0, .ref 0), (1, .int p1), (2, .int p2), (3, .int p3)] [] σ (fX11_heardBy N p1 p2 p3 σ) := by
  unfold fX11_heardBy
  refine q_iload_n (i := 1) (x := p1) dX11_heardBy_0 rfl 1 rfl ?_
  refine q_iload_n (i := 2) (x := p2) dX11_heardBy_1 rfl 2 rfl ?_
  refine q_cSp mX11_isAhead [.int p1, .int p2] (st := []) dX11_heardBy_2 (ssX11_287) ⟨Nat.le_of_ble_eq_true rfl, Nat.le_of_ble_eq_true rfl⟩ rfl rfl (Nat.le_of_ble_eq_true rfl) (kX11_isAhead p1 p2 σ) (fun y1 => ?_)
  refine q_if_eq (tgt := 28) dX11_heardBy_5 (by decide) ?_ ?_
  · refine q_iconst (v := (-1)) dX11_heardBy_28 (by decide) ?_
    exact q_ireti (y := ((-1), σ)) dX11_heardBy_29 rfl rfl
  refine q_iload_n (i := 3) (x := p3) dX11_heardBy_8 rfl 3 rfl ?_
  refine q_iconst (v := 0) dX11_heardBy_9 (by decide) ?_
  refine q_aload_n (i := 0) (x := 0) dX11_heardBy_10 rfl 0 rfl ?_
  refine q_getr (t := 1) dX11_heardBy_11 foX11_12 zC_0 rfl ?_
  refine q_getr (t := 29) dX11_heardBy_14 foX11_284 zC_1 rfl ?_
  refine q_geti dX11_heardBy_17 foX11_105 zC_29 rfl ?_
  refine q_iconst (v := 1) dX11_heardBy_20 (by decide) ?_
  refine q_isub dX11_heardBy_21 ?_
  refine q_cSp mX11_isIn [.int p3, .int 0, .int ((gi σ 29 3) - 1)] (st := []) dX11_heardBy_22 (ssX11_83) ⟨Nat.le_of_ble_eq_true rfl, Nat.le_of_ble_eq_true rfl⟩ rfl rfl (Nat.le_of_ble_eq_true rfl) (kX11_isIn p3 0 ((gi σ 29 3) - 1) σ) (fun y2 => ?_)
  refine q_if_ne (tgt := 30) dX11_heardBy_25 (by decide) ?_ ?_
  · refine q_aload_n (i := 0) (x := 0) dX11_heardBy_30 rfl 0 rfl ?_
    refine q_getr (t := 44) dX11_heardBy_31 foX11_29 zC_0 rfl ?_
    refine q_cVv mX3_plot [] (st := []) dX11_heardBy_34 (svX11_243) ⟨Nat.le_of_ble_eq_true rfl, Nat.le_of_ble_eq_true rfl⟩ zC_44 rfl rfl rfl (Nat.le_of_ble_eq_true rfl) (kX3_plot N σ) (fun y3 => ?_)
    refine q_aload_n (i := 0) (x := 0) dX11_heardBy_37 rfl 0 rfl ?_
    refine q_iload_n (i := 1) (x := p1) dX11_heardBy_38 rfl 1 rfl ?_
    refine q_iload_n (i := 2) (x := p2) dX11_heardBy_39 rfl 2 rfl ?_
    refine q_iload_n (i := 3) (x := p3) dX11_heardBy_40 rfl 3 rfl ?_
    refine q_cVp mX11_offerEast [.int p1, .int p2, .int p3] (st := []) dX11_heardBy_41 (svX11_290) ⟨Nat.le_of_ble_eq_true rfl, Nat.le_of_ble_eq_true rfl⟩ zC_0 rfl rfl rfl (Nat.le_of_ble_eq_true rfl) (kX11_offerEast p1 p2 p3 y3) (fun y4 => ?_)
    refine q_istore (i := 4) (L' := [(4, .int y4), (0, .ref 0), (1, .int p1), (2, .int p2), (3, .int p3)]) dX11_heardBy_44 (Nat.le_of_ble_eq_true rfl) rfl ?_
    refine q_aload_n (i := 0) (x := 0) dX11_heardBy_46 rfl 1 rfl ?_
    refine q_iload_n (i := 1) (x := p1) dX11_heardBy_47 rfl 2 rfl ?_
    refine q_iload_n (i := 2) (x := p2) dX11_heardBy_48 rfl 3 rfl ?_
    refine q_iload_n (i := 3) (x := p3) dX11_heardBy_49 rfl 4 rfl ?_
    refine q_cVp mX11_offerNorth [.int p1, .int p2, .int p3] (st := []) dX11_heardBy_50 (svX11_294) ⟨Nat.le_of_ble_eq_true rfl, Nat.le_of_ble_eq_true rfl⟩ zC_0 rfl rfl rfl (Nat.le_of_ble_eq_true rfl) (kX11_offerNorth p1 p2 p3 y3) (fun y5 => ?_)
    refine q_istore (i := 5) (L' := [(5, .int y5), (4, .int y4), (0, .ref 0), (1, .int p1), (2, .int p2), (3, .int p3)]) dX11_heardBy_53 (Nat.le_of_ble_eq_true rfl) rfl ?_
    refine q_aload_n (i := 0) (x := 0) dX11_heardBy_55 rfl 2 rfl ?_
    refine q_getr (t := 44) dX11_heardBy_56 foX11_29 zC_0 rfl ?_
    refine q_iconst (v := 0) dX11_heardBy_59 (by decide) ?_
    refine q_iload_n (i := 1) (x := p1) dX11_heardBy_60 rfl 3 rfl ?_
    refine q_iload_n (i := 2) (x := p2) dX11_heardBy_61 rfl 4 rfl ?_
    refine q_iadd dX11_heardBy_62 ?_
    refine q_aload_n (i := 0) (x := 0) dX11_heardBy_63 rfl 2 rfl ?_
    refine q_iload_n (i := 3) (x := p3) dX11_heardBy_64 rfl 5 rfl ?_
    refine q_cVp mX11_offerSpeed [.int p3] (st := [.int (p1 + p2), .int 0, .ref 44]) dX11_heardBy_65 (svX11_303) ⟨Nat.le_of_ble_eq_true rfl, Nat.le_of_ble_eq_true rfl⟩ zC_0 rfl rfl rfl (Nat.le_of_ble_eq_true rfl) (kX11_offerSpeed p3 y3) (fun y6 => ?_)
    refine q_iload (i := 4) (x := y4) dX11_heardBy_68 1 rfl ?_
    refine q_iload (i := 5) (x := y5) dX11_heardBy_70 0 rfl ?_
    refine q_cVi mX3_hearers [.int 0, .int (p1 + p2), .int y6, .int y4, .int y5] (st := []) dX11_heardBy_72 (svX11_306) ⟨Nat.le_of_ble_eq_true rfl, Nat.le_of_ble_eq_true rfl⟩ zC_44 rfl rfl rfl (Nat.le_of_ble_eq_true rfl) (kX3_hearers N 0 (p1 + p2) y6 y4 y5 y3) (fun y7 => ?_)
    exact q_ireti (y := (y7.1, y7.2)) dX11_heardBy_75 rfl rfl
  refine q_iconst (v := (-1)) dX11_heardBy_28 (by decide) ?_
  exact q_ireti (y := ((-1), σ)) dX11_heardBy_29 rfl rfl
theorem kX11_heardBy  (N : Nat) (p1 : Int32) (p2 : Int32) (p3 : Int32)  (σ : qMem) : qMc wC mX11_heardBy (ρi) [.ref 0, .int p1, .int p2, .int p3] σ (fX11_heardBy N p1 p2 p3 σ) := qMc_of (moX11_heardBy) (Nat.le_of_ble_eq_true rfl) (aX11_heardBy N p1 p2 p3  σ)

theorem dX11_silent_0 : decode cX11_silent 0 = .ok (.iload_n 1, 1) := by decide +kernel
theorem dX11_silent_1 : decode cX11_silent 1 = .ok (.iload_n 2, 1) := by decide +kernel
theorem dX11_silent_2 : decode cX11_silent 2 = .ok (.invokestatic 287, 3) := by decide +kernel
theorem dX11_silent_5 : decode cX11_silent 5 = .ok (.ifCond .eq 14, 3) := by decide +kernel
theorem dX11_silent_8 : decode cX11_silent 8 = .ok (.iload_n 3, 1) := by decide +kernel
theorem dX11_silent_9 : decode cX11_silent 9 = .ok (.iconst 0, 1) := by decide +kernel
theorem dX11_silent_10 : decode cX11_silent 10 = .ok (.ldc_w 309, 3) := by decide +kernel
theorem dX11_silent_13 : decode cX11_silent 13 = .ok (.invokestatic 83, 3) := by decide +kernel
theorem dX11_silent_16 : decode cX11_silent 16 = .ok (.ifCond .ne 5, 3) := by decide +kernel
theorem dX11_silent_19 : decode cX11_silent 19 = .ok (.iconst (-1), 1) := by decide +kernel
theorem dX11_silent_20 : decode cX11_silent 20 = .ok (.ireturn, 1) := by decide +kernel
theorem dX11_silent_21 : decode cX11_silent 21 = .ok (.aload_n 0, 1) := by decide +kernel
theorem dX11_silent_22 : decode cX11_silent 22 = .ok (.getfield 29, 3) := by decide +kernel
theorem dX11_silent_25 : decode cX11_silent 25 = .ok (.invokevirtual 243, 3) := by decide +kernel
theorem dX11_silent_28 : decode cX11_silent 28 = .ok (.aload_n 0, 1) := by decide +kernel
theorem dX11_silent_29 : decode cX11_silent 29 = .ok (.iload_n 1, 1) := by decide +kernel
theorem dX11_silent_30 : decode cX11_silent 30 = .ok (.iload_n 2, 1) := by decide +kernel
theorem dX11_silent_31 : decode cX11_silent 31 = .ok (.iload_n 3, 1) := by decide +kernel
theorem dX11_silent_32 : decode cX11_silent 32 = .ok (.invokevirtual 300, 3) := by decide +kernel
theorem dX11_silent_35 : decode cX11_silent 35 = .ok (.ireturn, 1) := by decide +kernel

def fX11_silent (N : Nat) (p1 : Int32) (p2 : Int32) (p3 : Int32) (σ : qMem) : Option (Int32 × qMem) :=
  ((fX11_isAhead p1 p2).bind fun y1 => (if y1 = 0 then (some ((-1), σ)) else ((fX11_isIn p3 0 60000).bind fun y2 => (if y2 = 0 then (some ((-1), σ)) else ((fX3_plot N σ).bind fun y3 => ((fX11_bestOffer N p1 p2 p3 y3).bind fun y4 => (some (y4.1, y4.2))))))))
set_option maxRecDepth 20000 in
set_option maxHeartbeats 4000000 in
theorem aX11_silent  (N : Nat) (p1 : Int32) (p2 : Int32) (p3 : Int32)  (σ : qMem) : qAt wC mX11_silent (ρi) 0 [(0, .ref 0), (1, .int p1), (2, .int p2), (3, .int p3)] [] σ (fX11_silent N p1 p2 p3 σ) := by
  unfold fX11_silent
  refine q_iload_n (i := 1) (x := p1) dX11_silent_0 rfl 1 rfl ?_
  refine q_iload_n (i := 2) (x := p2) dX11_silent_1 rfl 2 rfl ?_
  refine q_cSp mX11_isAhead [.int p1, .int p2] (st := []) dX11_silent_2 (ssX11_287) ⟨Nat.le_of_ble_eq_true rfl, Nat.le_of_ble_eq_true rfl⟩ rfl rfl (Nat.le_of_ble_eq_true rfl) (kX11_isAhead p1 p2 σ) (fun y1 => ?_)
  refine q_if_eq (tgt := 19) dX11_silent_5 (by decide) ?_ ?_
  · refine q_iconst (v := (-1)) dX11_silent_19 (by decide) ?_
    exact q_ireti (y := ((-1), σ)) dX11_silent_20 rfl rfl
  refine q_iload_n (i := 3) (x := p3) dX11_silent_8 rfl 3 rfl ?_
  refine q_iconst (v := 0) dX11_silent_9 (by decide) ?_
  refine q_ldc_w (v := 60000) dX11_silent_10 (g_5 156 (by decide +kernel) rfl) ?_
  refine q_cSp mX11_isIn [.int p3, .int 0, .int 60000] (st := []) dX11_silent_13 (ssX11_83) ⟨Nat.le_of_ble_eq_true rfl, Nat.le_of_ble_eq_true rfl⟩ rfl rfl (Nat.le_of_ble_eq_true rfl) (kX11_isIn p3 0 60000 σ) (fun y2 => ?_)
  refine q_if_ne (tgt := 21) dX11_silent_16 (by decide) ?_ ?_
  · refine q_aload_n (i := 0) (x := 0) dX11_silent_21 rfl 0 rfl ?_
    refine q_getr (t := 44) dX11_silent_22 foX11_29 zC_0 rfl ?_
    refine q_cVv mX3_plot [] (st := []) dX11_silent_25 (svX11_243) ⟨Nat.le_of_ble_eq_true rfl, Nat.le_of_ble_eq_true rfl⟩ zC_44 rfl rfl rfl (Nat.le_of_ble_eq_true rfl) (kX3_plot N σ) (fun y3 => ?_)
    refine q_aload_n (i := 0) (x := 0) dX11_silent_28 rfl 0 rfl ?_
    refine q_iload_n (i := 1) (x := p1) dX11_silent_29 rfl 1 rfl ?_
    refine q_iload_n (i := 2) (x := p2) dX11_silent_30 rfl 2 rfl ?_
    refine q_iload_n (i := 3) (x := p3) dX11_silent_31 rfl 3 rfl ?_
    refine q_cVi mX11_bestOffer [.int p1, .int p2, .int p3] (st := []) dX11_silent_32 (svX11_300) ⟨Nat.le_of_ble_eq_true rfl, Nat.le_of_ble_eq_true rfl⟩ zC_0 rfl rfl rfl (Nat.le_of_ble_eq_true rfl) (kX11_bestOffer N p1 p2 p3 y3) (fun y4 => ?_)
    exact q_ireti (y := (y4.1, y4.2)) dX11_silent_35 rfl rfl
  refine q_iconst (v := (-1)) dX11_silent_19 (by decide) ?_
  exact q_ireti (y := ((-1), σ)) dX11_silent_20 rfl rfl
theorem kX11_silent  (N : Nat) (p1 : Int32) (p2 : Int32) (p3 : Int32)  (σ : qMem) : qMc wC mX11_silent (ρi) [.ref 0, .int p1, .int p2, .int p3] σ (fX11_silent N p1 p2 p3 σ) := qMc_of (moX11_silent) (Nat.le_of_ble_eq_true rfl) (aX11_silent N p1 p2 p3  σ)

theorem dX11_traces_0 : decode cX11_traces 0 = .ok (.iload_n 1, 1) := by decide +kernel
theorem dX11_traces_1 : decode cX11_traces 1 = .ok (.invokestatic 91, 3) := by decide +kernel
theorem dX11_traces_4 : decode cX11_traces 4 = .ok (.ifCond .ne 5, 3) := by decide +kernel
theorem dX11_traces_7 : decode cX11_traces 7 = .ok (.iconst (-1), 1) := by decide +kernel
theorem dX11_traces_8 : decode cX11_traces 8 = .ok (.ireturn, 1) := by decide +kernel
theorem dX11_traces_9 : decode cX11_traces 9 = .ok (.aload_n 0, 1) := by decide +kernel
theorem dX11_traces_10 : decode cX11_traces 10 = .ok (.getfield 45, 3) := by decide +kernel
theorem dX11_traces_13 : decode cX11_traces 13 = .ok (.iload_n 1, 1) := by decide +kernel
theorem dX11_traces_14 : decode cX11_traces 14 = .ok (.invokevirtual 310, 3) := by decide +kernel
theorem dX11_traces_17 : decode cX11_traces 17 = .ok (.aload_n 0, 1) := by decide +kernel
theorem dX11_traces_18 : decode cX11_traces 18 = .ok (.getfield 45, 3) := by decide +kernel
theorem dX11_traces_21 : decode cX11_traces 21 = .ok (.getfield 313, 3) := by decide +kernel
theorem dX11_traces_24 : decode cX11_traces 24 = .ok (.aload_n 0, 1) := by decide +kernel
theorem dX11_traces_25 : decode cX11_traces 25 = .ok (.getfield 45, 3) := by decide +kernel
theorem dX11_traces_28 : decode cX11_traces 28 = .ok (.getfield 316, 3) := by decide +kernel
theorem dX11_traces_31 : decode cX11_traces 31 = .ok (.isub, 1) := by decide +kernel
theorem dX11_traces_32 : decode cX11_traces 32 = .ok (.ireturn, 1) := by decide +kernel

def fX11_traces (N : Nat) (p1 : Int32) (σ : qMem) : Option (Int32 × qMem) :=
  ((fX11_isBoat p1).bind fun y1 => (if y1 = 0 then (some ((-1), σ)) else ((fX4_draw N p1 σ).bind fun y2 => (some (((gi y2 73 5) - (gi y2 73 6)), y2)))))
set_option maxRecDepth 20000 in
set_option maxHeartbeats 4000000 in
theorem aX11_traces  (N : Nat) (p1 : Int32)  (σ : qMem) : qAt wC mX11_traces (ρi) 0 [(0, .ref 0), (1, .int p1)] [] σ (fX11_traces N p1 σ) := by
  unfold fX11_traces
  refine q_iload_n (i := 1) (x := p1) dX11_traces_0 rfl 1 rfl ?_
  refine q_cSp mX11_isBoat [.int p1] (st := []) dX11_traces_1 (ssX11_91) ⟨Nat.le_of_ble_eq_true rfl, Nat.le_of_ble_eq_true rfl⟩ rfl rfl (Nat.le_of_ble_eq_true rfl) (kX11_isBoat p1 σ) (fun y1 => ?_)
  refine q_if_ne (tgt := 9) dX11_traces_4 (by decide) ?_ ?_
  · refine q_aload_n (i := 0) (x := 0) dX11_traces_9 rfl 0 rfl ?_
    refine q_getr (t := 73) dX11_traces_10 foX11_45 zC_0 rfl ?_
    refine q_iload_n (i := 1) (x := p1) dX11_traces_13 rfl 1 rfl ?_
    refine q_cVv mX4_draw [.int p1] (st := []) dX11_traces_14 (svX11_310) ⟨Nat.le_of_ble_eq_true rfl, Nat.le_of_ble_eq_true rfl⟩ zC_73 rfl rfl rfl (Nat.le_of_ble_eq_true rfl) (kX4_draw N p1 σ) (fun y2 => ?_)
    refine q_aload_n (i := 0) (x := 0) dX11_traces_17 rfl 0 rfl ?_
    refine q_getr (t := 73) dX11_traces_18 foX11_45 zC_0 rfl ?_
    refine q_geti dX11_traces_21 foX11_313 zC_73 rfl ?_
    refine q_aload_n (i := 0) (x := 0) dX11_traces_24 rfl 0 rfl ?_
    refine q_getr (t := 73) dX11_traces_25 foX11_45 zC_0 rfl ?_
    refine q_geti dX11_traces_28 foX11_316 zC_73 rfl ?_
    refine q_isub dX11_traces_31 ?_
    exact q_ireti (y := (((gi y2 73 5) - (gi y2 73 6)), y2)) dX11_traces_32 rfl rfl
  refine q_iconst (v := (-1)) dX11_traces_7 (by decide) ?_
  exact q_ireti (y := ((-1), σ)) dX11_traces_8 rfl rfl
theorem kX11_traces  (N : Nat) (p1 : Int32)  (σ : qMem) : qMc wC mX11_traces (ρi) [.ref 0, .int p1] σ (fX11_traces N p1 σ) := qMc_of (moX11_traces) (Nat.le_of_ble_eq_true rfl) (aX11_traces N p1  σ)

theorem dX11_next_0 : decode cX11_next 0 = .ok (.iload_n 1, 1) := by decide +kernel
theorem dX11_next_1 : decode cX11_next 1 = .ok (.iconst 0, 1) := by decide +kernel
theorem dX11_next_2 : decode cX11_next 2 = .ok (.aload_n 0, 1) := by decide +kernel
theorem dX11_next_3 : decode cX11_next 3 = .ok (.getfield 12, 3) := by decide +kernel
theorem dX11_next_6 : decode cX11_next 6 = .ok (.getfield 184, 3) := by decide +kernel
theorem dX11_next_9 : decode cX11_next 9 = .ok (.getfield 105, 3) := by decide +kernel
theorem dX11_next_12 : decode cX11_next 12 = .ok (.iconst 1, 1) := by decide +kernel
theorem dX11_next_13 : decode cX11_next 13 = .ok (.isub, 1) := by decide +kernel
theorem dX11_next_14 : decode cX11_next 14 = .ok (.invokestatic 83, 3) := by decide +kernel
theorem dX11_next_17 : decode cX11_next 17 = .ok (.ifCond .ne 5, 3) := by decide +kernel
theorem dX11_next_20 : decode cX11_next 20 = .ok (.iconst (-1), 1) := by decide +kernel
theorem dX11_next_21 : decode cX11_next 21 = .ok (.ireturn, 1) := by decide +kernel
theorem dX11_next_22 : decode cX11_next 22 = .ok (.aload_n 0, 1) := by decide +kernel
theorem dX11_next_23 : decode cX11_next 23 = .ok (.getfield 45, 3) := by decide +kernel
theorem dX11_next_26 : decode cX11_next 26 = .ok (.aload_n 0, 1) := by decide +kernel
theorem dX11_next_27 : decode cX11_next 27 = .ok (.getfield 12, 3) := by decide +kernel
theorem dX11_next_30 : decode cX11_next 30 = .ok (.getfield 184, 3) := by decide +kernel
theorem dX11_next_33 : decode cX11_next 33 = .ok (.iload_n 1, 1) := by decide +kernel
theorem dX11_next_34 : decode cX11_next 34 = .ok (.iconst 0, 1) := by decide +kernel
theorem dX11_next_35 : decode cX11_next 35 = .ok (.invokevirtual 123, 3) := by decide +kernel
theorem dX11_next_38 : decode cX11_next 38 = .ok (.invokevirtual 310, 3) := by decide +kernel
theorem dX11_next_41 : decode cX11_next 41 = .ok (.aload_n 0, 1) := by decide +kernel
theorem dX11_next_42 : decode cX11_next 42 = .ok (.getfield 45, 3) := by decide +kernel
theorem dX11_next_45 : decode cX11_next 45 = .ok (.iload_n 1, 1) := by decide +kernel
theorem dX11_next_46 : decode cX11_next 46 = .ok (.invokevirtual 319, 3) := by decide +kernel
theorem dX11_next_49 : decode cX11_next 49 = .ok (.ireturn, 1) := by decide +kernel

def fX11_next (N : Nat) (p1 : Int32) (σ : qMem) : Option (Int32 × qMem) :=
  ((fX11_isIn p1 0 ((gi σ 19 3) - 1)).bind fun y1 => (if y1 = 0 then (some ((-1), σ)) else ((fX8_at 19 72 p1 0 σ).bind fun y2 => ((fX4_draw N y2 σ).bind fun y3 => ((fX4_firstNext N p1 y3).bind fun y4 => (some (y4.1, y4.2)))))))
set_option maxRecDepth 20000 in
set_option maxHeartbeats 4000000 in
theorem aX11_next  (N : Nat) (p1 : Int32)  (σ : qMem) : qAt wC mX11_next (ρi) 0 [(0, .ref 0), (1, .int p1)] [] σ (fX11_next N p1 σ) := by
  unfold fX11_next
  refine q_iload_n (i := 1) (x := p1) dX11_next_0 rfl 1 rfl ?_
  refine q_iconst (v := 0) dX11_next_1 (by decide) ?_
  refine q_aload_n (i := 0) (x := 0) dX11_next_2 rfl 0 rfl ?_
  refine q_getr (t := 1) dX11_next_3 foX11_12 zC_0 rfl ?_
  refine q_getr (t := 19) dX11_next_6 foX11_184 zC_1 rfl ?_
  refine q_geti dX11_next_9 foX11_105 zC_19 rfl ?_
  refine q_iconst (v := 1) dX11_next_12 (by decide) ?_
  refine q_isub dX11_next_13 ?_
  refine q_cSp mX11_isIn [.int p1, .int 0, .int ((gi σ 19 3) - 1)] (st := []) dX11_next_14 (ssX11_83) ⟨Nat.le_of_ble_eq_true rfl, Nat.le_of_ble_eq_true rfl⟩ rfl rfl (Nat.le_of_ble_eq_true rfl) (kX11_isIn p1 0 ((gi σ 19 3) - 1) σ) (fun y1 => ?_)
  refine q_if_ne (tgt := 22) dX11_next_17 (by decide) ?_ ?_
  · refine q_aload_n (i := 0) (x := 0) dX11_next_22 rfl 0 rfl ?_
    refine q_getr (t := 73) dX11_next_23 foX11_45 zC_0 rfl ?_
    refine q_aload_n (i := 0) (x := 0) dX11_next_26 rfl 0 rfl ?_
    refine q_getr (t := 1) dX11_next_27 foX11_12 zC_0 rfl ?_
    refine q_getr (t := 19) dX11_next_30 foX11_184 zC_1 rfl ?_
    refine q_iload_n (i := 1) (x := p1) dX11_next_33 rfl 1 rfl ?_
    refine q_iconst (v := 0) dX11_next_34 (by decide) ?_
    refine q_cVp mX8_at [.int p1, .int 0] (st := [.ref 73]) dX11_next_35 (svX11_123) ⟨Nat.le_of_ble_eq_true rfl, Nat.le_of_ble_eq_true rfl⟩ zC_19 rfl rfl rfl (Nat.le_of_ble_eq_true rfl) (kX8_at 19 72 p1 0 pC_19 σ) (fun y2 => ?_)
    refine q_cVv mX4_draw [.int y2] (st := []) dX11_next_38 (svX11_310) ⟨Nat.le_of_ble_eq_true rfl, Nat.le_of_ble_eq_true rfl⟩ zC_73 rfl rfl rfl (Nat.le_of_ble_eq_true rfl) (kX4_draw N y2 σ) (fun y3 => ?_)
    refine q_aload_n (i := 0) (x := 0) dX11_next_41 rfl 0 rfl ?_
    refine q_getr (t := 73) dX11_next_42 foX11_45 zC_0 rfl ?_
    refine q_iload_n (i := 1) (x := p1) dX11_next_45 rfl 1 rfl ?_
    refine q_cVi mX4_firstNext [.int p1] (st := []) dX11_next_46 (svX11_319) ⟨Nat.le_of_ble_eq_true rfl, Nat.le_of_ble_eq_true rfl⟩ zC_73 rfl rfl rfl (Nat.le_of_ble_eq_true rfl) (kX4_firstNext N p1 y3) (fun y4 => ?_)
    exact q_ireti (y := (y4.1, y4.2)) dX11_next_49 rfl rfl
  refine q_iconst (v := (-1)) dX11_next_20 (by decide) ?_
  exact q_ireti (y := ((-1), σ)) dX11_next_21 rfl rfl
theorem kX11_next  (N : Nat) (p1 : Int32)  (σ : qMem) : qMc wC mX11_next (ρi) [.ref 0, .int p1] σ (fX11_next N p1 σ) := qMc_of (moX11_next) (Nat.le_of_ble_eq_true rfl) (aX11_next N p1  σ)

theorem dX11_sure_0 : decode cX11_sure 0 = .ok (.aload_n 0, 1) := by decide +kernel
theorem dX11_sure_1 : decode cX11_sure 1 = .ok (.getfield 12, 3) := by decide +kernel
theorem dX11_sure_4 : decode cX11_sure 4 = .ok (.getfield 184, 3) := by decide +kernel
theorem dX11_sure_7 : decode cX11_sure 7 = .ok (.getfield 105, 3) := by decide +kernel
theorem dX11_sure_10 : decode cX11_sure 10 = .ok (.iconst 1, 1) := by decide +kernel
theorem dX11_sure_11 : decode cX11_sure 11 = .ok (.isub, 1) := by decide +kernel
theorem dX11_sure_12 : decode cX11_sure 12 = .ok (.istore_n 3, 1) := by decide +kernel
theorem dX11_sure_13 : decode cX11_sure 13 = .ok (.iload_n 1, 1) := by decide +kernel
theorem dX11_sure_14 : decode cX11_sure 14 = .ok (.iconst 0, 1) := by decide +kernel
theorem dX11_sure_15 : decode cX11_sure 15 = .ok (.iload_n 3, 1) := by decide +kernel
theorem dX11_sure_16 : decode cX11_sure 16 = .ok (.invokestatic 83, 3) := by decide +kernel
theorem dX11_sure_19 : decode cX11_sure 19 = .ok (.ifCond .eq 17, 3) := by decide +kernel
theorem dX11_sure_22 : decode cX11_sure 22 = .ok (.iload_n 2, 1) := by decide +kernel
theorem dX11_sure_23 : decode cX11_sure 23 = .ok (.iconst 0, 1) := by decide +kernel
theorem dX11_sure_24 : decode cX11_sure 24 = .ok (.iload_n 3, 1) := by decide +kernel
theorem dX11_sure_25 : decode cX11_sure 25 = .ok (.invokestatic 83, 3) := by decide +kernel
theorem dX11_sure_28 : decode cX11_sure 28 = .ok (.ifCond .eq 8, 3) := by decide +kernel
theorem dX11_sure_31 : decode cX11_sure 31 = .ok (.iload_n 1, 1) := by decide +kernel
theorem dX11_sure_32 : decode cX11_sure 32 = .ok (.iload_n 2, 1) := by decide +kernel
theorem dX11_sure_33 : decode cX11_sure 33 = .ok (.if_icmp .ne 5, 3) := by decide +kernel
theorem dX11_sure_36 : decode cX11_sure 36 = .ok (.iconst (-1), 1) := by decide +kernel
theorem dX11_sure_37 : decode cX11_sure 37 = .ok (.ireturn, 1) := by decide +kernel
theorem dX11_sure_38 : decode cX11_sure 38 = .ok (.aload_n 0, 1) := by decide +kernel
theorem dX11_sure_39 : decode cX11_sure 39 = .ok (.getfield 45, 3) := by decide +kernel
theorem dX11_sure_42 : decode cX11_sure 42 = .ok (.aload_n 0, 1) := by decide +kernel
theorem dX11_sure_43 : decode cX11_sure 43 = .ok (.getfield 12, 3) := by decide +kernel
theorem dX11_sure_46 : decode cX11_sure 46 = .ok (.getfield 184, 3) := by decide +kernel
theorem dX11_sure_49 : decode cX11_sure 49 = .ok (.iload_n 1, 1) := by decide +kernel
theorem dX11_sure_50 : decode cX11_sure 50 = .ok (.iconst 0, 1) := by decide +kernel
theorem dX11_sure_51 : decode cX11_sure 51 = .ok (.invokevirtual 123, 3) := by decide +kernel
theorem dX11_sure_54 : decode cX11_sure 54 = .ok (.invokevirtual 310, 3) := by decide +kernel
theorem dX11_sure_57 : decode cX11_sure 57 = .ok (.aload_n 0, 1) := by decide +kernel
theorem dX11_sure_58 : decode cX11_sure 58 = .ok (.getfield 45, 3) := by decide +kernel
theorem dX11_sure_61 : decode cX11_sure 61 = .ok (.iload_n 1, 1) := by decide +kernel
theorem dX11_sure_62 : decode cX11_sure 62 = .ok (.iload_n 2, 1) := by decide +kernel
theorem dX11_sure_63 : decode cX11_sure 63 = .ok (.invokevirtual 322, 3) := by decide +kernel
theorem dX11_sure_66 : decode cX11_sure 66 = .ok (.ireturn, 1) := by decide +kernel

def fX11_sure (N : Nat) (p1 : Int32) (p2 : Int32) (σ : qMem) : Option (Int32 × qMem) :=
  ((fX11_isIn p1 0 ((gi σ 19 3) - 1)).bind fun y1 => (if y1 = 0 then (some ((-1), σ)) else ((fX11_isIn p2 0 ((gi σ 19 3) - 1)).bind fun y2 => (if y2 = 0 then (some ((-1), σ)) else (if p1 = p2 then (some ((-1), σ)) else ((fX8_at 19 72 p1 0 σ).bind fun y3 => ((fX4_draw N y3 σ).bind fun y4 => ((fX4_certainty N p1 p2 y4).bind fun y5 => (some (y5.1, y5.2))))))))))
set_option maxRecDepth 20000 in
set_option maxHeartbeats 4000000 in
theorem aX11_sure  (N : Nat) (p1 : Int32) (p2 : Int32)  (σ : qMem) : qAt wC mX11_sure (ρi) 0 [(0, .ref 0), (1, .int p1), (2, .int p2)] [] σ (fX11_sure N p1 p2 σ) := by
  unfold fX11_sure
  refine q_aload_n (i := 0) (x := 0) dX11_sure_0 rfl 0 rfl ?_
  refine q_getr (t := 1) dX11_sure_1 foX11_12 zC_0 rfl ?_
  refine q_getr (t := 19) dX11_sure_4 foX11_184 zC_1 rfl ?_
  refine q_geti dX11_sure_7 foX11_105 zC_19 rfl ?_
  refine q_iconst (v := 1) dX11_sure_10 (by decide) ?_
  refine q_isub dX11_sure_11 ?_
  refine q_istore_n (i := 3) (L' := [(3, .int ((gi σ 19 3) - 1)), (0, .ref 0), (1, .int p1), (2, .int p2)]) dX11_sure_12 rfl (Nat.le_of_ble_eq_true rfl) rfl ?_
  refine q_iload_n (i := 1) (x := p1) dX11_sure_13 rfl 2 rfl ?_
  refine q_iconst (v := 0) dX11_sure_14 (by decide) ?_
  refine q_iload_n (i := 3) (x := ((gi σ 19 3) - 1)) dX11_sure_15 rfl 0 rfl ?_
  refine q_cSp mX11_isIn [.int p1, .int 0, .int ((gi σ 19 3) - 1)] (st := []) dX11_sure_16 (ssX11_83) ⟨Nat.le_of_ble_eq_true rfl, Nat.le_of_ble_eq_true rfl⟩ rfl rfl (Nat.le_of_ble_eq_true rfl) (kX11_isIn p1 0 ((gi σ 19 3) - 1) σ) (fun y1 => ?_)
  refine q_if_eq (tgt := 36) dX11_sure_19 (by decide) ?_ ?_
  · refine q_iconst (v := (-1)) dX11_sure_36 (by decide) ?_
    exact q_ireti (y := ((-1), σ)) dX11_sure_37 rfl rfl
  refine q_iload_n (i := 2) (x := p2) dX11_sure_22 rfl 3 rfl ?_
  refine q_iconst (v := 0) dX11_sure_23 (by decide) ?_
  refine q_iload_n (i := 3) (x := ((gi σ 19 3) - 1)) dX11_sure_24 rfl 0 rfl ?_
  refine q_cSp mX11_isIn [.int p2, .int 0, .int ((gi σ 19 3) - 1)] (st := []) dX11_sure_25 (ssX11_83) ⟨Nat.le_of_ble_eq_true rfl, Nat.le_of_ble_eq_true rfl⟩ rfl rfl (Nat.le_of_ble_eq_true rfl) (kX11_isIn p2 0 ((gi σ 19 3) - 1) σ) (fun y2 => ?_)
  refine q_if_eq (tgt := 36) dX11_sure_28 (by decide) ?_ ?_
  · refine q_iconst (v := (-1)) dX11_sure_36 (by decide) ?_
    exact q_ireti (y := ((-1), σ)) dX11_sure_37 rfl rfl
  refine q_iload_n (i := 1) (x := p1) dX11_sure_31 rfl 2 rfl ?_
  refine q_iload_n (i := 2) (x := p2) dX11_sure_32 rfl 3 rfl ?_
  refine q_icmp_ne (tgt := 38) dX11_sure_33 (by decide) ?_ ?_
  · refine q_aload_n (i := 0) (x := 0) dX11_sure_38 rfl 1 rfl ?_
    refine q_getr (t := 73) dX11_sure_39 foX11_45 zC_0 rfl ?_
    refine q_aload_n (i := 0) (x := 0) dX11_sure_42 rfl 1 rfl ?_
    refine q_getr (t := 1) dX11_sure_43 foX11_12 zC_0 rfl ?_
    refine q_getr (t := 19) dX11_sure_46 foX11_184 zC_1 rfl ?_
    refine q_iload_n (i := 1) (x := p1) dX11_sure_49 rfl 2 rfl ?_
    refine q_iconst (v := 0) dX11_sure_50 (by decide) ?_
    refine q_cVp mX8_at [.int p1, .int 0] (st := [.ref 73]) dX11_sure_51 (svX11_123) ⟨Nat.le_of_ble_eq_true rfl, Nat.le_of_ble_eq_true rfl⟩ zC_19 rfl rfl rfl (Nat.le_of_ble_eq_true rfl) (kX8_at 19 72 p1 0 pC_19 σ) (fun y3 => ?_)
    refine q_cVv mX4_draw [.int y3] (st := []) dX11_sure_54 (svX11_310) ⟨Nat.le_of_ble_eq_true rfl, Nat.le_of_ble_eq_true rfl⟩ zC_73 rfl rfl rfl (Nat.le_of_ble_eq_true rfl) (kX4_draw N y3 σ) (fun y4 => ?_)
    refine q_aload_n (i := 0) (x := 0) dX11_sure_57 rfl 1 rfl ?_
    refine q_getr (t := 73) dX11_sure_58 foX11_45 zC_0 rfl ?_
    refine q_iload_n (i := 1) (x := p1) dX11_sure_61 rfl 2 rfl ?_
    refine q_iload_n (i := 2) (x := p2) dX11_sure_62 rfl 3 rfl ?_
    refine q_cVi mX4_certainty [.int p1, .int p2] (st := []) dX11_sure_63 (svX11_322) ⟨Nat.le_of_ble_eq_true rfl, Nat.le_of_ble_eq_true rfl⟩ zC_73 rfl rfl rfl (Nat.le_of_ble_eq_true rfl) (kX4_certainty N p1 p2 y4) (fun y5 => ?_)
    exact q_ireti (y := (y5.1, y5.2)) dX11_sure_66 rfl rfl
  refine q_iconst (v := (-1)) dX11_sure_36 (by decide) ?_
  exact q_ireti (y := ((-1), σ)) dX11_sure_37 rfl rfl
theorem kX11_sure  (N : Nat) (p1 : Int32) (p2 : Int32)  (σ : qMem) : qMc wC mX11_sure (ρi) [.ref 0, .int p1, .int p2] σ (fX11_sure N p1 p2 σ) := qMc_of (moX11_sure) (Nat.le_of_ble_eq_true rfl) (aX11_sure N p1 p2  σ)

theorem dX11_cross_0 : decode cX11_cross 0 = .ok (.iload_n 1, 1) := by decide +kernel
theorem dX11_cross_1 : decode cX11_cross 1 = .ok (.invokestatic 117, 3) := by decide +kernel
theorem dX11_cross_4 : decode cX11_cross 4 = .ok (.ifCond .ne 5, 3) := by decide +kernel
theorem dX11_cross_7 : decode cX11_cross 7 = .ok (.iconst (-1), 1) := by decide +kernel
theorem dX11_cross_8 : decode cX11_cross 8 = .ok (.ireturn, 1) := by decide +kernel
theorem dX11_cross_9 : decode cX11_cross 9 = .ok (.aload_n 0, 1) := by decide +kernel
theorem dX11_cross_10 : decode cX11_cross 10 = .ok (.getfield 29, 3) := by decide +kernel
theorem dX11_cross_13 : decode cX11_cross 13 = .ok (.invokevirtual 200, 3) := by decide +kernel
theorem dX11_cross_16 : decode cX11_cross 16 = .ok (.aload_n 0, 1) := by decide +kernel
theorem dX11_cross_17 : decode cX11_cross 17 = .ok (.getfield 29, 3) := by decide +kernel
theorem dX11_cross_20 : decode cX11_cross 20 = .ok (.iconst 0, 1) := by decide +kernel
theorem dX11_cross_21 : decode cX11_cross 21 = .ok (.iload_n 1, 1) := by decide +kernel
theorem dX11_cross_22 : decode cX11_cross 22 = .ok (.iload_n 2, 1) := by decide +kernel
theorem dX11_cross_23 : decode cX11_cross 23 = .ok (.invokevirtual 325, 3) := by decide +kernel
theorem dX11_cross_26 : decode cX11_cross 26 = .ok (.istore 4, 2) := by decide +kernel
theorem dX11_cross_28 : decode cX11_cross 28 = .ok (.aload_n 0, 1) := by decide +kernel
theorem dX11_cross_29 : decode cX11_cross 29 = .ok (.getfield 29, 3) := by decide +kernel
theorem dX11_cross_32 : decode cX11_cross 32 = .ok (.iconst 1, 1) := by decide +kernel
theorem dX11_cross_33 : decode cX11_cross 33 = .ok (.iload_n 1, 1) := by decide +kernel
theorem dX11_cross_34 : decode cX11_cross 34 = .ok (.iload_n 3, 1) := by decide +kernel
theorem dX11_cross_35 : decode cX11_cross 35 = .ok (.invokevirtual 325, 3) := by decide +kernel
theorem dX11_cross_38 : decode cX11_cross 38 = .ok (.istore 5, 2) := by decide +kernel
theorem dX11_cross_40 : decode cX11_cross 40 = .ok (.iload 4, 2) := by decide +kernel
theorem dX11_cross_42 : decode cX11_cross 42 = .ok (.iconst (-1), 1) := by decide +kernel
theorem dX11_cross_43 : decode cX11_cross 43 = .ok (.if_icmp .eq 9, 3) := by decide +kernel
theorem dX11_cross_46 : decode cX11_cross 46 = .ok (.iload 5, 2) := by decide +kernel
theorem dX11_cross_48 : decode cX11_cross 48 = .ok (.iconst (-1), 1) := by decide +kernel
theorem dX11_cross_49 : decode cX11_cross 49 = .ok (.if_icmp .ne 7, 3) := by decide +kernel
theorem dX11_cross_52 : decode cX11_cross 52 = .ok (.iconst (-1), 1) := by decide +kernel
theorem dX11_cross_53 : decode cX11_cross 53 = .ok (.goto 15, 3) := by decide +kernel
theorem dX11_cross_56 : decode cX11_cross 56 = .ok (.aload_n 0, 1) := by decide +kernel
theorem dX11_cross_57 : decode cX11_cross 57 = .ok (.getfield 29, 3) := by decide +kernel
theorem dX11_cross_60 : decode cX11_cross 60 = .ok (.iload_n 1, 1) := by decide +kernel
theorem dX11_cross_61 : decode cX11_cross 61 = .ok (.iload 4, 2) := by decide +kernel
theorem dX11_cross_63 : decode cX11_cross 63 = .ok (.iload 5, 2) := by decide +kernel
theorem dX11_cross_65 : decode cX11_cross 65 = .ok (.invokevirtual 328, 3) := by decide +kernel
theorem dX11_cross_68 : decode cX11_cross 68 = .ok (.ireturn, 1) := by decide +kernel
def fX11_cross_b52 (N : Nat) (σ : qMem) : Option (Int32 × qMem) :=
  (some ((-1), σ))
set_option maxRecDepth 20000 in
set_option maxHeartbeats 4000000 in
theorem aX11_cross_b52 (N : Nat) (σ : qMem) : qAt wC mX11_cross (ρi) 52 [] [] σ (fX11_cross_b52 N σ) := by
  unfold fX11_cross_b52
  refine q_iconst (v := (-1)) dX11_cross_52 (by decide) ?_
  refine q_goto (tgt := 68) dX11_cross_53 (by decide) ?_
  exact q_ireti (y := ((-1), σ)) dX11_cross_68 rfl rfl

def fX11_cross (N : Nat) (p1 : Int32) (p2 : Int32) (p3 : Int32) (σ : qMem) : Option (Int32 × qMem) :=
  ((fX11_isBell p1).bind fun y1 => (if y1 = 0 then (some ((-1), σ)) else ((fX3_sortOut N σ).bind fun y2 => ((fX3_freshHeard N 0 p1 p2 y2).bind fun y3 => ((fX3_freshHeard N 1 p1 p3 y2).bind fun y4 => (if y3 = (-1) then (fX11_cross_b52 N y2) else (if y4 = (-1) then (fX11_cross_b52 N y2) else ((fX3_crossings N p1 y3 y4 y2).bind fun y5 => (some (y5.1, y5.2))))))))))
set_option maxRecDepth 20000 in
set_option maxHeartbeats 4000000 in
theorem aX11_cross  (N : Nat) (p1 : Int32) (p2 : Int32) (p3 : Int32)  (σ : qMem) : qAt wC mX11_cross (ρi) 0 [(0, .ref 0), (1, .int p1), (2, .int p2), (3, .int p3)] [] σ (fX11_cross N p1 p2 p3 σ) := by
  unfold fX11_cross
  refine q_iload_n (i := 1) (x := p1) dX11_cross_0 rfl 1 rfl ?_
  refine q_cSp mX11_isBell [.int p1] (st := []) dX11_cross_1 (ssX11_117) ⟨Nat.le_of_ble_eq_true rfl, Nat.le_of_ble_eq_true rfl⟩ rfl rfl (Nat.le_of_ble_eq_true rfl) (kX11_isBell p1 σ) (fun y1 => ?_)
  refine q_if_ne (tgt := 9) dX11_cross_4 (by decide) ?_ ?_
  · refine q_aload_n (i := 0) (x := 0) dX11_cross_9 rfl 0 rfl ?_
    refine q_getr (t := 44) dX11_cross_10 foX11_29 zC_0 rfl ?_
    refine q_cVv mX3_sortOut [] (st := []) dX11_cross_13 (svX11_200) ⟨Nat.le_of_ble_eq_true rfl, Nat.le_of_ble_eq_true rfl⟩ zC_44 rfl rfl rfl (Nat.le_of_ble_eq_true rfl) (kX3_sortOut N σ) (fun y2 => ?_)
    refine q_aload_n (i := 0) (x := 0) dX11_cross_16 rfl 0 rfl ?_
    refine q_getr (t := 44) dX11_cross_17 foX11_29 zC_0 rfl ?_
    refine q_iconst (v := 0) dX11_cross_20 (by decide) ?_
    refine q_iload_n (i := 1) (x := p1) dX11_cross_21 rfl 1 rfl ?_
    refine q_iload_n (i := 2) (x := p2) dX11_cross_22 rfl 2 rfl ?_
    refine q_cVp mX3_freshHeard [.int 0, .int p1, .int p2] (st := []) dX11_cross_23 (svX11_325) ⟨Nat.le_of_ble_eq_true rfl, Nat.le_of_ble_eq_true rfl⟩ zC_44 rfl rfl rfl (Nat.le_of_ble_eq_true rfl) (kX3_freshHeard N 0 p1 p2 y2) (fun y3 => ?_)
    refine q_istore (i := 4) (L' := [(4, .int y3), (0, .ref 0), (1, .int p1), (2, .int p2), (3, .int p3)]) dX11_cross_26 (Nat.le_of_ble_eq_true rfl) rfl ?_
    refine q_aload_n (i := 0) (x := 0) dX11_cross_28 rfl 1 rfl ?_
    refine q_getr (t := 44) dX11_cross_29 foX11_29 zC_0 rfl ?_
    refine q_iconst (v := 1) dX11_cross_32 (by decide) ?_
    refine q_iload_n (i := 1) (x := p1) dX11_cross_33 rfl 2 rfl ?_
    refine q_iload_n (i := 3) (x := p3) dX11_cross_34 rfl 4 rfl ?_
    refine q_cVp mX3_freshHeard [.int 1, .int p1, .int p3] (st := []) dX11_cross_35 (svX11_325) ⟨Nat.le_of_ble_eq_true rfl, Nat.le_of_ble_eq_true rfl⟩ zC_44 rfl rfl rfl (Nat.le_of_ble_eq_true rfl) (kX3_freshHeard N 1 p1 p3 y2) (fun y4 => ?_)
    refine q_istore (i := 5) (L' := [(5, .int y4), (4, .int y3), (0, .ref 0), (1, .int p1), (2, .int p2), (3, .int p3)]) dX11_cross_38 (Nat.le_of_ble_eq_true rfl) rfl ?_
    refine q_iload (i := 4) (x := y3) dX11_cross_40 1 rfl ?_
    refine q_iconst (v := (-1)) dX11_cross_42 (by decide) ?_
    refine q_icmp_eq (tgt := 52) dX11_cross_43 (by decide) ?_ ?_
    · exact q_sub [] rfl (aX11_cross_b52 N y2)
    refine q_iload (i := 5) (x := y4) dX11_cross_46 0 rfl ?_
    refine q_iconst (v := (-1)) dX11_cross_48 (by decide) ?_
    refine q_icmp_ne (tgt := 56) dX11_cross_49 (by decide) ?_ ?_
    · refine q_aload_n (i := 0) (x := 0) dX11_cross_56 rfl 2 rfl ?_
      refine q_getr (t := 44) dX11_cross_57 foX11_29 zC_0 rfl ?_
      refine q_iload_n (i := 1) (x := p1) dX11_cross_60 rfl 3 rfl ?_
      refine q_iload (i := 4) (x := y3) dX11_cross_61 1 rfl ?_
      refine q_iload (i := 5) (x := y4) dX11_cross_63 0 rfl ?_
      refine q_cVi mX3_crossings [.int p1, .int y3, .int y4] (st := []) dX11_cross_65 (svX11_328) ⟨Nat.le_of_ble_eq_true rfl, Nat.le_of_ble_eq_true rfl⟩ zC_44 rfl rfl rfl (Nat.le_of_ble_eq_true rfl) (kX3_crossings N p1 y3 y4 y2) (fun y5 => ?_)
      exact q_ireti (y := (y5.1, y5.2)) dX11_cross_68 rfl rfl
    exact q_sub [] rfl (aX11_cross_b52 N y2)
  refine q_iconst (v := (-1)) dX11_cross_7 (by decide) ?_
  exact q_ireti (y := ((-1), σ)) dX11_cross_8 rfl rfl
theorem kX11_cross  (N : Nat) (p1 : Int32) (p2 : Int32) (p3 : Int32)  (σ : qMem) : qMc wC mX11_cross (ρi) [.ref 0, .int p1, .int p2, .int p3] σ (fX11_cross N p1 p2 p3 σ) := qMc_of (moX11_cross) (Nat.le_of_ble_eq_true rfl) (aX11_cross N p1 p2 p3  σ)

theorem dX11_pairings_0 : decode cX11_pairings 0 = .ok (.iload_n 1, 1) := by decide +kernel
theorem dX11_pairings_1 : decode cX11_pairings 1 = .ok (.invokestatic 117, 3) := by decide +kernel
theorem dX11_pairings_4 : decode cX11_pairings 4 = .ok (.ifCond .ne 5, 3) := by decide +kernel
theorem dX11_pairings_7 : decode cX11_pairings 7 = .ok (.iconst (-1), 1) := by decide +kernel
theorem dX11_pairings_8 : decode cX11_pairings 8 = .ok (.ireturn, 1) := by decide +kernel
theorem dX11_pairings_9 : decode cX11_pairings 9 = .ok (.aload_n 0, 1) := by decide +kernel
theorem dX11_pairings_10 : decode cX11_pairings 10 = .ok (.getfield 29, 3) := by decide +kernel
theorem dX11_pairings_13 : decode cX11_pairings 13 = .ok (.invokevirtual 200, 3) := by decide +kernel
theorem dX11_pairings_16 : decode cX11_pairings 16 = .ok (.aload_n 0, 1) := by decide +kernel
theorem dX11_pairings_17 : decode cX11_pairings 17 = .ok (.getfield 29, 3) := by decide +kernel
theorem dX11_pairings_20 : decode cX11_pairings 20 = .ok (.iload_n 1, 1) := by decide +kernel
theorem dX11_pairings_21 : decode cX11_pairings 21 = .ok (.invokevirtual 331, 3) := by decide +kernel
theorem dX11_pairings_24 : decode cX11_pairings 24 = .ok (.istore_n 2, 1) := by decide +kernel
theorem dX11_pairings_25 : decode cX11_pairings 25 = .ok (.iload_n 2, 1) := by decide +kernel
theorem dX11_pairings_26 : decode cX11_pairings 26 = .ok (.ifCond .ne 7, 3) := by decide +kernel
theorem dX11_pairings_29 : decode cX11_pairings 29 = .ok (.iconst 0, 1) := by decide +kernel
theorem dX11_pairings_30 : decode cX11_pairings 30 = .ok (.goto 13, 3) := by decide +kernel
theorem dX11_pairings_33 : decode cX11_pairings 33 = .ok (.aload_n 0, 1) := by decide +kernel
theorem dX11_pairings_34 : decode cX11_pairings 34 = .ok (.getfield 29, 3) := by decide +kernel
theorem dX11_pairings_37 : decode cX11_pairings 37 = .ok (.iconst 0, 1) := by decide +kernel
theorem dX11_pairings_38 : decode cX11_pairings 38 = .ok (.iconst 0, 1) := by decide +kernel
theorem dX11_pairings_39 : decode cX11_pairings 39 = .ok (.iload_n 2, 1) := by decide +kernel
theorem dX11_pairings_40 : decode cX11_pairings 40 = .ok (.invokevirtual 334, 3) := by decide +kernel
theorem dX11_pairings_43 : decode cX11_pairings 43 = .ok (.ireturn, 1) := by decide +kernel

def fX11_pairings (N : Nat) (p1 : Int32) (σ : qMem) : Option (Int32 × qMem) :=
  ((fX11_isBell p1).bind fun y1 => (if y1 = 0 then (some ((-1), σ)) else ((fX3_sortOut N σ).bind fun y2 => ((fX3_crossAll N p1 y2).bind fun y3 => (if y3.1 = 0 then (some (0, y3.2)) else ((fX3_ways N 8 0 0 y3.1 y3.2).bind fun y4 => (some (y4, y3.2))))))))
set_option maxRecDepth 20000 in
set_option maxHeartbeats 4000000 in
theorem aX11_pairings  (N : Nat) (p1 : Int32)  (σ : qMem) : qAt wC mX11_pairings (ρi) 0 [(0, .ref 0), (1, .int p1)] [] σ (fX11_pairings N p1 σ) := by
  unfold fX11_pairings
  refine q_iload_n (i := 1) (x := p1) dX11_pairings_0 rfl 1 rfl ?_
  refine q_cSp mX11_isBell [.int p1] (st := []) dX11_pairings_1 (ssX11_117) ⟨Nat.le_of_ble_eq_true rfl, Nat.le_of_ble_eq_true rfl⟩ rfl rfl (Nat.le_of_ble_eq_true rfl) (kX11_isBell p1 σ) (fun y1 => ?_)
  refine q_if_ne (tgt := 9) dX11_pairings_4 (by decide) ?_ ?_
  · refine q_aload_n (i := 0) (x := 0) dX11_pairings_9 rfl 0 rfl ?_
    refine q_getr (t := 44) dX11_pairings_10 foX11_29 zC_0 rfl ?_
    refine q_cVv mX3_sortOut [] (st := []) dX11_pairings_13 (svX11_200) ⟨Nat.le_of_ble_eq_true rfl, Nat.le_of_ble_eq_true rfl⟩ zC_44 rfl rfl rfl (Nat.le_of_ble_eq_true rfl) (kX3_sortOut N σ) (fun y2 => ?_)
    refine q_aload_n (i := 0) (x := 0) dX11_pairings_16 rfl 0 rfl ?_
    refine q_getr (t := 44) dX11_pairings_17 foX11_29 zC_0 rfl ?_
    refine q_iload_n (i := 1) (x := p1) dX11_pairings_20 rfl 1 rfl ?_
    refine q_cVi mX3_crossAll [.int p1] (st := []) dX11_pairings_21 (svX11_331) ⟨Nat.le_of_ble_eq_true rfl, Nat.le_of_ble_eq_true rfl⟩ zC_44 rfl rfl rfl (Nat.le_of_ble_eq_true rfl) (kX3_crossAll N p1 y2) (fun y3 => ?_)
    refine q_istore_n (i := 2) (L' := [(2, .int y3.1), (0, .ref 0), (1, .int p1)]) dX11_pairings_24 rfl (Nat.le_of_ble_eq_true rfl) rfl ?_
    refine q_iload_n (i := 2) (x := y3.1) dX11_pairings_25 rfl 0 rfl ?_
    refine q_if_ne (tgt := 33) dX11_pairings_26 (by decide) ?_ ?_
    · refine q_aload_n (i := 0) (x := 0) dX11_pairings_33 rfl 1 rfl ?_
      refine q_getr (t := 44) dX11_pairings_34 foX11_29 zC_0 rfl ?_
      refine q_iconst (v := 0) dX11_pairings_37 (by decide) ?_
      refine q_iconst (v := 0) dX11_pairings_38 (by decide) ?_
      refine q_iload_n (i := 2) (x := y3.1) dX11_pairings_39 rfl 0 rfl ?_
      refine q_cVp (mX3_ways 8) [.int 0, .int 0, .int y3.1] (st := []) dX11_pairings_40 (svX11_334 _) ⟨Nat.le_of_ble_eq_true rfl, Nat.le_of_ble_eq_true rfl⟩ zC_44 rfl rfl rfl (Nat.le_of_ble_eq_true rfl) (kX3_ways N 8 0 0 y3.1 y3.2) (fun y4 => ?_)
      exact q_ireti (y := (y4, y3.2)) dX11_pairings_43 rfl rfl
    refine q_iconst (v := 0) dX11_pairings_29 (by decide) ?_
    refine q_goto (tgt := 43) dX11_pairings_30 (by decide) ?_
    exact q_ireti (y := (0, y3.2)) dX11_pairings_43 rfl rfl
  refine q_iconst (v := (-1)) dX11_pairings_7 (by decide) ?_
  exact q_ireti (y := ((-1), σ)) dX11_pairings_8 rfl rfl
theorem kX11_pairings  (N : Nat) (p1 : Int32)  (σ : qMem) : qMc wC mX11_pairings (ρi) [.ref 0, .int p1] σ (fX11_pairings N p1 σ) := qMc_of (moX11_pairings) (Nat.le_of_ble_eq_true rfl) (aX11_pairings N p1  σ)

theorem dX11_ghost_0 : decode cX11_ghost 0 = .ok (.iload_n 1, 1) := by decide +kernel
theorem dX11_ghost_1 : decode cX11_ghost 1 = .ok (.invokestatic 117, 3) := by decide +kernel
theorem dX11_ghost_4 : decode cX11_ghost 4 = .ok (.ifCond .ne 5, 3) := by decide +kernel
theorem dX11_ghost_7 : decode cX11_ghost 7 = .ok (.iconst (-1), 1) := by decide +kernel
theorem dX11_ghost_8 : decode cX11_ghost 8 = .ok (.ireturn, 1) := by decide +kernel
theorem dX11_ghost_9 : decode cX11_ghost 9 = .ok (.aload_n 0, 1) := by decide +kernel
theorem dX11_ghost_10 : decode cX11_ghost 10 = .ok (.getfield 29, 3) := by decide +kernel
theorem dX11_ghost_13 : decode cX11_ghost 13 = .ok (.invokevirtual 200, 3) := by decide +kernel
theorem dX11_ghost_16 : decode cX11_ghost 16 = .ok (.aload_n 0, 1) := by decide +kernel
theorem dX11_ghost_17 : decode cX11_ghost 17 = .ok (.getfield 29, 3) := by decide +kernel
theorem dX11_ghost_20 : decode cX11_ghost 20 = .ok (.iconst 0, 1) := by decide +kernel
theorem dX11_ghost_21 : decode cX11_ghost 21 = .ok (.iload_n 1, 1) := by decide +kernel
theorem dX11_ghost_22 : decode cX11_ghost 22 = .ok (.iload_n 2, 1) := by decide +kernel
theorem dX11_ghost_23 : decode cX11_ghost 23 = .ok (.invokevirtual 325, 3) := by decide +kernel
theorem dX11_ghost_26 : decode cX11_ghost 26 = .ok (.iconst (-1), 1) := by decide +kernel
theorem dX11_ghost_27 : decode cX11_ghost 27 = .ok (.if_icmp .eq 17, 3) := by decide +kernel
theorem dX11_ghost_30 : decode cX11_ghost 30 = .ok (.aload_n 0, 1) := by decide +kernel
theorem dX11_ghost_31 : decode cX11_ghost 31 = .ok (.getfield 29, 3) := by decide +kernel
theorem dX11_ghost_34 : decode cX11_ghost 34 = .ok (.iconst 1, 1) := by decide +kernel
theorem dX11_ghost_35 : decode cX11_ghost 35 = .ok (.iload_n 1, 1) := by decide +kernel
theorem dX11_ghost_36 : decode cX11_ghost 36 = .ok (.iload_n 3, 1) := by decide +kernel
theorem dX11_ghost_37 : decode cX11_ghost 37 = .ok (.invokevirtual 325, 3) := by decide +kernel
theorem dX11_ghost_40 : decode cX11_ghost 40 = .ok (.iconst (-1), 1) := by decide +kernel
theorem dX11_ghost_41 : decode cX11_ghost 41 = .ok (.if_icmp .ne 5, 3) := by decide +kernel
theorem dX11_ghost_44 : decode cX11_ghost 44 = .ok (.iconst (-1), 1) := by decide +kernel
theorem dX11_ghost_45 : decode cX11_ghost 45 = .ok (.ireturn, 1) := by decide +kernel
theorem dX11_ghost_46 : decode cX11_ghost 46 = .ok (.aload_n 0, 1) := by decide +kernel
theorem dX11_ghost_47 : decode cX11_ghost 47 = .ok (.getfield 29, 3) := by decide +kernel
theorem dX11_ghost_50 : decode cX11_ghost 50 = .ok (.iload_n 1, 1) := by decide +kernel
theorem dX11_ghost_51 : decode cX11_ghost 51 = .ok (.invokevirtual 331, 3) := by decide +kernel
theorem dX11_ghost_54 : decode cX11_ghost 54 = .ok (.istore 4, 2) := by decide +kernel
theorem dX11_ghost_56 : decode cX11_ghost 56 = .ok (.iload 4, 2) := by decide +kernel
theorem dX11_ghost_58 : decode cX11_ghost 58 = .ok (.ifCond .ne 5, 3) := by decide +kernel
theorem dX11_ghost_61 : decode cX11_ghost 61 = .ok (.iconst 1, 1) := by decide +kernel
theorem dX11_ghost_62 : decode cX11_ghost 62 = .ok (.ireturn, 1) := by decide +kernel
theorem dX11_ghost_63 : decode cX11_ghost 63 = .ok (.aload_n 0, 1) := by decide +kernel
theorem dX11_ghost_64 : decode cX11_ghost 64 = .ok (.getfield 29, 3) := by decide +kernel
theorem dX11_ghost_67 : decode cX11_ghost 67 = .ok (.iload_n 2, 1) := by decide +kernel
theorem dX11_ghost_68 : decode cX11_ghost 68 = .ok (.iload_n 3, 1) := by decide +kernel
theorem dX11_ghost_69 : decode cX11_ghost 69 = .ok (.invokevirtual 337, 3) := by decide +kernel
theorem dX11_ghost_72 : decode cX11_ghost 72 = .ok (.aload_n 0, 1) := by decide +kernel
theorem dX11_ghost_73 : decode cX11_ghost 73 = .ok (.getfield 29, 3) := by decide +kernel
theorem dX11_ghost_76 : decode cX11_ghost 76 = .ok (.iconst 0, 1) := by decide +kernel
theorem dX11_ghost_77 : decode cX11_ghost 77 = .ok (.iconst 0, 1) := by decide +kernel
theorem dX11_ghost_78 : decode cX11_ghost 78 = .ok (.iload 4, 2) := by decide +kernel
theorem dX11_ghost_80 : decode cX11_ghost 80 = .ok (.invokevirtual 334, 3) := by decide +kernel
theorem dX11_ghost_83 : decode cX11_ghost 83 = .ok (.ifCond .ne 7, 3) := by decide +kernel
theorem dX11_ghost_86 : decode cX11_ghost 86 = .ok (.iconst 1, 1) := by decide +kernel
theorem dX11_ghost_87 : decode cX11_ghost 87 = .ok (.goto 4, 3) := by decide +kernel
theorem dX11_ghost_90 : decode cX11_ghost 90 = .ok (.iconst 0, 1) := by decide +kernel
theorem dX11_ghost_91 : decode cX11_ghost 91 = .ok (.ireturn, 1) := by decide +kernel

def fX11_ghost (N : Nat) (p1 : Int32) (p2 : Int32) (p3 : Int32) (σ : qMem) : Option (Int32 × qMem) :=
  ((fX11_isBell p1).bind fun y1 => (if y1 = 0 then (some ((-1), σ)) else ((fX3_sortOut N σ).bind fun y2 => ((fX3_freshHeard N 0 p1 p2 y2).bind fun y3 => (if y3 = (-1) then (some ((-1), y2)) else ((fX3_freshHeard N 1 p1 p3 y2).bind fun y4 => (if y4 = (-1) then (some ((-1), y2)) else ((fX3_crossAll N p1 y2).bind fun y5 => (if y5.1 = 0 then (some (1, y5.2)) else ((fX3_keepPair p2 p3 y5.2).bind fun y6 => ((fX3_ways N 8 0 0 y5.1 y6).bind fun y7 => (if y7 = 0 then (some (1, y6)) else (some (0, y6))))))))))))))
set_option maxRecDepth 20000 in
set_option maxHeartbeats 4000000 in
theorem aX11_ghost  (N : Nat) (p1 : Int32) (p2 : Int32) (p3 : Int32)  (σ : qMem) : qAt wC mX11_ghost (ρi) 0 [(0, .ref 0), (1, .int p1), (2, .int p2), (3, .int p3)] [] σ (fX11_ghost N p1 p2 p3 σ) := by
  unfold fX11_ghost
  refine q_iload_n (i := 1) (x := p1) dX11_ghost_0 rfl 1 rfl ?_
  refine q_cSp mX11_isBell [.int p1] (st := []) dX11_ghost_1 (ssX11_117) ⟨Nat.le_of_ble_eq_true rfl, Nat.le_of_ble_eq_true rfl⟩ rfl rfl (Nat.le_of_ble_eq_true rfl) (kX11_isBell p1 σ) (fun y1 => ?_)
  refine q_if_ne (tgt := 9) dX11_ghost_4 (by decide) ?_ ?_
  · refine q_aload_n (i := 0) (x := 0) dX11_ghost_9 rfl 0 rfl ?_
    refine q_getr (t := 44) dX11_ghost_10 foX11_29 zC_0 rfl ?_
    refine q_cVv mX3_sortOut [] (st := []) dX11_ghost_13 (svX11_200) ⟨Nat.le_of_ble_eq_true rfl, Nat.le_of_ble_eq_true rfl⟩ zC_44 rfl rfl rfl (Nat.le_of_ble_eq_true rfl) (kX3_sortOut N σ) (fun y2 => ?_)
    refine q_aload_n (i := 0) (x := 0) dX11_ghost_16 rfl 0 rfl ?_
    refine q_getr (t := 44) dX11_ghost_17 foX11_29 zC_0 rfl ?_
    refine q_iconst (v := 0) dX11_ghost_20 (by decide) ?_
    refine q_iload_n (i := 1) (x := p1) dX11_ghost_21 rfl 1 rfl ?_
    refine q_iload_n (i := 2) (x := p2) dX11_ghost_22 rfl 2 rfl ?_
    refine q_cVp mX3_freshHeard [.int 0, .int p1, .int p2] (st := []) dX11_ghost_23 (svX11_325) ⟨Nat.le_of_ble_eq_true rfl, Nat.le_of_ble_eq_true rfl⟩ zC_44 rfl rfl rfl (Nat.le_of_ble_eq_true rfl) (kX3_freshHeard N 0 p1 p2 y2) (fun y3 => ?_)
    refine q_iconst (v := (-1)) dX11_ghost_26 (by decide) ?_
    refine q_icmp_eq (tgt := 44) dX11_ghost_27 (by decide) ?_ ?_
    · refine q_iconst (v := (-1)) dX11_ghost_44 (by decide) ?_
      exact q_ireti (y := ((-1), y2)) dX11_ghost_45 rfl rfl
    refine q_aload_n (i := 0) (x := 0) dX11_ghost_30 rfl 0 rfl ?_
    refine q_getr (t := 44) dX11_ghost_31 foX11_29 zC_0 rfl ?_
    refine q_iconst (v := 1) dX11_ghost_34 (by decide) ?_
    refine q_iload_n (i := 1) (x := p1) dX11_ghost_35 rfl 1 rfl ?_
    refine q_iload_n (i := 3) (x := p3) dX11_ghost_36 rfl 3 rfl ?_
    refine q_cVp mX3_freshHeard [.int 1, .int p1, .int p3] (st := []) dX11_ghost_37 (svX11_325) ⟨Nat.le_of_ble_eq_true rfl, Nat.le_of_ble_eq_true rfl⟩ zC_44 rfl rfl rfl (Nat.le_of_ble_eq_true rfl) (kX3_freshHeard N 1 p1 p3 y2) (fun y4 => ?_)
    refine q_iconst (v := (-1)) dX11_ghost_40 (by decide) ?_
    refine q_icmp_ne (tgt := 46) dX11_ghost_41 (by decide) ?_ ?_
    · refine q_aload_n (i := 0) (x := 0) dX11_ghost_46 rfl 0 rfl ?_
      refine q_getr (t := 44) dX11_ghost_47 foX11_29 zC_0 rfl ?_
      refine q_iload_n (i := 1) (x := p1) dX11_ghost_50 rfl 1 rfl ?_
      refine q_cVi mX3_crossAll [.int p1] (st := []) dX11_ghost_51 (svX11_331) ⟨Nat.le_of_ble_eq_true rfl, Nat.le_of_ble_eq_true rfl⟩ zC_44 rfl rfl rfl (Nat.le_of_ble_eq_true rfl) (kX3_crossAll N p1 y2) (fun y5 => ?_)
      refine q_istore (i := 4) (L' := [(4, .int y5.1), (0, .ref 0), (1, .int p1), (2, .int p2), (3, .int p3)]) dX11_ghost_54 (Nat.le_of_ble_eq_true rfl) rfl ?_
      refine q_iload (i := 4) (x := y5.1) dX11_ghost_56 0 rfl ?_
      refine q_if_ne (tgt := 63) dX11_ghost_58 (by decide) ?_ ?_
      · refine q_aload_n (i := 0) (x := 0) dX11_ghost_63 rfl 1 rfl ?_
        refine q_getr (t := 44) dX11_ghost_64 foX11_29 zC_0 rfl ?_
        refine q_iload_n (i := 2) (x := p2) dX11_ghost_67 rfl 3 rfl ?_
        refine q_iload_n (i := 3) (x := p3) dX11_ghost_68 rfl 4 rfl ?_
        refine q_cVv mX3_keepPair [.int p2, .int p3] (st := []) dX11_ghost_69 (svX11_337) ⟨Nat.le_of_ble_eq_true rfl, Nat.le_of_ble_eq_true rfl⟩ zC_44 rfl rfl rfl (Nat.le_of_ble_eq_true rfl) (kX3_keepPair p2 p3 y5.2) (fun y6 => ?_)
        refine q_aload_n (i := 0) (x := 0) dX11_ghost_72 rfl 1 rfl ?_
        refine q_getr (t := 44) dX11_ghost_73 foX11_29 zC_0 rfl ?_
        refine q_iconst (v := 0) dX11_ghost_76 (by decide) ?_
        refine q_iconst (v := 0) dX11_ghost_77 (by decide) ?_
        refine q_iload (i := 4) (x := y5.1) dX11_ghost_78 0 rfl ?_
        refine q_cVp (mX3_ways 8) [.int 0, .int 0, .int y5.1] (st := []) dX11_ghost_80 (svX11_334 _) ⟨Nat.le_of_ble_eq_true rfl, Nat.le_of_ble_eq_true rfl⟩ zC_44 rfl rfl rfl (Nat.le_of_ble_eq_true rfl) (kX3_ways N 8 0 0 y5.1 y6) (fun y7 => ?_)
        refine q_if_ne (tgt := 90) dX11_ghost_83 (by decide) ?_ ?_
        · refine q_iconst (v := 0) dX11_ghost_90 (by decide) ?_
          exact q_ireti (y := (0, y6)) dX11_ghost_91 rfl rfl
        refine q_iconst (v := 1) dX11_ghost_86 (by decide) ?_
        refine q_goto (tgt := 91) dX11_ghost_87 (by decide) ?_
        exact q_ireti (y := (1, y6)) dX11_ghost_91 rfl rfl
      refine q_iconst (v := 1) dX11_ghost_61 (by decide) ?_
      exact q_ireti (y := (1, y5.2)) dX11_ghost_62 rfl rfl
    refine q_iconst (v := (-1)) dX11_ghost_44 (by decide) ?_
    exact q_ireti (y := ((-1), y2)) dX11_ghost_45 rfl rfl
  refine q_iconst (v := (-1)) dX11_ghost_7 (by decide) ?_
  exact q_ireti (y := ((-1), σ)) dX11_ghost_8 rfl rfl
theorem kX11_ghost  (N : Nat) (p1 : Int32) (p2 : Int32) (p3 : Int32)  (σ : qMem) : qMc wC mX11_ghost (ρi) [.ref 0, .int p1, .int p2, .int p3] σ (fX11_ghost N p1 p2 p3 σ) := qMc_of (moX11_ghost) (Nat.le_of_ble_eq_true rfl) (aX11_ghost N p1 p2 p3  σ)

theorem dX11_beat_0 : decode cX11_beat 0 = .ok (.iload_n 1, 1) := by decide +kernel
theorem dX11_beat_1 : decode cX11_beat 1 = .ok (.iconst 1, 1) := by decide +kernel
theorem dX11_beat_2 : decode cX11_beat 2 = .ok (.sipush 3000, 3) := by decide +kernel
theorem dX11_beat_5 : decode cX11_beat 5 = .ok (.invokestatic 83, 3) := by decide +kernel
theorem dX11_beat_8 : decode cX11_beat 8 = .ok (.ifCond .ne 9, 3) := by decide +kernel
theorem dX11_beat_11 : decode cX11_beat 11 = .ok (.aload_n 0, 1) := by decide +kernel
theorem dX11_beat_12 : decode cX11_beat 12 = .ok (.iconst (-1), 1) := by decide +kernel
theorem dX11_beat_13 : decode cX11_beat 13 = .ok (.invokevirtual 87, 3) := by decide +kernel
theorem dX11_beat_16 : decode cX11_beat 16 = .ok (.ireturn, 1) := by decide +kernel
theorem dX11_beat_17 : decode cX11_beat 17 = .ok (.aload_n 0, 1) := by decide +kernel
theorem dX11_beat_18 : decode cX11_beat 18 = .ok (.aload_n 0, 1) := by decide +kernel
theorem dX11_beat_19 : decode cX11_beat 19 = .ok (.getfield 12, 3) := by decide +kernel
theorem dX11_beat_22 : decode cX11_beat 22 = .ok (.getfield 341, 3) := by decide +kernel
theorem dX11_beat_25 : decode cX11_beat 25 = .ok (.iload_n 1, 1) := by decide +kernel
theorem dX11_beat_26 : decode cX11_beat 26 = .ok (.iconst 0, 1) := by decide +kernel
theorem dX11_beat_27 : decode cX11_beat 27 = .ok (.iconst 0, 1) := by decide +kernel
theorem dX11_beat_28 : decode cX11_beat 28 = .ok (.iconst 0, 1) := by decide +kernel
theorem dX11_beat_29 : decode cX11_beat 29 = .ok (.iconst 0, 1) := by decide +kernel
theorem dX11_beat_30 : decode cX11_beat 30 = .ok (.invokevirtual 281, 3) := by decide +kernel
theorem dX11_beat_33 : decode cX11_beat 33 = .ok (.istore_n 2, 1) := by decide +kernel
theorem dX11_beat_34 : decode cX11_beat 34 = .ok (.iload_n 2, 1) := by decide +kernel
theorem dX11_beat_35 : decode cX11_beat 35 = .ok (.ifCond .ge 7, 3) := by decide +kernel
theorem dX11_beat_38 : decode cX11_beat 38 = .ok (.iload_n 2, 1) := by decide +kernel
theorem dX11_beat_39 : decode cX11_beat 39 = .ok (.goto 13, 3) := by decide +kernel
theorem dX11_beat_42 : decode cX11_beat 42 = .ok (.aload_n 0, 1) := by decide +kernel
theorem dX11_beat_43 : decode cX11_beat 43 = .ok (.getfield 12, 3) := by decide +kernel
theorem dX11_beat_46 : decode cX11_beat 46 = .ok (.getfield 341, 3) := by decide +kernel
theorem dX11_beat_49 : decode cX11_beat 49 = .ok (.getfield 105, 3) := by decide +kernel
theorem dX11_beat_52 : decode cX11_beat 52 = .ok (.ireturn, 1) := by decide +kernel

def fX11_beat (p1 : Int32) (σ : qMem) : Option (Int32 × qMem) :=
  ((fX11_isIn p1 1 3000).bind fun y1 => (if y1 = 0 then ((fX11_refuse (-1) σ).bind fun y3 => (some (y3.1, y3.2))) else ((fX11_addTo 31 6 p1 0 0 0 0 σ).bind fun y2 => (if 0 ≤ y2.1 then (some ((gi y2.2 31 3), y2.2)) else (some (y2.1, y2.2))))))
set_option maxRecDepth 20000 in
set_option maxHeartbeats 4000000 in
theorem aX11_beat  (p1 : Int32)  (σ : qMem) : qAt wC mX11_beat (ρi) 0 [(0, .ref 0), (1, .int p1)] [] σ (fX11_beat p1 σ) := by
  unfold fX11_beat
  refine q_iload_n (i := 1) (x := p1) dX11_beat_0 rfl 1 rfl ?_
  refine q_iconst (v := 1) dX11_beat_1 (by decide) ?_
  refine q_sipush (v := 3000) dX11_beat_2 (by decide) ?_
  refine q_cSp mX11_isIn [.int p1, .int 1, .int 3000] (st := []) dX11_beat_5 (ssX11_83) ⟨Nat.le_of_ble_eq_true rfl, Nat.le_of_ble_eq_true rfl⟩ rfl rfl (Nat.le_of_ble_eq_true rfl) (kX11_isIn p1 1 3000 σ) (fun y1 => ?_)
  refine q_if_ne (tgt := 17) dX11_beat_8 (by decide) ?_ ?_
  · refine q_aload_n (i := 0) (x := 0) dX11_beat_17 rfl 0 rfl ?_
    refine q_aload_n (i := 0) (x := 0) dX11_beat_18 rfl 0 rfl ?_
    refine q_getr (t := 1) dX11_beat_19 foX11_12 zC_0 rfl ?_
    refine q_getr (t := 31) dX11_beat_22 foX11_341 zC_1 rfl ?_
    refine q_iload_n (i := 1) (x := p1) dX11_beat_25 rfl 1 rfl ?_
    refine q_iconst (v := 0) dX11_beat_26 (by decide) ?_
    refine q_iconst (v := 0) dX11_beat_27 (by decide) ?_
    refine q_iconst (v := 0) dX11_beat_28 (by decide) ?_
    refine q_iconst (v := 0) dX11_beat_29 (by decide) ?_
    refine q_cVi mX11_addTo [.ref 31, .int p1, .int 0, .int 0, .int 0, .int 0] (st := []) dX11_beat_30 (svX11_281) ⟨Nat.le_of_ble_eq_true rfl, Nat.le_of_ble_eq_true rfl⟩ zC_0 rfl rfl rfl (Nat.le_of_ble_eq_true rfl) (kX11_addTo 31 6 p1 0 0 0 0 pC_31 σ) (fun y2 => ?_)
    refine q_istore_n (i := 2) (L' := [(2, .int y2.1), (0, .ref 0), (1, .int p1)]) dX11_beat_33 rfl (Nat.le_of_ble_eq_true rfl) rfl ?_
    refine q_iload_n (i := 2) (x := y2.1) dX11_beat_34 rfl 0 rfl ?_
    refine q_if_ge (tgt := 42) dX11_beat_35 (by decide) ?_ ?_
    · refine q_aload_n (i := 0) (x := 0) dX11_beat_42 rfl 1 rfl ?_
      refine q_getr (t := 1) dX11_beat_43 foX11_12 zC_0 rfl ?_
      refine q_getr (t := 31) dX11_beat_46 foX11_341 zC_1 rfl ?_
      refine q_geti dX11_beat_49 foX11_105 zC_31 rfl ?_
      exact q_ireti (y := ((gi y2.2 31 3), y2.2)) dX11_beat_52 rfl rfl
    refine q_iload_n (i := 2) (x := y2.1) dX11_beat_38 rfl 0 rfl ?_
    refine q_goto (tgt := 52) dX11_beat_39 (by decide) ?_
    exact q_ireti (y := (y2.1, y2.2)) dX11_beat_52 rfl rfl
  refine q_aload_n (i := 0) (x := 0) dX11_beat_11 rfl 0 rfl ?_
  refine q_iconst (v := (-1)) dX11_beat_12 (by decide) ?_
  refine q_cVi mX11_refuse [.int (-1)] (st := []) dX11_beat_13 (svX11_87) ⟨Nat.le_of_ble_eq_true rfl, Nat.le_of_ble_eq_true rfl⟩ zC_0 rfl rfl rfl (Nat.le_of_ble_eq_true rfl) (kX11_refuse (-1) σ) (fun y3 => ?_)
  exact q_ireti (y := (y3.1, y3.2)) dX11_beat_16 rfl rfl
theorem kX11_beat  (p1 : Int32)  (σ : qMem) : qMc wC mX11_beat (ρi) [.ref 0, .int p1] σ (fX11_beat p1 σ) := qMc_of (moX11_beat) (Nat.le_of_ble_eq_true rfl) (aX11_beat p1  σ)

theorem dX11_beatFits_0 : decode cX11_beatFits 0 = .ok (.iconst 1, 1) := by decide +kernel
theorem dX11_beatFits_1 : decode cX11_beatFits 1 = .ok (.istore_n 2, 1) := by decide +kernel
theorem dX11_beatFits_2 : decode cX11_beatFits 2 = .ok (.iload_n 2, 1) := by decide +kernel
theorem dX11_beatFits_3 : decode cX11_beatFits 3 = .ok (.bipush 21, 2) := by decide +kernel
theorem dX11_beatFits_5 : decode cX11_beatFits 5 = .ok (.if_icmp .gt 23, 3) := by decide +kernel
theorem dX11_beatFits_8 : decode cX11_beatFits 8 = .ok (.iload_n 0, 1) := by decide +kernel
theorem dX11_beatFits_9 : decode cX11_beatFits 9 = .ok (.iload_n 1, 1) := by decide +kernel
theorem dX11_beatFits_10 : decode cX11_beatFits 10 = .ok (.iload_n 2, 1) := by decide +kernel
theorem dX11_beatFits_11 : decode cX11_beatFits 11 = .ok (.imul, 1) := by decide +kernel
theorem dX11_beatFits_12 : decode cX11_beatFits 12 = .ok (.isub, 1) := by decide +kernel
theorem dX11_beatFits_13 : decode cX11_beatFits 13 = .ok (.invokestatic 396, 3) := by decide +kernel
theorem dX11_beatFits_16 : decode cX11_beatFits 16 = .ok (.iconst 1, 1) := by decide +kernel
theorem dX11_beatFits_17 : decode cX11_beatFits 17 = .ok (.if_icmp .gt 5, 3) := by decide +kernel
theorem dX11_beatFits_20 : decode cX11_beatFits 20 = .ok (.iconst 1, 1) := by decide +kernel
theorem dX11_beatFits_21 : decode cX11_beatFits 21 = .ok (.ireturn, 1) := by decide +kernel
theorem dX11_beatFits_22 : decode cX11_beatFits 22 = .ok (.iinc 2 1, 3) := by decide +kernel
theorem dX11_beatFits_25 : decode cX11_beatFits 25 = .ok (.goto (-23), 3) := by decide +kernel
theorem dX11_beatFits_28 : decode cX11_beatFits 28 = .ok (.iconst 0, 1) := by decide +kernel
theorem dX11_beatFits_29 : decode cX11_beatFits 29 = .ok (.ireturn, 1) := by decide +kernel
def fX11_beatFits_s2 (N : Nat) (c2 : Int32 → Int32 → Int32 → Option Int32) (v0 : Int32) (v1 : Int32) (v2 : Int32) : Option Int32 :=
  (if 21 < v2 then (some 0) else ((fJ9_abs_0f7a4 (v0 - (v1 * v2))).bind fun y1 => (if 1 < y1 then (c2 v0 v1 (v2 + 1)) else (some 1))))
set_option maxRecDepth 20000 in
set_option maxHeartbeats 4000000 in
theorem aX11_beatFits_s2 (N : Nat) (σ : qMem) (c2 : Int32 → Int32 → Int32 → Option Int32) (hc2 : ∀ (v0 : Int32) (v1 : Int32) (v2 : Int32) , qAt wC mX11_beatFits (ρp σ) 2 [(0, .int v0), (1, .int v1), (2, .int v2)] [] σ (c2 v0 v1 v2)) (v0 : Int32) (v1 : Int32) (v2 : Int32) : qAt wC mX11_beatFits (ρp σ) 2 [(0, .int v0), (1, .int v1), (2, .int v2)] [] σ (fX11_beatFits_s2 N c2 v0 v1 v2) := by
  unfold fX11_beatFits_s2
  refine q_iload_n (i := 2) (x := v2) dX11_beatFits_2 rfl 2 rfl ?_
  refine q_bipush (v := 21) dX11_beatFits_3 (by decide) ?_
  refine q_icmp_gt (tgt := 28) dX11_beatFits_5 (by decide) ?_ ?_
  · refine q_iconst (v := 0) dX11_beatFits_28 (by decide) ?_
    exact q_iretz (y := 0) dX11_beatFits_29 rfl rfl rfl
  refine q_iload_n (i := 0) (x := v0) dX11_beatFits_8 rfl 0 rfl ?_
  refine q_iload_n (i := 1) (x := v1) dX11_beatFits_9 rfl 1 rfl ?_
  refine q_iload_n (i := 2) (x := v2) dX11_beatFits_10 rfl 2 rfl ?_
  refine q_imul dX11_beatFits_11 ?_
  refine q_isub dX11_beatFits_12 ?_
  refine q_cSp mJ9_abs_0f7a4 [.int (v0 - (v1 * v2))] (st := []) dX11_beatFits_13 (ssX11_396) ⟨Nat.le_of_ble_eq_true rfl, Nat.le_of_ble_eq_true rfl⟩ rfl rfl (Nat.le_of_ble_eq_true rfl) (kJ9_abs_0f7a4 (v0 - (v1 * v2)) σ) (fun y1 => ?_)
  refine q_iconst (v := 1) dX11_beatFits_16 (by decide) ?_
  refine q_icmp_gt (tgt := 22) dX11_beatFits_17 (by decide) ?_ ?_
  · refine q_iinc (i := 2) (x := v2) (v := (v2 + 1)) (L' := [(2, .int (v2 + 1)), (0, .int v0), (1, .int v1)]) dX11_beatFits_22 2 rfl (q_cst v2 (by decide)) (Nat.le_of_ble_eq_true rfl) rfl ?_
    refine q_goto (tgt := 2) dX11_beatFits_25 (by decide) ?_
    exact q_sub [1, 2, 0] rfl (hc2 v0 v1 (v2 + 1))
  refine q_iconst (v := 1) dX11_beatFits_20 (by decide) ?_
  exact q_iretz (y := 1) dX11_beatFits_21 rfl rfl rfl
def fX11_beatFits_l2 (N : Nat) : Nat → Int32 → Int32 → Int32 → Option Int32
  | 0 => fun _ _ _ => none
  | n + 1 => fun v0 v1 v2 => fX11_beatFits_s2 N (fX11_beatFits_l2 N n) v0 v1 v2
theorem aX11_beatFits_l2 (N : Nat) (σ : qMem) : ∀ (n : Nat) (v0 : Int32) (v1 : Int32) (v2 : Int32), qAt wC mX11_beatFits (ρp σ) 2 [(0, .int v0), (1, .int v1), (2, .int v2)] [] σ (fX11_beatFits_l2 N n v0 v1 v2) := by
  intro n
  induction n with
  | zero => intro v0 v1 v2; exact q_none
  | succ n ih => intro v0 v1 v2; exact aX11_beatFits_s2 N σ (fX11_beatFits_l2 N n) ih v0 v1 v2

def fX11_beatFits (N : Nat) (p0 : Int32) (p1 : Int32) : Option Int32 :=
  (fX11_beatFits_l2 N N p0 p1 1)
set_option maxRecDepth 20000 in
set_option maxHeartbeats 4000000 in
theorem aX11_beatFits  (N : Nat) (p0 : Int32) (p1 : Int32)  (σ : qMem) : qAt wC mX11_beatFits (ρp σ) 0 [(0, .int p0), (1, .int p1)] [] σ (fX11_beatFits N p0 p1) := by
  unfold fX11_beatFits
  refine q_iconst (v := 1) dX11_beatFits_0 (by decide) ?_
  refine q_istore_n (i := 2) (L' := [(2, .int 1), (0, .int p0), (1, .int p1)]) dX11_beatFits_1 rfl (Nat.le_of_ble_eq_true rfl) rfl ?_
  exact q_sub [1, 2, 0] rfl (aX11_beatFits_l2 N σ N p0 p1 1)
theorem kX11_beatFits  (N : Nat) (p0 : Int32) (p1 : Int32)  (σ : qMem) : qMc wC mX11_beatFits (ρp σ) [.int p0, .int p1] σ (fX11_beatFits N p0 p1) := qMc_of (moX11_beatFits) (Nat.le_of_ble_eq_true rfl) (aX11_beatFits N p0 p1  σ)

theorem dX11_screwFits_0 : decode cX11_screwFits 0 = .ok (.aload_n 0, 1) := by decide +kernel
theorem dX11_screwFits_1 : decode cX11_screwFits 1 = .ok (.getfield 12, 3) := by decide +kernel
theorem dX11_screwFits_4 : decode cX11_screwFits 4 = .ok (.getfield 341, 3) := by decide +kernel
theorem dX11_screwFits_7 : decode cX11_screwFits 7 = .ok (.getfield 105, 3) := by decide +kernel
theorem dX11_screwFits_10 : decode cX11_screwFits 10 = .ok (.ifCond .eq 26, 3) := by decide +kernel
theorem dX11_screwFits_13 : decode cX11_screwFits 13 = .ok (.aload_n 0, 1) := by decide +kernel
theorem dX11_screwFits_14 : decode cX11_screwFits 14 = .ok (.getfield 12, 3) := by decide +kernel
theorem dX11_screwFits_17 : decode cX11_screwFits 17 = .ok (.getfield 341, 3) := by decide +kernel
theorem dX11_screwFits_20 : decode cX11_screwFits 20 = .ok (.iconst 0, 1) := by decide +kernel
theorem dX11_screwFits_21 : decode cX11_screwFits 21 = .ok (.iconst 0, 1) := by decide +kernel
theorem dX11_screwFits_22 : decode cX11_screwFits 22 = .ok (.invokevirtual 123, 3) := by decide +kernel
theorem dX11_screwFits_25 : decode cX11_screwFits 25 = .ok (.iload_n 1, 1) := by decide +kernel
theorem dX11_screwFits_26 : decode cX11_screwFits 26 = .ok (.iload_n 2, 1) := by decide +kernel
theorem dX11_screwFits_27 : decode cX11_screwFits 27 = .ok (.imul, 1) := by decide +kernel
theorem dX11_screwFits_28 : decode cX11_screwFits 28 = .ok (.isub, 1) := by decide +kernel
theorem dX11_screwFits_29 : decode cX11_screwFits 29 = .ok (.invokestatic 396, 3) := by decide +kernel
theorem dX11_screwFits_32 : decode cX11_screwFits 32 = .ok (.iconst 1, 1) := by decide +kernel
theorem dX11_screwFits_33 : decode cX11_screwFits 33 = .ok (.if_icmp .le 5, 3) := by decide +kernel
theorem dX11_screwFits_36 : decode cX11_screwFits 36 = .ok (.iconst 0, 1) := by decide +kernel
theorem dX11_screwFits_37 : decode cX11_screwFits 37 = .ok (.ireturn, 1) := by decide +kernel
theorem dX11_screwFits_38 : decode cX11_screwFits 38 = .ok (.iconst 1, 1) := by decide +kernel
theorem dX11_screwFits_39 : decode cX11_screwFits 39 = .ok (.istore_n 3, 1) := by decide +kernel
theorem dX11_screwFits_40 : decode cX11_screwFits 40 = .ok (.iload_n 3, 1) := by decide +kernel
theorem dX11_screwFits_41 : decode cX11_screwFits 41 = .ok (.aload_n 0, 1) := by decide +kernel
theorem dX11_screwFits_42 : decode cX11_screwFits 42 = .ok (.getfield 12, 3) := by decide +kernel
theorem dX11_screwFits_45 : decode cX11_screwFits 45 = .ok (.getfield 341, 3) := by decide +kernel
theorem dX11_screwFits_48 : decode cX11_screwFits 48 = .ok (.getfield 105, 3) := by decide +kernel
theorem dX11_screwFits_51 : decode cX11_screwFits 51 = .ok (.if_icmp .ge 30, 3) := by decide +kernel
theorem dX11_screwFits_54 : decode cX11_screwFits 54 = .ok (.aload_n 0, 1) := by decide +kernel
theorem dX11_screwFits_55 : decode cX11_screwFits 55 = .ok (.getfield 12, 3) := by decide +kernel
theorem dX11_screwFits_58 : decode cX11_screwFits 58 = .ok (.getfield 341, 3) := by decide +kernel
theorem dX11_screwFits_61 : decode cX11_screwFits 61 = .ok (.iload_n 3, 1) := by decide +kernel
theorem dX11_screwFits_62 : decode cX11_screwFits 62 = .ok (.iconst 0, 1) := by decide +kernel
theorem dX11_screwFits_63 : decode cX11_screwFits 63 = .ok (.invokevirtual 123, 3) := by decide +kernel
theorem dX11_screwFits_66 : decode cX11_screwFits 66 = .ok (.iload_n 1, 1) := by decide +kernel
theorem dX11_screwFits_67 : decode cX11_screwFits 67 = .ok (.invokestatic 402, 3) := by decide +kernel
theorem dX11_screwFits_70 : decode cX11_screwFits 70 = .ok (.ifCond .ne 5, 3) := by decide +kernel
theorem dX11_screwFits_73 : decode cX11_screwFits 73 = .ok (.iconst 0, 1) := by decide +kernel
theorem dX11_screwFits_74 : decode cX11_screwFits 74 = .ok (.ireturn, 1) := by decide +kernel
theorem dX11_screwFits_75 : decode cX11_screwFits 75 = .ok (.iinc 3 1, 3) := by decide +kernel
theorem dX11_screwFits_78 : decode cX11_screwFits 78 = .ok (.goto (-38), 3) := by decide +kernel
theorem dX11_screwFits_81 : decode cX11_screwFits 81 = .ok (.iconst 1, 1) := by decide +kernel
theorem dX11_screwFits_82 : decode cX11_screwFits 82 = .ok (.ireturn, 1) := by decide +kernel
def fX11_screwFits_s40 (N : Nat) (c40 : Int32 → Int32 → Option Int32) (v1 : Int32) (v3 : Int32) (σ : qMem) : Option Int32 :=
  (if (gi σ 31 3) ≤ v3 then (some 1) else ((fX8_at 31 6 v3 0 σ).bind fun y3 => ((fX11_beatFits N y3 v1).bind fun y4 => (if y4 = 0 then (some 0) else (c40 v1 (v3 + 1))))))
set_option maxRecDepth 20000 in
set_option maxHeartbeats 4000000 in
theorem aX11_screwFits_s40 (N : Nat) (σ : qMem) (c40 : Int32 → Int32 → Option Int32) (hc40 : ∀ (v1 : Int32) (v3 : Int32) , qAt wC mX11_screwFits (ρp σ) 40 [(0, .ref 0), (1, .int v1), (3, .int v3)] [] σ (c40 v1 v3)) (v1 : Int32) (v3 : Int32) : qAt wC mX11_screwFits (ρp σ) 40 [(0, .ref 0), (1, .int v1), (3, .int v3)] [] σ (fX11_screwFits_s40 N c40 v1 v3 σ) := by
  unfold fX11_screwFits_s40
  refine q_iload_n (i := 3) (x := v3) dX11_screwFits_40 rfl 2 rfl ?_
  refine q_aload_n (i := 0) (x := 0) dX11_screwFits_41 rfl 0 rfl ?_
  refine q_getr (t := 1) dX11_screwFits_42 foX11_12 zC_0 rfl ?_
  refine q_getr (t := 31) dX11_screwFits_45 foX11_341 zC_1 rfl ?_
  refine q_geti dX11_screwFits_48 foX11_105 zC_31 rfl ?_
  refine q_icmp_ge (tgt := 81) dX11_screwFits_51 (by decide) ?_ ?_
  · refine q_iconst (v := 1) dX11_screwFits_81 (by decide) ?_
    exact q_iretz (y := 1) dX11_screwFits_82 rfl rfl rfl
  refine q_aload_n (i := 0) (x := 0) dX11_screwFits_54 rfl 0 rfl ?_
  refine q_getr (t := 1) dX11_screwFits_55 foX11_12 zC_0 rfl ?_
  refine q_getr (t := 31) dX11_screwFits_58 foX11_341 zC_1 rfl ?_
  refine q_iload_n (i := 3) (x := v3) dX11_screwFits_61 rfl 2 rfl ?_
  refine q_iconst (v := 0) dX11_screwFits_62 (by decide) ?_
  refine q_cVp mX8_at [.int v3, .int 0] (st := []) dX11_screwFits_63 (svX11_123) ⟨Nat.le_of_ble_eq_true rfl, Nat.le_of_ble_eq_true rfl⟩ zC_31 rfl rfl rfl (Nat.le_of_ble_eq_true rfl) (kX8_at 31 6 v3 0 pC_31 σ) (fun y3 => ?_)
  refine q_iload_n (i := 1) (x := v1) dX11_screwFits_66 rfl 1 rfl ?_
  refine q_cSp mX11_beatFits [.int y3, .int v1] (st := []) dX11_screwFits_67 (ssX11_402) ⟨Nat.le_of_ble_eq_true rfl, Nat.le_of_ble_eq_true rfl⟩ rfl rfl (Nat.le_of_ble_eq_true rfl) (kX11_beatFits N y3 v1 σ) (fun y4 => ?_)
  refine q_if_ne (tgt := 75) dX11_screwFits_70 (by decide) ?_ ?_
  · refine q_iinc (i := 3) (x := v3) (v := (v3 + 1)) (L' := [(3, .int (v3 + 1)), (0, .ref 0), (1, .int v1)]) dX11_screwFits_75 2 rfl (q_cst v3 (by decide)) (Nat.le_of_ble_eq_true rfl) rfl ?_
    refine q_goto (tgt := 40) dX11_screwFits_78 (by decide) ?_
    exact q_sub [1, 2, 0] rfl (hc40 v1 (v3 + 1))
  refine q_iconst (v := 0) dX11_screwFits_73 (by decide) ?_
  exact q_iretz (y := 0) dX11_screwFits_74 rfl rfl rfl
def fX11_screwFits_l40 (N : Nat) (σ : qMem) : Nat → Int32 → Int32 → Option Int32
  | 0 => fun _ _ => none
  | n + 1 => fun v1 v3 => fX11_screwFits_s40 N (fX11_screwFits_l40 N σ n) v1 v3 σ
theorem aX11_screwFits_l40 (N : Nat) (σ : qMem) : ∀ (n : Nat) (v1 : Int32) (v3 : Int32), qAt wC mX11_screwFits (ρp σ) 40 [(0, .ref 0), (1, .int v1), (3, .int v3)] [] σ (fX11_screwFits_l40 N σ n v1 v3) := by
  intro n
  induction n with
  | zero => intro v1 v3; exact q_none
  | succ n ih => intro v1 v3; exact aX11_screwFits_s40 N σ (fX11_screwFits_l40 N σ n) ih v1 v3

def fX11_screwFits (N : Nat) (p1 : Int32) (p2 : Int32) (σ : qMem) : Option Int32 :=
  (if (gi σ 31 3) = 0 then (some 0) else ((fX8_at 31 6 0 0 σ).bind fun y1 => ((fJ9_abs_0f7a4 (y1 - (p1 * p2))).bind fun y2 => (if y2 ≤ 1 then (fX11_screwFits_l40 N σ N p1 1) else (some 0)))))
set_option maxRecDepth 20000 in
set_option maxHeartbeats 4000000 in
theorem aX11_screwFits  (N : Nat) (p1 : Int32) (p2 : Int32)  (σ : qMem) : qAt wC mX11_screwFits (ρp σ) 0 [(0, .ref 0), (1, .int p1), (2, .int p2)] [] σ (fX11_screwFits N p1 p2 σ) := by
  unfold fX11_screwFits
  refine q_aload_n (i := 0) (x := 0) dX11_screwFits_0 rfl 0 rfl ?_
  refine q_getr (t := 1) dX11_screwFits_1 foX11_12 zC_0 rfl ?_
  refine q_getr (t := 31) dX11_screwFits_4 foX11_341 zC_1 rfl ?_
  refine q_geti dX11_screwFits_7 foX11_105 zC_31 rfl ?_
  refine q_if_eq (tgt := 36) dX11_screwFits_10 (by decide) ?_ ?_
  · refine q_iconst (v := 0) dX11_screwFits_36 (by decide) ?_
    exact q_iretz (y := 0) dX11_screwFits_37 rfl rfl rfl
  refine q_aload_n (i := 0) (x := 0) dX11_screwFits_13 rfl 0 rfl ?_
  refine q_getr (t := 1) dX11_screwFits_14 foX11_12 zC_0 rfl ?_
  refine q_getr (t := 31) dX11_screwFits_17 foX11_341 zC_1 rfl ?_
  refine q_iconst (v := 0) dX11_screwFits_20 (by decide) ?_
  refine q_iconst (v := 0) dX11_screwFits_21 (by decide) ?_
  refine q_cVp mX8_at [.int 0, .int 0] (st := []) dX11_screwFits_22 (svX11_123) ⟨Nat.le_of_ble_eq_true rfl, Nat.le_of_ble_eq_true rfl⟩ zC_31 rfl rfl rfl (Nat.le_of_ble_eq_true rfl) (kX8_at 31 6 0 0 pC_31 σ) (fun y1 => ?_)
  refine q_iload_n (i := 1) (x := p1) dX11_screwFits_25 rfl 1 rfl ?_
  refine q_iload_n (i := 2) (x := p2) dX11_screwFits_26 rfl 2 rfl ?_
  refine q_imul dX11_screwFits_27 ?_
  refine q_isub dX11_screwFits_28 ?_
  refine q_cSp mJ9_abs_0f7a4 [.int (y1 - (p1 * p2))] (st := []) dX11_screwFits_29 (ssX11_396) ⟨Nat.le_of_ble_eq_true rfl, Nat.le_of_ble_eq_true rfl⟩ rfl rfl (Nat.le_of_ble_eq_true rfl) (kJ9_abs_0f7a4 (y1 - (p1 * p2)) σ) (fun y2 => ?_)
  refine q_iconst (v := 1) dX11_screwFits_32 (by decide) ?_
  refine q_icmp_le (tgt := 38) dX11_screwFits_33 (by decide) ?_ ?_
  · refine q_iconst (v := 1) dX11_screwFits_38 (by decide) ?_
    refine q_istore_n (i := 3) (L' := [(3, .int 1), (0, .ref 0), (1, .int p1), (2, .int p2)]) dX11_screwFits_39 rfl (Nat.le_of_ble_eq_true rfl) rfl ?_
    exact q_sub [1, 2, 0] rfl (aX11_screwFits_l40 N σ N p1 1)
  refine q_iconst (v := 0) dX11_screwFits_36 (by decide) ?_
  exact q_iretz (y := 0) dX11_screwFits_37 rfl rfl rfl
theorem kX11_screwFits  (N : Nat) (p1 : Int32) (p2 : Int32)  (σ : qMem) : qMc wC mX11_screwFits (ρp σ) [.ref 0, .int p1, .int p2] σ (fX11_screwFits N p1 p2 σ) := qMc_of (moX11_screwFits) (Nat.le_of_ble_eq_true rfl) (aX11_screwFits N p1 p2  σ)

theorem dX11_screws_0 : decode cX11_screws 0 = .ok (.iconst 0, 1) := by decide +kernel
theorem dX11_screws_1 : decode cX11_screws 1 = .ok (.istore_n 1, 1) := by decide +kernel
theorem dX11_screws_2 : decode cX11_screws 2 = .ok (.iconst 0, 1) := by decide +kernel
theorem dX11_screws_3 : decode cX11_screws 3 = .ok (.istore_n 2, 1) := by decide +kernel
theorem dX11_screws_4 : decode cX11_screws 4 = .ok (.iload_n 2, 1) := by decide +kernel
theorem dX11_screws_5 : decode cX11_screws 5 = .ok (.sipush 1500, 3) := by decide +kernel
theorem dX11_screws_8 : decode cX11_screws 8 = .ok (.if_icmp .ge 29, 3) := by decide +kernel
theorem dX11_screws_11 : decode cX11_screws 11 = .ok (.aload_n 0, 1) := by decide +kernel
theorem dX11_screws_12 : decode cX11_screws 12 = .ok (.iconst 1, 1) := by decide +kernel
theorem dX11_screws_13 : decode cX11_screws 13 = .ok (.iload_n 2, 1) := by decide +kernel
theorem dX11_screws_14 : decode cX11_screws 14 = .ok (.iconst 5, 1) := by decide +kernel
theorem dX11_screws_15 : decode cX11_screws 15 = .ok (.idiv, 1) := by decide +kernel
theorem dX11_screws_16 : decode cX11_screws 16 = .ok (.iadd, 1) := by decide +kernel
theorem dX11_screws_17 : decode cX11_screws 17 = .ok (.iconst 3, 1) := by decide +kernel
theorem dX11_screws_18 : decode cX11_screws 18 = .ok (.iload_n 2, 1) := by decide +kernel
theorem dX11_screws_19 : decode cX11_screws 19 = .ok (.iconst 5, 1) := by decide +kernel
theorem dX11_screws_20 : decode cX11_screws 20 = .ok (.irem, 1) := by decide +kernel
theorem dX11_screws_21 : decode cX11_screws 21 = .ok (.iadd, 1) := by decide +kernel
theorem dX11_screws_22 : decode cX11_screws 22 = .ok (.invokevirtual 344, 3) := by decide +kernel
theorem dX11_screws_25 : decode cX11_screws 25 = .ok (.ifCond .eq 6, 3) := by decide +kernel
theorem dX11_screws_28 : decode cX11_screws 28 = .ok (.iinc 1 1, 3) := by decide +kernel
theorem dX11_screws_31 : decode cX11_screws 31 = .ok (.iinc 2 1, 3) := by decide +kernel
theorem dX11_screws_34 : decode cX11_screws 34 = .ok (.goto (-30), 3) := by decide +kernel
theorem dX11_screws_37 : decode cX11_screws 37 = .ok (.iload_n 1, 1) := by decide +kernel
theorem dX11_screws_38 : decode cX11_screws 38 = .ok (.ireturn, 1) := by decide +kernel
def fX11_screws_b31 (N : Nat) (c4 : Int32 → Int32 → Option Int32) (v1 : Int32) (v2 : Int32) (σ : qMem) : Option Int32 :=
  (c4 v1 (v2 + 1))
set_option maxRecDepth 20000 in
set_option maxHeartbeats 4000000 in
theorem aX11_screws_b31 (N : Nat) (σ : qMem) (c4 : Int32 → Int32 → Option Int32) (hc4 : ∀ (v1 : Int32) (v2 : Int32) , qAt wC mX11_screws (ρp σ) 4 [(0, .ref 0), (1, .int v1), (2, .int v2)] [] σ (c4 v1 v2)) (v1 : Int32) (v2 : Int32) : qAt wC mX11_screws (ρp σ) 31 [(0, .ref 0), (1, .int v1), (2, .int v2)] [] σ (fX11_screws_b31 N c4 v1 v2 σ) := by
  unfold fX11_screws_b31
  refine q_iinc (i := 2) (x := v2) (v := (v2 + 1)) (L' := [(2, .int (v2 + 1)), (0, .ref 0), (1, .int v1)]) dX11_screws_31 2 rfl (q_cst v2 (by decide)) (Nat.le_of_ble_eq_true rfl) rfl ?_
  refine q_goto (tgt := 4) dX11_screws_34 (by decide) ?_
  exact q_sub [1, 2, 0] rfl (hc4 v1 (v2 + 1))

def fX11_screws_s4 (N : Nat) (c4 : Int32 → Int32 → Option Int32) (v1 : Int32) (v2 : Int32) (σ : qMem) : Option Int32 :=
  (if 1500 ≤ v2 then (some v1) else ((fX11_screwFits N (1 + (v2 / 5)) (3 + (irm v2 5)) σ).bind fun y1 => (if y1 = 0 then (fX11_screws_b31 N c4 v1 v2 σ) else (fX11_screws_b31 N c4 (v1 + 1) v2 σ))))
set_option maxRecDepth 20000 in
set_option maxHeartbeats 4000000 in
theorem aX11_screws_s4 (N : Nat) (σ : qMem) (c4 : Int32 → Int32 → Option Int32) (hc4 : ∀ (v1 : Int32) (v2 : Int32) , qAt wC mX11_screws (ρp σ) 4 [(0, .ref 0), (1, .int v1), (2, .int v2)] [] σ (c4 v1 v2)) (v1 : Int32) (v2 : Int32) : qAt wC mX11_screws (ρp σ) 4 [(0, .ref 0), (1, .int v1), (2, .int v2)] [] σ (fX11_screws_s4 N c4 v1 v2 σ) := by
  unfold fX11_screws_s4
  refine q_iload_n (i := 2) (x := v2) dX11_screws_4 rfl 2 rfl ?_
  refine q_sipush (v := 1500) dX11_screws_5 (by decide) ?_
  refine q_icmp_ge (tgt := 37) dX11_screws_8 (by decide) ?_ ?_
  · refine q_iload_n (i := 1) (x := v1) dX11_screws_37 rfl 1 rfl ?_
    exact q_ireti (y := v1) dX11_screws_38 rfl rfl
  refine q_aload_n (i := 0) (x := 0) dX11_screws_11 rfl 0 rfl ?_
  refine q_iconst (v := 1) dX11_screws_12 (by decide) ?_
  refine q_iload_n (i := 2) (x := v2) dX11_screws_13 rfl 2 rfl ?_
  refine q_iconst (v := 5) dX11_screws_14 (by decide) ?_
  refine q_idiv dX11_screws_15 (by decide) ?_
  refine q_iadd dX11_screws_16 ?_
  refine q_iconst (v := 3) dX11_screws_17 (by decide) ?_
  refine q_iload_n (i := 2) (x := v2) dX11_screws_18 rfl 2 rfl ?_
  refine q_iconst (v := 5) dX11_screws_19 (by decide) ?_
  refine q_irem dX11_screws_20 (by decide) ?_
  refine q_iadd dX11_screws_21 ?_
  refine q_cVp mX11_screwFits [.int (1 + (v2 / 5)), .int (3 + (irm v2 5))] (st := []) dX11_screws_22 (svX11_344) ⟨Nat.le_of_ble_eq_true rfl, Nat.le_of_ble_eq_true rfl⟩ zC_0 rfl rfl rfl (Nat.le_of_ble_eq_true rfl) (kX11_screwFits N (1 + (v2 / 5)) (3 + (irm v2 5)) σ) (fun y1 => ?_)
  refine q_if_eq (tgt := 31) dX11_screws_25 (by decide) ?_ ?_
  · exact q_sub [0, 1, 2] rfl (aX11_screws_b31 N σ c4 hc4 v1 v2)
  refine q_iinc (i := 1) (x := v1) (v := (v1 + 1)) (L' := [(1, .int (v1 + 1)), (0, .ref 0), (2, .int v2)]) dX11_screws_28 1 rfl (q_cst v1 (by decide)) (Nat.le_of_ble_eq_true rfl) rfl ?_
  exact q_sub [1, 0, 2] rfl (aX11_screws_b31 N σ c4 hc4 (v1 + 1) v2)
def fX11_screws_l4 (N : Nat) (σ : qMem) : Nat → Int32 → Int32 → Option Int32
  | 0 => fun _ _ => none
  | n + 1 => fun v1 v2 => fX11_screws_s4 N (fX11_screws_l4 N σ n) v1 v2 σ
theorem aX11_screws_l4 (N : Nat) (σ : qMem) : ∀ (n : Nat) (v1 : Int32) (v2 : Int32), qAt wC mX11_screws (ρp σ) 4 [(0, .ref 0), (1, .int v1), (2, .int v2)] [] σ (fX11_screws_l4 N σ n v1 v2) := by
  intro n
  induction n with
  | zero => intro v1 v2; exact q_none
  | succ n ih => intro v1 v2; exact aX11_screws_s4 N σ (fX11_screws_l4 N σ n) ih v1 v2

def fX11_screws (N : Nat)  (σ : qMem) : Option Int32 :=
  (fX11_screws_l4 N σ N 0 0)
set_option maxRecDepth 20000 in
set_option maxHeartbeats 4000000 in
theorem aX11_screws  (N : Nat)   (σ : qMem) : qAt wC mX11_screws (ρp σ) 0 [(0, .ref 0)] [] σ (fX11_screws N σ) := by
  unfold fX11_screws
  refine q_iconst (v := 0) dX11_screws_0 (by decide) ?_
  refine q_istore_n (i := 1) (L' := [(1, .int 0), (0, .ref 0)]) dX11_screws_1 rfl (Nat.le_of_ble_eq_true rfl) rfl ?_
  refine q_iconst (v := 0) dX11_screws_2 (by decide) ?_
  refine q_istore_n (i := 2) (L' := [(2, .int 0), (1, .int 0), (0, .ref 0)]) dX11_screws_3 rfl (Nat.le_of_ble_eq_true rfl) rfl ?_
  exact q_sub [2, 1, 0] rfl (aX11_screws_l4 N σ N 0 0)
theorem kX11_screws  (N : Nat)   (σ : qMem) : qMc wC mX11_screws (ρp σ) [.ref 0] σ (fX11_screws N σ) := qMc_of (moX11_screws) (Nat.le_of_ble_eq_true rfl) (aX11_screws N  σ)

theorem dX11_screw_0 : decode cX11_screw 0 = .ok (.iload_n 1, 1) := by decide +kernel
theorem dX11_screw_1 : decode cX11_screw 1 = .ok (.ifCond .lt 12, 3) := by decide +kernel
theorem dX11_screw_4 : decode cX11_screw 4 = .ok (.iload_n 2, 1) := by decide +kernel
theorem dX11_screw_5 : decode cX11_screw 5 = .ok (.iconst 0, 1) := by decide +kernel
theorem dX11_screw_6 : decode cX11_screw 6 = .ok (.iconst 1, 1) := by decide +kernel
theorem dX11_screw_7 : decode cX11_screw 7 = .ok (.invokestatic 83, 3) := by decide +kernel
theorem dX11_screw_10 : decode cX11_screw 10 = .ok (.ifCond .ne 5, 3) := by decide +kernel
theorem dX11_screw_13 : decode cX11_screw 13 = .ok (.iconst (-1), 1) := by decide +kernel
theorem dX11_screw_14 : decode cX11_screw 14 = .ok (.ireturn, 1) := by decide +kernel
theorem dX11_screw_15 : decode cX11_screw 15 = .ok (.iload_n 1, 1) := by decide +kernel
theorem dX11_screw_16 : decode cX11_screw 16 = .ok (.istore_n 3, 1) := by decide +kernel
theorem dX11_screw_17 : decode cX11_screw 17 = .ok (.iconst 0, 1) := by decide +kernel
theorem dX11_screw_18 : decode cX11_screw 18 = .ok (.istore 4, 2) := by decide +kernel
theorem dX11_screw_20 : decode cX11_screw 20 = .ok (.iload 4, 2) := by decide +kernel
theorem dX11_screw_22 : decode cX11_screw 22 = .ok (.sipush 1500, 3) := by decide +kernel
theorem dX11_screw_25 : decode cX11_screw 25 = .ok (.if_icmp .ge 55, 3) := by decide +kernel
theorem dX11_screw_28 : decode cX11_screw 28 = .ok (.aload_n 0, 1) := by decide +kernel
theorem dX11_screw_29 : decode cX11_screw 29 = .ok (.iconst 1, 1) := by decide +kernel
theorem dX11_screw_30 : decode cX11_screw 30 = .ok (.iload 4, 2) := by decide +kernel
theorem dX11_screw_32 : decode cX11_screw 32 = .ok (.iconst 5, 1) := by decide +kernel
theorem dX11_screw_33 : decode cX11_screw 33 = .ok (.idiv, 1) := by decide +kernel
theorem dX11_screw_34 : decode cX11_screw 34 = .ok (.iadd, 1) := by decide +kernel
theorem dX11_screw_35 : decode cX11_screw 35 = .ok (.iconst 3, 1) := by decide +kernel
theorem dX11_screw_36 : decode cX11_screw 36 = .ok (.iload 4, 2) := by decide +kernel
theorem dX11_screw_38 : decode cX11_screw 38 = .ok (.iconst 5, 1) := by decide +kernel
theorem dX11_screw_39 : decode cX11_screw 39 = .ok (.irem, 1) := by decide +kernel
theorem dX11_screw_40 : decode cX11_screw 40 = .ok (.iadd, 1) := by decide +kernel
theorem dX11_screw_41 : decode cX11_screw 41 = .ok (.invokevirtual 344, 3) := by decide +kernel
theorem dX11_screw_44 : decode cX11_screw 44 = .ok (.ifCond .eq 30, 3) := by decide +kernel
theorem dX11_screw_47 : decode cX11_screw 47 = .ok (.iload_n 3, 1) := by decide +kernel
theorem dX11_screw_48 : decode cX11_screw 48 = .ok (.ifCond .ne 23, 3) := by decide +kernel
theorem dX11_screw_51 : decode cX11_screw 51 = .ok (.iload_n 2, 1) := by decide +kernel
theorem dX11_screw_52 : decode cX11_screw 52 = .ok (.ifCond .ne 12, 3) := by decide +kernel
theorem dX11_screw_55 : decode cX11_screw 55 = .ok (.iconst 1, 1) := by decide +kernel
theorem dX11_screw_56 : decode cX11_screw 56 = .ok (.iload 4, 2) := by decide +kernel
theorem dX11_screw_58 : decode cX11_screw 58 = .ok (.iconst 5, 1) := by decide +kernel
theorem dX11_screw_59 : decode cX11_screw 59 = .ok (.idiv, 1) := by decide +kernel
theorem dX11_screw_60 : decode cX11_screw 60 = .ok (.iadd, 1) := by decide +kernel
theorem dX11_screw_61 : decode cX11_screw 61 = .ok (.goto 9, 3) := by decide +kernel
theorem dX11_screw_64 : decode cX11_screw 64 = .ok (.iconst 3, 1) := by decide +kernel
theorem dX11_screw_65 : decode cX11_screw 65 = .ok (.iload 4, 2) := by decide +kernel
theorem dX11_screw_67 : decode cX11_screw 67 = .ok (.iconst 5, 1) := by decide +kernel
theorem dX11_screw_68 : decode cX11_screw 68 = .ok (.irem, 1) := by decide +kernel
theorem dX11_screw_69 : decode cX11_screw 69 = .ok (.iadd, 1) := by decide +kernel
theorem dX11_screw_70 : decode cX11_screw 70 = .ok (.ireturn, 1) := by decide +kernel
theorem dX11_screw_71 : decode cX11_screw 71 = .ok (.iinc 3 (-1), 3) := by decide +kernel
theorem dX11_screw_74 : decode cX11_screw 74 = .ok (.iinc 4 1, 3) := by decide +kernel
theorem dX11_screw_77 : decode cX11_screw 77 = .ok (.goto (-57), 3) := by decide +kernel
theorem dX11_screw_80 : decode cX11_screw 80 = .ok (.iconst (-1), 1) := by decide +kernel
theorem dX11_screw_81 : decode cX11_screw 81 = .ok (.ireturn, 1) := by decide +kernel
def fX11_screw_b74 (N : Nat) (c20 : Int32 → Int32 → Int32 → Option Int32) (v2 : Int32) (v3 : Int32) (v4 : Int32) (σ : qMem) : Option Int32 :=
  (c20 v2 v3 (v4 + 1))
set_option maxRecDepth 20000 in
set_option maxHeartbeats 4000000 in
theorem aX11_screw_b74 (N : Nat) (σ : qMem) (c20 : Int32 → Int32 → Int32 → Option Int32) (hc20 : ∀ (v2 : Int32) (v3 : Int32) (v4 : Int32) , qAt wC mX11_screw (ρp σ) 20 [(0, .ref 0), (2, .int v2), (3, .int v3), (4, .int v4)] [] σ (c20 v2 v3 v4)) (v2 : Int32) (v3 : Int32) (v4 : Int32) : qAt wC mX11_screw (ρp σ) 74 [(0, .ref 0), (2, .int v2), (3, .int v3), (4, .int v4)] [] σ (fX11_screw_b74 N c20 v2 v3 v4 σ) := by
  unfold fX11_screw_b74
  refine q_iinc (i := 4) (x := v4) (v := (v4 + 1)) (L' := [(4, .int (v4 + 1)), (0, .ref 0), (2, .int v2), (3, .int v3)]) dX11_screw_74 3 rfl (q_cst v4 (by decide)) (Nat.le_of_ble_eq_true rfl) rfl ?_
  refine q_goto (tgt := 20) dX11_screw_77 (by decide) ?_
  exact q_sub [1, 2, 3, 0] rfl (hc20 v2 v3 (v4 + 1))

def fX11_screw_s20 (N : Nat) (c20 : Int32 → Int32 → Int32 → Option Int32) (v2 : Int32) (v3 : Int32) (v4 : Int32) (σ : qMem) : Option Int32 :=
  (if 1500 ≤ v4 then (some (-1)) else ((fX11_screwFits N (1 + (v4 / 5)) (3 + (irm v4 5)) σ).bind fun y2 => (if y2 = 0 then (fX11_screw_b74 N c20 v2 v3 v4 σ) else (if v3 = 0 then (if v2 = 0 then (some (1 + (v4 / 5))) else (some (3 + (irm v4 5)))) else (fX11_screw_b74 N c20 v2 (v3 + (-1)) v4 σ)))))
set_option maxRecDepth 20000 in
set_option maxHeartbeats 4000000 in
theorem aX11_screw_s20 (N : Nat) (σ : qMem) (c20 : Int32 → Int32 → Int32 → Option Int32) (hc20 : ∀ (v2 : Int32) (v3 : Int32) (v4 : Int32) , qAt wC mX11_screw (ρp σ) 20 [(0, .ref 0), (2, .int v2), (3, .int v3), (4, .int v4)] [] σ (c20 v2 v3 v4)) (v2 : Int32) (v3 : Int32) (v4 : Int32) : qAt wC mX11_screw (ρp σ) 20 [(0, .ref 0), (2, .int v2), (3, .int v3), (4, .int v4)] [] σ (fX11_screw_s20 N c20 v2 v3 v4 σ) := by
  unfold fX11_screw_s20
  refine q_iload (i := 4) (x := v4) dX11_screw_20 3 rfl ?_
  refine q_sipush (v := 1500) dX11_screw_22 (by decide) ?_
  refine q_icmp_ge (tgt := 80) dX11_screw_25 (by decide) ?_ ?_
  · refine q_iconst (v := (-1)) dX11_screw_80 (by decide) ?_
    exact q_ireti (y := (-1)) dX11_screw_81 rfl rfl
  refine q_aload_n (i := 0) (x := 0) dX11_screw_28 rfl 0 rfl ?_
  refine q_iconst (v := 1) dX11_screw_29 (by decide) ?_
  refine q_iload (i := 4) (x := v4) dX11_screw_30 3 rfl ?_
  refine q_iconst (v := 5) dX11_screw_32 (by decide) ?_
  refine q_idiv dX11_screw_33 (by decide) ?_
  refine q_iadd dX11_screw_34 ?_
  refine q_iconst (v := 3) dX11_screw_35 (by decide) ?_
  refine q_iload (i := 4) (x := v4) dX11_screw_36 3 rfl ?_
  refine q_iconst (v := 5) dX11_screw_38 (by decide) ?_
  refine q_irem dX11_screw_39 (by decide) ?_
  refine q_iadd dX11_screw_40 ?_
  refine q_cVp mX11_screwFits [.int (1 + (v4 / 5)), .int (3 + (irm v4 5))] (st := []) dX11_screw_41 (svX11_344) ⟨Nat.le_of_ble_eq_true rfl, Nat.le_of_ble_eq_true rfl⟩ zC_0 rfl rfl rfl (Nat.le_of_ble_eq_true rfl) (kX11_screwFits N (1 + (v4 / 5)) (3 + (irm v4 5)) σ) (fun y2 => ?_)
  refine q_if_eq (tgt := 74) dX11_screw_44 (by decide) ?_ ?_
  · exact q_sub [0, 1, 2, 3] rfl (aX11_screw_b74 N σ c20 hc20 v2 v3 v4)
  refine q_iload_n (i := 3) (x := v3) dX11_screw_47 rfl 2 rfl ?_
  refine q_if_ne (tgt := 71) dX11_screw_48 (by decide) ?_ ?_
  · refine q_iinc (i := 3) (x := v3) (v := (v3 + (-1))) (L' := [(3, .int (v3 + (-1))), (0, .ref 0), (2, .int v2), (4, .int v4)]) dX11_screw_71 2 rfl (q_cst v3 (by decide)) (Nat.le_of_ble_eq_true rfl) rfl ?_
    exact q_sub [1, 2, 0, 3] rfl (aX11_screw_b74 N σ c20 hc20 v2 (v3 + (-1)) v4)
  refine q_iload_n (i := 2) (x := v2) dX11_screw_51 rfl 1 rfl ?_
  refine q_if_ne (tgt := 64) dX11_screw_52 (by decide) ?_ ?_
  · refine q_iconst (v := 3) dX11_screw_64 (by decide) ?_
    refine q_iload (i := 4) (x := v4) dX11_screw_65 3 rfl ?_
    refine q_iconst (v := 5) dX11_screw_67 (by decide) ?_
    refine q_irem dX11_screw_68 (by decide) ?_
    refine q_iadd dX11_screw_69 ?_
    exact q_ireti (y := (3 + (irm v4 5))) dX11_screw_70 rfl rfl
  refine q_iconst (v := 1) dX11_screw_55 (by decide) ?_
  refine q_iload (i := 4) (x := v4) dX11_screw_56 3 rfl ?_
  refine q_iconst (v := 5) dX11_screw_58 (by decide) ?_
  refine q_idiv dX11_screw_59 (by decide) ?_
  refine q_iadd dX11_screw_60 ?_
  refine q_goto (tgt := 70) dX11_screw_61 (by decide) ?_
  exact q_ireti (y := (1 + (v4 / 5))) dX11_screw_70 rfl rfl
def fX11_screw_l20 (N : Nat) (σ : qMem) : Nat → Int32 → Int32 → Int32 → Option Int32
  | 0 => fun _ _ _ => none
  | n + 1 => fun v2 v3 v4 => fX11_screw_s20 N (fX11_screw_l20 N σ n) v2 v3 v4 σ
theorem aX11_screw_l20 (N : Nat) (σ : qMem) : ∀ (n : Nat) (v2 : Int32) (v3 : Int32) (v4 : Int32), qAt wC mX11_screw (ρp σ) 20 [(0, .ref 0), (2, .int v2), (3, .int v3), (4, .int v4)] [] σ (fX11_screw_l20 N σ n v2 v3 v4) := by
  intro n
  induction n with
  | zero => intro v2 v3 v4; exact q_none
  | succ n ih => intro v2 v3 v4; exact aX11_screw_s20 N σ (fX11_screw_l20 N σ n) ih v2 v3 v4

def fX11_screw (N : Nat) (p1 : Int32) (p2 : Int32) (σ : qMem) : Option Int32 :=
  (if p1 < 0 then (some (-1)) else ((fX11_isIn p2 0 1).bind fun y1 => (if y1 = 0 then (some (-1)) else (fX11_screw_l20 N σ N p2 p1 0))))
set_option maxRecDepth 20000 in
set_option maxHeartbeats 4000000 in
theorem aX11_screw  (N : Nat) (p1 : Int32) (p2 : Int32)  (σ : qMem) : qAt wC mX11_screw (ρp σ) 0 [(0, .ref 0), (1, .int p1), (2, .int p2)] [] σ (fX11_screw N p1 p2 σ) := by
  unfold fX11_screw
  refine q_iload_n (i := 1) (x := p1) dX11_screw_0 rfl 1 rfl ?_
  refine q_if_lt (tgt := 13) dX11_screw_1 (by decide) ?_ ?_
  · refine q_iconst (v := (-1)) dX11_screw_13 (by decide) ?_
    exact q_ireti (y := (-1)) dX11_screw_14 rfl rfl
  refine q_iload_n (i := 2) (x := p2) dX11_screw_4 rfl 2 rfl ?_
  refine q_iconst (v := 0) dX11_screw_5 (by decide) ?_
  refine q_iconst (v := 1) dX11_screw_6 (by decide) ?_
  refine q_cSp mX11_isIn [.int p2, .int 0, .int 1] (st := []) dX11_screw_7 (ssX11_83) ⟨Nat.le_of_ble_eq_true rfl, Nat.le_of_ble_eq_true rfl⟩ rfl rfl (Nat.le_of_ble_eq_true rfl) (kX11_isIn p2 0 1 σ) (fun y1 => ?_)
  refine q_if_ne (tgt := 15) dX11_screw_10 (by decide) ?_ ?_
  · refine q_iload_n (i := 1) (x := p1) dX11_screw_15 rfl 1 rfl ?_
    refine q_istore_n (i := 3) (L' := [(3, .int p1), (0, .ref 0), (1, .int p1), (2, .int p2)]) dX11_screw_16 rfl (Nat.le_of_ble_eq_true rfl) rfl ?_
    refine q_iconst (v := 0) dX11_screw_17 (by decide) ?_
    refine q_istore (i := 4) (L' := [(4, .int 0), (3, .int p1), (0, .ref 0), (1, .int p1), (2, .int p2)]) dX11_screw_18 (Nat.le_of_ble_eq_true rfl) rfl ?_
    exact q_sub [2, 4, 1, 0] rfl (aX11_screw_l20 N σ N p2 p1 0)
  refine q_iconst (v := (-1)) dX11_screw_13 (by decide) ?_
  exact q_ireti (y := (-1)) dX11_screw_14 rfl rfl
theorem kX11_screw  (N : Nat) (p1 : Int32) (p2 : Int32)  (σ : qMem) : qMc wC mX11_screw (ρp σ) [.ref 0, .int p1, .int p2] σ (fX11_screw N p1 p2 σ) := qMc_of (moX11_screw) (Nat.le_of_ble_eq_true rfl) (aX11_screw N p1 p2  σ)

theorem dX11_tells_0 : decode cX11_tells 0 = .ok (.iload_n 1, 1) := by decide +kernel
theorem dX11_tells_1 : decode cX11_tells 1 = .ok (.invokestatic 91, 3) := by decide +kernel
theorem dX11_tells_4 : decode cX11_tells 4 = .ok (.ifCond .eq 31, 3) := by decide +kernel
theorem dX11_tells_7 : decode cX11_tells 7 = .ok (.iload_n 2, 1) := by decide +kernel
theorem dX11_tells_8 : decode cX11_tells 8 = .ok (.invokestatic 117, 3) := by decide +kernel
theorem dX11_tells_11 : decode cX11_tells 11 = .ok (.ifCond .eq 24, 3) := by decide +kernel
theorem dX11_tells_14 : decode cX11_tells 14 = .ok (.iload_n 3, 1) := by decide +kernel
theorem dX11_tells_15 : decode cX11_tells 15 = .ok (.iconst 0, 1) := by decide +kernel
theorem dX11_tells_16 : decode cX11_tells 16 = .ok (.sipush 200, 3) := by decide +kernel
theorem dX11_tells_19 : decode cX11_tells 19 = .ok (.invokestatic 83, 3) := by decide +kernel
theorem dX11_tells_22 : decode cX11_tells 22 = .ok (.ifCond .eq 13, 3) := by decide +kernel
theorem dX11_tells_25 : decode cX11_tells 25 = .ok (.iload 4, 2) := by decide +kernel
theorem dX11_tells_27 : decode cX11_tells 27 = .ok (.iconst 0, 1) := by decide +kernel
theorem dX11_tells_28 : decode cX11_tells 28 = .ok (.iconst 2, 1) := by decide +kernel
theorem dX11_tells_29 : decode cX11_tells 29 = .ok (.invokestatic 83, 3) := by decide +kernel
theorem dX11_tells_32 : decode cX11_tells 32 = .ok (.ifCond .ne 7, 3) := by decide +kernel
theorem dX11_tells_35 : decode cX11_tells 35 = .ok (.ldc_w 347, 3) := by decide +kernel
theorem dX11_tells_38 : decode cX11_tells 38 = .ok (.ireturn, 1) := by decide +kernel
theorem dX11_tells_39 : decode cX11_tells 39 = .ok (.aload_n 0, 1) := by decide +kernel
theorem dX11_tells_40 : decode cX11_tells 40 = .ok (.getfield 12, 3) := by decide +kernel
theorem dX11_tells_43 : decode cX11_tells 43 = .ok (.getfield 224, 3) := by decide +kernel
theorem dX11_tells_46 : decode cX11_tells 46 = .ok (.aload_n 0, 1) := by decide +kernel
theorem dX11_tells_47 : decode cX11_tells 47 = .ok (.getfield 12, 3) := by decide +kernel
theorem dX11_tells_50 : decode cX11_tells 50 = .ok (.getfield 95, 3) := by decide +kernel
theorem dX11_tells_53 : decode cX11_tells 53 = .ok (.iload_n 1, 1) := by decide +kernel
theorem dX11_tells_54 : decode cX11_tells 54 = .ok (.aaload, 1) := by decide +kernel
theorem dX11_tells_55 : decode cX11_tells 55 = .ok (.getfield 144, 3) := by decide +kernel
theorem dX11_tells_58 : decode cX11_tells 58 = .ok (.iload_n 2, 1) := by decide +kernel
theorem dX11_tells_59 : decode cX11_tells 59 = .ok (.iaload, 1) := by decide +kernel
theorem dX11_tells_60 : decode cX11_tells 60 = .ok (.aload_n 0, 1) := by decide +kernel
theorem dX11_tells_61 : decode cX11_tells 61 = .ok (.getfield 12, 3) := by decide +kernel
theorem dX11_tells_64 : decode cX11_tells 64 = .ok (.getfield 95, 3) := by decide +kernel
theorem dX11_tells_67 : decode cX11_tells 67 = .ok (.iload_n 1, 1) := by decide +kernel
theorem dX11_tells_68 : decode cX11_tells 68 = .ok (.aaload, 1) := by decide +kernel
theorem dX11_tells_69 : decode cX11_tells 69 = .ok (.getfield 348, 3) := by decide +kernel
theorem dX11_tells_72 : decode cX11_tells 72 = .ok (.iload_n 2, 1) := by decide +kernel
theorem dX11_tells_73 : decode cX11_tells 73 = .ok (.iload_n 1, 1) := by decide +kernel
theorem dX11_tells_74 : decode cX11_tells 74 = .ok (.invokevirtual 351, 3) := by decide +kernel
theorem dX11_tells_77 : decode cX11_tells 77 = .ok (.aload_n 0, 1) := by decide +kernel
theorem dX11_tells_78 : decode cX11_tells 78 = .ok (.getfield 12, 3) := by decide +kernel
theorem dX11_tells_81 : decode cX11_tells 81 = .ok (.getfield 224, 3) := by decide +kernel
theorem dX11_tells_84 : decode cX11_tells 84 = .ok (.iload 4, 2) := by decide +kernel
theorem dX11_tells_86 : decode cX11_tells 86 = .ok (.iload_n 3, 1) := by decide +kernel
theorem dX11_tells_87 : decode cX11_tells 87 = .ok (.invokevirtual 355, 3) := by decide +kernel
theorem dX11_tells_90 : decode cX11_tells 90 = .ok (.ireturn, 1) := by decide +kernel

def fX11_tells (N : Nat) (p1 : Int32) (p2 : Int32) (p3 : Int32) (p4 : Int32) (σ : qMem) : Option (Int32 × qMem) :=
  ((fX11_isBoat p1).bind fun y1 => (if y1 = 0 then (some ((-10000000), σ)) else ((fX11_isBell p2).bind fun y2 => (if y2 = 0 then (some ((-10000000), σ)) else ((fX11_isIn p3 0 200).bind fun y3 => (if y3 = 0 then (some ((-10000000), σ)) else ((fX11_isIn p4 0 2).bind fun y4 => (if y4 = 0 then (some ((-10000000), σ)) else (if ck p1 2 = true then (if ck p2 24 = true then (if ck p1 2 = true then ((fX5_pose 35 (gi σ ((3 + 6 * p1.toNatClampNeg) + 5) p2.toNatClampNeg) (gi σ (3 + 6 * p1.toNatClampNeg) 4) p2 p1 σ).bind fun y7 => ((fX5_answer N 35 p4 p3 y7).bind fun y8 => (some (y8.1, y8.2)))) else none) else none) else none)))))))))
set_option maxRecDepth 20000 in
set_option maxHeartbeats 4000000 in
theorem aX11_tells  (N : Nat) (p1 : Int32) (p2 : Int32) (p3 : Int32) (p4 : Int32)  (σ : qMem) : qAt wC mX11_tells (ρi) 0 [(0, .ref 0), (1, .int p1), (2, .int p2), (3, .int p3), (4, .int p4)] [] σ (fX11_tells N p1 p2 p3 p4 σ) := by
  unfold fX11_tells
  refine q_iload_n (i := 1) (x := p1) dX11_tells_0 rfl 1 rfl ?_
  refine q_cSp mX11_isBoat [.int p1] (st := []) dX11_tells_1 (ssX11_91) ⟨Nat.le_of_ble_eq_true rfl, Nat.le_of_ble_eq_true rfl⟩ rfl rfl (Nat.le_of_ble_eq_true rfl) (kX11_isBoat p1 σ) (fun y1 => ?_)
  refine q_if_eq (tgt := 35) dX11_tells_4 (by decide) ?_ ?_
  · refine q_ldc_w (v := (-10000000)) dX11_tells_35 (g_6 19 (by decide +kernel) rfl) ?_
    exact q_ireti (y := ((-10000000), σ)) dX11_tells_38 rfl rfl
  refine q_iload_n (i := 2) (x := p2) dX11_tells_7 rfl 2 rfl ?_
  refine q_cSp mX11_isBell [.int p2] (st := []) dX11_tells_8 (ssX11_117) ⟨Nat.le_of_ble_eq_true rfl, Nat.le_of_ble_eq_true rfl⟩ rfl rfl (Nat.le_of_ble_eq_true rfl) (kX11_isBell p2 σ) (fun y2 => ?_)
  refine q_if_eq (tgt := 35) dX11_tells_11 (by decide) ?_ ?_
  · refine q_ldc_w (v := (-10000000)) dX11_tells_35 (g_6 19 (by decide +kernel) rfl) ?_
    exact q_ireti (y := ((-10000000), σ)) dX11_tells_38 rfl rfl
  refine q_iload_n (i := 3) (x := p3) dX11_tells_14 rfl 3 rfl ?_
  refine q_iconst (v := 0) dX11_tells_15 (by decide) ?_
  refine q_sipush (v := 200) dX11_tells_16 (by decide) ?_
  refine q_cSp mX11_isIn [.int p3, .int 0, .int 200] (st := []) dX11_tells_19 (ssX11_83) ⟨Nat.le_of_ble_eq_true rfl, Nat.le_of_ble_eq_true rfl⟩ rfl rfl (Nat.le_of_ble_eq_true rfl) (kX11_isIn p3 0 200 σ) (fun y3 => ?_)
  refine q_if_eq (tgt := 35) dX11_tells_22 (by decide) ?_ ?_
  · refine q_ldc_w (v := (-10000000)) dX11_tells_35 (g_6 19 (by decide +kernel) rfl) ?_
    exact q_ireti (y := ((-10000000), σ)) dX11_tells_38 rfl rfl
  refine q_iload (i := 4) (x := p4) dX11_tells_25 4 rfl ?_
  refine q_iconst (v := 0) dX11_tells_27 (by decide) ?_
  refine q_iconst (v := 2) dX11_tells_28 (by decide) ?_
  refine q_cSp mX11_isIn [.int p4, .int 0, .int 2] (st := []) dX11_tells_29 (ssX11_83) ⟨Nat.le_of_ble_eq_true rfl, Nat.le_of_ble_eq_true rfl⟩ rfl rfl (Nat.le_of_ble_eq_true rfl) (kX11_isIn p4 0 2 σ) (fun y4 => ?_)
  refine q_if_ne (tgt := 39) dX11_tells_32 (by decide) ?_ ?_
  · refine q_aload_n (i := 0) (x := 0) dX11_tells_39 rfl 0 rfl ?_
    refine q_getr (t := 1) dX11_tells_40 foX11_12 zC_0 rfl ?_
    refine q_getr (t := 35) dX11_tells_43 foX11_224 zC_1 rfl ?_
    refine q_aload_n (i := 0) (x := 0) dX11_tells_46 rfl 0 rfl ?_
    refine q_getr (t := 1) dX11_tells_47 foX11_12 zC_0 rfl ?_
    refine q_getr (t := 2) dX11_tells_50 foX11_95 zC_1 rfl ?_
    refine q_iload_n (i := 1) (x := p1) dX11_tells_53 rfl 1 rfl ?_
    refine q_aald (t0 := 4) (fun j => 3 + 6 * j) dX11_tells_54 zC_2 (fun _ => rfl) (by decide) (fun hc_5 => ?_)
    refine q_getr (t := ((3 + 6 * p1.toNatClampNeg) + 5)) dX11_tells_55 foX11_144 (xBoat hc_5).1 rfl ?_
    refine q_iload_n (i := 2) (x := p2) dX11_tells_58 rfl 2 rfl ?_
    refine q_iald dX11_tells_59 (xBoat hc_5).2.2.2.2 ?_
    refine q_aload_n (i := 0) (x := 0) dX11_tells_60 rfl 0 rfl ?_
    refine q_getr (t := 1) dX11_tells_61 foX11_12 zC_0 rfl ?_
    refine q_getr (t := 2) dX11_tells_64 foX11_95 zC_1 rfl ?_
    refine q_iload_n (i := 1) (x := p1) dX11_tells_67 rfl 1 rfl ?_
    refine q_aald (t0 := 4) (fun j => 3 + 6 * j) dX11_tells_68 zC_2 (fun _ => rfl) (by decide) (fun hc_6 => ?_)
    refine q_geti dX11_tells_69 foX11_348 (xBoat hc_6).1 rfl ?_
    refine q_iload_n (i := 2) (x := p2) dX11_tells_72 rfl 2 rfl ?_
    refine q_iload_n (i := 1) (x := p1) dX11_tells_73 rfl 1 rfl ?_
    refine q_cVv mX5_pose [.int (gi σ ((3 + 6 * p1.toNatClampNeg) + 5) p2.toNatClampNeg), .int (gi σ (3 + 6 * p1.toNatClampNeg) 4), .int p2, .int p1] (st := []) dX11_tells_74 (svX11_351) ⟨Nat.le_of_ble_eq_true rfl, Nat.le_of_ble_eq_true rfl⟩ zC_35 rfl rfl rfl (Nat.le_of_ble_eq_true rfl) (kX5_pose 35 (gi σ ((3 + 6 * p1.toNatClampNeg) + 5) p2.toNatClampNeg) (gi σ (3 + 6 * p1.toNatClampNeg) 4) p2 p1 pC_35 σ) (fun y7 => ?_)
    refine q_aload_n (i := 0) (x := 0) dX11_tells_77 rfl 0 rfl ?_
    refine q_getr (t := 1) dX11_tells_78 foX11_12 zC_0 rfl ?_
    refine q_getr (t := 35) dX11_tells_81 foX11_224 zC_1 rfl ?_
    refine q_iload (i := 4) (x := p4) dX11_tells_84 4 rfl ?_
    refine q_iload_n (i := 3) (x := p3) dX11_tells_86 rfl 3 rfl ?_
    refine q_cVi mX5_answer [.int p4, .int p3] (st := []) dX11_tells_87 (svX11_355) ⟨Nat.le_of_ble_eq_true rfl, Nat.le_of_ble_eq_true rfl⟩ zC_35 rfl rfl rfl (Nat.le_of_ble_eq_true rfl) (kX5_answer N 35 p4 p3 pC_35 y7) (fun y8 => ?_)
    exact q_ireti (y := (y8.1, y8.2)) dX11_tells_90 rfl rfl
  refine q_ldc_w (v := (-10000000)) dX11_tells_35 (g_6 19 (by decide +kernel) rfl) ?_
  exact q_ireti (y := ((-10000000), σ)) dX11_tells_38 rfl rfl
theorem kX11_tells  (N : Nat) (p1 : Int32) (p2 : Int32) (p3 : Int32) (p4 : Int32)  (σ : qMem) : qMc wC mX11_tells (ρi) [.ref 0, .int p1, .int p2, .int p3, .int p4] σ (fX11_tells N p1 p2 p3 p4 σ) := qMc_of (moX11_tells) (Nat.le_of_ble_eq_true rfl) (aX11_tells N p1 p2 p3 p4  σ)

theorem dX11_hears_0 : decode cX11_hears 0 = .ok (.iload_n 1, 1) := by decide +kernel
theorem dX11_hears_1 : decode cX11_hears 1 = .ok (.invokestatic 91, 3) := by decide +kernel
theorem dX11_hears_4 : decode cX11_hears 4 = .ok (.ifCond .eq 10, 3) := by decide +kernel
theorem dX11_hears_7 : decode cX11_hears 7 = .ok (.iload_n 2, 1) := by decide +kernel
theorem dX11_hears_8 : decode cX11_hears 8 = .ok (.invokestatic 117, 3) := by decide +kernel
theorem dX11_hears_11 : decode cX11_hears 11 = .ok (.ifCond .ne 5, 3) := by decide +kernel
theorem dX11_hears_14 : decode cX11_hears 14 = .ok (.iconst (-1), 1) := by decide +kernel
theorem dX11_hears_15 : decode cX11_hears 15 = .ok (.ireturn, 1) := by decide +kernel
theorem dX11_hears_16 : decode cX11_hears 16 = .ok (.aload_n 0, 1) := by decide +kernel
theorem dX11_hears_17 : decode cX11_hears 17 = .ok (.getfield 29, 3) := by decide +kernel
theorem dX11_hears_20 : decode cX11_hears 20 = .ok (.invokevirtual 243, 3) := by decide +kernel
theorem dX11_hears_23 : decode cX11_hears 23 = .ok (.aload_n 0, 1) := by decide +kernel
theorem dX11_hears_24 : decode cX11_hears 24 = .ok (.getfield 12, 3) := by decide +kernel
theorem dX11_hears_27 : decode cX11_hears 27 = .ok (.getfield 95, 3) := by decide +kernel
theorem dX11_hears_30 : decode cX11_hears 30 = .ok (.iload_n 1, 1) := by decide +kernel
theorem dX11_hears_31 : decode cX11_hears 31 = .ok (.aaload, 1) := by decide +kernel
theorem dX11_hears_32 : decode cX11_hears 32 = .ok (.astore_n 3, 1) := by decide +kernel
theorem dX11_hears_33 : decode cX11_hears 33 = .ok (.aload_n 0, 1) := by decide +kernel
theorem dX11_hears_34 : decode cX11_hears 34 = .ok (.getfield 29, 3) := by decide +kernel
theorem dX11_hears_37 : decode cX11_hears 37 = .ok (.iload_n 1, 1) := by decide +kernel
theorem dX11_hears_38 : decode cX11_hears 38 = .ok (.iload_n 2, 1) := by decide +kernel
theorem dX11_hears_39 : decode cX11_hears 39 = .ok (.aload_n 3, 1) := by decide +kernel
theorem dX11_hears_40 : decode cX11_hears 40 = .ok (.getfield 144, 3) := by decide +kernel
theorem dX11_hears_43 : decode cX11_hears 43 = .ok (.iload_n 2, 1) := by decide +kernel
theorem dX11_hears_44 : decode cX11_hears 44 = .ok (.iaload, 1) := by decide +kernel
theorem dX11_hears_45 : decode cX11_hears 45 = .ok (.aload_n 3, 1) := by decide +kernel
theorem dX11_hears_46 : decode cX11_hears 46 = .ok (.getfield 138, 3) := by decide +kernel
theorem dX11_hears_49 : decode cX11_hears 49 = .ok (.iload_n 2, 1) := by decide +kernel
theorem dX11_hears_50 : decode cX11_hears 50 = .ok (.iaload, 1) := by decide +kernel
theorem dX11_hears_51 : decode cX11_hears 51 = .ok (.aload_n 3, 1) := by decide +kernel
theorem dX11_hears_52 : decode cX11_hears 52 = .ok (.getfield 141, 3) := by decide +kernel
theorem dX11_hears_55 : decode cX11_hears 55 = .ok (.iload_n 2, 1) := by decide +kernel
theorem dX11_hears_56 : decode cX11_hears 56 = .ok (.iaload, 1) := by decide +kernel
theorem dX11_hears_57 : decode cX11_hears 57 = .ok (.invokevirtual 306, 3) := by decide +kernel
theorem dX11_hears_60 : decode cX11_hears 60 = .ok (.ireturn, 1) := by decide +kernel

def fX11_hears (N : Nat) (p1 : Int32) (p2 : Int32) (σ : qMem) : Option (Int32 × qMem) :=
  ((fX11_isBoat p1).bind fun y1 => (if y1 = 0 then (some ((-1), σ)) else ((fX11_isBell p2).bind fun y2 => (if y2 = 0 then (some ((-1), σ)) else ((fX3_plot N σ).bind fun y3 => (if ck p1 2 = true then (if ck p2 24 = true then (if ck p2 24 = true then (if ck p2 24 = true then ((fX3_hearers N p1 p2 (gi y3 ((3 + 6 * p1.toNatClampNeg) + 5) p2.toNatClampNeg) (gi y3 ((3 + 6 * p1.toNatClampNeg) + 3) p2.toNatClampNeg) (gi y3 ((3 + 6 * p1.toNatClampNeg) + 4) p2.toNatClampNeg) y3).bind fun y5 => (some (y5.1, y5.2))) else none) else none) else none) else none))))))
set_option maxRecDepth 20000 in
set_option maxHeartbeats 4000000 in
theorem aX11_hears  (N : Nat) (p1 : Int32) (p2 : Int32)  (σ : qMem) : qAt wC mX11_hears (ρi) 0 [(0, .ref 0), (1, .int p1), (2, .int p2)] [] σ (fX11_hears N p1 p2 σ) := by
  unfold fX11_hears
  refine q_iload_n (i := 1) (x := p1) dX11_hears_0 rfl 1 rfl ?_
  refine q_cSp mX11_isBoat [.int p1] (st := []) dX11_hears_1 (ssX11_91) ⟨Nat.le_of_ble_eq_true rfl, Nat.le_of_ble_eq_true rfl⟩ rfl rfl (Nat.le_of_ble_eq_true rfl) (kX11_isBoat p1 σ) (fun y1 => ?_)
  refine q_if_eq (tgt := 14) dX11_hears_4 (by decide) ?_ ?_
  · refine q_iconst (v := (-1)) dX11_hears_14 (by decide) ?_
    exact q_ireti (y := ((-1), σ)) dX11_hears_15 rfl rfl
  refine q_iload_n (i := 2) (x := p2) dX11_hears_7 rfl 2 rfl ?_
  refine q_cSp mX11_isBell [.int p2] (st := []) dX11_hears_8 (ssX11_117) ⟨Nat.le_of_ble_eq_true rfl, Nat.le_of_ble_eq_true rfl⟩ rfl rfl (Nat.le_of_ble_eq_true rfl) (kX11_isBell p2 σ) (fun y2 => ?_)
  refine q_if_ne (tgt := 16) dX11_hears_11 (by decide) ?_ ?_
  · refine q_aload_n (i := 0) (x := 0) dX11_hears_16 rfl 0 rfl ?_
    refine q_getr (t := 44) dX11_hears_17 foX11_29 zC_0 rfl ?_
    refine q_cVv mX3_plot [] (st := []) dX11_hears_20 (svX11_243) ⟨Nat.le_of_ble_eq_true rfl, Nat.le_of_ble_eq_true rfl⟩ zC_44 rfl rfl rfl (Nat.le_of_ble_eq_true rfl) (kX3_plot N σ) (fun y3 => ?_)
    refine q_aload_n (i := 0) (x := 0) dX11_hears_23 rfl 0 rfl ?_
    refine q_getr (t := 1) dX11_hears_24 foX11_12 zC_0 rfl ?_
    refine q_getr (t := 2) dX11_hears_27 foX11_95 zC_1 rfl ?_
    refine q_iload_n (i := 1) (x := p1) dX11_hears_30 rfl 1 rfl ?_
    refine q_aald (t0 := 4) (fun j => 3 + 6 * j) dX11_hears_31 zC_2 (fun _ => rfl) (by decide) (fun hc_4 => ?_)
    refine q_astore_n (i := 3) (L' := [(3, .ref (3 + 6 * p1.toNatClampNeg)), (0, .ref 0), (1, .int p1), (2, .int p2)]) dX11_hears_32 rfl (Nat.le_of_ble_eq_true rfl) rfl ?_
    refine q_aload_n (i := 0) (x := 0) dX11_hears_33 rfl 1 rfl ?_
    refine q_getr (t := 44) dX11_hears_34 foX11_29 zC_0 rfl ?_
    refine q_iload_n (i := 1) (x := p1) dX11_hears_37 rfl 2 rfl ?_
    refine q_iload_n (i := 2) (x := p2) dX11_hears_38 rfl 3 rfl ?_
    refine q_aload_n (i := 3) (x := (3 + 6 * p1.toNatClampNeg)) dX11_hears_39 rfl 0 rfl ?_
    refine q_getr (t := ((3 + 6 * p1.toNatClampNeg) + 5)) dX11_hears_40 foX11_144 (xBoat hc_4).1 rfl ?_
    refine q_iload_n (i := 2) (x := p2) dX11_hears_43 rfl 3 rfl ?_
    refine q_iald dX11_hears_44 (xBoat hc_4).2.2.2.2 ?_
    refine q_aload_n (i := 3) (x := (3 + 6 * p1.toNatClampNeg)) dX11_hears_45 rfl 0 rfl ?_
    refine q_getr (t := ((3 + 6 * p1.toNatClampNeg) + 3)) dX11_hears_46 foX11_138 (xBoat hc_4).1 rfl ?_
    refine q_iload_n (i := 2) (x := p2) dX11_hears_49 rfl 3 rfl ?_
    refine q_iald dX11_hears_50 (xBoat hc_4).2.2.1 ?_
    refine q_aload_n (i := 3) (x := (3 + 6 * p1.toNatClampNeg)) dX11_hears_51 rfl 0 rfl ?_
    refine q_getr (t := ((3 + 6 * p1.toNatClampNeg) + 4)) dX11_hears_52 foX11_141 (xBoat hc_4).1 rfl ?_
    refine q_iload_n (i := 2) (x := p2) dX11_hears_55 rfl 3 rfl ?_
    refine q_iald dX11_hears_56 (xBoat hc_4).2.2.2.1 ?_
    refine q_cVi mX3_hearers [.int p1, .int p2, .int (gi y3 ((3 + 6 * p1.toNatClampNeg) + 5) p2.toNatClampNeg), .int (gi y3 ((3 + 6 * p1.toNatClampNeg) + 3) p2.toNatClampNeg), .int (gi y3 ((3 + 6 * p1.toNatClampNeg) + 4) p2.toNatClampNeg)] (st := []) dX11_hears_57 (svX11_306) ⟨Nat.le_of_ble_eq_true rfl, Nat.le_of_ble_eq_true rfl⟩ zC_44 rfl rfl rfl (Nat.le_of_ble_eq_true rfl) (kX3_hearers N p1 p2 (gi y3 ((3 + 6 * p1.toNatClampNeg) + 5) p2.toNatClampNeg) (gi y3 ((3 + 6 * p1.toNatClampNeg) + 3) p2.toNatClampNeg) (gi y3 ((3 + 6 * p1.toNatClampNeg) + 4) p2.toNatClampNeg) y3) (fun y5 => ?_)
    exact q_ireti (y := (y5.1, y5.2)) dX11_hears_60 rfl rfl
  refine q_iconst (v := (-1)) dX11_hears_14 (by decide) ?_
  exact q_ireti (y := ((-1), σ)) dX11_hears_15 rfl rfl
theorem kX11_hears  (N : Nat) (p1 : Int32) (p2 : Int32)  (σ : qMem) : qMc wC mX11_hears (ρi) [.ref 0, .int p1, .int p2] σ (fX11_hears N p1 p2 σ) := qMc_of (moX11_hears) (Nat.le_of_ble_eq_true rfl) (aX11_hears N p1 p2  σ)

theorem dX11_cell_0 : decode cX11_cell 0 = .ok (.iload_n 1, 1) := by decide +kernel
theorem dX11_cell_1 : decode cX11_cell 1 = .ok (.iconst 0, 1) := by decide +kernel
theorem dX11_cell_2 : decode cX11_cell 2 = .ok (.bipush 100, 2) := by decide +kernel
theorem dX11_cell_4 : decode cX11_cell 4 = .ok (.invokestatic 83, 3) := by decide +kernel
theorem dX11_cell_7 : decode cX11_cell 7 = .ok (.ifCond .eq 13, 3) := by decide +kernel
theorem dX11_cell_10 : decode cX11_cell 10 = .ok (.iload_n 2, 1) := by decide +kernel
theorem dX11_cell_11 : decode cX11_cell 11 = .ok (.iconst 0, 1) := by decide +kernel
theorem dX11_cell_12 : decode cX11_cell 12 = .ok (.bipush 100, 2) := by decide +kernel
theorem dX11_cell_14 : decode cX11_cell 14 = .ok (.invokestatic 83, 3) := by decide +kernel
theorem dX11_cell_17 : decode cX11_cell 17 = .ok (.ifCond .ne 9, 3) := by decide +kernel
theorem dX11_cell_20 : decode cX11_cell 20 = .ok (.aload_n 0, 1) := by decide +kernel
theorem dX11_cell_21 : decode cX11_cell 21 = .ok (.iconst (-1), 1) := by decide +kernel
theorem dX11_cell_22 : decode cX11_cell 22 = .ok (.invokevirtual 87, 3) := by decide +kernel
theorem dX11_cell_25 : decode cX11_cell 25 = .ok (.ireturn, 1) := by decide +kernel
theorem dX11_cell_26 : decode cX11_cell 26 = .ok (.aload_n 0, 1) := by decide +kernel
theorem dX11_cell_27 : decode cX11_cell 27 = .ok (.aload_n 0, 1) := by decide +kernel
theorem dX11_cell_28 : decode cX11_cell 28 = .ok (.getfield 12, 3) := by decide +kernel
theorem dX11_cell_31 : decode cX11_cell 31 = .ok (.getfield 358, 3) := by decide +kernel
theorem dX11_cell_34 : decode cX11_cell 34 = .ok (.iload_n 1, 1) := by decide +kernel
theorem dX11_cell_35 : decode cX11_cell 35 = .ok (.iload_n 2, 1) := by decide +kernel
theorem dX11_cell_36 : decode cX11_cell 36 = .ok (.iconst 0, 1) := by decide +kernel
theorem dX11_cell_37 : decode cX11_cell 37 = .ok (.iconst 0, 1) := by decide +kernel
theorem dX11_cell_38 : decode cX11_cell 38 = .ok (.iconst 0, 1) := by decide +kernel
theorem dX11_cell_39 : decode cX11_cell 39 = .ok (.invokevirtual 281, 3) := by decide +kernel
theorem dX11_cell_42 : decode cX11_cell 42 = .ok (.ireturn, 1) := by decide +kernel
def fX11_cell_b20 (σ : qMem) : Option (Int32 × qMem) :=
  ((fX11_refuse (-1) σ).bind fun y4 => (some (y4.1, y4.2)))
set_option maxRecDepth 20000 in
set_option maxHeartbeats 4000000 in
theorem aX11_cell_b20 (σ : qMem) : qAt wC mX11_cell (ρi) 20 [(0, .ref 0)] [] σ (fX11_cell_b20 σ) := by
  unfold fX11_cell_b20
  refine q_aload_n (i := 0) (x := 0) dX11_cell_20 rfl 0 rfl ?_
  refine q_iconst (v := (-1)) dX11_cell_21 (by decide) ?_
  refine q_cVi mX11_refuse [.int (-1)] (st := []) dX11_cell_22 (svX11_87) ⟨Nat.le_of_ble_eq_true rfl, Nat.le_of_ble_eq_true rfl⟩ zC_0 rfl rfl rfl (Nat.le_of_ble_eq_true rfl) (kX11_refuse (-1) σ) (fun y4 => ?_)
  exact q_ireti (y := (y4.1, y4.2)) dX11_cell_25 rfl rfl

def fX11_cell (p1 : Int32) (p2 : Int32) (σ : qMem) : Option (Int32 × qMem) :=
  ((fX11_isIn p1 0 100).bind fun y1 => (if y1 = 0 then (fX11_cell_b20 σ) else ((fX11_isIn p2 0 100).bind fun y2 => (if y2 = 0 then (fX11_cell_b20 σ) else ((fX11_addTo 33 12 p1 p2 0 0 0 σ).bind fun y3 => (some (y3.1, y3.2)))))))
set_option maxRecDepth 20000 in
set_option maxHeartbeats 4000000 in
theorem aX11_cell  (p1 : Int32) (p2 : Int32)  (σ : qMem) : qAt wC mX11_cell (ρi) 0 [(0, .ref 0), (1, .int p1), (2, .int p2)] [] σ (fX11_cell p1 p2 σ) := by
  unfold fX11_cell
  refine q_iload_n (i := 1) (x := p1) dX11_cell_0 rfl 1 rfl ?_
  refine q_iconst (v := 0) dX11_cell_1 (by decide) ?_
  refine q_bipush (v := 100) dX11_cell_2 (by decide) ?_
  refine q_cSp mX11_isIn [.int p1, .int 0, .int 100] (st := []) dX11_cell_4 (ssX11_83) ⟨Nat.le_of_ble_eq_true rfl, Nat.le_of_ble_eq_true rfl⟩ rfl rfl (Nat.le_of_ble_eq_true rfl) (kX11_isIn p1 0 100 σ) (fun y1 => ?_)
  refine q_if_eq (tgt := 20) dX11_cell_7 (by decide) ?_ ?_
  · exact q_sub [0] rfl (aX11_cell_b20 σ)
  refine q_iload_n (i := 2) (x := p2) dX11_cell_10 rfl 2 rfl ?_
  refine q_iconst (v := 0) dX11_cell_11 (by decide) ?_
  refine q_bipush (v := 100) dX11_cell_12 (by decide) ?_
  refine q_cSp mX11_isIn [.int p2, .int 0, .int 100] (st := []) dX11_cell_14 (ssX11_83) ⟨Nat.le_of_ble_eq_true rfl, Nat.le_of_ble_eq_true rfl⟩ rfl rfl (Nat.le_of_ble_eq_true rfl) (kX11_isIn p2 0 100 σ) (fun y2 => ?_)
  refine q_if_ne (tgt := 26) dX11_cell_17 (by decide) ?_ ?_
  · refine q_aload_n (i := 0) (x := 0) dX11_cell_26 rfl 0 rfl ?_
    refine q_aload_n (i := 0) (x := 0) dX11_cell_27 rfl 0 rfl ?_
    refine q_getr (t := 1) dX11_cell_28 foX11_12 zC_0 rfl ?_
    refine q_getr (t := 33) dX11_cell_31 foX11_358 zC_1 rfl ?_
    refine q_iload_n (i := 1) (x := p1) dX11_cell_34 rfl 1 rfl ?_
    refine q_iload_n (i := 2) (x := p2) dX11_cell_35 rfl 2 rfl ?_
    refine q_iconst (v := 0) dX11_cell_36 (by decide) ?_
    refine q_iconst (v := 0) dX11_cell_37 (by decide) ?_
    refine q_iconst (v := 0) dX11_cell_38 (by decide) ?_
    refine q_cVi mX11_addTo [.ref 33, .int p1, .int p2, .int 0, .int 0, .int 0] (st := []) dX11_cell_39 (svX11_281) ⟨Nat.le_of_ble_eq_true rfl, Nat.le_of_ble_eq_true rfl⟩ zC_0 rfl rfl rfl (Nat.le_of_ble_eq_true rfl) (kX11_addTo 33 12 p1 p2 0 0 0 pC_33 σ) (fun y3 => ?_)
    exact q_ireti (y := (y3.1, y3.2)) dX11_cell_42 rfl rfl
  exact q_sub [0] rfl (aX11_cell_b20 σ)
theorem kX11_cell  (p1 : Int32) (p2 : Int32)  (σ : qMem) : qMc wC mX11_cell (ρi) [.ref 0, .int p1, .int p2] σ (fX11_cell p1 p2 σ) := qMc_of (moX11_cell) (Nat.le_of_ble_eq_true rfl) (aX11_cell p1 p2  σ)

theorem dX11_commonDivisor_0 : decode cX11_commonDivisor 0 = .ok (.lload_n 0, 1) := by decide +kernel
theorem dX11_commonDivisor_1 : decode cX11_commonDivisor 1 = .ok (.lstore 4, 2) := by decide +kernel
theorem dX11_commonDivisor_3 : decode cX11_commonDivisor 3 = .ok (.lload_n 2, 1) := by decide +kernel
theorem dX11_commonDivisor_4 : decode cX11_commonDivisor 4 = .ok (.lstore 6, 2) := by decide +kernel
theorem dX11_commonDivisor_6 : decode cX11_commonDivisor 6 = .ok (.iconst 0, 1) := by decide +kernel
theorem dX11_commonDivisor_7 : decode cX11_commonDivisor 7 = .ok (.istore 8, 2) := by decide +kernel
theorem dX11_commonDivisor_9 : decode cX11_commonDivisor 9 = .ok (.iload 8, 2) := by decide +kernel
theorem dX11_commonDivisor_11 : decode cX11_commonDivisor 11 = .ok (.sipush 200, 3) := by decide +kernel
theorem dX11_commonDivisor_14 : decode cX11_commonDivisor 14 = .ok (.if_icmp .ge 31, 3) := by decide +kernel
theorem dX11_commonDivisor_17 : decode cX11_commonDivisor 17 = .ok (.lload 6, 2) := by decide +kernel
theorem dX11_commonDivisor_19 : decode cX11_commonDivisor 19 = .ok (.lconst 0, 1) := by decide +kernel
theorem dX11_commonDivisor_20 : decode cX11_commonDivisor 20 = .ok (.lcmp, 1) := by decide +kernel
theorem dX11_commonDivisor_21 : decode cX11_commonDivisor 21 = .ok (.ifCond .eq 24, 3) := by decide +kernel
theorem dX11_commonDivisor_24 : decode cX11_commonDivisor 24 = .ok (.lload 4, 2) := by decide +kernel
theorem dX11_commonDivisor_26 : decode cX11_commonDivisor 26 = .ok (.lload 6, 2) := by decide +kernel
theorem dX11_commonDivisor_28 : decode cX11_commonDivisor 28 = .ok (.lrem, 1) := by decide +kernel
theorem dX11_commonDivisor_29 : decode cX11_commonDivisor 29 = .ok (.lstore 9, 2) := by decide +kernel
theorem dX11_commonDivisor_31 : decode cX11_commonDivisor 31 = .ok (.lload 6, 2) := by decide +kernel
theorem dX11_commonDivisor_33 : decode cX11_commonDivisor 33 = .ok (.lstore 4, 2) := by decide +kernel
theorem dX11_commonDivisor_35 : decode cX11_commonDivisor 35 = .ok (.lload 9, 2) := by decide +kernel
theorem dX11_commonDivisor_37 : decode cX11_commonDivisor 37 = .ok (.lstore 6, 2) := by decide +kernel
theorem dX11_commonDivisor_39 : decode cX11_commonDivisor 39 = .ok (.iinc 8 1, 3) := by decide +kernel
theorem dX11_commonDivisor_42 : decode cX11_commonDivisor 42 = .ok (.goto (-33), 3) := by decide +kernel
theorem dX11_commonDivisor_45 : decode cX11_commonDivisor 45 = .ok (.lload 4, 2) := by decide +kernel
theorem dX11_commonDivisor_47 : decode cX11_commonDivisor 47 = .ok (.lreturn, 1) := by decide +kernel
def fX11_commonDivisor_s9 (N : Nat) (c9 : Int64 → Int64 → Int32 → Option Int64) (v4 : Int64) (v6 : Int64) (v8 : Int32) : Option Int64 :=
  (if 200 ≤ v8 then (some v4) else (if (lg_cmp v6 0) = 0 then (some v4) else (if v6 = 0 then none else (c9 v6 (lrm v4 v6) (v8 + 1)))))
set_option maxRecDepth 20000 in
set_option maxHeartbeats 4000000 in
theorem aX11_commonDivisor_s9 (N : Nat) (σ : qMem) (c9 : Int64 → Int64 → Int32 → Option Int64) (hc9 : ∀ (v4 : Int64) (v6 : Int64) (v8 : Int32) , qAt wC mX11_commonDivisor (ρq σ) 9 [(4, .long v4), (6, .long v6), (8, .int v8)] [] σ (c9 v4 v6 v8)) (v4 : Int64) (v6 : Int64) (v8 : Int32) : qAt wC mX11_commonDivisor (ρq σ) 9 [(4, .long v4), (6, .long v6), (8, .int v8)] [] σ (fX11_commonDivisor_s9 N c9 v4 v6 v8) := by
  unfold fX11_commonDivisor_s9
  refine q_iload (i := 8) (x := v8) dX11_commonDivisor_9 2 rfl ?_
  refine q_sipush (v := 200) dX11_commonDivisor_11 (by decide) ?_
  refine q_icmp_ge (tgt := 45) dX11_commonDivisor_14 (by decide) ?_ ?_
  · refine q_lload (i := 4) (x := v4) dX11_commonDivisor_45 0 rfl ?_
    exact q_lret (y := v4) dX11_commonDivisor_47 rfl rfl
  refine q_lload (i := 6) (x := v6) dX11_commonDivisor_17 1 rfl ?_
  refine q_lconst (v := 0) dX11_commonDivisor_19 (by decide) ?_
  refine q_lcmp dX11_commonDivisor_20 ?_
  refine q_if_eq (tgt := 45) dX11_commonDivisor_21 (by decide) ?_ ?_
  · refine q_lload (i := 4) (x := v4) dX11_commonDivisor_45 0 rfl ?_
    exact q_lret (y := v4) dX11_commonDivisor_47 rfl rfl
  refine q_lload (i := 4) (x := v4) dX11_commonDivisor_24 0 rfl ?_
  refine q_lload (i := 6) (x := v6) dX11_commonDivisor_26 1 rfl ?_
  refine q_lremC dX11_commonDivisor_28 ?_
  refine q_lstore (i := 9) (L' := [(9, .long (lrm v4 v6)), (4, .long v4), (6, .long v6), (8, .int v8)]) dX11_commonDivisor_29 (Nat.le_of_ble_eq_true rfl) rfl ?_
  refine q_lload (i := 6) (x := v6) dX11_commonDivisor_31 2 rfl ?_
  refine q_lstore (i := 4) (L' := [(4, .long v6), (9, .long (lrm v4 v6)), (6, .long v6), (8, .int v8)]) dX11_commonDivisor_33 (Nat.le_of_ble_eq_true rfl) rfl ?_
  refine q_lload (i := 9) (x := (lrm v4 v6)) dX11_commonDivisor_35 1 rfl ?_
  refine q_lstore (i := 6) (L' := [(6, .long (lrm v4 v6)), (4, .long v6), (9, .long (lrm v4 v6)), (8, .int v8)]) dX11_commonDivisor_37 (Nat.le_of_ble_eq_true rfl) rfl ?_
  refine q_iinc (i := 8) (x := v8) (v := (v8 + 1)) (L' := [(8, .int (v8 + 1)), (6, .long (lrm v4 v6)), (4, .long v6), (9, .long (lrm v4 v6))]) dX11_commonDivisor_39 3 rfl (q_cst v8 (by decide)) (Nat.le_of_ble_eq_true rfl) rfl ?_
  refine q_goto (tgt := 9) dX11_commonDivisor_42 (by decide) ?_
  exact q_sub [2, 1, 0] rfl (hc9 v6 (lrm v4 v6) (v8 + 1))
def fX11_commonDivisor_l9 (N : Nat) : Nat → Int64 → Int64 → Int32 → Option Int64
  | 0 => fun _ _ _ => none
  | n + 1 => fun v4 v6 v8 => fX11_commonDivisor_s9 N (fX11_commonDivisor_l9 N n) v4 v6 v8
theorem aX11_commonDivisor_l9 (N : Nat) (σ : qMem) : ∀ (n : Nat) (v4 : Int64) (v6 : Int64) (v8 : Int32), qAt wC mX11_commonDivisor (ρq σ) 9 [(4, .long v4), (6, .long v6), (8, .int v8)] [] σ (fX11_commonDivisor_l9 N n v4 v6 v8) := by
  intro n
  induction n with
  | zero => intro v4 v6 v8; exact q_none
  | succ n ih => intro v4 v6 v8; exact aX11_commonDivisor_s9 N σ (fX11_commonDivisor_l9 N n) ih v4 v6 v8

def fX11_commonDivisor (N : Nat) (p0 : Int64) (p2 : Int64) : Option Int64 :=
  (fX11_commonDivisor_l9 N N p0 p2 0)
set_option maxRecDepth 20000 in
set_option maxHeartbeats 4000000 in
theorem aX11_commonDivisor  (N : Nat) (p0 : Int64) (p2 : Int64)  (σ : qMem) : qAt wC mX11_commonDivisor (ρq σ) 0 [(0, .long p0), (2, .long p2)] [] σ (fX11_commonDivisor N p0 p2) := by
  unfold fX11_commonDivisor
  refine q_lload_n (i := 0) (x := p0) dX11_commonDivisor_0 rfl 0 rfl ?_
  refine q_lstore (i := 4) (L' := [(4, .long p0), (0, .long p0), (2, .long p2)]) dX11_commonDivisor_1 (Nat.le_of_ble_eq_true rfl) rfl ?_
  refine q_lload_n (i := 2) (x := p2) dX11_commonDivisor_3 rfl 2 rfl ?_
  refine q_lstore (i := 6) (L' := [(6, .long p2), (4, .long p0), (0, .long p0), (2, .long p2)]) dX11_commonDivisor_4 (Nat.le_of_ble_eq_true rfl) rfl ?_
  refine q_iconst (v := 0) dX11_commonDivisor_6 (by decide) ?_
  refine q_istore (i := 8) (L' := [(8, .int 0), (6, .long p2), (4, .long p0), (0, .long p0), (2, .long p2)]) dX11_commonDivisor_7 (Nat.le_of_ble_eq_true rfl) rfl ?_
  exact q_sub [2, 1, 0] rfl (aX11_commonDivisor_l9 N σ N p0 p2 0)
theorem kX11_commonDivisor  (N : Nat) (p0 : Int64) (p2 : Int64)  (σ : qMem) : qMc wC mX11_commonDivisor (ρq σ) [.long p0, .long p2] σ (fX11_commonDivisor N p0 p2) := qMc_of (moX11_commonDivisor) (Nat.le_of_ble_eq_true rfl) (aX11_commonDivisor N p0 p2  σ)

theorem dX11_power_0 : decode cX11_power 0 = .ok (.lconst 1, 1) := by decide +kernel
theorem dX11_power_1 : decode cX11_power 1 = .ok (.lstore_n 2, 1) := by decide +kernel
theorem dX11_power_2 : decode cX11_power 2 = .ok (.iconst 0, 1) := by decide +kernel
theorem dX11_power_3 : decode cX11_power 3 = .ok (.istore 4, 2) := by decide +kernel
theorem dX11_power_5 : decode cX11_power 5 = .ok (.iload 4, 2) := by decide +kernel
theorem dX11_power_7 : decode cX11_power 7 = .ok (.iload_n 1, 1) := by decide +kernel
theorem dX11_power_8 : decode cX11_power 8 = .ok (.if_icmp .ge 14, 3) := by decide +kernel
theorem dX11_power_11 : decode cX11_power 11 = .ok (.lload_n 2, 1) := by decide +kernel
theorem dX11_power_12 : decode cX11_power 12 = .ok (.iload_n 0, 1) := by decide +kernel
theorem dX11_power_13 : decode cX11_power 13 = .ok (.i2l, 1) := by decide +kernel
theorem dX11_power_14 : decode cX11_power 14 = .ok (.lmul, 1) := by decide +kernel
theorem dX11_power_15 : decode cX11_power 15 = .ok (.lstore_n 2, 1) := by decide +kernel
theorem dX11_power_16 : decode cX11_power 16 = .ok (.iinc 4 1, 3) := by decide +kernel
theorem dX11_power_19 : decode cX11_power 19 = .ok (.goto (-14), 3) := by decide +kernel
theorem dX11_power_22 : decode cX11_power 22 = .ok (.lload_n 2, 1) := by decide +kernel
theorem dX11_power_23 : decode cX11_power 23 = .ok (.lreturn, 1) := by decide +kernel
def fX11_power_s5 (N : Nat) (c5 : Int32 → Int32 → Int64 → Int32 → Option Int64) (v0 : Int32) (v1 : Int32) (v2 : Int64) (v4 : Int32) : Option Int64 :=
  (if v1 ≤ v4 then (some v2) else (c5 v0 v1 (v2 * v0.toInt64) (v4 + 1)))
set_option maxRecDepth 20000 in
set_option maxHeartbeats 4000000 in
theorem aX11_power_s5 (N : Nat) (σ : qMem) (c5 : Int32 → Int32 → Int64 → Int32 → Option Int64) (hc5 : ∀ (v0 : Int32) (v1 : Int32) (v2 : Int64) (v4 : Int32) , qAt wC mX11_power (ρq σ) 5 [(0, .int v0), (1, .int v1), (2, .long v2), (4, .int v4)] [] σ (c5 v0 v1 v2 v4)) (v0 : Int32) (v1 : Int32) (v2 : Int64) (v4 : Int32) : qAt wC mX11_power (ρq σ) 5 [(0, .int v0), (1, .int v1), (2, .long v2), (4, .int v4)] [] σ (fX11_power_s5 N c5 v0 v1 v2 v4) := by
  unfold fX11_power_s5
  refine q_iload (i := 4) (x := v4) dX11_power_5 3 rfl ?_
  refine q_iload_n (i := 1) (x := v1) dX11_power_7 rfl 1 rfl ?_
  refine q_icmp_ge (tgt := 22) dX11_power_8 (by decide) ?_ ?_
  · refine q_lload_n (i := 2) (x := v2) dX11_power_22 rfl 2 rfl ?_
    exact q_lret (y := v2) dX11_power_23 rfl rfl
  refine q_lload_n (i := 2) (x := v2) dX11_power_11 rfl 2 rfl ?_
  refine q_iload_n (i := 0) (x := v0) dX11_power_12 rfl 0 rfl ?_
  refine q_i2l dX11_power_13 ?_
  refine q_lmul dX11_power_14 ?_
  refine q_lstore_n (i := 2) (L' := [(2, .long (v2 * v0.toInt64)), (0, .int v0), (1, .int v1), (4, .int v4)]) dX11_power_15 rfl (Nat.le_of_ble_eq_true rfl) rfl ?_
  refine q_iinc (i := 4) (x := v4) (v := (v4 + 1)) (L' := [(4, .int (v4 + 1)), (2, .long (v2 * v0.toInt64)), (0, .int v0), (1, .int v1)]) dX11_power_16 3 rfl (q_cst v4 (by decide)) (Nat.le_of_ble_eq_true rfl) rfl ?_
  refine q_goto (tgt := 5) dX11_power_19 (by decide) ?_
  exact q_sub [2, 3, 1, 0] rfl (hc5 v0 v1 (v2 * v0.toInt64) (v4 + 1))
def fX11_power_l5 (N : Nat) : Nat → Int32 → Int32 → Int64 → Int32 → Option Int64
  | 0 => fun _ _ _ _ => none
  | n + 1 => fun v0 v1 v2 v4 => fX11_power_s5 N (fX11_power_l5 N n) v0 v1 v2 v4
theorem aX11_power_l5 (N : Nat) (σ : qMem) : ∀ (n : Nat) (v0 : Int32) (v1 : Int32) (v2 : Int64) (v4 : Int32), qAt wC mX11_power (ρq σ) 5 [(0, .int v0), (1, .int v1), (2, .long v2), (4, .int v4)] [] σ (fX11_power_l5 N n v0 v1 v2 v4) := by
  intro n
  induction n with
  | zero => intro v0 v1 v2 v4; exact q_none
  | succ n ih => intro v0 v1 v2 v4; exact aX11_power_s5 N σ (fX11_power_l5 N n) ih v0 v1 v2 v4

def fX11_power (N : Nat) (p0 : Int32) (p1 : Int32) : Option Int64 :=
  (fX11_power_l5 N N p0 p1 1 0)
set_option maxRecDepth 20000 in
set_option maxHeartbeats 4000000 in
theorem aX11_power  (N : Nat) (p0 : Int32) (p1 : Int32)  (σ : qMem) : qAt wC mX11_power (ρq σ) 0 [(0, .int p0), (1, .int p1)] [] σ (fX11_power N p0 p1) := by
  unfold fX11_power
  refine q_lconst (v := 1) dX11_power_0 (by decide) ?_
  refine q_lstore_n (i := 2) (L' := [(2, .long 1), (0, .int p0), (1, .int p1)]) dX11_power_1 rfl (Nat.le_of_ble_eq_true rfl) rfl ?_
  refine q_iconst (v := 0) dX11_power_2 (by decide) ?_
  refine q_istore (i := 4) (L' := [(4, .int 0), (2, .long 1), (0, .int p0), (1, .int p1)]) dX11_power_3 (Nat.le_of_ble_eq_true rfl) rfl ?_
  exact q_sub [2, 3, 1, 0] rfl (aX11_power_l5 N σ N p0 p1 1 0)
theorem kX11_power  (N : Nat) (p0 : Int32) (p1 : Int32)  (σ : qMem) : qMc wC mX11_power (ρq σ) [.int p0, .int p1] σ (fX11_power N p0 p1) := qMc_of (moX11_power) (Nat.le_of_ble_eq_true rfl) (aX11_power N p0 p1  σ)

theorem dX11_gain_0 : decode cX11_gain 0 = .ok (.aload_n 0, 1) := by decide +kernel
theorem dX11_gain_1 : decode cX11_gain 1 = .ok (.getfield 12, 3) := by decide +kernel
theorem dX11_gain_4 : decode cX11_gain 4 = .ok (.getfield 358, 3) := by decide +kernel
theorem dX11_gain_7 : decode cX11_gain 7 = .ok (.iload_n 1, 1) := by decide +kernel
theorem dX11_gain_8 : decode cX11_gain 8 = .ok (.iconst 1, 1) := by decide +kernel
theorem dX11_gain_9 : decode cX11_gain 9 = .ok (.invokevirtual 123, 3) := by decide +kernel
theorem dX11_gain_12 : decode cX11_gain 12 = .ok (.istore_n 3, 1) := by decide +kernel
theorem dX11_gain_13 : decode cX11_gain 13 = .ok (.aload_n 0, 1) := by decide +kernel
theorem dX11_gain_14 : decode cX11_gain 14 = .ok (.getfield 12, 3) := by decide +kernel
theorem dX11_gain_17 : decode cX11_gain 17 = .ok (.getfield 358, 3) := by decide +kernel
theorem dX11_gain_20 : decode cX11_gain 20 = .ok (.iload_n 1, 1) := by decide +kernel
theorem dX11_gain_21 : decode cX11_gain 21 = .ok (.iconst 0, 1) := by decide +kernel
theorem dX11_gain_22 : decode cX11_gain 22 = .ok (.invokevirtual 123, 3) := by decide +kernel
theorem dX11_gain_25 : decode cX11_gain 25 = .ok (.i2l, 1) := by decide +kernel
theorem dX11_gain_26 : decode cX11_gain 26 = .ok (.bipush 100, 2) := by decide +kernel
theorem dX11_gain_28 : decode cX11_gain 28 = .ok (.iload_n 3, 1) := by decide +kernel
theorem dX11_gain_29 : decode cX11_gain 29 = .ok (.isub, 1) := by decide +kernel
theorem dX11_gain_30 : decode cX11_gain 30 = .ok (.iload_n 2, 1) := by decide +kernel
theorem dX11_gain_31 : decode cX11_gain 31 = .ok (.invokestatic 367, 3) := by decide +kernel
theorem dX11_gain_34 : decode cX11_gain 34 = .ok (.lmul, 1) := by decide +kernel
theorem dX11_gain_35 : decode cX11_gain 35 = .ok (.bipush 100, 2) := by decide +kernel
theorem dX11_gain_37 : decode cX11_gain 37 = .ok (.iconst 5, 1) := by decide +kernel
theorem dX11_gain_38 : decode cX11_gain 38 = .ok (.iload_n 2, 1) := by decide +kernel
theorem dX11_gain_39 : decode cX11_gain 39 = .ok (.isub, 1) := by decide +kernel
theorem dX11_gain_40 : decode cX11_gain 40 = .ok (.invokestatic 367, 3) := by decide +kernel
theorem dX11_gain_43 : decode cX11_gain 43 = .ok (.lmul, 1) := by decide +kernel
theorem dX11_gain_44 : decode cX11_gain 44 = .ok (.lstore 4, 2) := by decide +kernel
theorem dX11_gain_46 : decode cX11_gain 46 = .ok (.lload 4, 2) := by decide +kernel
theorem dX11_gain_48 : decode cX11_gain 48 = .ok (.iload_n 3, 1) := by decide +kernel
theorem dX11_gain_49 : decode cX11_gain 49 = .ok (.i2l, 1) := by decide +kernel
theorem dX11_gain_50 : decode cX11_gain 50 = .ok (.lmul, 1) := by decide +kernel
theorem dX11_gain_51 : decode cX11_gain 51 = .ok (.lreturn, 1) := by decide +kernel

def fX11_gain (N : Nat) (p1 : Int32) (p2 : Int32) (σ : qMem) : Option Int64 :=
  ((fX8_at 33 12 p1 1 σ).bind fun y1 => ((fX8_at 33 12 p1 0 σ).bind fun y2 => ((fX11_power N (100 - y1) p2).bind fun y3 => ((fX11_power N 100 (5 - p2)).bind fun y4 => (some (((y2.toInt64 * y3) * y4) * y1.toInt64))))))
set_option maxRecDepth 20000 in
set_option maxHeartbeats 4000000 in
theorem aX11_gain  (N : Nat) (p1 : Int32) (p2 : Int32)  (σ : qMem) : qAt wC mX11_gain (ρq σ) 0 [(0, .ref 0), (1, .int p1), (2, .int p2)] [] σ (fX11_gain N p1 p2 σ) := by
  unfold fX11_gain
  refine q_aload_n (i := 0) (x := 0) dX11_gain_0 rfl 0 rfl ?_
  refine q_getr (t := 1) dX11_gain_1 foX11_12 zC_0 rfl ?_
  refine q_getr (t := 33) dX11_gain_4 foX11_358 zC_1 rfl ?_
  refine q_iload_n (i := 1) (x := p1) dX11_gain_7 rfl 1 rfl ?_
  refine q_iconst (v := 1) dX11_gain_8 (by decide) ?_
  refine q_cVp mX8_at [.int p1, .int 1] (st := []) dX11_gain_9 (svX11_123) ⟨Nat.le_of_ble_eq_true rfl, Nat.le_of_ble_eq_true rfl⟩ zC_33 rfl rfl rfl (Nat.le_of_ble_eq_true rfl) (kX8_at 33 12 p1 1 pC_33 σ) (fun y1 => ?_)
  refine q_istore_n (i := 3) (L' := [(3, .int y1), (0, .ref 0), (1, .int p1), (2, .int p2)]) dX11_gain_12 rfl (Nat.le_of_ble_eq_true rfl) rfl ?_
  refine q_aload_n (i := 0) (x := 0) dX11_gain_13 rfl 1 rfl ?_
  refine q_getr (t := 1) dX11_gain_14 foX11_12 zC_0 rfl ?_
  refine q_getr (t := 33) dX11_gain_17 foX11_358 zC_1 rfl ?_
  refine q_iload_n (i := 1) (x := p1) dX11_gain_20 rfl 2 rfl ?_
  refine q_iconst (v := 0) dX11_gain_21 (by decide) ?_
  refine q_cVp mX8_at [.int p1, .int 0] (st := []) dX11_gain_22 (svX11_123) ⟨Nat.le_of_ble_eq_true rfl, Nat.le_of_ble_eq_true rfl⟩ zC_33 rfl rfl rfl (Nat.le_of_ble_eq_true rfl) (kX8_at 33 12 p1 0 pC_33 σ) (fun y2 => ?_)
  refine q_i2l dX11_gain_25 ?_
  refine q_bipush (v := 100) dX11_gain_26 (by decide) ?_
  refine q_iload_n (i := 3) (x := y1) dX11_gain_28 rfl 0 rfl ?_
  refine q_isub dX11_gain_29 ?_
  refine q_iload_n (i := 2) (x := p2) dX11_gain_30 rfl 3 rfl ?_
  refine q_cSq mX11_power [.int (100 - y1), .int p2] (st := [.long y2.toInt64]) dX11_gain_31 (ssX11_367) ⟨Nat.le_of_ble_eq_true rfl, Nat.le_of_ble_eq_true rfl⟩ rfl rfl (Nat.le_of_ble_eq_true rfl) (kX11_power N (100 - y1) p2 σ) (fun y3 => ?_)
  refine q_lmul dX11_gain_34 ?_
  refine q_bipush (v := 100) dX11_gain_35 (by decide) ?_
  refine q_iconst (v := 5) dX11_gain_37 (by decide) ?_
  refine q_iload_n (i := 2) (x := p2) dX11_gain_38 rfl 3 rfl ?_
  refine q_isub dX11_gain_39 ?_
  refine q_cSq mX11_power [.int 100, .int (5 - p2)] (st := [.long (y2.toInt64 * y3)]) dX11_gain_40 (ssX11_367) ⟨Nat.le_of_ble_eq_true rfl, Nat.le_of_ble_eq_true rfl⟩ rfl rfl (Nat.le_of_ble_eq_true rfl) (kX11_power N 100 (5 - p2) σ) (fun y4 => ?_)
  refine q_lmul dX11_gain_43 ?_
  refine q_lstore (i := 4) (L' := [(4, .long ((y2.toInt64 * y3) * y4)), (3, .int y1), (0, .ref 0), (1, .int p1), (2, .int p2)]) dX11_gain_44 (Nat.le_of_ble_eq_true rfl) rfl ?_
  refine q_lload (i := 4) (x := ((y2.toInt64 * y3) * y4)) dX11_gain_46 0 rfl ?_
  refine q_iload_n (i := 3) (x := y1) dX11_gain_48 rfl 1 rfl ?_
  refine q_i2l dX11_gain_49 ?_
  refine q_lmul dX11_gain_50 ?_
  exact q_lret (y := (((y2.toInt64 * y3) * y4) * y1.toInt64)) dX11_gain_51 rfl rfl
theorem kX11_gain  (N : Nat) (p1 : Int32) (p2 : Int32)  (σ : qMem) : qMc wC mX11_gain (ρq σ) [.ref 0, .int p1, .int p2] σ (fX11_gain N p1 p2 σ) := qMc_of (moX11_gain) (Nat.le_of_ble_eq_true rfl) (aX11_gain N p1 p2  σ)

theorem dX11_spreadLooks_0 : decode cX11_spreadLooks 0 = .ok (.aload_n 0, 1) := by decide +kernel
theorem dX11_spreadLooks_1 : decode cX11_spreadLooks 1 = .ok (.getfield 63, 3) := by decide +kernel
theorem dX11_spreadLooks_4 : decode cX11_spreadLooks 4 = .ok (.iconst 0, 1) := by decide +kernel
theorem dX11_spreadLooks_5 : decode cX11_spreadLooks 5 = .ok (.invokestatic 405, 3) := by decide +kernel
theorem dX11_spreadLooks_8 : decode cX11_spreadLooks 8 = .ok (.lconst 0, 1) := by decide +kernel
theorem dX11_spreadLooks_9 : decode cX11_spreadLooks 9 = .ok (.lstore_n 2, 1) := by decide +kernel
theorem dX11_spreadLooks_10 : decode cX11_spreadLooks 10 = .ok (.iconst 0, 1) := by decide +kernel
theorem dX11_spreadLooks_11 : decode cX11_spreadLooks 11 = .ok (.istore 4, 2) := by decide +kernel
theorem dX11_spreadLooks_13 : decode cX11_spreadLooks 13 = .ok (.iload 4, 2) := by decide +kernel
theorem dX11_spreadLooks_15 : decode cX11_spreadLooks 15 = .ok (.iload_n 1, 1) := by decide +kernel
theorem dX11_spreadLooks_16 : decode cX11_spreadLooks 16 = .ok (.if_icmp .ge 110, 3) := by decide +kernel
theorem dX11_spreadLooks_19 : decode cX11_spreadLooks 19 = .ok (.aload_n 0, 1) := by decide +kernel
theorem dX11_spreadLooks_20 : decode cX11_spreadLooks 20 = .ok (.getfield 12, 3) := by decide +kernel
theorem dX11_spreadLooks_23 : decode cX11_spreadLooks 23 = .ok (.getfield 358, 3) := by decide +kernel
theorem dX11_spreadLooks_26 : decode cX11_spreadLooks 26 = .ok (.getfield 105, 3) := by decide +kernel
theorem dX11_spreadLooks_29 : decode cX11_spreadLooks 29 = .ok (.ifCond .le 97, 3) := by decide +kernel
theorem dX11_spreadLooks_32 : decode cX11_spreadLooks 32 = .ok (.iconst 0, 1) := by decide +kernel
theorem dX11_spreadLooks_33 : decode cX11_spreadLooks 33 = .ok (.istore 5, 2) := by decide +kernel
theorem dX11_spreadLooks_35 : decode cX11_spreadLooks 35 = .ok (.iconst 1, 1) := by decide +kernel
theorem dX11_spreadLooks_36 : decode cX11_spreadLooks 36 = .ok (.istore 6, 2) := by decide +kernel
theorem dX11_spreadLooks_38 : decode cX11_spreadLooks 38 = .ok (.iload 6, 2) := by decide +kernel
theorem dX11_spreadLooks_40 : decode cX11_spreadLooks 40 = .ok (.aload_n 0, 1) := by decide +kernel
theorem dX11_spreadLooks_41 : decode cX11_spreadLooks 41 = .ok (.getfield 12, 3) := by decide +kernel
theorem dX11_spreadLooks_44 : decode cX11_spreadLooks 44 = .ok (.getfield 358, 3) := by decide +kernel
theorem dX11_spreadLooks_47 : decode cX11_spreadLooks 47 = .ok (.getfield 105, 3) := by decide +kernel
theorem dX11_spreadLooks_50 : decode cX11_spreadLooks 50 = .ok (.if_icmp .ge 43, 3) := by decide +kernel
theorem dX11_spreadLooks_53 : decode cX11_spreadLooks 53 = .ok (.aload_n 0, 1) := by decide +kernel
theorem dX11_spreadLooks_54 : decode cX11_spreadLooks 54 = .ok (.iload 6, 2) := by decide +kernel
theorem dX11_spreadLooks_56 : decode cX11_spreadLooks 56 = .ok (.aload_n 0, 1) := by decide +kernel
theorem dX11_spreadLooks_57 : decode cX11_spreadLooks 57 = .ok (.getfield 63, 3) := by decide +kernel
theorem dX11_spreadLooks_60 : decode cX11_spreadLooks 60 = .ok (.iload 6, 2) := by decide +kernel
theorem dX11_spreadLooks_62 : decode cX11_spreadLooks 62 = .ok (.iaload, 1) := by decide +kernel
theorem dX11_spreadLooks_63 : decode cX11_spreadLooks 63 = .ok (.invokevirtual 411, 3) := by decide +kernel
theorem dX11_spreadLooks_66 : decode cX11_spreadLooks 66 = .ok (.aload_n 0, 1) := by decide +kernel
theorem dX11_spreadLooks_67 : decode cX11_spreadLooks 67 = .ok (.iload 5, 2) := by decide +kernel
theorem dX11_spreadLooks_69 : decode cX11_spreadLooks 69 = .ok (.aload_n 0, 1) := by decide +kernel
theorem dX11_spreadLooks_70 : decode cX11_spreadLooks 70 = .ok (.getfield 63, 3) := by decide +kernel
theorem dX11_spreadLooks_73 : decode cX11_spreadLooks 73 = .ok (.iload 5, 2) := by decide +kernel
theorem dX11_spreadLooks_75 : decode cX11_spreadLooks 75 = .ok (.iaload, 1) := by decide +kernel
theorem dX11_spreadLooks_76 : decode cX11_spreadLooks 76 = .ok (.invokevirtual 411, 3) := by decide +kernel
theorem dX11_spreadLooks_79 : decode cX11_spreadLooks 79 = .ok (.lcmp, 1) := by decide +kernel
theorem dX11_spreadLooks_80 : decode cX11_spreadLooks 80 = .ok (.ifCond .le 7, 3) := by decide +kernel
theorem dX11_spreadLooks_83 : decode cX11_spreadLooks 83 = .ok (.iload 6, 2) := by decide +kernel
theorem dX11_spreadLooks_85 : decode cX11_spreadLooks 85 = .ok (.istore 5, 2) := by decide +kernel
theorem dX11_spreadLooks_87 : decode cX11_spreadLooks 87 = .ok (.iinc 6 1, 3) := by decide +kernel
theorem dX11_spreadLooks_90 : decode cX11_spreadLooks 90 = .ok (.goto (-52), 3) := by decide +kernel
theorem dX11_spreadLooks_93 : decode cX11_spreadLooks 93 = .ok (.lload_n 2, 1) := by decide +kernel
theorem dX11_spreadLooks_94 : decode cX11_spreadLooks 94 = .ok (.aload_n 0, 1) := by decide +kernel
theorem dX11_spreadLooks_95 : decode cX11_spreadLooks 95 = .ok (.iload 5, 2) := by decide +kernel
theorem dX11_spreadLooks_97 : decode cX11_spreadLooks 97 = .ok (.aload_n 0, 1) := by decide +kernel
theorem dX11_spreadLooks_98 : decode cX11_spreadLooks 98 = .ok (.getfield 63, 3) := by decide +kernel
theorem dX11_spreadLooks_101 : decode cX11_spreadLooks 101 = .ok (.iload 5, 2) := by decide +kernel
theorem dX11_spreadLooks_103 : decode cX11_spreadLooks 103 = .ok (.iaload, 1) := by decide +kernel
theorem dX11_spreadLooks_104 : decode cX11_spreadLooks 104 = .ok (.invokevirtual 411, 3) := by decide +kernel
theorem dX11_spreadLooks_107 : decode cX11_spreadLooks 107 = .ok (.ladd, 1) := by decide +kernel
theorem dX11_spreadLooks_108 : decode cX11_spreadLooks 108 = .ok (.lstore_n 2, 1) := by decide +kernel
theorem dX11_spreadLooks_109 : decode cX11_spreadLooks 109 = .ok (.aload_n 0, 1) := by decide +kernel
theorem dX11_spreadLooks_110 : decode cX11_spreadLooks 110 = .ok (.getfield 63, 3) := by decide +kernel
theorem dX11_spreadLooks_113 : decode cX11_spreadLooks 113 = .ok (.iload 5, 2) := by decide +kernel
theorem dX11_spreadLooks_115 : decode cX11_spreadLooks 115 = .ok (.dup2, 1) := by decide +kernel
theorem dX11_spreadLooks_116 : decode cX11_spreadLooks 116 = .ok (.iaload, 1) := by decide +kernel
theorem dX11_spreadLooks_117 : decode cX11_spreadLooks 117 = .ok (.iconst 1, 1) := by decide +kernel
theorem dX11_spreadLooks_118 : decode cX11_spreadLooks 118 = .ok (.iadd, 1) := by decide +kernel
theorem dX11_spreadLooks_119 : decode cX11_spreadLooks 119 = .ok (.iastore, 1) := by decide +kernel
theorem dX11_spreadLooks_120 : decode cX11_spreadLooks 120 = .ok (.iinc 4 1, 3) := by decide +kernel
theorem dX11_spreadLooks_123 : decode cX11_spreadLooks 123 = .ok (.goto (-110), 3) := by decide +kernel
theorem dX11_spreadLooks_126 : decode cX11_spreadLooks 126 = .ok (.lload_n 2, 1) := by decide +kernel
theorem dX11_spreadLooks_127 : decode cX11_spreadLooks 127 = .ok (.lreturn, 1) := by decide +kernel
def fX11_spreadLooks_b87 (N : Nat) (c13 : Int32 → Int64 → Int32 → qMem → Option (Int64 × qMem)) (c38 : Int32 → Int64 → Int32 → Int32 → Int32 → qMem → Option (Int64 × qMem)) (v1 : Int32) (v2 : Int64) (v4 : Int32) (v5 : Int32) (v6 : Int32) (σ : qMem) : Option (Int64 × qMem) :=
  (c38 v1 v2 v4 v5 (v6 + 1) σ)
set_option maxRecDepth 20000 in
set_option maxHeartbeats 4000000 in
theorem aX11_spreadLooks_b87 (N : Nat) (c13 : Int32 → Int64 → Int32 → qMem → Option (Int64 × qMem)) (c38 : Int32 → Int64 → Int32 → Int32 → Int32 → qMem → Option (Int64 × qMem)) (hc13 : ∀ (v1 : Int32) (v2 : Int64) (v4 : Int32) (σ : qMem), qAt wC mX11_spreadLooks (ρl) 13 [(0, .ref 0), (1, .int v1), (2, .long v2), (4, .int v4)] [] σ (c13 v1 v2 v4 σ)) (hc38 : ∀ (v1 : Int32) (v2 : Int64) (v4 : Int32) (v5 : Int32) (v6 : Int32) (σ : qMem), qAt wC mX11_spreadLooks (ρl) 38 [(0, .ref 0), (1, .int v1), (2, .long v2), (4, .int v4), (5, .int v5), (6, .int v6)] [] σ (c38 v1 v2 v4 v5 v6 σ)) (v1 : Int32) (v2 : Int64) (v4 : Int32) (v5 : Int32) (v6 : Int32) (σ : qMem) : qAt wC mX11_spreadLooks (ρl) 87 [(0, .ref 0), (1, .int v1), (2, .long v2), (4, .int v4), (5, .int v5), (6, .int v6)] [] σ (fX11_spreadLooks_b87 N c13 c38 v1 v2 v4 v5 v6 σ) := by
  unfold fX11_spreadLooks_b87
  refine q_iinc (i := 6) (x := v6) (v := (v6 + 1)) (L' := [(6, .int (v6 + 1)), (0, .ref 0), (1, .int v1), (2, .long v2), (4, .int v4), (5, .int v5)]) dX11_spreadLooks_87 5 rfl (q_cst v6 (by decide)) (Nat.le_of_ble_eq_true rfl) rfl ?_
  refine q_goto (tgt := 38) dX11_spreadLooks_90 (by decide) ?_
  exact q_sub [1, 2, 3, 4, 5, 0] rfl (hc38 v1 v2 v4 v5 (v6 + 1) σ)

def fX11_spreadLooks_s38 (N : Nat) (c13 : Int32 → Int64 → Int32 → qMem → Option (Int64 × qMem)) (c38 : Int32 → Int64 → Int32 → Int32 → Int32 → qMem → Option (Int64 × qMem)) (v1 : Int32) (v2 : Int64) (v4 : Int32) (v5 : Int32) (v6 : Int32) (σ : qMem) : Option (Int64 × qMem) :=
  (if (gi σ 33 3) ≤ v6 then (if ck v5 6 = true then ((fX11_gain N v5 (gi σ 88 v5.toNatClampNeg) σ).bind fun y2 => (if ck v5 6 = true then (if ck v5 6 = true then (nmM (si σ 88 v5.toNatClampNeg ((gi σ 88 v5.toNatClampNeg) + 1)) fun s3 => (c13 v1 (v2 + y2) (v4 + 1) s3)) else none) else none)) else none) else (if ck v6 6 = true then ((fX11_gain N v6 (gi σ 88 v6.toNatClampNeg) σ).bind fun y4 => (if ck v5 6 = true then ((fX11_gain N v5 (gi σ 88 v5.toNatClampNeg) σ).bind fun y5 => (if (lg_cmp y4 y5) ≤ 0 then (fX11_spreadLooks_b87 N c13 c38 v1 v2 v4 v5 v6 σ) else (fX11_spreadLooks_b87 N c13 c38 v1 v2 v4 v6 v6 σ))) else none)) else none))
set_option maxRecDepth 20000 in
set_option maxHeartbeats 4000000 in
theorem aX11_spreadLooks_s38 (N : Nat) (c13 : Int32 → Int64 → Int32 → qMem → Option (Int64 × qMem)) (hc13 : ∀ (v1 : Int32) (v2 : Int64) (v4 : Int32) (σ : qMem), qAt wC mX11_spreadLooks (ρl) 13 [(0, .ref 0), (1, .int v1), (2, .long v2), (4, .int v4)] [] σ (c13 v1 v2 v4 σ)) (c38 : Int32 → Int64 → Int32 → Int32 → Int32 → qMem → Option (Int64 × qMem)) (hc38 : ∀ (v1 : Int32) (v2 : Int64) (v4 : Int32) (v5 : Int32) (v6 : Int32) (σ : qMem), qAt wC mX11_spreadLooks (ρl) 38 [(0, .ref 0), (1, .int v1), (2, .long v2), (4, .int v4), (5, .int v5), (6, .int v6)] [] σ (c38 v1 v2 v4 v5 v6 σ)) (v1 : Int32) (v2 : Int64) (v4 : Int32) (v5 : Int32) (v6 : Int32) (σ : qMem) : qAt wC mX11_spreadLooks (ρl) 38 [(0, .ref 0), (1, .int v1), (2, .long v2), (4, .int v4), (5, .int v5), (6, .int v6)] [] σ (fX11_spreadLooks_s38 N c13 c38 v1 v2 v4 v5 v6 σ) := by
  unfold fX11_spreadLooks_s38
  refine q_iload (i := 6) (x := v6) dX11_spreadLooks_38 5 rfl ?_
  refine q_aload_n (i := 0) (x := 0) dX11_spreadLooks_40 rfl 0 rfl ?_
  refine q_getr (t := 1) dX11_spreadLooks_41 foX11_12 zC_0 rfl ?_
  refine q_getr (t := 33) dX11_spreadLooks_44 foX11_358 zC_1 rfl ?_
  refine q_geti dX11_spreadLooks_47 foX11_105 zC_33 rfl ?_
  refine q_icmp_ge (tgt := 93) dX11_spreadLooks_50 (by decide) ?_ ?_
  · refine q_lload_n (i := 2) (x := v2) dX11_spreadLooks_93 rfl 2 rfl ?_
    refine q_aload_n (i := 0) (x := 0) dX11_spreadLooks_94 rfl 0 rfl ?_
    refine q_iload (i := 5) (x := v5) dX11_spreadLooks_95 4 rfl ?_
    refine q_aload_n (i := 0) (x := 0) dX11_spreadLooks_97 rfl 0 rfl ?_
    refine q_getr (t := 88) dX11_spreadLooks_98 foX11_63 zC_0 rfl ?_
    refine q_iload (i := 5) (x := v5) dX11_spreadLooks_101 4 rfl ?_
    refine q_iald dX11_spreadLooks_103 zC_88 ?_
    refine q_cVq mX11_gain [.int v5, .int (gi σ 88 v5.toNatClampNeg)] (st := [.long v2]) dX11_spreadLooks_104 (svX11_411) ⟨Nat.le_of_ble_eq_true rfl, Nat.le_of_ble_eq_true rfl⟩ zC_0 rfl rfl rfl (Nat.le_of_ble_eq_true rfl) (kX11_gain N v5 (gi σ 88 v5.toNatClampNeg) σ) (fun y2 => ?_)
    refine q_ladd dX11_spreadLooks_107 ?_
    refine q_lstore_n (i := 2) (L' := [(2, .long (v2 + y2)), (0, .ref 0), (1, .int v1), (4, .int v4), (5, .int v5), (6, .int v6)]) dX11_spreadLooks_108 rfl (Nat.le_of_ble_eq_true rfl) rfl ?_
    refine q_aload_n (i := 0) (x := 0) dX11_spreadLooks_109 rfl 1 rfl ?_
    refine q_getr (t := 88) dX11_spreadLooks_110 foX11_63 zC_0 rfl ?_
    refine q_iload (i := 5) (x := v5) dX11_spreadLooks_113 4 rfl ?_
    refine q_dup2 dX11_spreadLooks_115 rfl rfl ?_
    refine q_iald dX11_spreadLooks_116 zC_88 ?_
    refine q_iconst (v := 1) dX11_spreadLooks_117 (by decide) ?_
    refine q_iadd dX11_spreadLooks_118 ?_
    refine q_iast dX11_spreadLooks_119 zC_88 ?_
    refine q_nmM (fun s3 => ?_)
    refine q_iinc (i := 4) (x := v4) (v := (v4 + 1)) (L' := [(4, .int (v4 + 1)), (2, .long (v2 + y2)), (0, .ref 0), (1, .int v1), (5, .int v5), (6, .int v6)]) dX11_spreadLooks_120 3 rfl (q_cst v4 (by decide)) (Nat.le_of_ble_eq_true rfl) rfl ?_
    refine q_goto (tgt := 13) dX11_spreadLooks_123 (by decide) ?_
    exact q_sub [2, 3, 1, 0] rfl (hc13 v1 (v2 + y2) (v4 + 1) s3)
  refine q_aload_n (i := 0) (x := 0) dX11_spreadLooks_53 rfl 0 rfl ?_
  refine q_iload (i := 6) (x := v6) dX11_spreadLooks_54 5 rfl ?_
  refine q_aload_n (i := 0) (x := 0) dX11_spreadLooks_56 rfl 0 rfl ?_
  refine q_getr (t := 88) dX11_spreadLooks_57 foX11_63 zC_0 rfl ?_
  refine q_iload (i := 6) (x := v6) dX11_spreadLooks_60 5 rfl ?_
  refine q_iald dX11_spreadLooks_62 zC_88 ?_
  refine q_cVq mX11_gain [.int v6, .int (gi σ 88 v6.toNatClampNeg)] (st := []) dX11_spreadLooks_63 (svX11_411) ⟨Nat.le_of_ble_eq_true rfl, Nat.le_of_ble_eq_true rfl⟩ zC_0 rfl rfl rfl (Nat.le_of_ble_eq_true rfl) (kX11_gain N v6 (gi σ 88 v6.toNatClampNeg) σ) (fun y4 => ?_)
  refine q_aload_n (i := 0) (x := 0) dX11_spreadLooks_66 rfl 0 rfl ?_
  refine q_iload (i := 5) (x := v5) dX11_spreadLooks_67 4 rfl ?_
  refine q_aload_n (i := 0) (x := 0) dX11_spreadLooks_69 rfl 0 rfl ?_
  refine q_getr (t := 88) dX11_spreadLooks_70 foX11_63 zC_0 rfl ?_
  refine q_iload (i := 5) (x := v5) dX11_spreadLooks_73 4 rfl ?_
  refine q_iald dX11_spreadLooks_75 zC_88 ?_
  refine q_cVq mX11_gain [.int v5, .int (gi σ 88 v5.toNatClampNeg)] (st := [.long y4]) dX11_spreadLooks_76 (svX11_411) ⟨Nat.le_of_ble_eq_true rfl, Nat.le_of_ble_eq_true rfl⟩ zC_0 rfl rfl rfl (Nat.le_of_ble_eq_true rfl) (kX11_gain N v5 (gi σ 88 v5.toNatClampNeg) σ) (fun y5 => ?_)
  refine q_lcmp dX11_spreadLooks_79 ?_
  refine q_if_le (tgt := 87) dX11_spreadLooks_80 (by decide) ?_ ?_
  · exact q_sub [0, 1, 2, 3, 4, 5] rfl (aX11_spreadLooks_b87 N c13 c38 hc13 hc38 v1 v2 v4 v5 v6 σ)
  refine q_iload (i := 6) (x := v6) dX11_spreadLooks_83 5 rfl ?_
  refine q_istore (i := 5) (L' := [(5, .int v6), (0, .ref 0), (1, .int v1), (2, .long v2), (4, .int v4), (6, .int v6)]) dX11_spreadLooks_85 (Nat.le_of_ble_eq_true rfl) rfl ?_
  exact q_sub [1, 2, 3, 4, 0, 5] rfl (aX11_spreadLooks_b87 N c13 c38 hc13 hc38 v1 v2 v4 v6 v6 σ)
def fX11_spreadLooks_l38 (N : Nat) (c13 : Int32 → Int64 → Int32 → qMem → Option (Int64 × qMem)) : Nat → Int32 → Int64 → Int32 → Int32 → Int32 → qMem → Option (Int64 × qMem)
  | 0 => fun _ _ _ _ _ _ => none
  | n + 1 => fun v1 v2 v4 v5 v6 σ => fX11_spreadLooks_s38 N c13 (fX11_spreadLooks_l38 N c13 n) v1 v2 v4 v5 v6 σ
theorem aX11_spreadLooks_l38 (N : Nat) (c13 : Int32 → Int64 → Int32 → qMem → Option (Int64 × qMem)) (hc13 : ∀ (v1 : Int32) (v2 : Int64) (v4 : Int32) (σ : qMem), qAt wC mX11_spreadLooks (ρl) 13 [(0, .ref 0), (1, .int v1), (2, .long v2), (4, .int v4)] [] σ (c13 v1 v2 v4 σ)) : ∀ (n : Nat) (v1 : Int32) (v2 : Int64) (v4 : Int32) (v5 : Int32) (v6 : Int32) (σ : qMem), qAt wC mX11_spreadLooks (ρl) 38 [(0, .ref 0), (1, .int v1), (2, .long v2), (4, .int v4), (5, .int v5), (6, .int v6)] [] σ (fX11_spreadLooks_l38 N c13 n v1 v2 v4 v5 v6 σ) := by
  intro n
  induction n with
  | zero => intro v1 v2 v4 v5 v6 σ; exact q_none
  | succ n ih => intro v1 v2 v4 v5 v6 σ; exact aX11_spreadLooks_s38 N c13 hc13 (fX11_spreadLooks_l38 N c13 n) ih v1 v2 v4 v5 v6 σ

def fX11_spreadLooks_s13 (N : Nat) (c13 : Int32 → Int64 → Int32 → qMem → Option (Int64 × qMem)) (v1 : Int32) (v2 : Int64) (v4 : Int32) (σ : qMem) : Option (Int64 × qMem) :=
  (if v1 ≤ v4 then (some (v2, σ)) else (if (gi σ 33 3) ≤ 0 then (some (v2, σ)) else (fX11_spreadLooks_l38 N c13 N v1 v2 v4 0 1 σ)))
set_option maxRecDepth 20000 in
set_option maxHeartbeats 4000000 in
theorem aX11_spreadLooks_s13 (N : Nat) (c13 : Int32 → Int64 → Int32 → qMem → Option (Int64 × qMem)) (hc13 : ∀ (v1 : Int32) (v2 : Int64) (v4 : Int32) (σ : qMem), qAt wC mX11_spreadLooks (ρl) 13 [(0, .ref 0), (1, .int v1), (2, .long v2), (4, .int v4)] [] σ (c13 v1 v2 v4 σ)) (v1 : Int32) (v2 : Int64) (v4 : Int32) (σ : qMem) : qAt wC mX11_spreadLooks (ρl) 13 [(0, .ref 0), (1, .int v1), (2, .long v2), (4, .int v4)] [] σ (fX11_spreadLooks_s13 N c13 v1 v2 v4 σ) := by
  unfold fX11_spreadLooks_s13
  refine q_iload (i := 4) (x := v4) dX11_spreadLooks_13 3 rfl ?_
  refine q_iload_n (i := 1) (x := v1) dX11_spreadLooks_15 rfl 1 rfl ?_
  refine q_icmp_ge (tgt := 126) dX11_spreadLooks_16 (by decide) ?_ ?_
  · refine q_lload_n (i := 2) (x := v2) dX11_spreadLooks_126 rfl 2 rfl ?_
    exact q_lret (y := (v2, σ)) dX11_spreadLooks_127 rfl rfl
  refine q_aload_n (i := 0) (x := 0) dX11_spreadLooks_19 rfl 0 rfl ?_
  refine q_getr (t := 1) dX11_spreadLooks_20 foX11_12 zC_0 rfl ?_
  refine q_getr (t := 33) dX11_spreadLooks_23 foX11_358 zC_1 rfl ?_
  refine q_geti dX11_spreadLooks_26 foX11_105 zC_33 rfl ?_
  refine q_if_le (tgt := 126) dX11_spreadLooks_29 (by decide) ?_ ?_
  · refine q_lload_n (i := 2) (x := v2) dX11_spreadLooks_126 rfl 2 rfl ?_
    exact q_lret (y := (v2, σ)) dX11_spreadLooks_127 rfl rfl
  refine q_iconst (v := 0) dX11_spreadLooks_32 (by decide) ?_
  refine q_istore (i := 5) (L' := [(5, .int 0), (0, .ref 0), (1, .int v1), (2, .long v2), (4, .int v4)]) dX11_spreadLooks_33 (Nat.le_of_ble_eq_true rfl) rfl ?_
  refine q_iconst (v := 1) dX11_spreadLooks_35 (by decide) ?_
  refine q_istore (i := 6) (L' := [(6, .int 1), (5, .int 0), (0, .ref 0), (1, .int v1), (2, .long v2), (4, .int v4)]) dX11_spreadLooks_36 (Nat.le_of_ble_eq_true rfl) rfl ?_
  exact q_sub [2, 3, 4, 5, 1, 0] rfl (aX11_spreadLooks_l38 N c13 hc13 N v1 v2 v4 0 1 σ)
def fX11_spreadLooks_l13 (N : Nat) : Nat → Int32 → Int64 → Int32 → qMem → Option (Int64 × qMem)
  | 0 => fun _ _ _ _ => none
  | n + 1 => fun v1 v2 v4 σ => fX11_spreadLooks_s13 N (fX11_spreadLooks_l13 N n) v1 v2 v4 σ
theorem aX11_spreadLooks_l13 (N : Nat) : ∀ (n : Nat) (v1 : Int32) (v2 : Int64) (v4 : Int32) (σ : qMem), qAt wC mX11_spreadLooks (ρl) 13 [(0, .ref 0), (1, .int v1), (2, .long v2), (4, .int v4)] [] σ (fX11_spreadLooks_l13 N n v1 v2 v4 σ) := by
  intro n
  induction n with
  | zero => intro v1 v2 v4 σ; exact q_none
  | succ n ih => intro v1 v2 v4 σ; exact aX11_spreadLooks_s13 N (fX11_spreadLooks_l13 N n) ih v1 v2 v4 σ

def fX11_spreadLooks (N : Nat) (p1 : Int32) (σ : qMem) : Option (Int64 × qMem) :=
  ((fJ7_fill_53178 N 88 6 0 σ).bind fun y1 => (fX11_spreadLooks_l13 N N p1 0 0 y1))
set_option maxRecDepth 20000 in
set_option maxHeartbeats 4000000 in
theorem aX11_spreadLooks  (N : Nat) (p1 : Int32)  (σ : qMem) : qAt wC mX11_spreadLooks (ρl) 0 [(0, .ref 0), (1, .int p1)] [] σ (fX11_spreadLooks N p1 σ) := by
  unfold fX11_spreadLooks
  refine q_aload_n (i := 0) (x := 0) dX11_spreadLooks_0 rfl 0 rfl ?_
  refine q_getr (t := 88) dX11_spreadLooks_1 foX11_63 zC_0 rfl ?_
  refine q_iconst (v := 0) dX11_spreadLooks_4 (by decide) ?_
  refine q_cSv mJ7_fill_53178 [.ref 88, .int 0] (st := []) dX11_spreadLooks_5 (ssX11_405) ⟨Nat.le_of_ble_eq_true rfl, Nat.le_of_ble_eq_true rfl⟩ rfl rfl (Nat.le_of_ble_eq_true rfl) (kJ7_fill_53178 N 88 6 0 zC_88 σ) (fun y1 => ?_)
  refine q_lconst (v := 0) dX11_spreadLooks_8 (by decide) ?_
  refine q_lstore_n (i := 2) (L' := [(2, .long 0), (0, .ref 0), (1, .int p1)]) dX11_spreadLooks_9 rfl (Nat.le_of_ble_eq_true rfl) rfl ?_
  refine q_iconst (v := 0) dX11_spreadLooks_10 (by decide) ?_
  refine q_istore (i := 4) (L' := [(4, .int 0), (2, .long 0), (0, .ref 0), (1, .int p1)]) dX11_spreadLooks_11 (Nat.le_of_ble_eq_true rfl) rfl ?_
  exact q_sub [2, 3, 1, 0] rfl (aX11_spreadLooks_l13 N N p1 0 0 y1)
theorem kX11_spreadLooks  (N : Nat) (p1 : Int32)  (σ : qMem) : qMc wC mX11_spreadLooks (ρl) [.ref 0, .int p1] σ (fX11_spreadLooks N p1 σ) := qMc_of (moX11_spreadLooks) (Nat.le_of_ble_eq_true rfl) (aX11_spreadLooks N p1  σ)

theorem dX11_search_0 : decode cX11_search 0 = .ok (.iload_n 1, 1) := by decide +kernel
theorem dX11_search_1 : decode cX11_search 1 = .ok (.iconst 0, 1) := by decide +kernel
theorem dX11_search_2 : decode cX11_search 2 = .ok (.bipush 6, 2) := by decide +kernel
theorem dX11_search_4 : decode cX11_search 4 = .ok (.invokestatic 83, 3) := by decide +kernel
theorem dX11_search_7 : decode cX11_search 7 = .ok (.ifCond .eq 12, 3) := by decide +kernel
theorem dX11_search_10 : decode cX11_search 10 = .ok (.iload_n 2, 1) := by decide +kernel
theorem dX11_search_11 : decode cX11_search 11 = .ok (.iconst 0, 1) := by decide +kernel
theorem dX11_search_12 : decode cX11_search 12 = .ok (.iconst 1, 1) := by decide +kernel
theorem dX11_search_13 : decode cX11_search 13 = .ok (.invokestatic 83, 3) := by decide +kernel
theorem dX11_search_16 : decode cX11_search 16 = .ok (.ifCond .ne 7, 3) := by decide +kernel
theorem dX11_search_19 : decode cX11_search 19 = .ok (.ldc2_w 361, 3) := by decide +kernel
theorem dX11_search_22 : decode cX11_search 22 = .ok (.lreturn, 1) := by decide +kernel
theorem dX11_search_23 : decode cX11_search 23 = .ok (.aload_n 0, 1) := by decide +kernel
theorem dX11_search_24 : decode cX11_search 24 = .ok (.iload_n 1, 1) := by decide +kernel
theorem dX11_search_25 : decode cX11_search 25 = .ok (.invokevirtual 363, 3) := by decide +kernel
theorem dX11_search_28 : decode cX11_search 28 = .ok (.lstore_n 3, 1) := by decide +kernel
theorem dX11_search_29 : decode cX11_search 29 = .ok (.lconst 0, 1) := by decide +kernel
theorem dX11_search_30 : decode cX11_search 30 = .ok (.lstore 5, 2) := by decide +kernel
theorem dX11_search_32 : decode cX11_search 32 = .ok (.iconst 0, 1) := by decide +kernel
theorem dX11_search_33 : decode cX11_search 33 = .ok (.istore 7, 2) := by decide +kernel
theorem dX11_search_35 : decode cX11_search 35 = .ok (.iload 7, 2) := by decide +kernel
theorem dX11_search_37 : decode cX11_search 37 = .ok (.aload_n 0, 1) := by decide +kernel
theorem dX11_search_38 : decode cX11_search 38 = .ok (.getfield 12, 3) := by decide +kernel
theorem dX11_search_41 : decode cX11_search 41 = .ok (.getfield 358, 3) := by decide +kernel
theorem dX11_search_44 : decode cX11_search 44 = .ok (.getfield 105, 3) := by decide +kernel
theorem dX11_search_47 : decode cX11_search 47 = .ok (.if_icmp .ge 36, 3) := by decide +kernel
theorem dX11_search_50 : decode cX11_search 50 = .ok (.lload 5, 2) := by decide +kernel
theorem dX11_search_52 : decode cX11_search 52 = .ok (.aload_n 0, 1) := by decide +kernel
theorem dX11_search_53 : decode cX11_search 53 = .ok (.getfield 12, 3) := by decide +kernel
theorem dX11_search_56 : decode cX11_search 56 = .ok (.getfield 358, 3) := by decide +kernel
theorem dX11_search_59 : decode cX11_search 59 = .ok (.iload 7, 2) := by decide +kernel
theorem dX11_search_61 : decode cX11_search 61 = .ok (.iconst 0, 1) := by decide +kernel
theorem dX11_search_62 : decode cX11_search 62 = .ok (.invokevirtual 123, 3) := by decide +kernel
theorem dX11_search_65 : decode cX11_search 65 = .ok (.i2l, 1) := by decide +kernel
theorem dX11_search_66 : decode cX11_search 66 = .ok (.bipush 100, 2) := by decide +kernel
theorem dX11_search_68 : decode cX11_search 68 = .ok (.bipush 6, 2) := by decide +kernel
theorem dX11_search_70 : decode cX11_search 70 = .ok (.invokestatic 367, 3) := by decide +kernel
theorem dX11_search_73 : decode cX11_search 73 = .ok (.lmul, 1) := by decide +kernel
theorem dX11_search_74 : decode cX11_search 74 = .ok (.ladd, 1) := by decide +kernel
theorem dX11_search_75 : decode cX11_search 75 = .ok (.lstore 5, 2) := by decide +kernel
theorem dX11_search_77 : decode cX11_search 77 = .ok (.iinc 7 1, 3) := by decide +kernel
theorem dX11_search_80 : decode cX11_search 80 = .ok (.goto (-45), 3) := by decide +kernel
theorem dX11_search_83 : decode cX11_search 83 = .ok (.lload 5, 2) := by decide +kernel
theorem dX11_search_85 : decode cX11_search 85 = .ok (.lconst 0, 1) := by decide +kernel
theorem dX11_search_86 : decode cX11_search 86 = .ok (.lcmp, 1) := by decide +kernel
theorem dX11_search_87 : decode cX11_search 87 = .ok (.ifCond .ne 6, 3) := by decide +kernel
theorem dX11_search_90 : decode cX11_search 90 = .ok (.iload_n 2, 1) := by decide +kernel
theorem dX11_search_91 : decode cX11_search 91 = .ok (.i2l, 1) := by decide +kernel
theorem dX11_search_92 : decode cX11_search 92 = .ok (.lreturn, 1) := by decide +kernel
theorem dX11_search_93 : decode cX11_search 93 = .ok (.lload_n 3, 1) := by decide +kernel
theorem dX11_search_94 : decode cX11_search 94 = .ok (.lload 5, 2) := by decide +kernel
theorem dX11_search_96 : decode cX11_search 96 = .ok (.invokestatic 371, 3) := by decide +kernel
theorem dX11_search_99 : decode cX11_search 99 = .ok (.lstore 7, 2) := by decide +kernel
theorem dX11_search_101 : decode cX11_search 101 = .ok (.lload 7, 2) := by decide +kernel
theorem dX11_search_103 : decode cX11_search 103 = .ok (.lconst 0, 1) := by decide +kernel
theorem dX11_search_104 : decode cX11_search 104 = .ok (.lcmp, 1) := by decide +kernel
theorem dX11_search_105 : decode cX11_search 105 = .ok (.ifCond .ne 6, 3) := by decide +kernel
theorem dX11_search_108 : decode cX11_search 108 = .ok (.iload_n 2, 1) := by decide +kernel
theorem dX11_search_109 : decode cX11_search 109 = .ok (.i2l, 1) := by decide +kernel
theorem dX11_search_110 : decode cX11_search 110 = .ok (.lreturn, 1) := by decide +kernel
theorem dX11_search_111 : decode cX11_search 111 = .ok (.iload_n 2, 1) := by decide +kernel
theorem dX11_search_112 : decode cX11_search 112 = .ok (.ifCond .ne 10, 3) := by decide +kernel
theorem dX11_search_115 : decode cX11_search 115 = .ok (.lload_n 3, 1) := by decide +kernel
theorem dX11_search_116 : decode cX11_search 116 = .ok (.lload 7, 2) := by decide +kernel
theorem dX11_search_118 : decode cX11_search 118 = .ok (.ldiv, 1) := by decide +kernel
theorem dX11_search_119 : decode cX11_search 119 = .ok (.goto 8, 3) := by decide +kernel
theorem dX11_search_122 : decode cX11_search 122 = .ok (.lload 5, 2) := by decide +kernel
theorem dX11_search_124 : decode cX11_search 124 = .ok (.lload 7, 2) := by decide +kernel
theorem dX11_search_126 : decode cX11_search 126 = .ok (.ldiv, 1) := by decide +kernel
theorem dX11_search_127 : decode cX11_search 127 = .ok (.lreturn, 1) := by decide +kernel
def fX11_search_s35 (N : Nat) (c35 : Int32 → Int64 → Int64 → Int32 → qMem → Option (Int64 × qMem)) (v2 : Int32) (v3 : Int64) (v5 : Int64) (v7 : Int32) (σ : qMem) : Option (Int64 × qMem) :=
  (if (gi σ 33 3) ≤ v7 then (if (lg_cmp v5 0) = 0 then (some (v2.toInt64, σ)) else ((fX11_commonDivisor N v3 v5).bind fun y4 => (if (lg_cmp y4 0) = 0 then (some (v2.toInt64, σ)) else (if v2 = 0 then (if y4 = 0 then none else (some ((v3 / y4), σ))) else (if y4 = 0 then none else (some ((v5 / y4), σ))))))) else ((fX8_at 33 12 v7 0 σ).bind fun y5 => ((fX11_power N 100 6).bind fun y6 => (c35 v2 v3 (v5 + (y5.toInt64 * y6)) (v7 + 1) σ))))
set_option maxRecDepth 20000 in
set_option maxHeartbeats 4000000 in
theorem aX11_search_s35 (N : Nat) (c35 : Int32 → Int64 → Int64 → Int32 → qMem → Option (Int64 × qMem)) (hc35 : ∀ (v2 : Int32) (v3 : Int64) (v5 : Int64) (v7 : Int32) (σ : qMem), qAt wC mX11_search (ρl) 35 [(0, .ref 0), (2, .int v2), (3, .long v3), (5, .long v5), (7, .int v7)] [] σ (c35 v2 v3 v5 v7 σ)) (v2 : Int32) (v3 : Int64) (v5 : Int64) (v7 : Int32) (σ : qMem) : qAt wC mX11_search (ρl) 35 [(0, .ref 0), (2, .int v2), (3, .long v3), (5, .long v5), (7, .int v7)] [] σ (fX11_search_s35 N c35 v2 v3 v5 v7 σ) := by
  unfold fX11_search_s35
  refine q_iload (i := 7) (x := v7) dX11_search_35 4 rfl ?_
  refine q_aload_n (i := 0) (x := 0) dX11_search_37 rfl 0 rfl ?_
  refine q_getr (t := 1) dX11_search_38 foX11_12 zC_0 rfl ?_
  refine q_getr (t := 33) dX11_search_41 foX11_358 zC_1 rfl ?_
  refine q_geti dX11_search_44 foX11_105 zC_33 rfl ?_
  refine q_icmp_ge (tgt := 83) dX11_search_47 (by decide) ?_ ?_
  · refine q_lload (i := 5) (x := v5) dX11_search_83 3 rfl ?_
    refine q_lconst (v := 0) dX11_search_85 (by decide) ?_
    refine q_lcmp dX11_search_86 ?_
    refine q_if_ne (tgt := 93) dX11_search_87 (by decide) ?_ ?_
    · refine q_lload_n (i := 3) (x := v3) dX11_search_93 rfl 2 rfl ?_
      refine q_lload (i := 5) (x := v5) dX11_search_94 3 rfl ?_
      refine q_cSq mX11_commonDivisor [.long v3, .long v5] (st := []) dX11_search_96 (ssX11_371) ⟨Nat.le_of_ble_eq_true rfl, Nat.le_of_ble_eq_true rfl⟩ rfl rfl (Nat.le_of_ble_eq_true rfl) (kX11_commonDivisor N v3 v5 σ) (fun y4 => ?_)
      refine q_lstore (i := 7) (L' := [(7, .long y4), (0, .ref 0), (2, .int v2), (3, .long v3), (5, .long v5)]) dX11_search_99 (Nat.le_of_ble_eq_true rfl) rfl ?_
      refine q_lload (i := 7) (x := y4) dX11_search_101 0 rfl ?_
      refine q_lconst (v := 0) dX11_search_103 (by decide) ?_
      refine q_lcmp dX11_search_104 ?_
      refine q_if_ne (tgt := 111) dX11_search_105 (by decide) ?_ ?_
      · refine q_iload_n (i := 2) (x := v2) dX11_search_111 rfl 2 rfl ?_
        refine q_if_ne (tgt := 122) dX11_search_112 (by decide) ?_ ?_
        · refine q_lload (i := 5) (x := v5) dX11_search_122 4 rfl ?_
          refine q_lload (i := 7) (x := y4) dX11_search_124 0 rfl ?_
          refine q_ldivC dX11_search_126 ?_
          exact q_lret (y := ((v5 / y4), σ)) dX11_search_127 rfl rfl
        refine q_lload_n (i := 3) (x := v3) dX11_search_115 rfl 3 rfl ?_
        refine q_lload (i := 7) (x := y4) dX11_search_116 0 rfl ?_
        refine q_ldivC dX11_search_118 ?_
        refine q_goto (tgt := 127) dX11_search_119 (by decide) ?_
        exact q_lret (y := ((v3 / y4), σ)) dX11_search_127 rfl rfl
      refine q_iload_n (i := 2) (x := v2) dX11_search_108 rfl 2 rfl ?_
      refine q_i2l dX11_search_109 ?_
      exact q_lret (y := (v2.toInt64, σ)) dX11_search_110 rfl rfl
    refine q_iload_n (i := 2) (x := v2) dX11_search_90 rfl 1 rfl ?_
    refine q_i2l dX11_search_91 ?_
    exact q_lret (y := (v2.toInt64, σ)) dX11_search_92 rfl rfl
  refine q_lload (i := 5) (x := v5) dX11_search_50 3 rfl ?_
  refine q_aload_n (i := 0) (x := 0) dX11_search_52 rfl 0 rfl ?_
  refine q_getr (t := 1) dX11_search_53 foX11_12 zC_0 rfl ?_
  refine q_getr (t := 33) dX11_search_56 foX11_358 zC_1 rfl ?_
  refine q_iload (i := 7) (x := v7) dX11_search_59 4 rfl ?_
  refine q_iconst (v := 0) dX11_search_61 (by decide) ?_
  refine q_cVp mX8_at [.int v7, .int 0] (st := [.long v5]) dX11_search_62 (svX11_123) ⟨Nat.le_of_ble_eq_true rfl, Nat.le_of_ble_eq_true rfl⟩ zC_33 rfl rfl rfl (Nat.le_of_ble_eq_true rfl) (kX8_at 33 12 v7 0 pC_33 σ) (fun y5 => ?_)
  refine q_i2l dX11_search_65 ?_
  refine q_bipush (v := 100) dX11_search_66 (by decide) ?_
  refine q_bipush (v := 6) dX11_search_68 (by decide) ?_
  refine q_cSq mX11_power [.int 100, .int 6] (st := [.long y5.toInt64, .long v5]) dX11_search_70 (ssX11_367) ⟨Nat.le_of_ble_eq_true rfl, Nat.le_of_ble_eq_true rfl⟩ rfl rfl (Nat.le_of_ble_eq_true rfl) (kX11_power N 100 6 σ) (fun y6 => ?_)
  refine q_lmul dX11_search_73 ?_
  refine q_ladd dX11_search_74 ?_
  refine q_lstore (i := 5) (L' := [(5, .long (v5 + (y5.toInt64 * y6))), (0, .ref 0), (2, .int v2), (3, .long v3), (7, .int v7)]) dX11_search_75 (Nat.le_of_ble_eq_true rfl) rfl ?_
  refine q_iinc (i := 7) (x := v7) (v := (v7 + 1)) (L' := [(7, .int (v7 + 1)), (5, .long (v5 + (y5.toInt64 * y6))), (0, .ref 0), (2, .int v2), (3, .long v3)]) dX11_search_77 4 rfl (q_cst v7 (by decide)) (Nat.le_of_ble_eq_true rfl) rfl ?_
  refine q_goto (tgt := 35) dX11_search_80 (by decide) ?_
  exact q_sub [2, 3, 4, 1, 0] rfl (hc35 v2 v3 (v5 + (y5.toInt64 * y6)) (v7 + 1) σ)
def fX11_search_l35 (N : Nat) : Nat → Int32 → Int64 → Int64 → Int32 → qMem → Option (Int64 × qMem)
  | 0 => fun _ _ _ _ _ => none
  | n + 1 => fun v2 v3 v5 v7 σ => fX11_search_s35 N (fX11_search_l35 N n) v2 v3 v5 v7 σ
theorem aX11_search_l35 (N : Nat) : ∀ (n : Nat) (v2 : Int32) (v3 : Int64) (v5 : Int64) (v7 : Int32) (σ : qMem), qAt wC mX11_search (ρl) 35 [(0, .ref 0), (2, .int v2), (3, .long v3), (5, .long v5), (7, .int v7)] [] σ (fX11_search_l35 N n v2 v3 v5 v7 σ) := by
  intro n
  induction n with
  | zero => intro v2 v3 v5 v7 σ; exact q_none
  | succ n ih => intro v2 v3 v5 v7 σ; exact aX11_search_s35 N (fX11_search_l35 N n) ih v2 v3 v5 v7 σ

def fX11_search (N : Nat) (p1 : Int32) (p2 : Int32) (σ : qMem) : Option (Int64 × qMem) :=
  ((fX11_isIn p1 0 6).bind fun y1 => (if y1 = 0 then (some ((-1), σ)) else ((fX11_isIn p2 0 1).bind fun y2 => (if y2 = 0 then (some ((-1), σ)) else ((fX11_spreadLooks N p1 σ).bind fun y3 => (fX11_search_l35 N N p2 y3.1 0 0 y3.2))))))
set_option maxRecDepth 20000 in
set_option maxHeartbeats 4000000 in
theorem aX11_search  (N : Nat) (p1 : Int32) (p2 : Int32)  (σ : qMem) : qAt wC mX11_search (ρl) 0 [(0, .ref 0), (1, .int p1), (2, .int p2)] [] σ (fX11_search N p1 p2 σ) := by
  unfold fX11_search
  refine q_iload_n (i := 1) (x := p1) dX11_search_0 rfl 1 rfl ?_
  refine q_iconst (v := 0) dX11_search_1 (by decide) ?_
  refine q_bipush (v := 6) dX11_search_2 (by decide) ?_
  refine q_cSp mX11_isIn [.int p1, .int 0, .int 6] (st := []) dX11_search_4 (ssX11_83) ⟨Nat.le_of_ble_eq_true rfl, Nat.le_of_ble_eq_true rfl⟩ rfl rfl (Nat.le_of_ble_eq_true rfl) (kX11_isIn p1 0 6 σ) (fun y1 => ?_)
  refine q_if_eq (tgt := 19) dX11_search_7 (by decide) ?_ ?_
  · refine q_ldc2_w (v := (-1)) dX11_search_19 (g_6 34 (by decide +kernel) rfl) ?_
    exact q_lret (y := ((-1), σ)) dX11_search_22 rfl rfl
  refine q_iload_n (i := 2) (x := p2) dX11_search_10 rfl 2 rfl ?_
  refine q_iconst (v := 0) dX11_search_11 (by decide) ?_
  refine q_iconst (v := 1) dX11_search_12 (by decide) ?_
  refine q_cSp mX11_isIn [.int p2, .int 0, .int 1] (st := []) dX11_search_13 (ssX11_83) ⟨Nat.le_of_ble_eq_true rfl, Nat.le_of_ble_eq_true rfl⟩ rfl rfl (Nat.le_of_ble_eq_true rfl) (kX11_isIn p2 0 1 σ) (fun y2 => ?_)
  refine q_if_ne (tgt := 23) dX11_search_16 (by decide) ?_ ?_
  · refine q_aload_n (i := 0) (x := 0) dX11_search_23 rfl 0 rfl ?_
    refine q_iload_n (i := 1) (x := p1) dX11_search_24 rfl 1 rfl ?_
    refine q_cVl mX11_spreadLooks [.int p1] (st := []) dX11_search_25 (svX11_363) ⟨Nat.le_of_ble_eq_true rfl, Nat.le_of_ble_eq_true rfl⟩ zC_0 rfl rfl rfl (Nat.le_of_ble_eq_true rfl) (kX11_spreadLooks N p1 σ) (fun y3 => ?_)
    refine q_lstore_n (i := 3) (L' := [(3, .long y3.1), (0, .ref 0), (1, .int p1), (2, .int p2)]) dX11_search_28 rfl (Nat.le_of_ble_eq_true rfl) rfl ?_
    refine q_lconst (v := 0) dX11_search_29 (by decide) ?_
    refine q_lstore (i := 5) (L' := [(5, .long 0), (3, .long y3.1), (0, .ref 0), (1, .int p1), (2, .int p2)]) dX11_search_30 (Nat.le_of_ble_eq_true rfl) rfl ?_
    refine q_iconst (v := 0) dX11_search_32 (by decide) ?_
    refine q_istore (i := 7) (L' := [(7, .int 0), (5, .long 0), (3, .long y3.1), (0, .ref 0), (1, .int p1), (2, .int p2)]) dX11_search_33 (Nat.le_of_ble_eq_true rfl) rfl ?_
    exact q_sub [3, 5, 2, 1, 0] rfl (aX11_search_l35 N N p2 y3.1 0 0 y3.2)
  refine q_ldc2_w (v := (-1)) dX11_search_19 (g_6 34 (by decide +kernel) rfl) ?_
  exact q_lret (y := ((-1), σ)) dX11_search_22 rfl rfl
theorem kX11_search  (N : Nat) (p1 : Int32) (p2 : Int32)  (σ : qMem) : qMc wC mX11_search (ρl) [.ref 0, .int p1, .int p2] σ (fX11_search N p1 p2 σ) := qMc_of (moX11_search) (Nat.le_of_ble_eq_true rfl) (aX11_search N p1 p2  σ)

theorem dX11_looks_0 : decode cX11_looks 0 = .ok (.iload_n 1, 1) := by decide +kernel
theorem dX11_looks_1 : decode cX11_looks 1 = .ok (.iconst 0, 1) := by decide +kernel
theorem dX11_looks_2 : decode cX11_looks 2 = .ok (.bipush 6, 2) := by decide +kernel
theorem dX11_looks_4 : decode cX11_looks 4 = .ok (.invokestatic 83, 3) := by decide +kernel
theorem dX11_looks_7 : decode cX11_looks 7 = .ok (.ifCond .eq 23, 3) := by decide +kernel
theorem dX11_looks_10 : decode cX11_looks 10 = .ok (.iload_n 2, 1) := by decide +kernel
theorem dX11_looks_11 : decode cX11_looks 11 = .ok (.iconst 0, 1) := by decide +kernel
theorem dX11_looks_12 : decode cX11_looks 12 = .ok (.aload_n 0, 1) := by decide +kernel
theorem dX11_looks_13 : decode cX11_looks 13 = .ok (.getfield 12, 3) := by decide +kernel
theorem dX11_looks_16 : decode cX11_looks 16 = .ok (.getfield 358, 3) := by decide +kernel
theorem dX11_looks_19 : decode cX11_looks 19 = .ok (.getfield 105, 3) := by decide +kernel
theorem dX11_looks_22 : decode cX11_looks 22 = .ok (.iconst 1, 1) := by decide +kernel
theorem dX11_looks_23 : decode cX11_looks 23 = .ok (.isub, 1) := by decide +kernel
theorem dX11_looks_24 : decode cX11_looks 24 = .ok (.invokestatic 83, 3) := by decide +kernel
theorem dX11_looks_27 : decode cX11_looks 27 = .ok (.ifCond .ne 5, 3) := by decide +kernel
theorem dX11_looks_30 : decode cX11_looks 30 = .ok (.iconst (-1), 1) := by decide +kernel
theorem dX11_looks_31 : decode cX11_looks 31 = .ok (.ireturn, 1) := by decide +kernel
theorem dX11_looks_32 : decode cX11_looks 32 = .ok (.aload_n 0, 1) := by decide +kernel
theorem dX11_looks_33 : decode cX11_looks 33 = .ok (.iload_n 1, 1) := by decide +kernel
theorem dX11_looks_34 : decode cX11_looks 34 = .ok (.invokevirtual 363, 3) := by decide +kernel
theorem dX11_looks_37 : decode cX11_looks 37 = .ok (.pop2, 1) := by decide +kernel
theorem dX11_looks_38 : decode cX11_looks 38 = .ok (.aload_n 0, 1) := by decide +kernel
theorem dX11_looks_39 : decode cX11_looks 39 = .ok (.getfield 63, 3) := by decide +kernel
theorem dX11_looks_42 : decode cX11_looks 42 = .ok (.iload_n 2, 1) := by decide +kernel
theorem dX11_looks_43 : decode cX11_looks 43 = .ok (.iaload, 1) := by decide +kernel
theorem dX11_looks_44 : decode cX11_looks 44 = .ok (.ireturn, 1) := by decide +kernel

def fX11_looks (N : Nat) (p1 : Int32) (p2 : Int32) (σ : qMem) : Option (Int32 × qMem) :=
  ((fX11_isIn p1 0 6).bind fun y1 => (if y1 = 0 then (some ((-1), σ)) else ((fX11_isIn p2 0 ((gi σ 33 3) - 1)).bind fun y2 => (if y2 = 0 then (some ((-1), σ)) else ((fX11_spreadLooks N p1 σ).bind fun y3 => (if ck p2 6 = true then (some ((gi y3.2 88 p2.toNatClampNeg), y3.2)) else none))))))
set_option maxRecDepth 20000 in
set_option maxHeartbeats 4000000 in
theorem aX11_looks  (N : Nat) (p1 : Int32) (p2 : Int32)  (σ : qMem) : qAt wC mX11_looks (ρi) 0 [(0, .ref 0), (1, .int p1), (2, .int p2)] [] σ (fX11_looks N p1 p2 σ) := by
  unfold fX11_looks
  refine q_iload_n (i := 1) (x := p1) dX11_looks_0 rfl 1 rfl ?_
  refine q_iconst (v := 0) dX11_looks_1 (by decide) ?_
  refine q_bipush (v := 6) dX11_looks_2 (by decide) ?_
  refine q_cSp mX11_isIn [.int p1, .int 0, .int 6] (st := []) dX11_looks_4 (ssX11_83) ⟨Nat.le_of_ble_eq_true rfl, Nat.le_of_ble_eq_true rfl⟩ rfl rfl (Nat.le_of_ble_eq_true rfl) (kX11_isIn p1 0 6 σ) (fun y1 => ?_)
  refine q_if_eq (tgt := 30) dX11_looks_7 (by decide) ?_ ?_
  · refine q_iconst (v := (-1)) dX11_looks_30 (by decide) ?_
    exact q_ireti (y := ((-1), σ)) dX11_looks_31 rfl rfl
  refine q_iload_n (i := 2) (x := p2) dX11_looks_10 rfl 2 rfl ?_
  refine q_iconst (v := 0) dX11_looks_11 (by decide) ?_
  refine q_aload_n (i := 0) (x := 0) dX11_looks_12 rfl 0 rfl ?_
  refine q_getr (t := 1) dX11_looks_13 foX11_12 zC_0 rfl ?_
  refine q_getr (t := 33) dX11_looks_16 foX11_358 zC_1 rfl ?_
  refine q_geti dX11_looks_19 foX11_105 zC_33 rfl ?_
  refine q_iconst (v := 1) dX11_looks_22 (by decide) ?_
  refine q_isub dX11_looks_23 ?_
  refine q_cSp mX11_isIn [.int p2, .int 0, .int ((gi σ 33 3) - 1)] (st := []) dX11_looks_24 (ssX11_83) ⟨Nat.le_of_ble_eq_true rfl, Nat.le_of_ble_eq_true rfl⟩ rfl rfl (Nat.le_of_ble_eq_true rfl) (kX11_isIn p2 0 ((gi σ 33 3) - 1) σ) (fun y2 => ?_)
  refine q_if_ne (tgt := 32) dX11_looks_27 (by decide) ?_ ?_
  · refine q_aload_n (i := 0) (x := 0) dX11_looks_32 rfl 0 rfl ?_
    refine q_iload_n (i := 1) (x := p1) dX11_looks_33 rfl 1 rfl ?_
    refine q_cVl mX11_spreadLooks [.int p1] (st := []) dX11_looks_34 (svX11_363) ⟨Nat.le_of_ble_eq_true rfl, Nat.le_of_ble_eq_true rfl⟩ zC_0 rfl rfl rfl (Nat.le_of_ble_eq_true rfl) (kX11_spreadLooks N p1 σ) (fun y3 => ?_)
    refine q_pop2 dX11_looks_37 rfl ?_
    refine q_aload_n (i := 0) (x := 0) dX11_looks_38 rfl 0 rfl ?_
    refine q_getr (t := 88) dX11_looks_39 foX11_63 zC_0 rfl ?_
    refine q_iload_n (i := 2) (x := p2) dX11_looks_42 rfl 2 rfl ?_
    refine q_iald dX11_looks_43 zC_88 ?_
    exact q_ireti (y := ((gi y3.2 88 p2.toNatClampNeg), y3.2)) dX11_looks_44 rfl rfl
  refine q_iconst (v := (-1)) dX11_looks_30 (by decide) ?_
  exact q_ireti (y := ((-1), σ)) dX11_looks_31 rfl rfl
theorem kX11_looks  (N : Nat) (p1 : Int32) (p2 : Int32)  (σ : qMem) : qMc wC mX11_looks (ρi) [.ref 0, .int p1, .int p2] σ (fX11_looks N p1 p2 σ) := qMc_of (moX11_looks) (Nat.le_of_ble_eq_true rfl) (aX11_looks N p1 p2  σ)

