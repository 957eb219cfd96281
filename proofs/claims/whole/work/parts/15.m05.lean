theorem dX12_in_0 : decode cX12_in 0 = .ok (.iload_n 0, 1) := by decide +kernel
theorem dX12_in_1 : decode cX12_in 1 = .ok (.iload_n 1, 1) := by decide +kernel
theorem dX12_in_2 : decode cX12_in 2 = .ok (.if_icmp .lt 12, 3) := by decide +kernel
theorem dX12_in_5 : decode cX12_in 5 = .ok (.iload_n 0, 1) := by decide +kernel
theorem dX12_in_6 : decode cX12_in 6 = .ok (.iload_n 2, 1) := by decide +kernel
theorem dX12_in_7 : decode cX12_in 7 = .ok (.if_icmp .gt 7, 3) := by decide +kernel
theorem dX12_in_10 : decode cX12_in 10 = .ok (.iconst 1, 1) := by decide +kernel
theorem dX12_in_11 : decode cX12_in 11 = .ok (.goto 4, 3) := by decide +kernel
theorem dX12_in_14 : decode cX12_in 14 = .ok (.iconst 0, 1) := by decide +kernel
theorem dX12_in_15 : decode cX12_in 15 = .ok (.ireturn, 1) := by decide +kernel
def fX12_in_b14  : Option Int32 :=
  (some 0)
set_option maxRecDepth 20000 in
set_option maxHeartbeats 4000000 in
theorem aX12_in_b14 (σ : qMem) : qAt wM mX12_in (ρp σ) 14 [] [] σ (fX12_in_b14) := by
  unfold fX12_in_b14
  refine q_iconst (v := 0) dX12_in_14 (by decide) ?_
  exact q_iretz (y := 0) dX12_in_15 rfl rfl rfl

def fX12_in (p0 : Int32) (p1 : Int32) (p2 : Int32) : Option Int32 :=
  (if p0 < p1 then (fX12_in_b14 ) else (if p2 < p0 then (fX12_in_b14 ) else (some 1)))
set_option maxRecDepth 20000 in
set_option maxHeartbeats 4000000 in
theorem aX12_in  (p0 : Int32) (p1 : Int32) (p2 : Int32)  (σ : qMem) : qAt wM mX12_in (ρp σ) 0 [(0, .int p0), (1, .int p1), (2, .int p2)] [] σ (fX12_in p0 p1 p2) := by
  unfold fX12_in
  refine q_iload_n (i := 0) (x := p0) dX12_in_0 rfl 0 rfl ?_
  refine q_iload_n (i := 1) (x := p1) dX12_in_1 rfl 1 rfl ?_
  refine q_icmp_lt (tgt := 14) dX12_in_2 (by decide) ?_ ?_
  · exact q_sub [] rfl (aX12_in_b14 σ)
  refine q_iload_n (i := 0) (x := p0) dX12_in_5 rfl 0 rfl ?_
  refine q_iload_n (i := 2) (x := p2) dX12_in_6 rfl 2 rfl ?_
  refine q_icmp_gt (tgt := 14) dX12_in_7 (by decide) ?_ ?_
  · exact q_sub [] rfl (aX12_in_b14 σ)
  refine q_iconst (v := 1) dX12_in_10 (by decide) ?_
  refine q_goto (tgt := 15) dX12_in_11 (by decide) ?_
  exact q_iretz (y := 1) dX12_in_15 rfl rfl rfl
theorem kX12_in  (p0 : Int32) (p1 : Int32) (p2 : Int32)  (σ : qMem) : qMc wM mX12_in (ρp σ) [.int p0, .int p1, .int p2] σ (fX12_in p0 p1 p2) := qMc_of (moX12_in) (Nat.le_of_ble_eq_true rfl) (aX12_in p0 p1 p2  σ)

theorem dX12_refuses_0 : decode cX12_refuses 0 = .ok (.aload_n 0, 1) := by decide +kernel
theorem dX12_refuses_1 : decode cX12_refuses 1 = .ok (.iload_n 1, 1) := by decide +kernel
theorem dX12_refuses_2 : decode cX12_refuses 2 = .ok (.putfield 3, 3) := by decide +kernel
theorem dX12_refuses_5 : decode cX12_refuses 5 = .ok (.aload_n 0, 1) := by decide +kernel
theorem dX12_refuses_6 : decode cX12_refuses 6 = .ok (.getfield 7, 3) := by decide +kernel
theorem dX12_refuses_9 : decode cX12_refuses 9 = .ok (.iload_n 1, 1) := by decide +kernel
theorem dX12_refuses_10 : decode cX12_refuses 10 = .ok (.ineg, 1) := by decide +kernel
theorem dX12_refuses_11 : decode cX12_refuses 11 = .ok (.dup2, 1) := by decide +kernel
theorem dX12_refuses_12 : decode cX12_refuses 12 = .ok (.iaload, 1) := by decide +kernel
theorem dX12_refuses_13 : decode cX12_refuses 13 = .ok (.iconst 1, 1) := by decide +kernel
theorem dX12_refuses_14 : decode cX12_refuses 14 = .ok (.iadd, 1) := by decide +kernel
theorem dX12_refuses_15 : decode cX12_refuses 15 = .ok (.iastore, 1) := by decide +kernel
theorem dX12_refuses_16 : decode cX12_refuses 16 = .ok (.iload_n 1, 1) := by decide +kernel
theorem dX12_refuses_17 : decode cX12_refuses 17 = .ok (.ireturn, 1) := by decide +kernel

def fX12_refuses (p1 : Int32) (σ : qMem) : Option (Int32 × qMem) :=
  (nmM (si σ 0 0 p1) fun s1 => (if ck (-p1) 7 = true then (if ck (-p1) 7 = true then (nmM (si s1 1 (-p1).toNatClampNeg ((gi s1 1 (-p1).toNatClampNeg) + 1)) fun s2 => (some (p1, s2))) else none) else none))
set_option maxRecDepth 20000 in
set_option maxHeartbeats 4000000 in
theorem aX12_refuses  (p1 : Int32)  (σ : qMem) : qAt wM mX12_refuses (ρi) 0 [(0, .ref 0), (1, .int p1)] [] σ (fX12_refuses p1 σ) := by
  unfold fX12_refuses
  refine q_aload_n (i := 0) (x := 0) dX12_refuses_0 rfl 0 rfl ?_
  refine q_iload_n (i := 1) (x := p1) dX12_refuses_1 rfl 1 rfl ?_
  refine q_puti dX12_refuses_2 foX12_3 fwX12_0 zM_0 rfl ?_
  refine q_nmM (fun s1 => ?_)
  refine q_aload_n (i := 0) (x := 0) dX12_refuses_5 rfl 0 rfl ?_
  refine q_getr (t := 1) dX12_refuses_6 foX12_7 zM_0 rfl ?_
  refine q_iload_n (i := 1) (x := p1) dX12_refuses_9 rfl 1 rfl ?_
  refine q_ineg dX12_refuses_10 ?_
  refine q_dup2 dX12_refuses_11 rfl rfl ?_
  refine q_iald dX12_refuses_12 zM_1 ?_
  refine q_iconst (v := 1) dX12_refuses_13 (by decide) ?_
  refine q_iadd dX12_refuses_14 ?_
  refine q_iast dX12_refuses_15 zM_1 ?_
  refine q_nmM (fun s2 => ?_)
  refine q_iload_n (i := 1) (x := p1) dX12_refuses_16 rfl 1 rfl ?_
  exact q_ireti (y := (p1, s2)) dX12_refuses_17 rfl rfl
theorem kX12_refuses  (p1 : Int32)  (σ : qMem) : qMc wM mX12_refuses (ρi) [.ref 0, .int p1] σ (fX12_refuses p1 σ) := qMc_of (moX12_refuses) (Nat.le_of_ble_eq_true rfl) (aX12_refuses p1  σ)

theorem dX12_good_0 : decode cX12_good 0 = .ok (.aload_n 0, 1) := by decide +kernel
theorem dX12_good_1 : decode cX12_good 1 = .ok (.iconst 0, 1) := by decide +kernel
theorem dX12_good_2 : decode cX12_good 2 = .ok (.putfield 3, 3) := by decide +kernel
theorem dX12_good_5 : decode cX12_good 5 = .ok (.aload_n 0, 1) := by decide +kernel
theorem dX12_good_6 : decode cX12_good 6 = .ok (.dup, 1) := by decide +kernel
theorem dX12_good_7 : decode cX12_good 7 = .ok (.getfield 11, 3) := by decide +kernel
theorem dX12_good_10 : decode cX12_good 10 = .ok (.iconst 1, 1) := by decide +kernel
theorem dX12_good_11 : decode cX12_good 11 = .ok (.iadd, 1) := by decide +kernel
theorem dX12_good_12 : decode cX12_good 12 = .ok (.putfield 11, 3) := by decide +kernel
theorem dX12_good_15 : decode cX12_good 15 = .ok (.iload_n 1, 1) := by decide +kernel
theorem dX12_good_16 : decode cX12_good 16 = .ok (.ireturn, 1) := by decide +kernel

def fX12_good (p1 : Int32) (σ : qMem) : Option (Int32 × qMem) :=
  (nmM (si σ 0 0 0) fun s1 => (nmM (si s1 0 2 ((gi s1 0 2) + 1)) fun s2 => (some (p1, s2))))
set_option maxRecDepth 20000 in
set_option maxHeartbeats 4000000 in
theorem aX12_good  (p1 : Int32)  (σ : qMem) : qAt wM mX12_good (ρi) 0 [(0, .ref 0), (1, .int p1)] [] σ (fX12_good p1 σ) := by
  unfold fX12_good
  refine q_aload_n (i := 0) (x := 0) dX12_good_0 rfl 0 rfl ?_
  refine q_iconst (v := 0) dX12_good_1 (by decide) ?_
  refine q_puti dX12_good_2 foX12_3 fwX12_0 zM_0 rfl ?_
  refine q_nmM (fun s1 => ?_)
  refine q_aload_n (i := 0) (x := 0) dX12_good_5 rfl 0 rfl ?_
  refine q_dup dX12_good_6 rfl ?_
  refine q_geti dX12_good_7 foX12_11 zM_0 rfl ?_
  refine q_iconst (v := 1) dX12_good_10 (by decide) ?_
  refine q_iadd dX12_good_11 ?_
  refine q_puti dX12_good_12 foX12_11 fwX12_2 zM_0 rfl ?_
  refine q_nmM (fun s2 => ?_)
  refine q_iload_n (i := 1) (x := p1) dX12_good_15 rfl 1 rfl ?_
  exact q_ireti (y := (p1, s2)) dX12_good_16 rfl rfl
theorem kX12_good  (p1 : Int32)  (σ : qMem) : qMc wM mX12_good (ρi) [.ref 0, .int p1] σ (fX12_good p1 σ) := qMc_of (moX12_good) (Nat.le_of_ble_eq_true rfl) (aX12_good p1  σ)

theorem dX12_size_0 : decode cX12_size 0 = .ok (.iload_n 0, 1) := by decide +kernel
theorem dX12_size_1 : decode cX12_size 1 = .ok (.ifCond .ge 8, 3) := by decide +kernel
theorem dX12_size_4 : decode cX12_size 4 = .ok (.iload_n 0, 1) := by decide +kernel
theorem dX12_size_5 : decode cX12_size 5 = .ok (.ineg, 1) := by decide +kernel
theorem dX12_size_6 : decode cX12_size 6 = .ok (.goto 4, 3) := by decide +kernel
theorem dX12_size_9 : decode cX12_size 9 = .ok (.iload_n 0, 1) := by decide +kernel
theorem dX12_size_10 : decode cX12_size 10 = .ok (.ireturn, 1) := by decide +kernel

def fX12_size (p0 : Int32) : Option Int32 :=
  (if 0 ≤ p0 then (some p0) else (some (-p0)))
set_option maxRecDepth 20000 in
set_option maxHeartbeats 4000000 in
theorem aX12_size  (p0 : Int32)  (σ : qMem) : qAt wM mX12_size (ρp σ) 0 [(0, .int p0)] [] σ (fX12_size p0) := by
  unfold fX12_size
  refine q_iload_n (i := 0) (x := p0) dX12_size_0 rfl 0 rfl ?_
  refine q_if_ge (tgt := 9) dX12_size_1 (by decide) ?_ ?_
  · refine q_iload_n (i := 0) (x := p0) dX12_size_9 rfl 0 rfl ?_
    exact q_ireti (y := p0) dX12_size_10 rfl rfl
  refine q_iload_n (i := 0) (x := p0) dX12_size_4 rfl 0 rfl ?_
  refine q_ineg dX12_size_5 ?_
  refine q_goto (tgt := 10) dX12_size_6 (by decide) ?_
  exact q_ireti (y := (-p0)) dX12_size_10 rfl rfl
theorem kX12_size  (p0 : Int32)  (σ : qMem) : qMc wM mX12_size (ρp σ) [.int p0] σ (fX12_size p0) := qMc_of (moX12_size) (Nat.le_of_ble_eq_true rfl) (aX12_size p0  σ)

theorem dX12_more_0 : decode cX12_more 0 = .ok (.iload_n 0, 1) := by decide +kernel
theorem dX12_more_1 : decode cX12_more 1 = .ok (.iload_n 1, 1) := by decide +kernel
theorem dX12_more_2 : decode cX12_more 2 = .ok (.if_icmp .le 7, 3) := by decide +kernel
theorem dX12_more_5 : decode cX12_more 5 = .ok (.iload_n 0, 1) := by decide +kernel
theorem dX12_more_6 : decode cX12_more 6 = .ok (.goto 4, 3) := by decide +kernel
theorem dX12_more_9 : decode cX12_more 9 = .ok (.iload_n 1, 1) := by decide +kernel
theorem dX12_more_10 : decode cX12_more 10 = .ok (.ireturn, 1) := by decide +kernel

def fX12_more (p0 : Int32) (p1 : Int32) : Option Int32 :=
  (if p0 ≤ p1 then (some p1) else (some p0))
set_option maxRecDepth 20000 in
set_option maxHeartbeats 4000000 in
theorem aX12_more  (p0 : Int32) (p1 : Int32)  (σ : qMem) : qAt wM mX12_more (ρp σ) 0 [(0, .int p0), (1, .int p1)] [] σ (fX12_more p0 p1) := by
  unfold fX12_more
  refine q_iload_n (i := 0) (x := p0) dX12_more_0 rfl 0 rfl ?_
  refine q_iload_n (i := 1) (x := p1) dX12_more_1 rfl 1 rfl ?_
  refine q_icmp_le (tgt := 9) dX12_more_2 (by decide) ?_ ?_
  · refine q_iload_n (i := 1) (x := p1) dX12_more_9 rfl 1 rfl ?_
    exact q_ireti (y := p1) dX12_more_10 rfl rfl
  refine q_iload_n (i := 0) (x := p0) dX12_more_5 rfl 0 rfl ?_
  refine q_goto (tgt := 10) dX12_more_6 (by decide) ?_
  exact q_ireti (y := p0) dX12_more_10 rfl rfl
theorem kX12_more  (p0 : Int32) (p1 : Int32)  (σ : qMem) : qMc wM mX12_more (ρp σ) [.int p0, .int p1] σ (fX12_more p0 p1) := qMc_of (moX12_more) (Nat.le_of_ble_eq_true rfl) (aX12_more p0 p1  σ)

theorem dX12_image_0 : decode cX12_image 0 = .ok (.iload_n 1, 1) := by decide +kernel
theorem dX12_image_1 : decode cX12_image 1 = .ok (.iconst 0, 1) := by decide +kernel
theorem dX12_image_2 : decode cX12_image 2 = .ok (.iconst 1, 1) := by decide +kernel
theorem dX12_image_3 : decode cX12_image 3 = .ok (.invokestatic 110, 3) := by decide +kernel
theorem dX12_image_6 : decode cX12_image 6 = .ok (.ifCond .ne 9, 3) := by decide +kernel
theorem dX12_image_9 : decode cX12_image 9 = .ok (.aload_n 0, 1) := by decide +kernel
theorem dX12_image_10 : decode cX12_image 10 = .ok (.iconst (-1), 1) := by decide +kernel
theorem dX12_image_11 : decode cX12_image 11 = .ok (.invokevirtual 114, 3) := by decide +kernel
theorem dX12_image_14 : decode cX12_image 14 = .ok (.ireturn, 1) := by decide +kernel
theorem dX12_image_15 : decode cX12_image 15 = .ok (.iconst 0, 1) := by decide +kernel
theorem dX12_image_16 : decode cX12_image 16 = .ok (.istore_n 2, 1) := by decide +kernel
theorem dX12_image_17 : decode cX12_image 17 = .ok (.iload_n 2, 1) := by decide +kernel
theorem dX12_image_18 : decode cX12_image 18 = .ok (.sipush 1112, 3) := by decide +kernel
theorem dX12_image_21 : decode cX12_image 21 = .ok (.if_icmp .ge 27, 3) := by decide +kernel
theorem dX12_image_24 : decode cX12_image 24 = .ok (.aload_n 0, 1) := by decide +kernel
theorem dX12_image_25 : decode cX12_image 25 = .ok (.getfield 23, 3) := by decide +kernel
theorem dX12_image_28 : decode cX12_image 28 = .ok (.sipush 1112, 3) := by decide +kernel
theorem dX12_image_31 : decode cX12_image 31 = .ok (.iload_n 1, 1) := by decide +kernel
theorem dX12_image_32 : decode cX12_image 32 = .ok (.imul, 1) := by decide +kernel
theorem dX12_image_33 : decode cX12_image 33 = .ok (.iload_n 2, 1) := by decide +kernel
theorem dX12_image_34 : decode cX12_image 34 = .ok (.iadd, 1) := by decide +kernel
theorem dX12_image_35 : decode cX12_image 35 = .ok (.aload_n 0, 1) := by decide +kernel
theorem dX12_image_36 : decode cX12_image 36 = .ok (.getfield 20, 3) := by decide +kernel
theorem dX12_image_39 : decode cX12_image 39 = .ok (.iload_n 2, 1) := by decide +kernel
theorem dX12_image_40 : decode cX12_image 40 = .ok (.iaload, 1) := by decide +kernel
theorem dX12_image_41 : decode cX12_image 41 = .ok (.iastore, 1) := by decide +kernel
theorem dX12_image_42 : decode cX12_image 42 = .ok (.iinc 2 1, 3) := by decide +kernel
theorem dX12_image_45 : decode cX12_image 45 = .ok (.goto (-28), 3) := by decide +kernel
theorem dX12_image_48 : decode cX12_image 48 = .ok (.aload_n 0, 1) := by decide +kernel
theorem dX12_image_49 : decode cX12_image 49 = .ok (.getfield 26, 3) := by decide +kernel
theorem dX12_image_52 : decode cX12_image 52 = .ok (.iload_n 1, 1) := by decide +kernel
theorem dX12_image_53 : decode cX12_image 53 = .ok (.iconst 1, 1) := by decide +kernel
theorem dX12_image_54 : decode cX12_image 54 = .ok (.bastore, 1) := by decide +kernel
theorem dX12_image_55 : decode cX12_image 55 = .ok (.aload_n 0, 1) := by decide +kernel
theorem dX12_image_56 : decode cX12_image 56 = .ok (.iconst 0, 1) := by decide +kernel
theorem dX12_image_57 : decode cX12_image 57 = .ok (.invokevirtual 118, 3) := by decide +kernel
theorem dX12_image_60 : decode cX12_image 60 = .ok (.ireturn, 1) := by decide +kernel
def fX12_image_s17 (N : Nat) (c17 : Int32 → Int32 → qMem → Option (Int32 × qMem)) (v1 : Int32) (v2 : Int32) (σ : qMem) : Option (Int32 × qMem) :=
  (if 1112 ≤ v2 then (if ck v1 2 = true then (nmM (si σ 4 v1.toNatClampNeg (vp_nar .boolean 1)) fun s3 => ((fX12_good 0 s3).bind fun y4 => (some (y4.1, y4.2)))) else none) else (if ck v2 1112 = true then (if ck ((1112 * v1) + v2) 2224 = true then (nmM (si σ 3 ((1112 * v1) + v2).toNatClampNeg (gi σ 2 v2.toNatClampNeg)) fun s5 => (c17 v1 (v2 + 1) s5)) else none) else none))
set_option maxRecDepth 20000 in
set_option maxHeartbeats 4000000 in
theorem aX12_image_s17 (N : Nat) (c17 : Int32 → Int32 → qMem → Option (Int32 × qMem)) (hc17 : ∀ (v1 : Int32) (v2 : Int32) (σ : qMem), qAt wM mX12_image (ρi) 17 [(0, .ref 0), (1, .int v1), (2, .int v2)] [] σ (c17 v1 v2 σ)) (v1 : Int32) (v2 : Int32) (σ : qMem) : qAt wM mX12_image (ρi) 17 [(0, .ref 0), (1, .int v1), (2, .int v2)] [] σ (fX12_image_s17 N c17 v1 v2 σ) := by
  unfold fX12_image_s17
  refine q_iload_n (i := 2) (x := v2) dX12_image_17 rfl 2 rfl ?_
  refine q_sipush (v := 1112) dX12_image_18 (by decide) ?_
  refine q_icmp_ge (tgt := 48) dX12_image_21 (by decide) ?_ ?_
  · refine q_aload_n (i := 0) (x := 0) dX12_image_48 rfl 0 rfl ?_
    refine q_getr (t := 4) dX12_image_49 foX12_26 zM_0 rfl ?_
    refine q_iload_n (i := 1) (x := v1) dX12_image_52 rfl 1 rfl ?_
    refine q_iconst (v := 1) dX12_image_53 (by decide) ?_
    refine q_zast dX12_image_54 zM_4 ?_
    refine q_nmM (fun s3 => ?_)
    refine q_aload_n (i := 0) (x := 0) dX12_image_55 rfl 0 rfl ?_
    refine q_iconst (v := 0) dX12_image_56 (by decide) ?_
    refine q_cVi mX12_good [.int 0] (st := []) dX12_image_57 (svX12_118) ⟨Nat.le_of_ble_eq_true rfl, Nat.le_of_ble_eq_true rfl⟩ zM_0 rfl rfl rfl (Nat.le_of_ble_eq_true rfl) (kX12_good 0 s3) (fun y4 => ?_)
    exact q_ireti (y := (y4.1, y4.2)) dX12_image_60 rfl rfl
  refine q_aload_n (i := 0) (x := 0) dX12_image_24 rfl 0 rfl ?_
  refine q_getr (t := 3) dX12_image_25 foX12_23 zM_0 rfl ?_
  refine q_sipush (v := 1112) dX12_image_28 (by decide) ?_
  refine q_iload_n (i := 1) (x := v1) dX12_image_31 rfl 1 rfl ?_
  refine q_imul dX12_image_32 ?_
  refine q_iload_n (i := 2) (x := v2) dX12_image_33 rfl 2 rfl ?_
  refine q_iadd dX12_image_34 ?_
  refine q_aload_n (i := 0) (x := 0) dX12_image_35 rfl 0 rfl ?_
  refine q_getr (t := 2) dX12_image_36 foX12_20 zM_0 rfl ?_
  refine q_iload_n (i := 2) (x := v2) dX12_image_39 rfl 2 rfl ?_
  refine q_iald dX12_image_40 zM_2 ?_
  refine q_iast dX12_image_41 zM_3 ?_
  refine q_nmM (fun s5 => ?_)
  refine q_iinc (i := 2) (x := v2) (v := (v2 + 1)) (L' := [(2, .int (v2 + 1)), (0, .ref 0), (1, .int v1)]) dX12_image_42 2 rfl (q_cst v2 (by decide)) (Nat.le_of_ble_eq_true rfl) rfl ?_
  refine q_goto (tgt := 17) dX12_image_45 (by decide) ?_
  exact q_sub [1, 2, 0] rfl (hc17 v1 (v2 + 1) s5)
def fX12_image_l17 (N : Nat) : Nat → Int32 → Int32 → qMem → Option (Int32 × qMem)
  | 0 => fun _ _ _ => none
  | n + 1 => fun v1 v2 σ => fX12_image_s17 N (fX12_image_l17 N n) v1 v2 σ
theorem aX12_image_l17 (N : Nat) : ∀ (n : Nat) (v1 : Int32) (v2 : Int32) (σ : qMem), qAt wM mX12_image (ρi) 17 [(0, .ref 0), (1, .int v1), (2, .int v2)] [] σ (fX12_image_l17 N n v1 v2 σ) := by
  intro n
  induction n with
  | zero => intro v1 v2 σ; exact q_none
  | succ n ih => intro v1 v2 σ; exact aX12_image_s17 N (fX12_image_l17 N n) ih v1 v2 σ

def fX12_image (N : Nat) (p1 : Int32) (σ : qMem) : Option (Int32 × qMem) :=
  ((fX12_in p1 0 1).bind fun y1 => (if y1 = 0 then ((fX12_refuses (-1) σ).bind fun y2 => (some (y2.1, y2.2))) else (fX12_image_l17 N N p1 0 σ)))
set_option maxRecDepth 20000 in
set_option maxHeartbeats 4000000 in
theorem aX12_image  (N : Nat) (p1 : Int32)  (σ : qMem) : qAt wM mX12_image (ρi) 0 [(0, .ref 0), (1, .int p1)] [] σ (fX12_image N p1 σ) := by
  unfold fX12_image
  refine q_iload_n (i := 1) (x := p1) dX12_image_0 rfl 1 rfl ?_
  refine q_iconst (v := 0) dX12_image_1 (by decide) ?_
  refine q_iconst (v := 1) dX12_image_2 (by decide) ?_
  refine q_cSp mX12_in [.int p1, .int 0, .int 1] (st := []) dX12_image_3 (ssX12_110) ⟨Nat.le_of_ble_eq_true rfl, Nat.le_of_ble_eq_true rfl⟩ rfl rfl (Nat.le_of_ble_eq_true rfl) (kX12_in p1 0 1 σ) (fun y1 => ?_)
  refine q_if_ne (tgt := 15) dX12_image_6 (by decide) ?_ ?_
  · refine q_iconst (v := 0) dX12_image_15 (by decide) ?_
    refine q_istore_n (i := 2) (L' := [(2, .int 0), (0, .ref 0), (1, .int p1)]) dX12_image_16 rfl (Nat.le_of_ble_eq_true rfl) rfl ?_
    exact q_sub [1, 2, 0] rfl (aX12_image_l17 N N p1 0 σ)
  refine q_aload_n (i := 0) (x := 0) dX12_image_9 rfl 0 rfl ?_
  refine q_iconst (v := (-1)) dX12_image_10 (by decide) ?_
  refine q_cVi mX12_refuses [.int (-1)] (st := []) dX12_image_11 (svX12_114) ⟨Nat.le_of_ble_eq_true rfl, Nat.le_of_ble_eq_true rfl⟩ zM_0 rfl rfl rfl (Nat.le_of_ble_eq_true rfl) (kX12_refuses (-1) σ) (fun y2 => ?_)
  exact q_ireti (y := (y2.1, y2.2)) dX12_image_14 rfl rfl
theorem kX12_image  (N : Nat) (p1 : Int32)  (σ : qMem) : qMc wM mX12_image (ρi) [.ref 0, .int p1] σ (fX12_image N p1 σ) := qMc_of (moX12_image) (Nat.le_of_ble_eq_true rfl) (aX12_image N p1  σ)

theorem dX12_back_0 : decode cX12_back 0 = .ok (.iload_n 1, 1) := by decide +kernel
theorem dX12_back_1 : decode cX12_back 1 = .ok (.iconst 0, 1) := by decide +kernel
theorem dX12_back_2 : decode cX12_back 2 = .ok (.iconst 1, 1) := by decide +kernel
theorem dX12_back_3 : decode cX12_back 3 = .ok (.invokestatic 110, 3) := by decide +kernel
theorem dX12_back_6 : decode cX12_back 6 = .ok (.ifCond .ne 9, 3) := by decide +kernel
theorem dX12_back_9 : decode cX12_back 9 = .ok (.aload_n 0, 1) := by decide +kernel
theorem dX12_back_10 : decode cX12_back 10 = .ok (.iconst (-1), 1) := by decide +kernel
theorem dX12_back_11 : decode cX12_back 11 = .ok (.invokevirtual 114, 3) := by decide +kernel
theorem dX12_back_14 : decode cX12_back 14 = .ok (.ireturn, 1) := by decide +kernel
theorem dX12_back_15 : decode cX12_back 15 = .ok (.aload_n 0, 1) := by decide +kernel
theorem dX12_back_16 : decode cX12_back 16 = .ok (.getfield 26, 3) := by decide +kernel
theorem dX12_back_19 : decode cX12_back 19 = .ok (.iload_n 1, 1) := by decide +kernel
theorem dX12_back_20 : decode cX12_back 20 = .ok (.baload, 1) := by decide +kernel
theorem dX12_back_21 : decode cX12_back 21 = .ok (.ifCond .ne 10, 3) := by decide +kernel
theorem dX12_back_24 : decode cX12_back 24 = .ok (.aload_n 0, 1) := by decide +kernel
theorem dX12_back_25 : decode cX12_back 25 = .ok (.bipush (-2), 2) := by decide +kernel
theorem dX12_back_27 : decode cX12_back 27 = .ok (.invokevirtual 114, 3) := by decide +kernel
theorem dX12_back_30 : decode cX12_back 30 = .ok (.ireturn, 1) := by decide +kernel
theorem dX12_back_31 : decode cX12_back 31 = .ok (.iconst 0, 1) := by decide +kernel
theorem dX12_back_32 : decode cX12_back 32 = .ok (.istore_n 2, 1) := by decide +kernel
theorem dX12_back_33 : decode cX12_back 33 = .ok (.iload_n 2, 1) := by decide +kernel
theorem dX12_back_34 : decode cX12_back 34 = .ok (.sipush 1112, 3) := by decide +kernel
theorem dX12_back_37 : decode cX12_back 37 = .ok (.if_icmp .ge 27, 3) := by decide +kernel
theorem dX12_back_40 : decode cX12_back 40 = .ok (.aload_n 0, 1) := by decide +kernel
theorem dX12_back_41 : decode cX12_back 41 = .ok (.getfield 20, 3) := by decide +kernel
theorem dX12_back_44 : decode cX12_back 44 = .ok (.iload_n 2, 1) := by decide +kernel
theorem dX12_back_45 : decode cX12_back 45 = .ok (.aload_n 0, 1) := by decide +kernel
theorem dX12_back_46 : decode cX12_back 46 = .ok (.getfield 23, 3) := by decide +kernel
theorem dX12_back_49 : decode cX12_back 49 = .ok (.sipush 1112, 3) := by decide +kernel
theorem dX12_back_52 : decode cX12_back 52 = .ok (.iload_n 1, 1) := by decide +kernel
theorem dX12_back_53 : decode cX12_back 53 = .ok (.imul, 1) := by decide +kernel
theorem dX12_back_54 : decode cX12_back 54 = .ok (.iload_n 2, 1) := by decide +kernel
theorem dX12_back_55 : decode cX12_back 55 = .ok (.iadd, 1) := by decide +kernel
theorem dX12_back_56 : decode cX12_back 56 = .ok (.iaload, 1) := by decide +kernel
theorem dX12_back_57 : decode cX12_back 57 = .ok (.iastore, 1) := by decide +kernel
theorem dX12_back_58 : decode cX12_back 58 = .ok (.iinc 2 1, 3) := by decide +kernel
theorem dX12_back_61 : decode cX12_back 61 = .ok (.goto (-28), 3) := by decide +kernel
theorem dX12_back_64 : decode cX12_back 64 = .ok (.aload_n 0, 1) := by decide +kernel
theorem dX12_back_65 : decode cX12_back 65 = .ok (.iconst 0, 1) := by decide +kernel
theorem dX12_back_66 : decode cX12_back 66 = .ok (.invokevirtual 118, 3) := by decide +kernel
theorem dX12_back_69 : decode cX12_back 69 = .ok (.ireturn, 1) := by decide +kernel
def fX12_back_s33 (N : Nat) (c33 : Int32 → Int32 → qMem → Option (Int32 × qMem)) (v1 : Int32) (v2 : Int32) (σ : qMem) : Option (Int32 × qMem) :=
  (if 1112 ≤ v2 then ((fX12_good 0 σ).bind fun y4 => (some (y4.1, y4.2))) else (if ck ((1112 * v1) + v2) 2224 = true then (if ck v2 1112 = true then (nmM (si σ 2 v2.toNatClampNeg (gi σ 3 ((1112 * v1) + v2).toNatClampNeg)) fun s5 => (c33 v1 (v2 + 1) s5)) else none) else none))
set_option maxRecDepth 20000 in
set_option maxHeartbeats 4000000 in
theorem aX12_back_s33 (N : Nat) (c33 : Int32 → Int32 → qMem → Option (Int32 × qMem)) (hc33 : ∀ (v1 : Int32) (v2 : Int32) (σ : qMem), qAt wM mX12_back (ρi) 33 [(0, .ref 0), (1, .int v1), (2, .int v2)] [] σ (c33 v1 v2 σ)) (v1 : Int32) (v2 : Int32) (σ : qMem) : qAt wM mX12_back (ρi) 33 [(0, .ref 0), (1, .int v1), (2, .int v2)] [] σ (fX12_back_s33 N c33 v1 v2 σ) := by
  unfold fX12_back_s33
  refine q_iload_n (i := 2) (x := v2) dX12_back_33 rfl 2 rfl ?_
  refine q_sipush (v := 1112) dX12_back_34 (by decide) ?_
  refine q_icmp_ge (tgt := 64) dX12_back_37 (by decide) ?_ ?_
  · refine q_aload_n (i := 0) (x := 0) dX12_back_64 rfl 0 rfl ?_
    refine q_iconst (v := 0) dX12_back_65 (by decide) ?_
    refine q_cVi mX12_good [.int 0] (st := []) dX12_back_66 (svX12_118) ⟨Nat.le_of_ble_eq_true rfl, Nat.le_of_ble_eq_true rfl⟩ zM_0 rfl rfl rfl (Nat.le_of_ble_eq_true rfl) (kX12_good 0 σ) (fun y4 => ?_)
    exact q_ireti (y := (y4.1, y4.2)) dX12_back_69 rfl rfl
  refine q_aload_n (i := 0) (x := 0) dX12_back_40 rfl 0 rfl ?_
  refine q_getr (t := 2) dX12_back_41 foX12_20 zM_0 rfl ?_
  refine q_iload_n (i := 2) (x := v2) dX12_back_44 rfl 2 rfl ?_
  refine q_aload_n (i := 0) (x := 0) dX12_back_45 rfl 0 rfl ?_
  refine q_getr (t := 3) dX12_back_46 foX12_23 zM_0 rfl ?_
  refine q_sipush (v := 1112) dX12_back_49 (by decide) ?_
  refine q_iload_n (i := 1) (x := v1) dX12_back_52 rfl 1 rfl ?_
  refine q_imul dX12_back_53 ?_
  refine q_iload_n (i := 2) (x := v2) dX12_back_54 rfl 2 rfl ?_
  refine q_iadd dX12_back_55 ?_
  refine q_iald dX12_back_56 zM_3 ?_
  refine q_iast dX12_back_57 zM_2 ?_
  refine q_nmM (fun s5 => ?_)
  refine q_iinc (i := 2) (x := v2) (v := (v2 + 1)) (L' := [(2, .int (v2 + 1)), (0, .ref 0), (1, .int v1)]) dX12_back_58 2 rfl (q_cst v2 (by decide)) (Nat.le_of_ble_eq_true rfl) rfl ?_
  refine q_goto (tgt := 33) dX12_back_61 (by decide) ?_
  exact q_sub [1, 2, 0] rfl (hc33 v1 (v2 + 1) s5)
def fX12_back_l33 (N : Nat) : Nat → Int32 → Int32 → qMem → Option (Int32 × qMem)
  | 0 => fun _ _ _ => none
  | n + 1 => fun v1 v2 σ => fX12_back_s33 N (fX12_back_l33 N n) v1 v2 σ
theorem aX12_back_l33 (N : Nat) : ∀ (n : Nat) (v1 : Int32) (v2 : Int32) (σ : qMem), qAt wM mX12_back (ρi) 33 [(0, .ref 0), (1, .int v1), (2, .int v2)] [] σ (fX12_back_l33 N n v1 v2 σ) := by
  intro n
  induction n with
  | zero => intro v1 v2 σ; exact q_none
  | succ n ih => intro v1 v2 σ; exact aX12_back_s33 N (fX12_back_l33 N n) ih v1 v2 σ

def fX12_back (N : Nat) (p1 : Int32) (σ : qMem) : Option (Int32 × qMem) :=
  ((fX12_in p1 0 1).bind fun y1 => (if y1 = 0 then ((fX12_refuses (-1) σ).bind fun y3 => (some (y3.1, y3.2))) else (if ck p1 2 = true then (if (gi σ 4 p1.toNatClampNeg) = 0 then ((fX12_refuses (-2) σ).bind fun y2 => (some (y2.1, y2.2))) else (fX12_back_l33 N N p1 0 σ)) else none)))
set_option maxRecDepth 20000 in
set_option maxHeartbeats 4000000 in
theorem aX12_back  (N : Nat) (p1 : Int32)  (σ : qMem) : qAt wM mX12_back (ρi) 0 [(0, .ref 0), (1, .int p1)] [] σ (fX12_back N p1 σ) := by
  unfold fX12_back
  refine q_iload_n (i := 1) (x := p1) dX12_back_0 rfl 1 rfl ?_
  refine q_iconst (v := 0) dX12_back_1 (by decide) ?_
  refine q_iconst (v := 1) dX12_back_2 (by decide) ?_
  refine q_cSp mX12_in [.int p1, .int 0, .int 1] (st := []) dX12_back_3 (ssX12_110) ⟨Nat.le_of_ble_eq_true rfl, Nat.le_of_ble_eq_true rfl⟩ rfl rfl (Nat.le_of_ble_eq_true rfl) (kX12_in p1 0 1 σ) (fun y1 => ?_)
  refine q_if_ne (tgt := 15) dX12_back_6 (by decide) ?_ ?_
  · refine q_aload_n (i := 0) (x := 0) dX12_back_15 rfl 0 rfl ?_
    refine q_getr (t := 4) dX12_back_16 foX12_26 zM_0 rfl ?_
    refine q_iload_n (i := 1) (x := p1) dX12_back_19 rfl 1 rfl ?_
    refine q_zald dX12_back_20 zM_4 ?_
    refine q_if_ne (tgt := 31) dX12_back_21 (by decide) ?_ ?_
    · refine q_iconst (v := 0) dX12_back_31 (by decide) ?_
      refine q_istore_n (i := 2) (L' := [(2, .int 0), (0, .ref 0), (1, .int p1)]) dX12_back_32 rfl (Nat.le_of_ble_eq_true rfl) rfl ?_
      exact q_sub [1, 2, 0] rfl (aX12_back_l33 N N p1 0 σ)
    refine q_aload_n (i := 0) (x := 0) dX12_back_24 rfl 0 rfl ?_
    refine q_bipush (v := (-2)) dX12_back_25 (by decide) ?_
    refine q_cVi mX12_refuses [.int (-2)] (st := []) dX12_back_27 (svX12_114) ⟨Nat.le_of_ble_eq_true rfl, Nat.le_of_ble_eq_true rfl⟩ zM_0 rfl rfl rfl (Nat.le_of_ble_eq_true rfl) (kX12_refuses (-2) σ) (fun y2 => ?_)
    exact q_ireti (y := (y2.1, y2.2)) dX12_back_30 rfl rfl
  refine q_aload_n (i := 0) (x := 0) dX12_back_9 rfl 0 rfl ?_
  refine q_iconst (v := (-1)) dX12_back_10 (by decide) ?_
  refine q_cVi mX12_refuses [.int (-1)] (st := []) dX12_back_11 (svX12_114) ⟨Nat.le_of_ble_eq_true rfl, Nat.le_of_ble_eq_true rfl⟩ zM_0 rfl rfl rfl (Nat.le_of_ble_eq_true rfl) (kX12_refuses (-1) σ) (fun y3 => ?_)
  exact q_ireti (y := (y3.1, y3.2)) dX12_back_14 rfl rfl
theorem kX12_back  (N : Nat) (p1 : Int32)  (σ : qMem) : qMc wM mX12_back (ρi) [.ref 0, .int p1] σ (fX12_back N p1 σ) := qMc_of (moX12_back) (Nat.le_of_ble_eq_true rfl) (aX12_back N p1  σ)

theorem dX12_term_0 : decode cX12_term 0 = .ok (.aload_n 0, 1) := by decide +kernel
theorem dX12_term_1 : decode cX12_term 1 = .ok (.getfield 20, 3) := by decide +kernel
theorem dX12_term_4 : decode cX12_term 4 = .ok (.bipush 44, 2) := by decide +kernel
theorem dX12_term_6 : decode cX12_term 6 = .ok (.iload_n 1, 1) := by decide +kernel
theorem dX12_term_7 : decode cX12_term 7 = .ok (.iadd, 1) := by decide +kernel
theorem dX12_term_8 : decode cX12_term 8 = .ok (.iaload, 1) := by decide +kernel
theorem dX12_term_9 : decode cX12_term 9 = .ok (.ireturn, 1) := by decide +kernel

def fX12_term (p1 : Int32) (σ : qMem) : Option Int32 :=
  (if ck (44 + p1) 1112 = true then (some (gi σ 2 (44 + p1).toNatClampNeg)) else none)
set_option maxRecDepth 20000 in
set_option maxHeartbeats 4000000 in
theorem aX12_term  (p1 : Int32)  (σ : qMem) : qAt wM mX12_term (ρp σ) 0 [(0, .ref 0), (1, .int p1)] [] σ (fX12_term p1 σ) := by
  unfold fX12_term
  refine q_aload_n (i := 0) (x := 0) dX12_term_0 rfl 0 rfl ?_
  refine q_getr (t := 2) dX12_term_1 foX12_20 zM_0 rfl ?_
  refine q_bipush (v := 44) dX12_term_4 (by decide) ?_
  refine q_iload_n (i := 1) (x := p1) dX12_term_6 rfl 1 rfl ?_
  refine q_iadd dX12_term_7 ?_
  refine q_iald dX12_term_8 zM_2 ?_
  exact q_ireti (y := (gi σ 2 (44 + p1).toNatClampNeg)) dX12_term_9 rfl rfl
theorem kX12_term  (p1 : Int32)  (σ : qMem) : qMc wM mX12_term (ρp σ) [.ref 0, .int p1] σ (fX12_term p1 σ) := qMc_of (moX12_term) (Nat.le_of_ble_eq_true rfl) (aX12_term p1  σ)

theorem dX12_isBell_0 : decode cX12_isBell 0 = .ok (.iload_n 0, 1) := by decide +kernel
theorem dX12_isBell_1 : decode cX12_isBell 1 = .ok (.iconst 0, 1) := by decide +kernel
theorem dX12_isBell_2 : decode cX12_isBell 2 = .ok (.bipush 23, 2) := by decide +kernel
theorem dX12_isBell_4 : decode cX12_isBell 4 = .ok (.invokestatic 110, 3) := by decide +kernel
theorem dX12_isBell_7 : decode cX12_isBell 7 = .ok (.ireturn, 1) := by decide +kernel

def fX12_isBell (p0 : Int32) : Option Int32 :=
  ((fX12_in p0 0 23).bind fun y1 => (if y1 = 0 ∨ y1 = 1 then some y1 else none))
set_option maxRecDepth 20000 in
set_option maxHeartbeats 4000000 in
theorem aX12_isBell  (p0 : Int32)  (σ : qMem) : qAt wM mX12_isBell (ρp σ) 0 [(0, .int p0)] [] σ (fX12_isBell p0) := by
  unfold fX12_isBell
  refine q_iload_n (i := 0) (x := p0) dX12_isBell_0 rfl 0 rfl ?_
  refine q_iconst (v := 0) dX12_isBell_1 (by decide) ?_
  refine q_bipush (v := 23) dX12_isBell_2 (by decide) ?_
  refine q_cSp mX12_in [.int p0, .int 0, .int 23] (st := []) dX12_isBell_4 (ssX12_110) ⟨Nat.le_of_ble_eq_true rfl, Nat.le_of_ble_eq_true rfl⟩ rfl rfl (Nat.le_of_ble_eq_true rfl) (kX12_in p0 0 23 σ) (fun y1 => ?_)
  exact q_if (fun hz => q_iretz (y := y1) dX12_isBell_7 rfl (nb_ok hz) rfl)
theorem kX12_isBell  (p0 : Int32)  (σ : qMem) : qMc wM mX12_isBell (ρp σ) [.int p0] σ (fX12_isBell p0) := qMc_of (moX12_isBell) (Nat.le_of_ble_eq_true rfl) (aX12_isBell p0  σ)

theorem dX12_isSea_0 : decode cX12_isSea 0 = .ok (.iload_n 0, 1) := by decide +kernel
theorem dX12_isSea_1 : decode cX12_isSea 1 = .ok (.iconst 0, 1) := by decide +kernel
theorem dX12_isSea_2 : decode cX12_isSea 2 = .ok (.bipush 31, 2) := by decide +kernel
theorem dX12_isSea_4 : decode cX12_isSea 4 = .ok (.invokestatic 110, 3) := by decide +kernel
theorem dX12_isSea_7 : decode cX12_isSea 7 = .ok (.ireturn, 1) := by decide +kernel

def fX12_isSea (p0 : Int32) : Option Int32 :=
  ((fX12_in p0 0 31).bind fun y1 => (if y1 = 0 ∨ y1 = 1 then some y1 else none))
set_option maxRecDepth 20000 in
set_option maxHeartbeats 4000000 in
theorem aX12_isSea  (p0 : Int32)  (σ : qMem) : qAt wM mX12_isSea (ρp σ) 0 [(0, .int p0)] [] σ (fX12_isSea p0) := by
  unfold fX12_isSea
  refine q_iload_n (i := 0) (x := p0) dX12_isSea_0 rfl 0 rfl ?_
  refine q_iconst (v := 0) dX12_isSea_1 (by decide) ?_
  refine q_bipush (v := 31) dX12_isSea_2 (by decide) ?_
  refine q_cSp mX12_in [.int p0, .int 0, .int 31] (st := []) dX12_isSea_4 (ssX12_110) ⟨Nat.le_of_ble_eq_true rfl, Nat.le_of_ble_eq_true rfl⟩ rfl rfl (Nat.le_of_ble_eq_true rfl) (kX12_in p0 0 31 σ) (fun y1 => ?_)
  exact q_if (fun hz => q_iretz (y := y1) dX12_isSea_7 rfl (nb_ok hz) rfl)
theorem kX12_isSea  (p0 : Int32)  (σ : qMem) : qMc wM mX12_isSea (ρp σ) [.int p0] σ (fX12_isSea p0) := qMc_of (moX12_isSea) (Nat.le_of_ble_eq_true rfl) (aX12_isSea p0  σ)

theorem dX12_isBoat_0 : decode cX12_isBoat 0 = .ok (.iload_n 0, 1) := by decide +kernel
theorem dX12_isBoat_1 : decode cX12_isBoat 1 = .ok (.iconst 0, 1) := by decide +kernel
theorem dX12_isBoat_2 : decode cX12_isBoat 2 = .ok (.iconst 1, 1) := by decide +kernel
theorem dX12_isBoat_3 : decode cX12_isBoat 3 = .ok (.invokestatic 110, 3) := by decide +kernel
theorem dX12_isBoat_6 : decode cX12_isBoat 6 = .ok (.ireturn, 1) := by decide +kernel

def fX12_isBoat (p0 : Int32) : Option Int32 :=
  ((fX12_in p0 0 1).bind fun y1 => (if y1 = 0 ∨ y1 = 1 then some y1 else none))
set_option maxRecDepth 20000 in
set_option maxHeartbeats 4000000 in
theorem aX12_isBoat  (p0 : Int32)  (σ : qMem) : qAt wM mX12_isBoat (ρp σ) 0 [(0, .int p0)] [] σ (fX12_isBoat p0) := by
  unfold fX12_isBoat
  refine q_iload_n (i := 0) (x := p0) dX12_isBoat_0 rfl 0 rfl ?_
  refine q_iconst (v := 0) dX12_isBoat_1 (by decide) ?_
  refine q_iconst (v := 1) dX12_isBoat_2 (by decide) ?_
  refine q_cSp mX12_in [.int p0, .int 0, .int 1] (st := []) dX12_isBoat_3 (ssX12_110) ⟨Nat.le_of_ble_eq_true rfl, Nat.le_of_ble_eq_true rfl⟩ rfl rfl (Nat.le_of_ble_eq_true rfl) (kX12_in p0 0 1 σ) (fun y1 => ?_)
  exact q_if (fun hz => q_iretz (y := y1) dX12_isBoat_6 rfl (nb_ok hz) rfl)
theorem kX12_isBoat  (p0 : Int32)  (σ : qMem) : qMc wM mX12_isBoat (ρp σ) [.int p0] σ (fX12_isBoat p0) := qMc_of (moX12_isBoat) (Nat.le_of_ble_eq_true rfl) (aX12_isBoat p0  σ)

theorem dX12_isPace_0 : decode cX12_isPace 0 = .ok (.iload_n 0, 1) := by decide +kernel
theorem dX12_isPace_1 : decode cX12_isPace 1 = .ok (.bipush (-3), 2) := by decide +kernel
theorem dX12_isPace_3 : decode cX12_isPace 3 = .ok (.iconst 3, 1) := by decide +kernel
theorem dX12_isPace_4 : decode cX12_isPace 4 = .ok (.invokestatic 110, 3) := by decide +kernel
theorem dX12_isPace_7 : decode cX12_isPace 7 = .ok (.ireturn, 1) := by decide +kernel

def fX12_isPace (p0 : Int32) : Option Int32 :=
  ((fX12_in p0 (-3) 3).bind fun y1 => (if y1 = 0 ∨ y1 = 1 then some y1 else none))
set_option maxRecDepth 20000 in
set_option maxHeartbeats 4000000 in
theorem aX12_isPace  (p0 : Int32)  (σ : qMem) : qAt wM mX12_isPace (ρp σ) 0 [(0, .int p0)] [] σ (fX12_isPace p0) := by
  unfold fX12_isPace
  refine q_iload_n (i := 0) (x := p0) dX12_isPace_0 rfl 0 rfl ?_
  refine q_bipush (v := (-3)) dX12_isPace_1 (by decide) ?_
  refine q_iconst (v := 3) dX12_isPace_3 (by decide) ?_
  refine q_cSp mX12_in [.int p0, .int (-3), .int 3] (st := []) dX12_isPace_4 (ssX12_110) ⟨Nat.le_of_ble_eq_true rfl, Nat.le_of_ble_eq_true rfl⟩ rfl rfl (Nat.le_of_ble_eq_true rfl) (kX12_in p0 (-3) 3 σ) (fun y1 => ?_)
  exact q_if (fun hz => q_iretz (y := y1) dX12_isPace_7 rfl (nb_ok hz) rfl)
theorem kX12_isPace  (p0 : Int32)  (σ : qMem) : qMc wM mX12_isPace (ρp σ) [.int p0] σ (fX12_isPace p0) := qMc_of (moX12_isPace) (Nat.le_of_ble_eq_true rfl) (aX12_isPace p0  σ)

theorem dX12_boatOf_0 : decode cX12_boatOf 0 = .ok (.aload_n 0, 1) := by decide +kernel
theorem dX12_boatOf_1 : decode cX12_boatOf 1 = .ok (.getfield 20, 3) := by decide +kernel
theorem dX12_boatOf_4 : decode cX12_boatOf 4 = .ok (.iconst 0, 1) := by decide +kernel
theorem dX12_boatOf_5 : decode cX12_boatOf 5 = .ok (.bipush 22, 2) := by decide +kernel
theorem dX12_boatOf_7 : decode cX12_boatOf 7 = .ok (.iload_n 1, 1) := by decide +kernel
theorem dX12_boatOf_8 : decode cX12_boatOf 8 = .ok (.imul, 1) := by decide +kernel
theorem dX12_boatOf_9 : decode cX12_boatOf 9 = .ok (.iadd, 1) := by decide +kernel
theorem dX12_boatOf_10 : decode cX12_boatOf 10 = .ok (.iload_n 2, 1) := by decide +kernel
theorem dX12_boatOf_11 : decode cX12_boatOf 11 = .ok (.iadd, 1) := by decide +kernel
theorem dX12_boatOf_12 : decode cX12_boatOf 12 = .ok (.iaload, 1) := by decide +kernel
theorem dX12_boatOf_13 : decode cX12_boatOf 13 = .ok (.ireturn, 1) := by decide +kernel

def fX12_boatOf (p1 : Int32) (p2 : Int32) (σ : qMem) : Option Int32 :=
  (if ck ((0 + (22 * p1)) + p2) 1112 = true then (some (gi σ 2 ((0 + (22 * p1)) + p2).toNatClampNeg)) else none)
set_option maxRecDepth 20000 in
set_option maxHeartbeats 4000000 in
theorem aX12_boatOf  (p1 : Int32) (p2 : Int32)  (σ : qMem) : qAt wM mX12_boatOf (ρp σ) 0 [(0, .ref 0), (1, .int p1), (2, .int p2)] [] σ (fX12_boatOf p1 p2 σ) := by
  unfold fX12_boatOf
  refine q_aload_n (i := 0) (x := 0) dX12_boatOf_0 rfl 0 rfl ?_
  refine q_getr (t := 2) dX12_boatOf_1 foX12_20 zM_0 rfl ?_
  refine q_iconst (v := 0) dX12_boatOf_4 (by decide) ?_
  refine q_bipush (v := 22) dX12_boatOf_5 (by decide) ?_
  refine q_iload_n (i := 1) (x := p1) dX12_boatOf_7 rfl 1 rfl ?_
  refine q_imul dX12_boatOf_8 ?_
  refine q_iadd dX12_boatOf_9 ?_
  refine q_iload_n (i := 2) (x := p2) dX12_boatOf_10 rfl 2 rfl ?_
  refine q_iadd dX12_boatOf_11 ?_
  refine q_iald dX12_boatOf_12 zM_2 ?_
  exact q_ireti (y := (gi σ 2 ((0 + (22 * p1)) + p2).toNatClampNeg)) dX12_boatOf_13 rfl rfl
theorem kX12_boatOf  (p1 : Int32) (p2 : Int32)  (σ : qMem) : qMc wM mX12_boatOf (ρp σ) [.ref 0, .int p1, .int p2] σ (fX12_boatOf p1 p2 σ) := qMc_of (moX12_boatOf) (Nat.le_of_ble_eq_true rfl) (aX12_boatOf p1 p2  σ)

theorem dX12_legOf_0 : decode cX12_legOf 0 = .ok (.aload_n 0, 1) := by decide +kernel
theorem dX12_legOf_1 : decode cX12_legOf 1 = .ok (.iload_n 1, 1) := by decide +kernel
theorem dX12_legOf_2 : decode cX12_legOf 2 = .ok (.iconst 4, 1) := by decide +kernel
theorem dX12_legOf_3 : decode cX12_legOf 3 = .ok (.iconst 3, 1) := by decide +kernel
theorem dX12_legOf_4 : decode cX12_legOf 4 = .ok (.iload_n 2, 1) := by decide +kernel
theorem dX12_legOf_5 : decode cX12_legOf 5 = .ok (.imul, 1) := by decide +kernel
theorem dX12_legOf_6 : decode cX12_legOf 6 = .ok (.iadd, 1) := by decide +kernel
theorem dX12_legOf_7 : decode cX12_legOf 7 = .ok (.iload_n 3, 1) := by decide +kernel
theorem dX12_legOf_8 : decode cX12_legOf 8 = .ok (.iadd, 1) := by decide +kernel
theorem dX12_legOf_9 : decode cX12_legOf 9 = .ok (.invokevirtual 121, 3) := by decide +kernel
theorem dX12_legOf_12 : decode cX12_legOf 12 = .ok (.ireturn, 1) := by decide +kernel

def fX12_legOf (p1 : Int32) (p2 : Int32) (p3 : Int32) (σ : qMem) : Option Int32 :=
  ((fX12_boatOf p1 ((4 + (3 * p2)) + p3) σ).bind fun y1 => (some y1))
set_option maxRecDepth 20000 in
set_option maxHeartbeats 4000000 in
theorem aX12_legOf  (p1 : Int32) (p2 : Int32) (p3 : Int32)  (σ : qMem) : qAt wM mX12_legOf (ρp σ) 0 [(0, .ref 0), (1, .int p1), (2, .int p2), (3, .int p3)] [] σ (fX12_legOf p1 p2 p3 σ) := by
  unfold fX12_legOf
  refine q_aload_n (i := 0) (x := 0) dX12_legOf_0 rfl 0 rfl ?_
  refine q_iload_n (i := 1) (x := p1) dX12_legOf_1 rfl 1 rfl ?_
  refine q_iconst (v := 4) dX12_legOf_2 (by decide) ?_
  refine q_iconst (v := 3) dX12_legOf_3 (by decide) ?_
  refine q_iload_n (i := 2) (x := p2) dX12_legOf_4 rfl 2 rfl ?_
  refine q_imul dX12_legOf_5 ?_
  refine q_iadd dX12_legOf_6 ?_
  refine q_iload_n (i := 3) (x := p3) dX12_legOf_7 rfl 3 rfl ?_
  refine q_iadd dX12_legOf_8 ?_
  refine q_cVp mX12_boatOf [.int p1, .int ((4 + (3 * p2)) + p3)] (st := []) dX12_legOf_9 (svX12_121) ⟨Nat.le_of_ble_eq_true rfl, Nat.le_of_ble_eq_true rfl⟩ zM_0 rfl rfl rfl (Nat.le_of_ble_eq_true rfl) (kX12_boatOf p1 ((4 + (3 * p2)) + p3) σ) (fun y1 => ?_)
  exact q_ireti (y := y1) dX12_legOf_12 rfl rfl
theorem kX12_legOf  (p1 : Int32) (p2 : Int32) (p3 : Int32)  (σ : qMem) : qMc wM mX12_legOf (ρp σ) [.ref 0, .int p1, .int p2, .int p3] σ (fX12_legOf p1 p2 p3 σ) := qMc_of (moX12_legOf) (Nat.le_of_ble_eq_true rfl) (aX12_legOf p1 p2 p3  σ)

theorem dX12_boat_0 : decode cX12_boat 0 = .ok (.iload_n 2, 1) := by decide +kernel
theorem dX12_boat_1 : decode cX12_boat 1 = .ok (.invokestatic 125, 3) := by decide +kernel
theorem dX12_boat_4 : decode cX12_boat 4 = .ok (.ifCond .eq 21, 3) := by decide +kernel
theorem dX12_boat_7 : decode cX12_boat 7 = .ok (.iload_n 3, 1) := by decide +kernel
theorem dX12_boat_8 : decode cX12_boat 8 = .ok (.invokestatic 125, 3) := by decide +kernel
theorem dX12_boat_11 : decode cX12_boat 11 = .ok (.ifCond .eq 14, 3) := by decide +kernel
theorem dX12_boat_14 : decode cX12_boat 14 = .ok (.iload 4, 2) := by decide +kernel
theorem dX12_boat_16 : decode cX12_boat 16 = .ok (.iconst 0, 1) := by decide +kernel
theorem dX12_boat_17 : decode cX12_boat 17 = .ok (.bipush 9, 2) := by decide +kernel
theorem dX12_boat_19 : decode cX12_boat 19 = .ok (.invokestatic 110, 3) := by decide +kernel
theorem dX12_boat_22 : decode cX12_boat 22 = .ok (.ifCond .ne 9, 3) := by decide +kernel
theorem dX12_boat_25 : decode cX12_boat 25 = .ok (.aload_n 0, 1) := by decide +kernel
theorem dX12_boat_26 : decode cX12_boat 26 = .ok (.iconst (-1), 1) := by decide +kernel
theorem dX12_boat_27 : decode cX12_boat 27 = .ok (.invokevirtual 114, 3) := by decide +kernel
theorem dX12_boat_30 : decode cX12_boat 30 = .ok (.ireturn, 1) := by decide +kernel
theorem dX12_boat_31 : decode cX12_boat 31 = .ok (.iload_n 1, 1) := by decide +kernel
theorem dX12_boat_32 : decode cX12_boat 32 = .ok (.invokestatic 129, 3) := by decide +kernel
theorem dX12_boat_35 : decode cX12_boat 35 = .ok (.ifCond .ne 10, 3) := by decide +kernel
theorem dX12_boat_38 : decode cX12_boat 38 = .ok (.aload_n 0, 1) := by decide +kernel
theorem dX12_boat_39 : decode cX12_boat 39 = .ok (.bipush (-2), 2) := by decide +kernel
theorem dX12_boat_41 : decode cX12_boat 41 = .ok (.invokevirtual 114, 3) := by decide +kernel
theorem dX12_boat_44 : decode cX12_boat 44 = .ok (.ireturn, 1) := by decide +kernel
theorem dX12_boat_45 : decode cX12_boat 45 = .ok (.aload_n 0, 1) := by decide +kernel
theorem dX12_boat_46 : decode cX12_boat 46 = .ok (.iload_n 1, 1) := by decide +kernel
theorem dX12_boat_47 : decode cX12_boat 47 = .ok (.iconst 3, 1) := by decide +kernel
theorem dX12_boat_48 : decode cX12_boat 48 = .ok (.invokevirtual 121, 3) := by decide +kernel
theorem dX12_boat_51 : decode cX12_boat 51 = .ok (.istore 5, 2) := by decide +kernel
theorem dX12_boat_53 : decode cX12_boat 53 = .ok (.aload_n 0, 1) := by decide +kernel
theorem dX12_boat_54 : decode cX12_boat 54 = .ok (.getfield 20, 3) := by decide +kernel
theorem dX12_boat_57 : decode cX12_boat 57 = .ok (.iconst 0, 1) := by decide +kernel
theorem dX12_boat_58 : decode cX12_boat 58 = .ok (.bipush 22, 2) := by decide +kernel
theorem dX12_boat_60 : decode cX12_boat 60 = .ok (.iload_n 1, 1) := by decide +kernel
theorem dX12_boat_61 : decode cX12_boat 61 = .ok (.imul, 1) := by decide +kernel
theorem dX12_boat_62 : decode cX12_boat 62 = .ok (.iadd, 1) := by decide +kernel
theorem dX12_boat_63 : decode cX12_boat 63 = .ok (.iload_n 2, 1) := by decide +kernel
theorem dX12_boat_64 : decode cX12_boat 64 = .ok (.iastore, 1) := by decide +kernel
theorem dX12_boat_65 : decode cX12_boat 65 = .ok (.aload_n 0, 1) := by decide +kernel
theorem dX12_boat_66 : decode cX12_boat 66 = .ok (.getfield 20, 3) := by decide +kernel
theorem dX12_boat_69 : decode cX12_boat 69 = .ok (.iconst 0, 1) := by decide +kernel
theorem dX12_boat_70 : decode cX12_boat 70 = .ok (.bipush 22, 2) := by decide +kernel
theorem dX12_boat_72 : decode cX12_boat 72 = .ok (.iload_n 1, 1) := by decide +kernel
theorem dX12_boat_73 : decode cX12_boat 73 = .ok (.imul, 1) := by decide +kernel
theorem dX12_boat_74 : decode cX12_boat 74 = .ok (.iadd, 1) := by decide +kernel
theorem dX12_boat_75 : decode cX12_boat 75 = .ok (.iconst 1, 1) := by decide +kernel
theorem dX12_boat_76 : decode cX12_boat 76 = .ok (.iadd, 1) := by decide +kernel
theorem dX12_boat_77 : decode cX12_boat 77 = .ok (.iload_n 3, 1) := by decide +kernel
theorem dX12_boat_78 : decode cX12_boat 78 = .ok (.iastore, 1) := by decide +kernel
theorem dX12_boat_79 : decode cX12_boat 79 = .ok (.aload_n 0, 1) := by decide +kernel
theorem dX12_boat_80 : decode cX12_boat 80 = .ok (.getfield 20, 3) := by decide +kernel
theorem dX12_boat_83 : decode cX12_boat 83 = .ok (.iconst 0, 1) := by decide +kernel
theorem dX12_boat_84 : decode cX12_boat 84 = .ok (.bipush 22, 2) := by decide +kernel
theorem dX12_boat_86 : decode cX12_boat 86 = .ok (.iload_n 1, 1) := by decide +kernel
theorem dX12_boat_87 : decode cX12_boat 87 = .ok (.imul, 1) := by decide +kernel
theorem dX12_boat_88 : decode cX12_boat 88 = .ok (.iadd, 1) := by decide +kernel
theorem dX12_boat_89 : decode cX12_boat 89 = .ok (.iconst 2, 1) := by decide +kernel
theorem dX12_boat_90 : decode cX12_boat 90 = .ok (.iadd, 1) := by decide +kernel
theorem dX12_boat_91 : decode cX12_boat 91 = .ok (.iload 4, 2) := by decide +kernel
theorem dX12_boat_93 : decode cX12_boat 93 = .ok (.iastore, 1) := by decide +kernel
theorem dX12_boat_94 : decode cX12_boat 94 = .ok (.aload_n 0, 1) := by decide +kernel
theorem dX12_boat_95 : decode cX12_boat 95 = .ok (.getfield 20, 3) := by decide +kernel
theorem dX12_boat_98 : decode cX12_boat 98 = .ok (.iconst 0, 1) := by decide +kernel
theorem dX12_boat_99 : decode cX12_boat 99 = .ok (.bipush 22, 2) := by decide +kernel
theorem dX12_boat_101 : decode cX12_boat 101 = .ok (.iload_n 1, 1) := by decide +kernel
theorem dX12_boat_102 : decode cX12_boat 102 = .ok (.imul, 1) := by decide +kernel
theorem dX12_boat_103 : decode cX12_boat 103 = .ok (.iadd, 1) := by decide +kernel
theorem dX12_boat_104 : decode cX12_boat 104 = .ok (.iconst 3, 1) := by decide +kernel
theorem dX12_boat_105 : decode cX12_boat 105 = .ok (.iadd, 1) := by decide +kernel
theorem dX12_boat_106 : decode cX12_boat 106 = .ok (.iconst 0, 1) := by decide +kernel
theorem dX12_boat_107 : decode cX12_boat 107 = .ok (.iastore, 1) := by decide +kernel
theorem dX12_boat_108 : decode cX12_boat 108 = .ok (.aload_n 0, 1) := by decide +kernel
theorem dX12_boat_109 : decode cX12_boat 109 = .ok (.iload 5, 2) := by decide +kernel
theorem dX12_boat_111 : decode cX12_boat 111 = .ok (.invokevirtual 118, 3) := by decide +kernel
theorem dX12_boat_114 : decode cX12_boat 114 = .ok (.ireturn, 1) := by decide +kernel
def fX12_boat_b25 (σ : qMem) : Option (Int32 × qMem) :=
  ((fX12_refuses (-1) σ).bind fun y12 => (some (y12.1, y12.2)))
set_option maxRecDepth 20000 in
set_option maxHeartbeats 4000000 in
theorem aX12_boat_b25 (σ : qMem) : qAt wM mX12_boat (ρi) 25 [(0, .ref 0)] [] σ (fX12_boat_b25 σ) := by
  unfold fX12_boat_b25
  refine q_aload_n (i := 0) (x := 0) dX12_boat_25 rfl 0 rfl ?_
  refine q_iconst (v := (-1)) dX12_boat_26 (by decide) ?_
  refine q_cVi mX12_refuses [.int (-1)] (st := []) dX12_boat_27 (svX12_114) ⟨Nat.le_of_ble_eq_true rfl, Nat.le_of_ble_eq_true rfl⟩ zM_0 rfl rfl rfl (Nat.le_of_ble_eq_true rfl) (kX12_refuses (-1) σ) (fun y12 => ?_)
  exact q_ireti (y := (y12.1, y12.2)) dX12_boat_30 rfl rfl

def fX12_boat (p1 : Int32) (p2 : Int32) (p3 : Int32) (p4 : Int32) (σ : qMem) : Option (Int32 × qMem) :=
  ((fX12_isSea p2).bind fun y1 => (if y1 = 0 then (fX12_boat_b25 σ) else ((fX12_isSea p3).bind fun y2 => (if y2 = 0 then (fX12_boat_b25 σ) else ((fX12_in p4 0 9).bind fun y3 => (if y3 = 0 then (fX12_boat_b25 σ) else ((fX12_isBoat p1).bind fun y4 => (if y4 = 0 then ((fX12_refuses (-2) σ).bind fun y11 => (some (y11.1, y11.2))) else ((fX12_boatOf p1 3 σ).bind fun y5 => (if ck (0 + (22 * p1)) 1112 = true then (nmM (si σ 2 (0 + (22 * p1)).toNatClampNeg p2) fun s6 => (if ck ((0 + (22 * p1)) + 1) 1112 = true then (nmM (si s6 2 ((0 + (22 * p1)) + 1).toNatClampNeg p3) fun s7 => (if ck ((0 + (22 * p1)) + 2) 1112 = true then (nmM (si s7 2 ((0 + (22 * p1)) + 2).toNatClampNeg p4) fun s8 => (if ck ((0 + (22 * p1)) + 3) 1112 = true then (nmM (si s8 2 ((0 + (22 * p1)) + 3).toNatClampNeg 0) fun s9 => ((fX12_good y5 s9).bind fun y10 => (some (y10.1, y10.2)))) else none)) else none)) else none)) else none))))))))))
set_option maxRecDepth 20000 in
set_option maxHeartbeats 4000000 in
theorem aX12_boat  (p1 : Int32) (p2 : Int32) (p3 : Int32) (p4 : Int32)  (σ : qMem) : qAt wM mX12_boat (ρi) 0 [(0, .ref 0), (1, .int p1), (2, .int p2), (3, .int p3), (4, .int p4)] [] σ (fX12_boat p1 p2 p3 p4 σ) := by
  unfold fX12_boat
  refine q_iload_n (i := 2) (x := p2) dX12_boat_0 rfl 2 rfl ?_
  refine q_cSp mX12_isSea [.int p2] (st := []) dX12_boat_1 (ssX12_125) ⟨Nat.le_of_ble_eq_true rfl, Nat.le_of_ble_eq_true rfl⟩ rfl rfl (Nat.le_of_ble_eq_true rfl) (kX12_isSea p2 σ) (fun y1 => ?_)
  refine q_if_eq (tgt := 25) dX12_boat_4 (by decide) ?_ ?_
  · exact q_sub [0] rfl (aX12_boat_b25 σ)
  refine q_iload_n (i := 3) (x := p3) dX12_boat_7 rfl 3 rfl ?_
  refine q_cSp mX12_isSea [.int p3] (st := []) dX12_boat_8 (ssX12_125) ⟨Nat.le_of_ble_eq_true rfl, Nat.le_of_ble_eq_true rfl⟩ rfl rfl (Nat.le_of_ble_eq_true rfl) (kX12_isSea p3 σ) (fun y2 => ?_)
  refine q_if_eq (tgt := 25) dX12_boat_11 (by decide) ?_ ?_
  · exact q_sub [0] rfl (aX12_boat_b25 σ)
  refine q_iload (i := 4) (x := p4) dX12_boat_14 4 rfl ?_
  refine q_iconst (v := 0) dX12_boat_16 (by decide) ?_
  refine q_bipush (v := 9) dX12_boat_17 (by decide) ?_
  refine q_cSp mX12_in [.int p4, .int 0, .int 9] (st := []) dX12_boat_19 (ssX12_110) ⟨Nat.le_of_ble_eq_true rfl, Nat.le_of_ble_eq_true rfl⟩ rfl rfl (Nat.le_of_ble_eq_true rfl) (kX12_in p4 0 9 σ) (fun y3 => ?_)
  refine q_if_ne (tgt := 31) dX12_boat_22 (by decide) ?_ ?_
  · refine q_iload_n (i := 1) (x := p1) dX12_boat_31 rfl 1 rfl ?_
    refine q_cSp mX12_isBoat [.int p1] (st := []) dX12_boat_32 (ssX12_129) ⟨Nat.le_of_ble_eq_true rfl, Nat.le_of_ble_eq_true rfl⟩ rfl rfl (Nat.le_of_ble_eq_true rfl) (kX12_isBoat p1 σ) (fun y4 => ?_)
    refine q_if_ne (tgt := 45) dX12_boat_35 (by decide) ?_ ?_
    · refine q_aload_n (i := 0) (x := 0) dX12_boat_45 rfl 0 rfl ?_
      refine q_iload_n (i := 1) (x := p1) dX12_boat_46 rfl 1 rfl ?_
      refine q_iconst (v := 3) dX12_boat_47 (by decide) ?_
      refine q_cVp mX12_boatOf [.int p1, .int 3] (st := []) dX12_boat_48 (svX12_121) ⟨Nat.le_of_ble_eq_true rfl, Nat.le_of_ble_eq_true rfl⟩ zM_0 rfl rfl rfl (Nat.le_of_ble_eq_true rfl) (kX12_boatOf p1 3 σ) (fun y5 => ?_)
      refine q_istore (i := 5) (L' := [(5, .int y5), (0, .ref 0), (1, .int p1), (2, .int p2), (3, .int p3), (4, .int p4)]) dX12_boat_51 (Nat.le_of_ble_eq_true rfl) rfl ?_
      refine q_aload_n (i := 0) (x := 0) dX12_boat_53 rfl 1 rfl ?_
      refine q_getr (t := 2) dX12_boat_54 foX12_20 zM_0 rfl ?_
      refine q_iconst (v := 0) dX12_boat_57 (by decide) ?_
      refine q_bipush (v := 22) dX12_boat_58 (by decide) ?_
      refine q_iload_n (i := 1) (x := p1) dX12_boat_60 rfl 2 rfl ?_
      refine q_imul dX12_boat_61 ?_
      refine q_iadd dX12_boat_62 ?_
      refine q_iload_n (i := 2) (x := p2) dX12_boat_63 rfl 3 rfl ?_
      refine q_iast dX12_boat_64 zM_2 ?_
      refine q_nmM (fun s6 => ?_)
      refine q_aload_n (i := 0) (x := 0) dX12_boat_65 rfl 1 rfl ?_
      refine q_getr (t := 2) dX12_boat_66 foX12_20 zM_0 rfl ?_
      refine q_iconst (v := 0) dX12_boat_69 (by decide) ?_
      refine q_bipush (v := 22) dX12_boat_70 (by decide) ?_
      refine q_iload_n (i := 1) (x := p1) dX12_boat_72 rfl 2 rfl ?_
      refine q_imul dX12_boat_73 ?_
      refine q_iadd dX12_boat_74 ?_
      refine q_iconst (v := 1) dX12_boat_75 (by decide) ?_
      refine q_iadd dX12_boat_76 ?_
      refine q_iload_n (i := 3) (x := p3) dX12_boat_77 rfl 4 rfl ?_
      refine q_iast dX12_boat_78 zM_2 ?_
      refine q_nmM (fun s7 => ?_)
      refine q_aload_n (i := 0) (x := 0) dX12_boat_79 rfl 1 rfl ?_
      refine q_getr (t := 2) dX12_boat_80 foX12_20 zM_0 rfl ?_
      refine q_iconst (v := 0) dX12_boat_83 (by decide) ?_
      refine q_bipush (v := 22) dX12_boat_84 (by decide) ?_
      refine q_iload_n (i := 1) (x := p1) dX12_boat_86 rfl 2 rfl ?_
      refine q_imul dX12_boat_87 ?_
      refine q_iadd dX12_boat_88 ?_
      refine q_iconst (v := 2) dX12_boat_89 (by decide) ?_
      refine q_iadd dX12_boat_90 ?_
      refine q_iload (i := 4) (x := p4) dX12_boat_91 5 rfl ?_
      refine q_iast dX12_boat_93 zM_2 ?_
      refine q_nmM (fun s8 => ?_)
      refine q_aload_n (i := 0) (x := 0) dX12_boat_94 rfl 1 rfl ?_
      refine q_getr (t := 2) dX12_boat_95 foX12_20 zM_0 rfl ?_
      refine q_iconst (v := 0) dX12_boat_98 (by decide) ?_
      refine q_bipush (v := 22) dX12_boat_99 (by decide) ?_
      refine q_iload_n (i := 1) (x := p1) dX12_boat_101 rfl 2 rfl ?_
      refine q_imul dX12_boat_102 ?_
      refine q_iadd dX12_boat_103 ?_
      refine q_iconst (v := 3) dX12_boat_104 (by decide) ?_
      refine q_iadd dX12_boat_105 ?_
      refine q_iconst (v := 0) dX12_boat_106 (by decide) ?_
      refine q_iast dX12_boat_107 zM_2 ?_
      refine q_nmM (fun s9 => ?_)
      refine q_aload_n (i := 0) (x := 0) dX12_boat_108 rfl 1 rfl ?_
      refine q_iload (i := 5) (x := y5) dX12_boat_109 0 rfl ?_
      refine q_cVi mX12_good [.int y5] (st := []) dX12_boat_111 (svX12_118) ⟨Nat.le_of_ble_eq_true rfl, Nat.le_of_ble_eq_true rfl⟩ zM_0 rfl rfl rfl (Nat.le_of_ble_eq_true rfl) (kX12_good y5 s9) (fun y10 => ?_)
      exact q_ireti (y := (y10.1, y10.2)) dX12_boat_114 rfl rfl
    refine q_aload_n (i := 0) (x := 0) dX12_boat_38 rfl 0 rfl ?_
    refine q_bipush (v := (-2)) dX12_boat_39 (by decide) ?_
    refine q_cVi mX12_refuses [.int (-2)] (st := []) dX12_boat_41 (svX12_114) ⟨Nat.le_of_ble_eq_true rfl, Nat.le_of_ble_eq_true rfl⟩ zM_0 rfl rfl rfl (Nat.le_of_ble_eq_true rfl) (kX12_refuses (-2) σ) (fun y11 => ?_)
    exact q_ireti (y := (y11.1, y11.2)) dX12_boat_44 rfl rfl
  exact q_sub [0] rfl (aX12_boat_b25 σ)
theorem kX12_boat  (p1 : Int32) (p2 : Int32) (p3 : Int32) (p4 : Int32)  (σ : qMem) : qMc wM mX12_boat (ρi) [.ref 0, .int p1, .int p2, .int p3, .int p4] σ (fX12_boat p1 p2 p3 p4 σ) := qMc_of (moX12_boat) (Nat.le_of_ble_eq_true rfl) (aX12_boat p1 p2 p3 p4  σ)

theorem dX12_leg_0 : decode cX12_leg 0 = .ok (.iload_n 2, 1) := by decide +kernel
theorem dX12_leg_1 : decode cX12_leg 1 = .ok (.invokestatic 132, 3) := by decide +kernel
theorem dX12_leg_4 : decode cX12_leg 4 = .ok (.ifCond .eq 18, 3) := by decide +kernel
theorem dX12_leg_7 : decode cX12_leg 7 = .ok (.iload_n 3, 1) := by decide +kernel
theorem dX12_leg_8 : decode cX12_leg 8 = .ok (.invokestatic 135, 3) := by decide +kernel
theorem dX12_leg_11 : decode cX12_leg 11 = .ok (.ifCond .eq 11, 3) := by decide +kernel
theorem dX12_leg_14 : decode cX12_leg 14 = .ok (.iload 4, 2) := by decide +kernel
theorem dX12_leg_16 : decode cX12_leg 16 = .ok (.invokestatic 135, 3) := by decide +kernel
theorem dX12_leg_19 : decode cX12_leg 19 = .ok (.ifCond .ne 9, 3) := by decide +kernel
theorem dX12_leg_22 : decode cX12_leg 22 = .ok (.aload_n 0, 1) := by decide +kernel
theorem dX12_leg_23 : decode cX12_leg 23 = .ok (.iconst (-1), 1) := by decide +kernel
theorem dX12_leg_24 : decode cX12_leg 24 = .ok (.invokevirtual 114, 3) := by decide +kernel
theorem dX12_leg_27 : decode cX12_leg 27 = .ok (.ireturn, 1) := by decide +kernel
theorem dX12_leg_28 : decode cX12_leg 28 = .ok (.iload_n 1, 1) := by decide +kernel
theorem dX12_leg_29 : decode cX12_leg 29 = .ok (.invokestatic 129, 3) := by decide +kernel
theorem dX12_leg_32 : decode cX12_leg 32 = .ok (.ifCond .ne 10, 3) := by decide +kernel
theorem dX12_leg_35 : decode cX12_leg 35 = .ok (.aload_n 0, 1) := by decide +kernel
theorem dX12_leg_36 : decode cX12_leg 36 = .ok (.bipush (-2), 2) := by decide +kernel
theorem dX12_leg_38 : decode cX12_leg 38 = .ok (.invokevirtual 114, 3) := by decide +kernel
theorem dX12_leg_41 : decode cX12_leg 41 = .ok (.ireturn, 1) := by decide +kernel
theorem dX12_leg_42 : decode cX12_leg 42 = .ok (.aload_n 0, 1) := by decide +kernel
theorem dX12_leg_43 : decode cX12_leg 43 = .ok (.iload_n 1, 1) := by decide +kernel
theorem dX12_leg_44 : decode cX12_leg 44 = .ok (.iconst 3, 1) := by decide +kernel
theorem dX12_leg_45 : decode cX12_leg 45 = .ok (.invokevirtual 121, 3) := by decide +kernel
theorem dX12_leg_48 : decode cX12_leg 48 = .ok (.istore 5, 2) := by decide +kernel
theorem dX12_leg_50 : decode cX12_leg 50 = .ok (.iload 5, 2) := by decide +kernel
theorem dX12_leg_52 : decode cX12_leg 52 = .ok (.ifCond .le 24, 3) := by decide +kernel
theorem dX12_leg_55 : decode cX12_leg 55 = .ok (.iload_n 2, 1) := by decide +kernel
theorem dX12_leg_56 : decode cX12_leg 56 = .ok (.aload_n 0, 1) := by decide +kernel
theorem dX12_leg_57 : decode cX12_leg 57 = .ok (.iload_n 1, 1) := by decide +kernel
theorem dX12_leg_58 : decode cX12_leg 58 = .ok (.iload 5, 2) := by decide +kernel
theorem dX12_leg_60 : decode cX12_leg 60 = .ok (.iconst 1, 1) := by decide +kernel
theorem dX12_leg_61 : decode cX12_leg 61 = .ok (.isub, 1) := by decide +kernel
theorem dX12_leg_62 : decode cX12_leg 62 = .ok (.iconst 0, 1) := by decide +kernel
theorem dX12_leg_63 : decode cX12_leg 63 = .ok (.invokevirtual 138, 3) := by decide +kernel
theorem dX12_leg_66 : decode cX12_leg 66 = .ok (.if_icmp .gt 10, 3) := by decide +kernel
theorem dX12_leg_69 : decode cX12_leg 69 = .ok (.aload_n 0, 1) := by decide +kernel
theorem dX12_leg_70 : decode cX12_leg 70 = .ok (.bipush (-3), 2) := by decide +kernel
theorem dX12_leg_72 : decode cX12_leg 72 = .ok (.invokevirtual 114, 3) := by decide +kernel
theorem dX12_leg_75 : decode cX12_leg 75 = .ok (.ireturn, 1) := by decide +kernel
theorem dX12_leg_76 : decode cX12_leg 76 = .ok (.iload 5, 2) := by decide +kernel
theorem dX12_leg_78 : decode cX12_leg 78 = .ok (.bipush 6, 2) := by decide +kernel
theorem dX12_leg_80 : decode cX12_leg 80 = .ok (.if_icmp .ne 10, 3) := by decide +kernel
theorem dX12_leg_83 : decode cX12_leg 83 = .ok (.aload_n 0, 1) := by decide +kernel
theorem dX12_leg_84 : decode cX12_leg 84 = .ok (.bipush (-5), 2) := by decide +kernel
theorem dX12_leg_86 : decode cX12_leg 86 = .ok (.invokevirtual 114, 3) := by decide +kernel
theorem dX12_leg_89 : decode cX12_leg 89 = .ok (.ireturn, 1) := by decide +kernel
theorem dX12_leg_90 : decode cX12_leg 90 = .ok (.iconst 0, 1) := by decide +kernel
theorem dX12_leg_91 : decode cX12_leg 91 = .ok (.bipush 22, 2) := by decide +kernel
theorem dX12_leg_93 : decode cX12_leg 93 = .ok (.iload_n 1, 1) := by decide +kernel
theorem dX12_leg_94 : decode cX12_leg 94 = .ok (.imul, 1) := by decide +kernel
theorem dX12_leg_95 : decode cX12_leg 95 = .ok (.iadd, 1) := by decide +kernel
theorem dX12_leg_96 : decode cX12_leg 96 = .ok (.iconst 4, 1) := by decide +kernel
theorem dX12_leg_97 : decode cX12_leg 97 = .ok (.iadd, 1) := by decide +kernel
theorem dX12_leg_98 : decode cX12_leg 98 = .ok (.iconst 3, 1) := by decide +kernel
theorem dX12_leg_99 : decode cX12_leg 99 = .ok (.iload 5, 2) := by decide +kernel
theorem dX12_leg_101 : decode cX12_leg 101 = .ok (.imul, 1) := by decide +kernel
theorem dX12_leg_102 : decode cX12_leg 102 = .ok (.iadd, 1) := by decide +kernel
theorem dX12_leg_103 : decode cX12_leg 103 = .ok (.istore 6, 2) := by decide +kernel
theorem dX12_leg_105 : decode cX12_leg 105 = .ok (.aload_n 0, 1) := by decide +kernel
theorem dX12_leg_106 : decode cX12_leg 106 = .ok (.getfield 20, 3) := by decide +kernel
theorem dX12_leg_109 : decode cX12_leg 109 = .ok (.iload 6, 2) := by decide +kernel
theorem dX12_leg_111 : decode cX12_leg 111 = .ok (.iload_n 2, 1) := by decide +kernel
theorem dX12_leg_112 : decode cX12_leg 112 = .ok (.iastore, 1) := by decide +kernel
theorem dX12_leg_113 : decode cX12_leg 113 = .ok (.aload_n 0, 1) := by decide +kernel
theorem dX12_leg_114 : decode cX12_leg 114 = .ok (.getfield 20, 3) := by decide +kernel
theorem dX12_leg_117 : decode cX12_leg 117 = .ok (.iload 6, 2) := by decide +kernel
theorem dX12_leg_119 : decode cX12_leg 119 = .ok (.iconst 1, 1) := by decide +kernel
theorem dX12_leg_120 : decode cX12_leg 120 = .ok (.iadd, 1) := by decide +kernel
theorem dX12_leg_121 : decode cX12_leg 121 = .ok (.iload_n 3, 1) := by decide +kernel
theorem dX12_leg_122 : decode cX12_leg 122 = .ok (.iastore, 1) := by decide +kernel
theorem dX12_leg_123 : decode cX12_leg 123 = .ok (.aload_n 0, 1) := by decide +kernel
theorem dX12_leg_124 : decode cX12_leg 124 = .ok (.getfield 20, 3) := by decide +kernel
theorem dX12_leg_127 : decode cX12_leg 127 = .ok (.iload 6, 2) := by decide +kernel
theorem dX12_leg_129 : decode cX12_leg 129 = .ok (.iconst 2, 1) := by decide +kernel
theorem dX12_leg_130 : decode cX12_leg 130 = .ok (.iadd, 1) := by decide +kernel
theorem dX12_leg_131 : decode cX12_leg 131 = .ok (.iload 4, 2) := by decide +kernel
theorem dX12_leg_133 : decode cX12_leg 133 = .ok (.iastore, 1) := by decide +kernel
theorem dX12_leg_134 : decode cX12_leg 134 = .ok (.aload_n 0, 1) := by decide +kernel
theorem dX12_leg_135 : decode cX12_leg 135 = .ok (.getfield 20, 3) := by decide +kernel
theorem dX12_leg_138 : decode cX12_leg 138 = .ok (.iconst 0, 1) := by decide +kernel
theorem dX12_leg_139 : decode cX12_leg 139 = .ok (.bipush 22, 2) := by decide +kernel
theorem dX12_leg_141 : decode cX12_leg 141 = .ok (.iload_n 1, 1) := by decide +kernel
theorem dX12_leg_142 : decode cX12_leg 142 = .ok (.imul, 1) := by decide +kernel
theorem dX12_leg_143 : decode cX12_leg 143 = .ok (.iadd, 1) := by decide +kernel
theorem dX12_leg_144 : decode cX12_leg 144 = .ok (.iconst 3, 1) := by decide +kernel
theorem dX12_leg_145 : decode cX12_leg 145 = .ok (.iadd, 1) := by decide +kernel
theorem dX12_leg_146 : decode cX12_leg 146 = .ok (.dup2, 1) := by decide +kernel
theorem dX12_leg_147 : decode cX12_leg 147 = .ok (.iaload, 1) := by decide +kernel
theorem dX12_leg_148 : decode cX12_leg 148 = .ok (.iconst 1, 1) := by decide +kernel
theorem dX12_leg_149 : decode cX12_leg 149 = .ok (.iadd, 1) := by decide +kernel
theorem dX12_leg_150 : decode cX12_leg 150 = .ok (.iastore, 1) := by decide +kernel
theorem dX12_leg_151 : decode cX12_leg 151 = .ok (.aload_n 0, 1) := by decide +kernel
theorem dX12_leg_152 : decode cX12_leg 152 = .ok (.iload 5, 2) := by decide +kernel
theorem dX12_leg_154 : decode cX12_leg 154 = .ok (.iconst 1, 1) := by decide +kernel
theorem dX12_leg_155 : decode cX12_leg 155 = .ok (.iadd, 1) := by decide +kernel
theorem dX12_leg_156 : decode cX12_leg 156 = .ok (.invokevirtual 118, 3) := by decide +kernel
theorem dX12_leg_159 : decode cX12_leg 159 = .ok (.ireturn, 1) := by decide +kernel
def fX12_leg_b22 (σ : qMem) : Option (Int32 × qMem) :=
  ((fX12_refuses (-1) σ).bind fun y16 => (some (y16.1, y16.2)))
set_option maxRecDepth 20000 in
set_option maxHeartbeats 4000000 in
theorem aX12_leg_b22 (σ : qMem) : qAt wM mX12_leg (ρi) 22 [(0, .ref 0)] [] σ (fX12_leg_b22 σ) := by
  unfold fX12_leg_b22
  refine q_aload_n (i := 0) (x := 0) dX12_leg_22 rfl 0 rfl ?_
  refine q_iconst (v := (-1)) dX12_leg_23 (by decide) ?_
  refine q_cVi mX12_refuses [.int (-1)] (st := []) dX12_leg_24 (svX12_114) ⟨Nat.le_of_ble_eq_true rfl, Nat.le_of_ble_eq_true rfl⟩ zM_0 rfl rfl rfl (Nat.le_of_ble_eq_true rfl) (kX12_refuses (-1) σ) (fun y16 => ?_)
  exact q_ireti (y := (y16.1, y16.2)) dX12_leg_27 rfl rfl

def fX12_leg_b76 (v1 : Int32) (v2 : Int32) (v3 : Int32) (v4 : Int32) (v5 : Int32) (σ : qMem) : Option (Int32 × qMem) :=
  (if v5 = 6 then ((fX12_refuses (-5) σ).bind fun y15 => (some (y15.1, y15.2))) else (nmI (((0 + (22 * v1)) + 4) + (3 * v5)) fun x9 => (if ck x9 1112 = true then (nmM (si σ 2 x9.toNatClampNeg v2) fun s10 => (if ck (x9 + 1) 1112 = true then (nmM (si s10 2 (x9 + 1).toNatClampNeg v3) fun s11 => (if ck (x9 + 2) 1112 = true then (nmM (si s11 2 (x9 + 2).toNatClampNeg v4) fun s12 => (if ck ((0 + (22 * v1)) + 3) 1112 = true then (if ck ((0 + (22 * v1)) + 3) 1112 = true then (nmM (si s12 2 ((0 + (22 * v1)) + 3).toNatClampNeg ((gi s12 2 ((0 + (22 * v1)) + 3).toNatClampNeg) + 1)) fun s13 => ((fX12_good (v5 + 1) s13).bind fun y14 => (some (y14.1, y14.2)))) else none) else none)) else none)) else none)) else none)))
set_option maxRecDepth 20000 in
set_option maxHeartbeats 4000000 in
theorem aX12_leg_b76 (v1 : Int32) (v2 : Int32) (v3 : Int32) (v4 : Int32) (v5 : Int32) (σ : qMem) : qAt wM mX12_leg (ρi) 76 [(0, .ref 0), (1, .int v1), (2, .int v2), (3, .int v3), (4, .int v4), (5, .int v5)] [] σ (fX12_leg_b76 v1 v2 v3 v4 v5 σ) := by
  unfold fX12_leg_b76
  refine q_iload (i := 5) (x := v5) dX12_leg_76 5 rfl ?_
  refine q_bipush (v := 6) dX12_leg_78 (by decide) ?_
  refine q_icmp_ne (tgt := 90) dX12_leg_80 (by decide) ?_ ?_
  · refine q_iconst (v := 0) dX12_leg_90 (by decide) ?_
    refine q_bipush (v := 22) dX12_leg_91 (by decide) ?_
    refine q_iload_n (i := 1) (x := v1) dX12_leg_93 rfl 1 rfl ?_
    refine q_imul dX12_leg_94 ?_
    refine q_iadd dX12_leg_95 ?_
    refine q_iconst (v := 4) dX12_leg_96 (by decide) ?_
    refine q_iadd dX12_leg_97 ?_
    refine q_iconst (v := 3) dX12_leg_98 (by decide) ?_
    refine q_iload (i := 5) (x := v5) dX12_leg_99 5 rfl ?_
    refine q_imul dX12_leg_101 ?_
    refine q_iadd dX12_leg_102 ?_
    refine q_nmI (fun x9 => ?_)
    refine q_istore (i := 6) (L' := [(6, .int x9), (0, .ref 0), (1, .int v1), (2, .int v2), (3, .int v3), (4, .int v4), (5, .int v5)]) dX12_leg_103 (Nat.le_of_ble_eq_true rfl) rfl ?_
    refine q_aload_n (i := 0) (x := 0) dX12_leg_105 rfl 1 rfl ?_
    refine q_getr (t := 2) dX12_leg_106 foX12_20 zM_0 rfl ?_
    refine q_iload (i := 6) (x := x9) dX12_leg_109 0 rfl ?_
    refine q_iload_n (i := 2) (x := v2) dX12_leg_111 rfl 3 rfl ?_
    refine q_iast dX12_leg_112 zM_2 ?_
    refine q_nmM (fun s10 => ?_)
    refine q_aload_n (i := 0) (x := 0) dX12_leg_113 rfl 1 rfl ?_
    refine q_getr (t := 2) dX12_leg_114 foX12_20 zM_0 rfl ?_
    refine q_iload (i := 6) (x := x9) dX12_leg_117 0 rfl ?_
    refine q_iconst (v := 1) dX12_leg_119 (by decide) ?_
    refine q_iadd dX12_leg_120 ?_
    refine q_iload_n (i := 3) (x := v3) dX12_leg_121 rfl 4 rfl ?_
    refine q_iast dX12_leg_122 zM_2 ?_
    refine q_nmM (fun s11 => ?_)
    refine q_aload_n (i := 0) (x := 0) dX12_leg_123 rfl 1 rfl ?_
    refine q_getr (t := 2) dX12_leg_124 foX12_20 zM_0 rfl ?_
    refine q_iload (i := 6) (x := x9) dX12_leg_127 0 rfl ?_
    refine q_iconst (v := 2) dX12_leg_129 (by decide) ?_
    refine q_iadd dX12_leg_130 ?_
    refine q_iload (i := 4) (x := v4) dX12_leg_131 5 rfl ?_
    refine q_iast dX12_leg_133 zM_2 ?_
    refine q_nmM (fun s12 => ?_)
    refine q_aload_n (i := 0) (x := 0) dX12_leg_134 rfl 1 rfl ?_
    refine q_getr (t := 2) dX12_leg_135 foX12_20 zM_0 rfl ?_
    refine q_iconst (v := 0) dX12_leg_138 (by decide) ?_
    refine q_bipush (v := 22) dX12_leg_139 (by decide) ?_
    refine q_iload_n (i := 1) (x := v1) dX12_leg_141 rfl 2 rfl ?_
    refine q_imul dX12_leg_142 ?_
    refine q_iadd dX12_leg_143 ?_
    refine q_iconst (v := 3) dX12_leg_144 (by decide) ?_
    refine q_iadd dX12_leg_145 ?_
    refine q_dup2 dX12_leg_146 rfl rfl ?_
    refine q_iald dX12_leg_147 zM_2 ?_
    refine q_iconst (v := 1) dX12_leg_148 (by decide) ?_
    refine q_iadd dX12_leg_149 ?_
    refine q_iast dX12_leg_150 zM_2 ?_
    refine q_nmM (fun s13 => ?_)
    refine q_aload_n (i := 0) (x := 0) dX12_leg_151 rfl 1 rfl ?_
    refine q_iload (i := 5) (x := v5) dX12_leg_152 6 rfl ?_
    refine q_iconst (v := 1) dX12_leg_154 (by decide) ?_
    refine q_iadd dX12_leg_155 ?_
    refine q_cVi mX12_good [.int (v5 + 1)] (st := []) dX12_leg_156 (svX12_118) ⟨Nat.le_of_ble_eq_true rfl, Nat.le_of_ble_eq_true rfl⟩ zM_0 rfl rfl rfl (Nat.le_of_ble_eq_true rfl) (kX12_good (v5 + 1) s13) (fun y14 => ?_)
    exact q_ireti (y := (y14.1, y14.2)) dX12_leg_159 rfl rfl
  refine q_aload_n (i := 0) (x := 0) dX12_leg_83 rfl 0 rfl ?_
  refine q_bipush (v := (-5)) dX12_leg_84 (by decide) ?_
  refine q_cVi mX12_refuses [.int (-5)] (st := []) dX12_leg_86 (svX12_114) ⟨Nat.le_of_ble_eq_true rfl, Nat.le_of_ble_eq_true rfl⟩ zM_0 rfl rfl rfl (Nat.le_of_ble_eq_true rfl) (kX12_refuses (-5) σ) (fun y15 => ?_)
  exact q_ireti (y := (y15.1, y15.2)) dX12_leg_89 rfl rfl

def fX12_leg (p1 : Int32) (p2 : Int32) (p3 : Int32) (p4 : Int32) (σ : qMem) : Option (Int32 × qMem) :=
  ((fX12_isBell p2).bind fun y1 => (if y1 = 0 then (fX12_leg_b22 σ) else ((fX12_isPace p3).bind fun y2 => (if y2 = 0 then (fX12_leg_b22 σ) else ((fX12_isPace p4).bind fun y3 => (if y3 = 0 then (fX12_leg_b22 σ) else ((fX12_isBoat p1).bind fun y4 => (if y4 = 0 then ((fX12_refuses (-2) σ).bind fun y8 => (some (y8.1, y8.2))) else ((fX12_boatOf p1 3 σ).bind fun y5 => (if y5 ≤ 0 then (fX12_leg_b76 p1 p2 p3 p4 y5 σ) else ((fX12_legOf p1 (y5 - 1) 0 σ).bind fun y6 => (if y6 < p2 then (fX12_leg_b76 p1 p2 p3 p4 y5 σ) else ((fX12_refuses (-3) σ).bind fun y7 => (some (y7.1, y7.2)))))))))))))))
set_option maxRecDepth 20000 in
set_option maxHeartbeats 4000000 in
theorem aX12_leg  (p1 : Int32) (p2 : Int32) (p3 : Int32) (p4 : Int32)  (σ : qMem) : qAt wM mX12_leg (ρi) 0 [(0, .ref 0), (1, .int p1), (2, .int p2), (3, .int p3), (4, .int p4)] [] σ (fX12_leg p1 p2 p3 p4 σ) := by
  unfold fX12_leg
  refine q_iload_n (i := 2) (x := p2) dX12_leg_0 rfl 2 rfl ?_
  refine q_cSp mX12_isBell [.int p2] (st := []) dX12_leg_1 (ssX12_132) ⟨Nat.le_of_ble_eq_true rfl, Nat.le_of_ble_eq_true rfl⟩ rfl rfl (Nat.le_of_ble_eq_true rfl) (kX12_isBell p2 σ) (fun y1 => ?_)
  refine q_if_eq (tgt := 22) dX12_leg_4 (by decide) ?_ ?_
  · exact q_sub [0] rfl (aX12_leg_b22 σ)
  refine q_iload_n (i := 3) (x := p3) dX12_leg_7 rfl 3 rfl ?_
  refine q_cSp mX12_isPace [.int p3] (st := []) dX12_leg_8 (ssX12_135) ⟨Nat.le_of_ble_eq_true rfl, Nat.le_of_ble_eq_true rfl⟩ rfl rfl (Nat.le_of_ble_eq_true rfl) (kX12_isPace p3 σ) (fun y2 => ?_)
  refine q_if_eq (tgt := 22) dX12_leg_11 (by decide) ?_ ?_
  · exact q_sub [0] rfl (aX12_leg_b22 σ)
  refine q_iload (i := 4) (x := p4) dX12_leg_14 4 rfl ?_
  refine q_cSp mX12_isPace [.int p4] (st := []) dX12_leg_16 (ssX12_135) ⟨Nat.le_of_ble_eq_true rfl, Nat.le_of_ble_eq_true rfl⟩ rfl rfl (Nat.le_of_ble_eq_true rfl) (kX12_isPace p4 σ) (fun y3 => ?_)
  refine q_if_ne (tgt := 28) dX12_leg_19 (by decide) ?_ ?_
  · refine q_iload_n (i := 1) (x := p1) dX12_leg_28 rfl 1 rfl ?_
    refine q_cSp mX12_isBoat [.int p1] (st := []) dX12_leg_29 (ssX12_129) ⟨Nat.le_of_ble_eq_true rfl, Nat.le_of_ble_eq_true rfl⟩ rfl rfl (Nat.le_of_ble_eq_true rfl) (kX12_isBoat p1 σ) (fun y4 => ?_)
    refine q_if_ne (tgt := 42) dX12_leg_32 (by decide) ?_ ?_
    · refine q_aload_n (i := 0) (x := 0) dX12_leg_42 rfl 0 rfl ?_
      refine q_iload_n (i := 1) (x := p1) dX12_leg_43 rfl 1 rfl ?_
      refine q_iconst (v := 3) dX12_leg_44 (by decide) ?_
      refine q_cVp mX12_boatOf [.int p1, .int 3] (st := []) dX12_leg_45 (svX12_121) ⟨Nat.le_of_ble_eq_true rfl, Nat.le_of_ble_eq_true rfl⟩ zM_0 rfl rfl rfl (Nat.le_of_ble_eq_true rfl) (kX12_boatOf p1 3 σ) (fun y5 => ?_)
      refine q_istore (i := 5) (L' := [(5, .int y5), (0, .ref 0), (1, .int p1), (2, .int p2), (3, .int p3), (4, .int p4)]) dX12_leg_48 (Nat.le_of_ble_eq_true rfl) rfl ?_
      refine q_iload (i := 5) (x := y5) dX12_leg_50 0 rfl ?_
      refine q_if_le (tgt := 76) dX12_leg_52 (by decide) ?_ ?_
      · exact q_sub [1, 2, 3, 4, 5, 0] rfl (aX12_leg_b76 p1 p2 p3 p4 y5 σ)
      refine q_iload_n (i := 2) (x := p2) dX12_leg_55 rfl 3 rfl ?_
      refine q_aload_n (i := 0) (x := 0) dX12_leg_56 rfl 1 rfl ?_
      refine q_iload_n (i := 1) (x := p1) dX12_leg_57 rfl 2 rfl ?_
      refine q_iload (i := 5) (x := y5) dX12_leg_58 0 rfl ?_
      refine q_iconst (v := 1) dX12_leg_60 (by decide) ?_
      refine q_isub dX12_leg_61 ?_
      refine q_iconst (v := 0) dX12_leg_62 (by decide) ?_
      refine q_cVp mX12_legOf [.int p1, .int (y5 - 1), .int 0] (st := [.int p2]) dX12_leg_63 (svX12_138) ⟨Nat.le_of_ble_eq_true rfl, Nat.le_of_ble_eq_true rfl⟩ zM_0 rfl rfl rfl (Nat.le_of_ble_eq_true rfl) (kX12_legOf p1 (y5 - 1) 0 σ) (fun y6 => ?_)
      refine q_icmp_gt (tgt := 76) dX12_leg_66 (by decide) ?_ ?_
      · exact q_sub [1, 2, 3, 4, 5, 0] rfl (aX12_leg_b76 p1 p2 p3 p4 y5 σ)
      refine q_aload_n (i := 0) (x := 0) dX12_leg_69 rfl 1 rfl ?_
      refine q_bipush (v := (-3)) dX12_leg_70 (by decide) ?_
      refine q_cVi mX12_refuses [.int (-3)] (st := []) dX12_leg_72 (svX12_114) ⟨Nat.le_of_ble_eq_true rfl, Nat.le_of_ble_eq_true rfl⟩ zM_0 rfl rfl rfl (Nat.le_of_ble_eq_true rfl) (kX12_refuses (-3) σ) (fun y7 => ?_)
      exact q_ireti (y := (y7.1, y7.2)) dX12_leg_75 rfl rfl
    refine q_aload_n (i := 0) (x := 0) dX12_leg_35 rfl 0 rfl ?_
    refine q_bipush (v := (-2)) dX12_leg_36 (by decide) ?_
    refine q_cVi mX12_refuses [.int (-2)] (st := []) dX12_leg_38 (svX12_114) ⟨Nat.le_of_ble_eq_true rfl, Nat.le_of_ble_eq_true rfl⟩ zM_0 rfl rfl rfl (Nat.le_of_ble_eq_true rfl) (kX12_refuses (-2) σ) (fun y8 => ?_)
    exact q_ireti (y := (y8.1, y8.2)) dX12_leg_41 rfl rfl
  exact q_sub [0] rfl (aX12_leg_b22 σ)
theorem kX12_leg  (p1 : Int32) (p2 : Int32) (p3 : Int32) (p4 : Int32)  (σ : qMem) : qMc wM mX12_leg (ρi) [.ref 0, .int p1, .int p2, .int p3, .int p4] σ (fX12_leg p1 p2 p3 p4 σ) := qMc_of (moX12_leg) (Nat.le_of_ble_eq_true rfl) (aX12_leg p1 p2 p3 p4  σ)

theorem dX12_at_0 : decode cX12_at 0 = .ok (.aload_n 0, 1) := by decide +kernel
theorem dX12_at_1 : decode cX12_at 1 = .ok (.iload_n 1, 1) := by decide +kernel
theorem dX12_at_2 : decode cX12_at 2 = .ok (.iload_n 3, 1) := by decide +kernel
theorem dX12_at_3 : decode cX12_at 3 = .ok (.invokevirtual 121, 3) := by decide +kernel
theorem dX12_at_6 : decode cX12_at 6 = .ok (.istore 4, 2) := by decide +kernel
theorem dX12_at_8 : decode cX12_at 8 = .ok (.iconst 0, 1) := by decide +kernel
theorem dX12_at_9 : decode cX12_at 9 = .ok (.istore 5, 2) := by decide +kernel
theorem dX12_at_11 : decode cX12_at 11 = .ok (.iload 5, 2) := by decide +kernel
theorem dX12_at_13 : decode cX12_at 13 = .ok (.aload_n 0, 1) := by decide +kernel
theorem dX12_at_14 : decode cX12_at 14 = .ok (.iload_n 1, 1) := by decide +kernel
theorem dX12_at_15 : decode cX12_at 15 = .ok (.iconst 3, 1) := by decide +kernel
theorem dX12_at_16 : decode cX12_at 16 = .ok (.invokevirtual 121, 3) := by decide +kernel
theorem dX12_at_19 : decode cX12_at 19 = .ok (.if_icmp .ge 92, 3) := by decide +kernel
theorem dX12_at_22 : decode cX12_at 22 = .ok (.iload 5, 2) := by decide +kernel
theorem dX12_at_24 : decode cX12_at 24 = .ok (.iconst 1, 1) := by decide +kernel
theorem dX12_at_25 : decode cX12_at 25 = .ok (.iadd, 1) := by decide +kernel
theorem dX12_at_26 : decode cX12_at 26 = .ok (.aload_n 0, 1) := by decide +kernel
theorem dX12_at_27 : decode cX12_at 27 = .ok (.iload_n 1, 1) := by decide +kernel
theorem dX12_at_28 : decode cX12_at 28 = .ok (.iconst 3, 1) := by decide +kernel
theorem dX12_at_29 : decode cX12_at 29 = .ok (.invokevirtual 121, 3) := by decide +kernel
theorem dX12_at_32 : decode cX12_at 32 = .ok (.if_icmp .ge 30, 3) := by decide +kernel
theorem dX12_at_35 : decode cX12_at 35 = .ok (.aload_n 0, 1) := by decide +kernel
theorem dX12_at_36 : decode cX12_at 36 = .ok (.iload_n 1, 1) := by decide +kernel
theorem dX12_at_37 : decode cX12_at 37 = .ok (.iload 5, 2) := by decide +kernel
theorem dX12_at_39 : decode cX12_at 39 = .ok (.iconst 1, 1) := by decide +kernel
theorem dX12_at_40 : decode cX12_at 40 = .ok (.iadd, 1) := by decide +kernel
theorem dX12_at_41 : decode cX12_at 41 = .ok (.iconst 0, 1) := by decide +kernel
theorem dX12_at_42 : decode cX12_at 42 = .ok (.invokevirtual 138, 3) := by decide +kernel
theorem dX12_at_45 : decode cX12_at 45 = .ok (.iload_n 2, 1) := by decide +kernel
theorem dX12_at_46 : decode cX12_at 46 = .ok (.if_icmp .ge 16, 3) := by decide +kernel
theorem dX12_at_49 : decode cX12_at 49 = .ok (.aload_n 0, 1) := by decide +kernel
theorem dX12_at_50 : decode cX12_at 50 = .ok (.iload_n 1, 1) := by decide +kernel
theorem dX12_at_51 : decode cX12_at 51 = .ok (.iload 5, 2) := by decide +kernel
theorem dX12_at_53 : decode cX12_at 53 = .ok (.iconst 1, 1) := by decide +kernel
theorem dX12_at_54 : decode cX12_at 54 = .ok (.iadd, 1) := by decide +kernel
theorem dX12_at_55 : decode cX12_at 55 = .ok (.iconst 0, 1) := by decide +kernel
theorem dX12_at_56 : decode cX12_at 56 = .ok (.invokevirtual 138, 3) := by decide +kernel
theorem dX12_at_59 : decode cX12_at 59 = .ok (.goto 4, 3) := by decide +kernel
theorem dX12_at_62 : decode cX12_at 62 = .ok (.iload_n 2, 1) := by decide +kernel
theorem dX12_at_63 : decode cX12_at 63 = .ok (.istore 6, 2) := by decide +kernel
theorem dX12_at_65 : decode cX12_at 65 = .ok (.iload 6, 2) := by decide +kernel
theorem dX12_at_67 : decode cX12_at 67 = .ok (.aload_n 0, 1) := by decide +kernel
theorem dX12_at_68 : decode cX12_at 68 = .ok (.iload_n 1, 1) := by decide +kernel
theorem dX12_at_69 : decode cX12_at 69 = .ok (.iload 5, 2) := by decide +kernel
theorem dX12_at_71 : decode cX12_at 71 = .ok (.iconst 0, 1) := by decide +kernel
theorem dX12_at_72 : decode cX12_at 72 = .ok (.invokevirtual 138, 3) := by decide +kernel
theorem dX12_at_75 : decode cX12_at 75 = .ok (.if_icmp .le 30, 3) := by decide +kernel
theorem dX12_at_78 : decode cX12_at 78 = .ok (.iload 4, 2) := by decide +kernel
theorem dX12_at_80 : decode cX12_at 80 = .ok (.iload 6, 2) := by decide +kernel
theorem dX12_at_82 : decode cX12_at 82 = .ok (.aload_n 0, 1) := by decide +kernel
theorem dX12_at_83 : decode cX12_at 83 = .ok (.iload_n 1, 1) := by decide +kernel
theorem dX12_at_84 : decode cX12_at 84 = .ok (.iload 5, 2) := by decide +kernel
theorem dX12_at_86 : decode cX12_at 86 = .ok (.iconst 0, 1) := by decide +kernel
theorem dX12_at_87 : decode cX12_at 87 = .ok (.invokevirtual 138, 3) := by decide +kernel
theorem dX12_at_90 : decode cX12_at 90 = .ok (.isub, 1) := by decide +kernel
theorem dX12_at_91 : decode cX12_at 91 = .ok (.aload_n 0, 1) := by decide +kernel
theorem dX12_at_92 : decode cX12_at 92 = .ok (.iload_n 1, 1) := by decide +kernel
theorem dX12_at_93 : decode cX12_at 93 = .ok (.iload 5, 2) := by decide +kernel
theorem dX12_at_95 : decode cX12_at 95 = .ok (.iconst 1, 1) := by decide +kernel
theorem dX12_at_96 : decode cX12_at 96 = .ok (.iload_n 3, 1) := by decide +kernel
theorem dX12_at_97 : decode cX12_at 97 = .ok (.iadd, 1) := by decide +kernel
theorem dX12_at_98 : decode cX12_at 98 = .ok (.invokevirtual 138, 3) := by decide +kernel
theorem dX12_at_101 : decode cX12_at 101 = .ok (.imul, 1) := by decide +kernel
theorem dX12_at_102 : decode cX12_at 102 = .ok (.iadd, 1) := by decide +kernel
theorem dX12_at_103 : decode cX12_at 103 = .ok (.istore 4, 2) := by decide +kernel
theorem dX12_at_105 : decode cX12_at 105 = .ok (.iinc 5 1, 3) := by decide +kernel
theorem dX12_at_108 : decode cX12_at 108 = .ok (.goto (-97), 3) := by decide +kernel
theorem dX12_at_111 : decode cX12_at 111 = .ok (.iload 4, 2) := by decide +kernel
theorem dX12_at_113 : decode cX12_at 113 = .ok (.ireturn, 1) := by decide +kernel
def fX12_at_b105 (N : Nat) (c11 : Int32 → Int32 → Int32 → Int32 → Int32 → Option Int32) (v1 : Int32) (v2 : Int32) (v3 : Int32) (v4 : Int32) (v5 : Int32) (σ : qMem) : Option Int32 :=
  (c11 v1 v2 v3 v4 (v5 + 1))
set_option maxRecDepth 20000 in
set_option maxHeartbeats 4000000 in
theorem aX12_at_b105 (N : Nat) (σ : qMem) (c11 : Int32 → Int32 → Int32 → Int32 → Int32 → Option Int32) (hc11 : ∀ (v1 : Int32) (v2 : Int32) (v3 : Int32) (v4 : Int32) (v5 : Int32) , qAt wM mX12_at (ρp σ) 11 [(0, .ref 0), (1, .int v1), (2, .int v2), (3, .int v3), (4, .int v4), (5, .int v5)] [] σ (c11 v1 v2 v3 v4 v5)) (v1 : Int32) (v2 : Int32) (v3 : Int32) (v4 : Int32) (v5 : Int32) : qAt wM mX12_at (ρp σ) 105 [(0, .ref 0), (1, .int v1), (2, .int v2), (3, .int v3), (4, .int v4), (5, .int v5)] [] σ (fX12_at_b105 N c11 v1 v2 v3 v4 v5 σ) := by
  unfold fX12_at_b105
  refine q_iinc (i := 5) (x := v5) (v := (v5 + 1)) (L' := [(5, .int (v5 + 1)), (0, .ref 0), (1, .int v1), (2, .int v2), (3, .int v3), (4, .int v4)]) dX12_at_105 5 rfl (q_cst v5 (by decide)) (Nat.le_of_ble_eq_true rfl) rfl ?_
  refine q_goto (tgt := 11) dX12_at_108 (by decide) ?_
  exact q_sub [1, 2, 3, 4, 5, 0] rfl (hc11 v1 v2 v3 v4 (v5 + 1))

def fX12_at_b63 (N : Nat) (c11 : Int32 → Int32 → Int32 → Int32 → Int32 → Option Int32) (v1 : Int32) (v2 : Int32) (v3 : Int32) (v4 : Int32) (v5 : Int32) (u0 : Int32) (σ : qMem) : Option Int32 :=
  ((fX12_legOf v1 v5 0 σ).bind fun y6 => (if u0 ≤ y6 then (fX12_at_b105 N c11 v1 v2 v3 v4 v5 σ) else ((fX12_legOf v1 v5 0 σ).bind fun y7 => ((fX12_legOf v1 v5 (1 + v3) σ).bind fun y8 => (fX12_at_b105 N c11 v1 v2 v3 (v4 + ((u0 - y7) * y8)) v5 σ)))))
set_option maxRecDepth 20000 in
set_option maxHeartbeats 4000000 in
theorem aX12_at_b63 (N : Nat) (σ : qMem) (c11 : Int32 → Int32 → Int32 → Int32 → Int32 → Option Int32) (hc11 : ∀ (v1 : Int32) (v2 : Int32) (v3 : Int32) (v4 : Int32) (v5 : Int32) , qAt wM mX12_at (ρp σ) 11 [(0, .ref 0), (1, .int v1), (2, .int v2), (3, .int v3), (4, .int v4), (5, .int v5)] [] σ (c11 v1 v2 v3 v4 v5)) (v1 : Int32) (v2 : Int32) (v3 : Int32) (v4 : Int32) (v5 : Int32) (u0 : Int32) : qAt wM mX12_at (ρp σ) 63 [(0, .ref 0), (1, .int v1), (2, .int v2), (3, .int v3), (4, .int v4), (5, .int v5)] [.int u0] σ (fX12_at_b63 N c11 v1 v2 v3 v4 v5 u0 σ) := by
  unfold fX12_at_b63
  refine q_istore (i := 6) (L' := [(6, .int u0), (0, .ref 0), (1, .int v1), (2, .int v2), (3, .int v3), (4, .int v4), (5, .int v5)]) dX12_at_63 (Nat.le_of_ble_eq_true rfl) rfl ?_
  refine q_iload (i := 6) (x := u0) dX12_at_65 0 rfl ?_
  refine q_aload_n (i := 0) (x := 0) dX12_at_67 rfl 1 rfl ?_
  refine q_iload_n (i := 1) (x := v1) dX12_at_68 rfl 2 rfl ?_
  refine q_iload (i := 5) (x := v5) dX12_at_69 6 rfl ?_
  refine q_iconst (v := 0) dX12_at_71 (by decide) ?_
  refine q_cVp mX12_legOf [.int v1, .int v5, .int 0] (st := [.int u0]) dX12_at_72 (svX12_138) ⟨Nat.le_of_ble_eq_true rfl, Nat.le_of_ble_eq_true rfl⟩ zM_0 rfl rfl rfl (Nat.le_of_ble_eq_true rfl) (kX12_legOf v1 v5 0 σ) (fun y6 => ?_)
  refine q_icmp_le (tgt := 105) dX12_at_75 (by decide) ?_ ?_
  · exact q_sub [1, 2, 3, 4, 5, 6] rfl (aX12_at_b105 N σ c11 hc11 v1 v2 v3 v4 v5)
  refine q_iload (i := 4) (x := v4) dX12_at_78 5 rfl ?_
  refine q_iload (i := 6) (x := u0) dX12_at_80 0 rfl ?_
  refine q_aload_n (i := 0) (x := 0) dX12_at_82 rfl 1 rfl ?_
  refine q_iload_n (i := 1) (x := v1) dX12_at_83 rfl 2 rfl ?_
  refine q_iload (i := 5) (x := v5) dX12_at_84 6 rfl ?_
  refine q_iconst (v := 0) dX12_at_86 (by decide) ?_
  refine q_cVp mX12_legOf [.int v1, .int v5, .int 0] (st := [.int u0, .int v4]) dX12_at_87 (svX12_138) ⟨Nat.le_of_ble_eq_true rfl, Nat.le_of_ble_eq_true rfl⟩ zM_0 rfl rfl rfl (Nat.le_of_ble_eq_true rfl) (kX12_legOf v1 v5 0 σ) (fun y7 => ?_)
  refine q_isub dX12_at_90 ?_
  refine q_aload_n (i := 0) (x := 0) dX12_at_91 rfl 1 rfl ?_
  refine q_iload_n (i := 1) (x := v1) dX12_at_92 rfl 2 rfl ?_
  refine q_iload (i := 5) (x := v5) dX12_at_93 6 rfl ?_
  refine q_iconst (v := 1) dX12_at_95 (by decide) ?_
  refine q_iload_n (i := 3) (x := v3) dX12_at_96 rfl 4 rfl ?_
  refine q_iadd dX12_at_97 ?_
  refine q_cVp mX12_legOf [.int v1, .int v5, .int (1 + v3)] (st := [.int (u0 - y7), .int v4]) dX12_at_98 (svX12_138) ⟨Nat.le_of_ble_eq_true rfl, Nat.le_of_ble_eq_true rfl⟩ zM_0 rfl rfl rfl (Nat.le_of_ble_eq_true rfl) (kX12_legOf v1 v5 (1 + v3) σ) (fun y8 => ?_)
  refine q_imul dX12_at_101 ?_
  refine q_iadd dX12_at_102 ?_
  refine q_istore (i := 4) (L' := [(4, .int (v4 + ((u0 - y7) * y8))), (6, .int u0), (0, .ref 0), (1, .int v1), (2, .int v2), (3, .int v3), (5, .int v5)]) dX12_at_103 (Nat.le_of_ble_eq_true rfl) rfl ?_
  exact q_sub [2, 3, 4, 5, 0, 6] rfl (aX12_at_b105 N σ c11 hc11 v1 v2 v3 (v4 + ((u0 - y7) * y8)) v5)

def fX12_at_b62 (N : Nat) (c11 : Int32 → Int32 → Int32 → Int32 → Int32 → Option Int32) (v1 : Int32) (v2 : Int32) (v3 : Int32) (v4 : Int32) (v5 : Int32) (σ : qMem) : Option Int32 :=
  (fX12_at_b63 N c11 v1 v2 v3 v4 v5 v2 σ)
set_option maxRecDepth 20000 in
set_option maxHeartbeats 4000000 in
theorem aX12_at_b62 (N : Nat) (σ : qMem) (c11 : Int32 → Int32 → Int32 → Int32 → Int32 → Option Int32) (hc11 : ∀ (v1 : Int32) (v2 : Int32) (v3 : Int32) (v4 : Int32) (v5 : Int32) , qAt wM mX12_at (ρp σ) 11 [(0, .ref 0), (1, .int v1), (2, .int v2), (3, .int v3), (4, .int v4), (5, .int v5)] [] σ (c11 v1 v2 v3 v4 v5)) (v1 : Int32) (v2 : Int32) (v3 : Int32) (v4 : Int32) (v5 : Int32) : qAt wM mX12_at (ρp σ) 62 [(0, .ref 0), (1, .int v1), (2, .int v2), (3, .int v3), (4, .int v4), (5, .int v5)] [] σ (fX12_at_b62 N c11 v1 v2 v3 v4 v5 σ) := by
  unfold fX12_at_b62
  refine q_iload_n (i := 2) (x := v2) dX12_at_62 rfl 2 rfl ?_
  exact q_sub [0, 1, 2, 3, 4, 5] rfl (aX12_at_b63 N σ c11 hc11 v1 v2 v3 v4 v5 v2)

def fX12_at_s11 (N : Nat) (c11 : Int32 → Int32 → Int32 → Int32 → Int32 → Option Int32) (v1 : Int32) (v2 : Int32) (v3 : Int32) (v4 : Int32) (v5 : Int32) (σ : qMem) : Option Int32 :=
  ((fX12_boatOf v1 3 σ).bind fun y2 => (if y2 ≤ v5 then (some v4) else ((fX12_boatOf v1 3 σ).bind fun y3 => (if y3 ≤ (v5 + 1) then (fX12_at_b62 N c11 v1 v2 v3 v4 v5 σ) else ((fX12_legOf v1 (v5 + 1) 0 σ).bind fun y4 => (if v2 ≤ y4 then (fX12_at_b62 N c11 v1 v2 v3 v4 v5 σ) else ((fX12_legOf v1 (v5 + 1) 0 σ).bind fun y5 => (fX12_at_b63 N c11 v1 v2 v3 v4 v5 y5 σ))))))))
set_option maxRecDepth 20000 in
set_option maxHeartbeats 4000000 in
theorem aX12_at_s11 (N : Nat) (σ : qMem) (c11 : Int32 → Int32 → Int32 → Int32 → Int32 → Option Int32) (hc11 : ∀ (v1 : Int32) (v2 : Int32) (v3 : Int32) (v4 : Int32) (v5 : Int32) , qAt wM mX12_at (ρp σ) 11 [(0, .ref 0), (1, .int v1), (2, .int v2), (3, .int v3), (4, .int v4), (5, .int v5)] [] σ (c11 v1 v2 v3 v4 v5)) (v1 : Int32) (v2 : Int32) (v3 : Int32) (v4 : Int32) (v5 : Int32) : qAt wM mX12_at (ρp σ) 11 [(0, .ref 0), (1, .int v1), (2, .int v2), (3, .int v3), (4, .int v4), (5, .int v5)] [] σ (fX12_at_s11 N c11 v1 v2 v3 v4 v5 σ) := by
  unfold fX12_at_s11
  refine q_iload (i := 5) (x := v5) dX12_at_11 5 rfl ?_
  refine q_aload_n (i := 0) (x := 0) dX12_at_13 rfl 0 rfl ?_
  refine q_iload_n (i := 1) (x := v1) dX12_at_14 rfl 1 rfl ?_
  refine q_iconst (v := 3) dX12_at_15 (by decide) ?_
  refine q_cVp mX12_boatOf [.int v1, .int 3] (st := [.int v5]) dX12_at_16 (svX12_121) ⟨Nat.le_of_ble_eq_true rfl, Nat.le_of_ble_eq_true rfl⟩ zM_0 rfl rfl rfl (Nat.le_of_ble_eq_true rfl) (kX12_boatOf v1 3 σ) (fun y2 => ?_)
  refine q_icmp_ge (tgt := 111) dX12_at_19 (by decide) ?_ ?_
  · refine q_iload (i := 4) (x := v4) dX12_at_111 4 rfl ?_
    exact q_ireti (y := v4) dX12_at_113 rfl rfl
  refine q_iload (i := 5) (x := v5) dX12_at_22 5 rfl ?_
  refine q_iconst (v := 1) dX12_at_24 (by decide) ?_
  refine q_iadd dX12_at_25 ?_
  refine q_aload_n (i := 0) (x := 0) dX12_at_26 rfl 0 rfl ?_
  refine q_iload_n (i := 1) (x := v1) dX12_at_27 rfl 1 rfl ?_
  refine q_iconst (v := 3) dX12_at_28 (by decide) ?_
  refine q_cVp mX12_boatOf [.int v1, .int 3] (st := [.int (v5 + 1)]) dX12_at_29 (svX12_121) ⟨Nat.le_of_ble_eq_true rfl, Nat.le_of_ble_eq_true rfl⟩ zM_0 rfl rfl rfl (Nat.le_of_ble_eq_true rfl) (kX12_boatOf v1 3 σ) (fun y3 => ?_)
  refine q_icmp_ge (tgt := 62) dX12_at_32 (by decide) ?_ ?_
  · exact q_sub [0, 1, 2, 3, 4, 5] rfl (aX12_at_b62 N σ c11 hc11 v1 v2 v3 v4 v5)
  refine q_aload_n (i := 0) (x := 0) dX12_at_35 rfl 0 rfl ?_
  refine q_iload_n (i := 1) (x := v1) dX12_at_36 rfl 1 rfl ?_
  refine q_iload (i := 5) (x := v5) dX12_at_37 5 rfl ?_
  refine q_iconst (v := 1) dX12_at_39 (by decide) ?_
  refine q_iadd dX12_at_40 ?_
  refine q_iconst (v := 0) dX12_at_41 (by decide) ?_
  refine q_cVp mX12_legOf [.int v1, .int (v5 + 1), .int 0] (st := []) dX12_at_42 (svX12_138) ⟨Nat.le_of_ble_eq_true rfl, Nat.le_of_ble_eq_true rfl⟩ zM_0 rfl rfl rfl (Nat.le_of_ble_eq_true rfl) (kX12_legOf v1 (v5 + 1) 0 σ) (fun y4 => ?_)
  refine q_iload_n (i := 2) (x := v2) dX12_at_45 rfl 2 rfl ?_
  refine q_icmp_ge (tgt := 62) dX12_at_46 (by decide) ?_ ?_
  · exact q_sub [0, 1, 2, 3, 4, 5] rfl (aX12_at_b62 N σ c11 hc11 v1 v2 v3 v4 v5)
  refine q_aload_n (i := 0) (x := 0) dX12_at_49 rfl 0 rfl ?_
  refine q_iload_n (i := 1) (x := v1) dX12_at_50 rfl 1 rfl ?_
  refine q_iload (i := 5) (x := v5) dX12_at_51 5 rfl ?_
  refine q_iconst (v := 1) dX12_at_53 (by decide) ?_
  refine q_iadd dX12_at_54 ?_
  refine q_iconst (v := 0) dX12_at_55 (by decide) ?_
  refine q_cVp mX12_legOf [.int v1, .int (v5 + 1), .int 0] (st := []) dX12_at_56 (svX12_138) ⟨Nat.le_of_ble_eq_true rfl, Nat.le_of_ble_eq_true rfl⟩ zM_0 rfl rfl rfl (Nat.le_of_ble_eq_true rfl) (kX12_legOf v1 (v5 + 1) 0 σ) (fun y5 => ?_)
  refine q_goto (tgt := 63) dX12_at_59 (by decide) ?_
  exact q_sub [0, 1, 2, 3, 4, 5] rfl (aX12_at_b63 N σ c11 hc11 v1 v2 v3 v4 v5 y5)
def fX12_at_l11 (N : Nat) (σ : qMem) : Nat → Int32 → Int32 → Int32 → Int32 → Int32 → Option Int32
  | 0 => fun _ _ _ _ _ => none
  | n + 1 => fun v1 v2 v3 v4 v5 => fX12_at_s11 N (fX12_at_l11 N σ n) v1 v2 v3 v4 v5 σ
theorem aX12_at_l11 (N : Nat) (σ : qMem) : ∀ (n : Nat) (v1 : Int32) (v2 : Int32) (v3 : Int32) (v4 : Int32) (v5 : Int32), qAt wM mX12_at (ρp σ) 11 [(0, .ref 0), (1, .int v1), (2, .int v2), (3, .int v3), (4, .int v4), (5, .int v5)] [] σ (fX12_at_l11 N σ n v1 v2 v3 v4 v5) := by
  intro n
  induction n with
  | zero => intro v1 v2 v3 v4 v5; exact q_none
  | succ n ih => intro v1 v2 v3 v4 v5; exact aX12_at_s11 N σ (fX12_at_l11 N σ n) ih v1 v2 v3 v4 v5

def fX12_at (N : Nat) (p1 : Int32) (p2 : Int32) (p3 : Int32) (σ : qMem) : Option Int32 :=
  ((fX12_boatOf p1 p3 σ).bind fun y1 => (fX12_at_l11 N σ N p1 p2 p3 y1 0))
set_option maxRecDepth 20000 in
set_option maxHeartbeats 4000000 in
theorem aX12_at  (N : Nat) (p1 : Int32) (p2 : Int32) (p3 : Int32)  (σ : qMem) : qAt wM mX12_at (ρp σ) 0 [(0, .ref 0), (1, .int p1), (2, .int p2), (3, .int p3)] [] σ (fX12_at N p1 p2 p3 σ) := by
  unfold fX12_at
  refine q_aload_n (i := 0) (x := 0) dX12_at_0 rfl 0 rfl ?_
  refine q_iload_n (i := 1) (x := p1) dX12_at_1 rfl 1 rfl ?_
  refine q_iload_n (i := 3) (x := p3) dX12_at_2 rfl 3 rfl ?_
  refine q_cVp mX12_boatOf [.int p1, .int p3] (st := []) dX12_at_3 (svX12_121) ⟨Nat.le_of_ble_eq_true rfl, Nat.le_of_ble_eq_true rfl⟩ zM_0 rfl rfl rfl (Nat.le_of_ble_eq_true rfl) (kX12_boatOf p1 p3 σ) (fun y1 => ?_)
  refine q_istore (i := 4) (L' := [(4, .int y1), (0, .ref 0), (1, .int p1), (2, .int p2), (3, .int p3)]) dX12_at_6 (Nat.le_of_ble_eq_true rfl) rfl ?_
  refine q_iconst (v := 0) dX12_at_8 (by decide) ?_
  refine q_istore (i := 5) (L' := [(5, .int 0), (4, .int y1), (0, .ref 0), (1, .int p1), (2, .int p2), (3, .int p3)]) dX12_at_9 (Nat.le_of_ble_eq_true rfl) rfl ?_
  exact q_sub [2, 3, 4, 5, 1, 0] rfl (aX12_at_l11 N σ N p1 p2 p3 y1 0)
theorem kX12_at  (N : Nat) (p1 : Int32) (p2 : Int32) (p3 : Int32)  (σ : qMem) : qMc wM mX12_at (ρp σ) [.ref 0, .int p1, .int p2, .int p3] σ (fX12_at N p1 p2 p3 σ) := qMc_of (moX12_at) (Nat.le_of_ble_eq_true rfl) (aX12_at N p1 p2 p3  σ)

theorem dX12_speedOf_0 : decode cX12_speedOf 0 = .ok (.iconst 0, 1) := by decide +kernel
theorem dX12_speedOf_1 : decode cX12_speedOf 1 = .ok (.istore_n 3, 1) := by decide +kernel
theorem dX12_speedOf_2 : decode cX12_speedOf 2 = .ok (.iconst 0, 1) := by decide +kernel
theorem dX12_speedOf_3 : decode cX12_speedOf 3 = .ok (.istore 4, 2) := by decide +kernel
theorem dX12_speedOf_5 : decode cX12_speedOf 5 = .ok (.iload 4, 2) := by decide +kernel
theorem dX12_speedOf_7 : decode cX12_speedOf 7 = .ok (.aload_n 0, 1) := by decide +kernel
theorem dX12_speedOf_8 : decode cX12_speedOf 8 = .ok (.iload_n 1, 1) := by decide +kernel
theorem dX12_speedOf_9 : decode cX12_speedOf 9 = .ok (.iconst 3, 1) := by decide +kernel
theorem dX12_speedOf_10 : decode cX12_speedOf 10 = .ok (.invokevirtual 121, 3) := by decide +kernel
theorem dX12_speedOf_13 : decode cX12_speedOf 13 = .ok (.if_icmp .ge 47, 3) := by decide +kernel
theorem dX12_speedOf_16 : decode cX12_speedOf 16 = .ok (.aload_n 0, 1) := by decide +kernel
theorem dX12_speedOf_17 : decode cX12_speedOf 17 = .ok (.iload_n 1, 1) := by decide +kernel
theorem dX12_speedOf_18 : decode cX12_speedOf 18 = .ok (.iload 4, 2) := by decide +kernel
theorem dX12_speedOf_20 : decode cX12_speedOf 20 = .ok (.iconst 0, 1) := by decide +kernel
theorem dX12_speedOf_21 : decode cX12_speedOf 21 = .ok (.invokevirtual 138, 3) := by decide +kernel
theorem dX12_speedOf_24 : decode cX12_speedOf 24 = .ok (.iload_n 2, 1) := by decide +kernel
theorem dX12_speedOf_25 : decode cX12_speedOf 25 = .ok (.if_icmp .gt 29, 3) := by decide +kernel
theorem dX12_speedOf_28 : decode cX12_speedOf 28 = .ok (.aload_n 0, 1) := by decide +kernel
theorem dX12_speedOf_29 : decode cX12_speedOf 29 = .ok (.iload_n 1, 1) := by decide +kernel
theorem dX12_speedOf_30 : decode cX12_speedOf 30 = .ok (.iload 4, 2) := by decide +kernel
theorem dX12_speedOf_32 : decode cX12_speedOf 32 = .ok (.iconst 1, 1) := by decide +kernel
theorem dX12_speedOf_33 : decode cX12_speedOf 33 = .ok (.invokevirtual 138, 3) := by decide +kernel
theorem dX12_speedOf_36 : decode cX12_speedOf 36 = .ok (.invokestatic 142, 3) := by decide +kernel
theorem dX12_speedOf_39 : decode cX12_speedOf 39 = .ok (.aload_n 0, 1) := by decide +kernel
theorem dX12_speedOf_40 : decode cX12_speedOf 40 = .ok (.iload_n 1, 1) := by decide +kernel
theorem dX12_speedOf_41 : decode cX12_speedOf 41 = .ok (.iload 4, 2) := by decide +kernel
theorem dX12_speedOf_43 : decode cX12_speedOf 43 = .ok (.iconst 2, 1) := by decide +kernel
theorem dX12_speedOf_44 : decode cX12_speedOf 44 = .ok (.invokevirtual 138, 3) := by decide +kernel
theorem dX12_speedOf_47 : decode cX12_speedOf 47 = .ok (.invokestatic 142, 3) := by decide +kernel
theorem dX12_speedOf_50 : decode cX12_speedOf 50 = .ok (.invokestatic 145, 3) := by decide +kernel
theorem dX12_speedOf_53 : decode cX12_speedOf 53 = .ok (.istore_n 3, 1) := by decide +kernel
theorem dX12_speedOf_54 : decode cX12_speedOf 54 = .ok (.iinc 4 1, 3) := by decide +kernel
theorem dX12_speedOf_57 : decode cX12_speedOf 57 = .ok (.goto (-52), 3) := by decide +kernel
theorem dX12_speedOf_60 : decode cX12_speedOf 60 = .ok (.iload_n 3, 1) := by decide +kernel
theorem dX12_speedOf_61 : decode cX12_speedOf 61 = .ok (.ireturn, 1) := by decide +kernel
def fX12_speedOf_b54 (N : Nat) (c5 : Int32 → Int32 → Int32 → Int32 → Option Int32) (v1 : Int32) (v2 : Int32) (v3 : Int32) (v4 : Int32) (σ : qMem) : Option Int32 :=
  (c5 v1 v2 v3 (v4 + 1))
set_option maxRecDepth 20000 in
set_option maxHeartbeats 4000000 in
theorem aX12_speedOf_b54 (N : Nat) (σ : qMem) (c5 : Int32 → Int32 → Int32 → Int32 → Option Int32) (hc5 : ∀ (v1 : Int32) (v2 : Int32) (v3 : Int32) (v4 : Int32) , qAt wM mX12_speedOf (ρp σ) 5 [(0, .ref 0), (1, .int v1), (2, .int v2), (3, .int v3), (4, .int v4)] [] σ (c5 v1 v2 v3 v4)) (v1 : Int32) (v2 : Int32) (v3 : Int32) (v4 : Int32) : qAt wM mX12_speedOf (ρp σ) 54 [(0, .ref 0), (1, .int v1), (2, .int v2), (3, .int v3), (4, .int v4)] [] σ (fX12_speedOf_b54 N c5 v1 v2 v3 v4 σ) := by
  unfold fX12_speedOf_b54
  refine q_iinc (i := 4) (x := v4) (v := (v4 + 1)) (L' := [(4, .int (v4 + 1)), (0, .ref 0), (1, .int v1), (2, .int v2), (3, .int v3)]) dX12_speedOf_54 4 rfl (q_cst v4 (by decide)) (Nat.le_of_ble_eq_true rfl) rfl ?_
  refine q_goto (tgt := 5) dX12_speedOf_57 (by decide) ?_
  exact q_sub [1, 2, 3, 4, 0] rfl (hc5 v1 v2 v3 (v4 + 1))

def fX12_speedOf_s5 (N : Nat) (c5 : Int32 → Int32 → Int32 → Int32 → Option Int32) (v1 : Int32) (v2 : Int32) (v3 : Int32) (v4 : Int32) (σ : qMem) : Option Int32 :=
  ((fX12_boatOf v1 3 σ).bind fun y1 => (if y1 ≤ v4 then (some v3) else ((fX12_legOf v1 v4 0 σ).bind fun y2 => (if v2 < y2 then (fX12_speedOf_b54 N c5 v1 v2 v3 v4 σ) else ((fX12_legOf v1 v4 1 σ).bind fun y3 => ((fX12_size y3).bind fun y4 => ((fX12_legOf v1 v4 2 σ).bind fun y5 => ((fX12_size y5).bind fun y6 => ((fX12_more y4 y6).bind fun y7 => (fX12_speedOf_b54 N c5 v1 v2 y7 v4 σ))))))))))
set_option maxRecDepth 20000 in
set_option maxHeartbeats 4000000 in
theorem aX12_speedOf_s5 (N : Nat) (σ : qMem) (c5 : Int32 → Int32 → Int32 → Int32 → Option Int32) (hc5 : ∀ (v1 : Int32) (v2 : Int32) (v3 : Int32) (v4 : Int32) , qAt wM mX12_speedOf (ρp σ) 5 [(0, .ref 0), (1, .int v1), (2, .int v2), (3, .int v3), (4, .int v4)] [] σ (c5 v1 v2 v3 v4)) (v1 : Int32) (v2 : Int32) (v3 : Int32) (v4 : Int32) : qAt wM mX12_speedOf (ρp σ) 5 [(0, .ref 0), (1, .int v1), (2, .int v2), (3, .int v3), (4, .int v4)] [] σ (fX12_speedOf_s5 N c5 v1 v2 v3 v4 σ) := by
  unfold fX12_speedOf_s5
  refine q_iload (i := 4) (x := v4) dX12_speedOf_5 4 rfl ?_
  refine q_aload_n (i := 0) (x := 0) dX12_speedOf_7 rfl 0 rfl ?_
  refine q_iload_n (i := 1) (x := v1) dX12_speedOf_8 rfl 1 rfl ?_
  refine q_iconst (v := 3) dX12_speedOf_9 (by decide) ?_
  refine q_cVp mX12_boatOf [.int v1, .int 3] (st := [.int v4]) dX12_speedOf_10 (svX12_121) ⟨Nat.le_of_ble_eq_true rfl, Nat.le_of_ble_eq_true rfl⟩ zM_0 rfl rfl rfl (Nat.le_of_ble_eq_true rfl) (kX12_boatOf v1 3 σ) (fun y1 => ?_)
  refine q_icmp_ge (tgt := 60) dX12_speedOf_13 (by decide) ?_ ?_
  · refine q_iload_n (i := 3) (x := v3) dX12_speedOf_60 rfl 3 rfl ?_
    exact q_ireti (y := v3) dX12_speedOf_61 rfl rfl
  refine q_aload_n (i := 0) (x := 0) dX12_speedOf_16 rfl 0 rfl ?_
  refine q_iload_n (i := 1) (x := v1) dX12_speedOf_17 rfl 1 rfl ?_
  refine q_iload (i := 4) (x := v4) dX12_speedOf_18 4 rfl ?_
  refine q_iconst (v := 0) dX12_speedOf_20 (by decide) ?_
  refine q_cVp mX12_legOf [.int v1, .int v4, .int 0] (st := []) dX12_speedOf_21 (svX12_138) ⟨Nat.le_of_ble_eq_true rfl, Nat.le_of_ble_eq_true rfl⟩ zM_0 rfl rfl rfl (Nat.le_of_ble_eq_true rfl) (kX12_legOf v1 v4 0 σ) (fun y2 => ?_)
  refine q_iload_n (i := 2) (x := v2) dX12_speedOf_24 rfl 2 rfl ?_
  refine q_icmp_gt (tgt := 54) dX12_speedOf_25 (by decide) ?_ ?_
  · exact q_sub [0, 1, 2, 3, 4] rfl (aX12_speedOf_b54 N σ c5 hc5 v1 v2 v3 v4)
  refine q_aload_n (i := 0) (x := 0) dX12_speedOf_28 rfl 0 rfl ?_
  refine q_iload_n (i := 1) (x := v1) dX12_speedOf_29 rfl 1 rfl ?_
  refine q_iload (i := 4) (x := v4) dX12_speedOf_30 4 rfl ?_
  refine q_iconst (v := 1) dX12_speedOf_32 (by decide) ?_
  refine q_cVp mX12_legOf [.int v1, .int v4, .int 1] (st := []) dX12_speedOf_33 (svX12_138) ⟨Nat.le_of_ble_eq_true rfl, Nat.le_of_ble_eq_true rfl⟩ zM_0 rfl rfl rfl (Nat.le_of_ble_eq_true rfl) (kX12_legOf v1 v4 1 σ) (fun y3 => ?_)
  refine q_cSp mX12_size [.int y3] (st := []) dX12_speedOf_36 (ssX12_142) ⟨Nat.le_of_ble_eq_true rfl, Nat.le_of_ble_eq_true rfl⟩ rfl rfl (Nat.le_of_ble_eq_true rfl) (kX12_size y3 σ) (fun y4 => ?_)
  refine q_aload_n (i := 0) (x := 0) dX12_speedOf_39 rfl 0 rfl ?_
  refine q_iload_n (i := 1) (x := v1) dX12_speedOf_40 rfl 1 rfl ?_
  refine q_iload (i := 4) (x := v4) dX12_speedOf_41 4 rfl ?_
  refine q_iconst (v := 2) dX12_speedOf_43 (by decide) ?_
  refine q_cVp mX12_legOf [.int v1, .int v4, .int 2] (st := [.int y4]) dX12_speedOf_44 (svX12_138) ⟨Nat.le_of_ble_eq_true rfl, Nat.le_of_ble_eq_true rfl⟩ zM_0 rfl rfl rfl (Nat.le_of_ble_eq_true rfl) (kX12_legOf v1 v4 2 σ) (fun y5 => ?_)
  refine q_cSp mX12_size [.int y5] (st := [.int y4]) dX12_speedOf_47 (ssX12_142) ⟨Nat.le_of_ble_eq_true rfl, Nat.le_of_ble_eq_true rfl⟩ rfl rfl (Nat.le_of_ble_eq_true rfl) (kX12_size y5 σ) (fun y6 => ?_)
  refine q_cSp mX12_more [.int y4, .int y6] (st := []) dX12_speedOf_50 (ssX12_145) ⟨Nat.le_of_ble_eq_true rfl, Nat.le_of_ble_eq_true rfl⟩ rfl rfl (Nat.le_of_ble_eq_true rfl) (kX12_more y4 y6 σ) (fun y7 => ?_)
  refine q_istore_n (i := 3) (L' := [(3, .int y7), (0, .ref 0), (1, .int v1), (2, .int v2), (4, .int v4)]) dX12_speedOf_53 rfl (Nat.le_of_ble_eq_true rfl) rfl ?_
  exact q_sub [1, 2, 3, 0, 4] rfl (aX12_speedOf_b54 N σ c5 hc5 v1 v2 y7 v4)
def fX12_speedOf_l5 (N : Nat) (σ : qMem) : Nat → Int32 → Int32 → Int32 → Int32 → Option Int32
  | 0 => fun _ _ _ _ => none
  | n + 1 => fun v1 v2 v3 v4 => fX12_speedOf_s5 N (fX12_speedOf_l5 N σ n) v1 v2 v3 v4 σ
theorem aX12_speedOf_l5 (N : Nat) (σ : qMem) : ∀ (n : Nat) (v1 : Int32) (v2 : Int32) (v3 : Int32) (v4 : Int32), qAt wM mX12_speedOf (ρp σ) 5 [(0, .ref 0), (1, .int v1), (2, .int v2), (3, .int v3), (4, .int v4)] [] σ (fX12_speedOf_l5 N σ n v1 v2 v3 v4) := by
  intro n
  induction n with
  | zero => intro v1 v2 v3 v4; exact q_none
  | succ n ih => intro v1 v2 v3 v4; exact aX12_speedOf_s5 N σ (fX12_speedOf_l5 N σ n) ih v1 v2 v3 v4

def fX12_speedOf (N : Nat) (p1 : Int32) (p2 : Int32) (σ : qMem) : Option Int32 :=
  (fX12_speedOf_l5 N σ N p1 p2 0 0)
set_option maxRecDepth 20000 in
set_option maxHeartbeats 4000000 in
theorem aX12_speedOf  (N : Nat) (p1 : Int32) (p2 : Int32)  (σ : qMem) : qAt wM mX12_speedOf (ρp σ) 0 [(0, .ref 0), (1, .int p1), (2, .int p2)] [] σ (fX12_speedOf N p1 p2 σ) := by
  unfold fX12_speedOf
  refine q_iconst (v := 0) dX12_speedOf_0 (by decide) ?_
  refine q_istore_n (i := 3) (L' := [(3, .int 0), (0, .ref 0), (1, .int p1), (2, .int p2)]) dX12_speedOf_1 rfl (Nat.le_of_ble_eq_true rfl) rfl ?_
  refine q_iconst (v := 0) dX12_speedOf_2 (by decide) ?_
  refine q_istore (i := 4) (L' := [(4, .int 0), (3, .int 0), (0, .ref 0), (1, .int p1), (2, .int p2)]) dX12_speedOf_3 (Nat.le_of_ble_eq_true rfl) rfl ?_
  exact q_sub [2, 3, 4, 1, 0] rfl (aX12_speedOf_l5 N σ N p1 p2 0 0)
theorem kX12_speedOf  (N : Nat) (p1 : Int32) (p2 : Int32)  (σ : qMem) : qMc wM mX12_speedOf (ρp σ) [.ref 0, .int p1, .int p2] σ (fX12_speedOf N p1 p2 σ) := qMc_of (moX12_speedOf) (Nat.le_of_ble_eq_true rfl) (aX12_speedOf N p1 p2  σ)

theorem dX12_where_0 : decode cX12_where 0 = .ok (.iload_n 1, 1) := by decide +kernel
theorem dX12_where_1 : decode cX12_where 1 = .ok (.invokestatic 129, 3) := by decide +kernel
theorem dX12_where_4 : decode cX12_where 4 = .ok (.ifCond .eq 19, 3) := by decide +kernel
theorem dX12_where_7 : decode cX12_where 7 = .ok (.iload_n 2, 1) := by decide +kernel
theorem dX12_where_8 : decode cX12_where 8 = .ok (.invokestatic 132, 3) := by decide +kernel
theorem dX12_where_11 : decode cX12_where 11 = .ok (.ifCond .eq 12, 3) := by decide +kernel
theorem dX12_where_14 : decode cX12_where 14 = .ok (.iload_n 3, 1) := by decide +kernel
theorem dX12_where_15 : decode cX12_where 15 = .ok (.iconst 0, 1) := by decide +kernel
theorem dX12_where_16 : decode cX12_where 16 = .ok (.iconst 2, 1) := by decide +kernel
theorem dX12_where_17 : decode cX12_where 17 = .ok (.invokestatic 110, 3) := by decide +kernel
theorem dX12_where_20 : decode cX12_where 20 = .ok (.ifCond .ne 7, 3) := by decide +kernel
theorem dX12_where_23 : decode cX12_where 23 = .ok (.sipush (-1000), 3) := by decide +kernel
theorem dX12_where_26 : decode cX12_where 26 = .ok (.ireturn, 1) := by decide +kernel
theorem dX12_where_27 : decode cX12_where 27 = .ok (.iload_n 3, 1) := by decide +kernel
theorem dX12_where_28 : decode cX12_where 28 = .ok (.iconst 2, 1) := by decide +kernel
theorem dX12_where_29 : decode cX12_where 29 = .ok (.if_icmp .ne 12, 3) := by decide +kernel
theorem dX12_where_32 : decode cX12_where 32 = .ok (.aload_n 0, 1) := by decide +kernel
theorem dX12_where_33 : decode cX12_where 33 = .ok (.iload_n 1, 1) := by decide +kernel
theorem dX12_where_34 : decode cX12_where 34 = .ok (.iload_n 2, 1) := by decide +kernel
theorem dX12_where_35 : decode cX12_where 35 = .ok (.invokevirtual 148, 3) := by decide +kernel
theorem dX12_where_38 : decode cX12_where 38 = .ok (.goto 10, 3) := by decide +kernel
theorem dX12_where_41 : decode cX12_where 41 = .ok (.aload_n 0, 1) := by decide +kernel
theorem dX12_where_42 : decode cX12_where 42 = .ok (.iload_n 1, 1) := by decide +kernel
theorem dX12_where_43 : decode cX12_where 43 = .ok (.iload_n 2, 1) := by decide +kernel
theorem dX12_where_44 : decode cX12_where 44 = .ok (.iload_n 3, 1) := by decide +kernel
theorem dX12_where_45 : decode cX12_where 45 = .ok (.invokevirtual 151, 3) := by decide +kernel
theorem dX12_where_48 : decode cX12_where 48 = .ok (.ireturn, 1) := by decide +kernel

def fX12_where (N : Nat) (p1 : Int32) (p2 : Int32) (p3 : Int32) (σ : qMem) : Option Int32 :=
  ((fX12_isBoat p1).bind fun y1 => (if y1 = 0 then (some (-1000)) else ((fX12_isBell p2).bind fun y2 => (if y2 = 0 then (some (-1000)) else ((fX12_in p3 0 2).bind fun y3 => (if y3 = 0 then (some (-1000)) else (if p3 = 2 then ((fX12_speedOf N p1 p2 σ).bind fun y5 => (some y5)) else ((fX12_at N p1 p2 p3 σ).bind fun y4 => (some y4)))))))))
set_option maxRecDepth 20000 in
set_option maxHeartbeats 4000000 in
theorem aX12_where  (N : Nat) (p1 : Int32) (p2 : Int32) (p3 : Int32)  (σ : qMem) : qAt wM mX12_where (ρp σ) 0 [(0, .ref 0), (1, .int p1), (2, .int p2), (3, .int p3)] [] σ (fX12_where N p1 p2 p3 σ) := by
  unfold fX12_where
  refine q_iload_n (i := 1) (x := p1) dX12_where_0 rfl 1 rfl ?_
  refine q_cSp mX12_isBoat [.int p1] (st := []) dX12_where_1 (ssX12_129) ⟨Nat.le_of_ble_eq_true rfl, Nat.le_of_ble_eq_true rfl⟩ rfl rfl (Nat.le_of_ble_eq_true rfl) (kX12_isBoat p1 σ) (fun y1 => ?_)
  refine q_if_eq (tgt := 23) dX12_where_4 (by decide) ?_ ?_
  · refine q_sipush (v := (-1000)) dX12_where_23 (by decide) ?_
    exact q_ireti (y := (-1000)) dX12_where_26 rfl rfl
  refine q_iload_n (i := 2) (x := p2) dX12_where_7 rfl 2 rfl ?_
  refine q_cSp mX12_isBell [.int p2] (st := []) dX12_where_8 (ssX12_132) ⟨Nat.le_of_ble_eq_true rfl, Nat.le_of_ble_eq_true rfl⟩ rfl rfl (Nat.le_of_ble_eq_true rfl) (kX12_isBell p2 σ) (fun y2 => ?_)
  refine q_if_eq (tgt := 23) dX12_where_11 (by decide) ?_ ?_
  · refine q_sipush (v := (-1000)) dX12_where_23 (by decide) ?_
    exact q_ireti (y := (-1000)) dX12_where_26 rfl rfl
  refine q_iload_n (i := 3) (x := p3) dX12_where_14 rfl 3 rfl ?_
  refine q_iconst (v := 0) dX12_where_15 (by decide) ?_
  refine q_iconst (v := 2) dX12_where_16 (by decide) ?_
  refine q_cSp mX12_in [.int p3, .int 0, .int 2] (st := []) dX12_where_17 (ssX12_110) ⟨Nat.le_of_ble_eq_true rfl, Nat.le_of_ble_eq_true rfl⟩ rfl rfl (Nat.le_of_ble_eq_true rfl) (kX12_in p3 0 2 σ) (fun y3 => ?_)
  refine q_if_ne (tgt := 27) dX12_where_20 (by decide) ?_ ?_
  · refine q_iload_n (i := 3) (x := p3) dX12_where_27 rfl 3 rfl ?_
    refine q_iconst (v := 2) dX12_where_28 (by decide) ?_
    refine q_icmp_ne (tgt := 41) dX12_where_29 (by decide) ?_ ?_
    · refine q_aload_n (i := 0) (x := 0) dX12_where_41 rfl 0 rfl ?_
      refine q_iload_n (i := 1) (x := p1) dX12_where_42 rfl 1 rfl ?_
      refine q_iload_n (i := 2) (x := p2) dX12_where_43 rfl 2 rfl ?_
      refine q_iload_n (i := 3) (x := p3) dX12_where_44 rfl 3 rfl ?_
      refine q_cVp mX12_at [.int p1, .int p2, .int p3] (st := []) dX12_where_45 (svX12_151) ⟨Nat.le_of_ble_eq_true rfl, Nat.le_of_ble_eq_true rfl⟩ zM_0 rfl rfl rfl (Nat.le_of_ble_eq_true rfl) (kX12_at N p1 p2 p3 σ) (fun y4 => ?_)
      exact q_ireti (y := y4) dX12_where_48 rfl rfl
    refine q_aload_n (i := 0) (x := 0) dX12_where_32 rfl 0 rfl ?_
    refine q_iload_n (i := 1) (x := p1) dX12_where_33 rfl 1 rfl ?_
    refine q_iload_n (i := 2) (x := p2) dX12_where_34 rfl 2 rfl ?_
    refine q_cVp mX12_speedOf [.int p1, .int p2] (st := []) dX12_where_35 (svX12_148) ⟨Nat.le_of_ble_eq_true rfl, Nat.le_of_ble_eq_true rfl⟩ zM_0 rfl rfl rfl (Nat.le_of_ble_eq_true rfl) (kX12_speedOf N p1 p2 σ) (fun y5 => ?_)
    refine q_goto (tgt := 48) dX12_where_38 (by decide) ?_
    exact q_ireti (y := y5) dX12_where_48 rfl rfl
  refine q_sipush (v := (-1000)) dX12_where_23 (by decide) ?_
  exact q_ireti (y := (-1000)) dX12_where_26 rfl rfl
theorem kX12_where  (N : Nat) (p1 : Int32) (p2 : Int32) (p3 : Int32)  (σ : qMem) : qMc wM mX12_where (ρp σ) [.ref 0, .int p1, .int p2, .int p3] σ (fX12_where N p1 p2 p3 σ) := qMc_of (moX12_where) (Nat.le_of_ble_eq_true rfl) (aX12_where N p1 p2 p3  σ)

theorem dX12_terms_0 : decode cX12_terms 0 = .ok (.iload_n 1, 1) := by decide +kernel
theorem dX12_terms_1 : decode cX12_terms 1 = .ok (.iconst 0, 1) := by decide +kernel
theorem dX12_terms_2 : decode cX12_terms 2 = .ok (.iconst 5, 1) := by decide +kernel
theorem dX12_terms_3 : decode cX12_terms 3 = .ok (.invokestatic 110, 3) := by decide +kernel
theorem dX12_terms_6 : decode cX12_terms 6 = .ok (.ifCond .eq 60, 3) := by decide +kernel
theorem dX12_terms_9 : decode cX12_terms 9 = .ok (.iload_n 2, 1) := by decide +kernel
theorem dX12_terms_10 : decode cX12_terms 10 = .ok (.iload_n 1, 1) := by decide +kernel
theorem dX12_terms_11 : decode cX12_terms 11 = .ok (.iconst 4, 1) := by decide +kernel
theorem dX12_terms_12 : decode cX12_terms 12 = .ok (.if_icmp .ne 7, 3) := by decide +kernel
theorem dX12_terms_15 : decode cX12_terms 15 = .ok (.iconst 1, 1) := by decide +kernel
theorem dX12_terms_16 : decode cX12_terms 16 = .ok (.goto 4, 3) := by decide +kernel
theorem dX12_terms_19 : decode cX12_terms 19 = .ok (.iconst 0, 1) := by decide +kernel
theorem dX12_terms_20 : decode cX12_terms 20 = .ok (.iload_n 1, 1) := by decide +kernel
theorem dX12_terms_21 : decode cX12_terms 21 = .ok (.ifCond .ne 8, 3) := by decide +kernel
theorem dX12_terms_24 : decode cX12_terms 24 = .ok (.bipush 20, 2) := by decide +kernel
theorem dX12_terms_26 : decode cX12_terms 26 = .ok (.goto 34, 3) := by decide +kernel
theorem dX12_terms_29 : decode cX12_terms 29 = .ok (.iload_n 1, 1) := by decide +kernel
theorem dX12_terms_30 : decode cX12_terms 30 = .ok (.iconst 2, 1) := by decide +kernel
theorem dX12_terms_31 : decode cX12_terms 31 = .ok (.if_icmp .ne 7, 3) := by decide +kernel
theorem dX12_terms_34 : decode cX12_terms 34 = .ok (.iconst 3, 1) := by decide +kernel
theorem dX12_terms_35 : decode cX12_terms 35 = .ok (.goto 25, 3) := by decide +kernel
theorem dX12_terms_38 : decode cX12_terms 38 = .ok (.iload_n 1, 1) := by decide +kernel
theorem dX12_terms_39 : decode cX12_terms 39 = .ok (.iconst 4, 1) := by decide +kernel
theorem dX12_terms_40 : decode cX12_terms 40 = .ok (.if_icmp .ne 8, 3) := by decide +kernel
theorem dX12_terms_43 : decode cX12_terms 43 = .ok (.bipush 23, 2) := by decide +kernel
theorem dX12_terms_45 : decode cX12_terms 45 = .ok (.goto 15, 3) := by decide +kernel
theorem dX12_terms_48 : decode cX12_terms 48 = .ok (.iload_n 1, 1) := by decide +kernel
theorem dX12_terms_49 : decode cX12_terms 49 = .ok (.iconst 5, 1) := by decide +kernel
theorem dX12_terms_50 : decode cX12_terms 50 = .ok (.if_icmp .ne 8, 3) := by decide +kernel
theorem dX12_terms_53 : decode cX12_terms 53 = .ok (.bipush 40, 2) := by decide +kernel
theorem dX12_terms_55 : decode cX12_terms 55 = .ok (.goto 5, 3) := by decide +kernel
theorem dX12_terms_58 : decode cX12_terms 58 = .ok (.bipush 9, 2) := by decide +kernel
theorem dX12_terms_60 : decode cX12_terms 60 = .ok (.invokestatic 110, 3) := by decide +kernel
theorem dX12_terms_63 : decode cX12_terms 63 = .ok (.ifCond .ne 9, 3) := by decide +kernel
theorem dX12_terms_66 : decode cX12_terms 66 = .ok (.aload_n 0, 1) := by decide +kernel
theorem dX12_terms_67 : decode cX12_terms 67 = .ok (.iconst (-1), 1) := by decide +kernel
theorem dX12_terms_68 : decode cX12_terms 68 = .ok (.invokevirtual 114, 3) := by decide +kernel
theorem dX12_terms_71 : decode cX12_terms 71 = .ok (.ireturn, 1) := by decide +kernel
theorem dX12_terms_72 : decode cX12_terms 72 = .ok (.aload_n 0, 1) := by decide +kernel
theorem dX12_terms_73 : decode cX12_terms 73 = .ok (.iload_n 1, 1) := by decide +kernel
theorem dX12_terms_74 : decode cX12_terms 74 = .ok (.invokevirtual 154, 3) := by decide +kernel
theorem dX12_terms_77 : decode cX12_terms 77 = .ok (.istore_n 3, 1) := by decide +kernel
theorem dX12_terms_78 : decode cX12_terms 78 = .ok (.aload_n 0, 1) := by decide +kernel
theorem dX12_terms_79 : decode cX12_terms 79 = .ok (.getfield 20, 3) := by decide +kernel
theorem dX12_terms_82 : decode cX12_terms 82 = .ok (.bipush 44, 2) := by decide +kernel
theorem dX12_terms_84 : decode cX12_terms 84 = .ok (.iload_n 1, 1) := by decide +kernel
theorem dX12_terms_85 : decode cX12_terms 85 = .ok (.iadd, 1) := by decide +kernel
theorem dX12_terms_86 : decode cX12_terms 86 = .ok (.iload_n 2, 1) := by decide +kernel
theorem dX12_terms_87 : decode cX12_terms 87 = .ok (.iastore, 1) := by decide +kernel
theorem dX12_terms_88 : decode cX12_terms 88 = .ok (.aload_n 0, 1) := by decide +kernel
theorem dX12_terms_89 : decode cX12_terms 89 = .ok (.iload_n 3, 1) := by decide +kernel
theorem dX12_terms_90 : decode cX12_terms 90 = .ok (.invokevirtual 118, 3) := by decide +kernel
theorem dX12_terms_93 : decode cX12_terms 93 = .ok (.ireturn, 1) := by decide +kernel
def fX12_terms_b66 (σ : qMem) : Option (Int32 × qMem) :=
  ((fX12_refuses (-1) σ).bind fun y6 => (some (y6.1, y6.2)))
set_option maxRecDepth 20000 in
set_option maxHeartbeats 4000000 in
theorem aX12_terms_b66 (σ : qMem) : qAt wM mX12_terms (ρi) 66 [(0, .ref 0)] [] σ (fX12_terms_b66 σ) := by
  unfold fX12_terms_b66
  refine q_aload_n (i := 0) (x := 0) dX12_terms_66 rfl 0 rfl ?_
  refine q_iconst (v := (-1)) dX12_terms_67 (by decide) ?_
  refine q_cVi mX12_refuses [.int (-1)] (st := []) dX12_terms_68 (svX12_114) ⟨Nat.le_of_ble_eq_true rfl, Nat.le_of_ble_eq_true rfl⟩ zM_0 rfl rfl rfl (Nat.le_of_ble_eq_true rfl) (kX12_refuses (-1) σ) (fun y6 => ?_)
  exact q_ireti (y := (y6.1, y6.2)) dX12_terms_71 rfl rfl

def fX12_terms_b60 (v1 : Int32) (v2 : Int32) (u0 : Int32) (u1 : Int32) (u2 : Int32) (σ : qMem) : Option (Int32 × qMem) :=
  ((fX12_in u0 u1 u2).bind fun y2 => (if y2 = 0 then (fX12_terms_b66 σ) else ((fX12_term v1 σ).bind fun y3 => (if ck (44 + v1) 1112 = true then (nmM (si σ 2 (44 + v1).toNatClampNeg v2) fun s4 => ((fX12_good y3 s4).bind fun y5 => (some (y5.1, y5.2)))) else none))))
set_option maxRecDepth 20000 in
set_option maxHeartbeats 4000000 in
theorem aX12_terms_b60 (v1 : Int32) (v2 : Int32) (u0 : Int32) (u1 : Int32) (u2 : Int32) (σ : qMem) : qAt wM mX12_terms (ρi) 60 [(0, .ref 0), (1, .int v1), (2, .int v2)] [.int u2, .int u1, .int u0] σ (fX12_terms_b60 v1 v2 u0 u1 u2 σ) := by
  unfold fX12_terms_b60
  refine q_cSp mX12_in [.int u0, .int u1, .int u2] (st := []) dX12_terms_60 (ssX12_110) ⟨Nat.le_of_ble_eq_true rfl, Nat.le_of_ble_eq_true rfl⟩ rfl rfl (Nat.le_of_ble_eq_true rfl) (kX12_in u0 u1 u2 σ) (fun y2 => ?_)
  refine q_if_ne (tgt := 72) dX12_terms_63 (by decide) ?_ ?_
  · refine q_aload_n (i := 0) (x := 0) dX12_terms_72 rfl 0 rfl ?_
    refine q_iload_n (i := 1) (x := v1) dX12_terms_73 rfl 1 rfl ?_
    refine q_cVp mX12_term [.int v1] (st := []) dX12_terms_74 (svX12_154) ⟨Nat.le_of_ble_eq_true rfl, Nat.le_of_ble_eq_true rfl⟩ zM_0 rfl rfl rfl (Nat.le_of_ble_eq_true rfl) (kX12_term v1 σ) (fun y3 => ?_)
    refine q_istore_n (i := 3) (L' := [(3, .int y3), (0, .ref 0), (1, .int v1), (2, .int v2)]) dX12_terms_77 rfl (Nat.le_of_ble_eq_true rfl) rfl ?_
    refine q_aload_n (i := 0) (x := 0) dX12_terms_78 rfl 1 rfl ?_
    refine q_getr (t := 2) dX12_terms_79 foX12_20 zM_0 rfl ?_
    refine q_bipush (v := 44) dX12_terms_82 (by decide) ?_
    refine q_iload_n (i := 1) (x := v1) dX12_terms_84 rfl 2 rfl ?_
    refine q_iadd dX12_terms_85 ?_
    refine q_iload_n (i := 2) (x := v2) dX12_terms_86 rfl 3 rfl ?_
    refine q_iast dX12_terms_87 zM_2 ?_
    refine q_nmM (fun s4 => ?_)
    refine q_aload_n (i := 0) (x := 0) dX12_terms_88 rfl 1 rfl ?_
    refine q_iload_n (i := 3) (x := y3) dX12_terms_89 rfl 0 rfl ?_
    refine q_cVi mX12_good [.int y3] (st := []) dX12_terms_90 (svX12_118) ⟨Nat.le_of_ble_eq_true rfl, Nat.le_of_ble_eq_true rfl⟩ zM_0 rfl rfl rfl (Nat.le_of_ble_eq_true rfl) (kX12_good y3 s4) (fun y5 => ?_)
    exact q_ireti (y := (y5.1, y5.2)) dX12_terms_93 rfl rfl
  exact q_sub [0] rfl (aX12_terms_b66 σ)

def fX12_terms_b20 (v1 : Int32) (v2 : Int32) (u0 : Int32) (u1 : Int32) (σ : qMem) : Option (Int32 × qMem) :=
  (if v1 = 0 then (fX12_terms_b60 v1 v2 u0 u1 20 σ) else (if v1 = 2 then (fX12_terms_b60 v1 v2 u0 u1 3 σ) else (if v1 = 4 then (fX12_terms_b60 v1 v2 u0 u1 23 σ) else (if v1 = 5 then (fX12_terms_b60 v1 v2 u0 u1 40 σ) else (fX12_terms_b60 v1 v2 u0 u1 9 σ)))))
set_option maxRecDepth 20000 in
set_option maxHeartbeats 4000000 in
theorem aX12_terms_b20 (v1 : Int32) (v2 : Int32) (u0 : Int32) (u1 : Int32) (σ : qMem) : qAt wM mX12_terms (ρi) 20 [(0, .ref 0), (1, .int v1), (2, .int v2)] [.int u1, .int u0] σ (fX12_terms_b20 v1 v2 u0 u1 σ) := by
  unfold fX12_terms_b20
  refine q_iload_n (i := 1) (x := v1) dX12_terms_20 rfl 1 rfl ?_
  refine q_if_ne (tgt := 29) dX12_terms_21 (by decide) ?_ ?_
  · refine q_iload_n (i := 1) (x := v1) dX12_terms_29 rfl 1 rfl ?_
    refine q_iconst (v := 2) dX12_terms_30 (by decide) ?_
    refine q_icmp_ne (tgt := 38) dX12_terms_31 (by decide) ?_ ?_
    · refine q_iload_n (i := 1) (x := v1) dX12_terms_38 rfl 1 rfl ?_
      refine q_iconst (v := 4) dX12_terms_39 (by decide) ?_
      refine q_icmp_ne (tgt := 48) dX12_terms_40 (by decide) ?_ ?_
      · refine q_iload_n (i := 1) (x := v1) dX12_terms_48 rfl 1 rfl ?_
        refine q_iconst (v := 5) dX12_terms_49 (by decide) ?_
        refine q_icmp_ne (tgt := 58) dX12_terms_50 (by decide) ?_ ?_
        · refine q_bipush (v := 9) dX12_terms_58 (by decide) ?_
          exact q_sub [0, 1, 2] rfl (aX12_terms_b60 v1 v2 u0 u1 9 σ)
        refine q_bipush (v := 40) dX12_terms_53 (by decide) ?_
        refine q_goto (tgt := 60) dX12_terms_55 (by decide) ?_
        exact q_sub [0, 1, 2] rfl (aX12_terms_b60 v1 v2 u0 u1 40 σ)
      refine q_bipush (v := 23) dX12_terms_43 (by decide) ?_
      refine q_goto (tgt := 60) dX12_terms_45 (by decide) ?_
      exact q_sub [0, 1, 2] rfl (aX12_terms_b60 v1 v2 u0 u1 23 σ)
    refine q_iconst (v := 3) dX12_terms_34 (by decide) ?_
    refine q_goto (tgt := 60) dX12_terms_35 (by decide) ?_
    exact q_sub [0, 1, 2] rfl (aX12_terms_b60 v1 v2 u0 u1 3 σ)
  refine q_bipush (v := 20) dX12_terms_24 (by decide) ?_
  refine q_goto (tgt := 60) dX12_terms_26 (by decide) ?_
  exact q_sub [0, 1, 2] rfl (aX12_terms_b60 v1 v2 u0 u1 20 σ)

def fX12_terms (p1 : Int32) (p2 : Int32) (σ : qMem) : Option (Int32 × qMem) :=
  ((fX12_in p1 0 5).bind fun y1 => (if y1 = 0 then (fX12_terms_b66 σ) else (if p1 = 4 then (fX12_terms_b20 p1 p2 p2 1 σ) else (fX12_terms_b20 p1 p2 p2 0 σ))))
set_option maxRecDepth 20000 in
set_option maxHeartbeats 4000000 in
theorem aX12_terms  (p1 : Int32) (p2 : Int32)  (σ : qMem) : qAt wM mX12_terms (ρi) 0 [(0, .ref 0), (1, .int p1), (2, .int p2)] [] σ (fX12_terms p1 p2 σ) := by
  unfold fX12_terms
  refine q_iload_n (i := 1) (x := p1) dX12_terms_0 rfl 1 rfl ?_
  refine q_iconst (v := 0) dX12_terms_1 (by decide) ?_
  refine q_iconst (v := 5) dX12_terms_2 (by decide) ?_
  refine q_cSp mX12_in [.int p1, .int 0, .int 5] (st := []) dX12_terms_3 (ssX12_110) ⟨Nat.le_of_ble_eq_true rfl, Nat.le_of_ble_eq_true rfl⟩ rfl rfl (Nat.le_of_ble_eq_true rfl) (kX12_in p1 0 5 σ) (fun y1 => ?_)
  refine q_if_eq (tgt := 66) dX12_terms_6 (by decide) ?_ ?_
  · exact q_sub [0] rfl (aX12_terms_b66 σ)
  refine q_iload_n (i := 2) (x := p2) dX12_terms_9 rfl 2 rfl ?_
  refine q_iload_n (i := 1) (x := p1) dX12_terms_10 rfl 1 rfl ?_
  refine q_iconst (v := 4) dX12_terms_11 (by decide) ?_
  refine q_icmp_ne (tgt := 19) dX12_terms_12 (by decide) ?_ ?_
  · refine q_iconst (v := 0) dX12_terms_19 (by decide) ?_
    exact q_sub [0, 1, 2] rfl (aX12_terms_b20 p1 p2 p2 0 σ)
  refine q_iconst (v := 1) dX12_terms_15 (by decide) ?_
  refine q_goto (tgt := 20) dX12_terms_16 (by decide) ?_
  exact q_sub [0, 1, 2] rfl (aX12_terms_b20 p1 p2 p2 1 σ)
theorem kX12_terms  (p1 : Int32) (p2 : Int32)  (σ : qMem) : qMc wM mX12_terms (ρi) [.ref 0, .int p1, .int p2] σ (fX12_terms p1 p2 σ) := qMc_of (moX12_terms) (Nat.le_of_ble_eq_true rfl) (aX12_terms p1 p2  σ)

theorem dX12_slowOf_0 : decode cX12_slowOf 0 = .ok (.aload_n 0, 1) := by decide +kernel
theorem dX12_slowOf_1 : decode cX12_slowOf 1 = .ok (.getfield 20, 3) := by decide +kernel
theorem dX12_slowOf_4 : decode cX12_slowOf 4 = .ok (.bipush 50, 2) := by decide +kernel
theorem dX12_slowOf_6 : decode cX12_slowOf 6 = .ok (.bipush 10, 2) := by decide +kernel
theorem dX12_slowOf_8 : decode cX12_slowOf 8 = .ok (.aload_n 0, 1) := by decide +kernel
theorem dX12_slowOf_9 : decode cX12_slowOf 9 = .ok (.getfield 20, 3) := by decide +kernel
theorem dX12_slowOf_12 : decode cX12_slowOf 12 = .ok (.sipush 310, 3) := by decide +kernel
theorem dX12_slowOf_15 : decode cX12_slowOf 15 = .ok (.iaload, 1) := by decide +kernel
theorem dX12_slowOf_16 : decode cX12_slowOf 16 = .ok (.imul, 1) := by decide +kernel
theorem dX12_slowOf_17 : decode cX12_slowOf 17 = .ok (.iadd, 1) := by decide +kernel
theorem dX12_slowOf_18 : decode cX12_slowOf 18 = .ok (.iload_n 1, 1) := by decide +kernel
theorem dX12_slowOf_19 : decode cX12_slowOf 19 = .ok (.iadd, 1) := by decide +kernel
theorem dX12_slowOf_20 : decode cX12_slowOf 20 = .ok (.iaload, 1) := by decide +kernel
theorem dX12_slowOf_21 : decode cX12_slowOf 21 = .ok (.ireturn, 1) := by decide +kernel

def fX12_slowOf (p1 : Int32) (σ : qMem) : Option Int32 :=
  (if ck 310 1112 = true then (if ck ((50 + (10 * (gi σ 2 (310 : Int32).toNatClampNeg))) + p1) 1112 = true then (some (gi σ 2 ((50 + (10 * (gi σ 2 (310 : Int32).toNatClampNeg))) + p1).toNatClampNeg)) else none) else none)
set_option maxRecDepth 20000 in
set_option maxHeartbeats 4000000 in
theorem aX12_slowOf  (p1 : Int32)  (σ : qMem) : qAt wM mX12_slowOf (ρp σ) 0 [(0, .ref 0), (1, .int p1)] [] σ (fX12_slowOf p1 σ) := by
  unfold fX12_slowOf
  refine q_aload_n (i := 0) (x := 0) dX12_slowOf_0 rfl 0 rfl ?_
  refine q_getr (t := 2) dX12_slowOf_1 foX12_20 zM_0 rfl ?_
  refine q_bipush (v := 50) dX12_slowOf_4 (by decide) ?_
  refine q_bipush (v := 10) dX12_slowOf_6 (by decide) ?_
  refine q_aload_n (i := 0) (x := 0) dX12_slowOf_8 rfl 0 rfl ?_
  refine q_getr (t := 2) dX12_slowOf_9 foX12_20 zM_0 rfl ?_
  refine q_sipush (v := 310) dX12_slowOf_12 (by decide) ?_
  refine q_iald dX12_slowOf_15 zM_2 ?_
  refine q_imul dX12_slowOf_16 ?_
  refine q_iadd dX12_slowOf_17 ?_
  refine q_iload_n (i := 1) (x := p1) dX12_slowOf_18 rfl 1 rfl ?_
  refine q_iadd dX12_slowOf_19 ?_
  refine q_iald dX12_slowOf_20 zM_2 ?_
  exact q_ireti (y := (gi σ 2 ((50 + (10 * (gi σ 2 (310 : Int32).toNatClampNeg))) + p1).toNatClampNeg)) dX12_slowOf_21 rfl rfl
theorem kX12_slowOf  (p1 : Int32)  (σ : qMem) : qMc wM mX12_slowOf (ρp σ) [.ref 0, .int p1] σ (fX12_slowOf p1 σ) := qMc_of (moX12_slowOf) (Nat.le_of_ble_eq_true rfl) (aX12_slowOf p1  σ)

theorem dX12_day_0 : decode cX12_day 0 = .ok (.iload_n 1, 1) := by decide +kernel
theorem dX12_day_1 : decode cX12_day 1 = .ok (.iconst 0, 1) := by decide +kernel
theorem dX12_day_2 : decode cX12_day 2 = .ok (.iconst 2, 1) := by decide +kernel
theorem dX12_day_3 : decode cX12_day 3 = .ok (.invokestatic 110, 3) := by decide +kernel
theorem dX12_day_6 : decode cX12_day 6 = .ok (.ifCond .ne 9, 3) := by decide +kernel
theorem dX12_day_9 : decode cX12_day 9 = .ok (.aload_n 0, 1) := by decide +kernel
theorem dX12_day_10 : decode cX12_day 10 = .ok (.iconst (-1), 1) := by decide +kernel
theorem dX12_day_11 : decode cX12_day 11 = .ok (.invokevirtual 114, 3) := by decide +kernel
theorem dX12_day_14 : decode cX12_day 14 = .ok (.ireturn, 1) := by decide +kernel
theorem dX12_day_15 : decode cX12_day 15 = .ok (.aload_n 0, 1) := by decide +kernel
theorem dX12_day_16 : decode cX12_day 16 = .ok (.getfield 20, 3) := by decide +kernel
theorem dX12_day_19 : decode cX12_day 19 = .ok (.sipush 310, 3) := by decide +kernel
theorem dX12_day_22 : decode cX12_day 22 = .ok (.iaload, 1) := by decide +kernel
theorem dX12_day_23 : decode cX12_day 23 = .ok (.istore_n 2, 1) := by decide +kernel
theorem dX12_day_24 : decode cX12_day 24 = .ok (.aload_n 0, 1) := by decide +kernel
theorem dX12_day_25 : decode cX12_day 25 = .ok (.getfield 20, 3) := by decide +kernel
theorem dX12_day_28 : decode cX12_day 28 = .ok (.sipush 310, 3) := by decide +kernel
theorem dX12_day_31 : decode cX12_day 31 = .ok (.iload_n 1, 1) := by decide +kernel
theorem dX12_day_32 : decode cX12_day 32 = .ok (.iastore, 1) := by decide +kernel
theorem dX12_day_33 : decode cX12_day 33 = .ok (.aload_n 0, 1) := by decide +kernel
theorem dX12_day_34 : decode cX12_day 34 = .ok (.iload_n 2, 1) := by decide +kernel
theorem dX12_day_35 : decode cX12_day 35 = .ok (.invokevirtual 118, 3) := by decide +kernel
theorem dX12_day_38 : decode cX12_day 38 = .ok (.ireturn, 1) := by decide +kernel

def fX12_day (p1 : Int32) (σ : qMem) : Option (Int32 × qMem) :=
  ((fX12_in p1 0 2).bind fun y1 => (if y1 = 0 then ((fX12_refuses (-1) σ).bind fun y5 => (some (y5.1, y5.2))) else (if ck 310 1112 = true then (nmI (gi σ 2 (310 : Int32).toNatClampNeg) fun x2 => (if ck 310 1112 = true then (nmM (si σ 2 (310 : Int32).toNatClampNeg p1) fun s3 => ((fX12_good x2 s3).bind fun y4 => (some (y4.1, y4.2)))) else none)) else none)))
set_option maxRecDepth 20000 in
set_option maxHeartbeats 4000000 in
theorem aX12_day  (p1 : Int32)  (σ : qMem) : qAt wM mX12_day (ρi) 0 [(0, .ref 0), (1, .int p1)] [] σ (fX12_day p1 σ) := by
  unfold fX12_day
  refine q_iload_n (i := 1) (x := p1) dX12_day_0 rfl 1 rfl ?_
  refine q_iconst (v := 0) dX12_day_1 (by decide) ?_
  refine q_iconst (v := 2) dX12_day_2 (by decide) ?_
  refine q_cSp mX12_in [.int p1, .int 0, .int 2] (st := []) dX12_day_3 (ssX12_110) ⟨Nat.le_of_ble_eq_true rfl, Nat.le_of_ble_eq_true rfl⟩ rfl rfl (Nat.le_of_ble_eq_true rfl) (kX12_in p1 0 2 σ) (fun y1 => ?_)
  refine q_if_ne (tgt := 15) dX12_day_6 (by decide) ?_ ?_
  · refine q_aload_n (i := 0) (x := 0) dX12_day_15 rfl 0 rfl ?_
    refine q_getr (t := 2) dX12_day_16 foX12_20 zM_0 rfl ?_
    refine q_sipush (v := 310) dX12_day_19 (by decide) ?_
    refine q_iald dX12_day_22 zM_2 ?_
    refine q_nmI (fun x2 => ?_)
    refine q_istore_n (i := 2) (L' := [(2, .int x2), (0, .ref 0), (1, .int p1)]) dX12_day_23 rfl (Nat.le_of_ble_eq_true rfl) rfl ?_
    refine q_aload_n (i := 0) (x := 0) dX12_day_24 rfl 1 rfl ?_
    refine q_getr (t := 2) dX12_day_25 foX12_20 zM_0 rfl ?_
    refine q_sipush (v := 310) dX12_day_28 (by decide) ?_
    refine q_iload_n (i := 1) (x := p1) dX12_day_31 rfl 2 rfl ?_
    refine q_iast dX12_day_32 zM_2 ?_
    refine q_nmM (fun s3 => ?_)
    refine q_aload_n (i := 0) (x := 0) dX12_day_33 rfl 1 rfl ?_
    refine q_iload_n (i := 2) (x := x2) dX12_day_34 rfl 0 rfl ?_
    refine q_cVi mX12_good [.int x2] (st := []) dX12_day_35 (svX12_118) ⟨Nat.le_of_ble_eq_true rfl, Nat.le_of_ble_eq_true rfl⟩ zM_0 rfl rfl rfl (Nat.le_of_ble_eq_true rfl) (kX12_good x2 s3) (fun y4 => ?_)
    exact q_ireti (y := (y4.1, y4.2)) dX12_day_38 rfl rfl
  refine q_aload_n (i := 0) (x := 0) dX12_day_9 rfl 0 rfl ?_
  refine q_iconst (v := (-1)) dX12_day_10 (by decide) ?_
  refine q_cVi mX12_refuses [.int (-1)] (st := []) dX12_day_11 (svX12_114) ⟨Nat.le_of_ble_eq_true rfl, Nat.le_of_ble_eq_true rfl⟩ zM_0 rfl rfl rfl (Nat.le_of_ble_eq_true rfl) (kX12_refuses (-1) σ) (fun y5 => ?_)
  exact q_ireti (y := (y5.1, y5.2)) dX12_day_14 rfl rfl
theorem kX12_day  (p1 : Int32)  (σ : qMem) : qMc wM mX12_day (ρi) [.ref 0, .int p1] σ (fX12_day p1 σ) := qMc_of (moX12_day) (Nat.le_of_ble_eq_true rfl) (aX12_day p1  σ)

theorem dX12_layer_0 : decode cX12_layer 0 = .ok (.iload_n 1, 1) := by decide +kernel
theorem dX12_layer_1 : decode cX12_layer 1 = .ok (.iconst 0, 1) := by decide +kernel
theorem dX12_layer_2 : decode cX12_layer 2 = .ok (.bipush 9, 2) := by decide +kernel
theorem dX12_layer_4 : decode cX12_layer 4 = .ok (.invokestatic 110, 3) := by decide +kernel
theorem dX12_layer_7 : decode cX12_layer 7 = .ok (.ifCond .eq 14, 3) := by decide +kernel
theorem dX12_layer_10 : decode cX12_layer 10 = .ok (.iload_n 2, 1) := by decide +kernel
theorem dX12_layer_11 : decode cX12_layer 11 = .ok (.iconst 0, 1) := by decide +kernel
theorem dX12_layer_12 : decode cX12_layer 12 = .ok (.sipush 200, 3) := by decide +kernel
theorem dX12_layer_15 : decode cX12_layer 15 = .ok (.invokestatic 110, 3) := by decide +kernel
theorem dX12_layer_18 : decode cX12_layer 18 = .ok (.ifCond .ne 9, 3) := by decide +kernel
theorem dX12_layer_21 : decode cX12_layer 21 = .ok (.aload_n 0, 1) := by decide +kernel
theorem dX12_layer_22 : decode cX12_layer 22 = .ok (.iconst (-1), 1) := by decide +kernel
theorem dX12_layer_23 : decode cX12_layer 23 = .ok (.invokevirtual 114, 3) := by decide +kernel
theorem dX12_layer_26 : decode cX12_layer 26 = .ok (.ireturn, 1) := by decide +kernel
theorem dX12_layer_27 : decode cX12_layer 27 = .ok (.aload_n 0, 1) := by decide +kernel
theorem dX12_layer_28 : decode cX12_layer 28 = .ok (.iload_n 1, 1) := by decide +kernel
theorem dX12_layer_29 : decode cX12_layer 29 = .ok (.invokevirtual 157, 3) := by decide +kernel
theorem dX12_layer_32 : decode cX12_layer 32 = .ok (.istore_n 3, 1) := by decide +kernel
theorem dX12_layer_33 : decode cX12_layer 33 = .ok (.aload_n 0, 1) := by decide +kernel
theorem dX12_layer_34 : decode cX12_layer 34 = .ok (.getfield 20, 3) := by decide +kernel
theorem dX12_layer_37 : decode cX12_layer 37 = .ok (.bipush 50, 2) := by decide +kernel
theorem dX12_layer_39 : decode cX12_layer 39 = .ok (.bipush 10, 2) := by decide +kernel
theorem dX12_layer_41 : decode cX12_layer 41 = .ok (.aload_n 0, 1) := by decide +kernel
theorem dX12_layer_42 : decode cX12_layer 42 = .ok (.getfield 20, 3) := by decide +kernel
theorem dX12_layer_45 : decode cX12_layer 45 = .ok (.sipush 310, 3) := by decide +kernel
theorem dX12_layer_48 : decode cX12_layer 48 = .ok (.iaload, 1) := by decide +kernel
theorem dX12_layer_49 : decode cX12_layer 49 = .ok (.imul, 1) := by decide +kernel
theorem dX12_layer_50 : decode cX12_layer 50 = .ok (.iadd, 1) := by decide +kernel
theorem dX12_layer_51 : decode cX12_layer 51 = .ok (.iload_n 1, 1) := by decide +kernel
theorem dX12_layer_52 : decode cX12_layer 52 = .ok (.iadd, 1) := by decide +kernel
theorem dX12_layer_53 : decode cX12_layer 53 = .ok (.iload_n 2, 1) := by decide +kernel
theorem dX12_layer_54 : decode cX12_layer 54 = .ok (.iastore, 1) := by decide +kernel
theorem dX12_layer_55 : decode cX12_layer 55 = .ok (.aload_n 0, 1) := by decide +kernel
theorem dX12_layer_56 : decode cX12_layer 56 = .ok (.iload_n 3, 1) := by decide +kernel
theorem dX12_layer_57 : decode cX12_layer 57 = .ok (.invokevirtual 118, 3) := by decide +kernel
theorem dX12_layer_60 : decode cX12_layer 60 = .ok (.ireturn, 1) := by decide +kernel
def fX12_layer_b21 (σ : qMem) : Option (Int32 × qMem) :=
  ((fX12_refuses (-1) σ).bind fun y6 => (some (y6.1, y6.2)))
set_option maxRecDepth 20000 in
set_option maxHeartbeats 4000000 in
theorem aX12_layer_b21 (σ : qMem) : qAt wM mX12_layer (ρi) 21 [(0, .ref 0)] [] σ (fX12_layer_b21 σ) := by
  unfold fX12_layer_b21
  refine q_aload_n (i := 0) (x := 0) dX12_layer_21 rfl 0 rfl ?_
  refine q_iconst (v := (-1)) dX12_layer_22 (by decide) ?_
  refine q_cVi mX12_refuses [.int (-1)] (st := []) dX12_layer_23 (svX12_114) ⟨Nat.le_of_ble_eq_true rfl, Nat.le_of_ble_eq_true rfl⟩ zM_0 rfl rfl rfl (Nat.le_of_ble_eq_true rfl) (kX12_refuses (-1) σ) (fun y6 => ?_)
  exact q_ireti (y := (y6.1, y6.2)) dX12_layer_26 rfl rfl

def fX12_layer (p1 : Int32) (p2 : Int32) (σ : qMem) : Option (Int32 × qMem) :=
  ((fX12_in p1 0 9).bind fun y1 => (if y1 = 0 then (fX12_layer_b21 σ) else ((fX12_in p2 0 200).bind fun y2 => (if y2 = 0 then (fX12_layer_b21 σ) else ((fX12_slowOf p1 σ).bind fun y3 => (if ck 310 1112 = true then (if ck ((50 + (10 * (gi σ 2 (310 : Int32).toNatClampNeg))) + p1) 1112 = true then (nmM (si σ 2 ((50 + (10 * (gi σ 2 (310 : Int32).toNatClampNeg))) + p1).toNatClampNeg p2) fun s4 => ((fX12_good y3 s4).bind fun y5 => (some (y5.1, y5.2)))) else none) else none))))))
set_option maxRecDepth 20000 in
set_option maxHeartbeats 4000000 in
theorem aX12_layer  (p1 : Int32) (p2 : Int32)  (σ : qMem) : qAt wM mX12_layer (ρi) 0 [(0, .ref 0), (1, .int p1), (2, .int p2)] [] σ (fX12_layer p1 p2 σ) := by
  unfold fX12_layer
  refine q_iload_n (i := 1) (x := p1) dX12_layer_0 rfl 1 rfl ?_
  refine q_iconst (v := 0) dX12_layer_1 (by decide) ?_
  refine q_bipush (v := 9) dX12_layer_2 (by decide) ?_
  refine q_cSp mX12_in [.int p1, .int 0, .int 9] (st := []) dX12_layer_4 (ssX12_110) ⟨Nat.le_of_ble_eq_true rfl, Nat.le_of_ble_eq_true rfl⟩ rfl rfl (Nat.le_of_ble_eq_true rfl) (kX12_in p1 0 9 σ) (fun y1 => ?_)
  refine q_if_eq (tgt := 21) dX12_layer_7 (by decide) ?_ ?_
  · exact q_sub [0] rfl (aX12_layer_b21 σ)
  refine q_iload_n (i := 2) (x := p2) dX12_layer_10 rfl 2 rfl ?_
  refine q_iconst (v := 0) dX12_layer_11 (by decide) ?_
  refine q_sipush (v := 200) dX12_layer_12 (by decide) ?_
  refine q_cSp mX12_in [.int p2, .int 0, .int 200] (st := []) dX12_layer_15 (ssX12_110) ⟨Nat.le_of_ble_eq_true rfl, Nat.le_of_ble_eq_true rfl⟩ rfl rfl (Nat.le_of_ble_eq_true rfl) (kX12_in p2 0 200 σ) (fun y2 => ?_)
  refine q_if_ne (tgt := 27) dX12_layer_18 (by decide) ?_ ?_
  · refine q_aload_n (i := 0) (x := 0) dX12_layer_27 rfl 0 rfl ?_
    refine q_iload_n (i := 1) (x := p1) dX12_layer_28 rfl 1 rfl ?_
    refine q_cVp mX12_slowOf [.int p1] (st := []) dX12_layer_29 (svX12_157) ⟨Nat.le_of_ble_eq_true rfl, Nat.le_of_ble_eq_true rfl⟩ zM_0 rfl rfl rfl (Nat.le_of_ble_eq_true rfl) (kX12_slowOf p1 σ) (fun y3 => ?_)
    refine q_istore_n (i := 3) (L' := [(3, .int y3), (0, .ref 0), (1, .int p1), (2, .int p2)]) dX12_layer_32 rfl (Nat.le_of_ble_eq_true rfl) rfl ?_
    refine q_aload_n (i := 0) (x := 0) dX12_layer_33 rfl 1 rfl ?_
    refine q_getr (t := 2) dX12_layer_34 foX12_20 zM_0 rfl ?_
    refine q_bipush (v := 50) dX12_layer_37 (by decide) ?_
    refine q_bipush (v := 10) dX12_layer_39 (by decide) ?_
    refine q_aload_n (i := 0) (x := 0) dX12_layer_41 rfl 1 rfl ?_
    refine q_getr (t := 2) dX12_layer_42 foX12_20 zM_0 rfl ?_
    refine q_sipush (v := 310) dX12_layer_45 (by decide) ?_
    refine q_iald dX12_layer_48 zM_2 ?_
    refine q_imul dX12_layer_49 ?_
    refine q_iadd dX12_layer_50 ?_
    refine q_iload_n (i := 1) (x := p1) dX12_layer_51 rfl 2 rfl ?_
    refine q_iadd dX12_layer_52 ?_
    refine q_iload_n (i := 2) (x := p2) dX12_layer_53 rfl 3 rfl ?_
    refine q_iast dX12_layer_54 zM_2 ?_
    refine q_nmM (fun s4 => ?_)
    refine q_aload_n (i := 0) (x := 0) dX12_layer_55 rfl 1 rfl ?_
    refine q_iload_n (i := 3) (x := y3) dX12_layer_56 rfl 0 rfl ?_
    refine q_cVi mX12_good [.int y3] (st := []) dX12_layer_57 (svX12_118) ⟨Nat.le_of_ble_eq_true rfl, Nat.le_of_ble_eq_true rfl⟩ zM_0 rfl rfl rfl (Nat.le_of_ble_eq_true rfl) (kX12_good y3 s4) (fun y5 => ?_)
    exact q_ireti (y := (y5.1, y5.2)) dX12_layer_60 rfl rfl
  exact q_sub [0] rfl (aX12_layer_b21 σ)
theorem kX12_layer  (p1 : Int32) (p2 : Int32)  (σ : qMem) : qMc wM mX12_layer (ρi) [.ref 0, .int p1, .int p2] σ (fX12_layer p1 p2 σ) := qMc_of (moX12_layer) (Nat.le_of_ble_eq_true rfl) (aX12_layer p1 p2  σ)

theorem dX12_ray_0 : decode cX12_ray 0 = .ok (.iload_n 1, 1) := by decide +kernel
theorem dX12_ray_1 : decode cX12_ray 1 = .ok (.istore_n 3, 1) := by decide +kernel
theorem dX12_ray_2 : decode cX12_ray 2 = .ok (.iload_n 2, 1) := by decide +kernel
theorem dX12_ray_3 : decode cX12_ray 3 = .ok (.istore 4, 2) := by decide +kernel
theorem dX12_ray_5 : decode cX12_ray 5 = .ok (.iconst 0, 1) := by decide +kernel
theorem dX12_ray_6 : decode cX12_ray 6 = .ok (.istore 5, 2) := by decide +kernel
theorem dX12_ray_8 : decode cX12_ray 8 = .ok (.iload 5, 2) := by decide +kernel
theorem dX12_ray_10 : decode cX12_ray 10 = .ok (.sipush 201, 3) := by decide +kernel
theorem dX12_ray_13 : decode cX12_ray 13 = .ok (.if_icmp .ge 186, 3) := by decide +kernel
theorem dX12_ray_16 : decode cX12_ray 16 = .ok (.iload_n 3, 1) := by decide +kernel
theorem dX12_ray_17 : decode cX12_ray 17 = .ok (.iconst 1, 1) := by decide +kernel
theorem dX12_ray_18 : decode cX12_ray 18 = .ok (.isub, 1) := by decide +kernel
theorem dX12_ray_19 : decode cX12_ray 19 = .ok (.istore 6, 2) := by decide +kernel
theorem dX12_ray_21 : decode cX12_ray 21 = .ok (.iload 6, 2) := by decide +kernel
theorem dX12_ray_23 : decode cX12_ray 23 = .ok (.iload_n 3, 1) := by decide +kernel
theorem dX12_ray_24 : decode cX12_ray 24 = .ok (.iconst 1, 1) := by decide +kernel
theorem dX12_ray_25 : decode cX12_ray 25 = .ok (.iadd, 1) := by decide +kernel
theorem dX12_ray_26 : decode cX12_ray 26 = .ok (.if_icmp .gt 40, 3) := by decide +kernel
theorem dX12_ray_29 : decode cX12_ray 29 = .ok (.iload 6, 2) := by decide +kernel
theorem dX12_ray_31 : decode cX12_ray 31 = .ok (.iconst 0, 1) := by decide +kernel
theorem dX12_ray_32 : decode cX12_ray 32 = .ok (.bipush 9, 2) := by decide +kernel
theorem dX12_ray_34 : decode cX12_ray 34 = .ok (.invokestatic 110, 3) := by decide +kernel
theorem dX12_ray_37 : decode cX12_ray 37 = .ok (.ifCond .eq 23, 3) := by decide +kernel
theorem dX12_ray_40 : decode cX12_ray 40 = .ok (.aload_n 0, 1) := by decide +kernel
theorem dX12_ray_41 : decode cX12_ray 41 = .ok (.getfield 30, 3) := by decide +kernel
theorem dX12_ray_44 : decode cX12_ray 44 = .ok (.bipush 10, 2) := by decide +kernel
theorem dX12_ray_46 : decode cX12_ray 46 = .ok (.iload_n 1, 1) := by decide +kernel
theorem dX12_ray_47 : decode cX12_ray 47 = .ok (.imul, 1) := by decide +kernel
theorem dX12_ray_48 : decode cX12_ray 48 = .ok (.iload 6, 2) := by decide +kernel
theorem dX12_ray_50 : decode cX12_ray 50 = .ok (.iadd, 1) := by decide +kernel
theorem dX12_ray_51 : decode cX12_ray 51 = .ok (.sipush 201, 3) := by decide +kernel
theorem dX12_ray_54 : decode cX12_ray 54 = .ok (.imul, 1) := by decide +kernel
theorem dX12_ray_55 : decode cX12_ray 55 = .ok (.iload 5, 2) := by decide +kernel
theorem dX12_ray_57 : decode cX12_ray 57 = .ok (.iadd, 1) := by decide +kernel
theorem dX12_ray_58 : decode cX12_ray 58 = .ok (.iconst 1, 1) := by decide +kernel
theorem dX12_ray_59 : decode cX12_ray 59 = .ok (.bastore, 1) := by decide +kernel
theorem dX12_ray_60 : decode cX12_ray 60 = .ok (.iinc 6 1, 3) := by decide +kernel
theorem dX12_ray_63 : decode cX12_ray 63 = .ok (.goto (-42), 3) := by decide +kernel
theorem dX12_ray_66 : decode cX12_ray 66 = .ok (.aload_n 0, 1) := by decide +kernel
theorem dX12_ray_67 : decode cX12_ray 67 = .ok (.iload_n 3, 1) := by decide +kernel
theorem dX12_ray_68 : decode cX12_ray 68 = .ok (.bipush 9, 2) := by decide +kernel
theorem dX12_ray_70 : decode cX12_ray 70 = .ok (.if_icmp .ne 7, 3) := by decide +kernel
theorem dX12_ray_73 : decode cX12_ray 73 = .ok (.iload_n 3, 1) := by decide +kernel
theorem dX12_ray_74 : decode cX12_ray 74 = .ok (.goto 6, 3) := by decide +kernel
theorem dX12_ray_77 : decode cX12_ray 77 = .ok (.iload_n 3, 1) := by decide +kernel
theorem dX12_ray_78 : decode cX12_ray 78 = .ok (.iconst 1, 1) := by decide +kernel
theorem dX12_ray_79 : decode cX12_ray 79 = .ok (.iadd, 1) := by decide +kernel
theorem dX12_ray_80 : decode cX12_ray 80 = .ok (.invokevirtual 157, 3) := by decide +kernel
theorem dX12_ray_83 : decode cX12_ray 83 = .ok (.istore 6, 2) := by decide +kernel
theorem dX12_ray_85 : decode cX12_ray 85 = .ok (.aload_n 0, 1) := by decide +kernel
theorem dX12_ray_86 : decode cX12_ray 86 = .ok (.iload_n 3, 1) := by decide +kernel
theorem dX12_ray_87 : decode cX12_ray 87 = .ok (.ifCond .ne 7, 3) := by decide +kernel
theorem dX12_ray_90 : decode cX12_ray 90 = .ok (.iload_n 3, 1) := by decide +kernel
theorem dX12_ray_91 : decode cX12_ray 91 = .ok (.goto 6, 3) := by decide +kernel
theorem dX12_ray_94 : decode cX12_ray 94 = .ok (.iload_n 3, 1) := by decide +kernel
theorem dX12_ray_95 : decode cX12_ray 95 = .ok (.iconst 1, 1) := by decide +kernel
theorem dX12_ray_96 : decode cX12_ray 96 = .ok (.isub, 1) := by decide +kernel
theorem dX12_ray_97 : decode cX12_ray 97 = .ok (.invokevirtual 157, 3) := by decide +kernel
theorem dX12_ray_100 : decode cX12_ray 100 = .ok (.istore 7, 2) := by decide +kernel
theorem dX12_ray_102 : decode cX12_ray 102 = .ok (.iload 4, 2) := by decide +kernel
theorem dX12_ray_104 : decode cX12_ray 104 = .ok (.iload 6, 2) := by decide +kernel
theorem dX12_ray_106 : decode cX12_ray 106 = .ok (.iload 7, 2) := by decide +kernel
theorem dX12_ray_108 : decode cX12_ray 108 = .ok (.if_icmp .le 7, 3) := by decide +kernel
theorem dX12_ray_111 : decode cX12_ray 111 = .ok (.iconst 1, 1) := by decide +kernel
theorem dX12_ray_112 : decode cX12_ray 112 = .ok (.goto 15, 3) := by decide +kernel
theorem dX12_ray_115 : decode cX12_ray 115 = .ok (.iload 6, 2) := by decide +kernel
theorem dX12_ray_117 : decode cX12_ray 117 = .ok (.iload 7, 2) := by decide +kernel
theorem dX12_ray_119 : decode cX12_ray 119 = .ok (.if_icmp .ge 7, 3) := by decide +kernel
theorem dX12_ray_122 : decode cX12_ray 122 = .ok (.iconst (-1), 1) := by decide +kernel
theorem dX12_ray_123 : decode cX12_ray 123 = .ok (.goto 4, 3) := by decide +kernel
theorem dX12_ray_126 : decode cX12_ray 126 = .ok (.iconst 0, 1) := by decide +kernel
theorem dX12_ray_127 : decode cX12_ray 127 = .ok (.iadd, 1) := by decide +kernel
theorem dX12_ray_128 : decode cX12_ray 128 = .ok (.istore 4, 2) := by decide +kernel
theorem dX12_ray_130 : decode cX12_ray 130 = .ok (.iload 4, 2) := by decide +kernel
theorem dX12_ray_132 : decode cX12_ray 132 = .ok (.iconst 2, 1) := by decide +kernel
theorem dX12_ray_133 : decode cX12_ray 133 = .ok (.if_icmp .le 7, 3) := by decide +kernel
theorem dX12_ray_136 : decode cX12_ray 136 = .ok (.iconst 2, 1) := by decide +kernel
theorem dX12_ray_137 : decode cX12_ray 137 = .ok (.goto 17, 3) := by decide +kernel
theorem dX12_ray_140 : decode cX12_ray 140 = .ok (.iload 4, 2) := by decide +kernel
theorem dX12_ray_142 : decode cX12_ray 142 = .ok (.bipush (-2), 2) := by decide +kernel
theorem dX12_ray_144 : decode cX12_ray 144 = .ok (.if_icmp .ge 8, 3) := by decide +kernel
theorem dX12_ray_147 : decode cX12_ray 147 = .ok (.bipush (-2), 2) := by decide +kernel
theorem dX12_ray_149 : decode cX12_ray 149 = .ok (.goto 5, 3) := by decide +kernel
theorem dX12_ray_152 : decode cX12_ray 152 = .ok (.iload 4, 2) := by decide +kernel
theorem dX12_ray_154 : decode cX12_ray 154 = .ok (.istore 4, 2) := by decide +kernel
theorem dX12_ray_156 : decode cX12_ray 156 = .ok (.iload_n 3, 1) := by decide +kernel
theorem dX12_ray_157 : decode cX12_ray 157 = .ok (.iload 4, 2) := by decide +kernel
theorem dX12_ray_159 : decode cX12_ray 159 = .ok (.iadd, 1) := by decide +kernel
theorem dX12_ray_160 : decode cX12_ray 160 = .ok (.istore_n 3, 1) := by decide +kernel
theorem dX12_ray_161 : decode cX12_ray 161 = .ok (.iload_n 3, 1) := by decide +kernel
theorem dX12_ray_162 : decode cX12_ray 162 = .ok (.iconst 0, 1) := by decide +kernel
theorem dX12_ray_163 : decode cX12_ray 163 = .ok (.bipush 9, 2) := by decide +kernel
theorem dX12_ray_165 : decode cX12_ray 165 = .ok (.invokestatic 110, 3) := by decide +kernel
theorem dX12_ray_168 : decode cX12_ray 168 = .ok (.ifCond .eq 6, 3) := by decide +kernel
theorem dX12_ray_171 : decode cX12_ray 171 = .ok (.goto 22, 3) := by decide +kernel
theorem dX12_ray_174 : decode cX12_ray 174 = .ok (.iload_n 3, 1) := by decide +kernel
theorem dX12_ray_175 : decode cX12_ray 175 = .ok (.ifCond .ge 8, 3) := by decide +kernel
theorem dX12_ray_178 : decode cX12_ray 178 = .ok (.iload_n 3, 1) := by decide +kernel
theorem dX12_ray_179 : decode cX12_ray 179 = .ok (.ineg, 1) := by decide +kernel
theorem dX12_ray_180 : decode cX12_ray 180 = .ok (.goto 7, 3) := by decide +kernel
theorem dX12_ray_183 : decode cX12_ray 183 = .ok (.bipush 18, 2) := by decide +kernel
theorem dX12_ray_185 : decode cX12_ray 185 = .ok (.iload_n 3, 1) := by decide +kernel
theorem dX12_ray_186 : decode cX12_ray 186 = .ok (.isub, 1) := by decide +kernel
theorem dX12_ray_187 : decode cX12_ray 187 = .ok (.istore_n 3, 1) := by decide +kernel
theorem dX12_ray_188 : decode cX12_ray 188 = .ok (.iload 4, 2) := by decide +kernel
theorem dX12_ray_190 : decode cX12_ray 190 = .ok (.ineg, 1) := by decide +kernel
theorem dX12_ray_191 : decode cX12_ray 191 = .ok (.istore 4, 2) := by decide +kernel
theorem dX12_ray_193 : decode cX12_ray 193 = .ok (.iinc 5 1, 3) := by decide +kernel
theorem dX12_ray_196 : decode cX12_ray 196 = .ok (.goto (-188), 3) := by decide +kernel
theorem dX12_ray_199 : decode cX12_ray 199 = .ok (.return_, 1) := by decide +kernel
def fX12_ray_b193 (N : Nat) (c8 : Int32 → Int32 → Int32 → Int32 → qMem → Option qMem) (v1 : Int32) (v3 : Int32) (v4 : Int32) (v5 : Int32) (σ : qMem) : Option qMem :=
  (c8 v1 v3 v4 (v5 + 1) σ)
set_option maxRecDepth 20000 in
set_option maxHeartbeats 4000000 in
theorem aX12_ray_b193 (N : Nat) (c8 : Int32 → Int32 → Int32 → Int32 → qMem → Option qMem) (hc8 : ∀ (v1 : Int32) (v3 : Int32) (v4 : Int32) (v5 : Int32) (σ : qMem), qAt wM mX12_ray (ρv) 8 [(0, .ref 0), (1, .int v1), (3, .int v3), (4, .int v4), (5, .int v5)] [] σ (c8 v1 v3 v4 v5 σ)) (v1 : Int32) (v3 : Int32) (v4 : Int32) (v5 : Int32) (σ : qMem) : qAt wM mX12_ray (ρv) 193 [(0, .ref 0), (1, .int v1), (3, .int v3), (4, .int v4), (5, .int v5)] [] σ (fX12_ray_b193 N c8 v1 v3 v4 v5 σ) := by
  unfold fX12_ray_b193
  refine q_iinc (i := 5) (x := v5) (v := (v5 + 1)) (L' := [(5, .int (v5 + 1)), (0, .ref 0), (1, .int v1), (3, .int v3), (4, .int v4)]) dX12_ray_193 4 rfl (q_cst v5 (by decide)) (Nat.le_of_ble_eq_true rfl) rfl ?_
  refine q_goto (tgt := 8) dX12_ray_196 (by decide) ?_
  exact q_sub [1, 2, 3, 4, 0] rfl (hc8 v1 v3 v4 (v5 + 1) σ)

def fX12_ray_b187 (N : Nat) (c8 : Int32 → Int32 → Int32 → Int32 → qMem → Option qMem) (v1 : Int32) (v4 : Int32) (v5 : Int32) (u0 : Int32) (σ : qMem) : Option qMem :=
  (fX12_ray_b193 N c8 v1 u0 (-v4) v5 σ)
set_option maxRecDepth 20000 in
set_option maxHeartbeats 4000000 in
theorem aX12_ray_b187 (N : Nat) (c8 : Int32 → Int32 → Int32 → Int32 → qMem → Option qMem) (hc8 : ∀ (v1 : Int32) (v3 : Int32) (v4 : Int32) (v5 : Int32) (σ : qMem), qAt wM mX12_ray (ρv) 8 [(0, .ref 0), (1, .int v1), (3, .int v3), (4, .int v4), (5, .int v5)] [] σ (c8 v1 v3 v4 v5 σ)) (v1 : Int32) (v4 : Int32) (v5 : Int32) (u0 : Int32) (σ : qMem) : qAt wM mX12_ray (ρv) 187 [(0, .ref 0), (1, .int v1), (4, .int v4), (5, .int v5)] [.int u0] σ (fX12_ray_b187 N c8 v1 v4 v5 u0 σ) := by
  unfold fX12_ray_b187
  refine q_istore_n (i := 3) (L' := [(3, .int u0), (0, .ref 0), (1, .int v1), (4, .int v4), (5, .int v5)]) dX12_ray_187 rfl (Nat.le_of_ble_eq_true rfl) rfl ?_
  refine q_iload (i := 4) (x := v4) dX12_ray_188 3 rfl ?_
  refine q_ineg dX12_ray_190 ?_
  refine q_istore (i := 4) (L' := [(4, .int (-v4)), (3, .int u0), (0, .ref 0), (1, .int v1), (5, .int v5)]) dX12_ray_191 (Nat.le_of_ble_eq_true rfl) rfl ?_
  exact q_sub [2, 3, 1, 0, 4] rfl (aX12_ray_b193 N c8 hc8 v1 u0 (-v4) v5 σ)

def fX12_ray_b154 (N : Nat) (c8 : Int32 → Int32 → Int32 → Int32 → qMem → Option qMem) (v1 : Int32) (v3 : Int32) (v5 : Int32) (u0 : Int32) (σ : qMem) : Option qMem :=
  ((fX12_in (v3 + u0) 0 9).bind fun y5 => (if y5 = 0 then (if 0 ≤ (v3 + u0) then (fX12_ray_b187 N c8 v1 u0 v5 (18 - (v3 + u0)) σ) else (fX12_ray_b187 N c8 v1 u0 v5 (-(v3 + u0)) σ)) else (fX12_ray_b193 N c8 v1 (v3 + u0) u0 v5 σ)))
set_option maxRecDepth 20000 in
set_option maxHeartbeats 4000000 in
theorem aX12_ray_b154 (N : Nat) (c8 : Int32 → Int32 → Int32 → Int32 → qMem → Option qMem) (hc8 : ∀ (v1 : Int32) (v3 : Int32) (v4 : Int32) (v5 : Int32) (σ : qMem), qAt wM mX12_ray (ρv) 8 [(0, .ref 0), (1, .int v1), (3, .int v3), (4, .int v4), (5, .int v5)] [] σ (c8 v1 v3 v4 v5 σ)) (v1 : Int32) (v3 : Int32) (v5 : Int32) (u0 : Int32) (σ : qMem) : qAt wM mX12_ray (ρv) 154 [(0, .ref 0), (1, .int v1), (3, .int v3), (5, .int v5)] [.int u0] σ (fX12_ray_b154 N c8 v1 v3 v5 u0 σ) := by
  unfold fX12_ray_b154
  refine q_istore (i := 4) (L' := [(4, .int u0), (0, .ref 0), (1, .int v1), (3, .int v3), (5, .int v5)]) dX12_ray_154 (Nat.le_of_ble_eq_true rfl) rfl ?_
  refine q_iload_n (i := 3) (x := v3) dX12_ray_156 rfl 3 rfl ?_
  refine q_iload (i := 4) (x := u0) dX12_ray_157 0 rfl ?_
  refine q_iadd dX12_ray_159 ?_
  refine q_istore_n (i := 3) (L' := [(3, .int (v3 + u0)), (4, .int u0), (0, .ref 0), (1, .int v1), (5, .int v5)]) dX12_ray_160 rfl (Nat.le_of_ble_eq_true rfl) rfl ?_
  refine q_iload_n (i := 3) (x := (v3 + u0)) dX12_ray_161 rfl 0 rfl ?_
  refine q_iconst (v := 0) dX12_ray_162 (by decide) ?_
  refine q_bipush (v := 9) dX12_ray_163 (by decide) ?_
  refine q_cSp mX12_in [.int (v3 + u0), .int 0, .int 9] (st := []) dX12_ray_165 (ssX12_110) ⟨Nat.le_of_ble_eq_true rfl, Nat.le_of_ble_eq_true rfl⟩ rfl rfl (Nat.le_of_ble_eq_true rfl) (kX12_in (v3 + u0) 0 9 σ) (fun y5 => ?_)
  refine q_if_eq (tgt := 174) dX12_ray_168 (by decide) ?_ ?_
  · refine q_iload_n (i := 3) (x := (v3 + u0)) dX12_ray_174 rfl 0 rfl ?_
    refine q_if_ge (tgt := 183) dX12_ray_175 (by decide) ?_ ?_
    · refine q_bipush (v := 18) dX12_ray_183 (by decide) ?_
      refine q_iload_n (i := 3) (x := (v3 + u0)) dX12_ray_185 rfl 0 rfl ?_
      refine q_isub dX12_ray_186 ?_
      exact q_sub [2, 3, 1, 4] rfl (aX12_ray_b187 N c8 hc8 v1 u0 v5 (18 - (v3 + u0)) σ)
    refine q_iload_n (i := 3) (x := (v3 + u0)) dX12_ray_178 rfl 0 rfl ?_
    refine q_ineg dX12_ray_179 ?_
    refine q_goto (tgt := 187) dX12_ray_180 (by decide) ?_
    exact q_sub [2, 3, 1, 4] rfl (aX12_ray_b187 N c8 hc8 v1 u0 v5 (-(v3 + u0)) σ)
  refine q_goto (tgt := 193) dX12_ray_171 (by decide) ?_
  exact q_sub [2, 3, 0, 1, 4] rfl (aX12_ray_b193 N c8 hc8 v1 (v3 + u0) u0 v5 σ)

def fX12_ray_b127 (N : Nat) (c8 : Int32 → Int32 → Int32 → Int32 → qMem → Option qMem) (v1 : Int32) (v3 : Int32) (v5 : Int32) (u0 : Int32) (u1 : Int32) (σ : qMem) : Option qMem :=
  (if (u0 + u1) ≤ 2 then (if (-2) ≤ (u0 + u1) then (fX12_ray_b154 N c8 v1 v3 v5 (u0 + u1) σ) else (fX12_ray_b154 N c8 v1 v3 v5 (-2) σ)) else (fX12_ray_b154 N c8 v1 v3 v5 2 σ))
set_option maxRecDepth 20000 in
set_option maxHeartbeats 4000000 in
theorem aX12_ray_b127 (N : Nat) (c8 : Int32 → Int32 → Int32 → Int32 → qMem → Option qMem) (hc8 : ∀ (v1 : Int32) (v3 : Int32) (v4 : Int32) (v5 : Int32) (σ : qMem), qAt wM mX12_ray (ρv) 8 [(0, .ref 0), (1, .int v1), (3, .int v3), (4, .int v4), (5, .int v5)] [] σ (c8 v1 v3 v4 v5 σ)) (v1 : Int32) (v3 : Int32) (v5 : Int32) (u0 : Int32) (u1 : Int32) (σ : qMem) : qAt wM mX12_ray (ρv) 127 [(0, .ref 0), (1, .int v1), (3, .int v3), (5, .int v5)] [.int u1, .int u0] σ (fX12_ray_b127 N c8 v1 v3 v5 u0 u1 σ) := by
  unfold fX12_ray_b127
  refine q_iadd dX12_ray_127 ?_
  refine q_istore (i := 4) (L' := [(4, .int (u0 + u1)), (0, .ref 0), (1, .int v1), (3, .int v3), (5, .int v5)]) dX12_ray_128 (Nat.le_of_ble_eq_true rfl) rfl ?_
  refine q_iload (i := 4) (x := (u0 + u1)) dX12_ray_130 0 rfl ?_
  refine q_iconst (v := 2) dX12_ray_132 (by decide) ?_
  refine q_icmp_le (tgt := 140) dX12_ray_133 (by decide) ?_ ?_
  · refine q_iload (i := 4) (x := (u0 + u1)) dX12_ray_140 0 rfl ?_
    refine q_bipush (v := (-2)) dX12_ray_142 (by decide) ?_
    refine q_icmp_ge (tgt := 152) dX12_ray_144 (by decide) ?_ ?_
    · refine q_iload (i := 4) (x := (u0 + u1)) dX12_ray_152 0 rfl ?_
      exact q_sub [1, 2, 3, 4] rfl (aX12_ray_b154 N c8 hc8 v1 v3 v5 (u0 + u1) σ)
    refine q_bipush (v := (-2)) dX12_ray_147 (by decide) ?_
    refine q_goto (tgt := 154) dX12_ray_149 (by decide) ?_
    exact q_sub [1, 2, 3, 4] rfl (aX12_ray_b154 N c8 hc8 v1 v3 v5 (-2) σ)
  refine q_iconst (v := 2) dX12_ray_136 (by decide) ?_
  refine q_goto (tgt := 154) dX12_ray_137 (by decide) ?_
  exact q_sub [1, 2, 3, 4] rfl (aX12_ray_b154 N c8 hc8 v1 v3 v5 2 σ)

def fX12_ray_b97 (N : Nat) (c8 : Int32 → Int32 → Int32 → Int32 → qMem → Option qMem) (v1 : Int32) (v3 : Int32) (v4 : Int32) (v5 : Int32) (v6 : Int32) (u1 : Int32) (σ : qMem) : Option qMem :=
  ((fX12_slowOf u1 σ).bind fun y4 => (if v6 ≤ y4 then (if y4 ≤ v6 then (fX12_ray_b127 N c8 v1 v3 v5 v4 0 σ) else (fX12_ray_b127 N c8 v1 v3 v5 v4 (-1) σ)) else (fX12_ray_b127 N c8 v1 v3 v5 v4 1 σ)))
set_option maxRecDepth 20000 in
set_option maxHeartbeats 4000000 in
theorem aX12_ray_b97 (N : Nat) (c8 : Int32 → Int32 → Int32 → Int32 → qMem → Option qMem) (hc8 : ∀ (v1 : Int32) (v3 : Int32) (v4 : Int32) (v5 : Int32) (σ : qMem), qAt wM mX12_ray (ρv) 8 [(0, .ref 0), (1, .int v1), (3, .int v3), (4, .int v4), (5, .int v5)] [] σ (c8 v1 v3 v4 v5 σ)) (v1 : Int32) (v3 : Int32) (v4 : Int32) (v5 : Int32) (v6 : Int32) (u1 : Int32) (σ : qMem) : qAt wM mX12_ray (ρv) 97 [(0, .ref 0), (1, .int v1), (3, .int v3), (4, .int v4), (5, .int v5), (6, .int v6)] [.int u1, .ref 0] σ (fX12_ray_b97 N c8 v1 v3 v4 v5 v6 u1 σ) := by
  unfold fX12_ray_b97
  refine q_cVp mX12_slowOf [.int u1] (st := []) dX12_ray_97 (svX12_157) ⟨Nat.le_of_ble_eq_true rfl, Nat.le_of_ble_eq_true rfl⟩ zM_0 rfl rfl rfl (Nat.le_of_ble_eq_true rfl) (kX12_slowOf u1 σ) (fun y4 => ?_)
  refine q_istore (i := 7) (L' := [(7, .int y4), (0, .ref 0), (1, .int v1), (3, .int v3), (4, .int v4), (5, .int v5), (6, .int v6)]) dX12_ray_100 (Nat.le_of_ble_eq_true rfl) rfl ?_
  refine q_iload (i := 4) (x := v4) dX12_ray_102 4 rfl ?_
  refine q_iload (i := 6) (x := v6) dX12_ray_104 6 rfl ?_
  refine q_iload (i := 7) (x := y4) dX12_ray_106 0 rfl ?_
  refine q_icmp_le (tgt := 115) dX12_ray_108 (by decide) ?_ ?_
  · refine q_iload (i := 6) (x := v6) dX12_ray_115 6 rfl ?_
    refine q_iload (i := 7) (x := y4) dX12_ray_117 0 rfl ?_
    refine q_icmp_ge (tgt := 126) dX12_ray_119 (by decide) ?_ ?_
    · refine q_iconst (v := 0) dX12_ray_126 (by decide) ?_
      exact q_sub [1, 2, 3, 5] rfl (aX12_ray_b127 N c8 hc8 v1 v3 v5 v4 0 σ)
    refine q_iconst (v := (-1)) dX12_ray_122 (by decide) ?_
    refine q_goto (tgt := 127) dX12_ray_123 (by decide) ?_
    exact q_sub [1, 2, 3, 5] rfl (aX12_ray_b127 N c8 hc8 v1 v3 v5 v4 (-1) σ)
  refine q_iconst (v := 1) dX12_ray_111 (by decide) ?_
  refine q_goto (tgt := 127) dX12_ray_112 (by decide) ?_
  exact q_sub [1, 2, 3, 5] rfl (aX12_ray_b127 N c8 hc8 v1 v3 v5 v4 1 σ)

def fX12_ray_b80 (N : Nat) (c8 : Int32 → Int32 → Int32 → Int32 → qMem → Option qMem) (v1 : Int32) (v3 : Int32) (v4 : Int32) (v5 : Int32) (u1 : Int32) (σ : qMem) : Option qMem :=
  ((fX12_slowOf u1 σ).bind fun y3 => (if v3 = 0 then (fX12_ray_b97 N c8 v1 v3 v4 v5 y3 v3 σ) else (fX12_ray_b97 N c8 v1 v3 v4 v5 y3 (v3 - 1) σ)))
set_option maxRecDepth 20000 in
set_option maxHeartbeats 4000000 in
theorem aX12_ray_b80 (N : Nat) (c8 : Int32 → Int32 → Int32 → Int32 → qMem → Option qMem) (hc8 : ∀ (v1 : Int32) (v3 : Int32) (v4 : Int32) (v5 : Int32) (σ : qMem), qAt wM mX12_ray (ρv) 8 [(0, .ref 0), (1, .int v1), (3, .int v3), (4, .int v4), (5, .int v5)] [] σ (c8 v1 v3 v4 v5 σ)) (v1 : Int32) (v3 : Int32) (v4 : Int32) (v5 : Int32) (u1 : Int32) (σ : qMem) : qAt wM mX12_ray (ρv) 80 [(0, .ref 0), (1, .int v1), (3, .int v3), (4, .int v4), (5, .int v5)] [.int u1, .ref 0] σ (fX12_ray_b80 N c8 v1 v3 v4 v5 u1 σ) := by
  unfold fX12_ray_b80
  refine q_cVp mX12_slowOf [.int u1] (st := []) dX12_ray_80 (svX12_157) ⟨Nat.le_of_ble_eq_true rfl, Nat.le_of_ble_eq_true rfl⟩ zM_0 rfl rfl rfl (Nat.le_of_ble_eq_true rfl) (kX12_slowOf u1 σ) (fun y3 => ?_)
  refine q_istore (i := 6) (L' := [(6, .int y3), (0, .ref 0), (1, .int v1), (3, .int v3), (4, .int v4), (5, .int v5)]) dX12_ray_83 (Nat.le_of_ble_eq_true rfl) rfl ?_
  refine q_aload_n (i := 0) (x := 0) dX12_ray_85 rfl 1 rfl ?_
  refine q_iload_n (i := 3) (x := v3) dX12_ray_86 rfl 3 rfl ?_
  refine q_if_ne (tgt := 94) dX12_ray_87 (by decide) ?_ ?_
  · refine q_iload_n (i := 3) (x := v3) dX12_ray_94 rfl 3 rfl ?_
    refine q_iconst (v := 1) dX12_ray_95 (by decide) ?_
    refine q_isub dX12_ray_96 ?_
    exact q_sub [1, 2, 3, 4, 5, 0] rfl (aX12_ray_b97 N c8 hc8 v1 v3 v4 v5 y3 (v3 - 1) σ)
  refine q_iload_n (i := 3) (x := v3) dX12_ray_90 rfl 3 rfl ?_
  refine q_goto (tgt := 97) dX12_ray_91 (by decide) ?_
  exact q_sub [1, 2, 3, 4, 5, 0] rfl (aX12_ray_b97 N c8 hc8 v1 v3 v4 v5 y3 v3 σ)

def fX12_ray_b60 (N : Nat) (c8 : Int32 → Int32 → Int32 → Int32 → qMem → Option qMem) (c21 : Int32 → Int32 → Int32 → Int32 → Int32 → qMem → Option qMem) (v1 : Int32) (v3 : Int32) (v4 : Int32) (v5 : Int32) (v6 : Int32) (σ : qMem) : Option qMem :=
  (c21 v1 v3 v4 v5 (v6 + 1) σ)
set_option maxRecDepth 20000 in
set_option maxHeartbeats 4000000 in
theorem aX12_ray_b60 (N : Nat) (c8 : Int32 → Int32 → Int32 → Int32 → qMem → Option qMem) (c21 : Int32 → Int32 → Int32 → Int32 → Int32 → qMem → Option qMem) (hc8 : ∀ (v1 : Int32) (v3 : Int32) (v4 : Int32) (v5 : Int32) (σ : qMem), qAt wM mX12_ray (ρv) 8 [(0, .ref 0), (1, .int v1), (3, .int v3), (4, .int v4), (5, .int v5)] [] σ (c8 v1 v3 v4 v5 σ)) (hc21 : ∀ (v1 : Int32) (v3 : Int32) (v4 : Int32) (v5 : Int32) (v6 : Int32) (σ : qMem), qAt wM mX12_ray (ρv) 21 [(0, .ref 0), (1, .int v1), (3, .int v3), (4, .int v4), (5, .int v5), (6, .int v6)] [] σ (c21 v1 v3 v4 v5 v6 σ)) (v1 : Int32) (v3 : Int32) (v4 : Int32) (v5 : Int32) (v6 : Int32) (σ : qMem) : qAt wM mX12_ray (ρv) 60 [(0, .ref 0), (1, .int v1), (3, .int v3), (4, .int v4), (5, .int v5), (6, .int v6)] [] σ (fX12_ray_b60 N c8 c21 v1 v3 v4 v5 v6 σ) := by
  unfold fX12_ray_b60
  refine q_iinc (i := 6) (x := v6) (v := (v6 + 1)) (L' := [(6, .int (v6 + 1)), (0, .ref 0), (1, .int v1), (3, .int v3), (4, .int v4), (5, .int v5)]) dX12_ray_60 5 rfl (q_cst v6 (by decide)) (Nat.le_of_ble_eq_true rfl) rfl ?_
  refine q_goto (tgt := 21) dX12_ray_63 (by decide) ?_
  exact q_sub [1, 2, 3, 4, 5, 0] rfl (hc21 v1 v3 v4 v5 (v6 + 1) σ)

def fX12_ray_s21 (N : Nat) (c8 : Int32 → Int32 → Int32 → Int32 → qMem → Option qMem) (c21 : Int32 → Int32 → Int32 → Int32 → Int32 → qMem → Option qMem) (v1 : Int32) (v3 : Int32) (v4 : Int32) (v5 : Int32) (v6 : Int32) (σ : qMem) : Option qMem :=
  (if (v3 + 1) < v6 then (if v3 = 9 then (fX12_ray_b80 N c8 v1 v3 v4 v5 v3 σ) else (fX12_ray_b80 N c8 v1 v3 v4 v5 (v3 + 1) σ)) else ((fX12_in v6 0 9).bind fun y1 => (if y1 = 0 then (fX12_ray_b60 N c8 c21 v1 v3 v4 v5 v6 σ) else (if ck ((((10 * v1) + v6) * 201) + v5) 20100 = true then (nmM (si σ 5 ((((10 * v1) + v6) * 201) + v5).toNatClampNeg (vp_nar .boolean 1)) fun s2 => (fX12_ray_b60 N c8 c21 v1 v3 v4 v5 v6 s2)) else none))))
set_option maxRecDepth 20000 in
set_option maxHeartbeats 4000000 in
theorem aX12_ray_s21 (N : Nat) (c8 : Int32 → Int32 → Int32 → Int32 → qMem → Option qMem) (hc8 : ∀ (v1 : Int32) (v3 : Int32) (v4 : Int32) (v5 : Int32) (σ : qMem), qAt wM mX12_ray (ρv) 8 [(0, .ref 0), (1, .int v1), (3, .int v3), (4, .int v4), (5, .int v5)] [] σ (c8 v1 v3 v4 v5 σ)) (c21 : Int32 → Int32 → Int32 → Int32 → Int32 → qMem → Option qMem) (hc21 : ∀ (v1 : Int32) (v3 : Int32) (v4 : Int32) (v5 : Int32) (v6 : Int32) (σ : qMem), qAt wM mX12_ray (ρv) 21 [(0, .ref 0), (1, .int v1), (3, .int v3), (4, .int v4), (5, .int v5), (6, .int v6)] [] σ (c21 v1 v3 v4 v5 v6 σ)) (v1 : Int32) (v3 : Int32) (v4 : Int32) (v5 : Int32) (v6 : Int32) (σ : qMem) : qAt wM mX12_ray (ρv) 21 [(0, .ref 0), (1, .int v1), (3, .int v3), (4, .int v4), (5, .int v5), (6, .int v6)] [] σ (fX12_ray_s21 N c8 c21 v1 v3 v4 v5 v6 σ) := by
  unfold fX12_ray_s21
  refine q_iload (i := 6) (x := v6) dX12_ray_21 5 rfl ?_
  refine q_iload_n (i := 3) (x := v3) dX12_ray_23 rfl 2 rfl ?_
  refine q_iconst (v := 1) dX12_ray_24 (by decide) ?_
  refine q_iadd dX12_ray_25 ?_
  refine q_icmp_gt (tgt := 66) dX12_ray_26 (by decide) ?_ ?_
  · refine q_aload_n (i := 0) (x := 0) dX12_ray_66 rfl 0 rfl ?_
    refine q_iload_n (i := 3) (x := v3) dX12_ray_67 rfl 2 rfl ?_
    refine q_bipush (v := 9) dX12_ray_68 (by decide) ?_
    refine q_icmp_ne (tgt := 77) dX12_ray_70 (by decide) ?_ ?_
    · refine q_iload_n (i := 3) (x := v3) dX12_ray_77 rfl 2 rfl ?_
      refine q_iconst (v := 1) dX12_ray_78 (by decide) ?_
      refine q_iadd dX12_ray_79 ?_
      exact q_sub [0, 1, 2, 3, 4] rfl (aX12_ray_b80 N c8 hc8 v1 v3 v4 v5 (v3 + 1) σ)
    refine q_iload_n (i := 3) (x := v3) dX12_ray_73 rfl 2 rfl ?_
    refine q_goto (tgt := 80) dX12_ray_74 (by decide) ?_
    exact q_sub [0, 1, 2, 3, 4] rfl (aX12_ray_b80 N c8 hc8 v1 v3 v4 v5 v3 σ)
  refine q_iload (i := 6) (x := v6) dX12_ray_29 5 rfl ?_
  refine q_iconst (v := 0) dX12_ray_31 (by decide) ?_
  refine q_bipush (v := 9) dX12_ray_32 (by decide) ?_
  refine q_cSp mX12_in [.int v6, .int 0, .int 9] (st := []) dX12_ray_34 (ssX12_110) ⟨Nat.le_of_ble_eq_true rfl, Nat.le_of_ble_eq_true rfl⟩ rfl rfl (Nat.le_of_ble_eq_true rfl) (kX12_in v6 0 9 σ) (fun y1 => ?_)
  refine q_if_eq (tgt := 60) dX12_ray_37 (by decide) ?_ ?_
  · exact q_sub [0, 1, 2, 3, 4, 5] rfl (aX12_ray_b60 N c8 c21 hc8 hc21 v1 v3 v4 v5 v6 σ)
  refine q_aload_n (i := 0) (x := 0) dX12_ray_40 rfl 0 rfl ?_
  refine q_getr (t := 5) dX12_ray_41 foX12_30 zM_0 rfl ?_
  refine q_bipush (v := 10) dX12_ray_44 (by decide) ?_
  refine q_iload_n (i := 1) (x := v1) dX12_ray_46 rfl 1 rfl ?_
  refine q_imul dX12_ray_47 ?_
  refine q_iload (i := 6) (x := v6) dX12_ray_48 5 rfl ?_
  refine q_iadd dX12_ray_50 ?_
  refine q_sipush (v := 201) dX12_ray_51 (by decide) ?_
  refine q_imul dX12_ray_54 ?_
  refine q_iload (i := 5) (x := v5) dX12_ray_55 4 rfl ?_
  refine q_iadd dX12_ray_57 ?_
  refine q_iconst (v := 1) dX12_ray_58 (by decide) ?_
  refine q_zast dX12_ray_59 zM_5 ?_
  refine q_nmM (fun s2 => ?_)
  exact q_sub [0, 1, 2, 3, 4, 5] rfl (aX12_ray_b60 N c8 c21 hc8 hc21 v1 v3 v4 v5 v6 s2)
def fX12_ray_l21 (N : Nat) (c8 : Int32 → Int32 → Int32 → Int32 → qMem → Option qMem) : Nat → Int32 → Int32 → Int32 → Int32 → Int32 → qMem → Option qMem
  | 0 => fun _ _ _ _ _ _ => none
  | n + 1 => fun v1 v3 v4 v5 v6 σ => fX12_ray_s21 N c8 (fX12_ray_l21 N c8 n) v1 v3 v4 v5 v6 σ
theorem aX12_ray_l21 (N : Nat) (c8 : Int32 → Int32 → Int32 → Int32 → qMem → Option qMem) (hc8 : ∀ (v1 : Int32) (v3 : Int32) (v4 : Int32) (v5 : Int32) (σ : qMem), qAt wM mX12_ray (ρv) 8 [(0, .ref 0), (1, .int v1), (3, .int v3), (4, .int v4), (5, .int v5)] [] σ (c8 v1 v3 v4 v5 σ)) : ∀ (n : Nat) (v1 : Int32) (v3 : Int32) (v4 : Int32) (v5 : Int32) (v6 : Int32) (σ : qMem), qAt wM mX12_ray (ρv) 21 [(0, .ref 0), (1, .int v1), (3, .int v3), (4, .int v4), (5, .int v5), (6, .int v6)] [] σ (fX12_ray_l21 N c8 n v1 v3 v4 v5 v6 σ) := by
  intro n
  induction n with
  | zero => intro v1 v3 v4 v5 v6 σ; exact q_none
  | succ n ih => intro v1 v3 v4 v5 v6 σ; exact aX12_ray_s21 N c8 hc8 (fX12_ray_l21 N c8 n) ih v1 v3 v4 v5 v6 σ

def fX12_ray_s8 (N : Nat) (c8 : Int32 → Int32 → Int32 → Int32 → qMem → Option qMem) (v1 : Int32) (v3 : Int32) (v4 : Int32) (v5 : Int32) (σ : qMem) : Option qMem :=
  (if 201 ≤ v5 then (some σ) else (fX12_ray_l21 N c8 N v1 v3 v4 v5 (v3 - 1) σ))
set_option maxRecDepth 20000 in
set_option maxHeartbeats 4000000 in
theorem aX12_ray_s8 (N : Nat) (c8 : Int32 → Int32 → Int32 → Int32 → qMem → Option qMem) (hc8 : ∀ (v1 : Int32) (v3 : Int32) (v4 : Int32) (v5 : Int32) (σ : qMem), qAt wM mX12_ray (ρv) 8 [(0, .ref 0), (1, .int v1), (3, .int v3), (4, .int v4), (5, .int v5)] [] σ (c8 v1 v3 v4 v5 σ)) (v1 : Int32) (v3 : Int32) (v4 : Int32) (v5 : Int32) (σ : qMem) : qAt wM mX12_ray (ρv) 8 [(0, .ref 0), (1, .int v1), (3, .int v3), (4, .int v4), (5, .int v5)] [] σ (fX12_ray_s8 N c8 v1 v3 v4 v5 σ) := by
  unfold fX12_ray_s8
  refine q_iload (i := 5) (x := v5) dX12_ray_8 4 rfl ?_
  refine q_sipush (v := 201) dX12_ray_10 (by decide) ?_
  refine q_icmp_ge (tgt := 199) dX12_ray_13 (by decide) ?_ ?_
  · exact q_vret (y := σ) dX12_ray_199 rfl rfl
  refine q_iload_n (i := 3) (x := v3) dX12_ray_16 rfl 2 rfl ?_
  refine q_iconst (v := 1) dX12_ray_17 (by decide) ?_
  refine q_isub dX12_ray_18 ?_
  refine q_istore (i := 6) (L' := [(6, .int (v3 - 1)), (0, .ref 0), (1, .int v1), (3, .int v3), (4, .int v4), (5, .int v5)]) dX12_ray_19 (Nat.le_of_ble_eq_true rfl) rfl ?_
  exact q_sub [1, 2, 3, 4, 5, 0] rfl (aX12_ray_l21 N c8 hc8 N v1 v3 v4 v5 (v3 - 1) σ)
def fX12_ray_l8 (N : Nat) : Nat → Int32 → Int32 → Int32 → Int32 → qMem → Option qMem
  | 0 => fun _ _ _ _ _ => none
  | n + 1 => fun v1 v3 v4 v5 σ => fX12_ray_s8 N (fX12_ray_l8 N n) v1 v3 v4 v5 σ
theorem aX12_ray_l8 (N : Nat) : ∀ (n : Nat) (v1 : Int32) (v3 : Int32) (v4 : Int32) (v5 : Int32) (σ : qMem), qAt wM mX12_ray (ρv) 8 [(0, .ref 0), (1, .int v1), (3, .int v3), (4, .int v4), (5, .int v5)] [] σ (fX12_ray_l8 N n v1 v3 v4 v5 σ) := by
  intro n
  induction n with
  | zero => intro v1 v3 v4 v5 σ; exact q_none
  | succ n ih => intro v1 v3 v4 v5 σ; exact aX12_ray_s8 N (fX12_ray_l8 N n) ih v1 v3 v4 v5 σ

def fX12_ray (N : Nat) (p1 : Int32) (p2 : Int32) (σ : qMem) : Option qMem :=
  (fX12_ray_l8 N N p1 p1 p2 0 σ)
set_option maxRecDepth 20000 in
set_option maxHeartbeats 4000000 in
theorem aX12_ray  (N : Nat) (p1 : Int32) (p2 : Int32)  (σ : qMem) : qAt wM mX12_ray (ρv) 0 [(0, .ref 0), (1, .int p1), (2, .int p2)] [] σ (fX12_ray N p1 p2 σ) := by
  unfold fX12_ray
  refine q_iload_n (i := 1) (x := p1) dX12_ray_0 rfl 1 rfl ?_
  refine q_istore_n (i := 3) (L' := [(3, .int p1), (0, .ref 0), (1, .int p1), (2, .int p2)]) dX12_ray_1 rfl (Nat.le_of_ble_eq_true rfl) rfl ?_
  refine q_iload_n (i := 2) (x := p2) dX12_ray_2 rfl 3 rfl ?_
  refine q_istore (i := 4) (L' := [(4, .int p2), (3, .int p1), (0, .ref 0), (1, .int p1), (2, .int p2)]) dX12_ray_3 (Nat.le_of_ble_eq_true rfl) rfl ?_
  refine q_iconst (v := 0) dX12_ray_5 (by decide) ?_
  refine q_istore (i := 5) (L' := [(5, .int 0), (4, .int p2), (3, .int p1), (0, .ref 0), (1, .int p1), (2, .int p2)]) dX12_ray_6 (Nat.le_of_ble_eq_true rfl) rfl ?_
  exact q_sub [3, 4, 2, 1, 0] rfl (aX12_ray_l8 N N p1 p1 p2 0 σ)
theorem kX12_ray  (N : Nat) (p1 : Int32) (p2 : Int32)  (σ : qMem) : qMc wM mX12_ray (ρv) [.ref 0, .int p1, .int p2] σ (fX12_ray N p1 p2 σ) := qMc_of (moX12_ray) (Nat.le_of_ble_eq_true rfl) (aX12_ray N p1 p2  σ)

theorem dX12_carries_0 : decode cX12_carries 0 = .ok (.aload_n 0, 1) := by decide +kernel
theorem dX12_carries_1 : decode cX12_carries 1 = .ok (.getfield 33, 3) := by decide +kernel
theorem dX12_carries_4 : decode cX12_carries 4 = .ok (.aload_n 0, 1) := by decide +kernel
theorem dX12_carries_5 : decode cX12_carries 5 = .ok (.getfield 11, 3) := by decide +kernel
theorem dX12_carries_8 : decode cX12_carries 8 = .ok (.if_icmp .eq 76, 3) := by decide +kernel
theorem dX12_carries_11 : decode cX12_carries 11 = .ok (.aload_n 0, 1) := by decide +kernel
theorem dX12_carries_12 : decode cX12_carries 12 = .ok (.aload_n 0, 1) := by decide +kernel
theorem dX12_carries_13 : decode cX12_carries 13 = .ok (.getfield 11, 3) := by decide +kernel
theorem dX12_carries_16 : decode cX12_carries 16 = .ok (.putfield 33, 3) := by decide +kernel
theorem dX12_carries_19 : decode cX12_carries 19 = .ok (.iconst 0, 1) := by decide +kernel
theorem dX12_carries_20 : decode cX12_carries 20 = .ok (.istore 4, 2) := by decide +kernel
theorem dX12_carries_22 : decode cX12_carries 22 = .ok (.iload 4, 2) := by decide +kernel
theorem dX12_carries_24 : decode cX12_carries 24 = .ok (.sipush 20100, 3) := by decide +kernel
theorem dX12_carries_27 : decode cX12_carries 27 = .ok (.if_icmp .ge 17, 3) := by decide +kernel
theorem dX12_carries_30 : decode cX12_carries 30 = .ok (.aload_n 0, 1) := by decide +kernel
theorem dX12_carries_31 : decode cX12_carries 31 = .ok (.getfield 30, 3) := by decide +kernel
theorem dX12_carries_34 : decode cX12_carries 34 = .ok (.iload 4, 2) := by decide +kernel
theorem dX12_carries_36 : decode cX12_carries 36 = .ok (.iconst 0, 1) := by decide +kernel
theorem dX12_carries_37 : decode cX12_carries 37 = .ok (.bastore, 1) := by decide +kernel
theorem dX12_carries_38 : decode cX12_carries 38 = .ok (.iinc 4 1, 3) := by decide +kernel
theorem dX12_carries_41 : decode cX12_carries 41 = .ok (.goto (-19), 3) := by decide +kernel
theorem dX12_carries_44 : decode cX12_carries 44 = .ok (.iconst 0, 1) := by decide +kernel
theorem dX12_carries_45 : decode cX12_carries 45 = .ok (.istore 4, 2) := by decide +kernel
theorem dX12_carries_47 : decode cX12_carries 47 = .ok (.iload 4, 2) := by decide +kernel
theorem dX12_carries_49 : decode cX12_carries 49 = .ok (.bipush 10, 2) := by decide +kernel
theorem dX12_carries_51 : decode cX12_carries 51 = .ok (.if_icmp .ge 33, 3) := by decide +kernel
theorem dX12_carries_54 : decode cX12_carries 54 = .ok (.bipush (-2), 2) := by decide +kernel
theorem dX12_carries_56 : decode cX12_carries 56 = .ok (.istore 5, 2) := by decide +kernel
theorem dX12_carries_58 : decode cX12_carries 58 = .ok (.iload 5, 2) := by decide +kernel
theorem dX12_carries_60 : decode cX12_carries 60 = .ok (.iconst 2, 1) := by decide +kernel
theorem dX12_carries_61 : decode cX12_carries 61 = .ok (.if_icmp .gt 17, 3) := by decide +kernel
theorem dX12_carries_64 : decode cX12_carries 64 = .ok (.aload_n 0, 1) := by decide +kernel
theorem dX12_carries_65 : decode cX12_carries 65 = .ok (.iload 4, 2) := by decide +kernel
theorem dX12_carries_67 : decode cX12_carries 67 = .ok (.iload 5, 2) := by decide +kernel
theorem dX12_carries_69 : decode cX12_carries 69 = .ok (.invokevirtual 160, 3) := by decide +kernel
theorem dX12_carries_72 : decode cX12_carries 72 = .ok (.iinc 5 1, 3) := by decide +kernel
theorem dX12_carries_75 : decode cX12_carries 75 = .ok (.goto (-17), 3) := by decide +kernel
theorem dX12_carries_78 : decode cX12_carries 78 = .ok (.iinc 4 1, 3) := by decide +kernel
theorem dX12_carries_81 : decode cX12_carries 81 = .ok (.goto (-34), 3) := by decide +kernel
theorem dX12_carries_84 : decode cX12_carries 84 = .ok (.aload_n 0, 1) := by decide +kernel
theorem dX12_carries_85 : decode cX12_carries 85 = .ok (.getfield 30, 3) := by decide +kernel
theorem dX12_carries_88 : decode cX12_carries 88 = .ok (.bipush 10, 2) := by decide +kernel
theorem dX12_carries_90 : decode cX12_carries 90 = .ok (.iload_n 1, 1) := by decide +kernel
theorem dX12_carries_91 : decode cX12_carries 91 = .ok (.imul, 1) := by decide +kernel
theorem dX12_carries_92 : decode cX12_carries 92 = .ok (.iload_n 2, 1) := by decide +kernel
theorem dX12_carries_93 : decode cX12_carries 93 = .ok (.iadd, 1) := by decide +kernel
theorem dX12_carries_94 : decode cX12_carries 94 = .ok (.sipush 201, 3) := by decide +kernel
theorem dX12_carries_97 : decode cX12_carries 97 = .ok (.imul, 1) := by decide +kernel
theorem dX12_carries_98 : decode cX12_carries 98 = .ok (.iload_n 3, 1) := by decide +kernel
theorem dX12_carries_99 : decode cX12_carries 99 = .ok (.iadd, 1) := by decide +kernel
theorem dX12_carries_100 : decode cX12_carries 100 = .ok (.baload, 1) := by decide +kernel
theorem dX12_carries_101 : decode cX12_carries 101 = .ok (.ireturn, 1) := by decide +kernel
def fX12_carries_b84 (N : Nat) (v1 : Int32) (v2 : Int32) (v3 : Int32) (σ : qMem) : Option (Int32 × qMem) :=
  (if ck ((((10 * v1) + v2) * 201) + v3) 20100 = true then (if (gi σ 5 ((((10 * v1) + v2) * 201) + v3).toNatClampNeg) = 0 ∨ (gi σ 5 ((((10 * v1) + v2) * 201) + v3).toNatClampNeg) = 1 then some ((gi σ 5 ((((10 * v1) + v2) * 201) + v3).toNatClampNeg), σ) else none) else none)
set_option maxRecDepth 20000 in
set_option maxHeartbeats 4000000 in
theorem aX12_carries_b84 (N : Nat) (v1 : Int32) (v2 : Int32) (v3 : Int32) (σ : qMem) : qAt wM mX12_carries (ρi) 84 [(0, .ref 0), (1, .int v1), (2, .int v2), (3, .int v3)] [] σ (fX12_carries_b84 N v1 v2 v3 σ) := by
  unfold fX12_carries_b84
  refine q_aload_n (i := 0) (x := 0) dX12_carries_84 rfl 0 rfl ?_
  refine q_getr (t := 5) dX12_carries_85 foX12_30 zM_0 rfl ?_
  refine q_bipush (v := 10) dX12_carries_88 (by decide) ?_
  refine q_iload_n (i := 1) (x := v1) dX12_carries_90 rfl 1 rfl ?_
  refine q_imul dX12_carries_91 ?_
  refine q_iload_n (i := 2) (x := v2) dX12_carries_92 rfl 2 rfl ?_
  refine q_iadd dX12_carries_93 ?_
  refine q_sipush (v := 201) dX12_carries_94 (by decide) ?_
  refine q_imul dX12_carries_97 ?_
  refine q_iload_n (i := 3) (x := v3) dX12_carries_98 rfl 3 rfl ?_
  refine q_iadd dX12_carries_99 ?_
  refine q_zald dX12_carries_100 zM_5 ?_
  exact q_if (fun hz => q_iretz (y := ((gi σ 5 ((((10 * v1) + v2) * 201) + v3).toNatClampNeg), σ)) dX12_carries_101 rfl (nb_ok hz) rfl)

def fX12_carries_s58 (N : Nat) (c47 : Int32 → Int32 → Int32 → Int32 → qMem → Option (Int32 × qMem)) (c58 : Int32 → Int32 → Int32 → Int32 → Int32 → qMem → Option (Int32 × qMem)) (v1 : Int32) (v2 : Int32) (v3 : Int32) (v4 : Int32) (v5 : Int32) (σ : qMem) : Option (Int32 × qMem) :=
  (if 2 < v5 then (c47 v1 v2 v3 (v4 + 1) σ) else ((fX12_ray N v4 v5 σ).bind fun y3 => (c58 v1 v2 v3 v4 (v5 + 1) y3)))
set_option maxRecDepth 20000 in
set_option maxHeartbeats 4000000 in
theorem aX12_carries_s58 (N : Nat) (c47 : Int32 → Int32 → Int32 → Int32 → qMem → Option (Int32 × qMem)) (hc47 : ∀ (v1 : Int32) (v2 : Int32) (v3 : Int32) (v4 : Int32) (σ : qMem), qAt wM mX12_carries (ρi) 47 [(0, .ref 0), (1, .int v1), (2, .int v2), (3, .int v3), (4, .int v4)] [] σ (c47 v1 v2 v3 v4 σ)) (c58 : Int32 → Int32 → Int32 → Int32 → Int32 → qMem → Option (Int32 × qMem)) (hc58 : ∀ (v1 : Int32) (v2 : Int32) (v3 : Int32) (v4 : Int32) (v5 : Int32) (σ : qMem), qAt wM mX12_carries (ρi) 58 [(0, .ref 0), (1, .int v1), (2, .int v2), (3, .int v3), (4, .int v4), (5, .int v5)] [] σ (c58 v1 v2 v3 v4 v5 σ)) (v1 : Int32) (v2 : Int32) (v3 : Int32) (v4 : Int32) (v5 : Int32) (σ : qMem) : qAt wM mX12_carries (ρi) 58 [(0, .ref 0), (1, .int v1), (2, .int v2), (3, .int v3), (4, .int v4), (5, .int v5)] [] σ (fX12_carries_s58 N c47 c58 v1 v2 v3 v4 v5 σ) := by
  unfold fX12_carries_s58
  refine q_iload (i := 5) (x := v5) dX12_carries_58 5 rfl ?_
  refine q_iconst (v := 2) dX12_carries_60 (by decide) ?_
  refine q_icmp_gt (tgt := 78) dX12_carries_61 (by decide) ?_ ?_
  · refine q_iinc (i := 4) (x := v4) (v := (v4 + 1)) (L' := [(4, .int (v4 + 1)), (0, .ref 0), (1, .int v1), (2, .int v2), (3, .int v3), (5, .int v5)]) dX12_carries_78 4 rfl (q_cst v4 (by decide)) (Nat.le_of_ble_eq_true rfl) rfl ?_
    refine q_goto (tgt := 47) dX12_carries_81 (by decide) ?_
    exact q_sub [1, 2, 3, 4, 0] rfl (hc47 v1 v2 v3 (v4 + 1) σ)
  refine q_aload_n (i := 0) (x := 0) dX12_carries_64 rfl 0 rfl ?_
  refine q_iload (i := 4) (x := v4) dX12_carries_65 4 rfl ?_
  refine q_iload (i := 5) (x := v5) dX12_carries_67 5 rfl ?_
  refine q_cVv mX12_ray [.int v4, .int v5] (st := []) dX12_carries_69 (svX12_160) ⟨Nat.le_of_ble_eq_true rfl, Nat.le_of_ble_eq_true rfl⟩ zM_0 rfl rfl rfl (Nat.le_of_ble_eq_true rfl) (kX12_ray N v4 v5 σ) (fun y3 => ?_)
  refine q_iinc (i := 5) (x := v5) (v := (v5 + 1)) (L' := [(5, .int (v5 + 1)), (0, .ref 0), (1, .int v1), (2, .int v2), (3, .int v3), (4, .int v4)]) dX12_carries_72 5 rfl (q_cst v5 (by decide)) (Nat.le_of_ble_eq_true rfl) rfl ?_
  refine q_goto (tgt := 58) dX12_carries_75 (by decide) ?_
  exact q_sub [1, 2, 3, 4, 5, 0] rfl (hc58 v1 v2 v3 v4 (v5 + 1) y3)
def fX12_carries_l58 (N : Nat) (c47 : Int32 → Int32 → Int32 → Int32 → qMem → Option (Int32 × qMem)) : Nat → Int32 → Int32 → Int32 → Int32 → Int32 → qMem → Option (Int32 × qMem)
  | 0 => fun _ _ _ _ _ _ => none
  | n + 1 => fun v1 v2 v3 v4 v5 σ => fX12_carries_s58 N c47 (fX12_carries_l58 N c47 n) v1 v2 v3 v4 v5 σ
theorem aX12_carries_l58 (N : Nat) (c47 : Int32 → Int32 → Int32 → Int32 → qMem → Option (Int32 × qMem)) (hc47 : ∀ (v1 : Int32) (v2 : Int32) (v3 : Int32) (v4 : Int32) (σ : qMem), qAt wM mX12_carries (ρi) 47 [(0, .ref 0), (1, .int v1), (2, .int v2), (3, .int v3), (4, .int v4)] [] σ (c47 v1 v2 v3 v4 σ)) : ∀ (n : Nat) (v1 : Int32) (v2 : Int32) (v3 : Int32) (v4 : Int32) (v5 : Int32) (σ : qMem), qAt wM mX12_carries (ρi) 58 [(0, .ref 0), (1, .int v1), (2, .int v2), (3, .int v3), (4, .int v4), (5, .int v5)] [] σ (fX12_carries_l58 N c47 n v1 v2 v3 v4 v5 σ) := by
  intro n
  induction n with
  | zero => intro v1 v2 v3 v4 v5 σ; exact q_none
  | succ n ih => intro v1 v2 v3 v4 v5 σ; exact aX12_carries_s58 N c47 hc47 (fX12_carries_l58 N c47 n) ih v1 v2 v3 v4 v5 σ

def fX12_carries_s47 (N : Nat) (c47 : Int32 → Int32 → Int32 → Int32 → qMem → Option (Int32 × qMem)) (v1 : Int32) (v2 : Int32) (v3 : Int32) (v4 : Int32) (σ : qMem) : Option (Int32 × qMem) :=
  (if 10 ≤ v4 then (fX12_carries_b84 N v1 v2 v3 σ) else (fX12_carries_l58 N c47 N v1 v2 v3 v4 (-2) σ))
set_option maxRecDepth 20000 in
set_option maxHeartbeats 4000000 in
theorem aX12_carries_s47 (N : Nat) (c47 : Int32 → Int32 → Int32 → Int32 → qMem → Option (Int32 × qMem)) (hc47 : ∀ (v1 : Int32) (v2 : Int32) (v3 : Int32) (v4 : Int32) (σ : qMem), qAt wM mX12_carries (ρi) 47 [(0, .ref 0), (1, .int v1), (2, .int v2), (3, .int v3), (4, .int v4)] [] σ (c47 v1 v2 v3 v4 σ)) (v1 : Int32) (v2 : Int32) (v3 : Int32) (v4 : Int32) (σ : qMem) : qAt wM mX12_carries (ρi) 47 [(0, .ref 0), (1, .int v1), (2, .int v2), (3, .int v3), (4, .int v4)] [] σ (fX12_carries_s47 N c47 v1 v2 v3 v4 σ) := by
  unfold fX12_carries_s47
  refine q_iload (i := 4) (x := v4) dX12_carries_47 4 rfl ?_
  refine q_bipush (v := 10) dX12_carries_49 (by decide) ?_
  refine q_icmp_ge (tgt := 84) dX12_carries_51 (by decide) ?_ ?_
  · exact q_sub [0, 1, 2, 3] rfl (aX12_carries_b84 N v1 v2 v3 σ)
  refine q_bipush (v := (-2)) dX12_carries_54 (by decide) ?_
  refine q_istore (i := 5) (L' := [(5, .int (-2)), (0, .ref 0), (1, .int v1), (2, .int v2), (3, .int v3), (4, .int v4)]) dX12_carries_56 (Nat.le_of_ble_eq_true rfl) rfl ?_
  exact q_sub [1, 2, 3, 4, 5, 0] rfl (aX12_carries_l58 N c47 hc47 N v1 v2 v3 v4 (-2) σ)
def fX12_carries_l47 (N : Nat) : Nat → Int32 → Int32 → Int32 → Int32 → qMem → Option (Int32 × qMem)
  | 0 => fun _ _ _ _ _ => none
  | n + 1 => fun v1 v2 v3 v4 σ => fX12_carries_s47 N (fX12_carries_l47 N n) v1 v2 v3 v4 σ
theorem aX12_carries_l47 (N : Nat) : ∀ (n : Nat) (v1 : Int32) (v2 : Int32) (v3 : Int32) (v4 : Int32) (σ : qMem), qAt wM mX12_carries (ρi) 47 [(0, .ref 0), (1, .int v1), (2, .int v2), (3, .int v3), (4, .int v4)] [] σ (fX12_carries_l47 N n v1 v2 v3 v4 σ) := by
  intro n
  induction n with
  | zero => intro v1 v2 v3 v4 σ; exact q_none
  | succ n ih => intro v1 v2 v3 v4 σ; exact aX12_carries_s47 N (fX12_carries_l47 N n) ih v1 v2 v3 v4 σ

def fX12_carries_s22 (N : Nat) (c22 : Int32 → Int32 → Int32 → Int32 → qMem → Option (Int32 × qMem)) (v1 : Int32) (v2 : Int32) (v3 : Int32) (v4 : Int32) (σ : qMem) : Option (Int32 × qMem) :=
  (if 20100 ≤ v4 then (fX12_carries_l47 N N v1 v2 v3 0 σ) else (if ck v4 20100 = true then (nmM (si σ 5 v4.toNatClampNeg (vp_nar .boolean 0)) fun s2 => (c22 v1 v2 v3 (v4 + 1) s2)) else none))
set_option maxRecDepth 20000 in
set_option maxHeartbeats 4000000 in
theorem aX12_carries_s22 (N : Nat) (c22 : Int32 → Int32 → Int32 → Int32 → qMem → Option (Int32 × qMem)) (hc22 : ∀ (v1 : Int32) (v2 : Int32) (v3 : Int32) (v4 : Int32) (σ : qMem), qAt wM mX12_carries (ρi) 22 [(0, .ref 0), (1, .int v1), (2, .int v2), (3, .int v3), (4, .int v4)] [] σ (c22 v1 v2 v3 v4 σ)) (v1 : Int32) (v2 : Int32) (v3 : Int32) (v4 : Int32) (σ : qMem) : qAt wM mX12_carries (ρi) 22 [(0, .ref 0), (1, .int v1), (2, .int v2), (3, .int v3), (4, .int v4)] [] σ (fX12_carries_s22 N c22 v1 v2 v3 v4 σ) := by
  unfold fX12_carries_s22
  refine q_iload (i := 4) (x := v4) dX12_carries_22 4 rfl ?_
  refine q_sipush (v := 20100) dX12_carries_24 (by decide) ?_
  refine q_icmp_ge (tgt := 44) dX12_carries_27 (by decide) ?_ ?_
  · refine q_iconst (v := 0) dX12_carries_44 (by decide) ?_
    refine q_istore (i := 4) (L' := [(4, .int 0), (0, .ref 0), (1, .int v1), (2, .int v2), (3, .int v3)]) dX12_carries_45 (Nat.le_of_ble_eq_true rfl) rfl ?_
    exact q_sub [1, 2, 3, 4, 0] rfl (aX12_carries_l47 N N v1 v2 v3 0 σ)
  refine q_aload_n (i := 0) (x := 0) dX12_carries_30 rfl 0 rfl ?_
  refine q_getr (t := 5) dX12_carries_31 foX12_30 zM_0 rfl ?_
  refine q_iload (i := 4) (x := v4) dX12_carries_34 4 rfl ?_
  refine q_iconst (v := 0) dX12_carries_36 (by decide) ?_
  refine q_zast dX12_carries_37 zM_5 ?_
  refine q_nmM (fun s2 => ?_)
  refine q_iinc (i := 4) (x := v4) (v := (v4 + 1)) (L' := [(4, .int (v4 + 1)), (0, .ref 0), (1, .int v1), (2, .int v2), (3, .int v3)]) dX12_carries_38 4 rfl (q_cst v4 (by decide)) (Nat.le_of_ble_eq_true rfl) rfl ?_
  refine q_goto (tgt := 22) dX12_carries_41 (by decide) ?_
  exact q_sub [1, 2, 3, 4, 0] rfl (hc22 v1 v2 v3 (v4 + 1) s2)
def fX12_carries_l22 (N : Nat) : Nat → Int32 → Int32 → Int32 → Int32 → qMem → Option (Int32 × qMem)
  | 0 => fun _ _ _ _ _ => none
  | n + 1 => fun v1 v2 v3 v4 σ => fX12_carries_s22 N (fX12_carries_l22 N n) v1 v2 v3 v4 σ
theorem aX12_carries_l22 (N : Nat) : ∀ (n : Nat) (v1 : Int32) (v2 : Int32) (v3 : Int32) (v4 : Int32) (σ : qMem), qAt wM mX12_carries (ρi) 22 [(0, .ref 0), (1, .int v1), (2, .int v2), (3, .int v3), (4, .int v4)] [] σ (fX12_carries_l22 N n v1 v2 v3 v4 σ) := by
  intro n
  induction n with
  | zero => intro v1 v2 v3 v4 σ; exact q_none
  | succ n ih => intro v1 v2 v3 v4 σ; exact aX12_carries_s22 N (fX12_carries_l22 N n) ih v1 v2 v3 v4 σ

def fX12_carries (N : Nat) (p1 : Int32) (p2 : Int32) (p3 : Int32) (σ : qMem) : Option (Int32 × qMem) :=
  (if (gi σ 0 7) = (gi σ 0 2) then (fX12_carries_b84 N p1 p2 p3 σ) else (nmM (si σ 0 7 (gi σ 0 2)) fun s1 => (fX12_carries_l22 N N p1 p2 p3 0 s1)))
set_option maxRecDepth 20000 in
set_option maxHeartbeats 4000000 in
theorem aX12_carries  (N : Nat) (p1 : Int32) (p2 : Int32) (p3 : Int32)  (σ : qMem) : qAt wM mX12_carries (ρi) 0 [(0, .ref 0), (1, .int p1), (2, .int p2), (3, .int p3)] [] σ (fX12_carries N p1 p2 p3 σ) := by
  unfold fX12_carries
  refine q_aload_n (i := 0) (x := 0) dX12_carries_0 rfl 0 rfl ?_
  refine q_geti dX12_carries_1 foX12_33 zM_0 rfl ?_
  refine q_aload_n (i := 0) (x := 0) dX12_carries_4 rfl 0 rfl ?_
  refine q_geti dX12_carries_5 foX12_11 zM_0 rfl ?_
  refine q_icmp_eq (tgt := 84) dX12_carries_8 (by decide) ?_ ?_
  · exact q_sub [0, 1, 2, 3] rfl (aX12_carries_b84 N p1 p2 p3 σ)
  refine q_aload_n (i := 0) (x := 0) dX12_carries_11 rfl 0 rfl ?_
  refine q_aload_n (i := 0) (x := 0) dX12_carries_12 rfl 0 rfl ?_
  refine q_geti dX12_carries_13 foX12_11 zM_0 rfl ?_
  refine q_puti dX12_carries_16 foX12_33 fwX12_7 zM_0 rfl ?_
  refine q_nmM (fun s1 => ?_)
  refine q_iconst (v := 0) dX12_carries_19 (by decide) ?_
  refine q_istore (i := 4) (L' := [(4, .int 0), (0, .ref 0), (1, .int p1), (2, .int p2), (3, .int p3)]) dX12_carries_20 (Nat.le_of_ble_eq_true rfl) rfl ?_
  exact q_sub [1, 2, 3, 4, 0] rfl (aX12_carries_l22 N N p1 p2 p3 0 s1)
theorem kX12_carries  (N : Nat) (p1 : Int32) (p2 : Int32) (p3 : Int32)  (σ : qMem) : qMc wM mX12_carries (ρi) [.ref 0, .int p1, .int p2, .int p3] σ (fX12_carries N p1 p2 p3 σ) := qMc_of (moX12_carries) (Nat.le_of_ble_eq_true rfl) (aX12_carries N p1 p2 p3  σ)

theorem dX12_reaches_0 : decode cX12_reaches 0 = .ok (.iload_n 1, 1) := by decide +kernel
theorem dX12_reaches_1 : decode cX12_reaches 1 = .ok (.iconst 0, 1) := by decide +kernel
theorem dX12_reaches_2 : decode cX12_reaches 2 = .ok (.bipush 9, 2) := by decide +kernel
theorem dX12_reaches_4 : decode cX12_reaches 4 = .ok (.invokestatic 110, 3) := by decide +kernel
theorem dX12_reaches_7 : decode cX12_reaches 7 = .ok (.ifCond .eq 42, 3) := by decide +kernel
theorem dX12_reaches_10 : decode cX12_reaches 10 = .ok (.iload_n 2, 1) := by decide +kernel
theorem dX12_reaches_11 : decode cX12_reaches 11 = .ok (.iconst 0, 1) := by decide +kernel
theorem dX12_reaches_12 : decode cX12_reaches 12 = .ok (.bipush 9, 2) := by decide +kernel
theorem dX12_reaches_14 : decode cX12_reaches 14 = .ok (.invokestatic 110, 3) := by decide +kernel
theorem dX12_reaches_17 : decode cX12_reaches 17 = .ok (.ifCond .eq 32, 3) := by decide +kernel
theorem dX12_reaches_20 : decode cX12_reaches 20 = .ok (.iload_n 3, 1) := by decide +kernel
theorem dX12_reaches_21 : decode cX12_reaches 21 = .ok (.iconst 0, 1) := by decide +kernel
theorem dX12_reaches_22 : decode cX12_reaches 22 = .ok (.sipush 200, 3) := by decide +kernel
theorem dX12_reaches_25 : decode cX12_reaches 25 = .ok (.invokestatic 110, 3) := by decide +kernel
theorem dX12_reaches_28 : decode cX12_reaches 28 = .ok (.ifCond .eq 21, 3) := by decide +kernel
theorem dX12_reaches_31 : decode cX12_reaches 31 = .ok (.aload_n 0, 1) := by decide +kernel
theorem dX12_reaches_32 : decode cX12_reaches 32 = .ok (.iload_n 1, 1) := by decide +kernel
theorem dX12_reaches_33 : decode cX12_reaches 33 = .ok (.iload_n 2, 1) := by decide +kernel
theorem dX12_reaches_34 : decode cX12_reaches 34 = .ok (.iload_n 3, 1) := by decide +kernel
theorem dX12_reaches_35 : decode cX12_reaches 35 = .ok (.invokevirtual 164, 3) := by decide +kernel
theorem dX12_reaches_38 : decode cX12_reaches 38 = .ok (.ifCond .eq 7, 3) := by decide +kernel
theorem dX12_reaches_41 : decode cX12_reaches 41 = .ok (.iconst 1, 1) := by decide +kernel
theorem dX12_reaches_42 : decode cX12_reaches 42 = .ok (.goto 8, 3) := by decide +kernel
theorem dX12_reaches_45 : decode cX12_reaches 45 = .ok (.iconst 0, 1) := by decide +kernel
theorem dX12_reaches_46 : decode cX12_reaches 46 = .ok (.goto 4, 3) := by decide +kernel
theorem dX12_reaches_49 : decode cX12_reaches 49 = .ok (.iconst (-1), 1) := by decide +kernel
theorem dX12_reaches_50 : decode cX12_reaches 50 = .ok (.ireturn, 1) := by decide +kernel
def fX12_reaches_b49 (N : Nat) (σ : qMem) : Option (Int32 × qMem) :=
  (some ((-1), σ))
set_option maxRecDepth 20000 in
set_option maxHeartbeats 4000000 in
theorem aX12_reaches_b49 (N : Nat) (σ : qMem) : qAt wM mX12_reaches (ρi) 49 [] [] σ (fX12_reaches_b49 N σ) := by
  unfold fX12_reaches_b49
  refine q_iconst (v := (-1)) dX12_reaches_49 (by decide) ?_
  exact q_ireti (y := ((-1), σ)) dX12_reaches_50 rfl rfl

def fX12_reaches (N : Nat) (p1 : Int32) (p2 : Int32) (p3 : Int32) (σ : qMem) : Option (Int32 × qMem) :=
  ((fX12_in p1 0 9).bind fun y1 => (if y1 = 0 then (fX12_reaches_b49 N σ) else ((fX12_in p2 0 9).bind fun y2 => (if y2 = 0 then (fX12_reaches_b49 N σ) else ((fX12_in p3 0 200).bind fun y3 => (if y3 = 0 then (fX12_reaches_b49 N σ) else ((fX12_carries N p1 p2 p3 σ).bind fun y4 => (if y4.1 = 0 then (some (0, y4.2)) else (some (1, y4.2))))))))))
set_option maxRecDepth 20000 in
set_option maxHeartbeats 4000000 in
theorem aX12_reaches  (N : Nat) (p1 : Int32) (p2 : Int32) (p3 : Int32)  (σ : qMem) : qAt wM mX12_reaches (ρi) 0 [(0, .ref 0), (1, .int p1), (2, .int p2), (3, .int p3)] [] σ (fX12_reaches N p1 p2 p3 σ) := by
  unfold fX12_reaches
  refine q_iload_n (i := 1) (x := p1) dX12_reaches_0 rfl 1 rfl ?_
  refine q_iconst (v := 0) dX12_reaches_1 (by decide) ?_
  refine q_bipush (v := 9) dX12_reaches_2 (by decide) ?_
  refine q_cSp mX12_in [.int p1, .int 0, .int 9] (st := []) dX12_reaches_4 (ssX12_110) ⟨Nat.le_of_ble_eq_true rfl, Nat.le_of_ble_eq_true rfl⟩ rfl rfl (Nat.le_of_ble_eq_true rfl) (kX12_in p1 0 9 σ) (fun y1 => ?_)
  refine q_if_eq (tgt := 49) dX12_reaches_7 (by decide) ?_ ?_
  · exact q_sub [] rfl (aX12_reaches_b49 N σ)
  refine q_iload_n (i := 2) (x := p2) dX12_reaches_10 rfl 2 rfl ?_
  refine q_iconst (v := 0) dX12_reaches_11 (by decide) ?_
  refine q_bipush (v := 9) dX12_reaches_12 (by decide) ?_
  refine q_cSp mX12_in [.int p2, .int 0, .int 9] (st := []) dX12_reaches_14 (ssX12_110) ⟨Nat.le_of_ble_eq_true rfl, Nat.le_of_ble_eq_true rfl⟩ rfl rfl (Nat.le_of_ble_eq_true rfl) (kX12_in p2 0 9 σ) (fun y2 => ?_)
  refine q_if_eq (tgt := 49) dX12_reaches_17 (by decide) ?_ ?_
  · exact q_sub [] rfl (aX12_reaches_b49 N σ)
  refine q_iload_n (i := 3) (x := p3) dX12_reaches_20 rfl 3 rfl ?_
  refine q_iconst (v := 0) dX12_reaches_21 (by decide) ?_
  refine q_sipush (v := 200) dX12_reaches_22 (by decide) ?_
  refine q_cSp mX12_in [.int p3, .int 0, .int 200] (st := []) dX12_reaches_25 (ssX12_110) ⟨Nat.le_of_ble_eq_true rfl, Nat.le_of_ble_eq_true rfl⟩ rfl rfl (Nat.le_of_ble_eq_true rfl) (kX12_in p3 0 200 σ) (fun y3 => ?_)
  refine q_if_eq (tgt := 49) dX12_reaches_28 (by decide) ?_ ?_
  · exact q_sub [] rfl (aX12_reaches_b49 N σ)
  refine q_aload_n (i := 0) (x := 0) dX12_reaches_31 rfl 0 rfl ?_
  refine q_iload_n (i := 1) (x := p1) dX12_reaches_32 rfl 1 rfl ?_
  refine q_iload_n (i := 2) (x := p2) dX12_reaches_33 rfl 2 rfl ?_
  refine q_iload_n (i := 3) (x := p3) dX12_reaches_34 rfl 3 rfl ?_
  refine q_cVi mX12_carries [.int p1, .int p2, .int p3] (st := []) dX12_reaches_35 (svX12_164) ⟨Nat.le_of_ble_eq_true rfl, Nat.le_of_ble_eq_true rfl⟩ zM_0 rfl rfl rfl (Nat.le_of_ble_eq_true rfl) (kX12_carries N p1 p2 p3 σ) (fun y4 => ?_)
  refine q_if_eq (tgt := 45) dX12_reaches_38 (by decide) ?_ ?_
  · refine q_iconst (v := 0) dX12_reaches_45 (by decide) ?_
    refine q_goto (tgt := 50) dX12_reaches_46 (by decide) ?_
    exact q_ireti (y := (0, y4.2)) dX12_reaches_50 rfl rfl
  refine q_iconst (v := 1) dX12_reaches_41 (by decide) ?_
  refine q_goto (tgt := 50) dX12_reaches_42 (by decide) ?_
  exact q_ireti (y := (1, y4.2)) dX12_reaches_50 rfl rfl
theorem kX12_reaches  (N : Nat) (p1 : Int32) (p2 : Int32) (p3 : Int32)  (σ : qMem) : qMc wM mX12_reaches (ρi) [.ref 0, .int p1, .int p2, .int p3] σ (fX12_reaches N p1 p2 p3 σ) := qMc_of (moX12_reaches) (Nat.le_of_ble_eq_true rfl) (aX12_reaches N p1 p2 p3  σ)

theorem dX12_rose_0 : decode cX12_rose 0 = .ok (.iload_n 0, 1) := by decide +kernel
theorem dX12_rose_1 : decode cX12_rose 1 = .ok (.invokestatic 142, 3) := by decide +kernel
theorem dX12_rose_4 : decode cX12_rose 4 = .ok (.iload_n 1, 1) := by decide +kernel
theorem dX12_rose_5 : decode cX12_rose 5 = .ok (.invokestatic 142, 3) := by decide +kernel
theorem dX12_rose_8 : decode cX12_rose 8 = .ok (.invokestatic 145, 3) := by decide +kernel
theorem dX12_rose_11 : decode cX12_rose 11 = .ok (.istore_n 2, 1) := by decide +kernel
theorem dX12_rose_12 : decode cX12_rose 12 = .ok (.iload_n 1, 1) := by decide +kernel
theorem dX12_rose_13 : decode cX12_rose 13 = .ok (.iload_n 2, 1) := by decide +kernel
theorem dX12_rose_14 : decode cX12_rose 14 = .ok (.if_icmp .ne 17, 3) := by decide +kernel
theorem dX12_rose_17 : decode cX12_rose 17 = .ok (.iload_n 0, 1) := by decide +kernel
theorem dX12_rose_18 : decode cX12_rose 18 = .ok (.iload_n 2, 1) := by decide +kernel
theorem dX12_rose_19 : decode cX12_rose 19 = .ok (.if_icmp .ge 12, 3) := by decide +kernel
theorem dX12_rose_22 : decode cX12_rose 22 = .ok (.iload_n 0, 1) := by decide +kernel
theorem dX12_rose_23 : decode cX12_rose 23 = .ok (.iload_n 2, 1) := by decide +kernel
theorem dX12_rose_24 : decode cX12_rose 24 = .ok (.iadd, 1) := by decide +kernel
theorem dX12_rose_25 : decode cX12_rose 25 = .ok (.bipush 10, 2) := by decide +kernel
theorem dX12_rose_27 : decode cX12_rose 27 = .ok (.imul, 1) := by decide +kernel
theorem dX12_rose_28 : decode cX12_rose 28 = .ok (.iload_n 2, 1) := by decide +kernel
theorem dX12_rose_29 : decode cX12_rose 29 = .ok (.idiv, 1) := by decide +kernel
theorem dX12_rose_30 : decode cX12_rose 30 = .ok (.ireturn, 1) := by decide +kernel
theorem dX12_rose_31 : decode cX12_rose 31 = .ok (.iload_n 0, 1) := by decide +kernel
theorem dX12_rose_32 : decode cX12_rose 32 = .ok (.iload_n 2, 1) := by decide +kernel
theorem dX12_rose_33 : decode cX12_rose 33 = .ok (.if_icmp .ne 21, 3) := by decide +kernel
theorem dX12_rose_36 : decode cX12_rose 36 = .ok (.iload_n 1, 1) := by decide +kernel
theorem dX12_rose_37 : decode cX12_rose 37 = .ok (.iload_n 2, 1) := by decide +kernel
theorem dX12_rose_38 : decode cX12_rose 38 = .ok (.ineg, 1) := by decide +kernel
theorem dX12_rose_39 : decode cX12_rose 39 = .ok (.if_icmp .le 15, 3) := by decide +kernel
theorem dX12_rose_42 : decode cX12_rose 42 = .ok (.bipush 20, 2) := by decide +kernel
theorem dX12_rose_44 : decode cX12_rose 44 = .ok (.iload_n 2, 1) := by decide +kernel
theorem dX12_rose_45 : decode cX12_rose 45 = .ok (.iload_n 1, 1) := by decide +kernel
theorem dX12_rose_46 : decode cX12_rose 46 = .ok (.isub, 1) := by decide +kernel
theorem dX12_rose_47 : decode cX12_rose 47 = .ok (.bipush 10, 2) := by decide +kernel
theorem dX12_rose_49 : decode cX12_rose 49 = .ok (.imul, 1) := by decide +kernel
theorem dX12_rose_50 : decode cX12_rose 50 = .ok (.iload_n 2, 1) := by decide +kernel
theorem dX12_rose_51 : decode cX12_rose 51 = .ok (.idiv, 1) := by decide +kernel
theorem dX12_rose_52 : decode cX12_rose 52 = .ok (.iadd, 1) := by decide +kernel
theorem dX12_rose_53 : decode cX12_rose 53 = .ok (.ireturn, 1) := by decide +kernel
theorem dX12_rose_54 : decode cX12_rose 54 = .ok (.iload_n 1, 1) := by decide +kernel
theorem dX12_rose_55 : decode cX12_rose 55 = .ok (.iload_n 2, 1) := by decide +kernel
theorem dX12_rose_56 : decode cX12_rose 56 = .ok (.ineg, 1) := by decide +kernel
theorem dX12_rose_57 : decode cX12_rose 57 = .ok (.if_icmp .ne 21, 3) := by decide +kernel
theorem dX12_rose_60 : decode cX12_rose 60 = .ok (.iload_n 0, 1) := by decide +kernel
theorem dX12_rose_61 : decode cX12_rose 61 = .ok (.iload_n 2, 1) := by decide +kernel
theorem dX12_rose_62 : decode cX12_rose 62 = .ok (.ineg, 1) := by decide +kernel
theorem dX12_rose_63 : decode cX12_rose 63 = .ok (.if_icmp .le 15, 3) := by decide +kernel
theorem dX12_rose_66 : decode cX12_rose 66 = .ok (.bipush 40, 2) := by decide +kernel
theorem dX12_rose_68 : decode cX12_rose 68 = .ok (.iload_n 2, 1) := by decide +kernel
theorem dX12_rose_69 : decode cX12_rose 69 = .ok (.iload_n 0, 1) := by decide +kernel
theorem dX12_rose_70 : decode cX12_rose 70 = .ok (.isub, 1) := by decide +kernel
theorem dX12_rose_71 : decode cX12_rose 71 = .ok (.bipush 10, 2) := by decide +kernel
theorem dX12_rose_73 : decode cX12_rose 73 = .ok (.imul, 1) := by decide +kernel
theorem dX12_rose_74 : decode cX12_rose 74 = .ok (.iload_n 2, 1) := by decide +kernel
theorem dX12_rose_75 : decode cX12_rose 75 = .ok (.idiv, 1) := by decide +kernel
theorem dX12_rose_76 : decode cX12_rose 76 = .ok (.iadd, 1) := by decide +kernel
theorem dX12_rose_77 : decode cX12_rose 77 = .ok (.ireturn, 1) := by decide +kernel
theorem dX12_rose_78 : decode cX12_rose 78 = .ok (.bipush 60, 2) := by decide +kernel
theorem dX12_rose_80 : decode cX12_rose 80 = .ok (.iload_n 1, 1) := by decide +kernel
theorem dX12_rose_81 : decode cX12_rose 81 = .ok (.iload_n 2, 1) := by decide +kernel
theorem dX12_rose_82 : decode cX12_rose 82 = .ok (.iadd, 1) := by decide +kernel
theorem dX12_rose_83 : decode cX12_rose 83 = .ok (.bipush 10, 2) := by decide +kernel
theorem dX12_rose_85 : decode cX12_rose 85 = .ok (.imul, 1) := by decide +kernel
theorem dX12_rose_86 : decode cX12_rose 86 = .ok (.iload_n 2, 1) := by decide +kernel
theorem dX12_rose_87 : decode cX12_rose 87 = .ok (.idiv, 1) := by decide +kernel
theorem dX12_rose_88 : decode cX12_rose 88 = .ok (.iadd, 1) := by decide +kernel
theorem dX12_rose_89 : decode cX12_rose 89 = .ok (.ireturn, 1) := by decide +kernel
def fX12_rose_b78 (v1 : Int32) (v2 : Int32) : Option Int32 :=
  (if v2 = 0 then none else (some (60 + (((v1 + v2) * 10) / v2))))
set_option maxRecDepth 20000 in
set_option maxHeartbeats 4000000 in
theorem aX12_rose_b78 (σ : qMem) (v1 : Int32) (v2 : Int32) : qAt wM mX12_rose (ρp σ) 78 [(1, .int v1), (2, .int v2)] [] σ (fX12_rose_b78 v1 v2) := by
  unfold fX12_rose_b78
  refine q_bipush (v := 60) dX12_rose_78 (by decide) ?_
  refine q_iload_n (i := 1) (x := v1) dX12_rose_80 rfl 0 rfl ?_
  refine q_iload_n (i := 2) (x := v2) dX12_rose_81 rfl 1 rfl ?_
  refine q_iadd dX12_rose_82 ?_
  refine q_bipush (v := 10) dX12_rose_83 (by decide) ?_
  refine q_imul dX12_rose_85 ?_
  refine q_iload_n (i := 2) (x := v2) dX12_rose_86 rfl 1 rfl ?_
  refine q_idivC dX12_rose_87 ?_
  refine q_iadd dX12_rose_88 ?_
  exact q_ireti (y := (60 + (((v1 + v2) * 10) / v2))) dX12_rose_89 rfl rfl

def fX12_rose_b54 (v0 : Int32) (v1 : Int32) (v2 : Int32) : Option Int32 :=
  (if v1 = (-v2) then (if v0 ≤ (-v2) then (fX12_rose_b78 v1 v2) else (if v2 = 0 then none else (some (40 + (((v2 - v0) * 10) / v2))))) else (fX12_rose_b78 v1 v2))
set_option maxRecDepth 20000 in
set_option maxHeartbeats 4000000 in
theorem aX12_rose_b54 (σ : qMem) (v0 : Int32) (v1 : Int32) (v2 : Int32) : qAt wM mX12_rose (ρp σ) 54 [(0, .int v0), (1, .int v1), (2, .int v2)] [] σ (fX12_rose_b54 v0 v1 v2) := by
  unfold fX12_rose_b54
  refine q_iload_n (i := 1) (x := v1) dX12_rose_54 rfl 1 rfl ?_
  refine q_iload_n (i := 2) (x := v2) dX12_rose_55 rfl 2 rfl ?_
  refine q_ineg dX12_rose_56 ?_
  refine q_icmp_ne (tgt := 78) dX12_rose_57 (by decide) ?_ ?_
  · exact q_sub [1, 2] rfl (aX12_rose_b78 σ v1 v2)
  refine q_iload_n (i := 0) (x := v0) dX12_rose_60 rfl 0 rfl ?_
  refine q_iload_n (i := 2) (x := v2) dX12_rose_61 rfl 2 rfl ?_
  refine q_ineg dX12_rose_62 ?_
  refine q_icmp_le (tgt := 78) dX12_rose_63 (by decide) ?_ ?_
  · exact q_sub [1, 2] rfl (aX12_rose_b78 σ v1 v2)
  refine q_bipush (v := 40) dX12_rose_66 (by decide) ?_
  refine q_iload_n (i := 2) (x := v2) dX12_rose_68 rfl 2 rfl ?_
  refine q_iload_n (i := 0) (x := v0) dX12_rose_69 rfl 0 rfl ?_
  refine q_isub dX12_rose_70 ?_
  refine q_bipush (v := 10) dX12_rose_71 (by decide) ?_
  refine q_imul dX12_rose_73 ?_
  refine q_iload_n (i := 2) (x := v2) dX12_rose_74 rfl 2 rfl ?_
  refine q_idivC dX12_rose_75 ?_
  refine q_iadd dX12_rose_76 ?_
  exact q_ireti (y := (40 + (((v2 - v0) * 10) / v2))) dX12_rose_77 rfl rfl

def fX12_rose_b31 (v0 : Int32) (v1 : Int32) (v2 : Int32) : Option Int32 :=
  (if v0 = v2 then (if v1 ≤ (-v2) then (fX12_rose_b54 v0 v1 v2) else (if v2 = 0 then none else (some (20 + (((v2 - v1) * 10) / v2))))) else (fX12_rose_b54 v0 v1 v2))
set_option maxRecDepth 20000 in
set_option maxHeartbeats 4000000 in
theorem aX12_rose_b31 (σ : qMem) (v0 : Int32) (v1 : Int32) (v2 : Int32) : qAt wM mX12_rose (ρp σ) 31 [(0, .int v0), (1, .int v1), (2, .int v2)] [] σ (fX12_rose_b31 v0 v1 v2) := by
  unfold fX12_rose_b31
  refine q_iload_n (i := 0) (x := v0) dX12_rose_31 rfl 0 rfl ?_
  refine q_iload_n (i := 2) (x := v2) dX12_rose_32 rfl 2 rfl ?_
  refine q_icmp_ne (tgt := 54) dX12_rose_33 (by decide) ?_ ?_
  · exact q_sub [0, 1, 2] rfl (aX12_rose_b54 σ v0 v1 v2)
  refine q_iload_n (i := 1) (x := v1) dX12_rose_36 rfl 1 rfl ?_
  refine q_iload_n (i := 2) (x := v2) dX12_rose_37 rfl 2 rfl ?_
  refine q_ineg dX12_rose_38 ?_
  refine q_icmp_le (tgt := 54) dX12_rose_39 (by decide) ?_ ?_
  · exact q_sub [0, 1, 2] rfl (aX12_rose_b54 σ v0 v1 v2)
  refine q_bipush (v := 20) dX12_rose_42 (by decide) ?_
  refine q_iload_n (i := 2) (x := v2) dX12_rose_44 rfl 2 rfl ?_
  refine q_iload_n (i := 1) (x := v1) dX12_rose_45 rfl 1 rfl ?_
  refine q_isub dX12_rose_46 ?_
  refine q_bipush (v := 10) dX12_rose_47 (by decide) ?_
  refine q_imul dX12_rose_49 ?_
  refine q_iload_n (i := 2) (x := v2) dX12_rose_50 rfl 2 rfl ?_
  refine q_idivC dX12_rose_51 ?_
  refine q_iadd dX12_rose_52 ?_
  exact q_ireti (y := (20 + (((v2 - v1) * 10) / v2))) dX12_rose_53 rfl rfl

def fX12_rose (p0 : Int32) (p1 : Int32) : Option Int32 :=
  ((fX12_size p0).bind fun y1 => ((fX12_size p1).bind fun y2 => ((fX12_more y1 y2).bind fun y3 => (if p1 = y3 then (if y3 ≤ p0 then (fX12_rose_b31 p0 p1 y3) else (if y3 = 0 then none else (some (((p0 + y3) * 10) / y3)))) else (fX12_rose_b31 p0 p1 y3)))))
set_option maxRecDepth 20000 in
set_option maxHeartbeats 4000000 in
theorem aX12_rose  (p0 : Int32) (p1 : Int32)  (σ : qMem) : qAt wM mX12_rose (ρp σ) 0 [(0, .int p0), (1, .int p1)] [] σ (fX12_rose p0 p1) := by
  unfold fX12_rose
  refine q_iload_n (i := 0) (x := p0) dX12_rose_0 rfl 0 rfl ?_
  refine q_cSp mX12_size [.int p0] (st := []) dX12_rose_1 (ssX12_142) ⟨Nat.le_of_ble_eq_true rfl, Nat.le_of_ble_eq_true rfl⟩ rfl rfl (Nat.le_of_ble_eq_true rfl) (kX12_size p0 σ) (fun y1 => ?_)
  refine q_iload_n (i := 1) (x := p1) dX12_rose_4 rfl 1 rfl ?_
  refine q_cSp mX12_size [.int p1] (st := [.int y1]) dX12_rose_5 (ssX12_142) ⟨Nat.le_of_ble_eq_true rfl, Nat.le_of_ble_eq_true rfl⟩ rfl rfl (Nat.le_of_ble_eq_true rfl) (kX12_size p1 σ) (fun y2 => ?_)
  refine q_cSp mX12_more [.int y1, .int y2] (st := []) dX12_rose_8 (ssX12_145) ⟨Nat.le_of_ble_eq_true rfl, Nat.le_of_ble_eq_true rfl⟩ rfl rfl (Nat.le_of_ble_eq_true rfl) (kX12_more y1 y2 σ) (fun y3 => ?_)
  refine q_istore_n (i := 2) (L' := [(2, .int y3), (0, .int p0), (1, .int p1)]) dX12_rose_11 rfl (Nat.le_of_ble_eq_true rfl) rfl ?_
  refine q_iload_n (i := 1) (x := p1) dX12_rose_12 rfl 2 rfl ?_
  refine q_iload_n (i := 2) (x := y3) dX12_rose_13 rfl 0 rfl ?_
  refine q_icmp_ne (tgt := 31) dX12_rose_14 (by decide) ?_ ?_
  · exact q_sub [1, 2, 0] rfl (aX12_rose_b31 σ p0 p1 y3)
  refine q_iload_n (i := 0) (x := p0) dX12_rose_17 rfl 1 rfl ?_
  refine q_iload_n (i := 2) (x := y3) dX12_rose_18 rfl 0 rfl ?_
  refine q_icmp_ge (tgt := 31) dX12_rose_19 (by decide) ?_ ?_
  · exact q_sub [1, 2, 0] rfl (aX12_rose_b31 σ p0 p1 y3)
  refine q_iload_n (i := 0) (x := p0) dX12_rose_22 rfl 1 rfl ?_
  refine q_iload_n (i := 2) (x := y3) dX12_rose_23 rfl 0 rfl ?_
  refine q_iadd dX12_rose_24 ?_
  refine q_bipush (v := 10) dX12_rose_25 (by decide) ?_
  refine q_imul dX12_rose_27 ?_
  refine q_iload_n (i := 2) (x := y3) dX12_rose_28 rfl 0 rfl ?_
  refine q_idivC dX12_rose_29 ?_
  exact q_ireti (y := (((p0 + y3) * 10) / y3)) dX12_rose_30 rfl rfl
theorem kX12_rose  (p0 : Int32) (p1 : Int32)  (σ : qMem) : qMc wM mX12_rose (ρp σ) [.int p0, .int p1] σ (fX12_rose p0 p1) := qMc_of (moX12_rose) (Nat.le_of_ble_eq_true rfl) (aX12_rose p0 p1  σ)

theorem dX12_bearing_0 : decode cX12_bearing 0 = .ok (.iload_n 1, 1) := by decide +kernel
theorem dX12_bearing_1 : decode cX12_bearing 1 = .ok (.sipush (-1000), 3) := by decide +kernel
theorem dX12_bearing_4 : decode cX12_bearing 4 = .ok (.sipush 1000, 3) := by decide +kernel
theorem dX12_bearing_7 : decode cX12_bearing 7 = .ok (.invokestatic 110, 3) := by decide +kernel
theorem dX12_bearing_10 : decode cX12_bearing 10 = .ok (.ifCond .eq 32, 3) := by decide +kernel
theorem dX12_bearing_13 : decode cX12_bearing 13 = .ok (.iload_n 2, 1) := by decide +kernel
theorem dX12_bearing_14 : decode cX12_bearing 14 = .ok (.sipush (-1000), 3) := by decide +kernel
theorem dX12_bearing_17 : decode cX12_bearing 17 = .ok (.sipush 1000, 3) := by decide +kernel
theorem dX12_bearing_20 : decode cX12_bearing 20 = .ok (.invokestatic 110, 3) := by decide +kernel
theorem dX12_bearing_23 : decode cX12_bearing 23 = .ok (.ifCond .eq 19, 3) := by decide +kernel
theorem dX12_bearing_26 : decode cX12_bearing 26 = .ok (.iload_n 1, 1) := by decide +kernel
theorem dX12_bearing_27 : decode cX12_bearing 27 = .ok (.ifCond .ne 7, 3) := by decide +kernel
theorem dX12_bearing_30 : decode cX12_bearing 30 = .ok (.iload_n 2, 1) := by decide +kernel
theorem dX12_bearing_31 : decode cX12_bearing 31 = .ok (.ifCond .eq 11, 3) := by decide +kernel
theorem dX12_bearing_34 : decode cX12_bearing 34 = .ok (.iload_n 1, 1) := by decide +kernel
theorem dX12_bearing_35 : decode cX12_bearing 35 = .ok (.iload_n 2, 1) := by decide +kernel
theorem dX12_bearing_36 : decode cX12_bearing 36 = .ok (.invokestatic 166, 3) := by decide +kernel
theorem dX12_bearing_39 : decode cX12_bearing 39 = .ok (.goto 4, 3) := by decide +kernel
theorem dX12_bearing_42 : decode cX12_bearing 42 = .ok (.iconst (-1), 1) := by decide +kernel
theorem dX12_bearing_43 : decode cX12_bearing 43 = .ok (.ireturn, 1) := by decide +kernel
def fX12_bearing_b42  : Option Int32 :=
  (some (-1))
set_option maxRecDepth 20000 in
set_option maxHeartbeats 4000000 in
theorem aX12_bearing_b42 (σ : qMem) : qAt wM mX12_bearing (ρp σ) 42 [] [] σ (fX12_bearing_b42) := by
  unfold fX12_bearing_b42
  refine q_iconst (v := (-1)) dX12_bearing_42 (by decide) ?_
  exact q_ireti (y := (-1)) dX12_bearing_43 rfl rfl

def fX12_bearing_b34 (v1 : Int32) (v2 : Int32) : Option Int32 :=
  ((fX12_rose v1 v2).bind fun y3 => (some y3))
set_option maxRecDepth 20000 in
set_option maxHeartbeats 4000000 in
theorem aX12_bearing_b34 (σ : qMem) (v1 : Int32) (v2 : Int32) : qAt wM mX12_bearing (ρp σ) 34 [(1, .int v1), (2, .int v2)] [] σ (fX12_bearing_b34 v1 v2) := by
  unfold fX12_bearing_b34
  refine q_iload_n (i := 1) (x := v1) dX12_bearing_34 rfl 0 rfl ?_
  refine q_iload_n (i := 2) (x := v2) dX12_bearing_35 rfl 1 rfl ?_
  refine q_cSp mX12_rose [.int v1, .int v2] (st := []) dX12_bearing_36 (ssX12_166) ⟨Nat.le_of_ble_eq_true rfl, Nat.le_of_ble_eq_true rfl⟩ rfl rfl (Nat.le_of_ble_eq_true rfl) (kX12_rose v1 v2 σ) (fun y3 => ?_)
  refine q_goto (tgt := 43) dX12_bearing_39 (by decide) ?_
  exact q_ireti (y := y3) dX12_bearing_43 rfl rfl

def fX12_bearing (p1 : Int32) (p2 : Int32) : Option Int32 :=
  ((fX12_in p1 (-1000) 1000).bind fun y1 => (if y1 = 0 then (fX12_bearing_b42 ) else ((fX12_in p2 (-1000) 1000).bind fun y2 => (if y2 = 0 then (fX12_bearing_b42 ) else (if p1 = 0 then (if p2 = 0 then (fX12_bearing_b42 ) else (fX12_bearing_b34 p1 p2)) else (fX12_bearing_b34 p1 p2))))))
set_option maxRecDepth 20000 in
set_option maxHeartbeats 4000000 in
theorem aX12_bearing  (p1 : Int32) (p2 : Int32)  (σ : qMem) : qAt wM mX12_bearing (ρp σ) 0 [(0, .ref 0), (1, .int p1), (2, .int p2)] [] σ (fX12_bearing p1 p2) := by
  unfold fX12_bearing
  refine q_iload_n (i := 1) (x := p1) dX12_bearing_0 rfl 1 rfl ?_
  refine q_sipush (v := (-1000)) dX12_bearing_1 (by decide) ?_
  refine q_sipush (v := 1000) dX12_bearing_4 (by decide) ?_
  refine q_cSp mX12_in [.int p1, .int (-1000), .int 1000] (st := []) dX12_bearing_7 (ssX12_110) ⟨Nat.le_of_ble_eq_true rfl, Nat.le_of_ble_eq_true rfl⟩ rfl rfl (Nat.le_of_ble_eq_true rfl) (kX12_in p1 (-1000) 1000 σ) (fun y1 => ?_)
  refine q_if_eq (tgt := 42) dX12_bearing_10 (by decide) ?_ ?_
  · exact q_sub [] rfl (aX12_bearing_b42 σ)
  refine q_iload_n (i := 2) (x := p2) dX12_bearing_13 rfl 2 rfl ?_
  refine q_sipush (v := (-1000)) dX12_bearing_14 (by decide) ?_
  refine q_sipush (v := 1000) dX12_bearing_17 (by decide) ?_
  refine q_cSp mX12_in [.int p2, .int (-1000), .int 1000] (st := []) dX12_bearing_20 (ssX12_110) ⟨Nat.le_of_ble_eq_true rfl, Nat.le_of_ble_eq_true rfl⟩ rfl rfl (Nat.le_of_ble_eq_true rfl) (kX12_in p2 (-1000) 1000 σ) (fun y2 => ?_)
  refine q_if_eq (tgt := 42) dX12_bearing_23 (by decide) ?_ ?_
  · exact q_sub [] rfl (aX12_bearing_b42 σ)
  refine q_iload_n (i := 1) (x := p1) dX12_bearing_26 rfl 1 rfl ?_
  refine q_if_ne (tgt := 34) dX12_bearing_27 (by decide) ?_ ?_
  · exact q_sub [1, 2] rfl (aX12_bearing_b34 σ p1 p2)
  refine q_iload_n (i := 2) (x := p2) dX12_bearing_30 rfl 2 rfl ?_
  refine q_if_eq (tgt := 42) dX12_bearing_31 (by decide) ?_ ?_
  · exact q_sub [] rfl (aX12_bearing_b42 σ)
  exact q_sub [1, 2] rfl (aX12_bearing_b34 σ p1 p2)
theorem kX12_bearing  (p1 : Int32) (p2 : Int32)  (σ : qMem) : qMc wM mX12_bearing (ρp σ) [.ref 0, .int p1, .int p2] σ (fX12_bearing p1 p2) := qMc_of (moX12_bearing) (Nat.le_of_ble_eq_true rfl) (aX12_bearing p1 p2  σ)

theorem dX12_turned_0 : decode cX12_turned 0 = .ok (.iload_n 0, 1) := by decide +kernel
theorem dX12_turned_1 : decode cX12_turned 1 = .ok (.iload_n 1, 1) := by decide +kernel
theorem dX12_turned_2 : decode cX12_turned 2 = .ok (.isub, 1) := by decide +kernel
theorem dX12_turned_3 : decode cX12_turned 3 = .ok (.invokestatic 142, 3) := by decide +kernel
theorem dX12_turned_6 : decode cX12_turned 6 = .ok (.istore_n 2, 1) := by decide +kernel
theorem dX12_turned_7 : decode cX12_turned 7 = .ok (.iload_n 2, 1) := by decide +kernel
theorem dX12_turned_8 : decode cX12_turned 8 = .ok (.bipush 80, 2) := by decide +kernel
theorem dX12_turned_10 : decode cX12_turned 10 = .ok (.iload_n 2, 1) := by decide +kernel
theorem dX12_turned_11 : decode cX12_turned 11 = .ok (.isub, 1) := by decide +kernel
theorem dX12_turned_12 : decode cX12_turned 12 = .ok (.if_icmp .ge 7, 3) := by decide +kernel
theorem dX12_turned_15 : decode cX12_turned 15 = .ok (.iload_n 2, 1) := by decide +kernel
theorem dX12_turned_16 : decode cX12_turned 16 = .ok (.goto 7, 3) := by decide +kernel
theorem dX12_turned_19 : decode cX12_turned 19 = .ok (.bipush 80, 2) := by decide +kernel
theorem dX12_turned_21 : decode cX12_turned 21 = .ok (.iload_n 2, 1) := by decide +kernel
theorem dX12_turned_22 : decode cX12_turned 22 = .ok (.isub, 1) := by decide +kernel
theorem dX12_turned_23 : decode cX12_turned 23 = .ok (.ireturn, 1) := by decide +kernel

def fX12_turned (p0 : Int32) (p1 : Int32) : Option Int32 :=
  ((fX12_size (p0 - p1)).bind fun y1 => (if (80 - y1) ≤ y1 then (some (80 - y1)) else (some y1)))
set_option maxRecDepth 20000 in
set_option maxHeartbeats 4000000 in
theorem aX12_turned  (p0 : Int32) (p1 : Int32)  (σ : qMem) : qAt wM mX12_turned (ρp σ) 0 [(0, .int p0), (1, .int p1)] [] σ (fX12_turned p0 p1) := by
  unfold fX12_turned
  refine q_iload_n (i := 0) (x := p0) dX12_turned_0 rfl 0 rfl ?_
  refine q_iload_n (i := 1) (x := p1) dX12_turned_1 rfl 1 rfl ?_
  refine q_isub dX12_turned_2 ?_
  refine q_cSp mX12_size [.int (p0 - p1)] (st := []) dX12_turned_3 (ssX12_142) ⟨Nat.le_of_ble_eq_true rfl, Nat.le_of_ble_eq_true rfl⟩ rfl rfl (Nat.le_of_ble_eq_true rfl) (kX12_size (p0 - p1) σ) (fun y1 => ?_)
  refine q_istore_n (i := 2) (L' := [(2, .int y1), (0, .int p0), (1, .int p1)]) dX12_turned_6 rfl (Nat.le_of_ble_eq_true rfl) rfl ?_
  refine q_iload_n (i := 2) (x := y1) dX12_turned_7 rfl 0 rfl ?_
  refine q_bipush (v := 80) dX12_turned_8 (by decide) ?_
  refine q_iload_n (i := 2) (x := y1) dX12_turned_10 rfl 0 rfl ?_
  refine q_isub dX12_turned_11 ?_
  refine q_icmp_ge (tgt := 19) dX12_turned_12 (by decide) ?_ ?_
  · refine q_bipush (v := 80) dX12_turned_19 (by decide) ?_
    refine q_iload_n (i := 2) (x := y1) dX12_turned_21 rfl 0 rfl ?_
    refine q_isub dX12_turned_22 ?_
    exact q_ireti (y := (80 - y1)) dX12_turned_23 rfl rfl
  refine q_iload_n (i := 2) (x := y1) dX12_turned_15 rfl 0 rfl ?_
  refine q_goto (tgt := 23) dX12_turned_16 (by decide) ?_
  exact q_ireti (y := y1) dX12_turned_23 rfl rfl
theorem kX12_turned  (p0 : Int32) (p1 : Int32)  (σ : qMem) : qMc wM mX12_turned (ρp σ) [.int p0, .int p1] σ (fX12_turned p0 p1) := qMc_of (moX12_turned) (Nat.le_of_ble_eq_true rfl) (aX12_turned p0 p1  σ)

theorem dX12_heardOf_0 : decode cX12_heardOf 0 = .ok (.aload_n 0, 1) := by decide +kernel
theorem dX12_heardOf_1 : decode cX12_heardOf 1 = .ok (.getfield 20, 3) := by decide +kernel
theorem dX12_heardOf_4 : decode cX12_heardOf 4 = .ok (.bipush 80, 2) := by decide +kernel
theorem dX12_heardOf_6 : decode cX12_heardOf 6 = .ok (.iconst 3, 1) := by decide +kernel
theorem dX12_heardOf_7 : decode cX12_heardOf 7 = .ok (.iload_n 1, 1) := by decide +kernel
theorem dX12_heardOf_8 : decode cX12_heardOf 8 = .ok (.imul, 1) := by decide +kernel
theorem dX12_heardOf_9 : decode cX12_heardOf 9 = .ok (.iadd, 1) := by decide +kernel
theorem dX12_heardOf_10 : decode cX12_heardOf 10 = .ok (.iload_n 2, 1) := by decide +kernel
theorem dX12_heardOf_11 : decode cX12_heardOf 11 = .ok (.iadd, 1) := by decide +kernel
theorem dX12_heardOf_12 : decode cX12_heardOf 12 = .ok (.iaload, 1) := by decide +kernel
theorem dX12_heardOf_13 : decode cX12_heardOf 13 = .ok (.ireturn, 1) := by decide +kernel

def fX12_heardOf (p1 : Int32) (p2 : Int32) (σ : qMem) : Option Int32 :=
  (if ck ((80 + (3 * p1)) + p2) 1112 = true then (some (gi σ 2 ((80 + (3 * p1)) + p2).toNatClampNeg)) else none)
set_option maxRecDepth 20000 in
set_option maxHeartbeats 4000000 in
theorem aX12_heardOf  (p1 : Int32) (p2 : Int32)  (σ : qMem) : qAt wM mX12_heardOf (ρp σ) 0 [(0, .ref 0), (1, .int p1), (2, .int p2)] [] σ (fX12_heardOf p1 p2 σ) := by
  unfold fX12_heardOf
  refine q_aload_n (i := 0) (x := 0) dX12_heardOf_0 rfl 0 rfl ?_
  refine q_getr (t := 2) dX12_heardOf_1 foX12_20 zM_0 rfl ?_
  refine q_bipush (v := 80) dX12_heardOf_4 (by decide) ?_
  refine q_iconst (v := 3) dX12_heardOf_6 (by decide) ?_
  refine q_iload_n (i := 1) (x := p1) dX12_heardOf_7 rfl 1 rfl ?_
  refine q_imul dX12_heardOf_8 ?_
  refine q_iadd dX12_heardOf_9 ?_
  refine q_iload_n (i := 2) (x := p2) dX12_heardOf_10 rfl 2 rfl ?_
  refine q_iadd dX12_heardOf_11 ?_
  refine q_iald dX12_heardOf_12 zM_2 ?_
  exact q_ireti (y := (gi σ 2 ((80 + (3 * p1)) + p2).toNatClampNeg)) dX12_heardOf_13 rfl rfl
theorem kX12_heardOf  (p1 : Int32) (p2 : Int32)  (σ : qMem) : qMc wM mX12_heardOf (ρp σ) [.ref 0, .int p1, .int p2] σ (fX12_heardOf p1 p2 σ) := qMc_of (moX12_heardOf) (Nat.le_of_ble_eq_true rfl) (aX12_heardOf p1 p2  σ)

theorem dX12_echoOf_0 : decode cX12_echoOf 0 = .ok (.aload_n 0, 1) := by decide +kernel
theorem dX12_echoOf_1 : decode cX12_echoOf 1 = .ok (.getfield 20, 3) := by decide +kernel
theorem dX12_echoOf_4 : decode cX12_echoOf 4 = .ok (.sipush 152, 3) := by decide +kernel
theorem dX12_echoOf_7 : decode cX12_echoOf 7 = .ok (.iconst 3, 1) := by decide +kernel
theorem dX12_echoOf_8 : decode cX12_echoOf 8 = .ok (.iload_n 1, 1) := by decide +kernel
theorem dX12_echoOf_9 : decode cX12_echoOf 9 = .ok (.imul, 1) := by decide +kernel
theorem dX12_echoOf_10 : decode cX12_echoOf 10 = .ok (.iadd, 1) := by decide +kernel
theorem dX12_echoOf_11 : decode cX12_echoOf 11 = .ok (.iload_n 2, 1) := by decide +kernel
theorem dX12_echoOf_12 : decode cX12_echoOf 12 = .ok (.iadd, 1) := by decide +kernel
theorem dX12_echoOf_13 : decode cX12_echoOf 13 = .ok (.iaload, 1) := by decide +kernel
theorem dX12_echoOf_14 : decode cX12_echoOf 14 = .ok (.ireturn, 1) := by decide +kernel

def fX12_echoOf (p1 : Int32) (p2 : Int32) (σ : qMem) : Option Int32 :=
  (if ck ((152 + (3 * p1)) + p2) 1112 = true then (some (gi σ 2 ((152 + (3 * p1)) + p2).toNatClampNeg)) else none)
set_option maxRecDepth 20000 in
set_option maxHeartbeats 4000000 in
theorem aX12_echoOf  (p1 : Int32) (p2 : Int32)  (σ : qMem) : qAt wM mX12_echoOf (ρp σ) 0 [(0, .ref 0), (1, .int p1), (2, .int p2)] [] σ (fX12_echoOf p1 p2 σ) := by
  unfold fX12_echoOf
  refine q_aload_n (i := 0) (x := 0) dX12_echoOf_0 rfl 0 rfl ?_
  refine q_getr (t := 2) dX12_echoOf_1 foX12_20 zM_0 rfl ?_
  refine q_sipush (v := 152) dX12_echoOf_4 (by decide) ?_
  refine q_iconst (v := 3) dX12_echoOf_7 (by decide) ?_
  refine q_iload_n (i := 1) (x := p1) dX12_echoOf_8 rfl 1 rfl ?_
  refine q_imul dX12_echoOf_9 ?_
  refine q_iadd dX12_echoOf_10 ?_
  refine q_iload_n (i := 2) (x := p2) dX12_echoOf_11 rfl 2 rfl ?_
  refine q_iadd dX12_echoOf_12 ?_
  refine q_iald dX12_echoOf_13 zM_2 ?_
  exact q_ireti (y := (gi σ 2 ((152 + (3 * p1)) + p2).toNatClampNeg)) dX12_echoOf_14 rfl rfl
theorem kX12_echoOf  (p1 : Int32) (p2 : Int32)  (σ : qMem) : qMc wM mX12_echoOf (ρp σ) [.ref 0, .int p1, .int p2] σ (fX12_echoOf p1 p2 σ) := qMc_of (moX12_echoOf) (Nat.le_of_ble_eq_true rfl) (aX12_echoOf p1 p2  σ)

theorem dX12_hearsNew_0 : decode cX12_hearsNew 0 = .ok (.bipush 80, 2) := by decide +kernel
theorem dX12_hearsNew_2 : decode cX12_hearsNew 2 = .ok (.iconst 3, 1) := by decide +kernel
theorem dX12_hearsNew_3 : decode cX12_hearsNew 3 = .ok (.aload_n 0, 1) := by decide +kernel
theorem dX12_hearsNew_4 : decode cX12_hearsNew 4 = .ok (.getfield 20, 3) := by decide +kernel
theorem dX12_hearsNew_7 : decode cX12_hearsNew 7 = .ok (.sipush 300, 3) := by decide +kernel
theorem dX12_hearsNew_10 : decode cX12_hearsNew 10 = .ok (.iaload, 1) := by decide +kernel
theorem dX12_hearsNew_11 : decode cX12_hearsNew 11 = .ok (.imul, 1) := by decide +kernel
theorem dX12_hearsNew_12 : decode cX12_hearsNew 12 = .ok (.iadd, 1) := by decide +kernel
theorem dX12_hearsNew_13 : decode cX12_hearsNew 13 = .ok (.istore 4, 2) := by decide +kernel
theorem dX12_hearsNew_15 : decode cX12_hearsNew 15 = .ok (.aload_n 0, 1) := by decide +kernel
theorem dX12_hearsNew_16 : decode cX12_hearsNew 16 = .ok (.getfield 20, 3) := by decide +kernel
theorem dX12_hearsNew_19 : decode cX12_hearsNew 19 = .ok (.iload 4, 2) := by decide +kernel
theorem dX12_hearsNew_21 : decode cX12_hearsNew 21 = .ok (.iload_n 1, 1) := by decide +kernel
theorem dX12_hearsNew_22 : decode cX12_hearsNew 22 = .ok (.iastore, 1) := by decide +kernel
theorem dX12_hearsNew_23 : decode cX12_hearsNew 23 = .ok (.aload_n 0, 1) := by decide +kernel
theorem dX12_hearsNew_24 : decode cX12_hearsNew 24 = .ok (.getfield 20, 3) := by decide +kernel
theorem dX12_hearsNew_27 : decode cX12_hearsNew 27 = .ok (.iload 4, 2) := by decide +kernel
theorem dX12_hearsNew_29 : decode cX12_hearsNew 29 = .ok (.iconst 1, 1) := by decide +kernel
theorem dX12_hearsNew_30 : decode cX12_hearsNew 30 = .ok (.iadd, 1) := by decide +kernel
theorem dX12_hearsNew_31 : decode cX12_hearsNew 31 = .ok (.iload_n 2, 1) := by decide +kernel
theorem dX12_hearsNew_32 : decode cX12_hearsNew 32 = .ok (.iastore, 1) := by decide +kernel
theorem dX12_hearsNew_33 : decode cX12_hearsNew 33 = .ok (.aload_n 0, 1) := by decide +kernel
theorem dX12_hearsNew_34 : decode cX12_hearsNew 34 = .ok (.getfield 20, 3) := by decide +kernel
theorem dX12_hearsNew_37 : decode cX12_hearsNew 37 = .ok (.iload 4, 2) := by decide +kernel
theorem dX12_hearsNew_39 : decode cX12_hearsNew 39 = .ok (.iconst 2, 1) := by decide +kernel
theorem dX12_hearsNew_40 : decode cX12_hearsNew 40 = .ok (.iadd, 1) := by decide +kernel
theorem dX12_hearsNew_41 : decode cX12_hearsNew 41 = .ok (.iload_n 3, 1) := by decide +kernel
theorem dX12_hearsNew_42 : decode cX12_hearsNew 42 = .ok (.iastore, 1) := by decide +kernel
theorem dX12_hearsNew_43 : decode cX12_hearsNew 43 = .ok (.aload_n 0, 1) := by decide +kernel
theorem dX12_hearsNew_44 : decode cX12_hearsNew 44 = .ok (.getfield 20, 3) := by decide +kernel
theorem dX12_hearsNew_47 : decode cX12_hearsNew 47 = .ok (.sipush 300, 3) := by decide +kernel
theorem dX12_hearsNew_50 : decode cX12_hearsNew 50 = .ok (.dup2, 1) := by decide +kernel
theorem dX12_hearsNew_51 : decode cX12_hearsNew 51 = .ok (.iaload, 1) := by decide +kernel
theorem dX12_hearsNew_52 : decode cX12_hearsNew 52 = .ok (.iconst 1, 1) := by decide +kernel
theorem dX12_hearsNew_53 : decode cX12_hearsNew 53 = .ok (.iadd, 1) := by decide +kernel
theorem dX12_hearsNew_54 : decode cX12_hearsNew 54 = .ok (.iastore, 1) := by decide +kernel
theorem dX12_hearsNew_55 : decode cX12_hearsNew 55 = .ok (.return_, 1) := by decide +kernel

def fX12_hearsNew (p1 : Int32) (p2 : Int32) (p3 : Int32) (σ : qMem) : Option qMem :=
  (if ck 300 1112 = true then (nmI (80 + (3 * (gi σ 2 (300 : Int32).toNatClampNeg))) fun x1 => (if ck x1 1112 = true then (nmM (si σ 2 x1.toNatClampNeg p1) fun s2 => (if ck (x1 + 1) 1112 = true then (nmM (si s2 2 (x1 + 1).toNatClampNeg p2) fun s3 => (if ck (x1 + 2) 1112 = true then (nmM (si s3 2 (x1 + 2).toNatClampNeg p3) fun s4 => (if ck 300 1112 = true then (if ck 300 1112 = true then (nmM (si s4 2 (300 : Int32).toNatClampNeg ((gi s4 2 (300 : Int32).toNatClampNeg) + 1)) fun s5 => (some s5)) else none) else none)) else none)) else none)) else none)) else none)
set_option maxRecDepth 20000 in
set_option maxHeartbeats 4000000 in
theorem aX12_hearsNew  (p1 : Int32) (p2 : Int32) (p3 : Int32)  (σ : qMem) : qAt wM mX12_hearsNew (ρv) 0 [(0, .ref 0), (1, .int p1), (2, .int p2), (3, .int p3)] [] σ (fX12_hearsNew p1 p2 p3 σ) := by
  unfold fX12_hearsNew
  refine q_bipush (v := 80) dX12_hearsNew_0 (by decide) ?_
  refine q_iconst (v := 3) dX12_hearsNew_2 (by decide) ?_
  refine q_aload_n (i := 0) (x := 0) dX12_hearsNew_3 rfl 0 rfl ?_
  refine q_getr (t := 2) dX12_hearsNew_4 foX12_20 zM_0 rfl ?_
  refine q_sipush (v := 300) dX12_hearsNew_7 (by decide) ?_
  refine q_iald dX12_hearsNew_10 zM_2 ?_
  refine q_imul dX12_hearsNew_11 ?_
  refine q_iadd dX12_hearsNew_12 ?_
  refine q_nmI (fun x1 => ?_)
  refine q_istore (i := 4) (L' := [(4, .int x1), (0, .ref 0), (1, .int p1), (2, .int p2), (3, .int p3)]) dX12_hearsNew_13 (Nat.le_of_ble_eq_true rfl) rfl ?_
  refine q_aload_n (i := 0) (x := 0) dX12_hearsNew_15 rfl 1 rfl ?_
  refine q_getr (t := 2) dX12_hearsNew_16 foX12_20 zM_0 rfl ?_
  refine q_iload (i := 4) (x := x1) dX12_hearsNew_19 0 rfl ?_
  refine q_iload_n (i := 1) (x := p1) dX12_hearsNew_21 rfl 2 rfl ?_
  refine q_iast dX12_hearsNew_22 zM_2 ?_
  refine q_nmM (fun s2 => ?_)
  refine q_aload_n (i := 0) (x := 0) dX12_hearsNew_23 rfl 1 rfl ?_
  refine q_getr (t := 2) dX12_hearsNew_24 foX12_20 zM_0 rfl ?_
  refine q_iload (i := 4) (x := x1) dX12_hearsNew_27 0 rfl ?_
  refine q_iconst (v := 1) dX12_hearsNew_29 (by decide) ?_
  refine q_iadd dX12_hearsNew_30 ?_
  refine q_iload_n (i := 2) (x := p2) dX12_hearsNew_31 rfl 3 rfl ?_
  refine q_iast dX12_hearsNew_32 zM_2 ?_
  refine q_nmM (fun s3 => ?_)
  refine q_aload_n (i := 0) (x := 0) dX12_hearsNew_33 rfl 1 rfl ?_
  refine q_getr (t := 2) dX12_hearsNew_34 foX12_20 zM_0 rfl ?_
  refine q_iload (i := 4) (x := x1) dX12_hearsNew_37 0 rfl ?_
  refine q_iconst (v := 2) dX12_hearsNew_39 (by decide) ?_
  refine q_iadd dX12_hearsNew_40 ?_
  refine q_iload_n (i := 3) (x := p3) dX12_hearsNew_41 rfl 4 rfl ?_
  refine q_iast dX12_hearsNew_42 zM_2 ?_
  refine q_nmM (fun s4 => ?_)
  refine q_aload_n (i := 0) (x := 0) dX12_hearsNew_43 rfl 1 rfl ?_
  refine q_getr (t := 2) dX12_hearsNew_44 foX12_20 zM_0 rfl ?_
  refine q_sipush (v := 300) dX12_hearsNew_47 (by decide) ?_
  refine q_dup2 dX12_hearsNew_50 rfl rfl ?_
  refine q_iald dX12_hearsNew_51 zM_2 ?_
  refine q_iconst (v := 1) dX12_hearsNew_52 (by decide) ?_
  refine q_iadd dX12_hearsNew_53 ?_
  refine q_iast dX12_hearsNew_54 zM_2 ?_
  refine q_nmM (fun s5 => ?_)
  exact q_vret (y := s5) dX12_hearsNew_55 rfl rfl
theorem kX12_hearsNew  (p1 : Int32) (p2 : Int32) (p3 : Int32)  (σ : qMem) : qMc wM mX12_hearsNew (ρv) [.ref 0, .int p1, .int p2, .int p3] σ (fX12_hearsNew p1 p2 p3 σ) := qMc_of (moX12_hearsNew) (Nat.le_of_ble_eq_true rfl) (aX12_hearsNew p1 p2 p3  σ)

theorem dX12_heard_0 : decode cX12_heard 0 = .ok (.iload_n 2, 1) := by decide +kernel
theorem dX12_heard_1 : decode cX12_heard 1 = .ok (.invokestatic 132, 3) := by decide +kernel
theorem dX12_heard_4 : decode cX12_heard 4 = .ok (.ifCond .eq 13, 3) := by decide +kernel
theorem dX12_heard_7 : decode cX12_heard 7 = .ok (.iload_n 3, 1) := by decide +kernel
theorem dX12_heard_8 : decode cX12_heard 8 = .ok (.iconst 0, 1) := by decide +kernel
theorem dX12_heard_9 : decode cX12_heard 9 = .ok (.bipush 79, 2) := by decide +kernel
theorem dX12_heard_11 : decode cX12_heard 11 = .ok (.invokestatic 110, 3) := by decide +kernel
theorem dX12_heard_14 : decode cX12_heard 14 = .ok (.ifCond .ne 9, 3) := by decide +kernel
theorem dX12_heard_17 : decode cX12_heard 17 = .ok (.aload_n 0, 1) := by decide +kernel
theorem dX12_heard_18 : decode cX12_heard 18 = .ok (.iconst (-1), 1) := by decide +kernel
theorem dX12_heard_19 : decode cX12_heard 19 = .ok (.invokevirtual 114, 3) := by decide +kernel
theorem dX12_heard_22 : decode cX12_heard 22 = .ok (.ireturn, 1) := by decide +kernel
theorem dX12_heard_23 : decode cX12_heard 23 = .ok (.iload_n 1, 1) := by decide +kernel
theorem dX12_heard_24 : decode cX12_heard 24 = .ok (.invokestatic 129, 3) := by decide +kernel
theorem dX12_heard_27 : decode cX12_heard 27 = .ok (.ifCond .ne 10, 3) := by decide +kernel
theorem dX12_heard_30 : decode cX12_heard 30 = .ok (.aload_n 0, 1) := by decide +kernel
theorem dX12_heard_31 : decode cX12_heard 31 = .ok (.bipush (-2), 2) := by decide +kernel
theorem dX12_heard_33 : decode cX12_heard 33 = .ok (.invokevirtual 114, 3) := by decide +kernel
theorem dX12_heard_36 : decode cX12_heard 36 = .ok (.ireturn, 1) := by decide +kernel
theorem dX12_heard_37 : decode cX12_heard 37 = .ok (.aload_n 0, 1) := by decide +kernel
theorem dX12_heard_38 : decode cX12_heard 38 = .ok (.getfield 20, 3) := by decide +kernel
theorem dX12_heard_41 : decode cX12_heard 41 = .ok (.sipush 300, 3) := by decide +kernel
theorem dX12_heard_44 : decode cX12_heard 44 = .ok (.iaload, 1) := by decide +kernel
theorem dX12_heard_45 : decode cX12_heard 45 = .ok (.bipush 24, 2) := by decide +kernel
theorem dX12_heard_47 : decode cX12_heard 47 = .ok (.if_icmp .ne 10, 3) := by decide +kernel
theorem dX12_heard_50 : decode cX12_heard 50 = .ok (.aload_n 0, 1) := by decide +kernel
theorem dX12_heard_51 : decode cX12_heard 51 = .ok (.bipush (-5), 2) := by decide +kernel
theorem dX12_heard_53 : decode cX12_heard 53 = .ok (.invokevirtual 114, 3) := by decide +kernel
theorem dX12_heard_56 : decode cX12_heard 56 = .ok (.ireturn, 1) := by decide +kernel
theorem dX12_heard_57 : decode cX12_heard 57 = .ok (.aload_n 0, 1) := by decide +kernel
theorem dX12_heard_58 : decode cX12_heard 58 = .ok (.iload_n 1, 1) := by decide +kernel
theorem dX12_heard_59 : decode cX12_heard 59 = .ok (.iload_n 2, 1) := by decide +kernel
theorem dX12_heard_60 : decode cX12_heard 60 = .ok (.iload_n 3, 1) := by decide +kernel
theorem dX12_heard_61 : decode cX12_heard 61 = .ok (.invokevirtual 169, 3) := by decide +kernel
theorem dX12_heard_64 : decode cX12_heard 64 = .ok (.aload_n 0, 1) := by decide +kernel
theorem dX12_heard_65 : decode cX12_heard 65 = .ok (.aload_n 0, 1) := by decide +kernel
theorem dX12_heard_66 : decode cX12_heard 66 = .ok (.getfield 20, 3) := by decide +kernel
theorem dX12_heard_69 : decode cX12_heard 69 = .ok (.sipush 300, 3) := by decide +kernel
theorem dX12_heard_72 : decode cX12_heard 72 = .ok (.iaload, 1) := by decide +kernel
theorem dX12_heard_73 : decode cX12_heard 73 = .ok (.iconst 1, 1) := by decide +kernel
theorem dX12_heard_74 : decode cX12_heard 74 = .ok (.isub, 1) := by decide +kernel
theorem dX12_heard_75 : decode cX12_heard 75 = .ok (.invokevirtual 118, 3) := by decide +kernel
theorem dX12_heard_78 : decode cX12_heard 78 = .ok (.ireturn, 1) := by decide +kernel
def fX12_heard_b17 (σ : qMem) : Option (Int32 × qMem) :=
  ((fX12_refuses (-1) σ).bind fun y8 => (some (y8.1, y8.2)))
set_option maxRecDepth 20000 in
set_option maxHeartbeats 4000000 in
theorem aX12_heard_b17 (σ : qMem) : qAt wM mX12_heard (ρi) 17 [(0, .ref 0)] [] σ (fX12_heard_b17 σ) := by
  unfold fX12_heard_b17
  refine q_aload_n (i := 0) (x := 0) dX12_heard_17 rfl 0 rfl ?_
  refine q_iconst (v := (-1)) dX12_heard_18 (by decide) ?_
  refine q_cVi mX12_refuses [.int (-1)] (st := []) dX12_heard_19 (svX12_114) ⟨Nat.le_of_ble_eq_true rfl, Nat.le_of_ble_eq_true rfl⟩ zM_0 rfl rfl rfl (Nat.le_of_ble_eq_true rfl) (kX12_refuses (-1) σ) (fun y8 => ?_)
  exact q_ireti (y := (y8.1, y8.2)) dX12_heard_22 rfl rfl

def fX12_heard (p1 : Int32) (p2 : Int32) (p3 : Int32) (σ : qMem) : Option (Int32 × qMem) :=
  ((fX12_isBell p2).bind fun y1 => (if y1 = 0 then (fX12_heard_b17 σ) else ((fX12_in p3 0 79).bind fun y2 => (if y2 = 0 then (fX12_heard_b17 σ) else ((fX12_isBoat p1).bind fun y3 => (if y3 = 0 then ((fX12_refuses (-2) σ).bind fun y7 => (some (y7.1, y7.2))) else (if ck 300 1112 = true then (if (gi σ 2 (300 : Int32).toNatClampNeg) = 24 then ((fX12_refuses (-5) σ).bind fun y6 => (some (y6.1, y6.2))) else ((fX12_hearsNew p1 p2 p3 σ).bind fun y4 => (if ck 300 1112 = true then ((fX12_good ((gi y4 2 (300 : Int32).toNatClampNeg) - 1) y4).bind fun y5 => (some (y5.1, y5.2))) else none))) else none)))))))
set_option maxRecDepth 20000 in
set_option maxHeartbeats 4000000 in
theorem aX12_heard  (p1 : Int32) (p2 : Int32) (p3 : Int32)  (σ : qMem) : qAt wM mX12_heard (ρi) 0 [(0, .ref 0), (1, .int p1), (2, .int p2), (3, .int p3)] [] σ (fX12_heard p1 p2 p3 σ) := by
  unfold fX12_heard
  refine q_iload_n (i := 2) (x := p2) dX12_heard_0 rfl 2 rfl ?_
  refine q_cSp mX12_isBell [.int p2] (st := []) dX12_heard_1 (ssX12_132) ⟨Nat.le_of_ble_eq_true rfl, Nat.le_of_ble_eq_true rfl⟩ rfl rfl (Nat.le_of_ble_eq_true rfl) (kX12_isBell p2 σ) (fun y1 => ?_)
  refine q_if_eq (tgt := 17) dX12_heard_4 (by decide) ?_ ?_
  · exact q_sub [0] rfl (aX12_heard_b17 σ)
  refine q_iload_n (i := 3) (x := p3) dX12_heard_7 rfl 3 rfl ?_
  refine q_iconst (v := 0) dX12_heard_8 (by decide) ?_
  refine q_bipush (v := 79) dX12_heard_9 (by decide) ?_
  refine q_cSp mX12_in [.int p3, .int 0, .int 79] (st := []) dX12_heard_11 (ssX12_110) ⟨Nat.le_of_ble_eq_true rfl, Nat.le_of_ble_eq_true rfl⟩ rfl rfl (Nat.le_of_ble_eq_true rfl) (kX12_in p3 0 79 σ) (fun y2 => ?_)
  refine q_if_ne (tgt := 23) dX12_heard_14 (by decide) ?_ ?_
  · refine q_iload_n (i := 1) (x := p1) dX12_heard_23 rfl 1 rfl ?_
    refine q_cSp mX12_isBoat [.int p1] (st := []) dX12_heard_24 (ssX12_129) ⟨Nat.le_of_ble_eq_true rfl, Nat.le_of_ble_eq_true rfl⟩ rfl rfl (Nat.le_of_ble_eq_true rfl) (kX12_isBoat p1 σ) (fun y3 => ?_)
    refine q_if_ne (tgt := 37) dX12_heard_27 (by decide) ?_ ?_
    · refine q_aload_n (i := 0) (x := 0) dX12_heard_37 rfl 0 rfl ?_
      refine q_getr (t := 2) dX12_heard_38 foX12_20 zM_0 rfl ?_
      refine q_sipush (v := 300) dX12_heard_41 (by decide) ?_
      refine q_iald dX12_heard_44 zM_2 ?_
      refine q_bipush (v := 24) dX12_heard_45 (by decide) ?_
      refine q_icmp_ne (tgt := 57) dX12_heard_47 (by decide) ?_ ?_
      · refine q_aload_n (i := 0) (x := 0) dX12_heard_57 rfl 0 rfl ?_
        refine q_iload_n (i := 1) (x := p1) dX12_heard_58 rfl 1 rfl ?_
        refine q_iload_n (i := 2) (x := p2) dX12_heard_59 rfl 2 rfl ?_
        refine q_iload_n (i := 3) (x := p3) dX12_heard_60 rfl 3 rfl ?_
        refine q_cVv mX12_hearsNew [.int p1, .int p2, .int p3] (st := []) dX12_heard_61 (svX12_169) ⟨Nat.le_of_ble_eq_true rfl, Nat.le_of_ble_eq_true rfl⟩ zM_0 rfl rfl rfl (Nat.le_of_ble_eq_true rfl) (kX12_hearsNew p1 p2 p3 σ) (fun y4 => ?_)
        refine q_aload_n (i := 0) (x := 0) dX12_heard_64 rfl 0 rfl ?_
        refine q_aload_n (i := 0) (x := 0) dX12_heard_65 rfl 0 rfl ?_
        refine q_getr (t := 2) dX12_heard_66 foX12_20 zM_0 rfl ?_
        refine q_sipush (v := 300) dX12_heard_69 (by decide) ?_
        refine q_iald dX12_heard_72 zM_2 ?_
        refine q_iconst (v := 1) dX12_heard_73 (by decide) ?_
        refine q_isub dX12_heard_74 ?_
        refine q_cVi mX12_good [.int ((gi y4 2 (300 : Int32).toNatClampNeg) - 1)] (st := []) dX12_heard_75 (svX12_118) ⟨Nat.le_of_ble_eq_true rfl, Nat.le_of_ble_eq_true rfl⟩ zM_0 rfl rfl rfl (Nat.le_of_ble_eq_true rfl) (kX12_good ((gi y4 2 (300 : Int32).toNatClampNeg) - 1) y4) (fun y5 => ?_)
        exact q_ireti (y := (y5.1, y5.2)) dX12_heard_78 rfl rfl
      refine q_aload_n (i := 0) (x := 0) dX12_heard_50 rfl 0 rfl ?_
      refine q_bipush (v := (-5)) dX12_heard_51 (by decide) ?_
      refine q_cVi mX12_refuses [.int (-5)] (st := []) dX12_heard_53 (svX12_114) ⟨Nat.le_of_ble_eq_true rfl, Nat.le_of_ble_eq_true rfl⟩ zM_0 rfl rfl rfl (Nat.le_of_ble_eq_true rfl) (kX12_refuses (-5) σ) (fun y6 => ?_)
      exact q_ireti (y := (y6.1, y6.2)) dX12_heard_56 rfl rfl
    refine q_aload_n (i := 0) (x := 0) dX12_heard_30 rfl 0 rfl ?_
    refine q_bipush (v := (-2)) dX12_heard_31 (by decide) ?_
    refine q_cVi mX12_refuses [.int (-2)] (st := []) dX12_heard_33 (svX12_114) ⟨Nat.le_of_ble_eq_true rfl, Nat.le_of_ble_eq_true rfl⟩ zM_0 rfl rfl rfl (Nat.le_of_ble_eq_true rfl) (kX12_refuses (-2) σ) (fun y7 => ?_)
    exact q_ireti (y := (y7.1, y7.2)) dX12_heard_36 rfl rfl
  exact q_sub [0] rfl (aX12_heard_b17 σ)
theorem kX12_heard  (p1 : Int32) (p2 : Int32) (p3 : Int32)  (σ : qMem) : qMc wM mX12_heard (ρi) [.ref 0, .int p1, .int p2, .int p3] σ (fX12_heard p1 p2 p3 σ) := qMc_of (moX12_heard) (Nat.le_of_ble_eq_true rfl) (aX12_heard p1 p2 p3  σ)

theorem dX12_echo_0 : decode cX12_echo 0 = .ok (.iload_n 2, 1) := by decide +kernel
theorem dX12_echo_1 : decode cX12_echo 1 = .ok (.invokestatic 132, 3) := by decide +kernel
theorem dX12_echo_4 : decode cX12_echo 4 = .ok (.ifCond .eq 13, 3) := by decide +kernel
theorem dX12_echo_7 : decode cX12_echo 7 = .ok (.iload_n 3, 1) := by decide +kernel
theorem dX12_echo_8 : decode cX12_echo 8 = .ok (.iconst 0, 1) := by decide +kernel
theorem dX12_echo_9 : decode cX12_echo 9 = .ok (.bipush 99, 2) := by decide +kernel
theorem dX12_echo_11 : decode cX12_echo 11 = .ok (.invokestatic 110, 3) := by decide +kernel
theorem dX12_echo_14 : decode cX12_echo 14 = .ok (.ifCond .ne 9, 3) := by decide +kernel
theorem dX12_echo_17 : decode cX12_echo 17 = .ok (.aload_n 0, 1) := by decide +kernel
theorem dX12_echo_18 : decode cX12_echo 18 = .ok (.iconst (-1), 1) := by decide +kernel
theorem dX12_echo_19 : decode cX12_echo 19 = .ok (.invokevirtual 114, 3) := by decide +kernel
theorem dX12_echo_22 : decode cX12_echo 22 = .ok (.ireturn, 1) := by decide +kernel
theorem dX12_echo_23 : decode cX12_echo 23 = .ok (.iload_n 1, 1) := by decide +kernel
theorem dX12_echo_24 : decode cX12_echo 24 = .ok (.invokestatic 129, 3) := by decide +kernel
theorem dX12_echo_27 : decode cX12_echo 27 = .ok (.ifCond .ne 10, 3) := by decide +kernel
theorem dX12_echo_30 : decode cX12_echo 30 = .ok (.aload_n 0, 1) := by decide +kernel
theorem dX12_echo_31 : decode cX12_echo 31 = .ok (.bipush (-2), 2) := by decide +kernel
theorem dX12_echo_33 : decode cX12_echo 33 = .ok (.invokevirtual 114, 3) := by decide +kernel
theorem dX12_echo_36 : decode cX12_echo 36 = .ok (.ireturn, 1) := by decide +kernel
theorem dX12_echo_37 : decode cX12_echo 37 = .ok (.aload_n 0, 1) := by decide +kernel
theorem dX12_echo_38 : decode cX12_echo 38 = .ok (.getfield 20, 3) := by decide +kernel
theorem dX12_echo_41 : decode cX12_echo 41 = .ok (.sipush 301, 3) := by decide +kernel
theorem dX12_echo_44 : decode cX12_echo 44 = .ok (.iaload, 1) := by decide +kernel
theorem dX12_echo_45 : decode cX12_echo 45 = .ok (.istore 4, 2) := by decide +kernel
theorem dX12_echo_47 : decode cX12_echo 47 = .ok (.iload 4, 2) := by decide +kernel
theorem dX12_echo_49 : decode cX12_echo 49 = .ok (.bipush 12, 2) := by decide +kernel
theorem dX12_echo_51 : decode cX12_echo 51 = .ok (.if_icmp .ne 10, 3) := by decide +kernel
theorem dX12_echo_54 : decode cX12_echo 54 = .ok (.aload_n 0, 1) := by decide +kernel
theorem dX12_echo_55 : decode cX12_echo 55 = .ok (.bipush (-5), 2) := by decide +kernel
theorem dX12_echo_57 : decode cX12_echo 57 = .ok (.invokevirtual 114, 3) := by decide +kernel
theorem dX12_echo_60 : decode cX12_echo 60 = .ok (.ireturn, 1) := by decide +kernel
theorem dX12_echo_61 : decode cX12_echo 61 = .ok (.aload_n 0, 1) := by decide +kernel
theorem dX12_echo_62 : decode cX12_echo 62 = .ok (.getfield 20, 3) := by decide +kernel
theorem dX12_echo_65 : decode cX12_echo 65 = .ok (.sipush 152, 3) := by decide +kernel
theorem dX12_echo_68 : decode cX12_echo 68 = .ok (.iconst 3, 1) := by decide +kernel
theorem dX12_echo_69 : decode cX12_echo 69 = .ok (.iload 4, 2) := by decide +kernel
theorem dX12_echo_71 : decode cX12_echo 71 = .ok (.imul, 1) := by decide +kernel
theorem dX12_echo_72 : decode cX12_echo 72 = .ok (.iadd, 1) := by decide +kernel
theorem dX12_echo_73 : decode cX12_echo 73 = .ok (.iload_n 1, 1) := by decide +kernel
theorem dX12_echo_74 : decode cX12_echo 74 = .ok (.iastore, 1) := by decide +kernel
theorem dX12_echo_75 : decode cX12_echo 75 = .ok (.aload_n 0, 1) := by decide +kernel
theorem dX12_echo_76 : decode cX12_echo 76 = .ok (.getfield 20, 3) := by decide +kernel
theorem dX12_echo_79 : decode cX12_echo 79 = .ok (.sipush 152, 3) := by decide +kernel
theorem dX12_echo_82 : decode cX12_echo 82 = .ok (.iconst 3, 1) := by decide +kernel
theorem dX12_echo_83 : decode cX12_echo 83 = .ok (.iload 4, 2) := by decide +kernel
theorem dX12_echo_85 : decode cX12_echo 85 = .ok (.imul, 1) := by decide +kernel
theorem dX12_echo_86 : decode cX12_echo 86 = .ok (.iadd, 1) := by decide +kernel
theorem dX12_echo_87 : decode cX12_echo 87 = .ok (.iconst 1, 1) := by decide +kernel
theorem dX12_echo_88 : decode cX12_echo 88 = .ok (.iadd, 1) := by decide +kernel
theorem dX12_echo_89 : decode cX12_echo 89 = .ok (.iload_n 2, 1) := by decide +kernel
theorem dX12_echo_90 : decode cX12_echo 90 = .ok (.iastore, 1) := by decide +kernel
theorem dX12_echo_91 : decode cX12_echo 91 = .ok (.aload_n 0, 1) := by decide +kernel
theorem dX12_echo_92 : decode cX12_echo 92 = .ok (.getfield 20, 3) := by decide +kernel
theorem dX12_echo_95 : decode cX12_echo 95 = .ok (.sipush 152, 3) := by decide +kernel
theorem dX12_echo_98 : decode cX12_echo 98 = .ok (.iconst 3, 1) := by decide +kernel
theorem dX12_echo_99 : decode cX12_echo 99 = .ok (.iload 4, 2) := by decide +kernel
theorem dX12_echo_101 : decode cX12_echo 101 = .ok (.imul, 1) := by decide +kernel
theorem dX12_echo_102 : decode cX12_echo 102 = .ok (.iadd, 1) := by decide +kernel
theorem dX12_echo_103 : decode cX12_echo 103 = .ok (.iconst 2, 1) := by decide +kernel
theorem dX12_echo_104 : decode cX12_echo 104 = .ok (.iadd, 1) := by decide +kernel
theorem dX12_echo_105 : decode cX12_echo 105 = .ok (.iload_n 3, 1) := by decide +kernel
theorem dX12_echo_106 : decode cX12_echo 106 = .ok (.iastore, 1) := by decide +kernel
theorem dX12_echo_107 : decode cX12_echo 107 = .ok (.aload_n 0, 1) := by decide +kernel
theorem dX12_echo_108 : decode cX12_echo 108 = .ok (.getfield 20, 3) := by decide +kernel
theorem dX12_echo_111 : decode cX12_echo 111 = .ok (.sipush 301, 3) := by decide +kernel
theorem dX12_echo_114 : decode cX12_echo 114 = .ok (.dup2, 1) := by decide +kernel
theorem dX12_echo_115 : decode cX12_echo 115 = .ok (.iaload, 1) := by decide +kernel
theorem dX12_echo_116 : decode cX12_echo 116 = .ok (.iconst 1, 1) := by decide +kernel
theorem dX12_echo_117 : decode cX12_echo 117 = .ok (.iadd, 1) := by decide +kernel
theorem dX12_echo_118 : decode cX12_echo 118 = .ok (.iastore, 1) := by decide +kernel
theorem dX12_echo_119 : decode cX12_echo 119 = .ok (.aload_n 0, 1) := by decide +kernel
theorem dX12_echo_120 : decode cX12_echo 120 = .ok (.iload 4, 2) := by decide +kernel
theorem dX12_echo_122 : decode cX12_echo 122 = .ok (.invokevirtual 118, 3) := by decide +kernel
theorem dX12_echo_125 : decode cX12_echo 125 = .ok (.ireturn, 1) := by decide +kernel
def fX12_echo_b17 (σ : qMem) : Option (Int32 × qMem) :=
  ((fX12_refuses (-1) σ).bind fun y12 => (some (y12.1, y12.2)))
set_option maxRecDepth 20000 in
set_option maxHeartbeats 4000000 in
theorem aX12_echo_b17 (σ : qMem) : qAt wM mX12_echo (ρi) 17 [(0, .ref 0)] [] σ (fX12_echo_b17 σ) := by
  unfold fX12_echo_b17
  refine q_aload_n (i := 0) (x := 0) dX12_echo_17 rfl 0 rfl ?_
  refine q_iconst (v := (-1)) dX12_echo_18 (by decide) ?_
  refine q_cVi mX12_refuses [.int (-1)] (st := []) dX12_echo_19 (svX12_114) ⟨Nat.le_of_ble_eq_true rfl, Nat.le_of_ble_eq_true rfl⟩ zM_0 rfl rfl rfl (Nat.le_of_ble_eq_true rfl) (kX12_refuses (-1) σ) (fun y12 => ?_)
  exact q_ireti (y := (y12.1, y12.2)) dX12_echo_22 rfl rfl

def fX12_echo (p1 : Int32) (p2 : Int32) (p3 : Int32) (σ : qMem) : Option (Int32 × qMem) :=
  ((fX12_isBell p2).bind fun y1 => (if y1 = 0 then (fX12_echo_b17 σ) else ((fX12_in p3 0 99).bind fun y2 => (if y2 = 0 then (fX12_echo_b17 σ) else ((fX12_isBoat p1).bind fun y3 => (if y3 = 0 then ((fX12_refuses (-2) σ).bind fun y11 => (some (y11.1, y11.2))) else (if ck 301 1112 = true then (nmI (gi σ 2 (301 : Int32).toNatClampNeg) fun x4 => (if x4 = 12 then ((fX12_refuses (-5) σ).bind fun y10 => (some (y10.1, y10.2))) else (if ck (152 + (3 * x4)) 1112 = true then (nmM (si σ 2 (152 + (3 * x4)).toNatClampNeg p1) fun s5 => (if ck ((152 + (3 * x4)) + 1) 1112 = true then (nmM (si s5 2 ((152 + (3 * x4)) + 1).toNatClampNeg p2) fun s6 => (if ck ((152 + (3 * x4)) + 2) 1112 = true then (nmM (si s6 2 ((152 + (3 * x4)) + 2).toNatClampNeg p3) fun s7 => (if ck 301 1112 = true then (if ck 301 1112 = true then (nmM (si s7 2 (301 : Int32).toNatClampNeg ((gi s7 2 (301 : Int32).toNatClampNeg) + 1)) fun s8 => ((fX12_good x4 s8).bind fun y9 => (some (y9.1, y9.2)))) else none) else none)) else none)) else none)) else none))) else none)))))))
set_option maxRecDepth 20000 in
set_option maxHeartbeats 4000000 in
theorem aX12_echo  (p1 : Int32) (p2 : Int32) (p3 : Int32)  (σ : qMem) : qAt wM mX12_echo (ρi) 0 [(0, .ref 0), (1, .int p1), (2, .int p2), (3, .int p3)] [] σ (fX12_echo p1 p2 p3 σ) := by
  unfold fX12_echo
  refine q_iload_n (i := 2) (x := p2) dX12_echo_0 rfl 2 rfl ?_
  refine q_cSp mX12_isBell [.int p2] (st := []) dX12_echo_1 (ssX12_132) ⟨Nat.le_of_ble_eq_true rfl, Nat.le_of_ble_eq_true rfl⟩ rfl rfl (Nat.le_of_ble_eq_true rfl) (kX12_isBell p2 σ) (fun y1 => ?_)
  refine q_if_eq (tgt := 17) dX12_echo_4 (by decide) ?_ ?_
  · exact q_sub [0] rfl (aX12_echo_b17 σ)
  refine q_iload_n (i := 3) (x := p3) dX12_echo_7 rfl 3 rfl ?_
  refine q_iconst (v := 0) dX12_echo_8 (by decide) ?_
  refine q_bipush (v := 99) dX12_echo_9 (by decide) ?_
  refine q_cSp mX12_in [.int p3, .int 0, .int 99] (st := []) dX12_echo_11 (ssX12_110) ⟨Nat.le_of_ble_eq_true rfl, Nat.le_of_ble_eq_true rfl⟩ rfl rfl (Nat.le_of_ble_eq_true rfl) (kX12_in p3 0 99 σ) (fun y2 => ?_)
  refine q_if_ne (tgt := 23) dX12_echo_14 (by decide) ?_ ?_
  · refine q_iload_n (i := 1) (x := p1) dX12_echo_23 rfl 1 rfl ?_
    refine q_cSp mX12_isBoat [.int p1] (st := []) dX12_echo_24 (ssX12_129) ⟨Nat.le_of_ble_eq_true rfl, Nat.le_of_ble_eq_true rfl⟩ rfl rfl (Nat.le_of_ble_eq_true rfl) (kX12_isBoat p1 σ) (fun y3 => ?_)
    refine q_if_ne (tgt := 37) dX12_echo_27 (by decide) ?_ ?_
    · refine q_aload_n (i := 0) (x := 0) dX12_echo_37 rfl 0 rfl ?_
      refine q_getr (t := 2) dX12_echo_38 foX12_20 zM_0 rfl ?_
      refine q_sipush (v := 301) dX12_echo_41 (by decide) ?_
      refine q_iald dX12_echo_44 zM_2 ?_
      refine q_nmI (fun x4 => ?_)
      refine q_istore (i := 4) (L' := [(4, .int x4), (0, .ref 0), (1, .int p1), (2, .int p2), (3, .int p3)]) dX12_echo_45 (Nat.le_of_ble_eq_true rfl) rfl ?_
      refine q_iload (i := 4) (x := x4) dX12_echo_47 0 rfl ?_
      refine q_bipush (v := 12) dX12_echo_49 (by decide) ?_
      refine q_icmp_ne (tgt := 61) dX12_echo_51 (by decide) ?_ ?_
      · refine q_aload_n (i := 0) (x := 0) dX12_echo_61 rfl 1 rfl ?_
        refine q_getr (t := 2) dX12_echo_62 foX12_20 zM_0 rfl ?_
        refine q_sipush (v := 152) dX12_echo_65 (by decide) ?_
        refine q_iconst (v := 3) dX12_echo_68 (by decide) ?_
        refine q_iload (i := 4) (x := x4) dX12_echo_69 0 rfl ?_
        refine q_imul dX12_echo_71 ?_
        refine q_iadd dX12_echo_72 ?_
        refine q_iload_n (i := 1) (x := p1) dX12_echo_73 rfl 2 rfl ?_
        refine q_iast dX12_echo_74 zM_2 ?_
        refine q_nmM (fun s5 => ?_)
        refine q_aload_n (i := 0) (x := 0) dX12_echo_75 rfl 1 rfl ?_
        refine q_getr (t := 2) dX12_echo_76 foX12_20 zM_0 rfl ?_
        refine q_sipush (v := 152) dX12_echo_79 (by decide) ?_
        refine q_iconst (v := 3) dX12_echo_82 (by decide) ?_
        refine q_iload (i := 4) (x := x4) dX12_echo_83 0 rfl ?_
        refine q_imul dX12_echo_85 ?_
        refine q_iadd dX12_echo_86 ?_
        refine q_iconst (v := 1) dX12_echo_87 (by decide) ?_
        refine q_iadd dX12_echo_88 ?_
        refine q_iload_n (i := 2) (x := p2) dX12_echo_89 rfl 3 rfl ?_
        refine q_iast dX12_echo_90 zM_2 ?_
        refine q_nmM (fun s6 => ?_)
        refine q_aload_n (i := 0) (x := 0) dX12_echo_91 rfl 1 rfl ?_
        refine q_getr (t := 2) dX12_echo_92 foX12_20 zM_0 rfl ?_
        refine q_sipush (v := 152) dX12_echo_95 (by decide) ?_
        refine q_iconst (v := 3) dX12_echo_98 (by decide) ?_
        refine q_iload (i := 4) (x := x4) dX12_echo_99 0 rfl ?_
        refine q_imul dX12_echo_101 ?_
        refine q_iadd dX12_echo_102 ?_
        refine q_iconst (v := 2) dX12_echo_103 (by decide) ?_
        refine q_iadd dX12_echo_104 ?_
        refine q_iload_n (i := 3) (x := p3) dX12_echo_105 rfl 4 rfl ?_
        refine q_iast dX12_echo_106 zM_2 ?_
        refine q_nmM (fun s7 => ?_)
        refine q_aload_n (i := 0) (x := 0) dX12_echo_107 rfl 1 rfl ?_
        refine q_getr (t := 2) dX12_echo_108 foX12_20 zM_0 rfl ?_
        refine q_sipush (v := 301) dX12_echo_111 (by decide) ?_
        refine q_dup2 dX12_echo_114 rfl rfl ?_
        refine q_iald dX12_echo_115 zM_2 ?_
        refine q_iconst (v := 1) dX12_echo_116 (by decide) ?_
        refine q_iadd dX12_echo_117 ?_
        refine q_iast dX12_echo_118 zM_2 ?_
        refine q_nmM (fun s8 => ?_)
        refine q_aload_n (i := 0) (x := 0) dX12_echo_119 rfl 1 rfl ?_
        refine q_iload (i := 4) (x := x4) dX12_echo_120 0 rfl ?_
        refine q_cVi mX12_good [.int x4] (st := []) dX12_echo_122 (svX12_118) ⟨Nat.le_of_ble_eq_true rfl, Nat.le_of_ble_eq_true rfl⟩ zM_0 rfl rfl rfl (Nat.le_of_ble_eq_true rfl) (kX12_good x4 s8) (fun y9 => ?_)
        exact q_ireti (y := (y9.1, y9.2)) dX12_echo_125 rfl rfl
      refine q_aload_n (i := 0) (x := 0) dX12_echo_54 rfl 1 rfl ?_
      refine q_bipush (v := (-5)) dX12_echo_55 (by decide) ?_
      refine q_cVi mX12_refuses [.int (-5)] (st := []) dX12_echo_57 (svX12_114) ⟨Nat.le_of_ble_eq_true rfl, Nat.le_of_ble_eq_true rfl⟩ zM_0 rfl rfl rfl (Nat.le_of_ble_eq_true rfl) (kX12_refuses (-5) σ) (fun y10 => ?_)
      exact q_ireti (y := (y10.1, y10.2)) dX12_echo_60 rfl rfl
    refine q_aload_n (i := 0) (x := 0) dX12_echo_30 rfl 0 rfl ?_
    refine q_bipush (v := (-2)) dX12_echo_31 (by decide) ?_
    refine q_cVi mX12_refuses [.int (-2)] (st := []) dX12_echo_33 (svX12_114) ⟨Nat.le_of_ble_eq_true rfl, Nat.le_of_ble_eq_true rfl⟩ zM_0 rfl rfl rfl (Nat.le_of_ble_eq_true rfl) (kX12_refuses (-2) σ) (fun y11 => ?_)
    exact q_ireti (y := (y11.1, y11.2)) dX12_echo_36 rfl rfl
  exact q_sub [0] rfl (aX12_echo_b17 σ)
theorem kX12_echo  (p1 : Int32) (p2 : Int32) (p3 : Int32)  (σ : qMem) : qMc wM mX12_echo (ρi) [.ref 0, .int p1, .int p2, .int p3] σ (fX12_echo p1 p2 p3 σ) := qMc_of (moX12_echo) (Nat.le_of_ble_eq_true rfl) (aX12_echo p1 p2 p3  σ)

theorem dX12_wreck_0 : decode cX12_wreck 0 = .ok (.iload_n 1, 1) := by decide +kernel
theorem dX12_wreck_1 : decode cX12_wreck 1 = .ok (.invokestatic 125, 3) := by decide +kernel
theorem dX12_wreck_4 : decode cX12_wreck 4 = .ok (.ifCond .eq 10, 3) := by decide +kernel
theorem dX12_wreck_7 : decode cX12_wreck 7 = .ok (.iload_n 2, 1) := by decide +kernel
theorem dX12_wreck_8 : decode cX12_wreck 8 = .ok (.invokestatic 125, 3) := by decide +kernel
theorem dX12_wreck_11 : decode cX12_wreck 11 = .ok (.ifCond .ne 9, 3) := by decide +kernel
theorem dX12_wreck_14 : decode cX12_wreck 14 = .ok (.aload_n 0, 1) := by decide +kernel
theorem dX12_wreck_15 : decode cX12_wreck 15 = .ok (.iconst (-1), 1) := by decide +kernel
theorem dX12_wreck_16 : decode cX12_wreck 16 = .ok (.invokevirtual 114, 3) := by decide +kernel
theorem dX12_wreck_19 : decode cX12_wreck 19 = .ok (.ireturn, 1) := by decide +kernel
theorem dX12_wreck_20 : decode cX12_wreck 20 = .ok (.aload_n 0, 1) := by decide +kernel
theorem dX12_wreck_21 : decode cX12_wreck 21 = .ok (.getfield 20, 3) := by decide +kernel
theorem dX12_wreck_24 : decode cX12_wreck 24 = .ok (.sipush 302, 3) := by decide +kernel
theorem dX12_wreck_27 : decode cX12_wreck 27 = .ok (.iaload, 1) := by decide +kernel
theorem dX12_wreck_28 : decode cX12_wreck 28 = .ok (.istore_n 3, 1) := by decide +kernel
theorem dX12_wreck_29 : decode cX12_wreck 29 = .ok (.iload_n 3, 1) := by decide +kernel
theorem dX12_wreck_30 : decode cX12_wreck 30 = .ok (.bipush 8, 2) := by decide +kernel
theorem dX12_wreck_32 : decode cX12_wreck 32 = .ok (.if_icmp .ne 10, 3) := by decide +kernel
theorem dX12_wreck_35 : decode cX12_wreck 35 = .ok (.aload_n 0, 1) := by decide +kernel
theorem dX12_wreck_36 : decode cX12_wreck 36 = .ok (.bipush (-5), 2) := by decide +kernel
theorem dX12_wreck_38 : decode cX12_wreck 38 = .ok (.invokevirtual 114, 3) := by decide +kernel
theorem dX12_wreck_41 : decode cX12_wreck 41 = .ok (.ireturn, 1) := by decide +kernel
theorem dX12_wreck_42 : decode cX12_wreck 42 = .ok (.aload_n 0, 1) := by decide +kernel
theorem dX12_wreck_43 : decode cX12_wreck 43 = .ok (.getfield 20, 3) := by decide +kernel
theorem dX12_wreck_46 : decode cX12_wreck 46 = .ok (.sipush 188, 3) := by decide +kernel
theorem dX12_wreck_49 : decode cX12_wreck 49 = .ok (.iconst 2, 1) := by decide +kernel
theorem dX12_wreck_50 : decode cX12_wreck 50 = .ok (.iload_n 3, 1) := by decide +kernel
theorem dX12_wreck_51 : decode cX12_wreck 51 = .ok (.imul, 1) := by decide +kernel
theorem dX12_wreck_52 : decode cX12_wreck 52 = .ok (.iadd, 1) := by decide +kernel
theorem dX12_wreck_53 : decode cX12_wreck 53 = .ok (.iload_n 1, 1) := by decide +kernel
theorem dX12_wreck_54 : decode cX12_wreck 54 = .ok (.iastore, 1) := by decide +kernel
theorem dX12_wreck_55 : decode cX12_wreck 55 = .ok (.aload_n 0, 1) := by decide +kernel
theorem dX12_wreck_56 : decode cX12_wreck 56 = .ok (.getfield 20, 3) := by decide +kernel
theorem dX12_wreck_59 : decode cX12_wreck 59 = .ok (.sipush 188, 3) := by decide +kernel
theorem dX12_wreck_62 : decode cX12_wreck 62 = .ok (.iconst 2, 1) := by decide +kernel
theorem dX12_wreck_63 : decode cX12_wreck 63 = .ok (.iload_n 3, 1) := by decide +kernel
theorem dX12_wreck_64 : decode cX12_wreck 64 = .ok (.imul, 1) := by decide +kernel
theorem dX12_wreck_65 : decode cX12_wreck 65 = .ok (.iadd, 1) := by decide +kernel
theorem dX12_wreck_66 : decode cX12_wreck 66 = .ok (.iconst 1, 1) := by decide +kernel
theorem dX12_wreck_67 : decode cX12_wreck 67 = .ok (.iadd, 1) := by decide +kernel
theorem dX12_wreck_68 : decode cX12_wreck 68 = .ok (.iload_n 2, 1) := by decide +kernel
theorem dX12_wreck_69 : decode cX12_wreck 69 = .ok (.iastore, 1) := by decide +kernel
theorem dX12_wreck_70 : decode cX12_wreck 70 = .ok (.aload_n 0, 1) := by decide +kernel
theorem dX12_wreck_71 : decode cX12_wreck 71 = .ok (.getfield 20, 3) := by decide +kernel
theorem dX12_wreck_74 : decode cX12_wreck 74 = .ok (.sipush 302, 3) := by decide +kernel
theorem dX12_wreck_77 : decode cX12_wreck 77 = .ok (.dup2, 1) := by decide +kernel
theorem dX12_wreck_78 : decode cX12_wreck 78 = .ok (.iaload, 1) := by decide +kernel
theorem dX12_wreck_79 : decode cX12_wreck 79 = .ok (.iconst 1, 1) := by decide +kernel
theorem dX12_wreck_80 : decode cX12_wreck 80 = .ok (.iadd, 1) := by decide +kernel
theorem dX12_wreck_81 : decode cX12_wreck 81 = .ok (.iastore, 1) := by decide +kernel
theorem dX12_wreck_82 : decode cX12_wreck 82 = .ok (.aload_n 0, 1) := by decide +kernel
theorem dX12_wreck_83 : decode cX12_wreck 83 = .ok (.iload_n 3, 1) := by decide +kernel
theorem dX12_wreck_84 : decode cX12_wreck 84 = .ok (.invokevirtual 118, 3) := by decide +kernel
theorem dX12_wreck_87 : decode cX12_wreck 87 = .ok (.ireturn, 1) := by decide +kernel
def fX12_wreck_b14 (σ : qMem) : Option (Int32 × qMem) :=
  ((fX12_refuses (-1) σ).bind fun y9 => (some (y9.1, y9.2)))
set_option maxRecDepth 20000 in
set_option maxHeartbeats 4000000 in
theorem aX12_wreck_b14 (σ : qMem) : qAt wM mX12_wreck (ρi) 14 [(0, .ref 0)] [] σ (fX12_wreck_b14 σ) := by
  unfold fX12_wreck_b14
  refine q_aload_n (i := 0) (x := 0) dX12_wreck_14 rfl 0 rfl ?_
  refine q_iconst (v := (-1)) dX12_wreck_15 (by decide) ?_
  refine q_cVi mX12_refuses [.int (-1)] (st := []) dX12_wreck_16 (svX12_114) ⟨Nat.le_of_ble_eq_true rfl, Nat.le_of_ble_eq_true rfl⟩ zM_0 rfl rfl rfl (Nat.le_of_ble_eq_true rfl) (kX12_refuses (-1) σ) (fun y9 => ?_)
  exact q_ireti (y := (y9.1, y9.2)) dX12_wreck_19 rfl rfl

def fX12_wreck (p1 : Int32) (p2 : Int32) (σ : qMem) : Option (Int32 × qMem) :=
  ((fX12_isSea p1).bind fun y1 => (if y1 = 0 then (fX12_wreck_b14 σ) else ((fX12_isSea p2).bind fun y2 => (if y2 = 0 then (fX12_wreck_b14 σ) else (if ck 302 1112 = true then (nmI (gi σ 2 (302 : Int32).toNatClampNeg) fun x3 => (if x3 = 8 then ((fX12_refuses (-5) σ).bind fun y8 => (some (y8.1, y8.2))) else (if ck (188 + (2 * x3)) 1112 = true then (nmM (si σ 2 (188 + (2 * x3)).toNatClampNeg p1) fun s4 => (if ck ((188 + (2 * x3)) + 1) 1112 = true then (nmM (si s4 2 ((188 + (2 * x3)) + 1).toNatClampNeg p2) fun s5 => (if ck 302 1112 = true then (if ck 302 1112 = true then (nmM (si s5 2 (302 : Int32).toNatClampNeg ((gi s5 2 (302 : Int32).toNatClampNeg) + 1)) fun s6 => ((fX12_good x3 s6).bind fun y7 => (some (y7.1, y7.2)))) else none) else none)) else none)) else none))) else none)))))
set_option maxRecDepth 20000 in
set_option maxHeartbeats 4000000 in
theorem aX12_wreck  (p1 : Int32) (p2 : Int32)  (σ : qMem) : qAt wM mX12_wreck (ρi) 0 [(0, .ref 0), (1, .int p1), (2, .int p2)] [] σ (fX12_wreck p1 p2 σ) := by
  unfold fX12_wreck
  refine q_iload_n (i := 1) (x := p1) dX12_wreck_0 rfl 1 rfl ?_
  refine q_cSp mX12_isSea [.int p1] (st := []) dX12_wreck_1 (ssX12_125) ⟨Nat.le_of_ble_eq_true rfl, Nat.le_of_ble_eq_true rfl⟩ rfl rfl (Nat.le_of_ble_eq_true rfl) (kX12_isSea p1 σ) (fun y1 => ?_)
  refine q_if_eq (tgt := 14) dX12_wreck_4 (by decide) ?_ ?_
  · exact q_sub [0] rfl (aX12_wreck_b14 σ)
  refine q_iload_n (i := 2) (x := p2) dX12_wreck_7 rfl 2 rfl ?_
  refine q_cSp mX12_isSea [.int p2] (st := []) dX12_wreck_8 (ssX12_125) ⟨Nat.le_of_ble_eq_true rfl, Nat.le_of_ble_eq_true rfl⟩ rfl rfl (Nat.le_of_ble_eq_true rfl) (kX12_isSea p2 σ) (fun y2 => ?_)
  refine q_if_ne (tgt := 20) dX12_wreck_11 (by decide) ?_ ?_
  · refine q_aload_n (i := 0) (x := 0) dX12_wreck_20 rfl 0 rfl ?_
    refine q_getr (t := 2) dX12_wreck_21 foX12_20 zM_0 rfl ?_
    refine q_sipush (v := 302) dX12_wreck_24 (by decide) ?_
    refine q_iald dX12_wreck_27 zM_2 ?_
    refine q_nmI (fun x3 => ?_)
    refine q_istore_n (i := 3) (L' := [(3, .int x3), (0, .ref 0), (1, .int p1), (2, .int p2)]) dX12_wreck_28 rfl (Nat.le_of_ble_eq_true rfl) rfl ?_
    refine q_iload_n (i := 3) (x := x3) dX12_wreck_29 rfl 0 rfl ?_
    refine q_bipush (v := 8) dX12_wreck_30 (by decide) ?_
    refine q_icmp_ne (tgt := 42) dX12_wreck_32 (by decide) ?_ ?_
    · refine q_aload_n (i := 0) (x := 0) dX12_wreck_42 rfl 1 rfl ?_
      refine q_getr (t := 2) dX12_wreck_43 foX12_20 zM_0 rfl ?_
      refine q_sipush (v := 188) dX12_wreck_46 (by decide) ?_
      refine q_iconst (v := 2) dX12_wreck_49 (by decide) ?_
      refine q_iload_n (i := 3) (x := x3) dX12_wreck_50 rfl 0 rfl ?_
      refine q_imul dX12_wreck_51 ?_
      refine q_iadd dX12_wreck_52 ?_
      refine q_iload_n (i := 1) (x := p1) dX12_wreck_53 rfl 2 rfl ?_
      refine q_iast dX12_wreck_54 zM_2 ?_
      refine q_nmM (fun s4 => ?_)
      refine q_aload_n (i := 0) (x := 0) dX12_wreck_55 rfl 1 rfl ?_
      refine q_getr (t := 2) dX12_wreck_56 foX12_20 zM_0 rfl ?_
      refine q_sipush (v := 188) dX12_wreck_59 (by decide) ?_
      refine q_iconst (v := 2) dX12_wreck_62 (by decide) ?_
      refine q_iload_n (i := 3) (x := x3) dX12_wreck_63 rfl 0 rfl ?_
      refine q_imul dX12_wreck_64 ?_
      refine q_iadd dX12_wreck_65 ?_
      refine q_iconst (v := 1) dX12_wreck_66 (by decide) ?_
      refine q_iadd dX12_wreck_67 ?_
      refine q_iload_n (i := 2) (x := p2) dX12_wreck_68 rfl 3 rfl ?_
      refine q_iast dX12_wreck_69 zM_2 ?_
      refine q_nmM (fun s5 => ?_)
      refine q_aload_n (i := 0) (x := 0) dX12_wreck_70 rfl 1 rfl ?_
      refine q_getr (t := 2) dX12_wreck_71 foX12_20 zM_0 rfl ?_
      refine q_sipush (v := 302) dX12_wreck_74 (by decide) ?_
      refine q_dup2 dX12_wreck_77 rfl rfl ?_
      refine q_iald dX12_wreck_78 zM_2 ?_
      refine q_iconst (v := 1) dX12_wreck_79 (by decide) ?_
      refine q_iadd dX12_wreck_80 ?_
      refine q_iast dX12_wreck_81 zM_2 ?_
      refine q_nmM (fun s6 => ?_)
      refine q_aload_n (i := 0) (x := 0) dX12_wreck_82 rfl 1 rfl ?_
      refine q_iload_n (i := 3) (x := x3) dX12_wreck_83 rfl 0 rfl ?_
      refine q_cVi mX12_good [.int x3] (st := []) dX12_wreck_84 (svX12_118) ⟨Nat.le_of_ble_eq_true rfl, Nat.le_of_ble_eq_true rfl⟩ zM_0 rfl rfl rfl (Nat.le_of_ble_eq_true rfl) (kX12_good x3 s6) (fun y7 => ?_)
      exact q_ireti (y := (y7.1, y7.2)) dX12_wreck_87 rfl rfl
    refine q_aload_n (i := 0) (x := 0) dX12_wreck_35 rfl 1 rfl ?_
    refine q_bipush (v := (-5)) dX12_wreck_36 (by decide) ?_
    refine q_cVi mX12_refuses [.int (-5)] (st := []) dX12_wreck_38 (svX12_114) ⟨Nat.le_of_ble_eq_true rfl, Nat.le_of_ble_eq_true rfl⟩ zM_0 rfl rfl rfl (Nat.le_of_ble_eq_true rfl) (kX12_refuses (-5) σ) (fun y8 => ?_)
    exact q_ireti (y := (y8.1, y8.2)) dX12_wreck_41 rfl rfl
  exact q_sub [0] rfl (aX12_wreck_b14 σ)
theorem kX12_wreck  (p1 : Int32) (p2 : Int32)  (σ : qMem) : qMc wM mX12_wreck (ρi) [.ref 0, .int p1, .int p2] σ (fX12_wreck p1 p2 σ) := qMc_of (moX12_wreck) (Nat.le_of_ble_eq_true rfl) (aX12_wreck p1 p2  σ)

theorem dX12_isTowards_0 : decode cX12_isTowards 0 = .ok (.iload_n 2, 1) := by decide +kernel
theorem dX12_isTowards_1 : decode cX12_isTowards 1 = .ok (.ifCond .ne 7, 3) := by decide +kernel
theorem dX12_isTowards_4 : decode cX12_isTowards 4 = .ok (.iload_n 3, 1) := by decide +kernel
theorem dX12_isTowards_5 : decode cX12_isTowards 5 = .ok (.ifCond .eq 29, 3) := by decide +kernel
theorem dX12_isTowards_8 : decode cX12_isTowards 8 = .ok (.iload_n 2, 1) := by decide +kernel
theorem dX12_isTowards_9 : decode cX12_isTowards 9 = .ok (.iload_n 3, 1) := by decide +kernel
theorem dX12_isTowards_10 : decode cX12_isTowards 10 = .ok (.invokestatic 166, 3) := by decide +kernel
theorem dX12_isTowards_13 : decode cX12_isTowards 13 = .ok (.aload_n 0, 1) := by decide +kernel
theorem dX12_isTowards_14 : decode cX12_isTowards 14 = .ok (.iload_n 1, 1) := by decide +kernel
theorem dX12_isTowards_15 : decode cX12_isTowards 15 = .ok (.iconst 2, 1) := by decide +kernel
theorem dX12_isTowards_16 : decode cX12_isTowards 16 = .ok (.invokevirtual 173, 3) := by decide +kernel
theorem dX12_isTowards_19 : decode cX12_isTowards 19 = .ok (.invokestatic 176, 3) := by decide +kernel
theorem dX12_isTowards_22 : decode cX12_isTowards 22 = .ok (.aload_n 0, 1) := by decide +kernel
theorem dX12_isTowards_23 : decode cX12_isTowards 23 = .ok (.iconst 0, 1) := by decide +kernel
theorem dX12_isTowards_24 : decode cX12_isTowards 24 = .ok (.invokevirtual 154, 3) := by decide +kernel
theorem dX12_isTowards_27 : decode cX12_isTowards 27 = .ok (.if_icmp .gt 7, 3) := by decide +kernel
theorem dX12_isTowards_30 : decode cX12_isTowards 30 = .ok (.iconst 1, 1) := by decide +kernel
theorem dX12_isTowards_31 : decode cX12_isTowards 31 = .ok (.goto 4, 3) := by decide +kernel
theorem dX12_isTowards_34 : decode cX12_isTowards 34 = .ok (.iconst 0, 1) := by decide +kernel
theorem dX12_isTowards_35 : decode cX12_isTowards 35 = .ok (.ireturn, 1) := by decide +kernel
def fX12_isTowards_b34 (σ : qMem) : Option Int32 :=
  (some 0)
set_option maxRecDepth 20000 in
set_option maxHeartbeats 4000000 in
theorem aX12_isTowards_b34 (σ : qMem) : qAt wM mX12_isTowards (ρp σ) 34 [] [] σ (fX12_isTowards_b34 σ) := by
  unfold fX12_isTowards_b34
  refine q_iconst (v := 0) dX12_isTowards_34 (by decide) ?_
  exact q_iretz (y := 0) dX12_isTowards_35 rfl rfl rfl

def fX12_isTowards_b8 (v1 : Int32) (v2 : Int32) (v3 : Int32) (σ : qMem) : Option Int32 :=
  ((fX12_rose v2 v3).bind fun y1 => ((fX12_heardOf v1 2 σ).bind fun y2 => ((fX12_turned y1 y2).bind fun y3 => ((fX12_term 0 σ).bind fun y4 => (if y4 < y3 then (fX12_isTowards_b34 σ) else (some 1))))))
set_option maxRecDepth 20000 in
set_option maxHeartbeats 4000000 in
theorem aX12_isTowards_b8 (σ : qMem) (v1 : Int32) (v2 : Int32) (v3 : Int32) : qAt wM mX12_isTowards (ρp σ) 8 [(0, .ref 0), (1, .int v1), (2, .int v2), (3, .int v3)] [] σ (fX12_isTowards_b8 v1 v2 v3 σ) := by
  unfold fX12_isTowards_b8
  refine q_iload_n (i := 2) (x := v2) dX12_isTowards_8 rfl 2 rfl ?_
  refine q_iload_n (i := 3) (x := v3) dX12_isTowards_9 rfl 3 rfl ?_
  refine q_cSp mX12_rose [.int v2, .int v3] (st := []) dX12_isTowards_10 (ssX12_166) ⟨Nat.le_of_ble_eq_true rfl, Nat.le_of_ble_eq_true rfl⟩ rfl rfl (Nat.le_of_ble_eq_true rfl) (kX12_rose v2 v3 σ) (fun y1 => ?_)
  refine q_aload_n (i := 0) (x := 0) dX12_isTowards_13 rfl 0 rfl ?_
  refine q_iload_n (i := 1) (x := v1) dX12_isTowards_14 rfl 1 rfl ?_
  refine q_iconst (v := 2) dX12_isTowards_15 (by decide) ?_
  refine q_cVp mX12_heardOf [.int v1, .int 2] (st := [.int y1]) dX12_isTowards_16 (svX12_173) ⟨Nat.le_of_ble_eq_true rfl, Nat.le_of_ble_eq_true rfl⟩ zM_0 rfl rfl rfl (Nat.le_of_ble_eq_true rfl) (kX12_heardOf v1 2 σ) (fun y2 => ?_)
  refine q_cSp mX12_turned [.int y1, .int y2] (st := []) dX12_isTowards_19 (ssX12_176) ⟨Nat.le_of_ble_eq_true rfl, Nat.le_of_ble_eq_true rfl⟩ rfl rfl (Nat.le_of_ble_eq_true rfl) (kX12_turned y1 y2 σ) (fun y3 => ?_)
  refine q_aload_n (i := 0) (x := 0) dX12_isTowards_22 rfl 0 rfl ?_
  refine q_iconst (v := 0) dX12_isTowards_23 (by decide) ?_
  refine q_cVp mX12_term [.int 0] (st := [.int y3]) dX12_isTowards_24 (svX12_154) ⟨Nat.le_of_ble_eq_true rfl, Nat.le_of_ble_eq_true rfl⟩ zM_0 rfl rfl rfl (Nat.le_of_ble_eq_true rfl) (kX12_term 0 σ) (fun y4 => ?_)
  refine q_icmp_gt (tgt := 34) dX12_isTowards_27 (by decide) ?_ ?_
  · exact q_sub [] rfl (aX12_isTowards_b34 σ)
  refine q_iconst (v := 1) dX12_isTowards_30 (by decide) ?_
  refine q_goto (tgt := 35) dX12_isTowards_31 (by decide) ?_
  exact q_iretz (y := 1) dX12_isTowards_35 rfl rfl rfl

def fX12_isTowards (p1 : Int32) (p2 : Int32) (p3 : Int32) (σ : qMem) : Option Int32 :=
  (if p2 = 0 then (if p3 = 0 then (fX12_isTowards_b34 σ) else (fX12_isTowards_b8 p1 p2 p3 σ)) else (fX12_isTowards_b8 p1 p2 p3 σ))
set_option maxRecDepth 20000 in
set_option maxHeartbeats 4000000 in
theorem aX12_isTowards  (p1 : Int32) (p2 : Int32) (p3 : Int32)  (σ : qMem) : qAt wM mX12_isTowards (ρp σ) 0 [(0, .ref 0), (1, .int p1), (2, .int p2), (3, .int p3)] [] σ (fX12_isTowards p1 p2 p3 σ) := by
  unfold fX12_isTowards
  refine q_iload_n (i := 2) (x := p2) dX12_isTowards_0 rfl 2 rfl ?_
  refine q_if_ne (tgt := 8) dX12_isTowards_1 (by decide) ?_ ?_
  · exact q_sub [0, 1, 2, 3] rfl (aX12_isTowards_b8 σ p1 p2 p3)
  refine q_iload_n (i := 3) (x := p3) dX12_isTowards_4 rfl 3 rfl ?_
  refine q_if_eq (tgt := 34) dX12_isTowards_5 (by decide) ?_ ?_
  · exact q_sub [] rfl (aX12_isTowards_b34 σ)
  exact q_sub [0, 1, 2, 3] rfl (aX12_isTowards_b8 σ p1 p2 p3)
theorem kX12_isTowards  (p1 : Int32) (p2 : Int32) (p3 : Int32)  (σ : qMem) : qMc wM mX12_isTowards (ρp σ) [.ref 0, .int p1, .int p2, .int p3] σ (fX12_isTowards p1 p2 p3 σ) := qMc_of (moX12_isTowards) (Nat.le_of_ble_eq_true rfl) (aX12_isTowards p1 p2 p3  σ)

theorem dX12_isAsFar_0 : decode cX12_isAsFar 0 = .ok (.aload_n 0, 1) := by decide +kernel
theorem dX12_isAsFar_1 : decode cX12_isAsFar 1 = .ok (.iload_n 1, 1) := by decide +kernel
theorem dX12_isAsFar_2 : decode cX12_isAsFar 2 = .ok (.iconst 2, 1) := by decide +kernel
theorem dX12_isAsFar_3 : decode cX12_isAsFar 3 = .ok (.invokevirtual 179, 3) := by decide +kernel
theorem dX12_isAsFar_6 : decode cX12_isAsFar 6 = .ok (.aload_n 0, 1) := by decide +kernel
theorem dX12_isAsFar_7 : decode cX12_isAsFar 7 = .ok (.iconst 1, 1) := by decide +kernel
theorem dX12_isAsFar_8 : decode cX12_isAsFar 8 = .ok (.invokevirtual 154, 3) := by decide +kernel
theorem dX12_isAsFar_11 : decode cX12_isAsFar 11 = .ok (.isub, 1) := by decide +kernel
theorem dX12_isAsFar_12 : decode cX12_isAsFar 12 = .ok (.istore 4, 2) := by decide +kernel
theorem dX12_isAsFar_14 : decode cX12_isAsFar 14 = .ok (.aload_n 0, 1) := by decide +kernel
theorem dX12_isAsFar_15 : decode cX12_isAsFar 15 = .ok (.iload_n 1, 1) := by decide +kernel
theorem dX12_isAsFar_16 : decode cX12_isAsFar 16 = .ok (.iconst 2, 1) := by decide +kernel
theorem dX12_isAsFar_17 : decode cX12_isAsFar 17 = .ok (.invokevirtual 179, 3) := by decide +kernel
theorem dX12_isAsFar_20 : decode cX12_isAsFar 20 = .ok (.aload_n 0, 1) := by decide +kernel
theorem dX12_isAsFar_21 : decode cX12_isAsFar 21 = .ok (.iconst 1, 1) := by decide +kernel
theorem dX12_isAsFar_22 : decode cX12_isAsFar 22 = .ok (.invokevirtual 154, 3) := by decide +kernel
theorem dX12_isAsFar_25 : decode cX12_isAsFar 25 = .ok (.iadd, 1) := by decide +kernel
theorem dX12_isAsFar_26 : decode cX12_isAsFar 26 = .ok (.istore 5, 2) := by decide +kernel
theorem dX12_isAsFar_28 : decode cX12_isAsFar 28 = .ok (.iload_n 2, 1) := by decide +kernel
theorem dX12_isAsFar_29 : decode cX12_isAsFar 29 = .ok (.iload_n 2, 1) := by decide +kernel
theorem dX12_isAsFar_30 : decode cX12_isAsFar 30 = .ok (.imul, 1) := by decide +kernel
theorem dX12_isAsFar_31 : decode cX12_isAsFar 31 = .ok (.iload_n 3, 1) := by decide +kernel
theorem dX12_isAsFar_32 : decode cX12_isAsFar 32 = .ok (.iload_n 3, 1) := by decide +kernel
theorem dX12_isAsFar_33 : decode cX12_isAsFar 33 = .ok (.imul, 1) := by decide +kernel
theorem dX12_isAsFar_34 : decode cX12_isAsFar 34 = .ok (.iadd, 1) := by decide +kernel
theorem dX12_isAsFar_35 : decode cX12_isAsFar 35 = .ok (.istore 6, 2) := by decide +kernel
theorem dX12_isAsFar_37 : decode cX12_isAsFar 37 = .ok (.iload 4, 2) := by decide +kernel
theorem dX12_isAsFar_39 : decode cX12_isAsFar 39 = .ok (.ifCond .le 13, 3) := by decide +kernel
theorem dX12_isAsFar_42 : decode cX12_isAsFar 42 = .ok (.iload 6, 2) := by decide +kernel
theorem dX12_isAsFar_44 : decode cX12_isAsFar 44 = .ok (.iload 4, 2) := by decide +kernel
theorem dX12_isAsFar_46 : decode cX12_isAsFar 46 = .ok (.iload 4, 2) := by decide +kernel
theorem dX12_isAsFar_48 : decode cX12_isAsFar 48 = .ok (.imul, 1) := by decide +kernel
theorem dX12_isAsFar_49 : decode cX12_isAsFar 49 = .ok (.if_icmp .lt 17, 3) := by decide +kernel
theorem dX12_isAsFar_52 : decode cX12_isAsFar 52 = .ok (.iload 6, 2) := by decide +kernel
theorem dX12_isAsFar_54 : decode cX12_isAsFar 54 = .ok (.iload 5, 2) := by decide +kernel
theorem dX12_isAsFar_56 : decode cX12_isAsFar 56 = .ok (.iload 5, 2) := by decide +kernel
theorem dX12_isAsFar_58 : decode cX12_isAsFar 58 = .ok (.imul, 1) := by decide +kernel
theorem dX12_isAsFar_59 : decode cX12_isAsFar 59 = .ok (.if_icmp .gt 7, 3) := by decide +kernel
theorem dX12_isAsFar_62 : decode cX12_isAsFar 62 = .ok (.iconst 1, 1) := by decide +kernel
theorem dX12_isAsFar_63 : decode cX12_isAsFar 63 = .ok (.goto 4, 3) := by decide +kernel
theorem dX12_isAsFar_66 : decode cX12_isAsFar 66 = .ok (.iconst 0, 1) := by decide +kernel
theorem dX12_isAsFar_67 : decode cX12_isAsFar 67 = .ok (.ireturn, 1) := by decide +kernel
def fX12_isAsFar_b66 (σ : qMem) : Option Int32 :=
  (some 0)
set_option maxRecDepth 20000 in
set_option maxHeartbeats 4000000 in
theorem aX12_isAsFar_b66 (σ : qMem) : qAt wM mX12_isAsFar (ρp σ) 66 [] [] σ (fX12_isAsFar_b66 σ) := by
  unfold fX12_isAsFar_b66
  refine q_iconst (v := 0) dX12_isAsFar_66 (by decide) ?_
  exact q_iretz (y := 0) dX12_isAsFar_67 rfl rfl rfl

def fX12_isAsFar_b52 (v5 : Int32) (v6 : Int32) (σ : qMem) : Option Int32 :=
  (if (v5 * v5) < v6 then (fX12_isAsFar_b66 σ) else (some 1))
set_option maxRecDepth 20000 in
set_option maxHeartbeats 4000000 in
theorem aX12_isAsFar_b52 (σ : qMem) (v5 : Int32) (v6 : Int32) : qAt wM mX12_isAsFar (ρp σ) 52 [(5, .int v5), (6, .int v6)] [] σ (fX12_isAsFar_b52 v5 v6 σ) := by
  unfold fX12_isAsFar_b52
  refine q_iload (i := 6) (x := v6) dX12_isAsFar_52 1 rfl ?_
  refine q_iload (i := 5) (x := v5) dX12_isAsFar_54 0 rfl ?_
  refine q_iload (i := 5) (x := v5) dX12_isAsFar_56 0 rfl ?_
  refine q_imul dX12_isAsFar_58 ?_
  refine q_icmp_gt (tgt := 66) dX12_isAsFar_59 (by decide) ?_ ?_
  · exact q_sub [] rfl (aX12_isAsFar_b66 σ)
  refine q_iconst (v := 1) dX12_isAsFar_62 (by decide) ?_
  refine q_goto (tgt := 67) dX12_isAsFar_63 (by decide) ?_
  exact q_iretz (y := 1) dX12_isAsFar_67 rfl rfl rfl

def fX12_isAsFar (p1 : Int32) (p2 : Int32) (p3 : Int32) (σ : qMem) : Option Int32 :=
  ((fX12_echoOf p1 2 σ).bind fun y1 => ((fX12_term 1 σ).bind fun y2 => ((fX12_echoOf p1 2 σ).bind fun y3 => ((fX12_term 1 σ).bind fun y4 => (if (y1 - y2) ≤ 0 then (fX12_isAsFar_b52 (y3 + y4) ((p2 * p2) + (p3 * p3)) σ) else (if ((p2 * p2) + (p3 * p3)) < ((y1 - y2) * (y1 - y2)) then (fX12_isAsFar_b66 σ) else (fX12_isAsFar_b52 (y3 + y4) ((p2 * p2) + (p3 * p3)) σ)))))))
set_option maxRecDepth 20000 in
set_option maxHeartbeats 4000000 in
theorem aX12_isAsFar  (p1 : Int32) (p2 : Int32) (p3 : Int32)  (σ : qMem) : qAt wM mX12_isAsFar (ρp σ) 0 [(0, .ref 0), (1, .int p1), (2, .int p2), (3, .int p3)] [] σ (fX12_isAsFar p1 p2 p3 σ) := by
  unfold fX12_isAsFar
  refine q_aload_n (i := 0) (x := 0) dX12_isAsFar_0 rfl 0 rfl ?_
  refine q_iload_n (i := 1) (x := p1) dX12_isAsFar_1 rfl 1 rfl ?_
  refine q_iconst (v := 2) dX12_isAsFar_2 (by decide) ?_
  refine q_cVp mX12_echoOf [.int p1, .int 2] (st := []) dX12_isAsFar_3 (svX12_179) ⟨Nat.le_of_ble_eq_true rfl, Nat.le_of_ble_eq_true rfl⟩ zM_0 rfl rfl rfl (Nat.le_of_ble_eq_true rfl) (kX12_echoOf p1 2 σ) (fun y1 => ?_)
  refine q_aload_n (i := 0) (x := 0) dX12_isAsFar_6 rfl 0 rfl ?_
  refine q_iconst (v := 1) dX12_isAsFar_7 (by decide) ?_
  refine q_cVp mX12_term [.int 1] (st := [.int y1]) dX12_isAsFar_8 (svX12_154) ⟨Nat.le_of_ble_eq_true rfl, Nat.le_of_ble_eq_true rfl⟩ zM_0 rfl rfl rfl (Nat.le_of_ble_eq_true rfl) (kX12_term 1 σ) (fun y2 => ?_)
  refine q_isub dX12_isAsFar_11 ?_
  refine q_istore (i := 4) (L' := [(4, .int (y1 - y2)), (0, .ref 0), (1, .int p1), (2, .int p2), (3, .int p3)]) dX12_isAsFar_12 (Nat.le_of_ble_eq_true rfl) rfl ?_
  refine q_aload_n (i := 0) (x := 0) dX12_isAsFar_14 rfl 1 rfl ?_
  refine q_iload_n (i := 1) (x := p1) dX12_isAsFar_15 rfl 2 rfl ?_
  refine q_iconst (v := 2) dX12_isAsFar_16 (by decide) ?_
  refine q_cVp mX12_echoOf [.int p1, .int 2] (st := []) dX12_isAsFar_17 (svX12_179) ⟨Nat.le_of_ble_eq_true rfl, Nat.le_of_ble_eq_true rfl⟩ zM_0 rfl rfl rfl (Nat.le_of_ble_eq_true rfl) (kX12_echoOf p1 2 σ) (fun y3 => ?_)
  refine q_aload_n (i := 0) (x := 0) dX12_isAsFar_20 rfl 1 rfl ?_
  refine q_iconst (v := 1) dX12_isAsFar_21 (by decide) ?_
  refine q_cVp mX12_term [.int 1] (st := [.int y3]) dX12_isAsFar_22 (svX12_154) ⟨Nat.le_of_ble_eq_true rfl, Nat.le_of_ble_eq_true rfl⟩ zM_0 rfl rfl rfl (Nat.le_of_ble_eq_true rfl) (kX12_term 1 σ) (fun y4 => ?_)
  refine q_iadd dX12_isAsFar_25 ?_
  refine q_istore (i := 5) (L' := [(5, .int (y3 + y4)), (4, .int (y1 - y2)), (0, .ref 0), (1, .int p1), (2, .int p2), (3, .int p3)]) dX12_isAsFar_26 (Nat.le_of_ble_eq_true rfl) rfl ?_
  refine q_iload_n (i := 2) (x := p2) dX12_isAsFar_28 rfl 4 rfl ?_
  refine q_iload_n (i := 2) (x := p2) dX12_isAsFar_29 rfl 4 rfl ?_
  refine q_imul dX12_isAsFar_30 ?_
  refine q_iload_n (i := 3) (x := p3) dX12_isAsFar_31 rfl 5 rfl ?_
  refine q_iload_n (i := 3) (x := p3) dX12_isAsFar_32 rfl 5 rfl ?_
  refine q_imul dX12_isAsFar_33 ?_
  refine q_iadd dX12_isAsFar_34 ?_
  refine q_istore (i := 6) (L' := [(6, .int ((p2 * p2) + (p3 * p3))), (5, .int (y3 + y4)), (4, .int (y1 - y2)), (0, .ref 0), (1, .int p1), (2, .int p2), (3, .int p3)]) dX12_isAsFar_35 (Nat.le_of_ble_eq_true rfl) rfl ?_
  refine q_iload (i := 4) (x := (y1 - y2)) dX12_isAsFar_37 2 rfl ?_
  refine q_if_le (tgt := 52) dX12_isAsFar_39 (by decide) ?_ ?_
  · exact q_sub [1, 0] rfl (aX12_isAsFar_b52 σ (y3 + y4) ((p2 * p2) + (p3 * p3)))
  refine q_iload (i := 6) (x := ((p2 * p2) + (p3 * p3))) dX12_isAsFar_42 0 rfl ?_
  refine q_iload (i := 4) (x := (y1 - y2)) dX12_isAsFar_44 2 rfl ?_
  refine q_iload (i := 4) (x := (y1 - y2)) dX12_isAsFar_46 2 rfl ?_
  refine q_imul dX12_isAsFar_48 ?_
  refine q_icmp_lt (tgt := 66) dX12_isAsFar_49 (by decide) ?_ ?_
  · exact q_sub [] rfl (aX12_isAsFar_b66 σ)
  exact q_sub [1, 0] rfl (aX12_isAsFar_b52 σ (y3 + y4) ((p2 * p2) + (p3 * p3)))
theorem kX12_isAsFar  (p1 : Int32) (p2 : Int32) (p3 : Int32)  (σ : qMem) : qMc wM mX12_isAsFar (ρp σ) [.ref 0, .int p1, .int p2, .int p3] σ (fX12_isAsFar p1 p2 p3 σ) := qMc_of (moX12_isAsFar) (Nat.le_of_ble_eq_true rfl) (aX12_isAsFar p1 p2 p3  σ)

theorem dX12_shoal_0 : decode cX12_shoal 0 = .ok (.iload_n 1, 1) := by decide +kernel
theorem dX12_shoal_1 : decode cX12_shoal 1 = .ok (.invokestatic 125, 3) := by decide +kernel
theorem dX12_shoal_4 : decode cX12_shoal 4 = .ok (.ifCond .eq 43, 3) := by decide +kernel
theorem dX12_shoal_7 : decode cX12_shoal 7 = .ok (.iload_n 2, 1) := by decide +kernel
theorem dX12_shoal_8 : decode cX12_shoal 8 = .ok (.invokestatic 125, 3) := by decide +kernel
theorem dX12_shoal_11 : decode cX12_shoal 11 = .ok (.ifCond .eq 36, 3) := by decide +kernel
theorem dX12_shoal_14 : decode cX12_shoal 14 = .ok (.iload_n 3, 1) := by decide +kernel
theorem dX12_shoal_15 : decode cX12_shoal 15 = .ok (.iconst 0, 1) := by decide +kernel
theorem dX12_shoal_16 : decode cX12_shoal 16 = .ok (.bipush 9, 2) := by decide +kernel
theorem dX12_shoal_18 : decode cX12_shoal 18 = .ok (.invokestatic 110, 3) := by decide +kernel
theorem dX12_shoal_21 : decode cX12_shoal 21 = .ok (.ifCond .eq 26, 3) := by decide +kernel
theorem dX12_shoal_24 : decode cX12_shoal 24 = .ok (.iload 4, 2) := by decide +kernel
theorem dX12_shoal_26 : decode cX12_shoal 26 = .ok (.invokestatic 132, 3) := by decide +kernel
theorem dX12_shoal_29 : decode cX12_shoal 29 = .ok (.ifCond .eq 18, 3) := by decide +kernel
theorem dX12_shoal_32 : decode cX12_shoal 32 = .ok (.iload 5, 2) := by decide +kernel
theorem dX12_shoal_34 : decode cX12_shoal 34 = .ok (.invokestatic 132, 3) := by decide +kernel
theorem dX12_shoal_37 : decode cX12_shoal 37 = .ok (.ifCond .eq 10, 3) := by decide +kernel
theorem dX12_shoal_40 : decode cX12_shoal 40 = .ok (.iload 5, 2) := by decide +kernel
theorem dX12_shoal_42 : decode cX12_shoal 42 = .ok (.iload 4, 2) := by decide +kernel
theorem dX12_shoal_44 : decode cX12_shoal 44 = .ok (.if_icmp .ge 9, 3) := by decide +kernel
theorem dX12_shoal_47 : decode cX12_shoal 47 = .ok (.aload_n 0, 1) := by decide +kernel
theorem dX12_shoal_48 : decode cX12_shoal 48 = .ok (.iconst (-1), 1) := by decide +kernel
theorem dX12_shoal_49 : decode cX12_shoal 49 = .ok (.invokevirtual 114, 3) := by decide +kernel
theorem dX12_shoal_52 : decode cX12_shoal 52 = .ok (.ireturn, 1) := by decide +kernel
theorem dX12_shoal_53 : decode cX12_shoal 53 = .ok (.aload_n 0, 1) := by decide +kernel
theorem dX12_shoal_54 : decode cX12_shoal 54 = .ok (.getfield 20, 3) := by decide +kernel
theorem dX12_shoal_57 : decode cX12_shoal 57 = .ok (.sipush 308, 3) := by decide +kernel
theorem dX12_shoal_60 : decode cX12_shoal 60 = .ok (.iaload, 1) := by decide +kernel
theorem dX12_shoal_61 : decode cX12_shoal 61 = .ok (.istore 6, 2) := by decide +kernel
theorem dX12_shoal_63 : decode cX12_shoal 63 = .ok (.iload 6, 2) := by decide +kernel
theorem dX12_shoal_65 : decode cX12_shoal 65 = .ok (.bipush 6, 2) := by decide +kernel
theorem dX12_shoal_67 : decode cX12_shoal 67 = .ok (.if_icmp .ne 10, 3) := by decide +kernel
theorem dX12_shoal_70 : decode cX12_shoal 70 = .ok (.aload_n 0, 1) := by decide +kernel
theorem dX12_shoal_71 : decode cX12_shoal 71 = .ok (.bipush (-5), 2) := by decide +kernel
theorem dX12_shoal_73 : decode cX12_shoal 73 = .ok (.invokevirtual 114, 3) := by decide +kernel
theorem dX12_shoal_76 : decode cX12_shoal 76 = .ok (.ireturn, 1) := by decide +kernel
theorem dX12_shoal_77 : decode cX12_shoal 77 = .ok (.sipush 238, 3) := by decide +kernel
theorem dX12_shoal_80 : decode cX12_shoal 80 = .ok (.iconst 5, 1) := by decide +kernel
theorem dX12_shoal_81 : decode cX12_shoal 81 = .ok (.iload 6, 2) := by decide +kernel
theorem dX12_shoal_83 : decode cX12_shoal 83 = .ok (.imul, 1) := by decide +kernel
theorem dX12_shoal_84 : decode cX12_shoal 84 = .ok (.iadd, 1) := by decide +kernel
theorem dX12_shoal_85 : decode cX12_shoal 85 = .ok (.istore 7, 2) := by decide +kernel
theorem dX12_shoal_87 : decode cX12_shoal 87 = .ok (.aload_n 0, 1) := by decide +kernel
theorem dX12_shoal_88 : decode cX12_shoal 88 = .ok (.getfield 20, 3) := by decide +kernel
theorem dX12_shoal_91 : decode cX12_shoal 91 = .ok (.iload 7, 2) := by decide +kernel
theorem dX12_shoal_93 : decode cX12_shoal 93 = .ok (.iload_n 1, 1) := by decide +kernel
theorem dX12_shoal_94 : decode cX12_shoal 94 = .ok (.iastore, 1) := by decide +kernel
theorem dX12_shoal_95 : decode cX12_shoal 95 = .ok (.aload_n 0, 1) := by decide +kernel
theorem dX12_shoal_96 : decode cX12_shoal 96 = .ok (.getfield 20, 3) := by decide +kernel
theorem dX12_shoal_99 : decode cX12_shoal 99 = .ok (.iload 7, 2) := by decide +kernel
theorem dX12_shoal_101 : decode cX12_shoal 101 = .ok (.iconst 1, 1) := by decide +kernel
theorem dX12_shoal_102 : decode cX12_shoal 102 = .ok (.iadd, 1) := by decide +kernel
theorem dX12_shoal_103 : decode cX12_shoal 103 = .ok (.iload_n 2, 1) := by decide +kernel
theorem dX12_shoal_104 : decode cX12_shoal 104 = .ok (.iastore, 1) := by decide +kernel
theorem dX12_shoal_105 : decode cX12_shoal 105 = .ok (.aload_n 0, 1) := by decide +kernel
theorem dX12_shoal_106 : decode cX12_shoal 106 = .ok (.getfield 20, 3) := by decide +kernel
theorem dX12_shoal_109 : decode cX12_shoal 109 = .ok (.iload 7, 2) := by decide +kernel
theorem dX12_shoal_111 : decode cX12_shoal 111 = .ok (.iconst 2, 1) := by decide +kernel
theorem dX12_shoal_112 : decode cX12_shoal 112 = .ok (.iadd, 1) := by decide +kernel
theorem dX12_shoal_113 : decode cX12_shoal 113 = .ok (.iload_n 3, 1) := by decide +kernel
theorem dX12_shoal_114 : decode cX12_shoal 114 = .ok (.iastore, 1) := by decide +kernel
theorem dX12_shoal_115 : decode cX12_shoal 115 = .ok (.aload_n 0, 1) := by decide +kernel
theorem dX12_shoal_116 : decode cX12_shoal 116 = .ok (.getfield 20, 3) := by decide +kernel
theorem dX12_shoal_119 : decode cX12_shoal 119 = .ok (.iload 7, 2) := by decide +kernel
theorem dX12_shoal_121 : decode cX12_shoal 121 = .ok (.iconst 3, 1) := by decide +kernel
theorem dX12_shoal_122 : decode cX12_shoal 122 = .ok (.iadd, 1) := by decide +kernel
theorem dX12_shoal_123 : decode cX12_shoal 123 = .ok (.iload 4, 2) := by decide +kernel
theorem dX12_shoal_125 : decode cX12_shoal 125 = .ok (.iastore, 1) := by decide +kernel
theorem dX12_shoal_126 : decode cX12_shoal 126 = .ok (.aload_n 0, 1) := by decide +kernel
theorem dX12_shoal_127 : decode cX12_shoal 127 = .ok (.getfield 20, 3) := by decide +kernel
theorem dX12_shoal_130 : decode cX12_shoal 130 = .ok (.iload 7, 2) := by decide +kernel
theorem dX12_shoal_132 : decode cX12_shoal 132 = .ok (.iconst 4, 1) := by decide +kernel
theorem dX12_shoal_133 : decode cX12_shoal 133 = .ok (.iadd, 1) := by decide +kernel
theorem dX12_shoal_134 : decode cX12_shoal 134 = .ok (.iload 5, 2) := by decide +kernel
theorem dX12_shoal_136 : decode cX12_shoal 136 = .ok (.iastore, 1) := by decide +kernel
theorem dX12_shoal_137 : decode cX12_shoal 137 = .ok (.aload_n 0, 1) := by decide +kernel
theorem dX12_shoal_138 : decode cX12_shoal 138 = .ok (.getfield 20, 3) := by decide +kernel
theorem dX12_shoal_141 : decode cX12_shoal 141 = .ok (.sipush 308, 3) := by decide +kernel
theorem dX12_shoal_144 : decode cX12_shoal 144 = .ok (.dup2, 1) := by decide +kernel
theorem dX12_shoal_145 : decode cX12_shoal 145 = .ok (.iaload, 1) := by decide +kernel
theorem dX12_shoal_146 : decode cX12_shoal 146 = .ok (.iconst 1, 1) := by decide +kernel
theorem dX12_shoal_147 : decode cX12_shoal 147 = .ok (.iadd, 1) := by decide +kernel
theorem dX12_shoal_148 : decode cX12_shoal 148 = .ok (.iastore, 1) := by decide +kernel
theorem dX12_shoal_149 : decode cX12_shoal 149 = .ok (.aload_n 0, 1) := by decide +kernel
theorem dX12_shoal_150 : decode cX12_shoal 150 = .ok (.iload 6, 2) := by decide +kernel
theorem dX12_shoal_152 : decode cX12_shoal 152 = .ok (.invokevirtual 118, 3) := by decide +kernel
theorem dX12_shoal_155 : decode cX12_shoal 155 = .ok (.ireturn, 1) := by decide +kernel
def fX12_shoal_b47 (σ : qMem) : Option (Int32 × qMem) :=
  ((fX12_refuses (-1) σ).bind fun y15 => (some (y15.1, y15.2)))
set_option maxRecDepth 20000 in
set_option maxHeartbeats 4000000 in
theorem aX12_shoal_b47 (σ : qMem) : qAt wM mX12_shoal (ρi) 47 [(0, .ref 0)] [] σ (fX12_shoal_b47 σ) := by
  unfold fX12_shoal_b47
  refine q_aload_n (i := 0) (x := 0) dX12_shoal_47 rfl 0 rfl ?_
  refine q_iconst (v := (-1)) dX12_shoal_48 (by decide) ?_
  refine q_cVi mX12_refuses [.int (-1)] (st := []) dX12_shoal_49 (svX12_114) ⟨Nat.le_of_ble_eq_true rfl, Nat.le_of_ble_eq_true rfl⟩ zM_0 rfl rfl rfl (Nat.le_of_ble_eq_true rfl) (kX12_refuses (-1) σ) (fun y15 => ?_)
  exact q_ireti (y := (y15.1, y15.2)) dX12_shoal_52 rfl rfl

def fX12_shoal (p1 : Int32) (p2 : Int32) (p3 : Int32) (p4 : Int32) (p5 : Int32) (σ : qMem) : Option (Int32 × qMem) :=
  ((fX12_isSea p1).bind fun y1 => (if y1 = 0 then (fX12_shoal_b47 σ) else ((fX12_isSea p2).bind fun y2 => (if y2 = 0 then (fX12_shoal_b47 σ) else ((fX12_in p3 0 9).bind fun y3 => (if y3 = 0 then (fX12_shoal_b47 σ) else ((fX12_isBell p4).bind fun y4 => (if y4 = 0 then (fX12_shoal_b47 σ) else ((fX12_isBell p5).bind fun y5 => (if y5 = 0 then (fX12_shoal_b47 σ) else (if p4 ≤ p5 then (if ck 308 1112 = true then (nmI (gi σ 2 (308 : Int32).toNatClampNeg) fun x6 => (if x6 = 6 then ((fX12_refuses (-5) σ).bind fun y14 => (some (y14.1, y14.2))) else (if ck (238 + (5 * x6)) 1112 = true then (nmM (si σ 2 (238 + (5 * x6)).toNatClampNeg p1) fun s7 => (if ck ((238 + (5 * x6)) + 1) 1112 = true then (nmM (si s7 2 ((238 + (5 * x6)) + 1).toNatClampNeg p2) fun s8 => (if ck ((238 + (5 * x6)) + 2) 1112 = true then (nmM (si s8 2 ((238 + (5 * x6)) + 2).toNatClampNeg p3) fun s9 => (if ck ((238 + (5 * x6)) + 3) 1112 = true then (nmM (si s9 2 ((238 + (5 * x6)) + 3).toNatClampNeg p4) fun s10 => (if ck ((238 + (5 * x6)) + 4) 1112 = true then (nmM (si s10 2 ((238 + (5 * x6)) + 4).toNatClampNeg p5) fun s11 => (if ck 308 1112 = true then (if ck 308 1112 = true then (nmM (si s11 2 (308 : Int32).toNatClampNeg ((gi s11 2 (308 : Int32).toNatClampNeg) + 1)) fun s12 => ((fX12_good x6 s12).bind fun y13 => (some (y13.1, y13.2)))) else none) else none)) else none)) else none)) else none)) else none)) else none))) else none) else (fX12_shoal_b47 σ))))))))))))
set_option maxRecDepth 20000 in
set_option maxHeartbeats 4000000 in
theorem aX12_shoal  (p1 : Int32) (p2 : Int32) (p3 : Int32) (p4 : Int32) (p5 : Int32)  (σ : qMem) : qAt wM mX12_shoal (ρi) 0 [(0, .ref 0), (1, .int p1), (2, .int p2), (3, .int p3), (4, .int p4), (5, .int p5)] [] σ (fX12_shoal p1 p2 p3 p4 p5 σ) := by
  unfold fX12_shoal
  refine q_iload_n (i := 1) (x := p1) dX12_shoal_0 rfl 1 rfl ?_
  refine q_cSp mX12_isSea [.int p1] (st := []) dX12_shoal_1 (ssX12_125) ⟨Nat.le_of_ble_eq_true rfl, Nat.le_of_ble_eq_true rfl⟩ rfl rfl (Nat.le_of_ble_eq_true rfl) (kX12_isSea p1 σ) (fun y1 => ?_)
  refine q_if_eq (tgt := 47) dX12_shoal_4 (by decide) ?_ ?_
  · exact q_sub [0] rfl (aX12_shoal_b47 σ)
  refine q_iload_n (i := 2) (x := p2) dX12_shoal_7 rfl 2 rfl ?_
  refine q_cSp mX12_isSea [.int p2] (st := []) dX12_shoal_8 (ssX12_125) ⟨Nat.le_of_ble_eq_true rfl, Nat.le_of_ble_eq_true rfl⟩ rfl rfl (Nat.le_of_ble_eq_true rfl) (kX12_isSea p2 σ) (fun y2 => ?_)
  refine q_if_eq (tgt := 47) dX12_shoal_11 (by decide) ?_ ?_
  · exact q_sub [0] rfl (aX12_shoal_b47 σ)
  refine q_iload_n (i := 3) (x := p3) dX12_shoal_14 rfl 3 rfl ?_
  refine q_iconst (v := 0) dX12_shoal_15 (by decide) ?_
  refine q_bipush (v := 9) dX12_shoal_16 (by decide) ?_
  refine q_cSp mX12_in [.int p3, .int 0, .int 9] (st := []) dX12_shoal_18 (ssX12_110) ⟨Nat.le_of_ble_eq_true rfl, Nat.le_of_ble_eq_true rfl⟩ rfl rfl (Nat.le_of_ble_eq_true rfl) (kX12_in p3 0 9 σ) (fun y3 => ?_)
  refine q_if_eq (tgt := 47) dX12_shoal_21 (by decide) ?_ ?_
  · exact q_sub [0] rfl (aX12_shoal_b47 σ)
  refine q_iload (i := 4) (x := p4) dX12_shoal_24 4 rfl ?_
  refine q_cSp mX12_isBell [.int p4] (st := []) dX12_shoal_26 (ssX12_132) ⟨Nat.le_of_ble_eq_true rfl, Nat.le_of_ble_eq_true rfl⟩ rfl rfl (Nat.le_of_ble_eq_true rfl) (kX12_isBell p4 σ) (fun y4 => ?_)
  refine q_if_eq (tgt := 47) dX12_shoal_29 (by decide) ?_ ?_
  · exact q_sub [0] rfl (aX12_shoal_b47 σ)
  refine q_iload (i := 5) (x := p5) dX12_shoal_32 5 rfl ?_
  refine q_cSp mX12_isBell [.int p5] (st := []) dX12_shoal_34 (ssX12_132) ⟨Nat.le_of_ble_eq_true rfl, Nat.le_of_ble_eq_true rfl⟩ rfl rfl (Nat.le_of_ble_eq_true rfl) (kX12_isBell p5 σ) (fun y5 => ?_)
  refine q_if_eq (tgt := 47) dX12_shoal_37 (by decide) ?_ ?_
  · exact q_sub [0] rfl (aX12_shoal_b47 σ)
  refine q_iload (i := 5) (x := p5) dX12_shoal_40 5 rfl ?_
  refine q_iload (i := 4) (x := p4) dX12_shoal_42 4 rfl ?_
  refine q_icmp_ge (tgt := 53) dX12_shoal_44 (by decide) ?_ ?_
  · refine q_aload_n (i := 0) (x := 0) dX12_shoal_53 rfl 0 rfl ?_
    refine q_getr (t := 2) dX12_shoal_54 foX12_20 zM_0 rfl ?_
    refine q_sipush (v := 308) dX12_shoal_57 (by decide) ?_
    refine q_iald dX12_shoal_60 zM_2 ?_
    refine q_nmI (fun x6 => ?_)
    refine q_istore (i := 6) (L' := [(6, .int x6), (0, .ref 0), (1, .int p1), (2, .int p2), (3, .int p3), (4, .int p4), (5, .int p5)]) dX12_shoal_61 (Nat.le_of_ble_eq_true rfl) rfl ?_
    refine q_iload (i := 6) (x := x6) dX12_shoal_63 0 rfl ?_
    refine q_bipush (v := 6) dX12_shoal_65 (by decide) ?_
    refine q_icmp_ne (tgt := 77) dX12_shoal_67 (by decide) ?_ ?_
    · refine q_sipush (v := 238) dX12_shoal_77 (by decide) ?_
      refine q_iconst (v := 5) dX12_shoal_80 (by decide) ?_
      refine q_iload (i := 6) (x := x6) dX12_shoal_81 0 rfl ?_
      refine q_imul dX12_shoal_83 ?_
      refine q_iadd dX12_shoal_84 ?_
      refine q_istore (i := 7) (L' := [(7, .int (238 + (5 * x6))), (6, .int x6), (0, .ref 0), (1, .int p1), (2, .int p2), (3, .int p3), (4, .int p4), (5, .int p5)]) dX12_shoal_85 (Nat.le_of_ble_eq_true rfl) rfl ?_
      refine q_aload_n (i := 0) (x := 0) dX12_shoal_87 rfl 2 rfl ?_
      refine q_getr (t := 2) dX12_shoal_88 foX12_20 zM_0 rfl ?_
      refine q_iload (i := 7) (x := (238 + (5 * x6))) dX12_shoal_91 0 rfl ?_
      refine q_iload_n (i := 1) (x := p1) dX12_shoal_93 rfl 3 rfl ?_
      refine q_iast dX12_shoal_94 zM_2 ?_
      refine q_nmM (fun s7 => ?_)
      refine q_aload_n (i := 0) (x := 0) dX12_shoal_95 rfl 2 rfl ?_
      refine q_getr (t := 2) dX12_shoal_96 foX12_20 zM_0 rfl ?_
      refine q_iload (i := 7) (x := (238 + (5 * x6))) dX12_shoal_99 0 rfl ?_
      refine q_iconst (v := 1) dX12_shoal_101 (by decide) ?_
      refine q_iadd dX12_shoal_102 ?_
      refine q_iload_n (i := 2) (x := p2) dX12_shoal_103 rfl 4 rfl ?_
      refine q_iast dX12_shoal_104 zM_2 ?_
      refine q_nmM (fun s8 => ?_)
      refine q_aload_n (i := 0) (x := 0) dX12_shoal_105 rfl 2 rfl ?_
      refine q_getr (t := 2) dX12_shoal_106 foX12_20 zM_0 rfl ?_
      refine q_iload (i := 7) (x := (238 + (5 * x6))) dX12_shoal_109 0 rfl ?_
      refine q_iconst (v := 2) dX12_shoal_111 (by decide) ?_
      refine q_iadd dX12_shoal_112 ?_
      refine q_iload_n (i := 3) (x := p3) dX12_shoal_113 rfl 5 rfl ?_
      refine q_iast dX12_shoal_114 zM_2 ?_
      refine q_nmM (fun s9 => ?_)
      refine q_aload_n (i := 0) (x := 0) dX12_shoal_115 rfl 2 rfl ?_
      refine q_getr (t := 2) dX12_shoal_116 foX12_20 zM_0 rfl ?_
      refine q_iload (i := 7) (x := (238 + (5 * x6))) dX12_shoal_119 0 rfl ?_
      refine q_iconst (v := 3) dX12_shoal_121 (by decide) ?_
      refine q_iadd dX12_shoal_122 ?_
      refine q_iload (i := 4) (x := p4) dX12_shoal_123 6 rfl ?_
      refine q_iast dX12_shoal_125 zM_2 ?_
      refine q_nmM (fun s10 => ?_)
      refine q_aload_n (i := 0) (x := 0) dX12_shoal_126 rfl 2 rfl ?_
      refine q_getr (t := 2) dX12_shoal_127 foX12_20 zM_0 rfl ?_
      refine q_iload (i := 7) (x := (238 + (5 * x6))) dX12_shoal_130 0 rfl ?_
      refine q_iconst (v := 4) dX12_shoal_132 (by decide) ?_
      refine q_iadd dX12_shoal_133 ?_
      refine q_iload (i := 5) (x := p5) dX12_shoal_134 7 rfl ?_
      refine q_iast dX12_shoal_136 zM_2 ?_
      refine q_nmM (fun s11 => ?_)
      refine q_aload_n (i := 0) (x := 0) dX12_shoal_137 rfl 2 rfl ?_
      refine q_getr (t := 2) dX12_shoal_138 foX12_20 zM_0 rfl ?_
      refine q_sipush (v := 308) dX12_shoal_141 (by decide) ?_
      refine q_dup2 dX12_shoal_144 rfl rfl ?_
      refine q_iald dX12_shoal_145 zM_2 ?_
      refine q_iconst (v := 1) dX12_shoal_146 (by decide) ?_
      refine q_iadd dX12_shoal_147 ?_
      refine q_iast dX12_shoal_148 zM_2 ?_
      refine q_nmM (fun s12 => ?_)
      refine q_aload_n (i := 0) (x := 0) dX12_shoal_149 rfl 2 rfl ?_
      refine q_iload (i := 6) (x := x6) dX12_shoal_150 1 rfl ?_
      refine q_cVi mX12_good [.int x6] (st := []) dX12_shoal_152 (svX12_118) ⟨Nat.le_of_ble_eq_true rfl, Nat.le_of_ble_eq_true rfl⟩ zM_0 rfl rfl rfl (Nat.le_of_ble_eq_true rfl) (kX12_good x6 s12) (fun y13 => ?_)
      exact q_ireti (y := (y13.1, y13.2)) dX12_shoal_155 rfl rfl
    refine q_aload_n (i := 0) (x := 0) dX12_shoal_70 rfl 1 rfl ?_
    refine q_bipush (v := (-5)) dX12_shoal_71 (by decide) ?_
    refine q_cVi mX12_refuses [.int (-5)] (st := []) dX12_shoal_73 (svX12_114) ⟨Nat.le_of_ble_eq_true rfl, Nat.le_of_ble_eq_true rfl⟩ zM_0 rfl rfl rfl (Nat.le_of_ble_eq_true rfl) (kX12_refuses (-5) σ) (fun y14 => ?_)
    exact q_ireti (y := (y14.1, y14.2)) dX12_shoal_76 rfl rfl
  exact q_sub [0] rfl (aX12_shoal_b47 σ)
theorem kX12_shoal  (p1 : Int32) (p2 : Int32) (p3 : Int32) (p4 : Int32) (p5 : Int32)  (σ : qMem) : qMc wM mX12_shoal (ρi) [.ref 0, .int p1, .int p2, .int p3, .int p4, .int p5] σ (fX12_shoal p1 p2 p3 p4 p5 σ) := qMc_of (moX12_shoal) (Nat.le_of_ble_eq_true rfl) (aX12_shoal p1 p2 p3 p4 p5  σ)

theorem dX12_explains_0 : decode cX12_explains 0 = .ok (.iload_n 1, 1) := by decide +kernel
theorem dX12_explains_1 : decode cX12_explains 1 = .ok (.ifCond .eq 12, 3) := by decide +kernel
theorem dX12_explains_4 : decode cX12_explains 4 = .ok (.aload_n 0, 1) := by decide +kernel
theorem dX12_explains_5 : decode cX12_explains 5 = .ok (.iload_n 2, 1) := by decide +kernel
theorem dX12_explains_6 : decode cX12_explains 6 = .ok (.iconst 0, 1) := by decide +kernel
theorem dX12_explains_7 : decode cX12_explains 7 = .ok (.invokevirtual 179, 3) := by decide +kernel
theorem dX12_explains_10 : decode cX12_explains 10 = .ok (.goto 9, 3) := by decide +kernel
theorem dX12_explains_13 : decode cX12_explains 13 = .ok (.aload_n 0, 1) := by decide +kernel
theorem dX12_explains_14 : decode cX12_explains 14 = .ok (.iload_n 2, 1) := by decide +kernel
theorem dX12_explains_15 : decode cX12_explains 15 = .ok (.iconst 0, 1) := by decide +kernel
theorem dX12_explains_16 : decode cX12_explains 16 = .ok (.invokevirtual 173, 3) := by decide +kernel
theorem dX12_explains_19 : decode cX12_explains 19 = .ok (.istore 5, 2) := by decide +kernel
theorem dX12_explains_21 : decode cX12_explains 21 = .ok (.iload_n 1, 1) := by decide +kernel
theorem dX12_explains_22 : decode cX12_explains 22 = .ok (.ifCond .eq 12, 3) := by decide +kernel
theorem dX12_explains_25 : decode cX12_explains 25 = .ok (.aload_n 0, 1) := by decide +kernel
theorem dX12_explains_26 : decode cX12_explains 26 = .ok (.iload_n 2, 1) := by decide +kernel
theorem dX12_explains_27 : decode cX12_explains 27 = .ok (.iconst 1, 1) := by decide +kernel
theorem dX12_explains_28 : decode cX12_explains 28 = .ok (.invokevirtual 179, 3) := by decide +kernel
theorem dX12_explains_31 : decode cX12_explains 31 = .ok (.goto 9, 3) := by decide +kernel
theorem dX12_explains_34 : decode cX12_explains 34 = .ok (.aload_n 0, 1) := by decide +kernel
theorem dX12_explains_35 : decode cX12_explains 35 = .ok (.iload_n 2, 1) := by decide +kernel
theorem dX12_explains_36 : decode cX12_explains 36 = .ok (.iconst 1, 1) := by decide +kernel
theorem dX12_explains_37 : decode cX12_explains 37 = .ok (.invokevirtual 173, 3) := by decide +kernel
theorem dX12_explains_40 : decode cX12_explains 40 = .ok (.istore 6, 2) := by decide +kernel
theorem dX12_explains_42 : decode cX12_explains 42 = .ok (.iload_n 3, 1) := by decide +kernel
theorem dX12_explains_43 : decode cX12_explains 43 = .ok (.aload_n 0, 1) := by decide +kernel
theorem dX12_explains_44 : decode cX12_explains 44 = .ok (.iload 5, 2) := by decide +kernel
theorem dX12_explains_46 : decode cX12_explains 46 = .ok (.iload 6, 2) := by decide +kernel
theorem dX12_explains_48 : decode cX12_explains 48 = .ok (.iconst 0, 1) := by decide +kernel
theorem dX12_explains_49 : decode cX12_explains 49 = .ok (.invokevirtual 151, 3) := by decide +kernel
theorem dX12_explains_52 : decode cX12_explains 52 = .ok (.isub, 1) := by decide +kernel
theorem dX12_explains_53 : decode cX12_explains 53 = .ok (.istore 7, 2) := by decide +kernel
theorem dX12_explains_55 : decode cX12_explains 55 = .ok (.iload 4, 2) := by decide +kernel
theorem dX12_explains_57 : decode cX12_explains 57 = .ok (.aload_n 0, 1) := by decide +kernel
theorem dX12_explains_58 : decode cX12_explains 58 = .ok (.iload 5, 2) := by decide +kernel
theorem dX12_explains_60 : decode cX12_explains 60 = .ok (.iload 6, 2) := by decide +kernel
theorem dX12_explains_62 : decode cX12_explains 62 = .ok (.iconst 1, 1) := by decide +kernel
theorem dX12_explains_63 : decode cX12_explains 63 = .ok (.invokevirtual 151, 3) := by decide +kernel
theorem dX12_explains_66 : decode cX12_explains 66 = .ok (.isub, 1) := by decide +kernel
theorem dX12_explains_67 : decode cX12_explains 67 = .ok (.istore 8, 2) := by decide +kernel
theorem dX12_explains_69 : decode cX12_explains 69 = .ok (.iload_n 1, 1) := by decide +kernel
theorem dX12_explains_70 : decode cX12_explains 70 = .ok (.ifCond .eq 15, 3) := by decide +kernel
theorem dX12_explains_73 : decode cX12_explains 73 = .ok (.aload_n 0, 1) := by decide +kernel
theorem dX12_explains_74 : decode cX12_explains 74 = .ok (.iload_n 2, 1) := by decide +kernel
theorem dX12_explains_75 : decode cX12_explains 75 = .ok (.iload 7, 2) := by decide +kernel
theorem dX12_explains_77 : decode cX12_explains 77 = .ok (.iload 8, 2) := by decide +kernel
theorem dX12_explains_79 : decode cX12_explains 79 = .ok (.invokevirtual 182, 3) := by decide +kernel
theorem dX12_explains_82 : decode cX12_explains 82 = .ok (.goto 12, 3) := by decide +kernel
theorem dX12_explains_85 : decode cX12_explains 85 = .ok (.aload_n 0, 1) := by decide +kernel
theorem dX12_explains_86 : decode cX12_explains 86 = .ok (.iload_n 2, 1) := by decide +kernel
theorem dX12_explains_87 : decode cX12_explains 87 = .ok (.iload 7, 2) := by decide +kernel
theorem dX12_explains_89 : decode cX12_explains 89 = .ok (.iload 8, 2) := by decide +kernel
theorem dX12_explains_91 : decode cX12_explains 91 = .ok (.invokevirtual 185, 3) := by decide +kernel
theorem dX12_explains_94 : decode cX12_explains 94 = .ok (.ireturn, 1) := by decide +kernel
def fX12_explains_b40 (N : Nat) (v1 : Int32) (v2 : Int32) (v3 : Int32) (v4 : Int32) (v5 : Int32) (u0 : Int32) (σ : qMem) : Option Int32 :=
  ((fX12_at N v5 u0 0 σ).bind fun y5 => ((fX12_at N v5 u0 1 σ).bind fun y6 => (if v1 = 0 then ((fX12_isTowards v2 (v3 - y5) (v4 - y6) σ).bind fun y7 => (if y7 = 0 ∨ y7 = 1 then some y7 else none)) else ((fX12_isAsFar v2 (v3 - y5) (v4 - y6) σ).bind fun y8 => (if y8 = 0 ∨ y8 = 1 then some y8 else none)))))
set_option maxRecDepth 20000 in
set_option maxHeartbeats 4000000 in
theorem aX12_explains_b40 (N : Nat) (σ : qMem) (v1 : Int32) (v2 : Int32) (v3 : Int32) (v4 : Int32) (v5 : Int32) (u0 : Int32) : qAt wM mX12_explains (ρp σ) 40 [(0, .ref 0), (1, .int v1), (2, .int v2), (3, .int v3), (4, .int v4), (5, .int v5)] [.int u0] σ (fX12_explains_b40 N v1 v2 v3 v4 v5 u0 σ) := by
  unfold fX12_explains_b40
  refine q_istore (i := 6) (L' := [(6, .int u0), (0, .ref 0), (1, .int v1), (2, .int v2), (3, .int v3), (4, .int v4), (5, .int v5)]) dX12_explains_40 (Nat.le_of_ble_eq_true rfl) rfl ?_
  refine q_iload_n (i := 3) (x := v3) dX12_explains_42 rfl 4 rfl ?_
  refine q_aload_n (i := 0) (x := 0) dX12_explains_43 rfl 1 rfl ?_
  refine q_iload (i := 5) (x := v5) dX12_explains_44 6 rfl ?_
  refine q_iload (i := 6) (x := u0) dX12_explains_46 0 rfl ?_
  refine q_iconst (v := 0) dX12_explains_48 (by decide) ?_
  refine q_cVp mX12_at [.int v5, .int u0, .int 0] (st := [.int v3]) dX12_explains_49 (svX12_151) ⟨Nat.le_of_ble_eq_true rfl, Nat.le_of_ble_eq_true rfl⟩ zM_0 rfl rfl rfl (Nat.le_of_ble_eq_true rfl) (kX12_at N v5 u0 0 σ) (fun y5 => ?_)
  refine q_isub dX12_explains_52 ?_
  refine q_istore (i := 7) (L' := [(7, .int (v3 - y5)), (6, .int u0), (0, .ref 0), (1, .int v1), (2, .int v2), (3, .int v3), (4, .int v4), (5, .int v5)]) dX12_explains_53 (Nat.le_of_ble_eq_true rfl) rfl ?_
  refine q_iload (i := 4) (x := v4) dX12_explains_55 6 rfl ?_
  refine q_aload_n (i := 0) (x := 0) dX12_explains_57 rfl 2 rfl ?_
  refine q_iload (i := 5) (x := v5) dX12_explains_58 7 rfl ?_
  refine q_iload (i := 6) (x := u0) dX12_explains_60 1 rfl ?_
  refine q_iconst (v := 1) dX12_explains_62 (by decide) ?_
  refine q_cVp mX12_at [.int v5, .int u0, .int 1] (st := [.int v4]) dX12_explains_63 (svX12_151) ⟨Nat.le_of_ble_eq_true rfl, Nat.le_of_ble_eq_true rfl⟩ zM_0 rfl rfl rfl (Nat.le_of_ble_eq_true rfl) (kX12_at N v5 u0 1 σ) (fun y6 => ?_)
  refine q_isub dX12_explains_66 ?_
  refine q_istore (i := 8) (L' := [(8, .int (v4 - y6)), (7, .int (v3 - y5)), (6, .int u0), (0, .ref 0), (1, .int v1), (2, .int v2), (3, .int v3), (4, .int v4), (5, .int v5)]) dX12_explains_67 (Nat.le_of_ble_eq_true rfl) rfl ?_
  refine q_iload_n (i := 1) (x := v1) dX12_explains_69 rfl 4 rfl ?_
  refine q_if_eq (tgt := 85) dX12_explains_70 (by decide) ?_ ?_
  · refine q_aload_n (i := 0) (x := 0) dX12_explains_85 rfl 3 rfl ?_
    refine q_iload_n (i := 2) (x := v2) dX12_explains_86 rfl 5 rfl ?_
    refine q_iload (i := 7) (x := (v3 - y5)) dX12_explains_87 1 rfl ?_
    refine q_iload (i := 8) (x := (v4 - y6)) dX12_explains_89 0 rfl ?_
    refine q_cVp mX12_isTowards [.int v2, .int (v3 - y5), .int (v4 - y6)] (st := []) dX12_explains_91 (svX12_185) ⟨Nat.le_of_ble_eq_true rfl, Nat.le_of_ble_eq_true rfl⟩ zM_0 rfl rfl rfl (Nat.le_of_ble_eq_true rfl) (kX12_isTowards v2 (v3 - y5) (v4 - y6) σ) (fun y7 => ?_)
    exact q_if (fun hz => q_iretz (y := y7) dX12_explains_94 rfl (nb_ok hz) rfl)
  refine q_aload_n (i := 0) (x := 0) dX12_explains_73 rfl 3 rfl ?_
  refine q_iload_n (i := 2) (x := v2) dX12_explains_74 rfl 5 rfl ?_
  refine q_iload (i := 7) (x := (v3 - y5)) dX12_explains_75 1 rfl ?_
  refine q_iload (i := 8) (x := (v4 - y6)) dX12_explains_77 0 rfl ?_
  refine q_cVp mX12_isAsFar [.int v2, .int (v3 - y5), .int (v4 - y6)] (st := []) dX12_explains_79 (svX12_182) ⟨Nat.le_of_ble_eq_true rfl, Nat.le_of_ble_eq_true rfl⟩ zM_0 rfl rfl rfl (Nat.le_of_ble_eq_true rfl) (kX12_isAsFar v2 (v3 - y5) (v4 - y6) σ) (fun y8 => ?_)
  refine q_goto (tgt := 94) dX12_explains_82 (by decide) ?_
  exact q_if (fun hz => q_iretz (y := y8) dX12_explains_94 rfl (nb_ok hz) rfl)

def fX12_explains_b19 (N : Nat) (v1 : Int32) (v2 : Int32) (v3 : Int32) (v4 : Int32) (u0 : Int32) (σ : qMem) : Option Int32 :=
  (if v1 = 0 then ((fX12_heardOf v2 1 σ).bind fun y3 => (fX12_explains_b40 N v1 v2 v3 v4 u0 y3 σ)) else ((fX12_echoOf v2 1 σ).bind fun y4 => (fX12_explains_b40 N v1 v2 v3 v4 u0 y4 σ)))
set_option maxRecDepth 20000 in
set_option maxHeartbeats 4000000 in
theorem aX12_explains_b19 (N : Nat) (σ : qMem) (v1 : Int32) (v2 : Int32) (v3 : Int32) (v4 : Int32) (u0 : Int32) : qAt wM mX12_explains (ρp σ) 19 [(0, .ref 0), (1, .int v1), (2, .int v2), (3, .int v3), (4, .int v4)] [.int u0] σ (fX12_explains_b19 N v1 v2 v3 v4 u0 σ) := by
  unfold fX12_explains_b19
  refine q_istore (i := 5) (L' := [(5, .int u0), (0, .ref 0), (1, .int v1), (2, .int v2), (3, .int v3), (4, .int v4)]) dX12_explains_19 (Nat.le_of_ble_eq_true rfl) rfl ?_
  refine q_iload_n (i := 1) (x := v1) dX12_explains_21 rfl 2 rfl ?_
  refine q_if_eq (tgt := 34) dX12_explains_22 (by decide) ?_ ?_
  · refine q_aload_n (i := 0) (x := 0) dX12_explains_34 rfl 1 rfl ?_
    refine q_iload_n (i := 2) (x := v2) dX12_explains_35 rfl 3 rfl ?_
    refine q_iconst (v := 1) dX12_explains_36 (by decide) ?_
    refine q_cVp mX12_heardOf [.int v2, .int 1] (st := []) dX12_explains_37 (svX12_173) ⟨Nat.le_of_ble_eq_true rfl, Nat.le_of_ble_eq_true rfl⟩ zM_0 rfl rfl rfl (Nat.le_of_ble_eq_true rfl) (kX12_heardOf v2 1 σ) (fun y3 => ?_)
    exact q_sub [1, 2, 3, 4, 5, 0] rfl (aX12_explains_b40 N σ v1 v2 v3 v4 u0 y3)
  refine q_aload_n (i := 0) (x := 0) dX12_explains_25 rfl 1 rfl ?_
  refine q_iload_n (i := 2) (x := v2) dX12_explains_26 rfl 3 rfl ?_
  refine q_iconst (v := 1) dX12_explains_27 (by decide) ?_
  refine q_cVp mX12_echoOf [.int v2, .int 1] (st := []) dX12_explains_28 (svX12_179) ⟨Nat.le_of_ble_eq_true rfl, Nat.le_of_ble_eq_true rfl⟩ zM_0 rfl rfl rfl (Nat.le_of_ble_eq_true rfl) (kX12_echoOf v2 1 σ) (fun y4 => ?_)
  refine q_goto (tgt := 40) dX12_explains_31 (by decide) ?_
  exact q_sub [1, 2, 3, 4, 5, 0] rfl (aX12_explains_b40 N σ v1 v2 v3 v4 u0 y4)

def fX12_explains (N : Nat) (p1 : Int32) (p2 : Int32) (p3 : Int32) (p4 : Int32) (σ : qMem) : Option Int32 :=
  (if p1 = 0 then ((fX12_heardOf p2 0 σ).bind fun y1 => (fX12_explains_b19 N p1 p2 p3 p4 y1 σ)) else ((fX12_echoOf p2 0 σ).bind fun y2 => (fX12_explains_b19 N p1 p2 p3 p4 y2 σ)))
set_option maxRecDepth 20000 in
set_option maxHeartbeats 4000000 in
theorem aX12_explains  (N : Nat) (p1 : Int32) (p2 : Int32) (p3 : Int32) (p4 : Int32)  (σ : qMem) : qAt wM mX12_explains (ρp σ) 0 [(0, .ref 0), (1, .int p1), (2, .int p2), (3, .int p3), (4, .int p4)] [] σ (fX12_explains N p1 p2 p3 p4 σ) := by
  unfold fX12_explains
  refine q_iload_n (i := 1) (x := p1) dX12_explains_0 rfl 1 rfl ?_
  refine q_if_eq (tgt := 13) dX12_explains_1 (by decide) ?_ ?_
  · refine q_aload_n (i := 0) (x := 0) dX12_explains_13 rfl 0 rfl ?_
    refine q_iload_n (i := 2) (x := p2) dX12_explains_14 rfl 2 rfl ?_
    refine q_iconst (v := 0) dX12_explains_15 (by decide) ?_
    refine q_cVp mX12_heardOf [.int p2, .int 0] (st := []) dX12_explains_16 (svX12_173) ⟨Nat.le_of_ble_eq_true rfl, Nat.le_of_ble_eq_true rfl⟩ zM_0 rfl rfl rfl (Nat.le_of_ble_eq_true rfl) (kX12_heardOf p2 0 σ) (fun y1 => ?_)
    exact q_sub [0, 1, 2, 3, 4] rfl (aX12_explains_b19 N σ p1 p2 p3 p4 y1)
  refine q_aload_n (i := 0) (x := 0) dX12_explains_4 rfl 0 rfl ?_
  refine q_iload_n (i := 2) (x := p2) dX12_explains_5 rfl 2 rfl ?_
  refine q_iconst (v := 0) dX12_explains_6 (by decide) ?_
  refine q_cVp mX12_echoOf [.int p2, .int 0] (st := []) dX12_explains_7 (svX12_179) ⟨Nat.le_of_ble_eq_true rfl, Nat.le_of_ble_eq_true rfl⟩ zM_0 rfl rfl rfl (Nat.le_of_ble_eq_true rfl) (kX12_echoOf p2 0 σ) (fun y2 => ?_)
  refine q_goto (tgt := 19) dX12_explains_10 (by decide) ?_
  exact q_sub [0, 1, 2, 3, 4] rfl (aX12_explains_b19 N σ p1 p2 p3 p4 y2)
theorem kX12_explains  (N : Nat) (p1 : Int32) (p2 : Int32) (p3 : Int32) (p4 : Int32)  (σ : qMem) : qMc wM mX12_explains (ρp σ) [.ref 0, .int p1, .int p2, .int p3, .int p4] σ (fX12_explains N p1 p2 p3 p4 σ) := qMc_of (moX12_explains) (Nat.le_of_ble_eq_true rfl) (aX12_explains N p1 p2 p3 p4  σ)

theorem dX12_isKnown_0 : decode cX12_isKnown 0 = .ok (.iconst 0, 1) := by decide +kernel
theorem dX12_isKnown_1 : decode cX12_isKnown 1 = .ok (.istore_n 3, 1) := by decide +kernel
theorem dX12_isKnown_2 : decode cX12_isKnown 2 = .ok (.iconst 0, 1) := by decide +kernel
theorem dX12_isKnown_3 : decode cX12_isKnown 3 = .ok (.istore 4, 2) := by decide +kernel
theorem dX12_isKnown_5 : decode cX12_isKnown 5 = .ok (.iload 4, 2) := by decide +kernel
theorem dX12_isKnown_7 : decode cX12_isKnown 7 = .ok (.aload_n 0, 1) := by decide +kernel
theorem dX12_isKnown_8 : decode cX12_isKnown 8 = .ok (.getfield 20, 3) := by decide +kernel
theorem dX12_isKnown_11 : decode cX12_isKnown 11 = .ok (.sipush 302, 3) := by decide +kernel
theorem dX12_isKnown_14 : decode cX12_isKnown 14 = .ok (.iaload, 1) := by decide +kernel
theorem dX12_isKnown_15 : decode cX12_isKnown 15 = .ok (.if_icmp .ge 56, 3) := by decide +kernel
theorem dX12_isKnown_18 : decode cX12_isKnown 18 = .ok (.iload_n 3, 1) := by decide +kernel
theorem dX12_isKnown_19 : decode cX12_isKnown 19 = .ok (.ifCond .ne 40, 3) := by decide +kernel
theorem dX12_isKnown_22 : decode cX12_isKnown 22 = .ok (.aload_n 0, 1) := by decide +kernel
theorem dX12_isKnown_23 : decode cX12_isKnown 23 = .ok (.iload_n 1, 1) := by decide +kernel
theorem dX12_isKnown_24 : decode cX12_isKnown 24 = .ok (.iload_n 2, 1) := by decide +kernel
theorem dX12_isKnown_25 : decode cX12_isKnown 25 = .ok (.aload_n 0, 1) := by decide +kernel
theorem dX12_isKnown_26 : decode cX12_isKnown 26 = .ok (.getfield 20, 3) := by decide +kernel
theorem dX12_isKnown_29 : decode cX12_isKnown 29 = .ok (.sipush 188, 3) := by decide +kernel
theorem dX12_isKnown_32 : decode cX12_isKnown 32 = .ok (.iconst 2, 1) := by decide +kernel
theorem dX12_isKnown_33 : decode cX12_isKnown 33 = .ok (.iload 4, 2) := by decide +kernel
theorem dX12_isKnown_35 : decode cX12_isKnown 35 = .ok (.imul, 1) := by decide +kernel
theorem dX12_isKnown_36 : decode cX12_isKnown 36 = .ok (.iadd, 1) := by decide +kernel
theorem dX12_isKnown_37 : decode cX12_isKnown 37 = .ok (.iaload, 1) := by decide +kernel
theorem dX12_isKnown_38 : decode cX12_isKnown 38 = .ok (.aload_n 0, 1) := by decide +kernel
theorem dX12_isKnown_39 : decode cX12_isKnown 39 = .ok (.getfield 20, 3) := by decide +kernel
theorem dX12_isKnown_42 : decode cX12_isKnown 42 = .ok (.sipush 188, 3) := by decide +kernel
theorem dX12_isKnown_45 : decode cX12_isKnown 45 = .ok (.iconst 2, 1) := by decide +kernel
theorem dX12_isKnown_46 : decode cX12_isKnown 46 = .ok (.iload 4, 2) := by decide +kernel
theorem dX12_isKnown_48 : decode cX12_isKnown 48 = .ok (.imul, 1) := by decide +kernel
theorem dX12_isKnown_49 : decode cX12_isKnown 49 = .ok (.iadd, 1) := by decide +kernel
theorem dX12_isKnown_50 : decode cX12_isKnown 50 = .ok (.iconst 1, 1) := by decide +kernel
theorem dX12_isKnown_51 : decode cX12_isKnown 51 = .ok (.iadd, 1) := by decide +kernel
theorem dX12_isKnown_52 : decode cX12_isKnown 52 = .ok (.iaload, 1) := by decide +kernel
theorem dX12_isKnown_53 : decode cX12_isKnown 53 = .ok (.invokevirtual 188, 3) := by decide +kernel
theorem dX12_isKnown_56 : decode cX12_isKnown 56 = .ok (.ifCond .eq 7, 3) := by decide +kernel
theorem dX12_isKnown_59 : decode cX12_isKnown 59 = .ok (.iconst 1, 1) := by decide +kernel
theorem dX12_isKnown_60 : decode cX12_isKnown 60 = .ok (.goto 4, 3) := by decide +kernel
theorem dX12_isKnown_63 : decode cX12_isKnown 63 = .ok (.iconst 0, 1) := by decide +kernel
theorem dX12_isKnown_64 : decode cX12_isKnown 64 = .ok (.istore_n 3, 1) := by decide +kernel
theorem dX12_isKnown_65 : decode cX12_isKnown 65 = .ok (.iinc 4 1, 3) := by decide +kernel
theorem dX12_isKnown_68 : decode cX12_isKnown 68 = .ok (.goto (-63), 3) := by decide +kernel
theorem dX12_isKnown_71 : decode cX12_isKnown 71 = .ok (.iload_n 1, 1) := by decide +kernel
theorem dX12_isKnown_72 : decode cX12_isKnown 72 = .ok (.ifCond .eq 12, 3) := by decide +kernel
theorem dX12_isKnown_75 : decode cX12_isKnown 75 = .ok (.aload_n 0, 1) := by decide +kernel
theorem dX12_isKnown_76 : decode cX12_isKnown 76 = .ok (.iload_n 2, 1) := by decide +kernel
theorem dX12_isKnown_77 : decode cX12_isKnown 77 = .ok (.iconst 1, 1) := by decide +kernel
theorem dX12_isKnown_78 : decode cX12_isKnown 78 = .ok (.invokevirtual 179, 3) := by decide +kernel
theorem dX12_isKnown_81 : decode cX12_isKnown 81 = .ok (.goto 9, 3) := by decide +kernel
theorem dX12_isKnown_84 : decode cX12_isKnown 84 = .ok (.aload_n 0, 1) := by decide +kernel
theorem dX12_isKnown_85 : decode cX12_isKnown 85 = .ok (.iload_n 2, 1) := by decide +kernel
theorem dX12_isKnown_86 : decode cX12_isKnown 86 = .ok (.iconst 1, 1) := by decide +kernel
theorem dX12_isKnown_87 : decode cX12_isKnown 87 = .ok (.invokevirtual 173, 3) := by decide +kernel
theorem dX12_isKnown_90 : decode cX12_isKnown 90 = .ok (.istore 4, 2) := by decide +kernel
theorem dX12_isKnown_92 : decode cX12_isKnown 92 = .ok (.iconst 0, 1) := by decide +kernel
theorem dX12_isKnown_93 : decode cX12_isKnown 93 = .ok (.istore 5, 2) := by decide +kernel
theorem dX12_isKnown_95 : decode cX12_isKnown 95 = .ok (.iload 5, 2) := by decide +kernel
theorem dX12_isKnown_97 : decode cX12_isKnown 97 = .ok (.aload_n 0, 1) := by decide +kernel
theorem dX12_isKnown_98 : decode cX12_isKnown 98 = .ok (.getfield 20, 3) := by decide +kernel
theorem dX12_isKnown_101 : decode cX12_isKnown 101 = .ok (.sipush 308, 3) := by decide +kernel
theorem dX12_isKnown_104 : decode cX12_isKnown 104 = .ok (.iaload, 1) := by decide +kernel
theorem dX12_isKnown_105 : decode cX12_isKnown 105 = .ok (.if_icmp .ge 152, 3) := by decide +kernel
theorem dX12_isKnown_108 : decode cX12_isKnown 108 = .ok (.sipush 238, 3) := by decide +kernel
theorem dX12_isKnown_111 : decode cX12_isKnown 111 = .ok (.iconst 5, 1) := by decide +kernel
theorem dX12_isKnown_112 : decode cX12_isKnown 112 = .ok (.iload 5, 2) := by decide +kernel
theorem dX12_isKnown_114 : decode cX12_isKnown 114 = .ok (.imul, 1) := by decide +kernel
theorem dX12_isKnown_115 : decode cX12_isKnown 115 = .ok (.iadd, 1) := by decide +kernel
theorem dX12_isKnown_116 : decode cX12_isKnown 116 = .ok (.istore 6, 2) := by decide +kernel
theorem dX12_isKnown_118 : decode cX12_isKnown 118 = .ok (.iload 4, 2) := by decide +kernel
theorem dX12_isKnown_120 : decode cX12_isKnown 120 = .ok (.aload_n 0, 1) := by decide +kernel
theorem dX12_isKnown_121 : decode cX12_isKnown 121 = .ok (.getfield 20, 3) := by decide +kernel
theorem dX12_isKnown_124 : decode cX12_isKnown 124 = .ok (.iload 6, 2) := by decide +kernel
theorem dX12_isKnown_126 : decode cX12_isKnown 126 = .ok (.iconst 3, 1) := by decide +kernel
theorem dX12_isKnown_127 : decode cX12_isKnown 127 = .ok (.iadd, 1) := by decide +kernel
theorem dX12_isKnown_128 : decode cX12_isKnown 128 = .ok (.iaload, 1) := by decide +kernel
theorem dX12_isKnown_129 : decode cX12_isKnown 129 = .ok (.aload_n 0, 1) := by decide +kernel
theorem dX12_isKnown_130 : decode cX12_isKnown 130 = .ok (.getfield 20, 3) := by decide +kernel
theorem dX12_isKnown_133 : decode cX12_isKnown 133 = .ok (.iload 6, 2) := by decide +kernel
theorem dX12_isKnown_135 : decode cX12_isKnown 135 = .ok (.iconst 4, 1) := by decide +kernel
theorem dX12_isKnown_136 : decode cX12_isKnown 136 = .ok (.iadd, 1) := by decide +kernel
theorem dX12_isKnown_137 : decode cX12_isKnown 137 = .ok (.iaload, 1) := by decide +kernel
theorem dX12_isKnown_138 : decode cX12_isKnown 138 = .ok (.invokestatic 110, 3) := by decide +kernel
theorem dX12_isKnown_141 : decode cX12_isKnown 141 = .ok (.ifCond .ne 6, 3) := by decide +kernel
theorem dX12_isKnown_144 : decode cX12_isKnown 144 = .ok (.goto 107, 3) := by decide +kernel
theorem dX12_isKnown_147 : decode cX12_isKnown 147 = .ok (.aload_n 0, 1) := by decide +kernel
theorem dX12_isKnown_148 : decode cX12_isKnown 148 = .ok (.getfield 20, 3) := by decide +kernel
theorem dX12_isKnown_151 : decode cX12_isKnown 151 = .ok (.iload 6, 2) := by decide +kernel
theorem dX12_isKnown_153 : decode cX12_isKnown 153 = .ok (.iconst 2, 1) := by decide +kernel
theorem dX12_isKnown_154 : decode cX12_isKnown 154 = .ok (.iadd, 1) := by decide +kernel
theorem dX12_isKnown_155 : decode cX12_isKnown 155 = .ok (.iaload, 1) := by decide +kernel
theorem dX12_isKnown_156 : decode cX12_isKnown 156 = .ok (.istore 7, 2) := by decide +kernel
theorem dX12_isKnown_158 : decode cX12_isKnown 158 = .ok (.aload_n 0, 1) := by decide +kernel
theorem dX12_isKnown_159 : decode cX12_isKnown 159 = .ok (.getfield 20, 3) := by decide +kernel
theorem dX12_isKnown_162 : decode cX12_isKnown 162 = .ok (.iload 6, 2) := by decide +kernel
theorem dX12_isKnown_164 : decode cX12_isKnown 164 = .ok (.iaload, 1) := by decide +kernel
theorem dX12_isKnown_165 : decode cX12_isKnown 165 = .ok (.iload 7, 2) := by decide +kernel
theorem dX12_isKnown_167 : decode cX12_isKnown 167 = .ok (.isub, 1) := by decide +kernel
theorem dX12_isKnown_168 : decode cX12_isKnown 168 = .ok (.istore 8, 2) := by decide +kernel
theorem dX12_isKnown_170 : decode cX12_isKnown 170 = .ok (.iload 8, 2) := by decide +kernel
theorem dX12_isKnown_172 : decode cX12_isKnown 172 = .ok (.aload_n 0, 1) := by decide +kernel
theorem dX12_isKnown_173 : decode cX12_isKnown 173 = .ok (.getfield 20, 3) := by decide +kernel
theorem dX12_isKnown_176 : decode cX12_isKnown 176 = .ok (.iload 6, 2) := by decide +kernel
theorem dX12_isKnown_178 : decode cX12_isKnown 178 = .ok (.iaload, 1) := by decide +kernel
theorem dX12_isKnown_179 : decode cX12_isKnown 179 = .ok (.iload 7, 2) := by decide +kernel
theorem dX12_isKnown_181 : decode cX12_isKnown 181 = .ok (.iadd, 1) := by decide +kernel
theorem dX12_isKnown_182 : decode cX12_isKnown 182 = .ok (.if_icmp .gt 69, 3) := by decide +kernel
theorem dX12_isKnown_185 : decode cX12_isKnown 185 = .ok (.aload_n 0, 1) := by decide +kernel
theorem dX12_isKnown_186 : decode cX12_isKnown 186 = .ok (.getfield 20, 3) := by decide +kernel
theorem dX12_isKnown_189 : decode cX12_isKnown 189 = .ok (.iload 6, 2) := by decide +kernel
theorem dX12_isKnown_191 : decode cX12_isKnown 191 = .ok (.iconst 1, 1) := by decide +kernel
theorem dX12_isKnown_192 : decode cX12_isKnown 192 = .ok (.iadd, 1) := by decide +kernel
theorem dX12_isKnown_193 : decode cX12_isKnown 193 = .ok (.iaload, 1) := by decide +kernel
theorem dX12_isKnown_194 : decode cX12_isKnown 194 = .ok (.iload 7, 2) := by decide +kernel
theorem dX12_isKnown_196 : decode cX12_isKnown 196 = .ok (.isub, 1) := by decide +kernel
theorem dX12_isKnown_197 : decode cX12_isKnown 197 = .ok (.istore 9, 2) := by decide +kernel
theorem dX12_isKnown_199 : decode cX12_isKnown 199 = .ok (.iload 9, 2) := by decide +kernel
theorem dX12_isKnown_201 : decode cX12_isKnown 201 = .ok (.aload_n 0, 1) := by decide +kernel
theorem dX12_isKnown_202 : decode cX12_isKnown 202 = .ok (.getfield 20, 3) := by decide +kernel
theorem dX12_isKnown_205 : decode cX12_isKnown 205 = .ok (.iload 6, 2) := by decide +kernel
theorem dX12_isKnown_207 : decode cX12_isKnown 207 = .ok (.iconst 1, 1) := by decide +kernel
theorem dX12_isKnown_208 : decode cX12_isKnown 208 = .ok (.iadd, 1) := by decide +kernel
theorem dX12_isKnown_209 : decode cX12_isKnown 209 = .ok (.iaload, 1) := by decide +kernel
theorem dX12_isKnown_210 : decode cX12_isKnown 210 = .ok (.iload 7, 2) := by decide +kernel
theorem dX12_isKnown_212 : decode cX12_isKnown 212 = .ok (.iadd, 1) := by decide +kernel
theorem dX12_isKnown_213 : decode cX12_isKnown 213 = .ok (.if_icmp .gt 32, 3) := by decide +kernel
theorem dX12_isKnown_216 : decode cX12_isKnown 216 = .ok (.iload_n 3, 1) := by decide +kernel
theorem dX12_isKnown_217 : decode cX12_isKnown 217 = .ok (.ifCond .ne 16, 3) := by decide +kernel
theorem dX12_isKnown_220 : decode cX12_isKnown 220 = .ok (.aload_n 0, 1) := by decide +kernel
theorem dX12_isKnown_221 : decode cX12_isKnown 221 = .ok (.iload_n 1, 1) := by decide +kernel
theorem dX12_isKnown_222 : decode cX12_isKnown 222 = .ok (.iload_n 2, 1) := by decide +kernel
theorem dX12_isKnown_223 : decode cX12_isKnown 223 = .ok (.iload 8, 2) := by decide +kernel
theorem dX12_isKnown_225 : decode cX12_isKnown 225 = .ok (.iload 9, 2) := by decide +kernel
theorem dX12_isKnown_227 : decode cX12_isKnown 227 = .ok (.invokevirtual 188, 3) := by decide +kernel
theorem dX12_isKnown_230 : decode cX12_isKnown 230 = .ok (.ifCond .eq 7, 3) := by decide +kernel
theorem dX12_isKnown_233 : decode cX12_isKnown 233 = .ok (.iconst 1, 1) := by decide +kernel
theorem dX12_isKnown_234 : decode cX12_isKnown 234 = .ok (.goto 4, 3) := by decide +kernel
theorem dX12_isKnown_237 : decode cX12_isKnown 237 = .ok (.iconst 0, 1) := by decide +kernel
theorem dX12_isKnown_238 : decode cX12_isKnown 238 = .ok (.istore_n 3, 1) := by decide +kernel
theorem dX12_isKnown_239 : decode cX12_isKnown 239 = .ok (.iinc 9 1, 3) := by decide +kernel
theorem dX12_isKnown_242 : decode cX12_isKnown 242 = .ok (.goto (-43), 3) := by decide +kernel
theorem dX12_isKnown_245 : decode cX12_isKnown 245 = .ok (.iinc 8 1, 3) := by decide +kernel
theorem dX12_isKnown_248 : decode cX12_isKnown 248 = .ok (.goto (-78), 3) := by decide +kernel
theorem dX12_isKnown_251 : decode cX12_isKnown 251 = .ok (.iinc 5 1, 3) := by decide +kernel
theorem dX12_isKnown_254 : decode cX12_isKnown 254 = .ok (.goto (-159), 3) := by decide +kernel
theorem dX12_isKnown_257 : decode cX12_isKnown 257 = .ok (.iload_n 3, 1) := by decide +kernel
theorem dX12_isKnown_258 : decode cX12_isKnown 258 = .ok (.ireturn, 1) := by decide +kernel
def fX12_isKnown_b251 (N : Nat) (c95 : Int32 → Int32 → Int32 → Int32 → Int32 → Option Int32) (v1 : Int32) (v2 : Int32) (v3 : Int32) (v4 : Int32) (v5 : Int32) (σ : qMem) : Option Int32 :=
  (c95 v1 v2 v3 v4 (v5 + 1))
set_option maxRecDepth 20000 in
set_option maxHeartbeats 4000000 in
theorem aX12_isKnown_b251 (N : Nat) (σ : qMem) (c95 : Int32 → Int32 → Int32 → Int32 → Int32 → Option Int32) (hc95 : ∀ (v1 : Int32) (v2 : Int32) (v3 : Int32) (v4 : Int32) (v5 : Int32) , qAt wM mX12_isKnown (ρp σ) 95 [(0, .ref 0), (1, .int v1), (2, .int v2), (3, .int v3), (4, .int v4), (5, .int v5)] [] σ (c95 v1 v2 v3 v4 v5)) (v1 : Int32) (v2 : Int32) (v3 : Int32) (v4 : Int32) (v5 : Int32) : qAt wM mX12_isKnown (ρp σ) 251 [(0, .ref 0), (1, .int v1), (2, .int v2), (3, .int v3), (4, .int v4), (5, .int v5)] [] σ (fX12_isKnown_b251 N c95 v1 v2 v3 v4 v5 σ) := by
  unfold fX12_isKnown_b251
  refine q_iinc (i := 5) (x := v5) (v := (v5 + 1)) (L' := [(5, .int (v5 + 1)), (0, .ref 0), (1, .int v1), (2, .int v2), (3, .int v3), (4, .int v4)]) dX12_isKnown_251 5 rfl (q_cst v5 (by decide)) (Nat.le_of_ble_eq_true rfl) rfl ?_
  refine q_goto (tgt := 95) dX12_isKnown_254 (by decide) ?_
  exact q_sub [1, 2, 3, 4, 5, 0] rfl (hc95 v1 v2 v3 v4 (v5 + 1))

def fX12_isKnown_b238 (N : Nat) (c95 : Int32 → Int32 → Int32 → Int32 → Int32 → Option Int32) (c170 : Int32 → Int32 → Int32 → Int32 → Int32 → Int32 → Int32 → Int32 → Option Int32) (c199 : Int32 → Int32 → Int32 → Int32 → Int32 → Int32 → Int32 → Int32 → Int32 → Option Int32) (v1 : Int32) (v2 : Int32) (v4 : Int32) (v5 : Int32) (v6 : Int32) (v7 : Int32) (v8 : Int32) (v9 : Int32) (u0 : Int32) (σ : qMem) : Option Int32 :=
  (c199 v1 v2 u0 v4 v5 v6 v7 v8 (v9 + 1))
set_option maxRecDepth 20000 in
set_option maxHeartbeats 4000000 in
theorem aX12_isKnown_b238 (N : Nat) (σ : qMem) (c95 : Int32 → Int32 → Int32 → Int32 → Int32 → Option Int32) (c170 : Int32 → Int32 → Int32 → Int32 → Int32 → Int32 → Int32 → Int32 → Option Int32) (c199 : Int32 → Int32 → Int32 → Int32 → Int32 → Int32 → Int32 → Int32 → Int32 → Option Int32) (hc95 : ∀ (v1 : Int32) (v2 : Int32) (v3 : Int32) (v4 : Int32) (v5 : Int32) , qAt wM mX12_isKnown (ρp σ) 95 [(0, .ref 0), (1, .int v1), (2, .int v2), (3, .int v3), (4, .int v4), (5, .int v5)] [] σ (c95 v1 v2 v3 v4 v5)) (hc170 : ∀ (v1 : Int32) (v2 : Int32) (v3 : Int32) (v4 : Int32) (v5 : Int32) (v6 : Int32) (v7 : Int32) (v8 : Int32) , qAt wM mX12_isKnown (ρp σ) 170 [(0, .ref 0), (1, .int v1), (2, .int v2), (3, .int v3), (4, .int v4), (5, .int v5), (6, .int v6), (7, .int v7), (8, .int v8)] [] σ (c170 v1 v2 v3 v4 v5 v6 v7 v8)) (hc199 : ∀ (v1 : Int32) (v2 : Int32) (v3 : Int32) (v4 : Int32) (v5 : Int32) (v6 : Int32) (v7 : Int32) (v8 : Int32) (v9 : Int32) , qAt wM mX12_isKnown (ρp σ) 199 [(0, .ref 0), (1, .int v1), (2, .int v2), (3, .int v3), (4, .int v4), (5, .int v5), (6, .int v6), (7, .int v7), (8, .int v8), (9, .int v9)] [] σ (c199 v1 v2 v3 v4 v5 v6 v7 v8 v9)) (v1 : Int32) (v2 : Int32) (v4 : Int32) (v5 : Int32) (v6 : Int32) (v7 : Int32) (v8 : Int32) (v9 : Int32) (u0 : Int32) : qAt wM mX12_isKnown (ρp σ) 238 [(0, .ref 0), (1, .int v1), (2, .int v2), (4, .int v4), (5, .int v5), (6, .int v6), (7, .int v7), (8, .int v8), (9, .int v9)] [.int u0] σ (fX12_isKnown_b238 N c95 c170 c199 v1 v2 v4 v5 v6 v7 v8 v9 u0 σ) := by
  unfold fX12_isKnown_b238
  refine q_istore_n (i := 3) (L' := [(3, .int u0), (0, .ref 0), (1, .int v1), (2, .int v2), (4, .int v4), (5, .int v5), (6, .int v6), (7, .int v7), (8, .int v8), (9, .int v9)]) dX12_isKnown_238 rfl (Nat.le_of_ble_eq_true rfl) rfl ?_
  refine q_iinc (i := 9) (x := v9) (v := (v9 + 1)) (L' := [(9, .int (v9 + 1)), (3, .int u0), (0, .ref 0), (1, .int v1), (2, .int v2), (4, .int v4), (5, .int v5), (6, .int v6), (7, .int v7), (8, .int v8)]) dX12_isKnown_239 9 rfl (q_cst v9 (by decide)) (Nat.le_of_ble_eq_true rfl) rfl ?_
  refine q_goto (tgt := 199) dX12_isKnown_242 (by decide) ?_
  exact q_sub [2, 3, 4, 1, 5, 6, 7, 8, 9, 0] rfl (hc199 v1 v2 u0 v4 v5 v6 v7 v8 (v9 + 1))

def fX12_isKnown_b233 (N : Nat) (c95 : Int32 → Int32 → Int32 → Int32 → Int32 → Option Int32) (c170 : Int32 → Int32 → Int32 → Int32 → Int32 → Int32 → Int32 → Int32 → Option Int32) (c199 : Int32 → Int32 → Int32 → Int32 → Int32 → Int32 → Int32 → Int32 → Int32 → Option Int32) (v1 : Int32) (v2 : Int32) (v4 : Int32) (v5 : Int32) (v6 : Int32) (v7 : Int32) (v8 : Int32) (v9 : Int32) (σ : qMem) : Option Int32 :=
  (fX12_isKnown_b238 N c95 c170 c199 v1 v2 v4 v5 v6 v7 v8 v9 1 σ)
set_option maxRecDepth 20000 in
set_option maxHeartbeats 4000000 in
theorem aX12_isKnown_b233 (N : Nat) (σ : qMem) (c95 : Int32 → Int32 → Int32 → Int32 → Int32 → Option Int32) (c170 : Int32 → Int32 → Int32 → Int32 → Int32 → Int32 → Int32 → Int32 → Option Int32) (c199 : Int32 → Int32 → Int32 → Int32 → Int32 → Int32 → Int32 → Int32 → Int32 → Option Int32) (hc95 : ∀ (v1 : Int32) (v2 : Int32) (v3 : Int32) (v4 : Int32) (v5 : Int32) , qAt wM mX12_isKnown (ρp σ) 95 [(0, .ref 0), (1, .int v1), (2, .int v2), (3, .int v3), (4, .int v4), (5, .int v5)] [] σ (c95 v1 v2 v3 v4 v5)) (hc170 : ∀ (v1 : Int32) (v2 : Int32) (v3 : Int32) (v4 : Int32) (v5 : Int32) (v6 : Int32) (v7 : Int32) (v8 : Int32) , qAt wM mX12_isKnown (ρp σ) 170 [(0, .ref 0), (1, .int v1), (2, .int v2), (3, .int v3), (4, .int v4), (5, .int v5), (6, .int v6), (7, .int v7), (8, .int v8)] [] σ (c170 v1 v2 v3 v4 v5 v6 v7 v8)) (hc199 : ∀ (v1 : Int32) (v2 : Int32) (v3 : Int32) (v4 : Int32) (v5 : Int32) (v6 : Int32) (v7 : Int32) (v8 : Int32) (v9 : Int32) , qAt wM mX12_isKnown (ρp σ) 199 [(0, .ref 0), (1, .int v1), (2, .int v2), (3, .int v3), (4, .int v4), (5, .int v5), (6, .int v6), (7, .int v7), (8, .int v8), (9, .int v9)] [] σ (c199 v1 v2 v3 v4 v5 v6 v7 v8 v9)) (v1 : Int32) (v2 : Int32) (v4 : Int32) (v5 : Int32) (v6 : Int32) (v7 : Int32) (v8 : Int32) (v9 : Int32) : qAt wM mX12_isKnown (ρp σ) 233 [(0, .ref 0), (1, .int v1), (2, .int v2), (4, .int v4), (5, .int v5), (6, .int v6), (7, .int v7), (8, .int v8), (9, .int v9)] [] σ (fX12_isKnown_b233 N c95 c170 c199 v1 v2 v4 v5 v6 v7 v8 v9 σ) := by
  unfold fX12_isKnown_b233
  refine q_iconst (v := 1) dX12_isKnown_233 (by decide) ?_
  refine q_goto (tgt := 238) dX12_isKnown_234 (by decide) ?_
  exact q_sub [0, 1, 2, 3, 4, 5, 6, 7, 8] rfl (aX12_isKnown_b238 N σ c95 c170 c199 hc95 hc170 hc199 v1 v2 v4 v5 v6 v7 v8 v9 1)

def fX12_isKnown_s199 (N : Nat) (c95 : Int32 → Int32 → Int32 → Int32 → Int32 → Option Int32) (c170 : Int32 → Int32 → Int32 → Int32 → Int32 → Int32 → Int32 → Int32 → Option Int32) (c199 : Int32 → Int32 → Int32 → Int32 → Int32 → Int32 → Int32 → Int32 → Int32 → Option Int32) (v1 : Int32) (v2 : Int32) (v3 : Int32) (v4 : Int32) (v5 : Int32) (v6 : Int32) (v7 : Int32) (v8 : Int32) (v9 : Int32) (σ : qMem) : Option Int32 :=
  (if ck (v6 + 1) 1112 = true then (if ((gi σ 2 (v6 + 1).toNatClampNeg) + v7) < v9 then (c170 v1 v2 v3 v4 v5 v6 v7 (v8 + 1)) else (if v3 = 0 then ((fX12_explains N v1 v2 v8 v9 σ).bind fun y8 => (if y8 = 0 then (fX12_isKnown_b238 N c95 c170 c199 v1 v2 v4 v5 v6 v7 v8 v9 0 σ) else (fX12_isKnown_b233 N c95 c170 c199 v1 v2 v4 v5 v6 v7 v8 v9 σ))) else (fX12_isKnown_b233 N c95 c170 c199 v1 v2 v4 v5 v6 v7 v8 v9 σ))) else none)
set_option maxRecDepth 20000 in
set_option maxHeartbeats 4000000 in
theorem aX12_isKnown_s199 (N : Nat) (σ : qMem) (c95 : Int32 → Int32 → Int32 → Int32 → Int32 → Option Int32) (c170 : Int32 → Int32 → Int32 → Int32 → Int32 → Int32 → Int32 → Int32 → Option Int32) (hc95 : ∀ (v1 : Int32) (v2 : Int32) (v3 : Int32) (v4 : Int32) (v5 : Int32) , qAt wM mX12_isKnown (ρp σ) 95 [(0, .ref 0), (1, .int v1), (2, .int v2), (3, .int v3), (4, .int v4), (5, .int v5)] [] σ (c95 v1 v2 v3 v4 v5)) (hc170 : ∀ (v1 : Int32) (v2 : Int32) (v3 : Int32) (v4 : Int32) (v5 : Int32) (v6 : Int32) (v7 : Int32) (v8 : Int32) , qAt wM mX12_isKnown (ρp σ) 170 [(0, .ref 0), (1, .int v1), (2, .int v2), (3, .int v3), (4, .int v4), (5, .int v5), (6, .int v6), (7, .int v7), (8, .int v8)] [] σ (c170 v1 v2 v3 v4 v5 v6 v7 v8)) (c199 : Int32 → Int32 → Int32 → Int32 → Int32 → Int32 → Int32 → Int32 → Int32 → Option Int32) (hc199 : ∀ (v1 : Int32) (v2 : Int32) (v3 : Int32) (v4 : Int32) (v5 : Int32) (v6 : Int32) (v7 : Int32) (v8 : Int32) (v9 : Int32) , qAt wM mX12_isKnown (ρp σ) 199 [(0, .ref 0), (1, .int v1), (2, .int v2), (3, .int v3), (4, .int v4), (5, .int v5), (6, .int v6), (7, .int v7), (8, .int v8), (9, .int v9)] [] σ (c199 v1 v2 v3 v4 v5 v6 v7 v8 v9)) (v1 : Int32) (v2 : Int32) (v3 : Int32) (v4 : Int32) (v5 : Int32) (v6 : Int32) (v7 : Int32) (v8 : Int32) (v9 : Int32) : qAt wM mX12_isKnown (ρp σ) 199 [(0, .ref 0), (1, .int v1), (2, .int v2), (3, .int v3), (4, .int v4), (5, .int v5), (6, .int v6), (7, .int v7), (8, .int v8), (9, .int v9)] [] σ (fX12_isKnown_s199 N c95 c170 c199 v1 v2 v3 v4 v5 v6 v7 v8 v9 σ) := by
  unfold fX12_isKnown_s199
  refine q_iload (i := 9) (x := v9) dX12_isKnown_199 9 rfl ?_
  refine q_aload_n (i := 0) (x := 0) dX12_isKnown_201 rfl 0 rfl ?_
  refine q_getr (t := 2) dX12_isKnown_202 foX12_20 zM_0 rfl ?_
  refine q_iload (i := 6) (x := v6) dX12_isKnown_205 6 rfl ?_
  refine q_iconst (v := 1) dX12_isKnown_207 (by decide) ?_
  refine q_iadd dX12_isKnown_208 ?_
  refine q_iald dX12_isKnown_209 zM_2 ?_
  refine q_iload (i := 7) (x := v7) dX12_isKnown_210 7 rfl ?_
  refine q_iadd dX12_isKnown_212 ?_
  refine q_icmp_gt (tgt := 245) dX12_isKnown_213 (by decide) ?_ ?_
  · refine q_iinc (i := 8) (x := v8) (v := (v8 + 1)) (L' := [(8, .int (v8 + 1)), (0, .ref 0), (1, .int v1), (2, .int v2), (3, .int v3), (4, .int v4), (5, .int v5), (6, .int v6), (7, .int v7), (9, .int v9)]) dX12_isKnown_245 8 rfl (q_cst v8 (by decide)) (Nat.le_of_ble_eq_true rfl) rfl ?_
    refine q_goto (tgt := 170) dX12_isKnown_248 (by decide) ?_
    exact q_sub [1, 2, 3, 4, 5, 6, 7, 8, 0] rfl (hc170 v1 v2 v3 v4 v5 v6 v7 (v8 + 1))
  refine q_iload_n (i := 3) (x := v3) dX12_isKnown_216 rfl 3 rfl ?_
  refine q_if_ne (tgt := 233) dX12_isKnown_217 (by decide) ?_ ?_
  · exact q_sub [0, 1, 2, 4, 5, 6, 7, 8, 9] rfl (aX12_isKnown_b233 N σ c95 c170 c199 hc95 hc170 hc199 v1 v2 v4 v5 v6 v7 v8 v9)
  refine q_aload_n (i := 0) (x := 0) dX12_isKnown_220 rfl 0 rfl ?_
  refine q_iload_n (i := 1) (x := v1) dX12_isKnown_221 rfl 1 rfl ?_
  refine q_iload_n (i := 2) (x := v2) dX12_isKnown_222 rfl 2 rfl ?_
  refine q_iload (i := 8) (x := v8) dX12_isKnown_223 8 rfl ?_
  refine q_iload (i := 9) (x := v9) dX12_isKnown_225 9 rfl ?_
  refine q_cVp mX12_explains [.int v1, .int v2, .int v8, .int v9] (st := []) dX12_isKnown_227 (svX12_188) ⟨Nat.le_of_ble_eq_true rfl, Nat.le_of_ble_eq_true rfl⟩ zM_0 rfl rfl rfl (Nat.le_of_ble_eq_true rfl) (kX12_explains N v1 v2 v8 v9 σ) (fun y8 => ?_)
  refine q_if_eq (tgt := 237) dX12_isKnown_230 (by decide) ?_ ?_
  · refine q_iconst (v := 0) dX12_isKnown_237 (by decide) ?_
    exact q_sub [0, 1, 2, 4, 5, 6, 7, 8, 9] rfl (aX12_isKnown_b238 N σ c95 c170 c199 hc95 hc170 hc199 v1 v2 v4 v5 v6 v7 v8 v9 0)
  exact q_sub [0, 1, 2, 4, 5, 6, 7, 8, 9] rfl (aX12_isKnown_b233 N σ c95 c170 c199 hc95 hc170 hc199 v1 v2 v4 v5 v6 v7 v8 v9)
def fX12_isKnown_l199 (N : Nat) (c95 : Int32 → Int32 → Int32 → Int32 → Int32 → Option Int32) (c170 : Int32 → Int32 → Int32 → Int32 → Int32 → Int32 → Int32 → Int32 → Option Int32) (σ : qMem) : Nat → Int32 → Int32 → Int32 → Int32 → Int32 → Int32 → Int32 → Int32 → Int32 → Option Int32
  | 0 => fun _ _ _ _ _ _ _ _ _ => none
  | n + 1 => fun v1 v2 v3 v4 v5 v6 v7 v8 v9 => fX12_isKnown_s199 N c95 c170 (fX12_isKnown_l199 N c95 c170 σ n) v1 v2 v3 v4 v5 v6 v7 v8 v9 σ
theorem aX12_isKnown_l199 (N : Nat) (σ : qMem) (c95 : Int32 → Int32 → Int32 → Int32 → Int32 → Option Int32) (c170 : Int32 → Int32 → Int32 → Int32 → Int32 → Int32 → Int32 → Int32 → Option Int32) (hc95 : ∀ (v1 : Int32) (v2 : Int32) (v3 : Int32) (v4 : Int32) (v5 : Int32) , qAt wM mX12_isKnown (ρp σ) 95 [(0, .ref 0), (1, .int v1), (2, .int v2), (3, .int v3), (4, .int v4), (5, .int v5)] [] σ (c95 v1 v2 v3 v4 v5)) (hc170 : ∀ (v1 : Int32) (v2 : Int32) (v3 : Int32) (v4 : Int32) (v5 : Int32) (v6 : Int32) (v7 : Int32) (v8 : Int32) , qAt wM mX12_isKnown (ρp σ) 170 [(0, .ref 0), (1, .int v1), (2, .int v2), (3, .int v3), (4, .int v4), (5, .int v5), (6, .int v6), (7, .int v7), (8, .int v8)] [] σ (c170 v1 v2 v3 v4 v5 v6 v7 v8)) : ∀ (n : Nat) (v1 : Int32) (v2 : Int32) (v3 : Int32) (v4 : Int32) (v5 : Int32) (v6 : Int32) (v7 : Int32) (v8 : Int32) (v9 : Int32), qAt wM mX12_isKnown (ρp σ) 199 [(0, .ref 0), (1, .int v1), (2, .int v2), (3, .int v3), (4, .int v4), (5, .int v5), (6, .int v6), (7, .int v7), (8, .int v8), (9, .int v9)] [] σ (fX12_isKnown_l199 N c95 c170 σ n v1 v2 v3 v4 v5 v6 v7 v8 v9) := by
  intro n
  induction n with
  | zero => intro v1 v2 v3 v4 v5 v6 v7 v8 v9; exact q_none
  | succ n ih => intro v1 v2 v3 v4 v5 v6 v7 v8 v9; exact aX12_isKnown_s199 N σ c95 c170 hc95 hc170 (fX12_isKnown_l199 N c95 c170 σ n) ih v1 v2 v3 v4 v5 v6 v7 v8 v9

def fX12_isKnown_s170 (N : Nat) (c95 : Int32 → Int32 → Int32 → Int32 → Int32 → Option Int32) (c170 : Int32 → Int32 → Int32 → Int32 → Int32 → Int32 → Int32 → Int32 → Option Int32) (v1 : Int32) (v2 : Int32) (v3 : Int32) (v4 : Int32) (v5 : Int32) (v6 : Int32) (v7 : Int32) (v8 : Int32) (σ : qMem) : Option Int32 :=
  (if ck v6 1112 = true then (if ((gi σ 2 v6.toNatClampNeg) + v7) < v8 then (fX12_isKnown_b251 N c95 v1 v2 v3 v4 v5 σ) else (if ck (v6 + 1) 1112 = true then (nmI ((gi σ 2 (v6 + 1).toNatClampNeg) - v7) fun x7 => (fX12_isKnown_l199 N c95 c170 σ N v1 v2 v3 v4 v5 v6 v7 v8 x7)) else none)) else none)
set_option maxRecDepth 20000 in
set_option maxHeartbeats 4000000 in
theorem aX12_isKnown_s170 (N : Nat) (σ : qMem) (c95 : Int32 → Int32 → Int32 → Int32 → Int32 → Option Int32) (hc95 : ∀ (v1 : Int32) (v2 : Int32) (v3 : Int32) (v4 : Int32) (v5 : Int32) , qAt wM mX12_isKnown (ρp σ) 95 [(0, .ref 0), (1, .int v1), (2, .int v2), (3, .int v3), (4, .int v4), (5, .int v5)] [] σ (c95 v1 v2 v3 v4 v5)) (c170 : Int32 → Int32 → Int32 → Int32 → Int32 → Int32 → Int32 → Int32 → Option Int32) (hc170 : ∀ (v1 : Int32) (v2 : Int32) (v3 : Int32) (v4 : Int32) (v5 : Int32) (v6 : Int32) (v7 : Int32) (v8 : Int32) , qAt wM mX12_isKnown (ρp σ) 170 [(0, .ref 0), (1, .int v1), (2, .int v2), (3, .int v3), (4, .int v4), (5, .int v5), (6, .int v6), (7, .int v7), (8, .int v8)] [] σ (c170 v1 v2 v3 v4 v5 v6 v7 v8)) (v1 : Int32) (v2 : Int32) (v3 : Int32) (v4 : Int32) (v5 : Int32) (v6 : Int32) (v7 : Int32) (v8 : Int32) : qAt wM mX12_isKnown (ρp σ) 170 [(0, .ref 0), (1, .int v1), (2, .int v2), (3, .int v3), (4, .int v4), (5, .int v5), (6, .int v6), (7, .int v7), (8, .int v8)] [] σ (fX12_isKnown_s170 N c95 c170 v1 v2 v3 v4 v5 v6 v7 v8 σ) := by
  unfold fX12_isKnown_s170
  refine q_iload (i := 8) (x := v8) dX12_isKnown_170 8 rfl ?_
  refine q_aload_n (i := 0) (x := 0) dX12_isKnown_172 rfl 0 rfl ?_
  refine q_getr (t := 2) dX12_isKnown_173 foX12_20 zM_0 rfl ?_
  refine q_iload (i := 6) (x := v6) dX12_isKnown_176 6 rfl ?_
  refine q_iald dX12_isKnown_178 zM_2 ?_
  refine q_iload (i := 7) (x := v7) dX12_isKnown_179 7 rfl ?_
  refine q_iadd dX12_isKnown_181 ?_
  refine q_icmp_gt (tgt := 251) dX12_isKnown_182 (by decide) ?_ ?_
  · exact q_sub [0, 1, 2, 3, 4, 5] rfl (aX12_isKnown_b251 N σ c95 hc95 v1 v2 v3 v4 v5)
  refine q_aload_n (i := 0) (x := 0) dX12_isKnown_185 rfl 0 rfl ?_
  refine q_getr (t := 2) dX12_isKnown_186 foX12_20 zM_0 rfl ?_
  refine q_iload (i := 6) (x := v6) dX12_isKnown_189 6 rfl ?_
  refine q_iconst (v := 1) dX12_isKnown_191 (by decide) ?_
  refine q_iadd dX12_isKnown_192 ?_
  refine q_iald dX12_isKnown_193 zM_2 ?_
  refine q_iload (i := 7) (x := v7) dX12_isKnown_194 7 rfl ?_
  refine q_isub dX12_isKnown_196 ?_
  refine q_nmI (fun x7 => ?_)
  refine q_istore (i := 9) (L' := [(9, .int x7), (0, .ref 0), (1, .int v1), (2, .int v2), (3, .int v3), (4, .int v4), (5, .int v5), (6, .int v6), (7, .int v7), (8, .int v8)]) dX12_isKnown_197 (Nat.le_of_ble_eq_true rfl) rfl ?_
  exact q_sub [1, 2, 3, 4, 5, 6, 7, 8, 9, 0] rfl (aX12_isKnown_l199 N σ c95 c170 hc95 hc170 N v1 v2 v3 v4 v5 v6 v7 v8 x7)
def fX12_isKnown_l170 (N : Nat) (c95 : Int32 → Int32 → Int32 → Int32 → Int32 → Option Int32) (σ : qMem) : Nat → Int32 → Int32 → Int32 → Int32 → Int32 → Int32 → Int32 → Int32 → Option Int32
  | 0 => fun _ _ _ _ _ _ _ _ => none
  | n + 1 => fun v1 v2 v3 v4 v5 v6 v7 v8 => fX12_isKnown_s170 N c95 (fX12_isKnown_l170 N c95 σ n) v1 v2 v3 v4 v5 v6 v7 v8 σ
theorem aX12_isKnown_l170 (N : Nat) (σ : qMem) (c95 : Int32 → Int32 → Int32 → Int32 → Int32 → Option Int32) (hc95 : ∀ (v1 : Int32) (v2 : Int32) (v3 : Int32) (v4 : Int32) (v5 : Int32) , qAt wM mX12_isKnown (ρp σ) 95 [(0, .ref 0), (1, .int v1), (2, .int v2), (3, .int v3), (4, .int v4), (5, .int v5)] [] σ (c95 v1 v2 v3 v4 v5)) : ∀ (n : Nat) (v1 : Int32) (v2 : Int32) (v3 : Int32) (v4 : Int32) (v5 : Int32) (v6 : Int32) (v7 : Int32) (v8 : Int32), qAt wM mX12_isKnown (ρp σ) 170 [(0, .ref 0), (1, .int v1), (2, .int v2), (3, .int v3), (4, .int v4), (5, .int v5), (6, .int v6), (7, .int v7), (8, .int v8)] [] σ (fX12_isKnown_l170 N c95 σ n v1 v2 v3 v4 v5 v6 v7 v8) := by
  intro n
  induction n with
  | zero => intro v1 v2 v3 v4 v5 v6 v7 v8; exact q_none
  | succ n ih => intro v1 v2 v3 v4 v5 v6 v7 v8; exact aX12_isKnown_s170 N σ c95 hc95 (fX12_isKnown_l170 N c95 σ n) ih v1 v2 v3 v4 v5 v6 v7 v8

def fX12_isKnown_s95 (N : Nat) (c95 : Int32 → Int32 → Int32 → Int32 → Int32 → Option Int32) (v1 : Int32) (v2 : Int32) (v3 : Int32) (v4 : Int32) (v5 : Int32) (σ : qMem) : Option Int32 :=
  (if ck 308 1112 = true then (if (gi σ 2 (308 : Int32).toNatClampNeg) ≤ v5 then (if v3 = 0 ∨ v3 = 1 then some v3 else none) else (if ck ((238 + (5 * v5)) + 3) 1112 = true then (if ck ((238 + (5 * v5)) + 4) 1112 = true then ((fX12_in v4 (gi σ 2 ((238 + (5 * v5)) + 3).toNatClampNeg) (gi σ 2 ((238 + (5 * v5)) + 4).toNatClampNeg)).bind fun y4 => (if y4 = 0 then (fX12_isKnown_b251 N c95 v1 v2 v3 v4 v5 σ) else (if ck ((238 + (5 * v5)) + 2) 1112 = true then (nmI (gi σ 2 ((238 + (5 * v5)) + 2).toNatClampNeg) fun x5 => (if ck (238 + (5 * v5)) 1112 = true then (nmI ((gi σ 2 (238 + (5 * v5)).toNatClampNeg) - x5) fun x6 => (fX12_isKnown_l170 N c95 σ N v1 v2 v3 v4 v5 (238 + (5 * v5)) x5 x6)) else none)) else none))) else none) else none)) else none)
set_option maxRecDepth 20000 in
set_option maxHeartbeats 4000000 in
theorem aX12_isKnown_s95 (N : Nat) (σ : qMem) (c95 : Int32 → Int32 → Int32 → Int32 → Int32 → Option Int32) (hc95 : ∀ (v1 : Int32) (v2 : Int32) (v3 : Int32) (v4 : Int32) (v5 : Int32) , qAt wM mX12_isKnown (ρp σ) 95 [(0, .ref 0), (1, .int v1), (2, .int v2), (3, .int v3), (4, .int v4), (5, .int v5)] [] σ (c95 v1 v2 v3 v4 v5)) (v1 : Int32) (v2 : Int32) (v3 : Int32) (v4 : Int32) (v5 : Int32) : qAt wM mX12_isKnown (ρp σ) 95 [(0, .ref 0), (1, .int v1), (2, .int v2), (3, .int v3), (4, .int v4), (5, .int v5)] [] σ (fX12_isKnown_s95 N c95 v1 v2 v3 v4 v5 σ) := by
  unfold fX12_isKnown_s95
  refine q_iload (i := 5) (x := v5) dX12_isKnown_95 5 rfl ?_
  refine q_aload_n (i := 0) (x := 0) dX12_isKnown_97 rfl 0 rfl ?_
  refine q_getr (t := 2) dX12_isKnown_98 foX12_20 zM_0 rfl ?_
  refine q_sipush (v := 308) dX12_isKnown_101 (by decide) ?_
  refine q_iald dX12_isKnown_104 zM_2 ?_
  refine q_icmp_ge (tgt := 257) dX12_isKnown_105 (by decide) ?_ ?_
  · refine q_iload_n (i := 3) (x := v3) dX12_isKnown_257 rfl 3 rfl ?_
    exact q_if (fun hz => q_iretz (y := v3) dX12_isKnown_258 rfl (nb_ok hz) rfl)
  refine q_sipush (v := 238) dX12_isKnown_108 (by decide) ?_
  refine q_iconst (v := 5) dX12_isKnown_111 (by decide) ?_
  refine q_iload (i := 5) (x := v5) dX12_isKnown_112 5 rfl ?_
  refine q_imul dX12_isKnown_114 ?_
  refine q_iadd dX12_isKnown_115 ?_
  refine q_istore (i := 6) (L' := [(6, .int (238 + (5 * v5))), (0, .ref 0), (1, .int v1), (2, .int v2), (3, .int v3), (4, .int v4), (5, .int v5)]) dX12_isKnown_116 (Nat.le_of_ble_eq_true rfl) rfl ?_
  refine q_iload (i := 4) (x := v4) dX12_isKnown_118 5 rfl ?_
  refine q_aload_n (i := 0) (x := 0) dX12_isKnown_120 rfl 1 rfl ?_
  refine q_getr (t := 2) dX12_isKnown_121 foX12_20 zM_0 rfl ?_
  refine q_iload (i := 6) (x := (238 + (5 * v5))) dX12_isKnown_124 0 rfl ?_
  refine q_iconst (v := 3) dX12_isKnown_126 (by decide) ?_
  refine q_iadd dX12_isKnown_127 ?_
  refine q_iald dX12_isKnown_128 zM_2 ?_
  refine q_aload_n (i := 0) (x := 0) dX12_isKnown_129 rfl 1 rfl ?_
  refine q_getr (t := 2) dX12_isKnown_130 foX12_20 zM_0 rfl ?_
  refine q_iload (i := 6) (x := (238 + (5 * v5))) dX12_isKnown_133 0 rfl ?_
  refine q_iconst (v := 4) dX12_isKnown_135 (by decide) ?_
  refine q_iadd dX12_isKnown_136 ?_
  refine q_iald dX12_isKnown_137 zM_2 ?_
  refine q_cSp mX12_in [.int v4, .int (gi σ 2 ((238 + (5 * v5)) + 3).toNatClampNeg), .int (gi σ 2 ((238 + (5 * v5)) + 4).toNatClampNeg)] (st := []) dX12_isKnown_138 (ssX12_110) ⟨Nat.le_of_ble_eq_true rfl, Nat.le_of_ble_eq_true rfl⟩ rfl rfl (Nat.le_of_ble_eq_true rfl) (kX12_in v4 (gi σ 2 ((238 + (5 * v5)) + 3).toNatClampNeg) (gi σ 2 ((238 + (5 * v5)) + 4).toNatClampNeg) σ) (fun y4 => ?_)
  refine q_if_ne (tgt := 147) dX12_isKnown_141 (by decide) ?_ ?_
  · refine q_aload_n (i := 0) (x := 0) dX12_isKnown_147 rfl 1 rfl ?_
    refine q_getr (t := 2) dX12_isKnown_148 foX12_20 zM_0 rfl ?_
    refine q_iload (i := 6) (x := (238 + (5 * v5))) dX12_isKnown_151 0 rfl ?_
    refine q_iconst (v := 2) dX12_isKnown_153 (by decide) ?_
    refine q_iadd dX12_isKnown_154 ?_
    refine q_iald dX12_isKnown_155 zM_2 ?_
    refine q_nmI (fun x5 => ?_)
    refine q_istore (i := 7) (L' := [(7, .int x5), (6, .int (238 + (5 * v5))), (0, .ref 0), (1, .int v1), (2, .int v2), (3, .int v3), (4, .int v4), (5, .int v5)]) dX12_isKnown_156 (Nat.le_of_ble_eq_true rfl) rfl ?_
    refine q_aload_n (i := 0) (x := 0) dX12_isKnown_158 rfl 2 rfl ?_
    refine q_getr (t := 2) dX12_isKnown_159 foX12_20 zM_0 rfl ?_
    refine q_iload (i := 6) (x := (238 + (5 * v5))) dX12_isKnown_162 1 rfl ?_
    refine q_iald dX12_isKnown_164 zM_2 ?_
    refine q_iload (i := 7) (x := x5) dX12_isKnown_165 0 rfl ?_
    refine q_isub dX12_isKnown_167 ?_
    refine q_nmI (fun x6 => ?_)
    refine q_istore (i := 8) (L' := [(8, .int x6), (7, .int x5), (6, .int (238 + (5 * v5))), (0, .ref 0), (1, .int v1), (2, .int v2), (3, .int v3), (4, .int v4), (5, .int v5)]) dX12_isKnown_168 (Nat.le_of_ble_eq_true rfl) rfl ?_
    exact q_sub [3, 4, 5, 6, 7, 8, 2, 1, 0] rfl (aX12_isKnown_l170 N σ c95 hc95 N v1 v2 v3 v4 v5 (238 + (5 * v5)) x5 x6)
  refine q_goto (tgt := 251) dX12_isKnown_144 (by decide) ?_
  exact q_sub [1, 2, 3, 4, 5, 6] rfl (aX12_isKnown_b251 N σ c95 hc95 v1 v2 v3 v4 v5)
def fX12_isKnown_l95 (N : Nat) (σ : qMem) : Nat → Int32 → Int32 → Int32 → Int32 → Int32 → Option Int32
  | 0 => fun _ _ _ _ _ => none
  | n + 1 => fun v1 v2 v3 v4 v5 => fX12_isKnown_s95 N (fX12_isKnown_l95 N σ n) v1 v2 v3 v4 v5 σ
theorem aX12_isKnown_l95 (N : Nat) (σ : qMem) : ∀ (n : Nat) (v1 : Int32) (v2 : Int32) (v3 : Int32) (v4 : Int32) (v5 : Int32), qAt wM mX12_isKnown (ρp σ) 95 [(0, .ref 0), (1, .int v1), (2, .int v2), (3, .int v3), (4, .int v4), (5, .int v5)] [] σ (fX12_isKnown_l95 N σ n v1 v2 v3 v4 v5) := by
  intro n
  induction n with
  | zero => intro v1 v2 v3 v4 v5; exact q_none
  | succ n ih => intro v1 v2 v3 v4 v5; exact aX12_isKnown_s95 N σ (fX12_isKnown_l95 N σ n) ih v1 v2 v3 v4 v5

def fX12_isKnown_b90 (N : Nat) (v1 : Int32) (v2 : Int32) (v3 : Int32) (u0 : Int32) (σ : qMem) : Option Int32 :=
  (fX12_isKnown_l95 N σ N v1 v2 v3 u0 0)
set_option maxRecDepth 20000 in
set_option maxHeartbeats 4000000 in
theorem aX12_isKnown_b90 (N : Nat) (σ : qMem) (v1 : Int32) (v2 : Int32) (v3 : Int32) (u0 : Int32) : qAt wM mX12_isKnown (ρp σ) 90 [(0, .ref 0), (1, .int v1), (2, .int v2), (3, .int v3)] [.int u0] σ (fX12_isKnown_b90 N v1 v2 v3 u0 σ) := by
  unfold fX12_isKnown_b90
  refine q_istore (i := 4) (L' := [(4, .int u0), (0, .ref 0), (1, .int v1), (2, .int v2), (3, .int v3)]) dX12_isKnown_90 (Nat.le_of_ble_eq_true rfl) rfl ?_
  refine q_iconst (v := 0) dX12_isKnown_92 (by decide) ?_
  refine q_istore (i := 5) (L' := [(5, .int 0), (4, .int u0), (0, .ref 0), (1, .int v1), (2, .int v2), (3, .int v3)]) dX12_isKnown_93 (Nat.le_of_ble_eq_true rfl) rfl ?_
  exact q_sub [2, 3, 4, 5, 1, 0] rfl (aX12_isKnown_l95 N σ N v1 v2 v3 u0 0)

def fX12_isKnown_b64 (N : Nat) (c5 : Int32 → Int32 → Int32 → Int32 → Option Int32) (v1 : Int32) (v2 : Int32) (v4 : Int32) (u0 : Int32) (σ : qMem) : Option Int32 :=
  (c5 v1 v2 u0 (v4 + 1))
set_option maxRecDepth 20000 in
set_option maxHeartbeats 4000000 in
theorem aX12_isKnown_b64 (N : Nat) (σ : qMem) (c5 : Int32 → Int32 → Int32 → Int32 → Option Int32) (hc5 : ∀ (v1 : Int32) (v2 : Int32) (v3 : Int32) (v4 : Int32) , qAt wM mX12_isKnown (ρp σ) 5 [(0, .ref 0), (1, .int v1), (2, .int v2), (3, .int v3), (4, .int v4)] [] σ (c5 v1 v2 v3 v4)) (v1 : Int32) (v2 : Int32) (v4 : Int32) (u0 : Int32) : qAt wM mX12_isKnown (ρp σ) 64 [(0, .ref 0), (1, .int v1), (2, .int v2), (4, .int v4)] [.int u0] σ (fX12_isKnown_b64 N c5 v1 v2 v4 u0 σ) := by
  unfold fX12_isKnown_b64
  refine q_istore_n (i := 3) (L' := [(3, .int u0), (0, .ref 0), (1, .int v1), (2, .int v2), (4, .int v4)]) dX12_isKnown_64 rfl (Nat.le_of_ble_eq_true rfl) rfl ?_
  refine q_iinc (i := 4) (x := v4) (v := (v4 + 1)) (L' := [(4, .int (v4 + 1)), (3, .int u0), (0, .ref 0), (1, .int v1), (2, .int v2)]) dX12_isKnown_65 4 rfl (q_cst v4 (by decide)) (Nat.le_of_ble_eq_true rfl) rfl ?_
  refine q_goto (tgt := 5) dX12_isKnown_68 (by decide) ?_
  exact q_sub [2, 3, 4, 1, 0] rfl (hc5 v1 v2 u0 (v4 + 1))

def fX12_isKnown_b59 (N : Nat) (c5 : Int32 → Int32 → Int32 → Int32 → Option Int32) (v1 : Int32) (v2 : Int32) (v4 : Int32) (σ : qMem) : Option Int32 :=
  (fX12_isKnown_b64 N c5 v1 v2 v4 1 σ)
set_option maxRecDepth 20000 in
set_option maxHeartbeats 4000000 in
theorem aX12_isKnown_b59 (N : Nat) (σ : qMem) (c5 : Int32 → Int32 → Int32 → Int32 → Option Int32) (hc5 : ∀ (v1 : Int32) (v2 : Int32) (v3 : Int32) (v4 : Int32) , qAt wM mX12_isKnown (ρp σ) 5 [(0, .ref 0), (1, .int v1), (2, .int v2), (3, .int v3), (4, .int v4)] [] σ (c5 v1 v2 v3 v4)) (v1 : Int32) (v2 : Int32) (v4 : Int32) : qAt wM mX12_isKnown (ρp σ) 59 [(0, .ref 0), (1, .int v1), (2, .int v2), (4, .int v4)] [] σ (fX12_isKnown_b59 N c5 v1 v2 v4 σ) := by
  unfold fX12_isKnown_b59
  refine q_iconst (v := 1) dX12_isKnown_59 (by decide) ?_
  refine q_goto (tgt := 64) dX12_isKnown_60 (by decide) ?_
  exact q_sub [0, 1, 2, 3] rfl (aX12_isKnown_b64 N σ c5 hc5 v1 v2 v4 1)

def fX12_isKnown_s5 (N : Nat) (c5 : Int32 → Int32 → Int32 → Int32 → Option Int32) (v1 : Int32) (v2 : Int32) (v3 : Int32) (v4 : Int32) (σ : qMem) : Option Int32 :=
  (if ck 302 1112 = true then (if (gi σ 2 (302 : Int32).toNatClampNeg) ≤ v4 then (if v1 = 0 then ((fX12_heardOf v2 1 σ).bind fun y1 => (fX12_isKnown_b90 N v1 v2 v3 y1 σ)) else ((fX12_echoOf v2 1 σ).bind fun y2 => (fX12_isKnown_b90 N v1 v2 v3 y2 σ))) else (if v3 = 0 then (if ck (188 + (2 * v4)) 1112 = true then (if ck ((188 + (2 * v4)) + 1) 1112 = true then ((fX12_explains N v1 v2 (gi σ 2 (188 + (2 * v4)).toNatClampNeg) (gi σ 2 ((188 + (2 * v4)) + 1).toNatClampNeg) σ).bind fun y3 => (if y3 = 0 then (fX12_isKnown_b64 N c5 v1 v2 v4 0 σ) else (fX12_isKnown_b59 N c5 v1 v2 v4 σ))) else none) else none) else (fX12_isKnown_b59 N c5 v1 v2 v4 σ))) else none)
set_option maxRecDepth 20000 in
set_option maxHeartbeats 4000000 in
theorem aX12_isKnown_s5 (N : Nat) (σ : qMem) (c5 : Int32 → Int32 → Int32 → Int32 → Option Int32) (hc5 : ∀ (v1 : Int32) (v2 : Int32) (v3 : Int32) (v4 : Int32) , qAt wM mX12_isKnown (ρp σ) 5 [(0, .ref 0), (1, .int v1), (2, .int v2), (3, .int v3), (4, .int v4)] [] σ (c5 v1 v2 v3 v4)) (v1 : Int32) (v2 : Int32) (v3 : Int32) (v4 : Int32) : qAt wM mX12_isKnown (ρp σ) 5 [(0, .ref 0), (1, .int v1), (2, .int v2), (3, .int v3), (4, .int v4)] [] σ (fX12_isKnown_s5 N c5 v1 v2 v3 v4 σ) := by
  unfold fX12_isKnown_s5
  refine q_iload (i := 4) (x := v4) dX12_isKnown_5 4 rfl ?_
  refine q_aload_n (i := 0) (x := 0) dX12_isKnown_7 rfl 0 rfl ?_
  refine q_getr (t := 2) dX12_isKnown_8 foX12_20 zM_0 rfl ?_
  refine q_sipush (v := 302) dX12_isKnown_11 (by decide) ?_
  refine q_iald dX12_isKnown_14 zM_2 ?_
  refine q_icmp_ge (tgt := 71) dX12_isKnown_15 (by decide) ?_ ?_
  · refine q_iload_n (i := 1) (x := v1) dX12_isKnown_71 rfl 1 rfl ?_
    refine q_if_eq (tgt := 84) dX12_isKnown_72 (by decide) ?_ ?_
    · refine q_aload_n (i := 0) (x := 0) dX12_isKnown_84 rfl 0 rfl ?_
      refine q_iload_n (i := 2) (x := v2) dX12_isKnown_85 rfl 2 rfl ?_
      refine q_iconst (v := 1) dX12_isKnown_86 (by decide) ?_
      refine q_cVp mX12_heardOf [.int v2, .int 1] (st := []) dX12_isKnown_87 (svX12_173) ⟨Nat.le_of_ble_eq_true rfl, Nat.le_of_ble_eq_true rfl⟩ zM_0 rfl rfl rfl (Nat.le_of_ble_eq_true rfl) (kX12_heardOf v2 1 σ) (fun y1 => ?_)
      exact q_sub [0, 1, 2, 3] rfl (aX12_isKnown_b90 N σ v1 v2 v3 y1)
    refine q_aload_n (i := 0) (x := 0) dX12_isKnown_75 rfl 0 rfl ?_
    refine q_iload_n (i := 2) (x := v2) dX12_isKnown_76 rfl 2 rfl ?_
    refine q_iconst (v := 1) dX12_isKnown_77 (by decide) ?_
    refine q_cVp mX12_echoOf [.int v2, .int 1] (st := []) dX12_isKnown_78 (svX12_179) ⟨Nat.le_of_ble_eq_true rfl, Nat.le_of_ble_eq_true rfl⟩ zM_0 rfl rfl rfl (Nat.le_of_ble_eq_true rfl) (kX12_echoOf v2 1 σ) (fun y2 => ?_)
    refine q_goto (tgt := 90) dX12_isKnown_81 (by decide) ?_
    exact q_sub [0, 1, 2, 3] rfl (aX12_isKnown_b90 N σ v1 v2 v3 y2)
  refine q_iload_n (i := 3) (x := v3) dX12_isKnown_18 rfl 3 rfl ?_
  refine q_if_ne (tgt := 59) dX12_isKnown_19 (by decide) ?_ ?_
  · exact q_sub [0, 1, 2, 4] rfl (aX12_isKnown_b59 N σ c5 hc5 v1 v2 v4)
  refine q_aload_n (i := 0) (x := 0) dX12_isKnown_22 rfl 0 rfl ?_
  refine q_iload_n (i := 1) (x := v1) dX12_isKnown_23 rfl 1 rfl ?_
  refine q_iload_n (i := 2) (x := v2) dX12_isKnown_24 rfl 2 rfl ?_
  refine q_aload_n (i := 0) (x := 0) dX12_isKnown_25 rfl 0 rfl ?_
  refine q_getr (t := 2) dX12_isKnown_26 foX12_20 zM_0 rfl ?_
  refine q_sipush (v := 188) dX12_isKnown_29 (by decide) ?_
  refine q_iconst (v := 2) dX12_isKnown_32 (by decide) ?_
  refine q_iload (i := 4) (x := v4) dX12_isKnown_33 4 rfl ?_
  refine q_imul dX12_isKnown_35 ?_
  refine q_iadd dX12_isKnown_36 ?_
  refine q_iald dX12_isKnown_37 zM_2 ?_
  refine q_aload_n (i := 0) (x := 0) dX12_isKnown_38 rfl 0 rfl ?_
  refine q_getr (t := 2) dX12_isKnown_39 foX12_20 zM_0 rfl ?_
  refine q_sipush (v := 188) dX12_isKnown_42 (by decide) ?_
  refine q_iconst (v := 2) dX12_isKnown_45 (by decide) ?_
  refine q_iload (i := 4) (x := v4) dX12_isKnown_46 4 rfl ?_
  refine q_imul dX12_isKnown_48 ?_
  refine q_iadd dX12_isKnown_49 ?_
  refine q_iconst (v := 1) dX12_isKnown_50 (by decide) ?_
  refine q_iadd dX12_isKnown_51 ?_
  refine q_iald dX12_isKnown_52 zM_2 ?_
  refine q_cVp mX12_explains [.int v1, .int v2, .int (gi σ 2 (188 + (2 * v4)).toNatClampNeg), .int (gi σ 2 ((188 + (2 * v4)) + 1).toNatClampNeg)] (st := []) dX12_isKnown_53 (svX12_188) ⟨Nat.le_of_ble_eq_true rfl, Nat.le_of_ble_eq_true rfl⟩ zM_0 rfl rfl rfl (Nat.le_of_ble_eq_true rfl) (kX12_explains N v1 v2 (gi σ 2 (188 + (2 * v4)).toNatClampNeg) (gi σ 2 ((188 + (2 * v4)) + 1).toNatClampNeg) σ) (fun y3 => ?_)
  refine q_if_eq (tgt := 63) dX12_isKnown_56 (by decide) ?_ ?_
  · refine q_iconst (v := 0) dX12_isKnown_63 (by decide) ?_
    exact q_sub [0, 1, 2, 4] rfl (aX12_isKnown_b64 N σ c5 hc5 v1 v2 v4 0)
  exact q_sub [0, 1, 2, 4] rfl (aX12_isKnown_b59 N σ c5 hc5 v1 v2 v4)
def fX12_isKnown_l5 (N : Nat) (σ : qMem) : Nat → Int32 → Int32 → Int32 → Int32 → Option Int32
  | 0 => fun _ _ _ _ => none
  | n + 1 => fun v1 v2 v3 v4 => fX12_isKnown_s5 N (fX12_isKnown_l5 N σ n) v1 v2 v3 v4 σ
theorem aX12_isKnown_l5 (N : Nat) (σ : qMem) : ∀ (n : Nat) (v1 : Int32) (v2 : Int32) (v3 : Int32) (v4 : Int32), qAt wM mX12_isKnown (ρp σ) 5 [(0, .ref 0), (1, .int v1), (2, .int v2), (3, .int v3), (4, .int v4)] [] σ (fX12_isKnown_l5 N σ n v1 v2 v3 v4) := by
  intro n
  induction n with
  | zero => intro v1 v2 v3 v4; exact q_none
  | succ n ih => intro v1 v2 v3 v4; exact aX12_isKnown_s5 N σ (fX12_isKnown_l5 N σ n) ih v1 v2 v3 v4

def fX12_isKnown (N : Nat) (p1 : Int32) (p2 : Int32) (σ : qMem) : Option Int32 :=
  (fX12_isKnown_l5 N σ N p1 p2 0 0)
set_option maxRecDepth 20000 in
set_option maxHeartbeats 4000000 in
theorem aX12_isKnown  (N : Nat) (p1 : Int32) (p2 : Int32)  (σ : qMem) : qAt wM mX12_isKnown (ρp σ) 0 [(0, .ref 0), (1, .int p1), (2, .int p2)] [] σ (fX12_isKnown N p1 p2 σ) := by
  unfold fX12_isKnown
  refine q_iconst (v := 0) dX12_isKnown_0 (by decide) ?_
  refine q_istore_n (i := 3) (L' := [(3, .int 0), (0, .ref 0), (1, .int p1), (2, .int p2)]) dX12_isKnown_1 rfl (Nat.le_of_ble_eq_true rfl) rfl ?_
  refine q_iconst (v := 0) dX12_isKnown_2 (by decide) ?_
  refine q_istore (i := 4) (L' := [(4, .int 0), (3, .int 0), (0, .ref 0), (1, .int p1), (2, .int p2)]) dX12_isKnown_3 (Nat.le_of_ble_eq_true rfl) rfl ?_
  exact q_sub [2, 3, 4, 1, 0] rfl (aX12_isKnown_l5 N σ N p1 p2 0 0)
theorem kX12_isKnown  (N : Nat) (p1 : Int32) (p2 : Int32)  (σ : qMem) : qMc wM mX12_isKnown (ρp σ) [.ref 0, .int p1, .int p2] σ (fX12_isKnown N p1 p2 σ) := qMc_of (moX12_isKnown) (Nat.le_of_ble_eq_true rfl) (aX12_isKnown N p1 p2  σ)

theorem dX12_isKnownHeard_0 : decode cX12_isKnownHeard 0 = .ok (.aload_n 0, 1) := by decide +kernel
theorem dX12_isKnownHeard_1 : decode cX12_isKnownHeard 1 = .ok (.iconst 0, 1) := by decide +kernel
theorem dX12_isKnownHeard_2 : decode cX12_isKnownHeard 2 = .ok (.iload_n 1, 1) := by decide +kernel
theorem dX12_isKnownHeard_3 : decode cX12_isKnownHeard 3 = .ok (.invokevirtual 192, 3) := by decide +kernel
theorem dX12_isKnownHeard_6 : decode cX12_isKnownHeard 6 = .ok (.ireturn, 1) := by decide +kernel

def fX12_isKnownHeard (N : Nat) (p1 : Int32) (σ : qMem) : Option Int32 :=
  ((fX12_isKnown N 0 p1 σ).bind fun y1 => (if y1 = 0 ∨ y1 = 1 then some y1 else none))
set_option maxRecDepth 20000 in
set_option maxHeartbeats 4000000 in
theorem aX12_isKnownHeard  (N : Nat) (p1 : Int32)  (σ : qMem) : qAt wM mX12_isKnownHeard (ρp σ) 0 [(0, .ref 0), (1, .int p1)] [] σ (fX12_isKnownHeard N p1 σ) := by
  unfold fX12_isKnownHeard
  refine q_aload_n (i := 0) (x := 0) dX12_isKnownHeard_0 rfl 0 rfl ?_
  refine q_iconst (v := 0) dX12_isKnownHeard_1 (by decide) ?_
  refine q_iload_n (i := 1) (x := p1) dX12_isKnownHeard_2 rfl 1 rfl ?_
  refine q_cVp mX12_isKnown [.int 0, .int p1] (st := []) dX12_isKnownHeard_3 (svX12_192) ⟨Nat.le_of_ble_eq_true rfl, Nat.le_of_ble_eq_true rfl⟩ zM_0 rfl rfl rfl (Nat.le_of_ble_eq_true rfl) (kX12_isKnown N 0 p1 σ) (fun y1 => ?_)
  exact q_if (fun hz => q_iretz (y := y1) dX12_isKnownHeard_6 rfl (nb_ok hz) rfl)
theorem kX12_isKnownHeard  (N : Nat) (p1 : Int32)  (σ : qMem) : qMc wM mX12_isKnownHeard (ρp σ) [.ref 0, .int p1] σ (fX12_isKnownHeard N p1 σ) := qMc_of (moX12_isKnownHeard) (Nat.le_of_ble_eq_true rfl) (aX12_isKnownHeard N p1  σ)

theorem dX12_isKnownEcho_0 : decode cX12_isKnownEcho 0 = .ok (.aload_n 0, 1) := by decide +kernel
theorem dX12_isKnownEcho_1 : decode cX12_isKnownEcho 1 = .ok (.iconst 1, 1) := by decide +kernel
theorem dX12_isKnownEcho_2 : decode cX12_isKnownEcho 2 = .ok (.iload_n 1, 1) := by decide +kernel
theorem dX12_isKnownEcho_3 : decode cX12_isKnownEcho 3 = .ok (.invokevirtual 192, 3) := by decide +kernel
theorem dX12_isKnownEcho_6 : decode cX12_isKnownEcho 6 = .ok (.ireturn, 1) := by decide +kernel

def fX12_isKnownEcho (N : Nat) (p1 : Int32) (σ : qMem) : Option Int32 :=
  ((fX12_isKnown N 1 p1 σ).bind fun y1 => (if y1 = 0 ∨ y1 = 1 then some y1 else none))
set_option maxRecDepth 20000 in
set_option maxHeartbeats 4000000 in
theorem aX12_isKnownEcho  (N : Nat) (p1 : Int32)  (σ : qMem) : qAt wM mX12_isKnownEcho (ρp σ) 0 [(0, .ref 0), (1, .int p1)] [] σ (fX12_isKnownEcho N p1 σ) := by
  unfold fX12_isKnownEcho
  refine q_aload_n (i := 0) (x := 0) dX12_isKnownEcho_0 rfl 0 rfl ?_
  refine q_iconst (v := 1) dX12_isKnownEcho_1 (by decide) ?_
  refine q_iload_n (i := 1) (x := p1) dX12_isKnownEcho_2 rfl 1 rfl ?_
  refine q_cVp mX12_isKnown [.int 1, .int p1] (st := []) dX12_isKnownEcho_3 (svX12_192) ⟨Nat.le_of_ble_eq_true rfl, Nat.le_of_ble_eq_true rfl⟩ zM_0 rfl rfl rfl (Nat.le_of_ble_eq_true rfl) (kX12_isKnown N 1 p1 σ) (fun y1 => ?_)
  exact q_if (fun hz => q_iretz (y := y1) dX12_isKnownEcho_6 rfl (nb_ok hz) rfl)
theorem kX12_isKnownEcho  (N : Nat) (p1 : Int32)  (σ : qMem) : qMc wM mX12_isKnownEcho (ρp σ) [.ref 0, .int p1] σ (fX12_isKnownEcho N p1 σ) := qMc_of (moX12_isKnownEcho) (Nat.le_of_ble_eq_true rfl) (aX12_isKnownEcho N p1  σ)

theorem dX12_known_0 : decode cX12_known 0 = .ok (.iload_n 1, 1) := by decide +kernel
theorem dX12_known_1 : decode cX12_known 1 = .ok (.ifCond .ne 35, 3) := by decide +kernel
theorem dX12_known_4 : decode cX12_known 4 = .ok (.iload_n 2, 1) := by decide +kernel
theorem dX12_known_5 : decode cX12_known 5 = .ok (.iconst 0, 1) := by decide +kernel
theorem dX12_known_6 : decode cX12_known 6 = .ok (.aload_n 0, 1) := by decide +kernel
theorem dX12_known_7 : decode cX12_known 7 = .ok (.getfield 20, 3) := by decide +kernel
theorem dX12_known_10 : decode cX12_known 10 = .ok (.sipush 300, 3) := by decide +kernel
theorem dX12_known_13 : decode cX12_known 13 = .ok (.iaload, 1) := by decide +kernel
theorem dX12_known_14 : decode cX12_known 14 = .ok (.iconst 1, 1) := by decide +kernel
theorem dX12_known_15 : decode cX12_known 15 = .ok (.isub, 1) := by decide +kernel
theorem dX12_known_16 : decode cX12_known 16 = .ok (.invokestatic 110, 3) := by decide +kernel
theorem dX12_known_19 : decode cX12_known 19 = .ok (.ifCond .eq 17, 3) := by decide +kernel
theorem dX12_known_22 : decode cX12_known 22 = .ok (.aload_n 0, 1) := by decide +kernel
theorem dX12_known_23 : decode cX12_known 23 = .ok (.iload_n 2, 1) := by decide +kernel
theorem dX12_known_24 : decode cX12_known 24 = .ok (.invokevirtual 196, 3) := by decide +kernel
theorem dX12_known_27 : decode cX12_known 27 = .ok (.ifCond .eq 7, 3) := by decide +kernel
theorem dX12_known_30 : decode cX12_known 30 = .ok (.iconst 1, 1) := by decide +kernel
theorem dX12_known_31 : decode cX12_known 31 = .ok (.goto 4, 3) := by decide +kernel
theorem dX12_known_34 : decode cX12_known 34 = .ok (.iconst 0, 1) := by decide +kernel
theorem dX12_known_35 : decode cX12_known 35 = .ok (.ireturn, 1) := by decide +kernel
theorem dX12_known_36 : decode cX12_known 36 = .ok (.iload_n 1, 1) := by decide +kernel
theorem dX12_known_37 : decode cX12_known 37 = .ok (.iconst 1, 1) := by decide +kernel
theorem dX12_known_38 : decode cX12_known 38 = .ok (.if_icmp .ne 35, 3) := by decide +kernel
theorem dX12_known_41 : decode cX12_known 41 = .ok (.iload_n 2, 1) := by decide +kernel
theorem dX12_known_42 : decode cX12_known 42 = .ok (.iconst 0, 1) := by decide +kernel
theorem dX12_known_43 : decode cX12_known 43 = .ok (.aload_n 0, 1) := by decide +kernel
theorem dX12_known_44 : decode cX12_known 44 = .ok (.getfield 20, 3) := by decide +kernel
theorem dX12_known_47 : decode cX12_known 47 = .ok (.sipush 301, 3) := by decide +kernel
theorem dX12_known_50 : decode cX12_known 50 = .ok (.iaload, 1) := by decide +kernel
theorem dX12_known_51 : decode cX12_known 51 = .ok (.iconst 1, 1) := by decide +kernel
theorem dX12_known_52 : decode cX12_known 52 = .ok (.isub, 1) := by decide +kernel
theorem dX12_known_53 : decode cX12_known 53 = .ok (.invokestatic 110, 3) := by decide +kernel
theorem dX12_known_56 : decode cX12_known 56 = .ok (.ifCond .eq 17, 3) := by decide +kernel
theorem dX12_known_59 : decode cX12_known 59 = .ok (.aload_n 0, 1) := by decide +kernel
theorem dX12_known_60 : decode cX12_known 60 = .ok (.iload_n 2, 1) := by decide +kernel
theorem dX12_known_61 : decode cX12_known 61 = .ok (.invokevirtual 199, 3) := by decide +kernel
theorem dX12_known_64 : decode cX12_known 64 = .ok (.ifCond .eq 7, 3) := by decide +kernel
theorem dX12_known_67 : decode cX12_known 67 = .ok (.iconst 1, 1) := by decide +kernel
theorem dX12_known_68 : decode cX12_known 68 = .ok (.goto 4, 3) := by decide +kernel
theorem dX12_known_71 : decode cX12_known 71 = .ok (.iconst 0, 1) := by decide +kernel
theorem dX12_known_72 : decode cX12_known 72 = .ok (.ireturn, 1) := by decide +kernel
theorem dX12_known_73 : decode cX12_known 73 = .ok (.iconst (-1), 1) := by decide +kernel
theorem dX12_known_74 : decode cX12_known 74 = .ok (.ireturn, 1) := by decide +kernel
def fX12_known_b36 (N : Nat) (v1 : Int32) (v2 : Int32) (σ : qMem) : Option Int32 :=
  (if v1 = 1 then (if ck 301 1112 = true then ((fX12_in v2 0 ((gi σ 2 (301 : Int32).toNatClampNeg) - 1)).bind fun y3 => (if y3 = 0 then (some (-1)) else ((fX12_isKnownEcho N v2 σ).bind fun y4 => (if y4 = 0 then (some 0) else (some 1))))) else none) else (some (-1)))
set_option maxRecDepth 20000 in
set_option maxHeartbeats 4000000 in
theorem aX12_known_b36 (N : Nat) (σ : qMem) (v1 : Int32) (v2 : Int32) : qAt wM mX12_known (ρp σ) 36 [(0, .ref 0), (1, .int v1), (2, .int v2)] [] σ (fX12_known_b36 N v1 v2 σ) := by
  unfold fX12_known_b36
  refine q_iload_n (i := 1) (x := v1) dX12_known_36 rfl 1 rfl ?_
  refine q_iconst (v := 1) dX12_known_37 (by decide) ?_
  refine q_icmp_ne (tgt := 73) dX12_known_38 (by decide) ?_ ?_
  · refine q_iconst (v := (-1)) dX12_known_73 (by decide) ?_
    exact q_ireti (y := (-1)) dX12_known_74 rfl rfl
  refine q_iload_n (i := 2) (x := v2) dX12_known_41 rfl 2 rfl ?_
  refine q_iconst (v := 0) dX12_known_42 (by decide) ?_
  refine q_aload_n (i := 0) (x := 0) dX12_known_43 rfl 0 rfl ?_
  refine q_getr (t := 2) dX12_known_44 foX12_20 zM_0 rfl ?_
  refine q_sipush (v := 301) dX12_known_47 (by decide) ?_
  refine q_iald dX12_known_50 zM_2 ?_
  refine q_iconst (v := 1) dX12_known_51 (by decide) ?_
  refine q_isub dX12_known_52 ?_
  refine q_cSp mX12_in [.int v2, .int 0, .int ((gi σ 2 (301 : Int32).toNatClampNeg) - 1)] (st := []) dX12_known_53 (ssX12_110) ⟨Nat.le_of_ble_eq_true rfl, Nat.le_of_ble_eq_true rfl⟩ rfl rfl (Nat.le_of_ble_eq_true rfl) (kX12_in v2 0 ((gi σ 2 (301 : Int32).toNatClampNeg) - 1) σ) (fun y3 => ?_)
  refine q_if_eq (tgt := 73) dX12_known_56 (by decide) ?_ ?_
  · refine q_iconst (v := (-1)) dX12_known_73 (by decide) ?_
    exact q_ireti (y := (-1)) dX12_known_74 rfl rfl
  refine q_aload_n (i := 0) (x := 0) dX12_known_59 rfl 0 rfl ?_
  refine q_iload_n (i := 2) (x := v2) dX12_known_60 rfl 2 rfl ?_
  refine q_cVp mX12_isKnownEcho [.int v2] (st := []) dX12_known_61 (svX12_199) ⟨Nat.le_of_ble_eq_true rfl, Nat.le_of_ble_eq_true rfl⟩ zM_0 rfl rfl rfl (Nat.le_of_ble_eq_true rfl) (kX12_isKnownEcho N v2 σ) (fun y4 => ?_)
  refine q_if_eq (tgt := 71) dX12_known_64 (by decide) ?_ ?_
  · refine q_iconst (v := 0) dX12_known_71 (by decide) ?_
    exact q_ireti (y := 0) dX12_known_72 rfl rfl
  refine q_iconst (v := 1) dX12_known_67 (by decide) ?_
  refine q_goto (tgt := 72) dX12_known_68 (by decide) ?_
  exact q_ireti (y := 1) dX12_known_72 rfl rfl

def fX12_known (N : Nat) (p1 : Int32) (p2 : Int32) (σ : qMem) : Option Int32 :=
  (if p1 = 0 then (if ck 300 1112 = true then ((fX12_in p2 0 ((gi σ 2 (300 : Int32).toNatClampNeg) - 1)).bind fun y1 => (if y1 = 0 then (fX12_known_b36 N p1 p2 σ) else ((fX12_isKnownHeard N p2 σ).bind fun y2 => (if y2 = 0 then (some 0) else (some 1))))) else none) else (fX12_known_b36 N p1 p2 σ))
set_option maxRecDepth 20000 in
set_option maxHeartbeats 4000000 in
theorem aX12_known  (N : Nat) (p1 : Int32) (p2 : Int32)  (σ : qMem) : qAt wM mX12_known (ρp σ) 0 [(0, .ref 0), (1, .int p1), (2, .int p2)] [] σ (fX12_known N p1 p2 σ) := by
  unfold fX12_known
  refine q_iload_n (i := 1) (x := p1) dX12_known_0 rfl 1 rfl ?_
  refine q_if_ne (tgt := 36) dX12_known_1 (by decide) ?_ ?_
  · exact q_sub [0, 1, 2] rfl (aX12_known_b36 N σ p1 p2)
  refine q_iload_n (i := 2) (x := p2) dX12_known_4 rfl 2 rfl ?_
  refine q_iconst (v := 0) dX12_known_5 (by decide) ?_
  refine q_aload_n (i := 0) (x := 0) dX12_known_6 rfl 0 rfl ?_
  refine q_getr (t := 2) dX12_known_7 foX12_20 zM_0 rfl ?_
  refine q_sipush (v := 300) dX12_known_10 (by decide) ?_
  refine q_iald dX12_known_13 zM_2 ?_
  refine q_iconst (v := 1) dX12_known_14 (by decide) ?_
  refine q_isub dX12_known_15 ?_
  refine q_cSp mX12_in [.int p2, .int 0, .int ((gi σ 2 (300 : Int32).toNatClampNeg) - 1)] (st := []) dX12_known_16 (ssX12_110) ⟨Nat.le_of_ble_eq_true rfl, Nat.le_of_ble_eq_true rfl⟩ rfl rfl (Nat.le_of_ble_eq_true rfl) (kX12_in p2 0 ((gi σ 2 (300 : Int32).toNatClampNeg) - 1) σ) (fun y1 => ?_)
  refine q_if_eq (tgt := 36) dX12_known_19 (by decide) ?_ ?_
  · exact q_sub [0, 1, 2] rfl (aX12_known_b36 N σ p1 p2)
  refine q_aload_n (i := 0) (x := 0) dX12_known_22 rfl 0 rfl ?_
  refine q_iload_n (i := 2) (x := p2) dX12_known_23 rfl 2 rfl ?_
  refine q_cVp mX12_isKnownHeard [.int p2] (st := []) dX12_known_24 (svX12_196) ⟨Nat.le_of_ble_eq_true rfl, Nat.le_of_ble_eq_true rfl⟩ zM_0 rfl rfl rfl (Nat.le_of_ble_eq_true rfl) (kX12_isKnownHeard N p2 σ) (fun y2 => ?_)
  refine q_if_eq (tgt := 34) dX12_known_27 (by decide) ?_ ?_
  · refine q_iconst (v := 0) dX12_known_34 (by decide) ?_
    exact q_ireti (y := 0) dX12_known_35 rfl rfl
  refine q_iconst (v := 1) dX12_known_30 (by decide) ?_
  refine q_goto (tgt := 35) dX12_known_31 (by decide) ?_
  exact q_ireti (y := 1) dX12_known_35 rfl rfl
theorem kX12_known  (N : Nat) (p1 : Int32) (p2 : Int32)  (σ : qMem) : qMc wM mX12_known (ρp σ) [.ref 0, .int p1, .int p2] σ (fX12_known N p1 p2 σ) := qMc_of (moX12_known) (Nat.le_of_ble_eq_true rfl) (aX12_known N p1 p2  σ)

theorem dX12_row_0 : decode cX12_row 0 = .ok (.aload_n 0, 1) := by decide +kernel
theorem dX12_row_1 : decode cX12_row 1 = .ok (.getfield 202, 3) := by decide +kernel
theorem dX12_row_4 : decode cX12_row 4 = .ok (.istore_n 1, 1) := by decide +kernel
theorem dX12_row_5 : decode cX12_row 5 = .ok (.aload_n 0, 1) := by decide +kernel
theorem dX12_row_6 : decode cX12_row 6 = .ok (.iconst 0, 1) := by decide +kernel
theorem dX12_row_7 : decode cX12_row 7 = .ok (.putfield 202, 3) := by decide +kernel
theorem dX12_row_10 : decode cX12_row 10 = .ok (.iload_n 1, 1) := by decide +kernel
theorem dX12_row_11 : decode cX12_row 11 = .ok (.ifCond .ne 10, 3) := by decide +kernel
theorem dX12_row_14 : decode cX12_row 14 = .ok (.aload_n 0, 1) := by decide +kernel
theorem dX12_row_15 : decode cX12_row 15 = .ok (.bipush (-6), 2) := by decide +kernel
theorem dX12_row_17 : decode cX12_row 17 = .ok (.invokevirtual 114, 3) := by decide +kernel
theorem dX12_row_20 : decode cX12_row 20 = .ok (.ireturn, 1) := by decide +kernel
theorem dX12_row_21 : decode cX12_row 21 = .ok (.iconst 0, 1) := by decide +kernel
theorem dX12_row_22 : decode cX12_row 22 = .ok (.istore_n 2, 1) := by decide +kernel
theorem dX12_row_23 : decode cX12_row 23 = .ok (.aload_n 0, 1) := by decide +kernel
theorem dX12_row_24 : decode cX12_row 24 = .ok (.iload_n 1, 1) := by decide +kernel
theorem dX12_row_25 : decode cX12_row 25 = .ok (.iconst 3, 1) := by decide +kernel
theorem dX12_row_26 : decode cX12_row 26 = .ok (.irem, 1) := by decide +kernel
theorem dX12_row_27 : decode cX12_row 27 = .ok (.ifCond .ne 7, 3) := by decide +kernel
theorem dX12_row_30 : decode cX12_row 30 = .ok (.iconst 0, 1) := by decide +kernel
theorem dX12_row_31 : decode cX12_row 31 = .ok (.goto 4, 3) := by decide +kernel
theorem dX12_row_34 : decode cX12_row 34 = .ok (.iconst 1, 1) := by decide +kernel
theorem dX12_row_35 : decode cX12_row 35 = .ok (.putfield 205, 3) := by decide +kernel
theorem dX12_row_38 : decode cX12_row 38 = .ok (.iconst 0, 1) := by decide +kernel
theorem dX12_row_39 : decode cX12_row 39 = .ok (.istore_n 3, 1) := by decide +kernel
theorem dX12_row_40 : decode cX12_row 40 = .ok (.iload_n 3, 1) := by decide +kernel
theorem dX12_row_41 : decode cX12_row 41 = .ok (.iconst 3, 1) := by decide +kernel
theorem dX12_row_42 : decode cX12_row 42 = .ok (.iadd, 1) := by decide +kernel
theorem dX12_row_43 : decode cX12_row 43 = .ok (.iload_n 1, 1) := by decide +kernel
theorem dX12_row_44 : decode cX12_row 44 = .ok (.if_icmp .gt 135, 3) := by decide +kernel
theorem dX12_row_47 : decode cX12_row 47 = .ok (.aload_n 0, 1) := by decide +kernel
theorem dX12_row_48 : decode cX12_row 48 = .ok (.getfield 80, 3) := by decide +kernel
theorem dX12_row_51 : decode cX12_row 51 = .ok (.iload_n 3, 1) := by decide +kernel
theorem dX12_row_52 : decode cX12_row 52 = .ok (.baload, 1) := by decide +kernel
theorem dX12_row_53 : decode cX12_row 53 = .ok (.invokestatic 129, 3) := by decide +kernel
theorem dX12_row_56 : decode cX12_row 56 = .ok (.ifCond .eq 51, 3) := by decide +kernel
theorem dX12_row_59 : decode cX12_row 59 = .ok (.aload_n 0, 1) := by decide +kernel
theorem dX12_row_60 : decode cX12_row 60 = .ok (.getfield 80, 3) := by decide +kernel
theorem dX12_row_63 : decode cX12_row 63 = .ok (.iload_n 3, 1) := by decide +kernel
theorem dX12_row_64 : decode cX12_row 64 = .ok (.iconst 1, 1) := by decide +kernel
theorem dX12_row_65 : decode cX12_row 65 = .ok (.iadd, 1) := by decide +kernel
theorem dX12_row_66 : decode cX12_row 66 = .ok (.baload, 1) := by decide +kernel
theorem dX12_row_67 : decode cX12_row 67 = .ok (.invokestatic 132, 3) := by decide +kernel
theorem dX12_row_70 : decode cX12_row 70 = .ok (.ifCond .eq 37, 3) := by decide +kernel
theorem dX12_row_73 : decode cX12_row 73 = .ok (.aload_n 0, 1) := by decide +kernel
theorem dX12_row_74 : decode cX12_row 74 = .ok (.getfield 80, 3) := by decide +kernel
theorem dX12_row_77 : decode cX12_row 77 = .ok (.iload_n 3, 1) := by decide +kernel
theorem dX12_row_78 : decode cX12_row 78 = .ok (.iconst 2, 1) := by decide +kernel
theorem dX12_row_79 : decode cX12_row 79 = .ok (.iadd, 1) := by decide +kernel
theorem dX12_row_80 : decode cX12_row 80 = .ok (.baload, 1) := by decide +kernel
theorem dX12_row_81 : decode cX12_row 81 = .ok (.iconst 0, 1) := by decide +kernel
theorem dX12_row_82 : decode cX12_row 82 = .ok (.bipush 79, 2) := by decide +kernel
theorem dX12_row_84 : decode cX12_row 84 = .ok (.invokestatic 110, 3) := by decide +kernel
theorem dX12_row_87 : decode cX12_row 87 = .ok (.ifCond .eq 20, 3) := by decide +kernel
theorem dX12_row_90 : decode cX12_row 90 = .ok (.aload_n 0, 1) := by decide +kernel
theorem dX12_row_91 : decode cX12_row 91 = .ok (.getfield 20, 3) := by decide +kernel
theorem dX12_row_94 : decode cX12_row 94 = .ok (.sipush 300, 3) := by decide +kernel
theorem dX12_row_97 : decode cX12_row 97 = .ok (.iaload, 1) := by decide +kernel
theorem dX12_row_98 : decode cX12_row 98 = .ok (.bipush 24, 2) := by decide +kernel
theorem dX12_row_100 : decode cX12_row 100 = .ok (.if_icmp .ge 7, 3) := by decide +kernel
theorem dX12_row_103 : decode cX12_row 103 = .ok (.iconst 1, 1) := by decide +kernel
theorem dX12_row_104 : decode cX12_row 104 = .ok (.goto 4, 3) := by decide +kernel
theorem dX12_row_107 : decode cX12_row 107 = .ok (.iconst 0, 1) := by decide +kernel
theorem dX12_row_108 : decode cX12_row 108 = .ok (.istore 4, 2) := by decide +kernel
theorem dX12_row_110 : decode cX12_row 110 = .ok (.iload 4, 2) := by decide +kernel
theorem dX12_row_112 : decode cX12_row 112 = .ok (.ifCond .eq 29, 3) := by decide +kernel
theorem dX12_row_115 : decode cX12_row 115 = .ok (.aload_n 0, 1) := by decide +kernel
theorem dX12_row_116 : decode cX12_row 116 = .ok (.aload_n 0, 1) := by decide +kernel
theorem dX12_row_117 : decode cX12_row 117 = .ok (.getfield 80, 3) := by decide +kernel
theorem dX12_row_120 : decode cX12_row 120 = .ok (.iload_n 3, 1) := by decide +kernel
theorem dX12_row_121 : decode cX12_row 121 = .ok (.baload, 1) := by decide +kernel
theorem dX12_row_122 : decode cX12_row 122 = .ok (.aload_n 0, 1) := by decide +kernel
theorem dX12_row_123 : decode cX12_row 123 = .ok (.getfield 80, 3) := by decide +kernel
theorem dX12_row_126 : decode cX12_row 126 = .ok (.iload_n 3, 1) := by decide +kernel
theorem dX12_row_127 : decode cX12_row 127 = .ok (.iconst 1, 1) := by decide +kernel
theorem dX12_row_128 : decode cX12_row 128 = .ok (.iadd, 1) := by decide +kernel
theorem dX12_row_129 : decode cX12_row 129 = .ok (.baload, 1) := by decide +kernel
theorem dX12_row_130 : decode cX12_row 130 = .ok (.aload_n 0, 1) := by decide +kernel
theorem dX12_row_131 : decode cX12_row 131 = .ok (.getfield 80, 3) := by decide +kernel
theorem dX12_row_134 : decode cX12_row 134 = .ok (.iload_n 3, 1) := by decide +kernel
theorem dX12_row_135 : decode cX12_row 135 = .ok (.iconst 2, 1) := by decide +kernel
theorem dX12_row_136 : decode cX12_row 136 = .ok (.iadd, 1) := by decide +kernel
theorem dX12_row_137 : decode cX12_row 137 = .ok (.baload, 1) := by decide +kernel
theorem dX12_row_138 : decode cX12_row 138 = .ok (.invokevirtual 169, 3) := by decide +kernel
theorem dX12_row_141 : decode cX12_row 141 = .ok (.iload_n 2, 1) := by decide +kernel
theorem dX12_row_142 : decode cX12_row 142 = .ok (.iload 4, 2) := by decide +kernel
theorem dX12_row_144 : decode cX12_row 144 = .ok (.ifCond .eq 7, 3) := by decide +kernel
theorem dX12_row_147 : decode cX12_row 147 = .ok (.iconst 1, 1) := by decide +kernel
theorem dX12_row_148 : decode cX12_row 148 = .ok (.goto 4, 3) := by decide +kernel
theorem dX12_row_151 : decode cX12_row 151 = .ok (.iconst 0, 1) := by decide +kernel
theorem dX12_row_152 : decode cX12_row 152 = .ok (.iadd, 1) := by decide +kernel
theorem dX12_row_153 : decode cX12_row 153 = .ok (.istore_n 2, 1) := by decide +kernel
theorem dX12_row_154 : decode cX12_row 154 = .ok (.aload_n 0, 1) := by decide +kernel
theorem dX12_row_155 : decode cX12_row 155 = .ok (.dup, 1) := by decide +kernel
theorem dX12_row_156 : decode cX12_row 156 = .ok (.getfield 205, 3) := by decide +kernel
theorem dX12_row_159 : decode cX12_row 159 = .ok (.iload 4, 2) := by decide +kernel
theorem dX12_row_161 : decode cX12_row 161 = .ok (.ifCond .eq 7, 3) := by decide +kernel
theorem dX12_row_164 : decode cX12_row 164 = .ok (.iconst 0, 1) := by decide +kernel
theorem dX12_row_165 : decode cX12_row 165 = .ok (.goto 4, 3) := by decide +kernel
theorem dX12_row_168 : decode cX12_row 168 = .ok (.iconst 1, 1) := by decide +kernel
theorem dX12_row_169 : decode cX12_row 169 = .ok (.iadd, 1) := by decide +kernel
theorem dX12_row_170 : decode cX12_row 170 = .ok (.putfield 205, 3) := by decide +kernel
theorem dX12_row_173 : decode cX12_row 173 = .ok (.iinc 3 3, 3) := by decide +kernel
theorem dX12_row_176 : decode cX12_row 176 = .ok (.goto (-136), 3) := by decide +kernel
theorem dX12_row_179 : decode cX12_row 179 = .ok (.aload_n 0, 1) := by decide +kernel
theorem dX12_row_180 : decode cX12_row 180 = .ok (.iload_n 2, 1) := by decide +kernel
theorem dX12_row_181 : decode cX12_row 181 = .ok (.invokevirtual 118, 3) := by decide +kernel
theorem dX12_row_184 : decode cX12_row 184 = .ok (.ireturn, 1) := by decide +kernel
def fX12_row_b169 (N : Nat) (c40 : Int32 → Int32 → Int32 → qMem → Option (Int32 × qMem)) (v1 : Int32) (v2 : Int32) (v3 : Int32) (u1 : Int32) (u2 : Int32) (σ : qMem) : Option (Int32 × qMem) :=
  (nmM (si σ 0 8 (u1 + u2)) fun s9 => (c40 v1 v2 (v3 + 3) s9))
set_option maxRecDepth 20000 in
set_option maxHeartbeats 4000000 in
theorem aX12_row_b169 (N : Nat) (c40 : Int32 → Int32 → Int32 → qMem → Option (Int32 × qMem)) (hc40 : ∀ (v1 : Int32) (v2 : Int32) (v3 : Int32) (σ : qMem), qAt wM mX12_row (ρi) 40 [(0, .ref 0), (1, .int v1), (2, .int v2), (3, .int v3)] [] σ (c40 v1 v2 v3 σ)) (v1 : Int32) (v2 : Int32) (v3 : Int32) (u1 : Int32) (u2 : Int32) (σ : qMem) : qAt wM mX12_row (ρi) 169 [(0, .ref 0), (1, .int v1), (2, .int v2), (3, .int v3)] [.int u2, .int u1, .ref 0] σ (fX12_row_b169 N c40 v1 v2 v3 u1 u2 σ) := by
  unfold fX12_row_b169
  refine q_iadd dX12_row_169 ?_
  refine q_puti dX12_row_170 foX12_205 fwX12_8 zM_0 rfl ?_
  refine q_nmM (fun s9 => ?_)
  refine q_iinc (i := 3) (x := v3) (v := (v3 + 3)) (L' := [(3, .int (v3 + 3)), (0, .ref 0), (1, .int v1), (2, .int v2)]) dX12_row_173 3 rfl (q_cst v3 (by decide)) (Nat.le_of_ble_eq_true rfl) rfl ?_
  refine q_goto (tgt := 40) dX12_row_176 (by decide) ?_
  exact q_sub [1, 2, 3, 0] rfl (hc40 v1 v2 (v3 + 3) s9)

def fX12_row_b152 (N : Nat) (c40 : Int32 → Int32 → Int32 → qMem → Option (Int32 × qMem)) (v1 : Int32) (v3 : Int32) (v4 : Int32) (u0 : Int32) (u1 : Int32) (σ : qMem) : Option (Int32 × qMem) :=
  (if v4 = 0 then (fX12_row_b169 N c40 v1 (u0 + u1) v3 (gi σ 0 8) 1 σ) else (fX12_row_b169 N c40 v1 (u0 + u1) v3 (gi σ 0 8) 0 σ))
set_option maxRecDepth 20000 in
set_option maxHeartbeats 4000000 in
theorem aX12_row_b152 (N : Nat) (c40 : Int32 → Int32 → Int32 → qMem → Option (Int32 × qMem)) (hc40 : ∀ (v1 : Int32) (v2 : Int32) (v3 : Int32) (σ : qMem), qAt wM mX12_row (ρi) 40 [(0, .ref 0), (1, .int v1), (2, .int v2), (3, .int v3)] [] σ (c40 v1 v2 v3 σ)) (v1 : Int32) (v3 : Int32) (v4 : Int32) (u0 : Int32) (u1 : Int32) (σ : qMem) : qAt wM mX12_row (ρi) 152 [(0, .ref 0), (1, .int v1), (3, .int v3), (4, .int v4)] [.int u1, .int u0] σ (fX12_row_b152 N c40 v1 v3 v4 u0 u1 σ) := by
  unfold fX12_row_b152
  refine q_iadd dX12_row_152 ?_
  refine q_istore_n (i := 2) (L' := [(2, .int (u0 + u1)), (0, .ref 0), (1, .int v1), (3, .int v3), (4, .int v4)]) dX12_row_153 rfl (Nat.le_of_ble_eq_true rfl) rfl ?_
  refine q_aload_n (i := 0) (x := 0) dX12_row_154 rfl 1 rfl ?_
  refine q_dup dX12_row_155 rfl ?_
  refine q_geti dX12_row_156 foX12_205 zM_0 rfl ?_
  refine q_iload (i := 4) (x := v4) dX12_row_159 4 rfl ?_
  refine q_if_eq (tgt := 168) dX12_row_161 (by decide) ?_ ?_
  · refine q_iconst (v := 1) dX12_row_168 (by decide) ?_
    exact q_sub [1, 2, 0, 3] rfl (aX12_row_b169 N c40 hc40 v1 (u0 + u1) v3 (gi σ 0 8) 1 σ)
  refine q_iconst (v := 0) dX12_row_164 (by decide) ?_
  refine q_goto (tgt := 169) dX12_row_165 (by decide) ?_
  exact q_sub [1, 2, 0, 3] rfl (aX12_row_b169 N c40 hc40 v1 (u0 + u1) v3 (gi σ 0 8) 0 σ)

def fX12_row_b141 (N : Nat) (c40 : Int32 → Int32 → Int32 → qMem → Option (Int32 × qMem)) (v1 : Int32) (v2 : Int32) (v3 : Int32) (v4 : Int32) (σ : qMem) : Option (Int32 × qMem) :=
  (if v4 = 0 then (fX12_row_b152 N c40 v1 v3 v4 v2 0 σ) else (fX12_row_b152 N c40 v1 v3 v4 v2 1 σ))
set_option maxRecDepth 20000 in
set_option maxHeartbeats 4000000 in
theorem aX12_row_b141 (N : Nat) (c40 : Int32 → Int32 → Int32 → qMem → Option (Int32 × qMem)) (hc40 : ∀ (v1 : Int32) (v2 : Int32) (v3 : Int32) (σ : qMem), qAt wM mX12_row (ρi) 40 [(0, .ref 0), (1, .int v1), (2, .int v2), (3, .int v3)] [] σ (c40 v1 v2 v3 σ)) (v1 : Int32) (v2 : Int32) (v3 : Int32) (v4 : Int32) (σ : qMem) : qAt wM mX12_row (ρi) 141 [(0, .ref 0), (1, .int v1), (2, .int v2), (3, .int v3), (4, .int v4)] [] σ (fX12_row_b141 N c40 v1 v2 v3 v4 σ) := by
  unfold fX12_row_b141
  refine q_iload_n (i := 2) (x := v2) dX12_row_141 rfl 2 rfl ?_
  refine q_iload (i := 4) (x := v4) dX12_row_142 4 rfl ?_
  refine q_if_eq (tgt := 151) dX12_row_144 (by decide) ?_ ?_
  · refine q_iconst (v := 0) dX12_row_151 (by decide) ?_
    exact q_sub [0, 1, 3, 4] rfl (aX12_row_b152 N c40 hc40 v1 v3 v4 v2 0 σ)
  refine q_iconst (v := 1) dX12_row_147 (by decide) ?_
  refine q_goto (tgt := 152) dX12_row_148 (by decide) ?_
  exact q_sub [0, 1, 3, 4] rfl (aX12_row_b152 N c40 hc40 v1 v3 v4 v2 1 σ)

def fX12_row_b108 (N : Nat) (c40 : Int32 → Int32 → Int32 → qMem → Option (Int32 × qMem)) (v1 : Int32) (v2 : Int32) (v3 : Int32) (u0 : Int32) (σ : qMem) : Option (Int32 × qMem) :=
  (if u0 = 0 then (fX12_row_b141 N c40 v1 v2 v3 u0 σ) else (if ck v3 400 = true then (if ck (v3 + 1) 400 = true then (if ck (v3 + 2) 400 = true then ((fX12_hearsNew (gi σ 18 v3.toNatClampNeg) (gi σ 18 (v3 + 1).toNatClampNeg) (gi σ 18 (v3 + 2).toNatClampNeg) σ).bind fun y8 => (fX12_row_b141 N c40 v1 v2 v3 u0 y8)) else none) else none) else none))
set_option maxRecDepth 20000 in
set_option maxHeartbeats 4000000 in
theorem aX12_row_b108 (N : Nat) (c40 : Int32 → Int32 → Int32 → qMem → Option (Int32 × qMem)) (hc40 : ∀ (v1 : Int32) (v2 : Int32) (v3 : Int32) (σ : qMem), qAt wM mX12_row (ρi) 40 [(0, .ref 0), (1, .int v1), (2, .int v2), (3, .int v3)] [] σ (c40 v1 v2 v3 σ)) (v1 : Int32) (v2 : Int32) (v3 : Int32) (u0 : Int32) (σ : qMem) : qAt wM mX12_row (ρi) 108 [(0, .ref 0), (1, .int v1), (2, .int v2), (3, .int v3)] [.int u0] σ (fX12_row_b108 N c40 v1 v2 v3 u0 σ) := by
  unfold fX12_row_b108
  refine q_istore (i := 4) (L' := [(4, .int u0), (0, .ref 0), (1, .int v1), (2, .int v2), (3, .int v3)]) dX12_row_108 (Nat.le_of_ble_eq_true rfl) rfl ?_
  refine q_iload (i := 4) (x := u0) dX12_row_110 0 rfl ?_
  refine q_if_eq (tgt := 141) dX12_row_112 (by decide) ?_ ?_
  · exact q_sub [1, 2, 3, 4, 0] rfl (aX12_row_b141 N c40 hc40 v1 v2 v3 u0 σ)
  refine q_aload_n (i := 0) (x := 0) dX12_row_115 rfl 1 rfl ?_
  refine q_aload_n (i := 0) (x := 0) dX12_row_116 rfl 1 rfl ?_
  refine q_getr (t := 18) dX12_row_117 foX12_80 zM_0 rfl ?_
  refine q_iload_n (i := 3) (x := v3) dX12_row_120 rfl 4 rfl ?_
  refine q_bald dX12_row_121 zM_18 ?_
  refine q_aload_n (i := 0) (x := 0) dX12_row_122 rfl 1 rfl ?_
  refine q_getr (t := 18) dX12_row_123 foX12_80 zM_0 rfl ?_
  refine q_iload_n (i := 3) (x := v3) dX12_row_126 rfl 4 rfl ?_
  refine q_iconst (v := 1) dX12_row_127 (by decide) ?_
  refine q_iadd dX12_row_128 ?_
  refine q_bald dX12_row_129 zM_18 ?_
  refine q_aload_n (i := 0) (x := 0) dX12_row_130 rfl 1 rfl ?_
  refine q_getr (t := 18) dX12_row_131 foX12_80 zM_0 rfl ?_
  refine q_iload_n (i := 3) (x := v3) dX12_row_134 rfl 4 rfl ?_
  refine q_iconst (v := 2) dX12_row_135 (by decide) ?_
  refine q_iadd dX12_row_136 ?_
  refine q_bald dX12_row_137 zM_18 ?_
  refine q_cVv mX12_hearsNew [.int (gi σ 18 v3.toNatClampNeg), .int (gi σ 18 (v3 + 1).toNatClampNeg), .int (gi σ 18 (v3 + 2).toNatClampNeg)] (st := []) dX12_row_138 (svX12_169) ⟨Nat.le_of_ble_eq_true rfl, Nat.le_of_ble_eq_true rfl⟩ zM_0 rfl rfl rfl (Nat.le_of_ble_eq_true rfl) (kX12_hearsNew (gi σ 18 v3.toNatClampNeg) (gi σ 18 (v3 + 1).toNatClampNeg) (gi σ 18 (v3 + 2).toNatClampNeg) σ) (fun y8 => ?_)
  exact q_sub [1, 2, 3, 4, 0] rfl (aX12_row_b141 N c40 hc40 v1 v2 v3 u0 y8)

def fX12_row_b107 (N : Nat) (c40 : Int32 → Int32 → Int32 → qMem → Option (Int32 × qMem)) (v1 : Int32) (v2 : Int32) (v3 : Int32) (σ : qMem) : Option (Int32 × qMem) :=
  (fX12_row_b108 N c40 v1 v2 v3 0 σ)
set_option maxRecDepth 20000 in
set_option maxHeartbeats 4000000 in
theorem aX12_row_b107 (N : Nat) (c40 : Int32 → Int32 → Int32 → qMem → Option (Int32 × qMem)) (hc40 : ∀ (v1 : Int32) (v2 : Int32) (v3 : Int32) (σ : qMem), qAt wM mX12_row (ρi) 40 [(0, .ref 0), (1, .int v1), (2, .int v2), (3, .int v3)] [] σ (c40 v1 v2 v3 σ)) (v1 : Int32) (v2 : Int32) (v3 : Int32) (σ : qMem) : qAt wM mX12_row (ρi) 107 [(0, .ref 0), (1, .int v1), (2, .int v2), (3, .int v3)] [] σ (fX12_row_b107 N c40 v1 v2 v3 σ) := by
  unfold fX12_row_b107
  refine q_iconst (v := 0) dX12_row_107 (by decide) ?_
  exact q_sub [0, 1, 2, 3] rfl (aX12_row_b108 N c40 hc40 v1 v2 v3 0 σ)

def fX12_row_s40 (N : Nat) (c40 : Int32 → Int32 → Int32 → qMem → Option (Int32 × qMem)) (v1 : Int32) (v2 : Int32) (v3 : Int32) (σ : qMem) : Option (Int32 × qMem) :=
  (if v1 < (v3 + 3) then ((fX12_good v2 σ).bind fun y4 => (some (y4.1, y4.2))) else (if ck v3 400 = true then ((fX12_isBoat (gi σ 18 v3.toNatClampNeg)).bind fun y5 => (if y5 = 0 then (fX12_row_b107 N c40 v1 v2 v3 σ) else (if ck (v3 + 1) 400 = true then ((fX12_isBell (gi σ 18 (v3 + 1).toNatClampNeg)).bind fun y6 => (if y6 = 0 then (fX12_row_b107 N c40 v1 v2 v3 σ) else (if ck (v3 + 2) 400 = true then ((fX12_in (gi σ 18 (v3 + 2).toNatClampNeg) 0 79).bind fun y7 => (if y7 = 0 then (fX12_row_b107 N c40 v1 v2 v3 σ) else (if ck 300 1112 = true then (if 24 ≤ (gi σ 2 (300 : Int32).toNatClampNeg) then (fX12_row_b107 N c40 v1 v2 v3 σ) else (fX12_row_b108 N c40 v1 v2 v3 1 σ)) else none))) else none))) else none))) else none))
set_option maxRecDepth 20000 in
set_option maxHeartbeats 4000000 in
theorem aX12_row_s40 (N : Nat) (c40 : Int32 → Int32 → Int32 → qMem → Option (Int32 × qMem)) (hc40 : ∀ (v1 : Int32) (v2 : Int32) (v3 : Int32) (σ : qMem), qAt wM mX12_row (ρi) 40 [(0, .ref 0), (1, .int v1), (2, .int v2), (3, .int v3)] [] σ (c40 v1 v2 v3 σ)) (v1 : Int32) (v2 : Int32) (v3 : Int32) (σ : qMem) : qAt wM mX12_row (ρi) 40 [(0, .ref 0), (1, .int v1), (2, .int v2), (3, .int v3)] [] σ (fX12_row_s40 N c40 v1 v2 v3 σ) := by
  unfold fX12_row_s40
  refine q_iload_n (i := 3) (x := v3) dX12_row_40 rfl 3 rfl ?_
  refine q_iconst (v := 3) dX12_row_41 (by decide) ?_
  refine q_iadd dX12_row_42 ?_
  refine q_iload_n (i := 1) (x := v1) dX12_row_43 rfl 1 rfl ?_
  refine q_icmp_gt (tgt := 179) dX12_row_44 (by decide) ?_ ?_
  · refine q_aload_n (i := 0) (x := 0) dX12_row_179 rfl 0 rfl ?_
    refine q_iload_n (i := 2) (x := v2) dX12_row_180 rfl 2 rfl ?_
    refine q_cVi mX12_good [.int v2] (st := []) dX12_row_181 (svX12_118) ⟨Nat.le_of_ble_eq_true rfl, Nat.le_of_ble_eq_true rfl⟩ zM_0 rfl rfl rfl (Nat.le_of_ble_eq_true rfl) (kX12_good v2 σ) (fun y4 => ?_)
    exact q_ireti (y := (y4.1, y4.2)) dX12_row_184 rfl rfl
  refine q_aload_n (i := 0) (x := 0) dX12_row_47 rfl 0 rfl ?_
  refine q_getr (t := 18) dX12_row_48 foX12_80 zM_0 rfl ?_
  refine q_iload_n (i := 3) (x := v3) dX12_row_51 rfl 3 rfl ?_
  refine q_bald dX12_row_52 zM_18 ?_
  refine q_cSp mX12_isBoat [.int (gi σ 18 v3.toNatClampNeg)] (st := []) dX12_row_53 (ssX12_129) ⟨Nat.le_of_ble_eq_true rfl, Nat.le_of_ble_eq_true rfl⟩ rfl rfl (Nat.le_of_ble_eq_true rfl) (kX12_isBoat (gi σ 18 v3.toNatClampNeg) σ) (fun y5 => ?_)
  refine q_if_eq (tgt := 107) dX12_row_56 (by decide) ?_ ?_
  · exact q_sub [0, 1, 2, 3] rfl (aX12_row_b107 N c40 hc40 v1 v2 v3 σ)
  refine q_aload_n (i := 0) (x := 0) dX12_row_59 rfl 0 rfl ?_
  refine q_getr (t := 18) dX12_row_60 foX12_80 zM_0 rfl ?_
  refine q_iload_n (i := 3) (x := v3) dX12_row_63 rfl 3 rfl ?_
  refine q_iconst (v := 1) dX12_row_64 (by decide) ?_
  refine q_iadd dX12_row_65 ?_
  refine q_bald dX12_row_66 zM_18 ?_
  refine q_cSp mX12_isBell [.int (gi σ 18 (v3 + 1).toNatClampNeg)] (st := []) dX12_row_67 (ssX12_132) ⟨Nat.le_of_ble_eq_true rfl, Nat.le_of_ble_eq_true rfl⟩ rfl rfl (Nat.le_of_ble_eq_true rfl) (kX12_isBell (gi σ 18 (v3 + 1).toNatClampNeg) σ) (fun y6 => ?_)
  refine q_if_eq (tgt := 107) dX12_row_70 (by decide) ?_ ?_
  · exact q_sub [0, 1, 2, 3] rfl (aX12_row_b107 N c40 hc40 v1 v2 v3 σ)
  refine q_aload_n (i := 0) (x := 0) dX12_row_73 rfl 0 rfl ?_
  refine q_getr (t := 18) dX12_row_74 foX12_80 zM_0 rfl ?_
  refine q_iload_n (i := 3) (x := v3) dX12_row_77 rfl 3 rfl ?_
  refine q_iconst (v := 2) dX12_row_78 (by decide) ?_
  refine q_iadd dX12_row_79 ?_
  refine q_bald dX12_row_80 zM_18 ?_
  refine q_iconst (v := 0) dX12_row_81 (by decide) ?_
  refine q_bipush (v := 79) dX12_row_82 (by decide) ?_
  refine q_cSp mX12_in [.int (gi σ 18 (v3 + 2).toNatClampNeg), .int 0, .int 79] (st := []) dX12_row_84 (ssX12_110) ⟨Nat.le_of_ble_eq_true rfl, Nat.le_of_ble_eq_true rfl⟩ rfl rfl (Nat.le_of_ble_eq_true rfl) (kX12_in (gi σ 18 (v3 + 2).toNatClampNeg) 0 79 σ) (fun y7 => ?_)
  refine q_if_eq (tgt := 107) dX12_row_87 (by decide) ?_ ?_
  · exact q_sub [0, 1, 2, 3] rfl (aX12_row_b107 N c40 hc40 v1 v2 v3 σ)
  refine q_aload_n (i := 0) (x := 0) dX12_row_90 rfl 0 rfl ?_
  refine q_getr (t := 2) dX12_row_91 foX12_20 zM_0 rfl ?_
  refine q_sipush (v := 300) dX12_row_94 (by decide) ?_
  refine q_iald dX12_row_97 zM_2 ?_
  refine q_bipush (v := 24) dX12_row_98 (by decide) ?_
  refine q_icmp_ge (tgt := 107) dX12_row_100 (by decide) ?_ ?_
  · exact q_sub [0, 1, 2, 3] rfl (aX12_row_b107 N c40 hc40 v1 v2 v3 σ)
  refine q_iconst (v := 1) dX12_row_103 (by decide) ?_
  refine q_goto (tgt := 108) dX12_row_104 (by decide) ?_
  exact q_sub [0, 1, 2, 3] rfl (aX12_row_b108 N c40 hc40 v1 v2 v3 1 σ)
def fX12_row_l40 (N : Nat) : Nat → Int32 → Int32 → Int32 → qMem → Option (Int32 × qMem)
  | 0 => fun _ _ _ _ => none
  | n + 1 => fun v1 v2 v3 σ => fX12_row_s40 N (fX12_row_l40 N n) v1 v2 v3 σ
theorem aX12_row_l40 (N : Nat) : ∀ (n : Nat) (v1 : Int32) (v2 : Int32) (v3 : Int32) (σ : qMem), qAt wM mX12_row (ρi) 40 [(0, .ref 0), (1, .int v1), (2, .int v2), (3, .int v3)] [] σ (fX12_row_l40 N n v1 v2 v3 σ) := by
  intro n
  induction n with
  | zero => intro v1 v2 v3 σ; exact q_none
  | succ n ih => intro v1 v2 v3 σ; exact aX12_row_s40 N (fX12_row_l40 N n) ih v1 v2 v3 σ

def fX12_row_b35 (N : Nat) (v1 : Int32) (v2 : Int32) (u1 : Int32) (σ : qMem) : Option (Int32 × qMem) :=
  (nmM (si σ 0 8 u1) fun s3 => (fX12_row_l40 N N v1 v2 0 s3))
set_option maxRecDepth 20000 in
set_option maxHeartbeats 4000000 in
theorem aX12_row_b35 (N : Nat) (v1 : Int32) (v2 : Int32) (u1 : Int32) (σ : qMem) : qAt wM mX12_row (ρi) 35 [(0, .ref 0), (1, .int v1), (2, .int v2)] [.int u1, .ref 0] σ (fX12_row_b35 N v1 v2 u1 σ) := by
  unfold fX12_row_b35
  refine q_puti dX12_row_35 foX12_205 fwX12_8 zM_0 rfl ?_
  refine q_nmM (fun s3 => ?_)
  refine q_iconst (v := 0) dX12_row_38 (by decide) ?_
  refine q_istore_n (i := 3) (L' := [(3, .int 0), (0, .ref 0), (1, .int v1), (2, .int v2)]) dX12_row_39 rfl (Nat.le_of_ble_eq_true rfl) rfl ?_
  exact q_sub [1, 2, 3, 0] rfl (aX12_row_l40 N N v1 v2 0 s3)

def fX12_row (N : Nat)  (σ : qMem) : Option (Int32 × qMem) :=
  (nmM (si σ 0 28 0) fun s1 => (if (gi σ 0 28) = 0 then ((fX12_refuses (-6) s1).bind fun y2 => (some (y2.1, y2.2))) else (if (irm (gi σ 0 28) 3) = 0 then (fX12_row_b35 N (gi σ 0 28) 0 0 s1) else (fX12_row_b35 N (gi σ 0 28) 0 1 s1))))
set_option maxRecDepth 20000 in
set_option maxHeartbeats 4000000 in
theorem aX12_row  (N : Nat)   (σ : qMem) : qAt wM mX12_row (ρi) 0 [(0, .ref 0)] [] σ (fX12_row N σ) := by
  unfold fX12_row
  refine q_aload_n (i := 0) (x := 0) dX12_row_0 rfl 0 rfl ?_
  refine q_geti dX12_row_1 foX12_202 zM_0 rfl ?_
  refine q_istore_n (i := 1) (L' := [(1, .int (gi σ 0 28)), (0, .ref 0)]) dX12_row_4 rfl (Nat.le_of_ble_eq_true rfl) rfl ?_
  refine q_aload_n (i := 0) (x := 0) dX12_row_5 rfl 1 rfl ?_
  refine q_iconst (v := 0) dX12_row_6 (by decide) ?_
  refine q_puti dX12_row_7 foX12_202 fwX12_28 zM_0 rfl ?_
  refine q_nmM (fun s1 => ?_)
  refine q_iload_n (i := 1) (x := (gi σ 0 28)) dX12_row_10 rfl 0 rfl ?_
  refine q_if_ne (tgt := 21) dX12_row_11 (by decide) ?_ ?_
  · refine q_iconst (v := 0) dX12_row_21 (by decide) ?_
    refine q_istore_n (i := 2) (L' := [(2, .int 0), (1, .int (gi σ 0 28)), (0, .ref 0)]) dX12_row_22 rfl (Nat.le_of_ble_eq_true rfl) rfl ?_
    refine q_aload_n (i := 0) (x := 0) dX12_row_23 rfl 2 rfl ?_
    refine q_iload_n (i := 1) (x := (gi σ 0 28)) dX12_row_24 rfl 1 rfl ?_
    refine q_iconst (v := 3) dX12_row_25 (by decide) ?_
    refine q_irem dX12_row_26 (by decide) ?_
    refine q_if_ne (tgt := 34) dX12_row_27 (by decide) ?_ ?_
    · refine q_iconst (v := 1) dX12_row_34 (by decide) ?_
      exact q_sub [2, 1, 0] rfl (aX12_row_b35 N (gi σ 0 28) 0 1 s1)
    refine q_iconst (v := 0) dX12_row_30 (by decide) ?_
    refine q_goto (tgt := 35) dX12_row_31 (by decide) ?_
    exact q_sub [2, 1, 0] rfl (aX12_row_b35 N (gi σ 0 28) 0 0 s1)
  refine q_aload_n (i := 0) (x := 0) dX12_row_14 rfl 1 rfl ?_
  refine q_bipush (v := (-6)) dX12_row_15 (by decide) ?_
  refine q_cVi mX12_refuses [.int (-6)] (st := []) dX12_row_17 (svX12_114) ⟨Nat.le_of_ble_eq_true rfl, Nat.le_of_ble_eq_true rfl⟩ zM_0 rfl rfl rfl (Nat.le_of_ble_eq_true rfl) (kX12_refuses (-6) s1) (fun y2 => ?_)
  exact q_ireti (y := (y2.1, y2.2)) dX12_row_20 rfl rfl
theorem kX12_row  (N : Nat)   (σ : qMem) : qMc wM mX12_row (ρi) [.ref 0] σ (fX12_row N σ) := qMc_of (moX12_row) (Nat.le_of_ble_eq_true rfl) (aX12_row N  σ)

