theorem dX12_torn_0 : decode cX12_torn 0 = .ok (.aload_n 0, 1) := by decide +kernel
theorem dX12_torn_1 : decode cX12_torn 1 = .ok (.getfield 205, 3) := by decide +kernel
theorem dX12_torn_4 : decode cX12_torn 4 = .ok (.ireturn, 1) := by decide +kernel

def fX12_torn  (σ : qMem) : Option Int32 :=
  (some (gi σ 0 8))
set_option maxRecDepth 20000 in
set_option maxHeartbeats 4000000 in
theorem aX12_torn    (σ : qMem) : qAt wM mX12_torn (ρp σ) 0 [(0, .ref 0)] [] σ (fX12_torn σ) := by
  unfold fX12_torn
  refine q_aload_n (i := 0) (x := 0) dX12_torn_0 rfl 0 rfl ?_
  refine q_geti dX12_torn_1 foX12_205 zM_0 rfl ?_
  exact q_ireti (y := (gi σ 0 8)) dX12_torn_4 rfl rfl
theorem kX12_torn    (σ : qMem) : qMc wM mX12_torn (ρp σ) [.ref 0] σ (fX12_torn σ) := qMc_of (moX12_torn) (Nat.le_of_ble_eq_true rfl) (aX12_torn  σ)

theorem dX12_laysNew_0 : decode cX12_laysNew 0 = .ok (.aload_n 0, 1) := by decide +kernel
theorem dX12_laysNew_1 : decode cX12_laysNew 1 = .ok (.getfield 36, 3) := by decide +kernel
theorem dX12_laysNew_4 : decode cX12_laysNew 4 = .ok (.iconst 4, 1) := by decide +kernel
theorem dX12_laysNew_5 : decode cX12_laysNew 5 = .ok (.aload_n 0, 1) := by decide +kernel
theorem dX12_laysNew_6 : decode cX12_laysNew 6 = .ok (.getfield 208, 3) := by decide +kernel
theorem dX12_laysNew_9 : decode cX12_laysNew 9 = .ok (.imul, 1) := by decide +kernel
theorem dX12_laysNew_10 : decode cX12_laysNew 10 = .ok (.iload_n 1, 1) := by decide +kernel
theorem dX12_laysNew_11 : decode cX12_laysNew 11 = .ok (.iastore, 1) := by decide +kernel
theorem dX12_laysNew_12 : decode cX12_laysNew 12 = .ok (.aload_n 0, 1) := by decide +kernel
theorem dX12_laysNew_13 : decode cX12_laysNew 13 = .ok (.getfield 36, 3) := by decide +kernel
theorem dX12_laysNew_16 : decode cX12_laysNew 16 = .ok (.iconst 4, 1) := by decide +kernel
theorem dX12_laysNew_17 : decode cX12_laysNew 17 = .ok (.aload_n 0, 1) := by decide +kernel
theorem dX12_laysNew_18 : decode cX12_laysNew 18 = .ok (.getfield 208, 3) := by decide +kernel
theorem dX12_laysNew_21 : decode cX12_laysNew 21 = .ok (.imul, 1) := by decide +kernel
theorem dX12_laysNew_22 : decode cX12_laysNew 22 = .ok (.iconst 1, 1) := by decide +kernel
theorem dX12_laysNew_23 : decode cX12_laysNew 23 = .ok (.iadd, 1) := by decide +kernel
theorem dX12_laysNew_24 : decode cX12_laysNew 24 = .ok (.iload_n 2, 1) := by decide +kernel
theorem dX12_laysNew_25 : decode cX12_laysNew 25 = .ok (.iastore, 1) := by decide +kernel
theorem dX12_laysNew_26 : decode cX12_laysNew 26 = .ok (.aload_n 0, 1) := by decide +kernel
theorem dX12_laysNew_27 : decode cX12_laysNew 27 = .ok (.getfield 36, 3) := by decide +kernel
theorem dX12_laysNew_30 : decode cX12_laysNew 30 = .ok (.iconst 4, 1) := by decide +kernel
theorem dX12_laysNew_31 : decode cX12_laysNew 31 = .ok (.aload_n 0, 1) := by decide +kernel
theorem dX12_laysNew_32 : decode cX12_laysNew 32 = .ok (.getfield 208, 3) := by decide +kernel
theorem dX12_laysNew_35 : decode cX12_laysNew 35 = .ok (.imul, 1) := by decide +kernel
theorem dX12_laysNew_36 : decode cX12_laysNew 36 = .ok (.iconst 2, 1) := by decide +kernel
theorem dX12_laysNew_37 : decode cX12_laysNew 37 = .ok (.iadd, 1) := by decide +kernel
theorem dX12_laysNew_38 : decode cX12_laysNew 38 = .ok (.iload_n 3, 1) := by decide +kernel
theorem dX12_laysNew_39 : decode cX12_laysNew 39 = .ok (.iastore, 1) := by decide +kernel
theorem dX12_laysNew_40 : decode cX12_laysNew 40 = .ok (.aload_n 0, 1) := by decide +kernel
theorem dX12_laysNew_41 : decode cX12_laysNew 41 = .ok (.getfield 36, 3) := by decide +kernel
theorem dX12_laysNew_44 : decode cX12_laysNew 44 = .ok (.iconst 4, 1) := by decide +kernel
theorem dX12_laysNew_45 : decode cX12_laysNew 45 = .ok (.aload_n 0, 1) := by decide +kernel
theorem dX12_laysNew_46 : decode cX12_laysNew 46 = .ok (.getfield 208, 3) := by decide +kernel
theorem dX12_laysNew_49 : decode cX12_laysNew 49 = .ok (.imul, 1) := by decide +kernel
theorem dX12_laysNew_50 : decode cX12_laysNew 50 = .ok (.iconst 3, 1) := by decide +kernel
theorem dX12_laysNew_51 : decode cX12_laysNew 51 = .ok (.iadd, 1) := by decide +kernel
theorem dX12_laysNew_52 : decode cX12_laysNew 52 = .ok (.iload 4, 2) := by decide +kernel
theorem dX12_laysNew_54 : decode cX12_laysNew 54 = .ok (.iastore, 1) := by decide +kernel
theorem dX12_laysNew_55 : decode cX12_laysNew 55 = .ok (.aload_n 0, 1) := by decide +kernel
theorem dX12_laysNew_56 : decode cX12_laysNew 56 = .ok (.dup, 1) := by decide +kernel
theorem dX12_laysNew_57 : decode cX12_laysNew 57 = .ok (.getfield 208, 3) := by decide +kernel
theorem dX12_laysNew_60 : decode cX12_laysNew 60 = .ok (.iconst 1, 1) := by decide +kernel
theorem dX12_laysNew_61 : decode cX12_laysNew 61 = .ok (.iadd, 1) := by decide +kernel
theorem dX12_laysNew_62 : decode cX12_laysNew 62 = .ok (.putfield 208, 3) := by decide +kernel
theorem dX12_laysNew_65 : decode cX12_laysNew 65 = .ok (.return_, 1) := by decide +kernel

def fX12_laysNew (p1 : Int32) (p2 : Int32) (p3 : Int32) (p4 : Int32) (σ : qMem) : Option qMem :=
  (if ck (4 * (gi σ 0 10)) 144 = true then (nmM (si σ 6 (4 * (gi σ 0 10)).toNatClampNeg p1) fun s1 => (if ck ((4 * (gi s1 0 10)) + 1) 144 = true then (nmM (si s1 6 ((4 * (gi s1 0 10)) + 1).toNatClampNeg p2) fun s2 => (if ck ((4 * (gi s2 0 10)) + 2) 144 = true then (nmM (si s2 6 ((4 * (gi s2 0 10)) + 2).toNatClampNeg p3) fun s3 => (if ck ((4 * (gi s3 0 10)) + 3) 144 = true then (nmM (si s3 6 ((4 * (gi s3 0 10)) + 3).toNatClampNeg p4) fun s4 => (nmM (si s4 0 10 ((gi s4 0 10) + 1)) fun s5 => (some s5))) else none)) else none)) else none)) else none)
set_option maxRecDepth 20000 in
set_option maxHeartbeats 4000000 in
theorem aX12_laysNew  (p1 : Int32) (p2 : Int32) (p3 : Int32) (p4 : Int32)  (σ : qMem) : qAt wM mX12_laysNew (ρv) 0 [(0, .ref 0), (1, .int p1), (2, .int p2), (3, .int p3), (4, .int p4)] [] σ (fX12_laysNew p1 p2 p3 p4 σ) := by
  unfold fX12_laysNew
  refine q_aload_n (i := 0) (x := 0) dX12_laysNew_0 rfl 0 rfl ?_
  refine q_getr (t := 6) dX12_laysNew_1 foX12_36 zM_0 rfl ?_
  refine q_iconst (v := 4) dX12_laysNew_4 (by decide) ?_
  refine q_aload_n (i := 0) (x := 0) dX12_laysNew_5 rfl 0 rfl ?_
  refine q_geti dX12_laysNew_6 foX12_208 zM_0 rfl ?_
  refine q_imul dX12_laysNew_9 ?_
  refine q_iload_n (i := 1) (x := p1) dX12_laysNew_10 rfl 1 rfl ?_
  refine q_iast dX12_laysNew_11 zM_6 ?_
  refine q_nmM (fun s1 => ?_)
  refine q_aload_n (i := 0) (x := 0) dX12_laysNew_12 rfl 0 rfl ?_
  refine q_getr (t := 6) dX12_laysNew_13 foX12_36 zM_0 rfl ?_
  refine q_iconst (v := 4) dX12_laysNew_16 (by decide) ?_
  refine q_aload_n (i := 0) (x := 0) dX12_laysNew_17 rfl 0 rfl ?_
  refine q_geti dX12_laysNew_18 foX12_208 zM_0 rfl ?_
  refine q_imul dX12_laysNew_21 ?_
  refine q_iconst (v := 1) dX12_laysNew_22 (by decide) ?_
  refine q_iadd dX12_laysNew_23 ?_
  refine q_iload_n (i := 2) (x := p2) dX12_laysNew_24 rfl 2 rfl ?_
  refine q_iast dX12_laysNew_25 zM_6 ?_
  refine q_nmM (fun s2 => ?_)
  refine q_aload_n (i := 0) (x := 0) dX12_laysNew_26 rfl 0 rfl ?_
  refine q_getr (t := 6) dX12_laysNew_27 foX12_36 zM_0 rfl ?_
  refine q_iconst (v := 4) dX12_laysNew_30 (by decide) ?_
  refine q_aload_n (i := 0) (x := 0) dX12_laysNew_31 rfl 0 rfl ?_
  refine q_geti dX12_laysNew_32 foX12_208 zM_0 rfl ?_
  refine q_imul dX12_laysNew_35 ?_
  refine q_iconst (v := 2) dX12_laysNew_36 (by decide) ?_
  refine q_iadd dX12_laysNew_37 ?_
  refine q_iload_n (i := 3) (x := p3) dX12_laysNew_38 rfl 3 rfl ?_
  refine q_iast dX12_laysNew_39 zM_6 ?_
  refine q_nmM (fun s3 => ?_)
  refine q_aload_n (i := 0) (x := 0) dX12_laysNew_40 rfl 0 rfl ?_
  refine q_getr (t := 6) dX12_laysNew_41 foX12_36 zM_0 rfl ?_
  refine q_iconst (v := 4) dX12_laysNew_44 (by decide) ?_
  refine q_aload_n (i := 0) (x := 0) dX12_laysNew_45 rfl 0 rfl ?_
  refine q_geti dX12_laysNew_46 foX12_208 zM_0 rfl ?_
  refine q_imul dX12_laysNew_49 ?_
  refine q_iconst (v := 3) dX12_laysNew_50 (by decide) ?_
  refine q_iadd dX12_laysNew_51 ?_
  refine q_iload (i := 4) (x := p4) dX12_laysNew_52 4 rfl ?_
  refine q_iast dX12_laysNew_54 zM_6 ?_
  refine q_nmM (fun s4 => ?_)
  refine q_aload_n (i := 0) (x := 0) dX12_laysNew_55 rfl 0 rfl ?_
  refine q_dup dX12_laysNew_56 rfl ?_
  refine q_geti dX12_laysNew_57 foX12_208 zM_0 rfl ?_
  refine q_iconst (v := 1) dX12_laysNew_60 (by decide) ?_
  refine q_iadd dX12_laysNew_61 ?_
  refine q_puti dX12_laysNew_62 foX12_208 fwX12_10 zM_0 rfl ?_
  refine q_nmM (fun s5 => ?_)
  exact q_vret (y := s5) dX12_laysNew_65 rfl rfl
theorem kX12_laysNew  (p1 : Int32) (p2 : Int32) (p3 : Int32) (p4 : Int32)  (σ : qMem) : qMc wM mX12_laysNew (ρv) [.ref 0, .int p1, .int p2, .int p3, .int p4] σ (fX12_laysNew p1 p2 p3 p4 σ) := qMc_of (moX12_laysNew) (Nat.le_of_ble_eq_true rfl) (aX12_laysNew p1 p2 p3 p4  σ)

theorem dX12_laysNews_0 : decode cX12_laysNews 0 = .ok (.aload_n 0, 1) := by decide +kernel
theorem dX12_laysNews_1 : decode cX12_laysNews 1 = .ok (.iconst 0, 1) := by decide +kernel
theorem dX12_laysNews_2 : decode cX12_laysNews 2 = .ok (.putfield 208, 3) := by decide +kernel
theorem dX12_laysNews_5 : decode cX12_laysNews 5 = .ok (.iconst 0, 1) := by decide +kernel
theorem dX12_laysNews_6 : decode cX12_laysNews 6 = .ok (.istore_n 1, 1) := by decide +kernel
theorem dX12_laysNews_7 : decode cX12_laysNews 7 = .ok (.iload_n 1, 1) := by decide +kernel
theorem dX12_laysNews_8 : decode cX12_laysNews 8 = .ok (.aload_n 0, 1) := by decide +kernel
theorem dX12_laysNews_9 : decode cX12_laysNews 9 = .ok (.getfield 20, 3) := by decide +kernel
theorem dX12_laysNews_12 : decode cX12_laysNews 12 = .ok (.sipush 300, 3) := by decide +kernel
theorem dX12_laysNews_15 : decode cX12_laysNews 15 = .ok (.iaload, 1) := by decide +kernel
theorem dX12_laysNews_16 : decode cX12_laysNews 16 = .ok (.if_icmp .ge 35, 3) := by decide +kernel
theorem dX12_laysNews_19 : decode cX12_laysNews 19 = .ok (.aload_n 0, 1) := by decide +kernel
theorem dX12_laysNews_20 : decode cX12_laysNews 20 = .ok (.iload_n 1, 1) := by decide +kernel
theorem dX12_laysNews_21 : decode cX12_laysNews 21 = .ok (.invokevirtual 196, 3) := by decide +kernel
theorem dX12_laysNews_24 : decode cX12_laysNews 24 = .ok (.ifCond .ne 21, 3) := by decide +kernel
theorem dX12_laysNews_27 : decode cX12_laysNews 27 = .ok (.aload_n 0, 1) := by decide +kernel
theorem dX12_laysNews_28 : decode cX12_laysNews 28 = .ok (.aload_n 0, 1) := by decide +kernel
theorem dX12_laysNews_29 : decode cX12_laysNews 29 = .ok (.iload_n 1, 1) := by decide +kernel
theorem dX12_laysNews_30 : decode cX12_laysNews 30 = .ok (.iconst 0, 1) := by decide +kernel
theorem dX12_laysNews_31 : decode cX12_laysNews 31 = .ok (.invokevirtual 173, 3) := by decide +kernel
theorem dX12_laysNews_34 : decode cX12_laysNews 34 = .ok (.aload_n 0, 1) := by decide +kernel
theorem dX12_laysNews_35 : decode cX12_laysNews 35 = .ok (.iload_n 1, 1) := by decide +kernel
theorem dX12_laysNews_36 : decode cX12_laysNews 36 = .ok (.iconst 1, 1) := by decide +kernel
theorem dX12_laysNews_37 : decode cX12_laysNews 37 = .ok (.invokevirtual 173, 3) := by decide +kernel
theorem dX12_laysNews_40 : decode cX12_laysNews 40 = .ok (.iconst 0, 1) := by decide +kernel
theorem dX12_laysNews_41 : decode cX12_laysNews 41 = .ok (.iload_n 1, 1) := by decide +kernel
theorem dX12_laysNews_42 : decode cX12_laysNews 42 = .ok (.invokevirtual 211, 3) := by decide +kernel
theorem dX12_laysNews_45 : decode cX12_laysNews 45 = .ok (.iinc 1 1, 3) := by decide +kernel
theorem dX12_laysNews_48 : decode cX12_laysNews 48 = .ok (.goto (-41), 3) := by decide +kernel
theorem dX12_laysNews_51 : decode cX12_laysNews 51 = .ok (.iconst 0, 1) := by decide +kernel
theorem dX12_laysNews_52 : decode cX12_laysNews 52 = .ok (.istore_n 1, 1) := by decide +kernel
theorem dX12_laysNews_53 : decode cX12_laysNews 53 = .ok (.iload_n 1, 1) := by decide +kernel
theorem dX12_laysNews_54 : decode cX12_laysNews 54 = .ok (.aload_n 0, 1) := by decide +kernel
theorem dX12_laysNews_55 : decode cX12_laysNews 55 = .ok (.getfield 20, 3) := by decide +kernel
theorem dX12_laysNews_58 : decode cX12_laysNews 58 = .ok (.sipush 301, 3) := by decide +kernel
theorem dX12_laysNews_61 : decode cX12_laysNews 61 = .ok (.iaload, 1) := by decide +kernel
theorem dX12_laysNews_62 : decode cX12_laysNews 62 = .ok (.if_icmp .ge 35, 3) := by decide +kernel
theorem dX12_laysNews_65 : decode cX12_laysNews 65 = .ok (.aload_n 0, 1) := by decide +kernel
theorem dX12_laysNews_66 : decode cX12_laysNews 66 = .ok (.iload_n 1, 1) := by decide +kernel
theorem dX12_laysNews_67 : decode cX12_laysNews 67 = .ok (.invokevirtual 199, 3) := by decide +kernel
theorem dX12_laysNews_70 : decode cX12_laysNews 70 = .ok (.ifCond .ne 21, 3) := by decide +kernel
theorem dX12_laysNews_73 : decode cX12_laysNews 73 = .ok (.aload_n 0, 1) := by decide +kernel
theorem dX12_laysNews_74 : decode cX12_laysNews 74 = .ok (.aload_n 0, 1) := by decide +kernel
theorem dX12_laysNews_75 : decode cX12_laysNews 75 = .ok (.iload_n 1, 1) := by decide +kernel
theorem dX12_laysNews_76 : decode cX12_laysNews 76 = .ok (.iconst 0, 1) := by decide +kernel
theorem dX12_laysNews_77 : decode cX12_laysNews 77 = .ok (.invokevirtual 179, 3) := by decide +kernel
theorem dX12_laysNews_80 : decode cX12_laysNews 80 = .ok (.aload_n 0, 1) := by decide +kernel
theorem dX12_laysNews_81 : decode cX12_laysNews 81 = .ok (.iload_n 1, 1) := by decide +kernel
theorem dX12_laysNews_82 : decode cX12_laysNews 82 = .ok (.iconst 1, 1) := by decide +kernel
theorem dX12_laysNews_83 : decode cX12_laysNews 83 = .ok (.invokevirtual 179, 3) := by decide +kernel
theorem dX12_laysNews_86 : decode cX12_laysNews 86 = .ok (.iconst 1, 1) := by decide +kernel
theorem dX12_laysNews_87 : decode cX12_laysNews 87 = .ok (.iload_n 1, 1) := by decide +kernel
theorem dX12_laysNews_88 : decode cX12_laysNews 88 = .ok (.invokevirtual 211, 3) := by decide +kernel
theorem dX12_laysNews_91 : decode cX12_laysNews 91 = .ok (.iinc 1 1, 3) := by decide +kernel
theorem dX12_laysNews_94 : decode cX12_laysNews 94 = .ok (.goto (-41), 3) := by decide +kernel
theorem dX12_laysNews_97 : decode cX12_laysNews 97 = .ok (.return_, 1) := by decide +kernel
def fX12_laysNews_b91 (N : Nat) (c53 : Int32 → qMem → Option qMem) (v1 : Int32) (σ : qMem) : Option qMem :=
  (c53 (v1 + 1) σ)
set_option maxRecDepth 20000 in
set_option maxHeartbeats 4000000 in
theorem aX12_laysNews_b91 (N : Nat) (c53 : Int32 → qMem → Option qMem) (hc53 : ∀ (v1 : Int32) (σ : qMem), qAt wM mX12_laysNews (ρv) 53 [(0, .ref 0), (1, .int v1)] [] σ (c53 v1 σ)) (v1 : Int32) (σ : qMem) : qAt wM mX12_laysNews (ρv) 91 [(0, .ref 0), (1, .int v1)] [] σ (fX12_laysNews_b91 N c53 v1 σ) := by
  unfold fX12_laysNews_b91
  refine q_iinc (i := 1) (x := v1) (v := (v1 + 1)) (L' := [(1, .int (v1 + 1)), (0, .ref 0)]) dX12_laysNews_91 1 rfl (q_cst v1 (by decide)) (Nat.le_of_ble_eq_true rfl) rfl ?_
  refine q_goto (tgt := 53) dX12_laysNews_94 (by decide) ?_
  exact q_sub [1, 0] rfl (hc53 (v1 + 1) σ)

def fX12_laysNews_s53 (N : Nat) (c53 : Int32 → qMem → Option qMem) (v1 : Int32) (σ : qMem) : Option qMem :=
  (if ck 301 1112 = true then (if (gi σ 2 (301 : Int32).toNatClampNeg) ≤ v1 then (some σ) else ((fX12_isKnownEcho N v1 σ).bind fun y6 => (if y6 = 0 then ((fX12_echoOf v1 0 σ).bind fun y7 => ((fX12_echoOf v1 1 σ).bind fun y8 => ((fX12_laysNew y7 y8 1 v1 σ).bind fun y9 => (fX12_laysNews_b91 N c53 v1 y9)))) else (fX12_laysNews_b91 N c53 v1 σ)))) else none)
set_option maxRecDepth 20000 in
set_option maxHeartbeats 4000000 in
theorem aX12_laysNews_s53 (N : Nat) (c53 : Int32 → qMem → Option qMem) (hc53 : ∀ (v1 : Int32) (σ : qMem), qAt wM mX12_laysNews (ρv) 53 [(0, .ref 0), (1, .int v1)] [] σ (c53 v1 σ)) (v1 : Int32) (σ : qMem) : qAt wM mX12_laysNews (ρv) 53 [(0, .ref 0), (1, .int v1)] [] σ (fX12_laysNews_s53 N c53 v1 σ) := by
  unfold fX12_laysNews_s53
  refine q_iload_n (i := 1) (x := v1) dX12_laysNews_53 rfl 1 rfl ?_
  refine q_aload_n (i := 0) (x := 0) dX12_laysNews_54 rfl 0 rfl ?_
  refine q_getr (t := 2) dX12_laysNews_55 foX12_20 zM_0 rfl ?_
  refine q_sipush (v := 301) dX12_laysNews_58 (by decide) ?_
  refine q_iald dX12_laysNews_61 zM_2 ?_
  refine q_icmp_ge (tgt := 97) dX12_laysNews_62 (by decide) ?_ ?_
  · exact q_vret (y := σ) dX12_laysNews_97 rfl rfl
  refine q_aload_n (i := 0) (x := 0) dX12_laysNews_65 rfl 0 rfl ?_
  refine q_iload_n (i := 1) (x := v1) dX12_laysNews_66 rfl 1 rfl ?_
  refine q_cVp mX12_isKnownEcho [.int v1] (st := []) dX12_laysNews_67 (svX12_199) ⟨Nat.le_of_ble_eq_true rfl, Nat.le_of_ble_eq_true rfl⟩ zM_0 rfl rfl rfl (Nat.le_of_ble_eq_true rfl) (kX12_isKnownEcho N v1 σ) (fun y6 => ?_)
  refine q_if_ne (tgt := 91) dX12_laysNews_70 (by decide) ?_ ?_
  · exact q_sub [0, 1] rfl (aX12_laysNews_b91 N c53 hc53 v1 σ)
  refine q_aload_n (i := 0) (x := 0) dX12_laysNews_73 rfl 0 rfl ?_
  refine q_aload_n (i := 0) (x := 0) dX12_laysNews_74 rfl 0 rfl ?_
  refine q_iload_n (i := 1) (x := v1) dX12_laysNews_75 rfl 1 rfl ?_
  refine q_iconst (v := 0) dX12_laysNews_76 (by decide) ?_
  refine q_cVp mX12_echoOf [.int v1, .int 0] (st := [.ref 0]) dX12_laysNews_77 (svX12_179) ⟨Nat.le_of_ble_eq_true rfl, Nat.le_of_ble_eq_true rfl⟩ zM_0 rfl rfl rfl (Nat.le_of_ble_eq_true rfl) (kX12_echoOf v1 0 σ) (fun y7 => ?_)
  refine q_aload_n (i := 0) (x := 0) dX12_laysNews_80 rfl 0 rfl ?_
  refine q_iload_n (i := 1) (x := v1) dX12_laysNews_81 rfl 1 rfl ?_
  refine q_iconst (v := 1) dX12_laysNews_82 (by decide) ?_
  refine q_cVp mX12_echoOf [.int v1, .int 1] (st := [.int y7, .ref 0]) dX12_laysNews_83 (svX12_179) ⟨Nat.le_of_ble_eq_true rfl, Nat.le_of_ble_eq_true rfl⟩ zM_0 rfl rfl rfl (Nat.le_of_ble_eq_true rfl) (kX12_echoOf v1 1 σ) (fun y8 => ?_)
  refine q_iconst (v := 1) dX12_laysNews_86 (by decide) ?_
  refine q_iload_n (i := 1) (x := v1) dX12_laysNews_87 rfl 1 rfl ?_
  refine q_cVv mX12_laysNew [.int y7, .int y8, .int 1, .int v1] (st := []) dX12_laysNews_88 (svX12_211) ⟨Nat.le_of_ble_eq_true rfl, Nat.le_of_ble_eq_true rfl⟩ zM_0 rfl rfl rfl (Nat.le_of_ble_eq_true rfl) (kX12_laysNew y7 y8 1 v1 σ) (fun y9 => ?_)
  exact q_sub [0, 1] rfl (aX12_laysNews_b91 N c53 hc53 v1 y9)
def fX12_laysNews_l53 (N : Nat) : Nat → Int32 → qMem → Option qMem
  | 0 => fun _ _ => none
  | n + 1 => fun v1 σ => fX12_laysNews_s53 N (fX12_laysNews_l53 N n) v1 σ
theorem aX12_laysNews_l53 (N : Nat) : ∀ (n : Nat) (v1 : Int32) (σ : qMem), qAt wM mX12_laysNews (ρv) 53 [(0, .ref 0), (1, .int v1)] [] σ (fX12_laysNews_l53 N n v1 σ) := by
  intro n
  induction n with
  | zero => intro v1 σ; exact q_none
  | succ n ih => intro v1 σ; exact aX12_laysNews_s53 N (fX12_laysNews_l53 N n) ih v1 σ

def fX12_laysNews_b45 (N : Nat) (c7 : Int32 → qMem → Option qMem) (v1 : Int32) (σ : qMem) : Option qMem :=
  (c7 (v1 + 1) σ)
set_option maxRecDepth 20000 in
set_option maxHeartbeats 4000000 in
theorem aX12_laysNews_b45 (N : Nat) (c7 : Int32 → qMem → Option qMem) (hc7 : ∀ (v1 : Int32) (σ : qMem), qAt wM mX12_laysNews (ρv) 7 [(0, .ref 0), (1, .int v1)] [] σ (c7 v1 σ)) (v1 : Int32) (σ : qMem) : qAt wM mX12_laysNews (ρv) 45 [(0, .ref 0), (1, .int v1)] [] σ (fX12_laysNews_b45 N c7 v1 σ) := by
  unfold fX12_laysNews_b45
  refine q_iinc (i := 1) (x := v1) (v := (v1 + 1)) (L' := [(1, .int (v1 + 1)), (0, .ref 0)]) dX12_laysNews_45 1 rfl (q_cst v1 (by decide)) (Nat.le_of_ble_eq_true rfl) rfl ?_
  refine q_goto (tgt := 7) dX12_laysNews_48 (by decide) ?_
  exact q_sub [1, 0] rfl (hc7 (v1 + 1) σ)

def fX12_laysNews_s7 (N : Nat) (c7 : Int32 → qMem → Option qMem) (v1 : Int32) (σ : qMem) : Option qMem :=
  (if ck 300 1112 = true then (if (gi σ 2 (300 : Int32).toNatClampNeg) ≤ v1 then (fX12_laysNews_l53 N N 0 σ) else ((fX12_isKnownHeard N v1 σ).bind fun y2 => (if y2 = 0 then ((fX12_heardOf v1 0 σ).bind fun y3 => ((fX12_heardOf v1 1 σ).bind fun y4 => ((fX12_laysNew y3 y4 0 v1 σ).bind fun y5 => (fX12_laysNews_b45 N c7 v1 y5)))) else (fX12_laysNews_b45 N c7 v1 σ)))) else none)
set_option maxRecDepth 20000 in
set_option maxHeartbeats 4000000 in
theorem aX12_laysNews_s7 (N : Nat) (c7 : Int32 → qMem → Option qMem) (hc7 : ∀ (v1 : Int32) (σ : qMem), qAt wM mX12_laysNews (ρv) 7 [(0, .ref 0), (1, .int v1)] [] σ (c7 v1 σ)) (v1 : Int32) (σ : qMem) : qAt wM mX12_laysNews (ρv) 7 [(0, .ref 0), (1, .int v1)] [] σ (fX12_laysNews_s7 N c7 v1 σ) := by
  unfold fX12_laysNews_s7
  refine q_iload_n (i := 1) (x := v1) dX12_laysNews_7 rfl 1 rfl ?_
  refine q_aload_n (i := 0) (x := 0) dX12_laysNews_8 rfl 0 rfl ?_
  refine q_getr (t := 2) dX12_laysNews_9 foX12_20 zM_0 rfl ?_
  refine q_sipush (v := 300) dX12_laysNews_12 (by decide) ?_
  refine q_iald dX12_laysNews_15 zM_2 ?_
  refine q_icmp_ge (tgt := 51) dX12_laysNews_16 (by decide) ?_ ?_
  · refine q_iconst (v := 0) dX12_laysNews_51 (by decide) ?_
    refine q_istore_n (i := 1) (L' := [(1, .int 0), (0, .ref 0)]) dX12_laysNews_52 rfl (Nat.le_of_ble_eq_true rfl) rfl ?_
    exact q_sub [1, 0] rfl (aX12_laysNews_l53 N N 0 σ)
  refine q_aload_n (i := 0) (x := 0) dX12_laysNews_19 rfl 0 rfl ?_
  refine q_iload_n (i := 1) (x := v1) dX12_laysNews_20 rfl 1 rfl ?_
  refine q_cVp mX12_isKnownHeard [.int v1] (st := []) dX12_laysNews_21 (svX12_196) ⟨Nat.le_of_ble_eq_true rfl, Nat.le_of_ble_eq_true rfl⟩ zM_0 rfl rfl rfl (Nat.le_of_ble_eq_true rfl) (kX12_isKnownHeard N v1 σ) (fun y2 => ?_)
  refine q_if_ne (tgt := 45) dX12_laysNews_24 (by decide) ?_ ?_
  · exact q_sub [0, 1] rfl (aX12_laysNews_b45 N c7 hc7 v1 σ)
  refine q_aload_n (i := 0) (x := 0) dX12_laysNews_27 rfl 0 rfl ?_
  refine q_aload_n (i := 0) (x := 0) dX12_laysNews_28 rfl 0 rfl ?_
  refine q_iload_n (i := 1) (x := v1) dX12_laysNews_29 rfl 1 rfl ?_
  refine q_iconst (v := 0) dX12_laysNews_30 (by decide) ?_
  refine q_cVp mX12_heardOf [.int v1, .int 0] (st := [.ref 0]) dX12_laysNews_31 (svX12_173) ⟨Nat.le_of_ble_eq_true rfl, Nat.le_of_ble_eq_true rfl⟩ zM_0 rfl rfl rfl (Nat.le_of_ble_eq_true rfl) (kX12_heardOf v1 0 σ) (fun y3 => ?_)
  refine q_aload_n (i := 0) (x := 0) dX12_laysNews_34 rfl 0 rfl ?_
  refine q_iload_n (i := 1) (x := v1) dX12_laysNews_35 rfl 1 rfl ?_
  refine q_iconst (v := 1) dX12_laysNews_36 (by decide) ?_
  refine q_cVp mX12_heardOf [.int v1, .int 1] (st := [.int y3, .ref 0]) dX12_laysNews_37 (svX12_173) ⟨Nat.le_of_ble_eq_true rfl, Nat.le_of_ble_eq_true rfl⟩ zM_0 rfl rfl rfl (Nat.le_of_ble_eq_true rfl) (kX12_heardOf v1 1 σ) (fun y4 => ?_)
  refine q_iconst (v := 0) dX12_laysNews_40 (by decide) ?_
  refine q_iload_n (i := 1) (x := v1) dX12_laysNews_41 rfl 1 rfl ?_
  refine q_cVv mX12_laysNew [.int y3, .int y4, .int 0, .int v1] (st := []) dX12_laysNews_42 (svX12_211) ⟨Nat.le_of_ble_eq_true rfl, Nat.le_of_ble_eq_true rfl⟩ zM_0 rfl rfl rfl (Nat.le_of_ble_eq_true rfl) (kX12_laysNew y3 y4 0 v1 σ) (fun y5 => ?_)
  exact q_sub [0, 1] rfl (aX12_laysNews_b45 N c7 hc7 v1 y5)
def fX12_laysNews_l7 (N : Nat) : Nat → Int32 → qMem → Option qMem
  | 0 => fun _ _ => none
  | n + 1 => fun v1 σ => fX12_laysNews_s7 N (fX12_laysNews_l7 N n) v1 σ
theorem aX12_laysNews_l7 (N : Nat) : ∀ (n : Nat) (v1 : Int32) (σ : qMem), qAt wM mX12_laysNews (ρv) 7 [(0, .ref 0), (1, .int v1)] [] σ (fX12_laysNews_l7 N n v1 σ) := by
  intro n
  induction n with
  | zero => intro v1 σ; exact q_none
  | succ n ih => intro v1 σ; exact aX12_laysNews_s7 N (fX12_laysNews_l7 N n) ih v1 σ

def fX12_laysNews (N : Nat)  (σ : qMem) : Option qMem :=
  (nmM (si σ 0 10 0) fun s1 => (fX12_laysNews_l7 N N 0 s1))
set_option maxRecDepth 20000 in
set_option maxHeartbeats 4000000 in
theorem aX12_laysNews  (N : Nat)   (σ : qMem) : qAt wM mX12_laysNews (ρv) 0 [(0, .ref 0)] [] σ (fX12_laysNews N σ) := by
  unfold fX12_laysNews
  refine q_aload_n (i := 0) (x := 0) dX12_laysNews_0 rfl 0 rfl ?_
  refine q_iconst (v := 0) dX12_laysNews_1 (by decide) ?_
  refine q_puti dX12_laysNews_2 foX12_208 fwX12_10 zM_0 rfl ?_
  refine q_nmM (fun s1 => ?_)
  refine q_iconst (v := 0) dX12_laysNews_5 (by decide) ?_
  refine q_istore_n (i := 1) (L' := [(1, .int 0), (0, .ref 0)]) dX12_laysNews_6 rfl (Nat.le_of_ble_eq_true rfl) rfl ?_
  exact q_sub [1, 0] rfl (aX12_laysNews_l7 N N 0 s1)
theorem kX12_laysNews  (N : Nat)   (σ : qMem) : qMc wM mX12_laysNews (ρv) [.ref 0] σ (fX12_laysNews N σ) := qMc_of (moX12_laysNews) (Nat.le_of_ble_eq_true rfl) (aX12_laysNews N  σ)

theorem dX12_isFit_0 : decode cX12_isFit 0 = .ok (.aload_n 0, 1) := by decide +kernel
theorem dX12_isFit_1 : decode cX12_isFit 1 = .ok (.getfield 36, 3) := by decide +kernel
theorem dX12_isFit_4 : decode cX12_isFit 4 = .ok (.iconst 4, 1) := by decide +kernel
theorem dX12_isFit_5 : decode cX12_isFit 5 = .ok (.iload_n 1, 1) := by decide +kernel
theorem dX12_isFit_6 : decode cX12_isFit 6 = .ok (.imul, 1) := by decide +kernel
theorem dX12_isFit_7 : decode cX12_isFit 7 = .ok (.iaload, 1) := by decide +kernel
theorem dX12_isFit_8 : decode cX12_isFit 8 = .ok (.istore 5, 2) := by decide +kernel
theorem dX12_isFit_10 : decode cX12_isFit 10 = .ok (.iload_n 3, 1) := by decide +kernel
theorem dX12_isFit_11 : decode cX12_isFit 11 = .ok (.aload_n 0, 1) := by decide +kernel
theorem dX12_isFit_12 : decode cX12_isFit 12 = .ok (.iload 5, 2) := by decide +kernel
theorem dX12_isFit_14 : decode cX12_isFit 14 = .ok (.iload_n 2, 1) := by decide +kernel
theorem dX12_isFit_15 : decode cX12_isFit 15 = .ok (.iconst 0, 1) := by decide +kernel
theorem dX12_isFit_16 : decode cX12_isFit 16 = .ok (.invokevirtual 151, 3) := by decide +kernel
theorem dX12_isFit_19 : decode cX12_isFit 19 = .ok (.isub, 1) := by decide +kernel
theorem dX12_isFit_20 : decode cX12_isFit 20 = .ok (.istore 6, 2) := by decide +kernel
theorem dX12_isFit_22 : decode cX12_isFit 22 = .ok (.iload 4, 2) := by decide +kernel
theorem dX12_isFit_24 : decode cX12_isFit 24 = .ok (.aload_n 0, 1) := by decide +kernel
theorem dX12_isFit_25 : decode cX12_isFit 25 = .ok (.iload 5, 2) := by decide +kernel
theorem dX12_isFit_27 : decode cX12_isFit 27 = .ok (.iload_n 2, 1) := by decide +kernel
theorem dX12_isFit_28 : decode cX12_isFit 28 = .ok (.iconst 1, 1) := by decide +kernel
theorem dX12_isFit_29 : decode cX12_isFit 29 = .ok (.invokevirtual 151, 3) := by decide +kernel
theorem dX12_isFit_32 : decode cX12_isFit 32 = .ok (.isub, 1) := by decide +kernel
theorem dX12_isFit_33 : decode cX12_isFit 33 = .ok (.istore 7, 2) := by decide +kernel
theorem dX12_isFit_35 : decode cX12_isFit 35 = .ok (.aload_n 0, 1) := by decide +kernel
theorem dX12_isFit_36 : decode cX12_isFit 36 = .ok (.getfield 36, 3) := by decide +kernel
theorem dX12_isFit_39 : decode cX12_isFit 39 = .ok (.iconst 4, 1) := by decide +kernel
theorem dX12_isFit_40 : decode cX12_isFit 40 = .ok (.iload_n 1, 1) := by decide +kernel
theorem dX12_isFit_41 : decode cX12_isFit 41 = .ok (.imul, 1) := by decide +kernel
theorem dX12_isFit_42 : decode cX12_isFit 42 = .ok (.iconst 2, 1) := by decide +kernel
theorem dX12_isFit_43 : decode cX12_isFit 43 = .ok (.iadd, 1) := by decide +kernel
theorem dX12_isFit_44 : decode cX12_isFit 44 = .ok (.iaload, 1) := by decide +kernel
theorem dX12_isFit_45 : decode cX12_isFit 45 = .ok (.ifCond .ne 24, 3) := by decide +kernel
theorem dX12_isFit_48 : decode cX12_isFit 48 = .ok (.aload_n 0, 1) := by decide +kernel
theorem dX12_isFit_49 : decode cX12_isFit 49 = .ok (.aload_n 0, 1) := by decide +kernel
theorem dX12_isFit_50 : decode cX12_isFit 50 = .ok (.getfield 36, 3) := by decide +kernel
theorem dX12_isFit_53 : decode cX12_isFit 53 = .ok (.iconst 4, 1) := by decide +kernel
theorem dX12_isFit_54 : decode cX12_isFit 54 = .ok (.iload_n 1, 1) := by decide +kernel
theorem dX12_isFit_55 : decode cX12_isFit 55 = .ok (.imul, 1) := by decide +kernel
theorem dX12_isFit_56 : decode cX12_isFit 56 = .ok (.iconst 3, 1) := by decide +kernel
theorem dX12_isFit_57 : decode cX12_isFit 57 = .ok (.iadd, 1) := by decide +kernel
theorem dX12_isFit_58 : decode cX12_isFit 58 = .ok (.iaload, 1) := by decide +kernel
theorem dX12_isFit_59 : decode cX12_isFit 59 = .ok (.iload 6, 2) := by decide +kernel
theorem dX12_isFit_61 : decode cX12_isFit 61 = .ok (.iload 7, 2) := by decide +kernel
theorem dX12_isFit_63 : decode cX12_isFit 63 = .ok (.invokevirtual 185, 3) := by decide +kernel
theorem dX12_isFit_66 : decode cX12_isFit 66 = .ok (.goto 21, 3) := by decide +kernel
theorem dX12_isFit_69 : decode cX12_isFit 69 = .ok (.aload_n 0, 1) := by decide +kernel
theorem dX12_isFit_70 : decode cX12_isFit 70 = .ok (.aload_n 0, 1) := by decide +kernel
theorem dX12_isFit_71 : decode cX12_isFit 71 = .ok (.getfield 36, 3) := by decide +kernel
theorem dX12_isFit_74 : decode cX12_isFit 74 = .ok (.iconst 4, 1) := by decide +kernel
theorem dX12_isFit_75 : decode cX12_isFit 75 = .ok (.iload_n 1, 1) := by decide +kernel
theorem dX12_isFit_76 : decode cX12_isFit 76 = .ok (.imul, 1) := by decide +kernel
theorem dX12_isFit_77 : decode cX12_isFit 77 = .ok (.iconst 3, 1) := by decide +kernel
theorem dX12_isFit_78 : decode cX12_isFit 78 = .ok (.iadd, 1) := by decide +kernel
theorem dX12_isFit_79 : decode cX12_isFit 79 = .ok (.iaload, 1) := by decide +kernel
theorem dX12_isFit_80 : decode cX12_isFit 80 = .ok (.iload 6, 2) := by decide +kernel
theorem dX12_isFit_82 : decode cX12_isFit 82 = .ok (.iload 7, 2) := by decide +kernel
theorem dX12_isFit_84 : decode cX12_isFit 84 = .ok (.invokevirtual 182, 3) := by decide +kernel
theorem dX12_isFit_87 : decode cX12_isFit 87 = .ok (.istore 8, 2) := by decide +kernel
theorem dX12_isFit_89 : decode cX12_isFit 89 = .ok (.iload 8, 2) := by decide +kernel
theorem dX12_isFit_91 : decode cX12_isFit 91 = .ok (.ifCond .eq 39, 3) := by decide +kernel
theorem dX12_isFit_94 : decode cX12_isFit 94 = .ok (.aload_n 0, 1) := by decide +kernel
theorem dX12_isFit_95 : decode cX12_isFit 95 = .ok (.aload_n 0, 1) := by decide +kernel
theorem dX12_isFit_96 : decode cX12_isFit 96 = .ok (.iconst 3, 1) := by decide +kernel
theorem dX12_isFit_97 : decode cX12_isFit 97 = .ok (.invokevirtual 154, 3) := by decide +kernel
theorem dX12_isFit_100 : decode cX12_isFit 100 = .ok (.aload_n 0, 1) := by decide +kernel
theorem dX12_isFit_101 : decode cX12_isFit 101 = .ok (.iload 5, 2) := by decide +kernel
theorem dX12_isFit_103 : decode cX12_isFit 103 = .ok (.iconst 2, 1) := by decide +kernel
theorem dX12_isFit_104 : decode cX12_isFit 104 = .ok (.invokevirtual 121, 3) := by decide +kernel
theorem dX12_isFit_107 : decode cX12_isFit 107 = .ok (.iload 6, 2) := by decide +kernel
theorem dX12_isFit_109 : decode cX12_isFit 109 = .ok (.invokestatic 142, 3) := by decide +kernel
theorem dX12_isFit_112 : decode cX12_isFit 112 = .ok (.iload 7, 2) := by decide +kernel
theorem dX12_isFit_114 : decode cX12_isFit 114 = .ok (.invokestatic 142, 3) := by decide +kernel
theorem dX12_isFit_117 : decode cX12_isFit 117 = .ok (.invokestatic 145, 3) := by decide +kernel
theorem dX12_isFit_120 : decode cX12_isFit 120 = .ok (.invokevirtual 164, 3) := by decide +kernel
theorem dX12_isFit_123 : decode cX12_isFit 123 = .ok (.ifCond .eq 7, 3) := by decide +kernel
theorem dX12_isFit_126 : decode cX12_isFit 126 = .ok (.iconst 1, 1) := by decide +kernel
theorem dX12_isFit_127 : decode cX12_isFit 127 = .ok (.goto 4, 3) := by decide +kernel
theorem dX12_isFit_130 : decode cX12_isFit 130 = .ok (.iconst 0, 1) := by decide +kernel
theorem dX12_isFit_131 : decode cX12_isFit 131 = .ok (.ireturn, 1) := by decide +kernel
def fX12_isFit_b130 (N : Nat) (σ : qMem) : Option (Int32 × qMem) :=
  (some (0, σ))
set_option maxRecDepth 20000 in
set_option maxHeartbeats 4000000 in
theorem aX12_isFit_b130 (N : Nat) (σ : qMem) : qAt wM mX12_isFit (ρi) 130 [] [] σ (fX12_isFit_b130 N σ) := by
  unfold fX12_isFit_b130
  refine q_iconst (v := 0) dX12_isFit_130 (by decide) ?_
  exact q_iretz (y := (0, σ)) dX12_isFit_131 rfl rfl rfl

def fX12_isFit_b87 (N : Nat) (v5 : Int32) (v6 : Int32) (v7 : Int32) (u0 : Int32) (σ : qMem) : Option (Int32 × qMem) :=
  (if u0 = 0 then (fX12_isFit_b130 N σ) else ((fX12_term 3 σ).bind fun y6 => ((fX12_boatOf v5 2 σ).bind fun y7 => ((fX12_size v6).bind fun y8 => ((fX12_size v7).bind fun y9 => ((fX12_more y8 y9).bind fun y10 => ((fX12_carries N y6 y7 y10 σ).bind fun y11 => (if y11.1 = 0 then (fX12_isFit_b130 N y11.2) else (some (1, y11.2))))))))))
set_option maxRecDepth 20000 in
set_option maxHeartbeats 4000000 in
theorem aX12_isFit_b87 (N : Nat) (v5 : Int32) (v6 : Int32) (v7 : Int32) (u0 : Int32) (σ : qMem) : qAt wM mX12_isFit (ρi) 87 [(0, .ref 0), (5, .int v5), (6, .int v6), (7, .int v7)] [.int u0] σ (fX12_isFit_b87 N v5 v6 v7 u0 σ) := by
  unfold fX12_isFit_b87
  refine q_istore (i := 8) (L' := [(8, .int u0), (0, .ref 0), (5, .int v5), (6, .int v6), (7, .int v7)]) dX12_isFit_87 (Nat.le_of_ble_eq_true rfl) rfl ?_
  refine q_iload (i := 8) (x := u0) dX12_isFit_89 0 rfl ?_
  refine q_if_eq (tgt := 130) dX12_isFit_91 (by decide) ?_ ?_
  · exact q_sub [] rfl (aX12_isFit_b130 N σ)
  refine q_aload_n (i := 0) (x := 0) dX12_isFit_94 rfl 1 rfl ?_
  refine q_aload_n (i := 0) (x := 0) dX12_isFit_95 rfl 1 rfl ?_
  refine q_iconst (v := 3) dX12_isFit_96 (by decide) ?_
  refine q_cVp mX12_term [.int 3] (st := [.ref 0]) dX12_isFit_97 (svX12_154) ⟨Nat.le_of_ble_eq_true rfl, Nat.le_of_ble_eq_true rfl⟩ zM_0 rfl rfl rfl (Nat.le_of_ble_eq_true rfl) (kX12_term 3 σ) (fun y6 => ?_)
  refine q_aload_n (i := 0) (x := 0) dX12_isFit_100 rfl 1 rfl ?_
  refine q_iload (i := 5) (x := v5) dX12_isFit_101 2 rfl ?_
  refine q_iconst (v := 2) dX12_isFit_103 (by decide) ?_
  refine q_cVp mX12_boatOf [.int v5, .int 2] (st := [.int y6, .ref 0]) dX12_isFit_104 (svX12_121) ⟨Nat.le_of_ble_eq_true rfl, Nat.le_of_ble_eq_true rfl⟩ zM_0 rfl rfl rfl (Nat.le_of_ble_eq_true rfl) (kX12_boatOf v5 2 σ) (fun y7 => ?_)
  refine q_iload (i := 6) (x := v6) dX12_isFit_107 3 rfl ?_
  refine q_cSp mX12_size [.int v6] (st := [.int y7, .int y6, .ref 0]) dX12_isFit_109 (ssX12_142) ⟨Nat.le_of_ble_eq_true rfl, Nat.le_of_ble_eq_true rfl⟩ rfl rfl (Nat.le_of_ble_eq_true rfl) (kX12_size v6 σ) (fun y8 => ?_)
  refine q_iload (i := 7) (x := v7) dX12_isFit_112 4 rfl ?_
  refine q_cSp mX12_size [.int v7] (st := [.int y8, .int y7, .int y6, .ref 0]) dX12_isFit_114 (ssX12_142) ⟨Nat.le_of_ble_eq_true rfl, Nat.le_of_ble_eq_true rfl⟩ rfl rfl (Nat.le_of_ble_eq_true rfl) (kX12_size v7 σ) (fun y9 => ?_)
  refine q_cSp mX12_more [.int y8, .int y9] (st := [.int y7, .int y6, .ref 0]) dX12_isFit_117 (ssX12_145) ⟨Nat.le_of_ble_eq_true rfl, Nat.le_of_ble_eq_true rfl⟩ rfl rfl (Nat.le_of_ble_eq_true rfl) (kX12_more y8 y9 σ) (fun y10 => ?_)
  refine q_cVi mX12_carries [.int y6, .int y7, .int y10] (st := []) dX12_isFit_120 (svX12_164) ⟨Nat.le_of_ble_eq_true rfl, Nat.le_of_ble_eq_true rfl⟩ zM_0 rfl rfl rfl (Nat.le_of_ble_eq_true rfl) (kX12_carries N y6 y7 y10 σ) (fun y11 => ?_)
  refine q_if_eq (tgt := 130) dX12_isFit_123 (by decide) ?_ ?_
  · exact q_sub [] rfl (aX12_isFit_b130 N y11.2)
  refine q_iconst (v := 1) dX12_isFit_126 (by decide) ?_
  refine q_goto (tgt := 131) dX12_isFit_127 (by decide) ?_
  exact q_iretz (y := (1, y11.2)) dX12_isFit_131 rfl rfl rfl

def fX12_isFit (N : Nat) (p1 : Int32) (p2 : Int32) (p3 : Int32) (p4 : Int32) (σ : qMem) : Option (Int32 × qMem) :=
  (if ck (4 * p1) 144 = true then (nmI (gi σ 6 (4 * p1).toNatClampNeg) fun x1 => ((fX12_at N x1 p2 0 σ).bind fun y2 => ((fX12_at N x1 p2 1 σ).bind fun y3 => (if ck ((4 * p1) + 2) 144 = true then (if (gi σ 6 ((4 * p1) + 2).toNatClampNeg) = 0 then (if ck ((4 * p1) + 3) 144 = true then ((fX12_isTowards (gi σ 6 ((4 * p1) + 3).toNatClampNeg) (p3 - y2) (p4 - y3) σ).bind fun y5 => (fX12_isFit_b87 N x1 (p3 - y2) (p4 - y3) y5 σ)) else none) else (if ck ((4 * p1) + 3) 144 = true then ((fX12_isAsFar (gi σ 6 ((4 * p1) + 3).toNatClampNeg) (p3 - y2) (p4 - y3) σ).bind fun y4 => (fX12_isFit_b87 N x1 (p3 - y2) (p4 - y3) y4 σ)) else none)) else none)))) else none)
set_option maxRecDepth 20000 in
set_option maxHeartbeats 4000000 in
theorem aX12_isFit  (N : Nat) (p1 : Int32) (p2 : Int32) (p3 : Int32) (p4 : Int32)  (σ : qMem) : qAt wM mX12_isFit (ρi) 0 [(0, .ref 0), (1, .int p1), (2, .int p2), (3, .int p3), (4, .int p4)] [] σ (fX12_isFit N p1 p2 p3 p4 σ) := by
  unfold fX12_isFit
  refine q_aload_n (i := 0) (x := 0) dX12_isFit_0 rfl 0 rfl ?_
  refine q_getr (t := 6) dX12_isFit_1 foX12_36 zM_0 rfl ?_
  refine q_iconst (v := 4) dX12_isFit_4 (by decide) ?_
  refine q_iload_n (i := 1) (x := p1) dX12_isFit_5 rfl 1 rfl ?_
  refine q_imul dX12_isFit_6 ?_
  refine q_iald dX12_isFit_7 zM_6 ?_
  refine q_nmI (fun x1 => ?_)
  refine q_istore (i := 5) (L' := [(5, .int x1), (0, .ref 0), (1, .int p1), (2, .int p2), (3, .int p3), (4, .int p4)]) dX12_isFit_8 (Nat.le_of_ble_eq_true rfl) rfl ?_
  refine q_iload_n (i := 3) (x := p3) dX12_isFit_10 rfl 4 rfl ?_
  refine q_aload_n (i := 0) (x := 0) dX12_isFit_11 rfl 1 rfl ?_
  refine q_iload (i := 5) (x := x1) dX12_isFit_12 0 rfl ?_
  refine q_iload_n (i := 2) (x := p2) dX12_isFit_14 rfl 3 rfl ?_
  refine q_iconst (v := 0) dX12_isFit_15 (by decide) ?_
  refine q_cVp mX12_at [.int x1, .int p2, .int 0] (st := [.int p3]) dX12_isFit_16 (svX12_151) ⟨Nat.le_of_ble_eq_true rfl, Nat.le_of_ble_eq_true rfl⟩ zM_0 rfl rfl rfl (Nat.le_of_ble_eq_true rfl) (kX12_at N x1 p2 0 σ) (fun y2 => ?_)
  refine q_isub dX12_isFit_19 ?_
  refine q_istore (i := 6) (L' := [(6, .int (p3 - y2)), (5, .int x1), (0, .ref 0), (1, .int p1), (2, .int p2), (3, .int p3), (4, .int p4)]) dX12_isFit_20 (Nat.le_of_ble_eq_true rfl) rfl ?_
  refine q_iload (i := 4) (x := p4) dX12_isFit_22 6 rfl ?_
  refine q_aload_n (i := 0) (x := 0) dX12_isFit_24 rfl 2 rfl ?_
  refine q_iload (i := 5) (x := x1) dX12_isFit_25 1 rfl ?_
  refine q_iload_n (i := 2) (x := p2) dX12_isFit_27 rfl 4 rfl ?_
  refine q_iconst (v := 1) dX12_isFit_28 (by decide) ?_
  refine q_cVp mX12_at [.int x1, .int p2, .int 1] (st := [.int p4]) dX12_isFit_29 (svX12_151) ⟨Nat.le_of_ble_eq_true rfl, Nat.le_of_ble_eq_true rfl⟩ zM_0 rfl rfl rfl (Nat.le_of_ble_eq_true rfl) (kX12_at N x1 p2 1 σ) (fun y3 => ?_)
  refine q_isub dX12_isFit_32 ?_
  refine q_istore (i := 7) (L' := [(7, .int (p4 - y3)), (6, .int (p3 - y2)), (5, .int x1), (0, .ref 0), (1, .int p1), (2, .int p2), (3, .int p3), (4, .int p4)]) dX12_isFit_33 (Nat.le_of_ble_eq_true rfl) rfl ?_
  refine q_aload_n (i := 0) (x := 0) dX12_isFit_35 rfl 3 rfl ?_
  refine q_getr (t := 6) dX12_isFit_36 foX12_36 zM_0 rfl ?_
  refine q_iconst (v := 4) dX12_isFit_39 (by decide) ?_
  refine q_iload_n (i := 1) (x := p1) dX12_isFit_40 rfl 4 rfl ?_
  refine q_imul dX12_isFit_41 ?_
  refine q_iconst (v := 2) dX12_isFit_42 (by decide) ?_
  refine q_iadd dX12_isFit_43 ?_
  refine q_iald dX12_isFit_44 zM_6 ?_
  refine q_if_ne (tgt := 69) dX12_isFit_45 (by decide) ?_ ?_
  · refine q_aload_n (i := 0) (x := 0) dX12_isFit_69 rfl 3 rfl ?_
    refine q_aload_n (i := 0) (x := 0) dX12_isFit_70 rfl 3 rfl ?_
    refine q_getr (t := 6) dX12_isFit_71 foX12_36 zM_0 rfl ?_
    refine q_iconst (v := 4) dX12_isFit_74 (by decide) ?_
    refine q_iload_n (i := 1) (x := p1) dX12_isFit_75 rfl 4 rfl ?_
    refine q_imul dX12_isFit_76 ?_
    refine q_iconst (v := 3) dX12_isFit_77 (by decide) ?_
    refine q_iadd dX12_isFit_78 ?_
    refine q_iald dX12_isFit_79 zM_6 ?_
    refine q_iload (i := 6) (x := (p3 - y2)) dX12_isFit_80 1 rfl ?_
    refine q_iload (i := 7) (x := (p4 - y3)) dX12_isFit_82 0 rfl ?_
    refine q_cVp mX12_isAsFar [.int (gi σ 6 ((4 * p1) + 3).toNatClampNeg), .int (p3 - y2), .int (p4 - y3)] (st := []) dX12_isFit_84 (svX12_182) ⟨Nat.le_of_ble_eq_true rfl, Nat.le_of_ble_eq_true rfl⟩ zM_0 rfl rfl rfl (Nat.le_of_ble_eq_true rfl) (kX12_isAsFar (gi σ 6 ((4 * p1) + 3).toNatClampNeg) (p3 - y2) (p4 - y3) σ) (fun y4 => ?_)
    exact q_sub [3, 2, 1, 0] rfl (aX12_isFit_b87 N x1 (p3 - y2) (p4 - y3) y4 σ)
  refine q_aload_n (i := 0) (x := 0) dX12_isFit_48 rfl 3 rfl ?_
  refine q_aload_n (i := 0) (x := 0) dX12_isFit_49 rfl 3 rfl ?_
  refine q_getr (t := 6) dX12_isFit_50 foX12_36 zM_0 rfl ?_
  refine q_iconst (v := 4) dX12_isFit_53 (by decide) ?_
  refine q_iload_n (i := 1) (x := p1) dX12_isFit_54 rfl 4 rfl ?_
  refine q_imul dX12_isFit_55 ?_
  refine q_iconst (v := 3) dX12_isFit_56 (by decide) ?_
  refine q_iadd dX12_isFit_57 ?_
  refine q_iald dX12_isFit_58 zM_6 ?_
  refine q_iload (i := 6) (x := (p3 - y2)) dX12_isFit_59 1 rfl ?_
  refine q_iload (i := 7) (x := (p4 - y3)) dX12_isFit_61 0 rfl ?_
  refine q_cVp mX12_isTowards [.int (gi σ 6 ((4 * p1) + 3).toNatClampNeg), .int (p3 - y2), .int (p4 - y3)] (st := []) dX12_isFit_63 (svX12_185) ⟨Nat.le_of_ble_eq_true rfl, Nat.le_of_ble_eq_true rfl⟩ zM_0 rfl rfl rfl (Nat.le_of_ble_eq_true rfl) (kX12_isTowards (gi σ 6 ((4 * p1) + 3).toNatClampNeg) (p3 - y2) (p4 - y3) σ) (fun y5 => ?_)
  refine q_goto (tgt := 87) dX12_isFit_66 (by decide) ?_
  exact q_sub [3, 2, 1, 0] rfl (aX12_isFit_b87 N x1 (p3 - y2) (p4 - y3) y5 σ)
theorem kX12_isFit  (N : Nat) (p1 : Int32) (p2 : Int32) (p3 : Int32) (p4 : Int32)  (σ : qMem) : qMc wM mX12_isFit (ρi) [.ref 0, .int p1, .int p2, .int p3, .int p4] σ (fX12_isFit N p1 p2 p3 p4 σ) := qMc_of (moX12_isFit) (Nat.le_of_ble_eq_true rfl) (aX12_isFit N p1 p2 p3 p4  σ)

theorem dX12_missed_0 : decode cX12_missed 0 = .ok (.iconst 0, 1) := by decide +kernel
theorem dX12_missed_1 : decode cX12_missed 1 = .ok (.istore 8, 2) := by decide +kernel
theorem dX12_missed_3 : decode cX12_missed 3 = .ok (.iconst 0, 1) := by decide +kernel
theorem dX12_missed_4 : decode cX12_missed 4 = .ok (.istore 9, 2) := by decide +kernel
theorem dX12_missed_6 : decode cX12_missed 6 = .ok (.iload 9, 2) := by decide +kernel
theorem dX12_missed_8 : decode cX12_missed 8 = .ok (.aload_n 0, 1) := by decide +kernel
theorem dX12_missed_9 : decode cX12_missed 9 = .ok (.getfield 208, 3) := by decide +kernel
theorem dX12_missed_12 : decode cX12_missed 12 = .ok (.if_icmp .ge 91, 3) := by decide +kernel
theorem dX12_missed_15 : decode cX12_missed 15 = .ok (.iload 8, 2) := by decide +kernel
theorem dX12_missed_17 : decode cX12_missed 17 = .ok (.iload 7, 2) := by decide +kernel
theorem dX12_missed_19 : decode cX12_missed 19 = .ok (.if_icmp .gt 84, 3) := by decide +kernel
theorem dX12_missed_22 : decode cX12_missed 22 = .ok (.aload_n 0, 1) := by decide +kernel
theorem dX12_missed_23 : decode cX12_missed 23 = .ok (.getfield 36, 3) := by decide +kernel
theorem dX12_missed_26 : decode cX12_missed 26 = .ok (.iconst 4, 1) := by decide +kernel
theorem dX12_missed_27 : decode cX12_missed 27 = .ok (.iload 9, 2) := by decide +kernel
theorem dX12_missed_29 : decode cX12_missed 29 = .ok (.imul, 1) := by decide +kernel
theorem dX12_missed_30 : decode cX12_missed 30 = .ok (.iaload, 1) := by decide +kernel
theorem dX12_missed_31 : decode cX12_missed 31 = .ok (.iload_n 1, 1) := by decide +kernel
theorem dX12_missed_32 : decode cX12_missed 32 = .ok (.if_icmp .eq 6, 3) := by decide +kernel
theorem dX12_missed_35 : decode cX12_missed 35 = .ok (.goto 62, 3) := by decide +kernel
theorem dX12_missed_38 : decode cX12_missed 38 = .ok (.aload_n 0, 1) := by decide +kernel
theorem dX12_missed_39 : decode cX12_missed 39 = .ok (.getfield 36, 3) := by decide +kernel
theorem dX12_missed_42 : decode cX12_missed 42 = .ok (.iconst 4, 1) := by decide +kernel
theorem dX12_missed_43 : decode cX12_missed 43 = .ok (.iload 9, 2) := by decide +kernel
theorem dX12_missed_45 : decode cX12_missed 45 = .ok (.imul, 1) := by decide +kernel
theorem dX12_missed_46 : decode cX12_missed 46 = .ok (.iconst 1, 1) := by decide +kernel
theorem dX12_missed_47 : decode cX12_missed 47 = .ok (.iadd, 1) := by decide +kernel
theorem dX12_missed_48 : decode cX12_missed 48 = .ok (.iaload, 1) := by decide +kernel
theorem dX12_missed_49 : decode cX12_missed 49 = .ok (.iload_n 2, 1) := by decide +kernel
theorem dX12_missed_50 : decode cX12_missed 50 = .ok (.iadd, 1) := by decide +kernel
theorem dX12_missed_51 : decode cX12_missed 51 = .ok (.istore 10, 2) := by decide +kernel
theorem dX12_missed_53 : decode cX12_missed 53 = .ok (.iload 8, 2) := by decide +kernel
theorem dX12_missed_55 : decode cX12_missed 55 = .ok (.iload 10, 2) := by decide +kernel
theorem dX12_missed_57 : decode cX12_missed 57 = .ok (.invokestatic 132, 3) := by decide +kernel
theorem dX12_missed_60 : decode cX12_missed 60 = .ok (.ifCond .eq 33, 3) := by decide +kernel
theorem dX12_missed_63 : decode cX12_missed 63 = .ok (.aload_n 0, 1) := by decide +kernel
theorem dX12_missed_64 : decode cX12_missed 64 = .ok (.iload 9, 2) := by decide +kernel
theorem dX12_missed_66 : decode cX12_missed 66 = .ok (.iload 10, 2) := by decide +kernel
theorem dX12_missed_68 : decode cX12_missed 68 = .ok (.iload_n 3, 1) := by decide +kernel
theorem dX12_missed_69 : decode cX12_missed 69 = .ok (.iload 5, 2) := by decide +kernel
theorem dX12_missed_71 : decode cX12_missed 71 = .ok (.iload 10, 2) := by decide +kernel
theorem dX12_missed_73 : decode cX12_missed 73 = .ok (.imul, 1) := by decide +kernel
theorem dX12_missed_74 : decode cX12_missed 74 = .ok (.iadd, 1) := by decide +kernel
theorem dX12_missed_75 : decode cX12_missed 75 = .ok (.iload 4, 2) := by decide +kernel
theorem dX12_missed_77 : decode cX12_missed 77 = .ok (.iload 6, 2) := by decide +kernel
theorem dX12_missed_79 : decode cX12_missed 79 = .ok (.iload 10, 2) := by decide +kernel
theorem dX12_missed_81 : decode cX12_missed 81 = .ok (.imul, 1) := by decide +kernel
theorem dX12_missed_82 : decode cX12_missed 82 = .ok (.iadd, 1) := by decide +kernel
theorem dX12_missed_83 : decode cX12_missed 83 = .ok (.invokevirtual 215, 3) := by decide +kernel
theorem dX12_missed_86 : decode cX12_missed 86 = .ok (.ifCond .eq 7, 3) := by decide +kernel
theorem dX12_missed_89 : decode cX12_missed 89 = .ok (.iconst 0, 1) := by decide +kernel
theorem dX12_missed_90 : decode cX12_missed 90 = .ok (.goto 4, 3) := by decide +kernel
theorem dX12_missed_93 : decode cX12_missed 93 = .ok (.iconst 1, 1) := by decide +kernel
theorem dX12_missed_94 : decode cX12_missed 94 = .ok (.iadd, 1) := by decide +kernel
theorem dX12_missed_95 : decode cX12_missed 95 = .ok (.istore 8, 2) := by decide +kernel
theorem dX12_missed_97 : decode cX12_missed 97 = .ok (.iinc 9 1, 3) := by decide +kernel
theorem dX12_missed_100 : decode cX12_missed 100 = .ok (.goto (-94), 3) := by decide +kernel
theorem dX12_missed_103 : decode cX12_missed 103 = .ok (.iload 8, 2) := by decide +kernel
theorem dX12_missed_105 : decode cX12_missed 105 = .ok (.ireturn, 1) := by decide +kernel
def fX12_missed_b97 (N : Nat) (c6 : Int32 → Int32 → Int32 → Int32 → Int32 → Int32 → Int32 → Int32 → Int32 → qMem → Option (Int32 × qMem)) (v1 : Int32) (v2 : Int32) (v3 : Int32) (v4 : Int32) (v5 : Int32) (v6 : Int32) (v7 : Int32) (v8 : Int32) (v9 : Int32) (σ : qMem) : Option (Int32 × qMem) :=
  (c6 v1 v2 v3 v4 v5 v6 v7 v8 (v9 + 1) σ)
set_option maxRecDepth 20000 in
set_option maxHeartbeats 4000000 in
theorem aX12_missed_b97 (N : Nat) (c6 : Int32 → Int32 → Int32 → Int32 → Int32 → Int32 → Int32 → Int32 → Int32 → qMem → Option (Int32 × qMem)) (hc6 : ∀ (v1 : Int32) (v2 : Int32) (v3 : Int32) (v4 : Int32) (v5 : Int32) (v6 : Int32) (v7 : Int32) (v8 : Int32) (v9 : Int32) (σ : qMem), qAt wM mX12_missed (ρi) 6 [(0, .ref 0), (1, .int v1), (2, .int v2), (3, .int v3), (4, .int v4), (5, .int v5), (6, .int v6), (7, .int v7), (8, .int v8), (9, .int v9)] [] σ (c6 v1 v2 v3 v4 v5 v6 v7 v8 v9 σ)) (v1 : Int32) (v2 : Int32) (v3 : Int32) (v4 : Int32) (v5 : Int32) (v6 : Int32) (v7 : Int32) (v8 : Int32) (v9 : Int32) (σ : qMem) : qAt wM mX12_missed (ρi) 97 [(0, .ref 0), (1, .int v1), (2, .int v2), (3, .int v3), (4, .int v4), (5, .int v5), (6, .int v6), (7, .int v7), (8, .int v8), (9, .int v9)] [] σ (fX12_missed_b97 N c6 v1 v2 v3 v4 v5 v6 v7 v8 v9 σ) := by
  unfold fX12_missed_b97
  refine q_iinc (i := 9) (x := v9) (v := (v9 + 1)) (L' := [(9, .int (v9 + 1)), (0, .ref 0), (1, .int v1), (2, .int v2), (3, .int v3), (4, .int v4), (5, .int v5), (6, .int v6), (7, .int v7), (8, .int v8)]) dX12_missed_97 9 rfl (q_cst v9 (by decide)) (Nat.le_of_ble_eq_true rfl) rfl ?_
  refine q_goto (tgt := 6) dX12_missed_100 (by decide) ?_
  exact q_sub [1, 2, 3, 4, 5, 6, 7, 8, 9, 0] rfl (hc6 v1 v2 v3 v4 v5 v6 v7 v8 (v9 + 1) σ)

def fX12_missed_b94 (N : Nat) (c6 : Int32 → Int32 → Int32 → Int32 → Int32 → Int32 → Int32 → Int32 → Int32 → qMem → Option (Int32 × qMem)) (v1 : Int32) (v2 : Int32) (v3 : Int32) (v4 : Int32) (v5 : Int32) (v6 : Int32) (v7 : Int32) (v9 : Int32) (u0 : Int32) (u1 : Int32) (σ : qMem) : Option (Int32 × qMem) :=
  (fX12_missed_b97 N c6 v1 v2 v3 v4 v5 v6 v7 (u0 + u1) v9 σ)
set_option maxRecDepth 20000 in
set_option maxHeartbeats 4000000 in
theorem aX12_missed_b94 (N : Nat) (c6 : Int32 → Int32 → Int32 → Int32 → Int32 → Int32 → Int32 → Int32 → Int32 → qMem → Option (Int32 × qMem)) (hc6 : ∀ (v1 : Int32) (v2 : Int32) (v3 : Int32) (v4 : Int32) (v5 : Int32) (v6 : Int32) (v7 : Int32) (v8 : Int32) (v9 : Int32) (σ : qMem), qAt wM mX12_missed (ρi) 6 [(0, .ref 0), (1, .int v1), (2, .int v2), (3, .int v3), (4, .int v4), (5, .int v5), (6, .int v6), (7, .int v7), (8, .int v8), (9, .int v9)] [] σ (c6 v1 v2 v3 v4 v5 v6 v7 v8 v9 σ)) (v1 : Int32) (v2 : Int32) (v3 : Int32) (v4 : Int32) (v5 : Int32) (v6 : Int32) (v7 : Int32) (v9 : Int32) (u0 : Int32) (u1 : Int32) (σ : qMem) : qAt wM mX12_missed (ρi) 94 [(0, .ref 0), (1, .int v1), (2, .int v2), (3, .int v3), (4, .int v4), (5, .int v5), (6, .int v6), (7, .int v7), (9, .int v9)] [.int u1, .int u0] σ (fX12_missed_b94 N c6 v1 v2 v3 v4 v5 v6 v7 v9 u0 u1 σ) := by
  unfold fX12_missed_b94
  refine q_iadd dX12_missed_94 ?_
  refine q_istore (i := 8) (L' := [(8, .int (u0 + u1)), (0, .ref 0), (1, .int v1), (2, .int v2), (3, .int v3), (4, .int v4), (5, .int v5), (6, .int v6), (7, .int v7), (9, .int v9)]) dX12_missed_95 (Nat.le_of_ble_eq_true rfl) rfl ?_
  exact q_sub [1, 2, 3, 4, 5, 6, 7, 8, 0, 9] rfl (aX12_missed_b97 N c6 hc6 v1 v2 v3 v4 v5 v6 v7 (u0 + u1) v9 σ)

def fX12_missed_b93 (N : Nat) (c6 : Int32 → Int32 → Int32 → Int32 → Int32 → Int32 → Int32 → Int32 → Int32 → qMem → Option (Int32 × qMem)) (v1 : Int32) (v2 : Int32) (v3 : Int32) (v4 : Int32) (v5 : Int32) (v6 : Int32) (v7 : Int32) (v9 : Int32) (u0 : Int32) (σ : qMem) : Option (Int32 × qMem) :=
  (fX12_missed_b94 N c6 v1 v2 v3 v4 v5 v6 v7 v9 u0 1 σ)
set_option maxRecDepth 20000 in
set_option maxHeartbeats 4000000 in
theorem aX12_missed_b93 (N : Nat) (c6 : Int32 → Int32 → Int32 → Int32 → Int32 → Int32 → Int32 → Int32 → Int32 → qMem → Option (Int32 × qMem)) (hc6 : ∀ (v1 : Int32) (v2 : Int32) (v3 : Int32) (v4 : Int32) (v5 : Int32) (v6 : Int32) (v7 : Int32) (v8 : Int32) (v9 : Int32) (σ : qMem), qAt wM mX12_missed (ρi) 6 [(0, .ref 0), (1, .int v1), (2, .int v2), (3, .int v3), (4, .int v4), (5, .int v5), (6, .int v6), (7, .int v7), (8, .int v8), (9, .int v9)] [] σ (c6 v1 v2 v3 v4 v5 v6 v7 v8 v9 σ)) (v1 : Int32) (v2 : Int32) (v3 : Int32) (v4 : Int32) (v5 : Int32) (v6 : Int32) (v7 : Int32) (v9 : Int32) (u0 : Int32) (σ : qMem) : qAt wM mX12_missed (ρi) 93 [(0, .ref 0), (1, .int v1), (2, .int v2), (3, .int v3), (4, .int v4), (5, .int v5), (6, .int v6), (7, .int v7), (9, .int v9)] [.int u0] σ (fX12_missed_b93 N c6 v1 v2 v3 v4 v5 v6 v7 v9 u0 σ) := by
  unfold fX12_missed_b93
  refine q_iconst (v := 1) dX12_missed_93 (by decide) ?_
  exact q_sub [0, 1, 2, 3, 4, 5, 6, 7, 8] rfl (aX12_missed_b94 N c6 hc6 v1 v2 v3 v4 v5 v6 v7 v9 u0 1 σ)

def fX12_missed_s6 (N : Nat) (c6 : Int32 → Int32 → Int32 → Int32 → Int32 → Int32 → Int32 → Int32 → Int32 → qMem → Option (Int32 × qMem)) (v1 : Int32) (v2 : Int32) (v3 : Int32) (v4 : Int32) (v5 : Int32) (v6 : Int32) (v7 : Int32) (v8 : Int32) (v9 : Int32) (σ : qMem) : Option (Int32 × qMem) :=
  (if (gi σ 0 10) ≤ v9 then (some (v8, σ)) else (if v7 < v8 then (some (v8, σ)) else (if ck (4 * v9) 144 = true then (if (gi σ 6 (4 * v9).toNatClampNeg) = v1 then (if ck ((4 * v9) + 1) 144 = true then (nmI ((gi σ 6 ((4 * v9) + 1).toNatClampNeg) + v2) fun x1 => ((fX12_isBell x1).bind fun y2 => (if y2 = 0 then (fX12_missed_b93 N c6 v1 v2 v3 v4 v5 v6 v7 v9 v8 σ) else ((fX12_isFit N v9 x1 (v3 + (v5 * x1)) (v4 + (v6 * x1)) σ).bind fun y3 => (if y3.1 = 0 then (fX12_missed_b93 N c6 v1 v2 v3 v4 v5 v6 v7 v9 v8 y3.2) else (fX12_missed_b94 N c6 v1 v2 v3 v4 v5 v6 v7 v9 v8 0 y3.2)))))) else none) else (fX12_missed_b97 N c6 v1 v2 v3 v4 v5 v6 v7 v8 v9 σ)) else none)))
set_option maxRecDepth 20000 in
set_option maxHeartbeats 4000000 in
theorem aX12_missed_s6 (N : Nat) (c6 : Int32 → Int32 → Int32 → Int32 → Int32 → Int32 → Int32 → Int32 → Int32 → qMem → Option (Int32 × qMem)) (hc6 : ∀ (v1 : Int32) (v2 : Int32) (v3 : Int32) (v4 : Int32) (v5 : Int32) (v6 : Int32) (v7 : Int32) (v8 : Int32) (v9 : Int32) (σ : qMem), qAt wM mX12_missed (ρi) 6 [(0, .ref 0), (1, .int v1), (2, .int v2), (3, .int v3), (4, .int v4), (5, .int v5), (6, .int v6), (7, .int v7), (8, .int v8), (9, .int v9)] [] σ (c6 v1 v2 v3 v4 v5 v6 v7 v8 v9 σ)) (v1 : Int32) (v2 : Int32) (v3 : Int32) (v4 : Int32) (v5 : Int32) (v6 : Int32) (v7 : Int32) (v8 : Int32) (v9 : Int32) (σ : qMem) : qAt wM mX12_missed (ρi) 6 [(0, .ref 0), (1, .int v1), (2, .int v2), (3, .int v3), (4, .int v4), (5, .int v5), (6, .int v6), (7, .int v7), (8, .int v8), (9, .int v9)] [] σ (fX12_missed_s6 N c6 v1 v2 v3 v4 v5 v6 v7 v8 v9 σ) := by
  unfold fX12_missed_s6
  refine q_iload (i := 9) (x := v9) dX12_missed_6 9 rfl ?_
  refine q_aload_n (i := 0) (x := 0) dX12_missed_8 rfl 0 rfl ?_
  refine q_geti dX12_missed_9 foX12_208 zM_0 rfl ?_
  refine q_icmp_ge (tgt := 103) dX12_missed_12 (by decide) ?_ ?_
  · refine q_iload (i := 8) (x := v8) dX12_missed_103 8 rfl ?_
    exact q_ireti (y := (v8, σ)) dX12_missed_105 rfl rfl
  refine q_iload (i := 8) (x := v8) dX12_missed_15 8 rfl ?_
  refine q_iload (i := 7) (x := v7) dX12_missed_17 7 rfl ?_
  refine q_icmp_gt (tgt := 103) dX12_missed_19 (by decide) ?_ ?_
  · refine q_iload (i := 8) (x := v8) dX12_missed_103 8 rfl ?_
    exact q_ireti (y := (v8, σ)) dX12_missed_105 rfl rfl
  refine q_aload_n (i := 0) (x := 0) dX12_missed_22 rfl 0 rfl ?_
  refine q_getr (t := 6) dX12_missed_23 foX12_36 zM_0 rfl ?_
  refine q_iconst (v := 4) dX12_missed_26 (by decide) ?_
  refine q_iload (i := 9) (x := v9) dX12_missed_27 9 rfl ?_
  refine q_imul dX12_missed_29 ?_
  refine q_iald dX12_missed_30 zM_6 ?_
  refine q_iload_n (i := 1) (x := v1) dX12_missed_31 rfl 1 rfl ?_
  refine q_icmp_eq (tgt := 38) dX12_missed_32 (by decide) ?_ ?_
  · refine q_aload_n (i := 0) (x := 0) dX12_missed_38 rfl 0 rfl ?_
    refine q_getr (t := 6) dX12_missed_39 foX12_36 zM_0 rfl ?_
    refine q_iconst (v := 4) dX12_missed_42 (by decide) ?_
    refine q_iload (i := 9) (x := v9) dX12_missed_43 9 rfl ?_
    refine q_imul dX12_missed_45 ?_
    refine q_iconst (v := 1) dX12_missed_46 (by decide) ?_
    refine q_iadd dX12_missed_47 ?_
    refine q_iald dX12_missed_48 zM_6 ?_
    refine q_iload_n (i := 2) (x := v2) dX12_missed_49 rfl 2 rfl ?_
    refine q_iadd dX12_missed_50 ?_
    refine q_nmI (fun x1 => ?_)
    refine q_istore (i := 10) (L' := [(10, .int x1), (0, .ref 0), (1, .int v1), (2, .int v2), (3, .int v3), (4, .int v4), (5, .int v5), (6, .int v6), (7, .int v7), (8, .int v8), (9, .int v9)]) dX12_missed_51 (Nat.le_of_ble_eq_true rfl) rfl ?_
    refine q_iload (i := 8) (x := v8) dX12_missed_53 9 rfl ?_
    refine q_iload (i := 10) (x := x1) dX12_missed_55 0 rfl ?_
    refine q_cSp mX12_isBell [.int x1] (st := [.int v8]) dX12_missed_57 (ssX12_132) ⟨Nat.le_of_ble_eq_true rfl, Nat.le_of_ble_eq_true rfl⟩ rfl rfl (Nat.le_of_ble_eq_true rfl) (kX12_isBell x1 σ) (fun y2 => ?_)
    refine q_if_eq (tgt := 93) dX12_missed_60 (by decide) ?_ ?_
    · exact q_sub [1, 2, 3, 4, 5, 6, 7, 8, 10] rfl (aX12_missed_b93 N c6 hc6 v1 v2 v3 v4 v5 v6 v7 v9 v8 σ)
    refine q_aload_n (i := 0) (x := 0) dX12_missed_63 rfl 1 rfl ?_
    refine q_iload (i := 9) (x := v9) dX12_missed_64 10 rfl ?_
    refine q_iload (i := 10) (x := x1) dX12_missed_66 0 rfl ?_
    refine q_iload_n (i := 3) (x := v3) dX12_missed_68 rfl 4 rfl ?_
    refine q_iload (i := 5) (x := v5) dX12_missed_69 6 rfl ?_
    refine q_iload (i := 10) (x := x1) dX12_missed_71 0 rfl ?_
    refine q_imul dX12_missed_73 ?_
    refine q_iadd dX12_missed_74 ?_
    refine q_iload (i := 4) (x := v4) dX12_missed_75 5 rfl ?_
    refine q_iload (i := 6) (x := v6) dX12_missed_77 7 rfl ?_
    refine q_iload (i := 10) (x := x1) dX12_missed_79 0 rfl ?_
    refine q_imul dX12_missed_81 ?_
    refine q_iadd dX12_missed_82 ?_
    refine q_cVi mX12_isFit [.int v9, .int x1, .int (v3 + (v5 * x1)), .int (v4 + (v6 * x1))] (st := [.int v8]) dX12_missed_83 (svX12_215) ⟨Nat.le_of_ble_eq_true rfl, Nat.le_of_ble_eq_true rfl⟩ zM_0 rfl rfl rfl (Nat.le_of_ble_eq_true rfl) (kX12_isFit N v9 x1 (v3 + (v5 * x1)) (v4 + (v6 * x1)) σ) (fun y3 => ?_)
    refine q_if_eq (tgt := 93) dX12_missed_86 (by decide) ?_ ?_
    · exact q_sub [1, 2, 3, 4, 5, 6, 7, 8, 10] rfl (aX12_missed_b93 N c6 hc6 v1 v2 v3 v4 v5 v6 v7 v9 v8 y3.2)
    refine q_iconst (v := 0) dX12_missed_89 (by decide) ?_
    refine q_goto (tgt := 94) dX12_missed_90 (by decide) ?_
    exact q_sub [1, 2, 3, 4, 5, 6, 7, 8, 10] rfl (aX12_missed_b94 N c6 hc6 v1 v2 v3 v4 v5 v6 v7 v9 v8 0 y3.2)
  refine q_goto (tgt := 97) dX12_missed_35 (by decide) ?_
  exact q_sub [0, 1, 2, 3, 4, 5, 6, 7, 8, 9] rfl (aX12_missed_b97 N c6 hc6 v1 v2 v3 v4 v5 v6 v7 v8 v9 σ)
def fX12_missed_l6 (N : Nat) : Nat → Int32 → Int32 → Int32 → Int32 → Int32 → Int32 → Int32 → Int32 → Int32 → qMem → Option (Int32 × qMem)
  | 0 => fun _ _ _ _ _ _ _ _ _ _ => none
  | n + 1 => fun v1 v2 v3 v4 v5 v6 v7 v8 v9 σ => fX12_missed_s6 N (fX12_missed_l6 N n) v1 v2 v3 v4 v5 v6 v7 v8 v9 σ
theorem aX12_missed_l6 (N : Nat) : ∀ (n : Nat) (v1 : Int32) (v2 : Int32) (v3 : Int32) (v4 : Int32) (v5 : Int32) (v6 : Int32) (v7 : Int32) (v8 : Int32) (v9 : Int32) (σ : qMem), qAt wM mX12_missed (ρi) 6 [(0, .ref 0), (1, .int v1), (2, .int v2), (3, .int v3), (4, .int v4), (5, .int v5), (6, .int v6), (7, .int v7), (8, .int v8), (9, .int v9)] [] σ (fX12_missed_l6 N n v1 v2 v3 v4 v5 v6 v7 v8 v9 σ) := by
  intro n
  induction n with
  | zero => intro v1 v2 v3 v4 v5 v6 v7 v8 v9 σ; exact q_none
  | succ n ih => intro v1 v2 v3 v4 v5 v6 v7 v8 v9 σ; exact aX12_missed_s6 N (fX12_missed_l6 N n) ih v1 v2 v3 v4 v5 v6 v7 v8 v9 σ

def fX12_missed (N : Nat) (p1 : Int32) (p2 : Int32) (p3 : Int32) (p4 : Int32) (p5 : Int32) (p6 : Int32) (p7 : Int32) (σ : qMem) : Option (Int32 × qMem) :=
  (fX12_missed_l6 N N p1 p2 p3 p4 p5 p6 p7 0 0 σ)
set_option maxRecDepth 20000 in
set_option maxHeartbeats 4000000 in
theorem aX12_missed  (N : Nat) (p1 : Int32) (p2 : Int32) (p3 : Int32) (p4 : Int32) (p5 : Int32) (p6 : Int32) (p7 : Int32)  (σ : qMem) : qAt wM mX12_missed (ρi) 0 [(0, .ref 0), (1, .int p1), (2, .int p2), (3, .int p3), (4, .int p4), (5, .int p5), (6, .int p6), (7, .int p7)] [] σ (fX12_missed N p1 p2 p3 p4 p5 p6 p7 σ) := by
  unfold fX12_missed
  refine q_iconst (v := 0) dX12_missed_0 (by decide) ?_
  refine q_istore (i := 8) (L' := [(8, .int 0), (0, .ref 0), (1, .int p1), (2, .int p2), (3, .int p3), (4, .int p4), (5, .int p5), (6, .int p6), (7, .int p7)]) dX12_missed_1 (Nat.le_of_ble_eq_true rfl) rfl ?_
  refine q_iconst (v := 0) dX12_missed_3 (by decide) ?_
  refine q_istore (i := 9) (L' := [(9, .int 0), (8, .int 0), (0, .ref 0), (1, .int p1), (2, .int p2), (3, .int p3), (4, .int p4), (5, .int p5), (6, .int p6), (7, .int p7)]) dX12_missed_4 (Nat.le_of_ble_eq_true rfl) rfl ?_
  exact q_sub [2, 3, 4, 5, 6, 7, 8, 9, 1, 0] rfl (aX12_missed_l6 N N p1 p2 p3 p4 p5 p6 p7 0 0 σ)
theorem kX12_missed  (N : Nat) (p1 : Int32) (p2 : Int32) (p3 : Int32) (p4 : Int32) (p5 : Int32) (p6 : Int32) (p7 : Int32)  (σ : qMem) : qMc wM mX12_missed (ρi) [.ref 0, .int p1, .int p2, .int p3, .int p4, .int p5, .int p6, .int p7] σ (fX12_missed N p1 p2 p3 p4 p5 p6 p7 σ) := qMc_of (moX12_missed) (Nat.le_of_ble_eq_true rfl) (aX12_missed N p1 p2 p3 p4 p5 p6 p7  σ)

theorem dX12_missedBest_0 : decode cX12_missedBest 0 = .ok (.bipush 100, 2) := by decide +kernel
theorem dX12_missedBest_2 : decode cX12_missedBest 2 = .ok (.istore 5, 2) := by decide +kernel
theorem dX12_missedBest_4 : decode cX12_missedBest 4 = .ok (.aload_n 0, 1) := by decide +kernel
theorem dX12_missedBest_5 : decode cX12_missedBest 5 = .ok (.iconst 2, 1) := by decide +kernel
theorem dX12_missedBest_6 : decode cX12_missedBest 6 = .ok (.invokevirtual 154, 3) := by decide +kernel
theorem dX12_missedBest_9 : decode cX12_missedBest 9 = .ok (.ineg, 1) := by decide +kernel
theorem dX12_missedBest_10 : decode cX12_missedBest 10 = .ok (.istore 6, 2) := by decide +kernel
theorem dX12_missedBest_12 : decode cX12_missedBest 12 = .ok (.iload 6, 2) := by decide +kernel
theorem dX12_missedBest_14 : decode cX12_missedBest 14 = .ok (.aload_n 0, 1) := by decide +kernel
theorem dX12_missedBest_15 : decode cX12_missedBest 15 = .ok (.iconst 2, 1) := by decide +kernel
theorem dX12_missedBest_16 : decode cX12_missedBest 16 = .ok (.invokevirtual 154, 3) := by decide +kernel
theorem dX12_missedBest_19 : decode cX12_missedBest 19 = .ok (.if_icmp .gt 36, 3) := by decide +kernel
theorem dX12_missedBest_22 : decode cX12_missedBest 22 = .ok (.aload_n 0, 1) := by decide +kernel
theorem dX12_missedBest_23 : decode cX12_missedBest 23 = .ok (.iconst 1, 1) := by decide +kernel
theorem dX12_missedBest_24 : decode cX12_missedBest 24 = .ok (.iload 6, 2) := by decide +kernel
theorem dX12_missedBest_26 : decode cX12_missedBest 26 = .ok (.iload_n 1, 1) := by decide +kernel
theorem dX12_missedBest_27 : decode cX12_missedBest 27 = .ok (.iload_n 2, 1) := by decide +kernel
theorem dX12_missedBest_28 : decode cX12_missedBest 28 = .ok (.iload_n 3, 1) := by decide +kernel
theorem dX12_missedBest_29 : decode cX12_missedBest 29 = .ok (.iload 4, 2) := by decide +kernel
theorem dX12_missedBest_31 : decode cX12_missedBest 31 = .ok (.bipush 100, 2) := by decide +kernel
theorem dX12_missedBest_33 : decode cX12_missedBest 33 = .ok (.invokevirtual 219, 3) := by decide +kernel
theorem dX12_missedBest_36 : decode cX12_missedBest 36 = .ok (.istore 7, 2) := by decide +kernel
theorem dX12_missedBest_38 : decode cX12_missedBest 38 = .ok (.iload 7, 2) := by decide +kernel
theorem dX12_missedBest_40 : decode cX12_missedBest 40 = .ok (.iload 5, 2) := by decide +kernel
theorem dX12_missedBest_42 : decode cX12_missedBest 42 = .ok (.if_icmp .ge 7, 3) := by decide +kernel
theorem dX12_missedBest_45 : decode cX12_missedBest 45 = .ok (.iload 7, 2) := by decide +kernel
theorem dX12_missedBest_47 : decode cX12_missedBest 47 = .ok (.istore 5, 2) := by decide +kernel
theorem dX12_missedBest_49 : decode cX12_missedBest 49 = .ok (.iinc 6 1, 3) := by decide +kernel
theorem dX12_missedBest_52 : decode cX12_missedBest 52 = .ok (.goto (-40), 3) := by decide +kernel
theorem dX12_missedBest_55 : decode cX12_missedBest 55 = .ok (.aload_n 0, 1) := by decide +kernel
theorem dX12_missedBest_56 : decode cX12_missedBest 56 = .ok (.iconst 0, 1) := by decide +kernel
theorem dX12_missedBest_57 : decode cX12_missedBest 57 = .ok (.iconst 0, 1) := by decide +kernel
theorem dX12_missedBest_58 : decode cX12_missedBest 58 = .ok (.iload_n 1, 1) := by decide +kernel
theorem dX12_missedBest_59 : decode cX12_missedBest 59 = .ok (.iload_n 2, 1) := by decide +kernel
theorem dX12_missedBest_60 : decode cX12_missedBest 60 = .ok (.iload_n 3, 1) := by decide +kernel
theorem dX12_missedBest_61 : decode cX12_missedBest 61 = .ok (.iload 4, 2) := by decide +kernel
theorem dX12_missedBest_63 : decode cX12_missedBest 63 = .ok (.bipush 100, 2) := by decide +kernel
theorem dX12_missedBest_65 : decode cX12_missedBest 65 = .ok (.invokevirtual 219, 3) := by decide +kernel
theorem dX12_missedBest_68 : decode cX12_missedBest 68 = .ok (.iload 5, 2) := by decide +kernel
theorem dX12_missedBest_70 : decode cX12_missedBest 70 = .ok (.iadd, 1) := by decide +kernel
theorem dX12_missedBest_71 : decode cX12_missedBest 71 = .ok (.ireturn, 1) := by decide +kernel
def fX12_missedBest_b49 (N : Nat) (c12 : Int32 → Int32 → Int32 → Int32 → Int32 → Int32 → qMem → Option (Int32 × qMem)) (v1 : Int32) (v2 : Int32) (v3 : Int32) (v4 : Int32) (v5 : Int32) (v6 : Int32) (σ : qMem) : Option (Int32 × qMem) :=
  (c12 v1 v2 v3 v4 v5 (v6 + 1) σ)
set_option maxRecDepth 20000 in
set_option maxHeartbeats 4000000 in
theorem aX12_missedBest_b49 (N : Nat) (c12 : Int32 → Int32 → Int32 → Int32 → Int32 → Int32 → qMem → Option (Int32 × qMem)) (hc12 : ∀ (v1 : Int32) (v2 : Int32) (v3 : Int32) (v4 : Int32) (v5 : Int32) (v6 : Int32) (σ : qMem), qAt wM mX12_missedBest (ρi) 12 [(0, .ref 0), (1, .int v1), (2, .int v2), (3, .int v3), (4, .int v4), (5, .int v5), (6, .int v6)] [] σ (c12 v1 v2 v3 v4 v5 v6 σ)) (v1 : Int32) (v2 : Int32) (v3 : Int32) (v4 : Int32) (v5 : Int32) (v6 : Int32) (σ : qMem) : qAt wM mX12_missedBest (ρi) 49 [(0, .ref 0), (1, .int v1), (2, .int v2), (3, .int v3), (4, .int v4), (5, .int v5), (6, .int v6)] [] σ (fX12_missedBest_b49 N c12 v1 v2 v3 v4 v5 v6 σ) := by
  unfold fX12_missedBest_b49
  refine q_iinc (i := 6) (x := v6) (v := (v6 + 1)) (L' := [(6, .int (v6 + 1)), (0, .ref 0), (1, .int v1), (2, .int v2), (3, .int v3), (4, .int v4), (5, .int v5)]) dX12_missedBest_49 6 rfl (q_cst v6 (by decide)) (Nat.le_of_ble_eq_true rfl) rfl ?_
  refine q_goto (tgt := 12) dX12_missedBest_52 (by decide) ?_
  exact q_sub [1, 2, 3, 4, 5, 6, 0] rfl (hc12 v1 v2 v3 v4 v5 (v6 + 1) σ)

def fX12_missedBest_s12 (N : Nat) (c12 : Int32 → Int32 → Int32 → Int32 → Int32 → Int32 → qMem → Option (Int32 × qMem)) (v1 : Int32) (v2 : Int32) (v3 : Int32) (v4 : Int32) (v5 : Int32) (v6 : Int32) (σ : qMem) : Option (Int32 × qMem) :=
  ((fX12_term 2 σ).bind fun y2 => (if y2 < v6 then ((fX12_missed N 0 0 v1 v2 v3 v4 100 σ).bind fun y3 => (some ((y3.1 + v5), y3.2))) else ((fX12_missed N 1 v6 v1 v2 v3 v4 100 σ).bind fun y4 => (if v5 ≤ y4.1 then (fX12_missedBest_b49 N c12 v1 v2 v3 v4 v5 v6 y4.2) else (fX12_missedBest_b49 N c12 v1 v2 v3 v4 y4.1 v6 y4.2)))))
set_option maxRecDepth 20000 in
set_option maxHeartbeats 4000000 in
theorem aX12_missedBest_s12 (N : Nat) (c12 : Int32 → Int32 → Int32 → Int32 → Int32 → Int32 → qMem → Option (Int32 × qMem)) (hc12 : ∀ (v1 : Int32) (v2 : Int32) (v3 : Int32) (v4 : Int32) (v5 : Int32) (v6 : Int32) (σ : qMem), qAt wM mX12_missedBest (ρi) 12 [(0, .ref 0), (1, .int v1), (2, .int v2), (3, .int v3), (4, .int v4), (5, .int v5), (6, .int v6)] [] σ (c12 v1 v2 v3 v4 v5 v6 σ)) (v1 : Int32) (v2 : Int32) (v3 : Int32) (v4 : Int32) (v5 : Int32) (v6 : Int32) (σ : qMem) : qAt wM mX12_missedBest (ρi) 12 [(0, .ref 0), (1, .int v1), (2, .int v2), (3, .int v3), (4, .int v4), (5, .int v5), (6, .int v6)] [] σ (fX12_missedBest_s12 N c12 v1 v2 v3 v4 v5 v6 σ) := by
  unfold fX12_missedBest_s12
  refine q_iload (i := 6) (x := v6) dX12_missedBest_12 6 rfl ?_
  refine q_aload_n (i := 0) (x := 0) dX12_missedBest_14 rfl 0 rfl ?_
  refine q_iconst (v := 2) dX12_missedBest_15 (by decide) ?_
  refine q_cVp mX12_term [.int 2] (st := [.int v6]) dX12_missedBest_16 (svX12_154) ⟨Nat.le_of_ble_eq_true rfl, Nat.le_of_ble_eq_true rfl⟩ zM_0 rfl rfl rfl (Nat.le_of_ble_eq_true rfl) (kX12_term 2 σ) (fun y2 => ?_)
  refine q_icmp_gt (tgt := 55) dX12_missedBest_19 (by decide) ?_ ?_
  · refine q_aload_n (i := 0) (x := 0) dX12_missedBest_55 rfl 0 rfl ?_
    refine q_iconst (v := 0) dX12_missedBest_56 (by decide) ?_
    refine q_iconst (v := 0) dX12_missedBest_57 (by decide) ?_
    refine q_iload_n (i := 1) (x := v1) dX12_missedBest_58 rfl 1 rfl ?_
    refine q_iload_n (i := 2) (x := v2) dX12_missedBest_59 rfl 2 rfl ?_
    refine q_iload_n (i := 3) (x := v3) dX12_missedBest_60 rfl 3 rfl ?_
    refine q_iload (i := 4) (x := v4) dX12_missedBest_61 4 rfl ?_
    refine q_bipush (v := 100) dX12_missedBest_63 (by decide) ?_
    refine q_cVi mX12_missed [.int 0, .int 0, .int v1, .int v2, .int v3, .int v4, .int 100] (st := []) dX12_missedBest_65 (svX12_219) ⟨Nat.le_of_ble_eq_true rfl, Nat.le_of_ble_eq_true rfl⟩ zM_0 rfl rfl rfl (Nat.le_of_ble_eq_true rfl) (kX12_missed N 0 0 v1 v2 v3 v4 100 σ) (fun y3 => ?_)
    refine q_iload (i := 5) (x := v5) dX12_missedBest_68 5 rfl ?_
    refine q_iadd dX12_missedBest_70 ?_
    exact q_ireti (y := ((y3.1 + v5), y3.2)) dX12_missedBest_71 rfl rfl
  refine q_aload_n (i := 0) (x := 0) dX12_missedBest_22 rfl 0 rfl ?_
  refine q_iconst (v := 1) dX12_missedBest_23 (by decide) ?_
  refine q_iload (i := 6) (x := v6) dX12_missedBest_24 6 rfl ?_
  refine q_iload_n (i := 1) (x := v1) dX12_missedBest_26 rfl 1 rfl ?_
  refine q_iload_n (i := 2) (x := v2) dX12_missedBest_27 rfl 2 rfl ?_
  refine q_iload_n (i := 3) (x := v3) dX12_missedBest_28 rfl 3 rfl ?_
  refine q_iload (i := 4) (x := v4) dX12_missedBest_29 4 rfl ?_
  refine q_bipush (v := 100) dX12_missedBest_31 (by decide) ?_
  refine q_cVi mX12_missed [.int 1, .int v6, .int v1, .int v2, .int v3, .int v4, .int 100] (st := []) dX12_missedBest_33 (svX12_219) ⟨Nat.le_of_ble_eq_true rfl, Nat.le_of_ble_eq_true rfl⟩ zM_0 rfl rfl rfl (Nat.le_of_ble_eq_true rfl) (kX12_missed N 1 v6 v1 v2 v3 v4 100 σ) (fun y4 => ?_)
  refine q_istore (i := 7) (L' := [(7, .int y4.1), (0, .ref 0), (1, .int v1), (2, .int v2), (3, .int v3), (4, .int v4), (5, .int v5), (6, .int v6)]) dX12_missedBest_36 (Nat.le_of_ble_eq_true rfl) rfl ?_
  refine q_iload (i := 7) (x := y4.1) dX12_missedBest_38 0 rfl ?_
  refine q_iload (i := 5) (x := v5) dX12_missedBest_40 6 rfl ?_
  refine q_icmp_ge (tgt := 49) dX12_missedBest_42 (by decide) ?_ ?_
  · exact q_sub [1, 2, 3, 4, 5, 6, 7] rfl (aX12_missedBest_b49 N c12 hc12 v1 v2 v3 v4 v5 v6 y4.2)
  refine q_iload (i := 7) (x := y4.1) dX12_missedBest_45 0 rfl ?_
  refine q_istore (i := 5) (L' := [(5, .int y4.1), (7, .int y4.1), (0, .ref 0), (1, .int v1), (2, .int v2), (3, .int v3), (4, .int v4), (6, .int v6)]) dX12_missedBest_47 (Nat.le_of_ble_eq_true rfl) rfl ?_
  exact q_sub [2, 3, 4, 5, 6, 0, 7] rfl (aX12_missedBest_b49 N c12 hc12 v1 v2 v3 v4 y4.1 v6 y4.2)
def fX12_missedBest_l12 (N : Nat) : Nat → Int32 → Int32 → Int32 → Int32 → Int32 → Int32 → qMem → Option (Int32 × qMem)
  | 0 => fun _ _ _ _ _ _ _ => none
  | n + 1 => fun v1 v2 v3 v4 v5 v6 σ => fX12_missedBest_s12 N (fX12_missedBest_l12 N n) v1 v2 v3 v4 v5 v6 σ
theorem aX12_missedBest_l12 (N : Nat) : ∀ (n : Nat) (v1 : Int32) (v2 : Int32) (v3 : Int32) (v4 : Int32) (v5 : Int32) (v6 : Int32) (σ : qMem), qAt wM mX12_missedBest (ρi) 12 [(0, .ref 0), (1, .int v1), (2, .int v2), (3, .int v3), (4, .int v4), (5, .int v5), (6, .int v6)] [] σ (fX12_missedBest_l12 N n v1 v2 v3 v4 v5 v6 σ) := by
  intro n
  induction n with
  | zero => intro v1 v2 v3 v4 v5 v6 σ; exact q_none
  | succ n ih => intro v1 v2 v3 v4 v5 v6 σ; exact aX12_missedBest_s12 N (fX12_missedBest_l12 N n) ih v1 v2 v3 v4 v5 v6 σ

def fX12_missedBest (N : Nat) (p1 : Int32) (p2 : Int32) (p3 : Int32) (p4 : Int32) (σ : qMem) : Option (Int32 × qMem) :=
  ((fX12_term 2 σ).bind fun y1 => (fX12_missedBest_l12 N N p1 p2 p3 p4 100 (-y1) σ))
set_option maxRecDepth 20000 in
set_option maxHeartbeats 4000000 in
theorem aX12_missedBest  (N : Nat) (p1 : Int32) (p2 : Int32) (p3 : Int32) (p4 : Int32)  (σ : qMem) : qAt wM mX12_missedBest (ρi) 0 [(0, .ref 0), (1, .int p1), (2, .int p2), (3, .int p3), (4, .int p4)] [] σ (fX12_missedBest N p1 p2 p3 p4 σ) := by
  unfold fX12_missedBest
  refine q_bipush (v := 100) dX12_missedBest_0 (by decide) ?_
  refine q_istore (i := 5) (L' := [(5, .int 100), (0, .ref 0), (1, .int p1), (2, .int p2), (3, .int p3), (4, .int p4)]) dX12_missedBest_2 (Nat.le_of_ble_eq_true rfl) rfl ?_
  refine q_aload_n (i := 0) (x := 0) dX12_missedBest_4 rfl 1 rfl ?_
  refine q_iconst (v := 2) dX12_missedBest_5 (by decide) ?_
  refine q_cVp mX12_term [.int 2] (st := []) dX12_missedBest_6 (svX12_154) ⟨Nat.le_of_ble_eq_true rfl, Nat.le_of_ble_eq_true rfl⟩ zM_0 rfl rfl rfl (Nat.le_of_ble_eq_true rfl) (kX12_term 2 σ) (fun y1 => ?_)
  refine q_ineg dX12_missedBest_9 ?_
  refine q_istore (i := 6) (L' := [(6, .int (-y1)), (5, .int 100), (0, .ref 0), (1, .int p1), (2, .int p2), (3, .int p3), (4, .int p4)]) dX12_missedBest_10 (Nat.le_of_ble_eq_true rfl) rfl ?_
  exact q_sub [2, 3, 4, 5, 6, 1, 0] rfl (aX12_missedBest_l12 N N p1 p2 p3 p4 100 (-y1) σ)
theorem kX12_missedBest  (N : Nat) (p1 : Int32) (p2 : Int32) (p3 : Int32) (p4 : Int32)  (σ : qMem) : qMc wM mX12_missedBest (ρi) [.ref 0, .int p1, .int p2, .int p3, .int p4] σ (fX12_missedBest N p1 p2 p3 p4 σ) := qMc_of (moX12_missedBest) (Nat.le_of_ble_eq_true rfl) (aX12_missedBest N p1 p2 p3 p4  σ)

theorem dX12_isRun_0 : decode cX12_isRun 0 = .ok (.aload_n 0, 1) := by decide +kernel
theorem dX12_isRun_1 : decode cX12_isRun 1 = .ok (.iconst 0, 1) := by decide +kernel
theorem dX12_isRun_2 : decode cX12_isRun 2 = .ok (.iconst 0, 1) := by decide +kernel
theorem dX12_isRun_3 : decode cX12_isRun 3 = .ok (.iload_n 1, 1) := by decide +kernel
theorem dX12_isRun_4 : decode cX12_isRun 4 = .ok (.iload_n 2, 1) := by decide +kernel
theorem dX12_isRun_5 : decode cX12_isRun 5 = .ok (.iload_n 3, 1) := by decide +kernel
theorem dX12_isRun_6 : decode cX12_isRun 6 = .ok (.iload 4, 2) := by decide +kernel
theorem dX12_isRun_8 : decode cX12_isRun 8 = .ok (.iconst 0, 1) := by decide +kernel
theorem dX12_isRun_9 : decode cX12_isRun 9 = .ok (.invokevirtual 219, 3) := by decide +kernel
theorem dX12_isRun_12 : decode cX12_isRun 12 = .ok (.ifCond .le 5, 3) := by decide +kernel
theorem dX12_isRun_15 : decode cX12_isRun 15 = .ok (.iconst 0, 1) := by decide +kernel
theorem dX12_isRun_16 : decode cX12_isRun 16 = .ok (.ireturn, 1) := by decide +kernel
theorem dX12_isRun_17 : decode cX12_isRun 17 = .ok (.aload_n 0, 1) := by decide +kernel
theorem dX12_isRun_18 : decode cX12_isRun 18 = .ok (.iconst 2, 1) := by decide +kernel
theorem dX12_isRun_19 : decode cX12_isRun 19 = .ok (.invokevirtual 154, 3) := by decide +kernel
theorem dX12_isRun_22 : decode cX12_isRun 22 = .ok (.ineg, 1) := by decide +kernel
theorem dX12_isRun_23 : decode cX12_isRun 23 = .ok (.istore 5, 2) := by decide +kernel
theorem dX12_isRun_25 : decode cX12_isRun 25 = .ok (.iload 5, 2) := by decide +kernel
theorem dX12_isRun_27 : decode cX12_isRun 27 = .ok (.aload_n 0, 1) := by decide +kernel
theorem dX12_isRun_28 : decode cX12_isRun 28 = .ok (.iconst 2, 1) := by decide +kernel
theorem dX12_isRun_29 : decode cX12_isRun 29 = .ok (.invokevirtual 154, 3) := by decide +kernel
theorem dX12_isRun_32 : decode cX12_isRun 32 = .ok (.if_icmp .gt 27, 3) := by decide +kernel
theorem dX12_isRun_35 : decode cX12_isRun 35 = .ok (.aload_n 0, 1) := by decide +kernel
theorem dX12_isRun_36 : decode cX12_isRun 36 = .ok (.iconst 1, 1) := by decide +kernel
theorem dX12_isRun_37 : decode cX12_isRun 37 = .ok (.iload 5, 2) := by decide +kernel
theorem dX12_isRun_39 : decode cX12_isRun 39 = .ok (.iload_n 1, 1) := by decide +kernel
theorem dX12_isRun_40 : decode cX12_isRun 40 = .ok (.iload_n 2, 1) := by decide +kernel
theorem dX12_isRun_41 : decode cX12_isRun 41 = .ok (.iload_n 3, 1) := by decide +kernel
theorem dX12_isRun_42 : decode cX12_isRun 42 = .ok (.iload 4, 2) := by decide +kernel
theorem dX12_isRun_44 : decode cX12_isRun 44 = .ok (.iconst 0, 1) := by decide +kernel
theorem dX12_isRun_45 : decode cX12_isRun 45 = .ok (.invokevirtual 219, 3) := by decide +kernel
theorem dX12_isRun_48 : decode cX12_isRun 48 = .ok (.ifCond .ne 5, 3) := by decide +kernel
theorem dX12_isRun_51 : decode cX12_isRun 51 = .ok (.iconst 1, 1) := by decide +kernel
theorem dX12_isRun_52 : decode cX12_isRun 52 = .ok (.ireturn, 1) := by decide +kernel
theorem dX12_isRun_53 : decode cX12_isRun 53 = .ok (.iinc 5 1, 3) := by decide +kernel
theorem dX12_isRun_56 : decode cX12_isRun 56 = .ok (.goto (-31), 3) := by decide +kernel
theorem dX12_isRun_59 : decode cX12_isRun 59 = .ok (.iconst 0, 1) := by decide +kernel
theorem dX12_isRun_60 : decode cX12_isRun 60 = .ok (.ireturn, 1) := by decide +kernel
def fX12_isRun_s25 (N : Nat) (c25 : Int32 → Int32 → Int32 → Int32 → Int32 → qMem → Option (Int32 × qMem)) (v1 : Int32) (v2 : Int32) (v3 : Int32) (v4 : Int32) (v5 : Int32) (σ : qMem) : Option (Int32 × qMem) :=
  ((fX12_term 2 σ).bind fun y3 => (if y3 < v5 then (some (0, σ)) else ((fX12_missed N 1 v5 v1 v2 v3 v4 0 σ).bind fun y4 => (if y4.1 = 0 then (some (1, y4.2)) else (c25 v1 v2 v3 v4 (v5 + 1) y4.2)))))
set_option maxRecDepth 20000 in
set_option maxHeartbeats 4000000 in
theorem aX12_isRun_s25 (N : Nat) (c25 : Int32 → Int32 → Int32 → Int32 → Int32 → qMem → Option (Int32 × qMem)) (hc25 : ∀ (v1 : Int32) (v2 : Int32) (v3 : Int32) (v4 : Int32) (v5 : Int32) (σ : qMem), qAt wM mX12_isRun (ρi) 25 [(0, .ref 0), (1, .int v1), (2, .int v2), (3, .int v3), (4, .int v4), (5, .int v5)] [] σ (c25 v1 v2 v3 v4 v5 σ)) (v1 : Int32) (v2 : Int32) (v3 : Int32) (v4 : Int32) (v5 : Int32) (σ : qMem) : qAt wM mX12_isRun (ρi) 25 [(0, .ref 0), (1, .int v1), (2, .int v2), (3, .int v3), (4, .int v4), (5, .int v5)] [] σ (fX12_isRun_s25 N c25 v1 v2 v3 v4 v5 σ) := by
  unfold fX12_isRun_s25
  refine q_iload (i := 5) (x := v5) dX12_isRun_25 5 rfl ?_
  refine q_aload_n (i := 0) (x := 0) dX12_isRun_27 rfl 0 rfl ?_
  refine q_iconst (v := 2) dX12_isRun_28 (by decide) ?_
  refine q_cVp mX12_term [.int 2] (st := [.int v5]) dX12_isRun_29 (svX12_154) ⟨Nat.le_of_ble_eq_true rfl, Nat.le_of_ble_eq_true rfl⟩ zM_0 rfl rfl rfl (Nat.le_of_ble_eq_true rfl) (kX12_term 2 σ) (fun y3 => ?_)
  refine q_icmp_gt (tgt := 59) dX12_isRun_32 (by decide) ?_ ?_
  · refine q_iconst (v := 0) dX12_isRun_59 (by decide) ?_
    exact q_iretz (y := (0, σ)) dX12_isRun_60 rfl rfl rfl
  refine q_aload_n (i := 0) (x := 0) dX12_isRun_35 rfl 0 rfl ?_
  refine q_iconst (v := 1) dX12_isRun_36 (by decide) ?_
  refine q_iload (i := 5) (x := v5) dX12_isRun_37 5 rfl ?_
  refine q_iload_n (i := 1) (x := v1) dX12_isRun_39 rfl 1 rfl ?_
  refine q_iload_n (i := 2) (x := v2) dX12_isRun_40 rfl 2 rfl ?_
  refine q_iload_n (i := 3) (x := v3) dX12_isRun_41 rfl 3 rfl ?_
  refine q_iload (i := 4) (x := v4) dX12_isRun_42 4 rfl ?_
  refine q_iconst (v := 0) dX12_isRun_44 (by decide) ?_
  refine q_cVi mX12_missed [.int 1, .int v5, .int v1, .int v2, .int v3, .int v4, .int 0] (st := []) dX12_isRun_45 (svX12_219) ⟨Nat.le_of_ble_eq_true rfl, Nat.le_of_ble_eq_true rfl⟩ zM_0 rfl rfl rfl (Nat.le_of_ble_eq_true rfl) (kX12_missed N 1 v5 v1 v2 v3 v4 0 σ) (fun y4 => ?_)
  refine q_if_ne (tgt := 53) dX12_isRun_48 (by decide) ?_ ?_
  · refine q_iinc (i := 5) (x := v5) (v := (v5 + 1)) (L' := [(5, .int (v5 + 1)), (0, .ref 0), (1, .int v1), (2, .int v2), (3, .int v3), (4, .int v4)]) dX12_isRun_53 5 rfl (q_cst v5 (by decide)) (Nat.le_of_ble_eq_true rfl) rfl ?_
    refine q_goto (tgt := 25) dX12_isRun_56 (by decide) ?_
    exact q_sub [1, 2, 3, 4, 5, 0] rfl (hc25 v1 v2 v3 v4 (v5 + 1) y4.2)
  refine q_iconst (v := 1) dX12_isRun_51 (by decide) ?_
  exact q_iretz (y := (1, y4.2)) dX12_isRun_52 rfl rfl rfl
def fX12_isRun_l25 (N : Nat) : Nat → Int32 → Int32 → Int32 → Int32 → Int32 → qMem → Option (Int32 × qMem)
  | 0 => fun _ _ _ _ _ _ => none
  | n + 1 => fun v1 v2 v3 v4 v5 σ => fX12_isRun_s25 N (fX12_isRun_l25 N n) v1 v2 v3 v4 v5 σ
theorem aX12_isRun_l25 (N : Nat) : ∀ (n : Nat) (v1 : Int32) (v2 : Int32) (v3 : Int32) (v4 : Int32) (v5 : Int32) (σ : qMem), qAt wM mX12_isRun (ρi) 25 [(0, .ref 0), (1, .int v1), (2, .int v2), (3, .int v3), (4, .int v4), (5, .int v5)] [] σ (fX12_isRun_l25 N n v1 v2 v3 v4 v5 σ) := by
  intro n
  induction n with
  | zero => intro v1 v2 v3 v4 v5 σ; exact q_none
  | succ n ih => intro v1 v2 v3 v4 v5 σ; exact aX12_isRun_s25 N (fX12_isRun_l25 N n) ih v1 v2 v3 v4 v5 σ

def fX12_isRun (N : Nat) (p1 : Int32) (p2 : Int32) (p3 : Int32) (p4 : Int32) (σ : qMem) : Option (Int32 × qMem) :=
  ((fX12_missed N 0 0 p1 p2 p3 p4 0 σ).bind fun y1 => (if y1.1 ≤ 0 then ((fX12_term 2 y1.2).bind fun y2 => (fX12_isRun_l25 N N p1 p2 p3 p4 (-y2) y1.2)) else (some (0, y1.2))))
set_option maxRecDepth 20000 in
set_option maxHeartbeats 4000000 in
theorem aX12_isRun  (N : Nat) (p1 : Int32) (p2 : Int32) (p3 : Int32) (p4 : Int32)  (σ : qMem) : qAt wM mX12_isRun (ρi) 0 [(0, .ref 0), (1, .int p1), (2, .int p2), (3, .int p3), (4, .int p4)] [] σ (fX12_isRun N p1 p2 p3 p4 σ) := by
  unfold fX12_isRun
  refine q_aload_n (i := 0) (x := 0) dX12_isRun_0 rfl 0 rfl ?_
  refine q_iconst (v := 0) dX12_isRun_1 (by decide) ?_
  refine q_iconst (v := 0) dX12_isRun_2 (by decide) ?_
  refine q_iload_n (i := 1) (x := p1) dX12_isRun_3 rfl 1 rfl ?_
  refine q_iload_n (i := 2) (x := p2) dX12_isRun_4 rfl 2 rfl ?_
  refine q_iload_n (i := 3) (x := p3) dX12_isRun_5 rfl 3 rfl ?_
  refine q_iload (i := 4) (x := p4) dX12_isRun_6 4 rfl ?_
  refine q_iconst (v := 0) dX12_isRun_8 (by decide) ?_
  refine q_cVi mX12_missed [.int 0, .int 0, .int p1, .int p2, .int p3, .int p4, .int 0] (st := []) dX12_isRun_9 (svX12_219) ⟨Nat.le_of_ble_eq_true rfl, Nat.le_of_ble_eq_true rfl⟩ zM_0 rfl rfl rfl (Nat.le_of_ble_eq_true rfl) (kX12_missed N 0 0 p1 p2 p3 p4 0 σ) (fun y1 => ?_)
  refine q_if_le (tgt := 17) dX12_isRun_12 (by decide) ?_ ?_
  · refine q_aload_n (i := 0) (x := 0) dX12_isRun_17 rfl 0 rfl ?_
    refine q_iconst (v := 2) dX12_isRun_18 (by decide) ?_
    refine q_cVp mX12_term [.int 2] (st := []) dX12_isRun_19 (svX12_154) ⟨Nat.le_of_ble_eq_true rfl, Nat.le_of_ble_eq_true rfl⟩ zM_0 rfl rfl rfl (Nat.le_of_ble_eq_true rfl) (kX12_term 2 y1.2) (fun y2 => ?_)
    refine q_ineg dX12_isRun_22 ?_
    refine q_istore (i := 5) (L' := [(5, .int (-y2)), (0, .ref 0), (1, .int p1), (2, .int p2), (3, .int p3), (4, .int p4)]) dX12_isRun_23 (Nat.le_of_ble_eq_true rfl) rfl ?_
    exact q_sub [1, 2, 3, 4, 5, 0] rfl (aX12_isRun_l25 N N p1 p2 p3 p4 (-y2) y1.2)
  refine q_iconst (v := 0) dX12_isRun_15 (by decide) ?_
  exact q_iretz (y := (0, y1.2)) dX12_isRun_16 rfl rfl rfl
theorem kX12_isRun  (N : Nat) (p1 : Int32) (p2 : Int32) (p3 : Int32) (p4 : Int32)  (σ : qMem) : qMc wM mX12_isRun (ρi) [.ref 0, .int p1, .int p2, .int p3, .int p4] σ (fX12_isRun N p1 p2 p3 p4 σ) := qMc_of (moX12_isRun) (Nat.le_of_ble_eq_true rfl) (aX12_isRun N p1 p2 p3 p4  σ)

theorem dX12_eastOf_0 : decode cX12_eastOf 0 = .ok (.iload_n 0, 1) := by decide +kernel
theorem dX12_eastOf_1 : decode cX12_eastOf 1 = .ok (.sipush 1568, 3) := by decide +kernel
theorem dX12_eastOf_4 : decode cX12_eastOf 4 = .ok (.idiv, 1) := by decide +kernel
theorem dX12_eastOf_5 : decode cX12_eastOf 5 = .ok (.ireturn, 1) := by decide +kernel

def fX12_eastOf (p0 : Int32) : Option Int32 :=
  (some (p0 / 1568))
set_option maxRecDepth 20000 in
set_option maxHeartbeats 4000000 in
theorem aX12_eastOf  (p0 : Int32)  (σ : qMem) : qAt wM mX12_eastOf (ρp σ) 0 [(0, .int p0)] [] σ (fX12_eastOf p0) := by
  unfold fX12_eastOf
  refine q_iload_n (i := 0) (x := p0) dX12_eastOf_0 rfl 0 rfl ?_
  refine q_sipush (v := 1568) dX12_eastOf_1 (by decide) ?_
  refine q_idiv dX12_eastOf_4 (by decide) ?_
  exact q_ireti (y := (p0 / 1568)) dX12_eastOf_5 rfl rfl
theorem kX12_eastOf  (p0 : Int32)  (σ : qMem) : qMc wM mX12_eastOf (ρp σ) [.int p0] σ (fX12_eastOf p0) := qMc_of (moX12_eastOf) (Nat.le_of_ble_eq_true rfl) (aX12_eastOf p0  σ)

theorem dX12_northOf_0 : decode cX12_northOf 0 = .ok (.iload_n 0, 1) := by decide +kernel
theorem dX12_northOf_1 : decode cX12_northOf 1 = .ok (.bipush 49, 2) := by decide +kernel
theorem dX12_northOf_3 : decode cX12_northOf 3 = .ok (.idiv, 1) := by decide +kernel
theorem dX12_northOf_4 : decode cX12_northOf 4 = .ok (.bipush 32, 2) := by decide +kernel
theorem dX12_northOf_6 : decode cX12_northOf 6 = .ok (.irem, 1) := by decide +kernel
theorem dX12_northOf_7 : decode cX12_northOf 7 = .ok (.ireturn, 1) := by decide +kernel

def fX12_northOf (p0 : Int32) : Option Int32 :=
  (some (irm (p0 / 49) 32))
set_option maxRecDepth 20000 in
set_option maxHeartbeats 4000000 in
theorem aX12_northOf  (p0 : Int32)  (σ : qMem) : qAt wM mX12_northOf (ρp σ) 0 [(0, .int p0)] [] σ (fX12_northOf p0) := by
  unfold fX12_northOf
  refine q_iload_n (i := 0) (x := p0) dX12_northOf_0 rfl 0 rfl ?_
  refine q_bipush (v := 49) dX12_northOf_1 (by decide) ?_
  refine q_idiv dX12_northOf_3 (by decide) ?_
  refine q_bipush (v := 32) dX12_northOf_4 (by decide) ?_
  refine q_irem dX12_northOf_6 (by decide) ?_
  exact q_ireti (y := (irm (p0 / 49) 32)) dX12_northOf_7 rfl rfl
theorem kX12_northOf  (p0 : Int32)  (σ : qMem) : qMc wM mX12_northOf (ρp σ) [.int p0] σ (fX12_northOf p0) := qMc_of (moX12_northOf) (Nat.le_of_ble_eq_true rfl) (aX12_northOf p0  σ)

theorem dX12_eastBy_0 : decode cX12_eastBy 0 = .ok (.iload_n 0, 1) := by decide +kernel
theorem dX12_eastBy_1 : decode cX12_eastBy 1 = .ok (.bipush 7, 2) := by decide +kernel
theorem dX12_eastBy_3 : decode cX12_eastBy 3 = .ok (.idiv, 1) := by decide +kernel
theorem dX12_eastBy_4 : decode cX12_eastBy 4 = .ok (.bipush 7, 2) := by decide +kernel
theorem dX12_eastBy_6 : decode cX12_eastBy 6 = .ok (.irem, 1) := by decide +kernel
theorem dX12_eastBy_7 : decode cX12_eastBy 7 = .ok (.iconst 3, 1) := by decide +kernel
theorem dX12_eastBy_8 : decode cX12_eastBy 8 = .ok (.isub, 1) := by decide +kernel
theorem dX12_eastBy_9 : decode cX12_eastBy 9 = .ok (.ireturn, 1) := by decide +kernel

def fX12_eastBy (p0 : Int32) : Option Int32 :=
  (some ((irm (p0 / 7) 7) - 3))
set_option maxRecDepth 20000 in
set_option maxHeartbeats 4000000 in
theorem aX12_eastBy  (p0 : Int32)  (σ : qMem) : qAt wM mX12_eastBy (ρp σ) 0 [(0, .int p0)] [] σ (fX12_eastBy p0) := by
  unfold fX12_eastBy
  refine q_iload_n (i := 0) (x := p0) dX12_eastBy_0 rfl 0 rfl ?_
  refine q_bipush (v := 7) dX12_eastBy_1 (by decide) ?_
  refine q_idiv dX12_eastBy_3 (by decide) ?_
  refine q_bipush (v := 7) dX12_eastBy_4 (by decide) ?_
  refine q_irem dX12_eastBy_6 (by decide) ?_
  refine q_iconst (v := 3) dX12_eastBy_7 (by decide) ?_
  refine q_isub dX12_eastBy_8 ?_
  exact q_ireti (y := ((irm (p0 / 7) 7) - 3)) dX12_eastBy_9 rfl rfl
theorem kX12_eastBy  (p0 : Int32)  (σ : qMem) : qMc wM mX12_eastBy (ρp σ) [.int p0] σ (fX12_eastBy p0) := qMc_of (moX12_eastBy) (Nat.le_of_ble_eq_true rfl) (aX12_eastBy p0  σ)

theorem dX12_northBy_0 : decode cX12_northBy 0 = .ok (.iload_n 0, 1) := by decide +kernel
theorem dX12_northBy_1 : decode cX12_northBy 1 = .ok (.bipush 7, 2) := by decide +kernel
theorem dX12_northBy_3 : decode cX12_northBy 3 = .ok (.irem, 1) := by decide +kernel
theorem dX12_northBy_4 : decode cX12_northBy 4 = .ok (.iconst 3, 1) := by decide +kernel
theorem dX12_northBy_5 : decode cX12_northBy 5 = .ok (.isub, 1) := by decide +kernel
theorem dX12_northBy_6 : decode cX12_northBy 6 = .ok (.ireturn, 1) := by decide +kernel

def fX12_northBy (p0 : Int32) : Option Int32 :=
  (some ((irm p0 7) - 3))
set_option maxRecDepth 20000 in
set_option maxHeartbeats 4000000 in
theorem aX12_northBy  (p0 : Int32)  (σ : qMem) : qAt wM mX12_northBy (ρp σ) 0 [(0, .int p0)] [] σ (fX12_northBy p0) := by
  unfold fX12_northBy
  refine q_iload_n (i := 0) (x := p0) dX12_northBy_0 rfl 0 rfl ?_
  refine q_bipush (v := 7) dX12_northBy_1 (by decide) ?_
  refine q_irem dX12_northBy_3 (by decide) ?_
  refine q_iconst (v := 3) dX12_northBy_4 (by decide) ?_
  refine q_isub dX12_northBy_5 ?_
  exact q_ireti (y := ((irm p0 7) - 3)) dX12_northBy_6 rfl rfl
theorem kX12_northBy  (p0 : Int32)  (σ : qMem) : qMc wM mX12_northBy (ρp σ) [.int p0] σ (fX12_northBy p0) := qMc_of (moX12_northBy) (Nat.le_of_ble_eq_true rfl) (aX12_northBy p0  σ)

theorem dX12_fits_0 : decode cX12_fits 0 = .ok (.aload_n 0, 1) := by decide +kernel
theorem dX12_fits_1 : decode cX12_fits 1 = .ok (.getfield 43, 3) := by decide +kernel
theorem dX12_fits_4 : decode cX12_fits 4 = .ok (.aload_n 0, 1) := by decide +kernel
theorem dX12_fits_5 : decode cX12_fits 5 = .ok (.getfield 11, 3) := by decide +kernel
theorem dX12_fits_8 : decode cX12_fits 8 = .ok (.if_icmp .ne 4, 3) := by decide +kernel
theorem dX12_fits_11 : decode cX12_fits 11 = .ok (.return_, 1) := by decide +kernel
theorem dX12_fits_12 : decode cX12_fits 12 = .ok (.aload_n 0, 1) := by decide +kernel
theorem dX12_fits_13 : decode cX12_fits 13 = .ok (.aload_n 0, 1) := by decide +kernel
theorem dX12_fits_14 : decode cX12_fits 14 = .ok (.getfield 11, 3) := by decide +kernel
theorem dX12_fits_17 : decode cX12_fits 17 = .ok (.putfield 43, 3) := by decide +kernel
theorem dX12_fits_20 : decode cX12_fits 20 = .ok (.aload_n 0, 1) := by decide +kernel
theorem dX12_fits_21 : decode cX12_fits 21 = .ok (.invokevirtual 223, 3) := by decide +kernel
theorem dX12_fits_24 : decode cX12_fits 24 = .ok (.aload_n 0, 1) := by decide +kernel
theorem dX12_fits_25 : decode cX12_fits 25 = .ok (.iconst 0, 1) := by decide +kernel
theorem dX12_fits_26 : decode cX12_fits 26 = .ok (.putfield 226, 3) := by decide +kernel
theorem dX12_fits_29 : decode cX12_fits 29 = .ok (.iconst 0, 1) := by decide +kernel
theorem dX12_fits_30 : decode cX12_fits 30 = .ok (.istore_n 1, 1) := by decide +kernel
theorem dX12_fits_31 : decode cX12_fits 31 = .ok (.iload_n 1, 1) := by decide +kernel
theorem dX12_fits_32 : decode cX12_fits 32 = .ok (.ldc 39, 2) := by decide +kernel
theorem dX12_fits_34 : decode cX12_fits 34 = .ok (.if_icmp .ge 58, 3) := by decide +kernel
theorem dX12_fits_37 : decode cX12_fits 37 = .ok (.aload_n 0, 1) := by decide +kernel
theorem dX12_fits_38 : decode cX12_fits 38 = .ok (.getfield 40, 3) := by decide +kernel
theorem dX12_fits_41 : decode cX12_fits 41 = .ok (.iload_n 1, 1) := by decide +kernel
theorem dX12_fits_42 : decode cX12_fits 42 = .ok (.aload_n 0, 1) := by decide +kernel
theorem dX12_fits_43 : decode cX12_fits 43 = .ok (.iload_n 1, 1) := by decide +kernel
theorem dX12_fits_44 : decode cX12_fits 44 = .ok (.invokestatic 229, 3) := by decide +kernel
theorem dX12_fits_47 : decode cX12_fits 47 = .ok (.iload_n 1, 1) := by decide +kernel
theorem dX12_fits_48 : decode cX12_fits 48 = .ok (.invokestatic 232, 3) := by decide +kernel
theorem dX12_fits_51 : decode cX12_fits 51 = .ok (.iload_n 1, 1) := by decide +kernel
theorem dX12_fits_52 : decode cX12_fits 52 = .ok (.invokestatic 235, 3) := by decide +kernel
theorem dX12_fits_55 : decode cX12_fits 55 = .ok (.iload_n 1, 1) := by decide +kernel
theorem dX12_fits_56 : decode cX12_fits 56 = .ok (.invokestatic 238, 3) := by decide +kernel
theorem dX12_fits_59 : decode cX12_fits 59 = .ok (.invokevirtual 241, 3) := by decide +kernel
theorem dX12_fits_62 : decode cX12_fits 62 = .ok (.bastore, 1) := by decide +kernel
theorem dX12_fits_63 : decode cX12_fits 63 = .ok (.aload_n 0, 1) := by decide +kernel
theorem dX12_fits_64 : decode cX12_fits 64 = .ok (.dup, 1) := by decide +kernel
theorem dX12_fits_65 : decode cX12_fits 65 = .ok (.getfield 226, 3) := by decide +kernel
theorem dX12_fits_68 : decode cX12_fits 68 = .ok (.aload_n 0, 1) := by decide +kernel
theorem dX12_fits_69 : decode cX12_fits 69 = .ok (.getfield 40, 3) := by decide +kernel
theorem dX12_fits_72 : decode cX12_fits 72 = .ok (.iload_n 1, 1) := by decide +kernel
theorem dX12_fits_73 : decode cX12_fits 73 = .ok (.baload, 1) := by decide +kernel
theorem dX12_fits_74 : decode cX12_fits 74 = .ok (.ifCond .eq 7, 3) := by decide +kernel
theorem dX12_fits_77 : decode cX12_fits 77 = .ok (.iconst 1, 1) := by decide +kernel
theorem dX12_fits_78 : decode cX12_fits 78 = .ok (.goto 4, 3) := by decide +kernel
theorem dX12_fits_81 : decode cX12_fits 81 = .ok (.iconst 0, 1) := by decide +kernel
theorem dX12_fits_82 : decode cX12_fits 82 = .ok (.iadd, 1) := by decide +kernel
theorem dX12_fits_83 : decode cX12_fits 83 = .ok (.putfield 226, 3) := by decide +kernel
theorem dX12_fits_86 : decode cX12_fits 86 = .ok (.iinc 1 1, 3) := by decide +kernel
theorem dX12_fits_89 : decode cX12_fits 89 = .ok (.goto (-58), 3) := by decide +kernel
theorem dX12_fits_92 : decode cX12_fits 92 = .ok (.return_, 1) := by decide +kernel
def fX12_fits_b82 (N : Nat) (c31 : Int32 → qMem → Option qMem) (v1 : Int32) (u1 : Int32) (u2 : Int32) (σ : qMem) : Option qMem :=
  (nmM (si σ 0 12 (u1 + u2)) fun s10 => (c31 (v1 + 1) s10))
set_option maxRecDepth 20000 in
set_option maxHeartbeats 4000000 in
theorem aX12_fits_b82 (N : Nat) (c31 : Int32 → qMem → Option qMem) (hc31 : ∀ (v1 : Int32) (σ : qMem), qAt wM mX12_fits (ρv) 31 [(0, .ref 0), (1, .int v1)] [] σ (c31 v1 σ)) (v1 : Int32) (u1 : Int32) (u2 : Int32) (σ : qMem) : qAt wM mX12_fits (ρv) 82 [(0, .ref 0), (1, .int v1)] [.int u2, .int u1, .ref 0] σ (fX12_fits_b82 N c31 v1 u1 u2 σ) := by
  unfold fX12_fits_b82
  refine q_iadd dX12_fits_82 ?_
  refine q_puti dX12_fits_83 foX12_226 fwX12_12 zM_0 rfl ?_
  refine q_nmM (fun s10 => ?_)
  refine q_iinc (i := 1) (x := v1) (v := (v1 + 1)) (L' := [(1, .int (v1 + 1)), (0, .ref 0)]) dX12_fits_86 1 rfl (q_cst v1 (by decide)) (Nat.le_of_ble_eq_true rfl) rfl ?_
  refine q_goto (tgt := 31) dX12_fits_89 (by decide) ?_
  exact q_sub [1, 0] rfl (hc31 (v1 + 1) s10)

def fX12_fits_s31 (N : Nat) (c31 : Int32 → qMem → Option qMem) (v1 : Int32) (σ : qMem) : Option qMem :=
  (if 50176 ≤ v1 then (some σ) else ((fX12_eastOf v1).bind fun y4 => ((fX12_northOf v1).bind fun y5 => ((fX12_eastBy v1).bind fun y6 => ((fX12_northBy v1).bind fun y7 => ((fX12_isRun N y4 y5 y6 y7 σ).bind fun y8 => (if ck v1 50176 = true then (nmM (si y8.2 7 v1.toNatClampNeg (vp_nar .boolean y8.1)) fun s9 => (if ck v1 50176 = true then (if (gi s9 7 v1.toNatClampNeg) = 0 then (fX12_fits_b82 N c31 v1 (gi s9 0 12) 0 s9) else (fX12_fits_b82 N c31 v1 (gi s9 0 12) 1 s9)) else none)) else none)))))))
set_option maxRecDepth 20000 in
set_option maxHeartbeats 4000000 in
theorem aX12_fits_s31 (N : Nat) (c31 : Int32 → qMem → Option qMem) (hc31 : ∀ (v1 : Int32) (σ : qMem), qAt wM mX12_fits (ρv) 31 [(0, .ref 0), (1, .int v1)] [] σ (c31 v1 σ)) (v1 : Int32) (σ : qMem) : qAt wM mX12_fits (ρv) 31 [(0, .ref 0), (1, .int v1)] [] σ (fX12_fits_s31 N c31 v1 σ) := by
  unfold fX12_fits_s31
  refine q_iload_n (i := 1) (x := v1) dX12_fits_31 rfl 1 rfl ?_
  refine q_ldc (v := 50176) dX12_fits_32 (g_6 93 (by decide +kernel) rfl) ?_
  refine q_icmp_ge (tgt := 92) dX12_fits_34 (by decide) ?_ ?_
  · exact q_vret (y := σ) dX12_fits_92 rfl rfl
  refine q_aload_n (i := 0) (x := 0) dX12_fits_37 rfl 0 rfl ?_
  refine q_getr (t := 7) dX12_fits_38 foX12_40 zM_0 rfl ?_
  refine q_iload_n (i := 1) (x := v1) dX12_fits_41 rfl 1 rfl ?_
  refine q_aload_n (i := 0) (x := 0) dX12_fits_42 rfl 0 rfl ?_
  refine q_iload_n (i := 1) (x := v1) dX12_fits_43 rfl 1 rfl ?_
  refine q_cSp mX12_eastOf [.int v1] (st := [.ref 0, .int v1, .ref 7]) dX12_fits_44 (ssX12_229) ⟨Nat.le_of_ble_eq_true rfl, Nat.le_of_ble_eq_true rfl⟩ rfl rfl (Nat.le_of_ble_eq_true rfl) (kX12_eastOf v1 σ) (fun y4 => ?_)
  refine q_iload_n (i := 1) (x := v1) dX12_fits_47 rfl 1 rfl ?_
  refine q_cSp mX12_northOf [.int v1] (st := [.int y4, .ref 0, .int v1, .ref 7]) dX12_fits_48 (ssX12_232) ⟨Nat.le_of_ble_eq_true rfl, Nat.le_of_ble_eq_true rfl⟩ rfl rfl (Nat.le_of_ble_eq_true rfl) (kX12_northOf v1 σ) (fun y5 => ?_)
  refine q_iload_n (i := 1) (x := v1) dX12_fits_51 rfl 1 rfl ?_
  refine q_cSp mX12_eastBy [.int v1] (st := [.int y5, .int y4, .ref 0, .int v1, .ref 7]) dX12_fits_52 (ssX12_235) ⟨Nat.le_of_ble_eq_true rfl, Nat.le_of_ble_eq_true rfl⟩ rfl rfl (Nat.le_of_ble_eq_true rfl) (kX12_eastBy v1 σ) (fun y6 => ?_)
  refine q_iload_n (i := 1) (x := v1) dX12_fits_55 rfl 1 rfl ?_
  refine q_cSp mX12_northBy [.int v1] (st := [.int y6, .int y5, .int y4, .ref 0, .int v1, .ref 7]) dX12_fits_56 (ssX12_238) ⟨Nat.le_of_ble_eq_true rfl, Nat.le_of_ble_eq_true rfl⟩ rfl rfl (Nat.le_of_ble_eq_true rfl) (kX12_northBy v1 σ) (fun y7 => ?_)
  refine q_cVi mX12_isRun [.int y4, .int y5, .int y6, .int y7] (st := [.int v1, .ref 7]) dX12_fits_59 (svX12_241) ⟨Nat.le_of_ble_eq_true rfl, Nat.le_of_ble_eq_true rfl⟩ zM_0 rfl rfl rfl (Nat.le_of_ble_eq_true rfl) (kX12_isRun N y4 y5 y6 y7 σ) (fun y8 => ?_)
  refine q_zast dX12_fits_62 zM_7 ?_
  refine q_nmM (fun s9 => ?_)
  refine q_aload_n (i := 0) (x := 0) dX12_fits_63 rfl 0 rfl ?_
  refine q_dup dX12_fits_64 rfl ?_
  refine q_geti dX12_fits_65 foX12_226 zM_0 rfl ?_
  refine q_aload_n (i := 0) (x := 0) dX12_fits_68 rfl 0 rfl ?_
  refine q_getr (t := 7) dX12_fits_69 foX12_40 zM_0 rfl ?_
  refine q_iload_n (i := 1) (x := v1) dX12_fits_72 rfl 1 rfl ?_
  refine q_zald dX12_fits_73 zM_7 ?_
  refine q_if_eq (tgt := 81) dX12_fits_74 (by decide) ?_ ?_
  · refine q_iconst (v := 0) dX12_fits_81 (by decide) ?_
    exact q_sub [0, 1] rfl (aX12_fits_b82 N c31 hc31 v1 (gi s9 0 12) 0 s9)
  refine q_iconst (v := 1) dX12_fits_77 (by decide) ?_
  refine q_goto (tgt := 82) dX12_fits_78 (by decide) ?_
  exact q_sub [0, 1] rfl (aX12_fits_b82 N c31 hc31 v1 (gi s9 0 12) 1 s9)
def fX12_fits_l31 (N : Nat) : Nat → Int32 → qMem → Option qMem
  | 0 => fun _ _ => none
  | n + 1 => fun v1 σ => fX12_fits_s31 N (fX12_fits_l31 N n) v1 σ
theorem aX12_fits_l31 (N : Nat) : ∀ (n : Nat) (v1 : Int32) (σ : qMem), qAt wM mX12_fits (ρv) 31 [(0, .ref 0), (1, .int v1)] [] σ (fX12_fits_l31 N n v1 σ) := by
  intro n
  induction n with
  | zero => intro v1 σ; exact q_none
  | succ n ih => intro v1 σ; exact aX12_fits_s31 N (fX12_fits_l31 N n) ih v1 σ

def fX12_fits (N : Nat)  (σ : qMem) : Option qMem :=
  (if (gi σ 0 13) = (gi σ 0 2) then (some σ) else (nmM (si σ 0 13 (gi σ 0 2)) fun s1 => ((fX12_laysNews N s1).bind fun y2 => (nmM (si y2 0 12 0) fun s3 => (fX12_fits_l31 N N 0 s3)))))
set_option maxRecDepth 20000 in
set_option maxHeartbeats 4000000 in
theorem aX12_fits  (N : Nat)   (σ : qMem) : qAt wM mX12_fits (ρv) 0 [(0, .ref 0)] [] σ (fX12_fits N σ) := by
  unfold fX12_fits
  refine q_aload_n (i := 0) (x := 0) dX12_fits_0 rfl 0 rfl ?_
  refine q_geti dX12_fits_1 foX12_43 zM_0 rfl ?_
  refine q_aload_n (i := 0) (x := 0) dX12_fits_4 rfl 0 rfl ?_
  refine q_geti dX12_fits_5 foX12_11 zM_0 rfl ?_
  refine q_icmp_ne (tgt := 12) dX12_fits_8 (by decide) ?_ ?_
  · refine q_aload_n (i := 0) (x := 0) dX12_fits_12 rfl 0 rfl ?_
    refine q_aload_n (i := 0) (x := 0) dX12_fits_13 rfl 0 rfl ?_
    refine q_geti dX12_fits_14 foX12_11 zM_0 rfl ?_
    refine q_puti dX12_fits_17 foX12_43 fwX12_13 zM_0 rfl ?_
    refine q_nmM (fun s1 => ?_)
    refine q_aload_n (i := 0) (x := 0) dX12_fits_20 rfl 0 rfl ?_
    refine q_cVv mX12_laysNews [] (st := []) dX12_fits_21 (svX12_223) ⟨Nat.le_of_ble_eq_true rfl, Nat.le_of_ble_eq_true rfl⟩ zM_0 rfl rfl rfl (Nat.le_of_ble_eq_true rfl) (kX12_laysNews N s1) (fun y2 => ?_)
    refine q_aload_n (i := 0) (x := 0) dX12_fits_24 rfl 0 rfl ?_
    refine q_iconst (v := 0) dX12_fits_25 (by decide) ?_
    refine q_puti dX12_fits_26 foX12_226 fwX12_12 zM_0 rfl ?_
    refine q_nmM (fun s3 => ?_)
    refine q_iconst (v := 0) dX12_fits_29 (by decide) ?_
    refine q_istore_n (i := 1) (L' := [(1, .int 0), (0, .ref 0)]) dX12_fits_30 rfl (Nat.le_of_ble_eq_true rfl) rfl ?_
    exact q_sub [1, 0] rfl (aX12_fits_l31 N N 0 s3)
  exact q_vret (y := σ) dX12_fits_11 rfl rfl
theorem kX12_fits  (N : Nat)   (σ : qMem) : qMc wM mX12_fits (ρv) [.ref 0] σ (fX12_fits N σ) := qMc_of (moX12_fits) (Nat.le_of_ble_eq_true rfl) (aX12_fits N  σ)

theorem dX12_runs_0 : decode cX12_runs 0 = .ok (.aload_n 0, 1) := by decide +kernel
theorem dX12_runs_1 : decode cX12_runs 1 = .ok (.invokevirtual 244, 3) := by decide +kernel
theorem dX12_runs_4 : decode cX12_runs 4 = .ok (.aload_n 0, 1) := by decide +kernel
theorem dX12_runs_5 : decode cX12_runs 5 = .ok (.getfield 226, 3) := by decide +kernel
theorem dX12_runs_8 : decode cX12_runs 8 = .ok (.ireturn, 1) := by decide +kernel

def fX12_runs (N : Nat)  (σ : qMem) : Option (Int32 × qMem) :=
  ((fX12_fits N σ).bind fun y1 => (some ((gi y1 0 12), y1)))
set_option maxRecDepth 20000 in
set_option maxHeartbeats 4000000 in
theorem aX12_runs  (N : Nat)   (σ : qMem) : qAt wM mX12_runs (ρi) 0 [(0, .ref 0)] [] σ (fX12_runs N σ) := by
  unfold fX12_runs
  refine q_aload_n (i := 0) (x := 0) dX12_runs_0 rfl 0 rfl ?_
  refine q_cVv mX12_fits [] (st := []) dX12_runs_1 (svX12_244) ⟨Nat.le_of_ble_eq_true rfl, Nat.le_of_ble_eq_true rfl⟩ zM_0 rfl rfl rfl (Nat.le_of_ble_eq_true rfl) (kX12_fits N σ) (fun y1 => ?_)
  refine q_aload_n (i := 0) (x := 0) dX12_runs_4 rfl 0 rfl ?_
  refine q_geti dX12_runs_5 foX12_226 zM_0 rfl ?_
  exact q_ireti (y := ((gi y1 0 12), y1)) dX12_runs_8 rfl rfl
theorem kX12_runs  (N : Nat)   (σ : qMem) : qMc wM mX12_runs (ρi) [.ref 0] σ (fX12_runs N σ) := qMc_of (moX12_runs) (Nat.le_of_ble_eq_true rfl) (aX12_runs N  σ)

theorem dX12_run_0 : decode cX12_run 0 = .ok (.aload_n 0, 1) := by decide +kernel
theorem dX12_run_1 : decode cX12_run 1 = .ok (.invokevirtual 244, 3) := by decide +kernel
theorem dX12_run_4 : decode cX12_run 4 = .ok (.iload_n 1, 1) := by decide +kernel
theorem dX12_run_5 : decode cX12_run 5 = .ok (.iconst 0, 1) := by decide +kernel
theorem dX12_run_6 : decode cX12_run 6 = .ok (.aload_n 0, 1) := by decide +kernel
theorem dX12_run_7 : decode cX12_run 7 = .ok (.getfield 226, 3) := by decide +kernel
theorem dX12_run_10 : decode cX12_run 10 = .ok (.iconst 1, 1) := by decide +kernel
theorem dX12_run_11 : decode cX12_run 11 = .ok (.isub, 1) := by decide +kernel
theorem dX12_run_12 : decode cX12_run 12 = .ok (.invokestatic 110, 3) := by decide +kernel
theorem dX12_run_15 : decode cX12_run 15 = .ok (.ifCond .eq 12, 3) := by decide +kernel
theorem dX12_run_18 : decode cX12_run 18 = .ok (.iload_n 2, 1) := by decide +kernel
theorem dX12_run_19 : decode cX12_run 19 = .ok (.iconst 0, 1) := by decide +kernel
theorem dX12_run_20 : decode cX12_run 20 = .ok (.iconst 3, 1) := by decide +kernel
theorem dX12_run_21 : decode cX12_run 21 = .ok (.invokestatic 110, 3) := by decide +kernel
theorem dX12_run_24 : decode cX12_run 24 = .ok (.ifCond .ne 7, 3) := by decide +kernel
theorem dX12_run_27 : decode cX12_run 27 = .ok (.sipush (-1000), 3) := by decide +kernel
theorem dX12_run_30 : decode cX12_run 30 = .ok (.ireturn, 1) := by decide +kernel
theorem dX12_run_31 : decode cX12_run 31 = .ok (.iconst 0, 1) := by decide +kernel
theorem dX12_run_32 : decode cX12_run 32 = .ok (.istore_n 3, 1) := by decide +kernel
theorem dX12_run_33 : decode cX12_run 33 = .ok (.iconst 0, 1) := by decide +kernel
theorem dX12_run_34 : decode cX12_run 34 = .ok (.istore 4, 2) := by decide +kernel
theorem dX12_run_36 : decode cX12_run 36 = .ok (.aload_n 0, 1) := by decide +kernel
theorem dX12_run_37 : decode cX12_run 37 = .ok (.getfield 40, 3) := by decide +kernel
theorem dX12_run_40 : decode cX12_run 40 = .ok (.iload_n 3, 1) := by decide +kernel
theorem dX12_run_41 : decode cX12_run 41 = .ok (.baload, 1) := by decide +kernel
theorem dX12_run_42 : decode cX12_run 42 = .ok (.ifCond .eq 9, 3) := by decide +kernel
theorem dX12_run_45 : decode cX12_run 45 = .ok (.iload 4, 2) := by decide +kernel
theorem dX12_run_47 : decode cX12_run 47 = .ok (.iload_n 1, 1) := by decide +kernel
theorem dX12_run_48 : decode cX12_run 48 = .ok (.if_icmp .ge 28, 3) := by decide +kernel
theorem dX12_run_51 : decode cX12_run 51 = .ok (.iload 4, 2) := by decide +kernel
theorem dX12_run_53 : decode cX12_run 53 = .ok (.aload_n 0, 1) := by decide +kernel
theorem dX12_run_54 : decode cX12_run 54 = .ok (.getfield 40, 3) := by decide +kernel
theorem dX12_run_57 : decode cX12_run 57 = .ok (.iload_n 3, 1) := by decide +kernel
theorem dX12_run_58 : decode cX12_run 58 = .ok (.baload, 1) := by decide +kernel
theorem dX12_run_59 : decode cX12_run 59 = .ok (.ifCond .eq 7, 3) := by decide +kernel
theorem dX12_run_62 : decode cX12_run 62 = .ok (.iconst 1, 1) := by decide +kernel
theorem dX12_run_63 : decode cX12_run 63 = .ok (.goto 4, 3) := by decide +kernel
theorem dX12_run_66 : decode cX12_run 66 = .ok (.iconst 0, 1) := by decide +kernel
theorem dX12_run_67 : decode cX12_run 67 = .ok (.iadd, 1) := by decide +kernel
theorem dX12_run_68 : decode cX12_run 68 = .ok (.istore 4, 2) := by decide +kernel
theorem dX12_run_70 : decode cX12_run 70 = .ok (.iinc 3 1, 3) := by decide +kernel
theorem dX12_run_73 : decode cX12_run 73 = .ok (.goto (-37), 3) := by decide +kernel
theorem dX12_run_76 : decode cX12_run 76 = .ok (.iload_n 2, 1) := by decide +kernel
theorem dX12_run_77 : decode cX12_run 77 = .ok (.ifCond .ne 10, 3) := by decide +kernel
theorem dX12_run_80 : decode cX12_run 80 = .ok (.iload_n 3, 1) := by decide +kernel
theorem dX12_run_81 : decode cX12_run 81 = .ok (.invokestatic 229, 3) := by decide +kernel
theorem dX12_run_84 : decode cX12_run 84 = .ok (.goto 31, 3) := by decide +kernel
theorem dX12_run_87 : decode cX12_run 87 = .ok (.iload_n 2, 1) := by decide +kernel
theorem dX12_run_88 : decode cX12_run 88 = .ok (.iconst 1, 1) := by decide +kernel
theorem dX12_run_89 : decode cX12_run 89 = .ok (.if_icmp .ne 10, 3) := by decide +kernel
theorem dX12_run_92 : decode cX12_run 92 = .ok (.iload_n 3, 1) := by decide +kernel
theorem dX12_run_93 : decode cX12_run 93 = .ok (.invokestatic 232, 3) := by decide +kernel
theorem dX12_run_96 : decode cX12_run 96 = .ok (.goto 19, 3) := by decide +kernel
theorem dX12_run_99 : decode cX12_run 99 = .ok (.iload_n 2, 1) := by decide +kernel
theorem dX12_run_100 : decode cX12_run 100 = .ok (.iconst 2, 1) := by decide +kernel
theorem dX12_run_101 : decode cX12_run 101 = .ok (.if_icmp .ne 10, 3) := by decide +kernel
theorem dX12_run_104 : decode cX12_run 104 = .ok (.iload_n 3, 1) := by decide +kernel
theorem dX12_run_105 : decode cX12_run 105 = .ok (.invokestatic 235, 3) := by decide +kernel
theorem dX12_run_108 : decode cX12_run 108 = .ok (.goto 7, 3) := by decide +kernel
theorem dX12_run_111 : decode cX12_run 111 = .ok (.iload_n 3, 1) := by decide +kernel
theorem dX12_run_112 : decode cX12_run 112 = .ok (.invokestatic 238, 3) := by decide +kernel
theorem dX12_run_115 : decode cX12_run 115 = .ok (.ireturn, 1) := by decide +kernel
def fX12_run_b67 (N : Nat) (c36 : Int32 → Int32 → Int32 → Int32 → qMem → Option (Int32 × qMem)) (v1 : Int32) (v2 : Int32) (v3 : Int32) (u0 : Int32) (u1 : Int32) (σ : qMem) : Option (Int32 × qMem) :=
  (c36 v1 v2 (v3 + 1) (u0 + u1) σ)
set_option maxRecDepth 20000 in
set_option maxHeartbeats 4000000 in
theorem aX12_run_b67 (N : Nat) (c36 : Int32 → Int32 → Int32 → Int32 → qMem → Option (Int32 × qMem)) (hc36 : ∀ (v1 : Int32) (v2 : Int32) (v3 : Int32) (v4 : Int32) (σ : qMem), qAt wM mX12_run (ρi) 36 [(0, .ref 0), (1, .int v1), (2, .int v2), (3, .int v3), (4, .int v4)] [] σ (c36 v1 v2 v3 v4 σ)) (v1 : Int32) (v2 : Int32) (v3 : Int32) (u0 : Int32) (u1 : Int32) (σ : qMem) : qAt wM mX12_run (ρi) 67 [(0, .ref 0), (1, .int v1), (2, .int v2), (3, .int v3)] [.int u1, .int u0] σ (fX12_run_b67 N c36 v1 v2 v3 u0 u1 σ) := by
  unfold fX12_run_b67
  refine q_iadd dX12_run_67 ?_
  refine q_istore (i := 4) (L' := [(4, .int (u0 + u1)), (0, .ref 0), (1, .int v1), (2, .int v2), (3, .int v3)]) dX12_run_68 (Nat.le_of_ble_eq_true rfl) rfl ?_
  refine q_iinc (i := 3) (x := v3) (v := (v3 + 1)) (L' := [(3, .int (v3 + 1)), (4, .int (u0 + u1)), (0, .ref 0), (1, .int v1), (2, .int v2)]) dX12_run_70 4 rfl (q_cst v3 (by decide)) (Nat.le_of_ble_eq_true rfl) rfl ?_
  refine q_goto (tgt := 36) dX12_run_73 (by decide) ?_
  exact q_sub [2, 3, 4, 0, 1] rfl (hc36 v1 v2 (v3 + 1) (u0 + u1) σ)

def fX12_run_b51 (N : Nat) (c36 : Int32 → Int32 → Int32 → Int32 → qMem → Option (Int32 × qMem)) (v1 : Int32) (v2 : Int32) (v3 : Int32) (v4 : Int32) (σ : qMem) : Option (Int32 × qMem) :=
  (if ck v3 50176 = true then (if (gi σ 7 v3.toNatClampNeg) = 0 then (fX12_run_b67 N c36 v1 v2 v3 v4 0 σ) else (fX12_run_b67 N c36 v1 v2 v3 v4 1 σ)) else none)
set_option maxRecDepth 20000 in
set_option maxHeartbeats 4000000 in
theorem aX12_run_b51 (N : Nat) (c36 : Int32 → Int32 → Int32 → Int32 → qMem → Option (Int32 × qMem)) (hc36 : ∀ (v1 : Int32) (v2 : Int32) (v3 : Int32) (v4 : Int32) (σ : qMem), qAt wM mX12_run (ρi) 36 [(0, .ref 0), (1, .int v1), (2, .int v2), (3, .int v3), (4, .int v4)] [] σ (c36 v1 v2 v3 v4 σ)) (v1 : Int32) (v2 : Int32) (v3 : Int32) (v4 : Int32) (σ : qMem) : qAt wM mX12_run (ρi) 51 [(0, .ref 0), (1, .int v1), (2, .int v2), (3, .int v3), (4, .int v4)] [] σ (fX12_run_b51 N c36 v1 v2 v3 v4 σ) := by
  unfold fX12_run_b51
  refine q_iload (i := 4) (x := v4) dX12_run_51 4 rfl ?_
  refine q_aload_n (i := 0) (x := 0) dX12_run_53 rfl 0 rfl ?_
  refine q_getr (t := 7) dX12_run_54 foX12_40 zM_0 rfl ?_
  refine q_iload_n (i := 3) (x := v3) dX12_run_57 rfl 3 rfl ?_
  refine q_zald dX12_run_58 zM_7 ?_
  refine q_if_eq (tgt := 66) dX12_run_59 (by decide) ?_ ?_
  · refine q_iconst (v := 0) dX12_run_66 (by decide) ?_
    exact q_sub [0, 1, 2, 3] rfl (aX12_run_b67 N c36 hc36 v1 v2 v3 v4 0 σ)
  refine q_iconst (v := 1) dX12_run_62 (by decide) ?_
  refine q_goto (tgt := 67) dX12_run_63 (by decide) ?_
  exact q_sub [0, 1, 2, 3] rfl (aX12_run_b67 N c36 hc36 v1 v2 v3 v4 1 σ)

def fX12_run_s36 (N : Nat) (c36 : Int32 → Int32 → Int32 → Int32 → qMem → Option (Int32 × qMem)) (v1 : Int32) (v2 : Int32) (v3 : Int32) (v4 : Int32) (σ : qMem) : Option (Int32 × qMem) :=
  (if ck v3 50176 = true then (if (gi σ 7 v3.toNatClampNeg) = 0 then (fX12_run_b51 N c36 v1 v2 v3 v4 σ) else (if v1 ≤ v4 then (if v2 = 0 then ((fX12_eastOf v3).bind fun y7 => (some (y7, σ))) else (if v2 = 1 then ((fX12_northOf v3).bind fun y6 => (some (y6, σ))) else (if v2 = 2 then ((fX12_eastBy v3).bind fun y5 => (some (y5, σ))) else ((fX12_northBy v3).bind fun y4 => (some (y4, σ)))))) else (fX12_run_b51 N c36 v1 v2 v3 v4 σ))) else none)
set_option maxRecDepth 20000 in
set_option maxHeartbeats 4000000 in
theorem aX12_run_s36 (N : Nat) (c36 : Int32 → Int32 → Int32 → Int32 → qMem → Option (Int32 × qMem)) (hc36 : ∀ (v1 : Int32) (v2 : Int32) (v3 : Int32) (v4 : Int32) (σ : qMem), qAt wM mX12_run (ρi) 36 [(0, .ref 0), (1, .int v1), (2, .int v2), (3, .int v3), (4, .int v4)] [] σ (c36 v1 v2 v3 v4 σ)) (v1 : Int32) (v2 : Int32) (v3 : Int32) (v4 : Int32) (σ : qMem) : qAt wM mX12_run (ρi) 36 [(0, .ref 0), (1, .int v1), (2, .int v2), (3, .int v3), (4, .int v4)] [] σ (fX12_run_s36 N c36 v1 v2 v3 v4 σ) := by
  unfold fX12_run_s36
  refine q_aload_n (i := 0) (x := 0) dX12_run_36 rfl 0 rfl ?_
  refine q_getr (t := 7) dX12_run_37 foX12_40 zM_0 rfl ?_
  refine q_iload_n (i := 3) (x := v3) dX12_run_40 rfl 3 rfl ?_
  refine q_zald dX12_run_41 zM_7 ?_
  refine q_if_eq (tgt := 51) dX12_run_42 (by decide) ?_ ?_
  · exact q_sub [0, 1, 2, 3, 4] rfl (aX12_run_b51 N c36 hc36 v1 v2 v3 v4 σ)
  refine q_iload (i := 4) (x := v4) dX12_run_45 4 rfl ?_
  refine q_iload_n (i := 1) (x := v1) dX12_run_47 rfl 1 rfl ?_
  refine q_icmp_ge (tgt := 76) dX12_run_48 (by decide) ?_ ?_
  · refine q_iload_n (i := 2) (x := v2) dX12_run_76 rfl 2 rfl ?_
    refine q_if_ne (tgt := 87) dX12_run_77 (by decide) ?_ ?_
    · refine q_iload_n (i := 2) (x := v2) dX12_run_87 rfl 2 rfl ?_
      refine q_iconst (v := 1) dX12_run_88 (by decide) ?_
      refine q_icmp_ne (tgt := 99) dX12_run_89 (by decide) ?_ ?_
      · refine q_iload_n (i := 2) (x := v2) dX12_run_99 rfl 2 rfl ?_
        refine q_iconst (v := 2) dX12_run_100 (by decide) ?_
        refine q_icmp_ne (tgt := 111) dX12_run_101 (by decide) ?_ ?_
        · refine q_iload_n (i := 3) (x := v3) dX12_run_111 rfl 3 rfl ?_
          refine q_cSp mX12_northBy [.int v3] (st := []) dX12_run_112 (ssX12_238) ⟨Nat.le_of_ble_eq_true rfl, Nat.le_of_ble_eq_true rfl⟩ rfl rfl (Nat.le_of_ble_eq_true rfl) (kX12_northBy v3 σ) (fun y4 => ?_)
          exact q_ireti (y := (y4, σ)) dX12_run_115 rfl rfl
        refine q_iload_n (i := 3) (x := v3) dX12_run_104 rfl 3 rfl ?_
        refine q_cSp mX12_eastBy [.int v3] (st := []) dX12_run_105 (ssX12_235) ⟨Nat.le_of_ble_eq_true rfl, Nat.le_of_ble_eq_true rfl⟩ rfl rfl (Nat.le_of_ble_eq_true rfl) (kX12_eastBy v3 σ) (fun y5 => ?_)
        refine q_goto (tgt := 115) dX12_run_108 (by decide) ?_
        exact q_ireti (y := (y5, σ)) dX12_run_115 rfl rfl
      refine q_iload_n (i := 3) (x := v3) dX12_run_92 rfl 3 rfl ?_
      refine q_cSp mX12_northOf [.int v3] (st := []) dX12_run_93 (ssX12_232) ⟨Nat.le_of_ble_eq_true rfl, Nat.le_of_ble_eq_true rfl⟩ rfl rfl (Nat.le_of_ble_eq_true rfl) (kX12_northOf v3 σ) (fun y6 => ?_)
      refine q_goto (tgt := 115) dX12_run_96 (by decide) ?_
      exact q_ireti (y := (y6, σ)) dX12_run_115 rfl rfl
    refine q_iload_n (i := 3) (x := v3) dX12_run_80 rfl 3 rfl ?_
    refine q_cSp mX12_eastOf [.int v3] (st := []) dX12_run_81 (ssX12_229) ⟨Nat.le_of_ble_eq_true rfl, Nat.le_of_ble_eq_true rfl⟩ rfl rfl (Nat.le_of_ble_eq_true rfl) (kX12_eastOf v3 σ) (fun y7 => ?_)
    refine q_goto (tgt := 115) dX12_run_84 (by decide) ?_
    exact q_ireti (y := (y7, σ)) dX12_run_115 rfl rfl
  exact q_sub [0, 1, 2, 3, 4] rfl (aX12_run_b51 N c36 hc36 v1 v2 v3 v4 σ)
def fX12_run_l36 (N : Nat) : Nat → Int32 → Int32 → Int32 → Int32 → qMem → Option (Int32 × qMem)
  | 0 => fun _ _ _ _ _ => none
  | n + 1 => fun v1 v2 v3 v4 σ => fX12_run_s36 N (fX12_run_l36 N n) v1 v2 v3 v4 σ
theorem aX12_run_l36 (N : Nat) : ∀ (n : Nat) (v1 : Int32) (v2 : Int32) (v3 : Int32) (v4 : Int32) (σ : qMem), qAt wM mX12_run (ρi) 36 [(0, .ref 0), (1, .int v1), (2, .int v2), (3, .int v3), (4, .int v4)] [] σ (fX12_run_l36 N n v1 v2 v3 v4 σ) := by
  intro n
  induction n with
  | zero => intro v1 v2 v3 v4 σ; exact q_none
  | succ n ih => intro v1 v2 v3 v4 σ; exact aX12_run_s36 N (fX12_run_l36 N n) ih v1 v2 v3 v4 σ

def fX12_run (N : Nat) (p1 : Int32) (p2 : Int32) (σ : qMem) : Option (Int32 × qMem) :=
  ((fX12_fits N σ).bind fun y1 => ((fX12_in p1 0 ((gi y1 0 12) - 1)).bind fun y2 => (if y2 = 0 then (some ((-1000), y1)) else ((fX12_in p2 0 3).bind fun y3 => (if y3 = 0 then (some ((-1000), y1)) else (fX12_run_l36 N N p1 p2 0 0 y1))))))
set_option maxRecDepth 20000 in
set_option maxHeartbeats 4000000 in
theorem aX12_run  (N : Nat) (p1 : Int32) (p2 : Int32)  (σ : qMem) : qAt wM mX12_run (ρi) 0 [(0, .ref 0), (1, .int p1), (2, .int p2)] [] σ (fX12_run N p1 p2 σ) := by
  unfold fX12_run
  refine q_aload_n (i := 0) (x := 0) dX12_run_0 rfl 0 rfl ?_
  refine q_cVv mX12_fits [] (st := []) dX12_run_1 (svX12_244) ⟨Nat.le_of_ble_eq_true rfl, Nat.le_of_ble_eq_true rfl⟩ zM_0 rfl rfl rfl (Nat.le_of_ble_eq_true rfl) (kX12_fits N σ) (fun y1 => ?_)
  refine q_iload_n (i := 1) (x := p1) dX12_run_4 rfl 1 rfl ?_
  refine q_iconst (v := 0) dX12_run_5 (by decide) ?_
  refine q_aload_n (i := 0) (x := 0) dX12_run_6 rfl 0 rfl ?_
  refine q_geti dX12_run_7 foX12_226 zM_0 rfl ?_
  refine q_iconst (v := 1) dX12_run_10 (by decide) ?_
  refine q_isub dX12_run_11 ?_
  refine q_cSp mX12_in [.int p1, .int 0, .int ((gi y1 0 12) - 1)] (st := []) dX12_run_12 (ssX12_110) ⟨Nat.le_of_ble_eq_true rfl, Nat.le_of_ble_eq_true rfl⟩ rfl rfl (Nat.le_of_ble_eq_true rfl) (kX12_in p1 0 ((gi y1 0 12) - 1) y1) (fun y2 => ?_)
  refine q_if_eq (tgt := 27) dX12_run_15 (by decide) ?_ ?_
  · refine q_sipush (v := (-1000)) dX12_run_27 (by decide) ?_
    exact q_ireti (y := ((-1000), y1)) dX12_run_30 rfl rfl
  refine q_iload_n (i := 2) (x := p2) dX12_run_18 rfl 2 rfl ?_
  refine q_iconst (v := 0) dX12_run_19 (by decide) ?_
  refine q_iconst (v := 3) dX12_run_20 (by decide) ?_
  refine q_cSp mX12_in [.int p2, .int 0, .int 3] (st := []) dX12_run_21 (ssX12_110) ⟨Nat.le_of_ble_eq_true rfl, Nat.le_of_ble_eq_true rfl⟩ rfl rfl (Nat.le_of_ble_eq_true rfl) (kX12_in p2 0 3 y1) (fun y3 => ?_)
  refine q_if_ne (tgt := 31) dX12_run_24 (by decide) ?_ ?_
  · refine q_iconst (v := 0) dX12_run_31 (by decide) ?_
    refine q_istore_n (i := 3) (L' := [(3, .int 0), (0, .ref 0), (1, .int p1), (2, .int p2)]) dX12_run_32 rfl (Nat.le_of_ble_eq_true rfl) rfl ?_
    refine q_iconst (v := 0) dX12_run_33 (by decide) ?_
    refine q_istore (i := 4) (L' := [(4, .int 0), (3, .int 0), (0, .ref 0), (1, .int p1), (2, .int p2)]) dX12_run_34 (Nat.le_of_ble_eq_true rfl) rfl ?_
    exact q_sub [2, 3, 4, 1, 0] rfl (aX12_run_l36 N N p1 p2 0 0 y1)
  refine q_sipush (v := (-1000)) dX12_run_27 (by decide) ?_
  exact q_ireti (y := ((-1000), y1)) dX12_run_30 rfl rfl
theorem kX12_run  (N : Nat) (p1 : Int32) (p2 : Int32)  (σ : qMem) : qMc wM mX12_run (ρi) [.ref 0, .int p1, .int p2] σ (fX12_run N p1 p2 σ) := qMc_of (moX12_run) (Nat.le_of_ble_eq_true rfl) (aX12_run N p1 p2  σ)

theorem dX12_span_0 : decode cX12_span 0 = .ok (.aload_n 0, 1) := by decide +kernel
theorem dX12_span_1 : decode cX12_span 1 = .ok (.invokevirtual 244, 3) := by decide +kernel
theorem dX12_span_4 : decode cX12_span 4 = .ok (.iload_n 1, 1) := by decide +kernel
theorem dX12_span_5 : decode cX12_span 5 = .ok (.invokestatic 132, 3) := by decide +kernel
theorem dX12_span_8 : decode cX12_span 8 = .ok (.ifCond .eq 19, 3) := by decide +kernel
theorem dX12_span_11 : decode cX12_span 11 = .ok (.iload_n 2, 1) := by decide +kernel
theorem dX12_span_12 : decode cX12_span 12 = .ok (.iconst 0, 1) := by decide +kernel
theorem dX12_span_13 : decode cX12_span 13 = .ok (.iconst 3, 1) := by decide +kernel
theorem dX12_span_14 : decode cX12_span 14 = .ok (.invokestatic 110, 3) := by decide +kernel
theorem dX12_span_17 : decode cX12_span 17 = .ok (.ifCond .eq 10, 3) := by decide +kernel
theorem dX12_span_20 : decode cX12_span 20 = .ok (.aload_n 0, 1) := by decide +kernel
theorem dX12_span_21 : decode cX12_span 21 = .ok (.getfield 226, 3) := by decide +kernel
theorem dX12_span_24 : decode cX12_span 24 = .ok (.ifCond .ne 7, 3) := by decide +kernel
theorem dX12_span_27 : decode cX12_span 27 = .ok (.sipush (-1000), 3) := by decide +kernel
theorem dX12_span_30 : decode cX12_span 30 = .ok (.ireturn, 1) := by decide +kernel
theorem dX12_span_31 : decode cX12_span 31 = .ok (.iconst 0, 1) := by decide +kernel
theorem dX12_span_32 : decode cX12_span 32 = .ok (.istore_n 3, 1) := by decide +kernel
theorem dX12_span_33 : decode cX12_span 33 = .ok (.iconst 0, 1) := by decide +kernel
theorem dX12_span_34 : decode cX12_span 34 = .ok (.istore 4, 2) := by decide +kernel
theorem dX12_span_36 : decode cX12_span 36 = .ok (.iconst 0, 1) := by decide +kernel
theorem dX12_span_37 : decode cX12_span 37 = .ok (.istore 5, 2) := by decide +kernel
theorem dX12_span_39 : decode cX12_span 39 = .ok (.iload 5, 2) := by decide +kernel
theorem dX12_span_41 : decode cX12_span 41 = .ok (.ldc 39, 2) := by decide +kernel
theorem dX12_span_43 : decode cX12_span 43 = .ok (.if_icmp .ge 90, 3) := by decide +kernel
theorem dX12_span_46 : decode cX12_span 46 = .ok (.aload_n 0, 1) := by decide +kernel
theorem dX12_span_47 : decode cX12_span 47 = .ok (.getfield 40, 3) := by decide +kernel
theorem dX12_span_50 : decode cX12_span 50 = .ok (.iload 5, 2) := by decide +kernel
theorem dX12_span_52 : decode cX12_span 52 = .ok (.baload, 1) := by decide +kernel
theorem dX12_span_53 : decode cX12_span 53 = .ok (.ifCond .ne 6, 3) := by decide +kernel
theorem dX12_span_56 : decode cX12_span 56 = .ok (.goto 71, 3) := by decide +kernel
theorem dX12_span_59 : decode cX12_span 59 = .ok (.iload_n 2, 1) := by decide +kernel
theorem dX12_span_60 : decode cX12_span 60 = .ok (.iconst 2, 1) := by decide +kernel
theorem dX12_span_61 : decode cX12_span 61 = .ok (.if_icmp .ge 19, 3) := by decide +kernel
theorem dX12_span_64 : decode cX12_span 64 = .ok (.iload 5, 2) := by decide +kernel
theorem dX12_span_66 : decode cX12_span 66 = .ok (.invokestatic 229, 3) := by decide +kernel
theorem dX12_span_69 : decode cX12_span 69 = .ok (.iload_n 1, 1) := by decide +kernel
theorem dX12_span_70 : decode cX12_span 70 = .ok (.iload 5, 2) := by decide +kernel
theorem dX12_span_72 : decode cX12_span 72 = .ok (.invokestatic 235, 3) := by decide +kernel
theorem dX12_span_75 : decode cX12_span 75 = .ok (.imul, 1) := by decide +kernel
theorem dX12_span_76 : decode cX12_span 76 = .ok (.iadd, 1) := by decide +kernel
theorem dX12_span_77 : decode cX12_span 77 = .ok (.goto 16, 3) := by decide +kernel
theorem dX12_span_80 : decode cX12_span 80 = .ok (.iload 5, 2) := by decide +kernel
theorem dX12_span_82 : decode cX12_span 82 = .ok (.invokestatic 232, 3) := by decide +kernel
theorem dX12_span_85 : decode cX12_span 85 = .ok (.iload_n 1, 1) := by decide +kernel
theorem dX12_span_86 : decode cX12_span 86 = .ok (.iload 5, 2) := by decide +kernel
theorem dX12_span_88 : decode cX12_span 88 = .ok (.invokestatic 238, 3) := by decide +kernel
theorem dX12_span_91 : decode cX12_span 91 = .ok (.imul, 1) := by decide +kernel
theorem dX12_span_92 : decode cX12_span 92 = .ok (.iadd, 1) := by decide +kernel
theorem dX12_span_93 : decode cX12_span 93 = .ok (.istore 6, 2) := by decide +kernel
theorem dX12_span_95 : decode cX12_span 95 = .ok (.iload 4, 2) := by decide +kernel
theorem dX12_span_97 : decode cX12_span 97 = .ok (.ifCond .eq 24, 3) := by decide +kernel
theorem dX12_span_100 : decode cX12_span 100 = .ok (.iload_n 2, 1) := by decide +kernel
theorem dX12_span_101 : decode cX12_span 101 = .ok (.iconst 2, 1) := by decide +kernel
theorem dX12_span_102 : decode cX12_span 102 = .ok (.irem, 1) := by decide +kernel
theorem dX12_span_103 : decode cX12_span 103 = .ok (.ifCond .ne 12, 3) := by decide +kernel
theorem dX12_span_106 : decode cX12_span 106 = .ok (.iload 6, 2) := by decide +kernel
theorem dX12_span_108 : decode cX12_span 108 = .ok (.iload_n 3, 1) := by decide +kernel
theorem dX12_span_109 : decode cX12_span 109 = .ok (.if_icmp .ge 15, 3) := by decide +kernel
theorem dX12_span_112 : decode cX12_span 112 = .ok (.goto 9, 3) := by decide +kernel
theorem dX12_span_115 : decode cX12_span 115 = .ok (.iload 6, 2) := by decide +kernel
theorem dX12_span_117 : decode cX12_span 117 = .ok (.iload_n 3, 1) := by decide +kernel
theorem dX12_span_118 : decode cX12_span 118 = .ok (.if_icmp .le 6, 3) := by decide +kernel
theorem dX12_span_121 : decode cX12_span 121 = .ok (.iload 6, 2) := by decide +kernel
theorem dX12_span_123 : decode cX12_span 123 = .ok (.istore_n 3, 1) := by decide +kernel
theorem dX12_span_124 : decode cX12_span 124 = .ok (.iconst 1, 1) := by decide +kernel
theorem dX12_span_125 : decode cX12_span 125 = .ok (.istore 4, 2) := by decide +kernel
theorem dX12_span_127 : decode cX12_span 127 = .ok (.iinc 5 1, 3) := by decide +kernel
theorem dX12_span_130 : decode cX12_span 130 = .ok (.goto (-91), 3) := by decide +kernel
theorem dX12_span_133 : decode cX12_span 133 = .ok (.iload_n 3, 1) := by decide +kernel
theorem dX12_span_134 : decode cX12_span 134 = .ok (.ireturn, 1) := by decide +kernel
def fX12_span_b127 (N : Nat) (c39 : Int32 → Int32 → Int32 → Int32 → Int32 → qMem → Option (Int32 × qMem)) (v1 : Int32) (v2 : Int32) (v3 : Int32) (v4 : Int32) (v5 : Int32) (σ : qMem) : Option (Int32 × qMem) :=
  (c39 v1 v2 v3 v4 (v5 + 1) σ)
set_option maxRecDepth 20000 in
set_option maxHeartbeats 4000000 in
theorem aX12_span_b127 (N : Nat) (c39 : Int32 → Int32 → Int32 → Int32 → Int32 → qMem → Option (Int32 × qMem)) (hc39 : ∀ (v1 : Int32) (v2 : Int32) (v3 : Int32) (v4 : Int32) (v5 : Int32) (σ : qMem), qAt wM mX12_span (ρi) 39 [(0, .ref 0), (1, .int v1), (2, .int v2), (3, .int v3), (4, .int v4), (5, .int v5)] [] σ (c39 v1 v2 v3 v4 v5 σ)) (v1 : Int32) (v2 : Int32) (v3 : Int32) (v4 : Int32) (v5 : Int32) (σ : qMem) : qAt wM mX12_span (ρi) 127 [(0, .ref 0), (1, .int v1), (2, .int v2), (3, .int v3), (4, .int v4), (5, .int v5)] [] σ (fX12_span_b127 N c39 v1 v2 v3 v4 v5 σ) := by
  unfold fX12_span_b127
  refine q_iinc (i := 5) (x := v5) (v := (v5 + 1)) (L' := [(5, .int (v5 + 1)), (0, .ref 0), (1, .int v1), (2, .int v2), (3, .int v3), (4, .int v4)]) dX12_span_127 5 rfl (q_cst v5 (by decide)) (Nat.le_of_ble_eq_true rfl) rfl ?_
  refine q_goto (tgt := 39) dX12_span_130 (by decide) ?_
  exact q_sub [1, 2, 3, 4, 5, 0] rfl (hc39 v1 v2 v3 v4 (v5 + 1) σ)

def fX12_span_b124 (N : Nat) (c39 : Int32 → Int32 → Int32 → Int32 → Int32 → qMem → Option (Int32 × qMem)) (v1 : Int32) (v2 : Int32) (v3 : Int32) (v5 : Int32) (σ : qMem) : Option (Int32 × qMem) :=
  (fX12_span_b127 N c39 v1 v2 v3 1 v5 σ)
set_option maxRecDepth 20000 in
set_option maxHeartbeats 4000000 in
theorem aX12_span_b124 (N : Nat) (c39 : Int32 → Int32 → Int32 → Int32 → Int32 → qMem → Option (Int32 × qMem)) (hc39 : ∀ (v1 : Int32) (v2 : Int32) (v3 : Int32) (v4 : Int32) (v5 : Int32) (σ : qMem), qAt wM mX12_span (ρi) 39 [(0, .ref 0), (1, .int v1), (2, .int v2), (3, .int v3), (4, .int v4), (5, .int v5)] [] σ (c39 v1 v2 v3 v4 v5 σ)) (v1 : Int32) (v2 : Int32) (v3 : Int32) (v5 : Int32) (σ : qMem) : qAt wM mX12_span (ρi) 124 [(0, .ref 0), (1, .int v1), (2, .int v2), (3, .int v3), (5, .int v5)] [] σ (fX12_span_b124 N c39 v1 v2 v3 v5 σ) := by
  unfold fX12_span_b124
  refine q_iconst (v := 1) dX12_span_124 (by decide) ?_
  refine q_istore (i := 4) (L' := [(4, .int 1), (0, .ref 0), (1, .int v1), (2, .int v2), (3, .int v3), (5, .int v5)]) dX12_span_125 (Nat.le_of_ble_eq_true rfl) rfl ?_
  exact q_sub [1, 2, 3, 4, 0, 5] rfl (aX12_span_b127 N c39 hc39 v1 v2 v3 1 v5 σ)

def fX12_span_b121 (N : Nat) (c39 : Int32 → Int32 → Int32 → Int32 → Int32 → qMem → Option (Int32 × qMem)) (v1 : Int32) (v2 : Int32) (v5 : Int32) (v6 : Int32) (σ : qMem) : Option (Int32 × qMem) :=
  (fX12_span_b124 N c39 v1 v2 v6 v5 σ)
set_option maxRecDepth 20000 in
set_option maxHeartbeats 4000000 in
theorem aX12_span_b121 (N : Nat) (c39 : Int32 → Int32 → Int32 → Int32 → Int32 → qMem → Option (Int32 × qMem)) (hc39 : ∀ (v1 : Int32) (v2 : Int32) (v3 : Int32) (v4 : Int32) (v5 : Int32) (σ : qMem), qAt wM mX12_span (ρi) 39 [(0, .ref 0), (1, .int v1), (2, .int v2), (3, .int v3), (4, .int v4), (5, .int v5)] [] σ (c39 v1 v2 v3 v4 v5 σ)) (v1 : Int32) (v2 : Int32) (v5 : Int32) (v6 : Int32) (σ : qMem) : qAt wM mX12_span (ρi) 121 [(0, .ref 0), (1, .int v1), (2, .int v2), (5, .int v5), (6, .int v6)] [] σ (fX12_span_b121 N c39 v1 v2 v5 v6 σ) := by
  unfold fX12_span_b121
  refine q_iload (i := 6) (x := v6) dX12_span_121 4 rfl ?_
  refine q_istore_n (i := 3) (L' := [(3, .int v6), (0, .ref 0), (1, .int v1), (2, .int v2), (5, .int v5), (6, .int v6)]) dX12_span_123 rfl (Nat.le_of_ble_eq_true rfl) rfl ?_
  exact q_sub [1, 2, 3, 0, 4] rfl (aX12_span_b124 N c39 hc39 v1 v2 v6 v5 σ)

def fX12_span_b93 (N : Nat) (c39 : Int32 → Int32 → Int32 → Int32 → Int32 → qMem → Option (Int32 × qMem)) (v1 : Int32) (v2 : Int32) (v3 : Int32) (v4 : Int32) (v5 : Int32) (u0 : Int32) (σ : qMem) : Option (Int32 × qMem) :=
  (if v4 = 0 then (fX12_span_b121 N c39 v1 v2 v5 u0 σ) else (if (irm v2 2) = 0 then (if v3 ≤ u0 then (fX12_span_b124 N c39 v1 v2 v3 v5 σ) else (fX12_span_b121 N c39 v1 v2 v5 u0 σ)) else (if u0 ≤ v3 then (fX12_span_b124 N c39 v1 v2 v3 v5 σ) else (fX12_span_b121 N c39 v1 v2 v5 u0 σ))))
set_option maxRecDepth 20000 in
set_option maxHeartbeats 4000000 in
theorem aX12_span_b93 (N : Nat) (c39 : Int32 → Int32 → Int32 → Int32 → Int32 → qMem → Option (Int32 × qMem)) (hc39 : ∀ (v1 : Int32) (v2 : Int32) (v3 : Int32) (v4 : Int32) (v5 : Int32) (σ : qMem), qAt wM mX12_span (ρi) 39 [(0, .ref 0), (1, .int v1), (2, .int v2), (3, .int v3), (4, .int v4), (5, .int v5)] [] σ (c39 v1 v2 v3 v4 v5 σ)) (v1 : Int32) (v2 : Int32) (v3 : Int32) (v4 : Int32) (v5 : Int32) (u0 : Int32) (σ : qMem) : qAt wM mX12_span (ρi) 93 [(0, .ref 0), (1, .int v1), (2, .int v2), (3, .int v3), (4, .int v4), (5, .int v5)] [.int u0] σ (fX12_span_b93 N c39 v1 v2 v3 v4 v5 u0 σ) := by
  unfold fX12_span_b93
  refine q_istore (i := 6) (L' := [(6, .int u0), (0, .ref 0), (1, .int v1), (2, .int v2), (3, .int v3), (4, .int v4), (5, .int v5)]) dX12_span_93 (Nat.le_of_ble_eq_true rfl) rfl ?_
  refine q_iload (i := 4) (x := v4) dX12_span_95 5 rfl ?_
  refine q_if_eq (tgt := 121) dX12_span_97 (by decide) ?_ ?_
  · exact q_sub [1, 2, 3, 6, 0] rfl (aX12_span_b121 N c39 hc39 v1 v2 v5 u0 σ)
  refine q_iload_n (i := 2) (x := v2) dX12_span_100 rfl 3 rfl ?_
  refine q_iconst (v := 2) dX12_span_101 (by decide) ?_
  refine q_irem dX12_span_102 (by decide) ?_
  refine q_if_ne (tgt := 115) dX12_span_103 (by decide) ?_ ?_
  · refine q_iload (i := 6) (x := u0) dX12_span_115 0 rfl ?_
    refine q_iload_n (i := 3) (x := v3) dX12_span_117 rfl 4 rfl ?_
    refine q_icmp_le (tgt := 124) dX12_span_118 (by decide) ?_ ?_
    · exact q_sub [1, 2, 3, 4, 6] rfl (aX12_span_b124 N c39 hc39 v1 v2 v3 v5 σ)
    exact q_sub [1, 2, 3, 6, 0] rfl (aX12_span_b121 N c39 hc39 v1 v2 v5 u0 σ)
  refine q_iload (i := 6) (x := u0) dX12_span_106 0 rfl ?_
  refine q_iload_n (i := 3) (x := v3) dX12_span_108 rfl 4 rfl ?_
  refine q_icmp_ge (tgt := 124) dX12_span_109 (by decide) ?_ ?_
  · exact q_sub [1, 2, 3, 4, 6] rfl (aX12_span_b124 N c39 hc39 v1 v2 v3 v5 σ)
  refine q_goto (tgt := 121) dX12_span_112 (by decide) ?_
  exact q_sub [1, 2, 3, 6, 0] rfl (aX12_span_b121 N c39 hc39 v1 v2 v5 u0 σ)

def fX12_span_s39 (N : Nat) (c39 : Int32 → Int32 → Int32 → Int32 → Int32 → qMem → Option (Int32 × qMem)) (v1 : Int32) (v2 : Int32) (v3 : Int32) (v4 : Int32) (v5 : Int32) (σ : qMem) : Option (Int32 × qMem) :=
  (if 50176 ≤ v5 then (some (v3, σ)) else (if ck v5 50176 = true then (if (gi σ 7 v5.toNatClampNeg) = 0 then (fX12_span_b127 N c39 v1 v2 v3 v4 v5 σ) else (if 2 ≤ v2 then ((fX12_northOf v5).bind fun y4 => ((fX12_northBy v5).bind fun y5 => (fX12_span_b93 N c39 v1 v2 v3 v4 v5 (y4 + (v1 * y5)) σ))) else ((fX12_eastOf v5).bind fun y6 => ((fX12_eastBy v5).bind fun y7 => (fX12_span_b93 N c39 v1 v2 v3 v4 v5 (y6 + (v1 * y7)) σ))))) else none))
set_option maxRecDepth 20000 in
set_option maxHeartbeats 4000000 in
theorem aX12_span_s39 (N : Nat) (c39 : Int32 → Int32 → Int32 → Int32 → Int32 → qMem → Option (Int32 × qMem)) (hc39 : ∀ (v1 : Int32) (v2 : Int32) (v3 : Int32) (v4 : Int32) (v5 : Int32) (σ : qMem), qAt wM mX12_span (ρi) 39 [(0, .ref 0), (1, .int v1), (2, .int v2), (3, .int v3), (4, .int v4), (5, .int v5)] [] σ (c39 v1 v2 v3 v4 v5 σ)) (v1 : Int32) (v2 : Int32) (v3 : Int32) (v4 : Int32) (v5 : Int32) (σ : qMem) : qAt wM mX12_span (ρi) 39 [(0, .ref 0), (1, .int v1), (2, .int v2), (3, .int v3), (4, .int v4), (5, .int v5)] [] σ (fX12_span_s39 N c39 v1 v2 v3 v4 v5 σ) := by
  unfold fX12_span_s39
  refine q_iload (i := 5) (x := v5) dX12_span_39 5 rfl ?_
  refine q_ldc (v := 50176) dX12_span_41 (g_6 93 (by decide +kernel) rfl) ?_
  refine q_icmp_ge (tgt := 133) dX12_span_43 (by decide) ?_ ?_
  · refine q_iload_n (i := 3) (x := v3) dX12_span_133 rfl 3 rfl ?_
    exact q_ireti (y := (v3, σ)) dX12_span_134 rfl rfl
  refine q_aload_n (i := 0) (x := 0) dX12_span_46 rfl 0 rfl ?_
  refine q_getr (t := 7) dX12_span_47 foX12_40 zM_0 rfl ?_
  refine q_iload (i := 5) (x := v5) dX12_span_50 5 rfl ?_
  refine q_zald dX12_span_52 zM_7 ?_
  refine q_if_ne (tgt := 59) dX12_span_53 (by decide) ?_ ?_
  · refine q_iload_n (i := 2) (x := v2) dX12_span_59 rfl 2 rfl ?_
    refine q_iconst (v := 2) dX12_span_60 (by decide) ?_
    refine q_icmp_ge (tgt := 80) dX12_span_61 (by decide) ?_ ?_
    · refine q_iload (i := 5) (x := v5) dX12_span_80 5 rfl ?_
      refine q_cSp mX12_northOf [.int v5] (st := []) dX12_span_82 (ssX12_232) ⟨Nat.le_of_ble_eq_true rfl, Nat.le_of_ble_eq_true rfl⟩ rfl rfl (Nat.le_of_ble_eq_true rfl) (kX12_northOf v5 σ) (fun y4 => ?_)
      refine q_iload_n (i := 1) (x := v1) dX12_span_85 rfl 1 rfl ?_
      refine q_iload (i := 5) (x := v5) dX12_span_86 5 rfl ?_
      refine q_cSp mX12_northBy [.int v5] (st := [.int v1, .int y4]) dX12_span_88 (ssX12_238) ⟨Nat.le_of_ble_eq_true rfl, Nat.le_of_ble_eq_true rfl⟩ rfl rfl (Nat.le_of_ble_eq_true rfl) (kX12_northBy v5 σ) (fun y5 => ?_)
      refine q_imul dX12_span_91 ?_
      refine q_iadd dX12_span_92 ?_
      exact q_sub [0, 1, 2, 3, 4, 5] rfl (aX12_span_b93 N c39 hc39 v1 v2 v3 v4 v5 (y4 + (v1 * y5)) σ)
    refine q_iload (i := 5) (x := v5) dX12_span_64 5 rfl ?_
    refine q_cSp mX12_eastOf [.int v5] (st := []) dX12_span_66 (ssX12_229) ⟨Nat.le_of_ble_eq_true rfl, Nat.le_of_ble_eq_true rfl⟩ rfl rfl (Nat.le_of_ble_eq_true rfl) (kX12_eastOf v5 σ) (fun y6 => ?_)
    refine q_iload_n (i := 1) (x := v1) dX12_span_69 rfl 1 rfl ?_
    refine q_iload (i := 5) (x := v5) dX12_span_70 5 rfl ?_
    refine q_cSp mX12_eastBy [.int v5] (st := [.int v1, .int y6]) dX12_span_72 (ssX12_235) ⟨Nat.le_of_ble_eq_true rfl, Nat.le_of_ble_eq_true rfl⟩ rfl rfl (Nat.le_of_ble_eq_true rfl) (kX12_eastBy v5 σ) (fun y7 => ?_)
    refine q_imul dX12_span_75 ?_
    refine q_iadd dX12_span_76 ?_
    refine q_goto (tgt := 93) dX12_span_77 (by decide) ?_
    exact q_sub [0, 1, 2, 3, 4, 5] rfl (aX12_span_b93 N c39 hc39 v1 v2 v3 v4 v5 (y6 + (v1 * y7)) σ)
  refine q_goto (tgt := 127) dX12_span_56 (by decide) ?_
  exact q_sub [0, 1, 2, 3, 4, 5] rfl (aX12_span_b127 N c39 hc39 v1 v2 v3 v4 v5 σ)
def fX12_span_l39 (N : Nat) : Nat → Int32 → Int32 → Int32 → Int32 → Int32 → qMem → Option (Int32 × qMem)
  | 0 => fun _ _ _ _ _ _ => none
  | n + 1 => fun v1 v2 v3 v4 v5 σ => fX12_span_s39 N (fX12_span_l39 N n) v1 v2 v3 v4 v5 σ
theorem aX12_span_l39 (N : Nat) : ∀ (n : Nat) (v1 : Int32) (v2 : Int32) (v3 : Int32) (v4 : Int32) (v5 : Int32) (σ : qMem), qAt wM mX12_span (ρi) 39 [(0, .ref 0), (1, .int v1), (2, .int v2), (3, .int v3), (4, .int v4), (5, .int v5)] [] σ (fX12_span_l39 N n v1 v2 v3 v4 v5 σ) := by
  intro n
  induction n with
  | zero => intro v1 v2 v3 v4 v5 σ; exact q_none
  | succ n ih => intro v1 v2 v3 v4 v5 σ; exact aX12_span_s39 N (fX12_span_l39 N n) ih v1 v2 v3 v4 v5 σ

def fX12_span (N : Nat) (p1 : Int32) (p2 : Int32) (σ : qMem) : Option (Int32 × qMem) :=
  ((fX12_fits N σ).bind fun y1 => ((fX12_isBell p1).bind fun y2 => (if y2 = 0 then (some ((-1000), y1)) else ((fX12_in p2 0 3).bind fun y3 => (if y3 = 0 then (some ((-1000), y1)) else (if (gi y1 0 12) = 0 then (some ((-1000), y1)) else (fX12_span_l39 N N p1 p2 0 0 0 y1)))))))
set_option maxRecDepth 20000 in
set_option maxHeartbeats 4000000 in
theorem aX12_span  (N : Nat) (p1 : Int32) (p2 : Int32)  (σ : qMem) : qAt wM mX12_span (ρi) 0 [(0, .ref 0), (1, .int p1), (2, .int p2)] [] σ (fX12_span N p1 p2 σ) := by
  unfold fX12_span
  refine q_aload_n (i := 0) (x := 0) dX12_span_0 rfl 0 rfl ?_
  refine q_cVv mX12_fits [] (st := []) dX12_span_1 (svX12_244) ⟨Nat.le_of_ble_eq_true rfl, Nat.le_of_ble_eq_true rfl⟩ zM_0 rfl rfl rfl (Nat.le_of_ble_eq_true rfl) (kX12_fits N σ) (fun y1 => ?_)
  refine q_iload_n (i := 1) (x := p1) dX12_span_4 rfl 1 rfl ?_
  refine q_cSp mX12_isBell [.int p1] (st := []) dX12_span_5 (ssX12_132) ⟨Nat.le_of_ble_eq_true rfl, Nat.le_of_ble_eq_true rfl⟩ rfl rfl (Nat.le_of_ble_eq_true rfl) (kX12_isBell p1 y1) (fun y2 => ?_)
  refine q_if_eq (tgt := 27) dX12_span_8 (by decide) ?_ ?_
  · refine q_sipush (v := (-1000)) dX12_span_27 (by decide) ?_
    exact q_ireti (y := ((-1000), y1)) dX12_span_30 rfl rfl
  refine q_iload_n (i := 2) (x := p2) dX12_span_11 rfl 2 rfl ?_
  refine q_iconst (v := 0) dX12_span_12 (by decide) ?_
  refine q_iconst (v := 3) dX12_span_13 (by decide) ?_
  refine q_cSp mX12_in [.int p2, .int 0, .int 3] (st := []) dX12_span_14 (ssX12_110) ⟨Nat.le_of_ble_eq_true rfl, Nat.le_of_ble_eq_true rfl⟩ rfl rfl (Nat.le_of_ble_eq_true rfl) (kX12_in p2 0 3 y1) (fun y3 => ?_)
  refine q_if_eq (tgt := 27) dX12_span_17 (by decide) ?_ ?_
  · refine q_sipush (v := (-1000)) dX12_span_27 (by decide) ?_
    exact q_ireti (y := ((-1000), y1)) dX12_span_30 rfl rfl
  refine q_aload_n (i := 0) (x := 0) dX12_span_20 rfl 0 rfl ?_
  refine q_geti dX12_span_21 foX12_226 zM_0 rfl ?_
  refine q_if_ne (tgt := 31) dX12_span_24 (by decide) ?_ ?_
  · refine q_iconst (v := 0) dX12_span_31 (by decide) ?_
    refine q_istore_n (i := 3) (L' := [(3, .int 0), (0, .ref 0), (1, .int p1), (2, .int p2)]) dX12_span_32 rfl (Nat.le_of_ble_eq_true rfl) rfl ?_
    refine q_iconst (v := 0) dX12_span_33 (by decide) ?_
    refine q_istore (i := 4) (L' := [(4, .int 0), (3, .int 0), (0, .ref 0), (1, .int p1), (2, .int p2)]) dX12_span_34 (Nat.le_of_ble_eq_true rfl) rfl ?_
    refine q_iconst (v := 0) dX12_span_36 (by decide) ?_
    refine q_istore (i := 5) (L' := [(5, .int 0), (4, .int 0), (3, .int 0), (0, .ref 0), (1, .int p1), (2, .int p2)]) dX12_span_37 (Nat.le_of_ble_eq_true rfl) rfl ?_
    exact q_sub [3, 4, 5, 2, 1, 0] rfl (aX12_span_l39 N N p1 p2 0 0 0 y1)
  refine q_sipush (v := (-1000)) dX12_span_27 (by decide) ?_
  exact q_ireti (y := ((-1000), y1)) dX12_span_30 rfl rfl
theorem kX12_span  (N : Nat) (p1 : Int32) (p2 : Int32)  (σ : qMem) : qMc wM mX12_span (ρi) [.ref 0, .int p1, .int p2] σ (fX12_span N p1 p2 σ) := qMc_of (moX12_span) (Nat.le_of_ble_eq_true rfl) (aX12_span N p1 p2  σ)

theorem dX12_misses_0 : decode cX12_misses 0 = .ok (.iload_n 1, 1) := by decide +kernel
theorem dX12_misses_1 : decode cX12_misses 1 = .ok (.invokestatic 125, 3) := by decide +kernel
theorem dX12_misses_4 : decode cX12_misses 4 = .ok (.ifCond .eq 25, 3) := by decide +kernel
theorem dX12_misses_7 : decode cX12_misses 7 = .ok (.iload_n 2, 1) := by decide +kernel
theorem dX12_misses_8 : decode cX12_misses 8 = .ok (.invokestatic 125, 3) := by decide +kernel
theorem dX12_misses_11 : decode cX12_misses 11 = .ok (.ifCond .eq 18, 3) := by decide +kernel
theorem dX12_misses_14 : decode cX12_misses 14 = .ok (.iload_n 3, 1) := by decide +kernel
theorem dX12_misses_15 : decode cX12_misses 15 = .ok (.invokestatic 135, 3) := by decide +kernel
theorem dX12_misses_18 : decode cX12_misses 18 = .ok (.ifCond .eq 11, 3) := by decide +kernel
theorem dX12_misses_21 : decode cX12_misses 21 = .ok (.iload 4, 2) := by decide +kernel
theorem dX12_misses_23 : decode cX12_misses 23 = .ok (.invokestatic 135, 3) := by decide +kernel
theorem dX12_misses_26 : decode cX12_misses 26 = .ok (.ifCond .ne 5, 3) := by decide +kernel
theorem dX12_misses_29 : decode cX12_misses 29 = .ok (.iconst (-1), 1) := by decide +kernel
theorem dX12_misses_30 : decode cX12_misses 30 = .ok (.ireturn, 1) := by decide +kernel
theorem dX12_misses_31 : decode cX12_misses 31 = .ok (.aload_n 0, 1) := by decide +kernel
theorem dX12_misses_32 : decode cX12_misses 32 = .ok (.invokevirtual 223, 3) := by decide +kernel
theorem dX12_misses_35 : decode cX12_misses 35 = .ok (.aload_n 0, 1) := by decide +kernel
theorem dX12_misses_36 : decode cX12_misses 36 = .ok (.iload_n 1, 1) := by decide +kernel
theorem dX12_misses_37 : decode cX12_misses 37 = .ok (.iload_n 2, 1) := by decide +kernel
theorem dX12_misses_38 : decode cX12_misses 38 = .ok (.iload_n 3, 1) := by decide +kernel
theorem dX12_misses_39 : decode cX12_misses 39 = .ok (.iload 4, 2) := by decide +kernel
theorem dX12_misses_41 : decode cX12_misses 41 = .ok (.invokevirtual 247, 3) := by decide +kernel
theorem dX12_misses_44 : decode cX12_misses 44 = .ok (.ireturn, 1) := by decide +kernel

def fX12_misses (N : Nat) (p1 : Int32) (p2 : Int32) (p3 : Int32) (p4 : Int32) (σ : qMem) : Option (Int32 × qMem) :=
  ((fX12_isSea p1).bind fun y1 => (if y1 = 0 then (some ((-1), σ)) else ((fX12_isSea p2).bind fun y2 => (if y2 = 0 then (some ((-1), σ)) else ((fX12_isPace p3).bind fun y3 => (if y3 = 0 then (some ((-1), σ)) else ((fX12_isPace p4).bind fun y4 => (if y4 = 0 then (some ((-1), σ)) else ((fX12_laysNews N σ).bind fun y5 => ((fX12_missedBest N p1 p2 p3 p4 y5).bind fun y6 => (some (y6.1, y6.2))))))))))))
set_option maxRecDepth 20000 in
set_option maxHeartbeats 4000000 in
theorem aX12_misses  (N : Nat) (p1 : Int32) (p2 : Int32) (p3 : Int32) (p4 : Int32)  (σ : qMem) : qAt wM mX12_misses (ρi) 0 [(0, .ref 0), (1, .int p1), (2, .int p2), (3, .int p3), (4, .int p4)] [] σ (fX12_misses N p1 p2 p3 p4 σ) := by
  unfold fX12_misses
  refine q_iload_n (i := 1) (x := p1) dX12_misses_0 rfl 1 rfl ?_
  refine q_cSp mX12_isSea [.int p1] (st := []) dX12_misses_1 (ssX12_125) ⟨Nat.le_of_ble_eq_true rfl, Nat.le_of_ble_eq_true rfl⟩ rfl rfl (Nat.le_of_ble_eq_true rfl) (kX12_isSea p1 σ) (fun y1 => ?_)
  refine q_if_eq (tgt := 29) dX12_misses_4 (by decide) ?_ ?_
  · refine q_iconst (v := (-1)) dX12_misses_29 (by decide) ?_
    exact q_ireti (y := ((-1), σ)) dX12_misses_30 rfl rfl
  refine q_iload_n (i := 2) (x := p2) dX12_misses_7 rfl 2 rfl ?_
  refine q_cSp mX12_isSea [.int p2] (st := []) dX12_misses_8 (ssX12_125) ⟨Nat.le_of_ble_eq_true rfl, Nat.le_of_ble_eq_true rfl⟩ rfl rfl (Nat.le_of_ble_eq_true rfl) (kX12_isSea p2 σ) (fun y2 => ?_)
  refine q_if_eq (tgt := 29) dX12_misses_11 (by decide) ?_ ?_
  · refine q_iconst (v := (-1)) dX12_misses_29 (by decide) ?_
    exact q_ireti (y := ((-1), σ)) dX12_misses_30 rfl rfl
  refine q_iload_n (i := 3) (x := p3) dX12_misses_14 rfl 3 rfl ?_
  refine q_cSp mX12_isPace [.int p3] (st := []) dX12_misses_15 (ssX12_135) ⟨Nat.le_of_ble_eq_true rfl, Nat.le_of_ble_eq_true rfl⟩ rfl rfl (Nat.le_of_ble_eq_true rfl) (kX12_isPace p3 σ) (fun y3 => ?_)
  refine q_if_eq (tgt := 29) dX12_misses_18 (by decide) ?_ ?_
  · refine q_iconst (v := (-1)) dX12_misses_29 (by decide) ?_
    exact q_ireti (y := ((-1), σ)) dX12_misses_30 rfl rfl
  refine q_iload (i := 4) (x := p4) dX12_misses_21 4 rfl ?_
  refine q_cSp mX12_isPace [.int p4] (st := []) dX12_misses_23 (ssX12_135) ⟨Nat.le_of_ble_eq_true rfl, Nat.le_of_ble_eq_true rfl⟩ rfl rfl (Nat.le_of_ble_eq_true rfl) (kX12_isPace p4 σ) (fun y4 => ?_)
  refine q_if_ne (tgt := 31) dX12_misses_26 (by decide) ?_ ?_
  · refine q_aload_n (i := 0) (x := 0) dX12_misses_31 rfl 0 rfl ?_
    refine q_cVv mX12_laysNews [] (st := []) dX12_misses_32 (svX12_223) ⟨Nat.le_of_ble_eq_true rfl, Nat.le_of_ble_eq_true rfl⟩ zM_0 rfl rfl rfl (Nat.le_of_ble_eq_true rfl) (kX12_laysNews N σ) (fun y5 => ?_)
    refine q_aload_n (i := 0) (x := 0) dX12_misses_35 rfl 0 rfl ?_
    refine q_iload_n (i := 1) (x := p1) dX12_misses_36 rfl 1 rfl ?_
    refine q_iload_n (i := 2) (x := p2) dX12_misses_37 rfl 2 rfl ?_
    refine q_iload_n (i := 3) (x := p3) dX12_misses_38 rfl 3 rfl ?_
    refine q_iload (i := 4) (x := p4) dX12_misses_39 4 rfl ?_
    refine q_cVi mX12_missedBest [.int p1, .int p2, .int p3, .int p4] (st := []) dX12_misses_41 (svX12_247) ⟨Nat.le_of_ble_eq_true rfl, Nat.le_of_ble_eq_true rfl⟩ zM_0 rfl rfl rfl (Nat.le_of_ble_eq_true rfl) (kX12_missedBest N p1 p2 p3 p4 y5) (fun y6 => ?_)
    exact q_ireti (y := (y6.1, y6.2)) dX12_misses_44 rfl rfl
  refine q_iconst (v := (-1)) dX12_misses_29 (by decide) ?_
  exact q_ireti (y := ((-1), σ)) dX12_misses_30 rfl rfl
theorem kX12_misses  (N : Nat) (p1 : Int32) (p2 : Int32) (p3 : Int32) (p4 : Int32)  (σ : qMem) : qMc wM mX12_misses (ρi) [.ref 0, .int p1, .int p2, .int p3, .int p4] σ (fX12_misses N p1 p2 p3 p4 σ) := qMc_of (moX12_misses) (Nat.le_of_ble_eq_true rfl) (aX12_misses N p1 p2 p3 p4  σ)

theorem dX12_alone_0 : decode cX12_alone 0 = .ok (.iload_n 1, 1) := by decide +kernel
theorem dX12_alone_1 : decode cX12_alone 1 = .ok (.invokestatic 132, 3) := by decide +kernel
theorem dX12_alone_4 : decode cX12_alone 4 = .ok (.ifCond .eq 12, 3) := by decide +kernel
theorem dX12_alone_7 : decode cX12_alone 7 = .ok (.iload_n 2, 1) := by decide +kernel
theorem dX12_alone_8 : decode cX12_alone 8 = .ok (.iconst 0, 1) := by decide +kernel
theorem dX12_alone_9 : decode cX12_alone 9 = .ok (.iconst 1, 1) := by decide +kernel
theorem dX12_alone_10 : decode cX12_alone 10 = .ok (.invokestatic 110, 3) := by decide +kernel
theorem dX12_alone_13 : decode cX12_alone 13 = .ok (.ifCond .ne 7, 3) := by decide +kernel
theorem dX12_alone_16 : decode cX12_alone 16 = .ok (.sipush (-1000), 3) := by decide +kernel
theorem dX12_alone_19 : decode cX12_alone 19 = .ok (.ireturn, 1) := by decide +kernel
theorem dX12_alone_20 : decode cX12_alone 20 = .ok (.aload_n 0, 1) := by decide +kernel
theorem dX12_alone_21 : decode cX12_alone 21 = .ok (.iload_n 1, 1) := by decide +kernel
theorem dX12_alone_22 : decode cX12_alone 22 = .ok (.iconst 2, 1) := by decide +kernel
theorem dX12_alone_23 : decode cX12_alone 23 = .ok (.iload_n 2, 1) := by decide +kernel
theorem dX12_alone_24 : decode cX12_alone 24 = .ok (.imul, 1) := by decide +kernel
theorem dX12_alone_25 : decode cX12_alone 25 = .ok (.invokevirtual 251, 3) := by decide +kernel
theorem dX12_alone_28 : decode cX12_alone 28 = .ok (.istore_n 3, 1) := by decide +kernel
theorem dX12_alone_29 : decode cX12_alone 29 = .ok (.aload_n 0, 1) := by decide +kernel
theorem dX12_alone_30 : decode cX12_alone 30 = .ok (.iload_n 1, 1) := by decide +kernel
theorem dX12_alone_31 : decode cX12_alone 31 = .ok (.iconst 0, 1) := by decide +kernel
theorem dX12_alone_32 : decode cX12_alone 32 = .ok (.invokevirtual 251, 3) := by decide +kernel
theorem dX12_alone_35 : decode cX12_alone 35 = .ok (.aload_n 0, 1) := by decide +kernel
theorem dX12_alone_36 : decode cX12_alone 36 = .ok (.iload_n 1, 1) := by decide +kernel
theorem dX12_alone_37 : decode cX12_alone 37 = .ok (.iconst 1, 1) := by decide +kernel
theorem dX12_alone_38 : decode cX12_alone 38 = .ok (.invokevirtual 251, 3) := by decide +kernel
theorem dX12_alone_41 : decode cX12_alone 41 = .ok (.if_icmp .ne 22, 3) := by decide +kernel
theorem dX12_alone_44 : decode cX12_alone 44 = .ok (.aload_n 0, 1) := by decide +kernel
theorem dX12_alone_45 : decode cX12_alone 45 = .ok (.iload_n 1, 1) := by decide +kernel
theorem dX12_alone_46 : decode cX12_alone 46 = .ok (.iconst 2, 1) := by decide +kernel
theorem dX12_alone_47 : decode cX12_alone 47 = .ok (.invokevirtual 251, 3) := by decide +kernel
theorem dX12_alone_50 : decode cX12_alone 50 = .ok (.aload_n 0, 1) := by decide +kernel
theorem dX12_alone_51 : decode cX12_alone 51 = .ok (.iload_n 1, 1) := by decide +kernel
theorem dX12_alone_52 : decode cX12_alone 52 = .ok (.iconst 3, 1) := by decide +kernel
theorem dX12_alone_53 : decode cX12_alone 53 = .ok (.invokevirtual 251, 3) := by decide +kernel
theorem dX12_alone_56 : decode cX12_alone 56 = .ok (.if_icmp .ne 7, 3) := by decide +kernel
theorem dX12_alone_59 : decode cX12_alone 59 = .ok (.iconst 1, 1) := by decide +kernel
theorem dX12_alone_60 : decode cX12_alone 60 = .ok (.goto 4, 3) := by decide +kernel
theorem dX12_alone_63 : decode cX12_alone 63 = .ok (.iconst 0, 1) := by decide +kernel
theorem dX12_alone_64 : decode cX12_alone 64 = .ok (.istore 4, 2) := by decide +kernel
theorem dX12_alone_66 : decode cX12_alone 66 = .ok (.aload_n 0, 1) := by decide +kernel
theorem dX12_alone_67 : decode cX12_alone 67 = .ok (.getfield 226, 3) := by decide +kernel
theorem dX12_alone_70 : decode cX12_alone 70 = .ok (.ifCond .le 12, 3) := by decide +kernel
theorem dX12_alone_73 : decode cX12_alone 73 = .ok (.iload 4, 2) := by decide +kernel
theorem dX12_alone_75 : decode cX12_alone 75 = .ok (.ifCond .eq 7, 3) := by decide +kernel
theorem dX12_alone_78 : decode cX12_alone 78 = .ok (.iload_n 3, 1) := by decide +kernel
theorem dX12_alone_79 : decode cX12_alone 79 = .ok (.goto 6, 3) := by decide +kernel
theorem dX12_alone_82 : decode cX12_alone 82 = .ok (.sipush (-1000), 3) := by decide +kernel
theorem dX12_alone_85 : decode cX12_alone 85 = .ok (.ireturn, 1) := by decide +kernel
def fX12_alone_b82 (N : Nat) (σ : qMem) : Option (Int32 × qMem) :=
  (some ((-1000), σ))
set_option maxRecDepth 20000 in
set_option maxHeartbeats 4000000 in
theorem aX12_alone_b82 (N : Nat) (σ : qMem) : qAt wM mX12_alone (ρi) 82 [] [] σ (fX12_alone_b82 N σ) := by
  unfold fX12_alone_b82
  refine q_sipush (v := (-1000)) dX12_alone_82 (by decide) ?_
  exact q_ireti (y := ((-1000), σ)) dX12_alone_85 rfl rfl

def fX12_alone_b64 (N : Nat) (v3 : Int32) (u0 : Int32) (σ : qMem) : Option (Int32 × qMem) :=
  (if (gi σ 0 12) ≤ 0 then (fX12_alone_b82 N σ) else (if u0 = 0 then (fX12_alone_b82 N σ) else (some (v3, σ))))
set_option maxRecDepth 20000 in
set_option maxHeartbeats 4000000 in
theorem aX12_alone_b64 (N : Nat) (v3 : Int32) (u0 : Int32) (σ : qMem) : qAt wM mX12_alone (ρi) 64 [(0, .ref 0), (3, .int v3)] [.int u0] σ (fX12_alone_b64 N v3 u0 σ) := by
  unfold fX12_alone_b64
  refine q_istore (i := 4) (L' := [(4, .int u0), (0, .ref 0), (3, .int v3)]) dX12_alone_64 (Nat.le_of_ble_eq_true rfl) rfl ?_
  refine q_aload_n (i := 0) (x := 0) dX12_alone_66 rfl 1 rfl ?_
  refine q_geti dX12_alone_67 foX12_226 zM_0 rfl ?_
  refine q_if_le (tgt := 82) dX12_alone_70 (by decide) ?_ ?_
  · exact q_sub [] rfl (aX12_alone_b82 N σ)
  refine q_iload (i := 4) (x := u0) dX12_alone_73 0 rfl ?_
  refine q_if_eq (tgt := 82) dX12_alone_75 (by decide) ?_ ?_
  · exact q_sub [] rfl (aX12_alone_b82 N σ)
  refine q_iload_n (i := 3) (x := v3) dX12_alone_78 rfl 2 rfl ?_
  refine q_goto (tgt := 85) dX12_alone_79 (by decide) ?_
  exact q_ireti (y := (v3, σ)) dX12_alone_85 rfl rfl

def fX12_alone_b63 (N : Nat) (v3 : Int32) (σ : qMem) : Option (Int32 × qMem) :=
  (fX12_alone_b64 N v3 0 σ)
set_option maxRecDepth 20000 in
set_option maxHeartbeats 4000000 in
theorem aX12_alone_b63 (N : Nat) (v3 : Int32) (σ : qMem) : qAt wM mX12_alone (ρi) 63 [(0, .ref 0), (3, .int v3)] [] σ (fX12_alone_b63 N v3 σ) := by
  unfold fX12_alone_b63
  refine q_iconst (v := 0) dX12_alone_63 (by decide) ?_
  exact q_sub [0, 1] rfl (aX12_alone_b64 N v3 0 σ)

def fX12_alone (N : Nat) (p1 : Int32) (p2 : Int32) (σ : qMem) : Option (Int32 × qMem) :=
  ((fX12_isBell p1).bind fun y1 => (if y1 = 0 then (some ((-1000), σ)) else ((fX12_in p2 0 1).bind fun y2 => (if y2 = 0 then (some ((-1000), σ)) else ((fX12_span N p1 (2 * p2) σ).bind fun y3 => ((fX12_span N p1 0 y3.2).bind fun y4 => ((fX12_span N p1 1 y4.2).bind fun y5 => (if y4.1 = y5.1 then ((fX12_span N p1 2 y5.2).bind fun y6 => ((fX12_span N p1 3 y6.2).bind fun y7 => (if y6.1 = y7.1 then (fX12_alone_b64 N y3.1 1 y7.2) else (fX12_alone_b63 N y3.1 y7.2)))) else (fX12_alone_b63 N y3.1 y5.2)))))))))
set_option maxRecDepth 20000 in
set_option maxHeartbeats 4000000 in
theorem aX12_alone  (N : Nat) (p1 : Int32) (p2 : Int32)  (σ : qMem) : qAt wM mX12_alone (ρi) 0 [(0, .ref 0), (1, .int p1), (2, .int p2)] [] σ (fX12_alone N p1 p2 σ) := by
  unfold fX12_alone
  refine q_iload_n (i := 1) (x := p1) dX12_alone_0 rfl 1 rfl ?_
  refine q_cSp mX12_isBell [.int p1] (st := []) dX12_alone_1 (ssX12_132) ⟨Nat.le_of_ble_eq_true rfl, Nat.le_of_ble_eq_true rfl⟩ rfl rfl (Nat.le_of_ble_eq_true rfl) (kX12_isBell p1 σ) (fun y1 => ?_)
  refine q_if_eq (tgt := 16) dX12_alone_4 (by decide) ?_ ?_
  · refine q_sipush (v := (-1000)) dX12_alone_16 (by decide) ?_
    exact q_ireti (y := ((-1000), σ)) dX12_alone_19 rfl rfl
  refine q_iload_n (i := 2) (x := p2) dX12_alone_7 rfl 2 rfl ?_
  refine q_iconst (v := 0) dX12_alone_8 (by decide) ?_
  refine q_iconst (v := 1) dX12_alone_9 (by decide) ?_
  refine q_cSp mX12_in [.int p2, .int 0, .int 1] (st := []) dX12_alone_10 (ssX12_110) ⟨Nat.le_of_ble_eq_true rfl, Nat.le_of_ble_eq_true rfl⟩ rfl rfl (Nat.le_of_ble_eq_true rfl) (kX12_in p2 0 1 σ) (fun y2 => ?_)
  refine q_if_ne (tgt := 20) dX12_alone_13 (by decide) ?_ ?_
  · refine q_aload_n (i := 0) (x := 0) dX12_alone_20 rfl 0 rfl ?_
    refine q_iload_n (i := 1) (x := p1) dX12_alone_21 rfl 1 rfl ?_
    refine q_iconst (v := 2) dX12_alone_22 (by decide) ?_
    refine q_iload_n (i := 2) (x := p2) dX12_alone_23 rfl 2 rfl ?_
    refine q_imul dX12_alone_24 ?_
    refine q_cVi mX12_span [.int p1, .int (2 * p2)] (st := []) dX12_alone_25 (svX12_251) ⟨Nat.le_of_ble_eq_true rfl, Nat.le_of_ble_eq_true rfl⟩ zM_0 rfl rfl rfl (Nat.le_of_ble_eq_true rfl) (kX12_span N p1 (2 * p2) σ) (fun y3 => ?_)
    refine q_istore_n (i := 3) (L' := [(3, .int y3.1), (0, .ref 0), (1, .int p1), (2, .int p2)]) dX12_alone_28 rfl (Nat.le_of_ble_eq_true rfl) rfl ?_
    refine q_aload_n (i := 0) (x := 0) dX12_alone_29 rfl 1 rfl ?_
    refine q_iload_n (i := 1) (x := p1) dX12_alone_30 rfl 2 rfl ?_
    refine q_iconst (v := 0) dX12_alone_31 (by decide) ?_
    refine q_cVi mX12_span [.int p1, .int 0] (st := []) dX12_alone_32 (svX12_251) ⟨Nat.le_of_ble_eq_true rfl, Nat.le_of_ble_eq_true rfl⟩ zM_0 rfl rfl rfl (Nat.le_of_ble_eq_true rfl) (kX12_span N p1 0 y3.2) (fun y4 => ?_)
    refine q_aload_n (i := 0) (x := 0) dX12_alone_35 rfl 1 rfl ?_
    refine q_iload_n (i := 1) (x := p1) dX12_alone_36 rfl 2 rfl ?_
    refine q_iconst (v := 1) dX12_alone_37 (by decide) ?_
    refine q_cVi mX12_span [.int p1, .int 1] (st := [.int y4.1]) dX12_alone_38 (svX12_251) ⟨Nat.le_of_ble_eq_true rfl, Nat.le_of_ble_eq_true rfl⟩ zM_0 rfl rfl rfl (Nat.le_of_ble_eq_true rfl) (kX12_span N p1 1 y4.2) (fun y5 => ?_)
    refine q_icmp_ne (tgt := 63) dX12_alone_41 (by decide) ?_ ?_
    · exact q_sub [1, 0] rfl (aX12_alone_b63 N y3.1 y5.2)
    refine q_aload_n (i := 0) (x := 0) dX12_alone_44 rfl 1 rfl ?_
    refine q_iload_n (i := 1) (x := p1) dX12_alone_45 rfl 2 rfl ?_
    refine q_iconst (v := 2) dX12_alone_46 (by decide) ?_
    refine q_cVi mX12_span [.int p1, .int 2] (st := []) dX12_alone_47 (svX12_251) ⟨Nat.le_of_ble_eq_true rfl, Nat.le_of_ble_eq_true rfl⟩ zM_0 rfl rfl rfl (Nat.le_of_ble_eq_true rfl) (kX12_span N p1 2 y5.2) (fun y6 => ?_)
    refine q_aload_n (i := 0) (x := 0) dX12_alone_50 rfl 1 rfl ?_
    refine q_iload_n (i := 1) (x := p1) dX12_alone_51 rfl 2 rfl ?_
    refine q_iconst (v := 3) dX12_alone_52 (by decide) ?_
    refine q_cVi mX12_span [.int p1, .int 3] (st := [.int y6.1]) dX12_alone_53 (svX12_251) ⟨Nat.le_of_ble_eq_true rfl, Nat.le_of_ble_eq_true rfl⟩ zM_0 rfl rfl rfl (Nat.le_of_ble_eq_true rfl) (kX12_span N p1 3 y6.2) (fun y7 => ?_)
    refine q_icmp_ne (tgt := 63) dX12_alone_56 (by decide) ?_ ?_
    · exact q_sub [1, 0] rfl (aX12_alone_b63 N y3.1 y7.2)
    refine q_iconst (v := 1) dX12_alone_59 (by decide) ?_
    refine q_goto (tgt := 64) dX12_alone_60 (by decide) ?_
    exact q_sub [1, 0] rfl (aX12_alone_b64 N y3.1 1 y7.2)
  refine q_sipush (v := (-1000)) dX12_alone_16 (by decide) ?_
  exact q_ireti (y := ((-1000), σ)) dX12_alone_19 rfl rfl
theorem kX12_alone  (N : Nat) (p1 : Int32) (p2 : Int32)  (σ : qMem) : qMc wM mX12_alone (ρi) [.ref 0, .int p1, .int p2] σ (fX12_alone N p1 p2 σ) := qMc_of (moX12_alone) (Nat.le_of_ble_eq_true rfl) (aX12_alone N p1 p2  σ)

theorem dX12_within_0 : decode cX12_within 0 = .ok (.iload_n 1, 1) := by decide +kernel
theorem dX12_within_1 : decode cX12_within 1 = .ok (.invokestatic 132, 3) := by decide +kernel
theorem dX12_within_4 : decode cX12_within 4 = .ok (.ifCond .eq 38, 3) := by decide +kernel
theorem dX12_within_7 : decode cX12_within 7 = .ok (.iload_n 2, 1) := by decide +kernel
theorem dX12_within_8 : decode cX12_within 8 = .ok (.bipush (-99), 2) := by decide +kernel
theorem dX12_within_10 : decode cX12_within 10 = .ok (.sipush 199, 3) := by decide +kernel
theorem dX12_within_13 : decode cX12_within 13 = .ok (.invokestatic 110, 3) := by decide +kernel
theorem dX12_within_16 : decode cX12_within 16 = .ok (.ifCond .eq 26, 3) := by decide +kernel
theorem dX12_within_19 : decode cX12_within 19 = .ok (.iload_n 3, 1) := by decide +kernel
theorem dX12_within_20 : decode cX12_within 20 = .ok (.bipush (-99), 2) := by decide +kernel
theorem dX12_within_22 : decode cX12_within 22 = .ok (.sipush 199, 3) := by decide +kernel
theorem dX12_within_25 : decode cX12_within 25 = .ok (.invokestatic 110, 3) := by decide +kernel
theorem dX12_within_28 : decode cX12_within 28 = .ok (.ifCond .eq 14, 3) := by decide +kernel
theorem dX12_within_31 : decode cX12_within 31 = .ok (.iload 4, 2) := by decide +kernel
theorem dX12_within_33 : decode cX12_within 33 = .ok (.iconst 0, 1) := by decide +kernel
theorem dX12_within_34 : decode cX12_within 34 = .ok (.bipush 99, 2) := by decide +kernel
theorem dX12_within_36 : decode cX12_within 36 = .ok (.invokestatic 110, 3) := by decide +kernel
theorem dX12_within_39 : decode cX12_within 39 = .ok (.ifCond .ne 5, 3) := by decide +kernel
theorem dX12_within_42 : decode cX12_within 42 = .ok (.iconst (-1), 1) := by decide +kernel
theorem dX12_within_43 : decode cX12_within 43 = .ok (.ireturn, 1) := by decide +kernel
theorem dX12_within_44 : decode cX12_within 44 = .ok (.aload_n 0, 1) := by decide +kernel
theorem dX12_within_45 : decode cX12_within 45 = .ok (.invokevirtual 244, 3) := by decide +kernel
theorem dX12_within_48 : decode cX12_within 48 = .ok (.iconst 0, 1) := by decide +kernel
theorem dX12_within_49 : decode cX12_within 49 = .ok (.istore 5, 2) := by decide +kernel
theorem dX12_within_51 : decode cX12_within 51 = .ok (.iconst 0, 1) := by decide +kernel
theorem dX12_within_52 : decode cX12_within 52 = .ok (.istore 6, 2) := by decide +kernel
theorem dX12_within_54 : decode cX12_within 54 = .ok (.iload 6, 2) := by decide +kernel
theorem dX12_within_56 : decode cX12_within 56 = .ok (.ldc 39, 2) := by decide +kernel
theorem dX12_within_58 : decode cX12_within 58 = .ok (.if_icmp .ge 75, 3) := by decide +kernel
theorem dX12_within_61 : decode cX12_within 61 = .ok (.iload 5, 2) := by decide +kernel
theorem dX12_within_63 : decode cX12_within 63 = .ok (.aload_n 0, 1) := by decide +kernel
theorem dX12_within_64 : decode cX12_within 64 = .ok (.getfield 40, 3) := by decide +kernel
theorem dX12_within_67 : decode cX12_within 67 = .ok (.iload 6, 2) := by decide +kernel
theorem dX12_within_69 : decode cX12_within 69 = .ok (.baload, 1) := by decide +kernel
theorem dX12_within_70 : decode cX12_within 70 = .ok (.ifCond .eq 53, 3) := by decide +kernel
theorem dX12_within_73 : decode cX12_within 73 = .ok (.iload 6, 2) := by decide +kernel
theorem dX12_within_75 : decode cX12_within 75 = .ok (.invokestatic 229, 3) := by decide +kernel
theorem dX12_within_78 : decode cX12_within 78 = .ok (.iload_n 1, 1) := by decide +kernel
theorem dX12_within_79 : decode cX12_within 79 = .ok (.iload 6, 2) := by decide +kernel
theorem dX12_within_81 : decode cX12_within 81 = .ok (.invokestatic 235, 3) := by decide +kernel
theorem dX12_within_84 : decode cX12_within 84 = .ok (.imul, 1) := by decide +kernel
theorem dX12_within_85 : decode cX12_within 85 = .ok (.iadd, 1) := by decide +kernel
theorem dX12_within_86 : decode cX12_within 86 = .ok (.iload_n 2, 1) := by decide +kernel
theorem dX12_within_87 : decode cX12_within 87 = .ok (.isub, 1) := by decide +kernel
theorem dX12_within_88 : decode cX12_within 88 = .ok (.invokestatic 142, 3) := by decide +kernel
theorem dX12_within_91 : decode cX12_within 91 = .ok (.iload 4, 2) := by decide +kernel
theorem dX12_within_93 : decode cX12_within 93 = .ok (.if_icmp .gt 30, 3) := by decide +kernel
theorem dX12_within_96 : decode cX12_within 96 = .ok (.iload 6, 2) := by decide +kernel
theorem dX12_within_98 : decode cX12_within 98 = .ok (.invokestatic 232, 3) := by decide +kernel
theorem dX12_within_101 : decode cX12_within 101 = .ok (.iload_n 1, 1) := by decide +kernel
theorem dX12_within_102 : decode cX12_within 102 = .ok (.iload 6, 2) := by decide +kernel
theorem dX12_within_104 : decode cX12_within 104 = .ok (.invokestatic 238, 3) := by decide +kernel
theorem dX12_within_107 : decode cX12_within 107 = .ok (.imul, 1) := by decide +kernel
theorem dX12_within_108 : decode cX12_within 108 = .ok (.iadd, 1) := by decide +kernel
theorem dX12_within_109 : decode cX12_within 109 = .ok (.iload_n 3, 1) := by decide +kernel
theorem dX12_within_110 : decode cX12_within 110 = .ok (.isub, 1) := by decide +kernel
theorem dX12_within_111 : decode cX12_within 111 = .ok (.invokestatic 142, 3) := by decide +kernel
theorem dX12_within_114 : decode cX12_within 114 = .ok (.iload 4, 2) := by decide +kernel
theorem dX12_within_116 : decode cX12_within 116 = .ok (.if_icmp .gt 7, 3) := by decide +kernel
theorem dX12_within_119 : decode cX12_within 119 = .ok (.iconst 1, 1) := by decide +kernel
theorem dX12_within_120 : decode cX12_within 120 = .ok (.goto 4, 3) := by decide +kernel
theorem dX12_within_123 : decode cX12_within 123 = .ok (.iconst 0, 1) := by decide +kernel
theorem dX12_within_124 : decode cX12_within 124 = .ok (.iadd, 1) := by decide +kernel
theorem dX12_within_125 : decode cX12_within 125 = .ok (.istore 5, 2) := by decide +kernel
theorem dX12_within_127 : decode cX12_within 127 = .ok (.iinc 6 1, 3) := by decide +kernel
theorem dX12_within_130 : decode cX12_within 130 = .ok (.goto (-76), 3) := by decide +kernel
theorem dX12_within_133 : decode cX12_within 133 = .ok (.iload 5, 2) := by decide +kernel
theorem dX12_within_135 : decode cX12_within 135 = .ok (.ireturn, 1) := by decide +kernel
def fX12_within_b124 (N : Nat) (c54 : Int32 → Int32 → Int32 → Int32 → Int32 → Int32 → qMem → Option (Int32 × qMem)) (v1 : Int32) (v2 : Int32) (v3 : Int32) (v4 : Int32) (v6 : Int32) (u0 : Int32) (u1 : Int32) (σ : qMem) : Option (Int32 × qMem) :=
  (c54 v1 v2 v3 v4 (u0 + u1) (v6 + 1) σ)
set_option maxRecDepth 20000 in
set_option maxHeartbeats 4000000 in
theorem aX12_within_b124 (N : Nat) (c54 : Int32 → Int32 → Int32 → Int32 → Int32 → Int32 → qMem → Option (Int32 × qMem)) (hc54 : ∀ (v1 : Int32) (v2 : Int32) (v3 : Int32) (v4 : Int32) (v5 : Int32) (v6 : Int32) (σ : qMem), qAt wM mX12_within (ρi) 54 [(0, .ref 0), (1, .int v1), (2, .int v2), (3, .int v3), (4, .int v4), (5, .int v5), (6, .int v6)] [] σ (c54 v1 v2 v3 v4 v5 v6 σ)) (v1 : Int32) (v2 : Int32) (v3 : Int32) (v4 : Int32) (v6 : Int32) (u0 : Int32) (u1 : Int32) (σ : qMem) : qAt wM mX12_within (ρi) 124 [(0, .ref 0), (1, .int v1), (2, .int v2), (3, .int v3), (4, .int v4), (6, .int v6)] [.int u1, .int u0] σ (fX12_within_b124 N c54 v1 v2 v3 v4 v6 u0 u1 σ) := by
  unfold fX12_within_b124
  refine q_iadd dX12_within_124 ?_
  refine q_istore (i := 5) (L' := [(5, .int (u0 + u1)), (0, .ref 0), (1, .int v1), (2, .int v2), (3, .int v3), (4, .int v4), (6, .int v6)]) dX12_within_125 (Nat.le_of_ble_eq_true rfl) rfl ?_
  refine q_iinc (i := 6) (x := v6) (v := (v6 + 1)) (L' := [(6, .int (v6 + 1)), (5, .int (u0 + u1)), (0, .ref 0), (1, .int v1), (2, .int v2), (3, .int v3), (4, .int v4)]) dX12_within_127 6 rfl (q_cst v6 (by decide)) (Nat.le_of_ble_eq_true rfl) rfl ?_
  refine q_goto (tgt := 54) dX12_within_130 (by decide) ?_
  exact q_sub [2, 3, 4, 5, 6, 1, 0] rfl (hc54 v1 v2 v3 v4 (u0 + u1) (v6 + 1) σ)

def fX12_within_b123 (N : Nat) (c54 : Int32 → Int32 → Int32 → Int32 → Int32 → Int32 → qMem → Option (Int32 × qMem)) (v1 : Int32) (v2 : Int32) (v3 : Int32) (v4 : Int32) (v6 : Int32) (u0 : Int32) (σ : qMem) : Option (Int32 × qMem) :=
  (fX12_within_b124 N c54 v1 v2 v3 v4 v6 u0 0 σ)
set_option maxRecDepth 20000 in
set_option maxHeartbeats 4000000 in
theorem aX12_within_b123 (N : Nat) (c54 : Int32 → Int32 → Int32 → Int32 → Int32 → Int32 → qMem → Option (Int32 × qMem)) (hc54 : ∀ (v1 : Int32) (v2 : Int32) (v3 : Int32) (v4 : Int32) (v5 : Int32) (v6 : Int32) (σ : qMem), qAt wM mX12_within (ρi) 54 [(0, .ref 0), (1, .int v1), (2, .int v2), (3, .int v3), (4, .int v4), (5, .int v5), (6, .int v6)] [] σ (c54 v1 v2 v3 v4 v5 v6 σ)) (v1 : Int32) (v2 : Int32) (v3 : Int32) (v4 : Int32) (v6 : Int32) (u0 : Int32) (σ : qMem) : qAt wM mX12_within (ρi) 123 [(0, .ref 0), (1, .int v1), (2, .int v2), (3, .int v3), (4, .int v4), (6, .int v6)] [.int u0] σ (fX12_within_b123 N c54 v1 v2 v3 v4 v6 u0 σ) := by
  unfold fX12_within_b123
  refine q_iconst (v := 0) dX12_within_123 (by decide) ?_
  exact q_sub [0, 1, 2, 3, 4, 5] rfl (aX12_within_b124 N c54 hc54 v1 v2 v3 v4 v6 u0 0 σ)

def fX12_within_s54 (N : Nat) (c54 : Int32 → Int32 → Int32 → Int32 → Int32 → Int32 → qMem → Option (Int32 × qMem)) (v1 : Int32) (v2 : Int32) (v3 : Int32) (v4 : Int32) (v5 : Int32) (v6 : Int32) (σ : qMem) : Option (Int32 × qMem) :=
  (if 50176 ≤ v6 then (some (v5, σ)) else (if ck v6 50176 = true then (if (gi σ 7 v6.toNatClampNeg) = 0 then (fX12_within_b123 N c54 v1 v2 v3 v4 v6 v5 σ) else ((fX12_eastOf v6).bind fun y6 => ((fX12_eastBy v6).bind fun y7 => ((fX12_size ((y6 + (v1 * y7)) - v2)).bind fun y8 => (if v4 < y8 then (fX12_within_b123 N c54 v1 v2 v3 v4 v6 v5 σ) else ((fX12_northOf v6).bind fun y9 => ((fX12_northBy v6).bind fun y10 => ((fX12_size ((y9 + (v1 * y10)) - v3)).bind fun y11 => (if v4 < y11 then (fX12_within_b123 N c54 v1 v2 v3 v4 v6 v5 σ) else (fX12_within_b124 N c54 v1 v2 v3 v4 v6 v5 1 σ)))))))))) else none))
set_option maxRecDepth 20000 in
set_option maxHeartbeats 4000000 in
theorem aX12_within_s54 (N : Nat) (c54 : Int32 → Int32 → Int32 → Int32 → Int32 → Int32 → qMem → Option (Int32 × qMem)) (hc54 : ∀ (v1 : Int32) (v2 : Int32) (v3 : Int32) (v4 : Int32) (v5 : Int32) (v6 : Int32) (σ : qMem), qAt wM mX12_within (ρi) 54 [(0, .ref 0), (1, .int v1), (2, .int v2), (3, .int v3), (4, .int v4), (5, .int v5), (6, .int v6)] [] σ (c54 v1 v2 v3 v4 v5 v6 σ)) (v1 : Int32) (v2 : Int32) (v3 : Int32) (v4 : Int32) (v5 : Int32) (v6 : Int32) (σ : qMem) : qAt wM mX12_within (ρi) 54 [(0, .ref 0), (1, .int v1), (2, .int v2), (3, .int v3), (4, .int v4), (5, .int v5), (6, .int v6)] [] σ (fX12_within_s54 N c54 v1 v2 v3 v4 v5 v6 σ) := by
  unfold fX12_within_s54
  refine q_iload (i := 6) (x := v6) dX12_within_54 6 rfl ?_
  refine q_ldc (v := 50176) dX12_within_56 (g_6 93 (by decide +kernel) rfl) ?_
  refine q_icmp_ge (tgt := 133) dX12_within_58 (by decide) ?_ ?_
  · refine q_iload (i := 5) (x := v5) dX12_within_133 5 rfl ?_
    exact q_ireti (y := (v5, σ)) dX12_within_135 rfl rfl
  refine q_iload (i := 5) (x := v5) dX12_within_61 5 rfl ?_
  refine q_aload_n (i := 0) (x := 0) dX12_within_63 rfl 0 rfl ?_
  refine q_getr (t := 7) dX12_within_64 foX12_40 zM_0 rfl ?_
  refine q_iload (i := 6) (x := v6) dX12_within_67 6 rfl ?_
  refine q_zald dX12_within_69 zM_7 ?_
  refine q_if_eq (tgt := 123) dX12_within_70 (by decide) ?_ ?_
  · exact q_sub [0, 1, 2, 3, 4, 6] rfl (aX12_within_b123 N c54 hc54 v1 v2 v3 v4 v6 v5 σ)
  refine q_iload (i := 6) (x := v6) dX12_within_73 6 rfl ?_
  refine q_cSp mX12_eastOf [.int v6] (st := [.int v5]) dX12_within_75 (ssX12_229) ⟨Nat.le_of_ble_eq_true rfl, Nat.le_of_ble_eq_true rfl⟩ rfl rfl (Nat.le_of_ble_eq_true rfl) (kX12_eastOf v6 σ) (fun y6 => ?_)
  refine q_iload_n (i := 1) (x := v1) dX12_within_78 rfl 1 rfl ?_
  refine q_iload (i := 6) (x := v6) dX12_within_79 6 rfl ?_
  refine q_cSp mX12_eastBy [.int v6] (st := [.int v1, .int y6, .int v5]) dX12_within_81 (ssX12_235) ⟨Nat.le_of_ble_eq_true rfl, Nat.le_of_ble_eq_true rfl⟩ rfl rfl (Nat.le_of_ble_eq_true rfl) (kX12_eastBy v6 σ) (fun y7 => ?_)
  refine q_imul dX12_within_84 ?_
  refine q_iadd dX12_within_85 ?_
  refine q_iload_n (i := 2) (x := v2) dX12_within_86 rfl 2 rfl ?_
  refine q_isub dX12_within_87 ?_
  refine q_cSp mX12_size [.int ((y6 + (v1 * y7)) - v2)] (st := [.int v5]) dX12_within_88 (ssX12_142) ⟨Nat.le_of_ble_eq_true rfl, Nat.le_of_ble_eq_true rfl⟩ rfl rfl (Nat.le_of_ble_eq_true rfl) (kX12_size ((y6 + (v1 * y7)) - v2) σ) (fun y8 => ?_)
  refine q_iload (i := 4) (x := v4) dX12_within_91 4 rfl ?_
  refine q_icmp_gt (tgt := 123) dX12_within_93 (by decide) ?_ ?_
  · exact q_sub [0, 1, 2, 3, 4, 6] rfl (aX12_within_b123 N c54 hc54 v1 v2 v3 v4 v6 v5 σ)
  refine q_iload (i := 6) (x := v6) dX12_within_96 6 rfl ?_
  refine q_cSp mX12_northOf [.int v6] (st := [.int v5]) dX12_within_98 (ssX12_232) ⟨Nat.le_of_ble_eq_true rfl, Nat.le_of_ble_eq_true rfl⟩ rfl rfl (Nat.le_of_ble_eq_true rfl) (kX12_northOf v6 σ) (fun y9 => ?_)
  refine q_iload_n (i := 1) (x := v1) dX12_within_101 rfl 1 rfl ?_
  refine q_iload (i := 6) (x := v6) dX12_within_102 6 rfl ?_
  refine q_cSp mX12_northBy [.int v6] (st := [.int v1, .int y9, .int v5]) dX12_within_104 (ssX12_238) ⟨Nat.le_of_ble_eq_true rfl, Nat.le_of_ble_eq_true rfl⟩ rfl rfl (Nat.le_of_ble_eq_true rfl) (kX12_northBy v6 σ) (fun y10 => ?_)
  refine q_imul dX12_within_107 ?_
  refine q_iadd dX12_within_108 ?_
  refine q_iload_n (i := 3) (x := v3) dX12_within_109 rfl 3 rfl ?_
  refine q_isub dX12_within_110 ?_
  refine q_cSp mX12_size [.int ((y9 + (v1 * y10)) - v3)] (st := [.int v5]) dX12_within_111 (ssX12_142) ⟨Nat.le_of_ble_eq_true rfl, Nat.le_of_ble_eq_true rfl⟩ rfl rfl (Nat.le_of_ble_eq_true rfl) (kX12_size ((y9 + (v1 * y10)) - v3) σ) (fun y11 => ?_)
  refine q_iload (i := 4) (x := v4) dX12_within_114 4 rfl ?_
  refine q_icmp_gt (tgt := 123) dX12_within_116 (by decide) ?_ ?_
  · exact q_sub [0, 1, 2, 3, 4, 6] rfl (aX12_within_b123 N c54 hc54 v1 v2 v3 v4 v6 v5 σ)
  refine q_iconst (v := 1) dX12_within_119 (by decide) ?_
  refine q_goto (tgt := 124) dX12_within_120 (by decide) ?_
  exact q_sub [0, 1, 2, 3, 4, 6] rfl (aX12_within_b124 N c54 hc54 v1 v2 v3 v4 v6 v5 1 σ)
def fX12_within_l54 (N : Nat) : Nat → Int32 → Int32 → Int32 → Int32 → Int32 → Int32 → qMem → Option (Int32 × qMem)
  | 0 => fun _ _ _ _ _ _ _ => none
  | n + 1 => fun v1 v2 v3 v4 v5 v6 σ => fX12_within_s54 N (fX12_within_l54 N n) v1 v2 v3 v4 v5 v6 σ
theorem aX12_within_l54 (N : Nat) : ∀ (n : Nat) (v1 : Int32) (v2 : Int32) (v3 : Int32) (v4 : Int32) (v5 : Int32) (v6 : Int32) (σ : qMem), qAt wM mX12_within (ρi) 54 [(0, .ref 0), (1, .int v1), (2, .int v2), (3, .int v3), (4, .int v4), (5, .int v5), (6, .int v6)] [] σ (fX12_within_l54 N n v1 v2 v3 v4 v5 v6 σ) := by
  intro n
  induction n with
  | zero => intro v1 v2 v3 v4 v5 v6 σ; exact q_none
  | succ n ih => intro v1 v2 v3 v4 v5 v6 σ; exact aX12_within_s54 N (fX12_within_l54 N n) ih v1 v2 v3 v4 v5 v6 σ

def fX12_within (N : Nat) (p1 : Int32) (p2 : Int32) (p3 : Int32) (p4 : Int32) (σ : qMem) : Option (Int32 × qMem) :=
  ((fX12_isBell p1).bind fun y1 => (if y1 = 0 then (some ((-1), σ)) else ((fX12_in p2 (-99) 199).bind fun y2 => (if y2 = 0 then (some ((-1), σ)) else ((fX12_in p3 (-99) 199).bind fun y3 => (if y3 = 0 then (some ((-1), σ)) else ((fX12_in p4 0 99).bind fun y4 => (if y4 = 0 then (some ((-1), σ)) else ((fX12_fits N σ).bind fun y5 => (fX12_within_l54 N N p1 p2 p3 p4 0 0 y5))))))))))
set_option maxRecDepth 20000 in
set_option maxHeartbeats 4000000 in
theorem aX12_within  (N : Nat) (p1 : Int32) (p2 : Int32) (p3 : Int32) (p4 : Int32)  (σ : qMem) : qAt wM mX12_within (ρi) 0 [(0, .ref 0), (1, .int p1), (2, .int p2), (3, .int p3), (4, .int p4)] [] σ (fX12_within N p1 p2 p3 p4 σ) := by
  unfold fX12_within
  refine q_iload_n (i := 1) (x := p1) dX12_within_0 rfl 1 rfl ?_
  refine q_cSp mX12_isBell [.int p1] (st := []) dX12_within_1 (ssX12_132) ⟨Nat.le_of_ble_eq_true rfl, Nat.le_of_ble_eq_true rfl⟩ rfl rfl (Nat.le_of_ble_eq_true rfl) (kX12_isBell p1 σ) (fun y1 => ?_)
  refine q_if_eq (tgt := 42) dX12_within_4 (by decide) ?_ ?_
  · refine q_iconst (v := (-1)) dX12_within_42 (by decide) ?_
    exact q_ireti (y := ((-1), σ)) dX12_within_43 rfl rfl
  refine q_iload_n (i := 2) (x := p2) dX12_within_7 rfl 2 rfl ?_
  refine q_bipush (v := (-99)) dX12_within_8 (by decide) ?_
  refine q_sipush (v := 199) dX12_within_10 (by decide) ?_
  refine q_cSp mX12_in [.int p2, .int (-99), .int 199] (st := []) dX12_within_13 (ssX12_110) ⟨Nat.le_of_ble_eq_true rfl, Nat.le_of_ble_eq_true rfl⟩ rfl rfl (Nat.le_of_ble_eq_true rfl) (kX12_in p2 (-99) 199 σ) (fun y2 => ?_)
  refine q_if_eq (tgt := 42) dX12_within_16 (by decide) ?_ ?_
  · refine q_iconst (v := (-1)) dX12_within_42 (by decide) ?_
    exact q_ireti (y := ((-1), σ)) dX12_within_43 rfl rfl
  refine q_iload_n (i := 3) (x := p3) dX12_within_19 rfl 3 rfl ?_
  refine q_bipush (v := (-99)) dX12_within_20 (by decide) ?_
  refine q_sipush (v := 199) dX12_within_22 (by decide) ?_
  refine q_cSp mX12_in [.int p3, .int (-99), .int 199] (st := []) dX12_within_25 (ssX12_110) ⟨Nat.le_of_ble_eq_true rfl, Nat.le_of_ble_eq_true rfl⟩ rfl rfl (Nat.le_of_ble_eq_true rfl) (kX12_in p3 (-99) 199 σ) (fun y3 => ?_)
  refine q_if_eq (tgt := 42) dX12_within_28 (by decide) ?_ ?_
  · refine q_iconst (v := (-1)) dX12_within_42 (by decide) ?_
    exact q_ireti (y := ((-1), σ)) dX12_within_43 rfl rfl
  refine q_iload (i := 4) (x := p4) dX12_within_31 4 rfl ?_
  refine q_iconst (v := 0) dX12_within_33 (by decide) ?_
  refine q_bipush (v := 99) dX12_within_34 (by decide) ?_
  refine q_cSp mX12_in [.int p4, .int 0, .int 99] (st := []) dX12_within_36 (ssX12_110) ⟨Nat.le_of_ble_eq_true rfl, Nat.le_of_ble_eq_true rfl⟩ rfl rfl (Nat.le_of_ble_eq_true rfl) (kX12_in p4 0 99 σ) (fun y4 => ?_)
  refine q_if_ne (tgt := 44) dX12_within_39 (by decide) ?_ ?_
  · refine q_aload_n (i := 0) (x := 0) dX12_within_44 rfl 0 rfl ?_
    refine q_cVv mX12_fits [] (st := []) dX12_within_45 (svX12_244) ⟨Nat.le_of_ble_eq_true rfl, Nat.le_of_ble_eq_true rfl⟩ zM_0 rfl rfl rfl (Nat.le_of_ble_eq_true rfl) (kX12_fits N σ) (fun y5 => ?_)
    refine q_iconst (v := 0) dX12_within_48 (by decide) ?_
    refine q_istore (i := 5) (L' := [(5, .int 0), (0, .ref 0), (1, .int p1), (2, .int p2), (3, .int p3), (4, .int p4)]) dX12_within_49 (Nat.le_of_ble_eq_true rfl) rfl ?_
    refine q_iconst (v := 0) dX12_within_51 (by decide) ?_
    refine q_istore (i := 6) (L' := [(6, .int 0), (5, .int 0), (0, .ref 0), (1, .int p1), (2, .int p2), (3, .int p3), (4, .int p4)]) dX12_within_52 (Nat.le_of_ble_eq_true rfl) rfl ?_
    exact q_sub [2, 3, 4, 5, 6, 1, 0] rfl (aX12_within_l54 N N p1 p2 p3 p4 0 0 y5)
  refine q_iconst (v := (-1)) dX12_within_42 (by decide) ?_
  exact q_ireti (y := ((-1), σ)) dX12_within_43 rfl rfl
theorem kX12_within  (N : Nat) (p1 : Int32) (p2 : Int32) (p3 : Int32) (p4 : Int32)  (σ : qMem) : qMc wM mX12_within (ρi) [.ref 0, .int p1, .int p2, .int p3, .int p4] σ (fX12_within N p1 p2 p3 p4 σ) := qMc_of (moX12_within) (Nat.le_of_ble_eq_true rfl) (aX12_within N p1 p2 p3 p4  σ)

theorem dX12_judges_0 : decode cX12_judges 0 = .ok (.aload_n 0, 1) := by decide +kernel
theorem dX12_judges_1 : decode cX12_judges 1 = .ok (.getfield 50, 3) := by decide +kernel
theorem dX12_judges_4 : decode cX12_judges 4 = .ok (.aload_n 0, 1) := by decide +kernel
theorem dX12_judges_5 : decode cX12_judges 5 = .ok (.getfield 11, 3) := by decide +kernel
theorem dX12_judges_8 : decode cX12_judges 8 = .ok (.if_icmp .ne 4, 3) := by decide +kernel
theorem dX12_judges_11 : decode cX12_judges 11 = .ok (.return_, 1) := by decide +kernel
theorem dX12_judges_12 : decode cX12_judges 12 = .ok (.aload_n 0, 1) := by decide +kernel
theorem dX12_judges_13 : decode cX12_judges 13 = .ok (.aload_n 0, 1) := by decide +kernel
theorem dX12_judges_14 : decode cX12_judges 14 = .ok (.getfield 11, 3) := by decide +kernel
theorem dX12_judges_17 : decode cX12_judges 17 = .ok (.putfield 50, 3) := by decide +kernel
theorem dX12_judges_20 : decode cX12_judges 20 = .ok (.aload_n 0, 1) := by decide +kernel
theorem dX12_judges_21 : decode cX12_judges 21 = .ok (.invokevirtual 223, 3) := by decide +kernel
theorem dX12_judges_24 : decode cX12_judges 24 = .ok (.iconst 0, 1) := by decide +kernel
theorem dX12_judges_25 : decode cX12_judges 25 = .ok (.istore_n 1, 1) := by decide +kernel
theorem dX12_judges_26 : decode cX12_judges 26 = .ok (.iload_n 1, 1) := by decide +kernel
theorem dX12_judges_27 : decode cX12_judges 27 = .ok (.ldc 39, 2) := by decide +kernel
theorem dX12_judges_29 : decode cX12_judges 29 = .ok (.if_icmp .ge 36, 3) := by decide +kernel
theorem dX12_judges_32 : decode cX12_judges 32 = .ok (.aload_n 0, 1) := by decide +kernel
theorem dX12_judges_33 : decode cX12_judges 33 = .ok (.getfield 46, 3) := by decide +kernel
theorem dX12_judges_36 : decode cX12_judges 36 = .ok (.iload_n 1, 1) := by decide +kernel
theorem dX12_judges_37 : decode cX12_judges 37 = .ok (.aload_n 0, 1) := by decide +kernel
theorem dX12_judges_38 : decode cX12_judges 38 = .ok (.iload_n 1, 1) := by decide +kernel
theorem dX12_judges_39 : decode cX12_judges 39 = .ok (.invokestatic 229, 3) := by decide +kernel
theorem dX12_judges_42 : decode cX12_judges 42 = .ok (.iload_n 1, 1) := by decide +kernel
theorem dX12_judges_43 : decode cX12_judges 43 = .ok (.invokestatic 232, 3) := by decide +kernel
theorem dX12_judges_46 : decode cX12_judges 46 = .ok (.iload_n 1, 1) := by decide +kernel
theorem dX12_judges_47 : decode cX12_judges 47 = .ok (.invokestatic 235, 3) := by decide +kernel
theorem dX12_judges_50 : decode cX12_judges 50 = .ok (.iload_n 1, 1) := by decide +kernel
theorem dX12_judges_51 : decode cX12_judges 51 = .ok (.invokestatic 238, 3) := by decide +kernel
theorem dX12_judges_54 : decode cX12_judges 54 = .ok (.invokevirtual 247, 3) := by decide +kernel
theorem dX12_judges_57 : decode cX12_judges 57 = .ok (.i2b, 1) := by decide +kernel
theorem dX12_judges_58 : decode cX12_judges 58 = .ok (.bastore, 1) := by decide +kernel
theorem dX12_judges_59 : decode cX12_judges 59 = .ok (.iinc 1 1, 3) := by decide +kernel
theorem dX12_judges_62 : decode cX12_judges 62 = .ok (.goto (-36), 3) := by decide +kernel
theorem dX12_judges_65 : decode cX12_judges 65 = .ok (.return_, 1) := by decide +kernel
def fX12_judges_s26 (N : Nat) (c26 : Int32 → qMem → Option qMem) (v1 : Int32) (σ : qMem) : Option qMem :=
  (if 50176 ≤ v1 then (some σ) else ((fX12_eastOf v1).bind fun y3 => ((fX12_northOf v1).bind fun y4 => ((fX12_eastBy v1).bind fun y5 => ((fX12_northBy v1).bind fun y6 => ((fX12_missedBest N y3 y4 y5 y6 σ).bind fun y7 => (if ck v1 50176 = true then (nmM (si y7.2 8 v1.toNatClampNeg (vp_nar .byte y7.1.toInt8.toInt32)) fun s8 => (c26 (v1 + 1) s8)) else none)))))))
set_option maxRecDepth 20000 in
set_option maxHeartbeats 4000000 in
theorem aX12_judges_s26 (N : Nat) (c26 : Int32 → qMem → Option qMem) (hc26 : ∀ (v1 : Int32) (σ : qMem), qAt wM mX12_judges (ρv) 26 [(0, .ref 0), (1, .int v1)] [] σ (c26 v1 σ)) (v1 : Int32) (σ : qMem) : qAt wM mX12_judges (ρv) 26 [(0, .ref 0), (1, .int v1)] [] σ (fX12_judges_s26 N c26 v1 σ) := by
  unfold fX12_judges_s26
  refine q_iload_n (i := 1) (x := v1) dX12_judges_26 rfl 1 rfl ?_
  refine q_ldc (v := 50176) dX12_judges_27 (g_6 93 (by decide +kernel) rfl) ?_
  refine q_icmp_ge (tgt := 65) dX12_judges_29 (by decide) ?_ ?_
  · exact q_vret (y := σ) dX12_judges_65 rfl rfl
  refine q_aload_n (i := 0) (x := 0) dX12_judges_32 rfl 0 rfl ?_
  refine q_getr (t := 8) dX12_judges_33 foX12_46 zM_0 rfl ?_
  refine q_iload_n (i := 1) (x := v1) dX12_judges_36 rfl 1 rfl ?_
  refine q_aload_n (i := 0) (x := 0) dX12_judges_37 rfl 0 rfl ?_
  refine q_iload_n (i := 1) (x := v1) dX12_judges_38 rfl 1 rfl ?_
  refine q_cSp mX12_eastOf [.int v1] (st := [.ref 0, .int v1, .ref 8]) dX12_judges_39 (ssX12_229) ⟨Nat.le_of_ble_eq_true rfl, Nat.le_of_ble_eq_true rfl⟩ rfl rfl (Nat.le_of_ble_eq_true rfl) (kX12_eastOf v1 σ) (fun y3 => ?_)
  refine q_iload_n (i := 1) (x := v1) dX12_judges_42 rfl 1 rfl ?_
  refine q_cSp mX12_northOf [.int v1] (st := [.int y3, .ref 0, .int v1, .ref 8]) dX12_judges_43 (ssX12_232) ⟨Nat.le_of_ble_eq_true rfl, Nat.le_of_ble_eq_true rfl⟩ rfl rfl (Nat.le_of_ble_eq_true rfl) (kX12_northOf v1 σ) (fun y4 => ?_)
  refine q_iload_n (i := 1) (x := v1) dX12_judges_46 rfl 1 rfl ?_
  refine q_cSp mX12_eastBy [.int v1] (st := [.int y4, .int y3, .ref 0, .int v1, .ref 8]) dX12_judges_47 (ssX12_235) ⟨Nat.le_of_ble_eq_true rfl, Nat.le_of_ble_eq_true rfl⟩ rfl rfl (Nat.le_of_ble_eq_true rfl) (kX12_eastBy v1 σ) (fun y5 => ?_)
  refine q_iload_n (i := 1) (x := v1) dX12_judges_50 rfl 1 rfl ?_
  refine q_cSp mX12_northBy [.int v1] (st := [.int y5, .int y4, .int y3, .ref 0, .int v1, .ref 8]) dX12_judges_51 (ssX12_238) ⟨Nat.le_of_ble_eq_true rfl, Nat.le_of_ble_eq_true rfl⟩ rfl rfl (Nat.le_of_ble_eq_true rfl) (kX12_northBy v1 σ) (fun y6 => ?_)
  refine q_cVi mX12_missedBest [.int y3, .int y4, .int y5, .int y6] (st := [.int v1, .ref 8]) dX12_judges_54 (svX12_247) ⟨Nat.le_of_ble_eq_true rfl, Nat.le_of_ble_eq_true rfl⟩ zM_0 rfl rfl rfl (Nat.le_of_ble_eq_true rfl) (kX12_missedBest N y3 y4 y5 y6 σ) (fun y7 => ?_)
  refine q_i2b dX12_judges_57 ?_
  refine q_bast dX12_judges_58 zM_8 ?_
  refine q_nmM (fun s8 => ?_)
  refine q_iinc (i := 1) (x := v1) (v := (v1 + 1)) (L' := [(1, .int (v1 + 1)), (0, .ref 0)]) dX12_judges_59 1 rfl (q_cst v1 (by decide)) (Nat.le_of_ble_eq_true rfl) rfl ?_
  refine q_goto (tgt := 26) dX12_judges_62 (by decide) ?_
  exact q_sub [1, 0] rfl (hc26 (v1 + 1) s8)
def fX12_judges_l26 (N : Nat) : Nat → Int32 → qMem → Option qMem
  | 0 => fun _ _ => none
  | n + 1 => fun v1 σ => fX12_judges_s26 N (fX12_judges_l26 N n) v1 σ
theorem aX12_judges_l26 (N : Nat) : ∀ (n : Nat) (v1 : Int32) (σ : qMem), qAt wM mX12_judges (ρv) 26 [(0, .ref 0), (1, .int v1)] [] σ (fX12_judges_l26 N n v1 σ) := by
  intro n
  induction n with
  | zero => intro v1 σ; exact q_none
  | succ n ih => intro v1 σ; exact aX12_judges_s26 N (fX12_judges_l26 N n) ih v1 σ

def fX12_judges (N : Nat)  (σ : qMem) : Option qMem :=
  (if (gi σ 0 15) = (gi σ 0 2) then (some σ) else (nmM (si σ 0 15 (gi σ 0 2)) fun s1 => ((fX12_laysNews N s1).bind fun y2 => (fX12_judges_l26 N N 0 y2))))
set_option maxRecDepth 20000 in
set_option maxHeartbeats 4000000 in
theorem aX12_judges  (N : Nat)   (σ : qMem) : qAt wM mX12_judges (ρv) 0 [(0, .ref 0)] [] σ (fX12_judges N σ) := by
  unfold fX12_judges
  refine q_aload_n (i := 0) (x := 0) dX12_judges_0 rfl 0 rfl ?_
  refine q_geti dX12_judges_1 foX12_50 zM_0 rfl ?_
  refine q_aload_n (i := 0) (x := 0) dX12_judges_4 rfl 0 rfl ?_
  refine q_geti dX12_judges_5 foX12_11 zM_0 rfl ?_
  refine q_icmp_ne (tgt := 12) dX12_judges_8 (by decide) ?_ ?_
  · refine q_aload_n (i := 0) (x := 0) dX12_judges_12 rfl 0 rfl ?_
    refine q_aload_n (i := 0) (x := 0) dX12_judges_13 rfl 0 rfl ?_
    refine q_geti dX12_judges_14 foX12_11 zM_0 rfl ?_
    refine q_puti dX12_judges_17 foX12_50 fwX12_15 zM_0 rfl ?_
    refine q_nmM (fun s1 => ?_)
    refine q_aload_n (i := 0) (x := 0) dX12_judges_20 rfl 0 rfl ?_
    refine q_cVv mX12_laysNews [] (st := []) dX12_judges_21 (svX12_223) ⟨Nat.le_of_ble_eq_true rfl, Nat.le_of_ble_eq_true rfl⟩ zM_0 rfl rfl rfl (Nat.le_of_ble_eq_true rfl) (kX12_laysNews N s1) (fun y2 => ?_)
    refine q_iconst (v := 0) dX12_judges_24 (by decide) ?_
    refine q_istore_n (i := 1) (L' := [(1, .int 0), (0, .ref 0)]) dX12_judges_25 rfl (Nat.le_of_ble_eq_true rfl) rfl ?_
    exact q_sub [1, 0] rfl (aX12_judges_l26 N N 0 y2)
  exact q_vret (y := σ) dX12_judges_11 rfl rfl
theorem kX12_judges  (N : Nat)   (σ : qMem) : qMc wM mX12_judges (ρv) [.ref 0] σ (fX12_judges N σ) := qMc_of (moX12_judges) (Nat.le_of_ble_eq_true rfl) (aX12_judges N  σ)

theorem dX12_missingLess_0 : decode cX12_missingLess 0 = .ok (.iconst 0, 1) := by decide +kernel
theorem dX12_missingLess_1 : decode cX12_missingLess 1 = .ok (.istore_n 2, 1) := by decide +kernel
theorem dX12_missingLess_2 : decode cX12_missingLess 2 = .ok (.iconst 0, 1) := by decide +kernel
theorem dX12_missingLess_3 : decode cX12_missingLess 3 = .ok (.istore_n 3, 1) := by decide +kernel
theorem dX12_missingLess_4 : decode cX12_missingLess 4 = .ok (.iload_n 3, 1) := by decide +kernel
theorem dX12_missingLess_5 : decode cX12_missingLess 5 = .ok (.ldc 39, 2) := by decide +kernel
theorem dX12_missingLess_7 : decode cX12_missingLess 7 = .ok (.if_icmp .ge 27, 3) := by decide +kernel
theorem dX12_missingLess_10 : decode cX12_missingLess 10 = .ok (.iload_n 2, 1) := by decide +kernel
theorem dX12_missingLess_11 : decode cX12_missingLess 11 = .ok (.aload_n 0, 1) := by decide +kernel
theorem dX12_missingLess_12 : decode cX12_missingLess 12 = .ok (.getfield 46, 3) := by decide +kernel
theorem dX12_missingLess_15 : decode cX12_missingLess 15 = .ok (.iload_n 3, 1) := by decide +kernel
theorem dX12_missingLess_16 : decode cX12_missingLess 16 = .ok (.baload, 1) := by decide +kernel
theorem dX12_missingLess_17 : decode cX12_missingLess 17 = .ok (.iload_n 1, 1) := by decide +kernel
theorem dX12_missingLess_18 : decode cX12_missingLess 18 = .ok (.if_icmp .ge 7, 3) := by decide +kernel
theorem dX12_missingLess_21 : decode cX12_missingLess 21 = .ok (.iconst 1, 1) := by decide +kernel
theorem dX12_missingLess_22 : decode cX12_missingLess 22 = .ok (.goto 4, 3) := by decide +kernel
theorem dX12_missingLess_25 : decode cX12_missingLess 25 = .ok (.iconst 0, 1) := by decide +kernel
theorem dX12_missingLess_26 : decode cX12_missingLess 26 = .ok (.iadd, 1) := by decide +kernel
theorem dX12_missingLess_27 : decode cX12_missingLess 27 = .ok (.istore_n 2, 1) := by decide +kernel
theorem dX12_missingLess_28 : decode cX12_missingLess 28 = .ok (.iinc 3 1, 3) := by decide +kernel
theorem dX12_missingLess_31 : decode cX12_missingLess 31 = .ok (.goto (-27), 3) := by decide +kernel
theorem dX12_missingLess_34 : decode cX12_missingLess 34 = .ok (.iload_n 2, 1) := by decide +kernel
theorem dX12_missingLess_35 : decode cX12_missingLess 35 = .ok (.ireturn, 1) := by decide +kernel
def fX12_missingLess_b26 (N : Nat) (c4 : Int32 → Int32 → Int32 → Option Int32) (v1 : Int32) (v3 : Int32) (u0 : Int32) (u1 : Int32) (σ : qMem) : Option Int32 :=
  (c4 v1 (u0 + u1) (v3 + 1))
set_option maxRecDepth 20000 in
set_option maxHeartbeats 4000000 in
theorem aX12_missingLess_b26 (N : Nat) (σ : qMem) (c4 : Int32 → Int32 → Int32 → Option Int32) (hc4 : ∀ (v1 : Int32) (v2 : Int32) (v3 : Int32) , qAt wM mX12_missingLess (ρp σ) 4 [(0, .ref 0), (1, .int v1), (2, .int v2), (3, .int v3)] [] σ (c4 v1 v2 v3)) (v1 : Int32) (v3 : Int32) (u0 : Int32) (u1 : Int32) : qAt wM mX12_missingLess (ρp σ) 26 [(0, .ref 0), (1, .int v1), (3, .int v3)] [.int u1, .int u0] σ (fX12_missingLess_b26 N c4 v1 v3 u0 u1 σ) := by
  unfold fX12_missingLess_b26
  refine q_iadd dX12_missingLess_26 ?_
  refine q_istore_n (i := 2) (L' := [(2, .int (u0 + u1)), (0, .ref 0), (1, .int v1), (3, .int v3)]) dX12_missingLess_27 rfl (Nat.le_of_ble_eq_true rfl) rfl ?_
  refine q_iinc (i := 3) (x := v3) (v := (v3 + 1)) (L' := [(3, .int (v3 + 1)), (2, .int (u0 + u1)), (0, .ref 0), (1, .int v1)]) dX12_missingLess_28 3 rfl (q_cst v3 (by decide)) (Nat.le_of_ble_eq_true rfl) rfl ?_
  refine q_goto (tgt := 4) dX12_missingLess_31 (by decide) ?_
  exact q_sub [2, 3, 1, 0] rfl (hc4 v1 (u0 + u1) (v3 + 1))

def fX12_missingLess_s4 (N : Nat) (c4 : Int32 → Int32 → Int32 → Option Int32) (v1 : Int32) (v2 : Int32) (v3 : Int32) (σ : qMem) : Option Int32 :=
  (if 50176 ≤ v3 then (some v2) else (if ck v3 50176 = true then (if v1 ≤ (gi σ 8 v3.toNatClampNeg) then (fX12_missingLess_b26 N c4 v1 v3 v2 0 σ) else (fX12_missingLess_b26 N c4 v1 v3 v2 1 σ)) else none))
set_option maxRecDepth 20000 in
set_option maxHeartbeats 4000000 in
theorem aX12_missingLess_s4 (N : Nat) (σ : qMem) (c4 : Int32 → Int32 → Int32 → Option Int32) (hc4 : ∀ (v1 : Int32) (v2 : Int32) (v3 : Int32) , qAt wM mX12_missingLess (ρp σ) 4 [(0, .ref 0), (1, .int v1), (2, .int v2), (3, .int v3)] [] σ (c4 v1 v2 v3)) (v1 : Int32) (v2 : Int32) (v3 : Int32) : qAt wM mX12_missingLess (ρp σ) 4 [(0, .ref 0), (1, .int v1), (2, .int v2), (3, .int v3)] [] σ (fX12_missingLess_s4 N c4 v1 v2 v3 σ) := by
  unfold fX12_missingLess_s4
  refine q_iload_n (i := 3) (x := v3) dX12_missingLess_4 rfl 3 rfl ?_
  refine q_ldc (v := 50176) dX12_missingLess_5 (g_6 93 (by decide +kernel) rfl) ?_
  refine q_icmp_ge (tgt := 34) dX12_missingLess_7 (by decide) ?_ ?_
  · refine q_iload_n (i := 2) (x := v2) dX12_missingLess_34 rfl 2 rfl ?_
    exact q_ireti (y := v2) dX12_missingLess_35 rfl rfl
  refine q_iload_n (i := 2) (x := v2) dX12_missingLess_10 rfl 2 rfl ?_
  refine q_aload_n (i := 0) (x := 0) dX12_missingLess_11 rfl 0 rfl ?_
  refine q_getr (t := 8) dX12_missingLess_12 foX12_46 zM_0 rfl ?_
  refine q_iload_n (i := 3) (x := v3) dX12_missingLess_15 rfl 3 rfl ?_
  refine q_bald dX12_missingLess_16 zM_8 ?_
  refine q_iload_n (i := 1) (x := v1) dX12_missingLess_17 rfl 1 rfl ?_
  refine q_icmp_ge (tgt := 25) dX12_missingLess_18 (by decide) ?_ ?_
  · refine q_iconst (v := 0) dX12_missingLess_25 (by decide) ?_
    exact q_sub [0, 1, 3] rfl (aX12_missingLess_b26 N σ c4 hc4 v1 v3 v2 0)
  refine q_iconst (v := 1) dX12_missingLess_21 (by decide) ?_
  refine q_goto (tgt := 26) dX12_missingLess_22 (by decide) ?_
  exact q_sub [0, 1, 3] rfl (aX12_missingLess_b26 N σ c4 hc4 v1 v3 v2 1)
def fX12_missingLess_l4 (N : Nat) (σ : qMem) : Nat → Int32 → Int32 → Int32 → Option Int32
  | 0 => fun _ _ _ => none
  | n + 1 => fun v1 v2 v3 => fX12_missingLess_s4 N (fX12_missingLess_l4 N σ n) v1 v2 v3 σ
theorem aX12_missingLess_l4 (N : Nat) (σ : qMem) : ∀ (n : Nat) (v1 : Int32) (v2 : Int32) (v3 : Int32), qAt wM mX12_missingLess (ρp σ) 4 [(0, .ref 0), (1, .int v1), (2, .int v2), (3, .int v3)] [] σ (fX12_missingLess_l4 N σ n v1 v2 v3) := by
  intro n
  induction n with
  | zero => intro v1 v2 v3; exact q_none
  | succ n ih => intro v1 v2 v3; exact aX12_missingLess_s4 N σ (fX12_missingLess_l4 N σ n) ih v1 v2 v3

def fX12_missingLess (N : Nat) (p1 : Int32) (σ : qMem) : Option Int32 :=
  (fX12_missingLess_l4 N σ N p1 0 0)
set_option maxRecDepth 20000 in
set_option maxHeartbeats 4000000 in
theorem aX12_missingLess  (N : Nat) (p1 : Int32)  (σ : qMem) : qAt wM mX12_missingLess (ρp σ) 0 [(0, .ref 0), (1, .int p1)] [] σ (fX12_missingLess N p1 σ) := by
  unfold fX12_missingLess
  refine q_iconst (v := 0) dX12_missingLess_0 (by decide) ?_
  refine q_istore_n (i := 2) (L' := [(2, .int 0), (0, .ref 0), (1, .int p1)]) dX12_missingLess_1 rfl (Nat.le_of_ble_eq_true rfl) rfl ?_
  refine q_iconst (v := 0) dX12_missingLess_2 (by decide) ?_
  refine q_istore_n (i := 3) (L' := [(3, .int 0), (2, .int 0), (0, .ref 0), (1, .int p1)]) dX12_missingLess_3 rfl (Nat.le_of_ble_eq_true rfl) rfl ?_
  exact q_sub [2, 3, 1, 0] rfl (aX12_missingLess_l4 N σ N p1 0 0)
theorem kX12_missingLess  (N : Nat) (p1 : Int32)  (σ : qMem) : qMc wM mX12_missingLess (ρp σ) [.ref 0, .int p1] σ (fX12_missingLess N p1 σ) := qMc_of (moX12_missingLess) (Nat.le_of_ble_eq_true rfl) (aX12_missingLess N p1  σ)

theorem dX12_least_0 : decode cX12_least 0 = .ok (.iload_n 1, 1) := by decide +kernel
theorem dX12_least_1 : decode cX12_least 1 = .ok (.iconst 0, 1) := by decide +kernel
theorem dX12_least_2 : decode cX12_least 2 = .ok (.iconst 2, 1) := by decide +kernel
theorem dX12_least_3 : decode cX12_least 3 = .ok (.invokestatic 110, 3) := by decide +kernel
theorem dX12_least_6 : decode cX12_least 6 = .ok (.ifCond .ne 5, 3) := by decide +kernel
theorem dX12_least_9 : decode cX12_least 9 = .ok (.iconst (-1), 1) := by decide +kernel
theorem dX12_least_10 : decode cX12_least 10 = .ok (.ireturn, 1) := by decide +kernel
theorem dX12_least_11 : decode cX12_least 11 = .ok (.aload_n 0, 1) := by decide +kernel
theorem dX12_least_12 : decode cX12_least 12 = .ok (.invokevirtual 254, 3) := by decide +kernel
theorem dX12_least_15 : decode cX12_least 15 = .ok (.iconst 0, 1) := by decide +kernel
theorem dX12_least_16 : decode cX12_least 16 = .ok (.istore_n 2, 1) := by decide +kernel
theorem dX12_least_17 : decode cX12_least 17 = .ok (.iconst 1, 1) := by decide +kernel
theorem dX12_least_18 : decode cX12_least 18 = .ok (.istore_n 3, 1) := by decide +kernel
theorem dX12_least_19 : decode cX12_least 19 = .ok (.iload_n 3, 1) := by decide +kernel
theorem dX12_least_20 : decode cX12_least 20 = .ok (.ldc 39, 2) := by decide +kernel
theorem dX12_least_22 : decode cX12_least 22 = .ok (.if_icmp .ge 26, 3) := by decide +kernel
theorem dX12_least_25 : decode cX12_least 25 = .ok (.aload_n 0, 1) := by decide +kernel
theorem dX12_least_26 : decode cX12_least 26 = .ok (.getfield 46, 3) := by decide +kernel
theorem dX12_least_29 : decode cX12_least 29 = .ok (.iload_n 3, 1) := by decide +kernel
theorem dX12_least_30 : decode cX12_least 30 = .ok (.baload, 1) := by decide +kernel
theorem dX12_least_31 : decode cX12_least 31 = .ok (.aload_n 0, 1) := by decide +kernel
theorem dX12_least_32 : decode cX12_least 32 = .ok (.getfield 46, 3) := by decide +kernel
theorem dX12_least_35 : decode cX12_least 35 = .ok (.iload_n 2, 1) := by decide +kernel
theorem dX12_least_36 : decode cX12_least 36 = .ok (.baload, 1) := by decide +kernel
theorem dX12_least_37 : decode cX12_least 37 = .ok (.if_icmp .ge 5, 3) := by decide +kernel
theorem dX12_least_40 : decode cX12_least 40 = .ok (.iload_n 3, 1) := by decide +kernel
theorem dX12_least_41 : decode cX12_least 41 = .ok (.istore_n 2, 1) := by decide +kernel
theorem dX12_least_42 : decode cX12_least 42 = .ok (.iinc 3 1, 3) := by decide +kernel
theorem dX12_least_45 : decode cX12_least 45 = .ok (.goto (-26), 3) := by decide +kernel
theorem dX12_least_48 : decode cX12_least 48 = .ok (.iload_n 1, 1) := by decide +kernel
theorem dX12_least_49 : decode cX12_least 49 = .ok (.ifCond .ne 12, 3) := by decide +kernel
theorem dX12_least_52 : decode cX12_least 52 = .ok (.aload_n 0, 1) := by decide +kernel
theorem dX12_least_53 : decode cX12_least 53 = .ok (.getfield 46, 3) := by decide +kernel
theorem dX12_least_56 : decode cX12_least 56 = .ok (.iload_n 2, 1) := by decide +kernel
theorem dX12_least_57 : decode cX12_least 57 = .ok (.baload, 1) := by decide +kernel
theorem dX12_least_58 : decode cX12_least 58 = .ok (.goto 24, 3) := by decide +kernel
theorem dX12_least_61 : decode cX12_least 61 = .ok (.iload_n 1, 1) := by decide +kernel
theorem dX12_least_62 : decode cX12_least 62 = .ok (.iconst 1, 1) := by decide +kernel
theorem dX12_least_63 : decode cX12_least 63 = .ok (.if_icmp .ne 18, 3) := by decide +kernel
theorem dX12_least_66 : decode cX12_least 66 = .ok (.aload_n 0, 1) := by decide +kernel
theorem dX12_least_67 : decode cX12_least 67 = .ok (.aload_n 0, 1) := by decide +kernel
theorem dX12_least_68 : decode cX12_least 68 = .ok (.getfield 46, 3) := by decide +kernel
theorem dX12_least_71 : decode cX12_least 71 = .ok (.iload_n 2, 1) := by decide +kernel
theorem dX12_least_72 : decode cX12_least 72 = .ok (.baload, 1) := by decide +kernel
theorem dX12_least_73 : decode cX12_least 73 = .ok (.iconst 1, 1) := by decide +kernel
theorem dX12_least_74 : decode cX12_least 74 = .ok (.iadd, 1) := by decide +kernel
theorem dX12_least_75 : decode cX12_least 75 = .ok (.invokevirtual 257, 3) := by decide +kernel
theorem dX12_least_78 : decode cX12_least 78 = .ok (.goto 4, 3) := by decide +kernel
theorem dX12_least_81 : decode cX12_least 81 = .ok (.iload_n 2, 1) := by decide +kernel
theorem dX12_least_82 : decode cX12_least 82 = .ok (.ireturn, 1) := by decide +kernel
def fX12_least_b42 (N : Nat) (c19 : Int32 → Int32 → Int32 → qMem → Option (Int32 × qMem)) (v1 : Int32) (v2 : Int32) (v3 : Int32) (σ : qMem) : Option (Int32 × qMem) :=
  (c19 v1 v2 (v3 + 1) σ)
set_option maxRecDepth 20000 in
set_option maxHeartbeats 4000000 in
theorem aX12_least_b42 (N : Nat) (c19 : Int32 → Int32 → Int32 → qMem → Option (Int32 × qMem)) (hc19 : ∀ (v1 : Int32) (v2 : Int32) (v3 : Int32) (σ : qMem), qAt wM mX12_least (ρi) 19 [(0, .ref 0), (1, .int v1), (2, .int v2), (3, .int v3)] [] σ (c19 v1 v2 v3 σ)) (v1 : Int32) (v2 : Int32) (v3 : Int32) (σ : qMem) : qAt wM mX12_least (ρi) 42 [(0, .ref 0), (1, .int v1), (2, .int v2), (3, .int v3)] [] σ (fX12_least_b42 N c19 v1 v2 v3 σ) := by
  unfold fX12_least_b42
  refine q_iinc (i := 3) (x := v3) (v := (v3 + 1)) (L' := [(3, .int (v3 + 1)), (0, .ref 0), (1, .int v1), (2, .int v2)]) dX12_least_42 3 rfl (q_cst v3 (by decide)) (Nat.le_of_ble_eq_true rfl) rfl ?_
  refine q_goto (tgt := 19) dX12_least_45 (by decide) ?_
  exact q_sub [1, 2, 3, 0] rfl (hc19 v1 v2 (v3 + 1) σ)

def fX12_least_s19 (N : Nat) (c19 : Int32 → Int32 → Int32 → qMem → Option (Int32 × qMem)) (v1 : Int32) (v2 : Int32) (v3 : Int32) (σ : qMem) : Option (Int32 × qMem) :=
  (if 50176 ≤ v3 then (if v1 = 0 then (if ck v2 50176 = true then (some ((gi σ 8 v2.toNatClampNeg), σ)) else none) else (if v1 = 1 then (if ck v2 50176 = true then ((fX12_missingLess N ((gi σ 8 v2.toNatClampNeg) + 1) σ).bind fun y3 => (some (y3, σ))) else none) else (some (v2, σ)))) else (if ck v3 50176 = true then (if ck v2 50176 = true then (if (gi σ 8 v2.toNatClampNeg) ≤ (gi σ 8 v3.toNatClampNeg) then (fX12_least_b42 N c19 v1 v2 v3 σ) else (fX12_least_b42 N c19 v1 v3 v3 σ)) else none) else none))
set_option maxRecDepth 20000 in
set_option maxHeartbeats 4000000 in
theorem aX12_least_s19 (N : Nat) (c19 : Int32 → Int32 → Int32 → qMem → Option (Int32 × qMem)) (hc19 : ∀ (v1 : Int32) (v2 : Int32) (v3 : Int32) (σ : qMem), qAt wM mX12_least (ρi) 19 [(0, .ref 0), (1, .int v1), (2, .int v2), (3, .int v3)] [] σ (c19 v1 v2 v3 σ)) (v1 : Int32) (v2 : Int32) (v3 : Int32) (σ : qMem) : qAt wM mX12_least (ρi) 19 [(0, .ref 0), (1, .int v1), (2, .int v2), (3, .int v3)] [] σ (fX12_least_s19 N c19 v1 v2 v3 σ) := by
  unfold fX12_least_s19
  refine q_iload_n (i := 3) (x := v3) dX12_least_19 rfl 3 rfl ?_
  refine q_ldc (v := 50176) dX12_least_20 (g_6 93 (by decide +kernel) rfl) ?_
  refine q_icmp_ge (tgt := 48) dX12_least_22 (by decide) ?_ ?_
  · refine q_iload_n (i := 1) (x := v1) dX12_least_48 rfl 1 rfl ?_
    refine q_if_ne (tgt := 61) dX12_least_49 (by decide) ?_ ?_
    · refine q_iload_n (i := 1) (x := v1) dX12_least_61 rfl 1 rfl ?_
      refine q_iconst (v := 1) dX12_least_62 (by decide) ?_
      refine q_icmp_ne (tgt := 81) dX12_least_63 (by decide) ?_ ?_
      · refine q_iload_n (i := 2) (x := v2) dX12_least_81 rfl 2 rfl ?_
        exact q_ireti (y := (v2, σ)) dX12_least_82 rfl rfl
      refine q_aload_n (i := 0) (x := 0) dX12_least_66 rfl 0 rfl ?_
      refine q_aload_n (i := 0) (x := 0) dX12_least_67 rfl 0 rfl ?_
      refine q_getr (t := 8) dX12_least_68 foX12_46 zM_0 rfl ?_
      refine q_iload_n (i := 2) (x := v2) dX12_least_71 rfl 2 rfl ?_
      refine q_bald dX12_least_72 zM_8 ?_
      refine q_iconst (v := 1) dX12_least_73 (by decide) ?_
      refine q_iadd dX12_least_74 ?_
      refine q_cVp mX12_missingLess [.int ((gi σ 8 v2.toNatClampNeg) + 1)] (st := []) dX12_least_75 (svX12_257) ⟨Nat.le_of_ble_eq_true rfl, Nat.le_of_ble_eq_true rfl⟩ zM_0 rfl rfl rfl (Nat.le_of_ble_eq_true rfl) (kX12_missingLess N ((gi σ 8 v2.toNatClampNeg) + 1) σ) (fun y3 => ?_)
      refine q_goto (tgt := 82) dX12_least_78 (by decide) ?_
      exact q_ireti (y := (y3, σ)) dX12_least_82 rfl rfl
    refine q_aload_n (i := 0) (x := 0) dX12_least_52 rfl 0 rfl ?_
    refine q_getr (t := 8) dX12_least_53 foX12_46 zM_0 rfl ?_
    refine q_iload_n (i := 2) (x := v2) dX12_least_56 rfl 2 rfl ?_
    refine q_bald dX12_least_57 zM_8 ?_
    refine q_goto (tgt := 82) dX12_least_58 (by decide) ?_
    exact q_ireti (y := ((gi σ 8 v2.toNatClampNeg), σ)) dX12_least_82 rfl rfl
  refine q_aload_n (i := 0) (x := 0) dX12_least_25 rfl 0 rfl ?_
  refine q_getr (t := 8) dX12_least_26 foX12_46 zM_0 rfl ?_
  refine q_iload_n (i := 3) (x := v3) dX12_least_29 rfl 3 rfl ?_
  refine q_bald dX12_least_30 zM_8 ?_
  refine q_aload_n (i := 0) (x := 0) dX12_least_31 rfl 0 rfl ?_
  refine q_getr (t := 8) dX12_least_32 foX12_46 zM_0 rfl ?_
  refine q_iload_n (i := 2) (x := v2) dX12_least_35 rfl 2 rfl ?_
  refine q_bald dX12_least_36 zM_8 ?_
  refine q_icmp_ge (tgt := 42) dX12_least_37 (by decide) ?_ ?_
  · exact q_sub [0, 1, 2, 3] rfl (aX12_least_b42 N c19 hc19 v1 v2 v3 σ)
  refine q_iload_n (i := 3) (x := v3) dX12_least_40 rfl 3 rfl ?_
  refine q_istore_n (i := 2) (L' := [(2, .int v3), (0, .ref 0), (1, .int v1), (3, .int v3)]) dX12_least_41 rfl (Nat.le_of_ble_eq_true rfl) rfl ?_
  exact q_sub [1, 2, 0, 3] rfl (aX12_least_b42 N c19 hc19 v1 v3 v3 σ)
def fX12_least_l19 (N : Nat) : Nat → Int32 → Int32 → Int32 → qMem → Option (Int32 × qMem)
  | 0 => fun _ _ _ _ => none
  | n + 1 => fun v1 v2 v3 σ => fX12_least_s19 N (fX12_least_l19 N n) v1 v2 v3 σ
theorem aX12_least_l19 (N : Nat) : ∀ (n : Nat) (v1 : Int32) (v2 : Int32) (v3 : Int32) (σ : qMem), qAt wM mX12_least (ρi) 19 [(0, .ref 0), (1, .int v1), (2, .int v2), (3, .int v3)] [] σ (fX12_least_l19 N n v1 v2 v3 σ) := by
  intro n
  induction n with
  | zero => intro v1 v2 v3 σ; exact q_none
  | succ n ih => intro v1 v2 v3 σ; exact aX12_least_s19 N (fX12_least_l19 N n) ih v1 v2 v3 σ

def fX12_least (N : Nat) (p1 : Int32) (σ : qMem) : Option (Int32 × qMem) :=
  ((fX12_in p1 0 2).bind fun y1 => (if y1 = 0 then (some ((-1), σ)) else ((fX12_judges N σ).bind fun y2 => (fX12_least_l19 N N p1 0 1 y2))))
set_option maxRecDepth 20000 in
set_option maxHeartbeats 4000000 in
theorem aX12_least  (N : Nat) (p1 : Int32)  (σ : qMem) : qAt wM mX12_least (ρi) 0 [(0, .ref 0), (1, .int p1)] [] σ (fX12_least N p1 σ) := by
  unfold fX12_least
  refine q_iload_n (i := 1) (x := p1) dX12_least_0 rfl 1 rfl ?_
  refine q_iconst (v := 0) dX12_least_1 (by decide) ?_
  refine q_iconst (v := 2) dX12_least_2 (by decide) ?_
  refine q_cSp mX12_in [.int p1, .int 0, .int 2] (st := []) dX12_least_3 (ssX12_110) ⟨Nat.le_of_ble_eq_true rfl, Nat.le_of_ble_eq_true rfl⟩ rfl rfl (Nat.le_of_ble_eq_true rfl) (kX12_in p1 0 2 σ) (fun y1 => ?_)
  refine q_if_ne (tgt := 11) dX12_least_6 (by decide) ?_ ?_
  · refine q_aload_n (i := 0) (x := 0) dX12_least_11 rfl 0 rfl ?_
    refine q_cVv mX12_judges [] (st := []) dX12_least_12 (svX12_254) ⟨Nat.le_of_ble_eq_true rfl, Nat.le_of_ble_eq_true rfl⟩ zM_0 rfl rfl rfl (Nat.le_of_ble_eq_true rfl) (kX12_judges N σ) (fun y2 => ?_)
    refine q_iconst (v := 0) dX12_least_15 (by decide) ?_
    refine q_istore_n (i := 2) (L' := [(2, .int 0), (0, .ref 0), (1, .int p1)]) dX12_least_16 rfl (Nat.le_of_ble_eq_true rfl) rfl ?_
    refine q_iconst (v := 1) dX12_least_17 (by decide) ?_
    refine q_istore_n (i := 3) (L' := [(3, .int 1), (2, .int 0), (0, .ref 0), (1, .int p1)]) dX12_least_18 rfl (Nat.le_of_ble_eq_true rfl) rfl ?_
    exact q_sub [2, 3, 1, 0] rfl (aX12_least_l19 N N p1 0 1 y2)
  refine q_iconst (v := (-1)) dX12_least_9 (by decide) ?_
  exact q_ireti (y := ((-1), σ)) dX12_least_10 rfl rfl
theorem kX12_least  (N : Nat) (p1 : Int32)  (σ : qMem) : qMc wM mX12_least (ρi) [.ref 0, .int p1] σ (fX12_least N p1 σ) := qMc_of (moX12_least) (Nat.le_of_ble_eq_true rfl) (aX12_least N p1  σ)

theorem dX12_guess_0 : decode cX12_guess 0 = .ok (.iload_n 1, 1) := by decide +kernel
theorem dX12_guess_1 : decode cX12_guess 1 = .ok (.invokestatic 125, 3) := by decide +kernel
theorem dX12_guess_4 : decode cX12_guess 4 = .ok (.ifCond .eq 25, 3) := by decide +kernel
theorem dX12_guess_7 : decode cX12_guess 7 = .ok (.iload_n 2, 1) := by decide +kernel
theorem dX12_guess_8 : decode cX12_guess 8 = .ok (.invokestatic 125, 3) := by decide +kernel
theorem dX12_guess_11 : decode cX12_guess 11 = .ok (.ifCond .eq 18, 3) := by decide +kernel
theorem dX12_guess_14 : decode cX12_guess 14 = .ok (.iload_n 3, 1) := by decide +kernel
theorem dX12_guess_15 : decode cX12_guess 15 = .ok (.invokestatic 135, 3) := by decide +kernel
theorem dX12_guess_18 : decode cX12_guess 18 = .ok (.ifCond .eq 11, 3) := by decide +kernel
theorem dX12_guess_21 : decode cX12_guess 21 = .ok (.iload 4, 2) := by decide +kernel
theorem dX12_guess_23 : decode cX12_guess 23 = .ok (.invokestatic 135, 3) := by decide +kernel
theorem dX12_guess_26 : decode cX12_guess 26 = .ok (.ifCond .ne 9, 3) := by decide +kernel
theorem dX12_guess_29 : decode cX12_guess 29 = .ok (.aload_n 0, 1) := by decide +kernel
theorem dX12_guess_30 : decode cX12_guess 30 = .ok (.iconst (-1), 1) := by decide +kernel
theorem dX12_guess_31 : decode cX12_guess 31 = .ok (.invokevirtual 114, 3) := by decide +kernel
theorem dX12_guess_34 : decode cX12_guess 34 = .ok (.ireturn, 1) := by decide +kernel
theorem dX12_guess_35 : decode cX12_guess 35 = .ok (.aload_n 0, 1) := by decide +kernel
theorem dX12_guess_36 : decode cX12_guess 36 = .ok (.getfield 20, 3) := by decide +kernel
theorem dX12_guess_39 : decode cX12_guess 39 = .ok (.sipush 309, 3) := by decide +kernel
theorem dX12_guess_42 : decode cX12_guess 42 = .ok (.iaload, 1) := by decide +kernel
theorem dX12_guess_43 : decode cX12_guess 43 = .ok (.istore 5, 2) := by decide +kernel
theorem dX12_guess_45 : decode cX12_guess 45 = .ok (.iload 5, 2) := by decide +kernel
theorem dX12_guess_47 : decode cX12_guess 47 = .ok (.bipush 8, 2) := by decide +kernel
theorem dX12_guess_49 : decode cX12_guess 49 = .ok (.if_icmp .ne 10, 3) := by decide +kernel
theorem dX12_guess_52 : decode cX12_guess 52 = .ok (.aload_n 0, 1) := by decide +kernel
theorem dX12_guess_53 : decode cX12_guess 53 = .ok (.bipush (-5), 2) := by decide +kernel
theorem dX12_guess_55 : decode cX12_guess 55 = .ok (.invokevirtual 114, 3) := by decide +kernel
theorem dX12_guess_58 : decode cX12_guess 58 = .ok (.ireturn, 1) := by decide +kernel
theorem dX12_guess_59 : decode cX12_guess 59 = .ok (.sipush 268, 3) := by decide +kernel
theorem dX12_guess_62 : decode cX12_guess 62 = .ok (.iconst 4, 1) := by decide +kernel
theorem dX12_guess_63 : decode cX12_guess 63 = .ok (.iload 5, 2) := by decide +kernel
theorem dX12_guess_65 : decode cX12_guess 65 = .ok (.imul, 1) := by decide +kernel
theorem dX12_guess_66 : decode cX12_guess 66 = .ok (.iadd, 1) := by decide +kernel
theorem dX12_guess_67 : decode cX12_guess 67 = .ok (.istore 6, 2) := by decide +kernel
theorem dX12_guess_69 : decode cX12_guess 69 = .ok (.aload_n 0, 1) := by decide +kernel
theorem dX12_guess_70 : decode cX12_guess 70 = .ok (.getfield 20, 3) := by decide +kernel
theorem dX12_guess_73 : decode cX12_guess 73 = .ok (.iload 6, 2) := by decide +kernel
theorem dX12_guess_75 : decode cX12_guess 75 = .ok (.iload_n 1, 1) := by decide +kernel
theorem dX12_guess_76 : decode cX12_guess 76 = .ok (.iastore, 1) := by decide +kernel
theorem dX12_guess_77 : decode cX12_guess 77 = .ok (.aload_n 0, 1) := by decide +kernel
theorem dX12_guess_78 : decode cX12_guess 78 = .ok (.getfield 20, 3) := by decide +kernel
theorem dX12_guess_81 : decode cX12_guess 81 = .ok (.iload 6, 2) := by decide +kernel
theorem dX12_guess_83 : decode cX12_guess 83 = .ok (.iconst 1, 1) := by decide +kernel
theorem dX12_guess_84 : decode cX12_guess 84 = .ok (.iadd, 1) := by decide +kernel
theorem dX12_guess_85 : decode cX12_guess 85 = .ok (.iload_n 2, 1) := by decide +kernel
theorem dX12_guess_86 : decode cX12_guess 86 = .ok (.iastore, 1) := by decide +kernel
theorem dX12_guess_87 : decode cX12_guess 87 = .ok (.aload_n 0, 1) := by decide +kernel
theorem dX12_guess_88 : decode cX12_guess 88 = .ok (.getfield 20, 3) := by decide +kernel
theorem dX12_guess_91 : decode cX12_guess 91 = .ok (.iload 6, 2) := by decide +kernel
theorem dX12_guess_93 : decode cX12_guess 93 = .ok (.iconst 2, 1) := by decide +kernel
theorem dX12_guess_94 : decode cX12_guess 94 = .ok (.iadd, 1) := by decide +kernel
theorem dX12_guess_95 : decode cX12_guess 95 = .ok (.iload_n 3, 1) := by decide +kernel
theorem dX12_guess_96 : decode cX12_guess 96 = .ok (.iastore, 1) := by decide +kernel
theorem dX12_guess_97 : decode cX12_guess 97 = .ok (.aload_n 0, 1) := by decide +kernel
theorem dX12_guess_98 : decode cX12_guess 98 = .ok (.getfield 20, 3) := by decide +kernel
theorem dX12_guess_101 : decode cX12_guess 101 = .ok (.iload 6, 2) := by decide +kernel
theorem dX12_guess_103 : decode cX12_guess 103 = .ok (.iconst 3, 1) := by decide +kernel
theorem dX12_guess_104 : decode cX12_guess 104 = .ok (.iadd, 1) := by decide +kernel
theorem dX12_guess_105 : decode cX12_guess 105 = .ok (.iload 4, 2) := by decide +kernel
theorem dX12_guess_107 : decode cX12_guess 107 = .ok (.iastore, 1) := by decide +kernel
theorem dX12_guess_108 : decode cX12_guess 108 = .ok (.aload_n 0, 1) := by decide +kernel
theorem dX12_guess_109 : decode cX12_guess 109 = .ok (.getfield 20, 3) := by decide +kernel
theorem dX12_guess_112 : decode cX12_guess 112 = .ok (.sipush 309, 3) := by decide +kernel
theorem dX12_guess_115 : decode cX12_guess 115 = .ok (.dup2, 1) := by decide +kernel
theorem dX12_guess_116 : decode cX12_guess 116 = .ok (.iaload, 1) := by decide +kernel
theorem dX12_guess_117 : decode cX12_guess 117 = .ok (.iconst 1, 1) := by decide +kernel
theorem dX12_guess_118 : decode cX12_guess 118 = .ok (.iadd, 1) := by decide +kernel
theorem dX12_guess_119 : decode cX12_guess 119 = .ok (.iastore, 1) := by decide +kernel
theorem dX12_guess_120 : decode cX12_guess 120 = .ok (.aload_n 0, 1) := by decide +kernel
theorem dX12_guess_121 : decode cX12_guess 121 = .ok (.iload 5, 2) := by decide +kernel
theorem dX12_guess_123 : decode cX12_guess 123 = .ok (.invokevirtual 118, 3) := by decide +kernel
theorem dX12_guess_126 : decode cX12_guess 126 = .ok (.ireturn, 1) := by decide +kernel
def fX12_guess_b29 (σ : qMem) : Option (Int32 × qMem) :=
  ((fX12_refuses (-1) σ).bind fun y13 => (some (y13.1, y13.2)))
set_option maxRecDepth 20000 in
set_option maxHeartbeats 4000000 in
theorem aX12_guess_b29 (σ : qMem) : qAt wM mX12_guess (ρi) 29 [(0, .ref 0)] [] σ (fX12_guess_b29 σ) := by
  unfold fX12_guess_b29
  refine q_aload_n (i := 0) (x := 0) dX12_guess_29 rfl 0 rfl ?_
  refine q_iconst (v := (-1)) dX12_guess_30 (by decide) ?_
  refine q_cVi mX12_refuses [.int (-1)] (st := []) dX12_guess_31 (svX12_114) ⟨Nat.le_of_ble_eq_true rfl, Nat.le_of_ble_eq_true rfl⟩ zM_0 rfl rfl rfl (Nat.le_of_ble_eq_true rfl) (kX12_refuses (-1) σ) (fun y13 => ?_)
  exact q_ireti (y := (y13.1, y13.2)) dX12_guess_34 rfl rfl

def fX12_guess (p1 : Int32) (p2 : Int32) (p3 : Int32) (p4 : Int32) (σ : qMem) : Option (Int32 × qMem) :=
  ((fX12_isSea p1).bind fun y1 => (if y1 = 0 then (fX12_guess_b29 σ) else ((fX12_isSea p2).bind fun y2 => (if y2 = 0 then (fX12_guess_b29 σ) else ((fX12_isPace p3).bind fun y3 => (if y3 = 0 then (fX12_guess_b29 σ) else ((fX12_isPace p4).bind fun y4 => (if y4 = 0 then (fX12_guess_b29 σ) else (if ck 309 1112 = true then (nmI (gi σ 2 (309 : Int32).toNatClampNeg) fun x5 => (if x5 = 8 then ((fX12_refuses (-5) σ).bind fun y12 => (some (y12.1, y12.2))) else (if ck (268 + (4 * x5)) 1112 = true then (nmM (si σ 2 (268 + (4 * x5)).toNatClampNeg p1) fun s6 => (if ck ((268 + (4 * x5)) + 1) 1112 = true then (nmM (si s6 2 ((268 + (4 * x5)) + 1).toNatClampNeg p2) fun s7 => (if ck ((268 + (4 * x5)) + 2) 1112 = true then (nmM (si s7 2 ((268 + (4 * x5)) + 2).toNatClampNeg p3) fun s8 => (if ck ((268 + (4 * x5)) + 3) 1112 = true then (nmM (si s8 2 ((268 + (4 * x5)) + 3).toNatClampNeg p4) fun s9 => (if ck 309 1112 = true then (if ck 309 1112 = true then (nmM (si s9 2 (309 : Int32).toNatClampNeg ((gi s9 2 (309 : Int32).toNatClampNeg) + 1)) fun s10 => ((fX12_good x5 s10).bind fun y11 => (some (y11.1, y11.2)))) else none) else none)) else none)) else none)) else none)) else none))) else none)))))))))
set_option maxRecDepth 20000 in
set_option maxHeartbeats 4000000 in
theorem aX12_guess  (p1 : Int32) (p2 : Int32) (p3 : Int32) (p4 : Int32)  (σ : qMem) : qAt wM mX12_guess (ρi) 0 [(0, .ref 0), (1, .int p1), (2, .int p2), (3, .int p3), (4, .int p4)] [] σ (fX12_guess p1 p2 p3 p4 σ) := by
  unfold fX12_guess
  refine q_iload_n (i := 1) (x := p1) dX12_guess_0 rfl 1 rfl ?_
  refine q_cSp mX12_isSea [.int p1] (st := []) dX12_guess_1 (ssX12_125) ⟨Nat.le_of_ble_eq_true rfl, Nat.le_of_ble_eq_true rfl⟩ rfl rfl (Nat.le_of_ble_eq_true rfl) (kX12_isSea p1 σ) (fun y1 => ?_)
  refine q_if_eq (tgt := 29) dX12_guess_4 (by decide) ?_ ?_
  · exact q_sub [0] rfl (aX12_guess_b29 σ)
  refine q_iload_n (i := 2) (x := p2) dX12_guess_7 rfl 2 rfl ?_
  refine q_cSp mX12_isSea [.int p2] (st := []) dX12_guess_8 (ssX12_125) ⟨Nat.le_of_ble_eq_true rfl, Nat.le_of_ble_eq_true rfl⟩ rfl rfl (Nat.le_of_ble_eq_true rfl) (kX12_isSea p2 σ) (fun y2 => ?_)
  refine q_if_eq (tgt := 29) dX12_guess_11 (by decide) ?_ ?_
  · exact q_sub [0] rfl (aX12_guess_b29 σ)
  refine q_iload_n (i := 3) (x := p3) dX12_guess_14 rfl 3 rfl ?_
  refine q_cSp mX12_isPace [.int p3] (st := []) dX12_guess_15 (ssX12_135) ⟨Nat.le_of_ble_eq_true rfl, Nat.le_of_ble_eq_true rfl⟩ rfl rfl (Nat.le_of_ble_eq_true rfl) (kX12_isPace p3 σ) (fun y3 => ?_)
  refine q_if_eq (tgt := 29) dX12_guess_18 (by decide) ?_ ?_
  · exact q_sub [0] rfl (aX12_guess_b29 σ)
  refine q_iload (i := 4) (x := p4) dX12_guess_21 4 rfl ?_
  refine q_cSp mX12_isPace [.int p4] (st := []) dX12_guess_23 (ssX12_135) ⟨Nat.le_of_ble_eq_true rfl, Nat.le_of_ble_eq_true rfl⟩ rfl rfl (Nat.le_of_ble_eq_true rfl) (kX12_isPace p4 σ) (fun y4 => ?_)
  refine q_if_ne (tgt := 35) dX12_guess_26 (by decide) ?_ ?_
  · refine q_aload_n (i := 0) (x := 0) dX12_guess_35 rfl 0 rfl ?_
    refine q_getr (t := 2) dX12_guess_36 foX12_20 zM_0 rfl ?_
    refine q_sipush (v := 309) dX12_guess_39 (by decide) ?_
    refine q_iald dX12_guess_42 zM_2 ?_
    refine q_nmI (fun x5 => ?_)
    refine q_istore (i := 5) (L' := [(5, .int x5), (0, .ref 0), (1, .int p1), (2, .int p2), (3, .int p3), (4, .int p4)]) dX12_guess_43 (Nat.le_of_ble_eq_true rfl) rfl ?_
    refine q_iload (i := 5) (x := x5) dX12_guess_45 0 rfl ?_
    refine q_bipush (v := 8) dX12_guess_47 (by decide) ?_
    refine q_icmp_ne (tgt := 59) dX12_guess_49 (by decide) ?_ ?_
    · refine q_sipush (v := 268) dX12_guess_59 (by decide) ?_
      refine q_iconst (v := 4) dX12_guess_62 (by decide) ?_
      refine q_iload (i := 5) (x := x5) dX12_guess_63 0 rfl ?_
      refine q_imul dX12_guess_65 ?_
      refine q_iadd dX12_guess_66 ?_
      refine q_istore (i := 6) (L' := [(6, .int (268 + (4 * x5))), (5, .int x5), (0, .ref 0), (1, .int p1), (2, .int p2), (3, .int p3), (4, .int p4)]) dX12_guess_67 (Nat.le_of_ble_eq_true rfl) rfl ?_
      refine q_aload_n (i := 0) (x := 0) dX12_guess_69 rfl 2 rfl ?_
      refine q_getr (t := 2) dX12_guess_70 foX12_20 zM_0 rfl ?_
      refine q_iload (i := 6) (x := (268 + (4 * x5))) dX12_guess_73 0 rfl ?_
      refine q_iload_n (i := 1) (x := p1) dX12_guess_75 rfl 3 rfl ?_
      refine q_iast dX12_guess_76 zM_2 ?_
      refine q_nmM (fun s6 => ?_)
      refine q_aload_n (i := 0) (x := 0) dX12_guess_77 rfl 2 rfl ?_
      refine q_getr (t := 2) dX12_guess_78 foX12_20 zM_0 rfl ?_
      refine q_iload (i := 6) (x := (268 + (4 * x5))) dX12_guess_81 0 rfl ?_
      refine q_iconst (v := 1) dX12_guess_83 (by decide) ?_
      refine q_iadd dX12_guess_84 ?_
      refine q_iload_n (i := 2) (x := p2) dX12_guess_85 rfl 4 rfl ?_
      refine q_iast dX12_guess_86 zM_2 ?_
      refine q_nmM (fun s7 => ?_)
      refine q_aload_n (i := 0) (x := 0) dX12_guess_87 rfl 2 rfl ?_
      refine q_getr (t := 2) dX12_guess_88 foX12_20 zM_0 rfl ?_
      refine q_iload (i := 6) (x := (268 + (4 * x5))) dX12_guess_91 0 rfl ?_
      refine q_iconst (v := 2) dX12_guess_93 (by decide) ?_
      refine q_iadd dX12_guess_94 ?_
      refine q_iload_n (i := 3) (x := p3) dX12_guess_95 rfl 5 rfl ?_
      refine q_iast dX12_guess_96 zM_2 ?_
      refine q_nmM (fun s8 => ?_)
      refine q_aload_n (i := 0) (x := 0) dX12_guess_97 rfl 2 rfl ?_
      refine q_getr (t := 2) dX12_guess_98 foX12_20 zM_0 rfl ?_
      refine q_iload (i := 6) (x := (268 + (4 * x5))) dX12_guess_101 0 rfl ?_
      refine q_iconst (v := 3) dX12_guess_103 (by decide) ?_
      refine q_iadd dX12_guess_104 ?_
      refine q_iload (i := 4) (x := p4) dX12_guess_105 6 rfl ?_
      refine q_iast dX12_guess_107 zM_2 ?_
      refine q_nmM (fun s9 => ?_)
      refine q_aload_n (i := 0) (x := 0) dX12_guess_108 rfl 2 rfl ?_
      refine q_getr (t := 2) dX12_guess_109 foX12_20 zM_0 rfl ?_
      refine q_sipush (v := 309) dX12_guess_112 (by decide) ?_
      refine q_dup2 dX12_guess_115 rfl rfl ?_
      refine q_iald dX12_guess_116 zM_2 ?_
      refine q_iconst (v := 1) dX12_guess_117 (by decide) ?_
      refine q_iadd dX12_guess_118 ?_
      refine q_iast dX12_guess_119 zM_2 ?_
      refine q_nmM (fun s10 => ?_)
      refine q_aload_n (i := 0) (x := 0) dX12_guess_120 rfl 2 rfl ?_
      refine q_iload (i := 5) (x := x5) dX12_guess_121 1 rfl ?_
      refine q_cVi mX12_good [.int x5] (st := []) dX12_guess_123 (svX12_118) ⟨Nat.le_of_ble_eq_true rfl, Nat.le_of_ble_eq_true rfl⟩ zM_0 rfl rfl rfl (Nat.le_of_ble_eq_true rfl) (kX12_good x5 s10) (fun y11 => ?_)
      exact q_ireti (y := (y11.1, y11.2)) dX12_guess_126 rfl rfl
    refine q_aload_n (i := 0) (x := 0) dX12_guess_52 rfl 1 rfl ?_
    refine q_bipush (v := (-5)) dX12_guess_53 (by decide) ?_
    refine q_cVi mX12_refuses [.int (-5)] (st := []) dX12_guess_55 (svX12_114) ⟨Nat.le_of_ble_eq_true rfl, Nat.le_of_ble_eq_true rfl⟩ zM_0 rfl rfl rfl (Nat.le_of_ble_eq_true rfl) (kX12_refuses (-5) σ) (fun y12 => ?_)
    exact q_ireti (y := (y12.1, y12.2)) dX12_guess_58 rfl rfl
  exact q_sub [0] rfl (aX12_guess_b29 σ)
theorem kX12_guess  (p1 : Int32) (p2 : Int32) (p3 : Int32) (p4 : Int32)  (σ : qMem) : qMc wM mX12_guess (ρi) [.ref 0, .int p1, .int p2, .int p3, .int p4] σ (fX12_guess p1 p2 p3 p4 σ) := qMc_of (moX12_guess) (Nat.le_of_ble_eq_true rfl) (aX12_guess p1 p2 p3 p4  σ)

theorem dX12_better_0 : decode cX12_better 0 = .ok (.iload_n 1, 1) := by decide +kernel
theorem dX12_better_1 : decode cX12_better 1 = .ok (.iconst 0, 1) := by decide +kernel
theorem dX12_better_2 : decode cX12_better 2 = .ok (.aload_n 0, 1) := by decide +kernel
theorem dX12_better_3 : decode cX12_better 3 = .ok (.getfield 20, 3) := by decide +kernel
theorem dX12_better_6 : decode cX12_better 6 = .ok (.sipush 309, 3) := by decide +kernel
theorem dX12_better_9 : decode cX12_better 9 = .ok (.iaload, 1) := by decide +kernel
theorem dX12_better_10 : decode cX12_better 10 = .ok (.iconst 1, 1) := by decide +kernel
theorem dX12_better_11 : decode cX12_better 11 = .ok (.isub, 1) := by decide +kernel
theorem dX12_better_12 : decode cX12_better 12 = .ok (.invokestatic 110, 3) := by decide +kernel
theorem dX12_better_15 : decode cX12_better 15 = .ok (.ifCond .ne 5, 3) := by decide +kernel
theorem dX12_better_18 : decode cX12_better 18 = .ok (.iconst (-1), 1) := by decide +kernel
theorem dX12_better_19 : decode cX12_better 19 = .ok (.ireturn, 1) := by decide +kernel
theorem dX12_better_20 : decode cX12_better 20 = .ok (.aload_n 0, 1) := by decide +kernel
theorem dX12_better_21 : decode cX12_better 21 = .ok (.invokevirtual 254, 3) := by decide +kernel
theorem dX12_better_24 : decode cX12_better 24 = .ok (.sipush 268, 3) := by decide +kernel
theorem dX12_better_27 : decode cX12_better 27 = .ok (.iconst 4, 1) := by decide +kernel
theorem dX12_better_28 : decode cX12_better 28 = .ok (.iload_n 1, 1) := by decide +kernel
theorem dX12_better_29 : decode cX12_better 29 = .ok (.imul, 1) := by decide +kernel
theorem dX12_better_30 : decode cX12_better 30 = .ok (.iadd, 1) := by decide +kernel
theorem dX12_better_31 : decode cX12_better 31 = .ok (.istore_n 2, 1) := by decide +kernel
theorem dX12_better_32 : decode cX12_better 32 = .ok (.aload_n 0, 1) := by decide +kernel
theorem dX12_better_33 : decode cX12_better 33 = .ok (.aload_n 0, 1) := by decide +kernel
theorem dX12_better_34 : decode cX12_better 34 = .ok (.aload_n 0, 1) := by decide +kernel
theorem dX12_better_35 : decode cX12_better 35 = .ok (.getfield 20, 3) := by decide +kernel
theorem dX12_better_38 : decode cX12_better 38 = .ok (.iload_n 2, 1) := by decide +kernel
theorem dX12_better_39 : decode cX12_better 39 = .ok (.iaload, 1) := by decide +kernel
theorem dX12_better_40 : decode cX12_better 40 = .ok (.aload_n 0, 1) := by decide +kernel
theorem dX12_better_41 : decode cX12_better 41 = .ok (.getfield 20, 3) := by decide +kernel
theorem dX12_better_44 : decode cX12_better 44 = .ok (.iload_n 2, 1) := by decide +kernel
theorem dX12_better_45 : decode cX12_better 45 = .ok (.iconst 1, 1) := by decide +kernel
theorem dX12_better_46 : decode cX12_better 46 = .ok (.iadd, 1) := by decide +kernel
theorem dX12_better_47 : decode cX12_better 47 = .ok (.iaload, 1) := by decide +kernel
theorem dX12_better_48 : decode cX12_better 48 = .ok (.aload_n 0, 1) := by decide +kernel
theorem dX12_better_49 : decode cX12_better 49 = .ok (.getfield 20, 3) := by decide +kernel
theorem dX12_better_52 : decode cX12_better 52 = .ok (.iload_n 2, 1) := by decide +kernel
theorem dX12_better_53 : decode cX12_better 53 = .ok (.iconst 2, 1) := by decide +kernel
theorem dX12_better_54 : decode cX12_better 54 = .ok (.iadd, 1) := by decide +kernel
theorem dX12_better_55 : decode cX12_better 55 = .ok (.iaload, 1) := by decide +kernel
theorem dX12_better_56 : decode cX12_better 56 = .ok (.aload_n 0, 1) := by decide +kernel
theorem dX12_better_57 : decode cX12_better 57 = .ok (.getfield 20, 3) := by decide +kernel
theorem dX12_better_60 : decode cX12_better 60 = .ok (.iload_n 2, 1) := by decide +kernel
theorem dX12_better_61 : decode cX12_better 61 = .ok (.iconst 3, 1) := by decide +kernel
theorem dX12_better_62 : decode cX12_better 62 = .ok (.iadd, 1) := by decide +kernel
theorem dX12_better_63 : decode cX12_better 63 = .ok (.iaload, 1) := by decide +kernel
theorem dX12_better_64 : decode cX12_better 64 = .ok (.invokevirtual 247, 3) := by decide +kernel
theorem dX12_better_67 : decode cX12_better 67 = .ok (.invokevirtual 257, 3) := by decide +kernel
theorem dX12_better_70 : decode cX12_better 70 = .ok (.ireturn, 1) := by decide +kernel

def fX12_better (N : Nat) (p1 : Int32) (σ : qMem) : Option (Int32 × qMem) :=
  (if ck 309 1112 = true then ((fX12_in p1 0 ((gi σ 2 (309 : Int32).toNatClampNeg) - 1)).bind fun y1 => (if y1 = 0 then (some ((-1), σ)) else ((fX12_judges N σ).bind fun y2 => (if ck (268 + (4 * p1)) 1112 = true then (if ck ((268 + (4 * p1)) + 1) 1112 = true then (if ck ((268 + (4 * p1)) + 2) 1112 = true then (if ck ((268 + (4 * p1)) + 3) 1112 = true then ((fX12_missedBest N (gi y2 2 (268 + (4 * p1)).toNatClampNeg) (gi y2 2 ((268 + (4 * p1)) + 1).toNatClampNeg) (gi y2 2 ((268 + (4 * p1)) + 2).toNatClampNeg) (gi y2 2 ((268 + (4 * p1)) + 3).toNatClampNeg) y2).bind fun y3 => ((fX12_missingLess N y3.1 y3.2).bind fun y4 => (some (y4, y3.2)))) else none) else none) else none) else none)))) else none)
set_option maxRecDepth 20000 in
set_option maxHeartbeats 4000000 in
theorem aX12_better  (N : Nat) (p1 : Int32)  (σ : qMem) : qAt wM mX12_better (ρi) 0 [(0, .ref 0), (1, .int p1)] [] σ (fX12_better N p1 σ) := by
  unfold fX12_better
  refine q_iload_n (i := 1) (x := p1) dX12_better_0 rfl 1 rfl ?_
  refine q_iconst (v := 0) dX12_better_1 (by decide) ?_
  refine q_aload_n (i := 0) (x := 0) dX12_better_2 rfl 0 rfl ?_
  refine q_getr (t := 2) dX12_better_3 foX12_20 zM_0 rfl ?_
  refine q_sipush (v := 309) dX12_better_6 (by decide) ?_
  refine q_iald dX12_better_9 zM_2 ?_
  refine q_iconst (v := 1) dX12_better_10 (by decide) ?_
  refine q_isub dX12_better_11 ?_
  refine q_cSp mX12_in [.int p1, .int 0, .int ((gi σ 2 (309 : Int32).toNatClampNeg) - 1)] (st := []) dX12_better_12 (ssX12_110) ⟨Nat.le_of_ble_eq_true rfl, Nat.le_of_ble_eq_true rfl⟩ rfl rfl (Nat.le_of_ble_eq_true rfl) (kX12_in p1 0 ((gi σ 2 (309 : Int32).toNatClampNeg) - 1) σ) (fun y1 => ?_)
  refine q_if_ne (tgt := 20) dX12_better_15 (by decide) ?_ ?_
  · refine q_aload_n (i := 0) (x := 0) dX12_better_20 rfl 0 rfl ?_
    refine q_cVv mX12_judges [] (st := []) dX12_better_21 (svX12_254) ⟨Nat.le_of_ble_eq_true rfl, Nat.le_of_ble_eq_true rfl⟩ zM_0 rfl rfl rfl (Nat.le_of_ble_eq_true rfl) (kX12_judges N σ) (fun y2 => ?_)
    refine q_sipush (v := 268) dX12_better_24 (by decide) ?_
    refine q_iconst (v := 4) dX12_better_27 (by decide) ?_
    refine q_iload_n (i := 1) (x := p1) dX12_better_28 rfl 1 rfl ?_
    refine q_imul dX12_better_29 ?_
    refine q_iadd dX12_better_30 ?_
    refine q_istore_n (i := 2) (L' := [(2, .int (268 + (4 * p1))), (0, .ref 0), (1, .int p1)]) dX12_better_31 rfl (Nat.le_of_ble_eq_true rfl) rfl ?_
    refine q_aload_n (i := 0) (x := 0) dX12_better_32 rfl 1 rfl ?_
    refine q_aload_n (i := 0) (x := 0) dX12_better_33 rfl 1 rfl ?_
    refine q_aload_n (i := 0) (x := 0) dX12_better_34 rfl 1 rfl ?_
    refine q_getr (t := 2) dX12_better_35 foX12_20 zM_0 rfl ?_
    refine q_iload_n (i := 2) (x := (268 + (4 * p1))) dX12_better_38 rfl 0 rfl ?_
    refine q_iald dX12_better_39 zM_2 ?_
    refine q_aload_n (i := 0) (x := 0) dX12_better_40 rfl 1 rfl ?_
    refine q_getr (t := 2) dX12_better_41 foX12_20 zM_0 rfl ?_
    refine q_iload_n (i := 2) (x := (268 + (4 * p1))) dX12_better_44 rfl 0 rfl ?_
    refine q_iconst (v := 1) dX12_better_45 (by decide) ?_
    refine q_iadd dX12_better_46 ?_
    refine q_iald dX12_better_47 zM_2 ?_
    refine q_aload_n (i := 0) (x := 0) dX12_better_48 rfl 1 rfl ?_
    refine q_getr (t := 2) dX12_better_49 foX12_20 zM_0 rfl ?_
    refine q_iload_n (i := 2) (x := (268 + (4 * p1))) dX12_better_52 rfl 0 rfl ?_
    refine q_iconst (v := 2) dX12_better_53 (by decide) ?_
    refine q_iadd dX12_better_54 ?_
    refine q_iald dX12_better_55 zM_2 ?_
    refine q_aload_n (i := 0) (x := 0) dX12_better_56 rfl 1 rfl ?_
    refine q_getr (t := 2) dX12_better_57 foX12_20 zM_0 rfl ?_
    refine q_iload_n (i := 2) (x := (268 + (4 * p1))) dX12_better_60 rfl 0 rfl ?_
    refine q_iconst (v := 3) dX12_better_61 (by decide) ?_
    refine q_iadd dX12_better_62 ?_
    refine q_iald dX12_better_63 zM_2 ?_
    refine q_cVi mX12_missedBest [.int (gi y2 2 (268 + (4 * p1)).toNatClampNeg), .int (gi y2 2 ((268 + (4 * p1)) + 1).toNatClampNeg), .int (gi y2 2 ((268 + (4 * p1)) + 2).toNatClampNeg), .int (gi y2 2 ((268 + (4 * p1)) + 3).toNatClampNeg)] (st := [.ref 0]) dX12_better_64 (svX12_247) ⟨Nat.le_of_ble_eq_true rfl, Nat.le_of_ble_eq_true rfl⟩ zM_0 rfl rfl rfl (Nat.le_of_ble_eq_true rfl) (kX12_missedBest N (gi y2 2 (268 + (4 * p1)).toNatClampNeg) (gi y2 2 ((268 + (4 * p1)) + 1).toNatClampNeg) (gi y2 2 ((268 + (4 * p1)) + 2).toNatClampNeg) (gi y2 2 ((268 + (4 * p1)) + 3).toNatClampNeg) y2) (fun y3 => ?_)
    refine q_cVp mX12_missingLess [.int y3.1] (st := []) dX12_better_67 (svX12_257) ⟨Nat.le_of_ble_eq_true rfl, Nat.le_of_ble_eq_true rfl⟩ zM_0 rfl rfl rfl (Nat.le_of_ble_eq_true rfl) (kX12_missingLess N y3.1 y3.2) (fun y4 => ?_)
    exact q_ireti (y := (y4, y3.2)) dX12_better_70 rfl rfl
  refine q_iconst (v := (-1)) dX12_better_18 (by decide) ?_
  exact q_ireti (y := ((-1), σ)) dX12_better_19 rfl rfl
theorem kX12_better  (N : Nat) (p1 : Int32)  (σ : qMem) : qMc wM mX12_better (ρi) [.ref 0, .int p1] σ (fX12_better N p1 σ) := qMc_of (moX12_better) (Nat.le_of_ble_eq_true rfl) (aX12_better N p1  σ)

theorem dX12_offer_0 : decode cX12_offer 0 = .ok (.iload_n 1, 1) := by decide +kernel
theorem dX12_offer_1 : decode cX12_offer 1 = .ok (.invokestatic 135, 3) := by decide +kernel
theorem dX12_offer_4 : decode cX12_offer 4 = .ok (.ifCond .eq 10, 3) := by decide +kernel
theorem dX12_offer_7 : decode cX12_offer 7 = .ok (.iload_n 2, 1) := by decide +kernel
theorem dX12_offer_8 : decode cX12_offer 8 = .ok (.invokestatic 135, 3) := by decide +kernel
theorem dX12_offer_11 : decode cX12_offer 11 = .ok (.ifCond .ne 9, 3) := by decide +kernel
theorem dX12_offer_14 : decode cX12_offer 14 = .ok (.aload_n 0, 1) := by decide +kernel
theorem dX12_offer_15 : decode cX12_offer 15 = .ok (.iconst (-1), 1) := by decide +kernel
theorem dX12_offer_16 : decode cX12_offer 16 = .ok (.invokevirtual 114, 3) := by decide +kernel
theorem dX12_offer_19 : decode cX12_offer 19 = .ok (.ireturn, 1) := by decide +kernel
theorem dX12_offer_20 : decode cX12_offer 20 = .ok (.aload_n 0, 1) := by decide +kernel
theorem dX12_offer_21 : decode cX12_offer 21 = .ok (.getfield 20, 3) := by decide +kernel
theorem dX12_offer_24 : decode cX12_offer 24 = .ok (.sipush 303, 3) := by decide +kernel
theorem dX12_offer_27 : decode cX12_offer 27 = .ok (.iaload, 1) := by decide +kernel
theorem dX12_offer_28 : decode cX12_offer 28 = .ok (.istore_n 3, 1) := by decide +kernel
theorem dX12_offer_29 : decode cX12_offer 29 = .ok (.iload_n 3, 1) := by decide +kernel
theorem dX12_offer_30 : decode cX12_offer 30 = .ok (.bipush 8, 2) := by decide +kernel
theorem dX12_offer_32 : decode cX12_offer 32 = .ok (.if_icmp .ne 10, 3) := by decide +kernel
theorem dX12_offer_35 : decode cX12_offer 35 = .ok (.aload_n 0, 1) := by decide +kernel
theorem dX12_offer_36 : decode cX12_offer 36 = .ok (.bipush (-5), 2) := by decide +kernel
theorem dX12_offer_38 : decode cX12_offer 38 = .ok (.invokevirtual 114, 3) := by decide +kernel
theorem dX12_offer_41 : decode cX12_offer 41 = .ok (.ireturn, 1) := by decide +kernel
theorem dX12_offer_42 : decode cX12_offer 42 = .ok (.aload_n 0, 1) := by decide +kernel
theorem dX12_offer_43 : decode cX12_offer 43 = .ok (.getfield 20, 3) := by decide +kernel
theorem dX12_offer_46 : decode cX12_offer 46 = .ok (.sipush 204, 3) := by decide +kernel
theorem dX12_offer_49 : decode cX12_offer 49 = .ok (.iconst 2, 1) := by decide +kernel
theorem dX12_offer_50 : decode cX12_offer 50 = .ok (.iload_n 3, 1) := by decide +kernel
theorem dX12_offer_51 : decode cX12_offer 51 = .ok (.imul, 1) := by decide +kernel
theorem dX12_offer_52 : decode cX12_offer 52 = .ok (.iadd, 1) := by decide +kernel
theorem dX12_offer_53 : decode cX12_offer 53 = .ok (.iload_n 1, 1) := by decide +kernel
theorem dX12_offer_54 : decode cX12_offer 54 = .ok (.iastore, 1) := by decide +kernel
theorem dX12_offer_55 : decode cX12_offer 55 = .ok (.aload_n 0, 1) := by decide +kernel
theorem dX12_offer_56 : decode cX12_offer 56 = .ok (.getfield 20, 3) := by decide +kernel
theorem dX12_offer_59 : decode cX12_offer 59 = .ok (.sipush 204, 3) := by decide +kernel
theorem dX12_offer_62 : decode cX12_offer 62 = .ok (.iconst 2, 1) := by decide +kernel
theorem dX12_offer_63 : decode cX12_offer 63 = .ok (.iload_n 3, 1) := by decide +kernel
theorem dX12_offer_64 : decode cX12_offer 64 = .ok (.imul, 1) := by decide +kernel
theorem dX12_offer_65 : decode cX12_offer 65 = .ok (.iadd, 1) := by decide +kernel
theorem dX12_offer_66 : decode cX12_offer 66 = .ok (.iconst 1, 1) := by decide +kernel
theorem dX12_offer_67 : decode cX12_offer 67 = .ok (.iadd, 1) := by decide +kernel
theorem dX12_offer_68 : decode cX12_offer 68 = .ok (.iload_n 2, 1) := by decide +kernel
theorem dX12_offer_69 : decode cX12_offer 69 = .ok (.iastore, 1) := by decide +kernel
theorem dX12_offer_70 : decode cX12_offer 70 = .ok (.aload_n 0, 1) := by decide +kernel
theorem dX12_offer_71 : decode cX12_offer 71 = .ok (.getfield 20, 3) := by decide +kernel
theorem dX12_offer_74 : decode cX12_offer 74 = .ok (.sipush 303, 3) := by decide +kernel
theorem dX12_offer_77 : decode cX12_offer 77 = .ok (.dup2, 1) := by decide +kernel
theorem dX12_offer_78 : decode cX12_offer 78 = .ok (.iaload, 1) := by decide +kernel
theorem dX12_offer_79 : decode cX12_offer 79 = .ok (.iconst 1, 1) := by decide +kernel
theorem dX12_offer_80 : decode cX12_offer 80 = .ok (.iadd, 1) := by decide +kernel
theorem dX12_offer_81 : decode cX12_offer 81 = .ok (.iastore, 1) := by decide +kernel
theorem dX12_offer_82 : decode cX12_offer 82 = .ok (.aload_n 0, 1) := by decide +kernel
theorem dX12_offer_83 : decode cX12_offer 83 = .ok (.iload_n 3, 1) := by decide +kernel
theorem dX12_offer_84 : decode cX12_offer 84 = .ok (.invokevirtual 118, 3) := by decide +kernel
theorem dX12_offer_87 : decode cX12_offer 87 = .ok (.ireturn, 1) := by decide +kernel
def fX12_offer_b14 (σ : qMem) : Option (Int32 × qMem) :=
  ((fX12_refuses (-1) σ).bind fun y9 => (some (y9.1, y9.2)))
set_option maxRecDepth 20000 in
set_option maxHeartbeats 4000000 in
theorem aX12_offer_b14 (σ : qMem) : qAt wM mX12_offer (ρi) 14 [(0, .ref 0)] [] σ (fX12_offer_b14 σ) := by
  unfold fX12_offer_b14
  refine q_aload_n (i := 0) (x := 0) dX12_offer_14 rfl 0 rfl ?_
  refine q_iconst (v := (-1)) dX12_offer_15 (by decide) ?_
  refine q_cVi mX12_refuses [.int (-1)] (st := []) dX12_offer_16 (svX12_114) ⟨Nat.le_of_ble_eq_true rfl, Nat.le_of_ble_eq_true rfl⟩ zM_0 rfl rfl rfl (Nat.le_of_ble_eq_true rfl) (kX12_refuses (-1) σ) (fun y9 => ?_)
  exact q_ireti (y := (y9.1, y9.2)) dX12_offer_19 rfl rfl

def fX12_offer (p1 : Int32) (p2 : Int32) (σ : qMem) : Option (Int32 × qMem) :=
  ((fX12_isPace p1).bind fun y1 => (if y1 = 0 then (fX12_offer_b14 σ) else ((fX12_isPace p2).bind fun y2 => (if y2 = 0 then (fX12_offer_b14 σ) else (if ck 303 1112 = true then (nmI (gi σ 2 (303 : Int32).toNatClampNeg) fun x3 => (if x3 = 8 then ((fX12_refuses (-5) σ).bind fun y8 => (some (y8.1, y8.2))) else (if ck (204 + (2 * x3)) 1112 = true then (nmM (si σ 2 (204 + (2 * x3)).toNatClampNeg p1) fun s4 => (if ck ((204 + (2 * x3)) + 1) 1112 = true then (nmM (si s4 2 ((204 + (2 * x3)) + 1).toNatClampNeg p2) fun s5 => (if ck 303 1112 = true then (if ck 303 1112 = true then (nmM (si s5 2 (303 : Int32).toNatClampNeg ((gi s5 2 (303 : Int32).toNatClampNeg) + 1)) fun s6 => ((fX12_good x3 s6).bind fun y7 => (some (y7.1, y7.2)))) else none) else none)) else none)) else none))) else none)))))
set_option maxRecDepth 20000 in
set_option maxHeartbeats 4000000 in
theorem aX12_offer  (p1 : Int32) (p2 : Int32)  (σ : qMem) : qAt wM mX12_offer (ρi) 0 [(0, .ref 0), (1, .int p1), (2, .int p2)] [] σ (fX12_offer p1 p2 σ) := by
  unfold fX12_offer
  refine q_iload_n (i := 1) (x := p1) dX12_offer_0 rfl 1 rfl ?_
  refine q_cSp mX12_isPace [.int p1] (st := []) dX12_offer_1 (ssX12_135) ⟨Nat.le_of_ble_eq_true rfl, Nat.le_of_ble_eq_true rfl⟩ rfl rfl (Nat.le_of_ble_eq_true rfl) (kX12_isPace p1 σ) (fun y1 => ?_)
  refine q_if_eq (tgt := 14) dX12_offer_4 (by decide) ?_ ?_
  · exact q_sub [0] rfl (aX12_offer_b14 σ)
  refine q_iload_n (i := 2) (x := p2) dX12_offer_7 rfl 2 rfl ?_
  refine q_cSp mX12_isPace [.int p2] (st := []) dX12_offer_8 (ssX12_135) ⟨Nat.le_of_ble_eq_true rfl, Nat.le_of_ble_eq_true rfl⟩ rfl rfl (Nat.le_of_ble_eq_true rfl) (kX12_isPace p2 σ) (fun y2 => ?_)
  refine q_if_ne (tgt := 20) dX12_offer_11 (by decide) ?_ ?_
  · refine q_aload_n (i := 0) (x := 0) dX12_offer_20 rfl 0 rfl ?_
    refine q_getr (t := 2) dX12_offer_21 foX12_20 zM_0 rfl ?_
    refine q_sipush (v := 303) dX12_offer_24 (by decide) ?_
    refine q_iald dX12_offer_27 zM_2 ?_
    refine q_nmI (fun x3 => ?_)
    refine q_istore_n (i := 3) (L' := [(3, .int x3), (0, .ref 0), (1, .int p1), (2, .int p2)]) dX12_offer_28 rfl (Nat.le_of_ble_eq_true rfl) rfl ?_
    refine q_iload_n (i := 3) (x := x3) dX12_offer_29 rfl 0 rfl ?_
    refine q_bipush (v := 8) dX12_offer_30 (by decide) ?_
    refine q_icmp_ne (tgt := 42) dX12_offer_32 (by decide) ?_ ?_
    · refine q_aload_n (i := 0) (x := 0) dX12_offer_42 rfl 1 rfl ?_
      refine q_getr (t := 2) dX12_offer_43 foX12_20 zM_0 rfl ?_
      refine q_sipush (v := 204) dX12_offer_46 (by decide) ?_
      refine q_iconst (v := 2) dX12_offer_49 (by decide) ?_
      refine q_iload_n (i := 3) (x := x3) dX12_offer_50 rfl 0 rfl ?_
      refine q_imul dX12_offer_51 ?_
      refine q_iadd dX12_offer_52 ?_
      refine q_iload_n (i := 1) (x := p1) dX12_offer_53 rfl 2 rfl ?_
      refine q_iast dX12_offer_54 zM_2 ?_
      refine q_nmM (fun s4 => ?_)
      refine q_aload_n (i := 0) (x := 0) dX12_offer_55 rfl 1 rfl ?_
      refine q_getr (t := 2) dX12_offer_56 foX12_20 zM_0 rfl ?_
      refine q_sipush (v := 204) dX12_offer_59 (by decide) ?_
      refine q_iconst (v := 2) dX12_offer_62 (by decide) ?_
      refine q_iload_n (i := 3) (x := x3) dX12_offer_63 rfl 0 rfl ?_
      refine q_imul dX12_offer_64 ?_
      refine q_iadd dX12_offer_65 ?_
      refine q_iconst (v := 1) dX12_offer_66 (by decide) ?_
      refine q_iadd dX12_offer_67 ?_
      refine q_iload_n (i := 2) (x := p2) dX12_offer_68 rfl 3 rfl ?_
      refine q_iast dX12_offer_69 zM_2 ?_
      refine q_nmM (fun s5 => ?_)
      refine q_aload_n (i := 0) (x := 0) dX12_offer_70 rfl 1 rfl ?_
      refine q_getr (t := 2) dX12_offer_71 foX12_20 zM_0 rfl ?_
      refine q_sipush (v := 303) dX12_offer_74 (by decide) ?_
      refine q_dup2 dX12_offer_77 rfl rfl ?_
      refine q_iald dX12_offer_78 zM_2 ?_
      refine q_iconst (v := 1) dX12_offer_79 (by decide) ?_
      refine q_iadd dX12_offer_80 ?_
      refine q_iast dX12_offer_81 zM_2 ?_
      refine q_nmM (fun s6 => ?_)
      refine q_aload_n (i := 0) (x := 0) dX12_offer_82 rfl 1 rfl ?_
      refine q_iload_n (i := 3) (x := x3) dX12_offer_83 rfl 0 rfl ?_
      refine q_cVi mX12_good [.int x3] (st := []) dX12_offer_84 (svX12_118) ⟨Nat.le_of_ble_eq_true rfl, Nat.le_of_ble_eq_true rfl⟩ zM_0 rfl rfl rfl (Nat.le_of_ble_eq_true rfl) (kX12_good x3 s6) (fun y7 => ?_)
      exact q_ireti (y := (y7.1, y7.2)) dX12_offer_87 rfl rfl
    refine q_aload_n (i := 0) (x := 0) dX12_offer_35 rfl 1 rfl ?_
    refine q_bipush (v := (-5)) dX12_offer_36 (by decide) ?_
    refine q_cVi mX12_refuses [.int (-5)] (st := []) dX12_offer_38 (svX12_114) ⟨Nat.le_of_ble_eq_true rfl, Nat.le_of_ble_eq_true rfl⟩ zM_0 rfl rfl rfl (Nat.le_of_ble_eq_true rfl) (kX12_refuses (-5) σ) (fun y8 => ?_)
    exact q_ireti (y := (y8.1, y8.2)) dX12_offer_41 rfl rfl
  exact q_sub [0] rfl (aX12_offer_b14 σ)
theorem kX12_offer  (p1 : Int32) (p2 : Int32)  (σ : qMem) : qMc wM mX12_offer (ρi) [.ref 0, .int p1, .int p2] σ (fX12_offer p1 p2 σ) := qMc_of (moX12_offer) (Nat.le_of_ble_eq_true rfl) (aX12_offer p1 p2  σ)

theorem dX12_partsOf_0 : decode cX12_partsOf 0 = .ok (.aload_n 0, 1) := by decide +kernel
theorem dX12_partsOf_1 : decode cX12_partsOf 1 = .ok (.invokevirtual 244, 3) := by decide +kernel
theorem dX12_partsOf_4 : decode cX12_partsOf 4 = .ok (.aload_n 0, 1) := by decide +kernel
theorem dX12_partsOf_5 : decode cX12_partsOf 5 = .ok (.iconst 0, 1) := by decide +kernel
theorem dX12_partsOf_6 : decode cX12_partsOf 6 = .ok (.iload_n 1, 1) := by decide +kernel
theorem dX12_partsOf_7 : decode cX12_partsOf 7 = .ok (.iconst 0, 1) := by decide +kernel
theorem dX12_partsOf_8 : decode cX12_partsOf 8 = .ok (.invokevirtual 151, 3) := by decide +kernel
theorem dX12_partsOf_11 : decode cX12_partsOf 11 = .ok (.iload_n 2, 1) := by decide +kernel
theorem dX12_partsOf_12 : decode cX12_partsOf 12 = .ok (.aload_n 0, 1) := by decide +kernel
theorem dX12_partsOf_13 : decode cX12_partsOf 13 = .ok (.getfield 20, 3) := by decide +kernel
theorem dX12_partsOf_16 : decode cX12_partsOf 16 = .ok (.sipush 204, 3) := by decide +kernel
theorem dX12_partsOf_19 : decode cX12_partsOf 19 = .ok (.iconst 2, 1) := by decide +kernel
theorem dX12_partsOf_20 : decode cX12_partsOf 20 = .ok (.iload_n 3, 1) := by decide +kernel
theorem dX12_partsOf_21 : decode cX12_partsOf 21 = .ok (.imul, 1) := by decide +kernel
theorem dX12_partsOf_22 : decode cX12_partsOf 22 = .ok (.iadd, 1) := by decide +kernel
theorem dX12_partsOf_23 : decode cX12_partsOf 23 = .ok (.iaload, 1) := by decide +kernel
theorem dX12_partsOf_24 : decode cX12_partsOf 24 = .ok (.imul, 1) := by decide +kernel
theorem dX12_partsOf_25 : decode cX12_partsOf 25 = .ok (.iadd, 1) := by decide +kernel
theorem dX12_partsOf_26 : decode cX12_partsOf 26 = .ok (.istore 4, 2) := by decide +kernel
theorem dX12_partsOf_28 : decode cX12_partsOf 28 = .ok (.aload_n 0, 1) := by decide +kernel
theorem dX12_partsOf_29 : decode cX12_partsOf 29 = .ok (.iconst 0, 1) := by decide +kernel
theorem dX12_partsOf_30 : decode cX12_partsOf 30 = .ok (.iload_n 1, 1) := by decide +kernel
theorem dX12_partsOf_31 : decode cX12_partsOf 31 = .ok (.iconst 1, 1) := by decide +kernel
theorem dX12_partsOf_32 : decode cX12_partsOf 32 = .ok (.invokevirtual 151, 3) := by decide +kernel
theorem dX12_partsOf_35 : decode cX12_partsOf 35 = .ok (.iload_n 2, 1) := by decide +kernel
theorem dX12_partsOf_36 : decode cX12_partsOf 36 = .ok (.aload_n 0, 1) := by decide +kernel
theorem dX12_partsOf_37 : decode cX12_partsOf 37 = .ok (.getfield 20, 3) := by decide +kernel
theorem dX12_partsOf_40 : decode cX12_partsOf 40 = .ok (.sipush 204, 3) := by decide +kernel
theorem dX12_partsOf_43 : decode cX12_partsOf 43 = .ok (.iconst 2, 1) := by decide +kernel
theorem dX12_partsOf_44 : decode cX12_partsOf 44 = .ok (.iload_n 3, 1) := by decide +kernel
theorem dX12_partsOf_45 : decode cX12_partsOf 45 = .ok (.imul, 1) := by decide +kernel
theorem dX12_partsOf_46 : decode cX12_partsOf 46 = .ok (.iadd, 1) := by decide +kernel
theorem dX12_partsOf_47 : decode cX12_partsOf 47 = .ok (.iconst 1, 1) := by decide +kernel
theorem dX12_partsOf_48 : decode cX12_partsOf 48 = .ok (.iadd, 1) := by decide +kernel
theorem dX12_partsOf_49 : decode cX12_partsOf 49 = .ok (.iaload, 1) := by decide +kernel
theorem dX12_partsOf_50 : decode cX12_partsOf 50 = .ok (.imul, 1) := by decide +kernel
theorem dX12_partsOf_51 : decode cX12_partsOf 51 = .ok (.iadd, 1) := by decide +kernel
theorem dX12_partsOf_52 : decode cX12_partsOf 52 = .ok (.istore 5, 2) := by decide +kernel
theorem dX12_partsOf_54 : decode cX12_partsOf 54 = .ok (.iload_n 1, 1) := by decide +kernel
theorem dX12_partsOf_55 : decode cX12_partsOf 55 = .ok (.iload_n 2, 1) := by decide +kernel
theorem dX12_partsOf_56 : decode cX12_partsOf 56 = .ok (.iadd, 1) := by decide +kernel
theorem dX12_partsOf_57 : decode cX12_partsOf 57 = .ok (.istore 6, 2) := by decide +kernel
theorem dX12_partsOf_59 : decode cX12_partsOf 59 = .ok (.iconst 0, 1) := by decide +kernel
theorem dX12_partsOf_60 : decode cX12_partsOf 60 = .ok (.istore 7, 2) := by decide +kernel
theorem dX12_partsOf_62 : decode cX12_partsOf 62 = .ok (.iload 7, 2) := by decide +kernel
theorem dX12_partsOf_64 : decode cX12_partsOf 64 = .ok (.bipush 81, 2) := by decide +kernel
theorem dX12_partsOf_66 : decode cX12_partsOf 66 = .ok (.if_icmp .ge 17, 3) := by decide +kernel
theorem dX12_partsOf_69 : decode cX12_partsOf 69 = .ok (.aload_n 0, 1) := by decide +kernel
theorem dX12_partsOf_70 : decode cX12_partsOf 70 = .ok (.getfield 53, 3) := by decide +kernel
theorem dX12_partsOf_73 : decode cX12_partsOf 73 = .ok (.iload 7, 2) := by decide +kernel
theorem dX12_partsOf_75 : decode cX12_partsOf 75 = .ok (.iconst 0, 1) := by decide +kernel
theorem dX12_partsOf_76 : decode cX12_partsOf 76 = .ok (.iastore, 1) := by decide +kernel
theorem dX12_partsOf_77 : decode cX12_partsOf 77 = .ok (.iinc 7 1, 3) := by decide +kernel
theorem dX12_partsOf_80 : decode cX12_partsOf 80 = .ok (.goto (-18), 3) := by decide +kernel
theorem dX12_partsOf_83 : decode cX12_partsOf 83 = .ok (.iconst 0, 1) := by decide +kernel
theorem dX12_partsOf_84 : decode cX12_partsOf 84 = .ok (.istore 7, 2) := by decide +kernel
theorem dX12_partsOf_86 : decode cX12_partsOf 86 = .ok (.iconst 0, 1) := by decide +kernel
theorem dX12_partsOf_87 : decode cX12_partsOf 87 = .ok (.istore 8, 2) := by decide +kernel
theorem dX12_partsOf_89 : decode cX12_partsOf 89 = .ok (.iload 8, 2) := by decide +kernel
theorem dX12_partsOf_91 : decode cX12_partsOf 91 = .ok (.ldc 39, 2) := by decide +kernel
theorem dX12_partsOf_93 : decode cX12_partsOf 93 = .ok (.if_icmp .ge 109, 3) := by decide +kernel
theorem dX12_partsOf_96 : decode cX12_partsOf 96 = .ok (.aload_n 0, 1) := by decide +kernel
theorem dX12_partsOf_97 : decode cX12_partsOf 97 = .ok (.getfield 40, 3) := by decide +kernel
theorem dX12_partsOf_100 : decode cX12_partsOf 100 = .ok (.iload 8, 2) := by decide +kernel
theorem dX12_partsOf_102 : decode cX12_partsOf 102 = .ok (.baload, 1) := by decide +kernel
theorem dX12_partsOf_103 : decode cX12_partsOf 103 = .ok (.ifCond .ne 6, 3) := by decide +kernel
theorem dX12_partsOf_106 : decode cX12_partsOf 106 = .ok (.goto 90, 3) := by decide +kernel
theorem dX12_partsOf_109 : decode cX12_partsOf 109 = .ok (.iload 8, 2) := by decide +kernel
theorem dX12_partsOf_111 : decode cX12_partsOf 111 = .ok (.invokestatic 229, 3) := by decide +kernel
theorem dX12_partsOf_114 : decode cX12_partsOf 114 = .ok (.iload 6, 2) := by decide +kernel
theorem dX12_partsOf_116 : decode cX12_partsOf 116 = .ok (.iload 8, 2) := by decide +kernel
theorem dX12_partsOf_118 : decode cX12_partsOf 118 = .ok (.invokestatic 235, 3) := by decide +kernel
theorem dX12_partsOf_121 : decode cX12_partsOf 121 = .ok (.imul, 1) := by decide +kernel
theorem dX12_partsOf_122 : decode cX12_partsOf 122 = .ok (.iadd, 1) := by decide +kernel
theorem dX12_partsOf_123 : decode cX12_partsOf 123 = .ok (.iload 4, 2) := by decide +kernel
theorem dX12_partsOf_125 : decode cX12_partsOf 125 = .ok (.isub, 1) := by decide +kernel
theorem dX12_partsOf_126 : decode cX12_partsOf 126 = .ok (.istore 9, 2) := by decide +kernel
theorem dX12_partsOf_128 : decode cX12_partsOf 128 = .ok (.iload 8, 2) := by decide +kernel
theorem dX12_partsOf_130 : decode cX12_partsOf 130 = .ok (.invokestatic 232, 3) := by decide +kernel
theorem dX12_partsOf_133 : decode cX12_partsOf 133 = .ok (.iload 6, 2) := by decide +kernel
theorem dX12_partsOf_135 : decode cX12_partsOf 135 = .ok (.iload 8, 2) := by decide +kernel
theorem dX12_partsOf_137 : decode cX12_partsOf 137 = .ok (.invokestatic 238, 3) := by decide +kernel
theorem dX12_partsOf_140 : decode cX12_partsOf 140 = .ok (.imul, 1) := by decide +kernel
theorem dX12_partsOf_141 : decode cX12_partsOf 141 = .ok (.iadd, 1) := by decide +kernel
theorem dX12_partsOf_142 : decode cX12_partsOf 142 = .ok (.iload 5, 2) := by decide +kernel
theorem dX12_partsOf_144 : decode cX12_partsOf 144 = .ok (.isub, 1) := by decide +kernel
theorem dX12_partsOf_145 : decode cX12_partsOf 145 = .ok (.istore 10, 2) := by decide +kernel
theorem dX12_partsOf_147 : decode cX12_partsOf 147 = .ok (.iload 9, 2) := by decide +kernel
theorem dX12_partsOf_149 : decode cX12_partsOf 149 = .ok (.ifCond .ne 13, 3) := by decide +kernel
theorem dX12_partsOf_152 : decode cX12_partsOf 152 = .ok (.iload 10, 2) := by decide +kernel
theorem dX12_partsOf_154 : decode cX12_partsOf 154 = .ok (.ifCond .ne 8, 3) := by decide +kernel
theorem dX12_partsOf_157 : decode cX12_partsOf 157 = .ok (.bipush 80, 2) := by decide +kernel
theorem dX12_partsOf_159 : decode cX12_partsOf 159 = .ok (.goto 10, 3) := by decide +kernel
theorem dX12_partsOf_162 : decode cX12_partsOf 162 = .ok (.iload 9, 2) := by decide +kernel
theorem dX12_partsOf_164 : decode cX12_partsOf 164 = .ok (.iload 10, 2) := by decide +kernel
theorem dX12_partsOf_166 : decode cX12_partsOf 166 = .ok (.invokestatic 166, 3) := by decide +kernel
theorem dX12_partsOf_169 : decode cX12_partsOf 169 = .ok (.istore 11, 2) := by decide +kernel
theorem dX12_partsOf_171 : decode cX12_partsOf 171 = .ok (.aload_n 0, 1) := by decide +kernel
theorem dX12_partsOf_172 : decode cX12_partsOf 172 = .ok (.getfield 53, 3) := by decide +kernel
theorem dX12_partsOf_175 : decode cX12_partsOf 175 = .ok (.iload 11, 2) := by decide +kernel
theorem dX12_partsOf_177 : decode cX12_partsOf 177 = .ok (.dup2, 1) := by decide +kernel
theorem dX12_partsOf_178 : decode cX12_partsOf 178 = .ok (.iaload, 1) := by decide +kernel
theorem dX12_partsOf_179 : decode cX12_partsOf 179 = .ok (.iconst 1, 1) := by decide +kernel
theorem dX12_partsOf_180 : decode cX12_partsOf 180 = .ok (.iadd, 1) := by decide +kernel
theorem dX12_partsOf_181 : decode cX12_partsOf 181 = .ok (.iastore, 1) := by decide +kernel
theorem dX12_partsOf_182 : decode cX12_partsOf 182 = .ok (.iload 7, 2) := by decide +kernel
theorem dX12_partsOf_184 : decode cX12_partsOf 184 = .ok (.aload_n 0, 1) := by decide +kernel
theorem dX12_partsOf_185 : decode cX12_partsOf 185 = .ok (.getfield 53, 3) := by decide +kernel
theorem dX12_partsOf_188 : decode cX12_partsOf 188 = .ok (.iload 11, 2) := by decide +kernel
theorem dX12_partsOf_190 : decode cX12_partsOf 190 = .ok (.iaload, 1) := by decide +kernel
theorem dX12_partsOf_191 : decode cX12_partsOf 191 = .ok (.invokestatic 145, 3) := by decide +kernel
theorem dX12_partsOf_194 : decode cX12_partsOf 194 = .ok (.istore 7, 2) := by decide +kernel
theorem dX12_partsOf_196 : decode cX12_partsOf 196 = .ok (.iinc 8 1, 3) := by decide +kernel
theorem dX12_partsOf_199 : decode cX12_partsOf 199 = .ok (.goto (-110), 3) := by decide +kernel
theorem dX12_partsOf_202 : decode cX12_partsOf 202 = .ok (.iload 7, 2) := by decide +kernel
theorem dX12_partsOf_204 : decode cX12_partsOf 204 = .ok (.ireturn, 1) := by decide +kernel
def fX12_partsOf_b196 (N : Nat) (c89 : Int32 → Int32 → Int32 → Int32 → Int32 → qMem → Option (Int32 × qMem)) (v4 : Int32) (v5 : Int32) (v6 : Int32) (v7 : Int32) (v8 : Int32) (σ : qMem) : Option (Int32 × qMem) :=
  (c89 v4 v5 v6 v7 (v8 + 1) σ)
set_option maxRecDepth 20000 in
set_option maxHeartbeats 4000000 in
theorem aX12_partsOf_b196 (N : Nat) (c89 : Int32 → Int32 → Int32 → Int32 → Int32 → qMem → Option (Int32 × qMem)) (hc89 : ∀ (v4 : Int32) (v5 : Int32) (v6 : Int32) (v7 : Int32) (v8 : Int32) (σ : qMem), qAt wM mX12_partsOf (ρi) 89 [(0, .ref 0), (4, .int v4), (5, .int v5), (6, .int v6), (7, .int v7), (8, .int v8)] [] σ (c89 v4 v5 v6 v7 v8 σ)) (v4 : Int32) (v5 : Int32) (v6 : Int32) (v7 : Int32) (v8 : Int32) (σ : qMem) : qAt wM mX12_partsOf (ρi) 196 [(0, .ref 0), (4, .int v4), (5, .int v5), (6, .int v6), (7, .int v7), (8, .int v8)] [] σ (fX12_partsOf_b196 N c89 v4 v5 v6 v7 v8 σ) := by
  unfold fX12_partsOf_b196
  refine q_iinc (i := 8) (x := v8) (v := (v8 + 1)) (L' := [(8, .int (v8 + 1)), (0, .ref 0), (4, .int v4), (5, .int v5), (6, .int v6), (7, .int v7)]) dX12_partsOf_196 5 rfl (q_cst v8 (by decide)) (Nat.le_of_ble_eq_true rfl) rfl ?_
  refine q_goto (tgt := 89) dX12_partsOf_199 (by decide) ?_
  exact q_sub [1, 2, 3, 4, 5, 0] rfl (hc89 v4 v5 v6 v7 (v8 + 1) σ)

def fX12_partsOf_b169 (N : Nat) (c89 : Int32 → Int32 → Int32 → Int32 → Int32 → qMem → Option (Int32 × qMem)) (v4 : Int32) (v5 : Int32) (v6 : Int32) (v7 : Int32) (v8 : Int32) (u0 : Int32) (σ : qMem) : Option (Int32 × qMem) :=
  (if ck u0 81 = true then (if ck u0 81 = true then (nmM (si σ 9 u0.toNatClampNeg ((gi σ 9 u0.toNatClampNeg) + 1)) fun s12 => (if ck u0 81 = true then ((fX12_more v7 (gi s12 9 u0.toNatClampNeg)).bind fun y13 => (fX12_partsOf_b196 N c89 v4 v5 v6 y13 v8 s12)) else none)) else none) else none)
set_option maxRecDepth 20000 in
set_option maxHeartbeats 4000000 in
theorem aX12_partsOf_b169 (N : Nat) (c89 : Int32 → Int32 → Int32 → Int32 → Int32 → qMem → Option (Int32 × qMem)) (hc89 : ∀ (v4 : Int32) (v5 : Int32) (v6 : Int32) (v7 : Int32) (v8 : Int32) (σ : qMem), qAt wM mX12_partsOf (ρi) 89 [(0, .ref 0), (4, .int v4), (5, .int v5), (6, .int v6), (7, .int v7), (8, .int v8)] [] σ (c89 v4 v5 v6 v7 v8 σ)) (v4 : Int32) (v5 : Int32) (v6 : Int32) (v7 : Int32) (v8 : Int32) (u0 : Int32) (σ : qMem) : qAt wM mX12_partsOf (ρi) 169 [(0, .ref 0), (4, .int v4), (5, .int v5), (6, .int v6), (7, .int v7), (8, .int v8)] [.int u0] σ (fX12_partsOf_b169 N c89 v4 v5 v6 v7 v8 u0 σ) := by
  unfold fX12_partsOf_b169
  refine q_istore (i := 11) (L' := [(11, .int u0), (0, .ref 0), (4, .int v4), (5, .int v5), (6, .int v6), (7, .int v7), (8, .int v8)]) dX12_partsOf_169 (Nat.le_of_ble_eq_true rfl) rfl ?_
  refine q_aload_n (i := 0) (x := 0) dX12_partsOf_171 rfl 1 rfl ?_
  refine q_getr (t := 9) dX12_partsOf_172 foX12_53 zM_0 rfl ?_
  refine q_iload (i := 11) (x := u0) dX12_partsOf_175 0 rfl ?_
  refine q_dup2 dX12_partsOf_177 rfl rfl ?_
  refine q_iald dX12_partsOf_178 zM_9 ?_
  refine q_iconst (v := 1) dX12_partsOf_179 (by decide) ?_
  refine q_iadd dX12_partsOf_180 ?_
  refine q_iast dX12_partsOf_181 zM_9 ?_
  refine q_nmM (fun s12 => ?_)
  refine q_iload (i := 7) (x := v7) dX12_partsOf_182 5 rfl ?_
  refine q_aload_n (i := 0) (x := 0) dX12_partsOf_184 rfl 1 rfl ?_
  refine q_getr (t := 9) dX12_partsOf_185 foX12_53 zM_0 rfl ?_
  refine q_iload (i := 11) (x := u0) dX12_partsOf_188 0 rfl ?_
  refine q_iald dX12_partsOf_190 zM_9 ?_
  refine q_cSp mX12_more [.int v7, .int (gi s12 9 u0.toNatClampNeg)] (st := []) dX12_partsOf_191 (ssX12_145) ⟨Nat.le_of_ble_eq_true rfl, Nat.le_of_ble_eq_true rfl⟩ rfl rfl (Nat.le_of_ble_eq_true rfl) (kX12_more v7 (gi s12 9 u0.toNatClampNeg) s12) (fun y13 => ?_)
  refine q_istore (i := 7) (L' := [(7, .int y13), (11, .int u0), (0, .ref 0), (4, .int v4), (5, .int v5), (6, .int v6), (8, .int v8)]) dX12_partsOf_194 (Nat.le_of_ble_eq_true rfl) rfl ?_
  exact q_sub [2, 3, 4, 5, 0, 6] rfl (aX12_partsOf_b196 N c89 hc89 v4 v5 v6 y13 v8 s12)

def fX12_partsOf_b162 (N : Nat) (c89 : Int32 → Int32 → Int32 → Int32 → Int32 → qMem → Option (Int32 × qMem)) (v4 : Int32) (v5 : Int32) (v6 : Int32) (v7 : Int32) (v8 : Int32) (v9 : Int32) (v10 : Int32) (σ : qMem) : Option (Int32 × qMem) :=
  ((fX12_rose v9 v10).bind fun y11 => (fX12_partsOf_b169 N c89 v4 v5 v6 v7 v8 y11 σ))
set_option maxRecDepth 20000 in
set_option maxHeartbeats 4000000 in
theorem aX12_partsOf_b162 (N : Nat) (c89 : Int32 → Int32 → Int32 → Int32 → Int32 → qMem → Option (Int32 × qMem)) (hc89 : ∀ (v4 : Int32) (v5 : Int32) (v6 : Int32) (v7 : Int32) (v8 : Int32) (σ : qMem), qAt wM mX12_partsOf (ρi) 89 [(0, .ref 0), (4, .int v4), (5, .int v5), (6, .int v6), (7, .int v7), (8, .int v8)] [] σ (c89 v4 v5 v6 v7 v8 σ)) (v4 : Int32) (v5 : Int32) (v6 : Int32) (v7 : Int32) (v8 : Int32) (v9 : Int32) (v10 : Int32) (σ : qMem) : qAt wM mX12_partsOf (ρi) 162 [(0, .ref 0), (4, .int v4), (5, .int v5), (6, .int v6), (7, .int v7), (8, .int v8), (9, .int v9), (10, .int v10)] [] σ (fX12_partsOf_b162 N c89 v4 v5 v6 v7 v8 v9 v10 σ) := by
  unfold fX12_partsOf_b162
  refine q_iload (i := 9) (x := v9) dX12_partsOf_162 6 rfl ?_
  refine q_iload (i := 10) (x := v10) dX12_partsOf_164 7 rfl ?_
  refine q_cSp mX12_rose [.int v9, .int v10] (st := []) dX12_partsOf_166 (ssX12_166) ⟨Nat.le_of_ble_eq_true rfl, Nat.le_of_ble_eq_true rfl⟩ rfl rfl (Nat.le_of_ble_eq_true rfl) (kX12_rose v9 v10 σ) (fun y11 => ?_)
  exact q_sub [0, 1, 2, 3, 4, 5] rfl (aX12_partsOf_b169 N c89 hc89 v4 v5 v6 v7 v8 y11 σ)

def fX12_partsOf_s89 (N : Nat) (c89 : Int32 → Int32 → Int32 → Int32 → Int32 → qMem → Option (Int32 × qMem)) (v4 : Int32) (v5 : Int32) (v6 : Int32) (v7 : Int32) (v8 : Int32) (σ : qMem) : Option (Int32 × qMem) :=
  (if 50176 ≤ v8 then (some (v7, σ)) else (if ck v8 50176 = true then (if (gi σ 7 v8.toNatClampNeg) = 0 then (fX12_partsOf_b196 N c89 v4 v5 v6 v7 v8 σ) else ((fX12_eastOf v8).bind fun y7 => ((fX12_eastBy v8).bind fun y8 => ((fX12_northOf v8).bind fun y9 => ((fX12_northBy v8).bind fun y10 => (if ((y7 + (v6 * y8)) - v4) = 0 then (if ((y9 + (v6 * y10)) - v5) = 0 then (fX12_partsOf_b169 N c89 v4 v5 v6 v7 v8 80 σ) else (fX12_partsOf_b162 N c89 v4 v5 v6 v7 v8 ((y7 + (v6 * y8)) - v4) ((y9 + (v6 * y10)) - v5) σ)) else (fX12_partsOf_b162 N c89 v4 v5 v6 v7 v8 ((y7 + (v6 * y8)) - v4) ((y9 + (v6 * y10)) - v5) σ))))))) else none))
set_option maxRecDepth 20000 in
set_option maxHeartbeats 4000000 in
theorem aX12_partsOf_s89 (N : Nat) (c89 : Int32 → Int32 → Int32 → Int32 → Int32 → qMem → Option (Int32 × qMem)) (hc89 : ∀ (v4 : Int32) (v5 : Int32) (v6 : Int32) (v7 : Int32) (v8 : Int32) (σ : qMem), qAt wM mX12_partsOf (ρi) 89 [(0, .ref 0), (4, .int v4), (5, .int v5), (6, .int v6), (7, .int v7), (8, .int v8)] [] σ (c89 v4 v5 v6 v7 v8 σ)) (v4 : Int32) (v5 : Int32) (v6 : Int32) (v7 : Int32) (v8 : Int32) (σ : qMem) : qAt wM mX12_partsOf (ρi) 89 [(0, .ref 0), (4, .int v4), (5, .int v5), (6, .int v6), (7, .int v7), (8, .int v8)] [] σ (fX12_partsOf_s89 N c89 v4 v5 v6 v7 v8 σ) := by
  unfold fX12_partsOf_s89
  refine q_iload (i := 8) (x := v8) dX12_partsOf_89 5 rfl ?_
  refine q_ldc (v := 50176) dX12_partsOf_91 (g_6 93 (by decide +kernel) rfl) ?_
  refine q_icmp_ge (tgt := 202) dX12_partsOf_93 (by decide) ?_ ?_
  · refine q_iload (i := 7) (x := v7) dX12_partsOf_202 4 rfl ?_
    exact q_ireti (y := (v7, σ)) dX12_partsOf_204 rfl rfl
  refine q_aload_n (i := 0) (x := 0) dX12_partsOf_96 rfl 0 rfl ?_
  refine q_getr (t := 7) dX12_partsOf_97 foX12_40 zM_0 rfl ?_
  refine q_iload (i := 8) (x := v8) dX12_partsOf_100 5 rfl ?_
  refine q_zald dX12_partsOf_102 zM_7 ?_
  refine q_if_ne (tgt := 109) dX12_partsOf_103 (by decide) ?_ ?_
  · refine q_iload (i := 8) (x := v8) dX12_partsOf_109 5 rfl ?_
    refine q_cSp mX12_eastOf [.int v8] (st := []) dX12_partsOf_111 (ssX12_229) ⟨Nat.le_of_ble_eq_true rfl, Nat.le_of_ble_eq_true rfl⟩ rfl rfl (Nat.le_of_ble_eq_true rfl) (kX12_eastOf v8 σ) (fun y7 => ?_)
    refine q_iload (i := 6) (x := v6) dX12_partsOf_114 3 rfl ?_
    refine q_iload (i := 8) (x := v8) dX12_partsOf_116 5 rfl ?_
    refine q_cSp mX12_eastBy [.int v8] (st := [.int v6, .int y7]) dX12_partsOf_118 (ssX12_235) ⟨Nat.le_of_ble_eq_true rfl, Nat.le_of_ble_eq_true rfl⟩ rfl rfl (Nat.le_of_ble_eq_true rfl) (kX12_eastBy v8 σ) (fun y8 => ?_)
    refine q_imul dX12_partsOf_121 ?_
    refine q_iadd dX12_partsOf_122 ?_
    refine q_iload (i := 4) (x := v4) dX12_partsOf_123 1 rfl ?_
    refine q_isub dX12_partsOf_125 ?_
    refine q_istore (i := 9) (L' := [(9, .int ((y7 + (v6 * y8)) - v4)), (0, .ref 0), (4, .int v4), (5, .int v5), (6, .int v6), (7, .int v7), (8, .int v8)]) dX12_partsOf_126 (Nat.le_of_ble_eq_true rfl) rfl ?_
    refine q_iload (i := 8) (x := v8) dX12_partsOf_128 6 rfl ?_
    refine q_cSp mX12_northOf [.int v8] (st := []) dX12_partsOf_130 (ssX12_232) ⟨Nat.le_of_ble_eq_true rfl, Nat.le_of_ble_eq_true rfl⟩ rfl rfl (Nat.le_of_ble_eq_true rfl) (kX12_northOf v8 σ) (fun y9 => ?_)
    refine q_iload (i := 6) (x := v6) dX12_partsOf_133 4 rfl ?_
    refine q_iload (i := 8) (x := v8) dX12_partsOf_135 6 rfl ?_
    refine q_cSp mX12_northBy [.int v8] (st := [.int v6, .int y9]) dX12_partsOf_137 (ssX12_238) ⟨Nat.le_of_ble_eq_true rfl, Nat.le_of_ble_eq_true rfl⟩ rfl rfl (Nat.le_of_ble_eq_true rfl) (kX12_northBy v8 σ) (fun y10 => ?_)
    refine q_imul dX12_partsOf_140 ?_
    refine q_iadd dX12_partsOf_141 ?_
    refine q_iload (i := 5) (x := v5) dX12_partsOf_142 3 rfl ?_
    refine q_isub dX12_partsOf_144 ?_
    refine q_istore (i := 10) (L' := [(10, .int ((y9 + (v6 * y10)) - v5)), (9, .int ((y7 + (v6 * y8)) - v4)), (0, .ref 0), (4, .int v4), (5, .int v5), (6, .int v6), (7, .int v7), (8, .int v8)]) dX12_partsOf_145 (Nat.le_of_ble_eq_true rfl) rfl ?_
    refine q_iload (i := 9) (x := ((y7 + (v6 * y8)) - v4)) dX12_partsOf_147 1 rfl ?_
    refine q_if_ne (tgt := 162) dX12_partsOf_149 (by decide) ?_ ?_
    · exact q_sub [2, 3, 4, 5, 6, 7, 1, 0] rfl (aX12_partsOf_b162 N c89 hc89 v4 v5 v6 v7 v8 ((y7 + (v6 * y8)) - v4) ((y9 + (v6 * y10)) - v5) σ)
    refine q_iload (i := 10) (x := ((y9 + (v6 * y10)) - v5)) dX12_partsOf_152 0 rfl ?_
    refine q_if_ne (tgt := 162) dX12_partsOf_154 (by decide) ?_ ?_
    · exact q_sub [2, 3, 4, 5, 6, 7, 1, 0] rfl (aX12_partsOf_b162 N c89 hc89 v4 v5 v6 v7 v8 ((y7 + (v6 * y8)) - v4) ((y9 + (v6 * y10)) - v5) σ)
    refine q_bipush (v := 80) dX12_partsOf_157 (by decide) ?_
    refine q_goto (tgt := 169) dX12_partsOf_159 (by decide) ?_
    exact q_sub [2, 3, 4, 5, 6, 7] rfl (aX12_partsOf_b169 N c89 hc89 v4 v5 v6 v7 v8 80 σ)
  refine q_goto (tgt := 196) dX12_partsOf_106 (by decide) ?_
  exact q_sub [0, 1, 2, 3, 4, 5] rfl (aX12_partsOf_b196 N c89 hc89 v4 v5 v6 v7 v8 σ)
def fX12_partsOf_l89 (N : Nat) : Nat → Int32 → Int32 → Int32 → Int32 → Int32 → qMem → Option (Int32 × qMem)
  | 0 => fun _ _ _ _ _ _ => none
  | n + 1 => fun v4 v5 v6 v7 v8 σ => fX12_partsOf_s89 N (fX12_partsOf_l89 N n) v4 v5 v6 v7 v8 σ
theorem aX12_partsOf_l89 (N : Nat) : ∀ (n : Nat) (v4 : Int32) (v5 : Int32) (v6 : Int32) (v7 : Int32) (v8 : Int32) (σ : qMem), qAt wM mX12_partsOf (ρi) 89 [(0, .ref 0), (4, .int v4), (5, .int v5), (6, .int v6), (7, .int v7), (8, .int v8)] [] σ (fX12_partsOf_l89 N n v4 v5 v6 v7 v8 σ) := by
  intro n
  induction n with
  | zero => intro v4 v5 v6 v7 v8 σ; exact q_none
  | succ n ih => intro v4 v5 v6 v7 v8 σ; exact aX12_partsOf_s89 N (fX12_partsOf_l89 N n) ih v4 v5 v6 v7 v8 σ

def fX12_partsOf_s62 (N : Nat) (c62 : Int32 → Int32 → Int32 → Int32 → qMem → Option (Int32 × qMem)) (v4 : Int32) (v5 : Int32) (v6 : Int32) (v7 : Int32) (σ : qMem) : Option (Int32 × qMem) :=
  (if 81 ≤ v7 then (fX12_partsOf_l89 N N v4 v5 v6 0 0 σ) else (if ck v7 81 = true then (nmM (si σ 9 v7.toNatClampNeg 0) fun s6 => (c62 v4 v5 v6 (v7 + 1) s6)) else none))
set_option maxRecDepth 20000 in
set_option maxHeartbeats 4000000 in
theorem aX12_partsOf_s62 (N : Nat) (c62 : Int32 → Int32 → Int32 → Int32 → qMem → Option (Int32 × qMem)) (hc62 : ∀ (v4 : Int32) (v5 : Int32) (v6 : Int32) (v7 : Int32) (σ : qMem), qAt wM mX12_partsOf (ρi) 62 [(0, .ref 0), (4, .int v4), (5, .int v5), (6, .int v6), (7, .int v7)] [] σ (c62 v4 v5 v6 v7 σ)) (v4 : Int32) (v5 : Int32) (v6 : Int32) (v7 : Int32) (σ : qMem) : qAt wM mX12_partsOf (ρi) 62 [(0, .ref 0), (4, .int v4), (5, .int v5), (6, .int v6), (7, .int v7)] [] σ (fX12_partsOf_s62 N c62 v4 v5 v6 v7 σ) := by
  unfold fX12_partsOf_s62
  refine q_iload (i := 7) (x := v7) dX12_partsOf_62 4 rfl ?_
  refine q_bipush (v := 81) dX12_partsOf_64 (by decide) ?_
  refine q_icmp_ge (tgt := 83) dX12_partsOf_66 (by decide) ?_ ?_
  · refine q_iconst (v := 0) dX12_partsOf_83 (by decide) ?_
    refine q_istore (i := 7) (L' := [(7, .int 0), (0, .ref 0), (4, .int v4), (5, .int v5), (6, .int v6)]) dX12_partsOf_84 (Nat.le_of_ble_eq_true rfl) rfl ?_
    refine q_iconst (v := 0) dX12_partsOf_86 (by decide) ?_
    refine q_istore (i := 8) (L' := [(8, .int 0), (7, .int 0), (0, .ref 0), (4, .int v4), (5, .int v5), (6, .int v6)]) dX12_partsOf_87 (Nat.le_of_ble_eq_true rfl) rfl ?_
    exact q_sub [2, 3, 4, 5, 1, 0] rfl (aX12_partsOf_l89 N N v4 v5 v6 0 0 σ)
  refine q_aload_n (i := 0) (x := 0) dX12_partsOf_69 rfl 0 rfl ?_
  refine q_getr (t := 9) dX12_partsOf_70 foX12_53 zM_0 rfl ?_
  refine q_iload (i := 7) (x := v7) dX12_partsOf_73 4 rfl ?_
  refine q_iconst (v := 0) dX12_partsOf_75 (by decide) ?_
  refine q_iast dX12_partsOf_76 zM_9 ?_
  refine q_nmM (fun s6 => ?_)
  refine q_iinc (i := 7) (x := v7) (v := (v7 + 1)) (L' := [(7, .int (v7 + 1)), (0, .ref 0), (4, .int v4), (5, .int v5), (6, .int v6)]) dX12_partsOf_77 4 rfl (q_cst v7 (by decide)) (Nat.le_of_ble_eq_true rfl) rfl ?_
  refine q_goto (tgt := 62) dX12_partsOf_80 (by decide) ?_
  exact q_sub [1, 2, 3, 4, 0] rfl (hc62 v4 v5 v6 (v7 + 1) s6)
def fX12_partsOf_l62 (N : Nat) : Nat → Int32 → Int32 → Int32 → Int32 → qMem → Option (Int32 × qMem)
  | 0 => fun _ _ _ _ _ => none
  | n + 1 => fun v4 v5 v6 v7 σ => fX12_partsOf_s62 N (fX12_partsOf_l62 N n) v4 v5 v6 v7 σ
theorem aX12_partsOf_l62 (N : Nat) : ∀ (n : Nat) (v4 : Int32) (v5 : Int32) (v6 : Int32) (v7 : Int32) (σ : qMem), qAt wM mX12_partsOf (ρi) 62 [(0, .ref 0), (4, .int v4), (5, .int v5), (6, .int v6), (7, .int v7)] [] σ (fX12_partsOf_l62 N n v4 v5 v6 v7 σ) := by
  intro n
  induction n with
  | zero => intro v4 v5 v6 v7 σ; exact q_none
  | succ n ih => intro v4 v5 v6 v7 σ; exact aX12_partsOf_s62 N (fX12_partsOf_l62 N n) ih v4 v5 v6 v7 σ

def fX12_partsOf (N : Nat) (p1 : Int32) (p2 : Int32) (p3 : Int32) (σ : qMem) : Option (Int32 × qMem) :=
  ((fX12_fits N σ).bind fun y1 => ((fX12_at N 0 p1 0 y1).bind fun y2 => (if ck (204 + (2 * p3)) 1112 = true then (nmI (y2 + (p2 * (gi y1 2 (204 + (2 * p3)).toNatClampNeg))) fun x3 => ((fX12_at N 0 p1 1 y1).bind fun y4 => (if ck ((204 + (2 * p3)) + 1) 1112 = true then (nmI (y4 + (p2 * (gi y1 2 ((204 + (2 * p3)) + 1).toNatClampNeg))) fun x5 => (fX12_partsOf_l62 N N x3 x5 (p1 + p2) 0 y1)) else none))) else none)))
set_option maxRecDepth 20000 in
set_option maxHeartbeats 4000000 in
theorem aX12_partsOf  (N : Nat) (p1 : Int32) (p2 : Int32) (p3 : Int32)  (σ : qMem) : qAt wM mX12_partsOf (ρi) 0 [(0, .ref 0), (1, .int p1), (2, .int p2), (3, .int p3)] [] σ (fX12_partsOf N p1 p2 p3 σ) := by
  unfold fX12_partsOf
  refine q_aload_n (i := 0) (x := 0) dX12_partsOf_0 rfl 0 rfl ?_
  refine q_cVv mX12_fits [] (st := []) dX12_partsOf_1 (svX12_244) ⟨Nat.le_of_ble_eq_true rfl, Nat.le_of_ble_eq_true rfl⟩ zM_0 rfl rfl rfl (Nat.le_of_ble_eq_true rfl) (kX12_fits N σ) (fun y1 => ?_)
  refine q_aload_n (i := 0) (x := 0) dX12_partsOf_4 rfl 0 rfl ?_
  refine q_iconst (v := 0) dX12_partsOf_5 (by decide) ?_
  refine q_iload_n (i := 1) (x := p1) dX12_partsOf_6 rfl 1 rfl ?_
  refine q_iconst (v := 0) dX12_partsOf_7 (by decide) ?_
  refine q_cVp mX12_at [.int 0, .int p1, .int 0] (st := []) dX12_partsOf_8 (svX12_151) ⟨Nat.le_of_ble_eq_true rfl, Nat.le_of_ble_eq_true rfl⟩ zM_0 rfl rfl rfl (Nat.le_of_ble_eq_true rfl) (kX12_at N 0 p1 0 y1) (fun y2 => ?_)
  refine q_iload_n (i := 2) (x := p2) dX12_partsOf_11 rfl 2 rfl ?_
  refine q_aload_n (i := 0) (x := 0) dX12_partsOf_12 rfl 0 rfl ?_
  refine q_getr (t := 2) dX12_partsOf_13 foX12_20 zM_0 rfl ?_
  refine q_sipush (v := 204) dX12_partsOf_16 (by decide) ?_
  refine q_iconst (v := 2) dX12_partsOf_19 (by decide) ?_
  refine q_iload_n (i := 3) (x := p3) dX12_partsOf_20 rfl 3 rfl ?_
  refine q_imul dX12_partsOf_21 ?_
  refine q_iadd dX12_partsOf_22 ?_
  refine q_iald dX12_partsOf_23 zM_2 ?_
  refine q_imul dX12_partsOf_24 ?_
  refine q_iadd dX12_partsOf_25 ?_
  refine q_nmI (fun x3 => ?_)
  refine q_istore (i := 4) (L' := [(4, .int x3), (0, .ref 0), (1, .int p1), (2, .int p2), (3, .int p3)]) dX12_partsOf_26 (Nat.le_of_ble_eq_true rfl) rfl ?_
  refine q_aload_n (i := 0) (x := 0) dX12_partsOf_28 rfl 1 rfl ?_
  refine q_iconst (v := 0) dX12_partsOf_29 (by decide) ?_
  refine q_iload_n (i := 1) (x := p1) dX12_partsOf_30 rfl 2 rfl ?_
  refine q_iconst (v := 1) dX12_partsOf_31 (by decide) ?_
  refine q_cVp mX12_at [.int 0, .int p1, .int 1] (st := []) dX12_partsOf_32 (svX12_151) ⟨Nat.le_of_ble_eq_true rfl, Nat.le_of_ble_eq_true rfl⟩ zM_0 rfl rfl rfl (Nat.le_of_ble_eq_true rfl) (kX12_at N 0 p1 1 y1) (fun y4 => ?_)
  refine q_iload_n (i := 2) (x := p2) dX12_partsOf_35 rfl 3 rfl ?_
  refine q_aload_n (i := 0) (x := 0) dX12_partsOf_36 rfl 1 rfl ?_
  refine q_getr (t := 2) dX12_partsOf_37 foX12_20 zM_0 rfl ?_
  refine q_sipush (v := 204) dX12_partsOf_40 (by decide) ?_
  refine q_iconst (v := 2) dX12_partsOf_43 (by decide) ?_
  refine q_iload_n (i := 3) (x := p3) dX12_partsOf_44 rfl 4 rfl ?_
  refine q_imul dX12_partsOf_45 ?_
  refine q_iadd dX12_partsOf_46 ?_
  refine q_iconst (v := 1) dX12_partsOf_47 (by decide) ?_
  refine q_iadd dX12_partsOf_48 ?_
  refine q_iald dX12_partsOf_49 zM_2 ?_
  refine q_imul dX12_partsOf_50 ?_
  refine q_iadd dX12_partsOf_51 ?_
  refine q_nmI (fun x5 => ?_)
  refine q_istore (i := 5) (L' := [(5, .int x5), (4, .int x3), (0, .ref 0), (1, .int p1), (2, .int p2), (3, .int p3)]) dX12_partsOf_52 (Nat.le_of_ble_eq_true rfl) rfl ?_
  refine q_iload_n (i := 1) (x := p1) dX12_partsOf_54 rfl 3 rfl ?_
  refine q_iload_n (i := 2) (x := p2) dX12_partsOf_55 rfl 4 rfl ?_
  refine q_iadd dX12_partsOf_56 ?_
  refine q_istore (i := 6) (L' := [(6, .int (p1 + p2)), (5, .int x5), (4, .int x3), (0, .ref 0), (1, .int p1), (2, .int p2), (3, .int p3)]) dX12_partsOf_57 (Nat.le_of_ble_eq_true rfl) rfl ?_
  refine q_iconst (v := 0) dX12_partsOf_59 (by decide) ?_
  refine q_istore (i := 7) (L' := [(7, .int 0), (6, .int (p1 + p2)), (5, .int x5), (4, .int x3), (0, .ref 0), (1, .int p1), (2, .int p2), (3, .int p3)]) dX12_partsOf_60 (Nat.le_of_ble_eq_true rfl) rfl ?_
  exact q_sub [4, 3, 2, 1, 0] rfl (aX12_partsOf_l62 N N x3 x5 (p1 + p2) 0 y1)
theorem kX12_partsOf  (N : Nat) (p1 : Int32) (p2 : Int32) (p3 : Int32)  (σ : qMem) : qMc wM mX12_partsOf (ρi) [.ref 0, .int p1, .int p2, .int p3] σ (fX12_partsOf N p1 p2 p3 σ) := qMc_of (moX12_partsOf) (Nat.le_of_ble_eq_true rfl) (aX12_partsOf N p1 p2 p3  σ)

theorem dX12_isAhead_0 : decode cX12_isAhead 0 = .ok (.iload_n 0, 1) := by decide +kernel
theorem dX12_isAhead_1 : decode cX12_isAhead 1 = .ok (.invokestatic 132, 3) := by decide +kernel
theorem dX12_isAhead_4 : decode cX12_isAhead 4 = .ok (.ifCond .eq 26, 3) := by decide +kernel
theorem dX12_isAhead_7 : decode cX12_isAhead 7 = .ok (.iload_n 1, 1) := by decide +kernel
theorem dX12_isAhead_8 : decode cX12_isAhead 8 = .ok (.iconst 1, 1) := by decide +kernel
theorem dX12_isAhead_9 : decode cX12_isAhead 9 = .ok (.bipush 9, 2) := by decide +kernel
theorem dX12_isAhead_11 : decode cX12_isAhead 11 = .ok (.invokestatic 110, 3) := by decide +kernel
theorem dX12_isAhead_14 : decode cX12_isAhead 14 = .ok (.ifCond .eq 16, 3) := by decide +kernel
theorem dX12_isAhead_17 : decode cX12_isAhead 17 = .ok (.iload_n 0, 1) := by decide +kernel
theorem dX12_isAhead_18 : decode cX12_isAhead 18 = .ok (.iload_n 1, 1) := by decide +kernel
theorem dX12_isAhead_19 : decode cX12_isAhead 19 = .ok (.iadd, 1) := by decide +kernel
theorem dX12_isAhead_20 : decode cX12_isAhead 20 = .ok (.invokestatic 132, 3) := by decide +kernel
theorem dX12_isAhead_23 : decode cX12_isAhead 23 = .ok (.ifCond .eq 7, 3) := by decide +kernel
theorem dX12_isAhead_26 : decode cX12_isAhead 26 = .ok (.iconst 1, 1) := by decide +kernel
theorem dX12_isAhead_27 : decode cX12_isAhead 27 = .ok (.goto 4, 3) := by decide +kernel
theorem dX12_isAhead_30 : decode cX12_isAhead 30 = .ok (.iconst 0, 1) := by decide +kernel
theorem dX12_isAhead_31 : decode cX12_isAhead 31 = .ok (.ireturn, 1) := by decide +kernel
def fX12_isAhead_b30  : Option Int32 :=
  (some 0)
set_option maxRecDepth 20000 in
set_option maxHeartbeats 4000000 in
theorem aX12_isAhead_b30 (σ : qMem) : qAt wM mX12_isAhead (ρp σ) 30 [] [] σ (fX12_isAhead_b30) := by
  unfold fX12_isAhead_b30
  refine q_iconst (v := 0) dX12_isAhead_30 (by decide) ?_
  exact q_iretz (y := 0) dX12_isAhead_31 rfl rfl rfl

def fX12_isAhead (p0 : Int32) (p1 : Int32) : Option Int32 :=
  ((fX12_isBell p0).bind fun y1 => (if y1 = 0 then (fX12_isAhead_b30 ) else ((fX12_in p1 1 9).bind fun y2 => (if y2 = 0 then (fX12_isAhead_b30 ) else ((fX12_isBell (p0 + p1)).bind fun y3 => (if y3 = 0 then (fX12_isAhead_b30 ) else (some 1)))))))
set_option maxRecDepth 20000 in
set_option maxHeartbeats 4000000 in
theorem aX12_isAhead  (p0 : Int32) (p1 : Int32)  (σ : qMem) : qAt wM mX12_isAhead (ρp σ) 0 [(0, .int p0), (1, .int p1)] [] σ (fX12_isAhead p0 p1) := by
  unfold fX12_isAhead
  refine q_iload_n (i := 0) (x := p0) dX12_isAhead_0 rfl 0 rfl ?_
  refine q_cSp mX12_isBell [.int p0] (st := []) dX12_isAhead_1 (ssX12_132) ⟨Nat.le_of_ble_eq_true rfl, Nat.le_of_ble_eq_true rfl⟩ rfl rfl (Nat.le_of_ble_eq_true rfl) (kX12_isBell p0 σ) (fun y1 => ?_)
  refine q_if_eq (tgt := 30) dX12_isAhead_4 (by decide) ?_ ?_
  · exact q_sub [] rfl (aX12_isAhead_b30 σ)
  refine q_iload_n (i := 1) (x := p1) dX12_isAhead_7 rfl 1 rfl ?_
  refine q_iconst (v := 1) dX12_isAhead_8 (by decide) ?_
  refine q_bipush (v := 9) dX12_isAhead_9 (by decide) ?_
  refine q_cSp mX12_in [.int p1, .int 1, .int 9] (st := []) dX12_isAhead_11 (ssX12_110) ⟨Nat.le_of_ble_eq_true rfl, Nat.le_of_ble_eq_true rfl⟩ rfl rfl (Nat.le_of_ble_eq_true rfl) (kX12_in p1 1 9 σ) (fun y2 => ?_)
  refine q_if_eq (tgt := 30) dX12_isAhead_14 (by decide) ?_ ?_
  · exact q_sub [] rfl (aX12_isAhead_b30 σ)
  refine q_iload_n (i := 0) (x := p0) dX12_isAhead_17 rfl 0 rfl ?_
  refine q_iload_n (i := 1) (x := p1) dX12_isAhead_18 rfl 1 rfl ?_
  refine q_iadd dX12_isAhead_19 ?_
  refine q_cSp mX12_isBell [.int (p0 + p1)] (st := []) dX12_isAhead_20 (ssX12_132) ⟨Nat.le_of_ble_eq_true rfl, Nat.le_of_ble_eq_true rfl⟩ rfl rfl (Nat.le_of_ble_eq_true rfl) (kX12_isBell (p0 + p1) σ) (fun y3 => ?_)
  refine q_if_eq (tgt := 30) dX12_isAhead_23 (by decide) ?_ ?_
  · exact q_sub [] rfl (aX12_isAhead_b30 σ)
  refine q_iconst (v := 1) dX12_isAhead_26 (by decide) ?_
  refine q_goto (tgt := 31) dX12_isAhead_27 (by decide) ?_
  exact q_iretz (y := 1) dX12_isAhead_31 rfl rfl rfl
theorem kX12_isAhead  (p0 : Int32) (p1 : Int32)  (σ : qMem) : qMc wM mX12_isAhead (ρp σ) [.int p0, .int p1] σ (fX12_isAhead p0 p1) := qMc_of (moX12_isAhead) (Nat.le_of_ble_eq_true rfl) (aX12_isAhead p0 p1  σ)

theorem dX12_parts_0 : decode cX12_parts 0 = .ok (.iload_n 1, 1) := by decide +kernel
theorem dX12_parts_1 : decode cX12_parts 1 = .ok (.iload_n 2, 1) := by decide +kernel
theorem dX12_parts_2 : decode cX12_parts 2 = .ok (.invokestatic 260, 3) := by decide +kernel
theorem dX12_parts_5 : decode cX12_parts 5 = .ok (.ifCond .eq 31, 3) := by decide +kernel
theorem dX12_parts_8 : decode cX12_parts 8 = .ok (.iload_n 3, 1) := by decide +kernel
theorem dX12_parts_9 : decode cX12_parts 9 = .ok (.iconst 0, 1) := by decide +kernel
theorem dX12_parts_10 : decode cX12_parts 10 = .ok (.aload_n 0, 1) := by decide +kernel
theorem dX12_parts_11 : decode cX12_parts 11 = .ok (.getfield 20, 3) := by decide +kernel
theorem dX12_parts_14 : decode cX12_parts 14 = .ok (.sipush 303, 3) := by decide +kernel
theorem dX12_parts_17 : decode cX12_parts 17 = .ok (.iaload, 1) := by decide +kernel
theorem dX12_parts_18 : decode cX12_parts 18 = .ok (.iconst 1, 1) := by decide +kernel
theorem dX12_parts_19 : decode cX12_parts 19 = .ok (.isub, 1) := by decide +kernel
theorem dX12_parts_20 : decode cX12_parts 20 = .ok (.invokestatic 110, 3) := by decide +kernel
theorem dX12_parts_23 : decode cX12_parts 23 = .ok (.ifCond .eq 13, 3) := by decide +kernel
theorem dX12_parts_26 : decode cX12_parts 26 = .ok (.aload_n 0, 1) := by decide +kernel
theorem dX12_parts_27 : decode cX12_parts 27 = .ok (.iload_n 1, 1) := by decide +kernel
theorem dX12_parts_28 : decode cX12_parts 28 = .ok (.iload_n 2, 1) := by decide +kernel
theorem dX12_parts_29 : decode cX12_parts 29 = .ok (.iload_n 3, 1) := by decide +kernel
theorem dX12_parts_30 : decode cX12_parts 30 = .ok (.invokevirtual 264, 3) := by decide +kernel
theorem dX12_parts_33 : decode cX12_parts 33 = .ok (.goto 4, 3) := by decide +kernel
theorem dX12_parts_36 : decode cX12_parts 36 = .ok (.iconst (-1), 1) := by decide +kernel
theorem dX12_parts_37 : decode cX12_parts 37 = .ok (.ireturn, 1) := by decide +kernel
def fX12_parts_b36 (N : Nat) (σ : qMem) : Option (Int32 × qMem) :=
  (some ((-1), σ))
set_option maxRecDepth 20000 in
set_option maxHeartbeats 4000000 in
theorem aX12_parts_b36 (N : Nat) (σ : qMem) : qAt wM mX12_parts (ρi) 36 [] [] σ (fX12_parts_b36 N σ) := by
  unfold fX12_parts_b36
  refine q_iconst (v := (-1)) dX12_parts_36 (by decide) ?_
  exact q_ireti (y := ((-1), σ)) dX12_parts_37 rfl rfl

def fX12_parts (N : Nat) (p1 : Int32) (p2 : Int32) (p3 : Int32) (σ : qMem) : Option (Int32 × qMem) :=
  ((fX12_isAhead p1 p2).bind fun y1 => (if y1 = 0 then (fX12_parts_b36 N σ) else (if ck 303 1112 = true then ((fX12_in p3 0 ((gi σ 2 (303 : Int32).toNatClampNeg) - 1)).bind fun y2 => (if y2 = 0 then (fX12_parts_b36 N σ) else ((fX12_partsOf N p1 p2 p3 σ).bind fun y3 => (some (y3.1, y3.2))))) else none)))
set_option maxRecDepth 20000 in
set_option maxHeartbeats 4000000 in
theorem aX12_parts  (N : Nat) (p1 : Int32) (p2 : Int32) (p3 : Int32)  (σ : qMem) : qAt wM mX12_parts (ρi) 0 [(0, .ref 0), (1, .int p1), (2, .int p2), (3, .int p3)] [] σ (fX12_parts N p1 p2 p3 σ) := by
  unfold fX12_parts
  refine q_iload_n (i := 1) (x := p1) dX12_parts_0 rfl 1 rfl ?_
  refine q_iload_n (i := 2) (x := p2) dX12_parts_1 rfl 2 rfl ?_
  refine q_cSp mX12_isAhead [.int p1, .int p2] (st := []) dX12_parts_2 (ssX12_260) ⟨Nat.le_of_ble_eq_true rfl, Nat.le_of_ble_eq_true rfl⟩ rfl rfl (Nat.le_of_ble_eq_true rfl) (kX12_isAhead p1 p2 σ) (fun y1 => ?_)
  refine q_if_eq (tgt := 36) dX12_parts_5 (by decide) ?_ ?_
  · exact q_sub [] rfl (aX12_parts_b36 N σ)
  refine q_iload_n (i := 3) (x := p3) dX12_parts_8 rfl 3 rfl ?_
  refine q_iconst (v := 0) dX12_parts_9 (by decide) ?_
  refine q_aload_n (i := 0) (x := 0) dX12_parts_10 rfl 0 rfl ?_
  refine q_getr (t := 2) dX12_parts_11 foX12_20 zM_0 rfl ?_
  refine q_sipush (v := 303) dX12_parts_14 (by decide) ?_
  refine q_iald dX12_parts_17 zM_2 ?_
  refine q_iconst (v := 1) dX12_parts_18 (by decide) ?_
  refine q_isub dX12_parts_19 ?_
  refine q_cSp mX12_in [.int p3, .int 0, .int ((gi σ 2 (303 : Int32).toNatClampNeg) - 1)] (st := []) dX12_parts_20 (ssX12_110) ⟨Nat.le_of_ble_eq_true rfl, Nat.le_of_ble_eq_true rfl⟩ rfl rfl (Nat.le_of_ble_eq_true rfl) (kX12_in p3 0 ((gi σ 2 (303 : Int32).toNatClampNeg) - 1) σ) (fun y2 => ?_)
  refine q_if_eq (tgt := 36) dX12_parts_23 (by decide) ?_ ?_
  · exact q_sub [] rfl (aX12_parts_b36 N σ)
  refine q_aload_n (i := 0) (x := 0) dX12_parts_26 rfl 0 rfl ?_
  refine q_iload_n (i := 1) (x := p1) dX12_parts_27 rfl 1 rfl ?_
  refine q_iload_n (i := 2) (x := p2) dX12_parts_28 rfl 2 rfl ?_
  refine q_iload_n (i := 3) (x := p3) dX12_parts_29 rfl 3 rfl ?_
  refine q_cVi mX12_partsOf [.int p1, .int p2, .int p3] (st := []) dX12_parts_30 (svX12_264) ⟨Nat.le_of_ble_eq_true rfl, Nat.le_of_ble_eq_true rfl⟩ zM_0 rfl rfl rfl (Nat.le_of_ble_eq_true rfl) (kX12_partsOf N p1 p2 p3 σ) (fun y3 => ?_)
  refine q_goto (tgt := 37) dX12_parts_33 (by decide) ?_
  exact q_ireti (y := (y3.1, y3.2)) dX12_parts_37 rfl rfl
theorem kX12_parts  (N : Nat) (p1 : Int32) (p2 : Int32) (p3 : Int32)  (σ : qMem) : qMc wM mX12_parts (ρi) [.ref 0, .int p1, .int p2, .int p3] σ (fX12_parts N p1 p2 p3 σ) := qMc_of (moX12_parts) (Nat.le_of_ble_eq_true rfl) (aX12_parts N p1 p2 p3  σ)

theorem dX12_turn_0 : decode cX12_turn 0 = .ok (.iload_n 1, 1) := by decide +kernel
theorem dX12_turn_1 : decode cX12_turn 1 = .ok (.iload_n 2, 1) := by decide +kernel
theorem dX12_turn_2 : decode cX12_turn 2 = .ok (.invokestatic 260, 3) := by decide +kernel
theorem dX12_turn_5 : decode cX12_turn 5 = .ok (.ifCond .ne 5, 3) := by decide +kernel
theorem dX12_turn_8 : decode cX12_turn 8 = .ok (.iconst (-1), 1) := by decide +kernel
theorem dX12_turn_9 : decode cX12_turn 9 = .ok (.ireturn, 1) := by decide +kernel
theorem dX12_turn_10 : decode cX12_turn 10 = .ok (.iconst (-1), 1) := by decide +kernel
theorem dX12_turn_11 : decode cX12_turn 11 = .ok (.istore_n 3, 1) := by decide +kernel
theorem dX12_turn_12 : decode cX12_turn 12 = .ok (.iconst 0, 1) := by decide +kernel
theorem dX12_turn_13 : decode cX12_turn 13 = .ok (.istore 4, 2) := by decide +kernel
theorem dX12_turn_15 : decode cX12_turn 15 = .ok (.iconst 0, 1) := by decide +kernel
theorem dX12_turn_16 : decode cX12_turn 16 = .ok (.istore 5, 2) := by decide +kernel
theorem dX12_turn_18 : decode cX12_turn 18 = .ok (.iload 5, 2) := by decide +kernel
theorem dX12_turn_20 : decode cX12_turn 20 = .ok (.aload_n 0, 1) := by decide +kernel
theorem dX12_turn_21 : decode cX12_turn 21 = .ok (.getfield 20, 3) := by decide +kernel
theorem dX12_turn_24 : decode cX12_turn 24 = .ok (.sipush 303, 3) := by decide +kernel
theorem dX12_turn_27 : decode cX12_turn 27 = .ok (.iaload, 1) := by decide +kernel
theorem dX12_turn_28 : decode cX12_turn 28 = .ok (.if_icmp .ge 41, 3) := by decide +kernel
theorem dX12_turn_31 : decode cX12_turn 31 = .ok (.aload_n 0, 1) := by decide +kernel
theorem dX12_turn_32 : decode cX12_turn 32 = .ok (.iload_n 1, 1) := by decide +kernel
theorem dX12_turn_33 : decode cX12_turn 33 = .ok (.iload_n 2, 1) := by decide +kernel
theorem dX12_turn_34 : decode cX12_turn 34 = .ok (.iload 5, 2) := by decide +kernel
theorem dX12_turn_36 : decode cX12_turn 36 = .ok (.invokevirtual 264, 3) := by decide +kernel
theorem dX12_turn_39 : decode cX12_turn 39 = .ok (.istore 6, 2) := by decide +kernel
theorem dX12_turn_41 : decode cX12_turn 41 = .ok (.iload_n 3, 1) := by decide +kernel
theorem dX12_turn_42 : decode cX12_turn 42 = .ok (.iconst (-1), 1) := by decide +kernel
theorem dX12_turn_43 : decode cX12_turn 43 = .ok (.if_icmp .eq 13, 3) := by decide +kernel
theorem dX12_turn_46 : decode cX12_turn 46 = .ok (.iload 6, 2) := by decide +kernel
theorem dX12_turn_48 : decode cX12_turn 48 = .ok (.iload 4, 2) := by decide +kernel
theorem dX12_turn_50 : decode cX12_turn 50 = .ok (.if_icmp .lt 6, 3) := by decide +kernel
theorem dX12_turn_53 : decode cX12_turn 53 = .ok (.goto 10, 3) := by decide +kernel
theorem dX12_turn_56 : decode cX12_turn 56 = .ok (.iload 5, 2) := by decide +kernel
theorem dX12_turn_58 : decode cX12_turn 58 = .ok (.istore_n 3, 1) := by decide +kernel
theorem dX12_turn_59 : decode cX12_turn 59 = .ok (.iload 6, 2) := by decide +kernel
theorem dX12_turn_61 : decode cX12_turn 61 = .ok (.istore 4, 2) := by decide +kernel
theorem dX12_turn_63 : decode cX12_turn 63 = .ok (.iinc 5 1, 3) := by decide +kernel
theorem dX12_turn_66 : decode cX12_turn 66 = .ok (.goto (-48), 3) := by decide +kernel
theorem dX12_turn_69 : decode cX12_turn 69 = .ok (.iload_n 3, 1) := by decide +kernel
theorem dX12_turn_70 : decode cX12_turn 70 = .ok (.ireturn, 1) := by decide +kernel
def fX12_turn_b63 (N : Nat) (c18 : Int32 → Int32 → Int32 → Int32 → Int32 → qMem → Option (Int32 × qMem)) (v1 : Int32) (v2 : Int32) (v3 : Int32) (v4 : Int32) (v5 : Int32) (σ : qMem) : Option (Int32 × qMem) :=
  (c18 v1 v2 v3 v4 (v5 + 1) σ)
set_option maxRecDepth 20000 in
set_option maxHeartbeats 4000000 in
theorem aX12_turn_b63 (N : Nat) (c18 : Int32 → Int32 → Int32 → Int32 → Int32 → qMem → Option (Int32 × qMem)) (hc18 : ∀ (v1 : Int32) (v2 : Int32) (v3 : Int32) (v4 : Int32) (v5 : Int32) (σ : qMem), qAt wM mX12_turn (ρi) 18 [(0, .ref 0), (1, .int v1), (2, .int v2), (3, .int v3), (4, .int v4), (5, .int v5)] [] σ (c18 v1 v2 v3 v4 v5 σ)) (v1 : Int32) (v2 : Int32) (v3 : Int32) (v4 : Int32) (v5 : Int32) (σ : qMem) : qAt wM mX12_turn (ρi) 63 [(0, .ref 0), (1, .int v1), (2, .int v2), (3, .int v3), (4, .int v4), (5, .int v5)] [] σ (fX12_turn_b63 N c18 v1 v2 v3 v4 v5 σ) := by
  unfold fX12_turn_b63
  refine q_iinc (i := 5) (x := v5) (v := (v5 + 1)) (L' := [(5, .int (v5 + 1)), (0, .ref 0), (1, .int v1), (2, .int v2), (3, .int v3), (4, .int v4)]) dX12_turn_63 5 rfl (q_cst v5 (by decide)) (Nat.le_of_ble_eq_true rfl) rfl ?_
  refine q_goto (tgt := 18) dX12_turn_66 (by decide) ?_
  exact q_sub [1, 2, 3, 4, 5, 0] rfl (hc18 v1 v2 v3 v4 (v5 + 1) σ)

def fX12_turn_b56 (N : Nat) (c18 : Int32 → Int32 → Int32 → Int32 → Int32 → qMem → Option (Int32 × qMem)) (v1 : Int32) (v2 : Int32) (v5 : Int32) (v6 : Int32) (σ : qMem) : Option (Int32 × qMem) :=
  (fX12_turn_b63 N c18 v1 v2 v5 v6 v5 σ)
set_option maxRecDepth 20000 in
set_option maxHeartbeats 4000000 in
theorem aX12_turn_b56 (N : Nat) (c18 : Int32 → Int32 → Int32 → Int32 → Int32 → qMem → Option (Int32 × qMem)) (hc18 : ∀ (v1 : Int32) (v2 : Int32) (v3 : Int32) (v4 : Int32) (v5 : Int32) (σ : qMem), qAt wM mX12_turn (ρi) 18 [(0, .ref 0), (1, .int v1), (2, .int v2), (3, .int v3), (4, .int v4), (5, .int v5)] [] σ (c18 v1 v2 v3 v4 v5 σ)) (v1 : Int32) (v2 : Int32) (v5 : Int32) (v6 : Int32) (σ : qMem) : qAt wM mX12_turn (ρi) 56 [(0, .ref 0), (1, .int v1), (2, .int v2), (5, .int v5), (6, .int v6)] [] σ (fX12_turn_b56 N c18 v1 v2 v5 v6 σ) := by
  unfold fX12_turn_b56
  refine q_iload (i := 5) (x := v5) dX12_turn_56 3 rfl ?_
  refine q_istore_n (i := 3) (L' := [(3, .int v5), (0, .ref 0), (1, .int v1), (2, .int v2), (5, .int v5), (6, .int v6)]) dX12_turn_58 rfl (Nat.le_of_ble_eq_true rfl) rfl ?_
  refine q_iload (i := 6) (x := v6) dX12_turn_59 5 rfl ?_
  refine q_istore (i := 4) (L' := [(4, .int v6), (3, .int v5), (0, .ref 0), (1, .int v1), (2, .int v2), (5, .int v5), (6, .int v6)]) dX12_turn_61 (Nat.le_of_ble_eq_true rfl) rfl ?_
  exact q_sub [2, 3, 4, 1, 0, 5] rfl (aX12_turn_b63 N c18 hc18 v1 v2 v5 v6 v5 σ)

def fX12_turn_s18 (N : Nat) (c18 : Int32 → Int32 → Int32 → Int32 → Int32 → qMem → Option (Int32 × qMem)) (v1 : Int32) (v2 : Int32) (v3 : Int32) (v4 : Int32) (v5 : Int32) (σ : qMem) : Option (Int32 × qMem) :=
  (if ck 303 1112 = true then (if (gi σ 2 (303 : Int32).toNatClampNeg) ≤ v5 then (some (v3, σ)) else ((fX12_partsOf N v1 v2 v5 σ).bind fun y2 => (if v3 = (-1) then (fX12_turn_b56 N c18 v1 v2 v5 y2.1 y2.2) else (if y2.1 < v4 then (fX12_turn_b56 N c18 v1 v2 v5 y2.1 y2.2) else (fX12_turn_b63 N c18 v1 v2 v3 v4 v5 y2.2))))) else none)
set_option maxRecDepth 20000 in
set_option maxHeartbeats 4000000 in
theorem aX12_turn_s18 (N : Nat) (c18 : Int32 → Int32 → Int32 → Int32 → Int32 → qMem → Option (Int32 × qMem)) (hc18 : ∀ (v1 : Int32) (v2 : Int32) (v3 : Int32) (v4 : Int32) (v5 : Int32) (σ : qMem), qAt wM mX12_turn (ρi) 18 [(0, .ref 0), (1, .int v1), (2, .int v2), (3, .int v3), (4, .int v4), (5, .int v5)] [] σ (c18 v1 v2 v3 v4 v5 σ)) (v1 : Int32) (v2 : Int32) (v3 : Int32) (v4 : Int32) (v5 : Int32) (σ : qMem) : qAt wM mX12_turn (ρi) 18 [(0, .ref 0), (1, .int v1), (2, .int v2), (3, .int v3), (4, .int v4), (5, .int v5)] [] σ (fX12_turn_s18 N c18 v1 v2 v3 v4 v5 σ) := by
  unfold fX12_turn_s18
  refine q_iload (i := 5) (x := v5) dX12_turn_18 5 rfl ?_
  refine q_aload_n (i := 0) (x := 0) dX12_turn_20 rfl 0 rfl ?_
  refine q_getr (t := 2) dX12_turn_21 foX12_20 zM_0 rfl ?_
  refine q_sipush (v := 303) dX12_turn_24 (by decide) ?_
  refine q_iald dX12_turn_27 zM_2 ?_
  refine q_icmp_ge (tgt := 69) dX12_turn_28 (by decide) ?_ ?_
  · refine q_iload_n (i := 3) (x := v3) dX12_turn_69 rfl 3 rfl ?_
    exact q_ireti (y := (v3, σ)) dX12_turn_70 rfl rfl
  refine q_aload_n (i := 0) (x := 0) dX12_turn_31 rfl 0 rfl ?_
  refine q_iload_n (i := 1) (x := v1) dX12_turn_32 rfl 1 rfl ?_
  refine q_iload_n (i := 2) (x := v2) dX12_turn_33 rfl 2 rfl ?_
  refine q_iload (i := 5) (x := v5) dX12_turn_34 5 rfl ?_
  refine q_cVi mX12_partsOf [.int v1, .int v2, .int v5] (st := []) dX12_turn_36 (svX12_264) ⟨Nat.le_of_ble_eq_true rfl, Nat.le_of_ble_eq_true rfl⟩ zM_0 rfl rfl rfl (Nat.le_of_ble_eq_true rfl) (kX12_partsOf N v1 v2 v5 σ) (fun y2 => ?_)
  refine q_istore (i := 6) (L' := [(6, .int y2.1), (0, .ref 0), (1, .int v1), (2, .int v2), (3, .int v3), (4, .int v4), (5, .int v5)]) dX12_turn_39 (Nat.le_of_ble_eq_true rfl) rfl ?_
  refine q_iload_n (i := 3) (x := v3) dX12_turn_41 rfl 4 rfl ?_
  refine q_iconst (v := (-1)) dX12_turn_42 (by decide) ?_
  refine q_icmp_eq (tgt := 56) dX12_turn_43 (by decide) ?_ ?_
  · exact q_sub [1, 2, 3, 6, 0] rfl (aX12_turn_b56 N c18 hc18 v1 v2 v5 y2.1 y2.2)
  refine q_iload (i := 6) (x := y2.1) dX12_turn_46 0 rfl ?_
  refine q_iload (i := 4) (x := v4) dX12_turn_48 5 rfl ?_
  refine q_icmp_lt (tgt := 56) dX12_turn_50 (by decide) ?_ ?_
  · exact q_sub [1, 2, 3, 6, 0] rfl (aX12_turn_b56 N c18 hc18 v1 v2 v5 y2.1 y2.2)
  refine q_goto (tgt := 63) dX12_turn_53 (by decide) ?_
  exact q_sub [1, 2, 3, 4, 5, 6] rfl (aX12_turn_b63 N c18 hc18 v1 v2 v3 v4 v5 y2.2)
def fX12_turn_l18 (N : Nat) : Nat → Int32 → Int32 → Int32 → Int32 → Int32 → qMem → Option (Int32 × qMem)
  | 0 => fun _ _ _ _ _ _ => none
  | n + 1 => fun v1 v2 v3 v4 v5 σ => fX12_turn_s18 N (fX12_turn_l18 N n) v1 v2 v3 v4 v5 σ
theorem aX12_turn_l18 (N : Nat) : ∀ (n : Nat) (v1 : Int32) (v2 : Int32) (v3 : Int32) (v4 : Int32) (v5 : Int32) (σ : qMem), qAt wM mX12_turn (ρi) 18 [(0, .ref 0), (1, .int v1), (2, .int v2), (3, .int v3), (4, .int v4), (5, .int v5)] [] σ (fX12_turn_l18 N n v1 v2 v3 v4 v5 σ) := by
  intro n
  induction n with
  | zero => intro v1 v2 v3 v4 v5 σ; exact q_none
  | succ n ih => intro v1 v2 v3 v4 v5 σ; exact aX12_turn_s18 N (fX12_turn_l18 N n) ih v1 v2 v3 v4 v5 σ

def fX12_turn (N : Nat) (p1 : Int32) (p2 : Int32) (σ : qMem) : Option (Int32 × qMem) :=
  ((fX12_isAhead p1 p2).bind fun y1 => (if y1 = 0 then (some ((-1), σ)) else (fX12_turn_l18 N N p1 p2 (-1) 0 0 σ)))
set_option maxRecDepth 20000 in
set_option maxHeartbeats 4000000 in
theorem aX12_turn  (N : Nat) (p1 : Int32) (p2 : Int32)  (σ : qMem) : qAt wM mX12_turn (ρi) 0 [(0, .ref 0), (1, .int p1), (2, .int p2)] [] σ (fX12_turn N p1 p2 σ) := by
  unfold fX12_turn
  refine q_iload_n (i := 1) (x := p1) dX12_turn_0 rfl 1 rfl ?_
  refine q_iload_n (i := 2) (x := p2) dX12_turn_1 rfl 2 rfl ?_
  refine q_cSp mX12_isAhead [.int p1, .int p2] (st := []) dX12_turn_2 (ssX12_260) ⟨Nat.le_of_ble_eq_true rfl, Nat.le_of_ble_eq_true rfl⟩ rfl rfl (Nat.le_of_ble_eq_true rfl) (kX12_isAhead p1 p2 σ) (fun y1 => ?_)
  refine q_if_ne (tgt := 10) dX12_turn_5 (by decide) ?_ ?_
  · refine q_iconst (v := (-1)) dX12_turn_10 (by decide) ?_
    refine q_istore_n (i := 3) (L' := [(3, .int (-1)), (0, .ref 0), (1, .int p1), (2, .int p2)]) dX12_turn_11 rfl (Nat.le_of_ble_eq_true rfl) rfl ?_
    refine q_iconst (v := 0) dX12_turn_12 (by decide) ?_
    refine q_istore (i := 4) (L' := [(4, .int 0), (3, .int (-1)), (0, .ref 0), (1, .int p1), (2, .int p2)]) dX12_turn_13 (Nat.le_of_ble_eq_true rfl) rfl ?_
    refine q_iconst (v := 0) dX12_turn_15 (by decide) ?_
    refine q_istore (i := 5) (L' := [(5, .int 0), (4, .int 0), (3, .int (-1)), (0, .ref 0), (1, .int p1), (2, .int p2)]) dX12_turn_16 (Nat.le_of_ble_eq_true rfl) rfl ?_
    exact q_sub [3, 4, 5, 2, 1, 0] rfl (aX12_turn_l18 N N p1 p2 (-1) 0 0 σ)
  refine q_iconst (v := (-1)) dX12_turn_8 (by decide) ?_
  exact q_ireti (y := ((-1), σ)) dX12_turn_9 rfl rfl
theorem kX12_turn  (N : Nat) (p1 : Int32) (p2 : Int32)  (σ : qMem) : qMc wM mX12_turn (ρi) [.ref 0, .int p1, .int p2] σ (fX12_turn N p1 p2 σ) := qMc_of (moX12_turn) (Nat.le_of_ble_eq_true rfl) (aX12_turn N p1 p2  σ)

theorem dX12_asksBoat_0 : decode cX12_asksBoat 0 = .ok (.aload_n 0, 1) := by decide +kernel
theorem dX12_asksBoat_1 : decode cX12_asksBoat 1 = .ok (.getfield 98, 3) := by decide +kernel
theorem dX12_asksBoat_4 : decode cX12_asksBoat 4 = .ok (.iconst 0, 1) := by decide +kernel
theorem dX12_asksBoat_5 : decode cX12_asksBoat 5 = .ok (.iload_n 3, 1) := by decide +kernel
theorem dX12_asksBoat_6 : decode cX12_asksBoat 6 = .ok (.iastore, 1) := by decide +kernel
theorem dX12_asksBoat_7 : decode cX12_asksBoat 7 = .ok (.aload_n 0, 1) := by decide +kernel
theorem dX12_asksBoat_8 : decode cX12_asksBoat 8 = .ok (.getfield 98, 3) := by decide +kernel
theorem dX12_asksBoat_11 : decode cX12_asksBoat 11 = .ok (.iconst 1, 1) := by decide +kernel
theorem dX12_asksBoat_12 : decode cX12_asksBoat 12 = .ok (.aload_n 0, 1) := by decide +kernel
theorem dX12_asksBoat_13 : decode cX12_asksBoat 13 = .ok (.iload_n 1, 1) := by decide +kernel
theorem dX12_asksBoat_14 : decode cX12_asksBoat 14 = .ok (.iconst 2, 1) := by decide +kernel
theorem dX12_asksBoat_15 : decode cX12_asksBoat 15 = .ok (.invokevirtual 121, 3) := by decide +kernel
theorem dX12_asksBoat_18 : decode cX12_asksBoat 18 = .ok (.iastore, 1) := by decide +kernel
theorem dX12_asksBoat_19 : decode cX12_asksBoat 19 = .ok (.aload_n 0, 1) := by decide +kernel
theorem dX12_asksBoat_20 : decode cX12_asksBoat 20 = .ok (.getfield 98, 3) := by decide +kernel
theorem dX12_asksBoat_23 : decode cX12_asksBoat 23 = .ok (.iconst 3, 1) := by decide +kernel
theorem dX12_asksBoat_24 : decode cX12_asksBoat 24 = .ok (.iload_n 2, 1) := by decide +kernel
theorem dX12_asksBoat_25 : decode cX12_asksBoat 25 = .ok (.iastore, 1) := by decide +kernel
theorem dX12_asksBoat_26 : decode cX12_asksBoat 26 = .ok (.aload_n 0, 1) := by decide +kernel
theorem dX12_asksBoat_27 : decode cX12_asksBoat 27 = .ok (.getfield 98, 3) := by decide +kernel
theorem dX12_asksBoat_30 : decode cX12_asksBoat 30 = .ok (.iconst 4, 1) := by decide +kernel
theorem dX12_asksBoat_31 : decode cX12_asksBoat 31 = .ok (.iload_n 1, 1) := by decide +kernel
theorem dX12_asksBoat_32 : decode cX12_asksBoat 32 = .ok (.iastore, 1) := by decide +kernel
theorem dX12_asksBoat_33 : decode cX12_asksBoat 33 = .ok (.return_, 1) := by decide +kernel

def fX12_asksBoat (p1 : Int32) (p2 : Int32) (p3 : Int32) (σ : qMem) : Option qMem :=
  (if ck 0 5 = true then (nmM (si σ 23 (0 : Int32).toNatClampNeg p3) fun s1 => ((fX12_boatOf p1 2 s1).bind fun y2 => (if ck 1 5 = true then (nmM (si s1 23 (1 : Int32).toNatClampNeg y2) fun s3 => (if ck 3 5 = true then (nmM (si s3 23 (3 : Int32).toNatClampNeg p2) fun s4 => (if ck 4 5 = true then (nmM (si s4 23 (4 : Int32).toNatClampNeg p1) fun s5 => (some s5)) else none)) else none)) else none))) else none)
set_option maxRecDepth 20000 in
set_option maxHeartbeats 4000000 in
theorem aX12_asksBoat  (p1 : Int32) (p2 : Int32) (p3 : Int32)  (σ : qMem) : qAt wM mX12_asksBoat (ρv) 0 [(0, .ref 0), (1, .int p1), (2, .int p2), (3, .int p3)] [] σ (fX12_asksBoat p1 p2 p3 σ) := by
  unfold fX12_asksBoat
  refine q_aload_n (i := 0) (x := 0) dX12_asksBoat_0 rfl 0 rfl ?_
  refine q_getr (t := 23) dX12_asksBoat_1 foX12_98 zM_0 rfl ?_
  refine q_iconst (v := 0) dX12_asksBoat_4 (by decide) ?_
  refine q_iload_n (i := 3) (x := p3) dX12_asksBoat_5 rfl 3 rfl ?_
  refine q_iast dX12_asksBoat_6 zM_23 ?_
  refine q_nmM (fun s1 => ?_)
  refine q_aload_n (i := 0) (x := 0) dX12_asksBoat_7 rfl 0 rfl ?_
  refine q_getr (t := 23) dX12_asksBoat_8 foX12_98 zM_0 rfl ?_
  refine q_iconst (v := 1) dX12_asksBoat_11 (by decide) ?_
  refine q_aload_n (i := 0) (x := 0) dX12_asksBoat_12 rfl 0 rfl ?_
  refine q_iload_n (i := 1) (x := p1) dX12_asksBoat_13 rfl 1 rfl ?_
  refine q_iconst (v := 2) dX12_asksBoat_14 (by decide) ?_
  refine q_cVp mX12_boatOf [.int p1, .int 2] (st := [.int 1, .ref 23]) dX12_asksBoat_15 (svX12_121) ⟨Nat.le_of_ble_eq_true rfl, Nat.le_of_ble_eq_true rfl⟩ zM_0 rfl rfl rfl (Nat.le_of_ble_eq_true rfl) (kX12_boatOf p1 2 s1) (fun y2 => ?_)
  refine q_iast dX12_asksBoat_18 zM_23 ?_
  refine q_nmM (fun s3 => ?_)
  refine q_aload_n (i := 0) (x := 0) dX12_asksBoat_19 rfl 0 rfl ?_
  refine q_getr (t := 23) dX12_asksBoat_20 foX12_98 zM_0 rfl ?_
  refine q_iconst (v := 3) dX12_asksBoat_23 (by decide) ?_
  refine q_iload_n (i := 2) (x := p2) dX12_asksBoat_24 rfl 2 rfl ?_
  refine q_iast dX12_asksBoat_25 zM_23 ?_
  refine q_nmM (fun s4 => ?_)
  refine q_aload_n (i := 0) (x := 0) dX12_asksBoat_26 rfl 0 rfl ?_
  refine q_getr (t := 23) dX12_asksBoat_27 foX12_98 zM_0 rfl ?_
  refine q_iconst (v := 4) dX12_asksBoat_30 (by decide) ?_
  refine q_iload_n (i := 1) (x := p1) dX12_asksBoat_31 rfl 1 rfl ?_
  refine q_iast dX12_asksBoat_32 zM_23 ?_
  refine q_nmM (fun s5 => ?_)
  exact q_vret (y := s5) dX12_asksBoat_33 rfl rfl
theorem kX12_asksBoat  (p1 : Int32) (p2 : Int32) (p3 : Int32)  (σ : qMem) : qMc wM mX12_asksBoat (ρv) [.ref 0, .int p1, .int p2, .int p3] σ (fX12_asksBoat p1 p2 p3 σ) := qMc_of (moX12_asksBoat) (Nat.le_of_ble_eq_true rfl) (aX12_asksBoat p1 p2 p3  σ)

theorem dX12_codeAt_0 : decode cX12_codeAt 0 = .ok (.iload_n 1, 1) := by decide +kernel
theorem dX12_codeAt_1 : decode cX12_codeAt 1 = .ok (.aload_n 0, 1) := by decide +kernel
theorem dX12_codeAt_2 : decode cX12_codeAt 2 = .ok (.getfield 381, 3) := by decide +kernel
theorem dX12_codeAt_5 : decode cX12_codeAt 5 = .ok (.if_icmp .ge 16, 3) := by decide +kernel
theorem dX12_codeAt_8 : decode cX12_codeAt 8 = .ok (.aload_n 0, 1) := by decide +kernel
theorem dX12_codeAt_9 : decode cX12_codeAt 9 = .ok (.getfield 20, 3) := by decide +kernel
theorem dX12_codeAt_12 : decode cX12_codeAt 12 = .ok (.sipush 312, 3) := by decide +kernel
theorem dX12_codeAt_15 : decode cX12_codeAt 15 = .ok (.iload_n 1, 1) := by decide +kernel
theorem dX12_codeAt_16 : decode cX12_codeAt 16 = .ok (.iadd, 1) := by decide +kernel
theorem dX12_codeAt_17 : decode cX12_codeAt 17 = .ok (.iaload, 1) := by decide +kernel
theorem dX12_codeAt_18 : decode cX12_codeAt 18 = .ok (.goto 4, 3) := by decide +kernel
theorem dX12_codeAt_21 : decode cX12_codeAt 21 = .ok (.iconst 0, 1) := by decide +kernel
theorem dX12_codeAt_22 : decode cX12_codeAt 22 = .ok (.ireturn, 1) := by decide +kernel

def fX12_codeAt (p1 : Int32) (σ : qMem) : Option Int32 :=
  (if (gi σ 0 38) ≤ p1 then (some 0) else (if ck (312 + p1) 1112 = true then (some (gi σ 2 (312 + p1).toNatClampNeg)) else none))
set_option maxRecDepth 20000 in
set_option maxHeartbeats 4000000 in
theorem aX12_codeAt  (p1 : Int32)  (σ : qMem) : qAt wM mX12_codeAt (ρp σ) 0 [(0, .ref 0), (1, .int p1)] [] σ (fX12_codeAt p1 σ) := by
  unfold fX12_codeAt
  refine q_iload_n (i := 1) (x := p1) dX12_codeAt_0 rfl 1 rfl ?_
  refine q_aload_n (i := 0) (x := 0) dX12_codeAt_1 rfl 0 rfl ?_
  refine q_geti dX12_codeAt_2 foX12_381 zM_0 rfl ?_
  refine q_icmp_ge (tgt := 21) dX12_codeAt_5 (by decide) ?_ ?_
  · refine q_iconst (v := 0) dX12_codeAt_21 (by decide) ?_
    exact q_ireti (y := 0) dX12_codeAt_22 rfl rfl
  refine q_aload_n (i := 0) (x := 0) dX12_codeAt_8 rfl 0 rfl ?_
  refine q_getr (t := 2) dX12_codeAt_9 foX12_20 zM_0 rfl ?_
  refine q_sipush (v := 312) dX12_codeAt_12 (by decide) ?_
  refine q_iload_n (i := 1) (x := p1) dX12_codeAt_15 rfl 1 rfl ?_
  refine q_iadd dX12_codeAt_16 ?_
  refine q_iald dX12_codeAt_17 zM_2 ?_
  refine q_goto (tgt := 22) dX12_codeAt_18 (by decide) ?_
  exact q_ireti (y := (gi σ 2 (312 + p1).toNatClampNeg)) dX12_codeAt_22 rfl rfl
theorem kX12_codeAt  (p1 : Int32)  (σ : qMem) : qMc wM mX12_codeAt (ρp σ) [.ref 0, .int p1] σ (fX12_codeAt p1 σ) := qMc_of (moX12_codeAt) (Nat.le_of_ble_eq_true rfl) (aX12_codeAt p1  σ)

theorem dX12_passes_0 : decode cX12_passes 0 = .ok (.aload_n 0, 1) := by decide +kernel
theorem dX12_passes_1 : decode cX12_passes 1 = .ok (.aload_n 0, 1) := by decide +kernel
theorem dX12_passes_2 : decode cX12_passes 2 = .ok (.getfield 384, 3) := by decide +kernel
theorem dX12_passes_5 : decode cX12_passes 5 = .ok (.invokevirtual 387, 3) := by decide +kernel
theorem dX12_passes_8 : decode cX12_passes 8 = .ok (.iload_n 1, 1) := by decide +kernel
theorem dX12_passes_9 : decode cX12_passes 9 = .ok (.if_icmp .ne 7, 3) := by decide +kernel
theorem dX12_passes_12 : decode cX12_passes 12 = .ok (.iconst 1, 1) := by decide +kernel
theorem dX12_passes_13 : decode cX12_passes 13 = .ok (.goto 4, 3) := by decide +kernel
theorem dX12_passes_16 : decode cX12_passes 16 = .ok (.iconst 0, 1) := by decide +kernel
theorem dX12_passes_17 : decode cX12_passes 17 = .ok (.istore_n 2, 1) := by decide +kernel
theorem dX12_passes_18 : decode cX12_passes 18 = .ok (.iload_n 2, 1) := by decide +kernel
theorem dX12_passes_19 : decode cX12_passes 19 = .ok (.ifCond .eq 13, 3) := by decide +kernel
theorem dX12_passes_22 : decode cX12_passes 22 = .ok (.aload_n 0, 1) := by decide +kernel
theorem dX12_passes_23 : decode cX12_passes 23 = .ok (.dup, 1) := by decide +kernel
theorem dX12_passes_24 : decode cX12_passes 24 = .ok (.getfield 384, 3) := by decide +kernel
theorem dX12_passes_27 : decode cX12_passes 27 = .ok (.iconst 1, 1) := by decide +kernel
theorem dX12_passes_28 : decode cX12_passes 28 = .ok (.iadd, 1) := by decide +kernel
theorem dX12_passes_29 : decode cX12_passes 29 = .ok (.putfield 384, 3) := by decide +kernel
theorem dX12_passes_32 : decode cX12_passes 32 = .ok (.iload_n 2, 1) := by decide +kernel
theorem dX12_passes_33 : decode cX12_passes 33 = .ok (.ireturn, 1) := by decide +kernel
def fX12_passes_b17 (u0 : Int32) (σ : qMem) : Option (Int32 × qMem) :=
  (if u0 = 0 then (if u0 = 0 ∨ u0 = 1 then some (u0, σ) else none) else (nmM (si σ 0 37 ((gi σ 0 37) + 1)) fun s2 => (if u0 = 0 ∨ u0 = 1 then some (u0, s2) else none)))
set_option maxRecDepth 20000 in
set_option maxHeartbeats 4000000 in
theorem aX12_passes_b17 (u0 : Int32) (σ : qMem) : qAt wM mX12_passes (ρi) 17 [(0, .ref 0)] [.int u0] σ (fX12_passes_b17 u0 σ) := by
  unfold fX12_passes_b17
  refine q_istore_n (i := 2) (L' := [(2, .int u0), (0, .ref 0)]) dX12_passes_17 rfl (Nat.le_of_ble_eq_true rfl) rfl ?_
  refine q_iload_n (i := 2) (x := u0) dX12_passes_18 rfl 0 rfl ?_
  refine q_if_eq (tgt := 32) dX12_passes_19 (by decide) ?_ ?_
  · refine q_iload_n (i := 2) (x := u0) dX12_passes_32 rfl 0 rfl ?_
    exact q_if (fun hz => q_iretz (y := (u0, σ)) dX12_passes_33 rfl (nb_ok hz) rfl)
  refine q_aload_n (i := 0) (x := 0) dX12_passes_22 rfl 1 rfl ?_
  refine q_dup dX12_passes_23 rfl ?_
  refine q_geti dX12_passes_24 foX12_384 zM_0 rfl ?_
  refine q_iconst (v := 1) dX12_passes_27 (by decide) ?_
  refine q_iadd dX12_passes_28 ?_
  refine q_puti dX12_passes_29 foX12_384 fwX12_37 zM_0 rfl ?_
  refine q_nmM (fun s2 => ?_)
  refine q_iload_n (i := 2) (x := u0) dX12_passes_32 rfl 0 rfl ?_
  exact q_if (fun hz => q_iretz (y := (u0, s2)) dX12_passes_33 rfl (nb_ok hz) rfl)

def fX12_passes (p1 : Int32) (σ : qMem) : Option (Int32 × qMem) :=
  ((fX12_codeAt (gi σ 0 37) σ).bind fun y1 => (if y1 = p1 then (fX12_passes_b17 1 σ) else (fX12_passes_b17 0 σ)))
set_option maxRecDepth 20000 in
set_option maxHeartbeats 4000000 in
theorem aX12_passes  (p1 : Int32)  (σ : qMem) : qAt wM mX12_passes (ρi) 0 [(0, .ref 0), (1, .int p1)] [] σ (fX12_passes p1 σ) := by
  unfold fX12_passes
  refine q_aload_n (i := 0) (x := 0) dX12_passes_0 rfl 0 rfl ?_
  refine q_aload_n (i := 0) (x := 0) dX12_passes_1 rfl 0 rfl ?_
  refine q_geti dX12_passes_2 foX12_384 zM_0 rfl ?_
  refine q_cVp mX12_codeAt [.int (gi σ 0 37)] (st := []) dX12_passes_5 (svX12_387) ⟨Nat.le_of_ble_eq_true rfl, Nat.le_of_ble_eq_true rfl⟩ zM_0 rfl rfl rfl (Nat.le_of_ble_eq_true rfl) (kX12_codeAt (gi σ 0 37) σ) (fun y1 => ?_)
  refine q_iload_n (i := 1) (x := p1) dX12_passes_8 rfl 1 rfl ?_
  refine q_icmp_ne (tgt := 16) dX12_passes_9 (by decide) ?_ ?_
  · refine q_iconst (v := 0) dX12_passes_16 (by decide) ?_
    exact q_sub [0] rfl (aX12_passes_b17 0 σ)
  refine q_iconst (v := 1) dX12_passes_12 (by decide) ?_
  refine q_goto (tgt := 17) dX12_passes_13 (by decide) ?_
  exact q_sub [0] rfl (aX12_passes_b17 1 σ)
theorem kX12_passes  (p1 : Int32)  (σ : qMem) : qMc wM mX12_passes (ρi) [.ref 0, .int p1] σ (fX12_passes p1 σ) := qMc_of (moX12_passes) (Nat.le_of_ble_eq_true rfl) (aX12_passes p1  σ)

theorem dX12_bounded_0 : decode cX12_bounded 0 = .ok (.iload_n 3, 1) := by decide +kernel
theorem dX12_bounded_1 : decode cX12_bounded 1 = .ok (.ifCond .eq 24, 3) := by decide +kernel
theorem dX12_bounded_4 : decode cX12_bounded 4 = .ok (.lload_n 1, 1) := by decide +kernel
theorem dX12_bounded_5 : decode cX12_bounded 5 = .ok (.ldc2_w 390, 3) := by decide +kernel
theorem dX12_bounded_8 : decode cX12_bounded 8 = .ok (.lcmp, 1) := by decide +kernel
theorem dX12_bounded_9 : decode cX12_bounded 9 = .ok (.ifCond .gt 11, 3) := by decide +kernel
theorem dX12_bounded_12 : decode cX12_bounded 12 = .ok (.lload_n 1, 1) := by decide +kernel
theorem dX12_bounded_13 : decode cX12_bounded 13 = .ok (.ldc2_w 392, 3) := by decide +kernel
theorem dX12_bounded_16 : decode cX12_bounded 16 = .ok (.lcmp, 1) := by decide +kernel
theorem dX12_bounded_17 : decode cX12_bounded 17 = .ok (.ifCond .ge 8, 3) := by decide +kernel
theorem dX12_bounded_20 : decode cX12_bounded 20 = .ok (.aload_n 0, 1) := by decide +kernel
theorem dX12_bounded_21 : decode cX12_bounded 21 = .ok (.iconst 1, 1) := by decide +kernel
theorem dX12_bounded_22 : decode cX12_bounded 22 = .ok (.putfield 394, 3) := by decide +kernel
theorem dX12_bounded_25 : decode cX12_bounded 25 = .ok (.aload_n 0, 1) := by decide +kernel
theorem dX12_bounded_26 : decode cX12_bounded 26 = .ok (.getfield 394, 3) := by decide +kernel
theorem dX12_bounded_29 : decode cX12_bounded 29 = .ok (.ifCond .eq 7, 3) := by decide +kernel
theorem dX12_bounded_32 : decode cX12_bounded 32 = .ok (.lconst 0, 1) := by decide +kernel
theorem dX12_bounded_33 : decode cX12_bounded 33 = .ok (.goto 4, 3) := by decide +kernel
theorem dX12_bounded_36 : decode cX12_bounded 36 = .ok (.lload_n 1, 1) := by decide +kernel
theorem dX12_bounded_37 : decode cX12_bounded 37 = .ok (.lreturn, 1) := by decide +kernel
def fX12_bounded_b25 (v1 : Int64) (σ : qMem) : Option (Int64 × qMem) :=
  (if (gi σ 0 39) = 0 then (some (v1, σ)) else (some (0, σ)))
set_option maxRecDepth 20000 in
set_option maxHeartbeats 4000000 in
theorem aX12_bounded_b25 (v1 : Int64) (σ : qMem) : qAt wM mX12_bounded (ρl) 25 [(0, .ref 0), (1, .long v1)] [] σ (fX12_bounded_b25 v1 σ) := by
  unfold fX12_bounded_b25
  refine q_aload_n (i := 0) (x := 0) dX12_bounded_25 rfl 0 rfl ?_
  refine q_geti dX12_bounded_26 foX12_394 zM_0 rfl ?_
  refine q_if_eq (tgt := 36) dX12_bounded_29 (by decide) ?_ ?_
  · refine q_lload_n (i := 1) (x := v1) dX12_bounded_36 rfl 1 rfl ?_
    exact q_lret (y := (v1, σ)) dX12_bounded_37 rfl rfl
  refine q_lconst (v := 0) dX12_bounded_32 (by decide) ?_
  refine q_goto (tgt := 37) dX12_bounded_33 (by decide) ?_
  exact q_lret (y := (0, σ)) dX12_bounded_37 rfl rfl

def fX12_bounded_b20 (v1 : Int64) (σ : qMem) : Option (Int64 × qMem) :=
  (nmM (si σ 0 39 1) fun s1 => (fX12_bounded_b25 v1 s1))
set_option maxRecDepth 20000 in
set_option maxHeartbeats 4000000 in
theorem aX12_bounded_b20 (v1 : Int64) (σ : qMem) : qAt wM mX12_bounded (ρl) 20 [(0, .ref 0), (1, .long v1)] [] σ (fX12_bounded_b20 v1 σ) := by
  unfold fX12_bounded_b20
  refine q_aload_n (i := 0) (x := 0) dX12_bounded_20 rfl 0 rfl ?_
  refine q_iconst (v := 1) dX12_bounded_21 (by decide) ?_
  refine q_putz dX12_bounded_22 foX12_394 fwX12_39 zM_0 rfl (by decide) ?_
  refine q_nmM (fun s1 => ?_)
  exact q_sub [0, 1] rfl (aX12_bounded_b25 v1 s1)

def fX12_bounded (p1 : Int64) (p3 : Int32) (σ : qMem) : Option (Int64 × qMem) :=
  (if p3 = 0 then (fX12_bounded_b25 p1 σ) else (if 0 < (lg_cmp p1 1000000000) then (fX12_bounded_b20 p1 σ) else (if 0 ≤ (lg_cmp p1 (-1000000000)) then (fX12_bounded_b25 p1 σ) else (fX12_bounded_b20 p1 σ))))
set_option maxRecDepth 20000 in
set_option maxHeartbeats 4000000 in
theorem aX12_bounded  (p1 : Int64) (p3 : Int32)  (σ : qMem) : qAt wM mX12_bounded (ρl) 0 [(0, .ref 0), (1, .long p1), (3, .int p3)] [] σ (fX12_bounded p1 p3 σ) := by
  unfold fX12_bounded
  refine q_iload_n (i := 3) (x := p3) dX12_bounded_0 rfl 2 rfl ?_
  refine q_if_eq (tgt := 25) dX12_bounded_1 (by decide) ?_ ?_
  · exact q_sub [0, 1] rfl (aX12_bounded_b25 p1 σ)
  refine q_lload_n (i := 1) (x := p1) dX12_bounded_4 rfl 1 rfl ?_
  refine q_ldc2_w (v := 1000000000) dX12_bounded_5 (g_8 72 (by decide +kernel) rfl) ?_
  refine q_lcmp dX12_bounded_8 ?_
  refine q_if_gt (tgt := 20) dX12_bounded_9 (by decide) ?_ ?_
  · exact q_sub [0, 1] rfl (aX12_bounded_b20 p1 σ)
  refine q_lload_n (i := 1) (x := p1) dX12_bounded_12 rfl 1 rfl ?_
  refine q_ldc2_w (v := (-1000000000)) dX12_bounded_13 (g_8 73 (by decide +kernel) rfl) ?_
  refine q_lcmp dX12_bounded_16 ?_
  refine q_if_ge (tgt := 25) dX12_bounded_17 (by decide) ?_ ?_
  · exact q_sub [0, 1] rfl (aX12_bounded_b25 p1 σ)
  exact q_sub [0, 1] rfl (aX12_bounded_b20 p1 σ)
theorem kX12_bounded  (p1 : Int64) (p3 : Int32)  (σ : qMem) : qMc wM mX12_bounded (ρl) [.ref 0, .long p1, .int p3] σ (fX12_bounded p1 p3 σ) := qMc_of (moX12_bounded) (Nat.le_of_ble_eq_true rfl) (aX12_bounded p1 p3  σ)

theorem dX12_sign_0 : decode cX12_sign 0 = .ok (.bipush 100, 2) := by decide +kernel
theorem dX12_sign_2 : decode cX12_sign 2 = .ok (.iload_n 0, 1) := by decide +kernel
theorem dX12_sign_3 : decode cX12_sign 3 = .ok (.iadd, 1) := by decide +kernel
theorem dX12_sign_4 : decode cX12_sign 4 = .ok (.ireturn, 1) := by decide +kernel

def fX12_sign (p0 : Int32) : Option Int32 :=
  (some (100 + p0))
set_option maxRecDepth 20000 in
set_option maxHeartbeats 4000000 in
theorem aX12_sign  (p0 : Int32)  (σ : qMem) : qAt wM mX12_sign (ρp σ) 0 [(0, .int p0)] [] σ (fX12_sign p0) := by
  unfold fX12_sign
  refine q_bipush (v := 100) dX12_sign_0 (by decide) ?_
  refine q_iload_n (i := 0) (x := p0) dX12_sign_2 rfl 0 rfl ?_
  refine q_iadd dX12_sign_3 ?_
  exact q_ireti (y := (100 + p0)) dX12_sign_4 rfl rfl
theorem kX12_sign  (p0 : Int32)  (σ : qMem) : qMc wM mX12_sign (ρp σ) [.int p0] σ (fX12_sign p0) := qMc_of (moX12_sign) (Nat.le_of_ble_eq_true rfl) (aX12_sign p0  σ)

theorem dX12_partOf_0 : decode cX12_partOf 0 = .ok (.aload_n 0, 1) := by decide +kernel
theorem dX12_partOf_1 : decode cX12_partOf 1 = .ok (.bipush 91, 2) := by decide +kernel
theorem dX12_partOf_3 : decode cX12_partOf 3 = .ok (.invokestatic 356, 3) := by decide +kernel
theorem dX12_partOf_6 : decode cX12_partOf 6 = .ok (.invokevirtual 409, 3) := by decide +kernel
theorem dX12_partOf_9 : decode cX12_partOf 9 = .ok (.ifCond .eq 21, 3) := by decide +kernel
theorem dX12_partOf_12 : decode cX12_partOf 12 = .ok (.aload_n 0, 1) := by decide +kernel
theorem dX12_partOf_13 : decode cX12_partOf 13 = .ok (.iload_n 1, 1) := by decide +kernel
theorem dX12_partOf_14 : decode cX12_partOf 14 = .ok (.invokevirtual 412, 3) := by decide +kernel
theorem dX12_partOf_17 : decode cX12_partOf 17 = .ok (.lstore_n 2, 1) := by decide +kernel
theorem dX12_partOf_18 : decode cX12_partOf 18 = .ok (.aload_n 0, 1) := by decide +kernel
theorem dX12_partOf_19 : decode cX12_partOf 19 = .ok (.dup, 1) := by decide +kernel
theorem dX12_partOf_20 : decode cX12_partOf 20 = .ok (.getfield 384, 3) := by decide +kernel
theorem dX12_partOf_23 : decode cX12_partOf 23 = .ok (.iconst 1, 1) := by decide +kernel
theorem dX12_partOf_24 : decode cX12_partOf 24 = .ok (.iadd, 1) := by decide +kernel
theorem dX12_partOf_25 : decode cX12_partOf 25 = .ok (.putfield 384, 3) := by decide +kernel
theorem dX12_partOf_28 : decode cX12_partOf 28 = .ok (.lload_n 2, 1) := by decide +kernel
theorem dX12_partOf_29 : decode cX12_partOf 29 = .ok (.lreturn, 1) := by decide +kernel
theorem dX12_partOf_30 : decode cX12_partOf 30 = .ok (.aload_n 0, 1) := by decide +kernel
theorem dX12_partOf_31 : decode cX12_partOf 31 = .ok (.aload_n 0, 1) := by decide +kernel
theorem dX12_partOf_32 : decode cX12_partOf 32 = .ok (.getfield 384, 3) := by decide +kernel
theorem dX12_partOf_35 : decode cX12_partOf 35 = .ok (.invokevirtual 387, 3) := by decide +kernel
theorem dX12_partOf_38 : decode cX12_partOf 38 = .ok (.istore_n 2, 1) := by decide +kernel
theorem dX12_partOf_39 : decode cX12_partOf 39 = .ok (.aload_n 0, 1) := by decide +kernel
theorem dX12_partOf_40 : decode cX12_partOf 40 = .ok (.dup, 1) := by decide +kernel
theorem dX12_partOf_41 : decode cX12_partOf 41 = .ok (.getfield 384, 3) := by decide +kernel
theorem dX12_partOf_44 : decode cX12_partOf 44 = .ok (.iconst 1, 1) := by decide +kernel
theorem dX12_partOf_45 : decode cX12_partOf 45 = .ok (.iadd, 1) := by decide +kernel
theorem dX12_partOf_46 : decode cX12_partOf 46 = .ok (.putfield 384, 3) := by decide +kernel
theorem dX12_partOf_49 : decode cX12_partOf 49 = .ok (.iload_n 1, 1) := by decide +kernel
theorem dX12_partOf_50 : decode cX12_partOf 50 = .ok (.ifCond .eq 10, 3) := by decide +kernel
theorem dX12_partOf_53 : decode cX12_partOf 53 = .ok (.aload_n 0, 1) := by decide +kernel
theorem dX12_partOf_54 : decode cX12_partOf 54 = .ok (.getfield 394, 3) := by decide +kernel
theorem dX12_partOf_57 : decode cX12_partOf 57 = .ok (.ifCond .eq 5, 3) := by decide +kernel
theorem dX12_partOf_60 : decode cX12_partOf 60 = .ok (.lconst 0, 1) := by decide +kernel
theorem dX12_partOf_61 : decode cX12_partOf 61 = .ok (.lreturn, 1) := by decide +kernel
theorem dX12_partOf_62 : decode cX12_partOf 62 = .ok (.iload_n 2, 1) := by decide +kernel
theorem dX12_partOf_63 : decode cX12_partOf 63 = .ok (.bipush 50, 2) := by decide +kernel
theorem dX12_partOf_65 : decode cX12_partOf 65 = .ok (.if_icmp .ne 22, 3) := by decide +kernel
theorem dX12_partOf_68 : decode cX12_partOf 68 = .ok (.aload_n 0, 1) := by decide +kernel
theorem dX12_partOf_69 : decode cX12_partOf 69 = .ok (.getfield 20, 3) := by decide +kernel
theorem dX12_partOf_72 : decode cX12_partOf 72 = .ok (.sipush 712, 3) := by decide +kernel
theorem dX12_partOf_75 : decode cX12_partOf 75 = .ok (.aload_n 0, 1) := by decide +kernel
theorem dX12_partOf_76 : decode cX12_partOf 76 = .ok (.getfield 384, 3) := by decide +kernel
theorem dX12_partOf_79 : decode cX12_partOf 79 = .ok (.iadd, 1) := by decide +kernel
theorem dX12_partOf_80 : decode cX12_partOf 80 = .ok (.iconst 1, 1) := by decide +kernel
theorem dX12_partOf_81 : decode cX12_partOf 81 = .ok (.isub, 1) := by decide +kernel
theorem dX12_partOf_82 : decode cX12_partOf 82 = .ok (.iaload, 1) := by decide +kernel
theorem dX12_partOf_83 : decode cX12_partOf 83 = .ok (.i2l, 1) := by decide +kernel
theorem dX12_partOf_84 : decode cX12_partOf 84 = .ok (.goto 13, 3) := by decide +kernel
theorem dX12_partOf_87 : decode cX12_partOf 87 = .ok (.aload_n 0, 1) := by decide +kernel
theorem dX12_partOf_88 : decode cX12_partOf 88 = .ok (.getfield 98, 3) := by decide +kernel
theorem dX12_partOf_91 : decode cX12_partOf 91 = .ok (.iload_n 2, 1) := by decide +kernel
theorem dX12_partOf_92 : decode cX12_partOf 92 = .ok (.bipush 8, 2) := by decide +kernel
theorem dX12_partOf_94 : decode cX12_partOf 94 = .ok (.isub, 1) := by decide +kernel
theorem dX12_partOf_95 : decode cX12_partOf 95 = .ok (.iaload, 1) := by decide +kernel
theorem dX12_partOf_96 : decode cX12_partOf 96 = .ok (.i2l, 1) := by decide +kernel
theorem dX12_partOf_97 : decode cX12_partOf 97 = .ok (.lreturn, 1) := by decide +kernel

def fX12_partOf (N : Nat) (rX12_sumOf : Int32 → qMem → Option (Int64 × qMem)) (p1 : Int32) (σ : qMem) : Option (Int64 × qMem) :=
  ((fX12_sign 91).bind fun y1 => ((fX12_passes y1 σ).bind fun y2 => (if y2.1 = 0 then ((fX12_codeAt (gi y2.2 0 37) y2.2).bind fun y3 => (nmM (si y2.2 0 37 ((gi y2.2 0 37) + 1)) fun s4 => (if p1 = 0 then (some (0, s4)) else (if (gi s4 0 39) = 0 then (if y3 = 50 then (if ck ((712 + (gi s4 0 37)) - 1) 1112 = true then (some ((gi s4 2 ((712 + (gi s4 0 37)) - 1).toNatClampNeg).toInt64, s4)) else none) else (if ck (y3 - 8) 5 = true then (some ((gi s4 23 (y3 - 8).toNatClampNeg).toInt64, s4)) else none)) else (some (0, s4)))))) else ((rX12_sumOf p1 y2.2).bind fun y5 => (nmM (si y5.2 0 37 ((gi y5.2 0 37) + 1)) fun s6 => (some (y5.1, s6)))))))
set_option maxRecDepth 20000 in
set_option maxHeartbeats 4000000 in
theorem aX12_partOf (d : Nat) (N : Nat) (rX12_sumOf : Int32 → qMem → Option (Int64 × qMem)) (p1 : Int32) (hX12_sumOf : ∀ (p1 : Int32)  (σ : qMem), qMc wM (mX12_sumOf d) (ρl) [.ref 0, .int p1] σ (rX12_sumOf p1 σ)) (σ : qMem) : qAt wM (mX12_partOf d) (ρl) 0 [(0, .ref 0), (1, .int p1)] [] σ (fX12_partOf N rX12_sumOf p1 σ) := by
  unfold fX12_partOf
  refine q_aload_n (i := 0) (x := 0) dX12_partOf_0 rfl 0 rfl ?_
  refine q_bipush (v := 91) dX12_partOf_1 (by decide) ?_
  refine q_cSp mX12_sign [.int 91] (st := [.ref 0]) dX12_partOf_3 (ssX12_356) (by unfold rR mX12_partOf mX12_sign; constructor <;> dsimp only <;> omega) rfl rfl (Nat.le_of_ble_eq_true rfl) (kX12_sign 91 σ) (fun y1 => ?_)
  refine q_cVi mX12_passes [.int y1] (st := []) dX12_partOf_6 (svX12_409) (by unfold rR mX12_partOf mX12_passes; constructor <;> dsimp only <;> omega) zM_0 rfl rfl rfl (Nat.le_of_ble_eq_true rfl) (kX12_passes y1 σ) (fun y2 => ?_)
  refine q_if_eq (tgt := 30) dX12_partOf_9 (by decide) ?_ ?_
  · refine q_aload_n (i := 0) (x := 0) dX12_partOf_30 rfl 0 rfl ?_
    refine q_aload_n (i := 0) (x := 0) dX12_partOf_31 rfl 0 rfl ?_
    refine q_geti dX12_partOf_32 foX12_384 zM_0 rfl ?_
    refine q_cVp mX12_codeAt [.int (gi y2.2 0 37)] (st := []) dX12_partOf_35 (svX12_387) (by unfold rR mX12_codeAt mX12_partOf; constructor <;> dsimp only <;> omega) zM_0 rfl rfl rfl (Nat.le_of_ble_eq_true rfl) (kX12_codeAt (gi y2.2 0 37) y2.2) (fun y3 => ?_)
    refine q_istore_n (i := 2) (L' := [(2, .int y3), (0, .ref 0), (1, .int p1)]) dX12_partOf_38 rfl (Nat.le_of_ble_eq_true rfl) rfl ?_
    refine q_aload_n (i := 0) (x := 0) dX12_partOf_39 rfl 1 rfl ?_
    refine q_dup dX12_partOf_40 rfl ?_
    refine q_geti dX12_partOf_41 foX12_384 zM_0 rfl ?_
    refine q_iconst (v := 1) dX12_partOf_44 (by decide) ?_
    refine q_iadd dX12_partOf_45 ?_
    refine q_puti dX12_partOf_46 foX12_384 fwX12_37 zM_0 rfl ?_
    refine q_nmM (fun s4 => ?_)
    refine q_iload_n (i := 1) (x := p1) dX12_partOf_49 rfl 2 rfl ?_
    refine q_if_eq (tgt := 60) dX12_partOf_50 (by decide) ?_ ?_
    · refine q_lconst (v := 0) dX12_partOf_60 (by decide) ?_
      exact q_lret (y := (0, s4)) dX12_partOf_61 rfl rfl
    refine q_aload_n (i := 0) (x := 0) dX12_partOf_53 rfl 1 rfl ?_
    refine q_geti dX12_partOf_54 foX12_394 zM_0 rfl ?_
    refine q_if_eq (tgt := 62) dX12_partOf_57 (by decide) ?_ ?_
    · refine q_iload_n (i := 2) (x := y3) dX12_partOf_62 rfl 0 rfl ?_
      refine q_bipush (v := 50) dX12_partOf_63 (by decide) ?_
      refine q_icmp_ne (tgt := 87) dX12_partOf_65 (by decide) ?_ ?_
      · refine q_aload_n (i := 0) (x := 0) dX12_partOf_87 rfl 1 rfl ?_
        refine q_getr (t := 23) dX12_partOf_88 foX12_98 zM_0 rfl ?_
        refine q_iload_n (i := 2) (x := y3) dX12_partOf_91 rfl 0 rfl ?_
        refine q_bipush (v := 8) dX12_partOf_92 (by decide) ?_
        refine q_isub dX12_partOf_94 ?_
        refine q_iald dX12_partOf_95 zM_23 ?_
        refine q_i2l dX12_partOf_96 ?_
        exact q_lret (y := ((gi s4 23 (y3 - 8).toNatClampNeg).toInt64, s4)) dX12_partOf_97 rfl rfl
      refine q_aload_n (i := 0) (x := 0) dX12_partOf_68 rfl 1 rfl ?_
      refine q_getr (t := 2) dX12_partOf_69 foX12_20 zM_0 rfl ?_
      refine q_sipush (v := 712) dX12_partOf_72 (by decide) ?_
      refine q_aload_n (i := 0) (x := 0) dX12_partOf_75 rfl 1 rfl ?_
      refine q_geti dX12_partOf_76 foX12_384 zM_0 rfl ?_
      refine q_iadd dX12_partOf_79 ?_
      refine q_iconst (v := 1) dX12_partOf_80 (by decide) ?_
      refine q_isub dX12_partOf_81 ?_
      refine q_iald dX12_partOf_82 zM_2 ?_
      refine q_i2l dX12_partOf_83 ?_
      refine q_goto (tgt := 97) dX12_partOf_84 (by decide) ?_
      exact q_lret (y := ((gi s4 2 ((712 + (gi s4 0 37)) - 1).toNatClampNeg).toInt64, s4)) dX12_partOf_97 rfl rfl
    refine q_lconst (v := 0) dX12_partOf_60 (by decide) ?_
    exact q_lret (y := (0, s4)) dX12_partOf_61 rfl rfl
  refine q_aload_n (i := 0) (x := 0) dX12_partOf_12 rfl 0 rfl ?_
  refine q_iload_n (i := 1) (x := p1) dX12_partOf_13 rfl 1 rfl ?_
  refine q_cVl (mX12_sumOf d) [.int p1] (st := []) dX12_partOf_14 (svX12_412 _) (by unfold rR mX12_partOf mX12_sumOf; constructor <;> dsimp only <;> omega) zM_0 rfl rfl rfl (Nat.le_of_ble_eq_true rfl) (hX12_sumOf p1 y2.2) (fun y5 => ?_)
  refine q_lstore_n (i := 2) (L' := [(2, .long y5.1), (0, .ref 0), (1, .int p1)]) dX12_partOf_17 rfl (Nat.le_of_ble_eq_true rfl) rfl ?_
  refine q_aload_n (i := 0) (x := 0) dX12_partOf_18 rfl 1 rfl ?_
  refine q_dup dX12_partOf_19 rfl ?_
  refine q_geti dX12_partOf_20 foX12_384 zM_0 rfl ?_
  refine q_iconst (v := 1) dX12_partOf_23 (by decide) ?_
  refine q_iadd dX12_partOf_24 ?_
  refine q_puti dX12_partOf_25 foX12_384 fwX12_37 zM_0 rfl ?_
  refine q_nmM (fun s6 => ?_)
  refine q_lload_n (i := 2) (x := y5.1) dX12_partOf_28 rfl 0 rfl ?_
  exact q_lret (y := (y5.1, s6)) dX12_partOf_29 rfl rfl
theorem kX12_partOf (d : Nat) (N : Nat) (rX12_sumOf : Int32 → qMem → Option (Int64 × qMem)) (p1 : Int32) (hX12_sumOf : ∀ (p1 : Int32)  (σ : qMem), qMc wM (mX12_sumOf d) (ρl) [.ref 0, .int p1] σ (rX12_sumOf p1 σ)) (σ : qMem) : qMc wM (mX12_partOf d) (ρl) [.ref 0, .int p1] σ (fX12_partOf N rX12_sumOf p1 σ) := qMc_of (moX12_partOf _) (Nat.le_of_ble_eq_true rfl) (aX12_partOf d N rX12_sumOf p1 hX12_sumOf σ)

theorem dX12_termOf_0 : decode cX12_termOf 0 = .ok (.aload_n 0, 1) := by decide +kernel
theorem dX12_termOf_1 : decode cX12_termOf 1 = .ok (.iload_n 1, 1) := by decide +kernel
theorem dX12_termOf_2 : decode cX12_termOf 2 = .ok (.invokevirtual 406, 3) := by decide +kernel
theorem dX12_termOf_5 : decode cX12_termOf 5 = .ok (.lstore_n 2, 1) := by decide +kernel
theorem dX12_termOf_6 : decode cX12_termOf 6 = .ok (.aload_n 0, 1) := by decide +kernel
theorem dX12_termOf_7 : decode cX12_termOf 7 = .ok (.aload_n 0, 1) := by decide +kernel
theorem dX12_termOf_8 : decode cX12_termOf 8 = .ok (.getfield 384, 3) := by decide +kernel
theorem dX12_termOf_11 : decode cX12_termOf 11 = .ok (.invokevirtual 387, 3) := by decide +kernel
theorem dX12_termOf_14 : decode cX12_termOf 14 = .ok (.bipush 42, 2) := by decide +kernel
theorem dX12_termOf_16 : decode cX12_termOf 16 = .ok (.invokestatic 356, 3) := by decide +kernel
theorem dX12_termOf_19 : decode cX12_termOf 19 = .ok (.if_icmp .eq 19, 3) := by decide +kernel
theorem dX12_termOf_22 : decode cX12_termOf 22 = .ok (.aload_n 0, 1) := by decide +kernel
theorem dX12_termOf_23 : decode cX12_termOf 23 = .ok (.aload_n 0, 1) := by decide +kernel
theorem dX12_termOf_24 : decode cX12_termOf 24 = .ok (.getfield 384, 3) := by decide +kernel
theorem dX12_termOf_27 : decode cX12_termOf 27 = .ok (.invokevirtual 387, 3) := by decide +kernel
theorem dX12_termOf_30 : decode cX12_termOf 30 = .ok (.bipush 47, 2) := by decide +kernel
theorem dX12_termOf_32 : decode cX12_termOf 32 = .ok (.invokestatic 356, 3) := by decide +kernel
theorem dX12_termOf_35 : decode cX12_termOf 35 = .ok (.if_icmp .ne 103, 3) := by decide +kernel
theorem dX12_termOf_38 : decode cX12_termOf 38 = .ok (.aload_n 0, 1) := by decide +kernel
theorem dX12_termOf_39 : decode cX12_termOf 39 = .ok (.aload_n 0, 1) := by decide +kernel
theorem dX12_termOf_40 : decode cX12_termOf 40 = .ok (.getfield 384, 3) := by decide +kernel
theorem dX12_termOf_43 : decode cX12_termOf 43 = .ok (.invokevirtual 387, 3) := by decide +kernel
theorem dX12_termOf_46 : decode cX12_termOf 46 = .ok (.bipush 42, 2) := by decide +kernel
theorem dX12_termOf_48 : decode cX12_termOf 48 = .ok (.invokestatic 356, 3) := by decide +kernel
theorem dX12_termOf_51 : decode cX12_termOf 51 = .ok (.if_icmp .ne 7, 3) := by decide +kernel
theorem dX12_termOf_54 : decode cX12_termOf 54 = .ok (.iconst 1, 1) := by decide +kernel
theorem dX12_termOf_55 : decode cX12_termOf 55 = .ok (.goto 4, 3) := by decide +kernel
theorem dX12_termOf_58 : decode cX12_termOf 58 = .ok (.iconst 0, 1) := by decide +kernel
theorem dX12_termOf_59 : decode cX12_termOf 59 = .ok (.istore 4, 2) := by decide +kernel
theorem dX12_termOf_61 : decode cX12_termOf 61 = .ok (.aload_n 0, 1) := by decide +kernel
theorem dX12_termOf_62 : decode cX12_termOf 62 = .ok (.dup, 1) := by decide +kernel
theorem dX12_termOf_63 : decode cX12_termOf 63 = .ok (.getfield 384, 3) := by decide +kernel
theorem dX12_termOf_66 : decode cX12_termOf 66 = .ok (.iconst 1, 1) := by decide +kernel
theorem dX12_termOf_67 : decode cX12_termOf 67 = .ok (.iadd, 1) := by decide +kernel
theorem dX12_termOf_68 : decode cX12_termOf 68 = .ok (.putfield 384, 3) := by decide +kernel
theorem dX12_termOf_71 : decode cX12_termOf 71 = .ok (.aload_n 0, 1) := by decide +kernel
theorem dX12_termOf_72 : decode cX12_termOf 72 = .ok (.iload_n 1, 1) := by decide +kernel
theorem dX12_termOf_73 : decode cX12_termOf 73 = .ok (.invokevirtual 406, 3) := by decide +kernel
theorem dX12_termOf_76 : decode cX12_termOf 76 = .ok (.lstore 5, 2) := by decide +kernel
theorem dX12_termOf_78 : decode cX12_termOf 78 = .ok (.iload 4, 2) := by decide +kernel
theorem dX12_termOf_80 : decode cX12_termOf 80 = .ok (.ifCond .ne 33, 3) := by decide +kernel
theorem dX12_termOf_83 : decode cX12_termOf 83 = .ok (.lload 5, 2) := by decide +kernel
theorem dX12_termOf_85 : decode cX12_termOf 85 = .ok (.lconst 0, 1) := by decide +kernel
theorem dX12_termOf_86 : decode cX12_termOf 86 = .ok (.lcmp, 1) := by decide +kernel
theorem dX12_termOf_87 : decode cX12_termOf 87 = .ok (.ifCond .ne 26, 3) := by decide +kernel
theorem dX12_termOf_90 : decode cX12_termOf 90 = .ok (.aload_n 0, 1) := by decide +kernel
theorem dX12_termOf_91 : decode cX12_termOf 91 = .ok (.aload_n 0, 1) := by decide +kernel
theorem dX12_termOf_92 : decode cX12_termOf 92 = .ok (.getfield 394, 3) := by decide +kernel
theorem dX12_termOf_95 : decode cX12_termOf 95 = .ok (.ifCond .ne 7, 3) := by decide +kernel
theorem dX12_termOf_98 : decode cX12_termOf 98 = .ok (.iload_n 1, 1) := by decide +kernel
theorem dX12_termOf_99 : decode cX12_termOf 99 = .ok (.ifCond .eq 7, 3) := by decide +kernel
theorem dX12_termOf_102 : decode cX12_termOf 102 = .ok (.iconst 1, 1) := by decide +kernel
theorem dX12_termOf_103 : decode cX12_termOf 103 = .ok (.goto 4, 3) := by decide +kernel
theorem dX12_termOf_106 : decode cX12_termOf 106 = .ok (.iconst 0, 1) := by decide +kernel
theorem dX12_termOf_107 : decode cX12_termOf 107 = .ok (.putfield 394, 3) := by decide +kernel
theorem dX12_termOf_110 : decode cX12_termOf 110 = .ok (.lconst 1, 1) := by decide +kernel
theorem dX12_termOf_111 : decode cX12_termOf 111 = .ok (.lstore 5, 2) := by decide +kernel
theorem dX12_termOf_113 : decode cX12_termOf 113 = .ok (.aload_n 0, 1) := by decide +kernel
theorem dX12_termOf_114 : decode cX12_termOf 114 = .ok (.iload 4, 2) := by decide +kernel
theorem dX12_termOf_116 : decode cX12_termOf 116 = .ok (.ifCond .eq 10, 3) := by decide +kernel
theorem dX12_termOf_119 : decode cX12_termOf 119 = .ok (.lload_n 2, 1) := by decide +kernel
theorem dX12_termOf_120 : decode cX12_termOf 120 = .ok (.lload 5, 2) := by decide +kernel
theorem dX12_termOf_122 : decode cX12_termOf 122 = .ok (.lmul, 1) := by decide +kernel
theorem dX12_termOf_123 : decode cX12_termOf 123 = .ok (.goto 7, 3) := by decide +kernel
theorem dX12_termOf_126 : decode cX12_termOf 126 = .ok (.lload_n 2, 1) := by decide +kernel
theorem dX12_termOf_127 : decode cX12_termOf 127 = .ok (.lload 5, 2) := by decide +kernel
theorem dX12_termOf_129 : decode cX12_termOf 129 = .ok (.ldiv, 1) := by decide +kernel
theorem dX12_termOf_130 : decode cX12_termOf 130 = .ok (.iload_n 1, 1) := by decide +kernel
theorem dX12_termOf_131 : decode cX12_termOf 131 = .ok (.invokevirtual 402, 3) := by decide +kernel
theorem dX12_termOf_134 : decode cX12_termOf 134 = .ok (.lstore_n 2, 1) := by decide +kernel
theorem dX12_termOf_135 : decode cX12_termOf 135 = .ok (.goto (-129), 3) := by decide +kernel
theorem dX12_termOf_138 : decode cX12_termOf 138 = .ok (.lload_n 2, 1) := by decide +kernel
theorem dX12_termOf_139 : decode cX12_termOf 139 = .ok (.lreturn, 1) := by decide +kernel
def fX12_termOf_b130 (N : Nat) (rX12_sumOf : Int32 → qMem → Option (Int64 × qMem)) (c6 : Int32 → Int64 → qMem → Option (Int64 × qMem)) (v1 : Int32) (u1 : Int64) (σ : qMem) : Option (Int64 × qMem) :=
  ((fX12_bounded u1 v1 σ).bind fun y11 => (c6 v1 y11.1 y11.2))
set_option maxRecDepth 20000 in
set_option maxHeartbeats 4000000 in
theorem aX12_termOf_b130 (d : Nat) (N : Nat) (rX12_sumOf : Int32 → qMem → Option (Int64 × qMem)) (hX12_sumOf : ∀ (p1 : Int32)  (σ : qMem), qMc wM (mX12_sumOf d) (ρl) [.ref 0, .int p1] σ (rX12_sumOf p1 σ)) (c6 : Int32 → Int64 → qMem → Option (Int64 × qMem)) (hc6 : ∀ (v1 : Int32) (v2 : Int64) (σ : qMem), qAt wM (mX12_termOf d) (ρl) 6 [(0, .ref 0), (1, .int v1), (2, .long v2)] [] σ (c6 v1 v2 σ)) (v1 : Int32) (u1 : Int64) (σ : qMem) : qAt wM (mX12_termOf d) (ρl) 130 [(0, .ref 0), (1, .int v1)] [.long u1, .ref 0] σ (fX12_termOf_b130 N rX12_sumOf c6 v1 u1 σ) := by
  unfold fX12_termOf_b130
  refine q_iload_n (i := 1) (x := v1) dX12_termOf_130 rfl 1 rfl ?_
  refine q_cVl mX12_bounded [.long u1, .int v1] (st := []) dX12_termOf_131 (svX12_402) (by unfold rR mX12_bounded mX12_termOf; constructor <;> dsimp only <;> omega) zM_0 rfl rfl rfl (Nat.le_of_ble_eq_true rfl) (kX12_bounded u1 v1 σ) (fun y11 => ?_)
  refine q_lstore_n (i := 2) (L' := [(2, .long y11.1), (0, .ref 0), (1, .int v1)]) dX12_termOf_134 rfl (Nat.le_of_ble_eq_true rfl) rfl ?_
  refine q_goto (tgt := 6) dX12_termOf_135 (by decide) ?_
  exact q_sub [1, 2, 0] rfl (hc6 v1 y11.1 y11.2)

def fX12_termOf_b113 (N : Nat) (rX12_sumOf : Int32 → qMem → Option (Int64 × qMem)) (c6 : Int32 → Int64 → qMem → Option (Int64 × qMem)) (v1 : Int32) (v2 : Int64) (v4 : Int32) (v5 : Int64) (σ : qMem) : Option (Int64 × qMem) :=
  (if v4 = 0 then (if v5 = 0 then none else (fX12_termOf_b130 N rX12_sumOf c6 v1 (v2 / v5) σ)) else (fX12_termOf_b130 N rX12_sumOf c6 v1 (v2 * v5) σ))
set_option maxRecDepth 20000 in
set_option maxHeartbeats 4000000 in
theorem aX12_termOf_b113 (d : Nat) (N : Nat) (rX12_sumOf : Int32 → qMem → Option (Int64 × qMem)) (hX12_sumOf : ∀ (p1 : Int32)  (σ : qMem), qMc wM (mX12_sumOf d) (ρl) [.ref 0, .int p1] σ (rX12_sumOf p1 σ)) (c6 : Int32 → Int64 → qMem → Option (Int64 × qMem)) (hc6 : ∀ (v1 : Int32) (v2 : Int64) (σ : qMem), qAt wM (mX12_termOf d) (ρl) 6 [(0, .ref 0), (1, .int v1), (2, .long v2)] [] σ (c6 v1 v2 σ)) (v1 : Int32) (v2 : Int64) (v4 : Int32) (v5 : Int64) (σ : qMem) : qAt wM (mX12_termOf d) (ρl) 113 [(0, .ref 0), (1, .int v1), (2, .long v2), (4, .int v4), (5, .long v5)] [] σ (fX12_termOf_b113 N rX12_sumOf c6 v1 v2 v4 v5 σ) := by
  unfold fX12_termOf_b113
  refine q_aload_n (i := 0) (x := 0) dX12_termOf_113 rfl 0 rfl ?_
  refine q_iload (i := 4) (x := v4) dX12_termOf_114 3 rfl ?_
  refine q_if_eq (tgt := 126) dX12_termOf_116 (by decide) ?_ ?_
  · refine q_lload_n (i := 2) (x := v2) dX12_termOf_126 rfl 2 rfl ?_
    refine q_lload (i := 5) (x := v5) dX12_termOf_127 4 rfl ?_
    refine q_ldivC dX12_termOf_129 ?_
    exact q_sub [0, 1] rfl (aX12_termOf_b130 d N rX12_sumOf hX12_sumOf c6 hc6 v1 (v2 / v5) σ)
  refine q_lload_n (i := 2) (x := v2) dX12_termOf_119 rfl 2 rfl ?_
  refine q_lload (i := 5) (x := v5) dX12_termOf_120 4 rfl ?_
  refine q_lmul dX12_termOf_122 ?_
  refine q_goto (tgt := 130) dX12_termOf_123 (by decide) ?_
  exact q_sub [0, 1] rfl (aX12_termOf_b130 d N rX12_sumOf hX12_sumOf c6 hc6 v1 (v2 * v5) σ)

def fX12_termOf_b107 (N : Nat) (rX12_sumOf : Int32 → qMem → Option (Int64 × qMem)) (c6 : Int32 → Int64 → qMem → Option (Int64 × qMem)) (v1 : Int32) (v2 : Int64) (v4 : Int32) (u1 : Int32) (σ : qMem) : Option (Int64 × qMem) :=
  (if u1 = 0 ∨ u1 = 1 then (nmM (si σ 0 39 u1) fun s10 => (fX12_termOf_b113 N rX12_sumOf c6 v1 v2 v4 1 s10)) else none)
set_option maxRecDepth 20000 in
set_option maxHeartbeats 4000000 in
theorem aX12_termOf_b107 (d : Nat) (N : Nat) (rX12_sumOf : Int32 → qMem → Option (Int64 × qMem)) (hX12_sumOf : ∀ (p1 : Int32)  (σ : qMem), qMc wM (mX12_sumOf d) (ρl) [.ref 0, .int p1] σ (rX12_sumOf p1 σ)) (c6 : Int32 → Int64 → qMem → Option (Int64 × qMem)) (hc6 : ∀ (v1 : Int32) (v2 : Int64) (σ : qMem), qAt wM (mX12_termOf d) (ρl) 6 [(0, .ref 0), (1, .int v1), (2, .long v2)] [] σ (c6 v1 v2 σ)) (v1 : Int32) (v2 : Int64) (v4 : Int32) (u1 : Int32) (σ : qMem) : qAt wM (mX12_termOf d) (ρl) 107 [(0, .ref 0), (1, .int v1), (2, .long v2), (4, .int v4)] [.int u1, .ref 0] σ (fX12_termOf_b107 N rX12_sumOf c6 v1 v2 v4 u1 σ) := by
  unfold fX12_termOf_b107
  refine q_if (fun hz => q_putz dX12_termOf_107 foX12_394 fwX12_39 zM_0 rfl hz ?_)
  refine q_nmM (fun s10 => ?_)
  refine q_lconst (v := 1) dX12_termOf_110 (by decide) ?_
  refine q_lstore (i := 5) (L' := [(5, .long 1), (0, .ref 0), (1, .int v1), (2, .long v2), (4, .int v4)]) dX12_termOf_111 (Nat.le_of_ble_eq_true rfl) rfl ?_
  exact q_sub [1, 2, 3, 4, 0] rfl (aX12_termOf_b113 d N rX12_sumOf hX12_sumOf c6 hc6 v1 v2 v4 1 s10)

def fX12_termOf_b102 (N : Nat) (rX12_sumOf : Int32 → qMem → Option (Int64 × qMem)) (c6 : Int32 → Int64 → qMem → Option (Int64 × qMem)) (v1 : Int32) (v2 : Int64) (v4 : Int32) (σ : qMem) : Option (Int64 × qMem) :=
  (fX12_termOf_b107 N rX12_sumOf c6 v1 v2 v4 1 σ)
set_option maxRecDepth 20000 in
set_option maxHeartbeats 4000000 in
theorem aX12_termOf_b102 (d : Nat) (N : Nat) (rX12_sumOf : Int32 → qMem → Option (Int64 × qMem)) (hX12_sumOf : ∀ (p1 : Int32)  (σ : qMem), qMc wM (mX12_sumOf d) (ρl) [.ref 0, .int p1] σ (rX12_sumOf p1 σ)) (c6 : Int32 → Int64 → qMem → Option (Int64 × qMem)) (hc6 : ∀ (v1 : Int32) (v2 : Int64) (σ : qMem), qAt wM (mX12_termOf d) (ρl) 6 [(0, .ref 0), (1, .int v1), (2, .long v2)] [] σ (c6 v1 v2 σ)) (v1 : Int32) (v2 : Int64) (v4 : Int32) (σ : qMem) : qAt wM (mX12_termOf d) (ρl) 102 [(0, .ref 0), (1, .int v1), (2, .long v2), (4, .int v4)] [.ref 0] σ (fX12_termOf_b102 N rX12_sumOf c6 v1 v2 v4 σ) := by
  unfold fX12_termOf_b102
  refine q_iconst (v := 1) dX12_termOf_102 (by decide) ?_
  refine q_goto (tgt := 107) dX12_termOf_103 (by decide) ?_
  exact q_sub [0, 1, 2, 3] rfl (aX12_termOf_b107 d N rX12_sumOf hX12_sumOf c6 hc6 v1 v2 v4 1 σ)

def fX12_termOf_b59 (N : Nat) (rX12_sumOf : Int32 → qMem → Option (Int64 × qMem)) (c6 : Int32 → Int64 → qMem → Option (Int64 × qMem)) (v1 : Int32) (v2 : Int64) (u0 : Int32) (σ : qMem) : Option (Int64 × qMem) :=
  (nmM (si σ 0 37 ((gi σ 0 37) + 1)) fun s8 => ((fX12_partOf N rX12_sumOf v1 s8).bind fun y9 => (if u0 = 0 then (if (lg_cmp y9.1 0) = 0 then (if (gi y9.2 0 39) = 0 then (if v1 = 0 then (fX12_termOf_b107 N rX12_sumOf c6 v1 v2 u0 0 y9.2) else (fX12_termOf_b102 N rX12_sumOf c6 v1 v2 u0 y9.2)) else (fX12_termOf_b102 N rX12_sumOf c6 v1 v2 u0 y9.2)) else (fX12_termOf_b113 N rX12_sumOf c6 v1 v2 u0 y9.1 y9.2)) else (fX12_termOf_b113 N rX12_sumOf c6 v1 v2 u0 y9.1 y9.2))))
set_option maxRecDepth 20000 in
set_option maxHeartbeats 4000000 in
theorem aX12_termOf_b59 (d : Nat) (N : Nat) (rX12_sumOf : Int32 → qMem → Option (Int64 × qMem)) (hX12_sumOf : ∀ (p1 : Int32)  (σ : qMem), qMc wM (mX12_sumOf d) (ρl) [.ref 0, .int p1] σ (rX12_sumOf p1 σ)) (c6 : Int32 → Int64 → qMem → Option (Int64 × qMem)) (hc6 : ∀ (v1 : Int32) (v2 : Int64) (σ : qMem), qAt wM (mX12_termOf d) (ρl) 6 [(0, .ref 0), (1, .int v1), (2, .long v2)] [] σ (c6 v1 v2 σ)) (v1 : Int32) (v2 : Int64) (u0 : Int32) (σ : qMem) : qAt wM (mX12_termOf d) (ρl) 59 [(0, .ref 0), (1, .int v1), (2, .long v2)] [.int u0] σ (fX12_termOf_b59 N rX12_sumOf c6 v1 v2 u0 σ) := by
  unfold fX12_termOf_b59
  refine q_istore (i := 4) (L' := [(4, .int u0), (0, .ref 0), (1, .int v1), (2, .long v2)]) dX12_termOf_59 (Nat.le_of_ble_eq_true rfl) rfl ?_
  refine q_aload_n (i := 0) (x := 0) dX12_termOf_61 rfl 1 rfl ?_
  refine q_dup dX12_termOf_62 rfl ?_
  refine q_geti dX12_termOf_63 foX12_384 zM_0 rfl ?_
  refine q_iconst (v := 1) dX12_termOf_66 (by decide) ?_
  refine q_iadd dX12_termOf_67 ?_
  refine q_puti dX12_termOf_68 foX12_384 fwX12_37 zM_0 rfl ?_
  refine q_nmM (fun s8 => ?_)
  refine q_aload_n (i := 0) (x := 0) dX12_termOf_71 rfl 1 rfl ?_
  refine q_iload_n (i := 1) (x := v1) dX12_termOf_72 rfl 2 rfl ?_
  refine q_cVl (mX12_partOf d) [.int v1] (st := []) dX12_termOf_73 (svX12_406 _) (by unfold rR mX12_partOf mX12_termOf; constructor <;> dsimp only <;> omega) zM_0 rfl rfl rfl (Nat.le_of_ble_eq_true rfl) (kX12_partOf d N rX12_sumOf v1 hX12_sumOf s8) (fun y9 => ?_)
  refine q_lstore (i := 5) (L' := [(5, .long y9.1), (4, .int u0), (0, .ref 0), (1, .int v1), (2, .long v2)]) dX12_termOf_76 (Nat.le_of_ble_eq_true rfl) rfl ?_
  refine q_iload (i := 4) (x := u0) dX12_termOf_78 1 rfl ?_
  refine q_if_ne (tgt := 113) dX12_termOf_80 (by decide) ?_ ?_
  · exact q_sub [2, 3, 4, 1, 0] rfl (aX12_termOf_b113 d N rX12_sumOf hX12_sumOf c6 hc6 v1 v2 u0 y9.1 y9.2)
  refine q_lload (i := 5) (x := y9.1) dX12_termOf_83 0 rfl ?_
  refine q_lconst (v := 0) dX12_termOf_85 (by decide) ?_
  refine q_lcmp dX12_termOf_86 ?_
  refine q_if_ne (tgt := 113) dX12_termOf_87 (by decide) ?_ ?_
  · exact q_sub [2, 3, 4, 1, 0] rfl (aX12_termOf_b113 d N rX12_sumOf hX12_sumOf c6 hc6 v1 v2 u0 y9.1 y9.2)
  refine q_aload_n (i := 0) (x := 0) dX12_termOf_90 rfl 2 rfl ?_
  refine q_aload_n (i := 0) (x := 0) dX12_termOf_91 rfl 2 rfl ?_
  refine q_geti dX12_termOf_92 foX12_394 zM_0 rfl ?_
  refine q_if_ne (tgt := 102) dX12_termOf_95 (by decide) ?_ ?_
  · exact q_sub [2, 3, 4, 1] rfl (aX12_termOf_b102 d N rX12_sumOf hX12_sumOf c6 hc6 v1 v2 u0 y9.2)
  refine q_iload_n (i := 1) (x := v1) dX12_termOf_98 rfl 3 rfl ?_
  refine q_if_eq (tgt := 106) dX12_termOf_99 (by decide) ?_ ?_
  · refine q_iconst (v := 0) dX12_termOf_106 (by decide) ?_
    exact q_sub [2, 3, 4, 1] rfl (aX12_termOf_b107 d N rX12_sumOf hX12_sumOf c6 hc6 v1 v2 u0 0 y9.2)
  exact q_sub [2, 3, 4, 1] rfl (aX12_termOf_b102 d N rX12_sumOf hX12_sumOf c6 hc6 v1 v2 u0 y9.2)

def fX12_termOf_b38 (N : Nat) (rX12_sumOf : Int32 → qMem → Option (Int64 × qMem)) (c6 : Int32 → Int64 → qMem → Option (Int64 × qMem)) (v1 : Int32) (v2 : Int64) (σ : qMem) : Option (Int64 × qMem) :=
  ((fX12_codeAt (gi σ 0 37) σ).bind fun y6 => ((fX12_sign 42).bind fun y7 => (if y6 = y7 then (fX12_termOf_b59 N rX12_sumOf c6 v1 v2 1 σ) else (fX12_termOf_b59 N rX12_sumOf c6 v1 v2 0 σ))))
set_option maxRecDepth 20000 in
set_option maxHeartbeats 4000000 in
theorem aX12_termOf_b38 (d : Nat) (N : Nat) (rX12_sumOf : Int32 → qMem → Option (Int64 × qMem)) (hX12_sumOf : ∀ (p1 : Int32)  (σ : qMem), qMc wM (mX12_sumOf d) (ρl) [.ref 0, .int p1] σ (rX12_sumOf p1 σ)) (c6 : Int32 → Int64 → qMem → Option (Int64 × qMem)) (hc6 : ∀ (v1 : Int32) (v2 : Int64) (σ : qMem), qAt wM (mX12_termOf d) (ρl) 6 [(0, .ref 0), (1, .int v1), (2, .long v2)] [] σ (c6 v1 v2 σ)) (v1 : Int32) (v2 : Int64) (σ : qMem) : qAt wM (mX12_termOf d) (ρl) 38 [(0, .ref 0), (1, .int v1), (2, .long v2)] [] σ (fX12_termOf_b38 N rX12_sumOf c6 v1 v2 σ) := by
  unfold fX12_termOf_b38
  refine q_aload_n (i := 0) (x := 0) dX12_termOf_38 rfl 0 rfl ?_
  refine q_aload_n (i := 0) (x := 0) dX12_termOf_39 rfl 0 rfl ?_
  refine q_geti dX12_termOf_40 foX12_384 zM_0 rfl ?_
  refine q_cVp mX12_codeAt [.int (gi σ 0 37)] (st := []) dX12_termOf_43 (svX12_387) (by unfold rR mX12_codeAt mX12_termOf; constructor <;> dsimp only <;> omega) zM_0 rfl rfl rfl (Nat.le_of_ble_eq_true rfl) (kX12_codeAt (gi σ 0 37) σ) (fun y6 => ?_)
  refine q_bipush (v := 42) dX12_termOf_46 (by decide) ?_
  refine q_cSp mX12_sign [.int 42] (st := [.int y6]) dX12_termOf_48 (ssX12_356) (by unfold rR mX12_sign mX12_termOf; constructor <;> dsimp only <;> omega) rfl rfl (Nat.le_of_ble_eq_true rfl) (kX12_sign 42 σ) (fun y7 => ?_)
  refine q_icmp_ne (tgt := 58) dX12_termOf_51 (by decide) ?_ ?_
  · refine q_iconst (v := 0) dX12_termOf_58 (by decide) ?_
    exact q_sub [0, 1, 2] rfl (aX12_termOf_b59 d N rX12_sumOf hX12_sumOf c6 hc6 v1 v2 0 σ)
  refine q_iconst (v := 1) dX12_termOf_54 (by decide) ?_
  refine q_goto (tgt := 59) dX12_termOf_55 (by decide) ?_
  exact q_sub [0, 1, 2] rfl (aX12_termOf_b59 d N rX12_sumOf hX12_sumOf c6 hc6 v1 v2 1 σ)

def fX12_termOf_s6 (N : Nat) (rX12_sumOf : Int32 → qMem → Option (Int64 × qMem)) (c6 : Int32 → Int64 → qMem → Option (Int64 × qMem)) (v1 : Int32) (v2 : Int64) (σ : qMem) : Option (Int64 × qMem) :=
  ((fX12_codeAt (gi σ 0 37) σ).bind fun y2 => ((fX12_sign 42).bind fun y3 => (if y2 = y3 then (fX12_termOf_b38 N rX12_sumOf c6 v1 v2 σ) else ((fX12_codeAt (gi σ 0 37) σ).bind fun y4 => ((fX12_sign 47).bind fun y5 => (if y4 = y5 then (fX12_termOf_b38 N rX12_sumOf c6 v1 v2 σ) else (some (v2, σ))))))))
set_option maxRecDepth 20000 in
set_option maxHeartbeats 4000000 in
theorem aX12_termOf_s6 (d : Nat) (N : Nat) (rX12_sumOf : Int32 → qMem → Option (Int64 × qMem)) (hX12_sumOf : ∀ (p1 : Int32)  (σ : qMem), qMc wM (mX12_sumOf d) (ρl) [.ref 0, .int p1] σ (rX12_sumOf p1 σ)) (c6 : Int32 → Int64 → qMem → Option (Int64 × qMem)) (hc6 : ∀ (v1 : Int32) (v2 : Int64) (σ : qMem), qAt wM (mX12_termOf d) (ρl) 6 [(0, .ref 0), (1, .int v1), (2, .long v2)] [] σ (c6 v1 v2 σ)) (v1 : Int32) (v2 : Int64) (σ : qMem) : qAt wM (mX12_termOf d) (ρl) 6 [(0, .ref 0), (1, .int v1), (2, .long v2)] [] σ (fX12_termOf_s6 N rX12_sumOf c6 v1 v2 σ) := by
  unfold fX12_termOf_s6
  refine q_aload_n (i := 0) (x := 0) dX12_termOf_6 rfl 0 rfl ?_
  refine q_aload_n (i := 0) (x := 0) dX12_termOf_7 rfl 0 rfl ?_
  refine q_geti dX12_termOf_8 foX12_384 zM_0 rfl ?_
  refine q_cVp mX12_codeAt [.int (gi σ 0 37)] (st := []) dX12_termOf_11 (svX12_387) (by unfold rR mX12_codeAt mX12_termOf; constructor <;> dsimp only <;> omega) zM_0 rfl rfl rfl (Nat.le_of_ble_eq_true rfl) (kX12_codeAt (gi σ 0 37) σ) (fun y2 => ?_)
  refine q_bipush (v := 42) dX12_termOf_14 (by decide) ?_
  refine q_cSp mX12_sign [.int 42] (st := [.int y2]) dX12_termOf_16 (ssX12_356) (by unfold rR mX12_sign mX12_termOf; constructor <;> dsimp only <;> omega) rfl rfl (Nat.le_of_ble_eq_true rfl) (kX12_sign 42 σ) (fun y3 => ?_)
  refine q_icmp_eq (tgt := 38) dX12_termOf_19 (by decide) ?_ ?_
  · exact q_sub [0, 1, 2] rfl (aX12_termOf_b38 d N rX12_sumOf hX12_sumOf c6 hc6 v1 v2 σ)
  refine q_aload_n (i := 0) (x := 0) dX12_termOf_22 rfl 0 rfl ?_
  refine q_aload_n (i := 0) (x := 0) dX12_termOf_23 rfl 0 rfl ?_
  refine q_geti dX12_termOf_24 foX12_384 zM_0 rfl ?_
  refine q_cVp mX12_codeAt [.int (gi σ 0 37)] (st := []) dX12_termOf_27 (svX12_387) (by unfold rR mX12_codeAt mX12_termOf; constructor <;> dsimp only <;> omega) zM_0 rfl rfl rfl (Nat.le_of_ble_eq_true rfl) (kX12_codeAt (gi σ 0 37) σ) (fun y4 => ?_)
  refine q_bipush (v := 47) dX12_termOf_30 (by decide) ?_
  refine q_cSp mX12_sign [.int 47] (st := [.int y4]) dX12_termOf_32 (ssX12_356) (by unfold rR mX12_sign mX12_termOf; constructor <;> dsimp only <;> omega) rfl rfl (Nat.le_of_ble_eq_true rfl) (kX12_sign 47 σ) (fun y5 => ?_)
  refine q_icmp_ne (tgt := 138) dX12_termOf_35 (by decide) ?_ ?_
  · refine q_lload_n (i := 2) (x := v2) dX12_termOf_138 rfl 2 rfl ?_
    exact q_lret (y := (v2, σ)) dX12_termOf_139 rfl rfl
  exact q_sub [0, 1, 2] rfl (aX12_termOf_b38 d N rX12_sumOf hX12_sumOf c6 hc6 v1 v2 σ)
def fX12_termOf_l6 (N : Nat) (rX12_sumOf : Int32 → qMem → Option (Int64 × qMem)) : Nat → Int32 → Int64 → qMem → Option (Int64 × qMem)
  | 0 => fun _ _ _ => none
  | n + 1 => fun v1 v2 σ => fX12_termOf_s6 N rX12_sumOf (fX12_termOf_l6 N rX12_sumOf n) v1 v2 σ
theorem aX12_termOf_l6 (d : Nat) (N : Nat) (rX12_sumOf : Int32 → qMem → Option (Int64 × qMem)) (hX12_sumOf : ∀ (p1 : Int32)  (σ : qMem), qMc wM (mX12_sumOf d) (ρl) [.ref 0, .int p1] σ (rX12_sumOf p1 σ)) : ∀ (n : Nat) (v1 : Int32) (v2 : Int64) (σ : qMem), qAt wM (mX12_termOf d) (ρl) 6 [(0, .ref 0), (1, .int v1), (2, .long v2)] [] σ (fX12_termOf_l6 N rX12_sumOf n v1 v2 σ) := by
  intro n
  induction n with
  | zero => intro v1 v2 σ; exact q_none
  | succ n ih => intro v1 v2 σ; exact aX12_termOf_s6 d N rX12_sumOf hX12_sumOf (fX12_termOf_l6 N rX12_sumOf n) ih v1 v2 σ

def fX12_termOf (N : Nat) (rX12_sumOf : Int32 → qMem → Option (Int64 × qMem)) (p1 : Int32) (σ : qMem) : Option (Int64 × qMem) :=
  ((fX12_partOf N rX12_sumOf p1 σ).bind fun y1 => (fX12_termOf_l6 N rX12_sumOf N p1 y1.1 y1.2))
set_option maxRecDepth 20000 in
set_option maxHeartbeats 4000000 in
theorem aX12_termOf (d : Nat) (N : Nat) (rX12_sumOf : Int32 → qMem → Option (Int64 × qMem)) (p1 : Int32) (hX12_sumOf : ∀ (p1 : Int32)  (σ : qMem), qMc wM (mX12_sumOf d) (ρl) [.ref 0, .int p1] σ (rX12_sumOf p1 σ)) (σ : qMem) : qAt wM (mX12_termOf d) (ρl) 0 [(0, .ref 0), (1, .int p1)] [] σ (fX12_termOf N rX12_sumOf p1 σ) := by
  unfold fX12_termOf
  refine q_aload_n (i := 0) (x := 0) dX12_termOf_0 rfl 0 rfl ?_
  refine q_iload_n (i := 1) (x := p1) dX12_termOf_1 rfl 1 rfl ?_
  refine q_cVl (mX12_partOf d) [.int p1] (st := []) dX12_termOf_2 (svX12_406 _) (by unfold rR mX12_partOf mX12_termOf; constructor <;> dsimp only <;> omega) zM_0 rfl rfl rfl (Nat.le_of_ble_eq_true rfl) (kX12_partOf d N rX12_sumOf p1 hX12_sumOf σ) (fun y1 => ?_)
  refine q_lstore_n (i := 2) (L' := [(2, .long y1.1), (0, .ref 0), (1, .int p1)]) dX12_termOf_5 rfl (Nat.le_of_ble_eq_true rfl) rfl ?_
  exact q_sub [1, 2, 0] rfl (aX12_termOf_l6 d N rX12_sumOf hX12_sumOf N p1 y1.1 y1.2)
theorem kX12_termOf (d : Nat) (N : Nat) (rX12_sumOf : Int32 → qMem → Option (Int64 × qMem)) (p1 : Int32) (hX12_sumOf : ∀ (p1 : Int32)  (σ : qMem), qMc wM (mX12_sumOf d) (ρl) [.ref 0, .int p1] σ (rX12_sumOf p1 σ)) (σ : qMem) : qMc wM (mX12_termOf d) (ρl) [.ref 0, .int p1] σ (fX12_termOf N rX12_sumOf p1 σ) := qMc_of (moX12_termOf _) (Nat.le_of_ble_eq_true rfl) (aX12_termOf d N rX12_sumOf p1 hX12_sumOf σ)

theorem dX12_sumOf_0 : decode cX12_sumOf 0 = .ok (.aload_n 0, 1) := by decide +kernel
theorem dX12_sumOf_1 : decode cX12_sumOf 1 = .ok (.iload_n 1, 1) := by decide +kernel
theorem dX12_sumOf_2 : decode cX12_sumOf 2 = .ok (.invokevirtual 398, 3) := by decide +kernel
theorem dX12_sumOf_5 : decode cX12_sumOf 5 = .ok (.lstore_n 2, 1) := by decide +kernel
theorem dX12_sumOf_6 : decode cX12_sumOf 6 = .ok (.aload_n 0, 1) := by decide +kernel
theorem dX12_sumOf_7 : decode cX12_sumOf 7 = .ok (.aload_n 0, 1) := by decide +kernel
theorem dX12_sumOf_8 : decode cX12_sumOf 8 = .ok (.getfield 384, 3) := by decide +kernel
theorem dX12_sumOf_11 : decode cX12_sumOf 11 = .ok (.invokevirtual 387, 3) := by decide +kernel
theorem dX12_sumOf_14 : decode cX12_sumOf 14 = .ok (.bipush 43, 2) := by decide +kernel
theorem dX12_sumOf_16 : decode cX12_sumOf 16 = .ok (.invokestatic 356, 3) := by decide +kernel
theorem dX12_sumOf_19 : decode cX12_sumOf 19 = .ok (.if_icmp .eq 19, 3) := by decide +kernel
theorem dX12_sumOf_22 : decode cX12_sumOf 22 = .ok (.aload_n 0, 1) := by decide +kernel
theorem dX12_sumOf_23 : decode cX12_sumOf 23 = .ok (.aload_n 0, 1) := by decide +kernel
theorem dX12_sumOf_24 : decode cX12_sumOf 24 = .ok (.getfield 384, 3) := by decide +kernel
theorem dX12_sumOf_27 : decode cX12_sumOf 27 = .ok (.invokevirtual 387, 3) := by decide +kernel
theorem dX12_sumOf_30 : decode cX12_sumOf 30 = .ok (.bipush 45, 2) := by decide +kernel
theorem dX12_sumOf_32 : decode cX12_sumOf 32 = .ok (.invokestatic 356, 3) := by decide +kernel
theorem dX12_sumOf_35 : decode cX12_sumOf 35 = .ok (.if_icmp .ne 68, 3) := by decide +kernel
theorem dX12_sumOf_38 : decode cX12_sumOf 38 = .ok (.aload_n 0, 1) := by decide +kernel
theorem dX12_sumOf_39 : decode cX12_sumOf 39 = .ok (.aload_n 0, 1) := by decide +kernel
theorem dX12_sumOf_40 : decode cX12_sumOf 40 = .ok (.getfield 384, 3) := by decide +kernel
theorem dX12_sumOf_43 : decode cX12_sumOf 43 = .ok (.invokevirtual 387, 3) := by decide +kernel
theorem dX12_sumOf_46 : decode cX12_sumOf 46 = .ok (.bipush 43, 2) := by decide +kernel
theorem dX12_sumOf_48 : decode cX12_sumOf 48 = .ok (.invokestatic 356, 3) := by decide +kernel
theorem dX12_sumOf_51 : decode cX12_sumOf 51 = .ok (.if_icmp .ne 7, 3) := by decide +kernel
theorem dX12_sumOf_54 : decode cX12_sumOf 54 = .ok (.iconst 1, 1) := by decide +kernel
theorem dX12_sumOf_55 : decode cX12_sumOf 55 = .ok (.goto 4, 3) := by decide +kernel
theorem dX12_sumOf_58 : decode cX12_sumOf 58 = .ok (.iconst 0, 1) := by decide +kernel
theorem dX12_sumOf_59 : decode cX12_sumOf 59 = .ok (.istore 4, 2) := by decide +kernel
theorem dX12_sumOf_61 : decode cX12_sumOf 61 = .ok (.aload_n 0, 1) := by decide +kernel
theorem dX12_sumOf_62 : decode cX12_sumOf 62 = .ok (.dup, 1) := by decide +kernel
theorem dX12_sumOf_63 : decode cX12_sumOf 63 = .ok (.getfield 384, 3) := by decide +kernel
theorem dX12_sumOf_66 : decode cX12_sumOf 66 = .ok (.iconst 1, 1) := by decide +kernel
theorem dX12_sumOf_67 : decode cX12_sumOf 67 = .ok (.iadd, 1) := by decide +kernel
theorem dX12_sumOf_68 : decode cX12_sumOf 68 = .ok (.putfield 384, 3) := by decide +kernel
theorem dX12_sumOf_71 : decode cX12_sumOf 71 = .ok (.aload_n 0, 1) := by decide +kernel
theorem dX12_sumOf_72 : decode cX12_sumOf 72 = .ok (.iload_n 1, 1) := by decide +kernel
theorem dX12_sumOf_73 : decode cX12_sumOf 73 = .ok (.invokevirtual 398, 3) := by decide +kernel
theorem dX12_sumOf_76 : decode cX12_sumOf 76 = .ok (.lstore 5, 2) := by decide +kernel
theorem dX12_sumOf_78 : decode cX12_sumOf 78 = .ok (.aload_n 0, 1) := by decide +kernel
theorem dX12_sumOf_79 : decode cX12_sumOf 79 = .ok (.iload 4, 2) := by decide +kernel
theorem dX12_sumOf_81 : decode cX12_sumOf 81 = .ok (.ifCond .eq 10, 3) := by decide +kernel
theorem dX12_sumOf_84 : decode cX12_sumOf 84 = .ok (.lload_n 2, 1) := by decide +kernel
theorem dX12_sumOf_85 : decode cX12_sumOf 85 = .ok (.lload 5, 2) := by decide +kernel
theorem dX12_sumOf_87 : decode cX12_sumOf 87 = .ok (.ladd, 1) := by decide +kernel
theorem dX12_sumOf_88 : decode cX12_sumOf 88 = .ok (.goto 7, 3) := by decide +kernel
theorem dX12_sumOf_91 : decode cX12_sumOf 91 = .ok (.lload_n 2, 1) := by decide +kernel
theorem dX12_sumOf_92 : decode cX12_sumOf 92 = .ok (.lload 5, 2) := by decide +kernel
theorem dX12_sumOf_94 : decode cX12_sumOf 94 = .ok (.lsub, 1) := by decide +kernel
theorem dX12_sumOf_95 : decode cX12_sumOf 95 = .ok (.iload_n 1, 1) := by decide +kernel
theorem dX12_sumOf_96 : decode cX12_sumOf 96 = .ok (.invokevirtual 402, 3) := by decide +kernel
theorem dX12_sumOf_99 : decode cX12_sumOf 99 = .ok (.lstore_n 2, 1) := by decide +kernel
theorem dX12_sumOf_100 : decode cX12_sumOf 100 = .ok (.goto (-94), 3) := by decide +kernel
theorem dX12_sumOf_103 : decode cX12_sumOf 103 = .ok (.lload_n 2, 1) := by decide +kernel
theorem dX12_sumOf_104 : decode cX12_sumOf 104 = .ok (.lreturn, 1) := by decide +kernel
def fX12_sumOf_b95 (N : Nat) (rX12_sumOf : Int32 → qMem → Option (Int64 × qMem)) (c6 : Int32 → Int64 → qMem → Option (Int64 × qMem)) (v1 : Int32) (u1 : Int64) (σ : qMem) : Option (Int64 × qMem) :=
  ((fX12_bounded u1 v1 σ).bind fun y10 => (c6 v1 y10.1 y10.2))
set_option maxRecDepth 20000 in
set_option maxHeartbeats 4000000 in
theorem aX12_sumOf_b95 (d : Nat) (N : Nat) (rX12_sumOf : Int32 → qMem → Option (Int64 × qMem)) (hX12_sumOf : ∀ (p1 : Int32)  (σ : qMem), qMc wM (mX12_sumOf d) (ρl) [.ref 0, .int p1] σ (rX12_sumOf p1 σ)) (c6 : Int32 → Int64 → qMem → Option (Int64 × qMem)) (hc6 : ∀ (v1 : Int32) (v2 : Int64) (σ : qMem), qAt wM (mX12_sumOf (d + 1)) (ρl) 6 [(0, .ref 0), (1, .int v1), (2, .long v2)] [] σ (c6 v1 v2 σ)) (v1 : Int32) (u1 : Int64) (σ : qMem) : qAt wM (mX12_sumOf (d + 1)) (ρl) 95 [(0, .ref 0), (1, .int v1)] [.long u1, .ref 0] σ (fX12_sumOf_b95 N rX12_sumOf c6 v1 u1 σ) := by
  unfold fX12_sumOf_b95
  refine q_iload_n (i := 1) (x := v1) dX12_sumOf_95 rfl 1 rfl ?_
  refine q_cVl mX12_bounded [.long u1, .int v1] (st := []) dX12_sumOf_96 (svX12_402) (by unfold rR mX12_bounded mX12_sumOf; constructor <;> dsimp only <;> omega) zM_0 rfl rfl rfl (Nat.le_of_ble_eq_true rfl) (kX12_bounded u1 v1 σ) (fun y10 => ?_)
  refine q_lstore_n (i := 2) (L' := [(2, .long y10.1), (0, .ref 0), (1, .int v1)]) dX12_sumOf_99 rfl (Nat.le_of_ble_eq_true rfl) rfl ?_
  refine q_goto (tgt := 6) dX12_sumOf_100 (by decide) ?_
  exact q_sub [1, 2, 0] rfl (hc6 v1 y10.1 y10.2)

def fX12_sumOf_b59 (N : Nat) (rX12_sumOf : Int32 → qMem → Option (Int64 × qMem)) (c6 : Int32 → Int64 → qMem → Option (Int64 × qMem)) (v1 : Int32) (v2 : Int64) (u0 : Int32) (σ : qMem) : Option (Int64 × qMem) :=
  (nmM (si σ 0 37 ((gi σ 0 37) + 1)) fun s8 => ((fX12_termOf N rX12_sumOf v1 s8).bind fun y9 => (if u0 = 0 then (fX12_sumOf_b95 N rX12_sumOf c6 v1 (v2 - y9.1) y9.2) else (fX12_sumOf_b95 N rX12_sumOf c6 v1 (v2 + y9.1) y9.2))))
set_option maxRecDepth 20000 in
set_option maxHeartbeats 4000000 in
theorem aX12_sumOf_b59 (d : Nat) (N : Nat) (rX12_sumOf : Int32 → qMem → Option (Int64 × qMem)) (hX12_sumOf : ∀ (p1 : Int32)  (σ : qMem), qMc wM (mX12_sumOf d) (ρl) [.ref 0, .int p1] σ (rX12_sumOf p1 σ)) (c6 : Int32 → Int64 → qMem → Option (Int64 × qMem)) (hc6 : ∀ (v1 : Int32) (v2 : Int64) (σ : qMem), qAt wM (mX12_sumOf (d + 1)) (ρl) 6 [(0, .ref 0), (1, .int v1), (2, .long v2)] [] σ (c6 v1 v2 σ)) (v1 : Int32) (v2 : Int64) (u0 : Int32) (σ : qMem) : qAt wM (mX12_sumOf (d + 1)) (ρl) 59 [(0, .ref 0), (1, .int v1), (2, .long v2)] [.int u0] σ (fX12_sumOf_b59 N rX12_sumOf c6 v1 v2 u0 σ) := by
  unfold fX12_sumOf_b59
  refine q_istore (i := 4) (L' := [(4, .int u0), (0, .ref 0), (1, .int v1), (2, .long v2)]) dX12_sumOf_59 (Nat.le_of_ble_eq_true rfl) rfl ?_
  refine q_aload_n (i := 0) (x := 0) dX12_sumOf_61 rfl 1 rfl ?_
  refine q_dup dX12_sumOf_62 rfl ?_
  refine q_geti dX12_sumOf_63 foX12_384 zM_0 rfl ?_
  refine q_iconst (v := 1) dX12_sumOf_66 (by decide) ?_
  refine q_iadd dX12_sumOf_67 ?_
  refine q_puti dX12_sumOf_68 foX12_384 fwX12_37 zM_0 rfl ?_
  refine q_nmM (fun s8 => ?_)
  refine q_aload_n (i := 0) (x := 0) dX12_sumOf_71 rfl 1 rfl ?_
  refine q_iload_n (i := 1) (x := v1) dX12_sumOf_72 rfl 2 rfl ?_
  refine q_cVl (mX12_termOf d) [.int v1] (st := []) dX12_sumOf_73 (svX12_398 _) (by unfold rR mX12_sumOf mX12_termOf; constructor <;> dsimp only <;> omega) zM_0 rfl rfl rfl (Nat.le_of_ble_eq_true rfl) (kX12_termOf d N rX12_sumOf v1 hX12_sumOf s8) (fun y9 => ?_)
  refine q_lstore (i := 5) (L' := [(5, .long y9.1), (4, .int u0), (0, .ref 0), (1, .int v1), (2, .long v2)]) dX12_sumOf_76 (Nat.le_of_ble_eq_true rfl) rfl ?_
  refine q_aload_n (i := 0) (x := 0) dX12_sumOf_78 rfl 2 rfl ?_
  refine q_iload (i := 4) (x := u0) dX12_sumOf_79 1 rfl ?_
  refine q_if_eq (tgt := 91) dX12_sumOf_81 (by decide) ?_ ?_
  · refine q_lload_n (i := 2) (x := v2) dX12_sumOf_91 rfl 4 rfl ?_
    refine q_lload (i := 5) (x := y9.1) dX12_sumOf_92 0 rfl ?_
    refine q_lsub dX12_sumOf_94 ?_
    exact q_sub [2, 3] rfl (aX12_sumOf_b95 d N rX12_sumOf hX12_sumOf c6 hc6 v1 (v2 - y9.1) y9.2)
  refine q_lload_n (i := 2) (x := v2) dX12_sumOf_84 rfl 4 rfl ?_
  refine q_lload (i := 5) (x := y9.1) dX12_sumOf_85 0 rfl ?_
  refine q_ladd dX12_sumOf_87 ?_
  refine q_goto (tgt := 95) dX12_sumOf_88 (by decide) ?_
  exact q_sub [2, 3] rfl (aX12_sumOf_b95 d N rX12_sumOf hX12_sumOf c6 hc6 v1 (v2 + y9.1) y9.2)

def fX12_sumOf_b38 (N : Nat) (rX12_sumOf : Int32 → qMem → Option (Int64 × qMem)) (c6 : Int32 → Int64 → qMem → Option (Int64 × qMem)) (v1 : Int32) (v2 : Int64) (σ : qMem) : Option (Int64 × qMem) :=
  ((fX12_codeAt (gi σ 0 37) σ).bind fun y6 => ((fX12_sign 43).bind fun y7 => (if y6 = y7 then (fX12_sumOf_b59 N rX12_sumOf c6 v1 v2 1 σ) else (fX12_sumOf_b59 N rX12_sumOf c6 v1 v2 0 σ))))
set_option maxRecDepth 20000 in
set_option maxHeartbeats 4000000 in
theorem aX12_sumOf_b38 (d : Nat) (N : Nat) (rX12_sumOf : Int32 → qMem → Option (Int64 × qMem)) (hX12_sumOf : ∀ (p1 : Int32)  (σ : qMem), qMc wM (mX12_sumOf d) (ρl) [.ref 0, .int p1] σ (rX12_sumOf p1 σ)) (c6 : Int32 → Int64 → qMem → Option (Int64 × qMem)) (hc6 : ∀ (v1 : Int32) (v2 : Int64) (σ : qMem), qAt wM (mX12_sumOf (d + 1)) (ρl) 6 [(0, .ref 0), (1, .int v1), (2, .long v2)] [] σ (c6 v1 v2 σ)) (v1 : Int32) (v2 : Int64) (σ : qMem) : qAt wM (mX12_sumOf (d + 1)) (ρl) 38 [(0, .ref 0), (1, .int v1), (2, .long v2)] [] σ (fX12_sumOf_b38 N rX12_sumOf c6 v1 v2 σ) := by
  unfold fX12_sumOf_b38
  refine q_aload_n (i := 0) (x := 0) dX12_sumOf_38 rfl 0 rfl ?_
  refine q_aload_n (i := 0) (x := 0) dX12_sumOf_39 rfl 0 rfl ?_
  refine q_geti dX12_sumOf_40 foX12_384 zM_0 rfl ?_
  refine q_cVp mX12_codeAt [.int (gi σ 0 37)] (st := []) dX12_sumOf_43 (svX12_387) (by unfold rR mX12_codeAt mX12_sumOf; constructor <;> dsimp only <;> omega) zM_0 rfl rfl rfl (Nat.le_of_ble_eq_true rfl) (kX12_codeAt (gi σ 0 37) σ) (fun y6 => ?_)
  refine q_bipush (v := 43) dX12_sumOf_46 (by decide) ?_
  refine q_cSp mX12_sign [.int 43] (st := [.int y6]) dX12_sumOf_48 (ssX12_356) (by unfold rR mX12_sign mX12_sumOf; constructor <;> dsimp only <;> omega) rfl rfl (Nat.le_of_ble_eq_true rfl) (kX12_sign 43 σ) (fun y7 => ?_)
  refine q_icmp_ne (tgt := 58) dX12_sumOf_51 (by decide) ?_ ?_
  · refine q_iconst (v := 0) dX12_sumOf_58 (by decide) ?_
    exact q_sub [0, 1, 2] rfl (aX12_sumOf_b59 d N rX12_sumOf hX12_sumOf c6 hc6 v1 v2 0 σ)
  refine q_iconst (v := 1) dX12_sumOf_54 (by decide) ?_
  refine q_goto (tgt := 59) dX12_sumOf_55 (by decide) ?_
  exact q_sub [0, 1, 2] rfl (aX12_sumOf_b59 d N rX12_sumOf hX12_sumOf c6 hc6 v1 v2 1 σ)

def fX12_sumOf_s6 (N : Nat) (rX12_sumOf : Int32 → qMem → Option (Int64 × qMem)) (c6 : Int32 → Int64 → qMem → Option (Int64 × qMem)) (v1 : Int32) (v2 : Int64) (σ : qMem) : Option (Int64 × qMem) :=
  ((fX12_codeAt (gi σ 0 37) σ).bind fun y2 => ((fX12_sign 43).bind fun y3 => (if y2 = y3 then (fX12_sumOf_b38 N rX12_sumOf c6 v1 v2 σ) else ((fX12_codeAt (gi σ 0 37) σ).bind fun y4 => ((fX12_sign 45).bind fun y5 => (if y4 = y5 then (fX12_sumOf_b38 N rX12_sumOf c6 v1 v2 σ) else (some (v2, σ))))))))
set_option maxRecDepth 20000 in
set_option maxHeartbeats 4000000 in
theorem aX12_sumOf_s6 (d : Nat) (N : Nat) (rX12_sumOf : Int32 → qMem → Option (Int64 × qMem)) (hX12_sumOf : ∀ (p1 : Int32)  (σ : qMem), qMc wM (mX12_sumOf d) (ρl) [.ref 0, .int p1] σ (rX12_sumOf p1 σ)) (c6 : Int32 → Int64 → qMem → Option (Int64 × qMem)) (hc6 : ∀ (v1 : Int32) (v2 : Int64) (σ : qMem), qAt wM (mX12_sumOf (d + 1)) (ρl) 6 [(0, .ref 0), (1, .int v1), (2, .long v2)] [] σ (c6 v1 v2 σ)) (v1 : Int32) (v2 : Int64) (σ : qMem) : qAt wM (mX12_sumOf (d + 1)) (ρl) 6 [(0, .ref 0), (1, .int v1), (2, .long v2)] [] σ (fX12_sumOf_s6 N rX12_sumOf c6 v1 v2 σ) := by
  unfold fX12_sumOf_s6
  refine q_aload_n (i := 0) (x := 0) dX12_sumOf_6 rfl 0 rfl ?_
  refine q_aload_n (i := 0) (x := 0) dX12_sumOf_7 rfl 0 rfl ?_
  refine q_geti dX12_sumOf_8 foX12_384 zM_0 rfl ?_
  refine q_cVp mX12_codeAt [.int (gi σ 0 37)] (st := []) dX12_sumOf_11 (svX12_387) (by unfold rR mX12_codeAt mX12_sumOf; constructor <;> dsimp only <;> omega) zM_0 rfl rfl rfl (Nat.le_of_ble_eq_true rfl) (kX12_codeAt (gi σ 0 37) σ) (fun y2 => ?_)
  refine q_bipush (v := 43) dX12_sumOf_14 (by decide) ?_
  refine q_cSp mX12_sign [.int 43] (st := [.int y2]) dX12_sumOf_16 (ssX12_356) (by unfold rR mX12_sign mX12_sumOf; constructor <;> dsimp only <;> omega) rfl rfl (Nat.le_of_ble_eq_true rfl) (kX12_sign 43 σ) (fun y3 => ?_)
  refine q_icmp_eq (tgt := 38) dX12_sumOf_19 (by decide) ?_ ?_
  · exact q_sub [0, 1, 2] rfl (aX12_sumOf_b38 d N rX12_sumOf hX12_sumOf c6 hc6 v1 v2 σ)
  refine q_aload_n (i := 0) (x := 0) dX12_sumOf_22 rfl 0 rfl ?_
  refine q_aload_n (i := 0) (x := 0) dX12_sumOf_23 rfl 0 rfl ?_
  refine q_geti dX12_sumOf_24 foX12_384 zM_0 rfl ?_
  refine q_cVp mX12_codeAt [.int (gi σ 0 37)] (st := []) dX12_sumOf_27 (svX12_387) (by unfold rR mX12_codeAt mX12_sumOf; constructor <;> dsimp only <;> omega) zM_0 rfl rfl rfl (Nat.le_of_ble_eq_true rfl) (kX12_codeAt (gi σ 0 37) σ) (fun y4 => ?_)
  refine q_bipush (v := 45) dX12_sumOf_30 (by decide) ?_
  refine q_cSp mX12_sign [.int 45] (st := [.int y4]) dX12_sumOf_32 (ssX12_356) (by unfold rR mX12_sign mX12_sumOf; constructor <;> dsimp only <;> omega) rfl rfl (Nat.le_of_ble_eq_true rfl) (kX12_sign 45 σ) (fun y5 => ?_)
  refine q_icmp_ne (tgt := 103) dX12_sumOf_35 (by decide) ?_ ?_
  · refine q_lload_n (i := 2) (x := v2) dX12_sumOf_103 rfl 2 rfl ?_
    exact q_lret (y := (v2, σ)) dX12_sumOf_104 rfl rfl
  exact q_sub [0, 1, 2] rfl (aX12_sumOf_b38 d N rX12_sumOf hX12_sumOf c6 hc6 v1 v2 σ)
def fX12_sumOf_l6 (N : Nat) (rX12_sumOf : Int32 → qMem → Option (Int64 × qMem)) : Nat → Int32 → Int64 → qMem → Option (Int64 × qMem)
  | 0 => fun _ _ _ => none
  | n + 1 => fun v1 v2 σ => fX12_sumOf_s6 N rX12_sumOf (fX12_sumOf_l6 N rX12_sumOf n) v1 v2 σ
theorem aX12_sumOf_l6 (d : Nat) (N : Nat) (rX12_sumOf : Int32 → qMem → Option (Int64 × qMem)) (hX12_sumOf : ∀ (p1 : Int32)  (σ : qMem), qMc wM (mX12_sumOf d) (ρl) [.ref 0, .int p1] σ (rX12_sumOf p1 σ)) : ∀ (n : Nat) (v1 : Int32) (v2 : Int64) (σ : qMem), qAt wM (mX12_sumOf (d + 1)) (ρl) 6 [(0, .ref 0), (1, .int v1), (2, .long v2)] [] σ (fX12_sumOf_l6 N rX12_sumOf n v1 v2 σ) := by
  intro n
  induction n with
  | zero => intro v1 v2 σ; exact q_none
  | succ n ih => intro v1 v2 σ; exact aX12_sumOf_s6 d N rX12_sumOf hX12_sumOf (fX12_sumOf_l6 N rX12_sumOf n) ih v1 v2 σ

def fX12_sumOf_e (N : Nat) (rX12_sumOf : Int32 → qMem → Option (Int64 × qMem)) (p1 : Int32) (σ : qMem) : Option (Int64 × qMem) :=
  ((fX12_termOf N rX12_sumOf p1 σ).bind fun y1 => (fX12_sumOf_l6 N rX12_sumOf N p1 y1.1 y1.2))
set_option maxRecDepth 20000 in
set_option maxHeartbeats 4000000 in
theorem aX12_sumOf_e (d : Nat) (N : Nat) (rX12_sumOf : Int32 → qMem → Option (Int64 × qMem)) (p1 : Int32) (hX12_sumOf : ∀ (p1 : Int32)  (σ : qMem), qMc wM (mX12_sumOf d) (ρl) [.ref 0, .int p1] σ (rX12_sumOf p1 σ)) (σ : qMem) : qAt wM (mX12_sumOf (d + 1)) (ρl) 0 [(0, .ref 0), (1, .int p1)] [] σ (fX12_sumOf_e N rX12_sumOf p1 σ) := by
  unfold fX12_sumOf_e
  refine q_aload_n (i := 0) (x := 0) dX12_sumOf_0 rfl 0 rfl ?_
  refine q_iload_n (i := 1) (x := p1) dX12_sumOf_1 rfl 1 rfl ?_
  refine q_cVl (mX12_termOf d) [.int p1] (st := []) dX12_sumOf_2 (svX12_398 _) (by unfold rR mX12_sumOf mX12_termOf; constructor <;> dsimp only <;> omega) zM_0 rfl rfl rfl (Nat.le_of_ble_eq_true rfl) (kX12_termOf d N rX12_sumOf p1 hX12_sumOf σ) (fun y1 => ?_)
  refine q_lstore_n (i := 2) (L' := [(2, .long y1.1), (0, .ref 0), (1, .int p1)]) dX12_sumOf_5 rfl (Nat.le_of_ble_eq_true rfl) rfl ?_
  exact q_sub [1, 2, 0] rfl (aX12_sumOf_l6 d N rX12_sumOf hX12_sumOf N p1 y1.1 y1.2)
def fX12_sumOf (N : Nat) : Nat → Int32 → qMem → Option (Int64 × qMem)
  | 0 => fun _ _ => none
  | d + 1 => fun p1 σ => fX12_sumOf_e N (fX12_sumOf N d) p1 σ
theorem kX12_sumOf (N : Nat) : ∀ (d : Nat) (p1 : Int32)  (σ : qMem), qMc wM (mX12_sumOf d) (ρl) [.ref 0, .int p1] σ (fX12_sumOf N d p1 σ) := by
  intro d
  induction d with
  | zero => intro p1  σ; exact fun _ h => by cases h
  | succ d ih => intro p1  σ; exact qMc_of (moX12_sumOf _) (Nat.le_of_ble_eq_true rfl) (aX12_sumOf_e d N (fX12_sumOf N d) p1 ih  σ)

theorem dX12_positiveOf_0 : decode cX12_positiveOf 0 = .ok (.aload_n 0, 1) := by decide +kernel
theorem dX12_positiveOf_1 : decode cX12_positiveOf 1 = .ok (.bipush 40, 2) := by decide +kernel
theorem dX12_positiveOf_3 : decode cX12_positiveOf 3 = .ok (.invokestatic 356, 3) := by decide +kernel
theorem dX12_positiveOf_6 : decode cX12_positiveOf 6 = .ok (.invokevirtual 409, 3) := by decide +kernel
theorem dX12_positiveOf_9 : decode cX12_positiveOf 9 = .ok (.ifCond .eq 21, 3) := by decide +kernel
theorem dX12_positiveOf_12 : decode cX12_positiveOf 12 = .ok (.aload_n 0, 1) := by decide +kernel
theorem dX12_positiveOf_13 : decode cX12_positiveOf 13 = .ok (.iload_n 1, 1) := by decide +kernel
theorem dX12_positiveOf_14 : decode cX12_positiveOf 14 = .ok (.invokevirtual 425, 3) := by decide +kernel
theorem dX12_positiveOf_17 : decode cX12_positiveOf 17 = .ok (.istore_n 2, 1) := by decide +kernel
theorem dX12_positiveOf_18 : decode cX12_positiveOf 18 = .ok (.aload_n 0, 1) := by decide +kernel
theorem dX12_positiveOf_19 : decode cX12_positiveOf 19 = .ok (.dup, 1) := by decide +kernel
theorem dX12_positiveOf_20 : decode cX12_positiveOf 20 = .ok (.getfield 384, 3) := by decide +kernel
theorem dX12_positiveOf_23 : decode cX12_positiveOf 23 = .ok (.iconst 1, 1) := by decide +kernel
theorem dX12_positiveOf_24 : decode cX12_positiveOf 24 = .ok (.iadd, 1) := by decide +kernel
theorem dX12_positiveOf_25 : decode cX12_positiveOf 25 = .ok (.putfield 384, 3) := by decide +kernel
theorem dX12_positiveOf_28 : decode cX12_positiveOf 28 = .ok (.iload_n 2, 1) := by decide +kernel
theorem dX12_positiveOf_29 : decode cX12_positiveOf 29 = .ok (.ireturn, 1) := by decide +kernel
theorem dX12_positiveOf_30 : decode cX12_positiveOf 30 = .ok (.aload_n 0, 1) := by decide +kernel
theorem dX12_positiveOf_31 : decode cX12_positiveOf 31 = .ok (.iload_n 1, 1) := by decide +kernel
theorem dX12_positiveOf_32 : decode cX12_positiveOf 32 = .ok (.invokevirtual 412, 3) := by decide +kernel
theorem dX12_positiveOf_35 : decode cX12_positiveOf 35 = .ok (.lstore_n 2, 1) := by decide +kernel
theorem dX12_positiveOf_36 : decode cX12_positiveOf 36 = .ok (.aload_n 0, 1) := by decide +kernel
theorem dX12_positiveOf_37 : decode cX12_positiveOf 37 = .ok (.aload_n 0, 1) := by decide +kernel
theorem dX12_positiveOf_38 : decode cX12_positiveOf 38 = .ok (.getfield 384, 3) := by decide +kernel
theorem dX12_positiveOf_41 : decode cX12_positiveOf 41 = .ok (.invokevirtual 387, 3) := by decide +kernel
theorem dX12_positiveOf_44 : decode cX12_positiveOf 44 = .ok (.istore 4, 2) := by decide +kernel
theorem dX12_positiveOf_46 : decode cX12_positiveOf 46 = .ok (.aload_n 0, 1) := by decide +kernel
theorem dX12_positiveOf_47 : decode cX12_positiveOf 47 = .ok (.dup, 1) := by decide +kernel
theorem dX12_positiveOf_48 : decode cX12_positiveOf 48 = .ok (.getfield 384, 3) := by decide +kernel
theorem dX12_positiveOf_51 : decode cX12_positiveOf 51 = .ok (.iconst 1, 1) := by decide +kernel
theorem dX12_positiveOf_52 : decode cX12_positiveOf 52 = .ok (.iadd, 1) := by decide +kernel
theorem dX12_positiveOf_53 : decode cX12_positiveOf 53 = .ok (.putfield 384, 3) := by decide +kernel
theorem dX12_positiveOf_56 : decode cX12_positiveOf 56 = .ok (.aload_n 0, 1) := by decide +kernel
theorem dX12_positiveOf_57 : decode cX12_positiveOf 57 = .ok (.iload_n 1, 1) := by decide +kernel
theorem dX12_positiveOf_58 : decode cX12_positiveOf 58 = .ok (.invokevirtual 412, 3) := by decide +kernel
theorem dX12_positiveOf_61 : decode cX12_positiveOf 61 = .ok (.lstore 5, 2) := by decide +kernel
theorem dX12_positiveOf_63 : decode cX12_positiveOf 63 = .ok (.iload_n 1, 1) := by decide +kernel
theorem dX12_positiveOf_64 : decode cX12_positiveOf 64 = .ok (.ifCond .eq 61, 3) := by decide +kernel
theorem dX12_positiveOf_67 : decode cX12_positiveOf 67 = .ok (.aload_n 0, 1) := by decide +kernel
theorem dX12_positiveOf_68 : decode cX12_positiveOf 68 = .ok (.getfield 394, 3) := by decide +kernel
theorem dX12_positiveOf_71 : decode cX12_positiveOf 71 = .ok (.ifCond .ne 54, 3) := by decide +kernel
theorem dX12_positiveOf_74 : decode cX12_positiveOf 74 = .ok (.iload 4, 2) := by decide +kernel
theorem dX12_positiveOf_76 : decode cX12_positiveOf 76 = .ok (.bipush 60, 2) := by decide +kernel
theorem dX12_positiveOf_78 : decode cX12_positiveOf 78 = .ok (.invokestatic 356, 3) := by decide +kernel
theorem dX12_positiveOf_81 : decode cX12_positiveOf 81 = .ok (.if_icmp .ne 13, 3) := by decide +kernel
theorem dX12_positiveOf_84 : decode cX12_positiveOf 84 = .ok (.lload_n 2, 1) := by decide +kernel
theorem dX12_positiveOf_85 : decode cX12_positiveOf 85 = .ok (.lload 5, 2) := by decide +kernel
theorem dX12_positiveOf_87 : decode cX12_positiveOf 87 = .ok (.lcmp, 1) := by decide +kernel
theorem dX12_positiveOf_88 : decode cX12_positiveOf 88 = .ok (.ifCond .ge 37, 3) := by decide +kernel
theorem dX12_positiveOf_91 : decode cX12_positiveOf 91 = .ok (.goto 30, 3) := by decide +kernel
theorem dX12_positiveOf_94 : decode cX12_positiveOf 94 = .ok (.iload 4, 2) := by decide +kernel
theorem dX12_positiveOf_96 : decode cX12_positiveOf 96 = .ok (.bipush 62, 2) := by decide +kernel
theorem dX12_positiveOf_98 : decode cX12_positiveOf 98 = .ok (.invokestatic 356, 3) := by decide +kernel
theorem dX12_positiveOf_101 : decode cX12_positiveOf 101 = .ok (.if_icmp .ne 13, 3) := by decide +kernel
theorem dX12_positiveOf_104 : decode cX12_positiveOf 104 = .ok (.lload_n 2, 1) := by decide +kernel
theorem dX12_positiveOf_105 : decode cX12_positiveOf 105 = .ok (.lload 5, 2) := by decide +kernel
theorem dX12_positiveOf_107 : decode cX12_positiveOf 107 = .ok (.lcmp, 1) := by decide +kernel
theorem dX12_positiveOf_108 : decode cX12_positiveOf 108 = .ok (.ifCond .le 17, 3) := by decide +kernel
theorem dX12_positiveOf_111 : decode cX12_positiveOf 111 = .ok (.goto 10, 3) := by decide +kernel
theorem dX12_positiveOf_114 : decode cX12_positiveOf 114 = .ok (.lload_n 2, 1) := by decide +kernel
theorem dX12_positiveOf_115 : decode cX12_positiveOf 115 = .ok (.lload 5, 2) := by decide +kernel
theorem dX12_positiveOf_117 : decode cX12_positiveOf 117 = .ok (.lcmp, 1) := by decide +kernel
theorem dX12_positiveOf_118 : decode cX12_positiveOf 118 = .ok (.ifCond .ne 7, 3) := by decide +kernel
theorem dX12_positiveOf_121 : decode cX12_positiveOf 121 = .ok (.iconst 1, 1) := by decide +kernel
theorem dX12_positiveOf_122 : decode cX12_positiveOf 122 = .ok (.goto 4, 3) := by decide +kernel
theorem dX12_positiveOf_125 : decode cX12_positiveOf 125 = .ok (.iconst 0, 1) := by decide +kernel
theorem dX12_positiveOf_126 : decode cX12_positiveOf 126 = .ok (.ireturn, 1) := by decide +kernel
def fX12_positiveOf_b125 (N : Nat) (rX12_testOf : Int32 → qMem → Option (Int32 × qMem)) (σ : qMem) : Option (Int32 × qMem) :=
  (some (0, σ))
set_option maxRecDepth 20000 in
set_option maxHeartbeats 4000000 in
theorem aX12_positiveOf_b125 (d : Nat) (N : Nat) (rX12_testOf : Int32 → qMem → Option (Int32 × qMem)) (hX12_testOf : ∀ (p1 : Int32)  (σ : qMem), qMc wM (mX12_testOf d) (ρi) [.ref 0, .int p1] σ (rX12_testOf p1 σ)) (σ : qMem) : qAt wM (mX12_positiveOf d) (ρi) 125 [] [] σ (fX12_positiveOf_b125 N rX12_testOf σ) := by
  unfold fX12_positiveOf_b125
  refine q_iconst (v := 0) dX12_positiveOf_125 (by decide) ?_
  exact q_iretz (y := (0, σ)) dX12_positiveOf_126 rfl rfl rfl

def fX12_positiveOf_b121 (N : Nat) (rX12_testOf : Int32 → qMem → Option (Int32 × qMem)) (σ : qMem) : Option (Int32 × qMem) :=
  (some (1, σ))
set_option maxRecDepth 20000 in
set_option maxHeartbeats 4000000 in
theorem aX12_positiveOf_b121 (d : Nat) (N : Nat) (rX12_testOf : Int32 → qMem → Option (Int32 × qMem)) (hX12_testOf : ∀ (p1 : Int32)  (σ : qMem), qMc wM (mX12_testOf d) (ρi) [.ref 0, .int p1] σ (rX12_testOf p1 σ)) (σ : qMem) : qAt wM (mX12_positiveOf d) (ρi) 121 [] [] σ (fX12_positiveOf_b121 N rX12_testOf σ) := by
  unfold fX12_positiveOf_b121
  refine q_iconst (v := 1) dX12_positiveOf_121 (by decide) ?_
  refine q_goto (tgt := 126) dX12_positiveOf_122 (by decide) ?_
  exact q_iretz (y := (1, σ)) dX12_positiveOf_126 rfl rfl rfl

def fX12_positiveOf (N : Nat) (rX12_testOf : Int32 → qMem → Option (Int32 × qMem)) (p1 : Int32) (σ : qMem) : Option (Int32 × qMem) :=
  ((fX12_sign 40).bind fun y1 => ((fX12_passes y1 σ).bind fun y2 => (if y2.1 = 0 then ((fX12_sumOf N 10 p1 y2.2).bind fun y3 => ((fX12_codeAt (gi y3.2 0 37) y3.2).bind fun y4 => (nmM (si y3.2 0 37 ((gi y3.2 0 37) + 1)) fun s5 => ((fX12_sumOf N 10 p1 s5).bind fun y6 => (if p1 = 0 then (fX12_positiveOf_b125 N rX12_testOf y6.2) else (if (gi y6.2 0 39) = 0 then ((fX12_sign 60).bind fun y7 => (if y4 = y7 then (if 0 ≤ (lg_cmp y3.1 y6.1) then (fX12_positiveOf_b125 N rX12_testOf y6.2) else (fX12_positiveOf_b121 N rX12_testOf y6.2)) else ((fX12_sign 62).bind fun y8 => (if y4 = y8 then (if (lg_cmp y3.1 y6.1) ≤ 0 then (fX12_positiveOf_b125 N rX12_testOf y6.2) else (fX12_positiveOf_b121 N rX12_testOf y6.2)) else (if (lg_cmp y3.1 y6.1) = 0 then (fX12_positiveOf_b121 N rX12_testOf y6.2) else (fX12_positiveOf_b125 N rX12_testOf y6.2)))))) else (fX12_positiveOf_b125 N rX12_testOf y6.2))))))) else ((rX12_testOf p1 y2.2).bind fun y9 => (nmM (si y9.2 0 37 ((gi y9.2 0 37) + 1)) fun s10 => (if y9.1 = 0 ∨ y9.1 = 1 then some (y9.1, s10) else none))))))
set_option maxRecDepth 20000 in
set_option maxHeartbeats 4000000 in
theorem aX12_positiveOf (d : Nat) (N : Nat) (rX12_testOf : Int32 → qMem → Option (Int32 × qMem)) (p1 : Int32) (hX12_testOf : ∀ (p1 : Int32)  (σ : qMem), qMc wM (mX12_testOf d) (ρi) [.ref 0, .int p1] σ (rX12_testOf p1 σ)) (σ : qMem) : qAt wM (mX12_positiveOf d) (ρi) 0 [(0, .ref 0), (1, .int p1)] [] σ (fX12_positiveOf N rX12_testOf p1 σ) := by
  unfold fX12_positiveOf
  refine q_aload_n (i := 0) (x := 0) dX12_positiveOf_0 rfl 0 rfl ?_
  refine q_bipush (v := 40) dX12_positiveOf_1 (by decide) ?_
  refine q_cSp mX12_sign [.int 40] (st := [.ref 0]) dX12_positiveOf_3 (ssX12_356) (by unfold rR mX12_positiveOf mX12_sign; constructor <;> dsimp only <;> omega) rfl rfl (Nat.le_of_ble_eq_true rfl) (kX12_sign 40 σ) (fun y1 => ?_)
  refine q_cVi mX12_passes [.int y1] (st := []) dX12_positiveOf_6 (svX12_409) (by unfold rR mX12_passes mX12_positiveOf; constructor <;> dsimp only <;> omega) zM_0 rfl rfl rfl (Nat.le_of_ble_eq_true rfl) (kX12_passes y1 σ) (fun y2 => ?_)
  refine q_if_eq (tgt := 30) dX12_positiveOf_9 (by decide) ?_ ?_
  · refine q_aload_n (i := 0) (x := 0) dX12_positiveOf_30 rfl 0 rfl ?_
    refine q_iload_n (i := 1) (x := p1) dX12_positiveOf_31 rfl 1 rfl ?_
    refine q_cVl (mX12_sumOf 10) [.int p1] (st := []) dX12_positiveOf_32 (svX12_412 _) (by unfold rR mX12_positiveOf mX12_sumOf; constructor <;> dsimp only <;> omega) zM_0 rfl rfl rfl (Nat.le_of_ble_eq_true rfl) (kX12_sumOf N 10 p1 y2.2) (fun y3 => ?_)
    refine q_lstore_n (i := 2) (L' := [(2, .long y3.1), (0, .ref 0), (1, .int p1)]) dX12_positiveOf_35 rfl (Nat.le_of_ble_eq_true rfl) rfl ?_
    refine q_aload_n (i := 0) (x := 0) dX12_positiveOf_36 rfl 1 rfl ?_
    refine q_aload_n (i := 0) (x := 0) dX12_positiveOf_37 rfl 1 rfl ?_
    refine q_geti dX12_positiveOf_38 foX12_384 zM_0 rfl ?_
    refine q_cVp mX12_codeAt [.int (gi y3.2 0 37)] (st := []) dX12_positiveOf_41 (svX12_387) (by unfold rR mX12_codeAt mX12_positiveOf; constructor <;> dsimp only <;> omega) zM_0 rfl rfl rfl (Nat.le_of_ble_eq_true rfl) (kX12_codeAt (gi y3.2 0 37) y3.2) (fun y4 => ?_)
    refine q_istore (i := 4) (L' := [(4, .int y4), (2, .long y3.1), (0, .ref 0), (1, .int p1)]) dX12_positiveOf_44 (Nat.le_of_ble_eq_true rfl) rfl ?_
    refine q_aload_n (i := 0) (x := 0) dX12_positiveOf_46 rfl 2 rfl ?_
    refine q_dup dX12_positiveOf_47 rfl ?_
    refine q_geti dX12_positiveOf_48 foX12_384 zM_0 rfl ?_
    refine q_iconst (v := 1) dX12_positiveOf_51 (by decide) ?_
    refine q_iadd dX12_positiveOf_52 ?_
    refine q_puti dX12_positiveOf_53 foX12_384 fwX12_37 zM_0 rfl ?_
    refine q_nmM (fun s5 => ?_)
    refine q_aload_n (i := 0) (x := 0) dX12_positiveOf_56 rfl 2 rfl ?_
    refine q_iload_n (i := 1) (x := p1) dX12_positiveOf_57 rfl 3 rfl ?_
    refine q_cVl (mX12_sumOf 10) [.int p1] (st := []) dX12_positiveOf_58 (svX12_412 _) (by unfold rR mX12_positiveOf mX12_sumOf; constructor <;> dsimp only <;> omega) zM_0 rfl rfl rfl (Nat.le_of_ble_eq_true rfl) (kX12_sumOf N 10 p1 s5) (fun y6 => ?_)
    refine q_lstore (i := 5) (L' := [(5, .long y6.1), (4, .int y4), (2, .long y3.1), (0, .ref 0), (1, .int p1)]) dX12_positiveOf_61 (Nat.le_of_ble_eq_true rfl) rfl ?_
    refine q_iload_n (i := 1) (x := p1) dX12_positiveOf_63 rfl 4 rfl ?_
    refine q_if_eq (tgt := 125) dX12_positiveOf_64 (by decide) ?_ ?_
    · exact q_sub [] rfl (aX12_positiveOf_b125 d N rX12_testOf hX12_testOf y6.2)
    refine q_aload_n (i := 0) (x := 0) dX12_positiveOf_67 rfl 3 rfl ?_
    refine q_geti dX12_positiveOf_68 foX12_394 zM_0 rfl ?_
    refine q_if_ne (tgt := 125) dX12_positiveOf_71 (by decide) ?_ ?_
    · exact q_sub [] rfl (aX12_positiveOf_b125 d N rX12_testOf hX12_testOf y6.2)
    refine q_iload (i := 4) (x := y4) dX12_positiveOf_74 1 rfl ?_
    refine q_bipush (v := 60) dX12_positiveOf_76 (by decide) ?_
    refine q_cSp mX12_sign [.int 60] (st := [.int y4]) dX12_positiveOf_78 (ssX12_356) (by unfold rR mX12_positiveOf mX12_sign; constructor <;> dsimp only <;> omega) rfl rfl (Nat.le_of_ble_eq_true rfl) (kX12_sign 60 y6.2) (fun y7 => ?_)
    refine q_icmp_ne (tgt := 94) dX12_positiveOf_81 (by decide) ?_ ?_
    · refine q_iload (i := 4) (x := y4) dX12_positiveOf_94 1 rfl ?_
      refine q_bipush (v := 62) dX12_positiveOf_96 (by decide) ?_
      refine q_cSp mX12_sign [.int 62] (st := [.int y4]) dX12_positiveOf_98 (ssX12_356) (by unfold rR mX12_positiveOf mX12_sign; constructor <;> dsimp only <;> omega) rfl rfl (Nat.le_of_ble_eq_true rfl) (kX12_sign 62 y6.2) (fun y8 => ?_)
      refine q_icmp_ne (tgt := 114) dX12_positiveOf_101 (by decide) ?_ ?_
      · refine q_lload_n (i := 2) (x := y3.1) dX12_positiveOf_114 rfl 2 rfl ?_
        refine q_lload (i := 5) (x := y6.1) dX12_positiveOf_115 0 rfl ?_
        refine q_lcmp dX12_positiveOf_117 ?_
        refine q_if_ne (tgt := 125) dX12_positiveOf_118 (by decide) ?_ ?_
        · exact q_sub [] rfl (aX12_positiveOf_b125 d N rX12_testOf hX12_testOf y6.2)
        exact q_sub [] rfl (aX12_positiveOf_b121 d N rX12_testOf hX12_testOf y6.2)
      refine q_lload_n (i := 2) (x := y3.1) dX12_positiveOf_104 rfl 2 rfl ?_
      refine q_lload (i := 5) (x := y6.1) dX12_positiveOf_105 0 rfl ?_
      refine q_lcmp dX12_positiveOf_107 ?_
      refine q_if_le (tgt := 125) dX12_positiveOf_108 (by decide) ?_ ?_
      · exact q_sub [] rfl (aX12_positiveOf_b125 d N rX12_testOf hX12_testOf y6.2)
      refine q_goto (tgt := 121) dX12_positiveOf_111 (by decide) ?_
      exact q_sub [] rfl (aX12_positiveOf_b121 d N rX12_testOf hX12_testOf y6.2)
    refine q_lload_n (i := 2) (x := y3.1) dX12_positiveOf_84 rfl 2 rfl ?_
    refine q_lload (i := 5) (x := y6.1) dX12_positiveOf_85 0 rfl ?_
    refine q_lcmp dX12_positiveOf_87 ?_
    refine q_if_ge (tgt := 125) dX12_positiveOf_88 (by decide) ?_ ?_
    · exact q_sub [] rfl (aX12_positiveOf_b125 d N rX12_testOf hX12_testOf y6.2)
    refine q_goto (tgt := 121) dX12_positiveOf_91 (by decide) ?_
    exact q_sub [] rfl (aX12_positiveOf_b121 d N rX12_testOf hX12_testOf y6.2)
  refine q_aload_n (i := 0) (x := 0) dX12_positiveOf_12 rfl 0 rfl ?_
  refine q_iload_n (i := 1) (x := p1) dX12_positiveOf_13 rfl 1 rfl ?_
  refine q_cVi (mX12_testOf d) [.int p1] (st := []) dX12_positiveOf_14 (svX12_425 _) (by unfold rR mX12_positiveOf mX12_testOf; constructor <;> dsimp only <;> omega) zM_0 rfl rfl rfl (Nat.le_of_ble_eq_true rfl) (hX12_testOf p1 y2.2) (fun y9 => ?_)
  refine q_istore_n (i := 2) (L' := [(2, .int y9.1), (0, .ref 0), (1, .int p1)]) dX12_positiveOf_17 rfl (Nat.le_of_ble_eq_true rfl) rfl ?_
  refine q_aload_n (i := 0) (x := 0) dX12_positiveOf_18 rfl 1 rfl ?_
  refine q_dup dX12_positiveOf_19 rfl ?_
  refine q_geti dX12_positiveOf_20 foX12_384 zM_0 rfl ?_
  refine q_iconst (v := 1) dX12_positiveOf_23 (by decide) ?_
  refine q_iadd dX12_positiveOf_24 ?_
  refine q_puti dX12_positiveOf_25 foX12_384 fwX12_37 zM_0 rfl ?_
  refine q_nmM (fun s10 => ?_)
  refine q_iload_n (i := 2) (x := y9.1) dX12_positiveOf_28 rfl 0 rfl ?_
  exact q_if (fun hz => q_iretz (y := (y9.1, s10)) dX12_positiveOf_29 rfl (nb_ok hz) rfl)
theorem kX12_positiveOf (d : Nat) (N : Nat) (rX12_testOf : Int32 → qMem → Option (Int32 × qMem)) (p1 : Int32) (hX12_testOf : ∀ (p1 : Int32)  (σ : qMem), qMc wM (mX12_testOf d) (ρi) [.ref 0, .int p1] σ (rX12_testOf p1 σ)) (σ : qMem) : qMc wM (mX12_positiveOf d) (ρi) [.ref 0, .int p1] σ (fX12_positiveOf N rX12_testOf p1 σ) := qMc_of (moX12_positiveOf _) (Nat.le_of_ble_eq_true rfl) (aX12_positiveOf d N rX12_testOf p1 hX12_testOf σ)

theorem dX12_plainOf_0 : decode cX12_plainOf 0 = .ok (.iconst 0, 1) := by decide +kernel
theorem dX12_plainOf_1 : decode cX12_plainOf 1 = .ok (.istore_n 2, 1) := by decide +kernel
theorem dX12_plainOf_2 : decode cX12_plainOf 2 = .ok (.aload_n 0, 1) := by decide +kernel
theorem dX12_plainOf_3 : decode cX12_plainOf 3 = .ok (.bipush 7, 2) := by decide +kernel
theorem dX12_plainOf_5 : decode cX12_plainOf 5 = .ok (.invokevirtual 409, 3) := by decide +kernel
theorem dX12_plainOf_8 : decode cX12_plainOf 8 = .ok (.ifCond .eq 16, 3) := by decide +kernel
theorem dX12_plainOf_11 : decode cX12_plainOf 11 = .ok (.iload_n 2, 1) := by decide +kernel
theorem dX12_plainOf_12 : decode cX12_plainOf 12 = .ok (.ifCond .ne 7, 3) := by decide +kernel
theorem dX12_plainOf_15 : decode cX12_plainOf 15 = .ok (.iconst 1, 1) := by decide +kernel
theorem dX12_plainOf_16 : decode cX12_plainOf 16 = .ok (.goto 4, 3) := by decide +kernel
theorem dX12_plainOf_19 : decode cX12_plainOf 19 = .ok (.iconst 0, 1) := by decide +kernel
theorem dX12_plainOf_20 : decode cX12_plainOf 20 = .ok (.istore_n 2, 1) := by decide +kernel
theorem dX12_plainOf_21 : decode cX12_plainOf 21 = .ok (.goto (-19), 3) := by decide +kernel
theorem dX12_plainOf_24 : decode cX12_plainOf 24 = .ok (.aload_n 0, 1) := by decide +kernel
theorem dX12_plainOf_25 : decode cX12_plainOf 25 = .ok (.iload_n 1, 1) := by decide +kernel
theorem dX12_plainOf_26 : decode cX12_plainOf 26 = .ok (.invokevirtual 422, 3) := by decide +kernel
theorem dX12_plainOf_29 : decode cX12_plainOf 29 = .ok (.iload_n 2, 1) := by decide +kernel
theorem dX12_plainOf_30 : decode cX12_plainOf 30 = .ok (.if_icmp .eq 7, 3) := by decide +kernel
theorem dX12_plainOf_33 : decode cX12_plainOf 33 = .ok (.iconst 1, 1) := by decide +kernel
theorem dX12_plainOf_34 : decode cX12_plainOf 34 = .ok (.goto 4, 3) := by decide +kernel
theorem dX12_plainOf_37 : decode cX12_plainOf 37 = .ok (.iconst 0, 1) := by decide +kernel
theorem dX12_plainOf_38 : decode cX12_plainOf 38 = .ok (.ireturn, 1) := by decide +kernel
def fX12_plainOf_b20 (N : Nat) (rX12_testOf : Int32 → qMem → Option (Int32 × qMem)) (c2 : Int32 → Int32 → qMem → Option (Int32 × qMem)) (v1 : Int32) (u0 : Int32) (σ : qMem) : Option (Int32 × qMem) :=
  (c2 v1 u0 σ)
set_option maxRecDepth 20000 in
set_option maxHeartbeats 4000000 in
theorem aX12_plainOf_b20 (d : Nat) (N : Nat) (rX12_testOf : Int32 → qMem → Option (Int32 × qMem)) (hX12_testOf : ∀ (p1 : Int32)  (σ : qMem), qMc wM (mX12_testOf d) (ρi) [.ref 0, .int p1] σ (rX12_testOf p1 σ)) (c2 : Int32 → Int32 → qMem → Option (Int32 × qMem)) (hc2 : ∀ (v1 : Int32) (v2 : Int32) (σ : qMem), qAt wM (mX12_plainOf d) (ρi) 2 [(0, .ref 0), (1, .int v1), (2, .int v2)] [] σ (c2 v1 v2 σ)) (v1 : Int32) (u0 : Int32) (σ : qMem) : qAt wM (mX12_plainOf d) (ρi) 20 [(0, .ref 0), (1, .int v1)] [.int u0] σ (fX12_plainOf_b20 N rX12_testOf c2 v1 u0 σ) := by
  unfold fX12_plainOf_b20
  refine q_istore_n (i := 2) (L' := [(2, .int u0), (0, .ref 0), (1, .int v1)]) dX12_plainOf_20 rfl (Nat.le_of_ble_eq_true rfl) rfl ?_
  refine q_goto (tgt := 2) dX12_plainOf_21 (by decide) ?_
  exact q_sub [1, 2, 0] rfl (hc2 v1 u0 σ)

def fX12_plainOf_s2 (N : Nat) (rX12_testOf : Int32 → qMem → Option (Int32 × qMem)) (c2 : Int32 → Int32 → qMem → Option (Int32 × qMem)) (v1 : Int32) (v2 : Int32) (σ : qMem) : Option (Int32 × qMem) :=
  ((fX12_passes 7 σ).bind fun y1 => (if y1.1 = 0 then ((fX12_positiveOf N rX12_testOf v1 y1.2).bind fun y2 => (if y2.1 = v2 then (some (0, y2.2)) else (some (1, y2.2)))) else (if v2 = 0 then (fX12_plainOf_b20 N rX12_testOf c2 v1 1 y1.2) else (fX12_plainOf_b20 N rX12_testOf c2 v1 0 y1.2))))
set_option maxRecDepth 20000 in
set_option maxHeartbeats 4000000 in
theorem aX12_plainOf_s2 (d : Nat) (N : Nat) (rX12_testOf : Int32 → qMem → Option (Int32 × qMem)) (hX12_testOf : ∀ (p1 : Int32)  (σ : qMem), qMc wM (mX12_testOf d) (ρi) [.ref 0, .int p1] σ (rX12_testOf p1 σ)) (c2 : Int32 → Int32 → qMem → Option (Int32 × qMem)) (hc2 : ∀ (v1 : Int32) (v2 : Int32) (σ : qMem), qAt wM (mX12_plainOf d) (ρi) 2 [(0, .ref 0), (1, .int v1), (2, .int v2)] [] σ (c2 v1 v2 σ)) (v1 : Int32) (v2 : Int32) (σ : qMem) : qAt wM (mX12_plainOf d) (ρi) 2 [(0, .ref 0), (1, .int v1), (2, .int v2)] [] σ (fX12_plainOf_s2 N rX12_testOf c2 v1 v2 σ) := by
  unfold fX12_plainOf_s2
  refine q_aload_n (i := 0) (x := 0) dX12_plainOf_2 rfl 0 rfl ?_
  refine q_bipush (v := 7) dX12_plainOf_3 (by decide) ?_
  refine q_cVi mX12_passes [.int 7] (st := []) dX12_plainOf_5 (svX12_409) (by unfold rR mX12_passes mX12_plainOf; constructor <;> dsimp only <;> omega) zM_0 rfl rfl rfl (Nat.le_of_ble_eq_true rfl) (kX12_passes 7 σ) (fun y1 => ?_)
  refine q_if_eq (tgt := 24) dX12_plainOf_8 (by decide) ?_ ?_
  · refine q_aload_n (i := 0) (x := 0) dX12_plainOf_24 rfl 0 rfl ?_
    refine q_iload_n (i := 1) (x := v1) dX12_plainOf_25 rfl 1 rfl ?_
    refine q_cVi (mX12_positiveOf d) [.int v1] (st := []) dX12_plainOf_26 (svX12_422 _) (by unfold rR mX12_plainOf mX12_positiveOf; constructor <;> dsimp only <;> omega) zM_0 rfl rfl rfl (Nat.le_of_ble_eq_true rfl) (kX12_positiveOf d N rX12_testOf v1 hX12_testOf y1.2) (fun y2 => ?_)
    refine q_iload_n (i := 2) (x := v2) dX12_plainOf_29 rfl 2 rfl ?_
    refine q_icmp_eq (tgt := 37) dX12_plainOf_30 (by decide) ?_ ?_
    · refine q_iconst (v := 0) dX12_plainOf_37 (by decide) ?_
      exact q_iretz (y := (0, y2.2)) dX12_plainOf_38 rfl rfl rfl
    refine q_iconst (v := 1) dX12_plainOf_33 (by decide) ?_
    refine q_goto (tgt := 38) dX12_plainOf_34 (by decide) ?_
    exact q_iretz (y := (1, y2.2)) dX12_plainOf_38 rfl rfl rfl
  refine q_iload_n (i := 2) (x := v2) dX12_plainOf_11 rfl 2 rfl ?_
  refine q_if_ne (tgt := 19) dX12_plainOf_12 (by decide) ?_ ?_
  · refine q_iconst (v := 0) dX12_plainOf_19 (by decide) ?_
    exact q_sub [0, 1] rfl (aX12_plainOf_b20 d N rX12_testOf hX12_testOf c2 hc2 v1 0 y1.2)
  refine q_iconst (v := 1) dX12_plainOf_15 (by decide) ?_
  refine q_goto (tgt := 20) dX12_plainOf_16 (by decide) ?_
  exact q_sub [0, 1] rfl (aX12_plainOf_b20 d N rX12_testOf hX12_testOf c2 hc2 v1 1 y1.2)
def fX12_plainOf_l2 (N : Nat) (rX12_testOf : Int32 → qMem → Option (Int32 × qMem)) : Nat → Int32 → Int32 → qMem → Option (Int32 × qMem)
  | 0 => fun _ _ _ => none
  | n + 1 => fun v1 v2 σ => fX12_plainOf_s2 N rX12_testOf (fX12_plainOf_l2 N rX12_testOf n) v1 v2 σ
theorem aX12_plainOf_l2 (d : Nat) (N : Nat) (rX12_testOf : Int32 → qMem → Option (Int32 × qMem)) (hX12_testOf : ∀ (p1 : Int32)  (σ : qMem), qMc wM (mX12_testOf d) (ρi) [.ref 0, .int p1] σ (rX12_testOf p1 σ)) : ∀ (n : Nat) (v1 : Int32) (v2 : Int32) (σ : qMem), qAt wM (mX12_plainOf d) (ρi) 2 [(0, .ref 0), (1, .int v1), (2, .int v2)] [] σ (fX12_plainOf_l2 N rX12_testOf n v1 v2 σ) := by
  intro n
  induction n with
  | zero => intro v1 v2 σ; exact q_none
  | succ n ih => intro v1 v2 σ; exact aX12_plainOf_s2 d N rX12_testOf hX12_testOf (fX12_plainOf_l2 N rX12_testOf n) ih v1 v2 σ

def fX12_plainOf (N : Nat) (rX12_testOf : Int32 → qMem → Option (Int32 × qMem)) (p1 : Int32) (σ : qMem) : Option (Int32 × qMem) :=
  (fX12_plainOf_l2 N rX12_testOf N p1 0 σ)
set_option maxRecDepth 20000 in
set_option maxHeartbeats 4000000 in
theorem aX12_plainOf (d : Nat) (N : Nat) (rX12_testOf : Int32 → qMem → Option (Int32 × qMem)) (p1 : Int32) (hX12_testOf : ∀ (p1 : Int32)  (σ : qMem), qMc wM (mX12_testOf d) (ρi) [.ref 0, .int p1] σ (rX12_testOf p1 σ)) (σ : qMem) : qAt wM (mX12_plainOf d) (ρi) 0 [(0, .ref 0), (1, .int p1)] [] σ (fX12_plainOf N rX12_testOf p1 σ) := by
  unfold fX12_plainOf
  refine q_iconst (v := 0) dX12_plainOf_0 (by decide) ?_
  refine q_istore_n (i := 2) (L' := [(2, .int 0), (0, .ref 0), (1, .int p1)]) dX12_plainOf_1 rfl (Nat.le_of_ble_eq_true rfl) rfl ?_
  exact q_sub [1, 2, 0] rfl (aX12_plainOf_l2 d N rX12_testOf hX12_testOf N p1 0 σ)
theorem kX12_plainOf (d : Nat) (N : Nat) (rX12_testOf : Int32 → qMem → Option (Int32 × qMem)) (p1 : Int32) (hX12_testOf : ∀ (p1 : Int32)  (σ : qMem), qMc wM (mX12_testOf d) (ρi) [.ref 0, .int p1] σ (rX12_testOf p1 σ)) (σ : qMem) : qMc wM (mX12_plainOf d) (ρi) [.ref 0, .int p1] σ (fX12_plainOf N rX12_testOf p1 σ) := qMc_of (moX12_plainOf _) (Nat.le_of_ble_eq_true rfl) (aX12_plainOf d N rX12_testOf p1 hX12_testOf σ)

theorem dX12_bothOf_0 : decode cX12_bothOf 0 = .ok (.aload_n 0, 1) := by decide +kernel
theorem dX12_bothOf_1 : decode cX12_bothOf 1 = .ok (.iload_n 1, 1) := by decide +kernel
theorem dX12_bothOf_2 : decode cX12_bothOf 2 = .ok (.invokevirtual 419, 3) := by decide +kernel
theorem dX12_bothOf_5 : decode cX12_bothOf 5 = .ok (.istore_n 2, 1) := by decide +kernel
theorem dX12_bothOf_6 : decode cX12_bothOf 6 = .ok (.aload_n 0, 1) := by decide +kernel
theorem dX12_bothOf_7 : decode cX12_bothOf 7 = .ok (.bipush 6, 2) := by decide +kernel
theorem dX12_bothOf_9 : decode cX12_bothOf 9 = .ok (.invokevirtual 409, 3) := by decide +kernel
theorem dX12_bothOf_12 : decode cX12_bothOf 12 = .ok (.ifCond .eq 38, 3) := by decide +kernel
theorem dX12_bothOf_15 : decode cX12_bothOf 15 = .ok (.aload_n 0, 1) := by decide +kernel
theorem dX12_bothOf_16 : decode cX12_bothOf 16 = .ok (.iload_n 1, 1) := by decide +kernel
theorem dX12_bothOf_17 : decode cX12_bothOf 17 = .ok (.ifCond .eq 11, 3) := by decide +kernel
theorem dX12_bothOf_20 : decode cX12_bothOf 20 = .ok (.iload_n 2, 1) := by decide +kernel
theorem dX12_bothOf_21 : decode cX12_bothOf 21 = .ok (.ifCond .eq 7, 3) := by decide +kernel
theorem dX12_bothOf_24 : decode cX12_bothOf 24 = .ok (.iconst 1, 1) := by decide +kernel
theorem dX12_bothOf_25 : decode cX12_bothOf 25 = .ok (.goto 4, 3) := by decide +kernel
theorem dX12_bothOf_28 : decode cX12_bothOf 28 = .ok (.iconst 0, 1) := by decide +kernel
theorem dX12_bothOf_29 : decode cX12_bothOf 29 = .ok (.invokevirtual 419, 3) := by decide +kernel
theorem dX12_bothOf_32 : decode cX12_bothOf 32 = .ok (.istore_n 3, 1) := by decide +kernel
theorem dX12_bothOf_33 : decode cX12_bothOf 33 = .ok (.iload_n 2, 1) := by decide +kernel
theorem dX12_bothOf_34 : decode cX12_bothOf 34 = .ok (.ifCond .eq 11, 3) := by decide +kernel
theorem dX12_bothOf_37 : decode cX12_bothOf 37 = .ok (.iload_n 3, 1) := by decide +kernel
theorem dX12_bothOf_38 : decode cX12_bothOf 38 = .ok (.ifCond .eq 7, 3) := by decide +kernel
theorem dX12_bothOf_41 : decode cX12_bothOf 41 = .ok (.iconst 1, 1) := by decide +kernel
theorem dX12_bothOf_42 : decode cX12_bothOf 42 = .ok (.goto 4, 3) := by decide +kernel
theorem dX12_bothOf_45 : decode cX12_bothOf 45 = .ok (.iconst 0, 1) := by decide +kernel
theorem dX12_bothOf_46 : decode cX12_bothOf 46 = .ok (.istore_n 2, 1) := by decide +kernel
theorem dX12_bothOf_47 : decode cX12_bothOf 47 = .ok (.goto (-41), 3) := by decide +kernel
theorem dX12_bothOf_50 : decode cX12_bothOf 50 = .ok (.iload_n 2, 1) := by decide +kernel
theorem dX12_bothOf_51 : decode cX12_bothOf 51 = .ok (.ireturn, 1) := by decide +kernel
def fX12_bothOf_b46 (N : Nat) (rX12_testOf : Int32 → qMem → Option (Int32 × qMem)) (c6 : Int32 → Int32 → qMem → Option (Int32 × qMem)) (v1 : Int32) (u0 : Int32) (σ : qMem) : Option (Int32 × qMem) :=
  (c6 v1 u0 σ)
set_option maxRecDepth 20000 in
set_option maxHeartbeats 4000000 in
theorem aX12_bothOf_b46 (d : Nat) (N : Nat) (rX12_testOf : Int32 → qMem → Option (Int32 × qMem)) (hX12_testOf : ∀ (p1 : Int32)  (σ : qMem), qMc wM (mX12_testOf d) (ρi) [.ref 0, .int p1] σ (rX12_testOf p1 σ)) (c6 : Int32 → Int32 → qMem → Option (Int32 × qMem)) (hc6 : ∀ (v1 : Int32) (v2 : Int32) (σ : qMem), qAt wM (mX12_bothOf d) (ρi) 6 [(0, .ref 0), (1, .int v1), (2, .int v2)] [] σ (c6 v1 v2 σ)) (v1 : Int32) (u0 : Int32) (σ : qMem) : qAt wM (mX12_bothOf d) (ρi) 46 [(0, .ref 0), (1, .int v1)] [.int u0] σ (fX12_bothOf_b46 N rX12_testOf c6 v1 u0 σ) := by
  unfold fX12_bothOf_b46
  refine q_istore_n (i := 2) (L' := [(2, .int u0), (0, .ref 0), (1, .int v1)]) dX12_bothOf_46 rfl (Nat.le_of_ble_eq_true rfl) rfl ?_
  refine q_goto (tgt := 6) dX12_bothOf_47 (by decide) ?_
  exact q_sub [1, 2, 0] rfl (hc6 v1 u0 σ)

def fX12_bothOf_b45 (N : Nat) (rX12_testOf : Int32 → qMem → Option (Int32 × qMem)) (c6 : Int32 → Int32 → qMem → Option (Int32 × qMem)) (v1 : Int32) (σ : qMem) : Option (Int32 × qMem) :=
  (fX12_bothOf_b46 N rX12_testOf c6 v1 0 σ)
set_option maxRecDepth 20000 in
set_option maxHeartbeats 4000000 in
theorem aX12_bothOf_b45 (d : Nat) (N : Nat) (rX12_testOf : Int32 → qMem → Option (Int32 × qMem)) (hX12_testOf : ∀ (p1 : Int32)  (σ : qMem), qMc wM (mX12_testOf d) (ρi) [.ref 0, .int p1] σ (rX12_testOf p1 σ)) (c6 : Int32 → Int32 → qMem → Option (Int32 × qMem)) (hc6 : ∀ (v1 : Int32) (v2 : Int32) (σ : qMem), qAt wM (mX12_bothOf d) (ρi) 6 [(0, .ref 0), (1, .int v1), (2, .int v2)] [] σ (c6 v1 v2 σ)) (v1 : Int32) (σ : qMem) : qAt wM (mX12_bothOf d) (ρi) 45 [(0, .ref 0), (1, .int v1)] [] σ (fX12_bothOf_b45 N rX12_testOf c6 v1 σ) := by
  unfold fX12_bothOf_b45
  refine q_iconst (v := 0) dX12_bothOf_45 (by decide) ?_
  exact q_sub [0, 1] rfl (aX12_bothOf_b46 d N rX12_testOf hX12_testOf c6 hc6 v1 0 σ)

def fX12_bothOf_b29 (N : Nat) (rX12_testOf : Int32 → qMem → Option (Int32 × qMem)) (c6 : Int32 → Int32 → qMem → Option (Int32 × qMem)) (v1 : Int32) (v2 : Int32) (u1 : Int32) (σ : qMem) : Option (Int32 × qMem) :=
  ((fX12_plainOf N rX12_testOf u1 σ).bind fun y3 => (if v2 = 0 then (fX12_bothOf_b45 N rX12_testOf c6 v1 y3.2) else (if y3.1 = 0 then (fX12_bothOf_b45 N rX12_testOf c6 v1 y3.2) else (fX12_bothOf_b46 N rX12_testOf c6 v1 1 y3.2))))
set_option maxRecDepth 20000 in
set_option maxHeartbeats 4000000 in
theorem aX12_bothOf_b29 (d : Nat) (N : Nat) (rX12_testOf : Int32 → qMem → Option (Int32 × qMem)) (hX12_testOf : ∀ (p1 : Int32)  (σ : qMem), qMc wM (mX12_testOf d) (ρi) [.ref 0, .int p1] σ (rX12_testOf p1 σ)) (c6 : Int32 → Int32 → qMem → Option (Int32 × qMem)) (hc6 : ∀ (v1 : Int32) (v2 : Int32) (σ : qMem), qAt wM (mX12_bothOf d) (ρi) 6 [(0, .ref 0), (1, .int v1), (2, .int v2)] [] σ (c6 v1 v2 σ)) (v1 : Int32) (v2 : Int32) (u1 : Int32) (σ : qMem) : qAt wM (mX12_bothOf d) (ρi) 29 [(0, .ref 0), (1, .int v1), (2, .int v2)] [.int u1, .ref 0] σ (fX12_bothOf_b29 N rX12_testOf c6 v1 v2 u1 σ) := by
  unfold fX12_bothOf_b29
  refine q_cVi (mX12_plainOf d) [.int u1] (st := []) dX12_bothOf_29 (svX12_419 _) (by unfold rR mX12_bothOf mX12_plainOf; constructor <;> dsimp only <;> omega) zM_0 rfl rfl rfl (Nat.le_of_ble_eq_true rfl) (kX12_plainOf d N rX12_testOf u1 hX12_testOf σ) (fun y3 => ?_)
  refine q_istore_n (i := 3) (L' := [(3, .int y3.1), (0, .ref 0), (1, .int v1), (2, .int v2)]) dX12_bothOf_32 rfl (Nat.le_of_ble_eq_true rfl) rfl ?_
  refine q_iload_n (i := 2) (x := v2) dX12_bothOf_33 rfl 3 rfl ?_
  refine q_if_eq (tgt := 45) dX12_bothOf_34 (by decide) ?_ ?_
  · exact q_sub [1, 2] rfl (aX12_bothOf_b45 d N rX12_testOf hX12_testOf c6 hc6 v1 y3.2)
  refine q_iload_n (i := 3) (x := y3.1) dX12_bothOf_37 rfl 0 rfl ?_
  refine q_if_eq (tgt := 45) dX12_bothOf_38 (by decide) ?_ ?_
  · exact q_sub [1, 2] rfl (aX12_bothOf_b45 d N rX12_testOf hX12_testOf c6 hc6 v1 y3.2)
  refine q_iconst (v := 1) dX12_bothOf_41 (by decide) ?_
  refine q_goto (tgt := 46) dX12_bothOf_42 (by decide) ?_
  exact q_sub [1, 2] rfl (aX12_bothOf_b46 d N rX12_testOf hX12_testOf c6 hc6 v1 1 y3.2)

def fX12_bothOf_b28 (N : Nat) (rX12_testOf : Int32 → qMem → Option (Int32 × qMem)) (c6 : Int32 → Int32 → qMem → Option (Int32 × qMem)) (v1 : Int32) (v2 : Int32) (σ : qMem) : Option (Int32 × qMem) :=
  (fX12_bothOf_b29 N rX12_testOf c6 v1 v2 0 σ)
set_option maxRecDepth 20000 in
set_option maxHeartbeats 4000000 in
theorem aX12_bothOf_b28 (d : Nat) (N : Nat) (rX12_testOf : Int32 → qMem → Option (Int32 × qMem)) (hX12_testOf : ∀ (p1 : Int32)  (σ : qMem), qMc wM (mX12_testOf d) (ρi) [.ref 0, .int p1] σ (rX12_testOf p1 σ)) (c6 : Int32 → Int32 → qMem → Option (Int32 × qMem)) (hc6 : ∀ (v1 : Int32) (v2 : Int32) (σ : qMem), qAt wM (mX12_bothOf d) (ρi) 6 [(0, .ref 0), (1, .int v1), (2, .int v2)] [] σ (c6 v1 v2 σ)) (v1 : Int32) (v2 : Int32) (σ : qMem) : qAt wM (mX12_bothOf d) (ρi) 28 [(0, .ref 0), (1, .int v1), (2, .int v2)] [.ref 0] σ (fX12_bothOf_b28 N rX12_testOf c6 v1 v2 σ) := by
  unfold fX12_bothOf_b28
  refine q_iconst (v := 0) dX12_bothOf_28 (by decide) ?_
  exact q_sub [0, 1, 2] rfl (aX12_bothOf_b29 d N rX12_testOf hX12_testOf c6 hc6 v1 v2 0 σ)

def fX12_bothOf_s6 (N : Nat) (rX12_testOf : Int32 → qMem → Option (Int32 × qMem)) (c6 : Int32 → Int32 → qMem → Option (Int32 × qMem)) (v1 : Int32) (v2 : Int32) (σ : qMem) : Option (Int32 × qMem) :=
  ((fX12_passes 6 σ).bind fun y2 => (if y2.1 = 0 then (if v2 = 0 ∨ v2 = 1 then some (v2, y2.2) else none) else (if v1 = 0 then (fX12_bothOf_b28 N rX12_testOf c6 v1 v2 y2.2) else (if v2 = 0 then (fX12_bothOf_b28 N rX12_testOf c6 v1 v2 y2.2) else (fX12_bothOf_b29 N rX12_testOf c6 v1 v2 1 y2.2)))))
set_option maxRecDepth 20000 in
set_option maxHeartbeats 4000000 in
theorem aX12_bothOf_s6 (d : Nat) (N : Nat) (rX12_testOf : Int32 → qMem → Option (Int32 × qMem)) (hX12_testOf : ∀ (p1 : Int32)  (σ : qMem), qMc wM (mX12_testOf d) (ρi) [.ref 0, .int p1] σ (rX12_testOf p1 σ)) (c6 : Int32 → Int32 → qMem → Option (Int32 × qMem)) (hc6 : ∀ (v1 : Int32) (v2 : Int32) (σ : qMem), qAt wM (mX12_bothOf d) (ρi) 6 [(0, .ref 0), (1, .int v1), (2, .int v2)] [] σ (c6 v1 v2 σ)) (v1 : Int32) (v2 : Int32) (σ : qMem) : qAt wM (mX12_bothOf d) (ρi) 6 [(0, .ref 0), (1, .int v1), (2, .int v2)] [] σ (fX12_bothOf_s6 N rX12_testOf c6 v1 v2 σ) := by
  unfold fX12_bothOf_s6
  refine q_aload_n (i := 0) (x := 0) dX12_bothOf_6 rfl 0 rfl ?_
  refine q_bipush (v := 6) dX12_bothOf_7 (by decide) ?_
  refine q_cVi mX12_passes [.int 6] (st := []) dX12_bothOf_9 (svX12_409) (by unfold rR mX12_bothOf mX12_passes; constructor <;> dsimp only <;> omega) zM_0 rfl rfl rfl (Nat.le_of_ble_eq_true rfl) (kX12_passes 6 σ) (fun y2 => ?_)
  refine q_if_eq (tgt := 50) dX12_bothOf_12 (by decide) ?_ ?_
  · refine q_iload_n (i := 2) (x := v2) dX12_bothOf_50 rfl 2 rfl ?_
    exact q_if (fun hz => q_iretz (y := (v2, y2.2)) dX12_bothOf_51 rfl (nb_ok hz) rfl)
  refine q_aload_n (i := 0) (x := 0) dX12_bothOf_15 rfl 0 rfl ?_
  refine q_iload_n (i := 1) (x := v1) dX12_bothOf_16 rfl 1 rfl ?_
  refine q_if_eq (tgt := 28) dX12_bothOf_17 (by decide) ?_ ?_
  · exact q_sub [0, 1, 2] rfl (aX12_bothOf_b28 d N rX12_testOf hX12_testOf c6 hc6 v1 v2 y2.2)
  refine q_iload_n (i := 2) (x := v2) dX12_bothOf_20 rfl 2 rfl ?_
  refine q_if_eq (tgt := 28) dX12_bothOf_21 (by decide) ?_ ?_
  · exact q_sub [0, 1, 2] rfl (aX12_bothOf_b28 d N rX12_testOf hX12_testOf c6 hc6 v1 v2 y2.2)
  refine q_iconst (v := 1) dX12_bothOf_24 (by decide) ?_
  refine q_goto (tgt := 29) dX12_bothOf_25 (by decide) ?_
  exact q_sub [0, 1, 2] rfl (aX12_bothOf_b29 d N rX12_testOf hX12_testOf c6 hc6 v1 v2 1 y2.2)
def fX12_bothOf_l6 (N : Nat) (rX12_testOf : Int32 → qMem → Option (Int32 × qMem)) : Nat → Int32 → Int32 → qMem → Option (Int32 × qMem)
  | 0 => fun _ _ _ => none
  | n + 1 => fun v1 v2 σ => fX12_bothOf_s6 N rX12_testOf (fX12_bothOf_l6 N rX12_testOf n) v1 v2 σ
theorem aX12_bothOf_l6 (d : Nat) (N : Nat) (rX12_testOf : Int32 → qMem → Option (Int32 × qMem)) (hX12_testOf : ∀ (p1 : Int32)  (σ : qMem), qMc wM (mX12_testOf d) (ρi) [.ref 0, .int p1] σ (rX12_testOf p1 σ)) : ∀ (n : Nat) (v1 : Int32) (v2 : Int32) (σ : qMem), qAt wM (mX12_bothOf d) (ρi) 6 [(0, .ref 0), (1, .int v1), (2, .int v2)] [] σ (fX12_bothOf_l6 N rX12_testOf n v1 v2 σ) := by
  intro n
  induction n with
  | zero => intro v1 v2 σ; exact q_none
  | succ n ih => intro v1 v2 σ; exact aX12_bothOf_s6 d N rX12_testOf hX12_testOf (fX12_bothOf_l6 N rX12_testOf n) ih v1 v2 σ

def fX12_bothOf (N : Nat) (rX12_testOf : Int32 → qMem → Option (Int32 × qMem)) (p1 : Int32) (σ : qMem) : Option (Int32 × qMem) :=
  ((fX12_plainOf N rX12_testOf p1 σ).bind fun y1 => (fX12_bothOf_l6 N rX12_testOf N p1 y1.1 y1.2))
set_option maxRecDepth 20000 in
set_option maxHeartbeats 4000000 in
theorem aX12_bothOf (d : Nat) (N : Nat) (rX12_testOf : Int32 → qMem → Option (Int32 × qMem)) (p1 : Int32) (hX12_testOf : ∀ (p1 : Int32)  (σ : qMem), qMc wM (mX12_testOf d) (ρi) [.ref 0, .int p1] σ (rX12_testOf p1 σ)) (σ : qMem) : qAt wM (mX12_bothOf d) (ρi) 0 [(0, .ref 0), (1, .int p1)] [] σ (fX12_bothOf N rX12_testOf p1 σ) := by
  unfold fX12_bothOf
  refine q_aload_n (i := 0) (x := 0) dX12_bothOf_0 rfl 0 rfl ?_
  refine q_iload_n (i := 1) (x := p1) dX12_bothOf_1 rfl 1 rfl ?_
  refine q_cVi (mX12_plainOf d) [.int p1] (st := []) dX12_bothOf_2 (svX12_419 _) (by unfold rR mX12_bothOf mX12_plainOf; constructor <;> dsimp only <;> omega) zM_0 rfl rfl rfl (Nat.le_of_ble_eq_true rfl) (kX12_plainOf d N rX12_testOf p1 hX12_testOf σ) (fun y1 => ?_)
  refine q_istore_n (i := 2) (L' := [(2, .int y1.1), (0, .ref 0), (1, .int p1)]) dX12_bothOf_5 rfl (Nat.le_of_ble_eq_true rfl) rfl ?_
  exact q_sub [1, 2, 0] rfl (aX12_bothOf_l6 d N rX12_testOf hX12_testOf N p1 y1.1 y1.2)
theorem kX12_bothOf (d : Nat) (N : Nat) (rX12_testOf : Int32 → qMem → Option (Int32 × qMem)) (p1 : Int32) (hX12_testOf : ∀ (p1 : Int32)  (σ : qMem), qMc wM (mX12_testOf d) (ρi) [.ref 0, .int p1] σ (rX12_testOf p1 σ)) (σ : qMem) : qMc wM (mX12_bothOf d) (ρi) [.ref 0, .int p1] σ (fX12_bothOf N rX12_testOf p1 σ) := qMc_of (moX12_bothOf _) (Nat.le_of_ble_eq_true rfl) (aX12_bothOf d N rX12_testOf p1 hX12_testOf σ)

