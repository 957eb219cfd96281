theorem dX5_clear_0 : decode cX5_clear 0 = .ok (.aload_n 0, 1) := by decide +kernel
theorem dX5_clear_1 : decode cX5_clear 1 = .ok (.getfield 16, 3) := by decide +kernel
theorem dX5_clear_4 : decode cX5_clear 4 = .ok (.iconst 0, 1) := by decide +kernel
theorem dX5_clear_5 : decode cX5_clear 5 = .ok (.putfield 41, 3) := by decide +kernel
theorem dX5_clear_8 : decode cX5_clear 8 = .ok (.aload_n 0, 1) := by decide +kernel
theorem dX5_clear_9 : decode cX5_clear 9 = .ok (.iconst 0, 1) := by decide +kernel
theorem dX5_clear_10 : decode cX5_clear 10 = .ok (.putfield 34, 3) := by decide +kernel
theorem dX5_clear_13 : decode cX5_clear 13 = .ok (.return_, 1) := by decide +kernel

def fX5_clear (k : Nat) (σ : qMem) : Option qMem :=
  (nmM (si σ (k + 1) 3 0) fun s1 => (nmM (si s1 k 5 0) fun s2 => (some s2)))
set_option maxRecDepth 20000 in
set_option maxHeartbeats 4000000 in
theorem aX5_clear  (k : Nat) (hk : iLaw k) (σ : qMem) : qAt wC mX5_clear (ρv) 0 [(0, .ref k)] [] σ (fX5_clear k σ) := by
  unfold fX5_clear
  refine q_aload_n (i := 0) (x := k) dX5_clear_0 rfl 0 rfl ?_
  refine q_getr (t := (k + 1)) dX5_clear_1 foX5_16 hk.1 rfl ?_
  refine q_iconst (v := 0) dX5_clear_4 (by decide) ?_
  refine q_puti dX5_clear_5 foX5_41 fwX8_3 hk.2.1.1 rfl ?_
  refine q_nmM (fun s1 => ?_)
  refine q_aload_n (i := 0) (x := k) dX5_clear_8 rfl 0 rfl ?_
  refine q_iconst (v := 0) dX5_clear_9 (by decide) ?_
  refine q_puti dX5_clear_10 foX5_34 fwX5_5 hk.1 rfl ?_
  refine q_nmM (fun s2 => ?_)
  exact q_vret (y := s2) dX5_clear_13 rfl rfl
theorem kX5_clear  (k : Nat) (hk : iLaw k) (σ : qMem) : qMc wC mX5_clear (ρv) [.ref k] σ (fX5_clear k σ) := qMc_of (moX5_clear) (Nat.le_of_ble_eq_true rfl) (aX5_clear k hk σ)

theorem dX5_add_0 : decode cX5_add 0 = .ok (.aload_n 0, 1) := by decide +kernel
theorem dX5_add_1 : decode cX5_add 1 = .ok (.getfield 34, 3) := by decide +kernel
theorem dX5_add_4 : decode cX5_add 4 = .ok (.sipush 400, 3) := by decide +kernel
theorem dX5_add_7 : decode cX5_add 7 = .ok (.if_icmp .ge 33, 3) := by decide +kernel
theorem dX5_add_10 : decode cX5_add 10 = .ok (.aload_n 0, 1) := by decide +kernel
theorem dX5_add_11 : decode cX5_add 11 = .ok (.getfield 20, 3) := by decide +kernel
theorem dX5_add_14 : decode cX5_add 14 = .ok (.aload_n 0, 1) := by decide +kernel
theorem dX5_add_15 : decode cX5_add 15 = .ok (.getfield 34, 3) := by decide +kernel
theorem dX5_add_18 : decode cX5_add 18 = .ok (.iload_n 1, 1) := by decide +kernel
theorem dX5_add_19 : decode cX5_add 19 = .ok (.iastore, 1) := by decide +kernel
theorem dX5_add_20 : decode cX5_add 20 = .ok (.aload_n 0, 1) := by decide +kernel
theorem dX5_add_21 : decode cX5_add 21 = .ok (.getfield 24, 3) := by decide +kernel
theorem dX5_add_24 : decode cX5_add 24 = .ok (.aload_n 0, 1) := by decide +kernel
theorem dX5_add_25 : decode cX5_add 25 = .ok (.getfield 34, 3) := by decide +kernel
theorem dX5_add_28 : decode cX5_add 28 = .ok (.iload_n 2, 1) := by decide +kernel
theorem dX5_add_29 : decode cX5_add 29 = .ok (.iastore, 1) := by decide +kernel
theorem dX5_add_30 : decode cX5_add 30 = .ok (.aload_n 0, 1) := by decide +kernel
theorem dX5_add_31 : decode cX5_add 31 = .ok (.dup, 1) := by decide +kernel
theorem dX5_add_32 : decode cX5_add 32 = .ok (.getfield 34, 3) := by decide +kernel
theorem dX5_add_35 : decode cX5_add 35 = .ok (.iconst 1, 1) := by decide +kernel
theorem dX5_add_36 : decode cX5_add 36 = .ok (.iadd, 1) := by decide +kernel
theorem dX5_add_37 : decode cX5_add 37 = .ok (.putfield 34, 3) := by decide +kernel
theorem dX5_add_40 : decode cX5_add 40 = .ok (.return_, 1) := by decide +kernel

def fX5_add (k : Nat) (p1 : Int32) (p2 : Int32) (σ : qMem) : Option qMem :=
  (if 400 ≤ (gi σ k 5) then (some σ) else (if ck (gi σ k 5) 400 = true then (nmM (si σ (k + 3) (gi σ k 5).toNatClampNeg p1) fun s1 => (if ck (gi s1 k 5) 400 = true then (nmM (si s1 (k + 4) (gi s1 k 5).toNatClampNeg p2) fun s2 => (nmM (si s2 k 5 ((gi s2 k 5) + 1)) fun s3 => (some s3))) else none)) else none))
set_option maxRecDepth 20000 in
set_option maxHeartbeats 4000000 in
theorem aX5_add  (k : Nat) (p1 : Int32) (p2 : Int32) (hk : iLaw k) (σ : qMem) : qAt wC mX5_add (ρv) 0 [(0, .ref k), (1, .int p1), (2, .int p2)] [] σ (fX5_add k p1 p2 σ) := by
  unfold fX5_add
  refine q_aload_n (i := 0) (x := k) dX5_add_0 rfl 0 rfl ?_
  refine q_geti dX5_add_1 foX5_34 hk.1 rfl ?_
  refine q_sipush (v := 400) dX5_add_4 (by decide) ?_
  refine q_icmp_ge (tgt := 40) dX5_add_7 (by decide) ?_ ?_
  · exact q_vret (y := σ) dX5_add_40 rfl rfl
  refine q_aload_n (i := 0) (x := k) dX5_add_10 rfl 0 rfl ?_
  refine q_getr (t := (k + 3)) dX5_add_11 foX5_20 hk.1 rfl ?_
  refine q_aload_n (i := 0) (x := k) dX5_add_14 rfl 0 rfl ?_
  refine q_geti dX5_add_15 foX5_34 hk.1 rfl ?_
  refine q_iload_n (i := 1) (x := p1) dX5_add_18 rfl 1 rfl ?_
  refine q_iast dX5_add_19 hk.2.2.1 ?_
  refine q_nmM (fun s1 => ?_)
  refine q_aload_n (i := 0) (x := k) dX5_add_20 rfl 0 rfl ?_
  refine q_getr (t := (k + 4)) dX5_add_21 foX5_24 hk.1 rfl ?_
  refine q_aload_n (i := 0) (x := k) dX5_add_24 rfl 0 rfl ?_
  refine q_geti dX5_add_25 foX5_34 hk.1 rfl ?_
  refine q_iload_n (i := 2) (x := p2) dX5_add_28 rfl 2 rfl ?_
  refine q_iast dX5_add_29 hk.2.2.2.1 ?_
  refine q_nmM (fun s2 => ?_)
  refine q_aload_n (i := 0) (x := k) dX5_add_30 rfl 0 rfl ?_
  refine q_dup dX5_add_31 rfl ?_
  refine q_geti dX5_add_32 foX5_34 hk.1 rfl ?_
  refine q_iconst (v := 1) dX5_add_35 (by decide) ?_
  refine q_iadd dX5_add_36 ?_
  refine q_puti dX5_add_37 foX5_34 fwX5_5 hk.1 rfl ?_
  refine q_nmM (fun s3 => ?_)
  exact q_vret (y := s3) dX5_add_40 rfl rfl
theorem kX5_add  (k : Nat) (p1 : Int32) (p2 : Int32) (hk : iLaw k) (σ : qMem) : qMc wC mX5_add (ρv) [.ref k, .int p1, .int p2] σ (fX5_add k p1 p2 σ) := qMc_of (moX5_add) (Nat.le_of_ble_eq_true rfl) (aX5_add k p1 p2 hk σ)

theorem dX5_leadHere_0 : decode cX5_leadHere 0 = .ok (.iload_n 1, 1) := by decide +kernel
theorem dX5_leadHere_1 : decode cX5_leadHere 1 = .ok (.ifCond .lt 21, 3) := by decide +kernel
theorem dX5_leadHere_4 : decode cX5_leadHere 4 = .ok (.iload_n 1, 1) := by decide +kernel
theorem dX5_leadHere_5 : decode cX5_leadHere 5 = .ok (.aload_n 0, 1) := by decide +kernel
theorem dX5_leadHere_6 : decode cX5_leadHere 6 = .ok (.getfield 34, 3) := by decide +kernel
theorem dX5_leadHere_9 : decode cX5_leadHere 9 = .ok (.if_icmp .ge 13, 3) := by decide +kernel
theorem dX5_leadHere_12 : decode cX5_leadHere 12 = .ok (.aload_n 0, 1) := by decide +kernel
theorem dX5_leadHere_13 : decode cX5_leadHere 13 = .ok (.getfield 24, 3) := by decide +kernel
theorem dX5_leadHere_16 : decode cX5_leadHere 16 = .ok (.iload_n 1, 1) := by decide +kernel
theorem dX5_leadHere_17 : decode cX5_leadHere 17 = .ok (.aload_n 0, 1) := by decide +kernel
theorem dX5_leadHere_18 : decode cX5_leadHere 18 = .ok (.getfield 34, 3) := by decide +kernel
theorem dX5_leadHere_21 : decode cX5_leadHere 21 = .ok (.iastore, 1) := by decide +kernel
theorem dX5_leadHere_22 : decode cX5_leadHere 22 = .ok (.return_, 1) := by decide +kernel

def fX5_leadHere (k : Nat) (p1 : Int32) (σ : qMem) : Option qMem :=
  (if p1 < 0 then (some σ) else (if (gi σ k 5) ≤ p1 then (some σ) else (if ck p1 400 = true then (nmM (si σ (k + 4) p1.toNatClampNeg (gi σ k 5)) fun s1 => (some s1)) else none)))
set_option maxRecDepth 20000 in
set_option maxHeartbeats 4000000 in
theorem aX5_leadHere  (k : Nat) (p1 : Int32) (hk : iLaw k) (σ : qMem) : qAt wC mX5_leadHere (ρv) 0 [(0, .ref k), (1, .int p1)] [] σ (fX5_leadHere k p1 σ) := by
  unfold fX5_leadHere
  refine q_iload_n (i := 1) (x := p1) dX5_leadHere_0 rfl 1 rfl ?_
  refine q_if_lt (tgt := 22) dX5_leadHere_1 (by decide) ?_ ?_
  · exact q_vret (y := σ) dX5_leadHere_22 rfl rfl
  refine q_iload_n (i := 1) (x := p1) dX5_leadHere_4 rfl 1 rfl ?_
  refine q_aload_n (i := 0) (x := k) dX5_leadHere_5 rfl 0 rfl ?_
  refine q_geti dX5_leadHere_6 foX5_34 hk.1 rfl ?_
  refine q_icmp_ge (tgt := 22) dX5_leadHere_9 (by decide) ?_ ?_
  · exact q_vret (y := σ) dX5_leadHere_22 rfl rfl
  refine q_aload_n (i := 0) (x := k) dX5_leadHere_12 rfl 0 rfl ?_
  refine q_getr (t := (k + 4)) dX5_leadHere_13 foX5_24 hk.1 rfl ?_
  refine q_iload_n (i := 1) (x := p1) dX5_leadHere_16 rfl 1 rfl ?_
  refine q_aload_n (i := 0) (x := k) dX5_leadHere_17 rfl 0 rfl ?_
  refine q_geti dX5_leadHere_18 foX5_34 hk.1 rfl ?_
  refine q_iast dX5_leadHere_21 hk.2.2.2.1 ?_
  refine q_nmM (fun s1 => ?_)
  exact q_vret (y := s1) dX5_leadHere_22 rfl rfl
theorem kX5_leadHere  (k : Nat) (p1 : Int32) (hk : iLaw k) (σ : qMem) : qMc wC mX5_leadHere (ρv) [.ref k, .int p1] σ (fX5_leadHere k p1 σ) := qMc_of (moX5_leadHere) (Nat.le_of_ble_eq_true rfl) (aX5_leadHere k p1 hk σ)

theorem dX6_isSign_0 : decode cX6_isSign 0 = .ok (.aload_n 0, 1) := by decide +kernel
theorem dX6_isSign_1 : decode cX6_isSign 1 = .ok (.getfield 26, 3) := by decide +kernel
theorem dX6_isSign_4 : decode cX6_isSign 4 = .ok (.iconst 2, 1) := by decide +kernel
theorem dX6_isSign_5 : decode cX6_isSign 5 = .ok (.if_icmp .ne 31, 3) := by decide +kernel
theorem dX6_isSign_8 : decode cX6_isSign 8 = .ok (.aload_n 0, 1) := by decide +kernel
theorem dX6_isSign_9 : decode cX6_isSign 9 = .ok (.getfield 29, 3) := by decide +kernel
theorem dX6_isSign_12 : decode cX6_isSign 12 = .ok (.aload_n 0, 1) := by decide +kernel
theorem dX6_isSign_13 : decode cX6_isSign 13 = .ok (.getfield 22, 3) := by decide +kernel
theorem dX6_isSign_16 : decode cX6_isSign 16 = .ok (.if_icmp .ge 20, 3) := by decide +kernel
theorem dX6_isSign_19 : decode cX6_isSign 19 = .ok (.aload_n 0, 1) := by decide +kernel
theorem dX6_isSign_20 : decode cX6_isSign 20 = .ok (.getfield 18, 3) := by decide +kernel
theorem dX6_isSign_23 : decode cX6_isSign 23 = .ok (.aload_n 0, 1) := by decide +kernel
theorem dX6_isSign_24 : decode cX6_isSign 24 = .ok (.getfield 29, 3) := by decide +kernel
theorem dX6_isSign_27 : decode cX6_isSign 27 = .ok (.iaload, 1) := by decide +kernel
theorem dX6_isSign_28 : decode cX6_isSign 28 = .ok (.iload_n 1, 1) := by decide +kernel
theorem dX6_isSign_29 : decode cX6_isSign 29 = .ok (.if_icmp .ne 7, 3) := by decide +kernel
theorem dX6_isSign_32 : decode cX6_isSign 32 = .ok (.iconst 1, 1) := by decide +kernel
theorem dX6_isSign_33 : decode cX6_isSign 33 = .ok (.goto 4, 3) := by decide +kernel
theorem dX6_isSign_36 : decode cX6_isSign 36 = .ok (.iconst 0, 1) := by decide +kernel
theorem dX6_isSign_37 : decode cX6_isSign 37 = .ok (.ireturn, 1) := by decide +kernel
def fX6_isSign_b36 (σ : qMem) : Option Int32 :=
  (some 0)
set_option maxRecDepth 20000 in
set_option maxHeartbeats 4000000 in
theorem aX6_isSign_b36 (σ : qMem) : qAt wC mX6_isSign (ρp σ) 36 [] [] σ (fX6_isSign_b36 σ) := by
  unfold fX6_isSign_b36
  refine q_iconst (v := 0) dX6_isSign_36 (by decide) ?_
  exact q_iretz (y := 0) dX6_isSign_37 rfl rfl rfl

def fX6_isSign (p1 : Int32) (σ : qMem) : Option Int32 :=
  (if (gi σ 77 3) = 2 then (if (gi σ 77 2) ≤ (gi σ 77 4) then (fX6_isSign_b36 σ) else (if (gi σ 77 1).toNatClampNeg = 86 then (if ck (gi σ 77 4) 400 = true then (if (gi σ 86 (gi σ 77 4).toNatClampNeg) = p1 then (some 1) else (fX6_isSign_b36 σ)) else none) else none)) else (fX6_isSign_b36 σ))
set_option maxRecDepth 20000 in
set_option maxHeartbeats 4000000 in
theorem aX6_isSign  (p1 : Int32)  (σ : qMem) : qAt wC mX6_isSign (ρp σ) 0 [(0, .ref 77), (1, .int p1)] [] σ (fX6_isSign p1 σ) := by
  unfold fX6_isSign
  refine q_aload_n (i := 0) (x := 77) dX6_isSign_0 rfl 0 rfl ?_
  refine q_geti dX6_isSign_1 foX6_26 zC_77 rfl ?_
  refine q_iconst (v := 2) dX6_isSign_4 (by decide) ?_
  refine q_icmp_ne (tgt := 36) dX6_isSign_5 (by decide) ?_ ?_
  · exact q_sub [] rfl (aX6_isSign_b36 σ)
  refine q_aload_n (i := 0) (x := 77) dX6_isSign_8 rfl 0 rfl ?_
  refine q_geti dX6_isSign_9 foX6_29 zC_77 rfl ?_
  refine q_aload_n (i := 0) (x := 77) dX6_isSign_12 rfl 0 rfl ?_
  refine q_geti dX6_isSign_13 foX6_22 zC_77 rfl ?_
  refine q_icmp_ge (tgt := 36) dX6_isSign_16 (by decide) ?_ ?_
  · exact q_sub [] rfl (aX6_isSign_b36 σ)
  refine q_aload_n (i := 0) (x := 77) dX6_isSign_19 rfl 0 rfl ?_
  refine q_getd (t := 86) dX6_isSign_20 foX6_18 zC_77 rfl ?_
  refine q_aload_n (i := 0) (x := 77) dX6_isSign_23 rfl 0 rfl ?_
  refine q_geti dX6_isSign_24 foX6_29 zC_77 rfl ?_
  refine q_iald dX6_isSign_27 zC_86 ?_
  refine q_iload_n (i := 1) (x := p1) dX6_isSign_28 rfl 1 rfl ?_
  refine q_icmp_ne (tgt := 36) dX6_isSign_29 (by decide) ?_ ?_
  · exact q_sub [] rfl (aX6_isSign_b36 σ)
  refine q_iconst (v := 1) dX6_isSign_32 (by decide) ?_
  refine q_goto (tgt := 37) dX6_isSign_33 (by decide) ?_
  exact q_iretz (y := 1) dX6_isSign_37 rfl rfl rfl
theorem kX6_isSign  (p1 : Int32)  (σ : qMem) : qMc wC mX6_isSign (ρp σ) [.ref 77, .int p1] σ (fX6_isSign p1 σ) := qMc_of (moX6_isSign) (Nat.le_of_ble_eq_true rfl) (aX6_isSign p1  σ)

theorem dX6_kindAt_0 : decode cX6_kindAt 0 = .ok (.iload_n 1, 1) := by decide +kernel
theorem dX6_kindAt_1 : decode cX6_kindAt 1 = .ok (.aload_n 0, 1) := by decide +kernel
theorem dX6_kindAt_2 : decode cX6_kindAt 2 = .ok (.getfield 22, 3) := by decide +kernel
theorem dX6_kindAt_5 : decode cX6_kindAt 5 = .ok (.if_icmp .lt 5, 3) := by decide +kernel
theorem dX6_kindAt_8 : decode cX6_kindAt 8 = .ok (.iconst 3, 1) := by decide +kernel
theorem dX6_kindAt_9 : decode cX6_kindAt 9 = .ok (.ireturn, 1) := by decide +kernel
theorem dX6_kindAt_10 : decode cX6_kindAt 10 = .ok (.aload_n 0, 1) := by decide +kernel
theorem dX6_kindAt_11 : decode cX6_kindAt 11 = .ok (.getfield 18, 3) := by decide +kernel
theorem dX6_kindAt_14 : decode cX6_kindAt 14 = .ok (.iload_n 1, 1) := by decide +kernel
theorem dX6_kindAt_15 : decode cX6_kindAt 15 = .ok (.iaload, 1) := by decide +kernel
theorem dX6_kindAt_16 : decode cX6_kindAt 16 = .ok (.bipush 97, 2) := by decide +kernel
theorem dX6_kindAt_18 : decode cX6_kindAt 18 = .ok (.if_icmp .lt 16, 3) := by decide +kernel
theorem dX6_kindAt_21 : decode cX6_kindAt 21 = .ok (.aload_n 0, 1) := by decide +kernel
theorem dX6_kindAt_22 : decode cX6_kindAt 22 = .ok (.getfield 18, 3) := by decide +kernel
theorem dX6_kindAt_25 : decode cX6_kindAt 25 = .ok (.iload_n 1, 1) := by decide +kernel
theorem dX6_kindAt_26 : decode cX6_kindAt 26 = .ok (.iaload, 1) := by decide +kernel
theorem dX6_kindAt_27 : decode cX6_kindAt 27 = .ok (.bipush 122, 2) := by decide +kernel
theorem dX6_kindAt_29 : decode cX6_kindAt 29 = .ok (.if_icmp .gt 5, 3) := by decide +kernel
theorem dX6_kindAt_32 : decode cX6_kindAt 32 = .ok (.iconst 0, 1) := by decide +kernel
theorem dX6_kindAt_33 : decode cX6_kindAt 33 = .ok (.ireturn, 1) := by decide +kernel
theorem dX6_kindAt_34 : decode cX6_kindAt 34 = .ok (.aload_n 0, 1) := by decide +kernel
theorem dX6_kindAt_35 : decode cX6_kindAt 35 = .ok (.getfield 18, 3) := by decide +kernel
theorem dX6_kindAt_38 : decode cX6_kindAt 38 = .ok (.iload_n 1, 1) := by decide +kernel
theorem dX6_kindAt_39 : decode cX6_kindAt 39 = .ok (.iaload, 1) := by decide +kernel
theorem dX6_kindAt_40 : decode cX6_kindAt 40 = .ok (.bipush 48, 2) := by decide +kernel
theorem dX6_kindAt_42 : decode cX6_kindAt 42 = .ok (.if_icmp .lt 18, 3) := by decide +kernel
theorem dX6_kindAt_45 : decode cX6_kindAt 45 = .ok (.aload_n 0, 1) := by decide +kernel
theorem dX6_kindAt_46 : decode cX6_kindAt 46 = .ok (.getfield 18, 3) := by decide +kernel
theorem dX6_kindAt_49 : decode cX6_kindAt 49 = .ok (.iload_n 1, 1) := by decide +kernel
theorem dX6_kindAt_50 : decode cX6_kindAt 50 = .ok (.iaload, 1) := by decide +kernel
theorem dX6_kindAt_51 : decode cX6_kindAt 51 = .ok (.bipush 57, 2) := by decide +kernel
theorem dX6_kindAt_53 : decode cX6_kindAt 53 = .ok (.if_icmp .gt 7, 3) := by decide +kernel
theorem dX6_kindAt_56 : decode cX6_kindAt 56 = .ok (.iconst 1, 1) := by decide +kernel
theorem dX6_kindAt_57 : decode cX6_kindAt 57 = .ok (.goto 4, 3) := by decide +kernel
theorem dX6_kindAt_60 : decode cX6_kindAt 60 = .ok (.iconst 2, 1) := by decide +kernel
theorem dX6_kindAt_61 : decode cX6_kindAt 61 = .ok (.ireturn, 1) := by decide +kernel
def fX6_kindAt_b60 (σ : qMem) : Option Int32 :=
  (some 2)
set_option maxRecDepth 20000 in
set_option maxHeartbeats 4000000 in
theorem aX6_kindAt_b60 (σ : qMem) : qAt wC mX6_kindAt (ρp σ) 60 [] [] σ (fX6_kindAt_b60 σ) := by
  unfold fX6_kindAt_b60
  refine q_iconst (v := 2) dX6_kindAt_60 (by decide) ?_
  exact q_ireti (y := 2) dX6_kindAt_61 rfl rfl

def fX6_kindAt_b34 (v1 : Int32) (σ : qMem) : Option Int32 :=
  (if (gi σ 77 1).toNatClampNeg = 86 then (if ck v1 400 = true then (if (gi σ 86 v1.toNatClampNeg) < 48 then (fX6_kindAt_b60 σ) else (if (gi σ 77 1).toNatClampNeg = 86 then (if ck v1 400 = true then (if 57 < (gi σ 86 v1.toNatClampNeg) then (fX6_kindAt_b60 σ) else (some 1)) else none) else none)) else none) else none)
set_option maxRecDepth 20000 in
set_option maxHeartbeats 4000000 in
theorem aX6_kindAt_b34 (σ : qMem) (v1 : Int32) : qAt wC mX6_kindAt (ρp σ) 34 [(0, .ref 77), (1, .int v1)] [] σ (fX6_kindAt_b34 v1 σ) := by
  unfold fX6_kindAt_b34
  refine q_aload_n (i := 0) (x := 77) dX6_kindAt_34 rfl 0 rfl ?_
  refine q_getd (t := 86) dX6_kindAt_35 foX6_18 zC_77 rfl ?_
  refine q_iload_n (i := 1) (x := v1) dX6_kindAt_38 rfl 1 rfl ?_
  refine q_iald dX6_kindAt_39 zC_86 ?_
  refine q_bipush (v := 48) dX6_kindAt_40 (by decide) ?_
  refine q_icmp_lt (tgt := 60) dX6_kindAt_42 (by decide) ?_ ?_
  · exact q_sub [] rfl (aX6_kindAt_b60 σ)
  refine q_aload_n (i := 0) (x := 77) dX6_kindAt_45 rfl 0 rfl ?_
  refine q_getd (t := 86) dX6_kindAt_46 foX6_18 zC_77 rfl ?_
  refine q_iload_n (i := 1) (x := v1) dX6_kindAt_49 rfl 1 rfl ?_
  refine q_iald dX6_kindAt_50 zC_86 ?_
  refine q_bipush (v := 57) dX6_kindAt_51 (by decide) ?_
  refine q_icmp_gt (tgt := 60) dX6_kindAt_53 (by decide) ?_ ?_
  · exact q_sub [] rfl (aX6_kindAt_b60 σ)
  refine q_iconst (v := 1) dX6_kindAt_56 (by decide) ?_
  refine q_goto (tgt := 61) dX6_kindAt_57 (by decide) ?_
  exact q_ireti (y := 1) dX6_kindAt_61 rfl rfl

def fX6_kindAt (p1 : Int32) (σ : qMem) : Option Int32 :=
  (if p1 < (gi σ 77 2) then (if (gi σ 77 1).toNatClampNeg = 86 then (if ck p1 400 = true then (if (gi σ 86 p1.toNatClampNeg) < 97 then (fX6_kindAt_b34 p1 σ) else (if (gi σ 77 1).toNatClampNeg = 86 then (if ck p1 400 = true then (if 122 < (gi σ 86 p1.toNatClampNeg) then (fX6_kindAt_b34 p1 σ) else (some 0)) else none) else none)) else none) else none) else (some 3))
set_option maxRecDepth 20000 in
set_option maxHeartbeats 4000000 in
theorem aX6_kindAt  (p1 : Int32)  (σ : qMem) : qAt wC mX6_kindAt (ρp σ) 0 [(0, .ref 77), (1, .int p1)] [] σ (fX6_kindAt p1 σ) := by
  unfold fX6_kindAt
  refine q_iload_n (i := 1) (x := p1) dX6_kindAt_0 rfl 1 rfl ?_
  refine q_aload_n (i := 0) (x := 77) dX6_kindAt_1 rfl 0 rfl ?_
  refine q_geti dX6_kindAt_2 foX6_22 zC_77 rfl ?_
  refine q_icmp_lt (tgt := 10) dX6_kindAt_5 (by decide) ?_ ?_
  · refine q_aload_n (i := 0) (x := 77) dX6_kindAt_10 rfl 0 rfl ?_
    refine q_getd (t := 86) dX6_kindAt_11 foX6_18 zC_77 rfl ?_
    refine q_iload_n (i := 1) (x := p1) dX6_kindAt_14 rfl 1 rfl ?_
    refine q_iald dX6_kindAt_15 zC_86 ?_
    refine q_bipush (v := 97) dX6_kindAt_16 (by decide) ?_
    refine q_icmp_lt (tgt := 34) dX6_kindAt_18 (by decide) ?_ ?_
    · exact q_sub [0, 1] rfl (aX6_kindAt_b34 σ p1)
    refine q_aload_n (i := 0) (x := 77) dX6_kindAt_21 rfl 0 rfl ?_
    refine q_getd (t := 86) dX6_kindAt_22 foX6_18 zC_77 rfl ?_
    refine q_iload_n (i := 1) (x := p1) dX6_kindAt_25 rfl 1 rfl ?_
    refine q_iald dX6_kindAt_26 zC_86 ?_
    refine q_bipush (v := 122) dX6_kindAt_27 (by decide) ?_
    refine q_icmp_gt (tgt := 34) dX6_kindAt_29 (by decide) ?_ ?_
    · exact q_sub [0, 1] rfl (aX6_kindAt_b34 σ p1)
    refine q_iconst (v := 0) dX6_kindAt_32 (by decide) ?_
    exact q_ireti (y := 0) dX6_kindAt_33 rfl rfl
  refine q_iconst (v := 3) dX6_kindAt_8 (by decide) ?_
  exact q_ireti (y := 3) dX6_kindAt_9 rfl rfl
theorem kX6_kindAt  (p1 : Int32)  (σ : qMem) : qMc wC mX6_kindAt (ρp σ) [.ref 77, .int p1] σ (fX6_kindAt p1 σ) := qMc_of (moX6_kindAt) (Nat.le_of_ble_eq_true rfl) (aX6_kindAt p1  σ)

theorem dX6_move_0 : decode cX6_move 0 = .ok (.aload_n 0, 1) := by decide +kernel
theorem dX6_move_1 : decode cX6_move 1 = .ok (.getfield 32, 3) := by decide +kernel
theorem dX6_move_4 : decode cX6_move 4 = .ok (.istore_n 1, 1) := by decide +kernel
theorem dX6_move_5 : decode cX6_move 5 = .ok (.iload_n 1, 1) := by decide +kernel
theorem dX6_move_6 : decode cX6_move 6 = .ok (.aload_n 0, 1) := by decide +kernel
theorem dX6_move_7 : decode cX6_move 7 = .ok (.getfield 22, 3) := by decide +kernel
theorem dX6_move_10 : decode cX6_move 10 = .ok (.if_icmp .ge 20, 3) := by decide +kernel
theorem dX6_move_13 : decode cX6_move 13 = .ok (.aload_n 0, 1) := by decide +kernel
theorem dX6_move_14 : decode cX6_move 14 = .ok (.getfield 18, 3) := by decide +kernel
theorem dX6_move_17 : decode cX6_move 17 = .ok (.iload_n 1, 1) := by decide +kernel
theorem dX6_move_18 : decode cX6_move 18 = .ok (.iaload, 1) := by decide +kernel
theorem dX6_move_19 : decode cX6_move 19 = .ok (.bipush 32, 2) := by decide +kernel
theorem dX6_move_21 : decode cX6_move 21 = .ok (.if_icmp .ne 9, 3) := by decide +kernel
theorem dX6_move_24 : decode cX6_move 24 = .ok (.iinc 1 1, 3) := by decide +kernel
theorem dX6_move_27 : decode cX6_move 27 = .ok (.goto (-22), 3) := by decide +kernel
theorem dX6_move_30 : decode cX6_move 30 = .ok (.aload_n 0, 1) := by decide +kernel
theorem dX6_move_31 : decode cX6_move 31 = .ok (.iload_n 1, 1) := by decide +kernel
theorem dX6_move_32 : decode cX6_move 32 = .ok (.putfield 29, 3) := by decide +kernel
theorem dX6_move_35 : decode cX6_move 35 = .ok (.aload_n 0, 1) := by decide +kernel
theorem dX6_move_36 : decode cX6_move 36 = .ok (.aload_n 0, 1) := by decide +kernel
theorem dX6_move_37 : decode cX6_move 37 = .ok (.iload_n 1, 1) := by decide +kernel
theorem dX6_move_38 : decode cX6_move 38 = .ok (.invokevirtual 145, 3) := by decide +kernel
theorem dX6_move_41 : decode cX6_move 41 = .ok (.putfield 26, 3) := by decide +kernel
theorem dX6_move_44 : decode cX6_move 44 = .ok (.aload_n 0, 1) := by decide +kernel
theorem dX6_move_45 : decode cX6_move 45 = .ok (.getfield 26, 3) := by decide +kernel
theorem dX6_move_48 : decode cX6_move 48 = .ok (.iconst 3, 1) := by decide +kernel
theorem dX6_move_49 : decode cX6_move 49 = .ok (.if_icmp .eq 6, 3) := by decide +kernel
theorem dX6_move_52 : decode cX6_move 52 = .ok (.iinc 1 1, 3) := by decide +kernel
theorem dX6_move_55 : decode cX6_move 55 = .ok (.aload_n 0, 1) := by decide +kernel
theorem dX6_move_56 : decode cX6_move 56 = .ok (.getfield 26, 3) := by decide +kernel
theorem dX6_move_59 : decode cX6_move 59 = .ok (.iconst 2, 1) := by decide +kernel
theorem dX6_move_60 : decode cX6_move 60 = .ok (.if_icmp .ge 29, 3) := by decide +kernel
theorem dX6_move_63 : decode cX6_move 63 = .ok (.iload_n 1, 1) := by decide +kernel
theorem dX6_move_64 : decode cX6_move 64 = .ok (.aload_n 0, 1) := by decide +kernel
theorem dX6_move_65 : decode cX6_move 65 = .ok (.getfield 22, 3) := by decide +kernel
theorem dX6_move_68 : decode cX6_move 68 = .ok (.if_icmp .ge 21, 3) := by decide +kernel
theorem dX6_move_71 : decode cX6_move 71 = .ok (.aload_n 0, 1) := by decide +kernel
theorem dX6_move_72 : decode cX6_move 72 = .ok (.iload_n 1, 1) := by decide +kernel
theorem dX6_move_73 : decode cX6_move 73 = .ok (.invokevirtual 145, 3) := by decide +kernel
theorem dX6_move_76 : decode cX6_move 76 = .ok (.aload_n 0, 1) := by decide +kernel
theorem dX6_move_77 : decode cX6_move 77 = .ok (.getfield 26, 3) := by decide +kernel
theorem dX6_move_80 : decode cX6_move 80 = .ok (.if_icmp .ne 9, 3) := by decide +kernel
theorem dX6_move_83 : decode cX6_move 83 = .ok (.iinc 1 1, 3) := by decide +kernel
theorem dX6_move_86 : decode cX6_move 86 = .ok (.goto (-31), 3) := by decide +kernel
theorem dX6_move_89 : decode cX6_move 89 = .ok (.aload_n 0, 1) := by decide +kernel
theorem dX6_move_90 : decode cX6_move 90 = .ok (.iload_n 1, 1) := by decide +kernel
theorem dX6_move_91 : decode cX6_move 91 = .ok (.putfield 32, 3) := by decide +kernel
theorem dX6_move_94 : decode cX6_move 94 = .ok (.return_, 1) := by decide +kernel
def fX6_move_s55 (N : Nat) (c55 : Int32 → qMem → Option qMem) (v1 : Int32) (σ : qMem) : Option qMem :=
  (if 2 ≤ (gi σ 77 3) then (nmM (si σ 77 5 v1) fun s4 => (some s4)) else (if (gi σ 77 2) ≤ v1 then (nmM (si σ 77 5 v1) fun s5 => (some s5)) else ((fX6_kindAt v1 σ).bind fun y6 => (if y6 = (gi σ 77 3) then (c55 (v1 + 1) σ) else (nmM (si σ 77 5 v1) fun s7 => (some s7))))))
set_option maxRecDepth 20000 in
set_option maxHeartbeats 4000000 in
theorem aX6_move_s55 (N : Nat) (c55 : Int32 → qMem → Option qMem) (hc55 : ∀ (v1 : Int32) (σ : qMem), qAt wC mX6_move (ρv) 55 [(0, .ref 77), (1, .int v1)] [] σ (c55 v1 σ)) (v1 : Int32) (σ : qMem) : qAt wC mX6_move (ρv) 55 [(0, .ref 77), (1, .int v1)] [] σ (fX6_move_s55 N c55 v1 σ) := by
  unfold fX6_move_s55
  refine q_aload_n (i := 0) (x := 77) dX6_move_55 rfl 0 rfl ?_
  refine q_geti dX6_move_56 foX6_26 zC_77 rfl ?_
  refine q_iconst (v := 2) dX6_move_59 (by decide) ?_
  refine q_icmp_ge (tgt := 89) dX6_move_60 (by decide) ?_ ?_
  · refine q_aload_n (i := 0) (x := 77) dX6_move_89 rfl 0 rfl ?_
    refine q_iload_n (i := 1) (x := v1) dX6_move_90 rfl 1 rfl ?_
    refine q_puti dX6_move_91 foX6_32 fwX6_5 zC_77 rfl ?_
    refine q_nmM (fun s4 => ?_)
    exact q_vret (y := s4) dX6_move_94 rfl rfl
  refine q_iload_n (i := 1) (x := v1) dX6_move_63 rfl 1 rfl ?_
  refine q_aload_n (i := 0) (x := 77) dX6_move_64 rfl 0 rfl ?_
  refine q_geti dX6_move_65 foX6_22 zC_77 rfl ?_
  refine q_icmp_ge (tgt := 89) dX6_move_68 (by decide) ?_ ?_
  · refine q_aload_n (i := 0) (x := 77) dX6_move_89 rfl 0 rfl ?_
    refine q_iload_n (i := 1) (x := v1) dX6_move_90 rfl 1 rfl ?_
    refine q_puti dX6_move_91 foX6_32 fwX6_5 zC_77 rfl ?_
    refine q_nmM (fun s5 => ?_)
    exact q_vret (y := s5) dX6_move_94 rfl rfl
  refine q_aload_n (i := 0) (x := 77) dX6_move_71 rfl 0 rfl ?_
  refine q_iload_n (i := 1) (x := v1) dX6_move_72 rfl 1 rfl ?_
  refine q_cVp mX6_kindAt [.int v1] (st := []) dX6_move_73 (svX6_145) ⟨Nat.le_of_ble_eq_true rfl, Nat.le_of_ble_eq_true rfl⟩ zC_77 rfl rfl rfl (Nat.le_of_ble_eq_true rfl) (kX6_kindAt v1 σ) (fun y6 => ?_)
  refine q_aload_n (i := 0) (x := 77) dX6_move_76 rfl 0 rfl ?_
  refine q_geti dX6_move_77 foX6_26 zC_77 rfl ?_
  refine q_icmp_ne (tgt := 89) dX6_move_80 (by decide) ?_ ?_
  · refine q_aload_n (i := 0) (x := 77) dX6_move_89 rfl 0 rfl ?_
    refine q_iload_n (i := 1) (x := v1) dX6_move_90 rfl 1 rfl ?_
    refine q_puti dX6_move_91 foX6_32 fwX6_5 zC_77 rfl ?_
    refine q_nmM (fun s7 => ?_)
    exact q_vret (y := s7) dX6_move_94 rfl rfl
  refine q_iinc (i := 1) (x := v1) (v := (v1 + 1)) (L' := [(1, .int (v1 + 1)), (0, .ref 77)]) dX6_move_83 1 rfl (q_cst v1 (by decide)) (Nat.le_of_ble_eq_true rfl) rfl ?_
  refine q_goto (tgt := 55) dX6_move_86 (by decide) ?_
  exact q_sub [1, 0] rfl (hc55 (v1 + 1) σ)
def fX6_move_l55 (N : Nat) : Nat → Int32 → qMem → Option qMem
  | 0 => fun _ _ => none
  | n + 1 => fun v1 σ => fX6_move_s55 N (fX6_move_l55 N n) v1 σ
theorem aX6_move_l55 (N : Nat) : ∀ (n : Nat) (v1 : Int32) (σ : qMem), qAt wC mX6_move (ρv) 55 [(0, .ref 77), (1, .int v1)] [] σ (fX6_move_l55 N n v1 σ) := by
  intro n
  induction n with
  | zero => intro v1 σ; exact q_none
  | succ n ih => intro v1 σ; exact aX6_move_s55 N (fX6_move_l55 N n) ih v1 σ

def fX6_move_b30 (N : Nat) (v1 : Int32) (σ : qMem) : Option qMem :=
  (nmM (si σ 77 4 v1) fun s1 => ((fX6_kindAt v1 s1).bind fun y2 => (nmM (si s1 77 3 y2) fun s3 => (if (gi s3 77 3) = 3 then (fX6_move_l55 N N v1 s3) else (fX6_move_l55 N N (v1 + 1) s3)))))
set_option maxRecDepth 20000 in
set_option maxHeartbeats 4000000 in
theorem aX6_move_b30 (N : Nat) (v1 : Int32) (σ : qMem) : qAt wC mX6_move (ρv) 30 [(0, .ref 77), (1, .int v1)] [] σ (fX6_move_b30 N v1 σ) := by
  unfold fX6_move_b30
  refine q_aload_n (i := 0) (x := 77) dX6_move_30 rfl 0 rfl ?_
  refine q_iload_n (i := 1) (x := v1) dX6_move_31 rfl 1 rfl ?_
  refine q_puti dX6_move_32 foX6_29 fwX6_4 zC_77 rfl ?_
  refine q_nmM (fun s1 => ?_)
  refine q_aload_n (i := 0) (x := 77) dX6_move_35 rfl 0 rfl ?_
  refine q_aload_n (i := 0) (x := 77) dX6_move_36 rfl 0 rfl ?_
  refine q_iload_n (i := 1) (x := v1) dX6_move_37 rfl 1 rfl ?_
  refine q_cVp mX6_kindAt [.int v1] (st := [.ref 77]) dX6_move_38 (svX6_145) ⟨Nat.le_of_ble_eq_true rfl, Nat.le_of_ble_eq_true rfl⟩ zC_77 rfl rfl rfl (Nat.le_of_ble_eq_true rfl) (kX6_kindAt v1 s1) (fun y2 => ?_)
  refine q_puti dX6_move_41 foX6_26 fwX6_3 zC_77 rfl ?_
  refine q_nmM (fun s3 => ?_)
  refine q_aload_n (i := 0) (x := 77) dX6_move_44 rfl 0 rfl ?_
  refine q_geti dX6_move_45 foX6_26 zC_77 rfl ?_
  refine q_iconst (v := 3) dX6_move_48 (by decide) ?_
  refine q_icmp_eq (tgt := 55) dX6_move_49 (by decide) ?_ ?_
  · exact q_sub [0, 1] rfl (aX6_move_l55 N N v1 s3)
  refine q_iinc (i := 1) (x := v1) (v := (v1 + 1)) (L' := [(1, .int (v1 + 1)), (0, .ref 77)]) dX6_move_52 1 rfl (q_cst v1 (by decide)) (Nat.le_of_ble_eq_true rfl) rfl ?_
  exact q_sub [1, 0] rfl (aX6_move_l55 N N (v1 + 1) s3)

def fX6_move_s5 (N : Nat) (c5 : Int32 → qMem → Option qMem) (v1 : Int32) (σ : qMem) : Option qMem :=
  (if (gi σ 77 2) ≤ v1 then (fX6_move_b30 N v1 σ) else (if (gi σ 77 1).toNatClampNeg = 86 then (if ck v1 400 = true then (if (gi σ 86 v1.toNatClampNeg) = 32 then (c5 (v1 + 1) σ) else (fX6_move_b30 N v1 σ)) else none) else none))
set_option maxRecDepth 20000 in
set_option maxHeartbeats 4000000 in
theorem aX6_move_s5 (N : Nat) (c5 : Int32 → qMem → Option qMem) (hc5 : ∀ (v1 : Int32) (σ : qMem), qAt wC mX6_move (ρv) 5 [(0, .ref 77), (1, .int v1)] [] σ (c5 v1 σ)) (v1 : Int32) (σ : qMem) : qAt wC mX6_move (ρv) 5 [(0, .ref 77), (1, .int v1)] [] σ (fX6_move_s5 N c5 v1 σ) := by
  unfold fX6_move_s5
  refine q_iload_n (i := 1) (x := v1) dX6_move_5 rfl 1 rfl ?_
  refine q_aload_n (i := 0) (x := 77) dX6_move_6 rfl 0 rfl ?_
  refine q_geti dX6_move_7 foX6_22 zC_77 rfl ?_
  refine q_icmp_ge (tgt := 30) dX6_move_10 (by decide) ?_ ?_
  · exact q_sub [0, 1] rfl (aX6_move_b30 N v1 σ)
  refine q_aload_n (i := 0) (x := 77) dX6_move_13 rfl 0 rfl ?_
  refine q_getd (t := 86) dX6_move_14 foX6_18 zC_77 rfl ?_
  refine q_iload_n (i := 1) (x := v1) dX6_move_17 rfl 1 rfl ?_
  refine q_iald dX6_move_18 zC_86 ?_
  refine q_bipush (v := 32) dX6_move_19 (by decide) ?_
  refine q_icmp_ne (tgt := 30) dX6_move_21 (by decide) ?_ ?_
  · exact q_sub [0, 1] rfl (aX6_move_b30 N v1 σ)
  refine q_iinc (i := 1) (x := v1) (v := (v1 + 1)) (L' := [(1, .int (v1 + 1)), (0, .ref 77)]) dX6_move_24 1 rfl (q_cst v1 (by decide)) (Nat.le_of_ble_eq_true rfl) rfl ?_
  refine q_goto (tgt := 5) dX6_move_27 (by decide) ?_
  exact q_sub [1, 0] rfl (hc5 (v1 + 1) σ)
def fX6_move_l5 (N : Nat) : Nat → Int32 → qMem → Option qMem
  | 0 => fun _ _ => none
  | n + 1 => fun v1 σ => fX6_move_s5 N (fX6_move_l5 N n) v1 σ
theorem aX6_move_l5 (N : Nat) : ∀ (n : Nat) (v1 : Int32) (σ : qMem), qAt wC mX6_move (ρv) 5 [(0, .ref 77), (1, .int v1)] [] σ (fX6_move_l5 N n v1 σ) := by
  intro n
  induction n with
  | zero => intro v1 σ; exact q_none
  | succ n ih => intro v1 σ; exact aX6_move_s5 N (fX6_move_l5 N n) ih v1 σ

def fX6_move (N : Nat)  (σ : qMem) : Option qMem :=
  (fX6_move_l5 N N (gi σ 77 5) σ)
set_option maxRecDepth 20000 in
set_option maxHeartbeats 4000000 in
theorem aX6_move  (N : Nat)   (σ : qMem) : qAt wC mX6_move (ρv) 0 [(0, .ref 77)] [] σ (fX6_move N σ) := by
  unfold fX6_move
  refine q_aload_n (i := 0) (x := 77) dX6_move_0 rfl 0 rfl ?_
  refine q_geti dX6_move_1 foX6_32 zC_77 rfl ?_
  refine q_istore_n (i := 1) (L' := [(1, .int (gi σ 77 5)), (0, .ref 77)]) dX6_move_4 rfl (Nat.le_of_ble_eq_true rfl) rfl ?_
  exact q_sub [1, 0] rfl (aX6_move_l5 N N (gi σ 77 5) σ)
theorem kX6_move  (N : Nat)   (σ : qMem) : qMc wC mX6_move (ρv) [.ref 77] σ (fX6_move N σ) := qMc_of (moX6_move) (Nat.le_of_ble_eq_true rfl) (aX6_move N  σ)


theorem dX6_number_0 : decode cX6_number 0 = .ok (.iconst 0, 1) := by decide +kernel
theorem dX6_number_1 : decode cX6_number 1 = .ok (.istore_n 1, 1) := by decide +kernel
theorem dX6_number_2 : decode cX6_number 2 = .ok (.aload_n 0, 1) := by decide +kernel
theorem dX6_number_3 : decode cX6_number 3 = .ok (.getfield 29, 3) := by decide +kernel
theorem dX6_number_6 : decode cX6_number 6 = .ok (.istore_n 2, 1) := by decide +kernel
theorem dX6_number_7 : decode cX6_number 7 = .ok (.iload_n 2, 1) := by decide +kernel
theorem dX6_number_8 : decode cX6_number 8 = .ok (.aload_n 0, 1) := by decide +kernel
theorem dX6_number_9 : decode cX6_number 9 = .ok (.getfield 32, 3) := by decide +kernel
theorem dX6_number_12 : decode cX6_number 12 = .ok (.if_icmp .ge 31, 3) := by decide +kernel
theorem dX6_number_15 : decode cX6_number 15 = .ok (.iload_n 1, 1) := by decide +kernel
theorem dX6_number_16 : decode cX6_number 16 = .ok (.sipush 1000, 3) := by decide +kernel
theorem dX6_number_19 : decode cX6_number 19 = .ok (.if_icmp .gt 24, 3) := by decide +kernel
theorem dX6_number_22 : decode cX6_number 22 = .ok (.iload_n 1, 1) := by decide +kernel
theorem dX6_number_23 : decode cX6_number 23 = .ok (.bipush 10, 2) := by decide +kernel
theorem dX6_number_25 : decode cX6_number 25 = .ok (.imul, 1) := by decide +kernel
theorem dX6_number_26 : decode cX6_number 26 = .ok (.aload_n 0, 1) := by decide +kernel
theorem dX6_number_27 : decode cX6_number 27 = .ok (.getfield 18, 3) := by decide +kernel
theorem dX6_number_30 : decode cX6_number 30 = .ok (.iload_n 2, 1) := by decide +kernel
theorem dX6_number_31 : decode cX6_number 31 = .ok (.iaload, 1) := by decide +kernel
theorem dX6_number_32 : decode cX6_number 32 = .ok (.iadd, 1) := by decide +kernel
theorem dX6_number_33 : decode cX6_number 33 = .ok (.bipush 48, 2) := by decide +kernel
theorem dX6_number_35 : decode cX6_number 35 = .ok (.isub, 1) := by decide +kernel
theorem dX6_number_36 : decode cX6_number 36 = .ok (.istore_n 1, 1) := by decide +kernel
theorem dX6_number_37 : decode cX6_number 37 = .ok (.iinc 2 1, 3) := by decide +kernel
theorem dX6_number_40 : decode cX6_number 40 = .ok (.goto (-33), 3) := by decide +kernel
theorem dX6_number_43 : decode cX6_number 43 = .ok (.iload_n 1, 1) := by decide +kernel
theorem dX6_number_44 : decode cX6_number 44 = .ok (.ireturn, 1) := by decide +kernel
def fX6_number_s7 (N : Nat) (c7 : Int32 → Int32 → Option Int32) (v1 : Int32) (v2 : Int32) (σ : qMem) : Option Int32 :=
  (if (gi σ 77 5) ≤ v2 then (some v1) else (if 1000 < v1 then (some v1) else (if (gi σ 77 1).toNatClampNeg = 86 then (if ck v2 400 = true then (nmI (((v1 * 10) + (gi σ 86 v2.toNatClampNeg)) - 48) fun x1 => (c7 x1 (v2 + 1))) else none) else none)))
set_option maxRecDepth 20000 in
set_option maxHeartbeats 4000000 in
theorem aX6_number_s7 (N : Nat) (σ : qMem) (c7 : Int32 → Int32 → Option Int32) (hc7 : ∀ (v1 : Int32) (v2 : Int32) , qAt wC mX6_number (ρp σ) 7 [(0, .ref 77), (1, .int v1), (2, .int v2)] [] σ (c7 v1 v2)) (v1 : Int32) (v2 : Int32) : qAt wC mX6_number (ρp σ) 7 [(0, .ref 77), (1, .int v1), (2, .int v2)] [] σ (fX6_number_s7 N c7 v1 v2 σ) := by
  unfold fX6_number_s7
  refine q_iload_n (i := 2) (x := v2) dX6_number_7 rfl 2 rfl ?_
  refine q_aload_n (i := 0) (x := 77) dX6_number_8 rfl 0 rfl ?_
  refine q_geti dX6_number_9 foX6_32 zC_77 rfl ?_
  refine q_icmp_ge (tgt := 43) dX6_number_12 (by decide) ?_ ?_
  · refine q_iload_n (i := 1) (x := v1) dX6_number_43 rfl 1 rfl ?_
    exact q_ireti (y := v1) dX6_number_44 rfl rfl
  refine q_iload_n (i := 1) (x := v1) dX6_number_15 rfl 1 rfl ?_
  refine q_sipush (v := 1000) dX6_number_16 (by decide) ?_
  refine q_icmp_gt (tgt := 43) dX6_number_19 (by decide) ?_ ?_
  · refine q_iload_n (i := 1) (x := v1) dX6_number_43 rfl 1 rfl ?_
    exact q_ireti (y := v1) dX6_number_44 rfl rfl
  refine q_iload_n (i := 1) (x := v1) dX6_number_22 rfl 1 rfl ?_
  refine q_bipush (v := 10) dX6_number_23 (by decide) ?_
  refine q_imul dX6_number_25 ?_
  refine q_aload_n (i := 0) (x := 77) dX6_number_26 rfl 0 rfl ?_
  refine q_getd (t := 86) dX6_number_27 foX6_18 zC_77 rfl ?_
  refine q_iload_n (i := 2) (x := v2) dX6_number_30 rfl 2 rfl ?_
  refine q_iald dX6_number_31 zC_86 ?_
  refine q_iadd dX6_number_32 ?_
  refine q_bipush (v := 48) dX6_number_33 (by decide) ?_
  refine q_isub dX6_number_35 ?_
  refine q_nmI (fun x1 => ?_)
  refine q_istore_n (i := 1) (L' := [(1, .int x1), (0, .ref 77), (2, .int v2)]) dX6_number_36 rfl (Nat.le_of_ble_eq_true rfl) rfl ?_
  refine q_iinc (i := 2) (x := v2) (v := (v2 + 1)) (L' := [(2, .int (v2 + 1)), (1, .int x1), (0, .ref 77)]) dX6_number_37 2 rfl (q_cst v2 (by decide)) (Nat.le_of_ble_eq_true rfl) rfl ?_
  refine q_goto (tgt := 7) dX6_number_40 (by decide) ?_
  exact q_sub [2, 1, 0] rfl (hc7 x1 (v2 + 1))
def fX6_number_l7 (N : Nat) (σ : qMem) : Nat → Int32 → Int32 → Option Int32
  | 0 => fun _ _ => none
  | n + 1 => fun v1 v2 => fX6_number_s7 N (fX6_number_l7 N σ n) v1 v2 σ
theorem aX6_number_l7 (N : Nat) (σ : qMem) : ∀ (n : Nat) (v1 : Int32) (v2 : Int32), qAt wC mX6_number (ρp σ) 7 [(0, .ref 77), (1, .int v1), (2, .int v2)] [] σ (fX6_number_l7 N σ n v1 v2) := by
  intro n
  induction n with
  | zero => intro v1 v2; exact q_none
  | succ n ih => intro v1 v2; exact aX6_number_s7 N σ (fX6_number_l7 N σ n) ih v1 v2

def fX6_number (N : Nat)  (σ : qMem) : Option Int32 :=
  (fX6_number_l7 N σ N 0 (gi σ 77 4))
set_option maxRecDepth 20000 in
set_option maxHeartbeats 4000000 in
theorem aX6_number  (N : Nat)   (σ : qMem) : qAt wC mX6_number (ρp σ) 0 [(0, .ref 77)] [] σ (fX6_number N σ) := by
  unfold fX6_number
  refine q_iconst (v := 0) dX6_number_0 (by decide) ?_
  refine q_istore_n (i := 1) (L' := [(1, .int 0), (0, .ref 77)]) dX6_number_1 rfl (Nat.le_of_ble_eq_true rfl) rfl ?_
  refine q_aload_n (i := 0) (x := 77) dX6_number_2 rfl 1 rfl ?_
  refine q_geti dX6_number_3 foX6_29 zC_77 rfl ?_
  refine q_istore_n (i := 2) (L' := [(2, .int (gi σ 77 4)), (1, .int 0), (0, .ref 77)]) dX6_number_6 rfl (Nat.le_of_ble_eq_true rfl) rfl ?_
  exact q_sub [2, 1, 0] rfl (aX6_number_l7 N σ N 0 (gi σ 77 4))
theorem kX6_number  (N : Nat)   (σ : qMem) : qMc wC mX6_number (ρp σ) [.ref 77] σ (fX6_number N σ) := qMc_of (moX6_number) (Nat.le_of_ble_eq_true rfl) (aX6_number N  σ)

theorem dX6_wordAsked_0 : decode cX6_wordAsked 0 = .ok (.aload_n 0, 1) := by decide +kernel
theorem dX6_wordAsked_1 : decode cX6_wordAsked 1 = .ok (.ldc 135, 2) := by decide +kernel
theorem dX6_wordAsked_3 : decode cX6_wordAsked 3 = .ok (.invokevirtual 72, 3) := by decide +kernel
theorem dX6_wordAsked_6 : decode cX6_wordAsked 6 = .ok (.ifCond .eq 5, 3) := by decide +kernel
theorem dX6_wordAsked_9 : decode cX6_wordAsked 9 = .ok (.iconst 0, 1) := by decide +kernel
theorem dX6_wordAsked_10 : decode cX6_wordAsked 10 = .ok (.ireturn, 1) := by decide +kernel
theorem dX6_wordAsked_11 : decode cX6_wordAsked 11 = .ok (.aload_n 0, 1) := by decide +kernel
theorem dX6_wordAsked_12 : decode cX6_wordAsked 12 = .ok (.ldc 137, 2) := by decide +kernel
theorem dX6_wordAsked_14 : decode cX6_wordAsked 14 = .ok (.invokevirtual 72, 3) := by decide +kernel
theorem dX6_wordAsked_17 : decode cX6_wordAsked 17 = .ok (.ifCond .eq 5, 3) := by decide +kernel
theorem dX6_wordAsked_20 : decode cX6_wordAsked 20 = .ok (.iconst 1, 1) := by decide +kernel
theorem dX6_wordAsked_21 : decode cX6_wordAsked 21 = .ok (.ireturn, 1) := by decide +kernel
theorem dX6_wordAsked_22 : decode cX6_wordAsked 22 = .ok (.aload_n 0, 1) := by decide +kernel
theorem dX6_wordAsked_23 : decode cX6_wordAsked 23 = .ok (.ldc 139, 2) := by decide +kernel
theorem dX6_wordAsked_25 : decode cX6_wordAsked 25 = .ok (.invokevirtual 72, 3) := by decide +kernel
theorem dX6_wordAsked_28 : decode cX6_wordAsked 28 = .ok (.ifCond .eq 5, 3) := by decide +kernel
theorem dX6_wordAsked_31 : decode cX6_wordAsked 31 = .ok (.iconst 2, 1) := by decide +kernel
theorem dX6_wordAsked_32 : decode cX6_wordAsked 32 = .ok (.ireturn, 1) := by decide +kernel
theorem dX6_wordAsked_33 : decode cX6_wordAsked 33 = .ok (.aload_n 0, 1) := by decide +kernel
theorem dX6_wordAsked_34 : decode cX6_wordAsked 34 = .ok (.ldc 141, 2) := by decide +kernel
theorem dX6_wordAsked_36 : decode cX6_wordAsked 36 = .ok (.invokevirtual 72, 3) := by decide +kernel
theorem dX6_wordAsked_39 : decode cX6_wordAsked 39 = .ok (.ifCond .eq 5, 3) := by decide +kernel
theorem dX6_wordAsked_42 : decode cX6_wordAsked 42 = .ok (.iconst 3, 1) := by decide +kernel
theorem dX6_wordAsked_43 : decode cX6_wordAsked 43 = .ok (.ireturn, 1) := by decide +kernel
theorem dX6_wordAsked_44 : decode cX6_wordAsked 44 = .ok (.aload_n 0, 1) := by decide +kernel
theorem dX6_wordAsked_45 : decode cX6_wordAsked 45 = .ok (.ldc 143, 2) := by decide +kernel
theorem dX6_wordAsked_47 : decode cX6_wordAsked 47 = .ok (.invokevirtual 72, 3) := by decide +kernel
theorem dX6_wordAsked_50 : decode cX6_wordAsked 50 = .ok (.ifCond .eq 7, 3) := by decide +kernel
theorem dX6_wordAsked_53 : decode cX6_wordAsked 53 = .ok (.iconst 4, 1) := by decide +kernel
theorem dX6_wordAsked_54 : decode cX6_wordAsked 54 = .ok (.goto 4, 3) := by decide +kernel
theorem dX6_wordAsked_57 : decode cX6_wordAsked 57 = .ok (.iconst (-1), 1) := by decide +kernel
theorem dX6_wordAsked_58 : decode cX6_wordAsked 58 = .ok (.ireturn, 1) := by decide +kernel

def fX6_wordAsked (N : Nat)  (σ : qMem) : Option Int32 :=
  ((fX6_isWord 7 σ).bind fun y1 => (if y1 = 0 then ((fX6_isWord 8 σ).bind fun y2 => (if y2 = 0 then ((fX6_isWord 9 σ).bind fun y3 => (if y3 = 0 then ((fX6_isWord 10 σ).bind fun y4 => (if y4 = 0 then ((fX6_isWord 11 σ).bind fun y5 => (if y5 = 0 then (some (-1)) else (some 4))) else (some 3))) else (some 2))) else (some 1))) else (some 0)))
set_option maxRecDepth 20000 in
set_option maxHeartbeats 4000000 in
theorem aX6_wordAsked  (N : Nat)   (σ : qMem) : qAt wC mX6_wordAsked (ρp σ) 0 [(0, .ref 77)] [] σ (fX6_wordAsked N σ) := by
  unfold fX6_wordAsked
  refine q_aload_n (i := 0) (x := 77) dX6_wordAsked_0 rfl 0 rfl ?_
  refine q_ldcS 7 rfl rfl dX6_wordAsked_1 rfl ?_
  refine q_cVp mX6_isWord [.ref 1017] (st := []) dX6_wordAsked_3 (svX6_72) ⟨Nat.le_of_ble_eq_true rfl, Nat.le_of_ble_eq_true rfl⟩ zC_77 rfl rfl rfl (Nat.le_of_ble_eq_true rfl) (kX6_isWord 7 (by decide) σ) (fun y1 => ?_)
  refine q_if_eq (tgt := 11) dX6_wordAsked_6 (by decide) ?_ ?_
  · refine q_aload_n (i := 0) (x := 77) dX6_wordAsked_11 rfl 0 rfl ?_
    refine q_ldcS 8 rfl rfl dX6_wordAsked_12 rfl ?_
    refine q_cVp mX6_isWord [.ref 1018] (st := []) dX6_wordAsked_14 (svX6_72) ⟨Nat.le_of_ble_eq_true rfl, Nat.le_of_ble_eq_true rfl⟩ zC_77 rfl rfl rfl (Nat.le_of_ble_eq_true rfl) (kX6_isWord 8 (by decide) σ) (fun y2 => ?_)
    refine q_if_eq (tgt := 22) dX6_wordAsked_17 (by decide) ?_ ?_
    · refine q_aload_n (i := 0) (x := 77) dX6_wordAsked_22 rfl 0 rfl ?_
      refine q_ldcS 9 rfl rfl dX6_wordAsked_23 rfl ?_
      refine q_cVp mX6_isWord [.ref 1019] (st := []) dX6_wordAsked_25 (svX6_72) ⟨Nat.le_of_ble_eq_true rfl, Nat.le_of_ble_eq_true rfl⟩ zC_77 rfl rfl rfl (Nat.le_of_ble_eq_true rfl) (kX6_isWord 9 (by decide) σ) (fun y3 => ?_)
      refine q_if_eq (tgt := 33) dX6_wordAsked_28 (by decide) ?_ ?_
      · refine q_aload_n (i := 0) (x := 77) dX6_wordAsked_33 rfl 0 rfl ?_
        refine q_ldcS 10 rfl rfl dX6_wordAsked_34 rfl ?_
        refine q_cVp mX6_isWord [.ref 1020] (st := []) dX6_wordAsked_36 (svX6_72) ⟨Nat.le_of_ble_eq_true rfl, Nat.le_of_ble_eq_true rfl⟩ zC_77 rfl rfl rfl (Nat.le_of_ble_eq_true rfl) (kX6_isWord 10 (by decide) σ) (fun y4 => ?_)
        refine q_if_eq (tgt := 44) dX6_wordAsked_39 (by decide) ?_ ?_
        · refine q_aload_n (i := 0) (x := 77) dX6_wordAsked_44 rfl 0 rfl ?_
          refine q_ldcS 11 rfl rfl dX6_wordAsked_45 rfl ?_
          refine q_cVp mX6_isWord [.ref 1021] (st := []) dX6_wordAsked_47 (svX6_72) ⟨Nat.le_of_ble_eq_true rfl, Nat.le_of_ble_eq_true rfl⟩ zC_77 rfl rfl rfl (Nat.le_of_ble_eq_true rfl) (kX6_isWord 11 (by decide) σ) (fun y5 => ?_)
          refine q_if_eq (tgt := 57) dX6_wordAsked_50 (by decide) ?_ ?_
          · refine q_iconst (v := (-1)) dX6_wordAsked_57 (by decide) ?_
            exact q_ireti (y := (-1)) dX6_wordAsked_58 rfl rfl
          refine q_iconst (v := 4) dX6_wordAsked_53 (by decide) ?_
          refine q_goto (tgt := 58) dX6_wordAsked_54 (by decide) ?_
          exact q_ireti (y := 4) dX6_wordAsked_58 rfl rfl
        refine q_iconst (v := 3) dX6_wordAsked_42 (by decide) ?_
        exact q_ireti (y := 3) dX6_wordAsked_43 rfl rfl
      refine q_iconst (v := 2) dX6_wordAsked_31 (by decide) ?_
      exact q_ireti (y := 2) dX6_wordAsked_32 rfl rfl
    refine q_iconst (v := 1) dX6_wordAsked_20 (by decide) ?_
    exact q_ireti (y := 1) dX6_wordAsked_21 rfl rfl
  refine q_iconst (v := 0) dX6_wordAsked_9 (by decide) ?_
  exact q_ireti (y := 0) dX6_wordAsked_10 rfl rfl
theorem kX6_wordAsked  (N : Nat)   (σ : qMem) : qMc wC mX6_wordAsked (ρp σ) [.ref 77] σ (fX6_wordAsked N σ) := qMc_of (moX6_wordAsked) (Nat.le_of_ble_eq_true rfl) (aX6_wordAsked N  σ)

theorem dX6_readPart_0 : decode cX6_readPart 0 = .ok (.aload_n 0, 1) := by decide +kernel
theorem dX6_readPart_1 : decode cX6_readPart 1 = .ok (.bipush 91, 2) := by decide +kernel
theorem dX6_readPart_3 : decode cX6_readPart 3 = .ok (.invokevirtual 57, 3) := by decide +kernel
theorem dX6_readPart_6 : decode cX6_readPart 6 = .ok (.ifCond .eq 11, 3) := by decide +kernel
theorem dX6_readPart_9 : decode cX6_readPart 9 = .ok (.aload_n 0, 1) := by decide +kernel
theorem dX6_readPart_10 : decode cX6_readPart 10 = .ok (.iload_n 1, 1) := by decide +kernel
theorem dX6_readPart_11 : decode cX6_readPart 11 = .ok (.bipush 93, 2) := by decide +kernel
theorem dX6_readPart_13 : decode cX6_readPart 13 = .ok (.invokevirtual 115, 3) := by decide +kernel
theorem dX6_readPart_16 : decode cX6_readPart 16 = .ok (.ireturn, 1) := by decide +kernel
theorem dX6_readPart_17 : decode cX6_readPart 17 = .ok (.aload_n 0, 1) := by decide +kernel
theorem dX6_readPart_18 : decode cX6_readPart 18 = .ok (.getfield 26, 3) := by decide +kernel
theorem dX6_readPart_21 : decode cX6_readPart 21 = .ok (.iconst 1, 1) := by decide +kernel
theorem dX6_readPart_22 : decode cX6_readPart 22 = .ok (.if_icmp .ne 7, 3) := by decide +kernel
theorem dX6_readPart_25 : decode cX6_readPart 25 = .ok (.iconst 1, 1) := by decide +kernel
theorem dX6_readPart_26 : decode cX6_readPart 26 = .ok (.goto 4, 3) := by decide +kernel
theorem dX6_readPart_29 : decode cX6_readPart 29 = .ok (.iconst 0, 1) := by decide +kernel
theorem dX6_readPart_30 : decode cX6_readPart 30 = .ok (.istore_n 2, 1) := by decide +kernel
theorem dX6_readPart_31 : decode cX6_readPart 31 = .ok (.iload_n 2, 1) := by decide +kernel
theorem dX6_readPart_32 : decode cX6_readPart 32 = .ok (.ifCond .eq 10, 3) := by decide +kernel
theorem dX6_readPart_35 : decode cX6_readPart 35 = .ok (.aload_n 0, 1) := by decide +kernel
theorem dX6_readPart_36 : decode cX6_readPart 36 = .ok (.invokevirtual 128, 3) := by decide +kernel
theorem dX6_readPart_39 : decode cX6_readPart 39 = .ok (.goto 7, 3) := by decide +kernel
theorem dX6_readPart_42 : decode cX6_readPart 42 = .ok (.aload_n 0, 1) := by decide +kernel
theorem dX6_readPart_43 : decode cX6_readPart 43 = .ok (.invokevirtual 132, 3) := by decide +kernel
theorem dX6_readPart_46 : decode cX6_readPart 46 = .ok (.istore_n 3, 1) := by decide +kernel
theorem dX6_readPart_47 : decode cX6_readPart 47 = .ok (.iload_n 3, 1) := by decide +kernel
theorem dX6_readPart_48 : decode cX6_readPart 48 = .ok (.iconst (-1), 1) := by decide +kernel
theorem dX6_readPart_49 : decode cX6_readPart 49 = .ok (.if_icmp .eq 23, 3) := by decide +kernel
theorem dX6_readPart_52 : decode cX6_readPart 52 = .ok (.iload_n 2, 1) := by decide +kernel
theorem dX6_readPart_53 : decode cX6_readPart 53 = .ok (.ifCond .eq 10, 3) := by decide +kernel
theorem dX6_readPart_56 : decode cX6_readPart 56 = .ok (.iload_n 3, 1) := by decide +kernel
theorem dX6_readPart_57 : decode cX6_readPart 57 = .ok (.sipush 1000, 3) := by decide +kernel
theorem dX6_readPart_60 : decode cX6_readPart 60 = .ok (.if_icmp .gt 12, 3) := by decide +kernel
theorem dX6_readPart_63 : decode cX6_readPart 63 = .ok (.aload_n 0, 1) := by decide +kernel
theorem dX6_readPart_64 : decode cX6_readPart 64 = .ok (.getfield 35, 3) := by decide +kernel
theorem dX6_readPart_67 : decode cX6_readPart 67 = .ok (.bipush 50, 2) := by decide +kernel
theorem dX6_readPart_69 : decode cX6_readPart 69 = .ok (.if_icmp .lt 5, 3) := by decide +kernel
theorem dX6_readPart_72 : decode cX6_readPart 72 = .ok (.iconst 0, 1) := by decide +kernel
theorem dX6_readPart_73 : decode cX6_readPart 73 = .ok (.ireturn, 1) := by decide +kernel
theorem dX6_readPart_74 : decode cX6_readPart 74 = .ok (.aload_n 0, 1) := by decide +kernel
theorem dX6_readPart_75 : decode cX6_readPart 75 = .ok (.dup, 1) := by decide +kernel
theorem dX6_readPart_76 : decode cX6_readPart 76 = .ok (.getfield 35, 3) := by decide +kernel
theorem dX6_readPart_79 : decode cX6_readPart 79 = .ok (.iconst 1, 1) := by decide +kernel
theorem dX6_readPart_80 : decode cX6_readPart 80 = .ok (.iadd, 1) := by decide +kernel
theorem dX6_readPart_81 : decode cX6_readPart 81 = .ok (.putfield 35, 3) := by decide +kernel
theorem dX6_readPart_84 : decode cX6_readPart 84 = .ok (.aload_n 0, 1) := by decide +kernel
theorem dX6_readPart_85 : decode cX6_readPart 85 = .ok (.getfield 12, 3) := by decide +kernel
theorem dX6_readPart_88 : decode cX6_readPart 88 = .ok (.iload_n 2, 1) := by decide +kernel
theorem dX6_readPart_89 : decode cX6_readPart 89 = .ok (.ifCond .eq 7, 3) := by decide +kernel
theorem dX6_readPart_92 : decode cX6_readPart 92 = .ok (.iconst 0, 1) := by decide +kernel
theorem dX6_readPart_93 : decode cX6_readPart 93 = .ok (.goto 4, 3) := by decide +kernel
theorem dX6_readPart_96 : decode cX6_readPart 96 = .ok (.iconst 1, 1) := by decide +kernel
theorem dX6_readPart_97 : decode cX6_readPart 97 = .ok (.iload_n 3, 1) := by decide +kernel
theorem dX6_readPart_98 : decode cX6_readPart 98 = .ok (.invokevirtual 101, 3) := by decide +kernel
theorem dX6_readPart_101 : decode cX6_readPart 101 = .ok (.aload_n 0, 1) := by decide +kernel
theorem dX6_readPart_102 : decode cX6_readPart 102 = .ok (.invokevirtual 50, 3) := by decide +kernel
theorem dX6_readPart_105 : decode cX6_readPart 105 = .ok (.iconst 1, 1) := by decide +kernel
theorem dX6_readPart_106 : decode cX6_readPart 106 = .ok (.ireturn, 1) := by decide +kernel
def fX6_readPart_b97 (N : Nat) (rX6_readInner : Int32 → Int32 → qMem → Option (Int32 × qMem)) (v3 : Int32) (u1 : Int32) (σ : qMem) : Option (Int32 × qMem) :=
  ((fX5_add 78 u1 v3 σ).bind fun y6 => ((fX6_move N y6).bind fun y7 => (some (1, y7))))
set_option maxRecDepth 20000 in
set_option maxHeartbeats 4000000 in
theorem aX6_readPart_b97 (d : Nat) (N : Nat) (rX6_readInner : Int32 → Int32 → qMem → Option (Int32 × qMem)) (hX6_readInner : ∀ (p1 : Int32) (p2 : Int32)  (σ : qMem), qMc wC (mX6_readInner d) (ρi) [.ref 77, .int p1, .int p2] σ (rX6_readInner p1 p2 σ)) (v3 : Int32) (u1 : Int32) (σ : qMem) : qAt wC (mX6_readPart d) (ρi) 97 [(0, .ref 77), (3, .int v3)] [.int u1, .ref 78] σ (fX6_readPart_b97 N rX6_readInner v3 u1 σ) := by
  unfold fX6_readPart_b97
  refine q_iload_n (i := 3) (x := v3) dX6_readPart_97 rfl 1 rfl ?_
  refine q_cVv mX5_add [.int u1, .int v3] (st := []) dX6_readPart_98 (svX6_101) (by unfold rR mX5_add mX6_readPart; constructor <;> dsimp only <;> omega) zC_78 rfl rfl rfl (Nat.le_of_ble_eq_true rfl) (kX5_add 78 u1 v3 pC_78 σ) (fun y6 => ?_)
  refine q_aload_n (i := 0) (x := 77) dX6_readPart_101 rfl 0 rfl ?_
  refine q_cVv mX6_move [] (st := []) dX6_readPart_102 (svX6_50) (by unfold rR mX6_move mX6_readPart; constructor <;> dsimp only <;> omega) zC_77 rfl rfl rfl (Nat.le_of_ble_eq_true rfl) (kX6_move N y6) (fun y7 => ?_)
  refine q_iconst (v := 1) dX6_readPart_105 (by decide) ?_
  exact q_iretz (y := (1, y7)) dX6_readPart_106 rfl rfl rfl

def fX6_readPart_b63 (N : Nat) (rX6_readInner : Int32 → Int32 → qMem → Option (Int32 × qMem)) (v2 : Int32) (v3 : Int32) (σ : qMem) : Option (Int32 × qMem) :=
  (if (gi σ 77 6) < 50 then (nmM (si σ 77 6 ((gi σ 77 6) + 1)) fun s5 => (if v2 = 0 then (fX6_readPart_b97 N rX6_readInner v3 1 s5) else (fX6_readPart_b97 N rX6_readInner v3 0 s5))) else (some (0, σ)))
set_option maxRecDepth 20000 in
set_option maxHeartbeats 4000000 in
theorem aX6_readPart_b63 (d : Nat) (N : Nat) (rX6_readInner : Int32 → Int32 → qMem → Option (Int32 × qMem)) (hX6_readInner : ∀ (p1 : Int32) (p2 : Int32)  (σ : qMem), qMc wC (mX6_readInner d) (ρi) [.ref 77, .int p1, .int p2] σ (rX6_readInner p1 p2 σ)) (v2 : Int32) (v3 : Int32) (σ : qMem) : qAt wC (mX6_readPart d) (ρi) 63 [(0, .ref 77), (2, .int v2), (3, .int v3)] [] σ (fX6_readPart_b63 N rX6_readInner v2 v3 σ) := by
  unfold fX6_readPart_b63
  refine q_aload_n (i := 0) (x := 77) dX6_readPart_63 rfl 0 rfl ?_
  refine q_geti dX6_readPart_64 foX6_35 zC_77 rfl ?_
  refine q_bipush (v := 50) dX6_readPart_67 (by decide) ?_
  refine q_icmp_lt (tgt := 74) dX6_readPart_69 (by decide) ?_ ?_
  · refine q_aload_n (i := 0) (x := 77) dX6_readPart_74 rfl 0 rfl ?_
    refine q_dup dX6_readPart_75 rfl ?_
    refine q_geti dX6_readPart_76 foX6_35 zC_77 rfl ?_
    refine q_iconst (v := 1) dX6_readPart_79 (by decide) ?_
    refine q_iadd dX6_readPart_80 ?_
    refine q_puti dX6_readPart_81 foX6_35 fwX6_6 zC_77 rfl ?_
    refine q_nmM (fun s5 => ?_)
    refine q_aload_n (i := 0) (x := 77) dX6_readPart_84 rfl 0 rfl ?_
    refine q_getr (t := 78) dX6_readPart_85 foX6_12 zC_77 rfl ?_
    refine q_iload_n (i := 2) (x := v2) dX6_readPart_88 rfl 1 rfl ?_
    refine q_if_eq (tgt := 96) dX6_readPart_89 (by decide) ?_ ?_
    · refine q_iconst (v := 1) dX6_readPart_96 (by decide) ?_
      exact q_sub [0, 2] rfl (aX6_readPart_b97 d N rX6_readInner hX6_readInner v3 1 s5)
    refine q_iconst (v := 0) dX6_readPart_92 (by decide) ?_
    refine q_goto (tgt := 97) dX6_readPart_93 (by decide) ?_
    exact q_sub [0, 2] rfl (aX6_readPart_b97 d N rX6_readInner hX6_readInner v3 0 s5)
  refine q_iconst (v := 0) dX6_readPart_72 (by decide) ?_
  exact q_iretz (y := (0, σ)) dX6_readPart_73 rfl rfl rfl

def fX6_readPart_b46 (N : Nat) (rX6_readInner : Int32 → Int32 → qMem → Option (Int32 × qMem)) (v2 : Int32) (u0 : Int32) (σ : qMem) : Option (Int32 × qMem) :=
  (if u0 = (-1) then (some (0, σ)) else (if v2 = 0 then (fX6_readPart_b63 N rX6_readInner v2 u0 σ) else (if 1000 < u0 then (some (0, σ)) else (fX6_readPart_b63 N rX6_readInner v2 u0 σ))))
set_option maxRecDepth 20000 in
set_option maxHeartbeats 4000000 in
theorem aX6_readPart_b46 (d : Nat) (N : Nat) (rX6_readInner : Int32 → Int32 → qMem → Option (Int32 × qMem)) (hX6_readInner : ∀ (p1 : Int32) (p2 : Int32)  (σ : qMem), qMc wC (mX6_readInner d) (ρi) [.ref 77, .int p1, .int p2] σ (rX6_readInner p1 p2 σ)) (v2 : Int32) (u0 : Int32) (σ : qMem) : qAt wC (mX6_readPart d) (ρi) 46 [(0, .ref 77), (2, .int v2)] [.int u0] σ (fX6_readPart_b46 N rX6_readInner v2 u0 σ) := by
  unfold fX6_readPart_b46
  refine q_istore_n (i := 3) (L' := [(3, .int u0), (0, .ref 77), (2, .int v2)]) dX6_readPart_46 rfl (Nat.le_of_ble_eq_true rfl) rfl ?_
  refine q_iload_n (i := 3) (x := u0) dX6_readPart_47 rfl 0 rfl ?_
  refine q_iconst (v := (-1)) dX6_readPart_48 (by decide) ?_
  refine q_icmp_eq (tgt := 72) dX6_readPart_49 (by decide) ?_ ?_
  · refine q_iconst (v := 0) dX6_readPart_72 (by decide) ?_
    exact q_iretz (y := (0, σ)) dX6_readPart_73 rfl rfl rfl
  refine q_iload_n (i := 2) (x := v2) dX6_readPart_52 rfl 2 rfl ?_
  refine q_if_eq (tgt := 63) dX6_readPart_53 (by decide) ?_ ?_
  · exact q_sub [1, 2, 0] rfl (aX6_readPart_b63 d N rX6_readInner hX6_readInner v2 u0 σ)
  refine q_iload_n (i := 3) (x := u0) dX6_readPart_56 rfl 0 rfl ?_
  refine q_sipush (v := 1000) dX6_readPart_57 (by decide) ?_
  refine q_icmp_gt (tgt := 72) dX6_readPart_60 (by decide) ?_ ?_
  · refine q_iconst (v := 0) dX6_readPart_72 (by decide) ?_
    exact q_iretz (y := (0, σ)) dX6_readPart_73 rfl rfl rfl
  exact q_sub [1, 2, 0] rfl (aX6_readPart_b63 d N rX6_readInner hX6_readInner v2 u0 σ)

def fX6_readPart_b30 (N : Nat) (rX6_readInner : Int32 → Int32 → qMem → Option (Int32 × qMem)) (u0 : Int32) (σ : qMem) : Option (Int32 × qMem) :=
  (if u0 = 0 then ((fX6_wordAsked N σ).bind fun y3 => (fX6_readPart_b46 N rX6_readInner u0 y3 σ)) else ((fX6_number N σ).bind fun y4 => (fX6_readPart_b46 N rX6_readInner u0 y4 σ)))
set_option maxRecDepth 20000 in
set_option maxHeartbeats 4000000 in
theorem aX6_readPart_b30 (d : Nat) (N : Nat) (rX6_readInner : Int32 → Int32 → qMem → Option (Int32 × qMem)) (hX6_readInner : ∀ (p1 : Int32) (p2 : Int32)  (σ : qMem), qMc wC (mX6_readInner d) (ρi) [.ref 77, .int p1, .int p2] σ (rX6_readInner p1 p2 σ)) (u0 : Int32) (σ : qMem) : qAt wC (mX6_readPart d) (ρi) 30 [(0, .ref 77)] [.int u0] σ (fX6_readPart_b30 N rX6_readInner u0 σ) := by
  unfold fX6_readPart_b30
  refine q_istore_n (i := 2) (L' := [(2, .int u0), (0, .ref 77)]) dX6_readPart_30 rfl (Nat.le_of_ble_eq_true rfl) rfl ?_
  refine q_iload_n (i := 2) (x := u0) dX6_readPart_31 rfl 0 rfl ?_
  refine q_if_eq (tgt := 42) dX6_readPart_32 (by decide) ?_ ?_
  · refine q_aload_n (i := 0) (x := 77) dX6_readPart_42 rfl 1 rfl ?_
    refine q_cVp mX6_wordAsked [] (st := []) dX6_readPart_43 (svX6_132) (by unfold rR mX6_readPart mX6_wordAsked; constructor <;> dsimp only <;> omega) zC_77 rfl rfl rfl (Nat.le_of_ble_eq_true rfl) (kX6_wordAsked N σ) (fun y3 => ?_)
    exact q_sub [1, 0] rfl (aX6_readPart_b46 d N rX6_readInner hX6_readInner u0 y3 σ)
  refine q_aload_n (i := 0) (x := 77) dX6_readPart_35 rfl 1 rfl ?_
  refine q_cVp mX6_number [] (st := []) dX6_readPart_36 (svX6_128) (by unfold rR mX6_number mX6_readPart; constructor <;> dsimp only <;> omega) zC_77 rfl rfl rfl (Nat.le_of_ble_eq_true rfl) (kX6_number N σ) (fun y4 => ?_)
  refine q_goto (tgt := 46) dX6_readPart_39 (by decide) ?_
  exact q_sub [1, 0] rfl (aX6_readPart_b46 d N rX6_readInner hX6_readInner u0 y4 σ)

def fX6_readPart (N : Nat) (rX6_readInner : Int32 → Int32 → qMem → Option (Int32 × qMem)) (p1 : Int32) (σ : qMem) : Option (Int32 × qMem) :=
  ((fX6_isSign 91 σ).bind fun y1 => (if y1 = 0 then (if (gi σ 77 3) = 1 then (fX6_readPart_b30 N rX6_readInner 1 σ) else (fX6_readPart_b30 N rX6_readInner 0 σ)) else ((rX6_readInner p1 93 σ).bind fun y2 => (if y2.1 = 0 ∨ y2.1 = 1 then some (y2.1, y2.2) else none))))
set_option maxRecDepth 20000 in
set_option maxHeartbeats 4000000 in
theorem aX6_readPart (d : Nat) (N : Nat) (rX6_readInner : Int32 → Int32 → qMem → Option (Int32 × qMem)) (p1 : Int32) (hX6_readInner : ∀ (p1 : Int32) (p2 : Int32)  (σ : qMem), qMc wC (mX6_readInner d) (ρi) [.ref 77, .int p1, .int p2] σ (rX6_readInner p1 p2 σ)) (σ : qMem) : qAt wC (mX6_readPart d) (ρi) 0 [(0, .ref 77), (1, .int p1)] [] σ (fX6_readPart N rX6_readInner p1 σ) := by
  unfold fX6_readPart
  refine q_aload_n (i := 0) (x := 77) dX6_readPart_0 rfl 0 rfl ?_
  refine q_bipush (v := 91) dX6_readPart_1 (by decide) ?_
  refine q_cVp mX6_isSign [.int 91] (st := []) dX6_readPart_3 (svX6_57) (by unfold rR mX6_isSign mX6_readPart; constructor <;> dsimp only <;> omega) zC_77 rfl rfl rfl (Nat.le_of_ble_eq_true rfl) (kX6_isSign 91 σ) (fun y1 => ?_)
  refine q_if_eq (tgt := 17) dX6_readPart_6 (by decide) ?_ ?_
  · refine q_aload_n (i := 0) (x := 77) dX6_readPart_17 rfl 0 rfl ?_
    refine q_geti dX6_readPart_18 foX6_26 zC_77 rfl ?_
    refine q_iconst (v := 1) dX6_readPart_21 (by decide) ?_
    refine q_icmp_ne (tgt := 29) dX6_readPart_22 (by decide) ?_ ?_
    · refine q_iconst (v := 0) dX6_readPart_29 (by decide) ?_
      exact q_sub [0] rfl (aX6_readPart_b30 d N rX6_readInner hX6_readInner 0 σ)
    refine q_iconst (v := 1) dX6_readPart_25 (by decide) ?_
    refine q_goto (tgt := 30) dX6_readPart_26 (by decide) ?_
    exact q_sub [0] rfl (aX6_readPart_b30 d N rX6_readInner hX6_readInner 1 σ)
  refine q_aload_n (i := 0) (x := 77) dX6_readPart_9 rfl 0 rfl ?_
  refine q_iload_n (i := 1) (x := p1) dX6_readPart_10 rfl 1 rfl ?_
  refine q_bipush (v := 93) dX6_readPart_11 (by decide) ?_
  refine q_cVi (mX6_readInner d) [.int p1, .int 93] (st := []) dX6_readPart_13 (svX6_115 _) (by unfold rR mX6_readInner mX6_readPart; constructor <;> dsimp only <;> omega) zC_77 rfl rfl rfl (Nat.le_of_ble_eq_true rfl) (hX6_readInner p1 93 σ) (fun y2 => ?_)
  exact q_if (fun hz => q_iretz (y := (y2.1, y2.2)) dX6_readPart_16 rfl (nb_ok hz) rfl)
theorem kX6_readPart (d : Nat) (N : Nat) (rX6_readInner : Int32 → Int32 → qMem → Option (Int32 × qMem)) (p1 : Int32) (hX6_readInner : ∀ (p1 : Int32) (p2 : Int32)  (σ : qMem), qMc wC (mX6_readInner d) (ρi) [.ref 77, .int p1, .int p2] σ (rX6_readInner p1 p2 σ)) (σ : qMem) : qMc wC (mX6_readPart d) (ρi) [.ref 77, .int p1] σ (fX6_readPart N rX6_readInner p1 σ) := qMc_of (moX6_readPart _) (Nat.le_of_ble_eq_true rfl) (aX6_readPart d N rX6_readInner p1 hX6_readInner σ)

theorem dX6_readTerm_0 : decode cX6_readTerm 0 = .ok (.aload_n 0, 1) := by decide +kernel
theorem dX6_readTerm_1 : decode cX6_readTerm 1 = .ok (.iload_n 1, 1) := by decide +kernel
theorem dX6_readTerm_2 : decode cX6_readTerm 2 = .ok (.invokevirtual 125, 3) := by decide +kernel
theorem dX6_readTerm_5 : decode cX6_readTerm 5 = .ok (.ifCond .ne 5, 3) := by decide +kernel
theorem dX6_readTerm_8 : decode cX6_readTerm 8 = .ok (.iconst 0, 1) := by decide +kernel
theorem dX6_readTerm_9 : decode cX6_readTerm 9 = .ok (.ireturn, 1) := by decide +kernel
theorem dX6_readTerm_10 : decode cX6_readTerm 10 = .ok (.iconst 0, 1) := by decide +kernel
theorem dX6_readTerm_11 : decode cX6_readTerm 11 = .ok (.istore_n 2, 1) := by decide +kernel
theorem dX6_readTerm_12 : decode cX6_readTerm 12 = .ok (.iload_n 2, 1) := by decide +kernel
theorem dX6_readTerm_13 : decode cX6_readTerm 13 = .ok (.aload_n 0, 1) := by decide +kernel
theorem dX6_readTerm_14 : decode cX6_readTerm 14 = .ok (.getfield 22, 3) := by decide +kernel
theorem dX6_readTerm_17 : decode cX6_readTerm 17 = .ok (.if_icmp .ge 65, 3) := by decide +kernel
theorem dX6_readTerm_20 : decode cX6_readTerm 20 = .ok (.aload_n 0, 1) := by decide +kernel
theorem dX6_readTerm_21 : decode cX6_readTerm 21 = .ok (.bipush 42, 2) := by decide +kernel
theorem dX6_readTerm_23 : decode cX6_readTerm 23 = .ok (.invokevirtual 57, 3) := by decide +kernel
theorem dX6_readTerm_26 : decode cX6_readTerm 26 = .ok (.ifCond .ne 12, 3) := by decide +kernel
theorem dX6_readTerm_29 : decode cX6_readTerm 29 = .ok (.aload_n 0, 1) := by decide +kernel
theorem dX6_readTerm_30 : decode cX6_readTerm 30 = .ok (.bipush 47, 2) := by decide +kernel
theorem dX6_readTerm_32 : decode cX6_readTerm 32 = .ok (.invokevirtual 57, 3) := by decide +kernel
theorem dX6_readTerm_35 : decode cX6_readTerm 35 = .ok (.ifCond .eq 47, 3) := by decide +kernel
theorem dX6_readTerm_38 : decode cX6_readTerm 38 = .ok (.aload_n 0, 1) := by decide +kernel
theorem dX6_readTerm_39 : decode cX6_readTerm 39 = .ok (.bipush 42, 2) := by decide +kernel
theorem dX6_readTerm_41 : decode cX6_readTerm 41 = .ok (.invokevirtual 57, 3) := by decide +kernel
theorem dX6_readTerm_44 : decode cX6_readTerm 44 = .ok (.ifCond .eq 7, 3) := by decide +kernel
theorem dX6_readTerm_47 : decode cX6_readTerm 47 = .ok (.iconst 4, 1) := by decide +kernel
theorem dX6_readTerm_48 : decode cX6_readTerm 48 = .ok (.goto 4, 3) := by decide +kernel
theorem dX6_readTerm_51 : decode cX6_readTerm 51 = .ok (.iconst 5, 1) := by decide +kernel
theorem dX6_readTerm_52 : decode cX6_readTerm 52 = .ok (.istore_n 3, 1) := by decide +kernel
theorem dX6_readTerm_53 : decode cX6_readTerm 53 = .ok (.aload_n 0, 1) := by decide +kernel
theorem dX6_readTerm_54 : decode cX6_readTerm 54 = .ok (.invokevirtual 50, 3) := by decide +kernel
theorem dX6_readTerm_57 : decode cX6_readTerm 57 = .ok (.aload_n 0, 1) := by decide +kernel
theorem dX6_readTerm_58 : decode cX6_readTerm 58 = .ok (.iload_n 1, 1) := by decide +kernel
theorem dX6_readTerm_59 : decode cX6_readTerm 59 = .ok (.invokevirtual 125, 3) := by decide +kernel
theorem dX6_readTerm_62 : decode cX6_readTerm 62 = .ok (.ifCond .ne 5, 3) := by decide +kernel
theorem dX6_readTerm_65 : decode cX6_readTerm 65 = .ok (.iconst 0, 1) := by decide +kernel
theorem dX6_readTerm_66 : decode cX6_readTerm 66 = .ok (.ireturn, 1) := by decide +kernel
theorem dX6_readTerm_67 : decode cX6_readTerm 67 = .ok (.aload_n 0, 1) := by decide +kernel
theorem dX6_readTerm_68 : decode cX6_readTerm 68 = .ok (.getfield 12, 3) := by decide +kernel
theorem dX6_readTerm_71 : decode cX6_readTerm 71 = .ok (.iload_n 3, 1) := by decide +kernel
theorem dX6_readTerm_72 : decode cX6_readTerm 72 = .ok (.iconst 0, 1) := by decide +kernel
theorem dX6_readTerm_73 : decode cX6_readTerm 73 = .ok (.invokevirtual 101, 3) := by decide +kernel
theorem dX6_readTerm_76 : decode cX6_readTerm 76 = .ok (.iinc 2 1, 3) := by decide +kernel
theorem dX6_readTerm_79 : decode cX6_readTerm 79 = .ok (.goto (-67), 3) := by decide +kernel
theorem dX6_readTerm_82 : decode cX6_readTerm 82 = .ok (.iconst 1, 1) := by decide +kernel
theorem dX6_readTerm_83 : decode cX6_readTerm 83 = .ok (.ireturn, 1) := by decide +kernel
def fX6_readTerm_b52 (N : Nat) (rX6_readInner : Int32 → Int32 → qMem → Option (Int32 × qMem)) (c12 : Int32 → Int32 → qMem → Option (Int32 × qMem)) (v1 : Int32) (v2 : Int32) (u0 : Int32) (σ : qMem) : Option (Int32 × qMem) :=
  ((fX6_move N σ).bind fun y5 => ((fX6_readPart N rX6_readInner v1 y5).bind fun y6 => (if y6.1 = 0 then (some (0, y6.2)) else ((fX5_add 78 u0 0 y6.2).bind fun y7 => (c12 v1 (v2 + 1) y7)))))
set_option maxRecDepth 20000 in
set_option maxHeartbeats 4000000 in
theorem aX6_readTerm_b52 (d : Nat) (N : Nat) (rX6_readInner : Int32 → Int32 → qMem → Option (Int32 × qMem)) (hX6_readInner : ∀ (p1 : Int32) (p2 : Int32)  (σ : qMem), qMc wC (mX6_readInner d) (ρi) [.ref 77, .int p1, .int p2] σ (rX6_readInner p1 p2 σ)) (c12 : Int32 → Int32 → qMem → Option (Int32 × qMem)) (hc12 : ∀ (v1 : Int32) (v2 : Int32) (σ : qMem), qAt wC (mX6_readTerm d) (ρi) 12 [(0, .ref 77), (1, .int v1), (2, .int v2)] [] σ (c12 v1 v2 σ)) (v1 : Int32) (v2 : Int32) (u0 : Int32) (σ : qMem) : qAt wC (mX6_readTerm d) (ρi) 52 [(0, .ref 77), (1, .int v1), (2, .int v2)] [.int u0] σ (fX6_readTerm_b52 N rX6_readInner c12 v1 v2 u0 σ) := by
  unfold fX6_readTerm_b52
  refine q_istore_n (i := 3) (L' := [(3, .int u0), (0, .ref 77), (1, .int v1), (2, .int v2)]) dX6_readTerm_52 rfl (Nat.le_of_ble_eq_true rfl) rfl ?_
  refine q_aload_n (i := 0) (x := 77) dX6_readTerm_53 rfl 1 rfl ?_
  refine q_cVv mX6_move [] (st := []) dX6_readTerm_54 (svX6_50) (by unfold rR mX6_move mX6_readTerm; constructor <;> dsimp only <;> omega) zC_77 rfl rfl rfl (Nat.le_of_ble_eq_true rfl) (kX6_move N σ) (fun y5 => ?_)
  refine q_aload_n (i := 0) (x := 77) dX6_readTerm_57 rfl 1 rfl ?_
  refine q_iload_n (i := 1) (x := v1) dX6_readTerm_58 rfl 2 rfl ?_
  refine q_cVi (mX6_readPart d) [.int v1] (st := []) dX6_readTerm_59 (svX6_125 _) (by unfold rR mX6_readPart mX6_readTerm; constructor <;> dsimp only <;> omega) zC_77 rfl rfl rfl (Nat.le_of_ble_eq_true rfl) (kX6_readPart d N rX6_readInner v1 hX6_readInner y5) (fun y6 => ?_)
  refine q_if_ne (tgt := 67) dX6_readTerm_62 (by decide) ?_ ?_
  · refine q_aload_n (i := 0) (x := 77) dX6_readTerm_67 rfl 1 rfl ?_
    refine q_getr (t := 78) dX6_readTerm_68 foX6_12 zC_77 rfl ?_
    refine q_iload_n (i := 3) (x := u0) dX6_readTerm_71 rfl 0 rfl ?_
    refine q_iconst (v := 0) dX6_readTerm_72 (by decide) ?_
    refine q_cVv mX5_add [.int u0, .int 0] (st := []) dX6_readTerm_73 (svX6_101) (by unfold rR mX5_add mX6_readTerm; constructor <;> dsimp only <;> omega) zC_78 rfl rfl rfl (Nat.le_of_ble_eq_true rfl) (kX5_add 78 u0 0 pC_78 y6.2) (fun y7 => ?_)
    refine q_iinc (i := 2) (x := v2) (v := (v2 + 1)) (L' := [(2, .int (v2 + 1)), (3, .int u0), (0, .ref 77), (1, .int v1)]) dX6_readTerm_76 3 rfl (q_cst v2 (by decide)) (Nat.le_of_ble_eq_true rfl) rfl ?_
    refine q_goto (tgt := 12) dX6_readTerm_79 (by decide) ?_
    exact q_sub [2, 3, 0] rfl (hc12 v1 (v2 + 1) y7)
  refine q_iconst (v := 0) dX6_readTerm_65 (by decide) ?_
  exact q_iretz (y := (0, y6.2)) dX6_readTerm_66 rfl rfl rfl

def fX6_readTerm_b38 (N : Nat) (rX6_readInner : Int32 → Int32 → qMem → Option (Int32 × qMem)) (c12 : Int32 → Int32 → qMem → Option (Int32 × qMem)) (v1 : Int32) (v2 : Int32) (σ : qMem) : Option (Int32 × qMem) :=
  ((fX6_isSign 42 σ).bind fun y4 => (if y4 = 0 then (fX6_readTerm_b52 N rX6_readInner c12 v1 v2 5 σ) else (fX6_readTerm_b52 N rX6_readInner c12 v1 v2 4 σ)))
set_option maxRecDepth 20000 in
set_option maxHeartbeats 4000000 in
theorem aX6_readTerm_b38 (d : Nat) (N : Nat) (rX6_readInner : Int32 → Int32 → qMem → Option (Int32 × qMem)) (hX6_readInner : ∀ (p1 : Int32) (p2 : Int32)  (σ : qMem), qMc wC (mX6_readInner d) (ρi) [.ref 77, .int p1, .int p2] σ (rX6_readInner p1 p2 σ)) (c12 : Int32 → Int32 → qMem → Option (Int32 × qMem)) (hc12 : ∀ (v1 : Int32) (v2 : Int32) (σ : qMem), qAt wC (mX6_readTerm d) (ρi) 12 [(0, .ref 77), (1, .int v1), (2, .int v2)] [] σ (c12 v1 v2 σ)) (v1 : Int32) (v2 : Int32) (σ : qMem) : qAt wC (mX6_readTerm d) (ρi) 38 [(0, .ref 77), (1, .int v1), (2, .int v2)] [] σ (fX6_readTerm_b38 N rX6_readInner c12 v1 v2 σ) := by
  unfold fX6_readTerm_b38
  refine q_aload_n (i := 0) (x := 77) dX6_readTerm_38 rfl 0 rfl ?_
  refine q_bipush (v := 42) dX6_readTerm_39 (by decide) ?_
  refine q_cVp mX6_isSign [.int 42] (st := []) dX6_readTerm_41 (svX6_57) (by unfold rR mX6_isSign mX6_readTerm; constructor <;> dsimp only <;> omega) zC_77 rfl rfl rfl (Nat.le_of_ble_eq_true rfl) (kX6_isSign 42 σ) (fun y4 => ?_)
  refine q_if_eq (tgt := 51) dX6_readTerm_44 (by decide) ?_ ?_
  · refine q_iconst (v := 5) dX6_readTerm_51 (by decide) ?_
    exact q_sub [0, 1, 2] rfl (aX6_readTerm_b52 d N rX6_readInner hX6_readInner c12 hc12 v1 v2 5 σ)
  refine q_iconst (v := 4) dX6_readTerm_47 (by decide) ?_
  refine q_goto (tgt := 52) dX6_readTerm_48 (by decide) ?_
  exact q_sub [0, 1, 2] rfl (aX6_readTerm_b52 d N rX6_readInner hX6_readInner c12 hc12 v1 v2 4 σ)

def fX6_readTerm_s12 (N : Nat) (rX6_readInner : Int32 → Int32 → qMem → Option (Int32 × qMem)) (c12 : Int32 → Int32 → qMem → Option (Int32 × qMem)) (v1 : Int32) (v2 : Int32) (σ : qMem) : Option (Int32 × qMem) :=
  (if (gi σ 77 2) ≤ v2 then (some (1, σ)) else ((fX6_isSign 42 σ).bind fun y2 => (if y2 = 0 then ((fX6_isSign 47 σ).bind fun y3 => (if y3 = 0 then (some (1, σ)) else (fX6_readTerm_b38 N rX6_readInner c12 v1 v2 σ))) else (fX6_readTerm_b38 N rX6_readInner c12 v1 v2 σ))))
set_option maxRecDepth 20000 in
set_option maxHeartbeats 4000000 in
theorem aX6_readTerm_s12 (d : Nat) (N : Nat) (rX6_readInner : Int32 → Int32 → qMem → Option (Int32 × qMem)) (hX6_readInner : ∀ (p1 : Int32) (p2 : Int32)  (σ : qMem), qMc wC (mX6_readInner d) (ρi) [.ref 77, .int p1, .int p2] σ (rX6_readInner p1 p2 σ)) (c12 : Int32 → Int32 → qMem → Option (Int32 × qMem)) (hc12 : ∀ (v1 : Int32) (v2 : Int32) (σ : qMem), qAt wC (mX6_readTerm d) (ρi) 12 [(0, .ref 77), (1, .int v1), (2, .int v2)] [] σ (c12 v1 v2 σ)) (v1 : Int32) (v2 : Int32) (σ : qMem) : qAt wC (mX6_readTerm d) (ρi) 12 [(0, .ref 77), (1, .int v1), (2, .int v2)] [] σ (fX6_readTerm_s12 N rX6_readInner c12 v1 v2 σ) := by
  unfold fX6_readTerm_s12
  refine q_iload_n (i := 2) (x := v2) dX6_readTerm_12 rfl 2 rfl ?_
  refine q_aload_n (i := 0) (x := 77) dX6_readTerm_13 rfl 0 rfl ?_
  refine q_geti dX6_readTerm_14 foX6_22 zC_77 rfl ?_
  refine q_icmp_ge (tgt := 82) dX6_readTerm_17 (by decide) ?_ ?_
  · refine q_iconst (v := 1) dX6_readTerm_82 (by decide) ?_
    exact q_iretz (y := (1, σ)) dX6_readTerm_83 rfl rfl rfl
  refine q_aload_n (i := 0) (x := 77) dX6_readTerm_20 rfl 0 rfl ?_
  refine q_bipush (v := 42) dX6_readTerm_21 (by decide) ?_
  refine q_cVp mX6_isSign [.int 42] (st := []) dX6_readTerm_23 (svX6_57) (by unfold rR mX6_isSign mX6_readTerm; constructor <;> dsimp only <;> omega) zC_77 rfl rfl rfl (Nat.le_of_ble_eq_true rfl) (kX6_isSign 42 σ) (fun y2 => ?_)
  refine q_if_ne (tgt := 38) dX6_readTerm_26 (by decide) ?_ ?_
  · exact q_sub [0, 1, 2] rfl (aX6_readTerm_b38 d N rX6_readInner hX6_readInner c12 hc12 v1 v2 σ)
  refine q_aload_n (i := 0) (x := 77) dX6_readTerm_29 rfl 0 rfl ?_
  refine q_bipush (v := 47) dX6_readTerm_30 (by decide) ?_
  refine q_cVp mX6_isSign [.int 47] (st := []) dX6_readTerm_32 (svX6_57) (by unfold rR mX6_isSign mX6_readTerm; constructor <;> dsimp only <;> omega) zC_77 rfl rfl rfl (Nat.le_of_ble_eq_true rfl) (kX6_isSign 47 σ) (fun y3 => ?_)
  refine q_if_eq (tgt := 82) dX6_readTerm_35 (by decide) ?_ ?_
  · refine q_iconst (v := 1) dX6_readTerm_82 (by decide) ?_
    exact q_iretz (y := (1, σ)) dX6_readTerm_83 rfl rfl rfl
  exact q_sub [0, 1, 2] rfl (aX6_readTerm_b38 d N rX6_readInner hX6_readInner c12 hc12 v1 v2 σ)
def fX6_readTerm_l12 (N : Nat) (rX6_readInner : Int32 → Int32 → qMem → Option (Int32 × qMem)) : Nat → Int32 → Int32 → qMem → Option (Int32 × qMem)
  | 0 => fun _ _ _ => none
  | n + 1 => fun v1 v2 σ => fX6_readTerm_s12 N rX6_readInner (fX6_readTerm_l12 N rX6_readInner n) v1 v2 σ
theorem aX6_readTerm_l12 (d : Nat) (N : Nat) (rX6_readInner : Int32 → Int32 → qMem → Option (Int32 × qMem)) (hX6_readInner : ∀ (p1 : Int32) (p2 : Int32)  (σ : qMem), qMc wC (mX6_readInner d) (ρi) [.ref 77, .int p1, .int p2] σ (rX6_readInner p1 p2 σ)) : ∀ (n : Nat) (v1 : Int32) (v2 : Int32) (σ : qMem), qAt wC (mX6_readTerm d) (ρi) 12 [(0, .ref 77), (1, .int v1), (2, .int v2)] [] σ (fX6_readTerm_l12 N rX6_readInner n v1 v2 σ) := by
  intro n
  induction n with
  | zero => intro v1 v2 σ; exact q_none
  | succ n ih => intro v1 v2 σ; exact aX6_readTerm_s12 d N rX6_readInner hX6_readInner (fX6_readTerm_l12 N rX6_readInner n) ih v1 v2 σ

def fX6_readTerm (N : Nat) (rX6_readInner : Int32 → Int32 → qMem → Option (Int32 × qMem)) (p1 : Int32) (σ : qMem) : Option (Int32 × qMem) :=
  ((fX6_readPart N rX6_readInner p1 σ).bind fun y1 => (if y1.1 = 0 then (some (0, y1.2)) else (fX6_readTerm_l12 N rX6_readInner N p1 0 y1.2)))
set_option maxRecDepth 20000 in
set_option maxHeartbeats 4000000 in
theorem aX6_readTerm (d : Nat) (N : Nat) (rX6_readInner : Int32 → Int32 → qMem → Option (Int32 × qMem)) (p1 : Int32) (hX6_readInner : ∀ (p1 : Int32) (p2 : Int32)  (σ : qMem), qMc wC (mX6_readInner d) (ρi) [.ref 77, .int p1, .int p2] σ (rX6_readInner p1 p2 σ)) (σ : qMem) : qAt wC (mX6_readTerm d) (ρi) 0 [(0, .ref 77), (1, .int p1)] [] σ (fX6_readTerm N rX6_readInner p1 σ) := by
  unfold fX6_readTerm
  refine q_aload_n (i := 0) (x := 77) dX6_readTerm_0 rfl 0 rfl ?_
  refine q_iload_n (i := 1) (x := p1) dX6_readTerm_1 rfl 1 rfl ?_
  refine q_cVi (mX6_readPart d) [.int p1] (st := []) dX6_readTerm_2 (svX6_125 _) (by unfold rR mX6_readPart mX6_readTerm; constructor <;> dsimp only <;> omega) zC_77 rfl rfl rfl (Nat.le_of_ble_eq_true rfl) (kX6_readPart d N rX6_readInner p1 hX6_readInner σ) (fun y1 => ?_)
  refine q_if_ne (tgt := 10) dX6_readTerm_5 (by decide) ?_ ?_
  · refine q_iconst (v := 0) dX6_readTerm_10 (by decide) ?_
    refine q_istore_n (i := 2) (L' := [(2, .int 0), (0, .ref 77), (1, .int p1)]) dX6_readTerm_11 rfl (Nat.le_of_ble_eq_true rfl) rfl ?_
    exact q_sub [1, 2, 0] rfl (aX6_readTerm_l12 d N rX6_readInner hX6_readInner N p1 0 y1.2)
  refine q_iconst (v := 0) dX6_readTerm_8 (by decide) ?_
  exact q_iretz (y := (0, y1.2)) dX6_readTerm_9 rfl rfl rfl
theorem kX6_readTerm (d : Nat) (N : Nat) (rX6_readInner : Int32 → Int32 → qMem → Option (Int32 × qMem)) (p1 : Int32) (hX6_readInner : ∀ (p1 : Int32) (p2 : Int32)  (σ : qMem), qMc wC (mX6_readInner d) (ρi) [.ref 77, .int p1, .int p2] σ (rX6_readInner p1 p2 σ)) (σ : qMem) : qMc wC (mX6_readTerm d) (ρi) [.ref 77, .int p1] σ (fX6_readTerm N rX6_readInner p1 σ) := qMc_of (moX6_readTerm _) (Nat.le_of_ble_eq_true rfl) (aX6_readTerm d N rX6_readInner p1 hX6_readInner σ)

theorem dX6_readSum_0 : decode cX6_readSum 0 = .ok (.aload_n 0, 1) := by decide +kernel
theorem dX6_readSum_1 : decode cX6_readSum 1 = .ok (.iload_n 1, 1) := by decide +kernel
theorem dX6_readSum_2 : decode cX6_readSum 2 = .ok (.invokevirtual 122, 3) := by decide +kernel
theorem dX6_readSum_5 : decode cX6_readSum 5 = .ok (.ifCond .ne 5, 3) := by decide +kernel
theorem dX6_readSum_8 : decode cX6_readSum 8 = .ok (.iconst 0, 1) := by decide +kernel
theorem dX6_readSum_9 : decode cX6_readSum 9 = .ok (.ireturn, 1) := by decide +kernel
theorem dX6_readSum_10 : decode cX6_readSum 10 = .ok (.iconst 0, 1) := by decide +kernel
theorem dX6_readSum_11 : decode cX6_readSum 11 = .ok (.istore_n 2, 1) := by decide +kernel
theorem dX6_readSum_12 : decode cX6_readSum 12 = .ok (.iload_n 2, 1) := by decide +kernel
theorem dX6_readSum_13 : decode cX6_readSum 13 = .ok (.aload_n 0, 1) := by decide +kernel
theorem dX6_readSum_14 : decode cX6_readSum 14 = .ok (.getfield 22, 3) := by decide +kernel
theorem dX6_readSum_17 : decode cX6_readSum 17 = .ok (.if_icmp .ge 65, 3) := by decide +kernel
theorem dX6_readSum_20 : decode cX6_readSum 20 = .ok (.aload_n 0, 1) := by decide +kernel
theorem dX6_readSum_21 : decode cX6_readSum 21 = .ok (.bipush 43, 2) := by decide +kernel
theorem dX6_readSum_23 : decode cX6_readSum 23 = .ok (.invokevirtual 57, 3) := by decide +kernel
theorem dX6_readSum_26 : decode cX6_readSum 26 = .ok (.ifCond .ne 12, 3) := by decide +kernel
theorem dX6_readSum_29 : decode cX6_readSum 29 = .ok (.aload_n 0, 1) := by decide +kernel
theorem dX6_readSum_30 : decode cX6_readSum 30 = .ok (.bipush 45, 2) := by decide +kernel
theorem dX6_readSum_32 : decode cX6_readSum 32 = .ok (.invokevirtual 57, 3) := by decide +kernel
theorem dX6_readSum_35 : decode cX6_readSum 35 = .ok (.ifCond .eq 47, 3) := by decide +kernel
theorem dX6_readSum_38 : decode cX6_readSum 38 = .ok (.aload_n 0, 1) := by decide +kernel
theorem dX6_readSum_39 : decode cX6_readSum 39 = .ok (.bipush 43, 2) := by decide +kernel
theorem dX6_readSum_41 : decode cX6_readSum 41 = .ok (.invokevirtual 57, 3) := by decide +kernel
theorem dX6_readSum_44 : decode cX6_readSum 44 = .ok (.ifCond .eq 7, 3) := by decide +kernel
theorem dX6_readSum_47 : decode cX6_readSum 47 = .ok (.iconst 2, 1) := by decide +kernel
theorem dX6_readSum_48 : decode cX6_readSum 48 = .ok (.goto 4, 3) := by decide +kernel
theorem dX6_readSum_51 : decode cX6_readSum 51 = .ok (.iconst 3, 1) := by decide +kernel
theorem dX6_readSum_52 : decode cX6_readSum 52 = .ok (.istore_n 3, 1) := by decide +kernel
theorem dX6_readSum_53 : decode cX6_readSum 53 = .ok (.aload_n 0, 1) := by decide +kernel
theorem dX6_readSum_54 : decode cX6_readSum 54 = .ok (.invokevirtual 50, 3) := by decide +kernel
theorem dX6_readSum_57 : decode cX6_readSum 57 = .ok (.aload_n 0, 1) := by decide +kernel
theorem dX6_readSum_58 : decode cX6_readSum 58 = .ok (.iload_n 1, 1) := by decide +kernel
theorem dX6_readSum_59 : decode cX6_readSum 59 = .ok (.invokevirtual 122, 3) := by decide +kernel
theorem dX6_readSum_62 : decode cX6_readSum 62 = .ok (.ifCond .ne 5, 3) := by decide +kernel
theorem dX6_readSum_65 : decode cX6_readSum 65 = .ok (.iconst 0, 1) := by decide +kernel
theorem dX6_readSum_66 : decode cX6_readSum 66 = .ok (.ireturn, 1) := by decide +kernel
theorem dX6_readSum_67 : decode cX6_readSum 67 = .ok (.aload_n 0, 1) := by decide +kernel
theorem dX6_readSum_68 : decode cX6_readSum 68 = .ok (.getfield 12, 3) := by decide +kernel
theorem dX6_readSum_71 : decode cX6_readSum 71 = .ok (.iload_n 3, 1) := by decide +kernel
theorem dX6_readSum_72 : decode cX6_readSum 72 = .ok (.iconst 0, 1) := by decide +kernel
theorem dX6_readSum_73 : decode cX6_readSum 73 = .ok (.invokevirtual 101, 3) := by decide +kernel
theorem dX6_readSum_76 : decode cX6_readSum 76 = .ok (.iinc 2 1, 3) := by decide +kernel
theorem dX6_readSum_79 : decode cX6_readSum 79 = .ok (.goto (-67), 3) := by decide +kernel
theorem dX6_readSum_82 : decode cX6_readSum 82 = .ok (.iconst 1, 1) := by decide +kernel
theorem dX6_readSum_83 : decode cX6_readSum 83 = .ok (.ireturn, 1) := by decide +kernel
def fX6_readSum_b52 (N : Nat) (rX6_readInner : Int32 → Int32 → qMem → Option (Int32 × qMem)) (c12 : Int32 → Int32 → qMem → Option (Int32 × qMem)) (v1 : Int32) (v2 : Int32) (u0 : Int32) (σ : qMem) : Option (Int32 × qMem) :=
  ((fX6_move N σ).bind fun y5 => ((fX6_readTerm N rX6_readInner v1 y5).bind fun y6 => (if y6.1 = 0 then (some (0, y6.2)) else ((fX5_add 78 u0 0 y6.2).bind fun y7 => (c12 v1 (v2 + 1) y7)))))
set_option maxRecDepth 20000 in
set_option maxHeartbeats 4000000 in
theorem aX6_readSum_b52 (d : Nat) (N : Nat) (rX6_readInner : Int32 → Int32 → qMem → Option (Int32 × qMem)) (hX6_readInner : ∀ (p1 : Int32) (p2 : Int32)  (σ : qMem), qMc wC (mX6_readInner d) (ρi) [.ref 77, .int p1, .int p2] σ (rX6_readInner p1 p2 σ)) (c12 : Int32 → Int32 → qMem → Option (Int32 × qMem)) (hc12 : ∀ (v1 : Int32) (v2 : Int32) (σ : qMem), qAt wC (mX6_readSum d) (ρi) 12 [(0, .ref 77), (1, .int v1), (2, .int v2)] [] σ (c12 v1 v2 σ)) (v1 : Int32) (v2 : Int32) (u0 : Int32) (σ : qMem) : qAt wC (mX6_readSum d) (ρi) 52 [(0, .ref 77), (1, .int v1), (2, .int v2)] [.int u0] σ (fX6_readSum_b52 N rX6_readInner c12 v1 v2 u0 σ) := by
  unfold fX6_readSum_b52
  refine q_istore_n (i := 3) (L' := [(3, .int u0), (0, .ref 77), (1, .int v1), (2, .int v2)]) dX6_readSum_52 rfl (Nat.le_of_ble_eq_true rfl) rfl ?_
  refine q_aload_n (i := 0) (x := 77) dX6_readSum_53 rfl 1 rfl ?_
  refine q_cVv mX6_move [] (st := []) dX6_readSum_54 (svX6_50) (by unfold rR mX6_move mX6_readSum; constructor <;> dsimp only <;> omega) zC_77 rfl rfl rfl (Nat.le_of_ble_eq_true rfl) (kX6_move N σ) (fun y5 => ?_)
  refine q_aload_n (i := 0) (x := 77) dX6_readSum_57 rfl 1 rfl ?_
  refine q_iload_n (i := 1) (x := v1) dX6_readSum_58 rfl 2 rfl ?_
  refine q_cVi (mX6_readTerm d) [.int v1] (st := []) dX6_readSum_59 (svX6_122 _) (by unfold rR mX6_readSum mX6_readTerm; constructor <;> dsimp only <;> omega) zC_77 rfl rfl rfl (Nat.le_of_ble_eq_true rfl) (kX6_readTerm d N rX6_readInner v1 hX6_readInner y5) (fun y6 => ?_)
  refine q_if_ne (tgt := 67) dX6_readSum_62 (by decide) ?_ ?_
  · refine q_aload_n (i := 0) (x := 77) dX6_readSum_67 rfl 1 rfl ?_
    refine q_getr (t := 78) dX6_readSum_68 foX6_12 zC_77 rfl ?_
    refine q_iload_n (i := 3) (x := u0) dX6_readSum_71 rfl 0 rfl ?_
    refine q_iconst (v := 0) dX6_readSum_72 (by decide) ?_
    refine q_cVv mX5_add [.int u0, .int 0] (st := []) dX6_readSum_73 (svX6_101) (by unfold rR mX5_add mX6_readSum; constructor <;> dsimp only <;> omega) zC_78 rfl rfl rfl (Nat.le_of_ble_eq_true rfl) (kX5_add 78 u0 0 pC_78 y6.2) (fun y7 => ?_)
    refine q_iinc (i := 2) (x := v2) (v := (v2 + 1)) (L' := [(2, .int (v2 + 1)), (3, .int u0), (0, .ref 77), (1, .int v1)]) dX6_readSum_76 3 rfl (q_cst v2 (by decide)) (Nat.le_of_ble_eq_true rfl) rfl ?_
    refine q_goto (tgt := 12) dX6_readSum_79 (by decide) ?_
    exact q_sub [2, 3, 0] rfl (hc12 v1 (v2 + 1) y7)
  refine q_iconst (v := 0) dX6_readSum_65 (by decide) ?_
  exact q_iretz (y := (0, y6.2)) dX6_readSum_66 rfl rfl rfl

def fX6_readSum_b38 (N : Nat) (rX6_readInner : Int32 → Int32 → qMem → Option (Int32 × qMem)) (c12 : Int32 → Int32 → qMem → Option (Int32 × qMem)) (v1 : Int32) (v2 : Int32) (σ : qMem) : Option (Int32 × qMem) :=
  ((fX6_isSign 43 σ).bind fun y4 => (if y4 = 0 then (fX6_readSum_b52 N rX6_readInner c12 v1 v2 3 σ) else (fX6_readSum_b52 N rX6_readInner c12 v1 v2 2 σ)))
set_option maxRecDepth 20000 in
set_option maxHeartbeats 4000000 in
theorem aX6_readSum_b38 (d : Nat) (N : Nat) (rX6_readInner : Int32 → Int32 → qMem → Option (Int32 × qMem)) (hX6_readInner : ∀ (p1 : Int32) (p2 : Int32)  (σ : qMem), qMc wC (mX6_readInner d) (ρi) [.ref 77, .int p1, .int p2] σ (rX6_readInner p1 p2 σ)) (c12 : Int32 → Int32 → qMem → Option (Int32 × qMem)) (hc12 : ∀ (v1 : Int32) (v2 : Int32) (σ : qMem), qAt wC (mX6_readSum d) (ρi) 12 [(0, .ref 77), (1, .int v1), (2, .int v2)] [] σ (c12 v1 v2 σ)) (v1 : Int32) (v2 : Int32) (σ : qMem) : qAt wC (mX6_readSum d) (ρi) 38 [(0, .ref 77), (1, .int v1), (2, .int v2)] [] σ (fX6_readSum_b38 N rX6_readInner c12 v1 v2 σ) := by
  unfold fX6_readSum_b38
  refine q_aload_n (i := 0) (x := 77) dX6_readSum_38 rfl 0 rfl ?_
  refine q_bipush (v := 43) dX6_readSum_39 (by decide) ?_
  refine q_cVp mX6_isSign [.int 43] (st := []) dX6_readSum_41 (svX6_57) (by unfold rR mX6_isSign mX6_readSum; constructor <;> dsimp only <;> omega) zC_77 rfl rfl rfl (Nat.le_of_ble_eq_true rfl) (kX6_isSign 43 σ) (fun y4 => ?_)
  refine q_if_eq (tgt := 51) dX6_readSum_44 (by decide) ?_ ?_
  · refine q_iconst (v := 3) dX6_readSum_51 (by decide) ?_
    exact q_sub [0, 1, 2] rfl (aX6_readSum_b52 d N rX6_readInner hX6_readInner c12 hc12 v1 v2 3 σ)
  refine q_iconst (v := 2) dX6_readSum_47 (by decide) ?_
  refine q_goto (tgt := 52) dX6_readSum_48 (by decide) ?_
  exact q_sub [0, 1, 2] rfl (aX6_readSum_b52 d N rX6_readInner hX6_readInner c12 hc12 v1 v2 2 σ)

def fX6_readSum_s12 (N : Nat) (rX6_readInner : Int32 → Int32 → qMem → Option (Int32 × qMem)) (c12 : Int32 → Int32 → qMem → Option (Int32 × qMem)) (v1 : Int32) (v2 : Int32) (σ : qMem) : Option (Int32 × qMem) :=
  (if (gi σ 77 2) ≤ v2 then (some (1, σ)) else ((fX6_isSign 43 σ).bind fun y2 => (if y2 = 0 then ((fX6_isSign 45 σ).bind fun y3 => (if y3 = 0 then (some (1, σ)) else (fX6_readSum_b38 N rX6_readInner c12 v1 v2 σ))) else (fX6_readSum_b38 N rX6_readInner c12 v1 v2 σ))))
set_option maxRecDepth 20000 in
set_option maxHeartbeats 4000000 in
theorem aX6_readSum_s12 (d : Nat) (N : Nat) (rX6_readInner : Int32 → Int32 → qMem → Option (Int32 × qMem)) (hX6_readInner : ∀ (p1 : Int32) (p2 : Int32)  (σ : qMem), qMc wC (mX6_readInner d) (ρi) [.ref 77, .int p1, .int p2] σ (rX6_readInner p1 p2 σ)) (c12 : Int32 → Int32 → qMem → Option (Int32 × qMem)) (hc12 : ∀ (v1 : Int32) (v2 : Int32) (σ : qMem), qAt wC (mX6_readSum d) (ρi) 12 [(0, .ref 77), (1, .int v1), (2, .int v2)] [] σ (c12 v1 v2 σ)) (v1 : Int32) (v2 : Int32) (σ : qMem) : qAt wC (mX6_readSum d) (ρi) 12 [(0, .ref 77), (1, .int v1), (2, .int v2)] [] σ (fX6_readSum_s12 N rX6_readInner c12 v1 v2 σ) := by
  unfold fX6_readSum_s12
  refine q_iload_n (i := 2) (x := v2) dX6_readSum_12 rfl 2 rfl ?_
  refine q_aload_n (i := 0) (x := 77) dX6_readSum_13 rfl 0 rfl ?_
  refine q_geti dX6_readSum_14 foX6_22 zC_77 rfl ?_
  refine q_icmp_ge (tgt := 82) dX6_readSum_17 (by decide) ?_ ?_
  · refine q_iconst (v := 1) dX6_readSum_82 (by decide) ?_
    exact q_iretz (y := (1, σ)) dX6_readSum_83 rfl rfl rfl
  refine q_aload_n (i := 0) (x := 77) dX6_readSum_20 rfl 0 rfl ?_
  refine q_bipush (v := 43) dX6_readSum_21 (by decide) ?_
  refine q_cVp mX6_isSign [.int 43] (st := []) dX6_readSum_23 (svX6_57) (by unfold rR mX6_isSign mX6_readSum; constructor <;> dsimp only <;> omega) zC_77 rfl rfl rfl (Nat.le_of_ble_eq_true rfl) (kX6_isSign 43 σ) (fun y2 => ?_)
  refine q_if_ne (tgt := 38) dX6_readSum_26 (by decide) ?_ ?_
  · exact q_sub [0, 1, 2] rfl (aX6_readSum_b38 d N rX6_readInner hX6_readInner c12 hc12 v1 v2 σ)
  refine q_aload_n (i := 0) (x := 77) dX6_readSum_29 rfl 0 rfl ?_
  refine q_bipush (v := 45) dX6_readSum_30 (by decide) ?_
  refine q_cVp mX6_isSign [.int 45] (st := []) dX6_readSum_32 (svX6_57) (by unfold rR mX6_isSign mX6_readSum; constructor <;> dsimp only <;> omega) zC_77 rfl rfl rfl (Nat.le_of_ble_eq_true rfl) (kX6_isSign 45 σ) (fun y3 => ?_)
  refine q_if_eq (tgt := 82) dX6_readSum_35 (by decide) ?_ ?_
  · refine q_iconst (v := 1) dX6_readSum_82 (by decide) ?_
    exact q_iretz (y := (1, σ)) dX6_readSum_83 rfl rfl rfl
  exact q_sub [0, 1, 2] rfl (aX6_readSum_b38 d N rX6_readInner hX6_readInner c12 hc12 v1 v2 σ)
def fX6_readSum_l12 (N : Nat) (rX6_readInner : Int32 → Int32 → qMem → Option (Int32 × qMem)) : Nat → Int32 → Int32 → qMem → Option (Int32 × qMem)
  | 0 => fun _ _ _ => none
  | n + 1 => fun v1 v2 σ => fX6_readSum_s12 N rX6_readInner (fX6_readSum_l12 N rX6_readInner n) v1 v2 σ
theorem aX6_readSum_l12 (d : Nat) (N : Nat) (rX6_readInner : Int32 → Int32 → qMem → Option (Int32 × qMem)) (hX6_readInner : ∀ (p1 : Int32) (p2 : Int32)  (σ : qMem), qMc wC (mX6_readInner d) (ρi) [.ref 77, .int p1, .int p2] σ (rX6_readInner p1 p2 σ)) : ∀ (n : Nat) (v1 : Int32) (v2 : Int32) (σ : qMem), qAt wC (mX6_readSum d) (ρi) 12 [(0, .ref 77), (1, .int v1), (2, .int v2)] [] σ (fX6_readSum_l12 N rX6_readInner n v1 v2 σ) := by
  intro n
  induction n with
  | zero => intro v1 v2 σ; exact q_none
  | succ n ih => intro v1 v2 σ; exact aX6_readSum_s12 d N rX6_readInner hX6_readInner (fX6_readSum_l12 N rX6_readInner n) ih v1 v2 σ

def fX6_readSum (N : Nat) (rX6_readInner : Int32 → Int32 → qMem → Option (Int32 × qMem)) (p1 : Int32) (σ : qMem) : Option (Int32 × qMem) :=
  ((fX6_readTerm N rX6_readInner p1 σ).bind fun y1 => (if y1.1 = 0 then (some (0, y1.2)) else (fX6_readSum_l12 N rX6_readInner N p1 0 y1.2)))
set_option maxRecDepth 20000 in
set_option maxHeartbeats 4000000 in
theorem aX6_readSum (d : Nat) (N : Nat) (rX6_readInner : Int32 → Int32 → qMem → Option (Int32 × qMem)) (p1 : Int32) (hX6_readInner : ∀ (p1 : Int32) (p2 : Int32)  (σ : qMem), qMc wC (mX6_readInner d) (ρi) [.ref 77, .int p1, .int p2] σ (rX6_readInner p1 p2 σ)) (σ : qMem) : qAt wC (mX6_readSum d) (ρi) 0 [(0, .ref 77), (1, .int p1)] [] σ (fX6_readSum N rX6_readInner p1 σ) := by
  unfold fX6_readSum
  refine q_aload_n (i := 0) (x := 77) dX6_readSum_0 rfl 0 rfl ?_
  refine q_iload_n (i := 1) (x := p1) dX6_readSum_1 rfl 1 rfl ?_
  refine q_cVi (mX6_readTerm d) [.int p1] (st := []) dX6_readSum_2 (svX6_122 _) (by unfold rR mX6_readSum mX6_readTerm; constructor <;> dsimp only <;> omega) zC_77 rfl rfl rfl (Nat.le_of_ble_eq_true rfl) (kX6_readTerm d N rX6_readInner p1 hX6_readInner σ) (fun y1 => ?_)
  refine q_if_ne (tgt := 10) dX6_readSum_5 (by decide) ?_ ?_
  · refine q_iconst (v := 0) dX6_readSum_10 (by decide) ?_
    refine q_istore_n (i := 2) (L' := [(2, .int 0), (0, .ref 77), (1, .int p1)]) dX6_readSum_11 rfl (Nat.le_of_ble_eq_true rfl) rfl ?_
    exact q_sub [1, 2, 0] rfl (aX6_readSum_l12 d N rX6_readInner hX6_readInner N p1 0 y1.2)
  refine q_iconst (v := 0) dX6_readSum_8 (by decide) ?_
  exact q_iretz (y := (0, y1.2)) dX6_readSum_9 rfl rfl rfl
theorem kX6_readSum (d : Nat) (N : Nat) (rX6_readInner : Int32 → Int32 → qMem → Option (Int32 × qMem)) (p1 : Int32) (hX6_readInner : ∀ (p1 : Int32) (p2 : Int32)  (σ : qMem), qMc wC (mX6_readInner d) (ρi) [.ref 77, .int p1, .int p2] σ (rX6_readInner p1 p2 σ)) (σ : qMem) : qMc wC (mX6_readSum d) (ρi) [.ref 77, .int p1] σ (fX6_readSum N rX6_readInner p1 σ) := qMc_of (moX6_readSum _) (Nat.le_of_ble_eq_true rfl) (aX6_readSum d N rX6_readInner p1 hX6_readInner σ)

theorem dX6_readComparison_0 : decode cX6_readComparison 0 = .ok (.aload_n 0, 1) := by decide +kernel
theorem dX6_readComparison_1 : decode cX6_readComparison 1 = .ok (.iload_n 1, 1) := by decide +kernel
theorem dX6_readComparison_2 : decode cX6_readComparison 2 = .ok (.invokevirtual 83, 3) := by decide +kernel
theorem dX6_readComparison_5 : decode cX6_readComparison 5 = .ok (.ifCond .ne 5, 3) := by decide +kernel
theorem dX6_readComparison_8 : decode cX6_readComparison 8 = .ok (.iconst 0, 1) := by decide +kernel
theorem dX6_readComparison_9 : decode cX6_readComparison 9 = .ok (.ireturn, 1) := by decide +kernel
theorem dX6_readComparison_10 : decode cX6_readComparison 10 = .ok (.aload_n 0, 1) := by decide +kernel
theorem dX6_readComparison_11 : decode cX6_readComparison 11 = .ok (.bipush 60, 2) := by decide +kernel
theorem dX6_readComparison_13 : decode cX6_readComparison 13 = .ok (.invokevirtual 57, 3) := by decide +kernel
theorem dX6_readComparison_16 : decode cX6_readComparison 16 = .ok (.ifCond .eq 8, 3) := by decide +kernel
theorem dX6_readComparison_19 : decode cX6_readComparison 19 = .ok (.bipush 6, 2) := by decide +kernel
theorem dX6_readComparison_21 : decode cX6_readComparison 21 = .ok (.goto 32, 3) := by decide +kernel
theorem dX6_readComparison_24 : decode cX6_readComparison 24 = .ok (.aload_n 0, 1) := by decide +kernel
theorem dX6_readComparison_25 : decode cX6_readComparison 25 = .ok (.bipush 62, 2) := by decide +kernel
theorem dX6_readComparison_27 : decode cX6_readComparison 27 = .ok (.invokevirtual 57, 3) := by decide +kernel
theorem dX6_readComparison_30 : decode cX6_readComparison 30 = .ok (.ifCond .eq 8, 3) := by decide +kernel
theorem dX6_readComparison_33 : decode cX6_readComparison 33 = .ok (.bipush 7, 2) := by decide +kernel
theorem dX6_readComparison_35 : decode cX6_readComparison 35 = .ok (.goto 18, 3) := by decide +kernel
theorem dX6_readComparison_38 : decode cX6_readComparison 38 = .ok (.aload_n 0, 1) := by decide +kernel
theorem dX6_readComparison_39 : decode cX6_readComparison 39 = .ok (.bipush 61, 2) := by decide +kernel
theorem dX6_readComparison_41 : decode cX6_readComparison 41 = .ok (.invokevirtual 57, 3) := by decide +kernel
theorem dX6_readComparison_44 : decode cX6_readComparison 44 = .ok (.ifCond .eq 8, 3) := by decide +kernel
theorem dX6_readComparison_47 : decode cX6_readComparison 47 = .ok (.bipush 8, 2) := by decide +kernel
theorem dX6_readComparison_49 : decode cX6_readComparison 49 = .ok (.goto 4, 3) := by decide +kernel
theorem dX6_readComparison_52 : decode cX6_readComparison 52 = .ok (.iconst (-1), 1) := by decide +kernel
theorem dX6_readComparison_53 : decode cX6_readComparison 53 = .ok (.istore_n 2, 1) := by decide +kernel
theorem dX6_readComparison_54 : decode cX6_readComparison 54 = .ok (.iload_n 2, 1) := by decide +kernel
theorem dX6_readComparison_55 : decode cX6_readComparison 55 = .ok (.iconst (-1), 1) := by decide +kernel
theorem dX6_readComparison_56 : decode cX6_readComparison 56 = .ok (.if_icmp .ne 5, 3) := by decide +kernel
theorem dX6_readComparison_59 : decode cX6_readComparison 59 = .ok (.iconst 0, 1) := by decide +kernel
theorem dX6_readComparison_60 : decode cX6_readComparison 60 = .ok (.ireturn, 1) := by decide +kernel
theorem dX6_readComparison_61 : decode cX6_readComparison 61 = .ok (.aload_n 0, 1) := by decide +kernel
theorem dX6_readComparison_62 : decode cX6_readComparison 62 = .ok (.invokevirtual 50, 3) := by decide +kernel
theorem dX6_readComparison_65 : decode cX6_readComparison 65 = .ok (.aload_n 0, 1) := by decide +kernel
theorem dX6_readComparison_66 : decode cX6_readComparison 66 = .ok (.iload_n 1, 1) := by decide +kernel
theorem dX6_readComparison_67 : decode cX6_readComparison 67 = .ok (.invokevirtual 83, 3) := by decide +kernel
theorem dX6_readComparison_70 : decode cX6_readComparison 70 = .ok (.ifCond .ne 5, 3) := by decide +kernel
theorem dX6_readComparison_73 : decode cX6_readComparison 73 = .ok (.iconst 0, 1) := by decide +kernel
theorem dX6_readComparison_74 : decode cX6_readComparison 74 = .ok (.ireturn, 1) := by decide +kernel
theorem dX6_readComparison_75 : decode cX6_readComparison 75 = .ok (.aload_n 0, 1) := by decide +kernel
theorem dX6_readComparison_76 : decode cX6_readComparison 76 = .ok (.getfield 12, 3) := by decide +kernel
theorem dX6_readComparison_79 : decode cX6_readComparison 79 = .ok (.iload_n 2, 1) := by decide +kernel
theorem dX6_readComparison_80 : decode cX6_readComparison 80 = .ok (.iconst 0, 1) := by decide +kernel
theorem dX6_readComparison_81 : decode cX6_readComparison 81 = .ok (.invokevirtual 101, 3) := by decide +kernel
theorem dX6_readComparison_84 : decode cX6_readComparison 84 = .ok (.iconst 1, 1) := by decide +kernel
theorem dX6_readComparison_85 : decode cX6_readComparison 85 = .ok (.ireturn, 1) := by decide +kernel
def fX6_readComparison_b53 (N : Nat) (rX6_readInner : Int32 → Int32 → qMem → Option (Int32 × qMem)) (v1 : Int32) (u0 : Int32) (σ : qMem) : Option (Int32 × qMem) :=
  (if u0 = (-1) then (some (0, σ)) else ((fX6_move N σ).bind fun y5 => ((fX6_readSum N rX6_readInner v1 y5).bind fun y6 => (if y6.1 = 0 then (some (0, y6.2)) else ((fX5_add 78 u0 0 y6.2).bind fun y7 => (some (1, y7)))))))
set_option maxRecDepth 20000 in
set_option maxHeartbeats 4000000 in
theorem aX6_readComparison_b53 (d : Nat) (N : Nat) (rX6_readInner : Int32 → Int32 → qMem → Option (Int32 × qMem)) (hX6_readInner : ∀ (p1 : Int32) (p2 : Int32)  (σ : qMem), qMc wC (mX6_readInner d) (ρi) [.ref 77, .int p1, .int p2] σ (rX6_readInner p1 p2 σ)) (v1 : Int32) (u0 : Int32) (σ : qMem) : qAt wC (mX6_readComparison d) (ρi) 53 [(0, .ref 77), (1, .int v1)] [.int u0] σ (fX6_readComparison_b53 N rX6_readInner v1 u0 σ) := by
  unfold fX6_readComparison_b53
  refine q_istore_n (i := 2) (L' := [(2, .int u0), (0, .ref 77), (1, .int v1)]) dX6_readComparison_53 rfl (Nat.le_of_ble_eq_true rfl) rfl ?_
  refine q_iload_n (i := 2) (x := u0) dX6_readComparison_54 rfl 0 rfl ?_
  refine q_iconst (v := (-1)) dX6_readComparison_55 (by decide) ?_
  refine q_icmp_ne (tgt := 61) dX6_readComparison_56 (by decide) ?_ ?_
  · refine q_aload_n (i := 0) (x := 77) dX6_readComparison_61 rfl 1 rfl ?_
    refine q_cVv mX6_move [] (st := []) dX6_readComparison_62 (svX6_50) (by unfold rR mX6_move mX6_readComparison; constructor <;> dsimp only <;> omega) zC_77 rfl rfl rfl (Nat.le_of_ble_eq_true rfl) (kX6_move N σ) (fun y5 => ?_)
    refine q_aload_n (i := 0) (x := 77) dX6_readComparison_65 rfl 1 rfl ?_
    refine q_iload_n (i := 1) (x := v1) dX6_readComparison_66 rfl 2 rfl ?_
    refine q_cVi (mX6_readSum d) [.int v1] (st := []) dX6_readComparison_67 (svX6_83 _) (by unfold rR mX6_readComparison mX6_readSum; constructor <;> dsimp only <;> omega) zC_77 rfl rfl rfl (Nat.le_of_ble_eq_true rfl) (kX6_readSum d N rX6_readInner v1 hX6_readInner y5) (fun y6 => ?_)
    refine q_if_ne (tgt := 75) dX6_readComparison_70 (by decide) ?_ ?_
    · refine q_aload_n (i := 0) (x := 77) dX6_readComparison_75 rfl 1 rfl ?_
      refine q_getr (t := 78) dX6_readComparison_76 foX6_12 zC_77 rfl ?_
      refine q_iload_n (i := 2) (x := u0) dX6_readComparison_79 rfl 0 rfl ?_
      refine q_iconst (v := 0) dX6_readComparison_80 (by decide) ?_
      refine q_cVv mX5_add [.int u0, .int 0] (st := []) dX6_readComparison_81 (svX6_101) (by unfold rR mX5_add mX6_readComparison; constructor <;> dsimp only <;> omega) zC_78 rfl rfl rfl (Nat.le_of_ble_eq_true rfl) (kX5_add 78 u0 0 pC_78 y6.2) (fun y7 => ?_)
      refine q_iconst (v := 1) dX6_readComparison_84 (by decide) ?_
      exact q_iretz (y := (1, y7)) dX6_readComparison_85 rfl rfl rfl
    refine q_iconst (v := 0) dX6_readComparison_73 (by decide) ?_
    exact q_iretz (y := (0, y6.2)) dX6_readComparison_74 rfl rfl rfl
  refine q_iconst (v := 0) dX6_readComparison_59 (by decide) ?_
  exact q_iretz (y := (0, σ)) dX6_readComparison_60 rfl rfl rfl

def fX6_readComparison (N : Nat) (rX6_readInner : Int32 → Int32 → qMem → Option (Int32 × qMem)) (p1 : Int32) (σ : qMem) : Option (Int32 × qMem) :=
  ((fX6_readSum N rX6_readInner p1 σ).bind fun y1 => (if y1.1 = 0 then (some (0, y1.2)) else ((fX6_isSign 60 y1.2).bind fun y2 => (if y2 = 0 then ((fX6_isSign 62 y1.2).bind fun y3 => (if y3 = 0 then ((fX6_isSign 61 y1.2).bind fun y4 => (if y4 = 0 then (fX6_readComparison_b53 N rX6_readInner p1 (-1) y1.2) else (fX6_readComparison_b53 N rX6_readInner p1 8 y1.2))) else (fX6_readComparison_b53 N rX6_readInner p1 7 y1.2))) else (fX6_readComparison_b53 N rX6_readInner p1 6 y1.2)))))
set_option maxRecDepth 20000 in
set_option maxHeartbeats 4000000 in
theorem aX6_readComparison (d : Nat) (N : Nat) (rX6_readInner : Int32 → Int32 → qMem → Option (Int32 × qMem)) (p1 : Int32) (hX6_readInner : ∀ (p1 : Int32) (p2 : Int32)  (σ : qMem), qMc wC (mX6_readInner d) (ρi) [.ref 77, .int p1, .int p2] σ (rX6_readInner p1 p2 σ)) (σ : qMem) : qAt wC (mX6_readComparison d) (ρi) 0 [(0, .ref 77), (1, .int p1)] [] σ (fX6_readComparison N rX6_readInner p1 σ) := by
  unfold fX6_readComparison
  refine q_aload_n (i := 0) (x := 77) dX6_readComparison_0 rfl 0 rfl ?_
  refine q_iload_n (i := 1) (x := p1) dX6_readComparison_1 rfl 1 rfl ?_
  refine q_cVi (mX6_readSum d) [.int p1] (st := []) dX6_readComparison_2 (svX6_83 _) (by unfold rR mX6_readComparison mX6_readSum; constructor <;> dsimp only <;> omega) zC_77 rfl rfl rfl (Nat.le_of_ble_eq_true rfl) (kX6_readSum d N rX6_readInner p1 hX6_readInner σ) (fun y1 => ?_)
  refine q_if_ne (tgt := 10) dX6_readComparison_5 (by decide) ?_ ?_
  · refine q_aload_n (i := 0) (x := 77) dX6_readComparison_10 rfl 0 rfl ?_
    refine q_bipush (v := 60) dX6_readComparison_11 (by decide) ?_
    refine q_cVp mX6_isSign [.int 60] (st := []) dX6_readComparison_13 (svX6_57) (by unfold rR mX6_isSign mX6_readComparison; constructor <;> dsimp only <;> omega) zC_77 rfl rfl rfl (Nat.le_of_ble_eq_true rfl) (kX6_isSign 60 y1.2) (fun y2 => ?_)
    refine q_if_eq (tgt := 24) dX6_readComparison_16 (by decide) ?_ ?_
    · refine q_aload_n (i := 0) (x := 77) dX6_readComparison_24 rfl 0 rfl ?_
      refine q_bipush (v := 62) dX6_readComparison_25 (by decide) ?_
      refine q_cVp mX6_isSign [.int 62] (st := []) dX6_readComparison_27 (svX6_57) (by unfold rR mX6_isSign mX6_readComparison; constructor <;> dsimp only <;> omega) zC_77 rfl rfl rfl (Nat.le_of_ble_eq_true rfl) (kX6_isSign 62 y1.2) (fun y3 => ?_)
      refine q_if_eq (tgt := 38) dX6_readComparison_30 (by decide) ?_ ?_
      · refine q_aload_n (i := 0) (x := 77) dX6_readComparison_38 rfl 0 rfl ?_
        refine q_bipush (v := 61) dX6_readComparison_39 (by decide) ?_
        refine q_cVp mX6_isSign [.int 61] (st := []) dX6_readComparison_41 (svX6_57) (by unfold rR mX6_isSign mX6_readComparison; constructor <;> dsimp only <;> omega) zC_77 rfl rfl rfl (Nat.le_of_ble_eq_true rfl) (kX6_isSign 61 y1.2) (fun y4 => ?_)
        refine q_if_eq (tgt := 52) dX6_readComparison_44 (by decide) ?_ ?_
        · refine q_iconst (v := (-1)) dX6_readComparison_52 (by decide) ?_
          exact q_sub [0, 1] rfl (aX6_readComparison_b53 d N rX6_readInner hX6_readInner p1 (-1) y1.2)
        refine q_bipush (v := 8) dX6_readComparison_47 (by decide) ?_
        refine q_goto (tgt := 53) dX6_readComparison_49 (by decide) ?_
        exact q_sub [0, 1] rfl (aX6_readComparison_b53 d N rX6_readInner hX6_readInner p1 8 y1.2)
      refine q_bipush (v := 7) dX6_readComparison_33 (by decide) ?_
      refine q_goto (tgt := 53) dX6_readComparison_35 (by decide) ?_
      exact q_sub [0, 1] rfl (aX6_readComparison_b53 d N rX6_readInner hX6_readInner p1 7 y1.2)
    refine q_bipush (v := 6) dX6_readComparison_19 (by decide) ?_
    refine q_goto (tgt := 53) dX6_readComparison_21 (by decide) ?_
    exact q_sub [0, 1] rfl (aX6_readComparison_b53 d N rX6_readInner hX6_readInner p1 6 y1.2)
  refine q_iconst (v := 0) dX6_readComparison_8 (by decide) ?_
  exact q_iretz (y := (0, y1.2)) dX6_readComparison_9 rfl rfl rfl
theorem kX6_readComparison (d : Nat) (N : Nat) (rX6_readInner : Int32 → Int32 → qMem → Option (Int32 × qMem)) (p1 : Int32) (hX6_readInner : ∀ (p1 : Int32) (p2 : Int32)  (σ : qMem), qMc wC (mX6_readInner d) (ρi) [.ref 77, .int p1, .int p2] σ (rX6_readInner p1 p2 σ)) (σ : qMem) : qMc wC (mX6_readComparison d) (ρi) [.ref 77, .int p1] σ (fX6_readComparison N rX6_readInner p1 σ) := qMc_of (moX6_readComparison _) (Nat.le_of_ble_eq_true rfl) (aX6_readComparison d N rX6_readInner p1 hX6_readInner σ)

theorem dX6_readPlain_0 : decode cX6_readPlain 0 = .ok (.iconst 0, 1) := by decide +kernel
theorem dX6_readPlain_1 : decode cX6_readPlain 1 = .ok (.istore_n 2, 1) := by decide +kernel
theorem dX6_readPlain_2 : decode cX6_readPlain 2 = .ok (.iconst 0, 1) := by decide +kernel
theorem dX6_readPlain_3 : decode cX6_readPlain 3 = .ok (.istore_n 3, 1) := by decide +kernel
theorem dX6_readPlain_4 : decode cX6_readPlain 4 = .ok (.iload_n 3, 1) := by decide +kernel
theorem dX6_readPlain_5 : decode cX6_readPlain 5 = .ok (.aload_n 0, 1) := by decide +kernel
theorem dX6_readPlain_6 : decode cX6_readPlain 6 = .ok (.getfield 22, 3) := by decide +kernel
theorem dX6_readPlain_9 : decode cX6_readPlain 9 = .ok (.if_icmp .ge 32, 3) := by decide +kernel
theorem dX6_readPlain_12 : decode cX6_readPlain 12 = .ok (.aload_n 0, 1) := by decide +kernel
theorem dX6_readPlain_13 : decode cX6_readPlain 13 = .ok (.ldc 113, 2) := by decide +kernel
theorem dX6_readPlain_15 : decode cX6_readPlain 15 = .ok (.invokevirtual 72, 3) := by decide +kernel
theorem dX6_readPlain_18 : decode cX6_readPlain 18 = .ok (.ifCond .eq 23, 3) := by decide +kernel
theorem dX6_readPlain_21 : decode cX6_readPlain 21 = .ok (.iload_n 2, 1) := by decide +kernel
theorem dX6_readPlain_22 : decode cX6_readPlain 22 = .ok (.ifCond .ne 7, 3) := by decide +kernel
theorem dX6_readPlain_25 : decode cX6_readPlain 25 = .ok (.iconst 1, 1) := by decide +kernel
theorem dX6_readPlain_26 : decode cX6_readPlain 26 = .ok (.goto 4, 3) := by decide +kernel
theorem dX6_readPlain_29 : decode cX6_readPlain 29 = .ok (.iconst 0, 1) := by decide +kernel
theorem dX6_readPlain_30 : decode cX6_readPlain 30 = .ok (.istore_n 2, 1) := by decide +kernel
theorem dX6_readPlain_31 : decode cX6_readPlain 31 = .ok (.aload_n 0, 1) := by decide +kernel
theorem dX6_readPlain_32 : decode cX6_readPlain 32 = .ok (.invokevirtual 50, 3) := by decide +kernel
theorem dX6_readPlain_35 : decode cX6_readPlain 35 = .ok (.iinc 3 1, 3) := by decide +kernel
theorem dX6_readPlain_38 : decode cX6_readPlain 38 = .ok (.goto (-34), 3) := by decide +kernel
theorem dX6_readPlain_41 : decode cX6_readPlain 41 = .ok (.aload_n 0, 1) := by decide +kernel
theorem dX6_readPlain_42 : decode cX6_readPlain 42 = .ok (.bipush 40, 2) := by decide +kernel
theorem dX6_readPlain_44 : decode cX6_readPlain 44 = .ok (.invokevirtual 57, 3) := by decide +kernel
theorem dX6_readPlain_47 : decode cX6_readPlain 47 = .ok (.ifCond .eq 13, 3) := by decide +kernel
theorem dX6_readPlain_50 : decode cX6_readPlain 50 = .ok (.aload_n 0, 1) := by decide +kernel
theorem dX6_readPlain_51 : decode cX6_readPlain 51 = .ok (.iload_n 1, 1) := by decide +kernel
theorem dX6_readPlain_52 : decode cX6_readPlain 52 = .ok (.bipush 41, 2) := by decide +kernel
theorem dX6_readPlain_54 : decode cX6_readPlain 54 = .ok (.invokevirtual 115, 3) := by decide +kernel
theorem dX6_readPlain_57 : decode cX6_readPlain 57 = .ok (.goto 8, 3) := by decide +kernel
theorem dX6_readPlain_60 : decode cX6_readPlain 60 = .ok (.aload_n 0, 1) := by decide +kernel
theorem dX6_readPlain_61 : decode cX6_readPlain 61 = .ok (.iload_n 1, 1) := by decide +kernel
theorem dX6_readPlain_62 : decode cX6_readPlain 62 = .ok (.invokevirtual 119, 3) := by decide +kernel
theorem dX6_readPlain_65 : decode cX6_readPlain 65 = .ok (.istore_n 3, 1) := by decide +kernel
theorem dX6_readPlain_66 : decode cX6_readPlain 66 = .ok (.iload_n 3, 1) := by decide +kernel
theorem dX6_readPlain_67 : decode cX6_readPlain 67 = .ok (.ifCond .eq 17, 3) := by decide +kernel
theorem dX6_readPlain_70 : decode cX6_readPlain 70 = .ok (.iload_n 2, 1) := by decide +kernel
theorem dX6_readPlain_71 : decode cX6_readPlain 71 = .ok (.ifCond .eq 13, 3) := by decide +kernel
theorem dX6_readPlain_74 : decode cX6_readPlain 74 = .ok (.aload_n 0, 1) := by decide +kernel
theorem dX6_readPlain_75 : decode cX6_readPlain 75 = .ok (.getfield 12, 3) := by decide +kernel
theorem dX6_readPlain_78 : decode cX6_readPlain 78 = .ok (.bipush 9, 2) := by decide +kernel
theorem dX6_readPlain_80 : decode cX6_readPlain 80 = .ok (.iconst 0, 1) := by decide +kernel
theorem dX6_readPlain_81 : decode cX6_readPlain 81 = .ok (.invokevirtual 101, 3) := by decide +kernel
theorem dX6_readPlain_84 : decode cX6_readPlain 84 = .ok (.iload_n 3, 1) := by decide +kernel
theorem dX6_readPlain_85 : decode cX6_readPlain 85 = .ok (.ireturn, 1) := by decide +kernel
def fX6_readPlain_b65 (N : Nat) (rX6_readInner : Int32 → Int32 → qMem → Option (Int32 × qMem)) (v2 : Int32) (u0 : Int32) (σ : qMem) : Option (Int32 × qMem) :=
  (if u0 = 0 then (if u0 = 0 ∨ u0 = 1 then some (u0, σ) else none) else (if v2 = 0 then (if u0 = 0 ∨ u0 = 1 then some (u0, σ) else none) else ((fX5_add 78 9 0 σ).bind fun y6 => (if u0 = 0 ∨ u0 = 1 then some (u0, y6) else none))))
set_option maxRecDepth 20000 in
set_option maxHeartbeats 4000000 in
theorem aX6_readPlain_b65 (d : Nat) (N : Nat) (rX6_readInner : Int32 → Int32 → qMem → Option (Int32 × qMem)) (hX6_readInner : ∀ (p1 : Int32) (p2 : Int32)  (σ : qMem), qMc wC (mX6_readInner d) (ρi) [.ref 77, .int p1, .int p2] σ (rX6_readInner p1 p2 σ)) (v2 : Int32) (u0 : Int32) (σ : qMem) : qAt wC (mX6_readPlain d) (ρi) 65 [(0, .ref 77), (2, .int v2)] [.int u0] σ (fX6_readPlain_b65 N rX6_readInner v2 u0 σ) := by
  unfold fX6_readPlain_b65
  refine q_istore_n (i := 3) (L' := [(3, .int u0), (0, .ref 77), (2, .int v2)]) dX6_readPlain_65 rfl (Nat.le_of_ble_eq_true rfl) rfl ?_
  refine q_iload_n (i := 3) (x := u0) dX6_readPlain_66 rfl 0 rfl ?_
  refine q_if_eq (tgt := 84) dX6_readPlain_67 (by decide) ?_ ?_
  · refine q_iload_n (i := 3) (x := u0) dX6_readPlain_84 rfl 0 rfl ?_
    exact q_if (fun hz => q_iretz (y := (u0, σ)) dX6_readPlain_85 rfl (nb_ok hz) rfl)
  refine q_iload_n (i := 2) (x := v2) dX6_readPlain_70 rfl 2 rfl ?_
  refine q_if_eq (tgt := 84) dX6_readPlain_71 (by decide) ?_ ?_
  · refine q_iload_n (i := 3) (x := u0) dX6_readPlain_84 rfl 0 rfl ?_
    exact q_if (fun hz => q_iretz (y := (u0, σ)) dX6_readPlain_85 rfl (nb_ok hz) rfl)
  refine q_aload_n (i := 0) (x := 77) dX6_readPlain_74 rfl 1 rfl ?_
  refine q_getr (t := 78) dX6_readPlain_75 foX6_12 zC_77 rfl ?_
  refine q_bipush (v := 9) dX6_readPlain_78 (by decide) ?_
  refine q_iconst (v := 0) dX6_readPlain_80 (by decide) ?_
  refine q_cVv mX5_add [.int 9, .int 0] (st := []) dX6_readPlain_81 (svX6_101) (by unfold rR mX5_add mX6_readPlain; constructor <;> dsimp only <;> omega) zC_78 rfl rfl rfl (Nat.le_of_ble_eq_true rfl) (kX5_add 78 9 0 pC_78 σ) (fun y6 => ?_)
  refine q_iload_n (i := 3) (x := u0) dX6_readPlain_84 rfl 0 rfl ?_
  exact q_if (fun hz => q_iretz (y := (u0, y6)) dX6_readPlain_85 rfl (nb_ok hz) rfl)

def fX6_readPlain_b41 (N : Nat) (rX6_readInner : Int32 → Int32 → qMem → Option (Int32 × qMem)) (v1 : Int32) (v2 : Int32) (σ : qMem) : Option (Int32 × qMem) :=
  ((fX6_isSign 40 σ).bind fun y3 => (if y3 = 0 then ((fX6_readComparison N rX6_readInner v1 σ).bind fun y4 => (fX6_readPlain_b65 N rX6_readInner v2 y4.1 y4.2)) else ((rX6_readInner v1 41 σ).bind fun y5 => (fX6_readPlain_b65 N rX6_readInner v2 y5.1 y5.2))))
set_option maxRecDepth 20000 in
set_option maxHeartbeats 4000000 in
theorem aX6_readPlain_b41 (d : Nat) (N : Nat) (rX6_readInner : Int32 → Int32 → qMem → Option (Int32 × qMem)) (hX6_readInner : ∀ (p1 : Int32) (p2 : Int32)  (σ : qMem), qMc wC (mX6_readInner d) (ρi) [.ref 77, .int p1, .int p2] σ (rX6_readInner p1 p2 σ)) (v1 : Int32) (v2 : Int32) (σ : qMem) : qAt wC (mX6_readPlain d) (ρi) 41 [(0, .ref 77), (1, .int v1), (2, .int v2)] [] σ (fX6_readPlain_b41 N rX6_readInner v1 v2 σ) := by
  unfold fX6_readPlain_b41
  refine q_aload_n (i := 0) (x := 77) dX6_readPlain_41 rfl 0 rfl ?_
  refine q_bipush (v := 40) dX6_readPlain_42 (by decide) ?_
  refine q_cVp mX6_isSign [.int 40] (st := []) dX6_readPlain_44 (svX6_57) (by unfold rR mX6_isSign mX6_readPlain; constructor <;> dsimp only <;> omega) zC_77 rfl rfl rfl (Nat.le_of_ble_eq_true rfl) (kX6_isSign 40 σ) (fun y3 => ?_)
  refine q_if_eq (tgt := 60) dX6_readPlain_47 (by decide) ?_ ?_
  · refine q_aload_n (i := 0) (x := 77) dX6_readPlain_60 rfl 0 rfl ?_
    refine q_iload_n (i := 1) (x := v1) dX6_readPlain_61 rfl 1 rfl ?_
    refine q_cVi (mX6_readComparison d) [.int v1] (st := []) dX6_readPlain_62 (svX6_119 _) (by unfold rR mX6_readComparison mX6_readPlain; constructor <;> dsimp only <;> omega) zC_77 rfl rfl rfl (Nat.le_of_ble_eq_true rfl) (kX6_readComparison d N rX6_readInner v1 hX6_readInner σ) (fun y4 => ?_)
    exact q_sub [0, 2] rfl (aX6_readPlain_b65 d N rX6_readInner hX6_readInner v2 y4.1 y4.2)
  refine q_aload_n (i := 0) (x := 77) dX6_readPlain_50 rfl 0 rfl ?_
  refine q_iload_n (i := 1) (x := v1) dX6_readPlain_51 rfl 1 rfl ?_
  refine q_bipush (v := 41) dX6_readPlain_52 (by decide) ?_
  refine q_cVi (mX6_readInner d) [.int v1, .int 41] (st := []) dX6_readPlain_54 (svX6_115 _) (by unfold rR mX6_readInner mX6_readPlain; constructor <;> dsimp only <;> omega) zC_77 rfl rfl rfl (Nat.le_of_ble_eq_true rfl) (hX6_readInner v1 41 σ) (fun y5 => ?_)
  refine q_goto (tgt := 65) dX6_readPlain_57 (by decide) ?_
  exact q_sub [0, 2] rfl (aX6_readPlain_b65 d N rX6_readInner hX6_readInner v2 y5.1 y5.2)

def fX6_readPlain_b30 (N : Nat) (rX6_readInner : Int32 → Int32 → qMem → Option (Int32 × qMem)) (c4 : Int32 → Int32 → Int32 → qMem → Option (Int32 × qMem)) (v1 : Int32) (v3 : Int32) (u0 : Int32) (σ : qMem) : Option (Int32 × qMem) :=
  ((fX6_move N σ).bind fun y2 => (c4 v1 u0 (v3 + 1) y2))
set_option maxRecDepth 20000 in
set_option maxHeartbeats 4000000 in
theorem aX6_readPlain_b30 (d : Nat) (N : Nat) (rX6_readInner : Int32 → Int32 → qMem → Option (Int32 × qMem)) (hX6_readInner : ∀ (p1 : Int32) (p2 : Int32)  (σ : qMem), qMc wC (mX6_readInner d) (ρi) [.ref 77, .int p1, .int p2] σ (rX6_readInner p1 p2 σ)) (c4 : Int32 → Int32 → Int32 → qMem → Option (Int32 × qMem)) (hc4 : ∀ (v1 : Int32) (v2 : Int32) (v3 : Int32) (σ : qMem), qAt wC (mX6_readPlain d) (ρi) 4 [(0, .ref 77), (1, .int v1), (2, .int v2), (3, .int v3)] [] σ (c4 v1 v2 v3 σ)) (v1 : Int32) (v3 : Int32) (u0 : Int32) (σ : qMem) : qAt wC (mX6_readPlain d) (ρi) 30 [(0, .ref 77), (1, .int v1), (3, .int v3)] [.int u0] σ (fX6_readPlain_b30 N rX6_readInner c4 v1 v3 u0 σ) := by
  unfold fX6_readPlain_b30
  refine q_istore_n (i := 2) (L' := [(2, .int u0), (0, .ref 77), (1, .int v1), (3, .int v3)]) dX6_readPlain_30 rfl (Nat.le_of_ble_eq_true rfl) rfl ?_
  refine q_aload_n (i := 0) (x := 77) dX6_readPlain_31 rfl 1 rfl ?_
  refine q_cVv mX6_move [] (st := []) dX6_readPlain_32 (svX6_50) (by unfold rR mX6_move mX6_readPlain; constructor <;> dsimp only <;> omega) zC_77 rfl rfl rfl (Nat.le_of_ble_eq_true rfl) (kX6_move N σ) (fun y2 => ?_)
  refine q_iinc (i := 3) (x := v3) (v := (v3 + 1)) (L' := [(3, .int (v3 + 1)), (2, .int u0), (0, .ref 77), (1, .int v1)]) dX6_readPlain_35 3 rfl (q_cst v3 (by decide)) (Nat.le_of_ble_eq_true rfl) rfl ?_
  refine q_goto (tgt := 4) dX6_readPlain_38 (by decide) ?_
  exact q_sub [2, 3, 1, 0] rfl (hc4 v1 u0 (v3 + 1) y2)

def fX6_readPlain_s4 (N : Nat) (rX6_readInner : Int32 → Int32 → qMem → Option (Int32 × qMem)) (c4 : Int32 → Int32 → Int32 → qMem → Option (Int32 × qMem)) (v1 : Int32) (v2 : Int32) (v3 : Int32) (σ : qMem) : Option (Int32 × qMem) :=
  (if (gi σ 77 2) ≤ v3 then (fX6_readPlain_b41 N rX6_readInner v1 v2 σ) else ((fX6_isWord 6 σ).bind fun y1 => (if y1 = 0 then (fX6_readPlain_b41 N rX6_readInner v1 v2 σ) else (if v2 = 0 then (fX6_readPlain_b30 N rX6_readInner c4 v1 v3 1 σ) else (fX6_readPlain_b30 N rX6_readInner c4 v1 v3 0 σ)))))
set_option maxRecDepth 20000 in
set_option maxHeartbeats 4000000 in
theorem aX6_readPlain_s4 (d : Nat) (N : Nat) (rX6_readInner : Int32 → Int32 → qMem → Option (Int32 × qMem)) (hX6_readInner : ∀ (p1 : Int32) (p2 : Int32)  (σ : qMem), qMc wC (mX6_readInner d) (ρi) [.ref 77, .int p1, .int p2] σ (rX6_readInner p1 p2 σ)) (c4 : Int32 → Int32 → Int32 → qMem → Option (Int32 × qMem)) (hc4 : ∀ (v1 : Int32) (v2 : Int32) (v3 : Int32) (σ : qMem), qAt wC (mX6_readPlain d) (ρi) 4 [(0, .ref 77), (1, .int v1), (2, .int v2), (3, .int v3)] [] σ (c4 v1 v2 v3 σ)) (v1 : Int32) (v2 : Int32) (v3 : Int32) (σ : qMem) : qAt wC (mX6_readPlain d) (ρi) 4 [(0, .ref 77), (1, .int v1), (2, .int v2), (3, .int v3)] [] σ (fX6_readPlain_s4 N rX6_readInner c4 v1 v2 v3 σ) := by
  unfold fX6_readPlain_s4
  refine q_iload_n (i := 3) (x := v3) dX6_readPlain_4 rfl 3 rfl ?_
  refine q_aload_n (i := 0) (x := 77) dX6_readPlain_5 rfl 0 rfl ?_
  refine q_geti dX6_readPlain_6 foX6_22 zC_77 rfl ?_
  refine q_icmp_ge (tgt := 41) dX6_readPlain_9 (by decide) ?_ ?_
  · exact q_sub [0, 1, 2] rfl (aX6_readPlain_b41 d N rX6_readInner hX6_readInner v1 v2 σ)
  refine q_aload_n (i := 0) (x := 77) dX6_readPlain_12 rfl 0 rfl ?_
  refine q_ldcS 6 rfl rfl dX6_readPlain_13 rfl ?_
  refine q_cVp mX6_isWord [.ref 1016] (st := []) dX6_readPlain_15 (svX6_72) (by unfold rR mX6_isWord mX6_readPlain; constructor <;> dsimp only <;> omega) zC_77 rfl rfl rfl (Nat.le_of_ble_eq_true rfl) (kX6_isWord 6 (by decide) σ) (fun y1 => ?_)
  refine q_if_eq (tgt := 41) dX6_readPlain_18 (by decide) ?_ ?_
  · exact q_sub [0, 1, 2] rfl (aX6_readPlain_b41 d N rX6_readInner hX6_readInner v1 v2 σ)
  refine q_iload_n (i := 2) (x := v2) dX6_readPlain_21 rfl 2 rfl ?_
  refine q_if_ne (tgt := 29) dX6_readPlain_22 (by decide) ?_ ?_
  · refine q_iconst (v := 0) dX6_readPlain_29 (by decide) ?_
    exact q_sub [0, 1, 3] rfl (aX6_readPlain_b30 d N rX6_readInner hX6_readInner c4 hc4 v1 v3 0 σ)
  refine q_iconst (v := 1) dX6_readPlain_25 (by decide) ?_
  refine q_goto (tgt := 30) dX6_readPlain_26 (by decide) ?_
  exact q_sub [0, 1, 3] rfl (aX6_readPlain_b30 d N rX6_readInner hX6_readInner c4 hc4 v1 v3 1 σ)
def fX6_readPlain_l4 (N : Nat) (rX6_readInner : Int32 → Int32 → qMem → Option (Int32 × qMem)) : Nat → Int32 → Int32 → Int32 → qMem → Option (Int32 × qMem)
  | 0 => fun _ _ _ _ => none
  | n + 1 => fun v1 v2 v3 σ => fX6_readPlain_s4 N rX6_readInner (fX6_readPlain_l4 N rX6_readInner n) v1 v2 v3 σ
theorem aX6_readPlain_l4 (d : Nat) (N : Nat) (rX6_readInner : Int32 → Int32 → qMem → Option (Int32 × qMem)) (hX6_readInner : ∀ (p1 : Int32) (p2 : Int32)  (σ : qMem), qMc wC (mX6_readInner d) (ρi) [.ref 77, .int p1, .int p2] σ (rX6_readInner p1 p2 σ)) : ∀ (n : Nat) (v1 : Int32) (v2 : Int32) (v3 : Int32) (σ : qMem), qAt wC (mX6_readPlain d) (ρi) 4 [(0, .ref 77), (1, .int v1), (2, .int v2), (3, .int v3)] [] σ (fX6_readPlain_l4 N rX6_readInner n v1 v2 v3 σ) := by
  intro n
  induction n with
  | zero => intro v1 v2 v3 σ; exact q_none
  | succ n ih => intro v1 v2 v3 σ; exact aX6_readPlain_s4 d N rX6_readInner hX6_readInner (fX6_readPlain_l4 N rX6_readInner n) ih v1 v2 v3 σ

def fX6_readPlain (N : Nat) (rX6_readInner : Int32 → Int32 → qMem → Option (Int32 × qMem)) (p1 : Int32) (σ : qMem) : Option (Int32 × qMem) :=
  (fX6_readPlain_l4 N rX6_readInner N p1 0 0 σ)
set_option maxRecDepth 20000 in
set_option maxHeartbeats 4000000 in
theorem aX6_readPlain (d : Nat) (N : Nat) (rX6_readInner : Int32 → Int32 → qMem → Option (Int32 × qMem)) (p1 : Int32) (hX6_readInner : ∀ (p1 : Int32) (p2 : Int32)  (σ : qMem), qMc wC (mX6_readInner d) (ρi) [.ref 77, .int p1, .int p2] σ (rX6_readInner p1 p2 σ)) (σ : qMem) : qAt wC (mX6_readPlain d) (ρi) 0 [(0, .ref 77), (1, .int p1)] [] σ (fX6_readPlain N rX6_readInner p1 σ) := by
  unfold fX6_readPlain
  refine q_iconst (v := 0) dX6_readPlain_0 (by decide) ?_
  refine q_istore_n (i := 2) (L' := [(2, .int 0), (0, .ref 77), (1, .int p1)]) dX6_readPlain_1 rfl (Nat.le_of_ble_eq_true rfl) rfl ?_
  refine q_iconst (v := 0) dX6_readPlain_2 (by decide) ?_
  refine q_istore_n (i := 3) (L' := [(3, .int 0), (2, .int 0), (0, .ref 77), (1, .int p1)]) dX6_readPlain_3 rfl (Nat.le_of_ble_eq_true rfl) rfl ?_
  exact q_sub [2, 3, 1, 0] rfl (aX6_readPlain_l4 d N rX6_readInner hX6_readInner N p1 0 0 σ)
theorem kX6_readPlain (d : Nat) (N : Nat) (rX6_readInner : Int32 → Int32 → qMem → Option (Int32 × qMem)) (p1 : Int32) (hX6_readInner : ∀ (p1 : Int32) (p2 : Int32)  (σ : qMem), qMc wC (mX6_readInner d) (ρi) [.ref 77, .int p1, .int p2] σ (rX6_readInner p1 p2 σ)) (σ : qMem) : qMc wC (mX6_readPlain d) (ρi) [.ref 77, .int p1] σ (fX6_readPlain N rX6_readInner p1 σ) := qMc_of (moX6_readPlain _) (Nat.le_of_ble_eq_true rfl) (aX6_readPlain d N rX6_readInner p1 hX6_readInner σ)

theorem dX6_readBoth_0 : decode cX6_readBoth 0 = .ok (.aload_n 0, 1) := by decide +kernel
theorem dX6_readBoth_1 : decode cX6_readBoth 1 = .ok (.iload_n 1, 1) := by decide +kernel
theorem dX6_readBoth_2 : decode cX6_readBoth 2 = .ok (.invokevirtual 108, 3) := by decide +kernel
theorem dX6_readBoth_5 : decode cX6_readBoth 5 = .ok (.ifCond .ne 5, 3) := by decide +kernel
theorem dX6_readBoth_8 : decode cX6_readBoth 8 = .ok (.iconst 0, 1) := by decide +kernel
theorem dX6_readBoth_9 : decode cX6_readBoth 9 = .ok (.ireturn, 1) := by decide +kernel
theorem dX6_readBoth_10 : decode cX6_readBoth 10 = .ok (.iconst 0, 1) := by decide +kernel
theorem dX6_readBoth_11 : decode cX6_readBoth 11 = .ok (.istore_n 2, 1) := by decide +kernel
theorem dX6_readBoth_12 : decode cX6_readBoth 12 = .ok (.iload_n 2, 1) := by decide +kernel
theorem dX6_readBoth_13 : decode cX6_readBoth 13 = .ok (.aload_n 0, 1) := by decide +kernel
theorem dX6_readBoth_14 : decode cX6_readBoth 14 = .ok (.getfield 22, 3) := by decide +kernel
theorem dX6_readBoth_17 : decode cX6_readBoth 17 = .ok (.if_icmp .ge 58, 3) := by decide +kernel
theorem dX6_readBoth_20 : decode cX6_readBoth 20 = .ok (.aload_n 0, 1) := by decide +kernel
theorem dX6_readBoth_21 : decode cX6_readBoth 21 = .ok (.ldc 111, 2) := by decide +kernel
theorem dX6_readBoth_23 : decode cX6_readBoth 23 = .ok (.invokevirtual 72, 3) := by decide +kernel
theorem dX6_readBoth_26 : decode cX6_readBoth 26 = .ok (.ifCond .eq 49, 3) := by decide +kernel
theorem dX6_readBoth_29 : decode cX6_readBoth 29 = .ok (.aload_n 0, 1) := by decide +kernel
theorem dX6_readBoth_30 : decode cX6_readBoth 30 = .ok (.getfield 12, 3) := by decide +kernel
theorem dX6_readBoth_33 : decode cX6_readBoth 33 = .ok (.getfield 80, 3) := by decide +kernel
theorem dX6_readBoth_36 : decode cX6_readBoth 36 = .ok (.istore_n 3, 1) := by decide +kernel
theorem dX6_readBoth_37 : decode cX6_readBoth 37 = .ok (.aload_n 0, 1) := by decide +kernel
theorem dX6_readBoth_38 : decode cX6_readBoth 38 = .ok (.getfield 12, 3) := by decide +kernel
theorem dX6_readBoth_41 : decode cX6_readBoth 41 = .ok (.bipush 11, 2) := by decide +kernel
theorem dX6_readBoth_43 : decode cX6_readBoth 43 = .ok (.iconst 0, 1) := by decide +kernel
theorem dX6_readBoth_44 : decode cX6_readBoth 44 = .ok (.invokevirtual 101, 3) := by decide +kernel
theorem dX6_readBoth_47 : decode cX6_readBoth 47 = .ok (.aload_n 0, 1) := by decide +kernel
theorem dX6_readBoth_48 : decode cX6_readBoth 48 = .ok (.invokevirtual 50, 3) := by decide +kernel
theorem dX6_readBoth_51 : decode cX6_readBoth 51 = .ok (.aload_n 0, 1) := by decide +kernel
theorem dX6_readBoth_52 : decode cX6_readBoth 52 = .ok (.iload_n 1, 1) := by decide +kernel
theorem dX6_readBoth_53 : decode cX6_readBoth 53 = .ok (.invokevirtual 108, 3) := by decide +kernel
theorem dX6_readBoth_56 : decode cX6_readBoth 56 = .ok (.ifCond .ne 5, 3) := by decide +kernel
theorem dX6_readBoth_59 : decode cX6_readBoth 59 = .ok (.iconst 0, 1) := by decide +kernel
theorem dX6_readBoth_60 : decode cX6_readBoth 60 = .ok (.ireturn, 1) := by decide +kernel
theorem dX6_readBoth_61 : decode cX6_readBoth 61 = .ok (.aload_n 0, 1) := by decide +kernel
theorem dX6_readBoth_62 : decode cX6_readBoth 62 = .ok (.getfield 12, 3) := by decide +kernel
theorem dX6_readBoth_65 : decode cX6_readBoth 65 = .ok (.iload_n 3, 1) := by decide +kernel
theorem dX6_readBoth_66 : decode cX6_readBoth 66 = .ok (.invokevirtual 104, 3) := by decide +kernel
theorem dX6_readBoth_69 : decode cX6_readBoth 69 = .ok (.iinc 2 1, 3) := by decide +kernel
theorem dX6_readBoth_72 : decode cX6_readBoth 72 = .ok (.goto (-60), 3) := by decide +kernel
theorem dX6_readBoth_75 : decode cX6_readBoth 75 = .ok (.iconst 1, 1) := by decide +kernel
theorem dX6_readBoth_76 : decode cX6_readBoth 76 = .ok (.ireturn, 1) := by decide +kernel
def fX6_readBoth_s12 (N : Nat) (rX6_readInner : Int32 → Int32 → qMem → Option (Int32 × qMem)) (c12 : Int32 → Int32 → qMem → Option (Int32 × qMem)) (v1 : Int32) (v2 : Int32) (σ : qMem) : Option (Int32 × qMem) :=
  (if (gi σ 77 2) ≤ v2 then (some (1, σ)) else ((fX6_isWord 5 σ).bind fun y2 => (if y2 = 0 then (some (1, σ)) else ((fX5_add 78 11 0 σ).bind fun y3 => ((fX6_move N y3).bind fun y4 => ((fX6_readPlain N rX6_readInner v1 y4).bind fun y5 => (if y5.1 = 0 then (some (0, y5.2)) else ((fX5_leadHere 78 (gi σ 78 5) y5.2).bind fun y6 => (c12 v1 (v2 + 1) y6)))))))))
set_option maxRecDepth 20000 in
set_option maxHeartbeats 4000000 in
theorem aX6_readBoth_s12 (d : Nat) (N : Nat) (rX6_readInner : Int32 → Int32 → qMem → Option (Int32 × qMem)) (hX6_readInner : ∀ (p1 : Int32) (p2 : Int32)  (σ : qMem), qMc wC (mX6_readInner d) (ρi) [.ref 77, .int p1, .int p2] σ (rX6_readInner p1 p2 σ)) (c12 : Int32 → Int32 → qMem → Option (Int32 × qMem)) (hc12 : ∀ (v1 : Int32) (v2 : Int32) (σ : qMem), qAt wC (mX6_readBoth d) (ρi) 12 [(0, .ref 77), (1, .int v1), (2, .int v2)] [] σ (c12 v1 v2 σ)) (v1 : Int32) (v2 : Int32) (σ : qMem) : qAt wC (mX6_readBoth d) (ρi) 12 [(0, .ref 77), (1, .int v1), (2, .int v2)] [] σ (fX6_readBoth_s12 N rX6_readInner c12 v1 v2 σ) := by
  unfold fX6_readBoth_s12
  refine q_iload_n (i := 2) (x := v2) dX6_readBoth_12 rfl 2 rfl ?_
  refine q_aload_n (i := 0) (x := 77) dX6_readBoth_13 rfl 0 rfl ?_
  refine q_geti dX6_readBoth_14 foX6_22 zC_77 rfl ?_
  refine q_icmp_ge (tgt := 75) dX6_readBoth_17 (by decide) ?_ ?_
  · refine q_iconst (v := 1) dX6_readBoth_75 (by decide) ?_
    exact q_iretz (y := (1, σ)) dX6_readBoth_76 rfl rfl rfl
  refine q_aload_n (i := 0) (x := 77) dX6_readBoth_20 rfl 0 rfl ?_
  refine q_ldcS 5 rfl rfl dX6_readBoth_21 rfl ?_
  refine q_cVp mX6_isWord [.ref 1015] (st := []) dX6_readBoth_23 (svX6_72) (by unfold rR mX6_isWord mX6_readBoth; constructor <;> dsimp only <;> omega) zC_77 rfl rfl rfl (Nat.le_of_ble_eq_true rfl) (kX6_isWord 5 (by decide) σ) (fun y2 => ?_)
  refine q_if_eq (tgt := 75) dX6_readBoth_26 (by decide) ?_ ?_
  · refine q_iconst (v := 1) dX6_readBoth_75 (by decide) ?_
    exact q_iretz (y := (1, σ)) dX6_readBoth_76 rfl rfl rfl
  refine q_aload_n (i := 0) (x := 77) dX6_readBoth_29 rfl 0 rfl ?_
  refine q_getr (t := 78) dX6_readBoth_30 foX6_12 zC_77 rfl ?_
  refine q_geti dX6_readBoth_33 foX6_80 zC_78 rfl ?_
  refine q_istore_n (i := 3) (L' := [(3, .int (gi σ 78 5)), (0, .ref 77), (1, .int v1), (2, .int v2)]) dX6_readBoth_36 rfl (Nat.le_of_ble_eq_true rfl) rfl ?_
  refine q_aload_n (i := 0) (x := 77) dX6_readBoth_37 rfl 1 rfl ?_
  refine q_getr (t := 78) dX6_readBoth_38 foX6_12 zC_77 rfl ?_
  refine q_bipush (v := 11) dX6_readBoth_41 (by decide) ?_
  refine q_iconst (v := 0) dX6_readBoth_43 (by decide) ?_
  refine q_cVv mX5_add [.int 11, .int 0] (st := []) dX6_readBoth_44 (svX6_101) (by unfold rR mX5_add mX6_readBoth; constructor <;> dsimp only <;> omega) zC_78 rfl rfl rfl (Nat.le_of_ble_eq_true rfl) (kX5_add 78 11 0 pC_78 σ) (fun y3 => ?_)
  refine q_aload_n (i := 0) (x := 77) dX6_readBoth_47 rfl 1 rfl ?_
  refine q_cVv mX6_move [] (st := []) dX6_readBoth_48 (svX6_50) (by unfold rR mX6_move mX6_readBoth; constructor <;> dsimp only <;> omega) zC_77 rfl rfl rfl (Nat.le_of_ble_eq_true rfl) (kX6_move N y3) (fun y4 => ?_)
  refine q_aload_n (i := 0) (x := 77) dX6_readBoth_51 rfl 1 rfl ?_
  refine q_iload_n (i := 1) (x := v1) dX6_readBoth_52 rfl 2 rfl ?_
  refine q_cVi (mX6_readPlain d) [.int v1] (st := []) dX6_readBoth_53 (svX6_108 _) (by unfold rR mX6_readBoth mX6_readPlain; constructor <;> dsimp only <;> omega) zC_77 rfl rfl rfl (Nat.le_of_ble_eq_true rfl) (kX6_readPlain d N rX6_readInner v1 hX6_readInner y4) (fun y5 => ?_)
  refine q_if_ne (tgt := 61) dX6_readBoth_56 (by decide) ?_ ?_
  · refine q_aload_n (i := 0) (x := 77) dX6_readBoth_61 rfl 1 rfl ?_
    refine q_getr (t := 78) dX6_readBoth_62 foX6_12 zC_77 rfl ?_
    refine q_iload_n (i := 3) (x := (gi σ 78 5)) dX6_readBoth_65 rfl 0 rfl ?_
    refine q_cVv mX5_leadHere [.int (gi σ 78 5)] (st := []) dX6_readBoth_66 (svX6_104) (by unfold rR mX5_leadHere mX6_readBoth; constructor <;> dsimp only <;> omega) zC_78 rfl rfl rfl (Nat.le_of_ble_eq_true rfl) (kX5_leadHere 78 (gi σ 78 5) pC_78 y5.2) (fun y6 => ?_)
    refine q_iinc (i := 2) (x := v2) (v := (v2 + 1)) (L' := [(2, .int (v2 + 1)), (3, .int (gi σ 78 5)), (0, .ref 77), (1, .int v1)]) dX6_readBoth_69 3 rfl (q_cst v2 (by decide)) (Nat.le_of_ble_eq_true rfl) rfl ?_
    refine q_goto (tgt := 12) dX6_readBoth_72 (by decide) ?_
    exact q_sub [2, 3, 0] rfl (hc12 v1 (v2 + 1) y6)
  refine q_iconst (v := 0) dX6_readBoth_59 (by decide) ?_
  exact q_iretz (y := (0, y5.2)) dX6_readBoth_60 rfl rfl rfl
def fX6_readBoth_l12 (N : Nat) (rX6_readInner : Int32 → Int32 → qMem → Option (Int32 × qMem)) : Nat → Int32 → Int32 → qMem → Option (Int32 × qMem)
  | 0 => fun _ _ _ => none
  | n + 1 => fun v1 v2 σ => fX6_readBoth_s12 N rX6_readInner (fX6_readBoth_l12 N rX6_readInner n) v1 v2 σ
theorem aX6_readBoth_l12 (d : Nat) (N : Nat) (rX6_readInner : Int32 → Int32 → qMem → Option (Int32 × qMem)) (hX6_readInner : ∀ (p1 : Int32) (p2 : Int32)  (σ : qMem), qMc wC (mX6_readInner d) (ρi) [.ref 77, .int p1, .int p2] σ (rX6_readInner p1 p2 σ)) : ∀ (n : Nat) (v1 : Int32) (v2 : Int32) (σ : qMem), qAt wC (mX6_readBoth d) (ρi) 12 [(0, .ref 77), (1, .int v1), (2, .int v2)] [] σ (fX6_readBoth_l12 N rX6_readInner n v1 v2 σ) := by
  intro n
  induction n with
  | zero => intro v1 v2 σ; exact q_none
  | succ n ih => intro v1 v2 σ; exact aX6_readBoth_s12 d N rX6_readInner hX6_readInner (fX6_readBoth_l12 N rX6_readInner n) ih v1 v2 σ

def fX6_readBoth (N : Nat) (rX6_readInner : Int32 → Int32 → qMem → Option (Int32 × qMem)) (p1 : Int32) (σ : qMem) : Option (Int32 × qMem) :=
  ((fX6_readPlain N rX6_readInner p1 σ).bind fun y1 => (if y1.1 = 0 then (some (0, y1.2)) else (fX6_readBoth_l12 N rX6_readInner N p1 0 y1.2)))
set_option maxRecDepth 20000 in
set_option maxHeartbeats 4000000 in
theorem aX6_readBoth (d : Nat) (N : Nat) (rX6_readInner : Int32 → Int32 → qMem → Option (Int32 × qMem)) (p1 : Int32) (hX6_readInner : ∀ (p1 : Int32) (p2 : Int32)  (σ : qMem), qMc wC (mX6_readInner d) (ρi) [.ref 77, .int p1, .int p2] σ (rX6_readInner p1 p2 σ)) (σ : qMem) : qAt wC (mX6_readBoth d) (ρi) 0 [(0, .ref 77), (1, .int p1)] [] σ (fX6_readBoth N rX6_readInner p1 σ) := by
  unfold fX6_readBoth
  refine q_aload_n (i := 0) (x := 77) dX6_readBoth_0 rfl 0 rfl ?_
  refine q_iload_n (i := 1) (x := p1) dX6_readBoth_1 rfl 1 rfl ?_
  refine q_cVi (mX6_readPlain d) [.int p1] (st := []) dX6_readBoth_2 (svX6_108 _) (by unfold rR mX6_readBoth mX6_readPlain; constructor <;> dsimp only <;> omega) zC_77 rfl rfl rfl (Nat.le_of_ble_eq_true rfl) (kX6_readPlain d N rX6_readInner p1 hX6_readInner σ) (fun y1 => ?_)
  refine q_if_ne (tgt := 10) dX6_readBoth_5 (by decide) ?_ ?_
  · refine q_iconst (v := 0) dX6_readBoth_10 (by decide) ?_
    refine q_istore_n (i := 2) (L' := [(2, .int 0), (0, .ref 77), (1, .int p1)]) dX6_readBoth_11 rfl (Nat.le_of_ble_eq_true rfl) rfl ?_
    exact q_sub [1, 2, 0] rfl (aX6_readBoth_l12 d N rX6_readInner hX6_readInner N p1 0 y1.2)
  refine q_iconst (v := 0) dX6_readBoth_8 (by decide) ?_
  exact q_iretz (y := (0, y1.2)) dX6_readBoth_9 rfl rfl rfl
theorem kX6_readBoth (d : Nat) (N : Nat) (rX6_readInner : Int32 → Int32 → qMem → Option (Int32 × qMem)) (p1 : Int32) (hX6_readInner : ∀ (p1 : Int32) (p2 : Int32)  (σ : qMem), qMc wC (mX6_readInner d) (ρi) [.ref 77, .int p1, .int p2] σ (rX6_readInner p1 p2 σ)) (σ : qMem) : qMc wC (mX6_readBoth d) (ρi) [.ref 77, .int p1] σ (fX6_readBoth N rX6_readInner p1 σ) := qMc_of (moX6_readBoth _) (Nat.le_of_ble_eq_true rfl) (aX6_readBoth d N rX6_readInner p1 hX6_readInner σ)

theorem dX6_readTest_0 : decode cX6_readTest 0 = .ok (.aload_n 0, 1) := by decide +kernel
theorem dX6_readTest_1 : decode cX6_readTest 1 = .ok (.iload_n 1, 1) := by decide +kernel
theorem dX6_readTest_2 : decode cX6_readTest 2 = .ok (.invokevirtual 96, 3) := by decide +kernel
theorem dX6_readTest_5 : decode cX6_readTest 5 = .ok (.ifCond .ne 5, 3) := by decide +kernel
theorem dX6_readTest_8 : decode cX6_readTest 8 = .ok (.iconst 0, 1) := by decide +kernel
theorem dX6_readTest_9 : decode cX6_readTest 9 = .ok (.ireturn, 1) := by decide +kernel
theorem dX6_readTest_10 : decode cX6_readTest 10 = .ok (.iconst 0, 1) := by decide +kernel
theorem dX6_readTest_11 : decode cX6_readTest 11 = .ok (.istore_n 2, 1) := by decide +kernel
theorem dX6_readTest_12 : decode cX6_readTest 12 = .ok (.iload_n 2, 1) := by decide +kernel
theorem dX6_readTest_13 : decode cX6_readTest 13 = .ok (.aload_n 0, 1) := by decide +kernel
theorem dX6_readTest_14 : decode cX6_readTest 14 = .ok (.getfield 22, 3) := by decide +kernel
theorem dX6_readTest_17 : decode cX6_readTest 17 = .ok (.if_icmp .ge 58, 3) := by decide +kernel
theorem dX6_readTest_20 : decode cX6_readTest 20 = .ok (.aload_n 0, 1) := by decide +kernel
theorem dX6_readTest_21 : decode cX6_readTest 21 = .ok (.ldc 99, 2) := by decide +kernel
theorem dX6_readTest_23 : decode cX6_readTest 23 = .ok (.invokevirtual 72, 3) := by decide +kernel
theorem dX6_readTest_26 : decode cX6_readTest 26 = .ok (.ifCond .eq 49, 3) := by decide +kernel
theorem dX6_readTest_29 : decode cX6_readTest 29 = .ok (.aload_n 0, 1) := by decide +kernel
theorem dX6_readTest_30 : decode cX6_readTest 30 = .ok (.getfield 12, 3) := by decide +kernel
theorem dX6_readTest_33 : decode cX6_readTest 33 = .ok (.getfield 80, 3) := by decide +kernel
theorem dX6_readTest_36 : decode cX6_readTest 36 = .ok (.istore_n 3, 1) := by decide +kernel
theorem dX6_readTest_37 : decode cX6_readTest 37 = .ok (.aload_n 0, 1) := by decide +kernel
theorem dX6_readTest_38 : decode cX6_readTest 38 = .ok (.getfield 12, 3) := by decide +kernel
theorem dX6_readTest_41 : decode cX6_readTest 41 = .ok (.bipush 10, 2) := by decide +kernel
theorem dX6_readTest_43 : decode cX6_readTest 43 = .ok (.iconst 0, 1) := by decide +kernel
theorem dX6_readTest_44 : decode cX6_readTest 44 = .ok (.invokevirtual 101, 3) := by decide +kernel
theorem dX6_readTest_47 : decode cX6_readTest 47 = .ok (.aload_n 0, 1) := by decide +kernel
theorem dX6_readTest_48 : decode cX6_readTest 48 = .ok (.invokevirtual 50, 3) := by decide +kernel
theorem dX6_readTest_51 : decode cX6_readTest 51 = .ok (.aload_n 0, 1) := by decide +kernel
theorem dX6_readTest_52 : decode cX6_readTest 52 = .ok (.iload_n 1, 1) := by decide +kernel
theorem dX6_readTest_53 : decode cX6_readTest 53 = .ok (.invokevirtual 96, 3) := by decide +kernel
theorem dX6_readTest_56 : decode cX6_readTest 56 = .ok (.ifCond .ne 5, 3) := by decide +kernel
theorem dX6_readTest_59 : decode cX6_readTest 59 = .ok (.iconst 0, 1) := by decide +kernel
theorem dX6_readTest_60 : decode cX6_readTest 60 = .ok (.ireturn, 1) := by decide +kernel
theorem dX6_readTest_61 : decode cX6_readTest 61 = .ok (.aload_n 0, 1) := by decide +kernel
theorem dX6_readTest_62 : decode cX6_readTest 62 = .ok (.getfield 12, 3) := by decide +kernel
theorem dX6_readTest_65 : decode cX6_readTest 65 = .ok (.iload_n 3, 1) := by decide +kernel
theorem dX6_readTest_66 : decode cX6_readTest 66 = .ok (.invokevirtual 104, 3) := by decide +kernel
theorem dX6_readTest_69 : decode cX6_readTest 69 = .ok (.iinc 2 1, 3) := by decide +kernel
theorem dX6_readTest_72 : decode cX6_readTest 72 = .ok (.goto (-60), 3) := by decide +kernel
theorem dX6_readTest_75 : decode cX6_readTest 75 = .ok (.iconst 1, 1) := by decide +kernel
theorem dX6_readTest_76 : decode cX6_readTest 76 = .ok (.ireturn, 1) := by decide +kernel
def fX6_readTest_s12 (N : Nat) (rX6_readInner : Int32 → Int32 → qMem → Option (Int32 × qMem)) (c12 : Int32 → Int32 → qMem → Option (Int32 × qMem)) (v1 : Int32) (v2 : Int32) (σ : qMem) : Option (Int32 × qMem) :=
  (if (gi σ 77 2) ≤ v2 then (some (1, σ)) else ((fX6_isWord 4 σ).bind fun y2 => (if y2 = 0 then (some (1, σ)) else ((fX5_add 78 10 0 σ).bind fun y3 => ((fX6_move N y3).bind fun y4 => ((fX6_readBoth N rX6_readInner v1 y4).bind fun y5 => (if y5.1 = 0 then (some (0, y5.2)) else ((fX5_leadHere 78 (gi σ 78 5) y5.2).bind fun y6 => (c12 v1 (v2 + 1) y6)))))))))
set_option maxRecDepth 20000 in
set_option maxHeartbeats 4000000 in
theorem aX6_readTest_s12 (d : Nat) (N : Nat) (rX6_readInner : Int32 → Int32 → qMem → Option (Int32 × qMem)) (hX6_readInner : ∀ (p1 : Int32) (p2 : Int32)  (σ : qMem), qMc wC (mX6_readInner d) (ρi) [.ref 77, .int p1, .int p2] σ (rX6_readInner p1 p2 σ)) (c12 : Int32 → Int32 → qMem → Option (Int32 × qMem)) (hc12 : ∀ (v1 : Int32) (v2 : Int32) (σ : qMem), qAt wC (mX6_readTest d) (ρi) 12 [(0, .ref 77), (1, .int v1), (2, .int v2)] [] σ (c12 v1 v2 σ)) (v1 : Int32) (v2 : Int32) (σ : qMem) : qAt wC (mX6_readTest d) (ρi) 12 [(0, .ref 77), (1, .int v1), (2, .int v2)] [] σ (fX6_readTest_s12 N rX6_readInner c12 v1 v2 σ) := by
  unfold fX6_readTest_s12
  refine q_iload_n (i := 2) (x := v2) dX6_readTest_12 rfl 2 rfl ?_
  refine q_aload_n (i := 0) (x := 77) dX6_readTest_13 rfl 0 rfl ?_
  refine q_geti dX6_readTest_14 foX6_22 zC_77 rfl ?_
  refine q_icmp_ge (tgt := 75) dX6_readTest_17 (by decide) ?_ ?_
  · refine q_iconst (v := 1) dX6_readTest_75 (by decide) ?_
    exact q_iretz (y := (1, σ)) dX6_readTest_76 rfl rfl rfl
  refine q_aload_n (i := 0) (x := 77) dX6_readTest_20 rfl 0 rfl ?_
  refine q_ldcS 4 rfl rfl dX6_readTest_21 rfl ?_
  refine q_cVp mX6_isWord [.ref 1014] (st := []) dX6_readTest_23 (svX6_72) (by unfold rR mX6_isWord mX6_readTest; constructor <;> dsimp only <;> omega) zC_77 rfl rfl rfl (Nat.le_of_ble_eq_true rfl) (kX6_isWord 4 (by decide) σ) (fun y2 => ?_)
  refine q_if_eq (tgt := 75) dX6_readTest_26 (by decide) ?_ ?_
  · refine q_iconst (v := 1) dX6_readTest_75 (by decide) ?_
    exact q_iretz (y := (1, σ)) dX6_readTest_76 rfl rfl rfl
  refine q_aload_n (i := 0) (x := 77) dX6_readTest_29 rfl 0 rfl ?_
  refine q_getr (t := 78) dX6_readTest_30 foX6_12 zC_77 rfl ?_
  refine q_geti dX6_readTest_33 foX6_80 zC_78 rfl ?_
  refine q_istore_n (i := 3) (L' := [(3, .int (gi σ 78 5)), (0, .ref 77), (1, .int v1), (2, .int v2)]) dX6_readTest_36 rfl (Nat.le_of_ble_eq_true rfl) rfl ?_
  refine q_aload_n (i := 0) (x := 77) dX6_readTest_37 rfl 1 rfl ?_
  refine q_getr (t := 78) dX6_readTest_38 foX6_12 zC_77 rfl ?_
  refine q_bipush (v := 10) dX6_readTest_41 (by decide) ?_
  refine q_iconst (v := 0) dX6_readTest_43 (by decide) ?_
  refine q_cVv mX5_add [.int 10, .int 0] (st := []) dX6_readTest_44 (svX6_101) (by unfold rR mX5_add mX6_readTest; constructor <;> dsimp only <;> omega) zC_78 rfl rfl rfl (Nat.le_of_ble_eq_true rfl) (kX5_add 78 10 0 pC_78 σ) (fun y3 => ?_)
  refine q_aload_n (i := 0) (x := 77) dX6_readTest_47 rfl 1 rfl ?_
  refine q_cVv mX6_move [] (st := []) dX6_readTest_48 (svX6_50) (by unfold rR mX6_move mX6_readTest; constructor <;> dsimp only <;> omega) zC_77 rfl rfl rfl (Nat.le_of_ble_eq_true rfl) (kX6_move N y3) (fun y4 => ?_)
  refine q_aload_n (i := 0) (x := 77) dX6_readTest_51 rfl 1 rfl ?_
  refine q_iload_n (i := 1) (x := v1) dX6_readTest_52 rfl 2 rfl ?_
  refine q_cVi (mX6_readBoth d) [.int v1] (st := []) dX6_readTest_53 (svX6_96 _) (by unfold rR mX6_readBoth mX6_readTest; constructor <;> dsimp only <;> omega) zC_77 rfl rfl rfl (Nat.le_of_ble_eq_true rfl) (kX6_readBoth d N rX6_readInner v1 hX6_readInner y4) (fun y5 => ?_)
  refine q_if_ne (tgt := 61) dX6_readTest_56 (by decide) ?_ ?_
  · refine q_aload_n (i := 0) (x := 77) dX6_readTest_61 rfl 1 rfl ?_
    refine q_getr (t := 78) dX6_readTest_62 foX6_12 zC_77 rfl ?_
    refine q_iload_n (i := 3) (x := (gi σ 78 5)) dX6_readTest_65 rfl 0 rfl ?_
    refine q_cVv mX5_leadHere [.int (gi σ 78 5)] (st := []) dX6_readTest_66 (svX6_104) (by unfold rR mX5_leadHere mX6_readTest; constructor <;> dsimp only <;> omega) zC_78 rfl rfl rfl (Nat.le_of_ble_eq_true rfl) (kX5_leadHere 78 (gi σ 78 5) pC_78 y5.2) (fun y6 => ?_)
    refine q_iinc (i := 2) (x := v2) (v := (v2 + 1)) (L' := [(2, .int (v2 + 1)), (3, .int (gi σ 78 5)), (0, .ref 77), (1, .int v1)]) dX6_readTest_69 3 rfl (q_cst v2 (by decide)) (Nat.le_of_ble_eq_true rfl) rfl ?_
    refine q_goto (tgt := 12) dX6_readTest_72 (by decide) ?_
    exact q_sub [2, 3, 0] rfl (hc12 v1 (v2 + 1) y6)
  refine q_iconst (v := 0) dX6_readTest_59 (by decide) ?_
  exact q_iretz (y := (0, y5.2)) dX6_readTest_60 rfl rfl rfl
def fX6_readTest_l12 (N : Nat) (rX6_readInner : Int32 → Int32 → qMem → Option (Int32 × qMem)) : Nat → Int32 → Int32 → qMem → Option (Int32 × qMem)
  | 0 => fun _ _ _ => none
  | n + 1 => fun v1 v2 σ => fX6_readTest_s12 N rX6_readInner (fX6_readTest_l12 N rX6_readInner n) v1 v2 σ
theorem aX6_readTest_l12 (d : Nat) (N : Nat) (rX6_readInner : Int32 → Int32 → qMem → Option (Int32 × qMem)) (hX6_readInner : ∀ (p1 : Int32) (p2 : Int32)  (σ : qMem), qMc wC (mX6_readInner d) (ρi) [.ref 77, .int p1, .int p2] σ (rX6_readInner p1 p2 σ)) : ∀ (n : Nat) (v1 : Int32) (v2 : Int32) (σ : qMem), qAt wC (mX6_readTest d) (ρi) 12 [(0, .ref 77), (1, .int v1), (2, .int v2)] [] σ (fX6_readTest_l12 N rX6_readInner n v1 v2 σ) := by
  intro n
  induction n with
  | zero => intro v1 v2 σ; exact q_none
  | succ n ih => intro v1 v2 σ; exact aX6_readTest_s12 d N rX6_readInner hX6_readInner (fX6_readTest_l12 N rX6_readInner n) ih v1 v2 σ

def fX6_readTest (N : Nat) (rX6_readInner : Int32 → Int32 → qMem → Option (Int32 × qMem)) (p1 : Int32) (σ : qMem) : Option (Int32 × qMem) :=
  ((fX6_readBoth N rX6_readInner p1 σ).bind fun y1 => (if y1.1 = 0 then (some (0, y1.2)) else (fX6_readTest_l12 N rX6_readInner N p1 0 y1.2)))
set_option maxRecDepth 20000 in
set_option maxHeartbeats 4000000 in
theorem aX6_readTest (d : Nat) (N : Nat) (rX6_readInner : Int32 → Int32 → qMem → Option (Int32 × qMem)) (p1 : Int32) (hX6_readInner : ∀ (p1 : Int32) (p2 : Int32)  (σ : qMem), qMc wC (mX6_readInner d) (ρi) [.ref 77, .int p1, .int p2] σ (rX6_readInner p1 p2 σ)) (σ : qMem) : qAt wC (mX6_readTest d) (ρi) 0 [(0, .ref 77), (1, .int p1)] [] σ (fX6_readTest N rX6_readInner p1 σ) := by
  unfold fX6_readTest
  refine q_aload_n (i := 0) (x := 77) dX6_readTest_0 rfl 0 rfl ?_
  refine q_iload_n (i := 1) (x := p1) dX6_readTest_1 rfl 1 rfl ?_
  refine q_cVi (mX6_readBoth d) [.int p1] (st := []) dX6_readTest_2 (svX6_96 _) (by unfold rR mX6_readBoth mX6_readTest; constructor <;> dsimp only <;> omega) zC_77 rfl rfl rfl (Nat.le_of_ble_eq_true rfl) (kX6_readBoth d N rX6_readInner p1 hX6_readInner σ) (fun y1 => ?_)
  refine q_if_ne (tgt := 10) dX6_readTest_5 (by decide) ?_ ?_
  · refine q_iconst (v := 0) dX6_readTest_10 (by decide) ?_
    refine q_istore_n (i := 2) (L' := [(2, .int 0), (0, .ref 77), (1, .int p1)]) dX6_readTest_11 rfl (Nat.le_of_ble_eq_true rfl) rfl ?_
    exact q_sub [1, 2, 0] rfl (aX6_readTest_l12 d N rX6_readInner hX6_readInner N p1 0 y1.2)
  refine q_iconst (v := 0) dX6_readTest_8 (by decide) ?_
  exact q_iretz (y := (0, y1.2)) dX6_readTest_9 rfl rfl rfl
theorem kX6_readTest (d : Nat) (N : Nat) (rX6_readInner : Int32 → Int32 → qMem → Option (Int32 × qMem)) (p1 : Int32) (hX6_readInner : ∀ (p1 : Int32) (p2 : Int32)  (σ : qMem), qMc wC (mX6_readInner d) (ρi) [.ref 77, .int p1, .int p2] σ (rX6_readInner p1 p2 σ)) (σ : qMem) : qMc wC (mX6_readTest d) (ρi) [.ref 77, .int p1] σ (fX6_readTest N rX6_readInner p1 σ) := qMc_of (moX6_readTest _) (Nat.le_of_ble_eq_true rfl) (aX6_readTest d N rX6_readInner p1 hX6_readInner σ)

theorem dX6_readInner_0 : decode cX6_readInner 0 = .ok (.iload_n 1, 1) := by decide +kernel
theorem dX6_readInner_1 : decode cX6_readInner 1 = .ok (.bipush 8, 2) := by decide +kernel
theorem dX6_readInner_3 : decode cX6_readInner 3 = .ok (.if_icmp .lt 5, 3) := by decide +kernel
theorem dX6_readInner_6 : decode cX6_readInner 6 = .ok (.iconst 0, 1) := by decide +kernel
theorem dX6_readInner_7 : decode cX6_readInner 7 = .ok (.ireturn, 1) := by decide +kernel
theorem dX6_readInner_8 : decode cX6_readInner 8 = .ok (.aload_n 0, 1) := by decide +kernel
theorem dX6_readInner_9 : decode cX6_readInner 9 = .ok (.invokevirtual 50, 3) := by decide +kernel
theorem dX6_readInner_12 : decode cX6_readInner 12 = .ok (.iload_n 2, 1) := by decide +kernel
theorem dX6_readInner_13 : decode cX6_readInner 13 = .ok (.bipush 41, 2) := by decide +kernel
theorem dX6_readInner_15 : decode cX6_readInner 15 = .ok (.if_icmp .ne 13, 3) := by decide +kernel
theorem dX6_readInner_18 : decode cX6_readInner 18 = .ok (.aload_n 0, 1) := by decide +kernel
theorem dX6_readInner_19 : decode cX6_readInner 19 = .ok (.iload_n 1, 1) := by decide +kernel
theorem dX6_readInner_20 : decode cX6_readInner 20 = .ok (.iconst 1, 1) := by decide +kernel
theorem dX6_readInner_21 : decode cX6_readInner 21 = .ok (.iadd, 1) := by decide +kernel
theorem dX6_readInner_22 : decode cX6_readInner 22 = .ok (.invokevirtual 89, 3) := by decide +kernel
theorem dX6_readInner_25 : decode cX6_readInner 25 = .ok (.goto 10, 3) := by decide +kernel
theorem dX6_readInner_28 : decode cX6_readInner 28 = .ok (.aload_n 0, 1) := by decide +kernel
theorem dX6_readInner_29 : decode cX6_readInner 29 = .ok (.iload_n 1, 1) := by decide +kernel
theorem dX6_readInner_30 : decode cX6_readInner 30 = .ok (.iconst 1, 1) := by decide +kernel
theorem dX6_readInner_31 : decode cX6_readInner 31 = .ok (.iadd, 1) := by decide +kernel
theorem dX6_readInner_32 : decode cX6_readInner 32 = .ok (.invokevirtual 83, 3) := by decide +kernel
theorem dX6_readInner_35 : decode cX6_readInner 35 = .ok (.istore_n 3, 1) := by decide +kernel
theorem dX6_readInner_36 : decode cX6_readInner 36 = .ok (.iload_n 3, 1) := by decide +kernel
theorem dX6_readInner_37 : decode cX6_readInner 37 = .ok (.ifCond .eq 11, 3) := by decide +kernel
theorem dX6_readInner_40 : decode cX6_readInner 40 = .ok (.aload_n 0, 1) := by decide +kernel
theorem dX6_readInner_41 : decode cX6_readInner 41 = .ok (.iload_n 2, 1) := by decide +kernel
theorem dX6_readInner_42 : decode cX6_readInner 42 = .ok (.invokevirtual 57, 3) := by decide +kernel
theorem dX6_readInner_45 : decode cX6_readInner 45 = .ok (.ifCond .ne 5, 3) := by decide +kernel
theorem dX6_readInner_48 : decode cX6_readInner 48 = .ok (.iconst 0, 1) := by decide +kernel
theorem dX6_readInner_49 : decode cX6_readInner 49 = .ok (.ireturn, 1) := by decide +kernel
theorem dX6_readInner_50 : decode cX6_readInner 50 = .ok (.aload_n 0, 1) := by decide +kernel
theorem dX6_readInner_51 : decode cX6_readInner 51 = .ok (.invokevirtual 50, 3) := by decide +kernel
theorem dX6_readInner_54 : decode cX6_readInner 54 = .ok (.iconst 1, 1) := by decide +kernel
theorem dX6_readInner_55 : decode cX6_readInner 55 = .ok (.ireturn, 1) := by decide +kernel
def fX6_readInner_b35 (N : Nat) (rX6_readInner : Int32 → Int32 → qMem → Option (Int32 × qMem)) (v2 : Int32) (u0 : Int32) (σ : qMem) : Option (Int32 × qMem) :=
  (if u0 = 0 then (some (0, σ)) else ((fX6_isSign v2 σ).bind fun y4 => (if y4 = 0 then (some (0, σ)) else ((fX6_move N σ).bind fun y5 => (some (1, y5))))))
set_option maxRecDepth 20000 in
set_option maxHeartbeats 4000000 in
theorem aX6_readInner_b35 (d : Nat) (N : Nat) (rX6_readInner : Int32 → Int32 → qMem → Option (Int32 × qMem)) (hX6_readInner : ∀ (p1 : Int32) (p2 : Int32)  (σ : qMem), qMc wC (mX6_readInner d) (ρi) [.ref 77, .int p1, .int p2] σ (rX6_readInner p1 p2 σ)) (v2 : Int32) (u0 : Int32) (σ : qMem) : qAt wC (mX6_readInner (d + 1)) (ρi) 35 [(0, .ref 77), (2, .int v2)] [.int u0] σ (fX6_readInner_b35 N rX6_readInner v2 u0 σ) := by
  unfold fX6_readInner_b35
  refine q_istore_n (i := 3) (L' := [(3, .int u0), (0, .ref 77), (2, .int v2)]) dX6_readInner_35 rfl (Nat.le_of_ble_eq_true rfl) rfl ?_
  refine q_iload_n (i := 3) (x := u0) dX6_readInner_36 rfl 0 rfl ?_
  refine q_if_eq (tgt := 48) dX6_readInner_37 (by decide) ?_ ?_
  · refine q_iconst (v := 0) dX6_readInner_48 (by decide) ?_
    exact q_iretz (y := (0, σ)) dX6_readInner_49 rfl rfl rfl
  refine q_aload_n (i := 0) (x := 77) dX6_readInner_40 rfl 1 rfl ?_
  refine q_iload_n (i := 2) (x := v2) dX6_readInner_41 rfl 2 rfl ?_
  refine q_cVp mX6_isSign [.int v2] (st := []) dX6_readInner_42 (svX6_57) (by unfold rR mX6_isSign mX6_readInner; constructor <;> dsimp only <;> omega) zC_77 rfl rfl rfl (Nat.le_of_ble_eq_true rfl) (kX6_isSign v2 σ) (fun y4 => ?_)
  refine q_if_ne (tgt := 50) dX6_readInner_45 (by decide) ?_ ?_
  · refine q_aload_n (i := 0) (x := 77) dX6_readInner_50 rfl 1 rfl ?_
    refine q_cVv mX6_move [] (st := []) dX6_readInner_51 (svX6_50) (by unfold rR mX6_move mX6_readInner; constructor <;> dsimp only <;> omega) zC_77 rfl rfl rfl (Nat.le_of_ble_eq_true rfl) (kX6_move N σ) (fun y5 => ?_)
    refine q_iconst (v := 1) dX6_readInner_54 (by decide) ?_
    exact q_iretz (y := (1, y5)) dX6_readInner_55 rfl rfl rfl
  refine q_iconst (v := 0) dX6_readInner_48 (by decide) ?_
  exact q_iretz (y := (0, σ)) dX6_readInner_49 rfl rfl rfl

def fX6_readInner_e (N : Nat) (rX6_readInner : Int32 → Int32 → qMem → Option (Int32 × qMem)) (p1 : Int32) (p2 : Int32) (σ : qMem) : Option (Int32 × qMem) :=
  (if p1 < 8 then ((fX6_move N σ).bind fun y1 => (if p2 = 41 then ((fX6_readTest N rX6_readInner (p1 + 1) y1).bind fun y3 => (fX6_readInner_b35 N rX6_readInner p2 y3.1 y3.2)) else ((fX6_readSum N rX6_readInner (p1 + 1) y1).bind fun y2 => (fX6_readInner_b35 N rX6_readInner p2 y2.1 y2.2)))) else (some (0, σ)))
set_option maxRecDepth 20000 in
set_option maxHeartbeats 4000000 in
theorem aX6_readInner_e (d : Nat) (N : Nat) (rX6_readInner : Int32 → Int32 → qMem → Option (Int32 × qMem)) (p1 : Int32) (p2 : Int32) (hX6_readInner : ∀ (p1 : Int32) (p2 : Int32)  (σ : qMem), qMc wC (mX6_readInner d) (ρi) [.ref 77, .int p1, .int p2] σ (rX6_readInner p1 p2 σ)) (σ : qMem) : qAt wC (mX6_readInner (d + 1)) (ρi) 0 [(0, .ref 77), (1, .int p1), (2, .int p2)] [] σ (fX6_readInner_e N rX6_readInner p1 p2 σ) := by
  unfold fX6_readInner_e
  refine q_iload_n (i := 1) (x := p1) dX6_readInner_0 rfl 1 rfl ?_
  refine q_bipush (v := 8) dX6_readInner_1 (by decide) ?_
  refine q_icmp_lt (tgt := 8) dX6_readInner_3 (by decide) ?_ ?_
  · refine q_aload_n (i := 0) (x := 77) dX6_readInner_8 rfl 0 rfl ?_
    refine q_cVv mX6_move [] (st := []) dX6_readInner_9 (svX6_50) (by unfold rR mX6_move mX6_readInner; constructor <;> dsimp only <;> omega) zC_77 rfl rfl rfl (Nat.le_of_ble_eq_true rfl) (kX6_move N σ) (fun y1 => ?_)
    refine q_iload_n (i := 2) (x := p2) dX6_readInner_12 rfl 2 rfl ?_
    refine q_bipush (v := 41) dX6_readInner_13 (by decide) ?_
    refine q_icmp_ne (tgt := 28) dX6_readInner_15 (by decide) ?_ ?_
    · refine q_aload_n (i := 0) (x := 77) dX6_readInner_28 rfl 0 rfl ?_
      refine q_iload_n (i := 1) (x := p1) dX6_readInner_29 rfl 1 rfl ?_
      refine q_iconst (v := 1) dX6_readInner_30 (by decide) ?_
      refine q_iadd dX6_readInner_31 ?_
      refine q_cVi (mX6_readSum d) [.int (p1 + 1)] (st := []) dX6_readInner_32 (svX6_83 _) (by unfold rR mX6_readInner mX6_readSum; constructor <;> dsimp only <;> omega) zC_77 rfl rfl rfl (Nat.le_of_ble_eq_true rfl) (kX6_readSum d N rX6_readInner (p1 + 1) hX6_readInner y1) (fun y2 => ?_)
      exact q_sub [0, 2] rfl (aX6_readInner_b35 d N rX6_readInner hX6_readInner p2 y2.1 y2.2)
    refine q_aload_n (i := 0) (x := 77) dX6_readInner_18 rfl 0 rfl ?_
    refine q_iload_n (i := 1) (x := p1) dX6_readInner_19 rfl 1 rfl ?_
    refine q_iconst (v := 1) dX6_readInner_20 (by decide) ?_
    refine q_iadd dX6_readInner_21 ?_
    refine q_cVi (mX6_readTest d) [.int (p1 + 1)] (st := []) dX6_readInner_22 (svX6_89 _) (by unfold rR mX6_readInner mX6_readTest; constructor <;> dsimp only <;> omega) zC_77 rfl rfl rfl (Nat.le_of_ble_eq_true rfl) (kX6_readTest d N rX6_readInner (p1 + 1) hX6_readInner y1) (fun y3 => ?_)
    refine q_goto (tgt := 35) dX6_readInner_25 (by decide) ?_
    exact q_sub [0, 2] rfl (aX6_readInner_b35 d N rX6_readInner hX6_readInner p2 y3.1 y3.2)
  refine q_iconst (v := 0) dX6_readInner_6 (by decide) ?_
  exact q_iretz (y := (0, σ)) dX6_readInner_7 rfl rfl rfl
def fX6_readInner (N : Nat) : Nat → Int32 → Int32 → qMem → Option (Int32 × qMem)
  | 0 => fun _ _ _ => none
  | d + 1 => fun p1 p2 σ => fX6_readInner_e N (fX6_readInner N d) p1 p2 σ
theorem kX6_readInner (N : Nat) : ∀ (d : Nat) (p1 : Int32) (p2 : Int32)  (σ : qMem), qMc wC (mX6_readInner d) (ρi) [.ref 77, .int p1, .int p2] σ (fX6_readInner N d p1 p2 σ) := by
  intro d
  induction d with
  | zero => intro p1 p2  σ; exact fun _ h => by cases h
  | succ d ih => intro p1 p2  σ; exact qMc_of (moX6_readInner _) (Nat.le_of_ble_eq_true rfl) (aX6_readInner_e d N (fX6_readInner N d) p1 p2 ih  σ)

theorem dX6_readClause_0 : decode cX6_readClause 0 = .ok (.aload_n 0, 1) := by decide +kernel
theorem dX6_readClause_1 : decode cX6_readClause 1 = .ok (.ldc 70, 2) := by decide +kernel
theorem dX6_readClause_3 : decode cX6_readClause 3 = .ok (.invokevirtual 72, 3) := by decide +kernel
theorem dX6_readClause_6 : decode cX6_readClause 6 = .ok (.ifCond .eq 7, 3) := by decide +kernel
theorem dX6_readClause_9 : decode cX6_readClause 9 = .ok (.iconst 0, 1) := by decide +kernel
theorem dX6_readClause_10 : decode cX6_readClause 10 = .ok (.goto 30, 3) := by decide +kernel
theorem dX6_readClause_13 : decode cX6_readClause 13 = .ok (.aload_n 0, 1) := by decide +kernel
theorem dX6_readClause_14 : decode cX6_readClause 14 = .ok (.ldc 76, 2) := by decide +kernel
theorem dX6_readClause_16 : decode cX6_readClause 16 = .ok (.invokevirtual 72, 3) := by decide +kernel
theorem dX6_readClause_19 : decode cX6_readClause 19 = .ok (.ifCond .eq 7, 3) := by decide +kernel
theorem dX6_readClause_22 : decode cX6_readClause 22 = .ok (.iconst 1, 1) := by decide +kernel
theorem dX6_readClause_23 : decode cX6_readClause 23 = .ok (.goto 17, 3) := by decide +kernel
theorem dX6_readClause_26 : decode cX6_readClause 26 = .ok (.aload_n 0, 1) := by decide +kernel
theorem dX6_readClause_27 : decode cX6_readClause 27 = .ok (.ldc 78, 2) := by decide +kernel
theorem dX6_readClause_29 : decode cX6_readClause 29 = .ok (.invokevirtual 72, 3) := by decide +kernel
theorem dX6_readClause_32 : decode cX6_readClause 32 = .ok (.ifCond .eq 7, 3) := by decide +kernel
theorem dX6_readClause_35 : decode cX6_readClause 35 = .ok (.iconst 2, 1) := by decide +kernel
theorem dX6_readClause_36 : decode cX6_readClause 36 = .ok (.goto 4, 3) := by decide +kernel
theorem dX6_readClause_39 : decode cX6_readClause 39 = .ok (.iconst (-1), 1) := by decide +kernel
theorem dX6_readClause_40 : decode cX6_readClause 40 = .ok (.istore_n 1, 1) := by decide +kernel
theorem dX6_readClause_41 : decode cX6_readClause 41 = .ok (.iload_n 1, 1) := by decide +kernel
theorem dX6_readClause_42 : decode cX6_readClause 42 = .ok (.iconst (-1), 1) := by decide +kernel
theorem dX6_readClause_43 : decode cX6_readClause 43 = .ok (.if_icmp .ne 5, 3) := by decide +kernel
theorem dX6_readClause_46 : decode cX6_readClause 46 = .ok (.iconst 0, 1) := by decide +kernel
theorem dX6_readClause_47 : decode cX6_readClause 47 = .ok (.ireturn, 1) := by decide +kernel
theorem dX6_readClause_48 : decode cX6_readClause 48 = .ok (.aload_n 0, 1) := by decide +kernel
theorem dX6_readClause_49 : decode cX6_readClause 49 = .ok (.invokevirtual 50, 3) := by decide +kernel
theorem dX6_readClause_52 : decode cX6_readClause 52 = .ok (.aload_n 0, 1) := by decide +kernel
theorem dX6_readClause_53 : decode cX6_readClause 53 = .ok (.getfield 12, 3) := by decide +kernel
theorem dX6_readClause_56 : decode cX6_readClause 56 = .ok (.getfield 80, 3) := by decide +kernel
theorem dX6_readClause_59 : decode cX6_readClause 59 = .ok (.istore_n 2, 1) := by decide +kernel
theorem dX6_readClause_60 : decode cX6_readClause 60 = .ok (.aload_n 0, 1) := by decide +kernel
theorem dX6_readClause_61 : decode cX6_readClause 61 = .ok (.iconst 0, 1) := by decide +kernel
theorem dX6_readClause_62 : decode cX6_readClause 62 = .ok (.invokevirtual 83, 3) := by decide +kernel
theorem dX6_readClause_65 : decode cX6_readClause 65 = .ok (.ifCond .ne 5, 3) := by decide +kernel
theorem dX6_readClause_68 : decode cX6_readClause 68 = .ok (.iconst 0, 1) := by decide +kernel
theorem dX6_readClause_69 : decode cX6_readClause 69 = .ok (.ireturn, 1) := by decide +kernel
theorem dX6_readClause_70 : decode cX6_readClause 70 = .ok (.aload_n 0, 1) := by decide +kernel
theorem dX6_readClause_71 : decode cX6_readClause 71 = .ok (.getfield 12, 3) := by decide +kernel
theorem dX6_readClause_74 : decode cX6_readClause 74 = .ok (.getfield 80, 3) := by decide +kernel
theorem dX6_readClause_77 : decode cX6_readClause 77 = .ok (.istore_n 3, 1) := by decide +kernel
theorem dX6_readClause_78 : decode cX6_readClause 78 = .ok (.aload_n 0, 1) := by decide +kernel
theorem dX6_readClause_79 : decode cX6_readClause 79 = .ok (.ldc 87, 2) := by decide +kernel
theorem dX6_readClause_81 : decode cX6_readClause 81 = .ok (.invokevirtual 72, 3) := by decide +kernel
theorem dX6_readClause_84 : decode cX6_readClause 84 = .ok (.ifCond .eq 17, 3) := by decide +kernel
theorem dX6_readClause_87 : decode cX6_readClause 87 = .ok (.aload_n 0, 1) := by decide +kernel
theorem dX6_readClause_88 : decode cX6_readClause 88 = .ok (.invokevirtual 50, 3) := by decide +kernel
theorem dX6_readClause_91 : decode cX6_readClause 91 = .ok (.aload_n 0, 1) := by decide +kernel
theorem dX6_readClause_92 : decode cX6_readClause 92 = .ok (.iconst 0, 1) := by decide +kernel
theorem dX6_readClause_93 : decode cX6_readClause 93 = .ok (.invokevirtual 89, 3) := by decide +kernel
theorem dX6_readClause_96 : decode cX6_readClause 96 = .ok (.ifCond .ne 5, 3) := by decide +kernel
theorem dX6_readClause_99 : decode cX6_readClause 99 = .ok (.iconst 0, 1) := by decide +kernel
theorem dX6_readClause_100 : decode cX6_readClause 100 = .ok (.ireturn, 1) := by decide +kernel
theorem dX6_readClause_101 : decode cX6_readClause 101 = .ok (.aload_n 0, 1) := by decide +kernel
theorem dX6_readClause_102 : decode cX6_readClause 102 = .ok (.getfield 12, 3) := by decide +kernel
theorem dX6_readClause_105 : decode cX6_readClause 105 = .ok (.getfield 61, 3) := by decide +kernel
theorem dX6_readClause_108 : decode cX6_readClause 108 = .ok (.iload_n 1, 1) := by decide +kernel
theorem dX6_readClause_109 : decode cX6_readClause 109 = .ok (.iload_n 2, 1) := by decide +kernel
theorem dX6_readClause_110 : decode cX6_readClause 110 = .ok (.iload_n 3, 1) := by decide +kernel
theorem dX6_readClause_111 : decode cX6_readClause 111 = .ok (.aload_n 0, 1) := by decide +kernel
theorem dX6_readClause_112 : decode cX6_readClause 112 = .ok (.getfield 12, 3) := by decide +kernel
theorem dX6_readClause_115 : decode cX6_readClause 115 = .ok (.getfield 80, 3) := by decide +kernel
theorem dX6_readClause_118 : decode cX6_readClause 118 = .ok (.iconst 0, 1) := by decide +kernel
theorem dX6_readClause_119 : decode cX6_readClause 119 = .ok (.invokevirtual 92, 3) := by decide +kernel
theorem dX6_readClause_122 : decode cX6_readClause 122 = .ok (.pop, 1) := by decide +kernel
theorem dX6_readClause_123 : decode cX6_readClause 123 = .ok (.iconst 1, 1) := by decide +kernel
theorem dX6_readClause_124 : decode cX6_readClause 124 = .ok (.ireturn, 1) := by decide +kernel
def fX6_readClause_b101 (N : Nat) (v1 : Int32) (v2 : Int32) (v3 : Int32) (σ : qMem) : Option (Int32 × qMem) :=
  ((fX8_add 79 48 v1 v2 v3 (gi σ 78 5) 0 σ).bind fun y9 => (some (1, y9.2)))
set_option maxRecDepth 20000 in
set_option maxHeartbeats 4000000 in
theorem aX6_readClause_b101 (N : Nat) (v1 : Int32) (v2 : Int32) (v3 : Int32) (σ : qMem) : qAt wC mX6_readClause (ρi) 101 [(0, .ref 77), (1, .int v1), (2, .int v2), (3, .int v3)] [] σ (fX6_readClause_b101 N v1 v2 v3 σ) := by
  unfold fX6_readClause_b101
  refine q_aload_n (i := 0) (x := 77) dX6_readClause_101 rfl 0 rfl ?_
  refine q_getr (t := 78) dX6_readClause_102 foX6_12 zC_77 rfl ?_
  refine q_getr (t := 79) dX6_readClause_105 foX6_61 zC_78 rfl ?_
  refine q_iload_n (i := 1) (x := v1) dX6_readClause_108 rfl 1 rfl ?_
  refine q_iload_n (i := 2) (x := v2) dX6_readClause_109 rfl 2 rfl ?_
  refine q_iload_n (i := 3) (x := v3) dX6_readClause_110 rfl 3 rfl ?_
  refine q_aload_n (i := 0) (x := 77) dX6_readClause_111 rfl 0 rfl ?_
  refine q_getr (t := 78) dX6_readClause_112 foX6_12 zC_77 rfl ?_
  refine q_geti dX6_readClause_115 foX6_80 zC_78 rfl ?_
  refine q_iconst (v := 0) dX6_readClause_118 (by decide) ?_
  refine q_cVi mX8_add [.int v1, .int v2, .int v3, .int (gi σ 78 5), .int 0] (st := []) dX6_readClause_119 (svX6_92) ⟨Nat.le_of_ble_eq_true rfl, Nat.le_of_ble_eq_true rfl⟩ zC_79 rfl rfl rfl (Nat.le_of_ble_eq_true rfl) (kX8_add 79 48 v1 v2 v3 (gi σ 78 5) 0 pC_79 σ) (fun y9 => ?_)
  refine q_pop dX6_readClause_122 rfl ?_
  refine q_iconst (v := 1) dX6_readClause_123 (by decide) ?_
  exact q_iretz (y := (1, y9.2)) dX6_readClause_124 rfl rfl rfl

def fX6_readClause_b40 (N : Nat) (u0 : Int32) (σ : qMem) : Option (Int32 × qMem) :=
  (if u0 = (-1) then (some (0, σ)) else ((fX6_move N σ).bind fun y4 => ((fX6_readSum N (fX6_readInner N 10) 0 y4).bind fun y5 => (if y5.1 = 0 then (some (0, y5.2)) else ((fX6_isWord 3 y5.2).bind fun y6 => (if y6 = 0 then (fX6_readClause_b101 N u0 (gi y4 78 5) (gi y5.2 78 5) y5.2) else ((fX6_move N y5.2).bind fun y7 => ((fX6_readTest N (fX6_readInner N 10) 0 y7).bind fun y8 => (if y8.1 = 0 then (some (0, y8.2)) else (fX6_readClause_b101 N u0 (gi y4 78 5) (gi y5.2 78 5) y8.2))))))))))
set_option maxRecDepth 20000 in
set_option maxHeartbeats 4000000 in
theorem aX6_readClause_b40 (N : Nat) (u0 : Int32) (σ : qMem) : qAt wC mX6_readClause (ρi) 40 [(0, .ref 77)] [.int u0] σ (fX6_readClause_b40 N u0 σ) := by
  unfold fX6_readClause_b40
  refine q_istore_n (i := 1) (L' := [(1, .int u0), (0, .ref 77)]) dX6_readClause_40 rfl (Nat.le_of_ble_eq_true rfl) rfl ?_
  refine q_iload_n (i := 1) (x := u0) dX6_readClause_41 rfl 0 rfl ?_
  refine q_iconst (v := (-1)) dX6_readClause_42 (by decide) ?_
  refine q_icmp_ne (tgt := 48) dX6_readClause_43 (by decide) ?_ ?_
  · refine q_aload_n (i := 0) (x := 77) dX6_readClause_48 rfl 1 rfl ?_
    refine q_cVv mX6_move [] (st := []) dX6_readClause_49 (svX6_50) ⟨Nat.le_of_ble_eq_true rfl, Nat.le_of_ble_eq_true rfl⟩ zC_77 rfl rfl rfl (Nat.le_of_ble_eq_true rfl) (kX6_move N σ) (fun y4 => ?_)
    refine q_aload_n (i := 0) (x := 77) dX6_readClause_52 rfl 1 rfl ?_
    refine q_getr (t := 78) dX6_readClause_53 foX6_12 zC_77 rfl ?_
    refine q_geti dX6_readClause_56 foX6_80 zC_78 rfl ?_
    refine q_istore_n (i := 2) (L' := [(2, .int (gi y4 78 5)), (1, .int u0), (0, .ref 77)]) dX6_readClause_59 rfl (Nat.le_of_ble_eq_true rfl) rfl ?_
    refine q_aload_n (i := 0) (x := 77) dX6_readClause_60 rfl 2 rfl ?_
    refine q_iconst (v := 0) dX6_readClause_61 (by decide) ?_
    refine q_cVi (mX6_readSum 10) [.int 0] (st := []) dX6_readClause_62 (svX6_83 _) (by unfold rR mX6_readClause mX6_readSum; constructor <;> dsimp only <;> omega) zC_77 rfl rfl rfl (Nat.le_of_ble_eq_true rfl) (kX6_readSum 10 N (fX6_readInner N 10) 0 (kX6_readInner N 10) y4) (fun y5 => ?_)
    refine q_if_ne (tgt := 70) dX6_readClause_65 (by decide) ?_ ?_
    · refine q_aload_n (i := 0) (x := 77) dX6_readClause_70 rfl 2 rfl ?_
      refine q_getr (t := 78) dX6_readClause_71 foX6_12 zC_77 rfl ?_
      refine q_geti dX6_readClause_74 foX6_80 zC_78 rfl ?_
      refine q_istore_n (i := 3) (L' := [(3, .int (gi y5.2 78 5)), (2, .int (gi y4 78 5)), (1, .int u0), (0, .ref 77)]) dX6_readClause_77 rfl (Nat.le_of_ble_eq_true rfl) rfl ?_
      refine q_aload_n (i := 0) (x := 77) dX6_readClause_78 rfl 3 rfl ?_
      refine q_ldcS 3 rfl rfl dX6_readClause_79 rfl ?_
      refine q_cVp mX6_isWord [.ref 1013] (st := []) dX6_readClause_81 (svX6_72) ⟨Nat.le_of_ble_eq_true rfl, Nat.le_of_ble_eq_true rfl⟩ zC_77 rfl rfl rfl (Nat.le_of_ble_eq_true rfl) (kX6_isWord 3 (by decide) y5.2) (fun y6 => ?_)
      refine q_if_eq (tgt := 101) dX6_readClause_84 (by decide) ?_ ?_
      · exact q_sub [3, 2, 1, 0] rfl (aX6_readClause_b101 N u0 (gi y4 78 5) (gi y5.2 78 5) y5.2)
      refine q_aload_n (i := 0) (x := 77) dX6_readClause_87 rfl 3 rfl ?_
      refine q_cVv mX6_move [] (st := []) dX6_readClause_88 (svX6_50) ⟨Nat.le_of_ble_eq_true rfl, Nat.le_of_ble_eq_true rfl⟩ zC_77 rfl rfl rfl (Nat.le_of_ble_eq_true rfl) (kX6_move N y5.2) (fun y7 => ?_)
      refine q_aload_n (i := 0) (x := 77) dX6_readClause_91 rfl 3 rfl ?_
      refine q_iconst (v := 0) dX6_readClause_92 (by decide) ?_
      refine q_cVi (mX6_readTest 10) [.int 0] (st := []) dX6_readClause_93 (svX6_89 _) (by unfold rR mX6_readClause mX6_readTest; constructor <;> dsimp only <;> omega) zC_77 rfl rfl rfl (Nat.le_of_ble_eq_true rfl) (kX6_readTest 10 N (fX6_readInner N 10) 0 (kX6_readInner N 10) y7) (fun y8 => ?_)
      refine q_if_ne (tgt := 101) dX6_readClause_96 (by decide) ?_ ?_
      · exact q_sub [3, 2, 1, 0] rfl (aX6_readClause_b101 N u0 (gi y4 78 5) (gi y5.2 78 5) y8.2)
      refine q_iconst (v := 0) dX6_readClause_99 (by decide) ?_
      exact q_iretz (y := (0, y8.2)) dX6_readClause_100 rfl rfl rfl
    refine q_iconst (v := 0) dX6_readClause_68 (by decide) ?_
    exact q_iretz (y := (0, y5.2)) dX6_readClause_69 rfl rfl rfl
  refine q_iconst (v := 0) dX6_readClause_46 (by decide) ?_
  exact q_iretz (y := (0, σ)) dX6_readClause_47 rfl rfl rfl

def fX6_readClause (N : Nat)  (σ : qMem) : Option (Int32 × qMem) :=
  ((fX6_isWord 0 σ).bind fun y1 => (if y1 = 0 then ((fX6_isWord 1 σ).bind fun y2 => (if y2 = 0 then ((fX6_isWord 2 σ).bind fun y3 => (if y3 = 0 then (fX6_readClause_b40 N (-1) σ) else (fX6_readClause_b40 N 2 σ))) else (fX6_readClause_b40 N 1 σ))) else (fX6_readClause_b40 N 0 σ)))
set_option maxRecDepth 20000 in
set_option maxHeartbeats 4000000 in
theorem aX6_readClause  (N : Nat)   (σ : qMem) : qAt wC mX6_readClause (ρi) 0 [(0, .ref 77)] [] σ (fX6_readClause N σ) := by
  unfold fX6_readClause
  refine q_aload_n (i := 0) (x := 77) dX6_readClause_0 rfl 0 rfl ?_
  refine q_ldcS 0 rfl rfl dX6_readClause_1 rfl ?_
  refine q_cVp mX6_isWord [.ref 1010] (st := []) dX6_readClause_3 (svX6_72) ⟨Nat.le_of_ble_eq_true rfl, Nat.le_of_ble_eq_true rfl⟩ zC_77 rfl rfl rfl (Nat.le_of_ble_eq_true rfl) (kX6_isWord 0 (by decide) σ) (fun y1 => ?_)
  refine q_if_eq (tgt := 13) dX6_readClause_6 (by decide) ?_ ?_
  · refine q_aload_n (i := 0) (x := 77) dX6_readClause_13 rfl 0 rfl ?_
    refine q_ldcS 1 rfl rfl dX6_readClause_14 rfl ?_
    refine q_cVp mX6_isWord [.ref 1011] (st := []) dX6_readClause_16 (svX6_72) ⟨Nat.le_of_ble_eq_true rfl, Nat.le_of_ble_eq_true rfl⟩ zC_77 rfl rfl rfl (Nat.le_of_ble_eq_true rfl) (kX6_isWord 1 (by decide) σ) (fun y2 => ?_)
    refine q_if_eq (tgt := 26) dX6_readClause_19 (by decide) ?_ ?_
    · refine q_aload_n (i := 0) (x := 77) dX6_readClause_26 rfl 0 rfl ?_
      refine q_ldcS 2 rfl rfl dX6_readClause_27 rfl ?_
      refine q_cVp mX6_isWord [.ref 1012] (st := []) dX6_readClause_29 (svX6_72) ⟨Nat.le_of_ble_eq_true rfl, Nat.le_of_ble_eq_true rfl⟩ zC_77 rfl rfl rfl (Nat.le_of_ble_eq_true rfl) (kX6_isWord 2 (by decide) σ) (fun y3 => ?_)
      refine q_if_eq (tgt := 39) dX6_readClause_32 (by decide) ?_ ?_
      · refine q_iconst (v := (-1)) dX6_readClause_39 (by decide) ?_
        exact q_sub [0] rfl (aX6_readClause_b40 N (-1) σ)
      refine q_iconst (v := 2) dX6_readClause_35 (by decide) ?_
      refine q_goto (tgt := 40) dX6_readClause_36 (by decide) ?_
      exact q_sub [0] rfl (aX6_readClause_b40 N 2 σ)
    refine q_iconst (v := 1) dX6_readClause_22 (by decide) ?_
    refine q_goto (tgt := 40) dX6_readClause_23 (by decide) ?_
    exact q_sub [0] rfl (aX6_readClause_b40 N 1 σ)
  refine q_iconst (v := 0) dX6_readClause_9 (by decide) ?_
  refine q_goto (tgt := 40) dX6_readClause_10 (by decide) ?_
  exact q_sub [0] rfl (aX6_readClause_b40 N 0 σ)
theorem kX6_readClause  (N : Nat)   (σ : qMem) : qMc wC mX6_readClause (ρi) [.ref 77] σ (fX6_readClause N σ) := qMc_of (moX6_readClause) (Nat.le_of_ble_eq_true rfl) (aX6_readClause N  σ)

theorem dX6_read_0 : decode cX6_read 0 = .ok (.aload_n 0, 1) := by decide +kernel
theorem dX6_read_1 : decode cX6_read 1 = .ok (.aload_n 1, 1) := by decide +kernel
theorem dX6_read_2 : decode cX6_read 2 = .ok (.putfield 18, 3) := by decide +kernel
theorem dX6_read_5 : decode cX6_read 5 = .ok (.aload_n 0, 1) := by decide +kernel
theorem dX6_read_6 : decode cX6_read 6 = .ok (.iconst 0, 1) := by decide +kernel
theorem dX6_read_7 : decode cX6_read 7 = .ok (.iload_n 2, 1) := by decide +kernel
theorem dX6_read_8 : decode cX6_read 8 = .ok (.aload_n 1, 1) := by decide +kernel
theorem dX6_read_9 : decode cX6_read 9 = .ok (.arraylength, 1) := by decide +kernel
theorem dX6_read_10 : decode cX6_read 10 = .ok (.invokestatic 38, 3) := by decide +kernel
theorem dX6_read_13 : decode cX6_read 13 = .ok (.invokestatic 44, 3) := by decide +kernel
theorem dX6_read_16 : decode cX6_read 16 = .ok (.putfield 22, 3) := by decide +kernel
theorem dX6_read_19 : decode cX6_read 19 = .ok (.aload_n 0, 1) := by decide +kernel
theorem dX6_read_20 : decode cX6_read 20 = .ok (.iconst 0, 1) := by decide +kernel
theorem dX6_read_21 : decode cX6_read 21 = .ok (.putfield 32, 3) := by decide +kernel
theorem dX6_read_24 : decode cX6_read 24 = .ok (.aload_n 0, 1) := by decide +kernel
theorem dX6_read_25 : decode cX6_read 25 = .ok (.iconst 0, 1) := by decide +kernel
theorem dX6_read_26 : decode cX6_read 26 = .ok (.putfield 35, 3) := by decide +kernel
theorem dX6_read_29 : decode cX6_read 29 = .ok (.aload_n 0, 1) := by decide +kernel
theorem dX6_read_30 : decode cX6_read 30 = .ok (.getfield 12, 3) := by decide +kernel
theorem dX6_read_33 : decode cX6_read 33 = .ok (.invokevirtual 47, 3) := by decide +kernel
theorem dX6_read_36 : decode cX6_read 36 = .ok (.aload_n 0, 1) := by decide +kernel
theorem dX6_read_37 : decode cX6_read 37 = .ok (.invokevirtual 50, 3) := by decide +kernel
theorem dX6_read_40 : decode cX6_read 40 = .ok (.aload_n 0, 1) := by decide +kernel
theorem dX6_read_41 : decode cX6_read 41 = .ok (.invokevirtual 53, 3) := by decide +kernel
theorem dX6_read_44 : decode cX6_read 44 = .ok (.ifCond .ne 8, 3) := by decide +kernel
theorem dX6_read_47 : decode cX6_read 47 = .ok (.aload_n 0, 1) := by decide +kernel
theorem dX6_read_48 : decode cX6_read 48 = .ok (.getfield 29, 3) := by decide +kernel
theorem dX6_read_51 : decode cX6_read 51 = .ok (.ireturn, 1) := by decide +kernel
theorem dX6_read_52 : decode cX6_read 52 = .ok (.iconst 0, 1) := by decide +kernel
theorem dX6_read_53 : decode cX6_read 53 = .ok (.istore_n 3, 1) := by decide +kernel
theorem dX6_read_54 : decode cX6_read 54 = .ok (.iload_n 3, 1) := by decide +kernel
theorem dX6_read_55 : decode cX6_read 55 = .ok (.aload_n 0, 1) := by decide +kernel
theorem dX6_read_56 : decode cX6_read 56 = .ok (.getfield 22, 3) := by decide +kernel
theorem dX6_read_59 : decode cX6_read 59 = .ok (.if_icmp .ge 47, 3) := by decide +kernel
theorem dX6_read_62 : decode cX6_read 62 = .ok (.aload_n 0, 1) := by decide +kernel
theorem dX6_read_63 : decode cX6_read 63 = .ok (.bipush 59, 2) := by decide +kernel
theorem dX6_read_65 : decode cX6_read 65 = .ok (.invokevirtual 57, 3) := by decide +kernel
theorem dX6_read_68 : decode cX6_read 68 = .ok (.ifCond .eq 38, 3) := by decide +kernel
theorem dX6_read_71 : decode cX6_read 71 = .ok (.aload_n 0, 1) := by decide +kernel
theorem dX6_read_72 : decode cX6_read 72 = .ok (.invokevirtual 50, 3) := by decide +kernel
theorem dX6_read_75 : decode cX6_read 75 = .ok (.aload_n 0, 1) := by decide +kernel
theorem dX6_read_76 : decode cX6_read 76 = .ok (.getfield 12, 3) := by decide +kernel
theorem dX6_read_79 : decode cX6_read 79 = .ok (.getfield 61, 3) := by decide +kernel
theorem dX6_read_82 : decode cX6_read 82 = .ok (.invokevirtual 65, 3) := by decide +kernel
theorem dX6_read_85 : decode cX6_read 85 = .ok (.ifCond .ne 10, 3) := by decide +kernel
theorem dX6_read_88 : decode cX6_read 88 = .ok (.aload_n 0, 1) := by decide +kernel
theorem dX6_read_89 : decode cX6_read 89 = .ok (.invokevirtual 53, 3) := by decide +kernel
theorem dX6_read_92 : decode cX6_read 92 = .ok (.ifCond .ne 8, 3) := by decide +kernel
theorem dX6_read_95 : decode cX6_read 95 = .ok (.aload_n 0, 1) := by decide +kernel
theorem dX6_read_96 : decode cX6_read 96 = .ok (.getfield 29, 3) := by decide +kernel
theorem dX6_read_99 : decode cX6_read 99 = .ok (.ireturn, 1) := by decide +kernel
theorem dX6_read_100 : decode cX6_read 100 = .ok (.iinc 3 1, 3) := by decide +kernel
theorem dX6_read_103 : decode cX6_read 103 = .ok (.goto (-49), 3) := by decide +kernel
theorem dX6_read_106 : decode cX6_read 106 = .ok (.aload_n 0, 1) := by decide +kernel
theorem dX6_read_107 : decode cX6_read 107 = .ok (.getfield 26, 3) := by decide +kernel
theorem dX6_read_110 : decode cX6_read 110 = .ok (.iconst 3, 1) := by decide +kernel
theorem dX6_read_111 : decode cX6_read 111 = .ok (.if_icmp .ne 7, 3) := by decide +kernel
theorem dX6_read_114 : decode cX6_read 114 = .ok (.iconst (-1), 1) := by decide +kernel
theorem dX6_read_115 : decode cX6_read 115 = .ok (.goto 7, 3) := by decide +kernel
theorem dX6_read_118 : decode cX6_read 118 = .ok (.aload_n 0, 1) := by decide +kernel
theorem dX6_read_119 : decode cX6_read 119 = .ok (.getfield 29, 3) := by decide +kernel
theorem dX6_read_122 : decode cX6_read 122 = .ok (.ireturn, 1) := by decide +kernel
def fX6_read_b106 (N : Nat) (σ : qMem) : Option (Int32 × qMem) :=
  (if (gi σ 77 3) = 3 then (some ((-1), σ)) else (some ((gi σ 77 4), σ)))
set_option maxRecDepth 20000 in
set_option maxHeartbeats 4000000 in
theorem aX6_read_b106 (N : Nat) (σ : qMem) : qAt wC mX6_read (ρi) 106 [(0, .ref 77)] [] σ (fX6_read_b106 N σ) := by
  unfold fX6_read_b106
  refine q_aload_n (i := 0) (x := 77) dX6_read_106 rfl 0 rfl ?_
  refine q_geti dX6_read_107 foX6_26 zC_77 rfl ?_
  refine q_iconst (v := 3) dX6_read_110 (by decide) ?_
  refine q_icmp_ne (tgt := 118) dX6_read_111 (by decide) ?_ ?_
  · refine q_aload_n (i := 0) (x := 77) dX6_read_118 rfl 0 rfl ?_
    refine q_geti dX6_read_119 foX6_29 zC_77 rfl ?_
    exact q_ireti (y := ((gi σ 77 4), σ)) dX6_read_122 rfl rfl
  refine q_iconst (v := (-1)) dX6_read_114 (by decide) ?_
  refine q_goto (tgt := 122) dX6_read_115 (by decide) ?_
  exact q_ireti (y := ((-1), σ)) dX6_read_122 rfl rfl

def fX6_read_s54 (N : Nat) (c54 : Int32 → qMem → Option (Int32 × qMem)) (v3 : Int32) (σ : qMem) : Option (Int32 × qMem) :=
  (if (gi σ 77 2) ≤ v3 then (fX6_read_b106 N σ) else ((fX6_isSign 59 σ).bind fun y10 => (if y10 = 0 then (fX6_read_b106 N σ) else ((fX6_move N σ).bind fun y11 => ((fX8_isFull 79 48 y11).bind fun y12 => (if y12 = 0 then ((fX6_readClause N y11).bind fun y13 => (if y13.1 = 0 then (some ((gi y13.2 77 4), y13.2)) else (c54 (v3 + 1) y13.2))) else (some ((gi y11 77 4), y11))))))))
set_option maxRecDepth 20000 in
set_option maxHeartbeats 4000000 in
theorem aX6_read_s54 (N : Nat) (c54 : Int32 → qMem → Option (Int32 × qMem)) (hc54 : ∀ (v3 : Int32) (σ : qMem), qAt wC mX6_read (ρi) 54 [(0, .ref 77), (3, .int v3)] [] σ (c54 v3 σ)) (v3 : Int32) (σ : qMem) : qAt wC mX6_read (ρi) 54 [(0, .ref 77), (3, .int v3)] [] σ (fX6_read_s54 N c54 v3 σ) := by
  unfold fX6_read_s54
  refine q_iload_n (i := 3) (x := v3) dX6_read_54 rfl 1 rfl ?_
  refine q_aload_n (i := 0) (x := 77) dX6_read_55 rfl 0 rfl ?_
  refine q_geti dX6_read_56 foX6_22 zC_77 rfl ?_
  refine q_icmp_ge (tgt := 106) dX6_read_59 (by decide) ?_ ?_
  · exact q_sub [0] rfl (aX6_read_b106 N σ)
  refine q_aload_n (i := 0) (x := 77) dX6_read_62 rfl 0 rfl ?_
  refine q_bipush (v := 59) dX6_read_63 (by decide) ?_
  refine q_cVp mX6_isSign [.int 59] (st := []) dX6_read_65 (svX6_57) ⟨Nat.le_of_ble_eq_true rfl, Nat.le_of_ble_eq_true rfl⟩ zC_77 rfl rfl rfl (Nat.le_of_ble_eq_true rfl) (kX6_isSign 59 σ) (fun y10 => ?_)
  refine q_if_eq (tgt := 106) dX6_read_68 (by decide) ?_ ?_
  · exact q_sub [0] rfl (aX6_read_b106 N σ)
  refine q_aload_n (i := 0) (x := 77) dX6_read_71 rfl 0 rfl ?_
  refine q_cVv mX6_move [] (st := []) dX6_read_72 (svX6_50) ⟨Nat.le_of_ble_eq_true rfl, Nat.le_of_ble_eq_true rfl⟩ zC_77 rfl rfl rfl (Nat.le_of_ble_eq_true rfl) (kX6_move N σ) (fun y11 => ?_)
  refine q_aload_n (i := 0) (x := 77) dX6_read_75 rfl 0 rfl ?_
  refine q_getr (t := 78) dX6_read_76 foX6_12 zC_77 rfl ?_
  refine q_getr (t := 79) dX6_read_79 foX6_61 zC_78 rfl ?_
  refine q_cVp mX8_isFull [] (st := []) dX6_read_82 (svX6_65) ⟨Nat.le_of_ble_eq_true rfl, Nat.le_of_ble_eq_true rfl⟩ zC_79 rfl rfl rfl (Nat.le_of_ble_eq_true rfl) (kX8_isFull 79 48 pC_79 y11) (fun y12 => ?_)
  refine q_if_ne (tgt := 95) dX6_read_85 (by decide) ?_ ?_
  · refine q_aload_n (i := 0) (x := 77) dX6_read_95 rfl 0 rfl ?_
    refine q_geti dX6_read_96 foX6_29 zC_77 rfl ?_
    exact q_ireti (y := ((gi y11 77 4), y11)) dX6_read_99 rfl rfl
  refine q_aload_n (i := 0) (x := 77) dX6_read_88 rfl 0 rfl ?_
  refine q_cVi mX6_readClause [] (st := []) dX6_read_89 (svX6_53) ⟨Nat.le_of_ble_eq_true rfl, Nat.le_of_ble_eq_true rfl⟩ zC_77 rfl rfl rfl (Nat.le_of_ble_eq_true rfl) (kX6_readClause N y11) (fun y13 => ?_)
  refine q_if_ne (tgt := 100) dX6_read_92 (by decide) ?_ ?_
  · refine q_iinc (i := 3) (x := v3) (v := (v3 + 1)) (L' := [(3, .int (v3 + 1)), (0, .ref 77)]) dX6_read_100 1 rfl (q_cst v3 (by decide)) (Nat.le_of_ble_eq_true rfl) rfl ?_
    refine q_goto (tgt := 54) dX6_read_103 (by decide) ?_
    exact q_sub [1, 0] rfl (hc54 (v3 + 1) y13.2)
  refine q_aload_n (i := 0) (x := 77) dX6_read_95 rfl 0 rfl ?_
  refine q_geti dX6_read_96 foX6_29 zC_77 rfl ?_
  exact q_ireti (y := ((gi y13.2 77 4), y13.2)) dX6_read_99 rfl rfl
def fX6_read_l54 (N : Nat) : Nat → Int32 → qMem → Option (Int32 × qMem)
  | 0 => fun _ _ => none
  | n + 1 => fun v3 σ => fX6_read_s54 N (fX6_read_l54 N n) v3 σ
theorem aX6_read_l54 (N : Nat) : ∀ (n : Nat) (v3 : Int32) (σ : qMem), qAt wC mX6_read (ρi) 54 [(0, .ref 77), (3, .int v3)] [] σ (fX6_read_l54 N n v3 σ) := by
  intro n
  induction n with
  | zero => intro v3 σ; exact q_none
  | succ n ih => intro v3 σ; exact aX6_read_s54 N (fX6_read_l54 N n) ih v3 σ

def fX6_read (N : Nat) (p2 : Int32) (σ : qMem) : Option (Int32 × qMem) :=
  (nmM (si σ 77 1 86) fun s1 => ((fJ9_min_7cf53 p2 400).bind fun y2 => ((fJ9_max_7cf53 0 y2).bind fun y3 => (nmM (si s1 77 2 y3) fun s4 => (nmM (si s4 77 5 0) fun s5 => (nmM (si s5 77 6 0) fun s6 => ((fX5_clear 78 s6).bind fun y7 => ((fX6_move N y7).bind fun y8 => ((fX6_readClause N y8).bind fun y9 => (if y9.1 = 0 then (some ((gi y9.2 77 4), y9.2)) else (fX6_read_l54 N N 0 y9.2)))))))))))
set_option maxRecDepth 20000 in
set_option maxHeartbeats 4000000 in
theorem aX6_read  (N : Nat) (p2 : Int32)  (σ : qMem) : qAt wC mX6_read (ρi) 0 [(0, .ref 77), (1, .ref 86), (2, .int p2)] [] σ (fX6_read N p2 σ) := by
  unfold fX6_read
  refine q_aload_n (i := 0) (x := 77) dX6_read_0 rfl 0 rfl ?_
  refine q_aload_n (i := 1) (x := 86) dX6_read_1 rfl 1 rfl ?_
  refine q_putd (x := 86) dX6_read_2 foX6_18 fwX6_1 zC_77 rfl (by decide) ?_
  refine q_nmM (fun s1 => ?_)
  refine q_aload_n (i := 0) (x := 77) dX6_read_5 rfl 0 rfl ?_
  refine q_iconst (v := 0) dX6_read_6 (by decide) ?_
  refine q_iload_n (i := 2) (x := p2) dX6_read_7 rfl 2 rfl ?_
  refine q_aload_n (i := 1) (x := 86) dX6_read_8 rfl 1 rfl ?_
  refine q_alen (t0 := 0) (v := 400) dX6_read_9 zC_86 (fun _ => rfl) (by decide) ?_
  refine q_cSp mJ9_min_7cf53 [.int p2, .int 400] (st := [.int 0, .ref 77]) dX6_read_10 (ssX6_38) ⟨Nat.le_of_ble_eq_true rfl, Nat.le_of_ble_eq_true rfl⟩ rfl rfl (Nat.le_of_ble_eq_true rfl) (kJ9_min_7cf53 p2 400 s1) (fun y2 => ?_)
  refine q_cSp mJ9_max_7cf53 [.int 0, .int y2] (st := [.ref 77]) dX6_read_13 (ssX6_44) ⟨Nat.le_of_ble_eq_true rfl, Nat.le_of_ble_eq_true rfl⟩ rfl rfl (Nat.le_of_ble_eq_true rfl) (kJ9_max_7cf53 0 y2 s1) (fun y3 => ?_)
  refine q_puti dX6_read_16 foX6_22 fwX6_2 zC_77 rfl ?_
  refine q_nmM (fun s4 => ?_)
  refine q_aload_n (i := 0) (x := 77) dX6_read_19 rfl 0 rfl ?_
  refine q_iconst (v := 0) dX6_read_20 (by decide) ?_
  refine q_puti dX6_read_21 foX6_32 fwX6_5 zC_77 rfl ?_
  refine q_nmM (fun s5 => ?_)
  refine q_aload_n (i := 0) (x := 77) dX6_read_24 rfl 0 rfl ?_
  refine q_iconst (v := 0) dX6_read_25 (by decide) ?_
  refine q_puti dX6_read_26 foX6_35 fwX6_6 zC_77 rfl ?_
  refine q_nmM (fun s6 => ?_)
  refine q_aload_n (i := 0) (x := 77) dX6_read_29 rfl 0 rfl ?_
  refine q_getr (t := 78) dX6_read_30 foX6_12 zC_77 rfl ?_
  refine q_cVv mX5_clear [] (st := []) dX6_read_33 (svX6_47) ⟨Nat.le_of_ble_eq_true rfl, Nat.le_of_ble_eq_true rfl⟩ zC_78 rfl rfl rfl (Nat.le_of_ble_eq_true rfl) (kX5_clear 78 pC_78 s6) (fun y7 => ?_)
  refine q_aload_n (i := 0) (x := 77) dX6_read_36 rfl 0 rfl ?_
  refine q_cVv mX6_move [] (st := []) dX6_read_37 (svX6_50) ⟨Nat.le_of_ble_eq_true rfl, Nat.le_of_ble_eq_true rfl⟩ zC_77 rfl rfl rfl (Nat.le_of_ble_eq_true rfl) (kX6_move N y7) (fun y8 => ?_)
  refine q_aload_n (i := 0) (x := 77) dX6_read_40 rfl 0 rfl ?_
  refine q_cVi mX6_readClause [] (st := []) dX6_read_41 (svX6_53) ⟨Nat.le_of_ble_eq_true rfl, Nat.le_of_ble_eq_true rfl⟩ zC_77 rfl rfl rfl (Nat.le_of_ble_eq_true rfl) (kX6_readClause N y8) (fun y9 => ?_)
  refine q_if_ne (tgt := 52) dX6_read_44 (by decide) ?_ ?_
  · refine q_iconst (v := 0) dX6_read_52 (by decide) ?_
    refine q_istore_n (i := 3) (L' := [(3, .int 0), (0, .ref 77), (1, .ref 86), (2, .int p2)]) dX6_read_53 rfl (Nat.le_of_ble_eq_true rfl) rfl ?_
    exact q_sub [1, 0] rfl (aX6_read_l54 N N 0 y9.2)
  refine q_aload_n (i := 0) (x := 77) dX6_read_47 rfl 0 rfl ?_
  refine q_geti dX6_read_48 foX6_29 zC_77 rfl ?_
  exact q_ireti (y := ((gi y9.2 77 4), y9.2)) dX6_read_51 rfl rfl
theorem kX6_read  (N : Nat) (p2 : Int32)  (σ : qMem) : qMc wC mX6_read (ρi) [.ref 77, .ref 86, .int p2] σ (fX6_read N p2 σ) := qMc_of (moX6_read) (Nat.le_of_ble_eq_true rfl) (aX6_read N p2  σ)

theorem dX9_forget_0 : decode cX9_forget 0 = .ok (.aload_n 0, 1) := by decide +kernel
theorem dX9_forget_1 : decode cX9_forget 1 = .ok (.iconst 0, 1) := by decide +kernel
theorem dX9_forget_2 : decode cX9_forget 2 = .ok (.putfield 31, 3) := by decide +kernel
theorem dX9_forget_5 : decode cX9_forget 5 = .ok (.return_, 1) := by decide +kernel

def fX9_forget  (σ : qMem) : Option qMem :=
  (nmM (si σ 68 8 0) fun s1 => (some s1))
set_option maxRecDepth 20000 in
set_option maxHeartbeats 4000000 in
theorem aX9_forget    (σ : qMem) : qAt wC mX9_forget (ρv) 0 [(0, .ref 68)] [] σ (fX9_forget σ) := by
  unfold fX9_forget
  refine q_aload_n (i := 0) (x := 68) dX9_forget_0 rfl 0 rfl ?_
  refine q_iconst (v := 0) dX9_forget_1 (by decide) ?_
  refine q_putz dX9_forget_2 foX9_31 fwX9_8 zC_68 rfl (by decide) ?_
  refine q_nmM (fun s1 => ?_)
  exact q_vret (y := s1) dX9_forget_5 rfl rfl
theorem kX9_forget    (σ : qMem) : qMc wC mX9_forget (ρv) [.ref 68] σ (fX9_forget σ) := qMc_of (moX9_forget) (Nat.le_of_ble_eq_true rfl) (aX9_forget  σ)

theorem dX9_noteFewest_0 : decode cX9_noteFewest 0 = .ok (.iconst (-1), 1) := by decide +kernel
theorem dX9_noteFewest_1 : decode cX9_noteFewest 1 = .ok (.istore_n 3, 1) := by decide +kernel
theorem dX9_noteFewest_2 : decode cX9_noteFewest 2 = .ok (.iconst 0, 1) := by decide +kernel
theorem dX9_noteFewest_3 : decode cX9_noteFewest 3 = .ok (.istore 4, 2) := by decide +kernel
theorem dX9_noteFewest_5 : decode cX9_noteFewest 5 = .ok (.iconst 5, 1) := by decide +kernel
theorem dX9_noteFewest_6 : decode cX9_noteFewest 6 = .ok (.istore 5, 2) := by decide +kernel
theorem dX9_noteFewest_8 : decode cX9_noteFewest 8 = .ok (.iload 5, 2) := by decide +kernel
theorem dX9_noteFewest_10 : decode cX9_noteFewest 10 = .ok (.ifCond .lt 44, 3) := by decide +kernel
theorem dX9_noteFewest_13 : decode cX9_noteFewest 13 = .ok (.iload_n 3, 1) := by decide +kernel
theorem dX9_noteFewest_14 : decode cX9_noteFewest 14 = .ok (.aload_n 0, 1) := by decide +kernel
theorem dX9_noteFewest_15 : decode cX9_noteFewest 15 = .ok (.getfield 18, 3) := by decide +kernel
theorem dX9_noteFewest_18 : decode cX9_noteFewest 18 = .ok (.iload_n 2, 1) := by decide +kernel
theorem dX9_noteFewest_19 : decode cX9_noteFewest 19 = .ok (.iload 5, 2) := by decide +kernel
theorem dX9_noteFewest_21 : decode cX9_noteFewest 21 = .ok (.iadd, 1) := by decide +kernel
theorem dX9_noteFewest_22 : decode cX9_noteFewest 22 = .ok (.iaload, 1) := by decide +kernel
theorem dX9_noteFewest_23 : decode cX9_noteFewest 23 = .ok (.iconst (-1), 1) := by decide +kernel
theorem dX9_noteFewest_24 : decode cX9_noteFewest 24 = .ok (.ixor, 1) := by decide +kernel
theorem dX9_noteFewest_25 : decode cX9_noteFewest 25 = .ok (.iand, 1) := by decide +kernel
theorem dX9_noteFewest_26 : decode cX9_noteFewest 26 = .ok (.istore 6, 2) := by decide +kernel
theorem dX9_noteFewest_28 : decode cX9_noteFewest 28 = .ok (.iload 6, 2) := by decide +kernel
theorem dX9_noteFewest_30 : decode cX9_noteFewest 30 = .ok (.ifCond .ne 15, 3) := by decide +kernel
theorem dX9_noteFewest_33 : decode cX9_noteFewest 33 = .ok (.iload 4, 2) := by decide +kernel
theorem dX9_noteFewest_35 : decode cX9_noteFewest 35 = .ok (.iconst 1, 1) := by decide +kernel
theorem dX9_noteFewest_36 : decode cX9_noteFewest 36 = .ok (.iload 5, 2) := by decide +kernel
theorem dX9_noteFewest_38 : decode cX9_noteFewest 38 = .ok (.ishl, 1) := by decide +kernel
theorem dX9_noteFewest_39 : decode cX9_noteFewest 39 = .ok (.ior, 1) := by decide +kernel
theorem dX9_noteFewest_40 : decode cX9_noteFewest 40 = .ok (.istore 4, 2) := by decide +kernel
theorem dX9_noteFewest_42 : decode cX9_noteFewest 42 = .ok (.goto 6, 3) := by decide +kernel
theorem dX9_noteFewest_45 : decode cX9_noteFewest 45 = .ok (.iload 6, 2) := by decide +kernel
theorem dX9_noteFewest_47 : decode cX9_noteFewest 47 = .ok (.istore_n 3, 1) := by decide +kernel
theorem dX9_noteFewest_48 : decode cX9_noteFewest 48 = .ok (.iinc 5 (-1), 3) := by decide +kernel
theorem dX9_noteFewest_51 : decode cX9_noteFewest 51 = .ok (.goto (-43), 3) := by decide +kernel
theorem dX9_noteFewest_54 : decode cX9_noteFewest 54 = .ok (.iload_n 1, 1) := by decide +kernel
theorem dX9_noteFewest_55 : decode cX9_noteFewest 55 = .ok (.iload_n 3, 1) := by decide +kernel
theorem dX9_noteFewest_56 : decode cX9_noteFewest 56 = .ok (.invokestatic 112, 3) := by decide +kernel
theorem dX9_noteFewest_59 : decode cX9_noteFewest 59 = .ok (.invokestatic 115, 3) := by decide +kernel
theorem dX9_noteFewest_62 : decode cX9_noteFewest 62 = .ok (.istore 5, 2) := by decide +kernel
theorem dX9_noteFewest_64 : decode cX9_noteFewest 64 = .ok (.iload 4, 2) := by decide +kernel
theorem dX9_noteFewest_66 : decode cX9_noteFewest 66 = .ok (.aload_n 0, 1) := by decide +kernel
theorem dX9_noteFewest_67 : decode cX9_noteFewest 67 = .ok (.getfield 24, 3) := by decide +kernel
theorem dX9_noteFewest_70 : decode cX9_noteFewest 70 = .ok (.if_icmp .lt 21, 3) := by decide +kernel
theorem dX9_noteFewest_73 : decode cX9_noteFewest 73 = .ok (.iload 4, 2) := by decide +kernel
theorem dX9_noteFewest_75 : decode cX9_noteFewest 75 = .ok (.aload_n 0, 1) := by decide +kernel
theorem dX9_noteFewest_76 : decode cX9_noteFewest 76 = .ok (.getfield 24, 3) := by decide +kernel
theorem dX9_noteFewest_79 : decode cX9_noteFewest 79 = .ok (.if_icmp .ne 24, 3) := by decide +kernel
theorem dX9_noteFewest_82 : decode cX9_noteFewest 82 = .ok (.iload 5, 2) := by decide +kernel
theorem dX9_noteFewest_84 : decode cX9_noteFewest 84 = .ok (.aload_n 0, 1) := by decide +kernel
theorem dX9_noteFewest_85 : decode cX9_noteFewest 85 = .ok (.getfield 28, 3) := by decide +kernel
theorem dX9_noteFewest_88 : decode cX9_noteFewest 88 = .ok (.if_icmp .ge 15, 3) := by decide +kernel
theorem dX9_noteFewest_91 : decode cX9_noteFewest 91 = .ok (.aload_n 0, 1) := by decide +kernel
theorem dX9_noteFewest_92 : decode cX9_noteFewest 92 = .ok (.iload 4, 2) := by decide +kernel
theorem dX9_noteFewest_94 : decode cX9_noteFewest 94 = .ok (.putfield 24, 3) := by decide +kernel
theorem dX9_noteFewest_97 : decode cX9_noteFewest 97 = .ok (.aload_n 0, 1) := by decide +kernel
theorem dX9_noteFewest_98 : decode cX9_noteFewest 98 = .ok (.iload 5, 2) := by decide +kernel
theorem dX9_noteFewest_100 : decode cX9_noteFewest 100 = .ok (.putfield 28, 3) := by decide +kernel
theorem dX9_noteFewest_103 : decode cX9_noteFewest 103 = .ok (.return_, 1) := by decide +kernel
def fX9_noteFewest_b91 (N : Nat) (v4 : Int32) (v5 : Int32) (σ : qMem) : Option qMem :=
  (nmM (si σ 68 6 v4) fun s5 => (nmM (si s5 68 7 v5) fun s6 => (some s6)))
set_option maxRecDepth 20000 in
set_option maxHeartbeats 4000000 in
theorem aX9_noteFewest_b91 (N : Nat) (v4 : Int32) (v5 : Int32) (σ : qMem) : qAt wC mX9_noteFewest (ρv) 91 [(0, .ref 68), (4, .int v4), (5, .int v5)] [] σ (fX9_noteFewest_b91 N v4 v5 σ) := by
  unfold fX9_noteFewest_b91
  refine q_aload_n (i := 0) (x := 68) dX9_noteFewest_91 rfl 0 rfl ?_
  refine q_iload (i := 4) (x := v4) dX9_noteFewest_92 1 rfl ?_
  refine q_puti dX9_noteFewest_94 foX9_24 fwX9_6 zC_68 rfl ?_
  refine q_nmM (fun s5 => ?_)
  refine q_aload_n (i := 0) (x := 68) dX9_noteFewest_97 rfl 0 rfl ?_
  refine q_iload (i := 5) (x := v5) dX9_noteFewest_98 2 rfl ?_
  refine q_puti dX9_noteFewest_100 foX9_28 fwX9_7 zC_68 rfl ?_
  refine q_nmM (fun s6 => ?_)
  exact q_vret (y := s6) dX9_noteFewest_103 rfl rfl

def fX9_noteFewest_b48 (N : Nat) (c8 : Int32 → Int32 → Int32 → Int32 → Int32 → qMem → Option qMem) (v1 : Int32) (v2 : Int32) (v3 : Int32) (v4 : Int32) (v5 : Int32) (σ : qMem) : Option qMem :=
  (c8 v1 v2 v3 v4 (v5 + (-1)) σ)
set_option maxRecDepth 20000 in
set_option maxHeartbeats 4000000 in
theorem aX9_noteFewest_b48 (N : Nat) (c8 : Int32 → Int32 → Int32 → Int32 → Int32 → qMem → Option qMem) (hc8 : ∀ (v1 : Int32) (v2 : Int32) (v3 : Int32) (v4 : Int32) (v5 : Int32) (σ : qMem), qAt wC mX9_noteFewest (ρv) 8 [(0, .ref 68), (1, .int v1), (2, .int v2), (3, .int v3), (4, .int v4), (5, .int v5)] [] σ (c8 v1 v2 v3 v4 v5 σ)) (v1 : Int32) (v2 : Int32) (v3 : Int32) (v4 : Int32) (v5 : Int32) (σ : qMem) : qAt wC mX9_noteFewest (ρv) 48 [(0, .ref 68), (1, .int v1), (2, .int v2), (3, .int v3), (4, .int v4), (5, .int v5)] [] σ (fX9_noteFewest_b48 N c8 v1 v2 v3 v4 v5 σ) := by
  unfold fX9_noteFewest_b48
  refine q_iinc (i := 5) (x := v5) (v := (v5 + (-1))) (L' := [(5, .int (v5 + (-1))), (0, .ref 68), (1, .int v1), (2, .int v2), (3, .int v3), (4, .int v4)]) dX9_noteFewest_48 5 rfl (q_cst v5 (by decide)) (Nat.le_of_ble_eq_true rfl) rfl ?_
  refine q_goto (tgt := 8) dX9_noteFewest_51 (by decide) ?_
  exact q_sub [1, 2, 3, 4, 5, 0] rfl (hc8 v1 v2 v3 v4 (v5 + (-1)) σ)

def fX9_noteFewest_s8 (N : Nat) (c8 : Int32 → Int32 → Int32 → Int32 → Int32 → qMem → Option qMem) (v1 : Int32) (v2 : Int32) (v3 : Int32) (v4 : Int32) (v5 : Int32) (σ : qMem) : Option qMem :=
  (if v5 < 0 then ((fX3_lowestBit v3).bind fun y1 => ((fX3_codeOf v1 y1).bind fun y2 => (if v4 < (gi σ 68 6) then (fX9_noteFewest_b91 N v4 y2 σ) else (if v4 = (gi σ 68 6) then (if (gi σ 68 7) ≤ y2 then (some σ) else (fX9_noteFewest_b91 N v4 y2 σ)) else (some σ))))) else (if ck (v2 + v5) 42 = true then (nmI (v3 &&& ((gi σ 71 (v2 + v5).toNatClampNeg) ^^^ (-1))) fun x3 => (if x3 = 0 then (nmI (v4 ||| ((1 : Int32) <<< (v5 &&& 31))) fun x4 => (fX9_noteFewest_b48 N c8 v1 v2 v3 x4 v5 σ)) else (fX9_noteFewest_b48 N c8 v1 v2 x3 v4 v5 σ))) else none))
set_option maxRecDepth 20000 in
set_option maxHeartbeats 4000000 in
theorem aX9_noteFewest_s8 (N : Nat) (c8 : Int32 → Int32 → Int32 → Int32 → Int32 → qMem → Option qMem) (hc8 : ∀ (v1 : Int32) (v2 : Int32) (v3 : Int32) (v4 : Int32) (v5 : Int32) (σ : qMem), qAt wC mX9_noteFewest (ρv) 8 [(0, .ref 68), (1, .int v1), (2, .int v2), (3, .int v3), (4, .int v4), (5, .int v5)] [] σ (c8 v1 v2 v3 v4 v5 σ)) (v1 : Int32) (v2 : Int32) (v3 : Int32) (v4 : Int32) (v5 : Int32) (σ : qMem) : qAt wC mX9_noteFewest (ρv) 8 [(0, .ref 68), (1, .int v1), (2, .int v2), (3, .int v3), (4, .int v4), (5, .int v5)] [] σ (fX9_noteFewest_s8 N c8 v1 v2 v3 v4 v5 σ) := by
  unfold fX9_noteFewest_s8
  refine q_iload (i := 5) (x := v5) dX9_noteFewest_8 5 rfl ?_
  refine q_if_lt (tgt := 54) dX9_noteFewest_10 (by decide) ?_ ?_
  · refine q_iload_n (i := 1) (x := v1) dX9_noteFewest_54 rfl 1 rfl ?_
    refine q_iload_n (i := 3) (x := v3) dX9_noteFewest_55 rfl 3 rfl ?_
    refine q_cSp mX3_lowestBit [.int v3] (st := [.int v1]) dX9_noteFewest_56 (ssX9_112) ⟨Nat.le_of_ble_eq_true rfl, Nat.le_of_ble_eq_true rfl⟩ rfl rfl (Nat.le_of_ble_eq_true rfl) (kX3_lowestBit v3 σ) (fun y1 => ?_)
    refine q_cSp mX3_codeOf [.int v1, .int y1] (st := []) dX9_noteFewest_59 (ssX9_115) ⟨Nat.le_of_ble_eq_true rfl, Nat.le_of_ble_eq_true rfl⟩ rfl rfl (Nat.le_of_ble_eq_true rfl) (kX3_codeOf v1 y1 σ) (fun y2 => ?_)
    refine q_istore (i := 5) (L' := [(5, .int y2), (0, .ref 68), (1, .int v1), (2, .int v2), (3, .int v3), (4, .int v4)]) dX9_noteFewest_62 (Nat.le_of_ble_eq_true rfl) rfl ?_
    refine q_iload (i := 4) (x := v4) dX9_noteFewest_64 5 rfl ?_
    refine q_aload_n (i := 0) (x := 68) dX9_noteFewest_66 rfl 1 rfl ?_
    refine q_geti dX9_noteFewest_67 foX9_24 zC_68 rfl ?_
    refine q_icmp_lt (tgt := 91) dX9_noteFewest_70 (by decide) ?_ ?_
    · exact q_sub [1, 5, 0] rfl (aX9_noteFewest_b91 N v4 y2 σ)
    refine q_iload (i := 4) (x := v4) dX9_noteFewest_73 5 rfl ?_
    refine q_aload_n (i := 0) (x := 68) dX9_noteFewest_75 rfl 1 rfl ?_
    refine q_geti dX9_noteFewest_76 foX9_24 zC_68 rfl ?_
    refine q_icmp_ne (tgt := 103) dX9_noteFewest_79 (by decide) ?_ ?_
    · exact q_vret (y := σ) dX9_noteFewest_103 rfl rfl
    refine q_iload (i := 5) (x := y2) dX9_noteFewest_82 0 rfl ?_
    refine q_aload_n (i := 0) (x := 68) dX9_noteFewest_84 rfl 1 rfl ?_
    refine q_geti dX9_noteFewest_85 foX9_28 zC_68 rfl ?_
    refine q_icmp_ge (tgt := 103) dX9_noteFewest_88 (by decide) ?_ ?_
    · exact q_vret (y := σ) dX9_noteFewest_103 rfl rfl
    exact q_sub [1, 5, 0] rfl (aX9_noteFewest_b91 N v4 y2 σ)
  refine q_iload_n (i := 3) (x := v3) dX9_noteFewest_13 rfl 3 rfl ?_
  refine q_aload_n (i := 0) (x := 68) dX9_noteFewest_14 rfl 0 rfl ?_
  refine q_getr (t := 71) dX9_noteFewest_15 foX9_18 zC_68 rfl ?_
  refine q_iload_n (i := 2) (x := v2) dX9_noteFewest_18 rfl 2 rfl ?_
  refine q_iload (i := 5) (x := v5) dX9_noteFewest_19 5 rfl ?_
  refine q_iadd dX9_noteFewest_21 ?_
  refine q_iald dX9_noteFewest_22 zC_71 ?_
  refine q_iconst (v := (-1)) dX9_noteFewest_23 (by decide) ?_
  refine q_ixor dX9_noteFewest_24 ?_
  refine q_iand dX9_noteFewest_25 ?_
  refine q_nmI (fun x3 => ?_)
  refine q_istore (i := 6) (L' := [(6, .int x3), (0, .ref 68), (1, .int v1), (2, .int v2), (3, .int v3), (4, .int v4), (5, .int v5)]) dX9_noteFewest_26 (Nat.le_of_ble_eq_true rfl) rfl ?_
  refine q_iload (i := 6) (x := x3) dX9_noteFewest_28 0 rfl ?_
  refine q_if_ne (tgt := 45) dX9_noteFewest_30 (by decide) ?_ ?_
  · refine q_iload (i := 6) (x := x3) dX9_noteFewest_45 0 rfl ?_
    refine q_istore_n (i := 3) (L' := [(3, .int x3), (6, .int x3), (0, .ref 68), (1, .int v1), (2, .int v2), (4, .int v4), (5, .int v5)]) dX9_noteFewest_47 rfl (Nat.le_of_ble_eq_true rfl) rfl ?_
    exact q_sub [2, 3, 4, 0, 5, 6] rfl (aX9_noteFewest_b48 N c8 hc8 v1 v2 x3 v4 v5 σ)
  refine q_iload (i := 4) (x := v4) dX9_noteFewest_33 5 rfl ?_
  refine q_iconst (v := 1) dX9_noteFewest_35 (by decide) ?_
  refine q_iload (i := 5) (x := v5) dX9_noteFewest_36 6 rfl ?_
  refine q_ishl dX9_noteFewest_38 ?_
  refine q_ior dX9_noteFewest_39 ?_
  refine q_nmI (fun x4 => ?_)
  refine q_istore (i := 4) (L' := [(4, .int x4), (6, .int x3), (0, .ref 68), (1, .int v1), (2, .int v2), (3, .int v3), (5, .int v5)]) dX9_noteFewest_40 (Nat.le_of_ble_eq_true rfl) rfl ?_
  refine q_goto (tgt := 48) dX9_noteFewest_42 (by decide) ?_
  exact q_sub [2, 3, 4, 5, 0, 6] rfl (aX9_noteFewest_b48 N c8 hc8 v1 v2 v3 x4 v5 σ)
def fX9_noteFewest_l8 (N : Nat) : Nat → Int32 → Int32 → Int32 → Int32 → Int32 → qMem → Option qMem
  | 0 => fun _ _ _ _ _ _ => none
  | n + 1 => fun v1 v2 v3 v4 v5 σ => fX9_noteFewest_s8 N (fX9_noteFewest_l8 N n) v1 v2 v3 v4 v5 σ
theorem aX9_noteFewest_l8 (N : Nat) : ∀ (n : Nat) (v1 : Int32) (v2 : Int32) (v3 : Int32) (v4 : Int32) (v5 : Int32) (σ : qMem), qAt wC mX9_noteFewest (ρv) 8 [(0, .ref 68), (1, .int v1), (2, .int v2), (3, .int v3), (4, .int v4), (5, .int v5)] [] σ (fX9_noteFewest_l8 N n v1 v2 v3 v4 v5 σ) := by
  intro n
  induction n with
  | zero => intro v1 v2 v3 v4 v5 σ; exact q_none
  | succ n ih => intro v1 v2 v3 v4 v5 σ; exact aX9_noteFewest_s8 N (fX9_noteFewest_l8 N n) ih v1 v2 v3 v4 v5 σ

def fX9_noteFewest (N : Nat) (p1 : Int32) (p2 : Int32) (σ : qMem) : Option qMem :=
  (fX9_noteFewest_l8 N N p1 p2 (-1) 0 5 σ)
set_option maxRecDepth 20000 in
set_option maxHeartbeats 4000000 in
theorem aX9_noteFewest  (N : Nat) (p1 : Int32) (p2 : Int32)  (σ : qMem) : qAt wC mX9_noteFewest (ρv) 0 [(0, .ref 68), (1, .int p1), (2, .int p2)] [] σ (fX9_noteFewest N p1 p2 σ) := by
  unfold fX9_noteFewest
  refine q_iconst (v := (-1)) dX9_noteFewest_0 (by decide) ?_
  refine q_istore_n (i := 3) (L' := [(3, .int (-1)), (0, .ref 68), (1, .int p1), (2, .int p2)]) dX9_noteFewest_1 rfl (Nat.le_of_ble_eq_true rfl) rfl ?_
  refine q_iconst (v := 0) dX9_noteFewest_2 (by decide) ?_
  refine q_istore (i := 4) (L' := [(4, .int 0), (3, .int (-1)), (0, .ref 68), (1, .int p1), (2, .int p2)]) dX9_noteFewest_3 (Nat.le_of_ble_eq_true rfl) rfl ?_
  refine q_iconst (v := 5) dX9_noteFewest_5 (by decide) ?_
  refine q_istore (i := 5) (L' := [(5, .int 5), (4, .int 0), (3, .int (-1)), (0, .ref 68), (1, .int p1), (2, .int p2)]) dX9_noteFewest_6 (Nat.le_of_ble_eq_true rfl) rfl ?_
  exact q_sub [3, 4, 5, 2, 1, 0] rfl (aX9_noteFewest_l8 N N p1 p2 (-1) 0 5 σ)
theorem kX9_noteFewest  (N : Nat) (p1 : Int32) (p2 : Int32)  (σ : qMem) : qMc wC mX9_noteFewest (ρv) [.ref 68, .int p1, .int p2] σ (fX9_noteFewest N p1 p2 σ) := qMc_of (moX9_noteFewest) (Nat.le_of_ble_eq_true rfl) (aX9_noteFewest N p1 p2  σ)

theorem dX9_spread_0 : decode cX9_spread 0 = .ok (.iload_n 1, 1) := by decide +kernel
theorem dX9_spread_1 : decode cX9_spread 1 = .ok (.ifCond .ne 4, 3) := by decide +kernel
theorem dX9_spread_4 : decode cX9_spread 4 = .ok (.return_, 1) := by decide +kernel
theorem dX9_spread_5 : decode cX9_spread 5 = .ok (.iload_n 3, 1) := by decide +kernel
theorem dX9_spread_6 : decode cX9_spread 6 = .ok (.ifCond .ge 26, 3) := by decide +kernel
theorem dX9_spread_9 : decode cX9_spread 9 = .ok (.aload_n 0, 1) := by decide +kernel
theorem dX9_spread_10 : decode cX9_spread 10 = .ok (.getfield 21, 3) := by decide +kernel
theorem dX9_spread_13 : decode cX9_spread 13 = .ok (.iload 4, 2) := by decide +kernel
theorem dX9_spread_15 : decode cX9_spread 15 = .ok (.aload_n 0, 1) := by decide +kernel
theorem dX9_spread_16 : decode cX9_spread 16 = .ok (.getfield 21, 3) := by decide +kernel
theorem dX9_spread_19 : decode cX9_spread 19 = .ok (.arraylength, 1) := by decide +kernel
theorem dX9_spread_20 : decode cX9_spread 20 = .ok (.iconst 1, 1) := by decide +kernel
theorem dX9_spread_21 : decode cX9_spread 21 = .ok (.isub, 1) := by decide +kernel
theorem dX9_spread_22 : decode cX9_spread 22 = .ok (.iand, 1) := by decide +kernel
theorem dX9_spread_23 : decode cX9_spread 23 = .ok (.dup2, 1) := by decide +kernel
theorem dX9_spread_24 : decode cX9_spread 24 = .ok (.iaload, 1) := by decide +kernel
theorem dX9_spread_25 : decode cX9_spread 25 = .ok (.iload_n 1, 1) := by decide +kernel
theorem dX9_spread_26 : decode cX9_spread 26 = .ok (.invokestatic 106, 3) := by decide +kernel
theorem dX9_spread_29 : decode cX9_spread 29 = .ok (.iadd, 1) := by decide +kernel
theorem dX9_spread_30 : decode cX9_spread 30 = .ok (.iastore, 1) := by decide +kernel
theorem dX9_spread_31 : decode cX9_spread 31 = .ok (.return_, 1) := by decide +kernel
theorem dX9_spread_32 : decode cX9_spread 32 = .ok (.aload_n 0, 1) := by decide +kernel
theorem dX9_spread_33 : decode cX9_spread 33 = .ok (.iload_n 1, 1) := by decide +kernel
theorem dX9_spread_34 : decode cX9_spread 34 = .ok (.aload_n 0, 1) := by decide +kernel
theorem dX9_spread_35 : decode cX9_spread 35 = .ok (.getfield 18, 3) := by decide +kernel
theorem dX9_spread_38 : decode cX9_spread 38 = .ok (.iload_n 2, 1) := by decide +kernel
theorem dX9_spread_39 : decode cX9_spread 39 = .ok (.iload_n 3, 1) := by decide +kernel
theorem dX9_spread_40 : decode cX9_spread 40 = .ok (.iadd, 1) := by decide +kernel
theorem dX9_spread_41 : decode cX9_spread 41 = .ok (.iaload, 1) := by decide +kernel
theorem dX9_spread_42 : decode cX9_spread 42 = .ok (.iconst (-1), 1) := by decide +kernel
theorem dX9_spread_43 : decode cX9_spread 43 = .ok (.ixor, 1) := by decide +kernel
theorem dX9_spread_44 : decode cX9_spread 44 = .ok (.iand, 1) := by decide +kernel
theorem dX9_spread_45 : decode cX9_spread 45 = .ok (.iload_n 2, 1) := by decide +kernel
theorem dX9_spread_46 : decode cX9_spread 46 = .ok (.iload_n 3, 1) := by decide +kernel
theorem dX9_spread_47 : decode cX9_spread 47 = .ok (.iconst 1, 1) := by decide +kernel
theorem dX9_spread_48 : decode cX9_spread 48 = .ok (.isub, 1) := by decide +kernel
theorem dX9_spread_49 : decode cX9_spread 49 = .ok (.iload 4, 2) := by decide +kernel
theorem dX9_spread_51 : decode cX9_spread 51 = .ok (.invokevirtual 61, 3) := by decide +kernel
theorem dX9_spread_54 : decode cX9_spread 54 = .ok (.aload_n 0, 1) := by decide +kernel
theorem dX9_spread_55 : decode cX9_spread 55 = .ok (.iload_n 1, 1) := by decide +kernel
theorem dX9_spread_56 : decode cX9_spread 56 = .ok (.aload_n 0, 1) := by decide +kernel
theorem dX9_spread_57 : decode cX9_spread 57 = .ok (.getfield 18, 3) := by decide +kernel
theorem dX9_spread_60 : decode cX9_spread 60 = .ok (.iload_n 2, 1) := by decide +kernel
theorem dX9_spread_61 : decode cX9_spread 61 = .ok (.iload_n 3, 1) := by decide +kernel
theorem dX9_spread_62 : decode cX9_spread 62 = .ok (.iadd, 1) := by decide +kernel
theorem dX9_spread_63 : decode cX9_spread 63 = .ok (.iaload, 1) := by decide +kernel
theorem dX9_spread_64 : decode cX9_spread 64 = .ok (.iand, 1) := by decide +kernel
theorem dX9_spread_65 : decode cX9_spread 65 = .ok (.iload_n 2, 1) := by decide +kernel
theorem dX9_spread_66 : decode cX9_spread 66 = .ok (.iload_n 3, 1) := by decide +kernel
theorem dX9_spread_67 : decode cX9_spread 67 = .ok (.iconst 1, 1) := by decide +kernel
theorem dX9_spread_68 : decode cX9_spread 68 = .ok (.isub, 1) := by decide +kernel
theorem dX9_spread_69 : decode cX9_spread 69 = .ok (.iload 4, 2) := by decide +kernel
theorem dX9_spread_71 : decode cX9_spread 71 = .ok (.iconst 1, 1) := by decide +kernel
theorem dX9_spread_72 : decode cX9_spread 72 = .ok (.iload_n 3, 1) := by decide +kernel
theorem dX9_spread_73 : decode cX9_spread 73 = .ok (.ishl, 1) := by decide +kernel
theorem dX9_spread_74 : decode cX9_spread 74 = .ok (.ior, 1) := by decide +kernel
theorem dX9_spread_75 : decode cX9_spread 75 = .ok (.invokevirtual 61, 3) := by decide +kernel
theorem dX9_spread_78 : decode cX9_spread 78 = .ok (.return_, 1) := by decide +kernel

def fX9_spread_e (N : Nat) (rX9_spread : Int32 → Int32 → Int32 → Int32 → qMem → Option qMem) (p1 : Int32) (p2 : Int32) (p3 : Int32) (p4 : Int32) (σ : qMem) : Option qMem :=
  (if p1 = 0 then (some σ) else (if 0 ≤ p3 then (if ck (p2 + p3) 42 = true then ((rX9_spread (p1 &&& ((gi σ 71 (p2 + p3).toNatClampNeg) ^^^ (-1))) p2 (p3 - 1) p4 σ).bind fun y1 => (if ck (p2 + p3) 42 = true then ((rX9_spread (p1 &&& (gi y1 71 (p2 + p3).toNatClampNeg)) p2 (p3 - 1) (p4 ||| ((1 : Int32) <<< (p3 &&& 31))) y1).bind fun y2 => (some y2)) else none)) else none) else (if ck (p4 &&& ((64 : Int32) - 1)) 64 = true then ((fJ6_bitCount_0f7a4 p1).bind fun y3 => (if ck (p4 &&& ((64 : Int32) - 1)) 64 = true then (nmM (si σ 72 (p4 &&& ((64 : Int32) - 1)).toNatClampNeg ((gi σ 72 (p4 &&& ((64 : Int32) - 1)).toNatClampNeg) + y3)) fun s4 => (some s4)) else none)) else none)))
set_option maxRecDepth 20000 in
set_option maxHeartbeats 4000000 in
theorem aX9_spread_e (d : Nat) (N : Nat) (rX9_spread : Int32 → Int32 → Int32 → Int32 → qMem → Option qMem) (p1 : Int32) (p2 : Int32) (p3 : Int32) (p4 : Int32) (hX9_spread : ∀ (p1 : Int32) (p2 : Int32) (p3 : Int32) (p4 : Int32)  (σ : qMem), qMc wC (mX9_spread d) (ρv) [.ref 68, .int p1, .int p2, .int p3, .int p4] σ (rX9_spread p1 p2 p3 p4 σ)) (σ : qMem) : qAt wC (mX9_spread (d + 1)) (ρv) 0 [(0, .ref 68), (1, .int p1), (2, .int p2), (3, .int p3), (4, .int p4)] [] σ (fX9_spread_e N rX9_spread p1 p2 p3 p4 σ) := by
  unfold fX9_spread_e
  refine q_iload_n (i := 1) (x := p1) dX9_spread_0 rfl 1 rfl ?_
  refine q_if_ne (tgt := 5) dX9_spread_1 (by decide) ?_ ?_
  · refine q_iload_n (i := 3) (x := p3) dX9_spread_5 rfl 3 rfl ?_
    refine q_if_ge (tgt := 32) dX9_spread_6 (by decide) ?_ ?_
    · refine q_aload_n (i := 0) (x := 68) dX9_spread_32 rfl 0 rfl ?_
      refine q_iload_n (i := 1) (x := p1) dX9_spread_33 rfl 1 rfl ?_
      refine q_aload_n (i := 0) (x := 68) dX9_spread_34 rfl 0 rfl ?_
      refine q_getr (t := 71) dX9_spread_35 foX9_18 zC_68 rfl ?_
      refine q_iload_n (i := 2) (x := p2) dX9_spread_38 rfl 2 rfl ?_
      refine q_iload_n (i := 3) (x := p3) dX9_spread_39 rfl 3 rfl ?_
      refine q_iadd dX9_spread_40 ?_
      refine q_iald dX9_spread_41 zC_71 ?_
      refine q_iconst (v := (-1)) dX9_spread_42 (by decide) ?_
      refine q_ixor dX9_spread_43 ?_
      refine q_iand dX9_spread_44 ?_
      refine q_iload_n (i := 2) (x := p2) dX9_spread_45 rfl 2 rfl ?_
      refine q_iload_n (i := 3) (x := p3) dX9_spread_46 rfl 3 rfl ?_
      refine q_iconst (v := 1) dX9_spread_47 (by decide) ?_
      refine q_isub dX9_spread_48 ?_
      refine q_iload (i := 4) (x := p4) dX9_spread_49 4 rfl ?_
      refine q_cVv (mX9_spread d) [.int (p1 &&& ((gi σ 71 (p2 + p3).toNatClampNeg) ^^^ (-1))), .int p2, .int (p3 - 1), .int p4] (st := []) dX9_spread_51 (svX9_61 _) (by unfold rR mX9_spread; constructor <;> dsimp only <;> omega) zC_68 rfl rfl rfl (Nat.le_of_ble_eq_true rfl) (hX9_spread (p1 &&& ((gi σ 71 (p2 + p3).toNatClampNeg) ^^^ (-1))) p2 (p3 - 1) p4 σ) (fun y1 => ?_)
      refine q_aload_n (i := 0) (x := 68) dX9_spread_54 rfl 0 rfl ?_
      refine q_iload_n (i := 1) (x := p1) dX9_spread_55 rfl 1 rfl ?_
      refine q_aload_n (i := 0) (x := 68) dX9_spread_56 rfl 0 rfl ?_
      refine q_getr (t := 71) dX9_spread_57 foX9_18 zC_68 rfl ?_
      refine q_iload_n (i := 2) (x := p2) dX9_spread_60 rfl 2 rfl ?_
      refine q_iload_n (i := 3) (x := p3) dX9_spread_61 rfl 3 rfl ?_
      refine q_iadd dX9_spread_62 ?_
      refine q_iald dX9_spread_63 zC_71 ?_
      refine q_iand dX9_spread_64 ?_
      refine q_iload_n (i := 2) (x := p2) dX9_spread_65 rfl 2 rfl ?_
      refine q_iload_n (i := 3) (x := p3) dX9_spread_66 rfl 3 rfl ?_
      refine q_iconst (v := 1) dX9_spread_67 (by decide) ?_
      refine q_isub dX9_spread_68 ?_
      refine q_iload (i := 4) (x := p4) dX9_spread_69 4 rfl ?_
      refine q_iconst (v := 1) dX9_spread_71 (by decide) ?_
      refine q_iload_n (i := 3) (x := p3) dX9_spread_72 rfl 3 rfl ?_
      refine q_ishl dX9_spread_73 ?_
      refine q_ior dX9_spread_74 ?_
      refine q_cVv (mX9_spread d) [.int (p1 &&& (gi y1 71 (p2 + p3).toNatClampNeg)), .int p2, .int (p3 - 1), .int (p4 ||| ((1 : Int32) <<< (p3 &&& 31)))] (st := []) dX9_spread_75 (svX9_61 _) (by unfold rR mX9_spread; constructor <;> dsimp only <;> omega) zC_68 rfl rfl rfl (Nat.le_of_ble_eq_true rfl) (hX9_spread (p1 &&& (gi y1 71 (p2 + p3).toNatClampNeg)) p2 (p3 - 1) (p4 ||| ((1 : Int32) <<< (p3 &&& 31))) y1) (fun y2 => ?_)
      exact q_vret (y := y2) dX9_spread_78 rfl rfl
    refine q_aload_n (i := 0) (x := 68) dX9_spread_9 rfl 0 rfl ?_
    refine q_getr (t := 72) dX9_spread_10 foX9_21 zC_68 rfl ?_
    refine q_iload (i := 4) (x := p4) dX9_spread_13 4 rfl ?_
    refine q_aload_n (i := 0) (x := 68) dX9_spread_15 rfl 0 rfl ?_
    refine q_getr (t := 72) dX9_spread_16 foX9_21 zC_68 rfl ?_
    refine q_alen (t0 := 0) (v := 64) dX9_spread_19 zC_72 (fun _ => rfl) (by decide) ?_
    refine q_iconst (v := 1) dX9_spread_20 (by decide) ?_
    refine q_isub dX9_spread_21 ?_
    refine q_iand dX9_spread_22 ?_
    refine q_dup2 dX9_spread_23 rfl rfl ?_
    refine q_iald dX9_spread_24 zC_72 ?_
    refine q_iload_n (i := 1) (x := p1) dX9_spread_25 rfl 1 rfl ?_
    refine q_cSp mJ6_bitCount_0f7a4 [.int p1] (st := [.int (gi σ 72 (p4 &&& ((64 : Int32) - 1)).toNatClampNeg), .int (p4 &&& ((64 : Int32) - 1)), .ref 72]) dX9_spread_26 (ssX9_106) (by unfold rR mJ6_bitCount_0f7a4 mX9_spread; constructor <;> dsimp only <;> omega) rfl rfl (Nat.le_of_ble_eq_true rfl) (kJ6_bitCount_0f7a4 p1 σ) (fun y3 => ?_)
    refine q_iadd dX9_spread_29 ?_
    refine q_iast dX9_spread_30 zC_72 ?_
    refine q_nmM (fun s4 => ?_)
    exact q_vret (y := s4) dX9_spread_31 rfl rfl
  exact q_vret (y := σ) dX9_spread_4 rfl rfl
def fX9_spread (N : Nat) : Nat → Int32 → Int32 → Int32 → Int32 → qMem → Option qMem
  | 0 => fun _ _ _ _ _ => none
  | d + 1 => fun p1 p2 p3 p4 σ => fX9_spread_e N (fX9_spread N d) p1 p2 p3 p4 σ
theorem kX9_spread (N : Nat) : ∀ (d : Nat) (p1 : Int32) (p2 : Int32) (p3 : Int32) (p4 : Int32)  (σ : qMem), qMc wC (mX9_spread d) (ρv) [.ref 68, .int p1, .int p2, .int p3, .int p4] σ (fX9_spread N d p1 p2 p3 p4 σ) := by
  intro d
  induction d with
  | zero => intro p1 p2 p3 p4  σ; exact fun _ h => by cases h
  | succ d ih => intro p1 p2 p3 p4  σ; exact qMc_of (moX9_spread _) (Nat.le_of_ble_eq_true rfl) (aX9_spread_e d N (fX9_spread N d) p1 p2 p3 p4 ih  σ)

theorem dX9_addMisses_0 : decode cX9_addMisses 0 = .ok (.iconst 0, 1) := by decide +kernel
theorem dX9_addMisses_1 : decode cX9_addMisses 1 = .ok (.istore 5, 2) := by decide +kernel
theorem dX9_addMisses_3 : decode cX9_addMisses 3 = .ok (.iload 5, 2) := by decide +kernel
theorem dX9_addMisses_5 : decode cX9_addMisses 5 = .ok (.aload_n 0, 1) := by decide +kernel
theorem dX9_addMisses_6 : decode cX9_addMisses 6 = .ok (.getfield 39, 3) := by decide +kernel
theorem dX9_addMisses_9 : decode cX9_addMisses 9 = .ok (.getfield 73, 3) := by decide +kernel
theorem dX9_addMisses_12 : decode cX9_addMisses 12 = .ok (.iload_n 2, 1) := by decide +kernel
theorem dX9_addMisses_13 : decode cX9_addMisses 13 = .ok (.aaload, 1) := by decide +kernel
theorem dX9_addMisses_14 : decode cX9_addMisses 14 = .ok (.getfield 77, 3) := by decide +kernel
theorem dX9_addMisses_17 : decode cX9_addMisses 17 = .ok (.if_icmp .ge 120, 3) := by decide +kernel
theorem dX9_addMisses_20 : decode cX9_addMisses 20 = .ok (.aload_n 0, 1) := by decide +kernel
theorem dX9_addMisses_21 : decode cX9_addMisses 21 = .ok (.getfield 39, 3) := by decide +kernel
theorem dX9_addMisses_24 : decode cX9_addMisses 24 = .ok (.iload_n 2, 1) := by decide +kernel
theorem dX9_addMisses_25 : decode cX9_addMisses 25 = .ok (.iload 5, 2) := by decide +kernel
theorem dX9_addMisses_27 : decode cX9_addMisses 27 = .ok (.aload_n 0, 1) := by decide +kernel
theorem dX9_addMisses_28 : decode cX9_addMisses 28 = .ok (.getfield 39, 3) := by decide +kernel
theorem dX9_addMisses_31 : decode cX9_addMisses 31 = .ok (.getfield 73, 3) := by decide +kernel
theorem dX9_addMisses_34 : decode cX9_addMisses 34 = .ok (.iload_n 2, 1) := by decide +kernel
theorem dX9_addMisses_35 : decode cX9_addMisses 35 = .ok (.aaload, 1) := by decide +kernel
theorem dX9_addMisses_36 : decode cX9_addMisses 36 = .ok (.iload 5, 2) := by decide +kernel
theorem dX9_addMisses_38 : decode cX9_addMisses 38 = .ok (.iconst 1, 1) := by decide +kernel
theorem dX9_addMisses_39 : decode cX9_addMisses 39 = .ok (.invokevirtual 96, 3) := by decide +kernel
theorem dX9_addMisses_42 : decode cX9_addMisses 42 = .ok (.iload_n 3, 1) := by decide +kernel
theorem dX9_addMisses_43 : decode cX9_addMisses 43 = .ok (.iadd, 1) := by decide +kernel
theorem dX9_addMisses_44 : decode cX9_addMisses 44 = .ok (.iload 4, 2) := by decide +kernel
theorem dX9_addMisses_46 : decode cX9_addMisses 46 = .ok (.invokevirtual 100, 3) := by decide +kernel
theorem dX9_addMisses_49 : decode cX9_addMisses 49 = .ok (.iconst 0, 1) := by decide +kernel
theorem dX9_addMisses_50 : decode cX9_addMisses 50 = .ok (.istore 6, 2) := by decide +kernel
theorem dX9_addMisses_52 : decode cX9_addMisses 52 = .ok (.iload 6, 2) := by decide +kernel
theorem dX9_addMisses_54 : decode cX9_addMisses 54 = .ok (.bipush 7, 2) := by decide +kernel
theorem dX9_addMisses_56 : decode cX9_addMisses 56 = .ok (.if_icmp .ge 75, 3) := by decide +kernel
theorem dX9_addMisses_59 : decode cX9_addMisses 59 = .ok (.aload_n 0, 1) := by decide +kernel
theorem dX9_addMisses_60 : decode cX9_addMisses 60 = .ok (.getfield 39, 3) := by decide +kernel
theorem dX9_addMisses_63 : decode cX9_addMisses 63 = .ok (.getfield 103, 3) := by decide +kernel
theorem dX9_addMisses_66 : decode cX9_addMisses 66 = .ok (.iload 6, 2) := by decide +kernel
theorem dX9_addMisses_68 : decode cX9_addMisses 68 = .ok (.iaload, 1) := by decide +kernel
theorem dX9_addMisses_69 : decode cX9_addMisses 69 = .ok (.iconst (-1), 1) := by decide +kernel
theorem dX9_addMisses_70 : decode cX9_addMisses 70 = .ok (.ixor, 1) := by decide +kernel
theorem dX9_addMisses_71 : decode cX9_addMisses 71 = .ok (.istore 7, 2) := by decide +kernel
theorem dX9_addMisses_73 : decode cX9_addMisses 73 = .ok (.iload 6, 2) := by decide +kernel
theorem dX9_addMisses_75 : decode cX9_addMisses 75 = .ok (.bipush 6, 2) := by decide +kernel
theorem dX9_addMisses_77 : decode cX9_addMisses 77 = .ok (.imul, 1) := by decide +kernel
theorem dX9_addMisses_78 : decode cX9_addMisses 78 = .ok (.istore 8, 2) := by decide +kernel
theorem dX9_addMisses_80 : decode cX9_addMisses 80 = .ok (.iload 8, 2) := by decide +kernel
theorem dX9_addMisses_82 : decode cX9_addMisses 82 = .ok (.iload 6, 2) := by decide +kernel
theorem dX9_addMisses_84 : decode cX9_addMisses 84 = .ok (.iconst 1, 1) := by decide +kernel
theorem dX9_addMisses_85 : decode cX9_addMisses 85 = .ok (.iadd, 1) := by decide +kernel
theorem dX9_addMisses_86 : decode cX9_addMisses 86 = .ok (.bipush 6, 2) := by decide +kernel
theorem dX9_addMisses_88 : decode cX9_addMisses 88 = .ok (.imul, 1) := by decide +kernel
theorem dX9_addMisses_89 : decode cX9_addMisses 89 = .ok (.if_icmp .ge 36, 3) := by decide +kernel
theorem dX9_addMisses_92 : decode cX9_addMisses 92 = .ok (.iload 7, 2) := by decide +kernel
theorem dX9_addMisses_94 : decode cX9_addMisses 94 = .ok (.ifCond .eq 31, 3) := by decide +kernel
theorem dX9_addMisses_97 : decode cX9_addMisses 97 = .ok (.aload_n 1, 1) := by decide +kernel
theorem dX9_addMisses_98 : decode cX9_addMisses 98 = .ok (.iload 8, 2) := by decide +kernel
theorem dX9_addMisses_100 : decode cX9_addMisses 100 = .ok (.iaload, 1) := by decide +kernel
theorem dX9_addMisses_101 : decode cX9_addMisses 101 = .ok (.iload 7, 2) := by decide +kernel
theorem dX9_addMisses_103 : decode cX9_addMisses 103 = .ok (.iand, 1) := by decide +kernel
theorem dX9_addMisses_104 : decode cX9_addMisses 104 = .ok (.istore 9, 2) := by decide +kernel
theorem dX9_addMisses_106 : decode cX9_addMisses 106 = .ok (.aload_n 1, 1) := by decide +kernel
theorem dX9_addMisses_107 : decode cX9_addMisses 107 = .ok (.iload 8, 2) := by decide +kernel
theorem dX9_addMisses_109 : decode cX9_addMisses 109 = .ok (.dup2, 1) := by decide +kernel
theorem dX9_addMisses_110 : decode cX9_addMisses 110 = .ok (.iaload, 1) := by decide +kernel
theorem dX9_addMisses_111 : decode cX9_addMisses 111 = .ok (.iload 7, 2) := by decide +kernel
theorem dX9_addMisses_113 : decode cX9_addMisses 113 = .ok (.ixor, 1) := by decide +kernel
theorem dX9_addMisses_114 : decode cX9_addMisses 114 = .ok (.iastore, 1) := by decide +kernel
theorem dX9_addMisses_115 : decode cX9_addMisses 115 = .ok (.iload 9, 2) := by decide +kernel
theorem dX9_addMisses_117 : decode cX9_addMisses 117 = .ok (.istore 7, 2) := by decide +kernel
theorem dX9_addMisses_119 : decode cX9_addMisses 119 = .ok (.iinc 8 1, 3) := by decide +kernel
theorem dX9_addMisses_122 : decode cX9_addMisses 122 = .ok (.goto (-42), 3) := by decide +kernel
theorem dX9_addMisses_125 : decode cX9_addMisses 125 = .ok (.iinc 6 1, 3) := by decide +kernel
theorem dX9_addMisses_128 : decode cX9_addMisses 128 = .ok (.goto (-76), 3) := by decide +kernel
theorem dX9_addMisses_131 : decode cX9_addMisses 131 = .ok (.iinc 5 1, 3) := by decide +kernel
theorem dX9_addMisses_134 : decode cX9_addMisses 134 = .ok (.goto (-131), 3) := by decide +kernel
theorem dX9_addMisses_137 : decode cX9_addMisses 137 = .ok (.return_, 1) := by decide +kernel
def fX9_addMisses_b125 (N : Nat) (k1 : Nat) (c3 : Int32 → Int32 → Int32 → Int32 → qMem → Option qMem) (c52 : Int32 → Int32 → Int32 → Int32 → Int32 → qMem → Option qMem) (v2 : Int32) (v3 : Int32) (v4 : Int32) (v5 : Int32) (v6 : Int32) (σ : qMem) : Option qMem :=
  (c52 v2 v3 v4 v5 (v6 + 1) σ)
set_option maxRecDepth 20000 in
set_option maxHeartbeats 4000000 in
theorem aX9_addMisses_b125 (N : Nat) (k1 : Nat) (hk1 : wC.1[k1]? = some (.inl (.int, 42, []))) (c3 : Int32 → Int32 → Int32 → Int32 → qMem → Option qMem) (c52 : Int32 → Int32 → Int32 → Int32 → Int32 → qMem → Option qMem) (hc3 : ∀ (v2 : Int32) (v3 : Int32) (v4 : Int32) (v5 : Int32) (σ : qMem), qAt wC mX9_addMisses (ρv) 3 [(0, .ref 68), (1, .ref k1), (2, .int v2), (3, .int v3), (4, .int v4), (5, .int v5)] [] σ (c3 v2 v3 v4 v5 σ)) (hc52 : ∀ (v2 : Int32) (v3 : Int32) (v4 : Int32) (v5 : Int32) (v6 : Int32) (σ : qMem), qAt wC mX9_addMisses (ρv) 52 [(0, .ref 68), (1, .ref k1), (2, .int v2), (3, .int v3), (4, .int v4), (5, .int v5), (6, .int v6)] [] σ (c52 v2 v3 v4 v5 v6 σ)) (v2 : Int32) (v3 : Int32) (v4 : Int32) (v5 : Int32) (v6 : Int32) (σ : qMem) : qAt wC mX9_addMisses (ρv) 125 [(0, .ref 68), (1, .ref k1), (2, .int v2), (3, .int v3), (4, .int v4), (5, .int v5), (6, .int v6)] [] σ (fX9_addMisses_b125 N k1 c3 c52 v2 v3 v4 v5 v6 σ) := by
  unfold fX9_addMisses_b125
  refine q_iinc (i := 6) (x := v6) (v := (v6 + 1)) (L' := [(6, .int (v6 + 1)), (0, .ref 68), (1, .ref k1), (2, .int v2), (3, .int v3), (4, .int v4), (5, .int v5)]) dX9_addMisses_125 6 rfl (q_cst v6 (by decide)) (Nat.le_of_ble_eq_true rfl) rfl ?_
  refine q_goto (tgt := 52) dX9_addMisses_128 (by decide) ?_
  exact q_sub [1, 2, 3, 4, 5, 6, 0] rfl (hc52 v2 v3 v4 v5 (v6 + 1) σ)

def fX9_addMisses_s80 (N : Nat) (k1 : Nat) (c3 : Int32 → Int32 → Int32 → Int32 → qMem → Option qMem) (c52 : Int32 → Int32 → Int32 → Int32 → Int32 → qMem → Option qMem) (c80 : Int32 → Int32 → Int32 → Int32 → Int32 → Int32 → Int32 → qMem → Option qMem) (v2 : Int32) (v3 : Int32) (v4 : Int32) (v5 : Int32) (v6 : Int32) (v7 : Int32) (v8 : Int32) (σ : qMem) : Option qMem :=
  (if ((v6 + 1) * 6) ≤ v8 then (fX9_addMisses_b125 N k1 c3 c52 v2 v3 v4 v5 v6 σ) else (if v7 = 0 then (fX9_addMisses_b125 N k1 c3 c52 v2 v3 v4 v5 v6 σ) else (if ck v8 42 = true then (nmI ((gi σ k1 v8.toNatClampNeg) &&& v7) fun x6 => (if ck v8 42 = true then (if ck v8 42 = true then (nmM (si σ k1 v8.toNatClampNeg ((gi σ k1 v8.toNatClampNeg) ^^^ v7)) fun s7 => (c80 v2 v3 v4 v5 v6 x6 (v8 + 1) s7)) else none) else none)) else none)))
set_option maxRecDepth 20000 in
set_option maxHeartbeats 4000000 in
theorem aX9_addMisses_s80 (N : Nat) (k1 : Nat) (hk1 : wC.1[k1]? = some (.inl (.int, 42, []))) (c3 : Int32 → Int32 → Int32 → Int32 → qMem → Option qMem) (c52 : Int32 → Int32 → Int32 → Int32 → Int32 → qMem → Option qMem) (hc3 : ∀ (v2 : Int32) (v3 : Int32) (v4 : Int32) (v5 : Int32) (σ : qMem), qAt wC mX9_addMisses (ρv) 3 [(0, .ref 68), (1, .ref k1), (2, .int v2), (3, .int v3), (4, .int v4), (5, .int v5)] [] σ (c3 v2 v3 v4 v5 σ)) (hc52 : ∀ (v2 : Int32) (v3 : Int32) (v4 : Int32) (v5 : Int32) (v6 : Int32) (σ : qMem), qAt wC mX9_addMisses (ρv) 52 [(0, .ref 68), (1, .ref k1), (2, .int v2), (3, .int v3), (4, .int v4), (5, .int v5), (6, .int v6)] [] σ (c52 v2 v3 v4 v5 v6 σ)) (c80 : Int32 → Int32 → Int32 → Int32 → Int32 → Int32 → Int32 → qMem → Option qMem) (hc80 : ∀ (v2 : Int32) (v3 : Int32) (v4 : Int32) (v5 : Int32) (v6 : Int32) (v7 : Int32) (v8 : Int32) (σ : qMem), qAt wC mX9_addMisses (ρv) 80 [(0, .ref 68), (1, .ref k1), (2, .int v2), (3, .int v3), (4, .int v4), (5, .int v5), (6, .int v6), (7, .int v7), (8, .int v8)] [] σ (c80 v2 v3 v4 v5 v6 v7 v8 σ)) (v2 : Int32) (v3 : Int32) (v4 : Int32) (v5 : Int32) (v6 : Int32) (v7 : Int32) (v8 : Int32) (σ : qMem) : qAt wC mX9_addMisses (ρv) 80 [(0, .ref 68), (1, .ref k1), (2, .int v2), (3, .int v3), (4, .int v4), (5, .int v5), (6, .int v6), (7, .int v7), (8, .int v8)] [] σ (fX9_addMisses_s80 N k1 c3 c52 c80 v2 v3 v4 v5 v6 v7 v8 σ) := by
  unfold fX9_addMisses_s80
  refine q_iload (i := 8) (x := v8) dX9_addMisses_80 8 rfl ?_
  refine q_iload (i := 6) (x := v6) dX9_addMisses_82 6 rfl ?_
  refine q_iconst (v := 1) dX9_addMisses_84 (by decide) ?_
  refine q_iadd dX9_addMisses_85 ?_
  refine q_bipush (v := 6) dX9_addMisses_86 (by decide) ?_
  refine q_imul dX9_addMisses_88 ?_
  refine q_icmp_ge (tgt := 125) dX9_addMisses_89 (by decide) ?_ ?_
  · exact q_sub [0, 1, 2, 3, 4, 5, 6] rfl (aX9_addMisses_b125 N k1 hk1 c3 c52 hc3 hc52 v2 v3 v4 v5 v6 σ)
  refine q_iload (i := 7) (x := v7) dX9_addMisses_92 7 rfl ?_
  refine q_if_eq (tgt := 125) dX9_addMisses_94 (by decide) ?_ ?_
  · exact q_sub [0, 1, 2, 3, 4, 5, 6] rfl (aX9_addMisses_b125 N k1 hk1 c3 c52 hc3 hc52 v2 v3 v4 v5 v6 σ)
  refine q_aload_n (i := 1) (x := k1) dX9_addMisses_97 rfl 1 rfl ?_
  refine q_iload (i := 8) (x := v8) dX9_addMisses_98 8 rfl ?_
  refine q_iald dX9_addMisses_100 hk1 ?_
  refine q_iload (i := 7) (x := v7) dX9_addMisses_101 7 rfl ?_
  refine q_iand dX9_addMisses_103 ?_
  refine q_nmI (fun x6 => ?_)
  refine q_istore (i := 9) (L' := [(9, .int x6), (0, .ref 68), (1, .ref k1), (2, .int v2), (3, .int v3), (4, .int v4), (5, .int v5), (6, .int v6), (7, .int v7), (8, .int v8)]) dX9_addMisses_104 (Nat.le_of_ble_eq_true rfl) rfl ?_
  refine q_aload_n (i := 1) (x := k1) dX9_addMisses_106 rfl 2 rfl ?_
  refine q_iload (i := 8) (x := v8) dX9_addMisses_107 9 rfl ?_
  refine q_dup2 dX9_addMisses_109 rfl rfl ?_
  refine q_iald dX9_addMisses_110 hk1 ?_
  refine q_iload (i := 7) (x := v7) dX9_addMisses_111 8 rfl ?_
  refine q_ixor dX9_addMisses_113 ?_
  refine q_iast dX9_addMisses_114 hk1 ?_
  refine q_nmM (fun s7 => ?_)
  refine q_iload (i := 9) (x := x6) dX9_addMisses_115 0 rfl ?_
  refine q_istore (i := 7) (L' := [(7, .int x6), (9, .int x6), (0, .ref 68), (1, .ref k1), (2, .int v2), (3, .int v3), (4, .int v4), (5, .int v5), (6, .int v6), (8, .int v8)]) dX9_addMisses_117 (Nat.le_of_ble_eq_true rfl) rfl ?_
  refine q_iinc (i := 8) (x := v8) (v := (v8 + 1)) (L' := [(8, .int (v8 + 1)), (7, .int x6), (9, .int x6), (0, .ref 68), (1, .ref k1), (2, .int v2), (3, .int v3), (4, .int v4), (5, .int v5), (6, .int v6)]) dX9_addMisses_119 9 rfl (q_cst v8 (by decide)) (Nat.le_of_ble_eq_true rfl) rfl ?_
  refine q_goto (tgt := 80) dX9_addMisses_122 (by decide) ?_
  exact q_sub [3, 4, 5, 6, 7, 8, 9, 1, 0] rfl (hc80 v2 v3 v4 v5 v6 x6 (v8 + 1) s7)
def fX9_addMisses_l80 (N : Nat) (k1 : Nat) (c3 : Int32 → Int32 → Int32 → Int32 → qMem → Option qMem) (c52 : Int32 → Int32 → Int32 → Int32 → Int32 → qMem → Option qMem) : Nat → Int32 → Int32 → Int32 → Int32 → Int32 → Int32 → Int32 → qMem → Option qMem
  | 0 => fun _ _ _ _ _ _ _ _ => none
  | n + 1 => fun v2 v3 v4 v5 v6 v7 v8 σ => fX9_addMisses_s80 N k1 c3 c52 (fX9_addMisses_l80 N k1 c3 c52 n) v2 v3 v4 v5 v6 v7 v8 σ
theorem aX9_addMisses_l80 (N : Nat) (k1 : Nat) (hk1 : wC.1[k1]? = some (.inl (.int, 42, []))) (c3 : Int32 → Int32 → Int32 → Int32 → qMem → Option qMem) (c52 : Int32 → Int32 → Int32 → Int32 → Int32 → qMem → Option qMem) (hc3 : ∀ (v2 : Int32) (v3 : Int32) (v4 : Int32) (v5 : Int32) (σ : qMem), qAt wC mX9_addMisses (ρv) 3 [(0, .ref 68), (1, .ref k1), (2, .int v2), (3, .int v3), (4, .int v4), (5, .int v5)] [] σ (c3 v2 v3 v4 v5 σ)) (hc52 : ∀ (v2 : Int32) (v3 : Int32) (v4 : Int32) (v5 : Int32) (v6 : Int32) (σ : qMem), qAt wC mX9_addMisses (ρv) 52 [(0, .ref 68), (1, .ref k1), (2, .int v2), (3, .int v3), (4, .int v4), (5, .int v5), (6, .int v6)] [] σ (c52 v2 v3 v4 v5 v6 σ)) : ∀ (n : Nat) (v2 : Int32) (v3 : Int32) (v4 : Int32) (v5 : Int32) (v6 : Int32) (v7 : Int32) (v8 : Int32) (σ : qMem), qAt wC mX9_addMisses (ρv) 80 [(0, .ref 68), (1, .ref k1), (2, .int v2), (3, .int v3), (4, .int v4), (5, .int v5), (6, .int v6), (7, .int v7), (8, .int v8)] [] σ (fX9_addMisses_l80 N k1 c3 c52 n v2 v3 v4 v5 v6 v7 v8 σ) := by
  intro n
  induction n with
  | zero => intro v2 v3 v4 v5 v6 v7 v8 σ; exact q_none
  | succ n ih => intro v2 v3 v4 v5 v6 v7 v8 σ; exact aX9_addMisses_s80 N k1 hk1 c3 c52 hc3 hc52 (fX9_addMisses_l80 N k1 c3 c52 n) ih v2 v3 v4 v5 v6 v7 v8 σ

def fX9_addMisses_s52 (N : Nat) (k1 : Nat) (c3 : Int32 → Int32 → Int32 → Int32 → qMem → Option qMem) (c52 : Int32 → Int32 → Int32 → Int32 → Int32 → qMem → Option qMem) (v2 : Int32) (v3 : Int32) (v4 : Int32) (v5 : Int32) (v6 : Int32) (σ : qMem) : Option qMem :=
  (if 7 ≤ v6 then (c3 v2 v3 v4 (v5 + 1) σ) else (if ck v6 7 = true then (nmI ((gi σ 63 v6.toNatClampNeg) ^^^ (-1)) fun x5 => (fX9_addMisses_l80 N k1 c3 c52 N v2 v3 v4 v5 v6 x5 (v6 * 6) σ)) else none))
set_option maxRecDepth 20000 in
set_option maxHeartbeats 4000000 in
theorem aX9_addMisses_s52 (N : Nat) (k1 : Nat) (hk1 : wC.1[k1]? = some (.inl (.int, 42, []))) (c3 : Int32 → Int32 → Int32 → Int32 → qMem → Option qMem) (hc3 : ∀ (v2 : Int32) (v3 : Int32) (v4 : Int32) (v5 : Int32) (σ : qMem), qAt wC mX9_addMisses (ρv) 3 [(0, .ref 68), (1, .ref k1), (2, .int v2), (3, .int v3), (4, .int v4), (5, .int v5)] [] σ (c3 v2 v3 v4 v5 σ)) (c52 : Int32 → Int32 → Int32 → Int32 → Int32 → qMem → Option qMem) (hc52 : ∀ (v2 : Int32) (v3 : Int32) (v4 : Int32) (v5 : Int32) (v6 : Int32) (σ : qMem), qAt wC mX9_addMisses (ρv) 52 [(0, .ref 68), (1, .ref k1), (2, .int v2), (3, .int v3), (4, .int v4), (5, .int v5), (6, .int v6)] [] σ (c52 v2 v3 v4 v5 v6 σ)) (v2 : Int32) (v3 : Int32) (v4 : Int32) (v5 : Int32) (v6 : Int32) (σ : qMem) : qAt wC mX9_addMisses (ρv) 52 [(0, .ref 68), (1, .ref k1), (2, .int v2), (3, .int v3), (4, .int v4), (5, .int v5), (6, .int v6)] [] σ (fX9_addMisses_s52 N k1 c3 c52 v2 v3 v4 v5 v6 σ) := by
  unfold fX9_addMisses_s52
  refine q_iload (i := 6) (x := v6) dX9_addMisses_52 6 rfl ?_
  refine q_bipush (v := 7) dX9_addMisses_54 (by decide) ?_
  refine q_icmp_ge (tgt := 131) dX9_addMisses_56 (by decide) ?_ ?_
  · refine q_iinc (i := 5) (x := v5) (v := (v5 + 1)) (L' := [(5, .int (v5 + 1)), (0, .ref 68), (1, .ref k1), (2, .int v2), (3, .int v3), (4, .int v4), (6, .int v6)]) dX9_addMisses_131 5 rfl (q_cst v5 (by decide)) (Nat.le_of_ble_eq_true rfl) rfl ?_
    refine q_goto (tgt := 3) dX9_addMisses_134 (by decide) ?_
    exact q_sub [1, 2, 3, 4, 5, 0] rfl (hc3 v2 v3 v4 (v5 + 1) σ)
  refine q_aload_n (i := 0) (x := 68) dX9_addMisses_59 rfl 0 rfl ?_
  refine q_getr (t := 44) dX9_addMisses_60 foX9_39 zC_68 rfl ?_
  refine q_getr (t := 63) dX9_addMisses_63 foX9_103 zC_44 rfl ?_
  refine q_iload (i := 6) (x := v6) dX9_addMisses_66 6 rfl ?_
  refine q_iald dX9_addMisses_68 zC_63 ?_
  refine q_iconst (v := (-1)) dX9_addMisses_69 (by decide) ?_
  refine q_ixor dX9_addMisses_70 ?_
  refine q_nmI (fun x5 => ?_)
  refine q_istore (i := 7) (L' := [(7, .int x5), (0, .ref 68), (1, .ref k1), (2, .int v2), (3, .int v3), (4, .int v4), (5, .int v5), (6, .int v6)]) dX9_addMisses_71 (Nat.le_of_ble_eq_true rfl) rfl ?_
  refine q_iload (i := 6) (x := v6) dX9_addMisses_73 7 rfl ?_
  refine q_bipush (v := 6) dX9_addMisses_75 (by decide) ?_
  refine q_imul dX9_addMisses_77 ?_
  refine q_istore (i := 8) (L' := [(8, .int (v6 * 6)), (7, .int x5), (0, .ref 68), (1, .ref k1), (2, .int v2), (3, .int v3), (4, .int v4), (5, .int v5), (6, .int v6)]) dX9_addMisses_78 (Nat.le_of_ble_eq_true rfl) rfl ?_
  exact q_sub [2, 3, 4, 5, 6, 7, 8, 1, 0] rfl (aX9_addMisses_l80 N k1 hk1 c3 c52 hc3 hc52 N v2 v3 v4 v5 v6 x5 (v6 * 6) σ)
def fX9_addMisses_l52 (N : Nat) (k1 : Nat) (c3 : Int32 → Int32 → Int32 → Int32 → qMem → Option qMem) : Nat → Int32 → Int32 → Int32 → Int32 → Int32 → qMem → Option qMem
  | 0 => fun _ _ _ _ _ _ => none
  | n + 1 => fun v2 v3 v4 v5 v6 σ => fX9_addMisses_s52 N k1 c3 (fX9_addMisses_l52 N k1 c3 n) v2 v3 v4 v5 v6 σ
theorem aX9_addMisses_l52 (N : Nat) (k1 : Nat) (hk1 : wC.1[k1]? = some (.inl (.int, 42, []))) (c3 : Int32 → Int32 → Int32 → Int32 → qMem → Option qMem) (hc3 : ∀ (v2 : Int32) (v3 : Int32) (v4 : Int32) (v5 : Int32) (σ : qMem), qAt wC mX9_addMisses (ρv) 3 [(0, .ref 68), (1, .ref k1), (2, .int v2), (3, .int v3), (4, .int v4), (5, .int v5)] [] σ (c3 v2 v3 v4 v5 σ)) : ∀ (n : Nat) (v2 : Int32) (v3 : Int32) (v4 : Int32) (v5 : Int32) (v6 : Int32) (σ : qMem), qAt wC mX9_addMisses (ρv) 52 [(0, .ref 68), (1, .ref k1), (2, .int v2), (3, .int v3), (4, .int v4), (5, .int v5), (6, .int v6)] [] σ (fX9_addMisses_l52 N k1 c3 n v2 v3 v4 v5 v6 σ) := by
  intro n
  induction n with
  | zero => intro v2 v3 v4 v5 v6 σ; exact q_none
  | succ n ih => intro v2 v3 v4 v5 v6 σ; exact aX9_addMisses_s52 N k1 hk1 c3 hc3 (fX9_addMisses_l52 N k1 c3 n) ih v2 v3 v4 v5 v6 σ

def fX9_addMisses_s3 (N : Nat) (k1 : Nat) (c3 : Int32 → Int32 → Int32 → Int32 → qMem → Option qMem) (v2 : Int32) (v3 : Int32) (v4 : Int32) (v5 : Int32) (σ : qMem) : Option qMem :=
  (if ck v2 2 = true then (if (gi σ (46 + 2 * v2.toNatClampNeg) 3) ≤ v5 then (some σ) else (if ck v2 2 = true then ((fX8_at (46 + 2 * v2.toNatClampNeg) 108 v5 1 σ).bind fun y3 => ((fX3_look N v2 v5 (y3 + v3) v4 σ).bind fun y4 => (fX9_addMisses_l52 N k1 c3 N v2 v3 v4 v5 0 y4))) else none)) else none)
set_option maxRecDepth 20000 in
set_option maxHeartbeats 4000000 in
theorem aX9_addMisses_s3 (N : Nat) (k1 : Nat) (hk1 : wC.1[k1]? = some (.inl (.int, 42, []))) (c3 : Int32 → Int32 → Int32 → Int32 → qMem → Option qMem) (hc3 : ∀ (v2 : Int32) (v3 : Int32) (v4 : Int32) (v5 : Int32) (σ : qMem), qAt wC mX9_addMisses (ρv) 3 [(0, .ref 68), (1, .ref k1), (2, .int v2), (3, .int v3), (4, .int v4), (5, .int v5)] [] σ (c3 v2 v3 v4 v5 σ)) (v2 : Int32) (v3 : Int32) (v4 : Int32) (v5 : Int32) (σ : qMem) : qAt wC mX9_addMisses (ρv) 3 [(0, .ref 68), (1, .ref k1), (2, .int v2), (3, .int v3), (4, .int v4), (5, .int v5)] [] σ (fX9_addMisses_s3 N k1 c3 v2 v3 v4 v5 σ) := by
  unfold fX9_addMisses_s3
  refine q_iload (i := 5) (x := v5) dX9_addMisses_3 5 rfl ?_
  refine q_aload_n (i := 0) (x := 68) dX9_addMisses_5 rfl 0 rfl ?_
  refine q_getr (t := 44) dX9_addMisses_6 foX9_39 zC_68 rfl ?_
  refine q_getr (t := 45) dX9_addMisses_9 foX9_73 zC_44 rfl ?_
  refine q_iload_n (i := 2) (x := v2) dX9_addMisses_12 rfl 2 rfl ?_
  refine q_aald (t0 := 7) (fun j => 46 + 2 * j) dX9_addMisses_13 zC_45 (fun _ => rfl) (by decide) (fun hc_1 => ?_)
  refine q_geti dX9_addMisses_14 foX9_77 (xRowsF hc_1).1 rfl ?_
  refine q_icmp_ge (tgt := 137) dX9_addMisses_17 (by decide) ?_ ?_
  · exact q_vret (y := σ) dX9_addMisses_137 rfl rfl
  refine q_aload_n (i := 0) (x := 68) dX9_addMisses_20 rfl 0 rfl ?_
  refine q_getr (t := 44) dX9_addMisses_21 foX9_39 zC_68 rfl ?_
  refine q_iload_n (i := 2) (x := v2) dX9_addMisses_24 rfl 2 rfl ?_
  refine q_iload (i := 5) (x := v5) dX9_addMisses_25 5 rfl ?_
  refine q_aload_n (i := 0) (x := 68) dX9_addMisses_27 rfl 0 rfl ?_
  refine q_getr (t := 44) dX9_addMisses_28 foX9_39 zC_68 rfl ?_
  refine q_getr (t := 45) dX9_addMisses_31 foX9_73 zC_44 rfl ?_
  refine q_iload_n (i := 2) (x := v2) dX9_addMisses_34 rfl 2 rfl ?_
  refine q_aald (t0 := 7) (fun j => 46 + 2 * j) dX9_addMisses_35 zC_45 (fun _ => rfl) (by decide) (fun hc_2 => ?_)
  refine q_iload (i := 5) (x := v5) dX9_addMisses_36 5 rfl ?_
  refine q_iconst (v := 1) dX9_addMisses_38 (by decide) ?_
  refine q_cVp mX8_at [.int v5, .int 1] (st := [.int v5, .int v2, .ref 44]) dX9_addMisses_39 (svX9_96) ⟨Nat.le_of_ble_eq_true rfl, Nat.le_of_ble_eq_true rfl⟩ (xRowsF hc_2).1 rfl rfl rfl (Nat.le_of_ble_eq_true rfl) (kX8_at (46 + 2 * v2.toNatClampNeg) 108 v5 1 (xRowsF hc_2) σ) (fun y3 => ?_)
  refine q_iload_n (i := 3) (x := v3) dX9_addMisses_42 rfl 3 rfl ?_
  refine q_iadd dX9_addMisses_43 ?_
  refine q_iload (i := 4) (x := v4) dX9_addMisses_44 4 rfl ?_
  refine q_cVv mX3_look [.int v2, .int v5, .int (y3 + v3), .int v4] (st := []) dX9_addMisses_46 (svX9_100) ⟨Nat.le_of_ble_eq_true rfl, Nat.le_of_ble_eq_true rfl⟩ zC_44 rfl rfl rfl (Nat.le_of_ble_eq_true rfl) (kX3_look N v2 v5 (y3 + v3) v4 σ) (fun y4 => ?_)
  refine q_iconst (v := 0) dX9_addMisses_49 (by decide) ?_
  refine q_istore (i := 6) (L' := [(6, .int 0), (0, .ref 68), (1, .ref k1), (2, .int v2), (3, .int v3), (4, .int v4), (5, .int v5)]) dX9_addMisses_50 (Nat.le_of_ble_eq_true rfl) rfl ?_
  exact q_sub [1, 2, 3, 4, 5, 6, 0] rfl (aX9_addMisses_l52 N k1 hk1 c3 hc3 N v2 v3 v4 v5 0 y4)
def fX9_addMisses_l3 (N : Nat) (k1 : Nat) : Nat → Int32 → Int32 → Int32 → Int32 → qMem → Option qMem
  | 0 => fun _ _ _ _ _ => none
  | n + 1 => fun v2 v3 v4 v5 σ => fX9_addMisses_s3 N k1 (fX9_addMisses_l3 N k1 n) v2 v3 v4 v5 σ
theorem aX9_addMisses_l3 (N : Nat) (k1 : Nat) (hk1 : wC.1[k1]? = some (.inl (.int, 42, []))) : ∀ (n : Nat) (v2 : Int32) (v3 : Int32) (v4 : Int32) (v5 : Int32) (σ : qMem), qAt wC mX9_addMisses (ρv) 3 [(0, .ref 68), (1, .ref k1), (2, .int v2), (3, .int v3), (4, .int v4), (5, .int v5)] [] σ (fX9_addMisses_l3 N k1 n v2 v3 v4 v5 σ) := by
  intro n
  induction n with
  | zero => intro v2 v3 v4 v5 σ; exact q_none
  | succ n ih => intro v2 v3 v4 v5 σ; exact aX9_addMisses_s3 N k1 hk1 (fX9_addMisses_l3 N k1 n) ih v2 v3 v4 v5 σ

def fX9_addMisses (N : Nat) (k1 : Nat) (p2 : Int32) (p3 : Int32) (p4 : Int32) (σ : qMem) : Option qMem :=
  (fX9_addMisses_l3 N k1 N p2 p3 p4 0 σ)
set_option maxRecDepth 20000 in
set_option maxHeartbeats 4000000 in
theorem aX9_addMisses  (N : Nat) (k1 : Nat) (p2 : Int32) (p3 : Int32) (p4 : Int32) (hk1 : wC.1[k1]? = some (.inl (.int, 42, []))) (σ : qMem) : qAt wC mX9_addMisses (ρv) 0 [(0, .ref 68), (1, .ref k1), (2, .int p2), (3, .int p3), (4, .int p4)] [] σ (fX9_addMisses N k1 p2 p3 p4 σ) := by
  unfold fX9_addMisses
  refine q_iconst (v := 0) dX9_addMisses_0 (by decide) ?_
  refine q_istore (i := 5) (L' := [(5, .int 0), (0, .ref 68), (1, .ref k1), (2, .int p2), (3, .int p3), (4, .int p4)]) dX9_addMisses_1 (Nat.le_of_ble_eq_true rfl) rfl ?_
  exact q_sub [1, 2, 3, 4, 5, 0] rfl (aX9_addMisses_l3 N k1 hk1 N p2 p3 p4 0 σ)
theorem kX9_addMisses  (N : Nat) (k1 : Nat) (p2 : Int32) (p3 : Int32) (p4 : Int32) (hk1 : wC.1[k1]? = some (.inl (.int, 42, []))) (σ : qMem) : qMc wC mX9_addMisses (ρv) [.ref 68, .ref k1, .int p2, .int p3, .int p4] σ (fX9_addMisses N k1 p2 p3 p4 σ) := qMc_of (moX9_addMisses) (Nat.le_of_ble_eq_true rfl) (aX9_addMisses N k1 p2 p3 p4 hk1 σ)

theorem dX9_takeFewer_0 : decode cX9_takeFewer 0 = .ok (.iconst 0, 1) := by decide +kernel
theorem dX9_takeFewer_1 : decode cX9_takeFewer 1 = .ok (.istore_n 2, 1) := by decide +kernel
theorem dX9_takeFewer_2 : decode cX9_takeFewer 2 = .ok (.iconst (-1), 1) := by decide +kernel
theorem dX9_takeFewer_3 : decode cX9_takeFewer 3 = .ok (.istore_n 3, 1) := by decide +kernel
theorem dX9_takeFewer_4 : decode cX9_takeFewer 4 = .ok (.iload_n 1, 1) := by decide +kernel
theorem dX9_takeFewer_5 : decode cX9_takeFewer 5 = .ok (.bipush 6, 2) := by decide +kernel
theorem dX9_takeFewer_7 : decode cX9_takeFewer 7 = .ok (.iadd, 1) := by decide +kernel
theorem dX9_takeFewer_8 : decode cX9_takeFewer 8 = .ok (.iconst 1, 1) := by decide +kernel
theorem dX9_takeFewer_9 : decode cX9_takeFewer 9 = .ok (.isub, 1) := by decide +kernel
theorem dX9_takeFewer_10 : decode cX9_takeFewer 10 = .ok (.istore 4, 2) := by decide +kernel
theorem dX9_takeFewer_12 : decode cX9_takeFewer 12 = .ok (.iload 4, 2) := by decide +kernel
theorem dX9_takeFewer_14 : decode cX9_takeFewer 14 = .ok (.iload_n 1, 1) := by decide +kernel
theorem dX9_takeFewer_15 : decode cX9_takeFewer 15 = .ok (.if_icmp .lt 51, 3) := by decide +kernel
theorem dX9_takeFewer_18 : decode cX9_takeFewer 18 = .ok (.iload_n 2, 1) := by decide +kernel
theorem dX9_takeFewer_19 : decode cX9_takeFewer 19 = .ok (.iload_n 3, 1) := by decide +kernel
theorem dX9_takeFewer_20 : decode cX9_takeFewer 20 = .ok (.aload_n 0, 1) := by decide +kernel
theorem dX9_takeFewer_21 : decode cX9_takeFewer 21 = .ok (.getfield 15, 3) := by decide +kernel
theorem dX9_takeFewer_24 : decode cX9_takeFewer 24 = .ok (.iload 4, 2) := by decide +kernel
theorem dX9_takeFewer_26 : decode cX9_takeFewer 26 = .ok (.iaload, 1) := by decide +kernel
theorem dX9_takeFewer_27 : decode cX9_takeFewer 27 = .ok (.iconst (-1), 1) := by decide +kernel
theorem dX9_takeFewer_28 : decode cX9_takeFewer 28 = .ok (.ixor, 1) := by decide +kernel
theorem dX9_takeFewer_29 : decode cX9_takeFewer 29 = .ok (.iand, 1) := by decide +kernel
theorem dX9_takeFewer_30 : decode cX9_takeFewer 30 = .ok (.aload_n 0, 1) := by decide +kernel
theorem dX9_takeFewer_31 : decode cX9_takeFewer 31 = .ok (.getfield 18, 3) := by decide +kernel
theorem dX9_takeFewer_34 : decode cX9_takeFewer 34 = .ok (.iload 4, 2) := by decide +kernel
theorem dX9_takeFewer_36 : decode cX9_takeFewer 36 = .ok (.iaload, 1) := by decide +kernel
theorem dX9_takeFewer_37 : decode cX9_takeFewer 37 = .ok (.iand, 1) := by decide +kernel
theorem dX9_takeFewer_38 : decode cX9_takeFewer 38 = .ok (.ior, 1) := by decide +kernel
theorem dX9_takeFewer_39 : decode cX9_takeFewer 39 = .ok (.istore_n 2, 1) := by decide +kernel
theorem dX9_takeFewer_40 : decode cX9_takeFewer 40 = .ok (.iload_n 3, 1) := by decide +kernel
theorem dX9_takeFewer_41 : decode cX9_takeFewer 41 = .ok (.aload_n 0, 1) := by decide +kernel
theorem dX9_takeFewer_42 : decode cX9_takeFewer 42 = .ok (.getfield 15, 3) := by decide +kernel
theorem dX9_takeFewer_45 : decode cX9_takeFewer 45 = .ok (.iload 4, 2) := by decide +kernel
theorem dX9_takeFewer_47 : decode cX9_takeFewer 47 = .ok (.iaload, 1) := by decide +kernel
theorem dX9_takeFewer_48 : decode cX9_takeFewer 48 = .ok (.aload_n 0, 1) := by decide +kernel
theorem dX9_takeFewer_49 : decode cX9_takeFewer 49 = .ok (.getfield 18, 3) := by decide +kernel
theorem dX9_takeFewer_52 : decode cX9_takeFewer 52 = .ok (.iload 4, 2) := by decide +kernel
theorem dX9_takeFewer_54 : decode cX9_takeFewer 54 = .ok (.iaload, 1) := by decide +kernel
theorem dX9_takeFewer_55 : decode cX9_takeFewer 55 = .ok (.ixor, 1) := by decide +kernel
theorem dX9_takeFewer_56 : decode cX9_takeFewer 56 = .ok (.iconst (-1), 1) := by decide +kernel
theorem dX9_takeFewer_57 : decode cX9_takeFewer 57 = .ok (.ixor, 1) := by decide +kernel
theorem dX9_takeFewer_58 : decode cX9_takeFewer 58 = .ok (.iand, 1) := by decide +kernel
theorem dX9_takeFewer_59 : decode cX9_takeFewer 59 = .ok (.istore_n 3, 1) := by decide +kernel
theorem dX9_takeFewer_60 : decode cX9_takeFewer 60 = .ok (.iinc 4 (-1), 3) := by decide +kernel
theorem dX9_takeFewer_63 : decode cX9_takeFewer 63 = .ok (.goto (-51), 3) := by decide +kernel
theorem dX9_takeFewer_66 : decode cX9_takeFewer 66 = .ok (.iload_n 1, 1) := by decide +kernel
theorem dX9_takeFewer_67 : decode cX9_takeFewer 67 = .ok (.istore 4, 2) := by decide +kernel
theorem dX9_takeFewer_69 : decode cX9_takeFewer 69 = .ok (.iload 4, 2) := by decide +kernel
theorem dX9_takeFewer_71 : decode cX9_takeFewer 71 = .ok (.iload_n 1, 1) := by decide +kernel
theorem dX9_takeFewer_72 : decode cX9_takeFewer 72 = .ok (.bipush 6, 2) := by decide +kernel
theorem dX9_takeFewer_74 : decode cX9_takeFewer 74 = .ok (.iadd, 1) := by decide +kernel
theorem dX9_takeFewer_75 : decode cX9_takeFewer 75 = .ok (.if_icmp .ge 37, 3) := by decide +kernel
theorem dX9_takeFewer_78 : decode cX9_takeFewer 78 = .ok (.aload_n 0, 1) := by decide +kernel
theorem dX9_takeFewer_79 : decode cX9_takeFewer 79 = .ok (.getfield 18, 3) := by decide +kernel
theorem dX9_takeFewer_82 : decode cX9_takeFewer 82 = .ok (.iload 4, 2) := by decide +kernel
theorem dX9_takeFewer_84 : decode cX9_takeFewer 84 = .ok (.aload_n 0, 1) := by decide +kernel
theorem dX9_takeFewer_85 : decode cX9_takeFewer 85 = .ok (.getfield 15, 3) := by decide +kernel
theorem dX9_takeFewer_88 : decode cX9_takeFewer 88 = .ok (.iload 4, 2) := by decide +kernel
theorem dX9_takeFewer_90 : decode cX9_takeFewer 90 = .ok (.iaload, 1) := by decide +kernel
theorem dX9_takeFewer_91 : decode cX9_takeFewer 91 = .ok (.iload_n 2, 1) := by decide +kernel
theorem dX9_takeFewer_92 : decode cX9_takeFewer 92 = .ok (.iand, 1) := by decide +kernel
theorem dX9_takeFewer_93 : decode cX9_takeFewer 93 = .ok (.aload_n 0, 1) := by decide +kernel
theorem dX9_takeFewer_94 : decode cX9_takeFewer 94 = .ok (.getfield 18, 3) := by decide +kernel
theorem dX9_takeFewer_97 : decode cX9_takeFewer 97 = .ok (.iload 4, 2) := by decide +kernel
theorem dX9_takeFewer_99 : decode cX9_takeFewer 99 = .ok (.iaload, 1) := by decide +kernel
theorem dX9_takeFewer_100 : decode cX9_takeFewer 100 = .ok (.iload_n 2, 1) := by decide +kernel
theorem dX9_takeFewer_101 : decode cX9_takeFewer 101 = .ok (.iconst (-1), 1) := by decide +kernel
theorem dX9_takeFewer_102 : decode cX9_takeFewer 102 = .ok (.ixor, 1) := by decide +kernel
theorem dX9_takeFewer_103 : decode cX9_takeFewer 103 = .ok (.iand, 1) := by decide +kernel
theorem dX9_takeFewer_104 : decode cX9_takeFewer 104 = .ok (.ior, 1) := by decide +kernel
theorem dX9_takeFewer_105 : decode cX9_takeFewer 105 = .ok (.iastore, 1) := by decide +kernel
theorem dX9_takeFewer_106 : decode cX9_takeFewer 106 = .ok (.iinc 4 1, 3) := by decide +kernel
theorem dX9_takeFewer_109 : decode cX9_takeFewer 109 = .ok (.goto (-40), 3) := by decide +kernel
theorem dX9_takeFewer_112 : decode cX9_takeFewer 112 = .ok (.return_, 1) := by decide +kernel
def fX9_takeFewer_s69 (N : Nat) (c69 : Int32 → Int32 → Int32 → qMem → Option qMem) (v1 : Int32) (v2 : Int32) (v4 : Int32) (σ : qMem) : Option qMem :=
  (if (v1 + 6) ≤ v4 then (some σ) else (if ck v4 42 = true then (if ck v4 42 = true then (if ck v4 42 = true then (nmM (si σ 71 v4.toNatClampNeg (((gi σ 70 v4.toNatClampNeg) &&& v2) ||| ((gi σ 71 v4.toNatClampNeg) &&& (v2 ^^^ (-1))))) fun s3 => (c69 v1 v2 (v4 + 1) s3)) else none) else none) else none))
set_option maxRecDepth 20000 in
set_option maxHeartbeats 4000000 in
theorem aX9_takeFewer_s69 (N : Nat) (c69 : Int32 → Int32 → Int32 → qMem → Option qMem) (hc69 : ∀ (v1 : Int32) (v2 : Int32) (v4 : Int32) (σ : qMem), qAt wC mX9_takeFewer (ρv) 69 [(0, .ref 68), (1, .int v1), (2, .int v2), (4, .int v4)] [] σ (c69 v1 v2 v4 σ)) (v1 : Int32) (v2 : Int32) (v4 : Int32) (σ : qMem) : qAt wC mX9_takeFewer (ρv) 69 [(0, .ref 68), (1, .int v1), (2, .int v2), (4, .int v4)] [] σ (fX9_takeFewer_s69 N c69 v1 v2 v4 σ) := by
  unfold fX9_takeFewer_s69
  refine q_iload (i := 4) (x := v4) dX9_takeFewer_69 3 rfl ?_
  refine q_iload_n (i := 1) (x := v1) dX9_takeFewer_71 rfl 1 rfl ?_
  refine q_bipush (v := 6) dX9_takeFewer_72 (by decide) ?_
  refine q_iadd dX9_takeFewer_74 ?_
  refine q_icmp_ge (tgt := 112) dX9_takeFewer_75 (by decide) ?_ ?_
  · exact q_vret (y := σ) dX9_takeFewer_112 rfl rfl
  refine q_aload_n (i := 0) (x := 68) dX9_takeFewer_78 rfl 0 rfl ?_
  refine q_getr (t := 71) dX9_takeFewer_79 foX9_18 zC_68 rfl ?_
  refine q_iload (i := 4) (x := v4) dX9_takeFewer_82 3 rfl ?_
  refine q_aload_n (i := 0) (x := 68) dX9_takeFewer_84 rfl 0 rfl ?_
  refine q_getr (t := 70) dX9_takeFewer_85 foX9_15 zC_68 rfl ?_
  refine q_iload (i := 4) (x := v4) dX9_takeFewer_88 3 rfl ?_
  refine q_iald dX9_takeFewer_90 zC_70 ?_
  refine q_iload_n (i := 2) (x := v2) dX9_takeFewer_91 rfl 2 rfl ?_
  refine q_iand dX9_takeFewer_92 ?_
  refine q_aload_n (i := 0) (x := 68) dX9_takeFewer_93 rfl 0 rfl ?_
  refine q_getr (t := 71) dX9_takeFewer_94 foX9_18 zC_68 rfl ?_
  refine q_iload (i := 4) (x := v4) dX9_takeFewer_97 3 rfl ?_
  refine q_iald dX9_takeFewer_99 zC_71 ?_
  refine q_iload_n (i := 2) (x := v2) dX9_takeFewer_100 rfl 2 rfl ?_
  refine q_iconst (v := (-1)) dX9_takeFewer_101 (by decide) ?_
  refine q_ixor dX9_takeFewer_102 ?_
  refine q_iand dX9_takeFewer_103 ?_
  refine q_ior dX9_takeFewer_104 ?_
  refine q_iast dX9_takeFewer_105 zC_71 ?_
  refine q_nmM (fun s3 => ?_)
  refine q_iinc (i := 4) (x := v4) (v := (v4 + 1)) (L' := [(4, .int (v4 + 1)), (0, .ref 68), (1, .int v1), (2, .int v2)]) dX9_takeFewer_106 3 rfl (q_cst v4 (by decide)) (Nat.le_of_ble_eq_true rfl) rfl ?_
  refine q_goto (tgt := 69) dX9_takeFewer_109 (by decide) ?_
  exact q_sub [1, 2, 3, 0] rfl (hc69 v1 v2 (v4 + 1) s3)
def fX9_takeFewer_l69 (N : Nat) : Nat → Int32 → Int32 → Int32 → qMem → Option qMem
  | 0 => fun _ _ _ _ => none
  | n + 1 => fun v1 v2 v4 σ => fX9_takeFewer_s69 N (fX9_takeFewer_l69 N n) v1 v2 v4 σ
theorem aX9_takeFewer_l69 (N : Nat) : ∀ (n : Nat) (v1 : Int32) (v2 : Int32) (v4 : Int32) (σ : qMem), qAt wC mX9_takeFewer (ρv) 69 [(0, .ref 68), (1, .int v1), (2, .int v2), (4, .int v4)] [] σ (fX9_takeFewer_l69 N n v1 v2 v4 σ) := by
  intro n
  induction n with
  | zero => intro v1 v2 v4 σ; exact q_none
  | succ n ih => intro v1 v2 v4 σ; exact aX9_takeFewer_s69 N (fX9_takeFewer_l69 N n) ih v1 v2 v4 σ

def fX9_takeFewer_s12 (N : Nat) (c12 : Int32 → Int32 → Int32 → Int32 → qMem → Option qMem) (v1 : Int32) (v2 : Int32) (v3 : Int32) (v4 : Int32) (σ : qMem) : Option qMem :=
  (if v4 < v1 then (fX9_takeFewer_l69 N N v1 v2 v1 σ) else (if ck v4 42 = true then (if ck v4 42 = true then (nmI (v2 ||| ((v3 &&& ((gi σ 70 v4.toNatClampNeg) ^^^ (-1))) &&& (gi σ 71 v4.toNatClampNeg))) fun x1 => (if ck v4 42 = true then (if ck v4 42 = true then (nmI (v3 &&& (((gi σ 70 v4.toNatClampNeg) ^^^ (gi σ 71 v4.toNatClampNeg)) ^^^ (-1))) fun x2 => (c12 v1 x1 x2 (v4 + (-1)) σ)) else none) else none)) else none) else none))
set_option maxRecDepth 20000 in
set_option maxHeartbeats 4000000 in
theorem aX9_takeFewer_s12 (N : Nat) (c12 : Int32 → Int32 → Int32 → Int32 → qMem → Option qMem) (hc12 : ∀ (v1 : Int32) (v2 : Int32) (v3 : Int32) (v4 : Int32) (σ : qMem), qAt wC mX9_takeFewer (ρv) 12 [(0, .ref 68), (1, .int v1), (2, .int v2), (3, .int v3), (4, .int v4)] [] σ (c12 v1 v2 v3 v4 σ)) (v1 : Int32) (v2 : Int32) (v3 : Int32) (v4 : Int32) (σ : qMem) : qAt wC mX9_takeFewer (ρv) 12 [(0, .ref 68), (1, .int v1), (2, .int v2), (3, .int v3), (4, .int v4)] [] σ (fX9_takeFewer_s12 N c12 v1 v2 v3 v4 σ) := by
  unfold fX9_takeFewer_s12
  refine q_iload (i := 4) (x := v4) dX9_takeFewer_12 4 rfl ?_
  refine q_iload_n (i := 1) (x := v1) dX9_takeFewer_14 rfl 1 rfl ?_
  refine q_icmp_lt (tgt := 66) dX9_takeFewer_15 (by decide) ?_ ?_
  · refine q_iload_n (i := 1) (x := v1) dX9_takeFewer_66 rfl 1 rfl ?_
    refine q_istore (i := 4) (L' := [(4, .int v1), (0, .ref 68), (1, .int v1), (2, .int v2), (3, .int v3)]) dX9_takeFewer_67 (Nat.le_of_ble_eq_true rfl) rfl ?_
    exact q_sub [1, 2, 3, 0] rfl (aX9_takeFewer_l69 N N v1 v2 v1 σ)
  refine q_iload_n (i := 2) (x := v2) dX9_takeFewer_18 rfl 2 rfl ?_
  refine q_iload_n (i := 3) (x := v3) dX9_takeFewer_19 rfl 3 rfl ?_
  refine q_aload_n (i := 0) (x := 68) dX9_takeFewer_20 rfl 0 rfl ?_
  refine q_getr (t := 70) dX9_takeFewer_21 foX9_15 zC_68 rfl ?_
  refine q_iload (i := 4) (x := v4) dX9_takeFewer_24 4 rfl ?_
  refine q_iald dX9_takeFewer_26 zC_70 ?_
  refine q_iconst (v := (-1)) dX9_takeFewer_27 (by decide) ?_
  refine q_ixor dX9_takeFewer_28 ?_
  refine q_iand dX9_takeFewer_29 ?_
  refine q_aload_n (i := 0) (x := 68) dX9_takeFewer_30 rfl 0 rfl ?_
  refine q_getr (t := 71) dX9_takeFewer_31 foX9_18 zC_68 rfl ?_
  refine q_iload (i := 4) (x := v4) dX9_takeFewer_34 4 rfl ?_
  refine q_iald dX9_takeFewer_36 zC_71 ?_
  refine q_iand dX9_takeFewer_37 ?_
  refine q_ior dX9_takeFewer_38 ?_
  refine q_nmI (fun x1 => ?_)
  refine q_istore_n (i := 2) (L' := [(2, .int x1), (0, .ref 68), (1, .int v1), (3, .int v3), (4, .int v4)]) dX9_takeFewer_39 rfl (Nat.le_of_ble_eq_true rfl) rfl ?_
  refine q_iload_n (i := 3) (x := v3) dX9_takeFewer_40 rfl 3 rfl ?_
  refine q_aload_n (i := 0) (x := 68) dX9_takeFewer_41 rfl 1 rfl ?_
  refine q_getr (t := 70) dX9_takeFewer_42 foX9_15 zC_68 rfl ?_
  refine q_iload (i := 4) (x := v4) dX9_takeFewer_45 4 rfl ?_
  refine q_iald dX9_takeFewer_47 zC_70 ?_
  refine q_aload_n (i := 0) (x := 68) dX9_takeFewer_48 rfl 1 rfl ?_
  refine q_getr (t := 71) dX9_takeFewer_49 foX9_18 zC_68 rfl ?_
  refine q_iload (i := 4) (x := v4) dX9_takeFewer_52 4 rfl ?_
  refine q_iald dX9_takeFewer_54 zC_71 ?_
  refine q_ixor dX9_takeFewer_55 ?_
  refine q_iconst (v := (-1)) dX9_takeFewer_56 (by decide) ?_
  refine q_ixor dX9_takeFewer_57 ?_
  refine q_iand dX9_takeFewer_58 ?_
  refine q_nmI (fun x2 => ?_)
  refine q_istore_n (i := 3) (L' := [(3, .int x2), (2, .int x1), (0, .ref 68), (1, .int v1), (4, .int v4)]) dX9_takeFewer_59 rfl (Nat.le_of_ble_eq_true rfl) rfl ?_
  refine q_iinc (i := 4) (x := v4) (v := (v4 + (-1))) (L' := [(4, .int (v4 + (-1))), (3, .int x2), (2, .int x1), (0, .ref 68), (1, .int v1)]) dX9_takeFewer_60 4 rfl (q_cst v4 (by decide)) (Nat.le_of_ble_eq_true rfl) rfl ?_
  refine q_goto (tgt := 12) dX9_takeFewer_63 (by decide) ?_
  exact q_sub [3, 4, 2, 1, 0] rfl (hc12 v1 x1 x2 (v4 + (-1)) σ)
def fX9_takeFewer_l12 (N : Nat) : Nat → Int32 → Int32 → Int32 → Int32 → qMem → Option qMem
  | 0 => fun _ _ _ _ _ => none
  | n + 1 => fun v1 v2 v3 v4 σ => fX9_takeFewer_s12 N (fX9_takeFewer_l12 N n) v1 v2 v3 v4 σ
theorem aX9_takeFewer_l12 (N : Nat) : ∀ (n : Nat) (v1 : Int32) (v2 : Int32) (v3 : Int32) (v4 : Int32) (σ : qMem), qAt wC mX9_takeFewer (ρv) 12 [(0, .ref 68), (1, .int v1), (2, .int v2), (3, .int v3), (4, .int v4)] [] σ (fX9_takeFewer_l12 N n v1 v2 v3 v4 σ) := by
  intro n
  induction n with
  | zero => intro v1 v2 v3 v4 σ; exact q_none
  | succ n ih => intro v1 v2 v3 v4 σ; exact aX9_takeFewer_s12 N (fX9_takeFewer_l12 N n) ih v1 v2 v3 v4 σ

def fX9_takeFewer (N : Nat) (p1 : Int32) (σ : qMem) : Option qMem :=
  (fX9_takeFewer_l12 N N p1 0 (-1) ((p1 + 6) - 1) σ)
set_option maxRecDepth 20000 in
set_option maxHeartbeats 4000000 in
theorem aX9_takeFewer  (N : Nat) (p1 : Int32)  (σ : qMem) : qAt wC mX9_takeFewer (ρv) 0 [(0, .ref 68), (1, .int p1)] [] σ (fX9_takeFewer N p1 σ) := by
  unfold fX9_takeFewer
  refine q_iconst (v := 0) dX9_takeFewer_0 (by decide) ?_
  refine q_istore_n (i := 2) (L' := [(2, .int 0), (0, .ref 68), (1, .int p1)]) dX9_takeFewer_1 rfl (Nat.le_of_ble_eq_true rfl) rfl ?_
  refine q_iconst (v := (-1)) dX9_takeFewer_2 (by decide) ?_
  refine q_istore_n (i := 3) (L' := [(3, .int (-1)), (2, .int 0), (0, .ref 68), (1, .int p1)]) dX9_takeFewer_3 rfl (Nat.le_of_ble_eq_true rfl) rfl ?_
  refine q_iload_n (i := 1) (x := p1) dX9_takeFewer_4 rfl 3 rfl ?_
  refine q_bipush (v := 6) dX9_takeFewer_5 (by decide) ?_
  refine q_iadd dX9_takeFewer_7 ?_
  refine q_iconst (v := 1) dX9_takeFewer_8 (by decide) ?_
  refine q_isub dX9_takeFewer_9 ?_
  refine q_istore (i := 4) (L' := [(4, .int ((p1 + 6) - 1)), (3, .int (-1)), (2, .int 0), (0, .ref 68), (1, .int p1)]) dX9_takeFewer_10 (Nat.le_of_ble_eq_true rfl) rfl ?_
  exact q_sub [3, 4, 2, 1, 0] rfl (aX9_takeFewer_l12 N N p1 0 (-1) ((p1 + 6) - 1) σ)
theorem kX9_takeFewer  (N : Nat) (p1 : Int32)  (σ : qMem) : qMc wC mX9_takeFewer (ρv) [.ref 68, .int p1] σ (fX9_takeFewer N p1 σ) := qMc_of (moX9_takeFewer) (Nat.le_of_ble_eq_true rfl) (aX9_takeFewer N p1  σ)

theorem dX9_tally_0 : decode cX9_tally 0 = .ok (.aload_n 0, 1) := by decide +kernel
theorem dX9_tally_1 : decode cX9_tally 1 = .ok (.getfield 11, 3) := by decide +kernel
theorem dX9_tally_4 : decode cX9_tally 4 = .ok (.iconst 0, 1) := by decide +kernel
theorem dX9_tally_5 : decode cX9_tally 5 = .ok (.invokestatic 51, 3) := by decide +kernel
theorem dX9_tally_8 : decode cX9_tally 8 = .ok (.aload_n 0, 1) := by decide +kernel
theorem dX9_tally_9 : decode cX9_tally 9 = .ok (.aload_n 0, 1) := by decide +kernel
theorem dX9_tally_10 : decode cX9_tally 10 = .ok (.getfield 11, 3) := by decide +kernel
theorem dX9_tally_13 : decode cX9_tally 13 = .ok (.iconst 0, 1) := by decide +kernel
theorem dX9_tally_14 : decode cX9_tally 14 = .ok (.iconst 0, 1) := by decide +kernel
theorem dX9_tally_15 : decode cX9_tally 15 = .ok (.iload_n 1, 1) := by decide +kernel
theorem dX9_tally_16 : decode cX9_tally 16 = .ok (.invokevirtual 69, 3) := by decide +kernel
theorem dX9_tally_19 : decode cX9_tally 19 = .ok (.aload_n 0, 1) := by decide +kernel
theorem dX9_tally_20 : decode cX9_tally 20 = .ok (.getfield 39, 3) := by decide +kernel
theorem dX9_tally_23 : decode cX9_tally 23 = .ok (.getfield 73, 3) := by decide +kernel
theorem dX9_tally_26 : decode cX9_tally 26 = .ok (.iconst 1, 1) := by decide +kernel
theorem dX9_tally_27 : decode cX9_tally 27 = .ok (.aaload, 1) := by decide +kernel
theorem dX9_tally_28 : decode cX9_tally 28 = .ok (.getfield 77, 3) := by decide +kernel
theorem dX9_tally_31 : decode cX9_tally 31 = .ok (.ifCond .ne 22, 3) := by decide +kernel
theorem dX9_tally_34 : decode cX9_tally 34 = .ok (.aload_n 0, 1) := by decide +kernel
theorem dX9_tally_35 : decode cX9_tally 35 = .ok (.getfield 11, 3) := by decide +kernel
theorem dX9_tally_38 : decode cX9_tally 38 = .ok (.iconst 0, 1) := by decide +kernel
theorem dX9_tally_39 : decode cX9_tally 39 = .ok (.aload_n 0, 1) := by decide +kernel
theorem dX9_tally_40 : decode cX9_tally 40 = .ok (.getfield 18, 3) := by decide +kernel
theorem dX9_tally_43 : decode cX9_tally 43 = .ok (.iconst 0, 1) := by decide +kernel
theorem dX9_tally_44 : decode cX9_tally 44 = .ok (.aload_n 0, 1) := by decide +kernel
theorem dX9_tally_45 : decode cX9_tally 45 = .ok (.getfield 18, 3) := by decide +kernel
theorem dX9_tally_48 : decode cX9_tally 48 = .ok (.arraylength, 1) := by decide +kernel
theorem dX9_tally_49 : decode cX9_tally 49 = .ok (.invokestatic 82, 3) := by decide +kernel
theorem dX9_tally_52 : decode cX9_tally 52 = .ok (.return_, 1) := by decide +kernel
theorem dX9_tally_53 : decode cX9_tally 53 = .ok (.aload_n 0, 1) := by decide +kernel
theorem dX9_tally_54 : decode cX9_tally 54 = .ok (.getfield 18, 3) := by decide +kernel
theorem dX9_tally_57 : decode cX9_tally 57 = .ok (.iconst (-1), 1) := by decide +kernel
theorem dX9_tally_58 : decode cX9_tally 58 = .ok (.invokestatic 51, 3) := by decide +kernel
theorem dX9_tally_61 : decode cX9_tally 61 = .ok (.aload_n 0, 1) := by decide +kernel
theorem dX9_tally_62 : decode cX9_tally 62 = .ok (.getfield 35, 3) := by decide +kernel
theorem dX9_tally_65 : decode cX9_tally 65 = .ok (.getfield 88, 3) := by decide +kernel
theorem dX9_tally_68 : decode cX9_tally 68 = .ok (.iconst 2, 1) := by decide +kernel
theorem dX9_tally_69 : decode cX9_tally 69 = .ok (.iaload, 1) := by decide +kernel
theorem dX9_tally_70 : decode cX9_tally 70 = .ok (.istore_n 2, 1) := by decide +kernel
theorem dX9_tally_71 : decode cX9_tally 71 = .ok (.iload_n 2, 1) := by decide +kernel
theorem dX9_tally_72 : decode cX9_tally 72 = .ok (.ineg, 1) := by decide +kernel
theorem dX9_tally_73 : decode cX9_tally 73 = .ok (.istore_n 3, 1) := by decide +kernel
theorem dX9_tally_74 : decode cX9_tally 74 = .ok (.iload_n 3, 1) := by decide +kernel
theorem dX9_tally_75 : decode cX9_tally 75 = .ok (.iload_n 2, 1) := by decide +kernel
theorem dX9_tally_76 : decode cX9_tally 76 = .ok (.if_icmp .gt 63, 3) := by decide +kernel
theorem dX9_tally_79 : decode cX9_tally 79 = .ok (.aload_n 0, 1) := by decide +kernel
theorem dX9_tally_80 : decode cX9_tally 80 = .ok (.getfield 11, 3) := by decide +kernel
theorem dX9_tally_83 : decode cX9_tally 83 = .ok (.iconst 0, 1) := by decide +kernel
theorem dX9_tally_84 : decode cX9_tally 84 = .ok (.aload_n 0, 1) := by decide +kernel
theorem dX9_tally_85 : decode cX9_tally 85 = .ok (.getfield 15, 3) := by decide +kernel
theorem dX9_tally_88 : decode cX9_tally 88 = .ok (.iconst 0, 1) := by decide +kernel
theorem dX9_tally_89 : decode cX9_tally 89 = .ok (.aload_n 0, 1) := by decide +kernel
theorem dX9_tally_90 : decode cX9_tally 90 = .ok (.getfield 15, 3) := by decide +kernel
theorem dX9_tally_93 : decode cX9_tally 93 = .ok (.arraylength, 1) := by decide +kernel
theorem dX9_tally_94 : decode cX9_tally 94 = .ok (.invokestatic 82, 3) := by decide +kernel
theorem dX9_tally_97 : decode cX9_tally 97 = .ok (.aload_n 0, 1) := by decide +kernel
theorem dX9_tally_98 : decode cX9_tally 98 = .ok (.aload_n 0, 1) := by decide +kernel
theorem dX9_tally_99 : decode cX9_tally 99 = .ok (.getfield 15, 3) := by decide +kernel
theorem dX9_tally_102 : decode cX9_tally 102 = .ok (.iconst 1, 1) := by decide +kernel
theorem dX9_tally_103 : decode cX9_tally 103 = .ok (.iload_n 3, 1) := by decide +kernel
theorem dX9_tally_104 : decode cX9_tally 104 = .ok (.iload_n 1, 1) := by decide +kernel
theorem dX9_tally_105 : decode cX9_tally 105 = .ok (.invokevirtual 69, 3) := by decide +kernel
theorem dX9_tally_108 : decode cX9_tally 108 = .ok (.iconst 0, 1) := by decide +kernel
theorem dX9_tally_109 : decode cX9_tally 109 = .ok (.istore 4, 2) := by decide +kernel
theorem dX9_tally_111 : decode cX9_tally 111 = .ok (.iload 4, 2) := by decide +kernel
theorem dX9_tally_113 : decode cX9_tally 113 = .ok (.bipush 7, 2) := by decide +kernel
theorem dX9_tally_115 : decode cX9_tally 115 = .ok (.if_icmp .ge 18, 3) := by decide +kernel
theorem dX9_tally_118 : decode cX9_tally 118 = .ok (.aload_n 0, 1) := by decide +kernel
theorem dX9_tally_119 : decode cX9_tally 119 = .ok (.iload 4, 2) := by decide +kernel
theorem dX9_tally_121 : decode cX9_tally 121 = .ok (.bipush 6, 2) := by decide +kernel
theorem dX9_tally_123 : decode cX9_tally 123 = .ok (.imul, 1) := by decide +kernel
theorem dX9_tally_124 : decode cX9_tally 124 = .ok (.invokevirtual 93, 3) := by decide +kernel
theorem dX9_tally_127 : decode cX9_tally 127 = .ok (.iinc 4 1, 3) := by decide +kernel
theorem dX9_tally_130 : decode cX9_tally 130 = .ok (.goto (-19), 3) := by decide +kernel
theorem dX9_tally_133 : decode cX9_tally 133 = .ok (.iinc 3 1, 3) := by decide +kernel
theorem dX9_tally_136 : decode cX9_tally 136 = .ok (.goto (-62), 3) := by decide +kernel
theorem dX9_tally_139 : decode cX9_tally 139 = .ok (.return_, 1) := by decide +kernel
def fX9_tally_s111 (N : Nat) (c74 : Int32 → Int32 → Int32 → qMem → Option qMem) (c111 : Int32 → Int32 → Int32 → Int32 → qMem → Option qMem) (v1 : Int32) (v2 : Int32) (v3 : Int32) (v4 : Int32) (σ : qMem) : Option qMem :=
  (if 7 ≤ v4 then (c74 v1 v2 (v3 + 1) σ) else ((fX9_takeFewer N (v4 * 6) σ).bind fun y8 => (c111 v1 v2 v3 (v4 + 1) y8)))
set_option maxRecDepth 20000 in
set_option maxHeartbeats 4000000 in
theorem aX9_tally_s111 (N : Nat) (c74 : Int32 → Int32 → Int32 → qMem → Option qMem) (hc74 : ∀ (v1 : Int32) (v2 : Int32) (v3 : Int32) (σ : qMem), qAt wC mX9_tally (ρv) 74 [(0, .ref 68), (1, .int v1), (2, .int v2), (3, .int v3)] [] σ (c74 v1 v2 v3 σ)) (c111 : Int32 → Int32 → Int32 → Int32 → qMem → Option qMem) (hc111 : ∀ (v1 : Int32) (v2 : Int32) (v3 : Int32) (v4 : Int32) (σ : qMem), qAt wC mX9_tally (ρv) 111 [(0, .ref 68), (1, .int v1), (2, .int v2), (3, .int v3), (4, .int v4)] [] σ (c111 v1 v2 v3 v4 σ)) (v1 : Int32) (v2 : Int32) (v3 : Int32) (v4 : Int32) (σ : qMem) : qAt wC mX9_tally (ρv) 111 [(0, .ref 68), (1, .int v1), (2, .int v2), (3, .int v3), (4, .int v4)] [] σ (fX9_tally_s111 N c74 c111 v1 v2 v3 v4 σ) := by
  unfold fX9_tally_s111
  refine q_iload (i := 4) (x := v4) dX9_tally_111 4 rfl ?_
  refine q_bipush (v := 7) dX9_tally_113 (by decide) ?_
  refine q_icmp_ge (tgt := 133) dX9_tally_115 (by decide) ?_ ?_
  · refine q_iinc (i := 3) (x := v3) (v := (v3 + 1)) (L' := [(3, .int (v3 + 1)), (0, .ref 68), (1, .int v1), (2, .int v2), (4, .int v4)]) dX9_tally_133 3 rfl (q_cst v3 (by decide)) (Nat.le_of_ble_eq_true rfl) rfl ?_
    refine q_goto (tgt := 74) dX9_tally_136 (by decide) ?_
    exact q_sub [1, 2, 3, 0] rfl (hc74 v1 v2 (v3 + 1) σ)
  refine q_aload_n (i := 0) (x := 68) dX9_tally_118 rfl 0 rfl ?_
  refine q_iload (i := 4) (x := v4) dX9_tally_119 4 rfl ?_
  refine q_bipush (v := 6) dX9_tally_121 (by decide) ?_
  refine q_imul dX9_tally_123 ?_
  refine q_cVv mX9_takeFewer [.int (v4 * 6)] (st := []) dX9_tally_124 (svX9_93) ⟨Nat.le_of_ble_eq_true rfl, Nat.le_of_ble_eq_true rfl⟩ zC_68 rfl rfl rfl (Nat.le_of_ble_eq_true rfl) (kX9_takeFewer N (v4 * 6) σ) (fun y8 => ?_)
  refine q_iinc (i := 4) (x := v4) (v := (v4 + 1)) (L' := [(4, .int (v4 + 1)), (0, .ref 68), (1, .int v1), (2, .int v2), (3, .int v3)]) dX9_tally_127 4 rfl (q_cst v4 (by decide)) (Nat.le_of_ble_eq_true rfl) rfl ?_
  refine q_goto (tgt := 111) dX9_tally_130 (by decide) ?_
  exact q_sub [1, 2, 3, 4, 0] rfl (hc111 v1 v2 v3 (v4 + 1) y8)
def fX9_tally_l111 (N : Nat) (c74 : Int32 → Int32 → Int32 → qMem → Option qMem) : Nat → Int32 → Int32 → Int32 → Int32 → qMem → Option qMem
  | 0 => fun _ _ _ _ _ => none
  | n + 1 => fun v1 v2 v3 v4 σ => fX9_tally_s111 N c74 (fX9_tally_l111 N c74 n) v1 v2 v3 v4 σ
theorem aX9_tally_l111 (N : Nat) (c74 : Int32 → Int32 → Int32 → qMem → Option qMem) (hc74 : ∀ (v1 : Int32) (v2 : Int32) (v3 : Int32) (σ : qMem), qAt wC mX9_tally (ρv) 74 [(0, .ref 68), (1, .int v1), (2, .int v2), (3, .int v3)] [] σ (c74 v1 v2 v3 σ)) : ∀ (n : Nat) (v1 : Int32) (v2 : Int32) (v3 : Int32) (v4 : Int32) (σ : qMem), qAt wC mX9_tally (ρv) 111 [(0, .ref 68), (1, .int v1), (2, .int v2), (3, .int v3), (4, .int v4)] [] σ (fX9_tally_l111 N c74 n v1 v2 v3 v4 σ) := by
  intro n
  induction n with
  | zero => intro v1 v2 v3 v4 σ; exact q_none
  | succ n ih => intro v1 v2 v3 v4 σ; exact aX9_tally_s111 N c74 hc74 (fX9_tally_l111 N c74 n) ih v1 v2 v3 v4 σ

def fX9_tally_s74 (N : Nat) (c74 : Int32 → Int32 → Int32 → qMem → Option qMem) (v1 : Int32) (v2 : Int32) (v3 : Int32) (σ : qMem) : Option qMem :=
  (if v2 < v3 then (some σ) else (if cpOK 0 0 42 42 42 = true then (nmM (cp σ 69 70 0 0 42) fun s6 => ((fX9_addMisses N 70 1 v3 v1 s6).bind fun y7 => (fX9_tally_l111 N c74 N v1 v2 v3 0 y7))) else none))
set_option maxRecDepth 20000 in
set_option maxHeartbeats 4000000 in
theorem aX9_tally_s74 (N : Nat) (c74 : Int32 → Int32 → Int32 → qMem → Option qMem) (hc74 : ∀ (v1 : Int32) (v2 : Int32) (v3 : Int32) (σ : qMem), qAt wC mX9_tally (ρv) 74 [(0, .ref 68), (1, .int v1), (2, .int v2), (3, .int v3)] [] σ (c74 v1 v2 v3 σ)) (v1 : Int32) (v2 : Int32) (v3 : Int32) (σ : qMem) : qAt wC mX9_tally (ρv) 74 [(0, .ref 68), (1, .int v1), (2, .int v2), (3, .int v3)] [] σ (fX9_tally_s74 N c74 v1 v2 v3 σ) := by
  unfold fX9_tally_s74
  refine q_iload_n (i := 3) (x := v3) dX9_tally_74 rfl 3 rfl ?_
  refine q_iload_n (i := 2) (x := v2) dX9_tally_75 rfl 2 rfl ?_
  refine q_icmp_gt (tgt := 139) dX9_tally_76 (by decide) ?_ ?_
  · exact q_vret (y := σ) dX9_tally_139 rfl rfl
  refine q_aload_n (i := 0) (x := 68) dX9_tally_79 rfl 0 rfl ?_
  refine q_getr (t := 69) dX9_tally_80 foX9_11 zC_68 rfl ?_
  refine q_iconst (v := 0) dX9_tally_83 (by decide) ?_
  refine q_aload_n (i := 0) (x := 68) dX9_tally_84 rfl 0 rfl ?_
  refine q_getr (t := 70) dX9_tally_85 foX9_15 zC_68 rfl ?_
  refine q_iconst (v := 0) dX9_tally_88 (by decide) ?_
  refine q_aload_n (i := 0) (x := 68) dX9_tally_89 rfl 0 rfl ?_
  refine q_getr (t := 70) dX9_tally_90 foX9_15 zC_68 rfl ?_
  refine q_alen (t0 := 0) (v := 42) dX9_tally_93 zC_70 (fun _ => rfl) (by decide) ?_
  refine q_copy dX9_tally_94 (cplX9_82) cp_nat cp_st cp_in zC_69 zC_70 ⟨Nat.le_of_ble_eq_true rfl, Nat.le_of_ble_eq_true rfl⟩ ?_
  refine q_nmM (fun s6 => ?_)
  refine q_aload_n (i := 0) (x := 68) dX9_tally_97 rfl 0 rfl ?_
  refine q_aload_n (i := 0) (x := 68) dX9_tally_98 rfl 0 rfl ?_
  refine q_getr (t := 70) dX9_tally_99 foX9_15 zC_68 rfl ?_
  refine q_iconst (v := 1) dX9_tally_102 (by decide) ?_
  refine q_iload_n (i := 3) (x := v3) dX9_tally_103 rfl 3 rfl ?_
  refine q_iload_n (i := 1) (x := v1) dX9_tally_104 rfl 1 rfl ?_
  refine q_cVv mX9_addMisses [.ref 70, .int 1, .int v3, .int v1] (st := []) dX9_tally_105 (svX9_69) ⟨Nat.le_of_ble_eq_true rfl, Nat.le_of_ble_eq_true rfl⟩ zC_68 rfl rfl rfl (Nat.le_of_ble_eq_true rfl) (kX9_addMisses N 70 1 v3 v1 zC_70 s6) (fun y7 => ?_)
  refine q_iconst (v := 0) dX9_tally_108 (by decide) ?_
  refine q_istore (i := 4) (L' := [(4, .int 0), (0, .ref 68), (1, .int v1), (2, .int v2), (3, .int v3)]) dX9_tally_109 (Nat.le_of_ble_eq_true rfl) rfl ?_
  exact q_sub [1, 2, 3, 4, 0] rfl (aX9_tally_l111 N c74 hc74 N v1 v2 v3 0 y7)
def fX9_tally_l74 (N : Nat) : Nat → Int32 → Int32 → Int32 → qMem → Option qMem
  | 0 => fun _ _ _ _ => none
  | n + 1 => fun v1 v2 v3 σ => fX9_tally_s74 N (fX9_tally_l74 N n) v1 v2 v3 σ
theorem aX9_tally_l74 (N : Nat) : ∀ (n : Nat) (v1 : Int32) (v2 : Int32) (v3 : Int32) (σ : qMem), qAt wC mX9_tally (ρv) 74 [(0, .ref 68), (1, .int v1), (2, .int v2), (3, .int v3)] [] σ (fX9_tally_l74 N n v1 v2 v3 σ) := by
  intro n
  induction n with
  | zero => intro v1 v2 v3 σ; exact q_none
  | succ n ih => intro v1 v2 v3 σ; exact aX9_tally_s74 N (fX9_tally_l74 N n) ih v1 v2 v3 σ

def fX9_tally (N : Nat) (p1 : Int32) (σ : qMem) : Option qMem :=
  ((fJ7_fill_53178 N 69 42 0 σ).bind fun y1 => ((fX9_addMisses N 69 0 0 p1 y1).bind fun y2 => (if (gi y2 48 3) = 0 then (if cpOK 0 0 42 42 42 = true then (nmM (cp y2 69 71 0 0 42) fun s5 => (some s5)) else none) else ((fJ7_fill_53178 N 71 42 (-1) y2).bind fun y3 => (if ck 2 6 = true then (nmI (gi y3 18 (2 : Int32).toNatClampNeg) fun x4 => (fX9_tally_l74 N N p1 x4 (-x4) y3)) else none)))))
set_option maxRecDepth 20000 in
set_option maxHeartbeats 4000000 in
theorem aX9_tally  (N : Nat) (p1 : Int32)  (σ : qMem) : qAt wC mX9_tally (ρv) 0 [(0, .ref 68), (1, .int p1)] [] σ (fX9_tally N p1 σ) := by
  unfold fX9_tally
  refine q_aload_n (i := 0) (x := 68) dX9_tally_0 rfl 0 rfl ?_
  refine q_getr (t := 69) dX9_tally_1 foX9_11 zC_68 rfl ?_
  refine q_iconst (v := 0) dX9_tally_4 (by decide) ?_
  refine q_cSv mJ7_fill_53178 [.ref 69, .int 0] (st := []) dX9_tally_5 (ssX9_51) ⟨Nat.le_of_ble_eq_true rfl, Nat.le_of_ble_eq_true rfl⟩ rfl rfl (Nat.le_of_ble_eq_true rfl) (kJ7_fill_53178 N 69 42 0 zC_69 σ) (fun y1 => ?_)
  refine q_aload_n (i := 0) (x := 68) dX9_tally_8 rfl 0 rfl ?_
  refine q_aload_n (i := 0) (x := 68) dX9_tally_9 rfl 0 rfl ?_
  refine q_getr (t := 69) dX9_tally_10 foX9_11 zC_68 rfl ?_
  refine q_iconst (v := 0) dX9_tally_13 (by decide) ?_
  refine q_iconst (v := 0) dX9_tally_14 (by decide) ?_
  refine q_iload_n (i := 1) (x := p1) dX9_tally_15 rfl 1 rfl ?_
  refine q_cVv mX9_addMisses [.ref 69, .int 0, .int 0, .int p1] (st := []) dX9_tally_16 (svX9_69) ⟨Nat.le_of_ble_eq_true rfl, Nat.le_of_ble_eq_true rfl⟩ zC_68 rfl rfl rfl (Nat.le_of_ble_eq_true rfl) (kX9_addMisses N 69 0 0 p1 zC_69 y1) (fun y2 => ?_)
  refine q_aload_n (i := 0) (x := 68) dX9_tally_19 rfl 0 rfl ?_
  refine q_getr (t := 44) dX9_tally_20 foX9_39 zC_68 rfl ?_
  refine q_getr (t := 45) dX9_tally_23 foX9_73 zC_44 rfl ?_
  refine q_iconst (v := 1) dX9_tally_26 (by decide) ?_
  refine q_aaldC (t0 := 7) (j := 1) (t := 48) dX9_tally_27 zC_45 (fun _ => rfl) (by decide) (by decide) rfl ?_
  refine q_geti dX9_tally_28 foX9_77 zC_48 rfl ?_
  refine q_if_ne (tgt := 53) dX9_tally_31 (by decide) ?_ ?_
  · refine q_aload_n (i := 0) (x := 68) dX9_tally_53 rfl 0 rfl ?_
    refine q_getr (t := 71) dX9_tally_54 foX9_18 zC_68 rfl ?_
    refine q_iconst (v := (-1)) dX9_tally_57 (by decide) ?_
    refine q_cSv mJ7_fill_53178 [.ref 71, .int (-1)] (st := []) dX9_tally_58 (ssX9_51) ⟨Nat.le_of_ble_eq_true rfl, Nat.le_of_ble_eq_true rfl⟩ rfl rfl (Nat.le_of_ble_eq_true rfl) (kJ7_fill_53178 N 71 42 (-1) zC_71 y2) (fun y3 => ?_)
    refine q_aload_n (i := 0) (x := 68) dX9_tally_61 rfl 0 rfl ?_
    refine q_getr (t := 1) dX9_tally_62 foX9_35 zC_68 rfl ?_
    refine q_getr (t := 18) dX9_tally_65 foX9_88 zC_1 rfl ?_
    refine q_iconst (v := 2) dX9_tally_68 (by decide) ?_
    refine q_iald dX9_tally_69 zC_18 ?_
    refine q_nmI (fun x4 => ?_)
    refine q_istore_n (i := 2) (L' := [(2, .int x4), (0, .ref 68), (1, .int p1)]) dX9_tally_70 rfl (Nat.le_of_ble_eq_true rfl) rfl ?_
    refine q_iload_n (i := 2) (x := x4) dX9_tally_71 rfl 0 rfl ?_
    refine q_ineg dX9_tally_72 ?_
    refine q_istore_n (i := 3) (L' := [(3, .int (-x4)), (2, .int x4), (0, .ref 68), (1, .int p1)]) dX9_tally_73 rfl (Nat.le_of_ble_eq_true rfl) rfl ?_
    exact q_sub [2, 3, 1, 0] rfl (aX9_tally_l74 N N p1 x4 (-x4) y3)
  refine q_aload_n (i := 0) (x := 68) dX9_tally_34 rfl 0 rfl ?_
  refine q_getr (t := 69) dX9_tally_35 foX9_11 zC_68 rfl ?_
  refine q_iconst (v := 0) dX9_tally_38 (by decide) ?_
  refine q_aload_n (i := 0) (x := 68) dX9_tally_39 rfl 0 rfl ?_
  refine q_getr (t := 71) dX9_tally_40 foX9_18 zC_68 rfl ?_
  refine q_iconst (v := 0) dX9_tally_43 (by decide) ?_
  refine q_aload_n (i := 0) (x := 68) dX9_tally_44 rfl 0 rfl ?_
  refine q_getr (t := 71) dX9_tally_45 foX9_18 zC_68 rfl ?_
  refine q_alen (t0 := 0) (v := 42) dX9_tally_48 zC_71 (fun _ => rfl) (by decide) ?_
  refine q_copy dX9_tally_49 (cplX9_82) cp_nat cp_st cp_in zC_69 zC_71 ⟨Nat.le_of_ble_eq_true rfl, Nat.le_of_ble_eq_true rfl⟩ ?_
  refine q_nmM (fun s5 => ?_)
  exact q_vret (y := s5) dX9_tally_52 rfl rfl
theorem kX9_tally  (N : Nat) (p1 : Int32)  (σ : qMem) : qMc wC mX9_tally (ρv) [.ref 68, .int p1] σ (fX9_tally N p1 σ) := qMc_of (moX9_tally) (Nat.le_of_ble_eq_true rfl) (aX9_tally N p1  σ)

theorem dX9_reckon_0 : decode cX9_reckon 0 = .ok (.aload_n 0, 1) := by decide +kernel
theorem dX9_reckon_1 : decode cX9_reckon 1 = .ok (.getfield 31, 3) := by decide +kernel
theorem dX9_reckon_4 : decode cX9_reckon 4 = .ok (.ifCond .eq 4, 3) := by decide +kernel
theorem dX9_reckon_7 : decode cX9_reckon 7 = .ok (.return_, 1) := by decide +kernel
theorem dX9_reckon_8 : decode cX9_reckon 8 = .ok (.aload_n 0, 1) := by decide +kernel
theorem dX9_reckon_9 : decode cX9_reckon 9 = .ok (.getfield 39, 3) := by decide +kernel
theorem dX9_reckon_12 : decode cX9_reckon 12 = .ok (.invokevirtual 43, 3) := by decide +kernel
theorem dX9_reckon_15 : decode cX9_reckon 15 = .ok (.aload_n 0, 1) := by decide +kernel
theorem dX9_reckon_16 : decode cX9_reckon 16 = .ok (.getfield 39, 3) := by decide +kernel
theorem dX9_reckon_19 : decode cX9_reckon 19 = .ok (.invokevirtual 48, 3) := by decide +kernel
theorem dX9_reckon_22 : decode cX9_reckon 22 = .ok (.aload_n 0, 1) := by decide +kernel
theorem dX9_reckon_23 : decode cX9_reckon 23 = .ok (.getfield 21, 3) := by decide +kernel
theorem dX9_reckon_26 : decode cX9_reckon 26 = .ok (.iconst 0, 1) := by decide +kernel
theorem dX9_reckon_27 : decode cX9_reckon 27 = .ok (.invokestatic 51, 3) := by decide +kernel
theorem dX9_reckon_30 : decode cX9_reckon 30 = .ok (.aload_n 0, 1) := by decide +kernel
theorem dX9_reckon_31 : decode cX9_reckon 31 = .ok (.aload_n 0, 1) := by decide +kernel
theorem dX9_reckon_32 : decode cX9_reckon 32 = .ok (.getfield 21, 3) := by decide +kernel
theorem dX9_reckon_35 : decode cX9_reckon 35 = .ok (.arraylength, 1) := by decide +kernel
theorem dX9_reckon_36 : decode cX9_reckon 36 = .ok (.putfield 24, 3) := by decide +kernel
theorem dX9_reckon_39 : decode cX9_reckon 39 = .ok (.iconst 0, 1) := by decide +kernel
theorem dX9_reckon_40 : decode cX9_reckon 40 = .ok (.istore_n 1, 1) := by decide +kernel
theorem dX9_reckon_41 : decode cX9_reckon 41 = .ok (.iload_n 1, 1) := by decide +kernel
theorem dX9_reckon_42 : decode cX9_reckon 42 = .ok (.sipush 224, 3) := by decide +kernel
theorem dX9_reckon_45 : decode cX9_reckon 45 = .ok (.if_icmp .ge 53, 3) := by decide +kernel
theorem dX9_reckon_48 : decode cX9_reckon 48 = .ok (.aload_n 0, 1) := by decide +kernel
theorem dX9_reckon_49 : decode cX9_reckon 49 = .ok (.iload_n 1, 1) := by decide +kernel
theorem dX9_reckon_50 : decode cX9_reckon 50 = .ok (.invokevirtual 57, 3) := by decide +kernel
theorem dX9_reckon_53 : decode cX9_reckon 53 = .ok (.iconst 0, 1) := by decide +kernel
theorem dX9_reckon_54 : decode cX9_reckon 54 = .ok (.istore_n 2, 1) := by decide +kernel
theorem dX9_reckon_55 : decode cX9_reckon 55 = .ok (.iload_n 2, 1) := by decide +kernel
theorem dX9_reckon_56 : decode cX9_reckon 56 = .ok (.bipush 7, 2) := by decide +kernel
theorem dX9_reckon_58 : decode cX9_reckon 58 = .ok (.if_icmp .ge 34, 3) := by decide +kernel
theorem dX9_reckon_61 : decode cX9_reckon 61 = .ok (.aload_n 0, 1) := by decide +kernel
theorem dX9_reckon_62 : decode cX9_reckon 62 = .ok (.iconst (-1), 1) := by decide +kernel
theorem dX9_reckon_63 : decode cX9_reckon 63 = .ok (.iload_n 2, 1) := by decide +kernel
theorem dX9_reckon_64 : decode cX9_reckon 64 = .ok (.bipush 6, 2) := by decide +kernel
theorem dX9_reckon_66 : decode cX9_reckon 66 = .ok (.imul, 1) := by decide +kernel
theorem dX9_reckon_67 : decode cX9_reckon 67 = .ok (.iconst 5, 1) := by decide +kernel
theorem dX9_reckon_68 : decode cX9_reckon 68 = .ok (.iconst 0, 1) := by decide +kernel
theorem dX9_reckon_69 : decode cX9_reckon 69 = .ok (.invokevirtual 61, 3) := by decide +kernel
theorem dX9_reckon_72 : decode cX9_reckon 72 = .ok (.aload_n 0, 1) := by decide +kernel
theorem dX9_reckon_73 : decode cX9_reckon 73 = .ok (.iload_n 1, 1) := by decide +kernel
theorem dX9_reckon_74 : decode cX9_reckon 74 = .ok (.bipush 7, 2) := by decide +kernel
theorem dX9_reckon_76 : decode cX9_reckon 76 = .ok (.imul, 1) := by decide +kernel
theorem dX9_reckon_77 : decode cX9_reckon 77 = .ok (.iload_n 2, 1) := by decide +kernel
theorem dX9_reckon_78 : decode cX9_reckon 78 = .ok (.iadd, 1) := by decide +kernel
theorem dX9_reckon_79 : decode cX9_reckon 79 = .ok (.iload_n 2, 1) := by decide +kernel
theorem dX9_reckon_80 : decode cX9_reckon 80 = .ok (.bipush 6, 2) := by decide +kernel
theorem dX9_reckon_82 : decode cX9_reckon 82 = .ok (.imul, 1) := by decide +kernel
theorem dX9_reckon_83 : decode cX9_reckon 83 = .ok (.invokevirtual 65, 3) := by decide +kernel
theorem dX9_reckon_86 : decode cX9_reckon 86 = .ok (.iinc 2 1, 3) := by decide +kernel
theorem dX9_reckon_89 : decode cX9_reckon 89 = .ok (.goto (-34), 3) := by decide +kernel
theorem dX9_reckon_92 : decode cX9_reckon 92 = .ok (.iinc 1 1, 3) := by decide +kernel
theorem dX9_reckon_95 : decode cX9_reckon 95 = .ok (.goto (-54), 3) := by decide +kernel
theorem dX9_reckon_98 : decode cX9_reckon 98 = .ok (.aload_n 0, 1) := by decide +kernel
theorem dX9_reckon_99 : decode cX9_reckon 99 = .ok (.iconst 1, 1) := by decide +kernel
theorem dX9_reckon_100 : decode cX9_reckon 100 = .ok (.putfield 31, 3) := by decide +kernel
theorem dX9_reckon_103 : decode cX9_reckon 103 = .ok (.return_, 1) := by decide +kernel
def fX9_reckon_s55 (N : Nat) (c41 : Int32 → qMem → Option qMem) (c55 : Int32 → Int32 → qMem → Option qMem) (v1 : Int32) (v2 : Int32) (σ : qMem) : Option qMem :=
  (if 7 ≤ v2 then (c41 (v1 + 1) σ) else ((fX9_spread N 8 (-1) (v2 * 6) 5 0 σ).bind fun y7 => ((fX9_noteFewest N ((v1 * 7) + v2) (v2 * 6) y7).bind fun y8 => (c55 v1 (v2 + 1) y8))))
set_option maxRecDepth 20000 in
set_option maxHeartbeats 4000000 in
theorem aX9_reckon_s55 (N : Nat) (c41 : Int32 → qMem → Option qMem) (hc41 : ∀ (v1 : Int32) (σ : qMem), qAt wC mX9_reckon (ρv) 41 [(0, .ref 68), (1, .int v1)] [] σ (c41 v1 σ)) (c55 : Int32 → Int32 → qMem → Option qMem) (hc55 : ∀ (v1 : Int32) (v2 : Int32) (σ : qMem), qAt wC mX9_reckon (ρv) 55 [(0, .ref 68), (1, .int v1), (2, .int v2)] [] σ (c55 v1 v2 σ)) (v1 : Int32) (v2 : Int32) (σ : qMem) : qAt wC mX9_reckon (ρv) 55 [(0, .ref 68), (1, .int v1), (2, .int v2)] [] σ (fX9_reckon_s55 N c41 c55 v1 v2 σ) := by
  unfold fX9_reckon_s55
  refine q_iload_n (i := 2) (x := v2) dX9_reckon_55 rfl 2 rfl ?_
  refine q_bipush (v := 7) dX9_reckon_56 (by decide) ?_
  refine q_icmp_ge (tgt := 92) dX9_reckon_58 (by decide) ?_ ?_
  · refine q_iinc (i := 1) (x := v1) (v := (v1 + 1)) (L' := [(1, .int (v1 + 1)), (0, .ref 68), (2, .int v2)]) dX9_reckon_92 1 rfl (q_cst v1 (by decide)) (Nat.le_of_ble_eq_true rfl) rfl ?_
    refine q_goto (tgt := 41) dX9_reckon_95 (by decide) ?_
    exact q_sub [1, 0] rfl (hc41 (v1 + 1) σ)
  refine q_aload_n (i := 0) (x := 68) dX9_reckon_61 rfl 0 rfl ?_
  refine q_iconst (v := (-1)) dX9_reckon_62 (by decide) ?_
  refine q_iload_n (i := 2) (x := v2) dX9_reckon_63 rfl 2 rfl ?_
  refine q_bipush (v := 6) dX9_reckon_64 (by decide) ?_
  refine q_imul dX9_reckon_66 ?_
  refine q_iconst (v := 5) dX9_reckon_67 (by decide) ?_
  refine q_iconst (v := 0) dX9_reckon_68 (by decide) ?_
  refine q_cVv (mX9_spread 8) [.int (-1), .int (v2 * 6), .int 5, .int 0] (st := []) dX9_reckon_69 (svX9_61 _) ⟨Nat.le_of_ble_eq_true rfl, Nat.le_of_ble_eq_true rfl⟩ zC_68 rfl rfl rfl (Nat.le_of_ble_eq_true rfl) (kX9_spread N 8 (-1) (v2 * 6) 5 0 σ) (fun y7 => ?_)
  refine q_aload_n (i := 0) (x := 68) dX9_reckon_72 rfl 0 rfl ?_
  refine q_iload_n (i := 1) (x := v1) dX9_reckon_73 rfl 1 rfl ?_
  refine q_bipush (v := 7) dX9_reckon_74 (by decide) ?_
  refine q_imul dX9_reckon_76 ?_
  refine q_iload_n (i := 2) (x := v2) dX9_reckon_77 rfl 2 rfl ?_
  refine q_iadd dX9_reckon_78 ?_
  refine q_iload_n (i := 2) (x := v2) dX9_reckon_79 rfl 2 rfl ?_
  refine q_bipush (v := 6) dX9_reckon_80 (by decide) ?_
  refine q_imul dX9_reckon_82 ?_
  refine q_cVv mX9_noteFewest [.int ((v1 * 7) + v2), .int (v2 * 6)] (st := []) dX9_reckon_83 (svX9_65) ⟨Nat.le_of_ble_eq_true rfl, Nat.le_of_ble_eq_true rfl⟩ zC_68 rfl rfl rfl (Nat.le_of_ble_eq_true rfl) (kX9_noteFewest N ((v1 * 7) + v2) (v2 * 6) y7) (fun y8 => ?_)
  refine q_iinc (i := 2) (x := v2) (v := (v2 + 1)) (L' := [(2, .int (v2 + 1)), (0, .ref 68), (1, .int v1)]) dX9_reckon_86 2 rfl (q_cst v2 (by decide)) (Nat.le_of_ble_eq_true rfl) rfl ?_
  refine q_goto (tgt := 55) dX9_reckon_89 (by decide) ?_
  exact q_sub [1, 2, 0] rfl (hc55 v1 (v2 + 1) y8)
def fX9_reckon_l55 (N : Nat) (c41 : Int32 → qMem → Option qMem) : Nat → Int32 → Int32 → qMem → Option qMem
  | 0 => fun _ _ _ => none
  | n + 1 => fun v1 v2 σ => fX9_reckon_s55 N c41 (fX9_reckon_l55 N c41 n) v1 v2 σ
theorem aX9_reckon_l55 (N : Nat) (c41 : Int32 → qMem → Option qMem) (hc41 : ∀ (v1 : Int32) (σ : qMem), qAt wC mX9_reckon (ρv) 41 [(0, .ref 68), (1, .int v1)] [] σ (c41 v1 σ)) : ∀ (n : Nat) (v1 : Int32) (v2 : Int32) (σ : qMem), qAt wC mX9_reckon (ρv) 55 [(0, .ref 68), (1, .int v1), (2, .int v2)] [] σ (fX9_reckon_l55 N c41 n v1 v2 σ) := by
  intro n
  induction n with
  | zero => intro v1 v2 σ; exact q_none
  | succ n ih => intro v1 v2 σ; exact aX9_reckon_s55 N c41 hc41 (fX9_reckon_l55 N c41 n) ih v1 v2 σ

def fX9_reckon_s41 (N : Nat) (c41 : Int32 → qMem → Option qMem) (v1 : Int32) (σ : qMem) : Option qMem :=
  (if 224 ≤ v1 then (nmM (si σ 68 8 1) fun s5 => (some s5)) else ((fX9_tally N v1 σ).bind fun y6 => (fX9_reckon_l55 N c41 N v1 0 y6)))
set_option maxRecDepth 20000 in
set_option maxHeartbeats 4000000 in
theorem aX9_reckon_s41 (N : Nat) (c41 : Int32 → qMem → Option qMem) (hc41 : ∀ (v1 : Int32) (σ : qMem), qAt wC mX9_reckon (ρv) 41 [(0, .ref 68), (1, .int v1)] [] σ (c41 v1 σ)) (v1 : Int32) (σ : qMem) : qAt wC mX9_reckon (ρv) 41 [(0, .ref 68), (1, .int v1)] [] σ (fX9_reckon_s41 N c41 v1 σ) := by
  unfold fX9_reckon_s41
  refine q_iload_n (i := 1) (x := v1) dX9_reckon_41 rfl 1 rfl ?_
  refine q_sipush (v := 224) dX9_reckon_42 (by decide) ?_
  refine q_icmp_ge (tgt := 98) dX9_reckon_45 (by decide) ?_ ?_
  · refine q_aload_n (i := 0) (x := 68) dX9_reckon_98 rfl 0 rfl ?_
    refine q_iconst (v := 1) dX9_reckon_99 (by decide) ?_
    refine q_putz dX9_reckon_100 foX9_31 fwX9_8 zC_68 rfl (by decide) ?_
    refine q_nmM (fun s5 => ?_)
    exact q_vret (y := s5) dX9_reckon_103 rfl rfl
  refine q_aload_n (i := 0) (x := 68) dX9_reckon_48 rfl 0 rfl ?_
  refine q_iload_n (i := 1) (x := v1) dX9_reckon_49 rfl 1 rfl ?_
  refine q_cVv mX9_tally [.int v1] (st := []) dX9_reckon_50 (svX9_57) ⟨Nat.le_of_ble_eq_true rfl, Nat.le_of_ble_eq_true rfl⟩ zC_68 rfl rfl rfl (Nat.le_of_ble_eq_true rfl) (kX9_tally N v1 σ) (fun y6 => ?_)
  refine q_iconst (v := 0) dX9_reckon_53 (by decide) ?_
  refine q_istore_n (i := 2) (L' := [(2, .int 0), (0, .ref 68), (1, .int v1)]) dX9_reckon_54 rfl (Nat.le_of_ble_eq_true rfl) rfl ?_
  exact q_sub [1, 2, 0] rfl (aX9_reckon_l55 N c41 hc41 N v1 0 y6)
def fX9_reckon_l41 (N : Nat) : Nat → Int32 → qMem → Option qMem
  | 0 => fun _ _ => none
  | n + 1 => fun v1 σ => fX9_reckon_s41 N (fX9_reckon_l41 N n) v1 σ
theorem aX9_reckon_l41 (N : Nat) : ∀ (n : Nat) (v1 : Int32) (σ : qMem), qAt wC mX9_reckon (ρv) 41 [(0, .ref 68), (1, .int v1)] [] σ (fX9_reckon_l41 N n v1 σ) := by
  intro n
  induction n with
  | zero => intro v1 σ; exact q_none
  | succ n ih => intro v1 σ; exact aX9_reckon_s41 N (fX9_reckon_l41 N n) ih v1 σ

def fX9_reckon (N : Nat)  (σ : qMem) : Option qMem :=
  (if (gi σ 68 8) = 0 then ((fX3_sortOut N σ).bind fun y1 => ((fX3_tune N y1).bind fun y2 => ((fJ7_fill_53178 N 72 64 0 y2).bind fun y3 => (nmM (si y3 68 6 64) fun s4 => (fX9_reckon_l41 N N 0 s4))))) else (some σ))
set_option maxRecDepth 20000 in
set_option maxHeartbeats 4000000 in
theorem aX9_reckon  (N : Nat)   (σ : qMem) : qAt wC mX9_reckon (ρv) 0 [(0, .ref 68)] [] σ (fX9_reckon N σ) := by
  unfold fX9_reckon
  refine q_aload_n (i := 0) (x := 68) dX9_reckon_0 rfl 0 rfl ?_
  refine q_geti dX9_reckon_1 foX9_31 zC_68 rfl ?_
  refine q_if_eq (tgt := 8) dX9_reckon_4 (by decide) ?_ ?_
  · refine q_aload_n (i := 0) (x := 68) dX9_reckon_8 rfl 0 rfl ?_
    refine q_getr (t := 44) dX9_reckon_9 foX9_39 zC_68 rfl ?_
    refine q_cVv mX3_sortOut [] (st := []) dX9_reckon_12 (svX9_43) ⟨Nat.le_of_ble_eq_true rfl, Nat.le_of_ble_eq_true rfl⟩ zC_44 rfl rfl rfl (Nat.le_of_ble_eq_true rfl) (kX3_sortOut N σ) (fun y1 => ?_)
    refine q_aload_n (i := 0) (x := 68) dX9_reckon_15 rfl 0 rfl ?_
    refine q_getr (t := 44) dX9_reckon_16 foX9_39 zC_68 rfl ?_
    refine q_cVv mX3_tune [] (st := []) dX9_reckon_19 (svX9_48) ⟨Nat.le_of_ble_eq_true rfl, Nat.le_of_ble_eq_true rfl⟩ zC_44 rfl rfl rfl (Nat.le_of_ble_eq_true rfl) (kX3_tune N y1) (fun y2 => ?_)
    refine q_aload_n (i := 0) (x := 68) dX9_reckon_22 rfl 0 rfl ?_
    refine q_getr (t := 72) dX9_reckon_23 foX9_21 zC_68 rfl ?_
    refine q_iconst (v := 0) dX9_reckon_26 (by decide) ?_
    refine q_cSv mJ7_fill_53178 [.ref 72, .int 0] (st := []) dX9_reckon_27 (ssX9_51) ⟨Nat.le_of_ble_eq_true rfl, Nat.le_of_ble_eq_true rfl⟩ rfl rfl (Nat.le_of_ble_eq_true rfl) (kJ7_fill_53178 N 72 64 0 zC_72 y2) (fun y3 => ?_)
    refine q_aload_n (i := 0) (x := 68) dX9_reckon_30 rfl 0 rfl ?_
    refine q_aload_n (i := 0) (x := 68) dX9_reckon_31 rfl 0 rfl ?_
    refine q_getr (t := 72) dX9_reckon_32 foX9_21 zC_68 rfl ?_
    refine q_alen (t0 := 0) (v := 64) dX9_reckon_35 zC_72 (fun _ => rfl) (by decide) ?_
    refine q_puti dX9_reckon_36 foX9_24 fwX9_6 zC_68 rfl ?_
    refine q_nmM (fun s4 => ?_)
    refine q_iconst (v := 0) dX9_reckon_39 (by decide) ?_
    refine q_istore_n (i := 1) (L' := [(1, .int 0), (0, .ref 68)]) dX9_reckon_40 rfl (Nat.le_of_ble_eq_true rfl) rfl ?_
    exact q_sub [1, 0] rfl (aX9_reckon_l41 N N 0 s4)
  exact q_vret (y := σ) dX9_reckon_7 rfl rfl
theorem kX9_reckon  (N : Nat)   (σ : qMem) : qMc wC mX9_reckon (ρv) [.ref 68] σ (fX9_reckon N σ) := qMc_of (moX9_reckon) (Nat.le_of_ble_eq_true rfl) (aX9_reckon N  σ)

theorem dX9_missesOf_0 : decode cX9_missesOf 0 = .ok (.aload_n 0, 1) := by decide +kernel
theorem dX9_missesOf_1 : decode cX9_missesOf 1 = .ok (.getfield 39, 3) := by decide +kernel
theorem dX9_missesOf_4 : decode cX9_missesOf 4 = .ok (.invokevirtual 43, 3) := by decide +kernel
theorem dX9_missesOf_7 : decode cX9_missesOf 7 = .ok (.aload_n 0, 1) := by decide +kernel
theorem dX9_missesOf_8 : decode cX9_missesOf 8 = .ok (.getfield 39, 3) := by decide +kernel
theorem dX9_missesOf_11 : decode cX9_missesOf 11 = .ok (.invokevirtual 48, 3) := by decide +kernel
theorem dX9_missesOf_14 : decode cX9_missesOf 14 = .ok (.aload_n 0, 1) := by decide +kernel
theorem dX9_missesOf_15 : decode cX9_missesOf 15 = .ok (.iload_n 1, 1) := by decide +kernel
theorem dX9_missesOf_16 : decode cX9_missesOf 16 = .ok (.bipush 7, 2) := by decide +kernel
theorem dX9_missesOf_18 : decode cX9_missesOf 18 = .ok (.imul, 1) := by decide +kernel
theorem dX9_missesOf_19 : decode cX9_missesOf 19 = .ok (.iload_n 3, 1) := by decide +kernel
theorem dX9_missesOf_20 : decode cX9_missesOf 20 = .ok (.iadd, 1) := by decide +kernel
theorem dX9_missesOf_21 : decode cX9_missesOf 21 = .ok (.iconst 3, 1) := by decide +kernel
theorem dX9_missesOf_22 : decode cX9_missesOf 22 = .ok (.iadd, 1) := by decide +kernel
theorem dX9_missesOf_23 : decode cX9_missesOf 23 = .ok (.invokevirtual 57, 3) := by decide +kernel
theorem dX9_missesOf_26 : decode cX9_missesOf 26 = .ok (.iload 4, 2) := by decide +kernel
theorem dX9_missesOf_28 : decode cX9_missesOf 28 = .ok (.iconst 3, 1) := by decide +kernel
theorem dX9_missesOf_29 : decode cX9_missesOf 29 = .ok (.iadd, 1) := by decide +kernel
theorem dX9_missesOf_30 : decode cX9_missesOf 30 = .ok (.bipush 6, 2) := by decide +kernel
theorem dX9_missesOf_32 : decode cX9_missesOf 32 = .ok (.imul, 1) := by decide +kernel
theorem dX9_missesOf_33 : decode cX9_missesOf 33 = .ok (.istore 5, 2) := by decide +kernel
theorem dX9_missesOf_35 : decode cX9_missesOf 35 = .ok (.iconst 0, 1) := by decide +kernel
theorem dX9_missesOf_36 : decode cX9_missesOf 36 = .ok (.istore 6, 2) := by decide +kernel
theorem dX9_missesOf_38 : decode cX9_missesOf 38 = .ok (.iconst 0, 1) := by decide +kernel
theorem dX9_missesOf_39 : decode cX9_missesOf 39 = .ok (.istore 7, 2) := by decide +kernel
theorem dX9_missesOf_41 : decode cX9_missesOf 41 = .ok (.iload 7, 2) := by decide +kernel
theorem dX9_missesOf_43 : decode cX9_missesOf 43 = .ok (.bipush 6, 2) := by decide +kernel
theorem dX9_missesOf_45 : decode cX9_missesOf 45 = .ok (.if_icmp .ge 31, 3) := by decide +kernel
theorem dX9_missesOf_48 : decode cX9_missesOf 48 = .ok (.iload 6, 2) := by decide +kernel
theorem dX9_missesOf_50 : decode cX9_missesOf 50 = .ok (.aload_n 0, 1) := by decide +kernel
theorem dX9_missesOf_51 : decode cX9_missesOf 51 = .ok (.getfield 18, 3) := by decide +kernel
theorem dX9_missesOf_54 : decode cX9_missesOf 54 = .ok (.iload 5, 2) := by decide +kernel
theorem dX9_missesOf_56 : decode cX9_missesOf 56 = .ok (.iload 7, 2) := by decide +kernel
theorem dX9_missesOf_58 : decode cX9_missesOf 58 = .ok (.iadd, 1) := by decide +kernel
theorem dX9_missesOf_59 : decode cX9_missesOf 59 = .ok (.iaload, 1) := by decide +kernel
theorem dX9_missesOf_60 : decode cX9_missesOf 60 = .ok (.iload_n 2, 1) := by decide +kernel
theorem dX9_missesOf_61 : decode cX9_missesOf 61 = .ok (.iushr, 1) := by decide +kernel
theorem dX9_missesOf_62 : decode cX9_missesOf 62 = .ok (.iconst 1, 1) := by decide +kernel
theorem dX9_missesOf_63 : decode cX9_missesOf 63 = .ok (.iand, 1) := by decide +kernel
theorem dX9_missesOf_64 : decode cX9_missesOf 64 = .ok (.iload 7, 2) := by decide +kernel
theorem dX9_missesOf_66 : decode cX9_missesOf 66 = .ok (.ishl, 1) := by decide +kernel
theorem dX9_missesOf_67 : decode cX9_missesOf 67 = .ok (.ior, 1) := by decide +kernel
theorem dX9_missesOf_68 : decode cX9_missesOf 68 = .ok (.istore 6, 2) := by decide +kernel
theorem dX9_missesOf_70 : decode cX9_missesOf 70 = .ok (.iinc 7 1, 3) := by decide +kernel
theorem dX9_missesOf_73 : decode cX9_missesOf 73 = .ok (.goto (-32), 3) := by decide +kernel
theorem dX9_missesOf_76 : decode cX9_missesOf 76 = .ok (.iload 6, 2) := by decide +kernel
theorem dX9_missesOf_78 : decode cX9_missesOf 78 = .ok (.ireturn, 1) := by decide +kernel
def fX9_missesOf_s41 (N : Nat) (c41 : Int32 → Int32 → Int32 → Int32 → qMem → Option (Int32 × qMem)) (v2 : Int32) (v5 : Int32) (v6 : Int32) (v7 : Int32) (σ : qMem) : Option (Int32 × qMem) :=
  (if 6 ≤ v7 then (some (v6, σ)) else (if ck (v5 + v7) 42 = true then (nmI (v6 ||| (((ushr (gi σ 71 (v5 + v7).toNatClampNeg) v2) &&& 1) <<< (v7 &&& 31))) fun x4 => (c41 v2 v5 x4 (v7 + 1) σ)) else none))
set_option maxRecDepth 20000 in
set_option maxHeartbeats 4000000 in
theorem aX9_missesOf_s41 (N : Nat) (c41 : Int32 → Int32 → Int32 → Int32 → qMem → Option (Int32 × qMem)) (hc41 : ∀ (v2 : Int32) (v5 : Int32) (v6 : Int32) (v7 : Int32) (σ : qMem), qAt wC mX9_missesOf (ρi) 41 [(0, .ref 68), (2, .int v2), (5, .int v5), (6, .int v6), (7, .int v7)] [] σ (c41 v2 v5 v6 v7 σ)) (v2 : Int32) (v5 : Int32) (v6 : Int32) (v7 : Int32) (σ : qMem) : qAt wC mX9_missesOf (ρi) 41 [(0, .ref 68), (2, .int v2), (5, .int v5), (6, .int v6), (7, .int v7)] [] σ (fX9_missesOf_s41 N c41 v2 v5 v6 v7 σ) := by
  unfold fX9_missesOf_s41
  refine q_iload (i := 7) (x := v7) dX9_missesOf_41 4 rfl ?_
  refine q_bipush (v := 6) dX9_missesOf_43 (by decide) ?_
  refine q_icmp_ge (tgt := 76) dX9_missesOf_45 (by decide) ?_ ?_
  · refine q_iload (i := 6) (x := v6) dX9_missesOf_76 3 rfl ?_
    exact q_ireti (y := (v6, σ)) dX9_missesOf_78 rfl rfl
  refine q_iload (i := 6) (x := v6) dX9_missesOf_48 3 rfl ?_
  refine q_aload_n (i := 0) (x := 68) dX9_missesOf_50 rfl 0 rfl ?_
  refine q_getr (t := 71) dX9_missesOf_51 foX9_18 zC_68 rfl ?_
  refine q_iload (i := 5) (x := v5) dX9_missesOf_54 2 rfl ?_
  refine q_iload (i := 7) (x := v7) dX9_missesOf_56 4 rfl ?_
  refine q_iadd dX9_missesOf_58 ?_
  refine q_iald dX9_missesOf_59 zC_71 ?_
  refine q_iload_n (i := 2) (x := v2) dX9_missesOf_60 rfl 1 rfl ?_
  refine q_iushr dX9_missesOf_61 ?_
  refine q_iconst (v := 1) dX9_missesOf_62 (by decide) ?_
  refine q_iand dX9_missesOf_63 ?_
  refine q_iload (i := 7) (x := v7) dX9_missesOf_64 4 rfl ?_
  refine q_ishl dX9_missesOf_66 ?_
  refine q_ior dX9_missesOf_67 ?_
  refine q_nmI (fun x4 => ?_)
  refine q_istore (i := 6) (L' := [(6, .int x4), (0, .ref 68), (2, .int v2), (5, .int v5), (7, .int v7)]) dX9_missesOf_68 (Nat.le_of_ble_eq_true rfl) rfl ?_
  refine q_iinc (i := 7) (x := v7) (v := (v7 + 1)) (L' := [(7, .int (v7 + 1)), (6, .int x4), (0, .ref 68), (2, .int v2), (5, .int v5)]) dX9_missesOf_70 4 rfl (q_cst v7 (by decide)) (Nat.le_of_ble_eq_true rfl) rfl ?_
  refine q_goto (tgt := 41) dX9_missesOf_73 (by decide) ?_
  exact q_sub [2, 3, 4, 1, 0] rfl (hc41 v2 v5 x4 (v7 + 1) σ)
def fX9_missesOf_l41 (N : Nat) : Nat → Int32 → Int32 → Int32 → Int32 → qMem → Option (Int32 × qMem)
  | 0 => fun _ _ _ _ _ => none
  | n + 1 => fun v2 v5 v6 v7 σ => fX9_missesOf_s41 N (fX9_missesOf_l41 N n) v2 v5 v6 v7 σ
theorem aX9_missesOf_l41 (N : Nat) : ∀ (n : Nat) (v2 : Int32) (v5 : Int32) (v6 : Int32) (v7 : Int32) (σ : qMem), qAt wC mX9_missesOf (ρi) 41 [(0, .ref 68), (2, .int v2), (5, .int v5), (6, .int v6), (7, .int v7)] [] σ (fX9_missesOf_l41 N n v2 v5 v6 v7 σ) := by
  intro n
  induction n with
  | zero => intro v2 v5 v6 v7 σ; exact q_none
  | succ n ih => intro v2 v5 v6 v7 σ; exact aX9_missesOf_s41 N (fX9_missesOf_l41 N n) ih v2 v5 v6 v7 σ

def fX9_missesOf (N : Nat) (p1 : Int32) (p2 : Int32) (p3 : Int32) (p4 : Int32) (σ : qMem) : Option (Int32 × qMem) :=
  ((fX3_sortOut N σ).bind fun y1 => ((fX3_tune N y1).bind fun y2 => ((fX9_tally N (((p1 * 7) + p3) + 3) y2).bind fun y3 => (fX9_missesOf_l41 N N p2 ((p4 + 3) * 6) 0 0 y3))))
set_option maxRecDepth 20000 in
set_option maxHeartbeats 4000000 in
theorem aX9_missesOf  (N : Nat) (p1 : Int32) (p2 : Int32) (p3 : Int32) (p4 : Int32)  (σ : qMem) : qAt wC mX9_missesOf (ρi) 0 [(0, .ref 68), (1, .int p1), (2, .int p2), (3, .int p3), (4, .int p4)] [] σ (fX9_missesOf N p1 p2 p3 p4 σ) := by
  unfold fX9_missesOf
  refine q_aload_n (i := 0) (x := 68) dX9_missesOf_0 rfl 0 rfl ?_
  refine q_getr (t := 44) dX9_missesOf_1 foX9_39 zC_68 rfl ?_
  refine q_cVv mX3_sortOut [] (st := []) dX9_missesOf_4 (svX9_43) ⟨Nat.le_of_ble_eq_true rfl, Nat.le_of_ble_eq_true rfl⟩ zC_44 rfl rfl rfl (Nat.le_of_ble_eq_true rfl) (kX3_sortOut N σ) (fun y1 => ?_)
  refine q_aload_n (i := 0) (x := 68) dX9_missesOf_7 rfl 0 rfl ?_
  refine q_getr (t := 44) dX9_missesOf_8 foX9_39 zC_68 rfl ?_
  refine q_cVv mX3_tune [] (st := []) dX9_missesOf_11 (svX9_48) ⟨Nat.le_of_ble_eq_true rfl, Nat.le_of_ble_eq_true rfl⟩ zC_44 rfl rfl rfl (Nat.le_of_ble_eq_true rfl) (kX3_tune N y1) (fun y2 => ?_)
  refine q_aload_n (i := 0) (x := 68) dX9_missesOf_14 rfl 0 rfl ?_
  refine q_iload_n (i := 1) (x := p1) dX9_missesOf_15 rfl 1 rfl ?_
  refine q_bipush (v := 7) dX9_missesOf_16 (by decide) ?_
  refine q_imul dX9_missesOf_18 ?_
  refine q_iload_n (i := 3) (x := p3) dX9_missesOf_19 rfl 3 rfl ?_
  refine q_iadd dX9_missesOf_20 ?_
  refine q_iconst (v := 3) dX9_missesOf_21 (by decide) ?_
  refine q_iadd dX9_missesOf_22 ?_
  refine q_cVv mX9_tally [.int (((p1 * 7) + p3) + 3)] (st := []) dX9_missesOf_23 (svX9_57) ⟨Nat.le_of_ble_eq_true rfl, Nat.le_of_ble_eq_true rfl⟩ zC_68 rfl rfl rfl (Nat.le_of_ble_eq_true rfl) (kX9_tally N (((p1 * 7) + p3) + 3) y2) (fun y3 => ?_)
  refine q_iload (i := 4) (x := p4) dX9_missesOf_26 4 rfl ?_
  refine q_iconst (v := 3) dX9_missesOf_28 (by decide) ?_
  refine q_iadd dX9_missesOf_29 ?_
  refine q_bipush (v := 6) dX9_missesOf_30 (by decide) ?_
  refine q_imul dX9_missesOf_32 ?_
  refine q_istore (i := 5) (L' := [(5, .int ((p4 + 3) * 6)), (0, .ref 68), (1, .int p1), (2, .int p2), (3, .int p3), (4, .int p4)]) dX9_missesOf_33 (Nat.le_of_ble_eq_true rfl) rfl ?_
  refine q_iconst (v := 0) dX9_missesOf_35 (by decide) ?_
  refine q_istore (i := 6) (L' := [(6, .int 0), (5, .int ((p4 + 3) * 6)), (0, .ref 68), (1, .int p1), (2, .int p2), (3, .int p3), (4, .int p4)]) dX9_missesOf_36 (Nat.le_of_ble_eq_true rfl) rfl ?_
  refine q_iconst (v := 0) dX9_missesOf_38 (by decide) ?_
  refine q_istore (i := 7) (L' := [(7, .int 0), (6, .int 0), (5, .int ((p4 + 3) * 6)), (0, .ref 68), (1, .int p1), (2, .int p2), (3, .int p3), (4, .int p4)]) dX9_missesOf_39 (Nat.le_of_ble_eq_true rfl) rfl ?_
  exact q_sub [3, 5, 2, 1, 0] rfl (aX9_missesOf_l41 N N p2 ((p4 + 3) * 6) 0 0 y3)
theorem kX9_missesOf  (N : Nat) (p1 : Int32) (p2 : Int32) (p3 : Int32) (p4 : Int32)  (σ : qMem) : qMc wC mX9_missesOf (ρi) [.ref 68, .int p1, .int p2, .int p3, .int p4] σ (fX9_missesOf N p1 p2 p3 p4 σ) := qMc_of (moX9_missesOf) (Nat.le_of_ble_eq_true rfl) (aX9_missesOf N p1 p2 p3 p4  σ)

theorem dX9_below_0 : decode cX9_below 0 = .ok (.iconst 0, 1) := by decide +kernel
theorem dX9_below_1 : decode cX9_below 1 = .ok (.istore_n 2, 1) := by decide +kernel
theorem dX9_below_2 : decode cX9_below 2 = .ok (.iconst 0, 1) := by decide +kernel
theorem dX9_below_3 : decode cX9_below 3 = .ok (.istore_n 3, 1) := by decide +kernel
theorem dX9_below_4 : decode cX9_below 4 = .ok (.iload_n 3, 1) := by decide +kernel
theorem dX9_below_5 : decode cX9_below 5 = .ok (.iload_n 1, 1) := by decide +kernel
theorem dX9_below_6 : decode cX9_below 6 = .ok (.if_icmp .ge 27, 3) := by decide +kernel
theorem dX9_below_9 : decode cX9_below 9 = .ok (.iload_n 3, 1) := by decide +kernel
theorem dX9_below_10 : decode cX9_below 10 = .ok (.aload_n 0, 1) := by decide +kernel
theorem dX9_below_11 : decode cX9_below 11 = .ok (.getfield 21, 3) := by decide +kernel
theorem dX9_below_14 : decode cX9_below 14 = .ok (.arraylength, 1) := by decide +kernel
theorem dX9_below_15 : decode cX9_below 15 = .ok (.if_icmp .ge 18, 3) := by decide +kernel
theorem dX9_below_18 : decode cX9_below 18 = .ok (.iload_n 2, 1) := by decide +kernel
theorem dX9_below_19 : decode cX9_below 19 = .ok (.aload_n 0, 1) := by decide +kernel
theorem dX9_below_20 : decode cX9_below 20 = .ok (.getfield 21, 3) := by decide +kernel
theorem dX9_below_23 : decode cX9_below 23 = .ok (.iload_n 3, 1) := by decide +kernel
theorem dX9_below_24 : decode cX9_below 24 = .ok (.iaload, 1) := by decide +kernel
theorem dX9_below_25 : decode cX9_below 25 = .ok (.iadd, 1) := by decide +kernel
theorem dX9_below_26 : decode cX9_below 26 = .ok (.istore_n 2, 1) := by decide +kernel
theorem dX9_below_27 : decode cX9_below 27 = .ok (.iinc 3 1, 3) := by decide +kernel
theorem dX9_below_30 : decode cX9_below 30 = .ok (.goto (-26), 3) := by decide +kernel
theorem dX9_below_33 : decode cX9_below 33 = .ok (.iload_n 2, 1) := by decide +kernel
theorem dX9_below_34 : decode cX9_below 34 = .ok (.ireturn, 1) := by decide +kernel
def fX9_below_s4 (N : Nat) (c4 : Int32 → Int32 → Int32 → Option Int32) (v1 : Int32) (v2 : Int32) (v3 : Int32) (σ : qMem) : Option Int32 :=
  (if v1 ≤ v3 then (some v2) else (if 64 ≤ v3 then (some v2) else (if ck v3 64 = true then (nmI (v2 + (gi σ 72 v3.toNatClampNeg)) fun x1 => (c4 v1 x1 (v3 + 1))) else none)))
set_option maxRecDepth 20000 in
set_option maxHeartbeats 4000000 in
theorem aX9_below_s4 (N : Nat) (σ : qMem) (c4 : Int32 → Int32 → Int32 → Option Int32) (hc4 : ∀ (v1 : Int32) (v2 : Int32) (v3 : Int32) , qAt wC mX9_below (ρp σ) 4 [(0, .ref 68), (1, .int v1), (2, .int v2), (3, .int v3)] [] σ (c4 v1 v2 v3)) (v1 : Int32) (v2 : Int32) (v3 : Int32) : qAt wC mX9_below (ρp σ) 4 [(0, .ref 68), (1, .int v1), (2, .int v2), (3, .int v3)] [] σ (fX9_below_s4 N c4 v1 v2 v3 σ) := by
  unfold fX9_below_s4
  refine q_iload_n (i := 3) (x := v3) dX9_below_4 rfl 3 rfl ?_
  refine q_iload_n (i := 1) (x := v1) dX9_below_5 rfl 1 rfl ?_
  refine q_icmp_ge (tgt := 33) dX9_below_6 (by decide) ?_ ?_
  · refine q_iload_n (i := 2) (x := v2) dX9_below_33 rfl 2 rfl ?_
    exact q_ireti (y := v2) dX9_below_34 rfl rfl
  refine q_iload_n (i := 3) (x := v3) dX9_below_9 rfl 3 rfl ?_
  refine q_aload_n (i := 0) (x := 68) dX9_below_10 rfl 0 rfl ?_
  refine q_getr (t := 72) dX9_below_11 foX9_21 zC_68 rfl ?_
  refine q_alen (t0 := 0) (v := 64) dX9_below_14 zC_72 (fun _ => rfl) (by decide) ?_
  refine q_icmp_ge (tgt := 33) dX9_below_15 (by decide) ?_ ?_
  · refine q_iload_n (i := 2) (x := v2) dX9_below_33 rfl 2 rfl ?_
    exact q_ireti (y := v2) dX9_below_34 rfl rfl
  refine q_iload_n (i := 2) (x := v2) dX9_below_18 rfl 2 rfl ?_
  refine q_aload_n (i := 0) (x := 68) dX9_below_19 rfl 0 rfl ?_
  refine q_getr (t := 72) dX9_below_20 foX9_21 zC_68 rfl ?_
  refine q_iload_n (i := 3) (x := v3) dX9_below_23 rfl 3 rfl ?_
  refine q_iald dX9_below_24 zC_72 ?_
  refine q_iadd dX9_below_25 ?_
  refine q_nmI (fun x1 => ?_)
  refine q_istore_n (i := 2) (L' := [(2, .int x1), (0, .ref 68), (1, .int v1), (3, .int v3)]) dX9_below_26 rfl (Nat.le_of_ble_eq_true rfl) rfl ?_
  refine q_iinc (i := 3) (x := v3) (v := (v3 + 1)) (L' := [(3, .int (v3 + 1)), (2, .int x1), (0, .ref 68), (1, .int v1)]) dX9_below_27 3 rfl (q_cst v3 (by decide)) (Nat.le_of_ble_eq_true rfl) rfl ?_
  refine q_goto (tgt := 4) dX9_below_30 (by decide) ?_
  exact q_sub [2, 3, 1, 0] rfl (hc4 v1 x1 (v3 + 1))
def fX9_below_l4 (N : Nat) (σ : qMem) : Nat → Int32 → Int32 → Int32 → Option Int32
  | 0 => fun _ _ _ => none
  | n + 1 => fun v1 v2 v3 => fX9_below_s4 N (fX9_below_l4 N σ n) v1 v2 v3 σ
theorem aX9_below_l4 (N : Nat) (σ : qMem) : ∀ (n : Nat) (v1 : Int32) (v2 : Int32) (v3 : Int32), qAt wC mX9_below (ρp σ) 4 [(0, .ref 68), (1, .int v1), (2, .int v2), (3, .int v3)] [] σ (fX9_below_l4 N σ n v1 v2 v3) := by
  intro n
  induction n with
  | zero => intro v1 v2 v3; exact q_none
  | succ n ih => intro v1 v2 v3; exact aX9_below_s4 N σ (fX9_below_l4 N σ n) ih v1 v2 v3

def fX9_below (N : Nat) (p1 : Int32) (σ : qMem) : Option Int32 :=
  (fX9_below_l4 N σ N p1 0 0)
set_option maxRecDepth 20000 in
set_option maxHeartbeats 4000000 in
theorem aX9_below  (N : Nat) (p1 : Int32)  (σ : qMem) : qAt wC mX9_below (ρp σ) 0 [(0, .ref 68), (1, .int p1)] [] σ (fX9_below N p1 σ) := by
  unfold fX9_below
  refine q_iconst (v := 0) dX9_below_0 (by decide) ?_
  refine q_istore_n (i := 2) (L' := [(2, .int 0), (0, .ref 68), (1, .int p1)]) dX9_below_1 rfl (Nat.le_of_ble_eq_true rfl) rfl ?_
  refine q_iconst (v := 0) dX9_below_2 (by decide) ?_
  refine q_istore_n (i := 3) (L' := [(3, .int 0), (2, .int 0), (0, .ref 68), (1, .int p1)]) dX9_below_3 rfl (Nat.le_of_ble_eq_true rfl) rfl ?_
  exact q_sub [2, 3, 1, 0] rfl (aX9_below_l4 N σ N p1 0 0)
theorem kX9_below  (N : Nat) (p1 : Int32)  (σ : qMem) : qMc wC mX9_below (ρp σ) [.ref 68, .int p1] σ (fX9_below N p1 σ) := qMc_of (moX9_below) (Nat.le_of_ble_eq_true rfl) (aX9_below N p1  σ)

theorem dX10_changeSlow_0 : decode cX10_changeSlow 0 = .ok (.aload_n 0, 1) := by decide +kernel
theorem dX10_changeSlow_1 : decode cX10_changeSlow 1 = .ok (.getfield 18, 3) := by decide +kernel
theorem dX10_changeSlow_4 : decode cX10_changeSlow 4 = .ok (.bipush 10, 2) := by decide +kernel
theorem dX10_changeSlow_6 : decode cX10_changeSlow 6 = .ok (.imul, 1) := by decide +kernel
theorem dX10_changeSlow_7 : decode cX10_changeSlow 7 = .ok (.iload_n 1, 1) := by decide +kernel
theorem dX10_changeSlow_8 : decode cX10_changeSlow 8 = .ok (.iadd, 1) := by decide +kernel
theorem dX10_changeSlow_9 : decode cX10_changeSlow 9 = .ok (.istore_n 3, 1) := by decide +kernel
theorem dX10_changeSlow_10 : decode cX10_changeSlow 10 = .ok (.iload_n 3, 1) := by decide +kernel
theorem dX10_changeSlow_11 : decode cX10_changeSlow 11 = .ok (.ifCond .lt 12, 3) := by decide +kernel
theorem dX10_changeSlow_14 : decode cX10_changeSlow 14 = .ok (.iload_n 3, 1) := by decide +kernel
theorem dX10_changeSlow_15 : decode cX10_changeSlow 15 = .ok (.aload_n 0, 1) := by decide +kernel
theorem dX10_changeSlow_16 : decode cX10_changeSlow 16 = .ok (.getfield 9, 3) := by decide +kernel
theorem dX10_changeSlow_19 : decode cX10_changeSlow 19 = .ok (.arraylength, 1) := by decide +kernel
theorem dX10_changeSlow_20 : decode cX10_changeSlow 20 = .ok (.if_icmp .lt 5, 3) := by decide +kernel
theorem dX10_changeSlow_23 : decode cX10_changeSlow 23 = .ok (.iconst (-1), 1) := by decide +kernel
theorem dX10_changeSlow_24 : decode cX10_changeSlow 24 = .ok (.ireturn, 1) := by decide +kernel
theorem dX10_changeSlow_25 : decode cX10_changeSlow 25 = .ok (.aload_n 0, 1) := by decide +kernel
theorem dX10_changeSlow_26 : decode cX10_changeSlow 26 = .ok (.getfield 9, 3) := by decide +kernel
theorem dX10_changeSlow_29 : decode cX10_changeSlow 29 = .ok (.iload_n 3, 1) := by decide +kernel
theorem dX10_changeSlow_30 : decode cX10_changeSlow 30 = .ok (.iaload, 1) := by decide +kernel
theorem dX10_changeSlow_31 : decode cX10_changeSlow 31 = .ok (.istore 4, 2) := by decide +kernel
theorem dX10_changeSlow_33 : decode cX10_changeSlow 33 = .ok (.aload_n 0, 1) := by decide +kernel
theorem dX10_changeSlow_34 : decode cX10_changeSlow 34 = .ok (.getfield 9, 3) := by decide +kernel
theorem dX10_changeSlow_37 : decode cX10_changeSlow 37 = .ok (.iload_n 3, 1) := by decide +kernel
theorem dX10_changeSlow_38 : decode cX10_changeSlow 38 = .ok (.iload_n 2, 1) := by decide +kernel
theorem dX10_changeSlow_39 : decode cX10_changeSlow 39 = .ok (.iastore, 1) := by decide +kernel
theorem dX10_changeSlow_40 : decode cX10_changeSlow 40 = .ok (.iload 4, 2) := by decide +kernel
theorem dX10_changeSlow_42 : decode cX10_changeSlow 42 = .ok (.ireturn, 1) := by decide +kernel

def fX10_changeSlow (k : Nat) (p1 : Int32) (p2 : Int32) (σ : qMem) : Option (Int32 × qMem) :=
  (if (((gi σ k 2) * 10) + p1) < 0 then (some ((-1), σ)) else (if (((gi σ k 2) * 10) + p1) < 30 then (if ck (((gi σ k 2) * 10) + p1) 30 = true then (nmI (gi σ (k + 1) (((gi σ k 2) * 10) + p1).toNatClampNeg) fun x1 => (if ck (((gi σ k 2) * 10) + p1) 30 = true then (nmM (si σ (k + 1) (((gi σ k 2) * 10) + p1).toNatClampNeg p2) fun s2 => (some (x1, s2))) else none)) else none) else (some ((-1), σ))))
set_option maxRecDepth 20000 in
set_option maxHeartbeats 4000000 in
theorem aX10_changeSlow  (k : Nat) (p1 : Int32) (p2 : Int32) (hk : iWater k) (σ : qMem) : qAt wC mX10_changeSlow (ρi) 0 [(0, .ref k), (1, .int p1), (2, .int p2)] [] σ (fX10_changeSlow k p1 p2 σ) := by
  unfold fX10_changeSlow
  refine q_aload_n (i := 0) (x := k) dX10_changeSlow_0 rfl 0 rfl ?_
  refine q_geti dX10_changeSlow_1 foX10_18 hk.1 rfl ?_
  refine q_bipush (v := 10) dX10_changeSlow_4 (by decide) ?_
  refine q_imul dX10_changeSlow_6 ?_
  refine q_iload_n (i := 1) (x := p1) dX10_changeSlow_7 rfl 1 rfl ?_
  refine q_iadd dX10_changeSlow_8 ?_
  refine q_istore_n (i := 3) (L' := [(3, .int (((gi σ k 2) * 10) + p1)), (0, .ref k), (1, .int p1), (2, .int p2)]) dX10_changeSlow_9 rfl (Nat.le_of_ble_eq_true rfl) rfl ?_
  refine q_iload_n (i := 3) (x := (((gi σ k 2) * 10) + p1)) dX10_changeSlow_10 rfl 0 rfl ?_
  refine q_if_lt (tgt := 23) dX10_changeSlow_11 (by decide) ?_ ?_
  · refine q_iconst (v := (-1)) dX10_changeSlow_23 (by decide) ?_
    exact q_ireti (y := ((-1), σ)) dX10_changeSlow_24 rfl rfl
  refine q_iload_n (i := 3) (x := (((gi σ k 2) * 10) + p1)) dX10_changeSlow_14 rfl 0 rfl ?_
  refine q_aload_n (i := 0) (x := k) dX10_changeSlow_15 rfl 1 rfl ?_
  refine q_getr (t := (k + 1)) dX10_changeSlow_16 foX10_9 hk.1 rfl ?_
  refine q_alen (t0 := 0) (v := 30) dX10_changeSlow_19 hk.2.1 (fun _ => rfl) (by decide) ?_
  refine q_icmp_lt (tgt := 25) dX10_changeSlow_20 (by decide) ?_ ?_
  · refine q_aload_n (i := 0) (x := k) dX10_changeSlow_25 rfl 1 rfl ?_
    refine q_getr (t := (k + 1)) dX10_changeSlow_26 foX10_9 hk.1 rfl ?_
    refine q_iload_n (i := 3) (x := (((gi σ k 2) * 10) + p1)) dX10_changeSlow_29 rfl 0 rfl ?_
    refine q_iald dX10_changeSlow_30 hk.2.1 ?_
    refine q_nmI (fun x1 => ?_)
    refine q_istore (i := 4) (L' := [(4, .int x1), (3, .int (((gi σ k 2) * 10) + p1)), (0, .ref k), (1, .int p1), (2, .int p2)]) dX10_changeSlow_31 (Nat.le_of_ble_eq_true rfl) rfl ?_
    refine q_aload_n (i := 0) (x := k) dX10_changeSlow_33 rfl 2 rfl ?_
    refine q_getr (t := (k + 1)) dX10_changeSlow_34 foX10_9 hk.1 rfl ?_
    refine q_iload_n (i := 3) (x := (((gi σ k 2) * 10) + p1)) dX10_changeSlow_37 rfl 1 rfl ?_
    refine q_iload_n (i := 2) (x := p2) dX10_changeSlow_38 rfl 4 rfl ?_
    refine q_iast dX10_changeSlow_39 hk.2.1 ?_
    refine q_nmM (fun s2 => ?_)
    refine q_iload (i := 4) (x := x1) dX10_changeSlow_40 0 rfl ?_
    exact q_ireti (y := (x1, s2)) dX10_changeSlow_42 rfl rfl
  refine q_iconst (v := (-1)) dX10_changeSlow_23 (by decide) ?_
  exact q_ireti (y := ((-1), σ)) dX10_changeSlow_24 rfl rfl
theorem kX10_changeSlow  (k : Nat) (p1 : Int32) (p2 : Int32) (hk : iWater k) (σ : qMem) : qMc wC mX10_changeSlow (ρi) [.ref k, .int p1, .int p2] σ (fX10_changeSlow k p1 p2 σ) := qMc_of (moX10_changeSlow) (Nat.le_of_ble_eq_true rfl) (aX10_changeSlow k p1 p2 hk σ)

theorem dX11_accept_0 : decode cX11_accept 0 = .ok (.aload_n 0, 1) := by decide +kernel
theorem dX11_accept_1 : decode cX11_accept 1 = .ok (.iconst 0, 1) := by decide +kernel
theorem dX11_accept_2 : decode cX11_accept 2 = .ok (.putfield 76, 3) := by decide +kernel
theorem dX11_accept_5 : decode cX11_accept 5 = .ok (.iload_n 1, 1) := by decide +kernel
theorem dX11_accept_6 : decode cX11_accept 6 = .ok (.ireturn, 1) := by decide +kernel

def fX11_accept (p1 : Int32) (σ : qMem) : Option (Int32 × qMem) :=
  (nmM (si σ 0 13 0) fun s1 => (some (p1, s1)))
set_option maxRecDepth 20000 in
set_option maxHeartbeats 4000000 in
theorem aX11_accept  (p1 : Int32)  (σ : qMem) : qAt wC mX11_accept (ρi) 0 [(0, .ref 0), (1, .int p1)] [] σ (fX11_accept p1 σ) := by
  unfold fX11_accept
  refine q_aload_n (i := 0) (x := 0) dX11_accept_0 rfl 0 rfl ?_
  refine q_iconst (v := 0) dX11_accept_1 (by decide) ?_
  refine q_puti dX11_accept_2 foX11_76 fwX11_13 zC_0 rfl ?_
  refine q_nmM (fun s1 => ?_)
  refine q_iload_n (i := 1) (x := p1) dX11_accept_5 rfl 1 rfl ?_
  exact q_ireti (y := (p1, s1)) dX11_accept_6 rfl rfl
theorem kX11_accept  (p1 : Int32)  (σ : qMem) : qMc wC mX11_accept (ρi) [.ref 0, .int p1] σ (fX11_accept p1 σ) := qMc_of (moX11_accept) (Nat.le_of_ble_eq_true rfl) (aX11_accept p1  σ)

theorem dX11_changed_0 : decode cX11_changed 0 = .ok (.aload_n 0, 1) := by decide +kernel
theorem dX11_changed_1 : decode cX11_changed 1 = .ok (.getfield 29, 3) := by decide +kernel
theorem dX11_changed_4 : decode cX11_changed 4 = .ok (.invokevirtual 381, 3) := by decide +kernel
theorem dX11_changed_7 : decode cX11_changed 7 = .ok (.aload_n 0, 1) := by decide +kernel
theorem dX11_changed_8 : decode cX11_changed 8 = .ok (.getfield 38, 3) := by decide +kernel
theorem dX11_changed_11 : decode cX11_changed 11 = .ok (.invokevirtual 384, 3) := by decide +kernel
theorem dX11_changed_14 : decode cX11_changed 14 = .ok (.aload_n 0, 1) := by decide +kernel
theorem dX11_changed_15 : decode cX11_changed 15 = .ok (.iload_n 1, 1) := by decide +kernel
theorem dX11_changed_16 : decode cX11_changed 16 = .ok (.invokevirtual 240, 3) := by decide +kernel
theorem dX11_changed_19 : decode cX11_changed 19 = .ok (.ireturn, 1) := by decide +kernel

def fX11_changed (p1 : Int32) (σ : qMem) : Option (Int32 × qMem) :=
  ((fX3_forget σ).bind fun y1 => ((fX9_forget y1).bind fun y2 => ((fX11_accept p1 y2).bind fun y3 => (some (y3.1, y3.2)))))
set_option maxRecDepth 20000 in
set_option maxHeartbeats 4000000 in
theorem aX11_changed  (p1 : Int32)  (σ : qMem) : qAt wC mX11_changed (ρi) 0 [(0, .ref 0), (1, .int p1)] [] σ (fX11_changed p1 σ) := by
  unfold fX11_changed
  refine q_aload_n (i := 0) (x := 0) dX11_changed_0 rfl 0 rfl ?_
  refine q_getr (t := 44) dX11_changed_1 foX11_29 zC_0 rfl ?_
  refine q_cVv mX3_forget [] (st := []) dX11_changed_4 (svX11_381) ⟨Nat.le_of_ble_eq_true rfl, Nat.le_of_ble_eq_true rfl⟩ zC_44 rfl rfl rfl (Nat.le_of_ble_eq_true rfl) (kX3_forget σ) (fun y1 => ?_)
  refine q_aload_n (i := 0) (x := 0) dX11_changed_7 rfl 0 rfl ?_
  refine q_getr (t := 68) dX11_changed_8 foX11_38 zC_0 rfl ?_
  refine q_cVv mX9_forget [] (st := []) dX11_changed_11 (svX11_384) ⟨Nat.le_of_ble_eq_true rfl, Nat.le_of_ble_eq_true rfl⟩ zC_68 rfl rfl rfl (Nat.le_of_ble_eq_true rfl) (kX9_forget y1) (fun y2 => ?_)
  refine q_aload_n (i := 0) (x := 0) dX11_changed_14 rfl 0 rfl ?_
  refine q_iload_n (i := 1) (x := p1) dX11_changed_15 rfl 1 rfl ?_
  refine q_cVi mX11_accept [.int p1] (st := []) dX11_changed_16 (svX11_240) ⟨Nat.le_of_ble_eq_true rfl, Nat.le_of_ble_eq_true rfl⟩ zC_0 rfl rfl rfl (Nat.le_of_ble_eq_true rfl) (kX11_accept p1 y2) (fun y3 => ?_)
  exact q_ireti (y := (y3.1, y3.2)) dX11_changed_19 rfl rfl
theorem kX11_changed  (p1 : Int32)  (σ : qMem) : qMc wC mX11_changed (ρi) [.ref 0, .int p1] σ (fX11_changed p1 σ) := qMc_of (moX11_changed) (Nat.le_of_ble_eq_true rfl) (aX11_changed p1  σ)

theorem dX11_ofSea_0 : decode cX11_ofSea 0 = .ok (.iload_n 0, 1) := by decide +kernel
theorem dX11_ofSea_1 : decode cX11_ofSea 1 = .ok (.iconst 0, 1) := by decide +kernel
theorem dX11_ofSea_2 : decode cX11_ofSea 2 = .ok (.bipush 31, 2) := by decide +kernel
theorem dX11_ofSea_4 : decode cX11_ofSea 4 = .ok (.invokestatic 83, 3) := by decide +kernel
theorem dX11_ofSea_7 : decode cX11_ofSea 7 = .ok (.ifCond .eq 17, 3) := by decide +kernel
theorem dX11_ofSea_10 : decode cX11_ofSea 10 = .ok (.iload_n 1, 1) := by decide +kernel
theorem dX11_ofSea_11 : decode cX11_ofSea 11 = .ok (.iconst 0, 1) := by decide +kernel
theorem dX11_ofSea_12 : decode cX11_ofSea 12 = .ok (.bipush 31, 2) := by decide +kernel
theorem dX11_ofSea_14 : decode cX11_ofSea 14 = .ok (.invokestatic 83, 3) := by decide +kernel
theorem dX11_ofSea_17 : decode cX11_ofSea 17 = .ok (.ifCond .eq 7, 3) := by decide +kernel
theorem dX11_ofSea_20 : decode cX11_ofSea 20 = .ok (.iconst 1, 1) := by decide +kernel
theorem dX11_ofSea_21 : decode cX11_ofSea 21 = .ok (.goto 4, 3) := by decide +kernel
theorem dX11_ofSea_24 : decode cX11_ofSea 24 = .ok (.iconst 0, 1) := by decide +kernel
theorem dX11_ofSea_25 : decode cX11_ofSea 25 = .ok (.ireturn, 1) := by decide +kernel
def fX11_ofSea_b24  : Option Int32 :=
  (some 0)
set_option maxRecDepth 20000 in
set_option maxHeartbeats 4000000 in
theorem aX11_ofSea_b24 (σ : qMem) : qAt wC mX11_ofSea (ρp σ) 24 [] [] σ (fX11_ofSea_b24) := by
  unfold fX11_ofSea_b24
  refine q_iconst (v := 0) dX11_ofSea_24 (by decide) ?_
  exact q_iretz (y := 0) dX11_ofSea_25 rfl rfl rfl

def fX11_ofSea (p0 : Int32) (p1 : Int32) : Option Int32 :=
  ((fX11_isIn p0 0 31).bind fun y1 => (if y1 = 0 then (fX11_ofSea_b24 ) else ((fX11_isIn p1 0 31).bind fun y2 => (if y2 = 0 then (fX11_ofSea_b24 ) else (some 1)))))
set_option maxRecDepth 20000 in
set_option maxHeartbeats 4000000 in
theorem aX11_ofSea  (p0 : Int32) (p1 : Int32)  (σ : qMem) : qAt wC mX11_ofSea (ρp σ) 0 [(0, .int p0), (1, .int p1)] [] σ (fX11_ofSea p0 p1) := by
  unfold fX11_ofSea
  refine q_iload_n (i := 0) (x := p0) dX11_ofSea_0 rfl 0 rfl ?_
  refine q_iconst (v := 0) dX11_ofSea_1 (by decide) ?_
  refine q_bipush (v := 31) dX11_ofSea_2 (by decide) ?_
  refine q_cSp mX11_isIn [.int p0, .int 0, .int 31] (st := []) dX11_ofSea_4 (ssX11_83) ⟨Nat.le_of_ble_eq_true rfl, Nat.le_of_ble_eq_true rfl⟩ rfl rfl (Nat.le_of_ble_eq_true rfl) (kX11_isIn p0 0 31 σ) (fun y1 => ?_)
  refine q_if_eq (tgt := 24) dX11_ofSea_7 (by decide) ?_ ?_
  · exact q_sub [] rfl (aX11_ofSea_b24 σ)
  refine q_iload_n (i := 1) (x := p1) dX11_ofSea_10 rfl 1 rfl ?_
  refine q_iconst (v := 0) dX11_ofSea_11 (by decide) ?_
  refine q_bipush (v := 31) dX11_ofSea_12 (by decide) ?_
  refine q_cSp mX11_isIn [.int p1, .int 0, .int 31] (st := []) dX11_ofSea_14 (ssX11_83) ⟨Nat.le_of_ble_eq_true rfl, Nat.le_of_ble_eq_true rfl⟩ rfl rfl (Nat.le_of_ble_eq_true rfl) (kX11_isIn p1 0 31 σ) (fun y2 => ?_)
  refine q_if_eq (tgt := 24) dX11_ofSea_17 (by decide) ?_ ?_
  · exact q_sub [] rfl (aX11_ofSea_b24 σ)
  refine q_iconst (v := 1) dX11_ofSea_20 (by decide) ?_
  refine q_goto (tgt := 25) dX11_ofSea_21 (by decide) ?_
  exact q_iretz (y := 1) dX11_ofSea_25 rfl rfl rfl
theorem kX11_ofSea  (p0 : Int32) (p1 : Int32)  (σ : qMem) : qMc wC mX11_ofSea (ρp σ) [.int p0, .int p1] σ (fX11_ofSea p0 p1) := qMc_of (moX11_ofSea) (Nat.le_of_ble_eq_true rfl) (aX11_ofSea p0 p1  σ)

theorem dX11_refuse_0 : decode cX11_refuse 0 = .ok (.aload_n 0, 1) := by decide +kernel
theorem dX11_refuse_1 : decode cX11_refuse 1 = .ok (.iload_n 1, 1) := by decide +kernel
theorem dX11_refuse_2 : decode cX11_refuse 2 = .ok (.putfield 76, 3) := by decide +kernel
theorem dX11_refuse_5 : decode cX11_refuse 5 = .ok (.iload_n 1, 1) := by decide +kernel
theorem dX11_refuse_6 : decode cX11_refuse 6 = .ok (.bipush (-3), 2) := by decide +kernel
theorem dX11_refuse_8 : decode cX11_refuse 8 = .ok (.if_icmp .ge 10, 3) := by decide +kernel
theorem dX11_refuse_11 : decode cX11_refuse 11 = .ok (.iload_n 1, 1) := by decide +kernel
theorem dX11_refuse_12 : decode cX11_refuse 12 = .ok (.ineg, 1) := by decide +kernel
theorem dX11_refuse_13 : decode cX11_refuse 13 = .ok (.iconst 2, 1) := by decide +kernel
theorem dX11_refuse_14 : decode cX11_refuse 14 = .ok (.isub, 1) := by decide +kernel
theorem dX11_refuse_15 : decode cX11_refuse 15 = .ok (.goto 7, 3) := by decide +kernel
theorem dX11_refuse_18 : decode cX11_refuse 18 = .ok (.iload_n 1, 1) := by decide +kernel
theorem dX11_refuse_19 : decode cX11_refuse 19 = .ok (.ineg, 1) := by decide +kernel
theorem dX11_refuse_20 : decode cX11_refuse 20 = .ok (.iconst 1, 1) := by decide +kernel
theorem dX11_refuse_21 : decode cX11_refuse 21 = .ok (.isub, 1) := by decide +kernel
theorem dX11_refuse_22 : decode cX11_refuse 22 = .ok (.istore_n 2, 1) := by decide +kernel
theorem dX11_refuse_23 : decode cX11_refuse 23 = .ok (.iload_n 2, 1) := by decide +kernel
theorem dX11_refuse_24 : decode cX11_refuse 24 = .ok (.iconst 0, 1) := by decide +kernel
theorem dX11_refuse_25 : decode cX11_refuse 25 = .ok (.aload_n 0, 1) := by decide +kernel
theorem dX11_refuse_26 : decode cX11_refuse 26 = .ok (.getfield 60, 3) := by decide +kernel
theorem dX11_refuse_29 : decode cX11_refuse 29 = .ok (.arraylength, 1) := by decide +kernel
theorem dX11_refuse_30 : decode cX11_refuse 30 = .ok (.iconst 1, 1) := by decide +kernel
theorem dX11_refuse_31 : decode cX11_refuse 31 = .ok (.isub, 1) := by decide +kernel
theorem dX11_refuse_32 : decode cX11_refuse 32 = .ok (.invokestatic 83, 3) := by decide +kernel
theorem dX11_refuse_35 : decode cX11_refuse 35 = .ok (.ifCond .eq 13, 3) := by decide +kernel
theorem dX11_refuse_38 : decode cX11_refuse 38 = .ok (.aload_n 0, 1) := by decide +kernel
theorem dX11_refuse_39 : decode cX11_refuse 39 = .ok (.getfield 60, 3) := by decide +kernel
theorem dX11_refuse_42 : decode cX11_refuse 42 = .ok (.iload_n 2, 1) := by decide +kernel
theorem dX11_refuse_43 : decode cX11_refuse 43 = .ok (.dup2, 1) := by decide +kernel
theorem dX11_refuse_44 : decode cX11_refuse 44 = .ok (.iaload, 1) := by decide +kernel
theorem dX11_refuse_45 : decode cX11_refuse 45 = .ok (.iconst 1, 1) := by decide +kernel
theorem dX11_refuse_46 : decode cX11_refuse 46 = .ok (.iadd, 1) := by decide +kernel
theorem dX11_refuse_47 : decode cX11_refuse 47 = .ok (.iastore, 1) := by decide +kernel
theorem dX11_refuse_48 : decode cX11_refuse 48 = .ok (.iload_n 1, 1) := by decide +kernel
theorem dX11_refuse_49 : decode cX11_refuse 49 = .ok (.ireturn, 1) := by decide +kernel
def fX11_refuse_b22 (v1 : Int32) (u0 : Int32) (σ : qMem) : Option (Int32 × qMem) :=
  ((fX11_isIn u0 0 ((5 : Int32) - 1)).bind fun y2 => (if y2 = 0 then (some (v1, σ)) else (if ck u0 5 = true then (if ck u0 5 = true then (nmM (si σ 87 u0.toNatClampNeg ((gi σ 87 u0.toNatClampNeg) + 1)) fun s3 => (some (v1, s3))) else none) else none)))
set_option maxRecDepth 20000 in
set_option maxHeartbeats 4000000 in
theorem aX11_refuse_b22 (v1 : Int32) (u0 : Int32) (σ : qMem) : qAt wC mX11_refuse (ρi) 22 [(0, .ref 0), (1, .int v1)] [.int u0] σ (fX11_refuse_b22 v1 u0 σ) := by
  unfold fX11_refuse_b22
  refine q_istore_n (i := 2) (L' := [(2, .int u0), (0, .ref 0), (1, .int v1)]) dX11_refuse_22 rfl (Nat.le_of_ble_eq_true rfl) rfl ?_
  refine q_iload_n (i := 2) (x := u0) dX11_refuse_23 rfl 0 rfl ?_
  refine q_iconst (v := 0) dX11_refuse_24 (by decide) ?_
  refine q_aload_n (i := 0) (x := 0) dX11_refuse_25 rfl 1 rfl ?_
  refine q_getr (t := 87) dX11_refuse_26 foX11_60 zC_0 rfl ?_
  refine q_alen (t0 := 0) (v := 5) dX11_refuse_29 zC_87 (fun _ => rfl) (by decide) ?_
  refine q_iconst (v := 1) dX11_refuse_30 (by decide) ?_
  refine q_isub dX11_refuse_31 ?_
  refine q_cSp mX11_isIn [.int u0, .int 0, .int ((5 : Int32) - 1)] (st := []) dX11_refuse_32 (ssX11_83) ⟨Nat.le_of_ble_eq_true rfl, Nat.le_of_ble_eq_true rfl⟩ rfl rfl (Nat.le_of_ble_eq_true rfl) (kX11_isIn u0 0 ((5 : Int32) - 1) σ) (fun y2 => ?_)
  refine q_if_eq (tgt := 48) dX11_refuse_35 (by decide) ?_ ?_
  · refine q_iload_n (i := 1) (x := v1) dX11_refuse_48 rfl 2 rfl ?_
    exact q_ireti (y := (v1, σ)) dX11_refuse_49 rfl rfl
  refine q_aload_n (i := 0) (x := 0) dX11_refuse_38 rfl 1 rfl ?_
  refine q_getr (t := 87) dX11_refuse_39 foX11_60 zC_0 rfl ?_
  refine q_iload_n (i := 2) (x := u0) dX11_refuse_42 rfl 0 rfl ?_
  refine q_dup2 dX11_refuse_43 rfl rfl ?_
  refine q_iald dX11_refuse_44 zC_87 ?_
  refine q_iconst (v := 1) dX11_refuse_45 (by decide) ?_
  refine q_iadd dX11_refuse_46 ?_
  refine q_iast dX11_refuse_47 zC_87 ?_
  refine q_nmM (fun s3 => ?_)
  refine q_iload_n (i := 1) (x := v1) dX11_refuse_48 rfl 2 rfl ?_
  exact q_ireti (y := (v1, s3)) dX11_refuse_49 rfl rfl

def fX11_refuse (p1 : Int32) (σ : qMem) : Option (Int32 × qMem) :=
  (nmM (si σ 0 13 p1) fun s1 => (if (-3) ≤ p1 then (fX11_refuse_b22 p1 ((-p1) - 1) s1) else (fX11_refuse_b22 p1 ((-p1) - 2) s1)))
set_option maxRecDepth 20000 in
set_option maxHeartbeats 4000000 in
theorem aX11_refuse  (p1 : Int32)  (σ : qMem) : qAt wC mX11_refuse (ρi) 0 [(0, .ref 0), (1, .int p1)] [] σ (fX11_refuse p1 σ) := by
  unfold fX11_refuse
  refine q_aload_n (i := 0) (x := 0) dX11_refuse_0 rfl 0 rfl ?_
  refine q_iload_n (i := 1) (x := p1) dX11_refuse_1 rfl 1 rfl ?_
  refine q_puti dX11_refuse_2 foX11_76 fwX11_13 zC_0 rfl ?_
  refine q_nmM (fun s1 => ?_)
  refine q_iload_n (i := 1) (x := p1) dX11_refuse_5 rfl 1 rfl ?_
  refine q_bipush (v := (-3)) dX11_refuse_6 (by decide) ?_
  refine q_icmp_ge (tgt := 18) dX11_refuse_8 (by decide) ?_ ?_
  · refine q_iload_n (i := 1) (x := p1) dX11_refuse_18 rfl 1 rfl ?_
    refine q_ineg dX11_refuse_19 ?_
    refine q_iconst (v := 1) dX11_refuse_20 (by decide) ?_
    refine q_isub dX11_refuse_21 ?_
    exact q_sub [0, 1] rfl (aX11_refuse_b22 p1 ((-p1) - 1) s1)
  refine q_iload_n (i := 1) (x := p1) dX11_refuse_11 rfl 1 rfl ?_
  refine q_ineg dX11_refuse_12 ?_
  refine q_iconst (v := 2) dX11_refuse_13 (by decide) ?_
  refine q_isub dX11_refuse_14 ?_
  refine q_goto (tgt := 22) dX11_refuse_15 (by decide) ?_
  exact q_sub [0, 1] rfl (aX11_refuse_b22 p1 ((-p1) - 2) s1)
theorem kX11_refuse  (p1 : Int32)  (σ : qMem) : qMc wC mX11_refuse (ρi) [.ref 0, .int p1] σ (fX11_refuse p1 σ) := qMc_of (moX11_refuse) (Nat.le_of_ble_eq_true rfl) (aX11_refuse p1  σ)

theorem dX11_boat_0 : decode cX11_boat 0 = .ok (.iload_n 2, 1) := by decide +kernel
theorem dX11_boat_1 : decode cX11_boat 1 = .ok (.iload_n 3, 1) := by decide +kernel
theorem dX11_boat_2 : decode cX11_boat 2 = .ok (.invokestatic 79, 3) := by decide +kernel
theorem dX11_boat_5 : decode cX11_boat 5 = .ok (.ifCond .eq 14, 3) := by decide +kernel
theorem dX11_boat_8 : decode cX11_boat 8 = .ok (.iload 4, 2) := by decide +kernel
theorem dX11_boat_10 : decode cX11_boat 10 = .ok (.iconst 0, 1) := by decide +kernel
theorem dX11_boat_11 : decode cX11_boat 11 = .ok (.bipush 9, 2) := by decide +kernel
theorem dX11_boat_13 : decode cX11_boat 13 = .ok (.invokestatic 83, 3) := by decide +kernel
theorem dX11_boat_16 : decode cX11_boat 16 = .ok (.ifCond .ne 9, 3) := by decide +kernel
theorem dX11_boat_19 : decode cX11_boat 19 = .ok (.aload_n 0, 1) := by decide +kernel
theorem dX11_boat_20 : decode cX11_boat 20 = .ok (.iconst (-1), 1) := by decide +kernel
theorem dX11_boat_21 : decode cX11_boat 21 = .ok (.invokevirtual 87, 3) := by decide +kernel
theorem dX11_boat_24 : decode cX11_boat 24 = .ok (.ireturn, 1) := by decide +kernel
theorem dX11_boat_25 : decode cX11_boat 25 = .ok (.iload_n 1, 1) := by decide +kernel
theorem dX11_boat_26 : decode cX11_boat 26 = .ok (.invokestatic 91, 3) := by decide +kernel
theorem dX11_boat_29 : decode cX11_boat 29 = .ok (.ifCond .ne 10, 3) := by decide +kernel
theorem dX11_boat_32 : decode cX11_boat 32 = .ok (.aload_n 0, 1) := by decide +kernel
theorem dX11_boat_33 : decode cX11_boat 33 = .ok (.bipush (-2), 2) := by decide +kernel
theorem dX11_boat_35 : decode cX11_boat 35 = .ok (.invokevirtual 87, 3) := by decide +kernel
theorem dX11_boat_38 : decode cX11_boat 38 = .ok (.ireturn, 1) := by decide +kernel
theorem dX11_boat_39 : decode cX11_boat 39 = .ok (.aload_n 0, 1) := by decide +kernel
theorem dX11_boat_40 : decode cX11_boat 40 = .ok (.getfield 12, 3) := by decide +kernel
theorem dX11_boat_43 : decode cX11_boat 43 = .ok (.getfield 95, 3) := by decide +kernel
theorem dX11_boat_46 : decode cX11_boat 46 = .ok (.iload_n 1, 1) := by decide +kernel
theorem dX11_boat_47 : decode cX11_boat 47 = .ok (.aaload, 1) := by decide +kernel
theorem dX11_boat_48 : decode cX11_boat 48 = .ok (.getfield 99, 3) := by decide +kernel
theorem dX11_boat_51 : decode cX11_boat 51 = .ok (.getfield 105, 3) := by decide +kernel
theorem dX11_boat_54 : decode cX11_boat 54 = .ok (.istore 5, 2) := by decide +kernel
theorem dX11_boat_56 : decode cX11_boat 56 = .ok (.aload_n 0, 1) := by decide +kernel
theorem dX11_boat_57 : decode cX11_boat 57 = .ok (.getfield 12, 3) := by decide +kernel
theorem dX11_boat_60 : decode cX11_boat 60 = .ok (.getfield 95, 3) := by decide +kernel
theorem dX11_boat_63 : decode cX11_boat 63 = .ok (.iload_n 1, 1) := by decide +kernel
theorem dX11_boat_64 : decode cX11_boat 64 = .ok (.aaload, 1) := by decide +kernel
theorem dX11_boat_65 : decode cX11_boat 65 = .ok (.iload_n 2, 1) := by decide +kernel
theorem dX11_boat_66 : decode cX11_boat 66 = .ok (.iload_n 3, 1) := by decide +kernel
theorem dX11_boat_67 : decode cX11_boat 67 = .ok (.iload 4, 2) := by decide +kernel
theorem dX11_boat_69 : decode cX11_boat 69 = .ok (.invokevirtual 110, 3) := by decide +kernel
theorem dX11_boat_72 : decode cX11_boat 72 = .ok (.aload_n 0, 1) := by decide +kernel
theorem dX11_boat_73 : decode cX11_boat 73 = .ok (.iload 5, 2) := by decide +kernel
theorem dX11_boat_75 : decode cX11_boat 75 = .ok (.invokevirtual 114, 3) := by decide +kernel
theorem dX11_boat_78 : decode cX11_boat 78 = .ok (.ireturn, 1) := by decide +kernel
def fX11_boat_b19 (N : Nat) (σ : qMem) : Option (Int32 × qMem) :=
  ((fX11_refuse (-1) σ).bind fun y10 => (some (y10.1, y10.2)))
set_option maxRecDepth 20000 in
set_option maxHeartbeats 4000000 in
theorem aX11_boat_b19 (N : Nat) (σ : qMem) : qAt wC mX11_boat (ρi) 19 [(0, .ref 0)] [] σ (fX11_boat_b19 N σ) := by
  unfold fX11_boat_b19
  refine q_aload_n (i := 0) (x := 0) dX11_boat_19 rfl 0 rfl ?_
  refine q_iconst (v := (-1)) dX11_boat_20 (by decide) ?_
  refine q_cVi mX11_refuse [.int (-1)] (st := []) dX11_boat_21 (svX11_87) ⟨Nat.le_of_ble_eq_true rfl, Nat.le_of_ble_eq_true rfl⟩ zC_0 rfl rfl rfl (Nat.le_of_ble_eq_true rfl) (kX11_refuse (-1) σ) (fun y10 => ?_)
  exact q_ireti (y := (y10.1, y10.2)) dX11_boat_24 rfl rfl

def fX11_boat (N : Nat) (p1 : Int32) (p2 : Int32) (p3 : Int32) (p4 : Int32) (σ : qMem) : Option (Int32 × qMem) :=
  ((fX11_ofSea p2 p3).bind fun y1 => (if y1 = 0 then (fX11_boat_b19 N σ) else ((fX11_isIn p4 0 9).bind fun y2 => (if y2 = 0 then (fX11_boat_b19 N σ) else ((fX11_isBoat p1).bind fun y3 => (if y3 = 0 then ((fX11_refuse (-2) σ).bind fun y9 => (some (y9.1, y9.2))) else (if ck p1 2 = true then (nmI (gi σ ((3 + 6 * p1.toNatClampNeg) + 1) 3) fun x5 => (if ck p1 2 = true then ((fX1_start N (3 + 6 * p1.toNatClampNeg) p2 p3 p4 σ).bind fun y7 => ((fX11_changed x5 y7).bind fun y8 => (some (y8.1, y8.2)))) else none)) else none)))))))
set_option maxRecDepth 20000 in
set_option maxHeartbeats 4000000 in
theorem aX11_boat  (N : Nat) (p1 : Int32) (p2 : Int32) (p3 : Int32) (p4 : Int32)  (σ : qMem) : qAt wC mX11_boat (ρi) 0 [(0, .ref 0), (1, .int p1), (2, .int p2), (3, .int p3), (4, .int p4)] [] σ (fX11_boat N p1 p2 p3 p4 σ) := by
  unfold fX11_boat
  refine q_iload_n (i := 2) (x := p2) dX11_boat_0 rfl 2 rfl ?_
  refine q_iload_n (i := 3) (x := p3) dX11_boat_1 rfl 3 rfl ?_
  refine q_cSp mX11_ofSea [.int p2, .int p3] (st := []) dX11_boat_2 (ssX11_79) ⟨Nat.le_of_ble_eq_true rfl, Nat.le_of_ble_eq_true rfl⟩ rfl rfl (Nat.le_of_ble_eq_true rfl) (kX11_ofSea p2 p3 σ) (fun y1 => ?_)
  refine q_if_eq (tgt := 19) dX11_boat_5 (by decide) ?_ ?_
  · exact q_sub [0] rfl (aX11_boat_b19 N σ)
  refine q_iload (i := 4) (x := p4) dX11_boat_8 4 rfl ?_
  refine q_iconst (v := 0) dX11_boat_10 (by decide) ?_
  refine q_bipush (v := 9) dX11_boat_11 (by decide) ?_
  refine q_cSp mX11_isIn [.int p4, .int 0, .int 9] (st := []) dX11_boat_13 (ssX11_83) ⟨Nat.le_of_ble_eq_true rfl, Nat.le_of_ble_eq_true rfl⟩ rfl rfl (Nat.le_of_ble_eq_true rfl) (kX11_isIn p4 0 9 σ) (fun y2 => ?_)
  refine q_if_ne (tgt := 25) dX11_boat_16 (by decide) ?_ ?_
  · refine q_iload_n (i := 1) (x := p1) dX11_boat_25 rfl 1 rfl ?_
    refine q_cSp mX11_isBoat [.int p1] (st := []) dX11_boat_26 (ssX11_91) ⟨Nat.le_of_ble_eq_true rfl, Nat.le_of_ble_eq_true rfl⟩ rfl rfl (Nat.le_of_ble_eq_true rfl) (kX11_isBoat p1 σ) (fun y3 => ?_)
    refine q_if_ne (tgt := 39) dX11_boat_29 (by decide) ?_ ?_
    · refine q_aload_n (i := 0) (x := 0) dX11_boat_39 rfl 0 rfl ?_
      refine q_getr (t := 1) dX11_boat_40 foX11_12 zC_0 rfl ?_
      refine q_getr (t := 2) dX11_boat_43 foX11_95 zC_1 rfl ?_
      refine q_iload_n (i := 1) (x := p1) dX11_boat_46 rfl 1 rfl ?_
      refine q_aald (t0 := 4) (fun j => 3 + 6 * j) dX11_boat_47 zC_2 (fun _ => rfl) (by decide) (fun hc_4 => ?_)
      refine q_getr (t := ((3 + 6 * p1.toNatClampNeg) + 1)) dX11_boat_48 foX11_99 (xBoat hc_4).1 rfl ?_
      refine q_geti dX11_boat_51 foX11_105 (xBoat hc_4).2.1.1 rfl ?_
      refine q_nmI (fun x5 => ?_)
      refine q_istore (i := 5) (L' := [(5, .int x5), (0, .ref 0), (1, .int p1), (2, .int p2), (3, .int p3), (4, .int p4)]) dX11_boat_54 (Nat.le_of_ble_eq_true rfl) rfl ?_
      refine q_aload_n (i := 0) (x := 0) dX11_boat_56 rfl 1 rfl ?_
      refine q_getr (t := 1) dX11_boat_57 foX11_12 zC_0 rfl ?_
      refine q_getr (t := 2) dX11_boat_60 foX11_95 zC_1 rfl ?_
      refine q_iload_n (i := 1) (x := p1) dX11_boat_63 rfl 2 rfl ?_
      refine q_aald (t0 := 4) (fun j => 3 + 6 * j) dX11_boat_64 zC_2 (fun _ => rfl) (by decide) (fun hc_6 => ?_)
      refine q_iload_n (i := 2) (x := p2) dX11_boat_65 rfl 3 rfl ?_
      refine q_iload_n (i := 3) (x := p3) dX11_boat_66 rfl 4 rfl ?_
      refine q_iload (i := 4) (x := p4) dX11_boat_67 5 rfl ?_
      refine q_cVv mX1_start [.int p2, .int p3, .int p4] (st := []) dX11_boat_69 (svX11_110) ⟨Nat.le_of_ble_eq_true rfl, Nat.le_of_ble_eq_true rfl⟩ (xBoat hc_6).1 rfl rfl rfl (Nat.le_of_ble_eq_true rfl) (kX1_start N (3 + 6 * p1.toNatClampNeg) p2 p3 p4 (xBoat hc_6) σ) (fun y7 => ?_)
      refine q_aload_n (i := 0) (x := 0) dX11_boat_72 rfl 1 rfl ?_
      refine q_iload (i := 5) (x := x5) dX11_boat_73 0 rfl ?_
      refine q_cVi mX11_changed [.int x5] (st := []) dX11_boat_75 (svX11_114) ⟨Nat.le_of_ble_eq_true rfl, Nat.le_of_ble_eq_true rfl⟩ zC_0 rfl rfl rfl (Nat.le_of_ble_eq_true rfl) (kX11_changed x5 y7) (fun y8 => ?_)
      exact q_ireti (y := (y8.1, y8.2)) dX11_boat_78 rfl rfl
    refine q_aload_n (i := 0) (x := 0) dX11_boat_32 rfl 0 rfl ?_
    refine q_bipush (v := (-2)) dX11_boat_33 (by decide) ?_
    refine q_cVi mX11_refuse [.int (-2)] (st := []) dX11_boat_35 (svX11_87) ⟨Nat.le_of_ble_eq_true rfl, Nat.le_of_ble_eq_true rfl⟩ zC_0 rfl rfl rfl (Nat.le_of_ble_eq_true rfl) (kX11_refuse (-2) σ) (fun y9 => ?_)
    exact q_ireti (y := (y9.1, y9.2)) dX11_boat_38 rfl rfl
  exact q_sub [0] rfl (aX11_boat_b19 N σ)
theorem kX11_boat  (N : Nat) (p1 : Int32) (p2 : Int32) (p3 : Int32) (p4 : Int32)  (σ : qMem) : qMc wC mX11_boat (ρi) [.ref 0, .int p1, .int p2, .int p3, .int p4] σ (fX11_boat N p1 p2 p3 p4 σ) := qMc_of (moX11_boat) (Nat.le_of_ble_eq_true rfl) (aX11_boat N p1 p2 p3 p4  σ)

theorem dX11_isPace_0 : decode cX11_isPace 0 = .ok (.iload_n 0, 1) := by decide +kernel
theorem dX11_isPace_1 : decode cX11_isPace 1 = .ok (.bipush (-3), 2) := by decide +kernel
theorem dX11_isPace_3 : decode cX11_isPace 3 = .ok (.iconst 3, 1) := by decide +kernel
theorem dX11_isPace_4 : decode cX11_isPace 4 = .ok (.invokestatic 83, 3) := by decide +kernel
theorem dX11_isPace_7 : decode cX11_isPace 7 = .ok (.ifCond .eq 17, 3) := by decide +kernel
theorem dX11_isPace_10 : decode cX11_isPace 10 = .ok (.iload_n 1, 1) := by decide +kernel
theorem dX11_isPace_11 : decode cX11_isPace 11 = .ok (.bipush (-3), 2) := by decide +kernel
theorem dX11_isPace_13 : decode cX11_isPace 13 = .ok (.iconst 3, 1) := by decide +kernel
theorem dX11_isPace_14 : decode cX11_isPace 14 = .ok (.invokestatic 83, 3) := by decide +kernel
theorem dX11_isPace_17 : decode cX11_isPace 17 = .ok (.ifCond .eq 7, 3) := by decide +kernel
theorem dX11_isPace_20 : decode cX11_isPace 20 = .ok (.iconst 1, 1) := by decide +kernel
theorem dX11_isPace_21 : decode cX11_isPace 21 = .ok (.goto 4, 3) := by decide +kernel
theorem dX11_isPace_24 : decode cX11_isPace 24 = .ok (.iconst 0, 1) := by decide +kernel
theorem dX11_isPace_25 : decode cX11_isPace 25 = .ok (.ireturn, 1) := by decide +kernel
def fX11_isPace_b24  : Option Int32 :=
  (some 0)
set_option maxRecDepth 20000 in
set_option maxHeartbeats 4000000 in
theorem aX11_isPace_b24 (σ : qMem) : qAt wC mX11_isPace (ρp σ) 24 [] [] σ (fX11_isPace_b24) := by
  unfold fX11_isPace_b24
  refine q_iconst (v := 0) dX11_isPace_24 (by decide) ?_
  exact q_iretz (y := 0) dX11_isPace_25 rfl rfl rfl

def fX11_isPace (p0 : Int32) (p1 : Int32) : Option Int32 :=
  ((fX11_isIn p0 (-3) 3).bind fun y1 => (if y1 = 0 then (fX11_isPace_b24 ) else ((fX11_isIn p1 (-3) 3).bind fun y2 => (if y2 = 0 then (fX11_isPace_b24 ) else (some 1)))))
set_option maxRecDepth 20000 in
set_option maxHeartbeats 4000000 in
theorem aX11_isPace  (p0 : Int32) (p1 : Int32)  (σ : qMem) : qAt wC mX11_isPace (ρp σ) 0 [(0, .int p0), (1, .int p1)] [] σ (fX11_isPace p0 p1) := by
  unfold fX11_isPace
  refine q_iload_n (i := 0) (x := p0) dX11_isPace_0 rfl 0 rfl ?_
  refine q_bipush (v := (-3)) dX11_isPace_1 (by decide) ?_
  refine q_iconst (v := 3) dX11_isPace_3 (by decide) ?_
  refine q_cSp mX11_isIn [.int p0, .int (-3), .int 3] (st := []) dX11_isPace_4 (ssX11_83) ⟨Nat.le_of_ble_eq_true rfl, Nat.le_of_ble_eq_true rfl⟩ rfl rfl (Nat.le_of_ble_eq_true rfl) (kX11_isIn p0 (-3) 3 σ) (fun y1 => ?_)
  refine q_if_eq (tgt := 24) dX11_isPace_7 (by decide) ?_ ?_
  · exact q_sub [] rfl (aX11_isPace_b24 σ)
  refine q_iload_n (i := 1) (x := p1) dX11_isPace_10 rfl 1 rfl ?_
  refine q_bipush (v := (-3)) dX11_isPace_11 (by decide) ?_
  refine q_iconst (v := 3) dX11_isPace_13 (by decide) ?_
  refine q_cSp mX11_isIn [.int p1, .int (-3), .int 3] (st := []) dX11_isPace_14 (ssX11_83) ⟨Nat.le_of_ble_eq_true rfl, Nat.le_of_ble_eq_true rfl⟩ rfl rfl (Nat.le_of_ble_eq_true rfl) (kX11_isIn p1 (-3) 3 σ) (fun y2 => ?_)
  refine q_if_eq (tgt := 24) dX11_isPace_17 (by decide) ?_ ?_
  · exact q_sub [] rfl (aX11_isPace_b24 σ)
  refine q_iconst (v := 1) dX11_isPace_20 (by decide) ?_
  refine q_goto (tgt := 25) dX11_isPace_21 (by decide) ?_
  exact q_iretz (y := 1) dX11_isPace_25 rfl rfl rfl
theorem kX11_isPace  (p0 : Int32) (p1 : Int32)  (σ : qMem) : qMc wC mX11_isPace (ρp σ) [.int p0, .int p1] σ (fX11_isPace p0 p1) := qMc_of (moX11_isPace) (Nat.le_of_ble_eq_true rfl) (aX11_isPace p0 p1  σ)

theorem dX11_leg_0 : decode cX11_leg 0 = .ok (.iload_n 2, 1) := by decide +kernel
theorem dX11_leg_1 : decode cX11_leg 1 = .ok (.invokestatic 117, 3) := by decide +kernel
theorem dX11_leg_4 : decode cX11_leg 4 = .ok (.ifCond .eq 12, 3) := by decide +kernel
theorem dX11_leg_7 : decode cX11_leg 7 = .ok (.iload_n 3, 1) := by decide +kernel
theorem dX11_leg_8 : decode cX11_leg 8 = .ok (.iload 4, 2) := by decide +kernel
theorem dX11_leg_10 : decode cX11_leg 10 = .ok (.invokestatic 120, 3) := by decide +kernel
theorem dX11_leg_13 : decode cX11_leg 13 = .ok (.ifCond .ne 9, 3) := by decide +kernel
theorem dX11_leg_16 : decode cX11_leg 16 = .ok (.aload_n 0, 1) := by decide +kernel
theorem dX11_leg_17 : decode cX11_leg 17 = .ok (.iconst (-1), 1) := by decide +kernel
theorem dX11_leg_18 : decode cX11_leg 18 = .ok (.invokevirtual 87, 3) := by decide +kernel
theorem dX11_leg_21 : decode cX11_leg 21 = .ok (.ireturn, 1) := by decide +kernel
theorem dX11_leg_22 : decode cX11_leg 22 = .ok (.iload_n 1, 1) := by decide +kernel
theorem dX11_leg_23 : decode cX11_leg 23 = .ok (.invokestatic 91, 3) := by decide +kernel
theorem dX11_leg_26 : decode cX11_leg 26 = .ok (.ifCond .ne 10, 3) := by decide +kernel
theorem dX11_leg_29 : decode cX11_leg 29 = .ok (.aload_n 0, 1) := by decide +kernel
theorem dX11_leg_30 : decode cX11_leg 30 = .ok (.bipush (-2), 2) := by decide +kernel
theorem dX11_leg_32 : decode cX11_leg 32 = .ok (.invokevirtual 87, 3) := by decide +kernel
theorem dX11_leg_35 : decode cX11_leg 35 = .ok (.ireturn, 1) := by decide +kernel
theorem dX11_leg_36 : decode cX11_leg 36 = .ok (.aload_n 0, 1) := by decide +kernel
theorem dX11_leg_37 : decode cX11_leg 37 = .ok (.getfield 12, 3) := by decide +kernel
theorem dX11_leg_40 : decode cX11_leg 40 = .ok (.getfield 95, 3) := by decide +kernel
theorem dX11_leg_43 : decode cX11_leg 43 = .ok (.iload_n 1, 1) := by decide +kernel
theorem dX11_leg_44 : decode cX11_leg 44 = .ok (.aaload, 1) := by decide +kernel
theorem dX11_leg_45 : decode cX11_leg 45 = .ok (.getfield 99, 3) := by decide +kernel
theorem dX11_leg_48 : decode cX11_leg 48 = .ok (.astore 5, 2) := by decide +kernel
theorem dX11_leg_50 : decode cX11_leg 50 = .ok (.aload 5, 2) := by decide +kernel
theorem dX11_leg_52 : decode cX11_leg 52 = .ok (.getfield 105, 3) := by decide +kernel
theorem dX11_leg_55 : decode cX11_leg 55 = .ok (.ifCond .le 27, 3) := by decide +kernel
theorem dX11_leg_58 : decode cX11_leg 58 = .ok (.aload 5, 2) := by decide +kernel
theorem dX11_leg_60 : decode cX11_leg 60 = .ok (.aload 5, 2) := by decide +kernel
theorem dX11_leg_62 : decode cX11_leg 62 = .ok (.getfield 105, 3) := by decide +kernel
theorem dX11_leg_65 : decode cX11_leg 65 = .ok (.iconst 1, 1) := by decide +kernel
theorem dX11_leg_66 : decode cX11_leg 66 = .ok (.isub, 1) := by decide +kernel
theorem dX11_leg_67 : decode cX11_leg 67 = .ok (.iconst 0, 1) := by decide +kernel
theorem dX11_leg_68 : decode cX11_leg 68 = .ok (.invokevirtual 123, 3) := by decide +kernel
theorem dX11_leg_71 : decode cX11_leg 71 = .ok (.iload_n 2, 1) := by decide +kernel
theorem dX11_leg_72 : decode cX11_leg 72 = .ok (.if_icmp .lt 10, 3) := by decide +kernel
theorem dX11_leg_75 : decode cX11_leg 75 = .ok (.aload_n 0, 1) := by decide +kernel
theorem dX11_leg_76 : decode cX11_leg 76 = .ok (.bipush (-3), 2) := by decide +kernel
theorem dX11_leg_78 : decode cX11_leg 78 = .ok (.invokevirtual 87, 3) := by decide +kernel
theorem dX11_leg_81 : decode cX11_leg 81 = .ok (.ireturn, 1) := by decide +kernel
theorem dX11_leg_82 : decode cX11_leg 82 = .ok (.aload 5, 2) := by decide +kernel
theorem dX11_leg_84 : decode cX11_leg 84 = .ok (.invokevirtual 127, 3) := by decide +kernel
theorem dX11_leg_87 : decode cX11_leg 87 = .ok (.ifCond .eq 10, 3) := by decide +kernel
theorem dX11_leg_90 : decode cX11_leg 90 = .ok (.aload_n 0, 1) := by decide +kernel
theorem dX11_leg_91 : decode cX11_leg 91 = .ok (.bipush (-5), 2) := by decide +kernel
theorem dX11_leg_93 : decode cX11_leg 93 = .ok (.invokevirtual 87, 3) := by decide +kernel
theorem dX11_leg_96 : decode cX11_leg 96 = .ok (.ireturn, 1) := by decide +kernel
theorem dX11_leg_97 : decode cX11_leg 97 = .ok (.aload 5, 2) := by decide +kernel
theorem dX11_leg_99 : decode cX11_leg 99 = .ok (.iload_n 2, 1) := by decide +kernel
theorem dX11_leg_100 : decode cX11_leg 100 = .ok (.iload_n 3, 1) := by decide +kernel
theorem dX11_leg_101 : decode cX11_leg 101 = .ok (.iload 4, 2) := by decide +kernel
theorem dX11_leg_103 : decode cX11_leg 103 = .ok (.iconst 0, 1) := by decide +kernel
theorem dX11_leg_104 : decode cX11_leg 104 = .ok (.iconst 0, 1) := by decide +kernel
theorem dX11_leg_105 : decode cX11_leg 105 = .ok (.invokevirtual 131, 3) := by decide +kernel
theorem dX11_leg_108 : decode cX11_leg 108 = .ok (.pop, 1) := by decide +kernel
theorem dX11_leg_109 : decode cX11_leg 109 = .ok (.aload_n 0, 1) := by decide +kernel
theorem dX11_leg_110 : decode cX11_leg 110 = .ok (.getfield 12, 3) := by decide +kernel
theorem dX11_leg_113 : decode cX11_leg 113 = .ok (.getfield 95, 3) := by decide +kernel
theorem dX11_leg_116 : decode cX11_leg 116 = .ok (.iload_n 1, 1) := by decide +kernel
theorem dX11_leg_117 : decode cX11_leg 117 = .ok (.aaload, 1) := by decide +kernel
theorem dX11_leg_118 : decode cX11_leg 118 = .ok (.invokevirtual 135, 3) := by decide +kernel
theorem dX11_leg_121 : decode cX11_leg 121 = .ok (.aload_n 0, 1) := by decide +kernel
theorem dX11_leg_122 : decode cX11_leg 122 = .ok (.aload 5, 2) := by decide +kernel
theorem dX11_leg_124 : decode cX11_leg 124 = .ok (.getfield 105, 3) := by decide +kernel
theorem dX11_leg_127 : decode cX11_leg 127 = .ok (.invokevirtual 114, 3) := by decide +kernel
theorem dX11_leg_130 : decode cX11_leg 130 = .ok (.ireturn, 1) := by decide +kernel
def fX11_leg_b16 (N : Nat) (σ : qMem) : Option (Int32 × qMem) :=
  ((fX11_refuse (-1) σ).bind fun y14 => (some (y14.1, y14.2)))
set_option maxRecDepth 20000 in
set_option maxHeartbeats 4000000 in
theorem aX11_leg_b16 (N : Nat) (σ : qMem) : qAt wC mX11_leg (ρi) 16 [(0, .ref 0)] [] σ (fX11_leg_b16 N σ) := by
  unfold fX11_leg_b16
  refine q_aload_n (i := 0) (x := 0) dX11_leg_16 rfl 0 rfl ?_
  refine q_iconst (v := (-1)) dX11_leg_17 (by decide) ?_
  refine q_cVi mX11_refuse [.int (-1)] (st := []) dX11_leg_18 (svX11_87) ⟨Nat.le_of_ble_eq_true rfl, Nat.le_of_ble_eq_true rfl⟩ zC_0 rfl rfl rfl (Nat.le_of_ble_eq_true rfl) (kX11_refuse (-1) σ) (fun y14 => ?_)
  exact q_ireti (y := (y14.1, y14.2)) dX11_leg_21 rfl rfl

def fX11_leg_b82 (N : Nat) (v1 : Int32) (v2 : Int32) (v3 : Int32) (v4 : Int32) (p1 : Int32) (σ : qMem) : Option (Int32 × qMem) :=
  ((fX8_isFull ((3 + 6 * p1.toNatClampNeg) + 1) 18 σ).bind fun y8 => (if y8 = 0 then ((fX8_add ((3 + 6 * p1.toNatClampNeg) + 1) 18 v2 v3 v4 0 0 σ).bind fun y9 => (if ck v1 2 = true then ((fX1_follow N (3 + 6 * v1.toNatClampNeg) y9.2).bind fun y11 => ((fX11_changed (gi y11 ((3 + 6 * p1.toNatClampNeg) + 1) 3) y11).bind fun y12 => (some (y12.1, y12.2)))) else none)) else ((fX11_refuse (-5) σ).bind fun y13 => (some (y13.1, y13.2)))))
set_option maxRecDepth 20000 in
set_option maxHeartbeats 4000000 in
theorem aX11_leg_b82 (N : Nat) (v1 : Int32) (v2 : Int32) (v3 : Int32) (v4 : Int32) (p1 : Int32) (hc_4 : ck p1 2 = true) (σ : qMem) : qAt wC mX11_leg (ρi) 82 [(0, .ref 0), (1, .int v1), (2, .int v2), (3, .int v3), (4, .int v4), (5, .ref ((3 + 6 * p1.toNatClampNeg) + 1))] [] σ (fX11_leg_b82 N v1 v2 v3 v4 p1 σ) := by
  unfold fX11_leg_b82
  refine q_aload (i := 5) (x := ((3 + 6 * p1.toNatClampNeg) + 1)) dX11_leg_82 5 rfl ?_
  refine q_cVp mX8_isFull [] (st := []) dX11_leg_84 (svX11_127) ⟨Nat.le_of_ble_eq_true rfl, Nat.le_of_ble_eq_true rfl⟩ (xBoat hc_4).2.1.1 rfl rfl rfl (Nat.le_of_ble_eq_true rfl) (kX8_isFull ((3 + 6 * p1.toNatClampNeg) + 1) 18 (xBoat hc_4).2.1 σ) (fun y8 => ?_)
  refine q_if_eq (tgt := 97) dX11_leg_87 (by decide) ?_ ?_
  · refine q_aload (i := 5) (x := ((3 + 6 * p1.toNatClampNeg) + 1)) dX11_leg_97 5 rfl ?_
    refine q_iload_n (i := 2) (x := v2) dX11_leg_99 rfl 2 rfl ?_
    refine q_iload_n (i := 3) (x := v3) dX11_leg_100 rfl 3 rfl ?_
    refine q_iload (i := 4) (x := v4) dX11_leg_101 4 rfl ?_
    refine q_iconst (v := 0) dX11_leg_103 (by decide) ?_
    refine q_iconst (v := 0) dX11_leg_104 (by decide) ?_
    refine q_cVi mX8_add [.int v2, .int v3, .int v4, .int 0, .int 0] (st := []) dX11_leg_105 (svX11_131) ⟨Nat.le_of_ble_eq_true rfl, Nat.le_of_ble_eq_true rfl⟩ (xBoat hc_4).2.1.1 rfl rfl rfl (Nat.le_of_ble_eq_true rfl) (kX8_add ((3 + 6 * p1.toNatClampNeg) + 1) 18 v2 v3 v4 0 0 (xBoat hc_4).2.1 σ) (fun y9 => ?_)
    refine q_pop dX11_leg_108 rfl ?_
    refine q_aload_n (i := 0) (x := 0) dX11_leg_109 rfl 0 rfl ?_
    refine q_getr (t := 1) dX11_leg_110 foX11_12 zC_0 rfl ?_
    refine q_getr (t := 2) dX11_leg_113 foX11_95 zC_1 rfl ?_
    refine q_iload_n (i := 1) (x := v1) dX11_leg_116 rfl 1 rfl ?_
    refine q_aald (t0 := 4) (fun j => 3 + 6 * j) dX11_leg_117 zC_2 (fun _ => rfl) (by decide) (fun hc_10 => ?_)
    refine q_cVv mX1_follow [] (st := []) dX11_leg_118 (svX11_135) ⟨Nat.le_of_ble_eq_true rfl, Nat.le_of_ble_eq_true rfl⟩ (xBoat hc_10).1 rfl rfl rfl (Nat.le_of_ble_eq_true rfl) (kX1_follow N (3 + 6 * v1.toNatClampNeg) (xBoat hc_10) y9.2) (fun y11 => ?_)
    refine q_aload_n (i := 0) (x := 0) dX11_leg_121 rfl 0 rfl ?_
    refine q_aload (i := 5) (x := ((3 + 6 * p1.toNatClampNeg) + 1)) dX11_leg_122 5 rfl ?_
    refine q_geti dX11_leg_124 foX11_105 (xBoat hc_4).2.1.1 rfl ?_
    refine q_cVi mX11_changed [.int (gi y11 ((3 + 6 * p1.toNatClampNeg) + 1) 3)] (st := []) dX11_leg_127 (svX11_114) ⟨Nat.le_of_ble_eq_true rfl, Nat.le_of_ble_eq_true rfl⟩ zC_0 rfl rfl rfl (Nat.le_of_ble_eq_true rfl) (kX11_changed (gi y11 ((3 + 6 * p1.toNatClampNeg) + 1) 3) y11) (fun y12 => ?_)
    exact q_ireti (y := (y12.1, y12.2)) dX11_leg_130 rfl rfl
  refine q_aload_n (i := 0) (x := 0) dX11_leg_90 rfl 0 rfl ?_
  refine q_bipush (v := (-5)) dX11_leg_91 (by decide) ?_
  refine q_cVi mX11_refuse [.int (-5)] (st := []) dX11_leg_93 (svX11_87) ⟨Nat.le_of_ble_eq_true rfl, Nat.le_of_ble_eq_true rfl⟩ zC_0 rfl rfl rfl (Nat.le_of_ble_eq_true rfl) (kX11_refuse (-5) σ) (fun y13 => ?_)
  exact q_ireti (y := (y13.1, y13.2)) dX11_leg_96 rfl rfl

def fX11_leg (N : Nat) (p1 : Int32) (p2 : Int32) (p3 : Int32) (p4 : Int32) (σ : qMem) : Option (Int32 × qMem) :=
  ((fX11_isBell p2).bind fun y1 => (if y1 = 0 then (fX11_leg_b16 N σ) else ((fX11_isPace p3 p4).bind fun y2 => (if y2 = 0 then (fX11_leg_b16 N σ) else ((fX11_isBoat p1).bind fun y3 => (if y3 = 0 then ((fX11_refuse (-2) σ).bind fun y7 => (some (y7.1, y7.2))) else (if ck p1 2 = true then (if (gi σ ((3 + 6 * p1.toNatClampNeg) + 1) 3) ≤ 0 then (fX11_leg_b82 N p1 p2 p3 p4 p1 σ) else ((fX8_at ((3 + 6 * p1.toNatClampNeg) + 1) 18 ((gi σ ((3 + 6 * p1.toNatClampNeg) + 1) 3) - 1) 0 σ).bind fun y5 => (if y5 < p2 then (fX11_leg_b82 N p1 p2 p3 p4 p1 σ) else ((fX11_refuse (-3) σ).bind fun y6 => (some (y6.1, y6.2)))))) else none)))))))
set_option maxRecDepth 20000 in
set_option maxHeartbeats 4000000 in
theorem aX11_leg  (N : Nat) (p1 : Int32) (p2 : Int32) (p3 : Int32) (p4 : Int32)  (σ : qMem) : qAt wC mX11_leg (ρi) 0 [(0, .ref 0), (1, .int p1), (2, .int p2), (3, .int p3), (4, .int p4)] [] σ (fX11_leg N p1 p2 p3 p4 σ) := by
  unfold fX11_leg
  refine q_iload_n (i := 2) (x := p2) dX11_leg_0 rfl 2 rfl ?_
  refine q_cSp mX11_isBell [.int p2] (st := []) dX11_leg_1 (ssX11_117) ⟨Nat.le_of_ble_eq_true rfl, Nat.le_of_ble_eq_true rfl⟩ rfl rfl (Nat.le_of_ble_eq_true rfl) (kX11_isBell p2 σ) (fun y1 => ?_)
  refine q_if_eq (tgt := 16) dX11_leg_4 (by decide) ?_ ?_
  · exact q_sub [0] rfl (aX11_leg_b16 N σ)
  refine q_iload_n (i := 3) (x := p3) dX11_leg_7 rfl 3 rfl ?_
  refine q_iload (i := 4) (x := p4) dX11_leg_8 4 rfl ?_
  refine q_cSp mX11_isPace [.int p3, .int p4] (st := []) dX11_leg_10 (ssX11_120) ⟨Nat.le_of_ble_eq_true rfl, Nat.le_of_ble_eq_true rfl⟩ rfl rfl (Nat.le_of_ble_eq_true rfl) (kX11_isPace p3 p4 σ) (fun y2 => ?_)
  refine q_if_ne (tgt := 22) dX11_leg_13 (by decide) ?_ ?_
  · refine q_iload_n (i := 1) (x := p1) dX11_leg_22 rfl 1 rfl ?_
    refine q_cSp mX11_isBoat [.int p1] (st := []) dX11_leg_23 (ssX11_91) ⟨Nat.le_of_ble_eq_true rfl, Nat.le_of_ble_eq_true rfl⟩ rfl rfl (Nat.le_of_ble_eq_true rfl) (kX11_isBoat p1 σ) (fun y3 => ?_)
    refine q_if_ne (tgt := 36) dX11_leg_26 (by decide) ?_ ?_
    · refine q_aload_n (i := 0) (x := 0) dX11_leg_36 rfl 0 rfl ?_
      refine q_getr (t := 1) dX11_leg_37 foX11_12 zC_0 rfl ?_
      refine q_getr (t := 2) dX11_leg_40 foX11_95 zC_1 rfl ?_
      refine q_iload_n (i := 1) (x := p1) dX11_leg_43 rfl 1 rfl ?_
      refine q_aald (t0 := 4) (fun j => 3 + 6 * j) dX11_leg_44 zC_2 (fun _ => rfl) (by decide) (fun hc_4 => ?_)
      refine q_getr (t := ((3 + 6 * p1.toNatClampNeg) + 1)) dX11_leg_45 foX11_99 (xBoat hc_4).1 rfl ?_
      refine q_astore (i := 5) (L' := [(5, .ref ((3 + 6 * p1.toNatClampNeg) + 1)), (0, .ref 0), (1, .int p1), (2, .int p2), (3, .int p3), (4, .int p4)]) dX11_leg_48 (Nat.le_of_ble_eq_true rfl) rfl ?_
      refine q_aload (i := 5) (x := ((3 + 6 * p1.toNatClampNeg) + 1)) dX11_leg_50 0 rfl ?_
      refine q_geti dX11_leg_52 foX11_105 (xBoat hc_4).2.1.1 rfl ?_
      refine q_if_le (tgt := 82) dX11_leg_55 (by decide) ?_ ?_
      · exact q_sub [1, 2, 3, 4, 5, 0] rfl (aX11_leg_b82 N p1 p2 p3 p4 p1 hc_4 σ)
      refine q_aload (i := 5) (x := ((3 + 6 * p1.toNatClampNeg) + 1)) dX11_leg_58 0 rfl ?_
      refine q_aload (i := 5) (x := ((3 + 6 * p1.toNatClampNeg) + 1)) dX11_leg_60 0 rfl ?_
      refine q_geti dX11_leg_62 foX11_105 (xBoat hc_4).2.1.1 rfl ?_
      refine q_iconst (v := 1) dX11_leg_65 (by decide) ?_
      refine q_isub dX11_leg_66 ?_
      refine q_iconst (v := 0) dX11_leg_67 (by decide) ?_
      refine q_cVp mX8_at [.int ((gi σ ((3 + 6 * p1.toNatClampNeg) + 1) 3) - 1), .int 0] (st := []) dX11_leg_68 (svX11_123) ⟨Nat.le_of_ble_eq_true rfl, Nat.le_of_ble_eq_true rfl⟩ (xBoat hc_4).2.1.1 rfl rfl rfl (Nat.le_of_ble_eq_true rfl) (kX8_at ((3 + 6 * p1.toNatClampNeg) + 1) 18 ((gi σ ((3 + 6 * p1.toNatClampNeg) + 1) 3) - 1) 0 (xBoat hc_4).2.1 σ) (fun y5 => ?_)
      refine q_iload_n (i := 2) (x := p2) dX11_leg_71 rfl 3 rfl ?_
      refine q_icmp_lt (tgt := 82) dX11_leg_72 (by decide) ?_ ?_
      · exact q_sub [1, 2, 3, 4, 5, 0] rfl (aX11_leg_b82 N p1 p2 p3 p4 p1 hc_4 σ)
      refine q_aload_n (i := 0) (x := 0) dX11_leg_75 rfl 1 rfl ?_
      refine q_bipush (v := (-3)) dX11_leg_76 (by decide) ?_
      refine q_cVi mX11_refuse [.int (-3)] (st := []) dX11_leg_78 (svX11_87) ⟨Nat.le_of_ble_eq_true rfl, Nat.le_of_ble_eq_true rfl⟩ zC_0 rfl rfl rfl (Nat.le_of_ble_eq_true rfl) (kX11_refuse (-3) σ) (fun y6 => ?_)
      exact q_ireti (y := (y6.1, y6.2)) dX11_leg_81 rfl rfl
    refine q_aload_n (i := 0) (x := 0) dX11_leg_29 rfl 0 rfl ?_
    refine q_bipush (v := (-2)) dX11_leg_30 (by decide) ?_
    refine q_cVi mX11_refuse [.int (-2)] (st := []) dX11_leg_32 (svX11_87) ⟨Nat.le_of_ble_eq_true rfl, Nat.le_of_ble_eq_true rfl⟩ zC_0 rfl rfl rfl (Nat.le_of_ble_eq_true rfl) (kX11_refuse (-2) σ) (fun y7 => ?_)
    exact q_ireti (y := (y7.1, y7.2)) dX11_leg_35 rfl rfl
  exact q_sub [0] rfl (aX11_leg_b16 N σ)
theorem kX11_leg  (N : Nat) (p1 : Int32) (p2 : Int32) (p3 : Int32) (p4 : Int32)  (σ : qMem) : qMc wC mX11_leg (ρi) [.ref 0, .int p1, .int p2, .int p3, .int p4] σ (fX11_leg N p1 p2 p3 p4 σ) := qMc_of (moX11_leg) (Nat.le_of_ble_eq_true rfl) (aX11_leg N p1 p2 p3 p4  σ)

theorem dX11_where_0 : decode cX11_where 0 = .ok (.iload_n 1, 1) := by decide +kernel
theorem dX11_where_1 : decode cX11_where 1 = .ok (.invokestatic 91, 3) := by decide +kernel
theorem dX11_where_4 : decode cX11_where 4 = .ok (.ifCond .eq 10, 3) := by decide +kernel
theorem dX11_where_7 : decode cX11_where 7 = .ok (.iload_n 2, 1) := by decide +kernel
theorem dX11_where_8 : decode cX11_where 8 = .ok (.invokestatic 117, 3) := by decide +kernel
theorem dX11_where_11 : decode cX11_where 11 = .ok (.ifCond .ne 7, 3) := by decide +kernel
theorem dX11_where_14 : decode cX11_where 14 = .ok (.sipush (-1000), 3) := by decide +kernel
theorem dX11_where_17 : decode cX11_where 17 = .ok (.ireturn, 1) := by decide +kernel
theorem dX11_where_18 : decode cX11_where 18 = .ok (.aload_n 0, 1) := by decide +kernel
theorem dX11_where_19 : decode cX11_where 19 = .ok (.getfield 12, 3) := by decide +kernel
theorem dX11_where_22 : decode cX11_where 22 = .ok (.getfield 95, 3) := by decide +kernel
theorem dX11_where_25 : decode cX11_where 25 = .ok (.iload_n 1, 1) := by decide +kernel
theorem dX11_where_26 : decode cX11_where 26 = .ok (.aaload, 1) := by decide +kernel
theorem dX11_where_27 : decode cX11_where 27 = .ok (.astore 4, 2) := by decide +kernel
theorem dX11_where_29 : decode cX11_where 29 = .ok (.iload_n 3, 1) := by decide +kernel
theorem dX11_where_30 : decode cX11_where 30 = .ok (.tableswitch 50 0 2 #[26, 34, 42], 26) := by decide +kernel
theorem dX11_where_56 : decode cX11_where 56 = .ok (.aload 4, 2) := by decide +kernel
theorem dX11_where_58 : decode cX11_where 58 = .ok (.getfield 138, 3) := by decide +kernel
theorem dX11_where_61 : decode cX11_where 61 = .ok (.iload_n 2, 1) := by decide +kernel
theorem dX11_where_62 : decode cX11_where 62 = .ok (.iaload, 1) := by decide +kernel
theorem dX11_where_63 : decode cX11_where 63 = .ok (.ireturn, 1) := by decide +kernel
theorem dX11_where_64 : decode cX11_where 64 = .ok (.aload 4, 2) := by decide +kernel
theorem dX11_where_66 : decode cX11_where 66 = .ok (.getfield 141, 3) := by decide +kernel
theorem dX11_where_69 : decode cX11_where 69 = .ok (.iload_n 2, 1) := by decide +kernel
theorem dX11_where_70 : decode cX11_where 70 = .ok (.iaload, 1) := by decide +kernel
theorem dX11_where_71 : decode cX11_where 71 = .ok (.ireturn, 1) := by decide +kernel
theorem dX11_where_72 : decode cX11_where 72 = .ok (.aload 4, 2) := by decide +kernel
theorem dX11_where_74 : decode cX11_where 74 = .ok (.getfield 144, 3) := by decide +kernel
theorem dX11_where_77 : decode cX11_where 77 = .ok (.iload_n 2, 1) := by decide +kernel
theorem dX11_where_78 : decode cX11_where 78 = .ok (.iaload, 1) := by decide +kernel
theorem dX11_where_79 : decode cX11_where 79 = .ok (.ireturn, 1) := by decide +kernel
theorem dX11_where_80 : decode cX11_where 80 = .ok (.sipush (-1000), 3) := by decide +kernel
theorem dX11_where_83 : decode cX11_where 83 = .ok (.ireturn, 1) := by decide +kernel

def fX11_where (p1 : Int32) (p2 : Int32) (p3 : Int32) (σ : qMem) : Option Int32 :=
  ((fX11_isBoat p1).bind fun y1 => (if y1 = 0 then (some (-1000)) else ((fX11_isBell p2).bind fun y2 => (if y2 = 0 then (some (-1000)) else (if ck p1 2 = true then (if p3 = 0 then (if ck p2 24 = true then (some (gi σ ((3 + 6 * p1.toNatClampNeg) + 3) p2.toNatClampNeg)) else none) else (if p3 = 1 then (if ck p2 24 = true then (some (gi σ ((3 + 6 * p1.toNatClampNeg) + 4) p2.toNatClampNeg)) else none) else (if p3 = 2 then (if ck p2 24 = true then (some (gi σ ((3 + 6 * p1.toNatClampNeg) + 5) p2.toNatClampNeg)) else none) else (some (-1000))))) else none)))))
set_option maxRecDepth 20000 in
set_option maxHeartbeats 4000000 in
theorem aX11_where  (p1 : Int32) (p2 : Int32) (p3 : Int32)  (σ : qMem) : qAt wC mX11_where (ρp σ) 0 [(0, .ref 0), (1, .int p1), (2, .int p2), (3, .int p3)] [] σ (fX11_where p1 p2 p3 σ) := by
  unfold fX11_where
  refine q_iload_n (i := 1) (x := p1) dX11_where_0 rfl 1 rfl ?_
  refine q_cSp mX11_isBoat [.int p1] (st := []) dX11_where_1 (ssX11_91) ⟨Nat.le_of_ble_eq_true rfl, Nat.le_of_ble_eq_true rfl⟩ rfl rfl (Nat.le_of_ble_eq_true rfl) (kX11_isBoat p1 σ) (fun y1 => ?_)
  refine q_if_eq (tgt := 14) dX11_where_4 (by decide) ?_ ?_
  · refine q_sipush (v := (-1000)) dX11_where_14 (by decide) ?_
    exact q_ireti (y := (-1000)) dX11_where_17 rfl rfl
  refine q_iload_n (i := 2) (x := p2) dX11_where_7 rfl 2 rfl ?_
  refine q_cSp mX11_isBell [.int p2] (st := []) dX11_where_8 (ssX11_117) ⟨Nat.le_of_ble_eq_true rfl, Nat.le_of_ble_eq_true rfl⟩ rfl rfl (Nat.le_of_ble_eq_true rfl) (kX11_isBell p2 σ) (fun y2 => ?_)
  refine q_if_ne (tgt := 18) dX11_where_11 (by decide) ?_ ?_
  · refine q_aload_n (i := 0) (x := 0) dX11_where_18 rfl 0 rfl ?_
    refine q_getr (t := 1) dX11_where_19 foX11_12 zC_0 rfl ?_
    refine q_getr (t := 2) dX11_where_22 foX11_95 zC_1 rfl ?_
    refine q_iload_n (i := 1) (x := p1) dX11_where_25 rfl 1 rfl ?_
    refine q_aald (t0 := 4) (fun j => 3 + 6 * j) dX11_where_26 zC_2 (fun _ => rfl) (by decide) (fun hc_3 => ?_)
    refine q_astore (i := 4) (L' := [(4, .ref (3 + 6 * p1.toNatClampNeg)), (0, .ref 0), (1, .int p1), (2, .int p2), (3, .int p3)]) dX11_where_27 (Nat.le_of_ble_eq_true rfl) rfl ?_
    refine q_iload_n (i := 3) (x := p3) dX11_where_29 rfl 4 rfl ?_
    refine q_tsw (tgt := 56) 0 dX11_where_30 (by decide) (by decide) rfl (by decide) ?_ (fun hs4 => ?_)
    · refine q_aload (i := 4) (x := (3 + 6 * p1.toNatClampNeg)) dX11_where_56 0 rfl ?_
      refine q_getr (t := ((3 + 6 * p1.toNatClampNeg) + 3)) dX11_where_58 foX11_138 (xBoat hc_3).1 rfl ?_
      refine q_iload_n (i := 2) (x := p2) dX11_where_61 rfl 3 rfl ?_
      refine q_iald dX11_where_62 (xBoat hc_3).2.2.1 ?_
      exact q_ireti (y := (gi σ ((3 + 6 * p1.toNatClampNeg) + 3) p2.toNatClampNeg)) dX11_where_63 rfl rfl
    refine q_tsw (tgt := 64) 1 dX11_where_30 (by decide) (by decide) rfl (by decide) ?_ (fun hs5 => ?_)
    · refine q_aload (i := 4) (x := (3 + 6 * p1.toNatClampNeg)) dX11_where_64 0 rfl ?_
      refine q_getr (t := ((3 + 6 * p1.toNatClampNeg) + 4)) dX11_where_66 foX11_141 (xBoat hc_3).1 rfl ?_
      refine q_iload_n (i := 2) (x := p2) dX11_where_69 rfl 3 rfl ?_
      refine q_iald dX11_where_70 (xBoat hc_3).2.2.2.1 ?_
      exact q_ireti (y := (gi σ ((3 + 6 * p1.toNatClampNeg) + 4) p2.toNatClampNeg)) dX11_where_71 rfl rfl
    refine q_tsw (tgt := 72) 2 dX11_where_30 (by decide) (by decide) rfl (by decide) ?_ (fun hs6 => ?_)
    · refine q_aload (i := 4) (x := (3 + 6 * p1.toNatClampNeg)) dX11_where_72 0 rfl ?_
      refine q_getr (t := ((3 + 6 * p1.toNatClampNeg) + 5)) dX11_where_74 foX11_144 (xBoat hc_3).1 rfl ?_
      refine q_iload_n (i := 2) (x := p2) dX11_where_77 rfl 3 rfl ?_
      refine q_iald dX11_where_78 (xBoat hc_3).2.2.2.2 ?_
      exact q_ireti (y := (gi σ ((3 + 6 * p1.toNatClampNeg) + 5) p2.toNatClampNeg)) dX11_where_79 rfl rfl
    refine q_tswD (tgt := 80) dX11_where_30 (swout_3 hs4 hs5 hs6) (by decide) ?_
    refine q_sipush (v := (-1000)) dX11_where_80 (by decide) ?_
    exact q_ireti (y := (-1000)) dX11_where_83 rfl rfl
  refine q_sipush (v := (-1000)) dX11_where_14 (by decide) ?_
  exact q_ireti (y := (-1000)) dX11_where_17 rfl rfl
theorem kX11_where  (p1 : Int32) (p2 : Int32) (p3 : Int32)  (σ : qMem) : qMc wC mX11_where (ρp σ) [.ref 0, .int p1, .int p2, .int p3] σ (fX11_where p1 p2 p3 σ) := qMc_of (moX11_where) (Nat.le_of_ble_eq_true rfl) (aX11_where p1 p2 p3  σ)

theorem dX11_terms_0 : decode cX11_terms 0 = .ok (.iload_n 1, 1) := by decide +kernel
theorem dX11_terms_1 : decode cX11_terms 1 = .ok (.iconst 0, 1) := by decide +kernel
theorem dX11_terms_2 : decode cX11_terms 2 = .ok (.getstatic 147, 3) := by decide +kernel
theorem dX11_terms_5 : decode cX11_terms 5 = .ok (.arraylength, 1) := by decide +kernel
theorem dX11_terms_6 : decode cX11_terms 6 = .ok (.iconst 1, 1) := by decide +kernel
theorem dX11_terms_7 : decode cX11_terms 7 = .ok (.isub, 1) := by decide +kernel
theorem dX11_terms_8 : decode cX11_terms 8 = .ok (.invokestatic 83, 3) := by decide +kernel
theorem dX11_terms_11 : decode cX11_terms 11 = .ok (.ifCond .eq 20, 3) := by decide +kernel
theorem dX11_terms_14 : decode cX11_terms 14 = .ok (.iload_n 2, 1) := by decide +kernel
theorem dX11_terms_15 : decode cX11_terms 15 = .ok (.getstatic 150, 3) := by decide +kernel
theorem dX11_terms_18 : decode cX11_terms 18 = .ok (.iload_n 1, 1) := by decide +kernel
theorem dX11_terms_19 : decode cX11_terms 19 = .ok (.iaload, 1) := by decide +kernel
theorem dX11_terms_20 : decode cX11_terms 20 = .ok (.getstatic 153, 3) := by decide +kernel
theorem dX11_terms_23 : decode cX11_terms 23 = .ok (.iload_n 1, 1) := by decide +kernel
theorem dX11_terms_24 : decode cX11_terms 24 = .ok (.iaload, 1) := by decide +kernel
theorem dX11_terms_25 : decode cX11_terms 25 = .ok (.invokestatic 83, 3) := by decide +kernel
theorem dX11_terms_28 : decode cX11_terms 28 = .ok (.ifCond .ne 9, 3) := by decide +kernel
theorem dX11_terms_31 : decode cX11_terms 31 = .ok (.aload_n 0, 1) := by decide +kernel
theorem dX11_terms_32 : decode cX11_terms 32 = .ok (.iconst (-1), 1) := by decide +kernel
theorem dX11_terms_33 : decode cX11_terms 33 = .ok (.invokevirtual 87, 3) := by decide +kernel
theorem dX11_terms_36 : decode cX11_terms 36 = .ok (.ireturn, 1) := by decide +kernel
theorem dX11_terms_37 : decode cX11_terms 37 = .ok (.aload_n 0, 1) := by decide +kernel
theorem dX11_terms_38 : decode cX11_terms 38 = .ok (.getfield 12, 3) := by decide +kernel
theorem dX11_terms_41 : decode cX11_terms 41 = .ok (.getfield 156, 3) := by decide +kernel
theorem dX11_terms_44 : decode cX11_terms 44 = .ok (.iload_n 1, 1) := by decide +kernel
theorem dX11_terms_45 : decode cX11_terms 45 = .ok (.iaload, 1) := by decide +kernel
theorem dX11_terms_46 : decode cX11_terms 46 = .ok (.istore_n 3, 1) := by decide +kernel
theorem dX11_terms_47 : decode cX11_terms 47 = .ok (.aload_n 0, 1) := by decide +kernel
theorem dX11_terms_48 : decode cX11_terms 48 = .ok (.getfield 12, 3) := by decide +kernel
theorem dX11_terms_51 : decode cX11_terms 51 = .ok (.getfield 156, 3) := by decide +kernel
theorem dX11_terms_54 : decode cX11_terms 54 = .ok (.iload_n 1, 1) := by decide +kernel
theorem dX11_terms_55 : decode cX11_terms 55 = .ok (.iload_n 2, 1) := by decide +kernel
theorem dX11_terms_56 : decode cX11_terms 56 = .ok (.iastore, 1) := by decide +kernel
theorem dX11_terms_57 : decode cX11_terms 57 = .ok (.aload_n 0, 1) := by decide +kernel
theorem dX11_terms_58 : decode cX11_terms 58 = .ok (.iload_n 3, 1) := by decide +kernel
theorem dX11_terms_59 : decode cX11_terms 59 = .ok (.invokevirtual 114, 3) := by decide +kernel
theorem dX11_terms_62 : decode cX11_terms 62 = .ok (.ireturn, 1) := by decide +kernel
def fX11_terms_b31 (σ : qMem) : Option (Int32 × qMem) :=
  ((fX11_refuse (-1) σ).bind fun y6 => (some (y6.1, y6.2)))
set_option maxRecDepth 20000 in
set_option maxHeartbeats 4000000 in
theorem aX11_terms_b31 (σ : qMem) : qAt wC mX11_terms (ρi) 31 [(0, .ref 0)] [] σ (fX11_terms_b31 σ) := by
  unfold fX11_terms_b31
  refine q_aload_n (i := 0) (x := 0) dX11_terms_31 rfl 0 rfl ?_
  refine q_iconst (v := (-1)) dX11_terms_32 (by decide) ?_
  refine q_cVi mX11_refuse [.int (-1)] (st := []) dX11_terms_33 (svX11_87) ⟨Nat.le_of_ble_eq_true rfl, Nat.le_of_ble_eq_true rfl⟩ zC_0 rfl rfl rfl (Nat.le_of_ble_eq_true rfl) (kX11_refuse (-1) σ) (fun y6 => ?_)
  exact q_ireti (y := (y6.1, y6.2)) dX11_terms_36 rfl rfl

def fX11_terms (p1 : Int32) (p2 : Int32) (σ : qMem) : Option (Int32 × qMem) :=
  ((fX11_isIn p1 0 ((6 : Int32) - 1)).bind fun y1 => (if y1 = 0 then (fX11_terms_b31 σ) else (if ck p1 6 = true then (if ck p1 6 = true then ((fX11_isIn p2 (tabL.getD p1.toNatClampNeg 0) (tabM.getD p1.toNatClampNeg 0)).bind fun y2 => (if y2 = 0 then (fX11_terms_b31 σ) else (if ck p1 6 = true then (nmI (gi σ 18 p1.toNatClampNeg) fun x3 => (if ck p1 6 = true then (nmM (si σ 18 p1.toNatClampNeg p2) fun s4 => ((fX11_changed x3 s4).bind fun y5 => (some (y5.1, y5.2)))) else none)) else none))) else none) else none)))
set_option maxRecDepth 20000 in
set_option maxHeartbeats 4000000 in
theorem aX11_terms  (p1 : Int32) (p2 : Int32)  (σ : qMem) : qAt wC mX11_terms (ρi) 0 [(0, .ref 0), (1, .int p1), (2, .int p2)] [] σ (fX11_terms p1 p2 σ) := by
  unfold fX11_terms
  refine q_iload_n (i := 1) (x := p1) dX11_terms_0 rfl 1 rfl ?_
  refine q_iconst (v := 0) dX11_terms_1 (by decide) ?_
  refine q_gst 1000 rfl dX11_terms_2 (g_3 65 (by decide +kernel) rfl) (fun _ _ _ h => h.1.1) ?_
  refine q_slen 1000 tabF rfl dX11_terms_5 (fun _ _ _ h => h.1.2) ?_
  refine q_iconst (v := 1) dX11_terms_6 (by decide) ?_
  refine q_isub dX11_terms_7 ?_
  refine q_cSp mX11_isIn [.int p1, .int 0, .int ((6 : Int32) - 1)] (st := []) dX11_terms_8 (ssX11_83) ⟨Nat.le_of_ble_eq_true rfl, Nat.le_of_ble_eq_true rfl⟩ rfl rfl (Nat.le_of_ble_eq_true rfl) (kX11_isIn p1 0 ((6 : Int32) - 1) σ) (fun y1 => ?_)
  refine q_if_eq (tgt := 31) dX11_terms_11 (by decide) ?_ ?_
  · exact q_sub [0] rfl (aX11_terms_b31 σ)
  refine q_iload_n (i := 2) (x := p2) dX11_terms_14 rfl 2 rfl ?_
  refine q_gst 1001 rfl dX11_terms_15 (g_3 66 (by decide +kernel) rfl) (fun _ _ _ h => h.2.1.1) ?_
  refine q_iload_n (i := 1) (x := p1) dX11_terms_18 rfl 1 rfl ?_
  refine q_sald 1001 tabL rfl dX11_terms_19 (fun _ _ _ h => h.2.1.2) ?_
  refine q_gst 1002 rfl dX11_terms_20 (g_3 68 (by decide +kernel) rfl) (fun _ _ _ h => h.2.2.1.1) ?_
  refine q_iload_n (i := 1) (x := p1) dX11_terms_23 rfl 1 rfl ?_
  refine q_sald 1002 tabM rfl dX11_terms_24 (fun _ _ _ h => h.2.2.1.2) ?_
  refine q_cSp mX11_isIn [.int p2, .int (tabL.getD p1.toNatClampNeg 0), .int (tabM.getD p1.toNatClampNeg 0)] (st := []) dX11_terms_25 (ssX11_83) ⟨Nat.le_of_ble_eq_true rfl, Nat.le_of_ble_eq_true rfl⟩ rfl rfl (Nat.le_of_ble_eq_true rfl) (kX11_isIn p2 (tabL.getD p1.toNatClampNeg 0) (tabM.getD p1.toNatClampNeg 0) σ) (fun y2 => ?_)
  refine q_if_ne (tgt := 37) dX11_terms_28 (by decide) ?_ ?_
  · refine q_aload_n (i := 0) (x := 0) dX11_terms_37 rfl 0 rfl ?_
    refine q_getr (t := 1) dX11_terms_38 foX11_12 zC_0 rfl ?_
    refine q_getr (t := 18) dX11_terms_41 foX11_156 zC_1 rfl ?_
    refine q_iload_n (i := 1) (x := p1) dX11_terms_44 rfl 1 rfl ?_
    refine q_iald dX11_terms_45 zC_18 ?_
    refine q_nmI (fun x3 => ?_)
    refine q_istore_n (i := 3) (L' := [(3, .int x3), (0, .ref 0), (1, .int p1), (2, .int p2)]) dX11_terms_46 rfl (Nat.le_of_ble_eq_true rfl) rfl ?_
    refine q_aload_n (i := 0) (x := 0) dX11_terms_47 rfl 1 rfl ?_
    refine q_getr (t := 1) dX11_terms_48 foX11_12 zC_0 rfl ?_
    refine q_getr (t := 18) dX11_terms_51 foX11_156 zC_1 rfl ?_
    refine q_iload_n (i := 1) (x := p1) dX11_terms_54 rfl 2 rfl ?_
    refine q_iload_n (i := 2) (x := p2) dX11_terms_55 rfl 3 rfl ?_
    refine q_iast dX11_terms_56 zC_18 ?_
    refine q_nmM (fun s4 => ?_)
    refine q_aload_n (i := 0) (x := 0) dX11_terms_57 rfl 1 rfl ?_
    refine q_iload_n (i := 3) (x := x3) dX11_terms_58 rfl 0 rfl ?_
    refine q_cVi mX11_changed [.int x3] (st := []) dX11_terms_59 (svX11_114) ⟨Nat.le_of_ble_eq_true rfl, Nat.le_of_ble_eq_true rfl⟩ zC_0 rfl rfl rfl (Nat.le_of_ble_eq_true rfl) (kX11_changed x3 s4) (fun y5 => ?_)
    exact q_ireti (y := (y5.1, y5.2)) dX11_terms_62 rfl rfl
  exact q_sub [0] rfl (aX11_terms_b31 σ)
theorem kX11_terms  (p1 : Int32) (p2 : Int32)  (σ : qMem) : qMc wC mX11_terms (ρi) [.ref 0, .int p1, .int p2] σ (fX11_terms p1 p2 σ) := qMc_of (moX11_terms) (Nat.le_of_ble_eq_true rfl) (aX11_terms p1 p2  σ)

theorem dX11_day_0 : decode cX11_day 0 = .ok (.iload_n 1, 1) := by decide +kernel
theorem dX11_day_1 : decode cX11_day 1 = .ok (.iconst 0, 1) := by decide +kernel
theorem dX11_day_2 : decode cX11_day 2 = .ok (.iconst 2, 1) := by decide +kernel
theorem dX11_day_3 : decode cX11_day 3 = .ok (.invokestatic 83, 3) := by decide +kernel
theorem dX11_day_6 : decode cX11_day 6 = .ok (.ifCond .ne 9, 3) := by decide +kernel
theorem dX11_day_9 : decode cX11_day 9 = .ok (.aload_n 0, 1) := by decide +kernel
theorem dX11_day_10 : decode cX11_day 10 = .ok (.iconst (-1), 1) := by decide +kernel
theorem dX11_day_11 : decode cX11_day 11 = .ok (.invokevirtual 87, 3) := by decide +kernel
theorem dX11_day_14 : decode cX11_day 14 = .ok (.ireturn, 1) := by decide +kernel
theorem dX11_day_15 : decode cX11_day 15 = .ok (.aload_n 0, 1) := by decide +kernel
theorem dX11_day_16 : decode cX11_day 16 = .ok (.getfield 12, 3) := by decide +kernel
theorem dX11_day_19 : decode cX11_day 19 = .ok (.getfield 159, 3) := by decide +kernel
theorem dX11_day_22 : decode cX11_day 22 = .ok (.getfield 163, 3) := by decide +kernel
theorem dX11_day_25 : decode cX11_day 25 = .ok (.istore_n 2, 1) := by decide +kernel
theorem dX11_day_26 : decode cX11_day 26 = .ok (.aload_n 0, 1) := by decide +kernel
theorem dX11_day_27 : decode cX11_day 27 = .ok (.getfield 12, 3) := by decide +kernel
theorem dX11_day_30 : decode cX11_day 30 = .ok (.getfield 159, 3) := by decide +kernel
theorem dX11_day_33 : decode cX11_day 33 = .ok (.iload_n 1, 1) := by decide +kernel
theorem dX11_day_34 : decode cX11_day 34 = .ok (.putfield 163, 3) := by decide +kernel
theorem dX11_day_37 : decode cX11_day 37 = .ok (.aload_n 0, 1) := by decide +kernel
theorem dX11_day_38 : decode cX11_day 38 = .ok (.iload_n 2, 1) := by decide +kernel
theorem dX11_day_39 : decode cX11_day 39 = .ok (.invokevirtual 114, 3) := by decide +kernel
theorem dX11_day_42 : decode cX11_day 42 = .ok (.ireturn, 1) := by decide +kernel

def fX11_day (p1 : Int32) (σ : qMem) : Option (Int32 × qMem) :=
  ((fX11_isIn p1 0 2).bind fun y1 => (if y1 = 0 then ((fX11_refuse (-1) σ).bind fun y4 => (some (y4.1, y4.2))) else (nmM (si σ 15 2 p1) fun s2 => ((fX11_changed (gi σ 15 2) s2).bind fun y3 => (some (y3.1, y3.2))))))
set_option maxRecDepth 20000 in
set_option maxHeartbeats 4000000 in
theorem aX11_day  (p1 : Int32)  (σ : qMem) : qAt wC mX11_day (ρi) 0 [(0, .ref 0), (1, .int p1)] [] σ (fX11_day p1 σ) := by
  unfold fX11_day
  refine q_iload_n (i := 1) (x := p1) dX11_day_0 rfl 1 rfl ?_
  refine q_iconst (v := 0) dX11_day_1 (by decide) ?_
  refine q_iconst (v := 2) dX11_day_2 (by decide) ?_
  refine q_cSp mX11_isIn [.int p1, .int 0, .int 2] (st := []) dX11_day_3 (ssX11_83) ⟨Nat.le_of_ble_eq_true rfl, Nat.le_of_ble_eq_true rfl⟩ rfl rfl (Nat.le_of_ble_eq_true rfl) (kX11_isIn p1 0 2 σ) (fun y1 => ?_)
  refine q_if_ne (tgt := 15) dX11_day_6 (by decide) ?_ ?_
  · refine q_aload_n (i := 0) (x := 0) dX11_day_15 rfl 0 rfl ?_
    refine q_getr (t := 1) dX11_day_16 foX11_12 zC_0 rfl ?_
    refine q_getr (t := 15) dX11_day_19 foX11_159 zC_1 rfl ?_
    refine q_geti dX11_day_22 foX11_163 zC_15 rfl ?_
    refine q_istore_n (i := 2) (L' := [(2, .int (gi σ 15 2)), (0, .ref 0), (1, .int p1)]) dX11_day_25 rfl (Nat.le_of_ble_eq_true rfl) rfl ?_
    refine q_aload_n (i := 0) (x := 0) dX11_day_26 rfl 1 rfl ?_
    refine q_getr (t := 1) dX11_day_27 foX11_12 zC_0 rfl ?_
    refine q_getr (t := 15) dX11_day_30 foX11_159 zC_1 rfl ?_
    refine q_iload_n (i := 1) (x := p1) dX11_day_33 rfl 2 rfl ?_
    refine q_puti dX11_day_34 foX11_163 fwX10_2 zC_15 rfl ?_
    refine q_nmM (fun s2 => ?_)
    refine q_aload_n (i := 0) (x := 0) dX11_day_37 rfl 1 rfl ?_
    refine q_iload_n (i := 2) (x := (gi σ 15 2)) dX11_day_38 rfl 0 rfl ?_
    refine q_cVi mX11_changed [.int (gi σ 15 2)] (st := []) dX11_day_39 (svX11_114) ⟨Nat.le_of_ble_eq_true rfl, Nat.le_of_ble_eq_true rfl⟩ zC_0 rfl rfl rfl (Nat.le_of_ble_eq_true rfl) (kX11_changed (gi σ 15 2) s2) (fun y3 => ?_)
    exact q_ireti (y := (y3.1, y3.2)) dX11_day_42 rfl rfl
  refine q_aload_n (i := 0) (x := 0) dX11_day_9 rfl 0 rfl ?_
  refine q_iconst (v := (-1)) dX11_day_10 (by decide) ?_
  refine q_cVi mX11_refuse [.int (-1)] (st := []) dX11_day_11 (svX11_87) ⟨Nat.le_of_ble_eq_true rfl, Nat.le_of_ble_eq_true rfl⟩ zC_0 rfl rfl rfl (Nat.le_of_ble_eq_true rfl) (kX11_refuse (-1) σ) (fun y4 => ?_)
  exact q_ireti (y := (y4.1, y4.2)) dX11_day_14 rfl rfl
theorem kX11_day  (p1 : Int32)  (σ : qMem) : qMc wC mX11_day (ρi) [.ref 0, .int p1] σ (fX11_day p1 σ) := qMc_of (moX11_day) (Nat.le_of_ble_eq_true rfl) (aX11_day p1  σ)

theorem dX11_layer_0 : decode cX11_layer 0 = .ok (.iload_n 1, 1) := by decide +kernel
theorem dX11_layer_1 : decode cX11_layer 1 = .ok (.iconst 0, 1) := by decide +kernel
theorem dX11_layer_2 : decode cX11_layer 2 = .ok (.bipush 9, 2) := by decide +kernel
theorem dX11_layer_4 : decode cX11_layer 4 = .ok (.invokestatic 83, 3) := by decide +kernel
theorem dX11_layer_7 : decode cX11_layer 7 = .ok (.ifCond .eq 14, 3) := by decide +kernel
theorem dX11_layer_10 : decode cX11_layer 10 = .ok (.iload_n 2, 1) := by decide +kernel
theorem dX11_layer_11 : decode cX11_layer 11 = .ok (.iconst 0, 1) := by decide +kernel
theorem dX11_layer_12 : decode cX11_layer 12 = .ok (.sipush 200, 3) := by decide +kernel
theorem dX11_layer_15 : decode cX11_layer 15 = .ok (.invokestatic 83, 3) := by decide +kernel
theorem dX11_layer_18 : decode cX11_layer 18 = .ok (.ifCond .ne 9, 3) := by decide +kernel
theorem dX11_layer_21 : decode cX11_layer 21 = .ok (.aload_n 0, 1) := by decide +kernel
theorem dX11_layer_22 : decode cX11_layer 22 = .ok (.iconst (-1), 1) := by decide +kernel
theorem dX11_layer_23 : decode cX11_layer 23 = .ok (.invokevirtual 87, 3) := by decide +kernel
theorem dX11_layer_26 : decode cX11_layer 26 = .ok (.ireturn, 1) := by decide +kernel
theorem dX11_layer_27 : decode cX11_layer 27 = .ok (.aload_n 0, 1) := by decide +kernel
theorem dX11_layer_28 : decode cX11_layer 28 = .ok (.aload_n 0, 1) := by decide +kernel
theorem dX11_layer_29 : decode cX11_layer 29 = .ok (.getfield 12, 3) := by decide +kernel
theorem dX11_layer_32 : decode cX11_layer 32 = .ok (.getfield 159, 3) := by decide +kernel
theorem dX11_layer_35 : decode cX11_layer 35 = .ok (.iload_n 1, 1) := by decide +kernel
theorem dX11_layer_36 : decode cX11_layer 36 = .ok (.iload_n 2, 1) := by decide +kernel
theorem dX11_layer_37 : decode cX11_layer 37 = .ok (.invokevirtual 168, 3) := by decide +kernel
theorem dX11_layer_40 : decode cX11_layer 40 = .ok (.invokevirtual 114, 3) := by decide +kernel
theorem dX11_layer_43 : decode cX11_layer 43 = .ok (.ireturn, 1) := by decide +kernel
def fX11_layer_b21 (σ : qMem) : Option (Int32 × qMem) :=
  ((fX11_refuse (-1) σ).bind fun y5 => (some (y5.1, y5.2)))
set_option maxRecDepth 20000 in
set_option maxHeartbeats 4000000 in
theorem aX11_layer_b21 (σ : qMem) : qAt wC mX11_layer (ρi) 21 [(0, .ref 0)] [] σ (fX11_layer_b21 σ) := by
  unfold fX11_layer_b21
  refine q_aload_n (i := 0) (x := 0) dX11_layer_21 rfl 0 rfl ?_
  refine q_iconst (v := (-1)) dX11_layer_22 (by decide) ?_
  refine q_cVi mX11_refuse [.int (-1)] (st := []) dX11_layer_23 (svX11_87) ⟨Nat.le_of_ble_eq_true rfl, Nat.le_of_ble_eq_true rfl⟩ zC_0 rfl rfl rfl (Nat.le_of_ble_eq_true rfl) (kX11_refuse (-1) σ) (fun y5 => ?_)
  exact q_ireti (y := (y5.1, y5.2)) dX11_layer_26 rfl rfl

def fX11_layer (p1 : Int32) (p2 : Int32) (σ : qMem) : Option (Int32 × qMem) :=
  ((fX11_isIn p1 0 9).bind fun y1 => (if y1 = 0 then (fX11_layer_b21 σ) else ((fX11_isIn p2 0 200).bind fun y2 => (if y2 = 0 then (fX11_layer_b21 σ) else ((fX10_changeSlow 15 p1 p2 σ).bind fun y3 => ((fX11_changed y3.1 y3.2).bind fun y4 => (some (y4.1, y4.2))))))))
set_option maxRecDepth 20000 in
set_option maxHeartbeats 4000000 in
theorem aX11_layer  (p1 : Int32) (p2 : Int32)  (σ : qMem) : qAt wC mX11_layer (ρi) 0 [(0, .ref 0), (1, .int p1), (2, .int p2)] [] σ (fX11_layer p1 p2 σ) := by
  unfold fX11_layer
  refine q_iload_n (i := 1) (x := p1) dX11_layer_0 rfl 1 rfl ?_
  refine q_iconst (v := 0) dX11_layer_1 (by decide) ?_
  refine q_bipush (v := 9) dX11_layer_2 (by decide) ?_
  refine q_cSp mX11_isIn [.int p1, .int 0, .int 9] (st := []) dX11_layer_4 (ssX11_83) ⟨Nat.le_of_ble_eq_true rfl, Nat.le_of_ble_eq_true rfl⟩ rfl rfl (Nat.le_of_ble_eq_true rfl) (kX11_isIn p1 0 9 σ) (fun y1 => ?_)
  refine q_if_eq (tgt := 21) dX11_layer_7 (by decide) ?_ ?_
  · exact q_sub [0] rfl (aX11_layer_b21 σ)
  refine q_iload_n (i := 2) (x := p2) dX11_layer_10 rfl 2 rfl ?_
  refine q_iconst (v := 0) dX11_layer_11 (by decide) ?_
  refine q_sipush (v := 200) dX11_layer_12 (by decide) ?_
  refine q_cSp mX11_isIn [.int p2, .int 0, .int 200] (st := []) dX11_layer_15 (ssX11_83) ⟨Nat.le_of_ble_eq_true rfl, Nat.le_of_ble_eq_true rfl⟩ rfl rfl (Nat.le_of_ble_eq_true rfl) (kX11_isIn p2 0 200 σ) (fun y2 => ?_)
  refine q_if_ne (tgt := 27) dX11_layer_18 (by decide) ?_ ?_
  · refine q_aload_n (i := 0) (x := 0) dX11_layer_27 rfl 0 rfl ?_
    refine q_aload_n (i := 0) (x := 0) dX11_layer_28 rfl 0 rfl ?_
    refine q_getr (t := 1) dX11_layer_29 foX11_12 zC_0 rfl ?_
    refine q_getr (t := 15) dX11_layer_32 foX11_159 zC_1 rfl ?_
    refine q_iload_n (i := 1) (x := p1) dX11_layer_35 rfl 1 rfl ?_
    refine q_iload_n (i := 2) (x := p2) dX11_layer_36 rfl 2 rfl ?_
    refine q_cVi mX10_changeSlow [.int p1, .int p2] (st := [.ref 0]) dX11_layer_37 (svX11_168) ⟨Nat.le_of_ble_eq_true rfl, Nat.le_of_ble_eq_true rfl⟩ zC_15 rfl rfl rfl (Nat.le_of_ble_eq_true rfl) (kX10_changeSlow 15 p1 p2 pC_15 σ) (fun y3 => ?_)
    refine q_cVi mX11_changed [.int y3.1] (st := []) dX11_layer_40 (svX11_114) ⟨Nat.le_of_ble_eq_true rfl, Nat.le_of_ble_eq_true rfl⟩ zC_0 rfl rfl rfl (Nat.le_of_ble_eq_true rfl) (kX11_changed y3.1 y3.2) (fun y4 => ?_)
    exact q_ireti (y := (y4.1, y4.2)) dX11_layer_43 rfl rfl
  exact q_sub [0] rfl (aX11_layer_b21 σ)
theorem kX11_layer  (p1 : Int32) (p2 : Int32)  (σ : qMem) : qMc wC mX11_layer (ρi) [.ref 0, .int p1, .int p2] σ (fX11_layer p1 p2 σ) := qMc_of (moX11_layer) (Nat.le_of_ble_eq_true rfl) (aX11_layer p1 p2  σ)

theorem dX11_reaches_0 : decode cX11_reaches 0 = .ok (.iload_n 1, 1) := by decide +kernel
theorem dX11_reaches_1 : decode cX11_reaches 1 = .ok (.iconst 0, 1) := by decide +kernel
theorem dX11_reaches_2 : decode cX11_reaches 2 = .ok (.bipush 9, 2) := by decide +kernel
theorem dX11_reaches_4 : decode cX11_reaches 4 = .ok (.invokestatic 83, 3) := by decide +kernel
theorem dX11_reaches_7 : decode cX11_reaches 7 = .ok (.ifCond .eq 24, 3) := by decide +kernel
theorem dX11_reaches_10 : decode cX11_reaches 10 = .ok (.iload_n 2, 1) := by decide +kernel
theorem dX11_reaches_11 : decode cX11_reaches 11 = .ok (.iconst 0, 1) := by decide +kernel
theorem dX11_reaches_12 : decode cX11_reaches 12 = .ok (.bipush 9, 2) := by decide +kernel
theorem dX11_reaches_14 : decode cX11_reaches 14 = .ok (.invokestatic 83, 3) := by decide +kernel
theorem dX11_reaches_17 : decode cX11_reaches 17 = .ok (.ifCond .eq 14, 3) := by decide +kernel
theorem dX11_reaches_20 : decode cX11_reaches 20 = .ok (.iload_n 3, 1) := by decide +kernel
theorem dX11_reaches_21 : decode cX11_reaches 21 = .ok (.iconst 0, 1) := by decide +kernel
theorem dX11_reaches_22 : decode cX11_reaches 22 = .ok (.sipush 200, 3) := by decide +kernel
theorem dX11_reaches_25 : decode cX11_reaches 25 = .ok (.invokestatic 83, 3) := by decide +kernel
theorem dX11_reaches_28 : decode cX11_reaches 28 = .ok (.ifCond .ne 5, 3) := by decide +kernel
theorem dX11_reaches_31 : decode cX11_reaches 31 = .ok (.iconst (-1), 1) := by decide +kernel
theorem dX11_reaches_32 : decode cX11_reaches 32 = .ok (.ireturn, 1) := by decide +kernel
theorem dX11_reaches_33 : decode cX11_reaches 33 = .ok (.aload_n 0, 1) := by decide +kernel
theorem dX11_reaches_34 : decode cX11_reaches 34 = .ok (.getfield 12, 3) := by decide +kernel
theorem dX11_reaches_37 : decode cX11_reaches 37 = .ok (.getfield 159, 3) := by decide +kernel
theorem dX11_reaches_40 : decode cX11_reaches 40 = .ok (.iload_n 1, 1) := by decide +kernel
theorem dX11_reaches_41 : decode cX11_reaches 41 = .ok (.iload_n 3, 1) := by decide +kernel
theorem dX11_reaches_42 : decode cX11_reaches 42 = .ok (.aload_n 0, 1) := by decide +kernel
theorem dX11_reaches_43 : decode cX11_reaches 43 = .ok (.getfield 29, 3) := by decide +kernel
theorem dX11_reaches_46 : decode cX11_reaches 46 = .ok (.getfield 171, 3) := by decide +kernel
theorem dX11_reaches_49 : decode cX11_reaches 49 = .ok (.invokevirtual 174, 3) := by decide +kernel
theorem dX11_reaches_52 : decode cX11_reaches 52 = .ok (.aload_n 0, 1) := by decide +kernel
theorem dX11_reaches_53 : decode cX11_reaches 53 = .ok (.getfield 29, 3) := by decide +kernel
theorem dX11_reaches_56 : decode cX11_reaches 56 = .ok (.getfield 171, 3) := by decide +kernel
theorem dX11_reaches_59 : decode cX11_reaches 59 = .ok (.iload_n 3, 1) := by decide +kernel
theorem dX11_reaches_60 : decode cX11_reaches 60 = .ok (.iaload, 1) := by decide +kernel
theorem dX11_reaches_61 : decode cX11_reaches 61 = .ok (.iload_n 2, 1) := by decide +kernel
theorem dX11_reaches_62 : decode cX11_reaches 62 = .ok (.invokestatic 178, 3) := by decide +kernel
theorem dX11_reaches_65 : decode cX11_reaches 65 = .ok (.ifCond .eq 7, 3) := by decide +kernel
theorem dX11_reaches_68 : decode cX11_reaches 68 = .ok (.iconst 1, 1) := by decide +kernel
theorem dX11_reaches_69 : decode cX11_reaches 69 = .ok (.goto 4, 3) := by decide +kernel
theorem dX11_reaches_72 : decode cX11_reaches 72 = .ok (.iconst 0, 1) := by decide +kernel
theorem dX11_reaches_73 : decode cX11_reaches 73 = .ok (.ireturn, 1) := by decide +kernel

def fX11_reaches (N : Nat) (p1 : Int32) (p2 : Int32) (p3 : Int32) (σ : qMem) : Option (Int32 × qMem) :=
  ((fX11_isIn p1 0 9).bind fun y1 => (if y1 = 0 then (some ((-1), σ)) else ((fX11_isIn p2 0 9).bind fun y2 => (if y2 = 0 then (some ((-1), σ)) else ((fX11_isIn p3 0 200).bind fun y3 => (if y3 = 0 then (some ((-1), σ)) else ((fX10_sendRays N 15 p1 p3 σ).bind fun y4 => (if ck p3 201 = true then ((fX10_isNear (gi y4 60 p3.toNatClampNeg) p2).bind fun y5 => (if y5 = 0 then (some (0, y4)) else (some (1, y4)))) else none))))))))
set_option maxRecDepth 20000 in
set_option maxHeartbeats 4000000 in
theorem aX11_reaches  (N : Nat) (p1 : Int32) (p2 : Int32) (p3 : Int32)  (σ : qMem) : qAt wC mX11_reaches (ρi) 0 [(0, .ref 0), (1, .int p1), (2, .int p2), (3, .int p3)] [] σ (fX11_reaches N p1 p2 p3 σ) := by
  unfold fX11_reaches
  refine q_iload_n (i := 1) (x := p1) dX11_reaches_0 rfl 1 rfl ?_
  refine q_iconst (v := 0) dX11_reaches_1 (by decide) ?_
  refine q_bipush (v := 9) dX11_reaches_2 (by decide) ?_
  refine q_cSp mX11_isIn [.int p1, .int 0, .int 9] (st := []) dX11_reaches_4 (ssX11_83) ⟨Nat.le_of_ble_eq_true rfl, Nat.le_of_ble_eq_true rfl⟩ rfl rfl (Nat.le_of_ble_eq_true rfl) (kX11_isIn p1 0 9 σ) (fun y1 => ?_)
  refine q_if_eq (tgt := 31) dX11_reaches_7 (by decide) ?_ ?_
  · refine q_iconst (v := (-1)) dX11_reaches_31 (by decide) ?_
    exact q_ireti (y := ((-1), σ)) dX11_reaches_32 rfl rfl
  refine q_iload_n (i := 2) (x := p2) dX11_reaches_10 rfl 2 rfl ?_
  refine q_iconst (v := 0) dX11_reaches_11 (by decide) ?_
  refine q_bipush (v := 9) dX11_reaches_12 (by decide) ?_
  refine q_cSp mX11_isIn [.int p2, .int 0, .int 9] (st := []) dX11_reaches_14 (ssX11_83) ⟨Nat.le_of_ble_eq_true rfl, Nat.le_of_ble_eq_true rfl⟩ rfl rfl (Nat.le_of_ble_eq_true rfl) (kX11_isIn p2 0 9 σ) (fun y2 => ?_)
  refine q_if_eq (tgt := 31) dX11_reaches_17 (by decide) ?_ ?_
  · refine q_iconst (v := (-1)) dX11_reaches_31 (by decide) ?_
    exact q_ireti (y := ((-1), σ)) dX11_reaches_32 rfl rfl
  refine q_iload_n (i := 3) (x := p3) dX11_reaches_20 rfl 3 rfl ?_
  refine q_iconst (v := 0) dX11_reaches_21 (by decide) ?_
  refine q_sipush (v := 200) dX11_reaches_22 (by decide) ?_
  refine q_cSp mX11_isIn [.int p3, .int 0, .int 200] (st := []) dX11_reaches_25 (ssX11_83) ⟨Nat.le_of_ble_eq_true rfl, Nat.le_of_ble_eq_true rfl⟩ rfl rfl (Nat.le_of_ble_eq_true rfl) (kX11_isIn p3 0 200 σ) (fun y3 => ?_)
  refine q_if_ne (tgt := 33) dX11_reaches_28 (by decide) ?_ ?_
  · refine q_aload_n (i := 0) (x := 0) dX11_reaches_33 rfl 0 rfl ?_
    refine q_getr (t := 1) dX11_reaches_34 foX11_12 zC_0 rfl ?_
    refine q_getr (t := 15) dX11_reaches_37 foX11_159 zC_1 rfl ?_
    refine q_iload_n (i := 1) (x := p1) dX11_reaches_40 rfl 1 rfl ?_
    refine q_iload_n (i := 3) (x := p3) dX11_reaches_41 rfl 3 rfl ?_
    refine q_aload_n (i := 0) (x := 0) dX11_reaches_42 rfl 0 rfl ?_
    refine q_getr (t := 44) dX11_reaches_43 foX11_29 zC_0 rfl ?_
    refine q_getr (t := 60) dX11_reaches_46 foX11_171 zC_44 rfl ?_
    refine q_cVv mX10_sendRays [.int p1, .int p3, .ref 60] (st := []) dX11_reaches_49 (svX11_174) ⟨Nat.le_of_ble_eq_true rfl, Nat.le_of_ble_eq_true rfl⟩ zC_15 rfl rfl rfl (Nat.le_of_ble_eq_true rfl) (kX10_sendRays N 15 p1 p3 pC_15 σ) (fun y4 => ?_)
    refine q_aload_n (i := 0) (x := 0) dX11_reaches_52 rfl 0 rfl ?_
    refine q_getr (t := 44) dX11_reaches_53 foX11_29 zC_0 rfl ?_
    refine q_getr (t := 60) dX11_reaches_56 foX11_171 zC_44 rfl ?_
    refine q_iload_n (i := 3) (x := p3) dX11_reaches_59 rfl 3 rfl ?_
    refine q_iald dX11_reaches_60 zC_60 ?_
    refine q_iload_n (i := 2) (x := p2) dX11_reaches_61 rfl 2 rfl ?_
    refine q_cSp mX10_isNear [.int (gi y4 60 p3.toNatClampNeg), .int p2] (st := []) dX11_reaches_62 (ssX11_178) ⟨Nat.le_of_ble_eq_true rfl, Nat.le_of_ble_eq_true rfl⟩ rfl rfl (Nat.le_of_ble_eq_true rfl) (kX10_isNear (gi y4 60 p3.toNatClampNeg) p2 y4) (fun y5 => ?_)
    refine q_if_eq (tgt := 72) dX11_reaches_65 (by decide) ?_ ?_
    · refine q_iconst (v := 0) dX11_reaches_72 (by decide) ?_
      exact q_ireti (y := (0, y4)) dX11_reaches_73 rfl rfl
    refine q_iconst (v := 1) dX11_reaches_68 (by decide) ?_
    refine q_goto (tgt := 73) dX11_reaches_69 (by decide) ?_
    exact q_ireti (y := (1, y4)) dX11_reaches_73 rfl rfl
  refine q_iconst (v := (-1)) dX11_reaches_31 (by decide) ?_
  exact q_ireti (y := ((-1), σ)) dX11_reaches_32 rfl rfl
theorem kX11_reaches  (N : Nat) (p1 : Int32) (p2 : Int32) (p3 : Int32)  (σ : qMem) : qMc wC mX11_reaches (ρi) [.ref 0, .int p1, .int p2, .int p3] σ (fX11_reaches N p1 p2 p3 σ) := qMc_of (moX11_reaches) (Nat.le_of_ble_eq_true rfl) (aX11_reaches N p1 p2 p3  σ)

theorem dX11_bearing_0 : decode cX11_bearing 0 = .ok (.iload_n 1, 1) := by decide +kernel
theorem dX11_bearing_1 : decode cX11_bearing 1 = .ok (.sipush (-1000), 3) := by decide +kernel
theorem dX11_bearing_4 : decode cX11_bearing 4 = .ok (.sipush 1000, 3) := by decide +kernel
theorem dX11_bearing_7 : decode cX11_bearing 7 = .ok (.invokestatic 83, 3) := by decide +kernel
theorem dX11_bearing_10 : decode cX11_bearing 10 = .ok (.ifCond .eq 16, 3) := by decide +kernel
theorem dX11_bearing_13 : decode cX11_bearing 13 = .ok (.iload_n 2, 1) := by decide +kernel
theorem dX11_bearing_14 : decode cX11_bearing 14 = .ok (.sipush (-1000), 3) := by decide +kernel
theorem dX11_bearing_17 : decode cX11_bearing 17 = .ok (.sipush 1000, 3) := by decide +kernel
theorem dX11_bearing_20 : decode cX11_bearing 20 = .ok (.invokestatic 83, 3) := by decide +kernel
theorem dX11_bearing_23 : decode cX11_bearing 23 = .ok (.ifCond .ne 5, 3) := by decide +kernel
theorem dX11_bearing_26 : decode cX11_bearing 26 = .ok (.iconst (-1), 1) := by decide +kernel
theorem dX11_bearing_27 : decode cX11_bearing 27 = .ok (.ireturn, 1) := by decide +kernel
theorem dX11_bearing_28 : decode cX11_bearing 28 = .ok (.iload_n 1, 1) := by decide +kernel
theorem dX11_bearing_29 : decode cX11_bearing 29 = .ok (.iload_n 2, 1) := by decide +kernel
theorem dX11_bearing_30 : decode cX11_bearing 30 = .ok (.invokestatic 181, 3) := by decide +kernel
theorem dX11_bearing_33 : decode cX11_bearing 33 = .ok (.ireturn, 1) := by decide +kernel

def fX11_bearing (p1 : Int32) (p2 : Int32) : Option Int32 :=
  ((fX11_isIn p1 (-1000) 1000).bind fun y1 => (if y1 = 0 then (some (-1)) else ((fX11_isIn p2 (-1000) 1000).bind fun y2 => (if y2 = 0 then (some (-1)) else ((fX11_direction p1 p2).bind fun y3 => (some y3))))))
set_option maxRecDepth 20000 in
set_option maxHeartbeats 4000000 in
theorem aX11_bearing  (p1 : Int32) (p2 : Int32)  (σ : qMem) : qAt wC mX11_bearing (ρp σ) 0 [(0, .ref 0), (1, .int p1), (2, .int p2)] [] σ (fX11_bearing p1 p2) := by
  unfold fX11_bearing
  refine q_iload_n (i := 1) (x := p1) dX11_bearing_0 rfl 1 rfl ?_
  refine q_sipush (v := (-1000)) dX11_bearing_1 (by decide) ?_
  refine q_sipush (v := 1000) dX11_bearing_4 (by decide) ?_
  refine q_cSp mX11_isIn [.int p1, .int (-1000), .int 1000] (st := []) dX11_bearing_7 (ssX11_83) ⟨Nat.le_of_ble_eq_true rfl, Nat.le_of_ble_eq_true rfl⟩ rfl rfl (Nat.le_of_ble_eq_true rfl) (kX11_isIn p1 (-1000) 1000 σ) (fun y1 => ?_)
  refine q_if_eq (tgt := 26) dX11_bearing_10 (by decide) ?_ ?_
  · refine q_iconst (v := (-1)) dX11_bearing_26 (by decide) ?_
    exact q_ireti (y := (-1)) dX11_bearing_27 rfl rfl
  refine q_iload_n (i := 2) (x := p2) dX11_bearing_13 rfl 2 rfl ?_
  refine q_sipush (v := (-1000)) dX11_bearing_14 (by decide) ?_
  refine q_sipush (v := 1000) dX11_bearing_17 (by decide) ?_
  refine q_cSp mX11_isIn [.int p2, .int (-1000), .int 1000] (st := []) dX11_bearing_20 (ssX11_83) ⟨Nat.le_of_ble_eq_true rfl, Nat.le_of_ble_eq_true rfl⟩ rfl rfl (Nat.le_of_ble_eq_true rfl) (kX11_isIn p2 (-1000) 1000 σ) (fun y2 => ?_)
  refine q_if_ne (tgt := 28) dX11_bearing_23 (by decide) ?_ ?_
  · refine q_iload_n (i := 1) (x := p1) dX11_bearing_28 rfl 1 rfl ?_
    refine q_iload_n (i := 2) (x := p2) dX11_bearing_29 rfl 2 rfl ?_
    refine q_cSp mX11_direction [.int p1, .int p2] (st := []) dX11_bearing_30 (ssX11_181) ⟨Nat.le_of_ble_eq_true rfl, Nat.le_of_ble_eq_true rfl⟩ rfl rfl (Nat.le_of_ble_eq_true rfl) (kX11_direction p1 p2 σ) (fun y3 => ?_)
    exact q_ireti (y := y3) dX11_bearing_33 rfl rfl
  refine q_iconst (v := (-1)) dX11_bearing_26 (by decide) ?_
  exact q_ireti (y := (-1)) dX11_bearing_27 rfl rfl
theorem kX11_bearing  (p1 : Int32) (p2 : Int32)  (σ : qMem) : qMc wC mX11_bearing (ρp σ) [.ref 0, .int p1, .int p2] σ (fX11_bearing p1 p2) := qMc_of (moX11_bearing) (Nat.le_of_ble_eq_true rfl) (aX11_bearing p1 p2  σ)

theorem dX11_addChanging_0 : decode cX11_addChanging 0 = .ok (.aload_n 1, 1) := by decide +kernel
theorem dX11_addChanging_1 : decode cX11_addChanging 1 = .ok (.invokevirtual 127, 3) := by decide +kernel
theorem dX11_addChanging_4 : decode cX11_addChanging 4 = .ok (.ifCond .eq 12, 3) := by decide +kernel
theorem dX11_addChanging_7 : decode cX11_addChanging 7 = .ok (.aload_n 0, 1) := by decide +kernel
theorem dX11_addChanging_8 : decode cX11_addChanging 8 = .ok (.bipush (-5), 2) := by decide +kernel
theorem dX11_addChanging_10 : decode cX11_addChanging 10 = .ok (.invokevirtual 87, 3) := by decide +kernel
theorem dX11_addChanging_13 : decode cX11_addChanging 13 = .ok (.goto 19, 3) := by decide +kernel
theorem dX11_addChanging_16 : decode cX11_addChanging 16 = .ok (.aload_n 0, 1) := by decide +kernel
theorem dX11_addChanging_17 : decode cX11_addChanging 17 = .ok (.aload_n 1, 1) := by decide +kernel
theorem dX11_addChanging_18 : decode cX11_addChanging 18 = .ok (.iload_n 2, 1) := by decide +kernel
theorem dX11_addChanging_19 : decode cX11_addChanging 19 = .ok (.iload_n 3, 1) := by decide +kernel
theorem dX11_addChanging_20 : decode cX11_addChanging 20 = .ok (.iload 4, 2) := by decide +kernel
theorem dX11_addChanging_22 : decode cX11_addChanging 22 = .ok (.iload 5, 2) := by decide +kernel
theorem dX11_addChanging_24 : decode cX11_addChanging 24 = .ok (.iload 6, 2) := by decide +kernel
theorem dX11_addChanging_26 : decode cX11_addChanging 26 = .ok (.invokevirtual 131, 3) := by decide +kernel
theorem dX11_addChanging_29 : decode cX11_addChanging 29 = .ok (.invokevirtual 114, 3) := by decide +kernel
theorem dX11_addChanging_32 : decode cX11_addChanging 32 = .ok (.ireturn, 1) := by decide +kernel

def fX11_addChanging (k1 n1 : Nat) (p2 : Int32) (p3 : Int32) (p4 : Int32) (p5 : Int32) (p6 : Int32) (σ : qMem) : Option (Int32 × qMem) :=
  ((fX8_isFull k1 n1 σ).bind fun y1 => (if y1 = 0 then ((fX8_add k1 n1 p2 p3 p4 p5 p6 σ).bind fun y2 => ((fX11_changed y2.1 y2.2).bind fun y3 => (some (y3.1, y3.2)))) else ((fX11_refuse (-5) σ).bind fun y4 => (some (y4.1, y4.2)))))
set_option maxRecDepth 20000 in
set_option maxHeartbeats 4000000 in
theorem aX11_addChanging  (k1 n1 : Nat) (p2 : Int32) (p3 : Int32) (p4 : Int32) (p5 : Int32) (p6 : Int32) (hk1 : iRows k1 n1) (σ : qMem) : qAt wC mX11_addChanging (ρi) 0 [(0, .ref 0), (1, .ref k1), (2, .int p2), (3, .int p3), (4, .int p4), (5, .int p5), (6, .int p6)] [] σ (fX11_addChanging k1 n1 p2 p3 p4 p5 p6 σ) := by
  unfold fX11_addChanging
  refine q_aload_n (i := 1) (x := k1) dX11_addChanging_0 rfl 1 rfl ?_
  refine q_cVp mX8_isFull [] (st := []) dX11_addChanging_1 (svX11_127) ⟨Nat.le_of_ble_eq_true rfl, Nat.le_of_ble_eq_true rfl⟩ hk1.1 rfl rfl rfl (Nat.le_of_ble_eq_true rfl) (kX8_isFull k1 n1 hk1 σ) (fun y1 => ?_)
  refine q_if_eq (tgt := 16) dX11_addChanging_4 (by decide) ?_ ?_
  · refine q_aload_n (i := 0) (x := 0) dX11_addChanging_16 rfl 0 rfl ?_
    refine q_aload_n (i := 1) (x := k1) dX11_addChanging_17 rfl 1 rfl ?_
    refine q_iload_n (i := 2) (x := p2) dX11_addChanging_18 rfl 2 rfl ?_
    refine q_iload_n (i := 3) (x := p3) dX11_addChanging_19 rfl 3 rfl ?_
    refine q_iload (i := 4) (x := p4) dX11_addChanging_20 4 rfl ?_
    refine q_iload (i := 5) (x := p5) dX11_addChanging_22 5 rfl ?_
    refine q_iload (i := 6) (x := p6) dX11_addChanging_24 6 rfl ?_
    refine q_cVi mX8_add [.int p2, .int p3, .int p4, .int p5, .int p6] (st := [.ref 0]) dX11_addChanging_26 (svX11_131) ⟨Nat.le_of_ble_eq_true rfl, Nat.le_of_ble_eq_true rfl⟩ hk1.1 rfl rfl rfl (Nat.le_of_ble_eq_true rfl) (kX8_add k1 n1 p2 p3 p4 p5 p6 hk1 σ) (fun y2 => ?_)
    refine q_cVi mX11_changed [.int y2.1] (st := []) dX11_addChanging_29 (svX11_114) ⟨Nat.le_of_ble_eq_true rfl, Nat.le_of_ble_eq_true rfl⟩ zC_0 rfl rfl rfl (Nat.le_of_ble_eq_true rfl) (kX11_changed y2.1 y2.2) (fun y3 => ?_)
    exact q_ireti (y := (y3.1, y3.2)) dX11_addChanging_32 rfl rfl
  refine q_aload_n (i := 0) (x := 0) dX11_addChanging_7 rfl 0 rfl ?_
  refine q_bipush (v := (-5)) dX11_addChanging_8 (by decide) ?_
  refine q_cVi mX11_refuse [.int (-5)] (st := []) dX11_addChanging_10 (svX11_87) ⟨Nat.le_of_ble_eq_true rfl, Nat.le_of_ble_eq_true rfl⟩ zC_0 rfl rfl rfl (Nat.le_of_ble_eq_true rfl) (kX11_refuse (-5) σ) (fun y4 => ?_)
  refine q_goto (tgt := 32) dX11_addChanging_13 (by decide) ?_
  exact q_ireti (y := (y4.1, y4.2)) dX11_addChanging_32 rfl rfl
theorem kX11_addChanging  (k1 n1 : Nat) (p2 : Int32) (p3 : Int32) (p4 : Int32) (p5 : Int32) (p6 : Int32) (hk1 : iRows k1 n1) (σ : qMem) : qMc wC mX11_addChanging (ρi) [.ref 0, .ref k1, .int p2, .int p3, .int p4, .int p5, .int p6] σ (fX11_addChanging k1 n1 p2 p3 p4 p5 p6 σ) := qMc_of (moX11_addChanging) (Nat.le_of_ble_eq_true rfl) (aX11_addChanging k1 n1 p2 p3 p4 p5 p6 hk1 σ)

theorem dX11_heard_0 : decode cX11_heard 0 = .ok (.iload_n 2, 1) := by decide +kernel
theorem dX11_heard_1 : decode cX11_heard 1 = .ok (.invokestatic 117, 3) := by decide +kernel
theorem dX11_heard_4 : decode cX11_heard 4 = .ok (.ifCond .eq 13, 3) := by decide +kernel
theorem dX11_heard_7 : decode cX11_heard 7 = .ok (.iload_n 3, 1) := by decide +kernel
theorem dX11_heard_8 : decode cX11_heard 8 = .ok (.iconst 0, 1) := by decide +kernel
theorem dX11_heard_9 : decode cX11_heard 9 = .ok (.bipush 79, 2) := by decide +kernel
theorem dX11_heard_11 : decode cX11_heard 11 = .ok (.invokestatic 83, 3) := by decide +kernel
theorem dX11_heard_14 : decode cX11_heard 14 = .ok (.ifCond .ne 9, 3) := by decide +kernel
theorem dX11_heard_17 : decode cX11_heard 17 = .ok (.aload_n 0, 1) := by decide +kernel
theorem dX11_heard_18 : decode cX11_heard 18 = .ok (.iconst (-1), 1) := by decide +kernel
theorem dX11_heard_19 : decode cX11_heard 19 = .ok (.invokevirtual 87, 3) := by decide +kernel
theorem dX11_heard_22 : decode cX11_heard 22 = .ok (.ireturn, 1) := by decide +kernel
theorem dX11_heard_23 : decode cX11_heard 23 = .ok (.iload_n 1, 1) := by decide +kernel
theorem dX11_heard_24 : decode cX11_heard 24 = .ok (.invokestatic 91, 3) := by decide +kernel
theorem dX11_heard_27 : decode cX11_heard 27 = .ok (.ifCond .ne 10, 3) := by decide +kernel
theorem dX11_heard_30 : decode cX11_heard 30 = .ok (.aload_n 0, 1) := by decide +kernel
theorem dX11_heard_31 : decode cX11_heard 31 = .ok (.bipush (-2), 2) := by decide +kernel
theorem dX11_heard_33 : decode cX11_heard 33 = .ok (.invokevirtual 87, 3) := by decide +kernel
theorem dX11_heard_36 : decode cX11_heard 36 = .ok (.ireturn, 1) := by decide +kernel
theorem dX11_heard_37 : decode cX11_heard 37 = .ok (.aload_n 0, 1) := by decide +kernel
theorem dX11_heard_38 : decode cX11_heard 38 = .ok (.aload_n 0, 1) := by decide +kernel
theorem dX11_heard_39 : decode cX11_heard 39 = .ok (.getfield 12, 3) := by decide +kernel
theorem dX11_heard_42 : decode cX11_heard 42 = .ok (.getfield 184, 3) := by decide +kernel
theorem dX11_heard_45 : decode cX11_heard 45 = .ok (.iload_n 1, 1) := by decide +kernel
theorem dX11_heard_46 : decode cX11_heard 46 = .ok (.iload_n 2, 1) := by decide +kernel
theorem dX11_heard_47 : decode cX11_heard 47 = .ok (.iload_n 3, 1) := by decide +kernel
theorem dX11_heard_48 : decode cX11_heard 48 = .ok (.iconst 0, 1) := by decide +kernel
theorem dX11_heard_49 : decode cX11_heard 49 = .ok (.iconst 0, 1) := by decide +kernel
theorem dX11_heard_50 : decode cX11_heard 50 = .ok (.invokevirtual 187, 3) := by decide +kernel
theorem dX11_heard_53 : decode cX11_heard 53 = .ok (.ireturn, 1) := by decide +kernel
def fX11_heard_b17 (σ : qMem) : Option (Int32 × qMem) :=
  ((fX11_refuse (-1) σ).bind fun y6 => (some (y6.1, y6.2)))
set_option maxRecDepth 20000 in
set_option maxHeartbeats 4000000 in
theorem aX11_heard_b17 (σ : qMem) : qAt wC mX11_heard (ρi) 17 [(0, .ref 0)] [] σ (fX11_heard_b17 σ) := by
  unfold fX11_heard_b17
  refine q_aload_n (i := 0) (x := 0) dX11_heard_17 rfl 0 rfl ?_
  refine q_iconst (v := (-1)) dX11_heard_18 (by decide) ?_
  refine q_cVi mX11_refuse [.int (-1)] (st := []) dX11_heard_19 (svX11_87) ⟨Nat.le_of_ble_eq_true rfl, Nat.le_of_ble_eq_true rfl⟩ zC_0 rfl rfl rfl (Nat.le_of_ble_eq_true rfl) (kX11_refuse (-1) σ) (fun y6 => ?_)
  exact q_ireti (y := (y6.1, y6.2)) dX11_heard_22 rfl rfl

def fX11_heard (p1 : Int32) (p2 : Int32) (p3 : Int32) (σ : qMem) : Option (Int32 × qMem) :=
  ((fX11_isBell p2).bind fun y1 => (if y1 = 0 then (fX11_heard_b17 σ) else ((fX11_isIn p3 0 79).bind fun y2 => (if y2 = 0 then (fX11_heard_b17 σ) else ((fX11_isBoat p1).bind fun y3 => (if y3 = 0 then ((fX11_refuse (-2) σ).bind fun y5 => (some (y5.1, y5.2))) else ((fX11_addChanging 19 72 p1 p2 p3 0 0 σ).bind fun y4 => (some (y4.1, y4.2)))))))))
set_option maxRecDepth 20000 in
set_option maxHeartbeats 4000000 in
theorem aX11_heard  (p1 : Int32) (p2 : Int32) (p3 : Int32)  (σ : qMem) : qAt wC mX11_heard (ρi) 0 [(0, .ref 0), (1, .int p1), (2, .int p2), (3, .int p3)] [] σ (fX11_heard p1 p2 p3 σ) := by
  unfold fX11_heard
  refine q_iload_n (i := 2) (x := p2) dX11_heard_0 rfl 2 rfl ?_
  refine q_cSp mX11_isBell [.int p2] (st := []) dX11_heard_1 (ssX11_117) ⟨Nat.le_of_ble_eq_true rfl, Nat.le_of_ble_eq_true rfl⟩ rfl rfl (Nat.le_of_ble_eq_true rfl) (kX11_isBell p2 σ) (fun y1 => ?_)
  refine q_if_eq (tgt := 17) dX11_heard_4 (by decide) ?_ ?_
  · exact q_sub [0] rfl (aX11_heard_b17 σ)
  refine q_iload_n (i := 3) (x := p3) dX11_heard_7 rfl 3 rfl ?_
  refine q_iconst (v := 0) dX11_heard_8 (by decide) ?_
  refine q_bipush (v := 79) dX11_heard_9 (by decide) ?_
  refine q_cSp mX11_isIn [.int p3, .int 0, .int 79] (st := []) dX11_heard_11 (ssX11_83) ⟨Nat.le_of_ble_eq_true rfl, Nat.le_of_ble_eq_true rfl⟩ rfl rfl (Nat.le_of_ble_eq_true rfl) (kX11_isIn p3 0 79 σ) (fun y2 => ?_)
  refine q_if_ne (tgt := 23) dX11_heard_14 (by decide) ?_ ?_
  · refine q_iload_n (i := 1) (x := p1) dX11_heard_23 rfl 1 rfl ?_
    refine q_cSp mX11_isBoat [.int p1] (st := []) dX11_heard_24 (ssX11_91) ⟨Nat.le_of_ble_eq_true rfl, Nat.le_of_ble_eq_true rfl⟩ rfl rfl (Nat.le_of_ble_eq_true rfl) (kX11_isBoat p1 σ) (fun y3 => ?_)
    refine q_if_ne (tgt := 37) dX11_heard_27 (by decide) ?_ ?_
    · refine q_aload_n (i := 0) (x := 0) dX11_heard_37 rfl 0 rfl ?_
      refine q_aload_n (i := 0) (x := 0) dX11_heard_38 rfl 0 rfl ?_
      refine q_getr (t := 1) dX11_heard_39 foX11_12 zC_0 rfl ?_
      refine q_getr (t := 19) dX11_heard_42 foX11_184 zC_1 rfl ?_
      refine q_iload_n (i := 1) (x := p1) dX11_heard_45 rfl 1 rfl ?_
      refine q_iload_n (i := 2) (x := p2) dX11_heard_46 rfl 2 rfl ?_
      refine q_iload_n (i := 3) (x := p3) dX11_heard_47 rfl 3 rfl ?_
      refine q_iconst (v := 0) dX11_heard_48 (by decide) ?_
      refine q_iconst (v := 0) dX11_heard_49 (by decide) ?_
      refine q_cVi mX11_addChanging [.ref 19, .int p1, .int p2, .int p3, .int 0, .int 0] (st := []) dX11_heard_50 (svX11_187) ⟨Nat.le_of_ble_eq_true rfl, Nat.le_of_ble_eq_true rfl⟩ zC_0 rfl rfl rfl (Nat.le_of_ble_eq_true rfl) (kX11_addChanging 19 72 p1 p2 p3 0 0 pC_19 σ) (fun y4 => ?_)
      exact q_ireti (y := (y4.1, y4.2)) dX11_heard_53 rfl rfl
    refine q_aload_n (i := 0) (x := 0) dX11_heard_30 rfl 0 rfl ?_
    refine q_bipush (v := (-2)) dX11_heard_31 (by decide) ?_
    refine q_cVi mX11_refuse [.int (-2)] (st := []) dX11_heard_33 (svX11_87) ⟨Nat.le_of_ble_eq_true rfl, Nat.le_of_ble_eq_true rfl⟩ zC_0 rfl rfl rfl (Nat.le_of_ble_eq_true rfl) (kX11_refuse (-2) σ) (fun y5 => ?_)
    exact q_ireti (y := (y5.1, y5.2)) dX11_heard_36 rfl rfl
  exact q_sub [0] rfl (aX11_heard_b17 σ)
theorem kX11_heard  (p1 : Int32) (p2 : Int32) (p3 : Int32)  (σ : qMem) : qMc wC mX11_heard (ρi) [.ref 0, .int p1, .int p2, .int p3] σ (fX11_heard p1 p2 p3 σ) := qMc_of (moX11_heard) (Nat.le_of_ble_eq_true rfl) (aX11_heard p1 p2 p3  σ)

