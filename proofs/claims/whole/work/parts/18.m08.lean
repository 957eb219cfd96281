theorem dX12_end_0 : decode cX12_end 0 = .ok (.iload_n 1, 1) := by decide +kernel
theorem dX12_end_1 : decode cX12_end 1 = .ok (.iconst 0, 1) := by decide +kernel
theorem dX12_end_2 : decode cX12_end 2 = .ok (.aload_n 0, 1) := by decide +kernel
theorem dX12_end_3 : decode cX12_end 3 = .ok (.getfield 202, 3) := by decide +kernel
theorem dX12_end_6 : decode cX12_end 6 = .ok (.invokestatic 110, 3) := by decide +kernel
theorem dX12_end_9 : decode cX12_end 9 = .ok (.ifCond .ne 5, 3) := by decide +kernel
theorem dX12_end_12 : decode cX12_end 12 = .ok (.iconst (-1), 1) := by decide +kernel
theorem dX12_end_13 : decode cX12_end 13 = .ok (.ireturn, 1) := by decide +kernel
theorem dX12_end_14 : decode cX12_end 14 = .ok (.aload_n 0, 1) := by decide +kernel
theorem dX12_end_15 : decode cX12_end 15 = .ok (.iload_n 1, 1) := by decide +kernel
theorem dX12_end_16 : decode cX12_end 16 = .ok (.putfield 202, 3) := by decide +kernel
theorem dX12_end_19 : decode cX12_end 19 = .ok (.iload_n 1, 1) := by decide +kernel
theorem dX12_end_20 : decode cX12_end 20 = .ok (.ireturn, 1) := by decide +kernel

def fX12_end (p1 : Int32) (σ : qMem) : Option (Int32 × qMem) :=
  ((fX12_in p1 0 (gi σ 0 28)).bind fun y1 => (if y1 = 0 then (some ((-1), σ)) else (nmM (si σ 0 28 p1) fun s2 => (some (p1, s2)))))
set_option maxRecDepth 20000 in
set_option maxHeartbeats 4000000 in
theorem aX12_end  (p1 : Int32)  (σ : qMem) : qAt wM mX12_end (ρi) 0 [(0, .ref 0), (1, .int p1)] [] σ (fX12_end p1 σ) := by
  unfold fX12_end
  refine q_iload_n (i := 1) (x := p1) dX12_end_0 rfl 1 rfl ?_
  refine q_iconst (v := 0) dX12_end_1 (by decide) ?_
  refine q_aload_n (i := 0) (x := 0) dX12_end_2 rfl 0 rfl ?_
  refine q_geti dX12_end_3 foX12_202 zM_0 rfl ?_
  refine q_cSp mX12_in [.int p1, .int 0, .int (gi σ 0 28)] (st := []) dX12_end_6 (ssX12_110) ⟨Nat.le_of_ble_eq_true rfl, Nat.le_of_ble_eq_true rfl⟩ rfl rfl (Nat.le_of_ble_eq_true rfl) (kX12_in p1 0 (gi σ 0 28) σ) (fun y1 => ?_)
  refine q_if_ne (tgt := 14) dX12_end_9 (by decide) ?_ ?_
  · refine q_aload_n (i := 0) (x := 0) dX12_end_14 rfl 0 rfl ?_
    refine q_iload_n (i := 1) (x := p1) dX12_end_15 rfl 1 rfl ?_
    refine q_puti dX12_end_16 foX12_202 fwX12_28 zM_0 rfl ?_
    refine q_nmM (fun s2 => ?_)
    refine q_iload_n (i := 1) (x := p1) dX12_end_19 rfl 1 rfl ?_
    exact q_ireti (y := (p1, s2)) dX12_end_20 rfl rfl
  refine q_iconst (v := (-1)) dX12_end_12 (by decide) ?_
  exact q_ireti (y := ((-1), σ)) dX12_end_13 rfl rfl
theorem kX12_end  (p1 : Int32)  (σ : qMem) : qMc wM mX12_end (ρi) [.ref 0, .int p1] σ (fX12_end p1 σ) := qMc_of (moX12_end) (Nat.le_of_ble_eq_true rfl) (aX12_end p1  σ)

theorem dX12_isSmall_0 : decode cX12_isSmall 0 = .ok (.iload_n 0, 1) := by decide +kernel
theorem dX12_isSmall_1 : decode cX12_isSmall 1 = .ok (.bipush 97, 2) := by decide +kernel
theorem dX12_isSmall_3 : decode cX12_isSmall 3 = .ok (.if_icmp .lt 13, 3) := by decide +kernel
theorem dX12_isSmall_6 : decode cX12_isSmall 6 = .ok (.iload_n 0, 1) := by decide +kernel
theorem dX12_isSmall_7 : decode cX12_isSmall 7 = .ok (.bipush 122, 2) := by decide +kernel
theorem dX12_isSmall_9 : decode cX12_isSmall 9 = .ok (.if_icmp .gt 7, 3) := by decide +kernel
theorem dX12_isSmall_12 : decode cX12_isSmall 12 = .ok (.iconst 1, 1) := by decide +kernel
theorem dX12_isSmall_13 : decode cX12_isSmall 13 = .ok (.goto 4, 3) := by decide +kernel
theorem dX12_isSmall_16 : decode cX12_isSmall 16 = .ok (.iconst 0, 1) := by decide +kernel
theorem dX12_isSmall_17 : decode cX12_isSmall 17 = .ok (.ireturn, 1) := by decide +kernel
def fX12_isSmall_b16  : Option Int32 :=
  (some 0)
set_option maxRecDepth 20000 in
set_option maxHeartbeats 4000000 in
theorem aX12_isSmall_b16 (σ : qMem) : qAt wM mX12_isSmall (ρp σ) 16 [] [] σ (fX12_isSmall_b16) := by
  unfold fX12_isSmall_b16
  refine q_iconst (v := 0) dX12_isSmall_16 (by decide) ?_
  exact q_iretz (y := 0) dX12_isSmall_17 rfl rfl rfl

def fX12_isSmall (p0 : Int32) : Option Int32 :=
  (if p0 < 97 then (fX12_isSmall_b16 ) else (if 122 < p0 then (fX12_isSmall_b16 ) else (some 1)))
set_option maxRecDepth 20000 in
set_option maxHeartbeats 4000000 in
theorem aX12_isSmall  (p0 : Int32)  (σ : qMem) : qAt wM mX12_isSmall (ρp σ) 0 [(0, .int p0)] [] σ (fX12_isSmall p0) := by
  unfold fX12_isSmall
  refine q_iload_n (i := 0) (x := p0) dX12_isSmall_0 rfl 0 rfl ?_
  refine q_bipush (v := 97) dX12_isSmall_1 (by decide) ?_
  refine q_icmp_lt (tgt := 16) dX12_isSmall_3 (by decide) ?_ ?_
  · exact q_sub [] rfl (aX12_isSmall_b16 σ)
  refine q_iload_n (i := 0) (x := p0) dX12_isSmall_6 rfl 0 rfl ?_
  refine q_bipush (v := 122) dX12_isSmall_7 (by decide) ?_
  refine q_icmp_gt (tgt := 16) dX12_isSmall_9 (by decide) ?_ ?_
  · exact q_sub [] rfl (aX12_isSmall_b16 σ)
  refine q_iconst (v := 1) dX12_isSmall_12 (by decide) ?_
  refine q_goto (tgt := 17) dX12_isSmall_13 (by decide) ?_
  exact q_iretz (y := 1) dX12_isSmall_17 rfl rfl rfl
theorem kX12_isSmall  (p0 : Int32)  (σ : qMem) : qMc wM mX12_isSmall (ρp σ) [.int p0] σ (fX12_isSmall p0) := qMc_of (moX12_isSmall) (Nat.le_of_ble_eq_true rfl) (aX12_isSmall p0  σ)

theorem dX12_isDigit_0 : decode cX12_isDigit 0 = .ok (.iload_n 0, 1) := by decide +kernel
theorem dX12_isDigit_1 : decode cX12_isDigit 1 = .ok (.bipush 48, 2) := by decide +kernel
theorem dX12_isDigit_3 : decode cX12_isDigit 3 = .ok (.if_icmp .lt 13, 3) := by decide +kernel
theorem dX12_isDigit_6 : decode cX12_isDigit 6 = .ok (.iload_n 0, 1) := by decide +kernel
theorem dX12_isDigit_7 : decode cX12_isDigit 7 = .ok (.bipush 57, 2) := by decide +kernel
theorem dX12_isDigit_9 : decode cX12_isDigit 9 = .ok (.if_icmp .gt 7, 3) := by decide +kernel
theorem dX12_isDigit_12 : decode cX12_isDigit 12 = .ok (.iconst 1, 1) := by decide +kernel
theorem dX12_isDigit_13 : decode cX12_isDigit 13 = .ok (.goto 4, 3) := by decide +kernel
theorem dX12_isDigit_16 : decode cX12_isDigit 16 = .ok (.iconst 0, 1) := by decide +kernel
theorem dX12_isDigit_17 : decode cX12_isDigit 17 = .ok (.ireturn, 1) := by decide +kernel
def fX12_isDigit_b16  : Option Int32 :=
  (some 0)
set_option maxRecDepth 20000 in
set_option maxHeartbeats 4000000 in
theorem aX12_isDigit_b16 (σ : qMem) : qAt wM mX12_isDigit (ρp σ) 16 [] [] σ (fX12_isDigit_b16) := by
  unfold fX12_isDigit_b16
  refine q_iconst (v := 0) dX12_isDigit_16 (by decide) ?_
  exact q_iretz (y := 0) dX12_isDigit_17 rfl rfl rfl

def fX12_isDigit (p0 : Int32) : Option Int32 :=
  (if p0 < 48 then (fX12_isDigit_b16 ) else (if 57 < p0 then (fX12_isDigit_b16 ) else (some 1)))
set_option maxRecDepth 20000 in
set_option maxHeartbeats 4000000 in
theorem aX12_isDigit  (p0 : Int32)  (σ : qMem) : qAt wM mX12_isDigit (ρp σ) 0 [(0, .int p0)] [] σ (fX12_isDigit p0) := by
  unfold fX12_isDigit
  refine q_iload_n (i := 0) (x := p0) dX12_isDigit_0 rfl 0 rfl ?_
  refine q_bipush (v := 48) dX12_isDigit_1 (by decide) ?_
  refine q_icmp_lt (tgt := 16) dX12_isDigit_3 (by decide) ?_ ?_
  · exact q_sub [] rfl (aX12_isDigit_b16 σ)
  refine q_iload_n (i := 0) (x := p0) dX12_isDigit_6 rfl 0 rfl ?_
  refine q_bipush (v := 57) dX12_isDigit_7 (by decide) ?_
  refine q_icmp_gt (tgt := 16) dX12_isDigit_9 (by decide) ?_ ?_
  · exact q_sub [] rfl (aX12_isDigit_b16 σ)
  refine q_iconst (v := 1) dX12_isDigit_12 (by decide) ?_
  refine q_goto (tgt := 17) dX12_isDigit_13 (by decide) ?_
  exact q_iretz (y := 1) dX12_isDigit_17 rfl rfl rfl
theorem kX12_isDigit  (p0 : Int32)  (σ : qMem) : qMc wM mX12_isDigit (ρp σ) [.int p0] σ (fX12_isDigit p0) := qMc_of (moX12_isDigit) (Nat.le_of_ble_eq_true rfl) (aX12_isDigit p0  σ)

theorem dX12_wordOf_0 : decode cX12_wordOf 0 = .ok (.iconst 1, 1) := by decide +kernel
theorem dX12_wordOf_1 : decode cX12_wordOf 1 = .ok (.istore_n 3, 1) := by decide +kernel
theorem dX12_wordOf_2 : decode cX12_wordOf 2 = .ok (.iconst 0, 1) := by decide +kernel
theorem dX12_wordOf_3 : decode cX12_wordOf 3 = .ok (.istore 4, 2) := by decide +kernel
theorem dX12_wordOf_5 : decode cX12_wordOf 5 = .ok (.iload 4, 2) := by decide +kernel
theorem dX12_wordOf_7 : decode cX12_wordOf 7 = .ok (.aload_n 0, 1) := by decide +kernel
theorem dX12_wordOf_8 : decode cX12_wordOf 8 = .ok (.getfield 77, 3) := by decide +kernel
theorem dX12_wordOf_11 : decode cX12_wordOf 11 = .ok (.arraylength, 1) := by decide +kernel
theorem dX12_wordOf_12 : decode cX12_wordOf 12 = .ok (.if_icmp .ge 114, 3) := by decide +kernel
theorem dX12_wordOf_15 : decode cX12_wordOf 15 = .ok (.iconst 0, 1) := by decide +kernel
theorem dX12_wordOf_16 : decode cX12_wordOf 16 = .ok (.istore 5, 2) := by decide +kernel
theorem dX12_wordOf_18 : decode cX12_wordOf 18 = .ok (.aload_n 0, 1) := by decide +kernel
theorem dX12_wordOf_19 : decode cX12_wordOf 19 = .ok (.getfield 77, 3) := by decide +kernel
theorem dX12_wordOf_22 : decode cX12_wordOf 22 = .ok (.iload 4, 2) := by decide +kernel
theorem dX12_wordOf_24 : decode cX12_wordOf 24 = .ok (.iload 5, 2) := by decide +kernel
theorem dX12_wordOf_26 : decode cX12_wordOf 26 = .ok (.iadd, 1) := by decide +kernel
theorem dX12_wordOf_27 : decode cX12_wordOf 27 = .ok (.baload, 1) := by decide +kernel
theorem dX12_wordOf_28 : decode cX12_wordOf 28 = .ok (.bipush 32, 2) := by decide +kernel
theorem dX12_wordOf_30 : decode cX12_wordOf 30 = .ok (.if_icmp .eq 9, 3) := by decide +kernel
theorem dX12_wordOf_33 : decode cX12_wordOf 33 = .ok (.iinc 5 1, 3) := by decide +kernel
theorem dX12_wordOf_36 : decode cX12_wordOf 36 = .ok (.goto (-18), 3) := by decide +kernel
theorem dX12_wordOf_39 : decode cX12_wordOf 39 = .ok (.iload 5, 2) := by decide +kernel
theorem dX12_wordOf_41 : decode cX12_wordOf 41 = .ok (.iload_n 2, 1) := by decide +kernel
theorem dX12_wordOf_42 : decode cX12_wordOf 42 = .ok (.iload_n 1, 1) := by decide +kernel
theorem dX12_wordOf_43 : decode cX12_wordOf 43 = .ok (.isub, 1) := by decide +kernel
theorem dX12_wordOf_44 : decode cX12_wordOf 44 = .ok (.if_icmp .ne 7, 3) := by decide +kernel
theorem dX12_wordOf_47 : decode cX12_wordOf 47 = .ok (.iconst 1, 1) := by decide +kernel
theorem dX12_wordOf_48 : decode cX12_wordOf 48 = .ok (.goto 4, 3) := by decide +kernel
theorem dX12_wordOf_51 : decode cX12_wordOf 51 = .ok (.iconst 0, 1) := by decide +kernel
theorem dX12_wordOf_52 : decode cX12_wordOf 52 = .ok (.istore 6, 2) := by decide +kernel
theorem dX12_wordOf_54 : decode cX12_wordOf 54 = .ok (.iconst 0, 1) := by decide +kernel
theorem dX12_wordOf_55 : decode cX12_wordOf 55 = .ok (.istore 7, 2) := by decide +kernel
theorem dX12_wordOf_57 : decode cX12_wordOf 57 = .ok (.iload 7, 2) := by decide +kernel
theorem dX12_wordOf_59 : decode cX12_wordOf 59 = .ok (.iload 5, 2) := by decide +kernel
theorem dX12_wordOf_61 : decode cX12_wordOf 61 = .ok (.if_icmp .ge 43, 3) := by decide +kernel
theorem dX12_wordOf_64 : decode cX12_wordOf 64 = .ok (.iload 6, 2) := by decide +kernel
theorem dX12_wordOf_66 : decode cX12_wordOf 66 = .ok (.ifCond .eq 38, 3) := by decide +kernel
theorem dX12_wordOf_69 : decode cX12_wordOf 69 = .ok (.aload_n 0, 1) := by decide +kernel
theorem dX12_wordOf_70 : decode cX12_wordOf 70 = .ok (.getfield 77, 3) := by decide +kernel
theorem dX12_wordOf_73 : decode cX12_wordOf 73 = .ok (.iload 4, 2) := by decide +kernel
theorem dX12_wordOf_75 : decode cX12_wordOf 75 = .ok (.iload 7, 2) := by decide +kernel
theorem dX12_wordOf_77 : decode cX12_wordOf 77 = .ok (.iadd, 1) := by decide +kernel
theorem dX12_wordOf_78 : decode cX12_wordOf 78 = .ok (.baload, 1) := by decide +kernel
theorem dX12_wordOf_79 : decode cX12_wordOf 79 = .ok (.aload_n 0, 1) := by decide +kernel
theorem dX12_wordOf_80 : decode cX12_wordOf 80 = .ok (.getfield 80, 3) := by decide +kernel
theorem dX12_wordOf_83 : decode cX12_wordOf 83 = .ok (.iload_n 1, 1) := by decide +kernel
theorem dX12_wordOf_84 : decode cX12_wordOf 84 = .ok (.iload 7, 2) := by decide +kernel
theorem dX12_wordOf_86 : decode cX12_wordOf 86 = .ok (.iadd, 1) := by decide +kernel
theorem dX12_wordOf_87 : decode cX12_wordOf 87 = .ok (.baload, 1) := by decide +kernel
theorem dX12_wordOf_88 : decode cX12_wordOf 88 = .ok (.if_icmp .ne 7, 3) := by decide +kernel
theorem dX12_wordOf_91 : decode cX12_wordOf 91 = .ok (.iconst 1, 1) := by decide +kernel
theorem dX12_wordOf_92 : decode cX12_wordOf 92 = .ok (.goto 4, 3) := by decide +kernel
theorem dX12_wordOf_95 : decode cX12_wordOf 95 = .ok (.iconst 0, 1) := by decide +kernel
theorem dX12_wordOf_96 : decode cX12_wordOf 96 = .ok (.istore 6, 2) := by decide +kernel
theorem dX12_wordOf_98 : decode cX12_wordOf 98 = .ok (.iinc 7 1, 3) := by decide +kernel
theorem dX12_wordOf_101 : decode cX12_wordOf 101 = .ok (.goto (-44), 3) := by decide +kernel
theorem dX12_wordOf_104 : decode cX12_wordOf 104 = .ok (.iload 6, 2) := by decide +kernel
theorem dX12_wordOf_106 : decode cX12_wordOf 106 = .ok (.ifCond .eq 5, 3) := by decide +kernel
theorem dX12_wordOf_109 : decode cX12_wordOf 109 = .ok (.iload_n 3, 1) := by decide +kernel
theorem dX12_wordOf_110 : decode cX12_wordOf 110 = .ok (.ireturn, 1) := by decide +kernel
theorem dX12_wordOf_111 : decode cX12_wordOf 111 = .ok (.iload 4, 2) := by decide +kernel
theorem dX12_wordOf_113 : decode cX12_wordOf 113 = .ok (.iload 5, 2) := by decide +kernel
theorem dX12_wordOf_115 : decode cX12_wordOf 115 = .ok (.iconst 1, 1) := by decide +kernel
theorem dX12_wordOf_116 : decode cX12_wordOf 116 = .ok (.iadd, 1) := by decide +kernel
theorem dX12_wordOf_117 : decode cX12_wordOf 117 = .ok (.iadd, 1) := by decide +kernel
theorem dX12_wordOf_118 : decode cX12_wordOf 118 = .ok (.istore 4, 2) := by decide +kernel
theorem dX12_wordOf_120 : decode cX12_wordOf 120 = .ok (.iinc 3 1, 3) := by decide +kernel
theorem dX12_wordOf_123 : decode cX12_wordOf 123 = .ok (.goto (-118), 3) := by decide +kernel
theorem dX12_wordOf_126 : decode cX12_wordOf 126 = .ok (.iconst 0, 1) := by decide +kernel
theorem dX12_wordOf_127 : decode cX12_wordOf 127 = .ok (.ireturn, 1) := by decide +kernel
def fX12_wordOf_b104 (N : Nat) (c5 : Int32 → Int32 → Int32 → Int32 → Option Int32) (v1 : Int32) (v2 : Int32) (v3 : Int32) (v4 : Int32) (v5 : Int32) (v6 : Int32) (σ : qMem) : Option Int32 :=
  (if v6 = 0 then (c5 v1 v2 (v3 + 1) (v4 + (v5 + 1))) else (some v3))
set_option maxRecDepth 20000 in
set_option maxHeartbeats 4000000 in
theorem aX12_wordOf_b104 (N : Nat) (σ : qMem) (c5 : Int32 → Int32 → Int32 → Int32 → Option Int32) (hc5 : ∀ (v1 : Int32) (v2 : Int32) (v3 : Int32) (v4 : Int32) , qAt wM mX12_wordOf (ρp σ) 5 [(0, .ref 0), (1, .int v1), (2, .int v2), (3, .int v3), (4, .int v4)] [] σ (c5 v1 v2 v3 v4)) (v1 : Int32) (v2 : Int32) (v3 : Int32) (v4 : Int32) (v5 : Int32) (v6 : Int32) : qAt wM mX12_wordOf (ρp σ) 104 [(0, .ref 0), (1, .int v1), (2, .int v2), (3, .int v3), (4, .int v4), (5, .int v5), (6, .int v6)] [] σ (fX12_wordOf_b104 N c5 v1 v2 v3 v4 v5 v6 σ) := by
  unfold fX12_wordOf_b104
  refine q_iload (i := 6) (x := v6) dX12_wordOf_104 6 rfl ?_
  refine q_if_eq (tgt := 111) dX12_wordOf_106 (by decide) ?_ ?_
  · refine q_iload (i := 4) (x := v4) dX12_wordOf_111 4 rfl ?_
    refine q_iload (i := 5) (x := v5) dX12_wordOf_113 5 rfl ?_
    refine q_iconst (v := 1) dX12_wordOf_115 (by decide) ?_
    refine q_iadd dX12_wordOf_116 ?_
    refine q_iadd dX12_wordOf_117 ?_
    refine q_istore (i := 4) (L' := [(4, .int (v4 + (v5 + 1))), (0, .ref 0), (1, .int v1), (2, .int v2), (3, .int v3), (5, .int v5), (6, .int v6)]) dX12_wordOf_118 (Nat.le_of_ble_eq_true rfl) rfl ?_
    refine q_iinc (i := 3) (x := v3) (v := (v3 + 1)) (L' := [(3, .int (v3 + 1)), (4, .int (v4 + (v5 + 1))), (0, .ref 0), (1, .int v1), (2, .int v2), (5, .int v5), (6, .int v6)]) dX12_wordOf_120 4 rfl (q_cst v3 (by decide)) (Nat.le_of_ble_eq_true rfl) rfl ?_
    refine q_goto (tgt := 5) dX12_wordOf_123 (by decide) ?_
    exact q_sub [2, 3, 4, 0, 1] rfl (hc5 v1 v2 (v3 + 1) (v4 + (v5 + 1)))
  refine q_iload_n (i := 3) (x := v3) dX12_wordOf_109 rfl 3 rfl ?_
  exact q_ireti (y := v3) dX12_wordOf_110 rfl rfl

def fX12_wordOf_b96 (N : Nat) (c5 : Int32 → Int32 → Int32 → Int32 → Option Int32) (c57 : Int32 → Int32 → Int32 → Int32 → Int32 → Int32 → Int32 → Option Int32) (v1 : Int32) (v2 : Int32) (v3 : Int32) (v4 : Int32) (v5 : Int32) (v7 : Int32) (u0 : Int32) (σ : qMem) : Option Int32 :=
  (c57 v1 v2 v3 v4 v5 u0 (v7 + 1))
set_option maxRecDepth 20000 in
set_option maxHeartbeats 4000000 in
theorem aX12_wordOf_b96 (N : Nat) (σ : qMem) (c5 : Int32 → Int32 → Int32 → Int32 → Option Int32) (c57 : Int32 → Int32 → Int32 → Int32 → Int32 → Int32 → Int32 → Option Int32) (hc5 : ∀ (v1 : Int32) (v2 : Int32) (v3 : Int32) (v4 : Int32) , qAt wM mX12_wordOf (ρp σ) 5 [(0, .ref 0), (1, .int v1), (2, .int v2), (3, .int v3), (4, .int v4)] [] σ (c5 v1 v2 v3 v4)) (hc57 : ∀ (v1 : Int32) (v2 : Int32) (v3 : Int32) (v4 : Int32) (v5 : Int32) (v6 : Int32) (v7 : Int32) , qAt wM mX12_wordOf (ρp σ) 57 [(0, .ref 0), (1, .int v1), (2, .int v2), (3, .int v3), (4, .int v4), (5, .int v5), (6, .int v6), (7, .int v7)] [] σ (c57 v1 v2 v3 v4 v5 v6 v7)) (v1 : Int32) (v2 : Int32) (v3 : Int32) (v4 : Int32) (v5 : Int32) (v7 : Int32) (u0 : Int32) : qAt wM mX12_wordOf (ρp σ) 96 [(0, .ref 0), (1, .int v1), (2, .int v2), (3, .int v3), (4, .int v4), (5, .int v5), (7, .int v7)] [.int u0] σ (fX12_wordOf_b96 N c5 c57 v1 v2 v3 v4 v5 v7 u0 σ) := by
  unfold fX12_wordOf_b96
  refine q_istore (i := 6) (L' := [(6, .int u0), (0, .ref 0), (1, .int v1), (2, .int v2), (3, .int v3), (4, .int v4), (5, .int v5), (7, .int v7)]) dX12_wordOf_96 (Nat.le_of_ble_eq_true rfl) rfl ?_
  refine q_iinc (i := 7) (x := v7) (v := (v7 + 1)) (L' := [(7, .int (v7 + 1)), (6, .int u0), (0, .ref 0), (1, .int v1), (2, .int v2), (3, .int v3), (4, .int v4), (5, .int v5)]) dX12_wordOf_98 7 rfl (q_cst v7 (by decide)) (Nat.le_of_ble_eq_true rfl) rfl ?_
  refine q_goto (tgt := 57) dX12_wordOf_101 (by decide) ?_
  exact q_sub [2, 3, 4, 5, 6, 7, 1, 0] rfl (hc57 v1 v2 v3 v4 v5 u0 (v7 + 1))

def fX12_wordOf_s57 (N : Nat) (c5 : Int32 → Int32 → Int32 → Int32 → Option Int32) (c57 : Int32 → Int32 → Int32 → Int32 → Int32 → Int32 → Int32 → Option Int32) (v1 : Int32) (v2 : Int32) (v3 : Int32) (v4 : Int32) (v5 : Int32) (v6 : Int32) (v7 : Int32) (σ : qMem) : Option Int32 :=
  (if v5 ≤ v7 then (fX12_wordOf_b104 N c5 v1 v2 v3 v4 v5 v6 σ) else (if v6 = 0 then (fX12_wordOf_b104 N c5 v1 v2 v3 v4 v5 v6 σ) else (if ck (v4 + v7) 57 = true then (if ck (v1 + v7) 400 = true then (if (gi σ 17 (v4 + v7).toNatClampNeg) = (gi σ 18 (v1 + v7).toNatClampNeg) then (fX12_wordOf_b96 N c5 c57 v1 v2 v3 v4 v5 v7 1 σ) else (fX12_wordOf_b96 N c5 c57 v1 v2 v3 v4 v5 v7 0 σ)) else none) else none)))
set_option maxRecDepth 20000 in
set_option maxHeartbeats 4000000 in
theorem aX12_wordOf_s57 (N : Nat) (σ : qMem) (c5 : Int32 → Int32 → Int32 → Int32 → Option Int32) (hc5 : ∀ (v1 : Int32) (v2 : Int32) (v3 : Int32) (v4 : Int32) , qAt wM mX12_wordOf (ρp σ) 5 [(0, .ref 0), (1, .int v1), (2, .int v2), (3, .int v3), (4, .int v4)] [] σ (c5 v1 v2 v3 v4)) (c57 : Int32 → Int32 → Int32 → Int32 → Int32 → Int32 → Int32 → Option Int32) (hc57 : ∀ (v1 : Int32) (v2 : Int32) (v3 : Int32) (v4 : Int32) (v5 : Int32) (v6 : Int32) (v7 : Int32) , qAt wM mX12_wordOf (ρp σ) 57 [(0, .ref 0), (1, .int v1), (2, .int v2), (3, .int v3), (4, .int v4), (5, .int v5), (6, .int v6), (7, .int v7)] [] σ (c57 v1 v2 v3 v4 v5 v6 v7)) (v1 : Int32) (v2 : Int32) (v3 : Int32) (v4 : Int32) (v5 : Int32) (v6 : Int32) (v7 : Int32) : qAt wM mX12_wordOf (ρp σ) 57 [(0, .ref 0), (1, .int v1), (2, .int v2), (3, .int v3), (4, .int v4), (5, .int v5), (6, .int v6), (7, .int v7)] [] σ (fX12_wordOf_s57 N c5 c57 v1 v2 v3 v4 v5 v6 v7 σ) := by
  unfold fX12_wordOf_s57
  refine q_iload (i := 7) (x := v7) dX12_wordOf_57 7 rfl ?_
  refine q_iload (i := 5) (x := v5) dX12_wordOf_59 5 rfl ?_
  refine q_icmp_ge (tgt := 104) dX12_wordOf_61 (by decide) ?_ ?_
  · exact q_sub [0, 1, 2, 3, 4, 5, 6] rfl (aX12_wordOf_b104 N σ c5 hc5 v1 v2 v3 v4 v5 v6)
  refine q_iload (i := 6) (x := v6) dX12_wordOf_64 6 rfl ?_
  refine q_if_eq (tgt := 104) dX12_wordOf_66 (by decide) ?_ ?_
  · exact q_sub [0, 1, 2, 3, 4, 5, 6] rfl (aX12_wordOf_b104 N σ c5 hc5 v1 v2 v3 v4 v5 v6)
  refine q_aload_n (i := 0) (x := 0) dX12_wordOf_69 rfl 0 rfl ?_
  refine q_getr (t := 17) dX12_wordOf_70 foX12_77 zM_0 rfl ?_
  refine q_iload (i := 4) (x := v4) dX12_wordOf_73 4 rfl ?_
  refine q_iload (i := 7) (x := v7) dX12_wordOf_75 7 rfl ?_
  refine q_iadd dX12_wordOf_77 ?_
  refine q_bald dX12_wordOf_78 zM_17 ?_
  refine q_aload_n (i := 0) (x := 0) dX12_wordOf_79 rfl 0 rfl ?_
  refine q_getr (t := 18) dX12_wordOf_80 foX12_80 zM_0 rfl ?_
  refine q_iload_n (i := 1) (x := v1) dX12_wordOf_83 rfl 1 rfl ?_
  refine q_iload (i := 7) (x := v7) dX12_wordOf_84 7 rfl ?_
  refine q_iadd dX12_wordOf_86 ?_
  refine q_bald dX12_wordOf_87 zM_18 ?_
  refine q_icmp_ne (tgt := 95) dX12_wordOf_88 (by decide) ?_ ?_
  · refine q_iconst (v := 0) dX12_wordOf_95 (by decide) ?_
    exact q_sub [0, 1, 2, 3, 4, 5, 7] rfl (aX12_wordOf_b96 N σ c5 c57 hc5 hc57 v1 v2 v3 v4 v5 v7 0)
  refine q_iconst (v := 1) dX12_wordOf_91 (by decide) ?_
  refine q_goto (tgt := 96) dX12_wordOf_92 (by decide) ?_
  exact q_sub [0, 1, 2, 3, 4, 5, 7] rfl (aX12_wordOf_b96 N σ c5 c57 hc5 hc57 v1 v2 v3 v4 v5 v7 1)
def fX12_wordOf_l57 (N : Nat) (c5 : Int32 → Int32 → Int32 → Int32 → Option Int32) (σ : qMem) : Nat → Int32 → Int32 → Int32 → Int32 → Int32 → Int32 → Int32 → Option Int32
  | 0 => fun _ _ _ _ _ _ _ => none
  | n + 1 => fun v1 v2 v3 v4 v5 v6 v7 => fX12_wordOf_s57 N c5 (fX12_wordOf_l57 N c5 σ n) v1 v2 v3 v4 v5 v6 v7 σ
theorem aX12_wordOf_l57 (N : Nat) (σ : qMem) (c5 : Int32 → Int32 → Int32 → Int32 → Option Int32) (hc5 : ∀ (v1 : Int32) (v2 : Int32) (v3 : Int32) (v4 : Int32) , qAt wM mX12_wordOf (ρp σ) 5 [(0, .ref 0), (1, .int v1), (2, .int v2), (3, .int v3), (4, .int v4)] [] σ (c5 v1 v2 v3 v4)) : ∀ (n : Nat) (v1 : Int32) (v2 : Int32) (v3 : Int32) (v4 : Int32) (v5 : Int32) (v6 : Int32) (v7 : Int32), qAt wM mX12_wordOf (ρp σ) 57 [(0, .ref 0), (1, .int v1), (2, .int v2), (3, .int v3), (4, .int v4), (5, .int v5), (6, .int v6), (7, .int v7)] [] σ (fX12_wordOf_l57 N c5 σ n v1 v2 v3 v4 v5 v6 v7) := by
  intro n
  induction n with
  | zero => intro v1 v2 v3 v4 v5 v6 v7; exact q_none
  | succ n ih => intro v1 v2 v3 v4 v5 v6 v7; exact aX12_wordOf_s57 N σ c5 hc5 (fX12_wordOf_l57 N c5 σ n) ih v1 v2 v3 v4 v5 v6 v7

def fX12_wordOf_b52 (N : Nat) (c5 : Int32 → Int32 → Int32 → Int32 → Option Int32) (v1 : Int32) (v2 : Int32) (v3 : Int32) (v4 : Int32) (v5 : Int32) (u0 : Int32) (σ : qMem) : Option Int32 :=
  (fX12_wordOf_l57 N c5 σ N v1 v2 v3 v4 v5 u0 0)
set_option maxRecDepth 20000 in
set_option maxHeartbeats 4000000 in
theorem aX12_wordOf_b52 (N : Nat) (σ : qMem) (c5 : Int32 → Int32 → Int32 → Int32 → Option Int32) (hc5 : ∀ (v1 : Int32) (v2 : Int32) (v3 : Int32) (v4 : Int32) , qAt wM mX12_wordOf (ρp σ) 5 [(0, .ref 0), (1, .int v1), (2, .int v2), (3, .int v3), (4, .int v4)] [] σ (c5 v1 v2 v3 v4)) (v1 : Int32) (v2 : Int32) (v3 : Int32) (v4 : Int32) (v5 : Int32) (u0 : Int32) : qAt wM mX12_wordOf (ρp σ) 52 [(0, .ref 0), (1, .int v1), (2, .int v2), (3, .int v3), (4, .int v4), (5, .int v5)] [.int u0] σ (fX12_wordOf_b52 N c5 v1 v2 v3 v4 v5 u0 σ) := by
  unfold fX12_wordOf_b52
  refine q_istore (i := 6) (L' := [(6, .int u0), (0, .ref 0), (1, .int v1), (2, .int v2), (3, .int v3), (4, .int v4), (5, .int v5)]) dX12_wordOf_52 (Nat.le_of_ble_eq_true rfl) rfl ?_
  refine q_iconst (v := 0) dX12_wordOf_54 (by decide) ?_
  refine q_istore (i := 7) (L' := [(7, .int 0), (6, .int u0), (0, .ref 0), (1, .int v1), (2, .int v2), (3, .int v3), (4, .int v4), (5, .int v5)]) dX12_wordOf_55 (Nat.le_of_ble_eq_true rfl) rfl ?_
  exact q_sub [2, 3, 4, 5, 6, 7, 1, 0] rfl (aX12_wordOf_l57 N σ c5 hc5 N v1 v2 v3 v4 v5 u0 0)

def fX12_wordOf_s18 (N : Nat) (c5 : Int32 → Int32 → Int32 → Int32 → Option Int32) (c18 : Int32 → Int32 → Int32 → Int32 → Int32 → Option Int32) (v1 : Int32) (v2 : Int32) (v3 : Int32) (v4 : Int32) (v5 : Int32) (σ : qMem) : Option Int32 :=
  (if ck (v4 + v5) 57 = true then (if (gi σ 17 (v4 + v5).toNatClampNeg) = 32 then (if v5 = (v2 - v1) then (fX12_wordOf_b52 N c5 v1 v2 v3 v4 v5 1 σ) else (fX12_wordOf_b52 N c5 v1 v2 v3 v4 v5 0 σ)) else (c18 v1 v2 v3 v4 (v5 + 1))) else none)
set_option maxRecDepth 20000 in
set_option maxHeartbeats 4000000 in
theorem aX12_wordOf_s18 (N : Nat) (σ : qMem) (c5 : Int32 → Int32 → Int32 → Int32 → Option Int32) (hc5 : ∀ (v1 : Int32) (v2 : Int32) (v3 : Int32) (v4 : Int32) , qAt wM mX12_wordOf (ρp σ) 5 [(0, .ref 0), (1, .int v1), (2, .int v2), (3, .int v3), (4, .int v4)] [] σ (c5 v1 v2 v3 v4)) (c18 : Int32 → Int32 → Int32 → Int32 → Int32 → Option Int32) (hc18 : ∀ (v1 : Int32) (v2 : Int32) (v3 : Int32) (v4 : Int32) (v5 : Int32) , qAt wM mX12_wordOf (ρp σ) 18 [(0, .ref 0), (1, .int v1), (2, .int v2), (3, .int v3), (4, .int v4), (5, .int v5)] [] σ (c18 v1 v2 v3 v4 v5)) (v1 : Int32) (v2 : Int32) (v3 : Int32) (v4 : Int32) (v5 : Int32) : qAt wM mX12_wordOf (ρp σ) 18 [(0, .ref 0), (1, .int v1), (2, .int v2), (3, .int v3), (4, .int v4), (5, .int v5)] [] σ (fX12_wordOf_s18 N c5 c18 v1 v2 v3 v4 v5 σ) := by
  unfold fX12_wordOf_s18
  refine q_aload_n (i := 0) (x := 0) dX12_wordOf_18 rfl 0 rfl ?_
  refine q_getr (t := 17) dX12_wordOf_19 foX12_77 zM_0 rfl ?_
  refine q_iload (i := 4) (x := v4) dX12_wordOf_22 4 rfl ?_
  refine q_iload (i := 5) (x := v5) dX12_wordOf_24 5 rfl ?_
  refine q_iadd dX12_wordOf_26 ?_
  refine q_bald dX12_wordOf_27 zM_17 ?_
  refine q_bipush (v := 32) dX12_wordOf_28 (by decide) ?_
  refine q_icmp_eq (tgt := 39) dX12_wordOf_30 (by decide) ?_ ?_
  · refine q_iload (i := 5) (x := v5) dX12_wordOf_39 5 rfl ?_
    refine q_iload_n (i := 2) (x := v2) dX12_wordOf_41 rfl 2 rfl ?_
    refine q_iload_n (i := 1) (x := v1) dX12_wordOf_42 rfl 1 rfl ?_
    refine q_isub dX12_wordOf_43 ?_
    refine q_icmp_ne (tgt := 51) dX12_wordOf_44 (by decide) ?_ ?_
    · refine q_iconst (v := 0) dX12_wordOf_51 (by decide) ?_
      exact q_sub [0, 1, 2, 3, 4, 5] rfl (aX12_wordOf_b52 N σ c5 hc5 v1 v2 v3 v4 v5 0)
    refine q_iconst (v := 1) dX12_wordOf_47 (by decide) ?_
    refine q_goto (tgt := 52) dX12_wordOf_48 (by decide) ?_
    exact q_sub [0, 1, 2, 3, 4, 5] rfl (aX12_wordOf_b52 N σ c5 hc5 v1 v2 v3 v4 v5 1)
  refine q_iinc (i := 5) (x := v5) (v := (v5 + 1)) (L' := [(5, .int (v5 + 1)), (0, .ref 0), (1, .int v1), (2, .int v2), (3, .int v3), (4, .int v4)]) dX12_wordOf_33 5 rfl (q_cst v5 (by decide)) (Nat.le_of_ble_eq_true rfl) rfl ?_
  refine q_goto (tgt := 18) dX12_wordOf_36 (by decide) ?_
  exact q_sub [1, 2, 3, 4, 5, 0] rfl (hc18 v1 v2 v3 v4 (v5 + 1))
def fX12_wordOf_l18 (N : Nat) (c5 : Int32 → Int32 → Int32 → Int32 → Option Int32) (σ : qMem) : Nat → Int32 → Int32 → Int32 → Int32 → Int32 → Option Int32
  | 0 => fun _ _ _ _ _ => none
  | n + 1 => fun v1 v2 v3 v4 v5 => fX12_wordOf_s18 N c5 (fX12_wordOf_l18 N c5 σ n) v1 v2 v3 v4 v5 σ
theorem aX12_wordOf_l18 (N : Nat) (σ : qMem) (c5 : Int32 → Int32 → Int32 → Int32 → Option Int32) (hc5 : ∀ (v1 : Int32) (v2 : Int32) (v3 : Int32) (v4 : Int32) , qAt wM mX12_wordOf (ρp σ) 5 [(0, .ref 0), (1, .int v1), (2, .int v2), (3, .int v3), (4, .int v4)] [] σ (c5 v1 v2 v3 v4)) : ∀ (n : Nat) (v1 : Int32) (v2 : Int32) (v3 : Int32) (v4 : Int32) (v5 : Int32), qAt wM mX12_wordOf (ρp σ) 18 [(0, .ref 0), (1, .int v1), (2, .int v2), (3, .int v3), (4, .int v4), (5, .int v5)] [] σ (fX12_wordOf_l18 N c5 σ n v1 v2 v3 v4 v5) := by
  intro n
  induction n with
  | zero => intro v1 v2 v3 v4 v5; exact q_none
  | succ n ih => intro v1 v2 v3 v4 v5; exact aX12_wordOf_s18 N σ c5 hc5 (fX12_wordOf_l18 N c5 σ n) ih v1 v2 v3 v4 v5

def fX12_wordOf_s5 (N : Nat) (c5 : Int32 → Int32 → Int32 → Int32 → Option Int32) (v1 : Int32) (v2 : Int32) (v3 : Int32) (v4 : Int32) (σ : qMem) : Option Int32 :=
  (if 57 ≤ v4 then (some 0) else (fX12_wordOf_l18 N c5 σ N v1 v2 v3 v4 0))
set_option maxRecDepth 20000 in
set_option maxHeartbeats 4000000 in
theorem aX12_wordOf_s5 (N : Nat) (σ : qMem) (c5 : Int32 → Int32 → Int32 → Int32 → Option Int32) (hc5 : ∀ (v1 : Int32) (v2 : Int32) (v3 : Int32) (v4 : Int32) , qAt wM mX12_wordOf (ρp σ) 5 [(0, .ref 0), (1, .int v1), (2, .int v2), (3, .int v3), (4, .int v4)] [] σ (c5 v1 v2 v3 v4)) (v1 : Int32) (v2 : Int32) (v3 : Int32) (v4 : Int32) : qAt wM mX12_wordOf (ρp σ) 5 [(0, .ref 0), (1, .int v1), (2, .int v2), (3, .int v3), (4, .int v4)] [] σ (fX12_wordOf_s5 N c5 v1 v2 v3 v4 σ) := by
  unfold fX12_wordOf_s5
  refine q_iload (i := 4) (x := v4) dX12_wordOf_5 4 rfl ?_
  refine q_aload_n (i := 0) (x := 0) dX12_wordOf_7 rfl 0 rfl ?_
  refine q_getr (t := 17) dX12_wordOf_8 foX12_77 zM_0 rfl ?_
  refine q_alen (t0 := 3) (v := 57) dX12_wordOf_11 zM_17 (fun _ => rfl) (by decide) ?_
  refine q_icmp_ge (tgt := 126) dX12_wordOf_12 (by decide) ?_ ?_
  · refine q_iconst (v := 0) dX12_wordOf_126 (by decide) ?_
    exact q_ireti (y := 0) dX12_wordOf_127 rfl rfl
  refine q_iconst (v := 0) dX12_wordOf_15 (by decide) ?_
  refine q_istore (i := 5) (L' := [(5, .int 0), (0, .ref 0), (1, .int v1), (2, .int v2), (3, .int v3), (4, .int v4)]) dX12_wordOf_16 (Nat.le_of_ble_eq_true rfl) rfl ?_
  exact q_sub [1, 2, 3, 4, 5, 0] rfl (aX12_wordOf_l18 N σ c5 hc5 N v1 v2 v3 v4 0)
def fX12_wordOf_l5 (N : Nat) (σ : qMem) : Nat → Int32 → Int32 → Int32 → Int32 → Option Int32
  | 0 => fun _ _ _ _ => none
  | n + 1 => fun v1 v2 v3 v4 => fX12_wordOf_s5 N (fX12_wordOf_l5 N σ n) v1 v2 v3 v4 σ
theorem aX12_wordOf_l5 (N : Nat) (σ : qMem) : ∀ (n : Nat) (v1 : Int32) (v2 : Int32) (v3 : Int32) (v4 : Int32), qAt wM mX12_wordOf (ρp σ) 5 [(0, .ref 0), (1, .int v1), (2, .int v2), (3, .int v3), (4, .int v4)] [] σ (fX12_wordOf_l5 N σ n v1 v2 v3 v4) := by
  intro n
  induction n with
  | zero => intro v1 v2 v3 v4; exact q_none
  | succ n ih => intro v1 v2 v3 v4; exact aX12_wordOf_s5 N σ (fX12_wordOf_l5 N σ n) ih v1 v2 v3 v4

def fX12_wordOf (N : Nat) (p1 : Int32) (p2 : Int32) (σ : qMem) : Option Int32 :=
  (fX12_wordOf_l5 N σ N p1 p2 1 0)
set_option maxRecDepth 20000 in
set_option maxHeartbeats 4000000 in
theorem aX12_wordOf  (N : Nat) (p1 : Int32) (p2 : Int32)  (σ : qMem) : qAt wM mX12_wordOf (ρp σ) 0 [(0, .ref 0), (1, .int p1), (2, .int p2)] [] σ (fX12_wordOf N p1 p2 σ) := by
  unfold fX12_wordOf
  refine q_iconst (v := 1) dX12_wordOf_0 (by decide) ?_
  refine q_istore_n (i := 3) (L' := [(3, .int 1), (0, .ref 0), (1, .int p1), (2, .int p2)]) dX12_wordOf_1 rfl (Nat.le_of_ble_eq_true rfl) rfl ?_
  refine q_iconst (v := 0) dX12_wordOf_2 (by decide) ?_
  refine q_istore (i := 4) (L' := [(4, .int 0), (3, .int 1), (0, .ref 0), (1, .int p1), (2, .int p2)]) dX12_wordOf_3 (Nat.le_of_ble_eq_true rfl) rfl ?_
  exact q_sub [2, 3, 4, 1, 0] rfl (aX12_wordOf_l5 N σ N p1 p2 1 0)
theorem kX12_wordOf  (N : Nat) (p1 : Int32) (p2 : Int32)  (σ : qMem) : qMc wM mX12_wordOf (ρp σ) [.ref 0, .int p1, .int p2] σ (fX12_wordOf N p1 p2 σ) := qMc_of (moX12_wordOf) (Nat.le_of_ble_eq_true rfl) (aX12_wordOf N p1 p2  σ)

theorem dX12_splits_0 : decode cX12_splits 0 = .ok (.aload_n 0, 1) := by decide +kernel
theorem dX12_splits_1 : decode cX12_splits 1 = .ok (.iconst 0, 1) := by decide +kernel
theorem dX12_splits_2 : decode cX12_splits 2 = .ok (.putfield 312, 3) := by decide +kernel
theorem dX12_splits_5 : decode cX12_splits 5 = .ok (.iconst 0, 1) := by decide +kernel
theorem dX12_splits_6 : decode cX12_splits 6 = .ok (.istore_n 2, 1) := by decide +kernel
theorem dX12_splits_7 : decode cX12_splits 7 = .ok (.iload_n 2, 1) := by decide +kernel
theorem dX12_splits_8 : decode cX12_splits 8 = .ok (.iload_n 1, 1) := by decide +kernel
theorem dX12_splits_9 : decode cX12_splits 9 = .ok (.if_icmp .ge 255, 3) := by decide +kernel
theorem dX12_splits_12 : decode cX12_splits 12 = .ok (.aload_n 0, 1) := by decide +kernel
theorem dX12_splits_13 : decode cX12_splits 13 = .ok (.getfield 80, 3) := by decide +kernel
theorem dX12_splits_16 : decode cX12_splits 16 = .ok (.iload_n 2, 1) := by decide +kernel
theorem dX12_splits_17 : decode cX12_splits 17 = .ok (.baload, 1) := by decide +kernel
theorem dX12_splits_18 : decode cX12_splits 18 = .ok (.istore_n 3, 1) := by decide +kernel
theorem dX12_splits_19 : decode cX12_splits 19 = .ok (.iload_n 3, 1) := by decide +kernel
theorem dX12_splits_20 : decode cX12_splits 20 = .ok (.bipush 32, 2) := by decide +kernel
theorem dX12_splits_22 : decode cX12_splits 22 = .ok (.if_icmp .ne 9, 3) := by decide +kernel
theorem dX12_splits_25 : decode cX12_splits 25 = .ok (.iinc 2 1, 3) := by decide +kernel
theorem dX12_splits_28 : decode cX12_splits 28 = .ok (.goto (-21), 3) := by decide +kernel
theorem dX12_splits_31 : decode cX12_splits 31 = .ok (.iload_n 2, 1) := by decide +kernel
theorem dX12_splits_32 : decode cX12_splits 32 = .ok (.iconst 1, 1) := by decide +kernel
theorem dX12_splits_33 : decode cX12_splits 33 = .ok (.iadd, 1) := by decide +kernel
theorem dX12_splits_34 : decode cX12_splits 34 = .ok (.istore 4, 2) := by decide +kernel
theorem dX12_splits_36 : decode cX12_splits 36 = .ok (.iload_n 3, 1) := by decide +kernel
theorem dX12_splits_37 : decode cX12_splits 37 = .ok (.invokestatic 315, 3) := by decide +kernel
theorem dX12_splits_40 : decode cX12_splits 40 = .ok (.ifCond .eq 28, 3) := by decide +kernel
theorem dX12_splits_43 : decode cX12_splits 43 = .ok (.iload 4, 2) := by decide +kernel
theorem dX12_splits_45 : decode cX12_splits 45 = .ok (.iload_n 1, 1) := by decide +kernel
theorem dX12_splits_46 : decode cX12_splits 46 = .ok (.if_icmp .ge 22, 3) := by decide +kernel
theorem dX12_splits_49 : decode cX12_splits 49 = .ok (.aload_n 0, 1) := by decide +kernel
theorem dX12_splits_50 : decode cX12_splits 50 = .ok (.getfield 80, 3) := by decide +kernel
theorem dX12_splits_53 : decode cX12_splits 53 = .ok (.iload 4, 2) := by decide +kernel
theorem dX12_splits_55 : decode cX12_splits 55 = .ok (.baload, 1) := by decide +kernel
theorem dX12_splits_56 : decode cX12_splits 56 = .ok (.invokestatic 315, 3) := by decide +kernel
theorem dX12_splits_59 : decode cX12_splits 59 = .ok (.ifCond .eq 9, 3) := by decide +kernel
theorem dX12_splits_62 : decode cX12_splits 62 = .ok (.iinc 4 1, 3) := by decide +kernel
theorem dX12_splits_65 : decode cX12_splits 65 = .ok (.goto (-22), 3) := by decide +kernel
theorem dX12_splits_68 : decode cX12_splits 68 = .ok (.iload_n 3, 1) := by decide +kernel
theorem dX12_splits_69 : decode cX12_splits 69 = .ok (.invokestatic 318, 3) := by decide +kernel
theorem dX12_splits_72 : decode cX12_splits 72 = .ok (.ifCond .eq 28, 3) := by decide +kernel
theorem dX12_splits_75 : decode cX12_splits 75 = .ok (.iload 4, 2) := by decide +kernel
theorem dX12_splits_77 : decode cX12_splits 77 = .ok (.iload_n 1, 1) := by decide +kernel
theorem dX12_splits_78 : decode cX12_splits 78 = .ok (.if_icmp .ge 22, 3) := by decide +kernel
theorem dX12_splits_81 : decode cX12_splits 81 = .ok (.aload_n 0, 1) := by decide +kernel
theorem dX12_splits_82 : decode cX12_splits 82 = .ok (.getfield 80, 3) := by decide +kernel
theorem dX12_splits_85 : decode cX12_splits 85 = .ok (.iload 4, 2) := by decide +kernel
theorem dX12_splits_87 : decode cX12_splits 87 = .ok (.baload, 1) := by decide +kernel
theorem dX12_splits_88 : decode cX12_splits 88 = .ok (.invokestatic 318, 3) := by decide +kernel
theorem dX12_splits_91 : decode cX12_splits 91 = .ok (.ifCond .eq 9, 3) := by decide +kernel
theorem dX12_splits_94 : decode cX12_splits 94 = .ok (.iinc 4 1, 3) := by decide +kernel
theorem dX12_splits_97 : decode cX12_splits 97 = .ok (.goto (-22), 3) := by decide +kernel
theorem dX12_splits_100 : decode cX12_splits 100 = .ok (.aload_n 0, 1) := by decide +kernel
theorem dX12_splits_101 : decode cX12_splits 101 = .ok (.getfield 95, 3) := by decide +kernel
theorem dX12_splits_104 : decode cX12_splits 104 = .ok (.aload_n 0, 1) := by decide +kernel
theorem dX12_splits_105 : decode cX12_splits 105 = .ok (.getfield 312, 3) := by decide +kernel
theorem dX12_splits_108 : decode cX12_splits 108 = .ok (.iload_n 2, 1) := by decide +kernel
theorem dX12_splits_109 : decode cX12_splits 109 = .ok (.iastore, 1) := by decide +kernel
theorem dX12_splits_110 : decode cX12_splits 110 = .ok (.aload_n 0, 1) := by decide +kernel
theorem dX12_splits_111 : decode cX12_splits 111 = .ok (.getfield 92, 3) := by decide +kernel
theorem dX12_splits_114 : decode cX12_splits 114 = .ok (.aload_n 0, 1) := by decide +kernel
theorem dX12_splits_115 : decode cX12_splits 115 = .ok (.getfield 312, 3) := by decide +kernel
theorem dX12_splits_118 : decode cX12_splits 118 = .ok (.iconst 0, 1) := by decide +kernel
theorem dX12_splits_119 : decode cX12_splits 119 = .ok (.iastore, 1) := by decide +kernel
theorem dX12_splits_120 : decode cX12_splits 120 = .ok (.aload_n 0, 1) := by decide +kernel
theorem dX12_splits_121 : decode cX12_splits 121 = .ok (.getfield 89, 3) := by decide +kernel
theorem dX12_splits_124 : decode cX12_splits 124 = .ok (.aload_n 0, 1) := by decide +kernel
theorem dX12_splits_125 : decode cX12_splits 125 = .ok (.getfield 312, 3) := by decide +kernel
theorem dX12_splits_128 : decode cX12_splits 128 = .ok (.iload_n 3, 1) := by decide +kernel
theorem dX12_splits_129 : decode cX12_splits 129 = .ok (.invokestatic 315, 3) := by decide +kernel
theorem dX12_splits_132 : decode cX12_splits 132 = .ok (.ifCond .eq 13, 3) := by decide +kernel
theorem dX12_splits_135 : decode cX12_splits 135 = .ok (.aload_n 0, 1) := by decide +kernel
theorem dX12_splits_136 : decode cX12_splits 136 = .ok (.iload_n 2, 1) := by decide +kernel
theorem dX12_splits_137 : decode cX12_splits 137 = .ok (.iload 4, 2) := by decide +kernel
theorem dX12_splits_139 : decode cX12_splits 139 = .ok (.invokevirtual 321, 3) := by decide +kernel
theorem dX12_splits_142 : decode cX12_splits 142 = .ok (.goto 23, 3) := by decide +kernel
theorem dX12_splits_145 : decode cX12_splits 145 = .ok (.iload_n 3, 1) := by decide +kernel
theorem dX12_splits_146 : decode cX12_splits 146 = .ok (.invokestatic 318, 3) := by decide +kernel
theorem dX12_splits_149 : decode cX12_splits 149 = .ok (.ifCond .eq 8, 3) := by decide +kernel
theorem dX12_splits_152 : decode cX12_splits 152 = .ok (.bipush 50, 2) := by decide +kernel
theorem dX12_splits_154 : decode cX12_splits 154 = .ok (.goto 11, 3) := by decide +kernel
theorem dX12_splits_157 : decode cX12_splits 157 = .ok (.bipush 100, 2) := by decide +kernel
theorem dX12_splits_159 : decode cX12_splits 159 = .ok (.iload_n 3, 1) := by decide +kernel
theorem dX12_splits_160 : decode cX12_splits 160 = .ok (.sipush 255, 3) := by decide +kernel
theorem dX12_splits_163 : decode cX12_splits 163 = .ok (.iand, 1) := by decide +kernel
theorem dX12_splits_164 : decode cX12_splits 164 = .ok (.iadd, 1) := by decide +kernel
theorem dX12_splits_165 : decode cX12_splits 165 = .ok (.iastore, 1) := by decide +kernel
theorem dX12_splits_166 : decode cX12_splits 166 = .ok (.iload_n 2, 1) := by decide +kernel
theorem dX12_splits_167 : decode cX12_splits 167 = .ok (.istore 5, 2) := by decide +kernel
theorem dX12_splits_169 : decode cX12_splits 169 = .ok (.iload 5, 2) := by decide +kernel
theorem dX12_splits_171 : decode cX12_splits 171 = .ok (.iload 4, 2) := by decide +kernel
theorem dX12_splits_173 : decode cX12_splits 173 = .ok (.if_icmp .ge 75, 3) := by decide +kernel
theorem dX12_splits_176 : decode cX12_splits 176 = .ok (.iload_n 3, 1) := by decide +kernel
theorem dX12_splits_177 : decode cX12_splits 177 = .ok (.invokestatic 318, 3) := by decide +kernel
theorem dX12_splits_180 : decode cX12_splits 180 = .ok (.ifCond .eq 68, 3) := by decide +kernel
theorem dX12_splits_183 : decode cX12_splits 183 = .ok (.aload_n 0, 1) := by decide +kernel
theorem dX12_splits_184 : decode cX12_splits 184 = .ok (.getfield 92, 3) := by decide +kernel
theorem dX12_splits_187 : decode cX12_splits 187 = .ok (.aload_n 0, 1) := by decide +kernel
theorem dX12_splits_188 : decode cX12_splits 188 = .ok (.getfield 312, 3) := by decide +kernel
theorem dX12_splits_191 : decode cX12_splits 191 = .ok (.aload_n 0, 1) := by decide +kernel
theorem dX12_splits_192 : decode cX12_splits 192 = .ok (.getfield 92, 3) := by decide +kernel
theorem dX12_splits_195 : decode cX12_splits 195 = .ok (.aload_n 0, 1) := by decide +kernel
theorem dX12_splits_196 : decode cX12_splits 196 = .ok (.getfield 312, 3) := by decide +kernel
theorem dX12_splits_199 : decode cX12_splits 199 = .ok (.iaload, 1) := by decide +kernel
theorem dX12_splits_200 : decode cX12_splits 200 = .ok (.ldc_w 324, 3) := by decide +kernel
theorem dX12_splits_203 : decode cX12_splits 203 = .ok (.if_icmp .le 15, 3) := by decide +kernel
theorem dX12_splits_206 : decode cX12_splits 206 = .ok (.aload_n 0, 1) := by decide +kernel
theorem dX12_splits_207 : decode cX12_splits 207 = .ok (.getfield 92, 3) := by decide +kernel
theorem dX12_splits_210 : decode cX12_splits 210 = .ok (.aload_n 0, 1) := by decide +kernel
theorem dX12_splits_211 : decode cX12_splits 211 = .ok (.getfield 312, 3) := by decide +kernel
theorem dX12_splits_214 : decode cX12_splits 214 = .ok (.iaload, 1) := by decide +kernel
theorem dX12_splits_215 : decode cX12_splits 215 = .ok (.goto 26, 3) := by decide +kernel
theorem dX12_splits_218 : decode cX12_splits 218 = .ok (.bipush 10, 2) := by decide +kernel
theorem dX12_splits_220 : decode cX12_splits 220 = .ok (.aload_n 0, 1) := by decide +kernel
theorem dX12_splits_221 : decode cX12_splits 221 = .ok (.getfield 92, 3) := by decide +kernel
theorem dX12_splits_224 : decode cX12_splits 224 = .ok (.aload_n 0, 1) := by decide +kernel
theorem dX12_splits_225 : decode cX12_splits 225 = .ok (.getfield 312, 3) := by decide +kernel
theorem dX12_splits_228 : decode cX12_splits 228 = .ok (.iaload, 1) := by decide +kernel
theorem dX12_splits_229 : decode cX12_splits 229 = .ok (.imul, 1) := by decide +kernel
theorem dX12_splits_230 : decode cX12_splits 230 = .ok (.aload_n 0, 1) := by decide +kernel
theorem dX12_splits_231 : decode cX12_splits 231 = .ok (.getfield 80, 3) := by decide +kernel
theorem dX12_splits_234 : decode cX12_splits 234 = .ok (.iload 5, 2) := by decide +kernel
theorem dX12_splits_236 : decode cX12_splits 236 = .ok (.baload, 1) := by decide +kernel
theorem dX12_splits_237 : decode cX12_splits 237 = .ok (.iadd, 1) := by decide +kernel
theorem dX12_splits_238 : decode cX12_splits 238 = .ok (.bipush 48, 2) := by decide +kernel
theorem dX12_splits_240 : decode cX12_splits 240 = .ok (.isub, 1) := by decide +kernel
theorem dX12_splits_241 : decode cX12_splits 241 = .ok (.iastore, 1) := by decide +kernel
theorem dX12_splits_242 : decode cX12_splits 242 = .ok (.iinc 5 1, 3) := by decide +kernel
theorem dX12_splits_245 : decode cX12_splits 245 = .ok (.goto (-76), 3) := by decide +kernel
theorem dX12_splits_248 : decode cX12_splits 248 = .ok (.aload_n 0, 1) := by decide +kernel
theorem dX12_splits_249 : decode cX12_splits 249 = .ok (.dup, 1) := by decide +kernel
theorem dX12_splits_250 : decode cX12_splits 250 = .ok (.getfield 312, 3) := by decide +kernel
theorem dX12_splits_253 : decode cX12_splits 253 = .ok (.iconst 1, 1) := by decide +kernel
theorem dX12_splits_254 : decode cX12_splits 254 = .ok (.iadd, 1) := by decide +kernel
theorem dX12_splits_255 : decode cX12_splits 255 = .ok (.putfield 312, 3) := by decide +kernel
theorem dX12_splits_258 : decode cX12_splits 258 = .ok (.iload 4, 2) := by decide +kernel
theorem dX12_splits_260 : decode cX12_splits 260 = .ok (.istore_n 2, 1) := by decide +kernel
theorem dX12_splits_261 : decode cX12_splits 261 = .ok (.goto (-254), 3) := by decide +kernel
theorem dX12_splits_264 : decode cX12_splits 264 = .ok (.aload_n 0, 1) := by decide +kernel
theorem dX12_splits_265 : decode cX12_splits 265 = .ok (.getfield 95, 3) := by decide +kernel
theorem dX12_splits_268 : decode cX12_splits 268 = .ok (.aload_n 0, 1) := by decide +kernel
theorem dX12_splits_269 : decode cX12_splits 269 = .ok (.getfield 312, 3) := by decide +kernel
theorem dX12_splits_272 : decode cX12_splits 272 = .ok (.iload_n 1, 1) := by decide +kernel
theorem dX12_splits_273 : decode cX12_splits 273 = .ok (.iastore, 1) := by decide +kernel
theorem dX12_splits_274 : decode cX12_splits 274 = .ok (.aload_n 0, 1) := by decide +kernel
theorem dX12_splits_275 : decode cX12_splits 275 = .ok (.getfield 89, 3) := by decide +kernel
theorem dX12_splits_278 : decode cX12_splits 278 = .ok (.aload_n 0, 1) := by decide +kernel
theorem dX12_splits_279 : decode cX12_splits 279 = .ok (.getfield 312, 3) := by decide +kernel
theorem dX12_splits_282 : decode cX12_splits 282 = .ok (.iconst 0, 1) := by decide +kernel
theorem dX12_splits_283 : decode cX12_splits 283 = .ok (.iastore, 1) := by decide +kernel
theorem dX12_splits_284 : decode cX12_splits 284 = .ok (.aload_n 0, 1) := by decide +kernel
theorem dX12_splits_285 : decode cX12_splits 285 = .ok (.getfield 92, 3) := by decide +kernel
theorem dX12_splits_288 : decode cX12_splits 288 = .ok (.aload_n 0, 1) := by decide +kernel
theorem dX12_splits_289 : decode cX12_splits 289 = .ok (.getfield 312, 3) := by decide +kernel
theorem dX12_splits_292 : decode cX12_splits 292 = .ok (.iconst 0, 1) := by decide +kernel
theorem dX12_splits_293 : decode cX12_splits 293 = .ok (.iastore, 1) := by decide +kernel
theorem dX12_splits_294 : decode cX12_splits 294 = .ok (.return_, 1) := by decide +kernel
def fX12_splits_b248 (N : Nat) (c7 : Int32 → Int32 → qMem → Option qMem) (v1 : Int32) (v4 : Int32) (σ : qMem) : Option qMem :=
  (nmM (si σ 0 33 ((gi σ 0 33) + 1)) fun s18 => (c7 v1 v4 s18))
set_option maxRecDepth 20000 in
set_option maxHeartbeats 4000000 in
theorem aX12_splits_b248 (N : Nat) (c7 : Int32 → Int32 → qMem → Option qMem) (hc7 : ∀ (v1 : Int32) (v2 : Int32) (σ : qMem), qAt wM mX12_splits (ρv) 7 [(0, .ref 0), (1, .int v1), (2, .int v2)] [] σ (c7 v1 v2 σ)) (v1 : Int32) (v4 : Int32) (σ : qMem) : qAt wM mX12_splits (ρv) 248 [(0, .ref 0), (1, .int v1), (4, .int v4)] [] σ (fX12_splits_b248 N c7 v1 v4 σ) := by
  unfold fX12_splits_b248
  refine q_aload_n (i := 0) (x := 0) dX12_splits_248 rfl 0 rfl ?_
  refine q_dup dX12_splits_249 rfl ?_
  refine q_geti dX12_splits_250 foX12_312 zM_0 rfl ?_
  refine q_iconst (v := 1) dX12_splits_253 (by decide) ?_
  refine q_iadd dX12_splits_254 ?_
  refine q_puti dX12_splits_255 foX12_312 fwX12_33 zM_0 rfl ?_
  refine q_nmM (fun s18 => ?_)
  refine q_iload (i := 4) (x := v4) dX12_splits_258 2 rfl ?_
  refine q_istore_n (i := 2) (L' := [(2, .int v4), (0, .ref 0), (1, .int v1), (4, .int v4)]) dX12_splits_260 rfl (Nat.le_of_ble_eq_true rfl) rfl ?_
  refine q_goto (tgt := 7) dX12_splits_261 (by decide) ?_
  exact q_sub [1, 2, 0] rfl (hc7 v1 v4 s18)

def fX12_splits_b241 (N : Nat) (c7 : Int32 → Int32 → qMem → Option qMem) (c169 : Int32 → Int32 → Int32 → Int32 → qMem → Option qMem) (v1 : Int32) (v3 : Int32) (v4 : Int32) (v5 : Int32) (u1 : Int32) (u2 : Int32) (σ : qMem) : Option qMem :=
  (if ck u1 401 = true then (nmM (si σ 21 u1.toNatClampNeg u2) fun s17 => (c169 v1 v3 v4 (v5 + 1) s17)) else none)
set_option maxRecDepth 20000 in
set_option maxHeartbeats 4000000 in
theorem aX12_splits_b241 (N : Nat) (c7 : Int32 → Int32 → qMem → Option qMem) (c169 : Int32 → Int32 → Int32 → Int32 → qMem → Option qMem) (hc7 : ∀ (v1 : Int32) (v2 : Int32) (σ : qMem), qAt wM mX12_splits (ρv) 7 [(0, .ref 0), (1, .int v1), (2, .int v2)] [] σ (c7 v1 v2 σ)) (hc169 : ∀ (v1 : Int32) (v3 : Int32) (v4 : Int32) (v5 : Int32) (σ : qMem), qAt wM mX12_splits (ρv) 169 [(0, .ref 0), (1, .int v1), (3, .int v3), (4, .int v4), (5, .int v5)] [] σ (c169 v1 v3 v4 v5 σ)) (v1 : Int32) (v3 : Int32) (v4 : Int32) (v5 : Int32) (u1 : Int32) (u2 : Int32) (σ : qMem) : qAt wM mX12_splits (ρv) 241 [(0, .ref 0), (1, .int v1), (3, .int v3), (4, .int v4), (5, .int v5)] [.int u2, .int u1, .ref 21] σ (fX12_splits_b241 N c7 c169 v1 v3 v4 v5 u1 u2 σ) := by
  unfold fX12_splits_b241
  refine q_iast dX12_splits_241 zM_21 ?_
  refine q_nmM (fun s17 => ?_)
  refine q_iinc (i := 5) (x := v5) (v := (v5 + 1)) (L' := [(5, .int (v5 + 1)), (0, .ref 0), (1, .int v1), (3, .int v3), (4, .int v4)]) dX12_splits_242 4 rfl (q_cst v5 (by decide)) (Nat.le_of_ble_eq_true rfl) rfl ?_
  refine q_goto (tgt := 169) dX12_splits_245 (by decide) ?_
  exact q_sub [1, 2, 3, 4, 0] rfl (hc169 v1 v3 v4 (v5 + 1) s17)

def fX12_splits_s169 (N : Nat) (c7 : Int32 → Int32 → qMem → Option qMem) (c169 : Int32 → Int32 → Int32 → Int32 → qMem → Option qMem) (v1 : Int32) (v3 : Int32) (v4 : Int32) (v5 : Int32) (σ : qMem) : Option qMem :=
  (if v4 ≤ v5 then (fX12_splits_b248 N c7 v1 v4 σ) else ((fX12_isDigit v3).bind fun y16 => (if y16 = 0 then (fX12_splits_b248 N c7 v1 v4 σ) else (if ck (gi σ 0 33) 401 = true then (if (gi σ 21 (gi σ 0 33).toNatClampNeg) ≤ 1000000 then (if ck (gi σ 0 33) 401 = true then (if ck v5 400 = true then (fX12_splits_b241 N c7 c169 v1 v3 v4 v5 (gi σ 0 33) (((10 * (gi σ 21 (gi σ 0 33).toNatClampNeg)) + (gi σ 18 v5.toNatClampNeg)) - 48) σ) else none) else none) else (if ck (gi σ 0 33) 401 = true then (fX12_splits_b241 N c7 c169 v1 v3 v4 v5 (gi σ 0 33) (gi σ 21 (gi σ 0 33).toNatClampNeg) σ) else none)) else none))))
set_option maxRecDepth 20000 in
set_option maxHeartbeats 4000000 in
theorem aX12_splits_s169 (N : Nat) (c7 : Int32 → Int32 → qMem → Option qMem) (hc7 : ∀ (v1 : Int32) (v2 : Int32) (σ : qMem), qAt wM mX12_splits (ρv) 7 [(0, .ref 0), (1, .int v1), (2, .int v2)] [] σ (c7 v1 v2 σ)) (c169 : Int32 → Int32 → Int32 → Int32 → qMem → Option qMem) (hc169 : ∀ (v1 : Int32) (v3 : Int32) (v4 : Int32) (v5 : Int32) (σ : qMem), qAt wM mX12_splits (ρv) 169 [(0, .ref 0), (1, .int v1), (3, .int v3), (4, .int v4), (5, .int v5)] [] σ (c169 v1 v3 v4 v5 σ)) (v1 : Int32) (v3 : Int32) (v4 : Int32) (v5 : Int32) (σ : qMem) : qAt wM mX12_splits (ρv) 169 [(0, .ref 0), (1, .int v1), (3, .int v3), (4, .int v4), (5, .int v5)] [] σ (fX12_splits_s169 N c7 c169 v1 v3 v4 v5 σ) := by
  unfold fX12_splits_s169
  refine q_iload (i := 5) (x := v5) dX12_splits_169 4 rfl ?_
  refine q_iload (i := 4) (x := v4) dX12_splits_171 3 rfl ?_
  refine q_icmp_ge (tgt := 248) dX12_splits_173 (by decide) ?_ ?_
  · exact q_sub [0, 1, 3] rfl (aX12_splits_b248 N c7 hc7 v1 v4 σ)
  refine q_iload_n (i := 3) (x := v3) dX12_splits_176 rfl 2 rfl ?_
  refine q_cSp mX12_isDigit [.int v3] (st := []) dX12_splits_177 (ssX12_318) ⟨Nat.le_of_ble_eq_true rfl, Nat.le_of_ble_eq_true rfl⟩ rfl rfl (Nat.le_of_ble_eq_true rfl) (kX12_isDigit v3 σ) (fun y16 => ?_)
  refine q_if_eq (tgt := 248) dX12_splits_180 (by decide) ?_ ?_
  · exact q_sub [0, 1, 3] rfl (aX12_splits_b248 N c7 hc7 v1 v4 σ)
  refine q_aload_n (i := 0) (x := 0) dX12_splits_183 rfl 0 rfl ?_
  refine q_getr (t := 21) dX12_splits_184 foX12_92 zM_0 rfl ?_
  refine q_aload_n (i := 0) (x := 0) dX12_splits_187 rfl 0 rfl ?_
  refine q_geti dX12_splits_188 foX12_312 zM_0 rfl ?_
  refine q_aload_n (i := 0) (x := 0) dX12_splits_191 rfl 0 rfl ?_
  refine q_getr (t := 21) dX12_splits_192 foX12_92 zM_0 rfl ?_
  refine q_aload_n (i := 0) (x := 0) dX12_splits_195 rfl 0 rfl ?_
  refine q_geti dX12_splits_196 foX12_312 zM_0 rfl ?_
  refine q_iald dX12_splits_199 zM_21 ?_
  refine q_ldc_w (v := 1000000) dX12_splits_200 (g_8 205 (by decide +kernel) rfl) ?_
  refine q_icmp_le (tgt := 218) dX12_splits_203 (by decide) ?_ ?_
  · refine q_bipush (v := 10) dX12_splits_218 (by decide) ?_
    refine q_aload_n (i := 0) (x := 0) dX12_splits_220 rfl 0 rfl ?_
    refine q_getr (t := 21) dX12_splits_221 foX12_92 zM_0 rfl ?_
    refine q_aload_n (i := 0) (x := 0) dX12_splits_224 rfl 0 rfl ?_
    refine q_geti dX12_splits_225 foX12_312 zM_0 rfl ?_
    refine q_iald dX12_splits_228 zM_21 ?_
    refine q_imul dX12_splits_229 ?_
    refine q_aload_n (i := 0) (x := 0) dX12_splits_230 rfl 0 rfl ?_
    refine q_getr (t := 18) dX12_splits_231 foX12_80 zM_0 rfl ?_
    refine q_iload (i := 5) (x := v5) dX12_splits_234 4 rfl ?_
    refine q_bald dX12_splits_236 zM_18 ?_
    refine q_iadd dX12_splits_237 ?_
    refine q_bipush (v := 48) dX12_splits_238 (by decide) ?_
    refine q_isub dX12_splits_240 ?_
    exact q_sub [0, 1, 2, 3, 4] rfl (aX12_splits_b241 N c7 c169 hc7 hc169 v1 v3 v4 v5 (gi σ 0 33) (((10 * (gi σ 21 (gi σ 0 33).toNatClampNeg)) + (gi σ 18 v5.toNatClampNeg)) - 48) σ)
  refine q_aload_n (i := 0) (x := 0) dX12_splits_206 rfl 0 rfl ?_
  refine q_getr (t := 21) dX12_splits_207 foX12_92 zM_0 rfl ?_
  refine q_aload_n (i := 0) (x := 0) dX12_splits_210 rfl 0 rfl ?_
  refine q_geti dX12_splits_211 foX12_312 zM_0 rfl ?_
  refine q_iald dX12_splits_214 zM_21 ?_
  refine q_goto (tgt := 241) dX12_splits_215 (by decide) ?_
  exact q_sub [0, 1, 2, 3, 4] rfl (aX12_splits_b241 N c7 c169 hc7 hc169 v1 v3 v4 v5 (gi σ 0 33) (gi σ 21 (gi σ 0 33).toNatClampNeg) σ)
def fX12_splits_l169 (N : Nat) (c7 : Int32 → Int32 → qMem → Option qMem) : Nat → Int32 → Int32 → Int32 → Int32 → qMem → Option qMem
  | 0 => fun _ _ _ _ _ => none
  | n + 1 => fun v1 v3 v4 v5 σ => fX12_splits_s169 N c7 (fX12_splits_l169 N c7 n) v1 v3 v4 v5 σ
theorem aX12_splits_l169 (N : Nat) (c7 : Int32 → Int32 → qMem → Option qMem) (hc7 : ∀ (v1 : Int32) (v2 : Int32) (σ : qMem), qAt wM mX12_splits (ρv) 7 [(0, .ref 0), (1, .int v1), (2, .int v2)] [] σ (c7 v1 v2 σ)) : ∀ (n : Nat) (v1 : Int32) (v3 : Int32) (v4 : Int32) (v5 : Int32) (σ : qMem), qAt wM mX12_splits (ρv) 169 [(0, .ref 0), (1, .int v1), (3, .int v3), (4, .int v4), (5, .int v5)] [] σ (fX12_splits_l169 N c7 n v1 v3 v4 v5 σ) := by
  intro n
  induction n with
  | zero => intro v1 v3 v4 v5 σ; exact q_none
  | succ n ih => intro v1 v3 v4 v5 σ; exact aX12_splits_s169 N c7 hc7 (fX12_splits_l169 N c7 n) ih v1 v3 v4 v5 σ

def fX12_splits_b165 (N : Nat) (c7 : Int32 → Int32 → qMem → Option qMem) (v1 : Int32) (v2 : Int32) (v3 : Int32) (v4 : Int32) (u1 : Int32) (u2 : Int32) (σ : qMem) : Option qMem :=
  (if ck u1 401 = true then (nmM (si σ 20 u1.toNatClampNeg u2) fun s15 => (fX12_splits_l169 N c7 N v1 v3 v4 v2 s15)) else none)
set_option maxRecDepth 20000 in
set_option maxHeartbeats 4000000 in
theorem aX12_splits_b165 (N : Nat) (c7 : Int32 → Int32 → qMem → Option qMem) (hc7 : ∀ (v1 : Int32) (v2 : Int32) (σ : qMem), qAt wM mX12_splits (ρv) 7 [(0, .ref 0), (1, .int v1), (2, .int v2)] [] σ (c7 v1 v2 σ)) (v1 : Int32) (v2 : Int32) (v3 : Int32) (v4 : Int32) (u1 : Int32) (u2 : Int32) (σ : qMem) : qAt wM mX12_splits (ρv) 165 [(0, .ref 0), (1, .int v1), (2, .int v2), (3, .int v3), (4, .int v4)] [.int u2, .int u1, .ref 20] σ (fX12_splits_b165 N c7 v1 v2 v3 v4 u1 u2 σ) := by
  unfold fX12_splits_b165
  refine q_iast dX12_splits_165 zM_20 ?_
  refine q_nmM (fun s15 => ?_)
  refine q_iload_n (i := 2) (x := v2) dX12_splits_166 rfl 2 rfl ?_
  refine q_istore (i := 5) (L' := [(5, .int v2), (0, .ref 0), (1, .int v1), (2, .int v2), (3, .int v3), (4, .int v4)]) dX12_splits_167 (Nat.le_of_ble_eq_true rfl) rfl ?_
  exact q_sub [1, 2, 4, 5, 0] rfl (aX12_splits_l169 N c7 hc7 N v1 v3 v4 v2 s15)

def fX12_splits_b100 (N : Nat) (c7 : Int32 → Int32 → qMem → Option qMem) (v1 : Int32) (v2 : Int32) (v3 : Int32) (v4 : Int32) (σ : qMem) : Option qMem :=
  (if ck (gi σ 0 33) 401 = true then (nmM (si σ 22 (gi σ 0 33).toNatClampNeg v2) fun s10 => (if ck (gi s10 0 33) 401 = true then (nmM (si s10 21 (gi s10 0 33).toNatClampNeg 0) fun s11 => ((fX12_isSmall v3).bind fun y12 => (if y12 = 0 then ((fX12_isDigit v3).bind fun y13 => (if y13 = 0 then (fX12_splits_b165 N c7 v1 v2 v3 v4 (gi s11 0 33) (100 + (v3 &&& 255)) s11) else (fX12_splits_b165 N c7 v1 v2 v3 v4 (gi s11 0 33) 50 s11))) else ((fX12_wordOf N v2 v4 s11).bind fun y14 => (fX12_splits_b165 N c7 v1 v2 v3 v4 (gi s11 0 33) y14 s11))))) else none)) else none)
set_option maxRecDepth 20000 in
set_option maxHeartbeats 4000000 in
theorem aX12_splits_b100 (N : Nat) (c7 : Int32 → Int32 → qMem → Option qMem) (hc7 : ∀ (v1 : Int32) (v2 : Int32) (σ : qMem), qAt wM mX12_splits (ρv) 7 [(0, .ref 0), (1, .int v1), (2, .int v2)] [] σ (c7 v1 v2 σ)) (v1 : Int32) (v2 : Int32) (v3 : Int32) (v4 : Int32) (σ : qMem) : qAt wM mX12_splits (ρv) 100 [(0, .ref 0), (1, .int v1), (2, .int v2), (3, .int v3), (4, .int v4)] [] σ (fX12_splits_b100 N c7 v1 v2 v3 v4 σ) := by
  unfold fX12_splits_b100
  refine q_aload_n (i := 0) (x := 0) dX12_splits_100 rfl 0 rfl ?_
  refine q_getr (t := 22) dX12_splits_101 foX12_95 zM_0 rfl ?_
  refine q_aload_n (i := 0) (x := 0) dX12_splits_104 rfl 0 rfl ?_
  refine q_geti dX12_splits_105 foX12_312 zM_0 rfl ?_
  refine q_iload_n (i := 2) (x := v2) dX12_splits_108 rfl 2 rfl ?_
  refine q_iast dX12_splits_109 zM_22 ?_
  refine q_nmM (fun s10 => ?_)
  refine q_aload_n (i := 0) (x := 0) dX12_splits_110 rfl 0 rfl ?_
  refine q_getr (t := 21) dX12_splits_111 foX12_92 zM_0 rfl ?_
  refine q_aload_n (i := 0) (x := 0) dX12_splits_114 rfl 0 rfl ?_
  refine q_geti dX12_splits_115 foX12_312 zM_0 rfl ?_
  refine q_iconst (v := 0) dX12_splits_118 (by decide) ?_
  refine q_iast dX12_splits_119 zM_21 ?_
  refine q_nmM (fun s11 => ?_)
  refine q_aload_n (i := 0) (x := 0) dX12_splits_120 rfl 0 rfl ?_
  refine q_getr (t := 20) dX12_splits_121 foX12_89 zM_0 rfl ?_
  refine q_aload_n (i := 0) (x := 0) dX12_splits_124 rfl 0 rfl ?_
  refine q_geti dX12_splits_125 foX12_312 zM_0 rfl ?_
  refine q_iload_n (i := 3) (x := v3) dX12_splits_128 rfl 3 rfl ?_
  refine q_cSp mX12_isSmall [.int v3] (st := [.int (gi s11 0 33), .ref 20]) dX12_splits_129 (ssX12_315) ⟨Nat.le_of_ble_eq_true rfl, Nat.le_of_ble_eq_true rfl⟩ rfl rfl (Nat.le_of_ble_eq_true rfl) (kX12_isSmall v3 s11) (fun y12 => ?_)
  refine q_if_eq (tgt := 145) dX12_splits_132 (by decide) ?_ ?_
  · refine q_iload_n (i := 3) (x := v3) dX12_splits_145 rfl 3 rfl ?_
    refine q_cSp mX12_isDigit [.int v3] (st := [.int (gi s11 0 33), .ref 20]) dX12_splits_146 (ssX12_318) ⟨Nat.le_of_ble_eq_true rfl, Nat.le_of_ble_eq_true rfl⟩ rfl rfl (Nat.le_of_ble_eq_true rfl) (kX12_isDigit v3 s11) (fun y13 => ?_)
    refine q_if_eq (tgt := 157) dX12_splits_149 (by decide) ?_ ?_
    · refine q_bipush (v := 100) dX12_splits_157 (by decide) ?_
      refine q_iload_n (i := 3) (x := v3) dX12_splits_159 rfl 3 rfl ?_
      refine q_sipush (v := 255) dX12_splits_160 (by decide) ?_
      refine q_iand dX12_splits_163 ?_
      refine q_iadd dX12_splits_164 ?_
      exact q_sub [0, 1, 2, 3, 4] rfl (aX12_splits_b165 N c7 hc7 v1 v2 v3 v4 (gi s11 0 33) (100 + (v3 &&& 255)) s11)
    refine q_bipush (v := 50) dX12_splits_152 (by decide) ?_
    refine q_goto (tgt := 165) dX12_splits_154 (by decide) ?_
    exact q_sub [0, 1, 2, 3, 4] rfl (aX12_splits_b165 N c7 hc7 v1 v2 v3 v4 (gi s11 0 33) 50 s11)
  refine q_aload_n (i := 0) (x := 0) dX12_splits_135 rfl 0 rfl ?_
  refine q_iload_n (i := 2) (x := v2) dX12_splits_136 rfl 2 rfl ?_
  refine q_iload (i := 4) (x := v4) dX12_splits_137 4 rfl ?_
  refine q_cVp mX12_wordOf [.int v2, .int v4] (st := [.int (gi s11 0 33), .ref 20]) dX12_splits_139 (svX12_321) ⟨Nat.le_of_ble_eq_true rfl, Nat.le_of_ble_eq_true rfl⟩ zM_0 rfl rfl rfl (Nat.le_of_ble_eq_true rfl) (kX12_wordOf N v2 v4 s11) (fun y14 => ?_)
  refine q_goto (tgt := 165) dX12_splits_142 (by decide) ?_
  exact q_sub [0, 1, 2, 3, 4] rfl (aX12_splits_b165 N c7 hc7 v1 v2 v3 v4 (gi s11 0 33) y14 s11)

def fX12_splits_s75 (N : Nat) (c7 : Int32 → Int32 → qMem → Option qMem) (c75 : Int32 → Int32 → Int32 → Int32 → qMem → Option qMem) (v1 : Int32) (v2 : Int32) (v3 : Int32) (v4 : Int32) (σ : qMem) : Option qMem :=
  (if v1 ≤ v4 then (fX12_splits_b100 N c7 v1 v2 v3 v4 σ) else (if ck v4 400 = true then ((fX12_isDigit (gi σ 18 v4.toNatClampNeg)).bind fun y9 => (if y9 = 0 then (fX12_splits_b100 N c7 v1 v2 v3 v4 σ) else (c75 v1 v2 v3 (v4 + 1) σ))) else none))
set_option maxRecDepth 20000 in
set_option maxHeartbeats 4000000 in
theorem aX12_splits_s75 (N : Nat) (c7 : Int32 → Int32 → qMem → Option qMem) (hc7 : ∀ (v1 : Int32) (v2 : Int32) (σ : qMem), qAt wM mX12_splits (ρv) 7 [(0, .ref 0), (1, .int v1), (2, .int v2)] [] σ (c7 v1 v2 σ)) (c75 : Int32 → Int32 → Int32 → Int32 → qMem → Option qMem) (hc75 : ∀ (v1 : Int32) (v2 : Int32) (v3 : Int32) (v4 : Int32) (σ : qMem), qAt wM mX12_splits (ρv) 75 [(0, .ref 0), (1, .int v1), (2, .int v2), (3, .int v3), (4, .int v4)] [] σ (c75 v1 v2 v3 v4 σ)) (v1 : Int32) (v2 : Int32) (v3 : Int32) (v4 : Int32) (σ : qMem) : qAt wM mX12_splits (ρv) 75 [(0, .ref 0), (1, .int v1), (2, .int v2), (3, .int v3), (4, .int v4)] [] σ (fX12_splits_s75 N c7 c75 v1 v2 v3 v4 σ) := by
  unfold fX12_splits_s75
  refine q_iload (i := 4) (x := v4) dX12_splits_75 4 rfl ?_
  refine q_iload_n (i := 1) (x := v1) dX12_splits_77 rfl 1 rfl ?_
  refine q_icmp_ge (tgt := 100) dX12_splits_78 (by decide) ?_ ?_
  · exact q_sub [0, 1, 2, 3, 4] rfl (aX12_splits_b100 N c7 hc7 v1 v2 v3 v4 σ)
  refine q_aload_n (i := 0) (x := 0) dX12_splits_81 rfl 0 rfl ?_
  refine q_getr (t := 18) dX12_splits_82 foX12_80 zM_0 rfl ?_
  refine q_iload (i := 4) (x := v4) dX12_splits_85 4 rfl ?_
  refine q_bald dX12_splits_87 zM_18 ?_
  refine q_cSp mX12_isDigit [.int (gi σ 18 v4.toNatClampNeg)] (st := []) dX12_splits_88 (ssX12_318) ⟨Nat.le_of_ble_eq_true rfl, Nat.le_of_ble_eq_true rfl⟩ rfl rfl (Nat.le_of_ble_eq_true rfl) (kX12_isDigit (gi σ 18 v4.toNatClampNeg) σ) (fun y9 => ?_)
  refine q_if_eq (tgt := 100) dX12_splits_91 (by decide) ?_ ?_
  · exact q_sub [0, 1, 2, 3, 4] rfl (aX12_splits_b100 N c7 hc7 v1 v2 v3 v4 σ)
  refine q_iinc (i := 4) (x := v4) (v := (v4 + 1)) (L' := [(4, .int (v4 + 1)), (0, .ref 0), (1, .int v1), (2, .int v2), (3, .int v3)]) dX12_splits_94 4 rfl (q_cst v4 (by decide)) (Nat.le_of_ble_eq_true rfl) rfl ?_
  refine q_goto (tgt := 75) dX12_splits_97 (by decide) ?_
  exact q_sub [1, 2, 3, 4, 0] rfl (hc75 v1 v2 v3 (v4 + 1) σ)
def fX12_splits_l75 (N : Nat) (c7 : Int32 → Int32 → qMem → Option qMem) : Nat → Int32 → Int32 → Int32 → Int32 → qMem → Option qMem
  | 0 => fun _ _ _ _ _ => none
  | n + 1 => fun v1 v2 v3 v4 σ => fX12_splits_s75 N c7 (fX12_splits_l75 N c7 n) v1 v2 v3 v4 σ
theorem aX12_splits_l75 (N : Nat) (c7 : Int32 → Int32 → qMem → Option qMem) (hc7 : ∀ (v1 : Int32) (v2 : Int32) (σ : qMem), qAt wM mX12_splits (ρv) 7 [(0, .ref 0), (1, .int v1), (2, .int v2)] [] σ (c7 v1 v2 σ)) : ∀ (n : Nat) (v1 : Int32) (v2 : Int32) (v3 : Int32) (v4 : Int32) (σ : qMem), qAt wM mX12_splits (ρv) 75 [(0, .ref 0), (1, .int v1), (2, .int v2), (3, .int v3), (4, .int v4)] [] σ (fX12_splits_l75 N c7 n v1 v2 v3 v4 σ) := by
  intro n
  induction n with
  | zero => intro v1 v2 v3 v4 σ; exact q_none
  | succ n ih => intro v1 v2 v3 v4 σ; exact aX12_splits_s75 N c7 hc7 (fX12_splits_l75 N c7 n) ih v1 v2 v3 v4 σ

def fX12_splits_b68 (N : Nat) (c7 : Int32 → Int32 → qMem → Option qMem) (v1 : Int32) (v2 : Int32) (v3 : Int32) (v4 : Int32) (σ : qMem) : Option qMem :=
  ((fX12_isDigit v3).bind fun y8 => (if y8 = 0 then (fX12_splits_b100 N c7 v1 v2 v3 v4 σ) else (fX12_splits_l75 N c7 N v1 v2 v3 v4 σ)))
set_option maxRecDepth 20000 in
set_option maxHeartbeats 4000000 in
theorem aX12_splits_b68 (N : Nat) (c7 : Int32 → Int32 → qMem → Option qMem) (hc7 : ∀ (v1 : Int32) (v2 : Int32) (σ : qMem), qAt wM mX12_splits (ρv) 7 [(0, .ref 0), (1, .int v1), (2, .int v2)] [] σ (c7 v1 v2 σ)) (v1 : Int32) (v2 : Int32) (v3 : Int32) (v4 : Int32) (σ : qMem) : qAt wM mX12_splits (ρv) 68 [(0, .ref 0), (1, .int v1), (2, .int v2), (3, .int v3), (4, .int v4)] [] σ (fX12_splits_b68 N c7 v1 v2 v3 v4 σ) := by
  unfold fX12_splits_b68
  refine q_iload_n (i := 3) (x := v3) dX12_splits_68 rfl 3 rfl ?_
  refine q_cSp mX12_isDigit [.int v3] (st := []) dX12_splits_69 (ssX12_318) ⟨Nat.le_of_ble_eq_true rfl, Nat.le_of_ble_eq_true rfl⟩ rfl rfl (Nat.le_of_ble_eq_true rfl) (kX12_isDigit v3 σ) (fun y8 => ?_)
  refine q_if_eq (tgt := 100) dX12_splits_72 (by decide) ?_ ?_
  · exact q_sub [0, 1, 2, 3, 4] rfl (aX12_splits_b100 N c7 hc7 v1 v2 v3 v4 σ)
  exact q_sub [0, 1, 2, 3, 4] rfl (aX12_splits_l75 N c7 hc7 N v1 v2 v3 v4 σ)

def fX12_splits_s43 (N : Nat) (c7 : Int32 → Int32 → qMem → Option qMem) (c43 : Int32 → Int32 → Int32 → Int32 → qMem → Option qMem) (v1 : Int32) (v2 : Int32) (v3 : Int32) (v4 : Int32) (σ : qMem) : Option qMem :=
  (if v1 ≤ v4 then (fX12_splits_b68 N c7 v1 v2 v3 v4 σ) else (if ck v4 400 = true then ((fX12_isSmall (gi σ 18 v4.toNatClampNeg)).bind fun y7 => (if y7 = 0 then (fX12_splits_b68 N c7 v1 v2 v3 v4 σ) else (c43 v1 v2 v3 (v4 + 1) σ))) else none))
set_option maxRecDepth 20000 in
set_option maxHeartbeats 4000000 in
theorem aX12_splits_s43 (N : Nat) (c7 : Int32 → Int32 → qMem → Option qMem) (hc7 : ∀ (v1 : Int32) (v2 : Int32) (σ : qMem), qAt wM mX12_splits (ρv) 7 [(0, .ref 0), (1, .int v1), (2, .int v2)] [] σ (c7 v1 v2 σ)) (c43 : Int32 → Int32 → Int32 → Int32 → qMem → Option qMem) (hc43 : ∀ (v1 : Int32) (v2 : Int32) (v3 : Int32) (v4 : Int32) (σ : qMem), qAt wM mX12_splits (ρv) 43 [(0, .ref 0), (1, .int v1), (2, .int v2), (3, .int v3), (4, .int v4)] [] σ (c43 v1 v2 v3 v4 σ)) (v1 : Int32) (v2 : Int32) (v3 : Int32) (v4 : Int32) (σ : qMem) : qAt wM mX12_splits (ρv) 43 [(0, .ref 0), (1, .int v1), (2, .int v2), (3, .int v3), (4, .int v4)] [] σ (fX12_splits_s43 N c7 c43 v1 v2 v3 v4 σ) := by
  unfold fX12_splits_s43
  refine q_iload (i := 4) (x := v4) dX12_splits_43 4 rfl ?_
  refine q_iload_n (i := 1) (x := v1) dX12_splits_45 rfl 1 rfl ?_
  refine q_icmp_ge (tgt := 68) dX12_splits_46 (by decide) ?_ ?_
  · exact q_sub [0, 1, 2, 3, 4] rfl (aX12_splits_b68 N c7 hc7 v1 v2 v3 v4 σ)
  refine q_aload_n (i := 0) (x := 0) dX12_splits_49 rfl 0 rfl ?_
  refine q_getr (t := 18) dX12_splits_50 foX12_80 zM_0 rfl ?_
  refine q_iload (i := 4) (x := v4) dX12_splits_53 4 rfl ?_
  refine q_bald dX12_splits_55 zM_18 ?_
  refine q_cSp mX12_isSmall [.int (gi σ 18 v4.toNatClampNeg)] (st := []) dX12_splits_56 (ssX12_315) ⟨Nat.le_of_ble_eq_true rfl, Nat.le_of_ble_eq_true rfl⟩ rfl rfl (Nat.le_of_ble_eq_true rfl) (kX12_isSmall (gi σ 18 v4.toNatClampNeg) σ) (fun y7 => ?_)
  refine q_if_eq (tgt := 68) dX12_splits_59 (by decide) ?_ ?_
  · exact q_sub [0, 1, 2, 3, 4] rfl (aX12_splits_b68 N c7 hc7 v1 v2 v3 v4 σ)
  refine q_iinc (i := 4) (x := v4) (v := (v4 + 1)) (L' := [(4, .int (v4 + 1)), (0, .ref 0), (1, .int v1), (2, .int v2), (3, .int v3)]) dX12_splits_62 4 rfl (q_cst v4 (by decide)) (Nat.le_of_ble_eq_true rfl) rfl ?_
  refine q_goto (tgt := 43) dX12_splits_65 (by decide) ?_
  exact q_sub [1, 2, 3, 4, 0] rfl (hc43 v1 v2 v3 (v4 + 1) σ)
def fX12_splits_l43 (N : Nat) (c7 : Int32 → Int32 → qMem → Option qMem) : Nat → Int32 → Int32 → Int32 → Int32 → qMem → Option qMem
  | 0 => fun _ _ _ _ _ => none
  | n + 1 => fun v1 v2 v3 v4 σ => fX12_splits_s43 N c7 (fX12_splits_l43 N c7 n) v1 v2 v3 v4 σ
theorem aX12_splits_l43 (N : Nat) (c7 : Int32 → Int32 → qMem → Option qMem) (hc7 : ∀ (v1 : Int32) (v2 : Int32) (σ : qMem), qAt wM mX12_splits (ρv) 7 [(0, .ref 0), (1, .int v1), (2, .int v2)] [] σ (c7 v1 v2 σ)) : ∀ (n : Nat) (v1 : Int32) (v2 : Int32) (v3 : Int32) (v4 : Int32) (σ : qMem), qAt wM mX12_splits (ρv) 43 [(0, .ref 0), (1, .int v1), (2, .int v2), (3, .int v3), (4, .int v4)] [] σ (fX12_splits_l43 N c7 n v1 v2 v3 v4 σ) := by
  intro n
  induction n with
  | zero => intro v1 v2 v3 v4 σ; exact q_none
  | succ n ih => intro v1 v2 v3 v4 σ; exact aX12_splits_s43 N c7 hc7 (fX12_splits_l43 N c7 n) ih v1 v2 v3 v4 σ

def fX12_splits_s7 (N : Nat) (c7 : Int32 → Int32 → qMem → Option qMem) (v1 : Int32) (v2 : Int32) (σ : qMem) : Option qMem :=
  (if v1 ≤ v2 then (if ck (gi σ 0 33) 401 = true then (nmM (si σ 22 (gi σ 0 33).toNatClampNeg v1) fun s2 => (if ck (gi s2 0 33) 401 = true then (nmM (si s2 20 (gi s2 0 33).toNatClampNeg 0) fun s3 => (if ck (gi s3 0 33) 401 = true then (nmM (si s3 21 (gi s3 0 33).toNatClampNeg 0) fun s4 => (some s4)) else none)) else none)) else none) else (if ck v2 400 = true then (nmI (gi σ 18 v2.toNatClampNeg) fun x5 => (if x5 = 32 then (c7 v1 (v2 + 1) σ) else ((fX12_isSmall x5).bind fun y6 => (if y6 = 0 then (fX12_splits_b68 N c7 v1 v2 x5 (v2 + 1) σ) else (fX12_splits_l43 N c7 N v1 v2 x5 (v2 + 1) σ))))) else none))
set_option maxRecDepth 20000 in
set_option maxHeartbeats 4000000 in
theorem aX12_splits_s7 (N : Nat) (c7 : Int32 → Int32 → qMem → Option qMem) (hc7 : ∀ (v1 : Int32) (v2 : Int32) (σ : qMem), qAt wM mX12_splits (ρv) 7 [(0, .ref 0), (1, .int v1), (2, .int v2)] [] σ (c7 v1 v2 σ)) (v1 : Int32) (v2 : Int32) (σ : qMem) : qAt wM mX12_splits (ρv) 7 [(0, .ref 0), (1, .int v1), (2, .int v2)] [] σ (fX12_splits_s7 N c7 v1 v2 σ) := by
  unfold fX12_splits_s7
  refine q_iload_n (i := 2) (x := v2) dX12_splits_7 rfl 2 rfl ?_
  refine q_iload_n (i := 1) (x := v1) dX12_splits_8 rfl 1 rfl ?_
  refine q_icmp_ge (tgt := 264) dX12_splits_9 (by decide) ?_ ?_
  · refine q_aload_n (i := 0) (x := 0) dX12_splits_264 rfl 0 rfl ?_
    refine q_getr (t := 22) dX12_splits_265 foX12_95 zM_0 rfl ?_
    refine q_aload_n (i := 0) (x := 0) dX12_splits_268 rfl 0 rfl ?_
    refine q_geti dX12_splits_269 foX12_312 zM_0 rfl ?_
    refine q_iload_n (i := 1) (x := v1) dX12_splits_272 rfl 1 rfl ?_
    refine q_iast dX12_splits_273 zM_22 ?_
    refine q_nmM (fun s2 => ?_)
    refine q_aload_n (i := 0) (x := 0) dX12_splits_274 rfl 0 rfl ?_
    refine q_getr (t := 20) dX12_splits_275 foX12_89 zM_0 rfl ?_
    refine q_aload_n (i := 0) (x := 0) dX12_splits_278 rfl 0 rfl ?_
    refine q_geti dX12_splits_279 foX12_312 zM_0 rfl ?_
    refine q_iconst (v := 0) dX12_splits_282 (by decide) ?_
    refine q_iast dX12_splits_283 zM_20 ?_
    refine q_nmM (fun s3 => ?_)
    refine q_aload_n (i := 0) (x := 0) dX12_splits_284 rfl 0 rfl ?_
    refine q_getr (t := 21) dX12_splits_285 foX12_92 zM_0 rfl ?_
    refine q_aload_n (i := 0) (x := 0) dX12_splits_288 rfl 0 rfl ?_
    refine q_geti dX12_splits_289 foX12_312 zM_0 rfl ?_
    refine q_iconst (v := 0) dX12_splits_292 (by decide) ?_
    refine q_iast dX12_splits_293 zM_21 ?_
    refine q_nmM (fun s4 => ?_)
    exact q_vret (y := s4) dX12_splits_294 rfl rfl
  refine q_aload_n (i := 0) (x := 0) dX12_splits_12 rfl 0 rfl ?_
  refine q_getr (t := 18) dX12_splits_13 foX12_80 zM_0 rfl ?_
  refine q_iload_n (i := 2) (x := v2) dX12_splits_16 rfl 2 rfl ?_
  refine q_bald dX12_splits_17 zM_18 ?_
  refine q_nmI (fun x5 => ?_)
  refine q_istore_n (i := 3) (L' := [(3, .int x5), (0, .ref 0), (1, .int v1), (2, .int v2)]) dX12_splits_18 rfl (Nat.le_of_ble_eq_true rfl) rfl ?_
  refine q_iload_n (i := 3) (x := x5) dX12_splits_19 rfl 0 rfl ?_
  refine q_bipush (v := 32) dX12_splits_20 (by decide) ?_
  refine q_icmp_ne (tgt := 31) dX12_splits_22 (by decide) ?_ ?_
  · refine q_iload_n (i := 2) (x := v2) dX12_splits_31 rfl 3 rfl ?_
    refine q_iconst (v := 1) dX12_splits_32 (by decide) ?_
    refine q_iadd dX12_splits_33 ?_
    refine q_istore (i := 4) (L' := [(4, .int (v2 + 1)), (3, .int x5), (0, .ref 0), (1, .int v1), (2, .int v2)]) dX12_splits_34 (Nat.le_of_ble_eq_true rfl) rfl ?_
    refine q_iload_n (i := 3) (x := x5) dX12_splits_36 rfl 1 rfl ?_
    refine q_cSp mX12_isSmall [.int x5] (st := []) dX12_splits_37 (ssX12_315) ⟨Nat.le_of_ble_eq_true rfl, Nat.le_of_ble_eq_true rfl⟩ rfl rfl (Nat.le_of_ble_eq_true rfl) (kX12_isSmall x5 σ) (fun y6 => ?_)
    refine q_if_eq (tgt := 68) dX12_splits_40 (by decide) ?_ ?_
    · exact q_sub [2, 3, 4, 1, 0] rfl (aX12_splits_b68 N c7 hc7 v1 v2 x5 (v2 + 1) σ)
    exact q_sub [2, 3, 4, 1, 0] rfl (aX12_splits_l43 N c7 hc7 N v1 v2 x5 (v2 + 1) σ)
  refine q_iinc (i := 2) (x := v2) (v := (v2 + 1)) (L' := [(2, .int (v2 + 1)), (3, .int x5), (0, .ref 0), (1, .int v1)]) dX12_splits_25 3 rfl (q_cst v2 (by decide)) (Nat.le_of_ble_eq_true rfl) rfl ?_
  refine q_goto (tgt := 7) dX12_splits_28 (by decide) ?_
  exact q_sub [2, 3, 0] rfl (hc7 v1 (v2 + 1) σ)
def fX12_splits_l7 (N : Nat) : Nat → Int32 → Int32 → qMem → Option qMem
  | 0 => fun _ _ _ => none
  | n + 1 => fun v1 v2 σ => fX12_splits_s7 N (fX12_splits_l7 N n) v1 v2 σ
theorem aX12_splits_l7 (N : Nat) : ∀ (n : Nat) (v1 : Int32) (v2 : Int32) (σ : qMem), qAt wM mX12_splits (ρv) 7 [(0, .ref 0), (1, .int v1), (2, .int v2)] [] σ (fX12_splits_l7 N n v1 v2 σ) := by
  intro n
  induction n with
  | zero => intro v1 v2 σ; exact q_none
  | succ n ih => intro v1 v2 σ; exact aX12_splits_s7 N (fX12_splits_l7 N n) ih v1 v2 σ

def fX12_splits (N : Nat) (p1 : Int32) (σ : qMem) : Option qMem :=
  (nmM (si σ 0 33 0) fun s1 => (fX12_splits_l7 N N p1 0 s1))
set_option maxRecDepth 20000 in
set_option maxHeartbeats 4000000 in
theorem aX12_splits  (N : Nat) (p1 : Int32)  (σ : qMem) : qAt wM mX12_splits (ρv) 0 [(0, .ref 0), (1, .int p1)] [] σ (fX12_splits N p1 σ) := by
  unfold fX12_splits
  refine q_aload_n (i := 0) (x := 0) dX12_splits_0 rfl 0 rfl ?_
  refine q_iconst (v := 0) dX12_splits_1 (by decide) ?_
  refine q_puti dX12_splits_2 foX12_312 fwX12_33 zM_0 rfl ?_
  refine q_nmM (fun s1 => ?_)
  refine q_iconst (v := 0) dX12_splits_5 (by decide) ?_
  refine q_istore_n (i := 2) (L' := [(2, .int 0), (0, .ref 0), (1, .int p1)]) dX12_splits_6 rfl (Nat.le_of_ble_eq_true rfl) rfl ?_
  exact q_sub [1, 2, 0] rfl (aX12_splits_l7 N N p1 0 s1)
theorem kX12_splits  (N : Nat) (p1 : Int32)  (σ : qMem) : qMc wM mX12_splits (ρv) [.ref 0, .int p1] σ (fX12_splits N p1 σ) := qMc_of (moX12_splits) (Nat.le_of_ble_eq_true rfl) (aX12_splits N p1  σ)

theorem dX12_fine_0 : decode cX12_fine 0 = .ok (.aload_n 0, 1) := by decide +kernel
theorem dX12_fine_1 : decode cX12_fine 1 = .ok (.getfield 325, 3) := by decide +kernel
theorem dX12_fine_4 : decode cX12_fine 4 = .ok (.iconst (-1), 1) := by decide +kernel
theorem dX12_fine_5 : decode cX12_fine 5 = .ok (.if_icmp .ne 7, 3) := by decide +kernel
theorem dX12_fine_8 : decode cX12_fine 8 = .ok (.iconst 1, 1) := by decide +kernel
theorem dX12_fine_9 : decode cX12_fine 9 = .ok (.goto 4, 3) := by decide +kernel
theorem dX12_fine_12 : decode cX12_fine 12 = .ok (.iconst 0, 1) := by decide +kernel
theorem dX12_fine_13 : decode cX12_fine 13 = .ok (.ireturn, 1) := by decide +kernel

def fX12_fine  (σ : qMem) : Option Int32 :=
  (if (gi σ 0 36) = (-1) then (some 1) else (some 0))
set_option maxRecDepth 20000 in
set_option maxHeartbeats 4000000 in
theorem aX12_fine    (σ : qMem) : qAt wM mX12_fine (ρp σ) 0 [(0, .ref 0)] [] σ (fX12_fine σ) := by
  unfold fX12_fine
  refine q_aload_n (i := 0) (x := 0) dX12_fine_0 rfl 0 rfl ?_
  refine q_geti dX12_fine_1 foX12_325 zM_0 rfl ?_
  refine q_iconst (v := (-1)) dX12_fine_4 (by decide) ?_
  refine q_icmp_ne (tgt := 12) dX12_fine_5 (by decide) ?_ ?_
  · refine q_iconst (v := 0) dX12_fine_12 (by decide) ?_
    exact q_iretz (y := 0) dX12_fine_13 rfl rfl rfl
  refine q_iconst (v := 1) dX12_fine_8 (by decide) ?_
  refine q_goto (tgt := 13) dX12_fine_9 (by decide) ?_
  exact q_iretz (y := 1) dX12_fine_13 rfl rfl rfl
theorem kX12_fine    (σ : qMem) : qMc wM mX12_fine (ρp σ) [.ref 0] σ (fX12_fine σ) := qMc_of (moX12_fine) (Nat.le_of_ble_eq_true rfl) (aX12_fine  σ)

theorem dX12_faults_0 : decode cX12_faults 0 = .ok (.aload_n 0, 1) := by decide +kernel
theorem dX12_faults_1 : decode cX12_faults 1 = .ok (.invokevirtual 328, 3) := by decide +kernel
theorem dX12_faults_4 : decode cX12_faults 4 = .ok (.ifCond .eq 16, 3) := by decide +kernel
theorem dX12_faults_7 : decode cX12_faults 7 = .ok (.aload_n 0, 1) := by decide +kernel
theorem dX12_faults_8 : decode cX12_faults 8 = .ok (.aload_n 0, 1) := by decide +kernel
theorem dX12_faults_9 : decode cX12_faults 9 = .ok (.getfield 95, 3) := by decide +kernel
theorem dX12_faults_12 : decode cX12_faults 12 = .ok (.aload_n 0, 1) := by decide +kernel
theorem dX12_faults_13 : decode cX12_faults 13 = .ok (.getfield 332, 3) := by decide +kernel
theorem dX12_faults_16 : decode cX12_faults 16 = .ok (.iaload, 1) := by decide +kernel
theorem dX12_faults_17 : decode cX12_faults 17 = .ok (.putfield 325, 3) := by decide +kernel
theorem dX12_faults_20 : decode cX12_faults 20 = .ok (.return_, 1) := by decide +kernel

def fX12_faults  (σ : qMem) : Option qMem :=
  ((fX12_fine σ).bind fun y1 => (if y1 = 0 then (some σ) else (if ck (gi σ 0 34) 401 = true then (nmM (si σ 0 36 (gi σ 22 (gi σ 0 34).toNatClampNeg)) fun s2 => (some s2)) else none)))
set_option maxRecDepth 20000 in
set_option maxHeartbeats 4000000 in
theorem aX12_faults    (σ : qMem) : qAt wM mX12_faults (ρv) 0 [(0, .ref 0)] [] σ (fX12_faults σ) := by
  unfold fX12_faults
  refine q_aload_n (i := 0) (x := 0) dX12_faults_0 rfl 0 rfl ?_
  refine q_cVp mX12_fine [] (st := []) dX12_faults_1 (svX12_328) ⟨Nat.le_of_ble_eq_true rfl, Nat.le_of_ble_eq_true rfl⟩ zM_0 rfl rfl rfl (Nat.le_of_ble_eq_true rfl) (kX12_fine σ) (fun y1 => ?_)
  refine q_if_eq (tgt := 20) dX12_faults_4 (by decide) ?_ ?_
  · exact q_vret (y := σ) dX12_faults_20 rfl rfl
  refine q_aload_n (i := 0) (x := 0) dX12_faults_7 rfl 0 rfl ?_
  refine q_aload_n (i := 0) (x := 0) dX12_faults_8 rfl 0 rfl ?_
  refine q_getr (t := 22) dX12_faults_9 foX12_95 zM_0 rfl ?_
  refine q_aload_n (i := 0) (x := 0) dX12_faults_12 rfl 0 rfl ?_
  refine q_geti dX12_faults_13 foX12_332 zM_0 rfl ?_
  refine q_iald dX12_faults_16 zM_22 ?_
  refine q_puti dX12_faults_17 foX12_325 fwX12_36 zM_0 rfl ?_
  refine q_nmM (fun s2 => ?_)
  exact q_vret (y := s2) dX12_faults_20 rfl rfl
theorem kX12_faults    (σ : qMem) : qMc wM mX12_faults (ρv) [.ref 0] σ (fX12_faults σ) := qMc_of (moX12_faults) (Nat.le_of_ble_eq_true rfl) (aX12_faults  σ)

theorem dX12_takes_0 : decode cX12_takes 0 = .ok (.aload_n 0, 1) := by decide +kernel
theorem dX12_takes_1 : decode cX12_takes 1 = .ok (.invokevirtual 328, 3) := by decide +kernel
theorem dX12_takes_4 : decode cX12_takes 4 = .ok (.ifCond .eq 20, 3) := by decide +kernel
theorem dX12_takes_7 : decode cX12_takes 7 = .ok (.aload_n 0, 1) := by decide +kernel
theorem dX12_takes_8 : decode cX12_takes 8 = .ok (.getfield 89, 3) := by decide +kernel
theorem dX12_takes_11 : decode cX12_takes 11 = .ok (.aload_n 0, 1) := by decide +kernel
theorem dX12_takes_12 : decode cX12_takes 12 = .ok (.getfield 332, 3) := by decide +kernel
theorem dX12_takes_15 : decode cX12_takes 15 = .ok (.iaload, 1) := by decide +kernel
theorem dX12_takes_16 : decode cX12_takes 16 = .ok (.iload_n 1, 1) := by decide +kernel
theorem dX12_takes_17 : decode cX12_takes 17 = .ok (.if_icmp .ne 7, 3) := by decide +kernel
theorem dX12_takes_20 : decode cX12_takes 20 = .ok (.iconst 1, 1) := by decide +kernel
theorem dX12_takes_21 : decode cX12_takes 21 = .ok (.goto 4, 3) := by decide +kernel
theorem dX12_takes_24 : decode cX12_takes 24 = .ok (.iconst 0, 1) := by decide +kernel
theorem dX12_takes_25 : decode cX12_takes 25 = .ok (.istore_n 2, 1) := by decide +kernel
theorem dX12_takes_26 : decode cX12_takes 26 = .ok (.iload_n 2, 1) := by decide +kernel
theorem dX12_takes_27 : decode cX12_takes 27 = .ok (.ifCond .eq 13, 3) := by decide +kernel
theorem dX12_takes_30 : decode cX12_takes 30 = .ok (.aload_n 0, 1) := by decide +kernel
theorem dX12_takes_31 : decode cX12_takes 31 = .ok (.dup, 1) := by decide +kernel
theorem dX12_takes_32 : decode cX12_takes 32 = .ok (.getfield 332, 3) := by decide +kernel
theorem dX12_takes_35 : decode cX12_takes 35 = .ok (.iconst 1, 1) := by decide +kernel
theorem dX12_takes_36 : decode cX12_takes 36 = .ok (.iadd, 1) := by decide +kernel
theorem dX12_takes_37 : decode cX12_takes 37 = .ok (.putfield 332, 3) := by decide +kernel
theorem dX12_takes_40 : decode cX12_takes 40 = .ok (.iload_n 2, 1) := by decide +kernel
theorem dX12_takes_41 : decode cX12_takes 41 = .ok (.ireturn, 1) := by decide +kernel
def fX12_takes_b25 (u0 : Int32) (σ : qMem) : Option (Int32 × qMem) :=
  (if u0 = 0 then (if u0 = 0 ∨ u0 = 1 then some (u0, σ) else none) else (nmM (si σ 0 34 ((gi σ 0 34) + 1)) fun s2 => (if u0 = 0 ∨ u0 = 1 then some (u0, s2) else none)))
set_option maxRecDepth 20000 in
set_option maxHeartbeats 4000000 in
theorem aX12_takes_b25 (u0 : Int32) (σ : qMem) : qAt wM mX12_takes (ρi) 25 [(0, .ref 0)] [.int u0] σ (fX12_takes_b25 u0 σ) := by
  unfold fX12_takes_b25
  refine q_istore_n (i := 2) (L' := [(2, .int u0), (0, .ref 0)]) dX12_takes_25 rfl (Nat.le_of_ble_eq_true rfl) rfl ?_
  refine q_iload_n (i := 2) (x := u0) dX12_takes_26 rfl 0 rfl ?_
  refine q_if_eq (tgt := 40) dX12_takes_27 (by decide) ?_ ?_
  · refine q_iload_n (i := 2) (x := u0) dX12_takes_40 rfl 0 rfl ?_
    exact q_if (fun hz => q_iretz (y := (u0, σ)) dX12_takes_41 rfl (nb_ok hz) rfl)
  refine q_aload_n (i := 0) (x := 0) dX12_takes_30 rfl 1 rfl ?_
  refine q_dup dX12_takes_31 rfl ?_
  refine q_geti dX12_takes_32 foX12_332 zM_0 rfl ?_
  refine q_iconst (v := 1) dX12_takes_35 (by decide) ?_
  refine q_iadd dX12_takes_36 ?_
  refine q_puti dX12_takes_37 foX12_332 fwX12_34 zM_0 rfl ?_
  refine q_nmM (fun s2 => ?_)
  refine q_iload_n (i := 2) (x := u0) dX12_takes_40 rfl 0 rfl ?_
  exact q_if (fun hz => q_iretz (y := (u0, s2)) dX12_takes_41 rfl (nb_ok hz) rfl)

def fX12_takes_b24 (σ : qMem) : Option (Int32 × qMem) :=
  (fX12_takes_b25 0 σ)
set_option maxRecDepth 20000 in
set_option maxHeartbeats 4000000 in
theorem aX12_takes_b24 (σ : qMem) : qAt wM mX12_takes (ρi) 24 [(0, .ref 0)] [] σ (fX12_takes_b24 σ) := by
  unfold fX12_takes_b24
  refine q_iconst (v := 0) dX12_takes_24 (by decide) ?_
  exact q_sub [0] rfl (aX12_takes_b25 0 σ)

def fX12_takes (p1 : Int32) (σ : qMem) : Option (Int32 × qMem) :=
  ((fX12_fine σ).bind fun y1 => (if y1 = 0 then (fX12_takes_b24 σ) else (if ck (gi σ 0 34) 401 = true then (if (gi σ 20 (gi σ 0 34).toNatClampNeg) = p1 then (fX12_takes_b25 1 σ) else (fX12_takes_b24 σ)) else none)))
set_option maxRecDepth 20000 in
set_option maxHeartbeats 4000000 in
theorem aX12_takes  (p1 : Int32)  (σ : qMem) : qAt wM mX12_takes (ρi) 0 [(0, .ref 0), (1, .int p1)] [] σ (fX12_takes p1 σ) := by
  unfold fX12_takes
  refine q_aload_n (i := 0) (x := 0) dX12_takes_0 rfl 0 rfl ?_
  refine q_cVp mX12_fine [] (st := []) dX12_takes_1 (svX12_328) ⟨Nat.le_of_ble_eq_true rfl, Nat.le_of_ble_eq_true rfl⟩ zM_0 rfl rfl rfl (Nat.le_of_ble_eq_true rfl) (kX12_fine σ) (fun y1 => ?_)
  refine q_if_eq (tgt := 24) dX12_takes_4 (by decide) ?_ ?_
  · exact q_sub [0] rfl (aX12_takes_b24 σ)
  refine q_aload_n (i := 0) (x := 0) dX12_takes_7 rfl 0 rfl ?_
  refine q_getr (t := 20) dX12_takes_8 foX12_89 zM_0 rfl ?_
  refine q_aload_n (i := 0) (x := 0) dX12_takes_11 rfl 0 rfl ?_
  refine q_geti dX12_takes_12 foX12_332 zM_0 rfl ?_
  refine q_iald dX12_takes_15 zM_20 ?_
  refine q_iload_n (i := 1) (x := p1) dX12_takes_16 rfl 1 rfl ?_
  refine q_icmp_ne (tgt := 24) dX12_takes_17 (by decide) ?_ ?_
  · exact q_sub [0] rfl (aX12_takes_b24 σ)
  refine q_iconst (v := 1) dX12_takes_20 (by decide) ?_
  refine q_goto (tgt := 25) dX12_takes_21 (by decide) ?_
  exact q_sub [0] rfl (aX12_takes_b25 1 σ)
theorem kX12_takes  (p1 : Int32)  (σ : qMem) : qMc wM mX12_takes (ρi) [.ref 0, .int p1] σ (fX12_takes p1 σ) := qMc_of (moX12_takes) (Nat.le_of_ble_eq_true rfl) (aX12_takes p1  σ)

theorem dX12_must_0 : decode cX12_must 0 = .ok (.aload_n 0, 1) := by decide +kernel
theorem dX12_must_1 : decode cX12_must 1 = .ok (.iload_n 1, 1) := by decide +kernel
theorem dX12_must_2 : decode cX12_must 2 = .ok (.invokevirtual 335, 3) := by decide +kernel
theorem dX12_must_5 : decode cX12_must 5 = .ok (.ifCond .ne 7, 3) := by decide +kernel
theorem dX12_must_8 : decode cX12_must 8 = .ok (.aload_n 0, 1) := by decide +kernel
theorem dX12_must_9 : decode cX12_must 9 = .ok (.invokevirtual 338, 3) := by decide +kernel
theorem dX12_must_12 : decode cX12_must 12 = .ok (.return_, 1) := by decide +kernel

def fX12_must (p1 : Int32) (σ : qMem) : Option qMem :=
  ((fX12_takes p1 σ).bind fun y1 => (if y1.1 = 0 then ((fX12_faults y1.2).bind fun y2 => (some y2)) else (some y1.2)))
set_option maxRecDepth 20000 in
set_option maxHeartbeats 4000000 in
theorem aX12_must  (p1 : Int32)  (σ : qMem) : qAt wM mX12_must (ρv) 0 [(0, .ref 0), (1, .int p1)] [] σ (fX12_must p1 σ) := by
  unfold fX12_must
  refine q_aload_n (i := 0) (x := 0) dX12_must_0 rfl 0 rfl ?_
  refine q_iload_n (i := 1) (x := p1) dX12_must_1 rfl 1 rfl ?_
  refine q_cVi mX12_takes [.int p1] (st := []) dX12_must_2 (svX12_335) ⟨Nat.le_of_ble_eq_true rfl, Nat.le_of_ble_eq_true rfl⟩ zM_0 rfl rfl rfl (Nat.le_of_ble_eq_true rfl) (kX12_takes p1 σ) (fun y1 => ?_)
  refine q_if_ne (tgt := 12) dX12_must_5 (by decide) ?_ ?_
  · exact q_vret (y := y1.2) dX12_must_12 rfl rfl
  refine q_aload_n (i := 0) (x := 0) dX12_must_8 rfl 0 rfl ?_
  refine q_cVv mX12_faults [] (st := []) dX12_must_9 (svX12_338) ⟨Nat.le_of_ble_eq_true rfl, Nat.le_of_ble_eq_true rfl⟩ zM_0 rfl rfl rfl (Nat.le_of_ble_eq_true rfl) (kX12_faults y1.2) (fun y2 => ?_)
  exact q_vret (y := y2) dX12_must_12 rfl rfl
theorem kX12_must  (p1 : Int32)  (σ : qMem) : qMc wM mX12_must (ρv) [.ref 0, .int p1] σ (fX12_must p1 σ) := qMc_of (moX12_must) (Nat.le_of_ble_eq_true rfl) (aX12_must p1  σ)

theorem dX12_leaf_0 : decode cX12_leaf 0 = .ok (.aload_n 0, 1) := by decide +kernel
theorem dX12_leaf_1 : decode cX12_leaf 1 = .ok (.getfield 341, 3) := by decide +kernel
theorem dX12_leaf_4 : decode cX12_leaf 4 = .ok (.bipush 50, 2) := by decide +kernel
theorem dX12_leaf_6 : decode cX12_leaf 6 = .ok (.if_icmp .ne 7, 3) := by decide +kernel
theorem dX12_leaf_9 : decode cX12_leaf 9 = .ok (.aload_n 0, 1) := by decide +kernel
theorem dX12_leaf_10 : decode cX12_leaf 10 = .ok (.invokevirtual 338, 3) := by decide +kernel
theorem dX12_leaf_13 : decode cX12_leaf 13 = .ok (.aload_n 0, 1) := by decide +kernel
theorem dX12_leaf_14 : decode cX12_leaf 14 = .ok (.dup, 1) := by decide +kernel
theorem dX12_leaf_15 : decode cX12_leaf 15 = .ok (.getfield 341, 3) := by decide +kernel
theorem dX12_leaf_18 : decode cX12_leaf 18 = .ok (.iconst 1, 1) := by decide +kernel
theorem dX12_leaf_19 : decode cX12_leaf 19 = .ok (.iadd, 1) := by decide +kernel
theorem dX12_leaf_20 : decode cX12_leaf 20 = .ok (.putfield 341, 3) := by decide +kernel
theorem dX12_leaf_23 : decode cX12_leaf 23 = .ok (.aload_n 0, 1) := by decide +kernel
theorem dX12_leaf_24 : decode cX12_leaf 24 = .ok (.invokevirtual 328, 3) := by decide +kernel
theorem dX12_leaf_27 : decode cX12_leaf 27 = .ok (.ifCond .eq 13, 3) := by decide +kernel
theorem dX12_leaf_30 : decode cX12_leaf 30 = .ok (.aload_n 0, 1) := by decide +kernel
theorem dX12_leaf_31 : decode cX12_leaf 31 = .ok (.dup, 1) := by decide +kernel
theorem dX12_leaf_32 : decode cX12_leaf 32 = .ok (.getfield 332, 3) := by decide +kernel
theorem dX12_leaf_35 : decode cX12_leaf 35 = .ok (.iconst 1, 1) := by decide +kernel
theorem dX12_leaf_36 : decode cX12_leaf 36 = .ok (.iadd, 1) := by decide +kernel
theorem dX12_leaf_37 : decode cX12_leaf 37 = .ok (.putfield 332, 3) := by decide +kernel
theorem dX12_leaf_40 : decode cX12_leaf 40 = .ok (.return_, 1) := by decide +kernel
def fX12_leaf_b13 (σ : qMem) : Option qMem :=
  (nmM (si σ 0 35 ((gi σ 0 35) + 1)) fun s2 => ((fX12_fine s2).bind fun y3 => (if y3 = 0 then (some s2) else (nmM (si s2 0 34 ((gi s2 0 34) + 1)) fun s4 => (some s4)))))
set_option maxRecDepth 20000 in
set_option maxHeartbeats 4000000 in
theorem aX12_leaf_b13 (σ : qMem) : qAt wM mX12_leaf (ρv) 13 [(0, .ref 0)] [] σ (fX12_leaf_b13 σ) := by
  unfold fX12_leaf_b13
  refine q_aload_n (i := 0) (x := 0) dX12_leaf_13 rfl 0 rfl ?_
  refine q_dup dX12_leaf_14 rfl ?_
  refine q_geti dX12_leaf_15 foX12_341 zM_0 rfl ?_
  refine q_iconst (v := 1) dX12_leaf_18 (by decide) ?_
  refine q_iadd dX12_leaf_19 ?_
  refine q_puti dX12_leaf_20 foX12_341 fwX12_35 zM_0 rfl ?_
  refine q_nmM (fun s2 => ?_)
  refine q_aload_n (i := 0) (x := 0) dX12_leaf_23 rfl 0 rfl ?_
  refine q_cVp mX12_fine [] (st := []) dX12_leaf_24 (svX12_328) ⟨Nat.le_of_ble_eq_true rfl, Nat.le_of_ble_eq_true rfl⟩ zM_0 rfl rfl rfl (Nat.le_of_ble_eq_true rfl) (kX12_fine s2) (fun y3 => ?_)
  refine q_if_eq (tgt := 40) dX12_leaf_27 (by decide) ?_ ?_
  · exact q_vret (y := s2) dX12_leaf_40 rfl rfl
  refine q_aload_n (i := 0) (x := 0) dX12_leaf_30 rfl 0 rfl ?_
  refine q_dup dX12_leaf_31 rfl ?_
  refine q_geti dX12_leaf_32 foX12_332 zM_0 rfl ?_
  refine q_iconst (v := 1) dX12_leaf_35 (by decide) ?_
  refine q_iadd dX12_leaf_36 ?_
  refine q_puti dX12_leaf_37 foX12_332 fwX12_34 zM_0 rfl ?_
  refine q_nmM (fun s4 => ?_)
  exact q_vret (y := s4) dX12_leaf_40 rfl rfl

def fX12_leaf  (σ : qMem) : Option qMem :=
  (if (gi σ 0 35) = 50 then ((fX12_faults σ).bind fun y1 => (fX12_leaf_b13 y1)) else (fX12_leaf_b13 σ))
set_option maxRecDepth 20000 in
set_option maxHeartbeats 4000000 in
theorem aX12_leaf    (σ : qMem) : qAt wM mX12_leaf (ρv) 0 [(0, .ref 0)] [] σ (fX12_leaf σ) := by
  unfold fX12_leaf
  refine q_aload_n (i := 0) (x := 0) dX12_leaf_0 rfl 0 rfl ?_
  refine q_geti dX12_leaf_1 foX12_341 zM_0 rfl ?_
  refine q_bipush (v := 50) dX12_leaf_4 (by decide) ?_
  refine q_icmp_ne (tgt := 13) dX12_leaf_6 (by decide) ?_ ?_
  · exact q_sub [0] rfl (aX12_leaf_b13 σ)
  refine q_aload_n (i := 0) (x := 0) dX12_leaf_9 rfl 0 rfl ?_
  refine q_cVv mX12_faults [] (st := []) dX12_leaf_10 (svX12_338) ⟨Nat.le_of_ble_eq_true rfl, Nat.le_of_ble_eq_true rfl⟩ zM_0 rfl rfl rfl (Nat.le_of_ble_eq_true rfl) (kX12_faults σ) (fun y1 => ?_)
  exact q_sub [0] rfl (aX12_leaf_b13 y1)
theorem kX12_leaf    (σ : qMem) : qMc wM mX12_leaf (ρv) [.ref 0] σ (fX12_leaf σ) := qMc_of (moX12_leaf) (Nat.le_of_ble_eq_true rfl) (aX12_leaf  σ)

theorem dX12_readPart_0 : decode cX12_readPart 0 = .ok (.aload_n 0, 1) := by decide +kernel
theorem dX12_readPart_1 : decode cX12_readPart 1 = .ok (.invokevirtual 328, 3) := by decide +kernel
theorem dX12_readPart_4 : decode cX12_readPart 4 = .ok (.ifCond .ne 4, 3) := by decide +kernel
theorem dX12_readPart_7 : decode cX12_readPart 7 = .ok (.return_, 1) := by decide +kernel
theorem dX12_readPart_8 : decode cX12_readPart 8 = .ok (.aload_n 0, 1) := by decide +kernel
theorem dX12_readPart_9 : decode cX12_readPart 9 = .ok (.getfield 89, 3) := by decide +kernel
theorem dX12_readPart_12 : decode cX12_readPart 12 = .ok (.aload_n 0, 1) := by decide +kernel
theorem dX12_readPart_13 : decode cX12_readPart 13 = .ok (.getfield 332, 3) := by decide +kernel
theorem dX12_readPart_16 : decode cX12_readPart 16 = .ok (.iaload, 1) := by decide +kernel
theorem dX12_readPart_17 : decode cX12_readPart 17 = .ok (.istore_n 2, 1) := by decide +kernel
theorem dX12_readPart_18 : decode cX12_readPart 18 = .ok (.iload_n 2, 1) := by decide +kernel
theorem dX12_readPart_19 : decode cX12_readPart 19 = .ok (.bipush 91, 2) := by decide +kernel
theorem dX12_readPart_21 : decode cX12_readPart 21 = .ok (.invokestatic 356, 3) := by decide +kernel
theorem dX12_readPart_24 : decode cX12_readPart 24 = .ok (.if_icmp .ne 50, 3) := by decide +kernel
theorem dX12_readPart_27 : decode cX12_readPart 27 = .ok (.iload_n 1, 1) := by decide +kernel
theorem dX12_readPart_28 : decode cX12_readPart 28 = .ok (.bipush 8, 2) := by decide +kernel
theorem dX12_readPart_30 : decode cX12_readPart 30 = .ok (.if_icmp .ne 7, 3) := by decide +kernel
theorem dX12_readPart_33 : decode cX12_readPart 33 = .ok (.aload_n 0, 1) := by decide +kernel
theorem dX12_readPart_34 : decode cX12_readPart 34 = .ok (.invokevirtual 338, 3) := by decide +kernel
theorem dX12_readPart_37 : decode cX12_readPart 37 = .ok (.aload_n 0, 1) := by decide +kernel
theorem dX12_readPart_38 : decode cX12_readPart 38 = .ok (.invokevirtual 328, 3) := by decide +kernel
theorem dX12_readPart_41 : decode cX12_readPart 41 = .ok (.ifCond .ne 4, 3) := by decide +kernel
theorem dX12_readPart_44 : decode cX12_readPart 44 = .ok (.return_, 1) := by decide +kernel
theorem dX12_readPart_45 : decode cX12_readPart 45 = .ok (.aload_n 0, 1) := by decide +kernel
theorem dX12_readPart_46 : decode cX12_readPart 46 = .ok (.dup, 1) := by decide +kernel
theorem dX12_readPart_47 : decode cX12_readPart 47 = .ok (.getfield 332, 3) := by decide +kernel
theorem dX12_readPart_50 : decode cX12_readPart 50 = .ok (.iconst 1, 1) := by decide +kernel
theorem dX12_readPart_51 : decode cX12_readPart 51 = .ok (.iadd, 1) := by decide +kernel
theorem dX12_readPart_52 : decode cX12_readPart 52 = .ok (.putfield 332, 3) := by decide +kernel
theorem dX12_readPart_55 : decode cX12_readPart 55 = .ok (.aload_n 0, 1) := by decide +kernel
theorem dX12_readPart_56 : decode cX12_readPart 56 = .ok (.iload_n 1, 1) := by decide +kernel
theorem dX12_readPart_57 : decode cX12_readPart 57 = .ok (.iconst 1, 1) := by decide +kernel
theorem dX12_readPart_58 : decode cX12_readPart 58 = .ok (.iadd, 1) := by decide +kernel
theorem dX12_readPart_59 : decode cX12_readPart 59 = .ok (.invokevirtual 344, 3) := by decide +kernel
theorem dX12_readPart_62 : decode cX12_readPart 62 = .ok (.aload_n 0, 1) := by decide +kernel
theorem dX12_readPart_63 : decode cX12_readPart 63 = .ok (.bipush 93, 2) := by decide +kernel
theorem dX12_readPart_65 : decode cX12_readPart 65 = .ok (.invokestatic 356, 3) := by decide +kernel
theorem dX12_readPart_68 : decode cX12_readPart 68 = .ok (.invokevirtual 360, 3) := by decide +kernel
theorem dX12_readPart_71 : decode cX12_readPart 71 = .ok (.goto 47, 3) := by decide +kernel
theorem dX12_readPart_74 : decode cX12_readPart 74 = .ok (.iload_n 2, 1) := by decide +kernel
theorem dX12_readPart_75 : decode cX12_readPart 75 = .ok (.bipush 50, 2) := by decide +kernel
theorem dX12_readPart_77 : decode cX12_readPart 77 = .ok (.if_icmp .ne 18, 3) := by decide +kernel
theorem dX12_readPart_80 : decode cX12_readPart 80 = .ok (.aload_n 0, 1) := by decide +kernel
theorem dX12_readPart_81 : decode cX12_readPart 81 = .ok (.getfield 92, 3) := by decide +kernel
theorem dX12_readPart_84 : decode cX12_readPart 84 = .ok (.aload_n 0, 1) := by decide +kernel
theorem dX12_readPart_85 : decode cX12_readPart 85 = .ok (.getfield 332, 3) := by decide +kernel
theorem dX12_readPart_88 : decode cX12_readPart 88 = .ok (.iaload, 1) := by decide +kernel
theorem dX12_readPart_89 : decode cX12_readPart 89 = .ok (.sipush 1000, 3) := by decide +kernel
theorem dX12_readPart_92 : decode cX12_readPart 92 = .ok (.if_icmp .le 15, 3) := by decide +kernel
theorem dX12_readPart_95 : decode cX12_readPart 95 = .ok (.iload_n 2, 1) := by decide +kernel
theorem dX12_readPart_96 : decode cX12_readPart 96 = .ok (.bipush 8, 2) := by decide +kernel
theorem dX12_readPart_98 : decode cX12_readPart 98 = .ok (.if_icmp .lt 16, 3) := by decide +kernel
theorem dX12_readPart_101 : decode cX12_readPart 101 = .ok (.iload_n 2, 1) := by decide +kernel
theorem dX12_readPart_102 : decode cX12_readPart 102 = .ok (.bipush 12, 2) := by decide +kernel
theorem dX12_readPart_104 : decode cX12_readPart 104 = .ok (.if_icmp .gt 10, 3) := by decide +kernel
theorem dX12_readPart_107 : decode cX12_readPart 107 = .ok (.aload_n 0, 1) := by decide +kernel
theorem dX12_readPart_108 : decode cX12_readPart 108 = .ok (.invokevirtual 369, 3) := by decide +kernel
theorem dX12_readPart_111 : decode cX12_readPart 111 = .ok (.goto 7, 3) := by decide +kernel
theorem dX12_readPart_114 : decode cX12_readPart 114 = .ok (.aload_n 0, 1) := by decide +kernel
theorem dX12_readPart_115 : decode cX12_readPart 115 = .ok (.invokevirtual 338, 3) := by decide +kernel
theorem dX12_readPart_118 : decode cX12_readPart 118 = .ok (.return_, 1) := by decide +kernel
def fX12_readPart_b114 (N : Nat) (rX12_readSum : Int32 → qMem → Option qMem) (σ : qMem) : Option qMem :=
  ((fX12_faults σ).bind fun y11 => (some y11))
set_option maxRecDepth 20000 in
set_option maxHeartbeats 4000000 in
theorem aX12_readPart_b114 (d : Nat) (N : Nat) (rX12_readSum : Int32 → qMem → Option qMem) (hX12_readSum : ∀ (p1 : Int32)  (σ : qMem), qMc wM (mX12_readSum d) (ρv) [.ref 0, .int p1] σ (rX12_readSum p1 σ)) (σ : qMem) : qAt wM (mX12_readPart d) (ρv) 114 [(0, .ref 0)] [] σ (fX12_readPart_b114 N rX12_readSum σ) := by
  unfold fX12_readPart_b114
  refine q_aload_n (i := 0) (x := 0) dX12_readPart_114 rfl 0 rfl ?_
  refine q_cVv mX12_faults [] (st := []) dX12_readPart_115 (svX12_338) (by unfold rR mX12_faults mX12_readPart; constructor <;> dsimp only <;> omega) zM_0 rfl rfl rfl (Nat.le_of_ble_eq_true rfl) (kX12_faults σ) (fun y11 => ?_)
  exact q_vret (y := y11) dX12_readPart_118 rfl rfl

def fX12_readPart_b107 (N : Nat) (rX12_readSum : Int32 → qMem → Option qMem) (σ : qMem) : Option qMem :=
  ((fX12_leaf σ).bind fun y10 => (some y10))
set_option maxRecDepth 20000 in
set_option maxHeartbeats 4000000 in
theorem aX12_readPart_b107 (d : Nat) (N : Nat) (rX12_readSum : Int32 → qMem → Option qMem) (hX12_readSum : ∀ (p1 : Int32)  (σ : qMem), qMc wM (mX12_readSum d) (ρv) [.ref 0, .int p1] σ (rX12_readSum p1 σ)) (σ : qMem) : qAt wM (mX12_readPart d) (ρv) 107 [(0, .ref 0)] [] σ (fX12_readPart_b107 N rX12_readSum σ) := by
  unfold fX12_readPart_b107
  refine q_aload_n (i := 0) (x := 0) dX12_readPart_107 rfl 0 rfl ?_
  refine q_cVv mX12_leaf [] (st := []) dX12_readPart_108 (svX12_369) (by unfold rR mX12_leaf mX12_readPart; constructor <;> dsimp only <;> omega) zM_0 rfl rfl rfl (Nat.le_of_ble_eq_true rfl) (kX12_leaf σ) (fun y10 => ?_)
  refine q_goto (tgt := 118) dX12_readPart_111 (by decide) ?_
  exact q_vret (y := y10) dX12_readPart_118 rfl rfl

def fX12_readPart_b95 (N : Nat) (rX12_readSum : Int32 → qMem → Option qMem) (v2 : Int32) (σ : qMem) : Option qMem :=
  (if v2 < 8 then (fX12_readPart_b114 N rX12_readSum σ) else (if 12 < v2 then (fX12_readPart_b114 N rX12_readSum σ) else (fX12_readPart_b107 N rX12_readSum σ)))
set_option maxRecDepth 20000 in
set_option maxHeartbeats 4000000 in
theorem aX12_readPart_b95 (d : Nat) (N : Nat) (rX12_readSum : Int32 → qMem → Option qMem) (hX12_readSum : ∀ (p1 : Int32)  (σ : qMem), qMc wM (mX12_readSum d) (ρv) [.ref 0, .int p1] σ (rX12_readSum p1 σ)) (v2 : Int32) (σ : qMem) : qAt wM (mX12_readPart d) (ρv) 95 [(0, .ref 0), (2, .int v2)] [] σ (fX12_readPart_b95 N rX12_readSum v2 σ) := by
  unfold fX12_readPart_b95
  refine q_iload_n (i := 2) (x := v2) dX12_readPart_95 rfl 1 rfl ?_
  refine q_bipush (v := 8) dX12_readPart_96 (by decide) ?_
  refine q_icmp_lt (tgt := 114) dX12_readPart_98 (by decide) ?_ ?_
  · exact q_sub [0] rfl (aX12_readPart_b114 d N rX12_readSum hX12_readSum σ)
  refine q_iload_n (i := 2) (x := v2) dX12_readPart_101 rfl 1 rfl ?_
  refine q_bipush (v := 12) dX12_readPart_102 (by decide) ?_
  refine q_icmp_gt (tgt := 114) dX12_readPart_104 (by decide) ?_ ?_
  · exact q_sub [0] rfl (aX12_readPart_b114 d N rX12_readSum hX12_readSum σ)
  exact q_sub [0] rfl (aX12_readPart_b107 d N rX12_readSum hX12_readSum σ)

def fX12_readPart_b37 (N : Nat) (rX12_readSum : Int32 → qMem → Option qMem) (v1 : Int32) (σ : qMem) : Option qMem :=
  ((fX12_fine σ).bind fun y5 => (if y5 = 0 then (some σ) else (nmM (si σ 0 34 ((gi σ 0 34) + 1)) fun s6 => ((rX12_readSum (v1 + 1) s6).bind fun y7 => ((fX12_sign 93).bind fun y8 => ((fX12_must y8 y7).bind fun y9 => (some y9)))))))
set_option maxRecDepth 20000 in
set_option maxHeartbeats 4000000 in
theorem aX12_readPart_b37 (d : Nat) (N : Nat) (rX12_readSum : Int32 → qMem → Option qMem) (hX12_readSum : ∀ (p1 : Int32)  (σ : qMem), qMc wM (mX12_readSum d) (ρv) [.ref 0, .int p1] σ (rX12_readSum p1 σ)) (v1 : Int32) (σ : qMem) : qAt wM (mX12_readPart d) (ρv) 37 [(0, .ref 0), (1, .int v1)] [] σ (fX12_readPart_b37 N rX12_readSum v1 σ) := by
  unfold fX12_readPart_b37
  refine q_aload_n (i := 0) (x := 0) dX12_readPart_37 rfl 0 rfl ?_
  refine q_cVp mX12_fine [] (st := []) dX12_readPart_38 (svX12_328) (by unfold rR mX12_fine mX12_readPart; constructor <;> dsimp only <;> omega) zM_0 rfl rfl rfl (Nat.le_of_ble_eq_true rfl) (kX12_fine σ) (fun y5 => ?_)
  refine q_if_ne (tgt := 45) dX12_readPart_41 (by decide) ?_ ?_
  · refine q_aload_n (i := 0) (x := 0) dX12_readPart_45 rfl 0 rfl ?_
    refine q_dup dX12_readPart_46 rfl ?_
    refine q_geti dX12_readPart_47 foX12_332 zM_0 rfl ?_
    refine q_iconst (v := 1) dX12_readPart_50 (by decide) ?_
    refine q_iadd dX12_readPart_51 ?_
    refine q_puti dX12_readPart_52 foX12_332 fwX12_34 zM_0 rfl ?_
    refine q_nmM (fun s6 => ?_)
    refine q_aload_n (i := 0) (x := 0) dX12_readPart_55 rfl 0 rfl ?_
    refine q_iload_n (i := 1) (x := v1) dX12_readPart_56 rfl 1 rfl ?_
    refine q_iconst (v := 1) dX12_readPart_57 (by decide) ?_
    refine q_iadd dX12_readPart_58 ?_
    refine q_cVv (mX12_readSum d) [.int (v1 + 1)] (st := []) dX12_readPart_59 (svX12_344 _) (by unfold rR mX12_readPart mX12_readSum; constructor <;> dsimp only <;> omega) zM_0 rfl rfl rfl (Nat.le_of_ble_eq_true rfl) (hX12_readSum (v1 + 1) s6) (fun y7 => ?_)
    refine q_aload_n (i := 0) (x := 0) dX12_readPart_62 rfl 0 rfl ?_
    refine q_bipush (v := 93) dX12_readPart_63 (by decide) ?_
    refine q_cSp mX12_sign [.int 93] (st := [.ref 0]) dX12_readPart_65 (ssX12_356) (by unfold rR mX12_readPart mX12_sign; constructor <;> dsimp only <;> omega) rfl rfl (Nat.le_of_ble_eq_true rfl) (kX12_sign 93 y7) (fun y8 => ?_)
    refine q_cVv mX12_must [.int y8] (st := []) dX12_readPart_68 (svX12_360) (by unfold rR mX12_must mX12_readPart; constructor <;> dsimp only <;> omega) zM_0 rfl rfl rfl (Nat.le_of_ble_eq_true rfl) (kX12_must y8 y7) (fun y9 => ?_)
    refine q_goto (tgt := 118) dX12_readPart_71 (by decide) ?_
    exact q_vret (y := y9) dX12_readPart_118 rfl rfl
  exact q_vret (y := σ) dX12_readPart_44 rfl rfl

def fX12_readPart (N : Nat) (rX12_readSum : Int32 → qMem → Option qMem) (p1 : Int32) (σ : qMem) : Option qMem :=
  ((fX12_fine σ).bind fun y1 => (if y1 = 0 then (some σ) else (if ck (gi σ 0 34) 401 = true then (nmI (gi σ 20 (gi σ 0 34).toNatClampNeg) fun x2 => ((fX12_sign 91).bind fun y3 => (if x2 = y3 then (if p1 = 8 then ((fX12_faults σ).bind fun y4 => (fX12_readPart_b37 N rX12_readSum p1 y4)) else (fX12_readPart_b37 N rX12_readSum p1 σ)) else (if x2 = 50 then (if ck (gi σ 0 34) 401 = true then (if (gi σ 21 (gi σ 0 34).toNatClampNeg) ≤ 1000 then (fX12_readPart_b107 N rX12_readSum σ) else (fX12_readPart_b95 N rX12_readSum x2 σ)) else none) else (fX12_readPart_b95 N rX12_readSum x2 σ))))) else none)))
set_option maxRecDepth 20000 in
set_option maxHeartbeats 4000000 in
theorem aX12_readPart (d : Nat) (N : Nat) (rX12_readSum : Int32 → qMem → Option qMem) (p1 : Int32) (hX12_readSum : ∀ (p1 : Int32)  (σ : qMem), qMc wM (mX12_readSum d) (ρv) [.ref 0, .int p1] σ (rX12_readSum p1 σ)) (σ : qMem) : qAt wM (mX12_readPart d) (ρv) 0 [(0, .ref 0), (1, .int p1)] [] σ (fX12_readPart N rX12_readSum p1 σ) := by
  unfold fX12_readPart
  refine q_aload_n (i := 0) (x := 0) dX12_readPart_0 rfl 0 rfl ?_
  refine q_cVp mX12_fine [] (st := []) dX12_readPart_1 (svX12_328) (by unfold rR mX12_fine mX12_readPart; constructor <;> dsimp only <;> omega) zM_0 rfl rfl rfl (Nat.le_of_ble_eq_true rfl) (kX12_fine σ) (fun y1 => ?_)
  refine q_if_ne (tgt := 8) dX12_readPart_4 (by decide) ?_ ?_
  · refine q_aload_n (i := 0) (x := 0) dX12_readPart_8 rfl 0 rfl ?_
    refine q_getr (t := 20) dX12_readPart_9 foX12_89 zM_0 rfl ?_
    refine q_aload_n (i := 0) (x := 0) dX12_readPart_12 rfl 0 rfl ?_
    refine q_geti dX12_readPart_13 foX12_332 zM_0 rfl ?_
    refine q_iald dX12_readPart_16 zM_20 ?_
    refine q_nmI (fun x2 => ?_)
    refine q_istore_n (i := 2) (L' := [(2, .int x2), (0, .ref 0), (1, .int p1)]) dX12_readPart_17 rfl (Nat.le_of_ble_eq_true rfl) rfl ?_
    refine q_iload_n (i := 2) (x := x2) dX12_readPart_18 rfl 0 rfl ?_
    refine q_bipush (v := 91) dX12_readPart_19 (by decide) ?_
    refine q_cSp mX12_sign [.int 91] (st := [.int x2]) dX12_readPart_21 (ssX12_356) (by unfold rR mX12_readPart mX12_sign; constructor <;> dsimp only <;> omega) rfl rfl (Nat.le_of_ble_eq_true rfl) (kX12_sign 91 σ) (fun y3 => ?_)
    refine q_icmp_ne (tgt := 74) dX12_readPart_24 (by decide) ?_ ?_
    · refine q_iload_n (i := 2) (x := x2) dX12_readPart_74 rfl 0 rfl ?_
      refine q_bipush (v := 50) dX12_readPart_75 (by decide) ?_
      refine q_icmp_ne (tgt := 95) dX12_readPart_77 (by decide) ?_ ?_
      · exact q_sub [1, 0] rfl (aX12_readPart_b95 d N rX12_readSum hX12_readSum x2 σ)
      refine q_aload_n (i := 0) (x := 0) dX12_readPart_80 rfl 1 rfl ?_
      refine q_getr (t := 21) dX12_readPart_81 foX12_92 zM_0 rfl ?_
      refine q_aload_n (i := 0) (x := 0) dX12_readPart_84 rfl 1 rfl ?_
      refine q_geti dX12_readPart_85 foX12_332 zM_0 rfl ?_
      refine q_iald dX12_readPart_88 zM_21 ?_
      refine q_sipush (v := 1000) dX12_readPart_89 (by decide) ?_
      refine q_icmp_le (tgt := 107) dX12_readPart_92 (by decide) ?_ ?_
      · exact q_sub [1] rfl (aX12_readPart_b107 d N rX12_readSum hX12_readSum σ)
      exact q_sub [1, 0] rfl (aX12_readPart_b95 d N rX12_readSum hX12_readSum x2 σ)
    refine q_iload_n (i := 1) (x := p1) dX12_readPart_27 rfl 2 rfl ?_
    refine q_bipush (v := 8) dX12_readPart_28 (by decide) ?_
    refine q_icmp_ne (tgt := 37) dX12_readPart_30 (by decide) ?_ ?_
    · exact q_sub [1, 2] rfl (aX12_readPart_b37 d N rX12_readSum hX12_readSum p1 σ)
    refine q_aload_n (i := 0) (x := 0) dX12_readPart_33 rfl 1 rfl ?_
    refine q_cVv mX12_faults [] (st := []) dX12_readPart_34 (svX12_338) (by unfold rR mX12_faults mX12_readPart; constructor <;> dsimp only <;> omega) zM_0 rfl rfl rfl (Nat.le_of_ble_eq_true rfl) (kX12_faults σ) (fun y4 => ?_)
    exact q_sub [1, 2] rfl (aX12_readPart_b37 d N rX12_readSum hX12_readSum p1 y4)
  exact q_vret (y := σ) dX12_readPart_7 rfl rfl
theorem kX12_readPart (d : Nat) (N : Nat) (rX12_readSum : Int32 → qMem → Option qMem) (p1 : Int32) (hX12_readSum : ∀ (p1 : Int32)  (σ : qMem), qMc wM (mX12_readSum d) (ρv) [.ref 0, .int p1] σ (rX12_readSum p1 σ)) (σ : qMem) : qMc wM (mX12_readPart d) (ρv) [.ref 0, .int p1] σ (fX12_readPart N rX12_readSum p1 σ) := qMc_of (moX12_readPart _) (Nat.le_of_ble_eq_true rfl) (aX12_readPart d N rX12_readSum p1 hX12_readSum σ)

theorem dX12_readTerm_0 : decode cX12_readTerm 0 = .ok (.aload_n 0, 1) := by decide +kernel
theorem dX12_readTerm_1 : decode cX12_readTerm 1 = .ok (.iload_n 1, 1) := by decide +kernel
theorem dX12_readTerm_2 : decode cX12_readTerm 2 = .ok (.invokevirtual 366, 3) := by decide +kernel
theorem dX12_readTerm_5 : decode cX12_readTerm 5 = .ok (.aload_n 0, 1) := by decide +kernel
theorem dX12_readTerm_6 : decode cX12_readTerm 6 = .ok (.bipush 42, 2) := by decide +kernel
theorem dX12_readTerm_8 : decode cX12_readTerm 8 = .ok (.invokestatic 356, 3) := by decide +kernel
theorem dX12_readTerm_11 : decode cX12_readTerm 11 = .ok (.invokevirtual 335, 3) := by decide +kernel
theorem dX12_readTerm_14 : decode cX12_readTerm 14 = .ok (.ifCond .ne 15, 3) := by decide +kernel
theorem dX12_readTerm_17 : decode cX12_readTerm 17 = .ok (.aload_n 0, 1) := by decide +kernel
theorem dX12_readTerm_18 : decode cX12_readTerm 18 = .ok (.bipush 47, 2) := by decide +kernel
theorem dX12_readTerm_20 : decode cX12_readTerm 20 = .ok (.invokestatic 356, 3) := by decide +kernel
theorem dX12_readTerm_23 : decode cX12_readTerm 23 = .ok (.invokevirtual 335, 3) := by decide +kernel
theorem dX12_readTerm_26 : decode cX12_readTerm 26 = .ok (.ifCond .eq 11, 3) := by decide +kernel
theorem dX12_readTerm_29 : decode cX12_readTerm 29 = .ok (.aload_n 0, 1) := by decide +kernel
theorem dX12_readTerm_30 : decode cX12_readTerm 30 = .ok (.iload_n 1, 1) := by decide +kernel
theorem dX12_readTerm_31 : decode cX12_readTerm 31 = .ok (.invokevirtual 366, 3) := by decide +kernel
theorem dX12_readTerm_34 : decode cX12_readTerm 34 = .ok (.goto (-29), 3) := by decide +kernel
theorem dX12_readTerm_37 : decode cX12_readTerm 37 = .ok (.return_, 1) := by decide +kernel
def fX12_readTerm_b29 (N : Nat) (rX12_readSum : Int32 → qMem → Option qMem) (c5 : Int32 → qMem → Option qMem) (v1 : Int32) (σ : qMem) : Option qMem :=
  ((fX12_readPart N rX12_readSum v1 σ).bind fun y6 => (c5 v1 y6))
set_option maxRecDepth 20000 in
set_option maxHeartbeats 4000000 in
theorem aX12_readTerm_b29 (d : Nat) (N : Nat) (rX12_readSum : Int32 → qMem → Option qMem) (hX12_readSum : ∀ (p1 : Int32)  (σ : qMem), qMc wM (mX12_readSum d) (ρv) [.ref 0, .int p1] σ (rX12_readSum p1 σ)) (c5 : Int32 → qMem → Option qMem) (hc5 : ∀ (v1 : Int32) (σ : qMem), qAt wM (mX12_readTerm d) (ρv) 5 [(0, .ref 0), (1, .int v1)] [] σ (c5 v1 σ)) (v1 : Int32) (σ : qMem) : qAt wM (mX12_readTerm d) (ρv) 29 [(0, .ref 0), (1, .int v1)] [] σ (fX12_readTerm_b29 N rX12_readSum c5 v1 σ) := by
  unfold fX12_readTerm_b29
  refine q_aload_n (i := 0) (x := 0) dX12_readTerm_29 rfl 0 rfl ?_
  refine q_iload_n (i := 1) (x := v1) dX12_readTerm_30 rfl 1 rfl ?_
  refine q_cVv (mX12_readPart d) [.int v1] (st := []) dX12_readTerm_31 (svX12_366 _) (by unfold rR mX12_readPart mX12_readTerm; constructor <;> dsimp only <;> omega) zM_0 rfl rfl rfl (Nat.le_of_ble_eq_true rfl) (kX12_readPart d N rX12_readSum v1 hX12_readSum σ) (fun y6 => ?_)
  refine q_goto (tgt := 5) dX12_readTerm_34 (by decide) ?_
  exact q_sub [0, 1] rfl (hc5 v1 y6)

def fX12_readTerm_s5 (N : Nat) (rX12_readSum : Int32 → qMem → Option qMem) (c5 : Int32 → qMem → Option qMem) (v1 : Int32) (σ : qMem) : Option qMem :=
  ((fX12_sign 42).bind fun y2 => ((fX12_takes y2 σ).bind fun y3 => (if y3.1 = 0 then ((fX12_sign 47).bind fun y4 => ((fX12_takes y4 y3.2).bind fun y5 => (if y5.1 = 0 then (some y5.2) else (fX12_readTerm_b29 N rX12_readSum c5 v1 y5.2)))) else (fX12_readTerm_b29 N rX12_readSum c5 v1 y3.2))))
set_option maxRecDepth 20000 in
set_option maxHeartbeats 4000000 in
theorem aX12_readTerm_s5 (d : Nat) (N : Nat) (rX12_readSum : Int32 → qMem → Option qMem) (hX12_readSum : ∀ (p1 : Int32)  (σ : qMem), qMc wM (mX12_readSum d) (ρv) [.ref 0, .int p1] σ (rX12_readSum p1 σ)) (c5 : Int32 → qMem → Option qMem) (hc5 : ∀ (v1 : Int32) (σ : qMem), qAt wM (mX12_readTerm d) (ρv) 5 [(0, .ref 0), (1, .int v1)] [] σ (c5 v1 σ)) (v1 : Int32) (σ : qMem) : qAt wM (mX12_readTerm d) (ρv) 5 [(0, .ref 0), (1, .int v1)] [] σ (fX12_readTerm_s5 N rX12_readSum c5 v1 σ) := by
  unfold fX12_readTerm_s5
  refine q_aload_n (i := 0) (x := 0) dX12_readTerm_5 rfl 0 rfl ?_
  refine q_bipush (v := 42) dX12_readTerm_6 (by decide) ?_
  refine q_cSp mX12_sign [.int 42] (st := [.ref 0]) dX12_readTerm_8 (ssX12_356) (by unfold rR mX12_readTerm mX12_sign; constructor <;> dsimp only <;> omega) rfl rfl (Nat.le_of_ble_eq_true rfl) (kX12_sign 42 σ) (fun y2 => ?_)
  refine q_cVi mX12_takes [.int y2] (st := []) dX12_readTerm_11 (svX12_335) (by unfold rR mX12_readTerm mX12_takes; constructor <;> dsimp only <;> omega) zM_0 rfl rfl rfl (Nat.le_of_ble_eq_true rfl) (kX12_takes y2 σ) (fun y3 => ?_)
  refine q_if_ne (tgt := 29) dX12_readTerm_14 (by decide) ?_ ?_
  · exact q_sub [0, 1] rfl (aX12_readTerm_b29 d N rX12_readSum hX12_readSum c5 hc5 v1 y3.2)
  refine q_aload_n (i := 0) (x := 0) dX12_readTerm_17 rfl 0 rfl ?_
  refine q_bipush (v := 47) dX12_readTerm_18 (by decide) ?_
  refine q_cSp mX12_sign [.int 47] (st := [.ref 0]) dX12_readTerm_20 (ssX12_356) (by unfold rR mX12_readTerm mX12_sign; constructor <;> dsimp only <;> omega) rfl rfl (Nat.le_of_ble_eq_true rfl) (kX12_sign 47 y3.2) (fun y4 => ?_)
  refine q_cVi mX12_takes [.int y4] (st := []) dX12_readTerm_23 (svX12_335) (by unfold rR mX12_readTerm mX12_takes; constructor <;> dsimp only <;> omega) zM_0 rfl rfl rfl (Nat.le_of_ble_eq_true rfl) (kX12_takes y4 y3.2) (fun y5 => ?_)
  refine q_if_eq (tgt := 37) dX12_readTerm_26 (by decide) ?_ ?_
  · exact q_vret (y := y5.2) dX12_readTerm_37 rfl rfl
  exact q_sub [0, 1] rfl (aX12_readTerm_b29 d N rX12_readSum hX12_readSum c5 hc5 v1 y5.2)
def fX12_readTerm_l5 (N : Nat) (rX12_readSum : Int32 → qMem → Option qMem) : Nat → Int32 → qMem → Option qMem
  | 0 => fun _ _ => none
  | n + 1 => fun v1 σ => fX12_readTerm_s5 N rX12_readSum (fX12_readTerm_l5 N rX12_readSum n) v1 σ
theorem aX12_readTerm_l5 (d : Nat) (N : Nat) (rX12_readSum : Int32 → qMem → Option qMem) (hX12_readSum : ∀ (p1 : Int32)  (σ : qMem), qMc wM (mX12_readSum d) (ρv) [.ref 0, .int p1] σ (rX12_readSum p1 σ)) : ∀ (n : Nat) (v1 : Int32) (σ : qMem), qAt wM (mX12_readTerm d) (ρv) 5 [(0, .ref 0), (1, .int v1)] [] σ (fX12_readTerm_l5 N rX12_readSum n v1 σ) := by
  intro n
  induction n with
  | zero => intro v1 σ; exact q_none
  | succ n ih => intro v1 σ; exact aX12_readTerm_s5 d N rX12_readSum hX12_readSum (fX12_readTerm_l5 N rX12_readSum n) ih v1 σ

def fX12_readTerm (N : Nat) (rX12_readSum : Int32 → qMem → Option qMem) (p1 : Int32) (σ : qMem) : Option qMem :=
  ((fX12_readPart N rX12_readSum p1 σ).bind fun y1 => (fX12_readTerm_l5 N rX12_readSum N p1 y1))
set_option maxRecDepth 20000 in
set_option maxHeartbeats 4000000 in
theorem aX12_readTerm (d : Nat) (N : Nat) (rX12_readSum : Int32 → qMem → Option qMem) (p1 : Int32) (hX12_readSum : ∀ (p1 : Int32)  (σ : qMem), qMc wM (mX12_readSum d) (ρv) [.ref 0, .int p1] σ (rX12_readSum p1 σ)) (σ : qMem) : qAt wM (mX12_readTerm d) (ρv) 0 [(0, .ref 0), (1, .int p1)] [] σ (fX12_readTerm N rX12_readSum p1 σ) := by
  unfold fX12_readTerm
  refine q_aload_n (i := 0) (x := 0) dX12_readTerm_0 rfl 0 rfl ?_
  refine q_iload_n (i := 1) (x := p1) dX12_readTerm_1 rfl 1 rfl ?_
  refine q_cVv (mX12_readPart d) [.int p1] (st := []) dX12_readTerm_2 (svX12_366 _) (by unfold rR mX12_readPart mX12_readTerm; constructor <;> dsimp only <;> omega) zM_0 rfl rfl rfl (Nat.le_of_ble_eq_true rfl) (kX12_readPart d N rX12_readSum p1 hX12_readSum σ) (fun y1 => ?_)
  exact q_sub [0, 1] rfl (aX12_readTerm_l5 d N rX12_readSum hX12_readSum N p1 y1)
theorem kX12_readTerm (d : Nat) (N : Nat) (rX12_readSum : Int32 → qMem → Option qMem) (p1 : Int32) (hX12_readSum : ∀ (p1 : Int32)  (σ : qMem), qMc wM (mX12_readSum d) (ρv) [.ref 0, .int p1] σ (rX12_readSum p1 σ)) (σ : qMem) : qMc wM (mX12_readTerm d) (ρv) [.ref 0, .int p1] σ (fX12_readTerm N rX12_readSum p1 σ) := qMc_of (moX12_readTerm _) (Nat.le_of_ble_eq_true rfl) (aX12_readTerm d N rX12_readSum p1 hX12_readSum σ)

theorem dX12_readSum_0 : decode cX12_readSum 0 = .ok (.aload_n 0, 1) := by decide +kernel
theorem dX12_readSum_1 : decode cX12_readSum 1 = .ok (.iload_n 1, 1) := by decide +kernel
theorem dX12_readSum_2 : decode cX12_readSum 2 = .ok (.invokevirtual 363, 3) := by decide +kernel
theorem dX12_readSum_5 : decode cX12_readSum 5 = .ok (.aload_n 0, 1) := by decide +kernel
theorem dX12_readSum_6 : decode cX12_readSum 6 = .ok (.bipush 43, 2) := by decide +kernel
theorem dX12_readSum_8 : decode cX12_readSum 8 = .ok (.invokestatic 356, 3) := by decide +kernel
theorem dX12_readSum_11 : decode cX12_readSum 11 = .ok (.invokevirtual 335, 3) := by decide +kernel
theorem dX12_readSum_14 : decode cX12_readSum 14 = .ok (.ifCond .ne 15, 3) := by decide +kernel
theorem dX12_readSum_17 : decode cX12_readSum 17 = .ok (.aload_n 0, 1) := by decide +kernel
theorem dX12_readSum_18 : decode cX12_readSum 18 = .ok (.bipush 45, 2) := by decide +kernel
theorem dX12_readSum_20 : decode cX12_readSum 20 = .ok (.invokestatic 356, 3) := by decide +kernel
theorem dX12_readSum_23 : decode cX12_readSum 23 = .ok (.invokevirtual 335, 3) := by decide +kernel
theorem dX12_readSum_26 : decode cX12_readSum 26 = .ok (.ifCond .eq 11, 3) := by decide +kernel
theorem dX12_readSum_29 : decode cX12_readSum 29 = .ok (.aload_n 0, 1) := by decide +kernel
theorem dX12_readSum_30 : decode cX12_readSum 30 = .ok (.iload_n 1, 1) := by decide +kernel
theorem dX12_readSum_31 : decode cX12_readSum 31 = .ok (.invokevirtual 363, 3) := by decide +kernel
theorem dX12_readSum_34 : decode cX12_readSum 34 = .ok (.goto (-29), 3) := by decide +kernel
theorem dX12_readSum_37 : decode cX12_readSum 37 = .ok (.return_, 1) := by decide +kernel
def fX12_readSum_b29 (N : Nat) (rX12_readSum : Int32 → qMem → Option qMem) (c5 : Int32 → qMem → Option qMem) (v1 : Int32) (σ : qMem) : Option qMem :=
  ((fX12_readTerm N rX12_readSum v1 σ).bind fun y6 => (c5 v1 y6))
set_option maxRecDepth 20000 in
set_option maxHeartbeats 4000000 in
theorem aX12_readSum_b29 (d : Nat) (N : Nat) (rX12_readSum : Int32 → qMem → Option qMem) (hX12_readSum : ∀ (p1 : Int32)  (σ : qMem), qMc wM (mX12_readSum d) (ρv) [.ref 0, .int p1] σ (rX12_readSum p1 σ)) (c5 : Int32 → qMem → Option qMem) (hc5 : ∀ (v1 : Int32) (σ : qMem), qAt wM (mX12_readSum (d + 1)) (ρv) 5 [(0, .ref 0), (1, .int v1)] [] σ (c5 v1 σ)) (v1 : Int32) (σ : qMem) : qAt wM (mX12_readSum (d + 1)) (ρv) 29 [(0, .ref 0), (1, .int v1)] [] σ (fX12_readSum_b29 N rX12_readSum c5 v1 σ) := by
  unfold fX12_readSum_b29
  refine q_aload_n (i := 0) (x := 0) dX12_readSum_29 rfl 0 rfl ?_
  refine q_iload_n (i := 1) (x := v1) dX12_readSum_30 rfl 1 rfl ?_
  refine q_cVv (mX12_readTerm d) [.int v1] (st := []) dX12_readSum_31 (svX12_363 _) (by unfold rR mX12_readSum mX12_readTerm; constructor <;> dsimp only <;> omega) zM_0 rfl rfl rfl (Nat.le_of_ble_eq_true rfl) (kX12_readTerm d N rX12_readSum v1 hX12_readSum σ) (fun y6 => ?_)
  refine q_goto (tgt := 5) dX12_readSum_34 (by decide) ?_
  exact q_sub [0, 1] rfl (hc5 v1 y6)

def fX12_readSum_s5 (N : Nat) (rX12_readSum : Int32 → qMem → Option qMem) (c5 : Int32 → qMem → Option qMem) (v1 : Int32) (σ : qMem) : Option qMem :=
  ((fX12_sign 43).bind fun y2 => ((fX12_takes y2 σ).bind fun y3 => (if y3.1 = 0 then ((fX12_sign 45).bind fun y4 => ((fX12_takes y4 y3.2).bind fun y5 => (if y5.1 = 0 then (some y5.2) else (fX12_readSum_b29 N rX12_readSum c5 v1 y5.2)))) else (fX12_readSum_b29 N rX12_readSum c5 v1 y3.2))))
set_option maxRecDepth 20000 in
set_option maxHeartbeats 4000000 in
theorem aX12_readSum_s5 (d : Nat) (N : Nat) (rX12_readSum : Int32 → qMem → Option qMem) (hX12_readSum : ∀ (p1 : Int32)  (σ : qMem), qMc wM (mX12_readSum d) (ρv) [.ref 0, .int p1] σ (rX12_readSum p1 σ)) (c5 : Int32 → qMem → Option qMem) (hc5 : ∀ (v1 : Int32) (σ : qMem), qAt wM (mX12_readSum (d + 1)) (ρv) 5 [(0, .ref 0), (1, .int v1)] [] σ (c5 v1 σ)) (v1 : Int32) (σ : qMem) : qAt wM (mX12_readSum (d + 1)) (ρv) 5 [(0, .ref 0), (1, .int v1)] [] σ (fX12_readSum_s5 N rX12_readSum c5 v1 σ) := by
  unfold fX12_readSum_s5
  refine q_aload_n (i := 0) (x := 0) dX12_readSum_5 rfl 0 rfl ?_
  refine q_bipush (v := 43) dX12_readSum_6 (by decide) ?_
  refine q_cSp mX12_sign [.int 43] (st := [.ref 0]) dX12_readSum_8 (ssX12_356) (by unfold rR mX12_readSum mX12_sign; constructor <;> dsimp only <;> omega) rfl rfl (Nat.le_of_ble_eq_true rfl) (kX12_sign 43 σ) (fun y2 => ?_)
  refine q_cVi mX12_takes [.int y2] (st := []) dX12_readSum_11 (svX12_335) (by unfold rR mX12_readSum mX12_takes; constructor <;> dsimp only <;> omega) zM_0 rfl rfl rfl (Nat.le_of_ble_eq_true rfl) (kX12_takes y2 σ) (fun y3 => ?_)
  refine q_if_ne (tgt := 29) dX12_readSum_14 (by decide) ?_ ?_
  · exact q_sub [0, 1] rfl (aX12_readSum_b29 d N rX12_readSum hX12_readSum c5 hc5 v1 y3.2)
  refine q_aload_n (i := 0) (x := 0) dX12_readSum_17 rfl 0 rfl ?_
  refine q_bipush (v := 45) dX12_readSum_18 (by decide) ?_
  refine q_cSp mX12_sign [.int 45] (st := [.ref 0]) dX12_readSum_20 (ssX12_356) (by unfold rR mX12_readSum mX12_sign; constructor <;> dsimp only <;> omega) rfl rfl (Nat.le_of_ble_eq_true rfl) (kX12_sign 45 y3.2) (fun y4 => ?_)
  refine q_cVi mX12_takes [.int y4] (st := []) dX12_readSum_23 (svX12_335) (by unfold rR mX12_readSum mX12_takes; constructor <;> dsimp only <;> omega) zM_0 rfl rfl rfl (Nat.le_of_ble_eq_true rfl) (kX12_takes y4 y3.2) (fun y5 => ?_)
  refine q_if_eq (tgt := 37) dX12_readSum_26 (by decide) ?_ ?_
  · exact q_vret (y := y5.2) dX12_readSum_37 rfl rfl
  exact q_sub [0, 1] rfl (aX12_readSum_b29 d N rX12_readSum hX12_readSum c5 hc5 v1 y5.2)
def fX12_readSum_l5 (N : Nat) (rX12_readSum : Int32 → qMem → Option qMem) : Nat → Int32 → qMem → Option qMem
  | 0 => fun _ _ => none
  | n + 1 => fun v1 σ => fX12_readSum_s5 N rX12_readSum (fX12_readSum_l5 N rX12_readSum n) v1 σ
theorem aX12_readSum_l5 (d : Nat) (N : Nat) (rX12_readSum : Int32 → qMem → Option qMem) (hX12_readSum : ∀ (p1 : Int32)  (σ : qMem), qMc wM (mX12_readSum d) (ρv) [.ref 0, .int p1] σ (rX12_readSum p1 σ)) : ∀ (n : Nat) (v1 : Int32) (σ : qMem), qAt wM (mX12_readSum (d + 1)) (ρv) 5 [(0, .ref 0), (1, .int v1)] [] σ (fX12_readSum_l5 N rX12_readSum n v1 σ) := by
  intro n
  induction n with
  | zero => intro v1 σ; exact q_none
  | succ n ih => intro v1 σ; exact aX12_readSum_s5 d N rX12_readSum hX12_readSum (fX12_readSum_l5 N rX12_readSum n) ih v1 σ

def fX12_readSum_e (N : Nat) (rX12_readSum : Int32 → qMem → Option qMem) (p1 : Int32) (σ : qMem) : Option qMem :=
  ((fX12_readTerm N rX12_readSum p1 σ).bind fun y1 => (fX12_readSum_l5 N rX12_readSum N p1 y1))
set_option maxRecDepth 20000 in
set_option maxHeartbeats 4000000 in
theorem aX12_readSum_e (d : Nat) (N : Nat) (rX12_readSum : Int32 → qMem → Option qMem) (p1 : Int32) (hX12_readSum : ∀ (p1 : Int32)  (σ : qMem), qMc wM (mX12_readSum d) (ρv) [.ref 0, .int p1] σ (rX12_readSum p1 σ)) (σ : qMem) : qAt wM (mX12_readSum (d + 1)) (ρv) 0 [(0, .ref 0), (1, .int p1)] [] σ (fX12_readSum_e N rX12_readSum p1 σ) := by
  unfold fX12_readSum_e
  refine q_aload_n (i := 0) (x := 0) dX12_readSum_0 rfl 0 rfl ?_
  refine q_iload_n (i := 1) (x := p1) dX12_readSum_1 rfl 1 rfl ?_
  refine q_cVv (mX12_readTerm d) [.int p1] (st := []) dX12_readSum_2 (svX12_363 _) (by unfold rR mX12_readSum mX12_readTerm; constructor <;> dsimp only <;> omega) zM_0 rfl rfl rfl (Nat.le_of_ble_eq_true rfl) (kX12_readTerm d N rX12_readSum p1 hX12_readSum σ) (fun y1 => ?_)
  exact q_sub [0, 1] rfl (aX12_readSum_l5 d N rX12_readSum hX12_readSum N p1 y1)
def fX12_readSum (N : Nat) : Nat → Int32 → qMem → Option qMem
  | 0 => fun _ _ => none
  | d + 1 => fun p1 σ => fX12_readSum_e N (fX12_readSum N d) p1 σ
theorem kX12_readSum (N : Nat) : ∀ (d : Nat) (p1 : Int32)  (σ : qMem), qMc wM (mX12_readSum d) (ρv) [.ref 0, .int p1] σ (fX12_readSum N d p1 σ) := by
  intro d
  induction d with
  | zero => intro p1  σ; exact fun _ h => by cases h
  | succ d ih => intro p1  σ; exact qMc_of (moX12_readSum _) (Nat.le_of_ble_eq_true rfl) (aX12_readSum_e d N (fX12_readSum N d) p1 ih  σ)

theorem dX12_readPlain_0 : decode cX12_readPlain 0 = .ok (.iconst 1, 1) := by decide +kernel
theorem dX12_readPlain_1 : decode cX12_readPlain 1 = .ok (.istore_n 2, 1) := by decide +kernel
theorem dX12_readPlain_2 : decode cX12_readPlain 2 = .ok (.iload_n 2, 1) := by decide +kernel
theorem dX12_readPlain_3 : decode cX12_readPlain 3 = .ok (.ifCond .eq 13, 3) := by decide +kernel
theorem dX12_readPlain_6 : decode cX12_readPlain 6 = .ok (.aload_n 0, 1) := by decide +kernel
theorem dX12_readPlain_7 : decode cX12_readPlain 7 = .ok (.bipush 7, 2) := by decide +kernel
theorem dX12_readPlain_9 : decode cX12_readPlain 9 = .ok (.invokevirtual 335, 3) := by decide +kernel
theorem dX12_readPlain_12 : decode cX12_readPlain 12 = .ok (.istore_n 2, 1) := by decide +kernel
theorem dX12_readPlain_13 : decode cX12_readPlain 13 = .ok (.goto (-11), 3) := by decide +kernel
theorem dX12_readPlain_16 : decode cX12_readPlain 16 = .ok (.aload_n 0, 1) := by decide +kernel
theorem dX12_readPlain_17 : decode cX12_readPlain 17 = .ok (.invokevirtual 328, 3) := by decide +kernel
theorem dX12_readPlain_20 : decode cX12_readPlain 20 = .ok (.ifCond .ne 4, 3) := by decide +kernel
theorem dX12_readPlain_23 : decode cX12_readPlain 23 = .ok (.return_, 1) := by decide +kernel
theorem dX12_readPlain_24 : decode cX12_readPlain 24 = .ok (.aload_n 0, 1) := by decide +kernel
theorem dX12_readPlain_25 : decode cX12_readPlain 25 = .ok (.getfield 89, 3) := by decide +kernel
theorem dX12_readPlain_28 : decode cX12_readPlain 28 = .ok (.aload_n 0, 1) := by decide +kernel
theorem dX12_readPlain_29 : decode cX12_readPlain 29 = .ok (.getfield 332, 3) := by decide +kernel
theorem dX12_readPlain_32 : decode cX12_readPlain 32 = .ok (.iaload, 1) := by decide +kernel
theorem dX12_readPlain_33 : decode cX12_readPlain 33 = .ok (.istore_n 3, 1) := by decide +kernel
theorem dX12_readPlain_34 : decode cX12_readPlain 34 = .ok (.iload_n 3, 1) := by decide +kernel
theorem dX12_readPlain_35 : decode cX12_readPlain 35 = .ok (.bipush 40, 2) := by decide +kernel
theorem dX12_readPlain_37 : decode cX12_readPlain 37 = .ok (.invokestatic 356, 3) := by decide +kernel
theorem dX12_readPlain_40 : decode cX12_readPlain 40 = .ok (.if_icmp .ne 50, 3) := by decide +kernel
theorem dX12_readPlain_43 : decode cX12_readPlain 43 = .ok (.iload_n 1, 1) := by decide +kernel
theorem dX12_readPlain_44 : decode cX12_readPlain 44 = .ok (.bipush 8, 2) := by decide +kernel
theorem dX12_readPlain_46 : decode cX12_readPlain 46 = .ok (.if_icmp .ne 7, 3) := by decide +kernel
theorem dX12_readPlain_49 : decode cX12_readPlain 49 = .ok (.aload_n 0, 1) := by decide +kernel
theorem dX12_readPlain_50 : decode cX12_readPlain 50 = .ok (.invokevirtual 338, 3) := by decide +kernel
theorem dX12_readPlain_53 : decode cX12_readPlain 53 = .ok (.aload_n 0, 1) := by decide +kernel
theorem dX12_readPlain_54 : decode cX12_readPlain 54 = .ok (.invokevirtual 328, 3) := by decide +kernel
theorem dX12_readPlain_57 : decode cX12_readPlain 57 = .ok (.ifCond .ne 4, 3) := by decide +kernel
theorem dX12_readPlain_60 : decode cX12_readPlain 60 = .ok (.return_, 1) := by decide +kernel
theorem dX12_readPlain_61 : decode cX12_readPlain 61 = .ok (.aload_n 0, 1) := by decide +kernel
theorem dX12_readPlain_62 : decode cX12_readPlain 62 = .ok (.dup, 1) := by decide +kernel
theorem dX12_readPlain_63 : decode cX12_readPlain 63 = .ok (.getfield 332, 3) := by decide +kernel
theorem dX12_readPlain_66 : decode cX12_readPlain 66 = .ok (.iconst 1, 1) := by decide +kernel
theorem dX12_readPlain_67 : decode cX12_readPlain 67 = .ok (.iadd, 1) := by decide +kernel
theorem dX12_readPlain_68 : decode cX12_readPlain 68 = .ok (.putfield 332, 3) := by decide +kernel
theorem dX12_readPlain_71 : decode cX12_readPlain 71 = .ok (.aload_n 0, 1) := by decide +kernel
theorem dX12_readPlain_72 : decode cX12_readPlain 72 = .ok (.iload_n 1, 1) := by decide +kernel
theorem dX12_readPlain_73 : decode cX12_readPlain 73 = .ok (.iconst 1, 1) := by decide +kernel
theorem dX12_readPlain_74 : decode cX12_readPlain 74 = .ok (.iadd, 1) := by decide +kernel
theorem dX12_readPlain_75 : decode cX12_readPlain 75 = .ok (.invokevirtual 347, 3) := by decide +kernel
theorem dX12_readPlain_78 : decode cX12_readPlain 78 = .ok (.aload_n 0, 1) := by decide +kernel
theorem dX12_readPlain_79 : decode cX12_readPlain 79 = .ok (.bipush 41, 2) := by decide +kernel
theorem dX12_readPlain_81 : decode cX12_readPlain 81 = .ok (.invokestatic 356, 3) := by decide +kernel
theorem dX12_readPlain_84 : decode cX12_readPlain 84 = .ok (.invokevirtual 360, 3) := by decide +kernel
theorem dX12_readPlain_87 : decode cX12_readPlain 87 = .ok (.goto 46, 3) := by decide +kernel
theorem dX12_readPlain_90 : decode cX12_readPlain 90 = .ok (.aload_n 0, 1) := by decide +kernel
theorem dX12_readPlain_91 : decode cX12_readPlain 91 = .ok (.iload_n 1, 1) := by decide +kernel
theorem dX12_readPlain_92 : decode cX12_readPlain 92 = .ok (.invokevirtual 344, 3) := by decide +kernel
theorem dX12_readPlain_95 : decode cX12_readPlain 95 = .ok (.aload_n 0, 1) := by decide +kernel
theorem dX12_readPlain_96 : decode cX12_readPlain 96 = .ok (.bipush 60, 2) := by decide +kernel
theorem dX12_readPlain_98 : decode cX12_readPlain 98 = .ok (.invokestatic 356, 3) := by decide +kernel
theorem dX12_readPlain_101 : decode cX12_readPlain 101 = .ok (.invokevirtual 335, 3) := by decide +kernel
theorem dX12_readPlain_104 : decode cX12_readPlain 104 = .ok (.ifCond .ne 24, 3) := by decide +kernel
theorem dX12_readPlain_107 : decode cX12_readPlain 107 = .ok (.aload_n 0, 1) := by decide +kernel
theorem dX12_readPlain_108 : decode cX12_readPlain 108 = .ok (.bipush 62, 2) := by decide +kernel
theorem dX12_readPlain_110 : decode cX12_readPlain 110 = .ok (.invokestatic 356, 3) := by decide +kernel
theorem dX12_readPlain_113 : decode cX12_readPlain 113 = .ok (.invokevirtual 335, 3) := by decide +kernel
theorem dX12_readPlain_116 : decode cX12_readPlain 116 = .ok (.ifCond .ne 12, 3) := by decide +kernel
theorem dX12_readPlain_119 : decode cX12_readPlain 119 = .ok (.aload_n 0, 1) := by decide +kernel
theorem dX12_readPlain_120 : decode cX12_readPlain 120 = .ok (.bipush 61, 2) := by decide +kernel
theorem dX12_readPlain_122 : decode cX12_readPlain 122 = .ok (.invokestatic 356, 3) := by decide +kernel
theorem dX12_readPlain_125 : decode cX12_readPlain 125 = .ok (.invokevirtual 360, 3) := by decide +kernel
theorem dX12_readPlain_128 : decode cX12_readPlain 128 = .ok (.aload_n 0, 1) := by decide +kernel
theorem dX12_readPlain_129 : decode cX12_readPlain 129 = .ok (.iload_n 1, 1) := by decide +kernel
theorem dX12_readPlain_130 : decode cX12_readPlain 130 = .ok (.invokevirtual 344, 3) := by decide +kernel
theorem dX12_readPlain_133 : decode cX12_readPlain 133 = .ok (.return_, 1) := by decide +kernel
def fX12_readPlain_b128 (N : Nat) (rX12_readTest : Int32 → qMem → Option qMem) (v1 : Int32) (σ : qMem) : Option qMem :=
  ((fX12_readSum N 10 v1 σ).bind fun y18 => (some y18))
set_option maxRecDepth 20000 in
set_option maxHeartbeats 4000000 in
theorem aX12_readPlain_b128 (d : Nat) (N : Nat) (rX12_readTest : Int32 → qMem → Option qMem) (hX12_readTest : ∀ (p1 : Int32)  (σ : qMem), qMc wM (mX12_readTest d) (ρv) [.ref 0, .int p1] σ (rX12_readTest p1 σ)) (v1 : Int32) (σ : qMem) : qAt wM (mX12_readPlain d) (ρv) 128 [(0, .ref 0), (1, .int v1)] [] σ (fX12_readPlain_b128 N rX12_readTest v1 σ) := by
  unfold fX12_readPlain_b128
  refine q_aload_n (i := 0) (x := 0) dX12_readPlain_128 rfl 0 rfl ?_
  refine q_iload_n (i := 1) (x := v1) dX12_readPlain_129 rfl 1 rfl ?_
  refine q_cVv (mX12_readSum 10) [.int v1] (st := []) dX12_readPlain_130 (svX12_344 _) (by unfold rR mX12_readPlain mX12_readSum; constructor <;> dsimp only <;> omega) zM_0 rfl rfl rfl (Nat.le_of_ble_eq_true rfl) (kX12_readSum N 10 v1 σ) (fun y18 => ?_)
  exact q_vret (y := y18) dX12_readPlain_133 rfl rfl

def fX12_readPlain_b53 (N : Nat) (rX12_readTest : Int32 → qMem → Option qMem) (v1 : Int32) (σ : qMem) : Option qMem :=
  ((fX12_fine σ).bind fun y13 => (if y13 = 0 then (some σ) else (nmM (si σ 0 34 ((gi σ 0 34) + 1)) fun s14 => ((rX12_readTest (v1 + 1) s14).bind fun y15 => ((fX12_sign 41).bind fun y16 => ((fX12_must y16 y15).bind fun y17 => (some y17)))))))
set_option maxRecDepth 20000 in
set_option maxHeartbeats 4000000 in
theorem aX12_readPlain_b53 (d : Nat) (N : Nat) (rX12_readTest : Int32 → qMem → Option qMem) (hX12_readTest : ∀ (p1 : Int32)  (σ : qMem), qMc wM (mX12_readTest d) (ρv) [.ref 0, .int p1] σ (rX12_readTest p1 σ)) (v1 : Int32) (σ : qMem) : qAt wM (mX12_readPlain d) (ρv) 53 [(0, .ref 0), (1, .int v1)] [] σ (fX12_readPlain_b53 N rX12_readTest v1 σ) := by
  unfold fX12_readPlain_b53
  refine q_aload_n (i := 0) (x := 0) dX12_readPlain_53 rfl 0 rfl ?_
  refine q_cVp mX12_fine [] (st := []) dX12_readPlain_54 (svX12_328) (by unfold rR mX12_fine mX12_readPlain; constructor <;> dsimp only <;> omega) zM_0 rfl rfl rfl (Nat.le_of_ble_eq_true rfl) (kX12_fine σ) (fun y13 => ?_)
  refine q_if_ne (tgt := 61) dX12_readPlain_57 (by decide) ?_ ?_
  · refine q_aload_n (i := 0) (x := 0) dX12_readPlain_61 rfl 0 rfl ?_
    refine q_dup dX12_readPlain_62 rfl ?_
    refine q_geti dX12_readPlain_63 foX12_332 zM_0 rfl ?_
    refine q_iconst (v := 1) dX12_readPlain_66 (by decide) ?_
    refine q_iadd dX12_readPlain_67 ?_
    refine q_puti dX12_readPlain_68 foX12_332 fwX12_34 zM_0 rfl ?_
    refine q_nmM (fun s14 => ?_)
    refine q_aload_n (i := 0) (x := 0) dX12_readPlain_71 rfl 0 rfl ?_
    refine q_iload_n (i := 1) (x := v1) dX12_readPlain_72 rfl 1 rfl ?_
    refine q_iconst (v := 1) dX12_readPlain_73 (by decide) ?_
    refine q_iadd dX12_readPlain_74 ?_
    refine q_cVv (mX12_readTest d) [.int (v1 + 1)] (st := []) dX12_readPlain_75 (svX12_347 _) (by unfold rR mX12_readPlain mX12_readTest; constructor <;> dsimp only <;> omega) zM_0 rfl rfl rfl (Nat.le_of_ble_eq_true rfl) (hX12_readTest (v1 + 1) s14) (fun y15 => ?_)
    refine q_aload_n (i := 0) (x := 0) dX12_readPlain_78 rfl 0 rfl ?_
    refine q_bipush (v := 41) dX12_readPlain_79 (by decide) ?_
    refine q_cSp mX12_sign [.int 41] (st := [.ref 0]) dX12_readPlain_81 (ssX12_356) (by unfold rR mX12_readPlain mX12_sign; constructor <;> dsimp only <;> omega) rfl rfl (Nat.le_of_ble_eq_true rfl) (kX12_sign 41 y15) (fun y16 => ?_)
    refine q_cVv mX12_must [.int y16] (st := []) dX12_readPlain_84 (svX12_360) (by unfold rR mX12_must mX12_readPlain; constructor <;> dsimp only <;> omega) zM_0 rfl rfl rfl (Nat.le_of_ble_eq_true rfl) (kX12_must y16 y15) (fun y17 => ?_)
    refine q_goto (tgt := 133) dX12_readPlain_87 (by decide) ?_
    exact q_vret (y := y17) dX12_readPlain_133 rfl rfl
  exact q_vret (y := σ) dX12_readPlain_60 rfl rfl

def fX12_readPlain_s2 (N : Nat) (rX12_readTest : Int32 → qMem → Option qMem) (c2 : Int32 → Int32 → qMem → Option qMem) (v1 : Int32) (v2 : Int32) (σ : qMem) : Option qMem :=
  (if v2 = 0 then ((fX12_fine σ).bind fun y1 => (if y1 = 0 then (some σ) else (if ck (gi σ 0 34) 401 = true then (nmI (gi σ 20 (gi σ 0 34).toNatClampNeg) fun x2 => ((fX12_sign 40).bind fun y3 => (if x2 = y3 then (if v1 = 8 then ((fX12_faults σ).bind fun y11 => (fX12_readPlain_b53 N rX12_readTest v1 y11)) else (fX12_readPlain_b53 N rX12_readTest v1 σ)) else ((fX12_readSum N 10 v1 σ).bind fun y4 => ((fX12_sign 60).bind fun y5 => ((fX12_takes y5 y4).bind fun y6 => (if y6.1 = 0 then ((fX12_sign 62).bind fun y7 => ((fX12_takes y7 y6.2).bind fun y8 => (if y8.1 = 0 then ((fX12_sign 61).bind fun y9 => ((fX12_must y9 y8.2).bind fun y10 => (fX12_readPlain_b128 N rX12_readTest v1 y10))) else (fX12_readPlain_b128 N rX12_readTest v1 y8.2)))) else (fX12_readPlain_b128 N rX12_readTest v1 y6.2)))))))) else none))) else ((fX12_takes 7 σ).bind fun y12 => (c2 v1 y12.1 y12.2)))
set_option maxRecDepth 20000 in
set_option maxHeartbeats 4000000 in
theorem aX12_readPlain_s2 (d : Nat) (N : Nat) (rX12_readTest : Int32 → qMem → Option qMem) (hX12_readTest : ∀ (p1 : Int32)  (σ : qMem), qMc wM (mX12_readTest d) (ρv) [.ref 0, .int p1] σ (rX12_readTest p1 σ)) (c2 : Int32 → Int32 → qMem → Option qMem) (hc2 : ∀ (v1 : Int32) (v2 : Int32) (σ : qMem), qAt wM (mX12_readPlain d) (ρv) 2 [(0, .ref 0), (1, .int v1), (2, .int v2)] [] σ (c2 v1 v2 σ)) (v1 : Int32) (v2 : Int32) (σ : qMem) : qAt wM (mX12_readPlain d) (ρv) 2 [(0, .ref 0), (1, .int v1), (2, .int v2)] [] σ (fX12_readPlain_s2 N rX12_readTest c2 v1 v2 σ) := by
  unfold fX12_readPlain_s2
  refine q_iload_n (i := 2) (x := v2) dX12_readPlain_2 rfl 2 rfl ?_
  refine q_if_eq (tgt := 16) dX12_readPlain_3 (by decide) ?_ ?_
  · refine q_aload_n (i := 0) (x := 0) dX12_readPlain_16 rfl 0 rfl ?_
    refine q_cVp mX12_fine [] (st := []) dX12_readPlain_17 (svX12_328) (by unfold rR mX12_fine mX12_readPlain; constructor <;> dsimp only <;> omega) zM_0 rfl rfl rfl (Nat.le_of_ble_eq_true rfl) (kX12_fine σ) (fun y1 => ?_)
    refine q_if_ne (tgt := 24) dX12_readPlain_20 (by decide) ?_ ?_
    · refine q_aload_n (i := 0) (x := 0) dX12_readPlain_24 rfl 0 rfl ?_
      refine q_getr (t := 20) dX12_readPlain_25 foX12_89 zM_0 rfl ?_
      refine q_aload_n (i := 0) (x := 0) dX12_readPlain_28 rfl 0 rfl ?_
      refine q_geti dX12_readPlain_29 foX12_332 zM_0 rfl ?_
      refine q_iald dX12_readPlain_32 zM_20 ?_
      refine q_nmI (fun x2 => ?_)
      refine q_istore_n (i := 3) (L' := [(3, .int x2), (0, .ref 0), (1, .int v1), (2, .int v2)]) dX12_readPlain_33 rfl (Nat.le_of_ble_eq_true rfl) rfl ?_
      refine q_iload_n (i := 3) (x := x2) dX12_readPlain_34 rfl 0 rfl ?_
      refine q_bipush (v := 40) dX12_readPlain_35 (by decide) ?_
      refine q_cSp mX12_sign [.int 40] (st := [.int x2]) dX12_readPlain_37 (ssX12_356) (by unfold rR mX12_readPlain mX12_sign; constructor <;> dsimp only <;> omega) rfl rfl (Nat.le_of_ble_eq_true rfl) (kX12_sign 40 σ) (fun y3 => ?_)
      refine q_icmp_ne (tgt := 90) dX12_readPlain_40 (by decide) ?_ ?_
      · refine q_aload_n (i := 0) (x := 0) dX12_readPlain_90 rfl 1 rfl ?_
        refine q_iload_n (i := 1) (x := v1) dX12_readPlain_91 rfl 2 rfl ?_
        refine q_cVv (mX12_readSum 10) [.int v1] (st := []) dX12_readPlain_92 (svX12_344 _) (by unfold rR mX12_readPlain mX12_readSum; constructor <;> dsimp only <;> omega) zM_0 rfl rfl rfl (Nat.le_of_ble_eq_true rfl) (kX12_readSum N 10 v1 σ) (fun y4 => ?_)
        refine q_aload_n (i := 0) (x := 0) dX12_readPlain_95 rfl 1 rfl ?_
        refine q_bipush (v := 60) dX12_readPlain_96 (by decide) ?_
        refine q_cSp mX12_sign [.int 60] (st := [.ref 0]) dX12_readPlain_98 (ssX12_356) (by unfold rR mX12_readPlain mX12_sign; constructor <;> dsimp only <;> omega) rfl rfl (Nat.le_of_ble_eq_true rfl) (kX12_sign 60 y4) (fun y5 => ?_)
        refine q_cVi mX12_takes [.int y5] (st := []) dX12_readPlain_101 (svX12_335) (by unfold rR mX12_readPlain mX12_takes; constructor <;> dsimp only <;> omega) zM_0 rfl rfl rfl (Nat.le_of_ble_eq_true rfl) (kX12_takes y5 y4) (fun y6 => ?_)
        refine q_if_ne (tgt := 128) dX12_readPlain_104 (by decide) ?_ ?_
        · exact q_sub [1, 2] rfl (aX12_readPlain_b128 d N rX12_readTest hX12_readTest v1 y6.2)
        refine q_aload_n (i := 0) (x := 0) dX12_readPlain_107 rfl 1 rfl ?_
        refine q_bipush (v := 62) dX12_readPlain_108 (by decide) ?_
        refine q_cSp mX12_sign [.int 62] (st := [.ref 0]) dX12_readPlain_110 (ssX12_356) (by unfold rR mX12_readPlain mX12_sign; constructor <;> dsimp only <;> omega) rfl rfl (Nat.le_of_ble_eq_true rfl) (kX12_sign 62 y6.2) (fun y7 => ?_)
        refine q_cVi mX12_takes [.int y7] (st := []) dX12_readPlain_113 (svX12_335) (by unfold rR mX12_readPlain mX12_takes; constructor <;> dsimp only <;> omega) zM_0 rfl rfl rfl (Nat.le_of_ble_eq_true rfl) (kX12_takes y7 y6.2) (fun y8 => ?_)
        refine q_if_ne (tgt := 128) dX12_readPlain_116 (by decide) ?_ ?_
        · exact q_sub [1, 2] rfl (aX12_readPlain_b128 d N rX12_readTest hX12_readTest v1 y8.2)
        refine q_aload_n (i := 0) (x := 0) dX12_readPlain_119 rfl 1 rfl ?_
        refine q_bipush (v := 61) dX12_readPlain_120 (by decide) ?_
        refine q_cSp mX12_sign [.int 61] (st := [.ref 0]) dX12_readPlain_122 (ssX12_356) (by unfold rR mX12_readPlain mX12_sign; constructor <;> dsimp only <;> omega) rfl rfl (Nat.le_of_ble_eq_true rfl) (kX12_sign 61 y8.2) (fun y9 => ?_)
        refine q_cVv mX12_must [.int y9] (st := []) dX12_readPlain_125 (svX12_360) (by unfold rR mX12_must mX12_readPlain; constructor <;> dsimp only <;> omega) zM_0 rfl rfl rfl (Nat.le_of_ble_eq_true rfl) (kX12_must y9 y8.2) (fun y10 => ?_)
        exact q_sub [1, 2] rfl (aX12_readPlain_b128 d N rX12_readTest hX12_readTest v1 y10)
      refine q_iload_n (i := 1) (x := v1) dX12_readPlain_43 rfl 2 rfl ?_
      refine q_bipush (v := 8) dX12_readPlain_44 (by decide) ?_
      refine q_icmp_ne (tgt := 53) dX12_readPlain_46 (by decide) ?_ ?_
      · exact q_sub [1, 2] rfl (aX12_readPlain_b53 d N rX12_readTest hX12_readTest v1 σ)
      refine q_aload_n (i := 0) (x := 0) dX12_readPlain_49 rfl 1 rfl ?_
      refine q_cVv mX12_faults [] (st := []) dX12_readPlain_50 (svX12_338) (by unfold rR mX12_faults mX12_readPlain; constructor <;> dsimp only <;> omega) zM_0 rfl rfl rfl (Nat.le_of_ble_eq_true rfl) (kX12_faults σ) (fun y11 => ?_)
      exact q_sub [1, 2] rfl (aX12_readPlain_b53 d N rX12_readTest hX12_readTest v1 y11)
    exact q_vret (y := σ) dX12_readPlain_23 rfl rfl
  refine q_aload_n (i := 0) (x := 0) dX12_readPlain_6 rfl 0 rfl ?_
  refine q_bipush (v := 7) dX12_readPlain_7 (by decide) ?_
  refine q_cVi mX12_takes [.int 7] (st := []) dX12_readPlain_9 (svX12_335) (by unfold rR mX12_readPlain mX12_takes; constructor <;> dsimp only <;> omega) zM_0 rfl rfl rfl (Nat.le_of_ble_eq_true rfl) (kX12_takes 7 σ) (fun y12 => ?_)
  refine q_istore_n (i := 2) (L' := [(2, .int y12.1), (0, .ref 0), (1, .int v1)]) dX12_readPlain_12 rfl (Nat.le_of_ble_eq_true rfl) rfl ?_
  refine q_goto (tgt := 2) dX12_readPlain_13 (by decide) ?_
  exact q_sub [1, 2, 0] rfl (hc2 v1 y12.1 y12.2)
def fX12_readPlain_l2 (N : Nat) (rX12_readTest : Int32 → qMem → Option qMem) : Nat → Int32 → Int32 → qMem → Option qMem
  | 0 => fun _ _ _ => none
  | n + 1 => fun v1 v2 σ => fX12_readPlain_s2 N rX12_readTest (fX12_readPlain_l2 N rX12_readTest n) v1 v2 σ
theorem aX12_readPlain_l2 (d : Nat) (N : Nat) (rX12_readTest : Int32 → qMem → Option qMem) (hX12_readTest : ∀ (p1 : Int32)  (σ : qMem), qMc wM (mX12_readTest d) (ρv) [.ref 0, .int p1] σ (rX12_readTest p1 σ)) : ∀ (n : Nat) (v1 : Int32) (v2 : Int32) (σ : qMem), qAt wM (mX12_readPlain d) (ρv) 2 [(0, .ref 0), (1, .int v1), (2, .int v2)] [] σ (fX12_readPlain_l2 N rX12_readTest n v1 v2 σ) := by
  intro n
  induction n with
  | zero => intro v1 v2 σ; exact q_none
  | succ n ih => intro v1 v2 σ; exact aX12_readPlain_s2 d N rX12_readTest hX12_readTest (fX12_readPlain_l2 N rX12_readTest n) ih v1 v2 σ

def fX12_readPlain (N : Nat) (rX12_readTest : Int32 → qMem → Option qMem) (p1 : Int32) (σ : qMem) : Option qMem :=
  (fX12_readPlain_l2 N rX12_readTest N p1 1 σ)
set_option maxRecDepth 20000 in
set_option maxHeartbeats 4000000 in
theorem aX12_readPlain (d : Nat) (N : Nat) (rX12_readTest : Int32 → qMem → Option qMem) (p1 : Int32) (hX12_readTest : ∀ (p1 : Int32)  (σ : qMem), qMc wM (mX12_readTest d) (ρv) [.ref 0, .int p1] σ (rX12_readTest p1 σ)) (σ : qMem) : qAt wM (mX12_readPlain d) (ρv) 0 [(0, .ref 0), (1, .int p1)] [] σ (fX12_readPlain N rX12_readTest p1 σ) := by
  unfold fX12_readPlain
  refine q_iconst (v := 1) dX12_readPlain_0 (by decide) ?_
  refine q_istore_n (i := 2) (L' := [(2, .int 1), (0, .ref 0), (1, .int p1)]) dX12_readPlain_1 rfl (Nat.le_of_ble_eq_true rfl) rfl ?_
  exact q_sub [1, 2, 0] rfl (aX12_readPlain_l2 d N rX12_readTest hX12_readTest N p1 1 σ)
theorem kX12_readPlain (d : Nat) (N : Nat) (rX12_readTest : Int32 → qMem → Option qMem) (p1 : Int32) (hX12_readTest : ∀ (p1 : Int32)  (σ : qMem), qMc wM (mX12_readTest d) (ρv) [.ref 0, .int p1] σ (rX12_readTest p1 σ)) (σ : qMem) : qMc wM (mX12_readPlain d) (ρv) [.ref 0, .int p1] σ (fX12_readPlain N rX12_readTest p1 σ) := qMc_of (moX12_readPlain _) (Nat.le_of_ble_eq_true rfl) (aX12_readPlain d N rX12_readTest p1 hX12_readTest σ)

theorem dX12_readBoth_0 : decode cX12_readBoth 0 = .ok (.aload_n 0, 1) := by decide +kernel
theorem dX12_readBoth_1 : decode cX12_readBoth 1 = .ok (.iload_n 1, 1) := by decide +kernel
theorem dX12_readBoth_2 : decode cX12_readBoth 2 = .ok (.invokevirtual 353, 3) := by decide +kernel
theorem dX12_readBoth_5 : decode cX12_readBoth 5 = .ok (.aload_n 0, 1) := by decide +kernel
theorem dX12_readBoth_6 : decode cX12_readBoth 6 = .ok (.bipush 6, 2) := by decide +kernel
theorem dX12_readBoth_8 : decode cX12_readBoth 8 = .ok (.invokevirtual 335, 3) := by decide +kernel
theorem dX12_readBoth_11 : decode cX12_readBoth 11 = .ok (.ifCond .eq 11, 3) := by decide +kernel
theorem dX12_readBoth_14 : decode cX12_readBoth 14 = .ok (.aload_n 0, 1) := by decide +kernel
theorem dX12_readBoth_15 : decode cX12_readBoth 15 = .ok (.iload_n 1, 1) := by decide +kernel
theorem dX12_readBoth_16 : decode cX12_readBoth 16 = .ok (.invokevirtual 353, 3) := by decide +kernel
theorem dX12_readBoth_19 : decode cX12_readBoth 19 = .ok (.goto (-14), 3) := by decide +kernel
theorem dX12_readBoth_22 : decode cX12_readBoth 22 = .ok (.return_, 1) := by decide +kernel
def fX12_readBoth_s5 (N : Nat) (rX12_readTest : Int32 → qMem → Option qMem) (c5 : Int32 → qMem → Option qMem) (v1 : Int32) (σ : qMem) : Option qMem :=
  ((fX12_takes 6 σ).bind fun y2 => (if y2.1 = 0 then (some y2.2) else ((fX12_readPlain N rX12_readTest v1 y2.2).bind fun y3 => (c5 v1 y3))))
set_option maxRecDepth 20000 in
set_option maxHeartbeats 4000000 in
theorem aX12_readBoth_s5 (d : Nat) (N : Nat) (rX12_readTest : Int32 → qMem → Option qMem) (hX12_readTest : ∀ (p1 : Int32)  (σ : qMem), qMc wM (mX12_readTest d) (ρv) [.ref 0, .int p1] σ (rX12_readTest p1 σ)) (c5 : Int32 → qMem → Option qMem) (hc5 : ∀ (v1 : Int32) (σ : qMem), qAt wM (mX12_readBoth d) (ρv) 5 [(0, .ref 0), (1, .int v1)] [] σ (c5 v1 σ)) (v1 : Int32) (σ : qMem) : qAt wM (mX12_readBoth d) (ρv) 5 [(0, .ref 0), (1, .int v1)] [] σ (fX12_readBoth_s5 N rX12_readTest c5 v1 σ) := by
  unfold fX12_readBoth_s5
  refine q_aload_n (i := 0) (x := 0) dX12_readBoth_5 rfl 0 rfl ?_
  refine q_bipush (v := 6) dX12_readBoth_6 (by decide) ?_
  refine q_cVi mX12_takes [.int 6] (st := []) dX12_readBoth_8 (svX12_335) (by unfold rR mX12_readBoth mX12_takes; constructor <;> dsimp only <;> omega) zM_0 rfl rfl rfl (Nat.le_of_ble_eq_true rfl) (kX12_takes 6 σ) (fun y2 => ?_)
  refine q_if_eq (tgt := 22) dX12_readBoth_11 (by decide) ?_ ?_
  · exact q_vret (y := y2.2) dX12_readBoth_22 rfl rfl
  refine q_aload_n (i := 0) (x := 0) dX12_readBoth_14 rfl 0 rfl ?_
  refine q_iload_n (i := 1) (x := v1) dX12_readBoth_15 rfl 1 rfl ?_
  refine q_cVv (mX12_readPlain d) [.int v1] (st := []) dX12_readBoth_16 (svX12_353 _) (by unfold rR mX12_readBoth mX12_readPlain; constructor <;> dsimp only <;> omega) zM_0 rfl rfl rfl (Nat.le_of_ble_eq_true rfl) (kX12_readPlain d N rX12_readTest v1 hX12_readTest y2.2) (fun y3 => ?_)
  refine q_goto (tgt := 5) dX12_readBoth_19 (by decide) ?_
  exact q_sub [0, 1] rfl (hc5 v1 y3)
def fX12_readBoth_l5 (N : Nat) (rX12_readTest : Int32 → qMem → Option qMem) : Nat → Int32 → qMem → Option qMem
  | 0 => fun _ _ => none
  | n + 1 => fun v1 σ => fX12_readBoth_s5 N rX12_readTest (fX12_readBoth_l5 N rX12_readTest n) v1 σ
theorem aX12_readBoth_l5 (d : Nat) (N : Nat) (rX12_readTest : Int32 → qMem → Option qMem) (hX12_readTest : ∀ (p1 : Int32)  (σ : qMem), qMc wM (mX12_readTest d) (ρv) [.ref 0, .int p1] σ (rX12_readTest p1 σ)) : ∀ (n : Nat) (v1 : Int32) (σ : qMem), qAt wM (mX12_readBoth d) (ρv) 5 [(0, .ref 0), (1, .int v1)] [] σ (fX12_readBoth_l5 N rX12_readTest n v1 σ) := by
  intro n
  induction n with
  | zero => intro v1 σ; exact q_none
  | succ n ih => intro v1 σ; exact aX12_readBoth_s5 d N rX12_readTest hX12_readTest (fX12_readBoth_l5 N rX12_readTest n) ih v1 σ

def fX12_readBoth (N : Nat) (rX12_readTest : Int32 → qMem → Option qMem) (p1 : Int32) (σ : qMem) : Option qMem :=
  ((fX12_readPlain N rX12_readTest p1 σ).bind fun y1 => (fX12_readBoth_l5 N rX12_readTest N p1 y1))
set_option maxRecDepth 20000 in
set_option maxHeartbeats 4000000 in
theorem aX12_readBoth (d : Nat) (N : Nat) (rX12_readTest : Int32 → qMem → Option qMem) (p1 : Int32) (hX12_readTest : ∀ (p1 : Int32)  (σ : qMem), qMc wM (mX12_readTest d) (ρv) [.ref 0, .int p1] σ (rX12_readTest p1 σ)) (σ : qMem) : qAt wM (mX12_readBoth d) (ρv) 0 [(0, .ref 0), (1, .int p1)] [] σ (fX12_readBoth N rX12_readTest p1 σ) := by
  unfold fX12_readBoth
  refine q_aload_n (i := 0) (x := 0) dX12_readBoth_0 rfl 0 rfl ?_
  refine q_iload_n (i := 1) (x := p1) dX12_readBoth_1 rfl 1 rfl ?_
  refine q_cVv (mX12_readPlain d) [.int p1] (st := []) dX12_readBoth_2 (svX12_353 _) (by unfold rR mX12_readBoth mX12_readPlain; constructor <;> dsimp only <;> omega) zM_0 rfl rfl rfl (Nat.le_of_ble_eq_true rfl) (kX12_readPlain d N rX12_readTest p1 hX12_readTest σ) (fun y1 => ?_)
  exact q_sub [0, 1] rfl (aX12_readBoth_l5 d N rX12_readTest hX12_readTest N p1 y1)
theorem kX12_readBoth (d : Nat) (N : Nat) (rX12_readTest : Int32 → qMem → Option qMem) (p1 : Int32) (hX12_readTest : ∀ (p1 : Int32)  (σ : qMem), qMc wM (mX12_readTest d) (ρv) [.ref 0, .int p1] σ (rX12_readTest p1 σ)) (σ : qMem) : qMc wM (mX12_readBoth d) (ρv) [.ref 0, .int p1] σ (fX12_readBoth N rX12_readTest p1 σ) := qMc_of (moX12_readBoth _) (Nat.le_of_ble_eq_true rfl) (aX12_readBoth d N rX12_readTest p1 hX12_readTest σ)

theorem dX12_readTest_0 : decode cX12_readTest 0 = .ok (.aload_n 0, 1) := by decide +kernel
theorem dX12_readTest_1 : decode cX12_readTest 1 = .ok (.iload_n 1, 1) := by decide +kernel
theorem dX12_readTest_2 : decode cX12_readTest 2 = .ok (.invokevirtual 350, 3) := by decide +kernel
theorem dX12_readTest_5 : decode cX12_readTest 5 = .ok (.aload_n 0, 1) := by decide +kernel
theorem dX12_readTest_6 : decode cX12_readTest 6 = .ok (.iconst 5, 1) := by decide +kernel
theorem dX12_readTest_7 : decode cX12_readTest 7 = .ok (.invokevirtual 335, 3) := by decide +kernel
theorem dX12_readTest_10 : decode cX12_readTest 10 = .ok (.ifCond .eq 11, 3) := by decide +kernel
theorem dX12_readTest_13 : decode cX12_readTest 13 = .ok (.aload_n 0, 1) := by decide +kernel
theorem dX12_readTest_14 : decode cX12_readTest 14 = .ok (.iload_n 1, 1) := by decide +kernel
theorem dX12_readTest_15 : decode cX12_readTest 15 = .ok (.invokevirtual 350, 3) := by decide +kernel
theorem dX12_readTest_18 : decode cX12_readTest 18 = .ok (.goto (-13), 3) := by decide +kernel
theorem dX12_readTest_21 : decode cX12_readTest 21 = .ok (.return_, 1) := by decide +kernel
def fX12_readTest_s5 (N : Nat) (rX12_readTest : Int32 → qMem → Option qMem) (c5 : Int32 → qMem → Option qMem) (v1 : Int32) (σ : qMem) : Option qMem :=
  ((fX12_takes 5 σ).bind fun y2 => (if y2.1 = 0 then (some y2.2) else ((fX12_readBoth N rX12_readTest v1 y2.2).bind fun y3 => (c5 v1 y3))))
set_option maxRecDepth 20000 in
set_option maxHeartbeats 4000000 in
theorem aX12_readTest_s5 (d : Nat) (N : Nat) (rX12_readTest : Int32 → qMem → Option qMem) (hX12_readTest : ∀ (p1 : Int32)  (σ : qMem), qMc wM (mX12_readTest d) (ρv) [.ref 0, .int p1] σ (rX12_readTest p1 σ)) (c5 : Int32 → qMem → Option qMem) (hc5 : ∀ (v1 : Int32) (σ : qMem), qAt wM (mX12_readTest (d + 1)) (ρv) 5 [(0, .ref 0), (1, .int v1)] [] σ (c5 v1 σ)) (v1 : Int32) (σ : qMem) : qAt wM (mX12_readTest (d + 1)) (ρv) 5 [(0, .ref 0), (1, .int v1)] [] σ (fX12_readTest_s5 N rX12_readTest c5 v1 σ) := by
  unfold fX12_readTest_s5
  refine q_aload_n (i := 0) (x := 0) dX12_readTest_5 rfl 0 rfl ?_
  refine q_iconst (v := 5) dX12_readTest_6 (by decide) ?_
  refine q_cVi mX12_takes [.int 5] (st := []) dX12_readTest_7 (svX12_335) (by unfold rR mX12_readTest mX12_takes; constructor <;> dsimp only <;> omega) zM_0 rfl rfl rfl (Nat.le_of_ble_eq_true rfl) (kX12_takes 5 σ) (fun y2 => ?_)
  refine q_if_eq (tgt := 21) dX12_readTest_10 (by decide) ?_ ?_
  · exact q_vret (y := y2.2) dX12_readTest_21 rfl rfl
  refine q_aload_n (i := 0) (x := 0) dX12_readTest_13 rfl 0 rfl ?_
  refine q_iload_n (i := 1) (x := v1) dX12_readTest_14 rfl 1 rfl ?_
  refine q_cVv (mX12_readBoth d) [.int v1] (st := []) dX12_readTest_15 (svX12_350 _) (by unfold rR mX12_readBoth mX12_readTest; constructor <;> dsimp only <;> omega) zM_0 rfl rfl rfl (Nat.le_of_ble_eq_true rfl) (kX12_readBoth d N rX12_readTest v1 hX12_readTest y2.2) (fun y3 => ?_)
  refine q_goto (tgt := 5) dX12_readTest_18 (by decide) ?_
  exact q_sub [0, 1] rfl (hc5 v1 y3)
def fX12_readTest_l5 (N : Nat) (rX12_readTest : Int32 → qMem → Option qMem) : Nat → Int32 → qMem → Option qMem
  | 0 => fun _ _ => none
  | n + 1 => fun v1 σ => fX12_readTest_s5 N rX12_readTest (fX12_readTest_l5 N rX12_readTest n) v1 σ
theorem aX12_readTest_l5 (d : Nat) (N : Nat) (rX12_readTest : Int32 → qMem → Option qMem) (hX12_readTest : ∀ (p1 : Int32)  (σ : qMem), qMc wM (mX12_readTest d) (ρv) [.ref 0, .int p1] σ (rX12_readTest p1 σ)) : ∀ (n : Nat) (v1 : Int32) (σ : qMem), qAt wM (mX12_readTest (d + 1)) (ρv) 5 [(0, .ref 0), (1, .int v1)] [] σ (fX12_readTest_l5 N rX12_readTest n v1 σ) := by
  intro n
  induction n with
  | zero => intro v1 σ; exact q_none
  | succ n ih => intro v1 σ; exact aX12_readTest_s5 d N rX12_readTest hX12_readTest (fX12_readTest_l5 N rX12_readTest n) ih v1 σ

def fX12_readTest_e (N : Nat) (rX12_readTest : Int32 → qMem → Option qMem) (p1 : Int32) (σ : qMem) : Option qMem :=
  ((fX12_readBoth N rX12_readTest p1 σ).bind fun y1 => (fX12_readTest_l5 N rX12_readTest N p1 y1))
set_option maxRecDepth 20000 in
set_option maxHeartbeats 4000000 in
theorem aX12_readTest_e (d : Nat) (N : Nat) (rX12_readTest : Int32 → qMem → Option qMem) (p1 : Int32) (hX12_readTest : ∀ (p1 : Int32)  (σ : qMem), qMc wM (mX12_readTest d) (ρv) [.ref 0, .int p1] σ (rX12_readTest p1 σ)) (σ : qMem) : qAt wM (mX12_readTest (d + 1)) (ρv) 0 [(0, .ref 0), (1, .int p1)] [] σ (fX12_readTest_e N rX12_readTest p1 σ) := by
  unfold fX12_readTest_e
  refine q_aload_n (i := 0) (x := 0) dX12_readTest_0 rfl 0 rfl ?_
  refine q_iload_n (i := 1) (x := p1) dX12_readTest_1 rfl 1 rfl ?_
  refine q_cVv (mX12_readBoth d) [.int p1] (st := []) dX12_readTest_2 (svX12_350 _) (by unfold rR mX12_readBoth mX12_readTest; constructor <;> dsimp only <;> omega) zM_0 rfl rfl rfl (Nat.le_of_ble_eq_true rfl) (kX12_readBoth d N rX12_readTest p1 hX12_readTest σ) (fun y1 => ?_)
  exact q_sub [0, 1] rfl (aX12_readTest_l5 d N rX12_readTest hX12_readTest N p1 y1)
def fX12_readTest (N : Nat) : Nat → Int32 → qMem → Option qMem
  | 0 => fun _ _ => none
  | d + 1 => fun p1 σ => fX12_readTest_e N (fX12_readTest N d) p1 σ
theorem kX12_readTest (N : Nat) : ∀ (d : Nat) (p1 : Int32)  (σ : qMem), qMc wM (mX12_readTest d) (ρv) [.ref 0, .int p1] σ (fX12_readTest N d p1 σ) := by
  intro d
  induction d with
  | zero => intro p1  σ; exact fun _ h => by cases h
  | succ d ih => intro p1  σ; exact qMc_of (moX12_readTest _) (Nat.le_of_ble_eq_true rfl) (aX12_readTest_e d N (fX12_readTest N d) p1 ih  σ)

theorem dX12_readClause_0 : decode cX12_readClause 0 = .ok (.aload_n 0, 1) := by decide +kernel
theorem dX12_readClause_1 : decode cX12_readClause 1 = .ok (.invokevirtual 328, 3) := by decide +kernel
theorem dX12_readClause_4 : decode cX12_readClause 4 = .ok (.ifCond .eq 24, 3) := by decide +kernel
theorem dX12_readClause_7 : decode cX12_readClause 7 = .ok (.aload_n 0, 1) := by decide +kernel
theorem dX12_readClause_8 : decode cX12_readClause 8 = .ok (.getfield 89, 3) := by decide +kernel
theorem dX12_readClause_11 : decode cX12_readClause 11 = .ok (.aload_n 0, 1) := by decide +kernel
theorem dX12_readClause_12 : decode cX12_readClause 12 = .ok (.getfield 332, 3) := by decide +kernel
theorem dX12_readClause_15 : decode cX12_readClause 15 = .ok (.iaload, 1) := by decide +kernel
theorem dX12_readClause_16 : decode cX12_readClause 16 = .ok (.iconst 1, 1) := by decide +kernel
theorem dX12_readClause_17 : decode cX12_readClause 17 = .ok (.iconst 3, 1) := by decide +kernel
theorem dX12_readClause_18 : decode cX12_readClause 18 = .ok (.invokestatic 110, 3) := by decide +kernel
theorem dX12_readClause_21 : decode cX12_readClause 21 = .ok (.ifCond .ne 7, 3) := by decide +kernel
theorem dX12_readClause_24 : decode cX12_readClause 24 = .ok (.aload_n 0, 1) := by decide +kernel
theorem dX12_readClause_25 : decode cX12_readClause 25 = .ok (.invokevirtual 338, 3) := by decide +kernel
theorem dX12_readClause_28 : decode cX12_readClause 28 = .ok (.aload_n 0, 1) := by decide +kernel
theorem dX12_readClause_29 : decode cX12_readClause 29 = .ok (.invokevirtual 328, 3) := by decide +kernel
theorem dX12_readClause_32 : decode cX12_readClause 32 = .ok (.ifCond .eq 13, 3) := by decide +kernel
theorem dX12_readClause_35 : decode cX12_readClause 35 = .ok (.aload_n 0, 1) := by decide +kernel
theorem dX12_readClause_36 : decode cX12_readClause 36 = .ok (.dup, 1) := by decide +kernel
theorem dX12_readClause_37 : decode cX12_readClause 37 = .ok (.getfield 332, 3) := by decide +kernel
theorem dX12_readClause_40 : decode cX12_readClause 40 = .ok (.iconst 1, 1) := by decide +kernel
theorem dX12_readClause_41 : decode cX12_readClause 41 = .ok (.iadd, 1) := by decide +kernel
theorem dX12_readClause_42 : decode cX12_readClause 42 = .ok (.putfield 332, 3) := by decide +kernel
theorem dX12_readClause_45 : decode cX12_readClause 45 = .ok (.aload_n 0, 1) := by decide +kernel
theorem dX12_readClause_46 : decode cX12_readClause 46 = .ok (.iconst 0, 1) := by decide +kernel
theorem dX12_readClause_47 : decode cX12_readClause 47 = .ok (.invokevirtual 344, 3) := by decide +kernel
theorem dX12_readClause_50 : decode cX12_readClause 50 = .ok (.aload_n 0, 1) := by decide +kernel
theorem dX12_readClause_51 : decode cX12_readClause 51 = .ok (.iconst 4, 1) := by decide +kernel
theorem dX12_readClause_52 : decode cX12_readClause 52 = .ok (.invokevirtual 335, 3) := by decide +kernel
theorem dX12_readClause_55 : decode cX12_readClause 55 = .ok (.ifCond .eq 8, 3) := by decide +kernel
theorem dX12_readClause_58 : decode cX12_readClause 58 = .ok (.aload_n 0, 1) := by decide +kernel
theorem dX12_readClause_59 : decode cX12_readClause 59 = .ok (.iconst 0, 1) := by decide +kernel
theorem dX12_readClause_60 : decode cX12_readClause 60 = .ok (.invokevirtual 347, 3) := by decide +kernel
theorem dX12_readClause_63 : decode cX12_readClause 63 = .ok (.return_, 1) := by decide +kernel
def fX12_readClause_b45 (N : Nat) (σ : qMem) : Option qMem :=
  ((fX12_readSum N 10 0 σ).bind fun y6 => ((fX12_takes 4 y6).bind fun y7 => (if y7.1 = 0 then (some y7.2) else ((fX12_readTest N 10 0 y7.2).bind fun y8 => (some y8)))))
set_option maxRecDepth 20000 in
set_option maxHeartbeats 4000000 in
theorem aX12_readClause_b45 (N : Nat) (σ : qMem) : qAt wM mX12_readClause (ρv) 45 [(0, .ref 0)] [] σ (fX12_readClause_b45 N σ) := by
  unfold fX12_readClause_b45
  refine q_aload_n (i := 0) (x := 0) dX12_readClause_45 rfl 0 rfl ?_
  refine q_iconst (v := 0) dX12_readClause_46 (by decide) ?_
  refine q_cVv (mX12_readSum 10) [.int 0] (st := []) dX12_readClause_47 (svX12_344 _) ⟨Nat.le_of_ble_eq_true rfl, Nat.le_of_ble_eq_true rfl⟩ zM_0 rfl rfl rfl (Nat.le_of_ble_eq_true rfl) (kX12_readSum N 10 0 σ) (fun y6 => ?_)
  refine q_aload_n (i := 0) (x := 0) dX12_readClause_50 rfl 0 rfl ?_
  refine q_iconst (v := 4) dX12_readClause_51 (by decide) ?_
  refine q_cVi mX12_takes [.int 4] (st := []) dX12_readClause_52 (svX12_335) ⟨Nat.le_of_ble_eq_true rfl, Nat.le_of_ble_eq_true rfl⟩ zM_0 rfl rfl rfl (Nat.le_of_ble_eq_true rfl) (kX12_takes 4 y6) (fun y7 => ?_)
  refine q_if_eq (tgt := 63) dX12_readClause_55 (by decide) ?_ ?_
  · exact q_vret (y := y7.2) dX12_readClause_63 rfl rfl
  refine q_aload_n (i := 0) (x := 0) dX12_readClause_58 rfl 0 rfl ?_
  refine q_iconst (v := 0) dX12_readClause_59 (by decide) ?_
  refine q_cVv (mX12_readTest 10) [.int 0] (st := []) dX12_readClause_60 (svX12_347 _) ⟨Nat.le_of_ble_eq_true rfl, Nat.le_of_ble_eq_true rfl⟩ zM_0 rfl rfl rfl (Nat.le_of_ble_eq_true rfl) (kX12_readTest N 10 0 y7.2) (fun y8 => ?_)
  exact q_vret (y := y8) dX12_readClause_63 rfl rfl

def fX12_readClause_b28 (N : Nat) (σ : qMem) : Option qMem :=
  ((fX12_fine σ).bind fun y4 => (if y4 = 0 then (fX12_readClause_b45 N σ) else (nmM (si σ 0 34 ((gi σ 0 34) + 1)) fun s5 => (fX12_readClause_b45 N s5))))
set_option maxRecDepth 20000 in
set_option maxHeartbeats 4000000 in
theorem aX12_readClause_b28 (N : Nat) (σ : qMem) : qAt wM mX12_readClause (ρv) 28 [(0, .ref 0)] [] σ (fX12_readClause_b28 N σ) := by
  unfold fX12_readClause_b28
  refine q_aload_n (i := 0) (x := 0) dX12_readClause_28 rfl 0 rfl ?_
  refine q_cVp mX12_fine [] (st := []) dX12_readClause_29 (svX12_328) ⟨Nat.le_of_ble_eq_true rfl, Nat.le_of_ble_eq_true rfl⟩ zM_0 rfl rfl rfl (Nat.le_of_ble_eq_true rfl) (kX12_fine σ) (fun y4 => ?_)
  refine q_if_eq (tgt := 45) dX12_readClause_32 (by decide) ?_ ?_
  · exact q_sub [0] rfl (aX12_readClause_b45 N σ)
  refine q_aload_n (i := 0) (x := 0) dX12_readClause_35 rfl 0 rfl ?_
  refine q_dup dX12_readClause_36 rfl ?_
  refine q_geti dX12_readClause_37 foX12_332 zM_0 rfl ?_
  refine q_iconst (v := 1) dX12_readClause_40 (by decide) ?_
  refine q_iadd dX12_readClause_41 ?_
  refine q_puti dX12_readClause_42 foX12_332 fwX12_34 zM_0 rfl ?_
  refine q_nmM (fun s5 => ?_)
  exact q_sub [0] rfl (aX12_readClause_b45 N s5)

def fX12_readClause (N : Nat)  (σ : qMem) : Option qMem :=
  ((fX12_fine σ).bind fun y1 => (if y1 = 0 then (fX12_readClause_b28 N σ) else (if ck (gi σ 0 34) 401 = true then ((fX12_in (gi σ 20 (gi σ 0 34).toNatClampNeg) 1 3).bind fun y2 => (if y2 = 0 then ((fX12_faults σ).bind fun y3 => (fX12_readClause_b28 N y3)) else (fX12_readClause_b28 N σ))) else none)))
set_option maxRecDepth 20000 in
set_option maxHeartbeats 4000000 in
theorem aX12_readClause  (N : Nat)   (σ : qMem) : qAt wM mX12_readClause (ρv) 0 [(0, .ref 0)] [] σ (fX12_readClause N σ) := by
  unfold fX12_readClause
  refine q_aload_n (i := 0) (x := 0) dX12_readClause_0 rfl 0 rfl ?_
  refine q_cVp mX12_fine [] (st := []) dX12_readClause_1 (svX12_328) ⟨Nat.le_of_ble_eq_true rfl, Nat.le_of_ble_eq_true rfl⟩ zM_0 rfl rfl rfl (Nat.le_of_ble_eq_true rfl) (kX12_fine σ) (fun y1 => ?_)
  refine q_if_eq (tgt := 28) dX12_readClause_4 (by decide) ?_ ?_
  · exact q_sub [0] rfl (aX12_readClause_b28 N σ)
  refine q_aload_n (i := 0) (x := 0) dX12_readClause_7 rfl 0 rfl ?_
  refine q_getr (t := 20) dX12_readClause_8 foX12_89 zM_0 rfl ?_
  refine q_aload_n (i := 0) (x := 0) dX12_readClause_11 rfl 0 rfl ?_
  refine q_geti dX12_readClause_12 foX12_332 zM_0 rfl ?_
  refine q_iald dX12_readClause_15 zM_20 ?_
  refine q_iconst (v := 1) dX12_readClause_16 (by decide) ?_
  refine q_iconst (v := 3) dX12_readClause_17 (by decide) ?_
  refine q_cSp mX12_in [.int (gi σ 20 (gi σ 0 34).toNatClampNeg), .int 1, .int 3] (st := []) dX12_readClause_18 (ssX12_110) ⟨Nat.le_of_ble_eq_true rfl, Nat.le_of_ble_eq_true rfl⟩ rfl rfl (Nat.le_of_ble_eq_true rfl) (kX12_in (gi σ 20 (gi σ 0 34).toNatClampNeg) 1 3 σ) (fun y2 => ?_)
  refine q_if_ne (tgt := 28) dX12_readClause_21 (by decide) ?_ ?_
  · exact q_sub [0] rfl (aX12_readClause_b28 N σ)
  refine q_aload_n (i := 0) (x := 0) dX12_readClause_24 rfl 0 rfl ?_
  refine q_cVv mX12_faults [] (st := []) dX12_readClause_25 (svX12_338) ⟨Nat.le_of_ble_eq_true rfl, Nat.le_of_ble_eq_true rfl⟩ zM_0 rfl rfl rfl (Nat.le_of_ble_eq_true rfl) (kX12_faults σ) (fun y3 => ?_)
  exact q_sub [0] rfl (aX12_readClause_b28 N y3)
theorem kX12_readClause  (N : Nat)   (σ : qMem) : qMc wM mX12_readClause (ρv) [.ref 0] σ (fX12_readClause N σ) := qMc_of (moX12_readClause) (Nat.le_of_ble_eq_true rfl) (aX12_readClause N  σ)

theorem dX12_reads_0 : decode cX12_reads 0 = .ok (.aload_n 0, 1) := by decide +kernel
theorem dX12_reads_1 : decode cX12_reads 1 = .ok (.aload_n 0, 1) := by decide +kernel
theorem dX12_reads_2 : decode cX12_reads 2 = .ok (.getfield 202, 3) := by decide +kernel
theorem dX12_reads_5 : decode cX12_reads 5 = .ok (.invokevirtual 372, 3) := by decide +kernel
theorem dX12_reads_8 : decode cX12_reads 8 = .ok (.aload_n 0, 1) := by decide +kernel
theorem dX12_reads_9 : decode cX12_reads 9 = .ok (.iconst 0, 1) := by decide +kernel
theorem dX12_reads_10 : decode cX12_reads 10 = .ok (.putfield 202, 3) := by decide +kernel
theorem dX12_reads_13 : decode cX12_reads 13 = .ok (.aload_n 0, 1) := by decide +kernel
theorem dX12_reads_14 : decode cX12_reads 14 = .ok (.iconst 0, 1) := by decide +kernel
theorem dX12_reads_15 : decode cX12_reads 15 = .ok (.putfield 332, 3) := by decide +kernel
theorem dX12_reads_18 : decode cX12_reads 18 = .ok (.aload_n 0, 1) := by decide +kernel
theorem dX12_reads_19 : decode cX12_reads 19 = .ok (.iconst 0, 1) := by decide +kernel
theorem dX12_reads_20 : decode cX12_reads 20 = .ok (.putfield 341, 3) := by decide +kernel
theorem dX12_reads_23 : decode cX12_reads 23 = .ok (.aload_n 0, 1) := by decide +kernel
theorem dX12_reads_24 : decode cX12_reads 24 = .ok (.iconst (-1), 1) := by decide +kernel
theorem dX12_reads_25 : decode cX12_reads 25 = .ok (.putfield 325, 3) := by decide +kernel
theorem dX12_reads_28 : decode cX12_reads 28 = .ok (.aload_n 0, 1) := by decide +kernel
theorem dX12_reads_29 : decode cX12_reads 29 = .ok (.invokevirtual 375, 3) := by decide +kernel
theorem dX12_reads_32 : decode cX12_reads 32 = .ok (.iconst 1, 1) := by decide +kernel
theorem dX12_reads_33 : decode cX12_reads 33 = .ok (.istore_n 1, 1) := by decide +kernel
theorem dX12_reads_34 : decode cX12_reads 34 = .ok (.aload_n 0, 1) := by decide +kernel
theorem dX12_reads_35 : decode cX12_reads 35 = .ok (.bipush 59, 2) := by decide +kernel
theorem dX12_reads_37 : decode cX12_reads 37 = .ok (.invokestatic 356, 3) := by decide +kernel
theorem dX12_reads_40 : decode cX12_reads 40 = .ok (.invokevirtual 335, 3) := by decide +kernel
theorem dX12_reads_43 : decode cX12_reads 43 = .ok (.ifCond .eq 30, 3) := by decide +kernel
theorem dX12_reads_46 : decode cX12_reads 46 = .ok (.iload_n 1, 1) := by decide +kernel
theorem dX12_reads_47 : decode cX12_reads 47 = .ok (.bipush 12, 2) := by decide +kernel
theorem dX12_reads_49 : decode cX12_reads 49 = .ok (.if_icmp .ne 7, 3) := by decide +kernel
theorem dX12_reads_52 : decode cX12_reads 52 = .ok (.aload_n 0, 1) := by decide +kernel
theorem dX12_reads_53 : decode cX12_reads 53 = .ok (.invokevirtual 338, 3) := by decide +kernel
theorem dX12_reads_56 : decode cX12_reads 56 = .ok (.aload_n 0, 1) := by decide +kernel
theorem dX12_reads_57 : decode cX12_reads 57 = .ok (.invokevirtual 328, 3) := by decide +kernel
theorem dX12_reads_60 : decode cX12_reads 60 = .ok (.ifCond .eq 7, 3) := by decide +kernel
theorem dX12_reads_63 : decode cX12_reads 63 = .ok (.aload_n 0, 1) := by decide +kernel
theorem dX12_reads_64 : decode cX12_reads 64 = .ok (.invokevirtual 375, 3) := by decide +kernel
theorem dX12_reads_67 : decode cX12_reads 67 = .ok (.iinc 1 1, 3) := by decide +kernel
theorem dX12_reads_70 : decode cX12_reads 70 = .ok (.goto (-36), 3) := by decide +kernel
theorem dX12_reads_73 : decode cX12_reads 73 = .ok (.aload_n 0, 1) := by decide +kernel
theorem dX12_reads_74 : decode cX12_reads 74 = .ok (.invokevirtual 328, 3) := by decide +kernel
theorem dX12_reads_77 : decode cX12_reads 77 = .ok (.ifCond .eq 18, 3) := by decide +kernel
theorem dX12_reads_80 : decode cX12_reads 80 = .ok (.aload_n 0, 1) := by decide +kernel
theorem dX12_reads_81 : decode cX12_reads 81 = .ok (.getfield 332, 3) := by decide +kernel
theorem dX12_reads_84 : decode cX12_reads 84 = .ok (.aload_n 0, 1) := by decide +kernel
theorem dX12_reads_85 : decode cX12_reads 85 = .ok (.getfield 312, 3) := by decide +kernel
theorem dX12_reads_88 : decode cX12_reads 88 = .ok (.if_icmp .ge 7, 3) := by decide +kernel
theorem dX12_reads_91 : decode cX12_reads 91 = .ok (.aload_n 0, 1) := by decide +kernel
theorem dX12_reads_92 : decode cX12_reads 92 = .ok (.invokevirtual 338, 3) := by decide +kernel
theorem dX12_reads_95 : decode cX12_reads 95 = .ok (.aload_n 0, 1) := by decide +kernel
theorem dX12_reads_96 : decode cX12_reads 96 = .ok (.aload_n 0, 1) := by decide +kernel
theorem dX12_reads_97 : decode cX12_reads 97 = .ok (.getfield 325, 3) := by decide +kernel
theorem dX12_reads_100 : decode cX12_reads 100 = .ok (.putfield 86, 3) := by decide +kernel
theorem dX12_reads_103 : decode cX12_reads 103 = .ok (.aload_n 0, 1) := by decide +kernel
theorem dX12_reads_104 : decode cX12_reads 104 = .ok (.invokevirtual 328, 3) := by decide +kernel
theorem dX12_reads_107 : decode cX12_reads 107 = .ok (.ireturn, 1) := by decide +kernel
def fX12_reads_b95 (N : Nat) (σ : qMem) : Option (Int32 × qMem) :=
  (nmM (si σ 0 29 (gi σ 0 36)) fun s14 => ((fX12_fine s14).bind fun y15 => (if y15 = 0 ∨ y15 = 1 then some (y15, s14) else none)))
set_option maxRecDepth 20000 in
set_option maxHeartbeats 4000000 in
theorem aX12_reads_b95 (N : Nat) (σ : qMem) : qAt wM mX12_reads (ρi) 95 [(0, .ref 0)] [] σ (fX12_reads_b95 N σ) := by
  unfold fX12_reads_b95
  refine q_aload_n (i := 0) (x := 0) dX12_reads_95 rfl 0 rfl ?_
  refine q_aload_n (i := 0) (x := 0) dX12_reads_96 rfl 0 rfl ?_
  refine q_geti dX12_reads_97 foX12_325 zM_0 rfl ?_
  refine q_puti dX12_reads_100 foX12_86 fwX12_29 zM_0 rfl ?_
  refine q_nmM (fun s14 => ?_)
  refine q_aload_n (i := 0) (x := 0) dX12_reads_103 rfl 0 rfl ?_
  refine q_cVp mX12_fine [] (st := []) dX12_reads_104 (svX12_328) ⟨Nat.le_of_ble_eq_true rfl, Nat.le_of_ble_eq_true rfl⟩ zM_0 rfl rfl rfl (Nat.le_of_ble_eq_true rfl) (kX12_fine s14) (fun y15 => ?_)
  exact q_if (fun hz => q_iretz (y := (y15, s14)) dX12_reads_107 rfl (nb_ok hz) rfl)

def fX12_reads_b67 (N : Nat) (c34 : Int32 → qMem → Option (Int32 × qMem)) (v1 : Int32) (σ : qMem) : Option (Int32 × qMem) :=
  (c34 (v1 + 1) σ)
set_option maxRecDepth 20000 in
set_option maxHeartbeats 4000000 in
theorem aX12_reads_b67 (N : Nat) (c34 : Int32 → qMem → Option (Int32 × qMem)) (hc34 : ∀ (v1 : Int32) (σ : qMem), qAt wM mX12_reads (ρi) 34 [(0, .ref 0), (1, .int v1)] [] σ (c34 v1 σ)) (v1 : Int32) (σ : qMem) : qAt wM mX12_reads (ρi) 67 [(0, .ref 0), (1, .int v1)] [] σ (fX12_reads_b67 N c34 v1 σ) := by
  unfold fX12_reads_b67
  refine q_iinc (i := 1) (x := v1) (v := (v1 + 1)) (L' := [(1, .int (v1 + 1)), (0, .ref 0)]) dX12_reads_67 1 rfl (q_cst v1 (by decide)) (Nat.le_of_ble_eq_true rfl) rfl ?_
  refine q_goto (tgt := 34) dX12_reads_70 (by decide) ?_
  exact q_sub [1, 0] rfl (hc34 (v1 + 1) σ)

def fX12_reads_b56 (N : Nat) (c34 : Int32 → qMem → Option (Int32 × qMem)) (v1 : Int32) (σ : qMem) : Option (Int32 × qMem) :=
  ((fX12_fine σ).bind fun y12 => (if y12 = 0 then (fX12_reads_b67 N c34 v1 σ) else ((fX12_readClause N σ).bind fun y13 => (fX12_reads_b67 N c34 v1 y13))))
set_option maxRecDepth 20000 in
set_option maxHeartbeats 4000000 in
theorem aX12_reads_b56 (N : Nat) (c34 : Int32 → qMem → Option (Int32 × qMem)) (hc34 : ∀ (v1 : Int32) (σ : qMem), qAt wM mX12_reads (ρi) 34 [(0, .ref 0), (1, .int v1)] [] σ (c34 v1 σ)) (v1 : Int32) (σ : qMem) : qAt wM mX12_reads (ρi) 56 [(0, .ref 0), (1, .int v1)] [] σ (fX12_reads_b56 N c34 v1 σ) := by
  unfold fX12_reads_b56
  refine q_aload_n (i := 0) (x := 0) dX12_reads_56 rfl 0 rfl ?_
  refine q_cVp mX12_fine [] (st := []) dX12_reads_57 (svX12_328) ⟨Nat.le_of_ble_eq_true rfl, Nat.le_of_ble_eq_true rfl⟩ zM_0 rfl rfl rfl (Nat.le_of_ble_eq_true rfl) (kX12_fine σ) (fun y12 => ?_)
  refine q_if_eq (tgt := 67) dX12_reads_60 (by decide) ?_ ?_
  · exact q_sub [0, 1] rfl (aX12_reads_b67 N c34 hc34 v1 σ)
  refine q_aload_n (i := 0) (x := 0) dX12_reads_63 rfl 0 rfl ?_
  refine q_cVv mX12_readClause [] (st := []) dX12_reads_64 (svX12_375) ⟨Nat.le_of_ble_eq_true rfl, Nat.le_of_ble_eq_true rfl⟩ zM_0 rfl rfl rfl (Nat.le_of_ble_eq_true rfl) (kX12_readClause N σ) (fun y13 => ?_)
  exact q_sub [0, 1] rfl (aX12_reads_b67 N c34 hc34 v1 y13)

def fX12_reads_s34 (N : Nat) (c34 : Int32 → qMem → Option (Int32 × qMem)) (v1 : Int32) (σ : qMem) : Option (Int32 × qMem) :=
  ((fX12_sign 59).bind fun y7 => ((fX12_takes y7 σ).bind fun y8 => (if y8.1 = 0 then ((fX12_fine y8.2).bind fun y9 => (if y9 = 0 then (fX12_reads_b95 N y8.2) else (if (gi y8.2 0 33) ≤ (gi y8.2 0 34) then (fX12_reads_b95 N y8.2) else ((fX12_faults y8.2).bind fun y10 => (fX12_reads_b95 N y10))))) else (if v1 = 12 then ((fX12_faults y8.2).bind fun y11 => (fX12_reads_b56 N c34 v1 y11)) else (fX12_reads_b56 N c34 v1 y8.2)))))
set_option maxRecDepth 20000 in
set_option maxHeartbeats 4000000 in
theorem aX12_reads_s34 (N : Nat) (c34 : Int32 → qMem → Option (Int32 × qMem)) (hc34 : ∀ (v1 : Int32) (σ : qMem), qAt wM mX12_reads (ρi) 34 [(0, .ref 0), (1, .int v1)] [] σ (c34 v1 σ)) (v1 : Int32) (σ : qMem) : qAt wM mX12_reads (ρi) 34 [(0, .ref 0), (1, .int v1)] [] σ (fX12_reads_s34 N c34 v1 σ) := by
  unfold fX12_reads_s34
  refine q_aload_n (i := 0) (x := 0) dX12_reads_34 rfl 0 rfl ?_
  refine q_bipush (v := 59) dX12_reads_35 (by decide) ?_
  refine q_cSp mX12_sign [.int 59] (st := [.ref 0]) dX12_reads_37 (ssX12_356) ⟨Nat.le_of_ble_eq_true rfl, Nat.le_of_ble_eq_true rfl⟩ rfl rfl (Nat.le_of_ble_eq_true rfl) (kX12_sign 59 σ) (fun y7 => ?_)
  refine q_cVi mX12_takes [.int y7] (st := []) dX12_reads_40 (svX12_335) ⟨Nat.le_of_ble_eq_true rfl, Nat.le_of_ble_eq_true rfl⟩ zM_0 rfl rfl rfl (Nat.le_of_ble_eq_true rfl) (kX12_takes y7 σ) (fun y8 => ?_)
  refine q_if_eq (tgt := 73) dX12_reads_43 (by decide) ?_ ?_
  · refine q_aload_n (i := 0) (x := 0) dX12_reads_73 rfl 0 rfl ?_
    refine q_cVp mX12_fine [] (st := []) dX12_reads_74 (svX12_328) ⟨Nat.le_of_ble_eq_true rfl, Nat.le_of_ble_eq_true rfl⟩ zM_0 rfl rfl rfl (Nat.le_of_ble_eq_true rfl) (kX12_fine y8.2) (fun y9 => ?_)
    refine q_if_eq (tgt := 95) dX12_reads_77 (by decide) ?_ ?_
    · exact q_sub [0] rfl (aX12_reads_b95 N y8.2)
    refine q_aload_n (i := 0) (x := 0) dX12_reads_80 rfl 0 rfl ?_
    refine q_geti dX12_reads_81 foX12_332 zM_0 rfl ?_
    refine q_aload_n (i := 0) (x := 0) dX12_reads_84 rfl 0 rfl ?_
    refine q_geti dX12_reads_85 foX12_312 zM_0 rfl ?_
    refine q_icmp_ge (tgt := 95) dX12_reads_88 (by decide) ?_ ?_
    · exact q_sub [0] rfl (aX12_reads_b95 N y8.2)
    refine q_aload_n (i := 0) (x := 0) dX12_reads_91 rfl 0 rfl ?_
    refine q_cVv mX12_faults [] (st := []) dX12_reads_92 (svX12_338) ⟨Nat.le_of_ble_eq_true rfl, Nat.le_of_ble_eq_true rfl⟩ zM_0 rfl rfl rfl (Nat.le_of_ble_eq_true rfl) (kX12_faults y8.2) (fun y10 => ?_)
    exact q_sub [0] rfl (aX12_reads_b95 N y10)
  refine q_iload_n (i := 1) (x := v1) dX12_reads_46 rfl 1 rfl ?_
  refine q_bipush (v := 12) dX12_reads_47 (by decide) ?_
  refine q_icmp_ne (tgt := 56) dX12_reads_49 (by decide) ?_ ?_
  · exact q_sub [0, 1] rfl (aX12_reads_b56 N c34 hc34 v1 y8.2)
  refine q_aload_n (i := 0) (x := 0) dX12_reads_52 rfl 0 rfl ?_
  refine q_cVv mX12_faults [] (st := []) dX12_reads_53 (svX12_338) ⟨Nat.le_of_ble_eq_true rfl, Nat.le_of_ble_eq_true rfl⟩ zM_0 rfl rfl rfl (Nat.le_of_ble_eq_true rfl) (kX12_faults y8.2) (fun y11 => ?_)
  exact q_sub [0, 1] rfl (aX12_reads_b56 N c34 hc34 v1 y11)
def fX12_reads_l34 (N : Nat) : Nat → Int32 → qMem → Option (Int32 × qMem)
  | 0 => fun _ _ => none
  | n + 1 => fun v1 σ => fX12_reads_s34 N (fX12_reads_l34 N n) v1 σ
theorem aX12_reads_l34 (N : Nat) : ∀ (n : Nat) (v1 : Int32) (σ : qMem), qAt wM mX12_reads (ρi) 34 [(0, .ref 0), (1, .int v1)] [] σ (fX12_reads_l34 N n v1 σ) := by
  intro n
  induction n with
  | zero => intro v1 σ; exact q_none
  | succ n ih => intro v1 σ; exact aX12_reads_s34 N (fX12_reads_l34 N n) ih v1 σ

def fX12_reads (N : Nat)  (σ : qMem) : Option (Int32 × qMem) :=
  ((fX12_splits N (gi σ 0 28) σ).bind fun y1 => (nmM (si y1 0 28 0) fun s2 => (nmM (si s2 0 34 0) fun s3 => (nmM (si s3 0 35 0) fun s4 => (nmM (si s4 0 36 (-1)) fun s5 => ((fX12_readClause N s5).bind fun y6 => (fX12_reads_l34 N N 1 y6)))))))
set_option maxRecDepth 20000 in
set_option maxHeartbeats 4000000 in
theorem aX12_reads  (N : Nat)   (σ : qMem) : qAt wM mX12_reads (ρi) 0 [(0, .ref 0)] [] σ (fX12_reads N σ) := by
  unfold fX12_reads
  refine q_aload_n (i := 0) (x := 0) dX12_reads_0 rfl 0 rfl ?_
  refine q_aload_n (i := 0) (x := 0) dX12_reads_1 rfl 0 rfl ?_
  refine q_geti dX12_reads_2 foX12_202 zM_0 rfl ?_
  refine q_cVv mX12_splits [.int (gi σ 0 28)] (st := []) dX12_reads_5 (svX12_372) ⟨Nat.le_of_ble_eq_true rfl, Nat.le_of_ble_eq_true rfl⟩ zM_0 rfl rfl rfl (Nat.le_of_ble_eq_true rfl) (kX12_splits N (gi σ 0 28) σ) (fun y1 => ?_)
  refine q_aload_n (i := 0) (x := 0) dX12_reads_8 rfl 0 rfl ?_
  refine q_iconst (v := 0) dX12_reads_9 (by decide) ?_
  refine q_puti dX12_reads_10 foX12_202 fwX12_28 zM_0 rfl ?_
  refine q_nmM (fun s2 => ?_)
  refine q_aload_n (i := 0) (x := 0) dX12_reads_13 rfl 0 rfl ?_
  refine q_iconst (v := 0) dX12_reads_14 (by decide) ?_
  refine q_puti dX12_reads_15 foX12_332 fwX12_34 zM_0 rfl ?_
  refine q_nmM (fun s3 => ?_)
  refine q_aload_n (i := 0) (x := 0) dX12_reads_18 rfl 0 rfl ?_
  refine q_iconst (v := 0) dX12_reads_19 (by decide) ?_
  refine q_puti dX12_reads_20 foX12_341 fwX12_35 zM_0 rfl ?_
  refine q_nmM (fun s4 => ?_)
  refine q_aload_n (i := 0) (x := 0) dX12_reads_23 rfl 0 rfl ?_
  refine q_iconst (v := (-1)) dX12_reads_24 (by decide) ?_
  refine q_puti dX12_reads_25 foX12_325 fwX12_36 zM_0 rfl ?_
  refine q_nmM (fun s5 => ?_)
  refine q_aload_n (i := 0) (x := 0) dX12_reads_28 rfl 0 rfl ?_
  refine q_cVv mX12_readClause [] (st := []) dX12_reads_29 (svX12_375) ⟨Nat.le_of_ble_eq_true rfl, Nat.le_of_ble_eq_true rfl⟩ zM_0 rfl rfl rfl (Nat.le_of_ble_eq_true rfl) (kX12_readClause N s5) (fun y6 => ?_)
  refine q_iconst (v := 1) dX12_reads_32 (by decide) ?_
  refine q_istore_n (i := 1) (L' := [(1, .int 1), (0, .ref 0)]) dX12_reads_33 rfl (Nat.le_of_ble_eq_true rfl) rfl ?_
  exact q_sub [1, 0] rfl (aX12_reads_l34 N N 1 y6)
theorem kX12_reads  (N : Nat)   (σ : qMem) : qMc wM mX12_reads (ρi) [.ref 0] σ (fX12_reads N σ) := qMc_of (moX12_reads) (Nat.le_of_ble_eq_true rfl) (aX12_reads N  σ)

theorem dX12_law_0 : decode cX12_law 0 = .ok (.aload_n 0, 1) := by decide +kernel
theorem dX12_law_1 : decode cX12_law 1 = .ok (.invokevirtual 378, 3) := by decide +kernel
theorem dX12_law_4 : decode cX12_law 4 = .ok (.ifCond .ne 10, 3) := by decide +kernel
theorem dX12_law_7 : decode cX12_law 7 = .ok (.aload_n 0, 1) := by decide +kernel
theorem dX12_law_8 : decode cX12_law 8 = .ok (.bipush (-6), 2) := by decide +kernel
theorem dX12_law_10 : decode cX12_law 10 = .ok (.invokevirtual 114, 3) := by decide +kernel
theorem dX12_law_13 : decode cX12_law 13 = .ok (.ireturn, 1) := by decide +kernel
theorem dX12_law_14 : decode cX12_law 14 = .ok (.aload_n 0, 1) := by decide +kernel
theorem dX12_law_15 : decode cX12_law 15 = .ok (.getfield 20, 3) := by decide +kernel
theorem dX12_law_18 : decode cX12_law 18 = .ok (.sipush 306, 3) := by decide +kernel
theorem dX12_law_21 : decode cX12_law 21 = .ok (.aload_n 0, 1) := by decide +kernel
theorem dX12_law_22 : decode cX12_law 22 = .ok (.getfield 312, 3) := by decide +kernel
theorem dX12_law_25 : decode cX12_law 25 = .ok (.iastore, 1) := by decide +kernel
theorem dX12_law_26 : decode cX12_law 26 = .ok (.aload_n 0, 1) := by decide +kernel
theorem dX12_law_27 : decode cX12_law 27 = .ok (.getfield 20, 3) := by decide +kernel
theorem dX12_law_30 : decode cX12_law 30 = .ok (.sipush 307, 3) := by decide +kernel
theorem dX12_law_33 : decode cX12_law 33 = .ok (.iconst 1, 1) := by decide +kernel
theorem dX12_law_34 : decode cX12_law 34 = .ok (.iastore, 1) := by decide +kernel
theorem dX12_law_35 : decode cX12_law 35 = .ok (.iconst 0, 1) := by decide +kernel
theorem dX12_law_36 : decode cX12_law 36 = .ok (.istore_n 1, 1) := by decide +kernel
theorem dX12_law_37 : decode cX12_law 37 = .ok (.iload_n 1, 1) := by decide +kernel
theorem dX12_law_38 : decode cX12_law 38 = .ok (.aload_n 0, 1) := by decide +kernel
theorem dX12_law_39 : decode cX12_law 39 = .ok (.getfield 312, 3) := by decide +kernel
theorem dX12_law_42 : decode cX12_law 42 = .ok (.if_icmp .ge 71, 3) := by decide +kernel
theorem dX12_law_45 : decode cX12_law 45 = .ok (.aload_n 0, 1) := by decide +kernel
theorem dX12_law_46 : decode cX12_law 46 = .ok (.getfield 20, 3) := by decide +kernel
theorem dX12_law_49 : decode cX12_law 49 = .ok (.sipush 307, 3) := by decide +kernel
theorem dX12_law_52 : decode cX12_law 52 = .ok (.dup2, 1) := by decide +kernel
theorem dX12_law_53 : decode cX12_law 53 = .ok (.iaload, 1) := by decide +kernel
theorem dX12_law_54 : decode cX12_law 54 = .ok (.aload_n 0, 1) := by decide +kernel
theorem dX12_law_55 : decode cX12_law 55 = .ok (.getfield 89, 3) := by decide +kernel
theorem dX12_law_58 : decode cX12_law 58 = .ok (.iload_n 1, 1) := by decide +kernel
theorem dX12_law_59 : decode cX12_law 59 = .ok (.iaload, 1) := by decide +kernel
theorem dX12_law_60 : decode cX12_law 60 = .ok (.bipush 59, 2) := by decide +kernel
theorem dX12_law_62 : decode cX12_law 62 = .ok (.invokestatic 356, 3) := by decide +kernel
theorem dX12_law_65 : decode cX12_law 65 = .ok (.if_icmp .ne 7, 3) := by decide +kernel
theorem dX12_law_68 : decode cX12_law 68 = .ok (.iconst 1, 1) := by decide +kernel
theorem dX12_law_69 : decode cX12_law 69 = .ok (.goto 4, 3) := by decide +kernel
theorem dX12_law_72 : decode cX12_law 72 = .ok (.iconst 0, 1) := by decide +kernel
theorem dX12_law_73 : decode cX12_law 73 = .ok (.iadd, 1) := by decide +kernel
theorem dX12_law_74 : decode cX12_law 74 = .ok (.iastore, 1) := by decide +kernel
theorem dX12_law_75 : decode cX12_law 75 = .ok (.aload_n 0, 1) := by decide +kernel
theorem dX12_law_76 : decode cX12_law 76 = .ok (.getfield 20, 3) := by decide +kernel
theorem dX12_law_79 : decode cX12_law 79 = .ok (.sipush 312, 3) := by decide +kernel
theorem dX12_law_82 : decode cX12_law 82 = .ok (.iload_n 1, 1) := by decide +kernel
theorem dX12_law_83 : decode cX12_law 83 = .ok (.iadd, 1) := by decide +kernel
theorem dX12_law_84 : decode cX12_law 84 = .ok (.aload_n 0, 1) := by decide +kernel
theorem dX12_law_85 : decode cX12_law 85 = .ok (.getfield 89, 3) := by decide +kernel
theorem dX12_law_88 : decode cX12_law 88 = .ok (.iload_n 1, 1) := by decide +kernel
theorem dX12_law_89 : decode cX12_law 89 = .ok (.iaload, 1) := by decide +kernel
theorem dX12_law_90 : decode cX12_law 90 = .ok (.iastore, 1) := by decide +kernel
theorem dX12_law_91 : decode cX12_law 91 = .ok (.aload_n 0, 1) := by decide +kernel
theorem dX12_law_92 : decode cX12_law 92 = .ok (.getfield 20, 3) := by decide +kernel
theorem dX12_law_95 : decode cX12_law 95 = .ok (.sipush 712, 3) := by decide +kernel
theorem dX12_law_98 : decode cX12_law 98 = .ok (.iload_n 1, 1) := by decide +kernel
theorem dX12_law_99 : decode cX12_law 99 = .ok (.iadd, 1) := by decide +kernel
theorem dX12_law_100 : decode cX12_law 100 = .ok (.aload_n 0, 1) := by decide +kernel
theorem dX12_law_101 : decode cX12_law 101 = .ok (.getfield 92, 3) := by decide +kernel
theorem dX12_law_104 : decode cX12_law 104 = .ok (.iload_n 1, 1) := by decide +kernel
theorem dX12_law_105 : decode cX12_law 105 = .ok (.iaload, 1) := by decide +kernel
theorem dX12_law_106 : decode cX12_law 106 = .ok (.iastore, 1) := by decide +kernel
theorem dX12_law_107 : decode cX12_law 107 = .ok (.iinc 1 1, 3) := by decide +kernel
theorem dX12_law_110 : decode cX12_law 110 = .ok (.goto (-73), 3) := by decide +kernel
theorem dX12_law_113 : decode cX12_law 113 = .ok (.aload_n 0, 1) := by decide +kernel
theorem dX12_law_114 : decode cX12_law 114 = .ok (.aload_n 0, 1) := by decide +kernel
theorem dX12_law_115 : decode cX12_law 115 = .ok (.getfield 20, 3) := by decide +kernel
theorem dX12_law_118 : decode cX12_law 118 = .ok (.sipush 307, 3) := by decide +kernel
theorem dX12_law_121 : decode cX12_law 121 = .ok (.iaload, 1) := by decide +kernel
theorem dX12_law_122 : decode cX12_law 122 = .ok (.invokevirtual 118, 3) := by decide +kernel
theorem dX12_law_125 : decode cX12_law 125 = .ok (.ireturn, 1) := by decide +kernel
def fX12_law_b73 (N : Nat) (c37 : Int32 → qMem → Option (Int32 × qMem)) (v1 : Int32) (u1 : Int32) (u2 : Int32) (u3 : Int32) (σ : qMem) : Option (Int32 × qMem) :=
  (if ck u1 1112 = true then (nmM (si σ 2 u1.toNatClampNeg (u2 + u3)) fun s7 => (if ck v1 401 = true then (if ck (312 + v1) 1112 = true then (nmM (si s7 2 (312 + v1).toNatClampNeg (gi s7 20 v1.toNatClampNeg)) fun s8 => (if ck v1 401 = true then (if ck (712 + v1) 1112 = true then (nmM (si s8 2 (712 + v1).toNatClampNeg (gi s8 21 v1.toNatClampNeg)) fun s9 => (c37 (v1 + 1) s9)) else none) else none)) else none) else none)) else none)
set_option maxRecDepth 20000 in
set_option maxHeartbeats 4000000 in
theorem aX12_law_b73 (N : Nat) (c37 : Int32 → qMem → Option (Int32 × qMem)) (hc37 : ∀ (v1 : Int32) (σ : qMem), qAt wM mX12_law (ρi) 37 [(0, .ref 0), (1, .int v1)] [] σ (c37 v1 σ)) (v1 : Int32) (u1 : Int32) (u2 : Int32) (u3 : Int32) (σ : qMem) : qAt wM mX12_law (ρi) 73 [(0, .ref 0), (1, .int v1)] [.int u3, .int u2, .int u1, .ref 2] σ (fX12_law_b73 N c37 v1 u1 u2 u3 σ) := by
  unfold fX12_law_b73
  refine q_iadd dX12_law_73 ?_
  refine q_iast dX12_law_74 zM_2 ?_
  refine q_nmM (fun s7 => ?_)
  refine q_aload_n (i := 0) (x := 0) dX12_law_75 rfl 0 rfl ?_
  refine q_getr (t := 2) dX12_law_76 foX12_20 zM_0 rfl ?_
  refine q_sipush (v := 312) dX12_law_79 (by decide) ?_
  refine q_iload_n (i := 1) (x := v1) dX12_law_82 rfl 1 rfl ?_
  refine q_iadd dX12_law_83 ?_
  refine q_aload_n (i := 0) (x := 0) dX12_law_84 rfl 0 rfl ?_
  refine q_getr (t := 20) dX12_law_85 foX12_89 zM_0 rfl ?_
  refine q_iload_n (i := 1) (x := v1) dX12_law_88 rfl 1 rfl ?_
  refine q_iald dX12_law_89 zM_20 ?_
  refine q_iast dX12_law_90 zM_2 ?_
  refine q_nmM (fun s8 => ?_)
  refine q_aload_n (i := 0) (x := 0) dX12_law_91 rfl 0 rfl ?_
  refine q_getr (t := 2) dX12_law_92 foX12_20 zM_0 rfl ?_
  refine q_sipush (v := 712) dX12_law_95 (by decide) ?_
  refine q_iload_n (i := 1) (x := v1) dX12_law_98 rfl 1 rfl ?_
  refine q_iadd dX12_law_99 ?_
  refine q_aload_n (i := 0) (x := 0) dX12_law_100 rfl 0 rfl ?_
  refine q_getr (t := 21) dX12_law_101 foX12_92 zM_0 rfl ?_
  refine q_iload_n (i := 1) (x := v1) dX12_law_104 rfl 1 rfl ?_
  refine q_iald dX12_law_105 zM_21 ?_
  refine q_iast dX12_law_106 zM_2 ?_
  refine q_nmM (fun s9 => ?_)
  refine q_iinc (i := 1) (x := v1) (v := (v1 + 1)) (L' := [(1, .int (v1 + 1)), (0, .ref 0)]) dX12_law_107 1 rfl (q_cst v1 (by decide)) (Nat.le_of_ble_eq_true rfl) rfl ?_
  refine q_goto (tgt := 37) dX12_law_110 (by decide) ?_
  exact q_sub [1, 0] rfl (hc37 (v1 + 1) s9)

def fX12_law_s37 (N : Nat) (c37 : Int32 → qMem → Option (Int32 × qMem)) (v1 : Int32) (σ : qMem) : Option (Int32 × qMem) :=
  (if (gi σ 0 33) ≤ v1 then (if ck 307 1112 = true then ((fX12_good (gi σ 2 (307 : Int32).toNatClampNeg) σ).bind fun y5 => (some (y5.1, y5.2))) else none) else (if ck 307 1112 = true then (if ck v1 401 = true then ((fX12_sign 59).bind fun y6 => (if (gi σ 20 v1.toNatClampNeg) = y6 then (fX12_law_b73 N c37 v1 307 (gi σ 2 (307 : Int32).toNatClampNeg) 1 σ) else (fX12_law_b73 N c37 v1 307 (gi σ 2 (307 : Int32).toNatClampNeg) 0 σ))) else none) else none))
set_option maxRecDepth 20000 in
set_option maxHeartbeats 4000000 in
theorem aX12_law_s37 (N : Nat) (c37 : Int32 → qMem → Option (Int32 × qMem)) (hc37 : ∀ (v1 : Int32) (σ : qMem), qAt wM mX12_law (ρi) 37 [(0, .ref 0), (1, .int v1)] [] σ (c37 v1 σ)) (v1 : Int32) (σ : qMem) : qAt wM mX12_law (ρi) 37 [(0, .ref 0), (1, .int v1)] [] σ (fX12_law_s37 N c37 v1 σ) := by
  unfold fX12_law_s37
  refine q_iload_n (i := 1) (x := v1) dX12_law_37 rfl 1 rfl ?_
  refine q_aload_n (i := 0) (x := 0) dX12_law_38 rfl 0 rfl ?_
  refine q_geti dX12_law_39 foX12_312 zM_0 rfl ?_
  refine q_icmp_ge (tgt := 113) dX12_law_42 (by decide) ?_ ?_
  · refine q_aload_n (i := 0) (x := 0) dX12_law_113 rfl 0 rfl ?_
    refine q_aload_n (i := 0) (x := 0) dX12_law_114 rfl 0 rfl ?_
    refine q_getr (t := 2) dX12_law_115 foX12_20 zM_0 rfl ?_
    refine q_sipush (v := 307) dX12_law_118 (by decide) ?_
    refine q_iald dX12_law_121 zM_2 ?_
    refine q_cVi mX12_good [.int (gi σ 2 (307 : Int32).toNatClampNeg)] (st := []) dX12_law_122 (svX12_118) ⟨Nat.le_of_ble_eq_true rfl, Nat.le_of_ble_eq_true rfl⟩ zM_0 rfl rfl rfl (Nat.le_of_ble_eq_true rfl) (kX12_good (gi σ 2 (307 : Int32).toNatClampNeg) σ) (fun y5 => ?_)
    exact q_ireti (y := (y5.1, y5.2)) dX12_law_125 rfl rfl
  refine q_aload_n (i := 0) (x := 0) dX12_law_45 rfl 0 rfl ?_
  refine q_getr (t := 2) dX12_law_46 foX12_20 zM_0 rfl ?_
  refine q_sipush (v := 307) dX12_law_49 (by decide) ?_
  refine q_dup2 dX12_law_52 rfl rfl ?_
  refine q_iald dX12_law_53 zM_2 ?_
  refine q_aload_n (i := 0) (x := 0) dX12_law_54 rfl 0 rfl ?_
  refine q_getr (t := 20) dX12_law_55 foX12_89 zM_0 rfl ?_
  refine q_iload_n (i := 1) (x := v1) dX12_law_58 rfl 1 rfl ?_
  refine q_iald dX12_law_59 zM_20 ?_
  refine q_bipush (v := 59) dX12_law_60 (by decide) ?_
  refine q_cSp mX12_sign [.int 59] (st := [.int (gi σ 20 v1.toNatClampNeg), .int (gi σ 2 (307 : Int32).toNatClampNeg), .int 307, .ref 2]) dX12_law_62 (ssX12_356) ⟨Nat.le_of_ble_eq_true rfl, Nat.le_of_ble_eq_true rfl⟩ rfl rfl (Nat.le_of_ble_eq_true rfl) (kX12_sign 59 σ) (fun y6 => ?_)
  refine q_icmp_ne (tgt := 72) dX12_law_65 (by decide) ?_ ?_
  · refine q_iconst (v := 0) dX12_law_72 (by decide) ?_
    exact q_sub [0, 1] rfl (aX12_law_b73 N c37 hc37 v1 307 (gi σ 2 (307 : Int32).toNatClampNeg) 0 σ)
  refine q_iconst (v := 1) dX12_law_68 (by decide) ?_
  refine q_goto (tgt := 73) dX12_law_69 (by decide) ?_
  exact q_sub [0, 1] rfl (aX12_law_b73 N c37 hc37 v1 307 (gi σ 2 (307 : Int32).toNatClampNeg) 1 σ)
def fX12_law_l37 (N : Nat) : Nat → Int32 → qMem → Option (Int32 × qMem)
  | 0 => fun _ _ => none
  | n + 1 => fun v1 σ => fX12_law_s37 N (fX12_law_l37 N n) v1 σ
theorem aX12_law_l37 (N : Nat) : ∀ (n : Nat) (v1 : Int32) (σ : qMem), qAt wM mX12_law (ρi) 37 [(0, .ref 0), (1, .int v1)] [] σ (fX12_law_l37 N n v1 σ) := by
  intro n
  induction n with
  | zero => intro v1 σ; exact q_none
  | succ n ih => intro v1 σ; exact aX12_law_s37 N (fX12_law_l37 N n) ih v1 σ

def fX12_law (N : Nat)  (σ : qMem) : Option (Int32 × qMem) :=
  ((fX12_reads N σ).bind fun y1 => (if y1.1 = 0 then ((fX12_refuses (-6) y1.2).bind fun y4 => (some (y4.1, y4.2))) else (if ck 306 1112 = true then (nmM (si y1.2 2 (306 : Int32).toNatClampNeg (gi y1.2 0 33)) fun s2 => (if ck 307 1112 = true then (nmM (si s2 2 (307 : Int32).toNatClampNeg 1) fun s3 => (fX12_law_l37 N N 0 s3)) else none)) else none)))
set_option maxRecDepth 20000 in
set_option maxHeartbeats 4000000 in
theorem aX12_law  (N : Nat)   (σ : qMem) : qAt wM mX12_law (ρi) 0 [(0, .ref 0)] [] σ (fX12_law N σ) := by
  unfold fX12_law
  refine q_aload_n (i := 0) (x := 0) dX12_law_0 rfl 0 rfl ?_
  refine q_cVi mX12_reads [] (st := []) dX12_law_1 (svX12_378) ⟨Nat.le_of_ble_eq_true rfl, Nat.le_of_ble_eq_true rfl⟩ zM_0 rfl rfl rfl (Nat.le_of_ble_eq_true rfl) (kX12_reads N σ) (fun y1 => ?_)
  refine q_if_ne (tgt := 14) dX12_law_4 (by decide) ?_ ?_
  · refine q_aload_n (i := 0) (x := 0) dX12_law_14 rfl 0 rfl ?_
    refine q_getr (t := 2) dX12_law_15 foX12_20 zM_0 rfl ?_
    refine q_sipush (v := 306) dX12_law_18 (by decide) ?_
    refine q_aload_n (i := 0) (x := 0) dX12_law_21 rfl 0 rfl ?_
    refine q_geti dX12_law_22 foX12_312 zM_0 rfl ?_
    refine q_iast dX12_law_25 zM_2 ?_
    refine q_nmM (fun s2 => ?_)
    refine q_aload_n (i := 0) (x := 0) dX12_law_26 rfl 0 rfl ?_
    refine q_getr (t := 2) dX12_law_27 foX12_20 zM_0 rfl ?_
    refine q_sipush (v := 307) dX12_law_30 (by decide) ?_
    refine q_iconst (v := 1) dX12_law_33 (by decide) ?_
    refine q_iast dX12_law_34 zM_2 ?_
    refine q_nmM (fun s3 => ?_)
    refine q_iconst (v := 0) dX12_law_35 (by decide) ?_
    refine q_istore_n (i := 1) (L' := [(1, .int 0), (0, .ref 0)]) dX12_law_36 rfl (Nat.le_of_ble_eq_true rfl) rfl ?_
    exact q_sub [1, 0] rfl (aX12_law_l37 N N 0 s3)
  refine q_aload_n (i := 0) (x := 0) dX12_law_7 rfl 0 rfl ?_
  refine q_bipush (v := (-6)) dX12_law_8 (by decide) ?_
  refine q_cVi mX12_refuses [.int (-6)] (st := []) dX12_law_10 (svX12_114) ⟨Nat.le_of_ble_eq_true rfl, Nat.le_of_ble_eq_true rfl⟩ zM_0 rfl rfl rfl (Nat.le_of_ble_eq_true rfl) (kX12_refuses (-6) y1.2) (fun y4 => ?_)
  exact q_ireti (y := (y4.1, y4.2)) dX12_law_13 rfl rfl
theorem kX12_law  (N : Nat)   (σ : qMem) : qMc wM mX12_law (ρi) [.ref 0] σ (fX12_law N σ) := qMc_of (moX12_law) (Nat.le_of_ble_eq_true rfl) (aX12_law N  σ)

theorem dX12_fault_0 : decode cX12_fault 0 = .ok (.aload_n 0, 1) := by decide +kernel
theorem dX12_fault_1 : decode cX12_fault 1 = .ok (.getfield 86, 3) := by decide +kernel
theorem dX12_fault_4 : decode cX12_fault 4 = .ok (.ireturn, 1) := by decide +kernel

def fX12_fault  (σ : qMem) : Option Int32 :=
  (some (gi σ 0 29))
set_option maxRecDepth 20000 in
set_option maxHeartbeats 4000000 in
theorem aX12_fault    (σ : qMem) : qAt wM mX12_fault (ρp σ) 0 [(0, .ref 0)] [] σ (fX12_fault σ) := by
  unfold fX12_fault
  refine q_aload_n (i := 0) (x := 0) dX12_fault_0 rfl 0 rfl ?_
  refine q_geti dX12_fault_1 foX12_86 zM_0 rfl ?_
  exact q_ireti (y := (gi σ 0 29)) dX12_fault_4 rfl rfl
theorem kX12_fault    (σ : qMem) : qMc wM mX12_fault (ρp σ) [.ref 0] σ (fX12_fault σ) := qMc_of (moX12_fault) (Nat.le_of_ble_eq_true rfl) (aX12_fault  σ)

theorem dX12_tells_0 : decode cX12_tells 0 = .ok (.iload_n 1, 1) := by decide +kernel
theorem dX12_tells_1 : decode cX12_tells 1 = .ok (.invokestatic 129, 3) := by decide +kernel
theorem dX12_tells_4 : decode cX12_tells 4 = .ok (.ifCond .eq 31, 3) := by decide +kernel
theorem dX12_tells_7 : decode cX12_tells 7 = .ok (.iload_n 2, 1) := by decide +kernel
theorem dX12_tells_8 : decode cX12_tells 8 = .ok (.invokestatic 132, 3) := by decide +kernel
theorem dX12_tells_11 : decode cX12_tells 11 = .ok (.ifCond .eq 24, 3) := by decide +kernel
theorem dX12_tells_14 : decode cX12_tells 14 = .ok (.iload_n 3, 1) := by decide +kernel
theorem dX12_tells_15 : decode cX12_tells 15 = .ok (.iconst 0, 1) := by decide +kernel
theorem dX12_tells_16 : decode cX12_tells 16 = .ok (.sipush 200, 3) := by decide +kernel
theorem dX12_tells_19 : decode cX12_tells 19 = .ok (.invokestatic 110, 3) := by decide +kernel
theorem dX12_tells_22 : decode cX12_tells 22 = .ok (.ifCond .eq 13, 3) := by decide +kernel
theorem dX12_tells_25 : decode cX12_tells 25 = .ok (.iload 4, 2) := by decide +kernel
theorem dX12_tells_27 : decode cX12_tells 27 = .ok (.iconst 0, 1) := by decide +kernel
theorem dX12_tells_28 : decode cX12_tells 28 = .ok (.iconst 2, 1) := by decide +kernel
theorem dX12_tells_29 : decode cX12_tells 29 = .ok (.invokestatic 110, 3) := by decide +kernel
theorem dX12_tells_32 : decode cX12_tells 32 = .ok (.ifCond .ne 7, 3) := by decide +kernel
theorem dX12_tells_35 : decode cX12_tells 35 = .ok (.ldc_w 428, 3) := by decide +kernel
theorem dX12_tells_38 : decode cX12_tells 38 = .ok (.ireturn, 1) := by decide +kernel
theorem dX12_tells_39 : decode cX12_tells 39 = .ok (.aload_n 0, 1) := by decide +kernel
theorem dX12_tells_40 : decode cX12_tells 40 = .ok (.iload_n 1, 1) := by decide +kernel
theorem dX12_tells_41 : decode cX12_tells 41 = .ok (.iload_n 2, 1) := by decide +kernel
theorem dX12_tells_42 : decode cX12_tells 42 = .ok (.aload_n 0, 1) := by decide +kernel
theorem dX12_tells_43 : decode cX12_tells 43 = .ok (.iload_n 1, 1) := by decide +kernel
theorem dX12_tells_44 : decode cX12_tells 44 = .ok (.iload_n 2, 1) := by decide +kernel
theorem dX12_tells_45 : decode cX12_tells 45 = .ok (.invokevirtual 148, 3) := by decide +kernel
theorem dX12_tells_48 : decode cX12_tells 48 = .ok (.invokevirtual 267, 3) := by decide +kernel
theorem dX12_tells_51 : decode cX12_tells 51 = .ok (.aload_n 0, 1) := by decide +kernel
theorem dX12_tells_52 : decode cX12_tells 52 = .ok (.iload_n 3, 1) := by decide +kernel
theorem dX12_tells_53 : decode cX12_tells 53 = .ok (.iload 4, 2) := by decide +kernel
theorem dX12_tells_55 : decode cX12_tells 55 = .ok (.invokevirtual 429, 3) := by decide +kernel
theorem dX12_tells_58 : decode cX12_tells 58 = .ok (.ireturn, 1) := by decide +kernel

def fX12_tells (N : Nat) (p1 : Int32) (p2 : Int32) (p3 : Int32) (p4 : Int32) (σ : qMem) : Option (Int32 × qMem) :=
  ((fX12_isBoat p1).bind fun y1 => (if y1 = 0 then (some ((-10000000), σ)) else ((fX12_isBell p2).bind fun y2 => (if y2 = 0 then (some ((-10000000), σ)) else ((fX12_in p3 0 200).bind fun y3 => (if y3 = 0 then (some ((-10000000), σ)) else ((fX12_in p4 0 2).bind fun y4 => (if y4 = 0 then (some ((-10000000), σ)) else ((fX12_speedOf N p1 p2 σ).bind fun y5 => ((fX12_asksBoat p1 p2 y5 σ).bind fun y6 => ((fX12_tellsOf N p3 p4 y6).bind fun y7 => (some (y7.1, y7.2)))))))))))))
set_option maxRecDepth 20000 in
set_option maxHeartbeats 4000000 in
theorem aX12_tells  (N : Nat) (p1 : Int32) (p2 : Int32) (p3 : Int32) (p4 : Int32)  (σ : qMem) : qAt wM mX12_tells (ρi) 0 [(0, .ref 0), (1, .int p1), (2, .int p2), (3, .int p3), (4, .int p4)] [] σ (fX12_tells N p1 p2 p3 p4 σ) := by
  unfold fX12_tells
  refine q_iload_n (i := 1) (x := p1) dX12_tells_0 rfl 1 rfl ?_
  refine q_cSp mX12_isBoat [.int p1] (st := []) dX12_tells_1 (ssX12_129) ⟨Nat.le_of_ble_eq_true rfl, Nat.le_of_ble_eq_true rfl⟩ rfl rfl (Nat.le_of_ble_eq_true rfl) (kX12_isBoat p1 σ) (fun y1 => ?_)
  refine q_if_eq (tgt := 35) dX12_tells_4 (by decide) ?_ ?_
  · refine q_ldc_w (v := (-10000000)) dX12_tells_35 (g_9 22 (by decide +kernel) rfl) ?_
    exact q_ireti (y := ((-10000000), σ)) dX12_tells_38 rfl rfl
  refine q_iload_n (i := 2) (x := p2) dX12_tells_7 rfl 2 rfl ?_
  refine q_cSp mX12_isBell [.int p2] (st := []) dX12_tells_8 (ssX12_132) ⟨Nat.le_of_ble_eq_true rfl, Nat.le_of_ble_eq_true rfl⟩ rfl rfl (Nat.le_of_ble_eq_true rfl) (kX12_isBell p2 σ) (fun y2 => ?_)
  refine q_if_eq (tgt := 35) dX12_tells_11 (by decide) ?_ ?_
  · refine q_ldc_w (v := (-10000000)) dX12_tells_35 (g_9 22 (by decide +kernel) rfl) ?_
    exact q_ireti (y := ((-10000000), σ)) dX12_tells_38 rfl rfl
  refine q_iload_n (i := 3) (x := p3) dX12_tells_14 rfl 3 rfl ?_
  refine q_iconst (v := 0) dX12_tells_15 (by decide) ?_
  refine q_sipush (v := 200) dX12_tells_16 (by decide) ?_
  refine q_cSp mX12_in [.int p3, .int 0, .int 200] (st := []) dX12_tells_19 (ssX12_110) ⟨Nat.le_of_ble_eq_true rfl, Nat.le_of_ble_eq_true rfl⟩ rfl rfl (Nat.le_of_ble_eq_true rfl) (kX12_in p3 0 200 σ) (fun y3 => ?_)
  refine q_if_eq (tgt := 35) dX12_tells_22 (by decide) ?_ ?_
  · refine q_ldc_w (v := (-10000000)) dX12_tells_35 (g_9 22 (by decide +kernel) rfl) ?_
    exact q_ireti (y := ((-10000000), σ)) dX12_tells_38 rfl rfl
  refine q_iload (i := 4) (x := p4) dX12_tells_25 4 rfl ?_
  refine q_iconst (v := 0) dX12_tells_27 (by decide) ?_
  refine q_iconst (v := 2) dX12_tells_28 (by decide) ?_
  refine q_cSp mX12_in [.int p4, .int 0, .int 2] (st := []) dX12_tells_29 (ssX12_110) ⟨Nat.le_of_ble_eq_true rfl, Nat.le_of_ble_eq_true rfl⟩ rfl rfl (Nat.le_of_ble_eq_true rfl) (kX12_in p4 0 2 σ) (fun y4 => ?_)
  refine q_if_ne (tgt := 39) dX12_tells_32 (by decide) ?_ ?_
  · refine q_aload_n (i := 0) (x := 0) dX12_tells_39 rfl 0 rfl ?_
    refine q_iload_n (i := 1) (x := p1) dX12_tells_40 rfl 1 rfl ?_
    refine q_iload_n (i := 2) (x := p2) dX12_tells_41 rfl 2 rfl ?_
    refine q_aload_n (i := 0) (x := 0) dX12_tells_42 rfl 0 rfl ?_
    refine q_iload_n (i := 1) (x := p1) dX12_tells_43 rfl 1 rfl ?_
    refine q_iload_n (i := 2) (x := p2) dX12_tells_44 rfl 2 rfl ?_
    refine q_cVp mX12_speedOf [.int p1, .int p2] (st := [.int p2, .int p1, .ref 0]) dX12_tells_45 (svX12_148) ⟨Nat.le_of_ble_eq_true rfl, Nat.le_of_ble_eq_true rfl⟩ zM_0 rfl rfl rfl (Nat.le_of_ble_eq_true rfl) (kX12_speedOf N p1 p2 σ) (fun y5 => ?_)
    refine q_cVv mX12_asksBoat [.int p1, .int p2, .int y5] (st := []) dX12_tells_48 (svX12_267) ⟨Nat.le_of_ble_eq_true rfl, Nat.le_of_ble_eq_true rfl⟩ zM_0 rfl rfl rfl (Nat.le_of_ble_eq_true rfl) (kX12_asksBoat p1 p2 y5 σ) (fun y6 => ?_)
    refine q_aload_n (i := 0) (x := 0) dX12_tells_51 rfl 0 rfl ?_
    refine q_iload_n (i := 3) (x := p3) dX12_tells_52 rfl 3 rfl ?_
    refine q_iload (i := 4) (x := p4) dX12_tells_53 4 rfl ?_
    refine q_cVi mX12_tellsOf [.int p3, .int p4] (st := []) dX12_tells_55 (svX12_429) ⟨Nat.le_of_ble_eq_true rfl, Nat.le_of_ble_eq_true rfl⟩ zM_0 rfl rfl rfl (Nat.le_of_ble_eq_true rfl) (kX12_tellsOf N p3 p4 y6) (fun y7 => ?_)
    exact q_ireti (y := (y7.1, y7.2)) dX12_tells_58 rfl rfl
  refine q_ldc_w (v := (-10000000)) dX12_tells_35 (g_9 22 (by decide +kernel) rfl) ?_
  exact q_ireti (y := ((-10000000), σ)) dX12_tells_38 rfl rfl
theorem kX12_tells  (N : Nat) (p1 : Int32) (p2 : Int32) (p3 : Int32) (p4 : Int32)  (σ : qMem) : qMc wM mX12_tells (ρi) [.ref 0, .int p1, .int p2, .int p3, .int p4] σ (fX12_tells N p1 p2 p3 p4 σ) := qMc_of (moX12_tells) (Nat.le_of_ble_eq_true rfl) (aX12_tells N p1 p2 p3 p4  σ)

theorem dX12_hears_0 : decode cX12_hears 0 = .ok (.iload_n 1, 1) := by decide +kernel
theorem dX12_hears_1 : decode cX12_hears 1 = .ok (.invokestatic 129, 3) := by decide +kernel
theorem dX12_hears_4 : decode cX12_hears 4 = .ok (.ifCond .eq 10, 3) := by decide +kernel
theorem dX12_hears_7 : decode cX12_hears 7 = .ok (.iload_n 2, 1) := by decide +kernel
theorem dX12_hears_8 : decode cX12_hears 8 = .ok (.invokestatic 132, 3) := by decide +kernel
theorem dX12_hears_11 : decode cX12_hears 11 = .ok (.ifCond .ne 5, 3) := by decide +kernel
theorem dX12_hears_14 : decode cX12_hears 14 = .ok (.iconst (-1), 1) := by decide +kernel
theorem dX12_hears_15 : decode cX12_hears 15 = .ok (.ireturn, 1) := by decide +kernel
theorem dX12_hears_16 : decode cX12_hears 16 = .ok (.aload_n 0, 1) := by decide +kernel
theorem dX12_hears_17 : decode cX12_hears 17 = .ok (.invokevirtual 244, 3) := by decide +kernel
theorem dX12_hears_20 : decode cX12_hears 20 = .ok (.aload_n 0, 1) := by decide +kernel
theorem dX12_hears_21 : decode cX12_hears 21 = .ok (.iload_n 1, 1) := by decide +kernel
theorem dX12_hears_22 : decode cX12_hears 22 = .ok (.iload_n 2, 1) := by decide +kernel
theorem dX12_hears_23 : decode cX12_hears 23 = .ok (.aload_n 0, 1) := by decide +kernel
theorem dX12_hears_24 : decode cX12_hears 24 = .ok (.iload_n 1, 1) := by decide +kernel
theorem dX12_hears_25 : decode cX12_hears 25 = .ok (.iload_n 2, 1) := by decide +kernel
theorem dX12_hears_26 : decode cX12_hears 26 = .ok (.invokevirtual 148, 3) := by decide +kernel
theorem dX12_hears_29 : decode cX12_hears 29 = .ok (.invokevirtual 267, 3) := by decide +kernel
theorem dX12_hears_32 : decode cX12_hears 32 = .ok (.aload_n 0, 1) := by decide +kernel
theorem dX12_hears_33 : decode cX12_hears 33 = .ok (.aload_n 0, 1) := by decide +kernel
theorem dX12_hears_34 : decode cX12_hears 34 = .ok (.iload_n 1, 1) := by decide +kernel
theorem dX12_hears_35 : decode cX12_hears 35 = .ok (.iconst 2, 1) := by decide +kernel
theorem dX12_hears_36 : decode cX12_hears 36 = .ok (.invokevirtual 121, 3) := by decide +kernel
theorem dX12_hears_39 : decode cX12_hears 39 = .ok (.invokevirtual 270, 3) := by decide +kernel
theorem dX12_hears_42 : decode cX12_hears 42 = .ok (.iconst 0, 1) := by decide +kernel
theorem dX12_hears_43 : decode cX12_hears 43 = .ok (.istore_n 3, 1) := by decide +kernel
theorem dX12_hears_44 : decode cX12_hears 44 = .ok (.iconst 0, 1) := by decide +kernel
theorem dX12_hears_45 : decode cX12_hears 45 = .ok (.istore 4, 2) := by decide +kernel
theorem dX12_hears_47 : decode cX12_hears 47 = .ok (.iload 4, 2) := by decide +kernel
theorem dX12_hears_49 : decode cX12_hears 49 = .ok (.ldc 39, 2) := by decide +kernel
theorem dX12_hears_51 : decode cX12_hears 51 = .ok (.if_icmp .ge 97, 3) := by decide +kernel
theorem dX12_hears_54 : decode cX12_hears 54 = .ok (.aload_n 0, 1) := by decide +kernel
theorem dX12_hears_55 : decode cX12_hears 55 = .ok (.getfield 40, 3) := by decide +kernel
theorem dX12_hears_58 : decode cX12_hears 58 = .ok (.iload 4, 2) := by decide +kernel
theorem dX12_hears_60 : decode cX12_hears 60 = .ok (.baload, 1) := by decide +kernel
theorem dX12_hears_61 : decode cX12_hears 61 = .ok (.ifCond .ne 6, 3) := by decide +kernel
theorem dX12_hears_64 : decode cX12_hears 64 = .ok (.goto 78, 3) := by decide +kernel
theorem dX12_hears_67 : decode cX12_hears 67 = .ok (.iload 4, 2) := by decide +kernel
theorem dX12_hears_69 : decode cX12_hears 69 = .ok (.invokestatic 229, 3) := by decide +kernel
theorem dX12_hears_72 : decode cX12_hears 72 = .ok (.iload_n 2, 1) := by decide +kernel
theorem dX12_hears_73 : decode cX12_hears 73 = .ok (.iload 4, 2) := by decide +kernel
theorem dX12_hears_75 : decode cX12_hears 75 = .ok (.invokestatic 235, 3) := by decide +kernel
theorem dX12_hears_78 : decode cX12_hears 78 = .ok (.imul, 1) := by decide +kernel
theorem dX12_hears_79 : decode cX12_hears 79 = .ok (.iadd, 1) := by decide +kernel
theorem dX12_hears_80 : decode cX12_hears 80 = .ok (.aload_n 0, 1) := by decide +kernel
theorem dX12_hears_81 : decode cX12_hears 81 = .ok (.iload_n 1, 1) := by decide +kernel
theorem dX12_hears_82 : decode cX12_hears 82 = .ok (.iload_n 2, 1) := by decide +kernel
theorem dX12_hears_83 : decode cX12_hears 83 = .ok (.iconst 0, 1) := by decide +kernel
theorem dX12_hears_84 : decode cX12_hears 84 = .ok (.invokevirtual 151, 3) := by decide +kernel
theorem dX12_hears_87 : decode cX12_hears 87 = .ok (.isub, 1) := by decide +kernel
theorem dX12_hears_88 : decode cX12_hears 88 = .ok (.istore 5, 2) := by decide +kernel
theorem dX12_hears_90 : decode cX12_hears 90 = .ok (.iload 4, 2) := by decide +kernel
theorem dX12_hears_92 : decode cX12_hears 92 = .ok (.invokestatic 232, 3) := by decide +kernel
theorem dX12_hears_95 : decode cX12_hears 95 = .ok (.iload_n 2, 1) := by decide +kernel
theorem dX12_hears_96 : decode cX12_hears 96 = .ok (.iload 4, 2) := by decide +kernel
theorem dX12_hears_98 : decode cX12_hears 98 = .ok (.invokestatic 238, 3) := by decide +kernel
theorem dX12_hears_101 : decode cX12_hears 101 = .ok (.imul, 1) := by decide +kernel
theorem dX12_hears_102 : decode cX12_hears 102 = .ok (.iadd, 1) := by decide +kernel
theorem dX12_hears_103 : decode cX12_hears 103 = .ok (.aload_n 0, 1) := by decide +kernel
theorem dX12_hears_104 : decode cX12_hears 104 = .ok (.iload_n 1, 1) := by decide +kernel
theorem dX12_hears_105 : decode cX12_hears 105 = .ok (.iload_n 2, 1) := by decide +kernel
theorem dX12_hears_106 : decode cX12_hears 106 = .ok (.iconst 1, 1) := by decide +kernel
theorem dX12_hears_107 : decode cX12_hears 107 = .ok (.invokevirtual 151, 3) := by decide +kernel
theorem dX12_hears_110 : decode cX12_hears 110 = .ok (.isub, 1) := by decide +kernel
theorem dX12_hears_111 : decode cX12_hears 111 = .ok (.istore 6, 2) := by decide +kernel
theorem dX12_hears_113 : decode cX12_hears 113 = .ok (.iload_n 3, 1) := by decide +kernel
theorem dX12_hears_114 : decode cX12_hears 114 = .ok (.aload_n 0, 1) := by decide +kernel
theorem dX12_hears_115 : decode cX12_hears 115 = .ok (.getfield 101, 3) := by decide +kernel
theorem dX12_hears_118 : decode cX12_hears 118 = .ok (.iload 5, 2) := by decide +kernel
theorem dX12_hears_120 : decode cX12_hears 120 = .ok (.invokestatic 142, 3) := by decide +kernel
theorem dX12_hears_123 : decode cX12_hears 123 = .ok (.iload 6, 2) := by decide +kernel
theorem dX12_hears_125 : decode cX12_hears 125 = .ok (.invokestatic 142, 3) := by decide +kernel
theorem dX12_hears_128 : decode cX12_hears 128 = .ok (.invokestatic 145, 3) := by decide +kernel
theorem dX12_hears_131 : decode cX12_hears 131 = .ok (.baload, 1) := by decide +kernel
theorem dX12_hears_132 : decode cX12_hears 132 = .ok (.ifCond .eq 7, 3) := by decide +kernel
theorem dX12_hears_135 : decode cX12_hears 135 = .ok (.iconst 1, 1) := by decide +kernel
theorem dX12_hears_136 : decode cX12_hears 136 = .ok (.goto 4, 3) := by decide +kernel
theorem dX12_hears_139 : decode cX12_hears 139 = .ok (.iconst 0, 1) := by decide +kernel
theorem dX12_hears_140 : decode cX12_hears 140 = .ok (.iadd, 1) := by decide +kernel
theorem dX12_hears_141 : decode cX12_hears 141 = .ok (.istore_n 3, 1) := by decide +kernel
theorem dX12_hears_142 : decode cX12_hears 142 = .ok (.iinc 4 1, 3) := by decide +kernel
theorem dX12_hears_145 : decode cX12_hears 145 = .ok (.goto (-98), 3) := by decide +kernel
theorem dX12_hears_148 : decode cX12_hears 148 = .ok (.iload_n 3, 1) := by decide +kernel
theorem dX12_hears_149 : decode cX12_hears 149 = .ok (.ireturn, 1) := by decide +kernel
def fX12_hears_b142 (N : Nat) (c47 : Int32 → Int32 → Int32 → Int32 → qMem → Option (Int32 × qMem)) (v1 : Int32) (v2 : Int32) (v3 : Int32) (v4 : Int32) (σ : qMem) : Option (Int32 × qMem) :=
  (c47 v1 v2 v3 (v4 + 1) σ)
set_option maxRecDepth 20000 in
set_option maxHeartbeats 4000000 in
theorem aX12_hears_b142 (N : Nat) (c47 : Int32 → Int32 → Int32 → Int32 → qMem → Option (Int32 × qMem)) (hc47 : ∀ (v1 : Int32) (v2 : Int32) (v3 : Int32) (v4 : Int32) (σ : qMem), qAt wM mX12_hears (ρi) 47 [(0, .ref 0), (1, .int v1), (2, .int v2), (3, .int v3), (4, .int v4)] [] σ (c47 v1 v2 v3 v4 σ)) (v1 : Int32) (v2 : Int32) (v3 : Int32) (v4 : Int32) (σ : qMem) : qAt wM mX12_hears (ρi) 142 [(0, .ref 0), (1, .int v1), (2, .int v2), (3, .int v3), (4, .int v4)] [] σ (fX12_hears_b142 N c47 v1 v2 v3 v4 σ) := by
  unfold fX12_hears_b142
  refine q_iinc (i := 4) (x := v4) (v := (v4 + 1)) (L' := [(4, .int (v4 + 1)), (0, .ref 0), (1, .int v1), (2, .int v2), (3, .int v3)]) dX12_hears_142 4 rfl (q_cst v4 (by decide)) (Nat.le_of_ble_eq_true rfl) rfl ?_
  refine q_goto (tgt := 47) dX12_hears_145 (by decide) ?_
  exact q_sub [1, 2, 3, 4, 0] rfl (hc47 v1 v2 v3 (v4 + 1) σ)

def fX12_hears_b140 (N : Nat) (c47 : Int32 → Int32 → Int32 → Int32 → qMem → Option (Int32 × qMem)) (v1 : Int32) (v2 : Int32) (v4 : Int32) (u0 : Int32) (u1 : Int32) (σ : qMem) : Option (Int32 × qMem) :=
  (fX12_hears_b142 N c47 v1 v2 (u0 + u1) v4 σ)
set_option maxRecDepth 20000 in
set_option maxHeartbeats 4000000 in
theorem aX12_hears_b140 (N : Nat) (c47 : Int32 → Int32 → Int32 → Int32 → qMem → Option (Int32 × qMem)) (hc47 : ∀ (v1 : Int32) (v2 : Int32) (v3 : Int32) (v4 : Int32) (σ : qMem), qAt wM mX12_hears (ρi) 47 [(0, .ref 0), (1, .int v1), (2, .int v2), (3, .int v3), (4, .int v4)] [] σ (c47 v1 v2 v3 v4 σ)) (v1 : Int32) (v2 : Int32) (v4 : Int32) (u0 : Int32) (u1 : Int32) (σ : qMem) : qAt wM mX12_hears (ρi) 140 [(0, .ref 0), (1, .int v1), (2, .int v2), (4, .int v4)] [.int u1, .int u0] σ (fX12_hears_b140 N c47 v1 v2 v4 u0 u1 σ) := by
  unfold fX12_hears_b140
  refine q_iadd dX12_hears_140 ?_
  refine q_istore_n (i := 3) (L' := [(3, .int (u0 + u1)), (0, .ref 0), (1, .int v1), (2, .int v2), (4, .int v4)]) dX12_hears_141 rfl (Nat.le_of_ble_eq_true rfl) rfl ?_
  exact q_sub [1, 2, 3, 0, 4] rfl (aX12_hears_b142 N c47 hc47 v1 v2 (u0 + u1) v4 σ)

def fX12_hears_s47 (N : Nat) (c47 : Int32 → Int32 → Int32 → Int32 → qMem → Option (Int32 × qMem)) (v1 : Int32) (v2 : Int32) (v3 : Int32) (v4 : Int32) (σ : qMem) : Option (Int32 × qMem) :=
  (if 50176 ≤ v4 then (some (v3, σ)) else (if ck v4 50176 = true then (if (gi σ 7 v4.toNatClampNeg) = 0 then (fX12_hears_b142 N c47 v1 v2 v3 v4 σ) else ((fX12_eastOf v4).bind fun y8 => ((fX12_eastBy v4).bind fun y9 => ((fX12_at N v1 v2 0 σ).bind fun y10 => ((fX12_northOf v4).bind fun y11 => ((fX12_northBy v4).bind fun y12 => ((fX12_at N v1 v2 1 σ).bind fun y13 => (nmI ((y11 + (v2 * y12)) - y13) fun x14 => ((fX12_size ((y8 + (v2 * y9)) - y10)).bind fun y15 => ((fX12_size x14).bind fun y16 => ((fX12_more y15 y16).bind fun y17 => (if ck y17 201 = true then (if (gi σ 24 y17.toNatClampNeg) = 0 then (fX12_hears_b140 N c47 v1 v2 v4 v3 0 σ) else (fX12_hears_b140 N c47 v1 v2 v4 v3 1 σ)) else none)))))))))))) else none))
set_option maxRecDepth 20000 in
set_option maxHeartbeats 4000000 in
theorem aX12_hears_s47 (N : Nat) (c47 : Int32 → Int32 → Int32 → Int32 → qMem → Option (Int32 × qMem)) (hc47 : ∀ (v1 : Int32) (v2 : Int32) (v3 : Int32) (v4 : Int32) (σ : qMem), qAt wM mX12_hears (ρi) 47 [(0, .ref 0), (1, .int v1), (2, .int v2), (3, .int v3), (4, .int v4)] [] σ (c47 v1 v2 v3 v4 σ)) (v1 : Int32) (v2 : Int32) (v3 : Int32) (v4 : Int32) (σ : qMem) : qAt wM mX12_hears (ρi) 47 [(0, .ref 0), (1, .int v1), (2, .int v2), (3, .int v3), (4, .int v4)] [] σ (fX12_hears_s47 N c47 v1 v2 v3 v4 σ) := by
  unfold fX12_hears_s47
  refine q_iload (i := 4) (x := v4) dX12_hears_47 4 rfl ?_
  refine q_ldc (v := 50176) dX12_hears_49 (g_6 93 (by decide +kernel) rfl) ?_
  refine q_icmp_ge (tgt := 148) dX12_hears_51 (by decide) ?_ ?_
  · refine q_iload_n (i := 3) (x := v3) dX12_hears_148 rfl 3 rfl ?_
    exact q_ireti (y := (v3, σ)) dX12_hears_149 rfl rfl
  refine q_aload_n (i := 0) (x := 0) dX12_hears_54 rfl 0 rfl ?_
  refine q_getr (t := 7) dX12_hears_55 foX12_40 zM_0 rfl ?_
  refine q_iload (i := 4) (x := v4) dX12_hears_58 4 rfl ?_
  refine q_zald dX12_hears_60 zM_7 ?_
  refine q_if_ne (tgt := 67) dX12_hears_61 (by decide) ?_ ?_
  · refine q_iload (i := 4) (x := v4) dX12_hears_67 4 rfl ?_
    refine q_cSp mX12_eastOf [.int v4] (st := []) dX12_hears_69 (ssX12_229) ⟨Nat.le_of_ble_eq_true rfl, Nat.le_of_ble_eq_true rfl⟩ rfl rfl (Nat.le_of_ble_eq_true rfl) (kX12_eastOf v4 σ) (fun y8 => ?_)
    refine q_iload_n (i := 2) (x := v2) dX12_hears_72 rfl 2 rfl ?_
    refine q_iload (i := 4) (x := v4) dX12_hears_73 4 rfl ?_
    refine q_cSp mX12_eastBy [.int v4] (st := [.int v2, .int y8]) dX12_hears_75 (ssX12_235) ⟨Nat.le_of_ble_eq_true rfl, Nat.le_of_ble_eq_true rfl⟩ rfl rfl (Nat.le_of_ble_eq_true rfl) (kX12_eastBy v4 σ) (fun y9 => ?_)
    refine q_imul dX12_hears_78 ?_
    refine q_iadd dX12_hears_79 ?_
    refine q_aload_n (i := 0) (x := 0) dX12_hears_80 rfl 0 rfl ?_
    refine q_iload_n (i := 1) (x := v1) dX12_hears_81 rfl 1 rfl ?_
    refine q_iload_n (i := 2) (x := v2) dX12_hears_82 rfl 2 rfl ?_
    refine q_iconst (v := 0) dX12_hears_83 (by decide) ?_
    refine q_cVp mX12_at [.int v1, .int v2, .int 0] (st := [.int (y8 + (v2 * y9))]) dX12_hears_84 (svX12_151) ⟨Nat.le_of_ble_eq_true rfl, Nat.le_of_ble_eq_true rfl⟩ zM_0 rfl rfl rfl (Nat.le_of_ble_eq_true rfl) (kX12_at N v1 v2 0 σ) (fun y10 => ?_)
    refine q_isub dX12_hears_87 ?_
    refine q_istore (i := 5) (L' := [(5, .int ((y8 + (v2 * y9)) - y10)), (0, .ref 0), (1, .int v1), (2, .int v2), (3, .int v3), (4, .int v4)]) dX12_hears_88 (Nat.le_of_ble_eq_true rfl) rfl ?_
    refine q_iload (i := 4) (x := v4) dX12_hears_90 5 rfl ?_
    refine q_cSp mX12_northOf [.int v4] (st := []) dX12_hears_92 (ssX12_232) ⟨Nat.le_of_ble_eq_true rfl, Nat.le_of_ble_eq_true rfl⟩ rfl rfl (Nat.le_of_ble_eq_true rfl) (kX12_northOf v4 σ) (fun y11 => ?_)
    refine q_iload_n (i := 2) (x := v2) dX12_hears_95 rfl 3 rfl ?_
    refine q_iload (i := 4) (x := v4) dX12_hears_96 5 rfl ?_
    refine q_cSp mX12_northBy [.int v4] (st := [.int v2, .int y11]) dX12_hears_98 (ssX12_238) ⟨Nat.le_of_ble_eq_true rfl, Nat.le_of_ble_eq_true rfl⟩ rfl rfl (Nat.le_of_ble_eq_true rfl) (kX12_northBy v4 σ) (fun y12 => ?_)
    refine q_imul dX12_hears_101 ?_
    refine q_iadd dX12_hears_102 ?_
    refine q_aload_n (i := 0) (x := 0) dX12_hears_103 rfl 1 rfl ?_
    refine q_iload_n (i := 1) (x := v1) dX12_hears_104 rfl 2 rfl ?_
    refine q_iload_n (i := 2) (x := v2) dX12_hears_105 rfl 3 rfl ?_
    refine q_iconst (v := 1) dX12_hears_106 (by decide) ?_
    refine q_cVp mX12_at [.int v1, .int v2, .int 1] (st := [.int (y11 + (v2 * y12))]) dX12_hears_107 (svX12_151) ⟨Nat.le_of_ble_eq_true rfl, Nat.le_of_ble_eq_true rfl⟩ zM_0 rfl rfl rfl (Nat.le_of_ble_eq_true rfl) (kX12_at N v1 v2 1 σ) (fun y13 => ?_)
    refine q_isub dX12_hears_110 ?_
    refine q_nmI (fun x14 => ?_)
    refine q_istore (i := 6) (L' := [(6, .int x14), (5, .int ((y8 + (v2 * y9)) - y10)), (0, .ref 0), (1, .int v1), (2, .int v2), (3, .int v3), (4, .int v4)]) dX12_hears_111 (Nat.le_of_ble_eq_true rfl) rfl ?_
    refine q_iload_n (i := 3) (x := v3) dX12_hears_113 rfl 5 rfl ?_
    refine q_aload_n (i := 0) (x := 0) dX12_hears_114 rfl 2 rfl ?_
    refine q_getr (t := 24) dX12_hears_115 foX12_101 zM_0 rfl ?_
    refine q_iload (i := 5) (x := ((y8 + (v2 * y9)) - y10)) dX12_hears_118 1 rfl ?_
    refine q_cSp mX12_size [.int ((y8 + (v2 * y9)) - y10)] (st := [.ref 24, .int v3]) dX12_hears_120 (ssX12_142) ⟨Nat.le_of_ble_eq_true rfl, Nat.le_of_ble_eq_true rfl⟩ rfl rfl (Nat.le_of_ble_eq_true rfl) (kX12_size ((y8 + (v2 * y9)) - y10) σ) (fun y15 => ?_)
    refine q_iload (i := 6) (x := x14) dX12_hears_123 0 rfl ?_
    refine q_cSp mX12_size [.int x14] (st := [.int y15, .ref 24, .int v3]) dX12_hears_125 (ssX12_142) ⟨Nat.le_of_ble_eq_true rfl, Nat.le_of_ble_eq_true rfl⟩ rfl rfl (Nat.le_of_ble_eq_true rfl) (kX12_size x14 σ) (fun y16 => ?_)
    refine q_cSp mX12_more [.int y15, .int y16] (st := [.ref 24, .int v3]) dX12_hears_128 (ssX12_145) ⟨Nat.le_of_ble_eq_true rfl, Nat.le_of_ble_eq_true rfl⟩ rfl rfl (Nat.le_of_ble_eq_true rfl) (kX12_more y15 y16 σ) (fun y17 => ?_)
    refine q_zald dX12_hears_131 zM_24 ?_
    refine q_if_eq (tgt := 139) dX12_hears_132 (by decide) ?_ ?_
    · refine q_iconst (v := 0) dX12_hears_139 (by decide) ?_
      exact q_sub [2, 3, 4, 6] rfl (aX12_hears_b140 N c47 hc47 v1 v2 v4 v3 0 σ)
    refine q_iconst (v := 1) dX12_hears_135 (by decide) ?_
    refine q_goto (tgt := 140) dX12_hears_136 (by decide) ?_
    exact q_sub [2, 3, 4, 6] rfl (aX12_hears_b140 N c47 hc47 v1 v2 v4 v3 1 σ)
  refine q_goto (tgt := 142) dX12_hears_64 (by decide) ?_
  exact q_sub [0, 1, 2, 3, 4] rfl (aX12_hears_b142 N c47 hc47 v1 v2 v3 v4 σ)
def fX12_hears_l47 (N : Nat) : Nat → Int32 → Int32 → Int32 → Int32 → qMem → Option (Int32 × qMem)
  | 0 => fun _ _ _ _ _ => none
  | n + 1 => fun v1 v2 v3 v4 σ => fX12_hears_s47 N (fX12_hears_l47 N n) v1 v2 v3 v4 σ
theorem aX12_hears_l47 (N : Nat) : ∀ (n : Nat) (v1 : Int32) (v2 : Int32) (v3 : Int32) (v4 : Int32) (σ : qMem), qAt wM mX12_hears (ρi) 47 [(0, .ref 0), (1, .int v1), (2, .int v2), (3, .int v3), (4, .int v4)] [] σ (fX12_hears_l47 N n v1 v2 v3 v4 σ) := by
  intro n
  induction n with
  | zero => intro v1 v2 v3 v4 σ; exact q_none
  | succ n ih => intro v1 v2 v3 v4 σ; exact aX12_hears_s47 N (fX12_hears_l47 N n) ih v1 v2 v3 v4 σ

def fX12_hears (N : Nat) (p1 : Int32) (p2 : Int32) (σ : qMem) : Option (Int32 × qMem) :=
  ((fX12_isBoat p1).bind fun y1 => (if y1 = 0 then (some ((-1), σ)) else ((fX12_isBell p2).bind fun y2 => (if y2 = 0 then (some ((-1), σ)) else ((fX12_fits N σ).bind fun y3 => ((fX12_speedOf N p1 p2 y3).bind fun y4 => ((fX12_asksBoat p1 p2 y4 y3).bind fun y5 => ((fX12_boatOf p1 2 y5).bind fun y6 => ((fX12_hearsBy N y6 y5).bind fun y7 => (fX12_hears_l47 N N p1 p2 0 0 y7))))))))))
set_option maxRecDepth 20000 in
set_option maxHeartbeats 4000000 in
theorem aX12_hears  (N : Nat) (p1 : Int32) (p2 : Int32)  (σ : qMem) : qAt wM mX12_hears (ρi) 0 [(0, .ref 0), (1, .int p1), (2, .int p2)] [] σ (fX12_hears N p1 p2 σ) := by
  unfold fX12_hears
  refine q_iload_n (i := 1) (x := p1) dX12_hears_0 rfl 1 rfl ?_
  refine q_cSp mX12_isBoat [.int p1] (st := []) dX12_hears_1 (ssX12_129) ⟨Nat.le_of_ble_eq_true rfl, Nat.le_of_ble_eq_true rfl⟩ rfl rfl (Nat.le_of_ble_eq_true rfl) (kX12_isBoat p1 σ) (fun y1 => ?_)
  refine q_if_eq (tgt := 14) dX12_hears_4 (by decide) ?_ ?_
  · refine q_iconst (v := (-1)) dX12_hears_14 (by decide) ?_
    exact q_ireti (y := ((-1), σ)) dX12_hears_15 rfl rfl
  refine q_iload_n (i := 2) (x := p2) dX12_hears_7 rfl 2 rfl ?_
  refine q_cSp mX12_isBell [.int p2] (st := []) dX12_hears_8 (ssX12_132) ⟨Nat.le_of_ble_eq_true rfl, Nat.le_of_ble_eq_true rfl⟩ rfl rfl (Nat.le_of_ble_eq_true rfl) (kX12_isBell p2 σ) (fun y2 => ?_)
  refine q_if_ne (tgt := 16) dX12_hears_11 (by decide) ?_ ?_
  · refine q_aload_n (i := 0) (x := 0) dX12_hears_16 rfl 0 rfl ?_
    refine q_cVv mX12_fits [] (st := []) dX12_hears_17 (svX12_244) ⟨Nat.le_of_ble_eq_true rfl, Nat.le_of_ble_eq_true rfl⟩ zM_0 rfl rfl rfl (Nat.le_of_ble_eq_true rfl) (kX12_fits N σ) (fun y3 => ?_)
    refine q_aload_n (i := 0) (x := 0) dX12_hears_20 rfl 0 rfl ?_
    refine q_iload_n (i := 1) (x := p1) dX12_hears_21 rfl 1 rfl ?_
    refine q_iload_n (i := 2) (x := p2) dX12_hears_22 rfl 2 rfl ?_
    refine q_aload_n (i := 0) (x := 0) dX12_hears_23 rfl 0 rfl ?_
    refine q_iload_n (i := 1) (x := p1) dX12_hears_24 rfl 1 rfl ?_
    refine q_iload_n (i := 2) (x := p2) dX12_hears_25 rfl 2 rfl ?_
    refine q_cVp mX12_speedOf [.int p1, .int p2] (st := [.int p2, .int p1, .ref 0]) dX12_hears_26 (svX12_148) ⟨Nat.le_of_ble_eq_true rfl, Nat.le_of_ble_eq_true rfl⟩ zM_0 rfl rfl rfl (Nat.le_of_ble_eq_true rfl) (kX12_speedOf N p1 p2 y3) (fun y4 => ?_)
    refine q_cVv mX12_asksBoat [.int p1, .int p2, .int y4] (st := []) dX12_hears_29 (svX12_267) ⟨Nat.le_of_ble_eq_true rfl, Nat.le_of_ble_eq_true rfl⟩ zM_0 rfl rfl rfl (Nat.le_of_ble_eq_true rfl) (kX12_asksBoat p1 p2 y4 y3) (fun y5 => ?_)
    refine q_aload_n (i := 0) (x := 0) dX12_hears_32 rfl 0 rfl ?_
    refine q_aload_n (i := 0) (x := 0) dX12_hears_33 rfl 0 rfl ?_
    refine q_iload_n (i := 1) (x := p1) dX12_hears_34 rfl 1 rfl ?_
    refine q_iconst (v := 2) dX12_hears_35 (by decide) ?_
    refine q_cVp mX12_boatOf [.int p1, .int 2] (st := [.ref 0]) dX12_hears_36 (svX12_121) ⟨Nat.le_of_ble_eq_true rfl, Nat.le_of_ble_eq_true rfl⟩ zM_0 rfl rfl rfl (Nat.le_of_ble_eq_true rfl) (kX12_boatOf p1 2 y5) (fun y6 => ?_)
    refine q_cVv mX12_hearsBy [.int y6] (st := []) dX12_hears_39 (svX12_270) ⟨Nat.le_of_ble_eq_true rfl, Nat.le_of_ble_eq_true rfl⟩ zM_0 rfl rfl rfl (Nat.le_of_ble_eq_true rfl) (kX12_hearsBy N y6 y5) (fun y7 => ?_)
    refine q_iconst (v := 0) dX12_hears_42 (by decide) ?_
    refine q_istore_n (i := 3) (L' := [(3, .int 0), (0, .ref 0), (1, .int p1), (2, .int p2)]) dX12_hears_43 rfl (Nat.le_of_ble_eq_true rfl) rfl ?_
    refine q_iconst (v := 0) dX12_hears_44 (by decide) ?_
    refine q_istore (i := 4) (L' := [(4, .int 0), (3, .int 0), (0, .ref 0), (1, .int p1), (2, .int p2)]) dX12_hears_45 (Nat.le_of_ble_eq_true rfl) rfl ?_
    exact q_sub [2, 3, 4, 1, 0] rfl (aX12_hears_l47 N N p1 p2 0 0 y7)
  refine q_iconst (v := (-1)) dX12_hears_14 (by decide) ?_
  exact q_ireti (y := ((-1), σ)) dX12_hears_15 rfl rfl
theorem kX12_hears  (N : Nat) (p1 : Int32) (p2 : Int32)  (σ : qMem) : qMc wM mX12_hears (ρi) [.ref 0, .int p1, .int p2] σ (fX12_hears N p1 p2 σ) := qMc_of (moX12_hears) (Nat.le_of_ble_eq_true rfl) (aX12_hears N p1 p2  σ)

theorem dX12_cell_0 : decode cX12_cell 0 = .ok (.iload_n 1, 1) := by decide +kernel
theorem dX12_cell_1 : decode cX12_cell 1 = .ok (.iconst 0, 1) := by decide +kernel
theorem dX12_cell_2 : decode cX12_cell 2 = .ok (.bipush 100, 2) := by decide +kernel
theorem dX12_cell_4 : decode cX12_cell 4 = .ok (.invokestatic 110, 3) := by decide +kernel
theorem dX12_cell_7 : decode cX12_cell 7 = .ok (.ifCond .eq 13, 3) := by decide +kernel
theorem dX12_cell_10 : decode cX12_cell 10 = .ok (.iload_n 2, 1) := by decide +kernel
theorem dX12_cell_11 : decode cX12_cell 11 = .ok (.iconst 0, 1) := by decide +kernel
theorem dX12_cell_12 : decode cX12_cell 12 = .ok (.bipush 100, 2) := by decide +kernel
theorem dX12_cell_14 : decode cX12_cell 14 = .ok (.invokestatic 110, 3) := by decide +kernel
theorem dX12_cell_17 : decode cX12_cell 17 = .ok (.ifCond .ne 9, 3) := by decide +kernel
theorem dX12_cell_20 : decode cX12_cell 20 = .ok (.aload_n 0, 1) := by decide +kernel
theorem dX12_cell_21 : decode cX12_cell 21 = .ok (.iconst (-1), 1) := by decide +kernel
theorem dX12_cell_22 : decode cX12_cell 22 = .ok (.invokevirtual 114, 3) := by decide +kernel
theorem dX12_cell_25 : decode cX12_cell 25 = .ok (.ireturn, 1) := by decide +kernel
theorem dX12_cell_26 : decode cX12_cell 26 = .ok (.aload_n 0, 1) := by decide +kernel
theorem dX12_cell_27 : decode cX12_cell 27 = .ok (.getfield 20, 3) := by decide +kernel
theorem dX12_cell_30 : decode cX12_cell 30 = .ok (.sipush 305, 3) := by decide +kernel
theorem dX12_cell_33 : decode cX12_cell 33 = .ok (.iaload, 1) := by decide +kernel
theorem dX12_cell_34 : decode cX12_cell 34 = .ok (.istore_n 3, 1) := by decide +kernel
theorem dX12_cell_35 : decode cX12_cell 35 = .ok (.iload_n 3, 1) := by decide +kernel
theorem dX12_cell_36 : decode cX12_cell 36 = .ok (.bipush 6, 2) := by decide +kernel
theorem dX12_cell_38 : decode cX12_cell 38 = .ok (.if_icmp .ne 10, 3) := by decide +kernel
theorem dX12_cell_41 : decode cX12_cell 41 = .ok (.aload_n 0, 1) := by decide +kernel
theorem dX12_cell_42 : decode cX12_cell 42 = .ok (.bipush (-5), 2) := by decide +kernel
theorem dX12_cell_44 : decode cX12_cell 44 = .ok (.invokevirtual 114, 3) := by decide +kernel
theorem dX12_cell_47 : decode cX12_cell 47 = .ok (.ireturn, 1) := by decide +kernel
theorem dX12_cell_48 : decode cX12_cell 48 = .ok (.aload_n 0, 1) := by decide +kernel
theorem dX12_cell_49 : decode cX12_cell 49 = .ok (.getfield 20, 3) := by decide +kernel
theorem dX12_cell_52 : decode cX12_cell 52 = .ok (.sipush 226, 3) := by decide +kernel
theorem dX12_cell_55 : decode cX12_cell 55 = .ok (.iconst 2, 1) := by decide +kernel
theorem dX12_cell_56 : decode cX12_cell 56 = .ok (.iload_n 3, 1) := by decide +kernel
theorem dX12_cell_57 : decode cX12_cell 57 = .ok (.imul, 1) := by decide +kernel
theorem dX12_cell_58 : decode cX12_cell 58 = .ok (.iadd, 1) := by decide +kernel
theorem dX12_cell_59 : decode cX12_cell 59 = .ok (.iload_n 1, 1) := by decide +kernel
theorem dX12_cell_60 : decode cX12_cell 60 = .ok (.iastore, 1) := by decide +kernel
theorem dX12_cell_61 : decode cX12_cell 61 = .ok (.aload_n 0, 1) := by decide +kernel
theorem dX12_cell_62 : decode cX12_cell 62 = .ok (.getfield 20, 3) := by decide +kernel
theorem dX12_cell_65 : decode cX12_cell 65 = .ok (.sipush 226, 3) := by decide +kernel
theorem dX12_cell_68 : decode cX12_cell 68 = .ok (.iconst 2, 1) := by decide +kernel
theorem dX12_cell_69 : decode cX12_cell 69 = .ok (.iload_n 3, 1) := by decide +kernel
theorem dX12_cell_70 : decode cX12_cell 70 = .ok (.imul, 1) := by decide +kernel
theorem dX12_cell_71 : decode cX12_cell 71 = .ok (.iadd, 1) := by decide +kernel
theorem dX12_cell_72 : decode cX12_cell 72 = .ok (.iconst 1, 1) := by decide +kernel
theorem dX12_cell_73 : decode cX12_cell 73 = .ok (.iadd, 1) := by decide +kernel
theorem dX12_cell_74 : decode cX12_cell 74 = .ok (.iload_n 2, 1) := by decide +kernel
theorem dX12_cell_75 : decode cX12_cell 75 = .ok (.iastore, 1) := by decide +kernel
theorem dX12_cell_76 : decode cX12_cell 76 = .ok (.aload_n 0, 1) := by decide +kernel
theorem dX12_cell_77 : decode cX12_cell 77 = .ok (.getfield 20, 3) := by decide +kernel
theorem dX12_cell_80 : decode cX12_cell 80 = .ok (.sipush 305, 3) := by decide +kernel
theorem dX12_cell_83 : decode cX12_cell 83 = .ok (.dup2, 1) := by decide +kernel
theorem dX12_cell_84 : decode cX12_cell 84 = .ok (.iaload, 1) := by decide +kernel
theorem dX12_cell_85 : decode cX12_cell 85 = .ok (.iconst 1, 1) := by decide +kernel
theorem dX12_cell_86 : decode cX12_cell 86 = .ok (.iadd, 1) := by decide +kernel
theorem dX12_cell_87 : decode cX12_cell 87 = .ok (.iastore, 1) := by decide +kernel
theorem dX12_cell_88 : decode cX12_cell 88 = .ok (.aload_n 0, 1) := by decide +kernel
theorem dX12_cell_89 : decode cX12_cell 89 = .ok (.iload_n 3, 1) := by decide +kernel
theorem dX12_cell_90 : decode cX12_cell 90 = .ok (.invokevirtual 118, 3) := by decide +kernel
theorem dX12_cell_93 : decode cX12_cell 93 = .ok (.ireturn, 1) := by decide +kernel
def fX12_cell_b20 (σ : qMem) : Option (Int32 × qMem) :=
  ((fX12_refuses (-1) σ).bind fun y9 => (some (y9.1, y9.2)))
set_option maxRecDepth 20000 in
set_option maxHeartbeats 4000000 in
theorem aX12_cell_b20 (σ : qMem) : qAt wM mX12_cell (ρi) 20 [(0, .ref 0)] [] σ (fX12_cell_b20 σ) := by
  unfold fX12_cell_b20
  refine q_aload_n (i := 0) (x := 0) dX12_cell_20 rfl 0 rfl ?_
  refine q_iconst (v := (-1)) dX12_cell_21 (by decide) ?_
  refine q_cVi mX12_refuses [.int (-1)] (st := []) dX12_cell_22 (svX12_114) ⟨Nat.le_of_ble_eq_true rfl, Nat.le_of_ble_eq_true rfl⟩ zM_0 rfl rfl rfl (Nat.le_of_ble_eq_true rfl) (kX12_refuses (-1) σ) (fun y9 => ?_)
  exact q_ireti (y := (y9.1, y9.2)) dX12_cell_25 rfl rfl

def fX12_cell (p1 : Int32) (p2 : Int32) (σ : qMem) : Option (Int32 × qMem) :=
  ((fX12_in p1 0 100).bind fun y1 => (if y1 = 0 then (fX12_cell_b20 σ) else ((fX12_in p2 0 100).bind fun y2 => (if y2 = 0 then (fX12_cell_b20 σ) else (if ck 305 1112 = true then (nmI (gi σ 2 (305 : Int32).toNatClampNeg) fun x3 => (if x3 = 6 then ((fX12_refuses (-5) σ).bind fun y8 => (some (y8.1, y8.2))) else (if ck (226 + (2 * x3)) 1112 = true then (nmM (si σ 2 (226 + (2 * x3)).toNatClampNeg p1) fun s4 => (if ck ((226 + (2 * x3)) + 1) 1112 = true then (nmM (si s4 2 ((226 + (2 * x3)) + 1).toNatClampNeg p2) fun s5 => (if ck 305 1112 = true then (if ck 305 1112 = true then (nmM (si s5 2 (305 : Int32).toNatClampNeg ((gi s5 2 (305 : Int32).toNatClampNeg) + 1)) fun s6 => ((fX12_good x3 s6).bind fun y7 => (some (y7.1, y7.2)))) else none) else none)) else none)) else none))) else none)))))
set_option maxRecDepth 20000 in
set_option maxHeartbeats 4000000 in
theorem aX12_cell  (p1 : Int32) (p2 : Int32)  (σ : qMem) : qAt wM mX12_cell (ρi) 0 [(0, .ref 0), (1, .int p1), (2, .int p2)] [] σ (fX12_cell p1 p2 σ) := by
  unfold fX12_cell
  refine q_iload_n (i := 1) (x := p1) dX12_cell_0 rfl 1 rfl ?_
  refine q_iconst (v := 0) dX12_cell_1 (by decide) ?_
  refine q_bipush (v := 100) dX12_cell_2 (by decide) ?_
  refine q_cSp mX12_in [.int p1, .int 0, .int 100] (st := []) dX12_cell_4 (ssX12_110) ⟨Nat.le_of_ble_eq_true rfl, Nat.le_of_ble_eq_true rfl⟩ rfl rfl (Nat.le_of_ble_eq_true rfl) (kX12_in p1 0 100 σ) (fun y1 => ?_)
  refine q_if_eq (tgt := 20) dX12_cell_7 (by decide) ?_ ?_
  · exact q_sub [0] rfl (aX12_cell_b20 σ)
  refine q_iload_n (i := 2) (x := p2) dX12_cell_10 rfl 2 rfl ?_
  refine q_iconst (v := 0) dX12_cell_11 (by decide) ?_
  refine q_bipush (v := 100) dX12_cell_12 (by decide) ?_
  refine q_cSp mX12_in [.int p2, .int 0, .int 100] (st := []) dX12_cell_14 (ssX12_110) ⟨Nat.le_of_ble_eq_true rfl, Nat.le_of_ble_eq_true rfl⟩ rfl rfl (Nat.le_of_ble_eq_true rfl) (kX12_in p2 0 100 σ) (fun y2 => ?_)
  refine q_if_ne (tgt := 26) dX12_cell_17 (by decide) ?_ ?_
  · refine q_aload_n (i := 0) (x := 0) dX12_cell_26 rfl 0 rfl ?_
    refine q_getr (t := 2) dX12_cell_27 foX12_20 zM_0 rfl ?_
    refine q_sipush (v := 305) dX12_cell_30 (by decide) ?_
    refine q_iald dX12_cell_33 zM_2 ?_
    refine q_nmI (fun x3 => ?_)
    refine q_istore_n (i := 3) (L' := [(3, .int x3), (0, .ref 0), (1, .int p1), (2, .int p2)]) dX12_cell_34 rfl (Nat.le_of_ble_eq_true rfl) rfl ?_
    refine q_iload_n (i := 3) (x := x3) dX12_cell_35 rfl 0 rfl ?_
    refine q_bipush (v := 6) dX12_cell_36 (by decide) ?_
    refine q_icmp_ne (tgt := 48) dX12_cell_38 (by decide) ?_ ?_
    · refine q_aload_n (i := 0) (x := 0) dX12_cell_48 rfl 1 rfl ?_
      refine q_getr (t := 2) dX12_cell_49 foX12_20 zM_0 rfl ?_
      refine q_sipush (v := 226) dX12_cell_52 (by decide) ?_
      refine q_iconst (v := 2) dX12_cell_55 (by decide) ?_
      refine q_iload_n (i := 3) (x := x3) dX12_cell_56 rfl 0 rfl ?_
      refine q_imul dX12_cell_57 ?_
      refine q_iadd dX12_cell_58 ?_
      refine q_iload_n (i := 1) (x := p1) dX12_cell_59 rfl 2 rfl ?_
      refine q_iast dX12_cell_60 zM_2 ?_
      refine q_nmM (fun s4 => ?_)
      refine q_aload_n (i := 0) (x := 0) dX12_cell_61 rfl 1 rfl ?_
      refine q_getr (t := 2) dX12_cell_62 foX12_20 zM_0 rfl ?_
      refine q_sipush (v := 226) dX12_cell_65 (by decide) ?_
      refine q_iconst (v := 2) dX12_cell_68 (by decide) ?_
      refine q_iload_n (i := 3) (x := x3) dX12_cell_69 rfl 0 rfl ?_
      refine q_imul dX12_cell_70 ?_
      refine q_iadd dX12_cell_71 ?_
      refine q_iconst (v := 1) dX12_cell_72 (by decide) ?_
      refine q_iadd dX12_cell_73 ?_
      refine q_iload_n (i := 2) (x := p2) dX12_cell_74 rfl 3 rfl ?_
      refine q_iast dX12_cell_75 zM_2 ?_
      refine q_nmM (fun s5 => ?_)
      refine q_aload_n (i := 0) (x := 0) dX12_cell_76 rfl 1 rfl ?_
      refine q_getr (t := 2) dX12_cell_77 foX12_20 zM_0 rfl ?_
      refine q_sipush (v := 305) dX12_cell_80 (by decide) ?_
      refine q_dup2 dX12_cell_83 rfl rfl ?_
      refine q_iald dX12_cell_84 zM_2 ?_
      refine q_iconst (v := 1) dX12_cell_85 (by decide) ?_
      refine q_iadd dX12_cell_86 ?_
      refine q_iast dX12_cell_87 zM_2 ?_
      refine q_nmM (fun s6 => ?_)
      refine q_aload_n (i := 0) (x := 0) dX12_cell_88 rfl 1 rfl ?_
      refine q_iload_n (i := 3) (x := x3) dX12_cell_89 rfl 0 rfl ?_
      refine q_cVi mX12_good [.int x3] (st := []) dX12_cell_90 (svX12_118) ⟨Nat.le_of_ble_eq_true rfl, Nat.le_of_ble_eq_true rfl⟩ zM_0 rfl rfl rfl (Nat.le_of_ble_eq_true rfl) (kX12_good x3 s6) (fun y7 => ?_)
      exact q_ireti (y := (y7.1, y7.2)) dX12_cell_93 rfl rfl
    refine q_aload_n (i := 0) (x := 0) dX12_cell_41 rfl 1 rfl ?_
    refine q_bipush (v := (-5)) dX12_cell_42 (by decide) ?_
    refine q_cVi mX12_refuses [.int (-5)] (st := []) dX12_cell_44 (svX12_114) ⟨Nat.le_of_ble_eq_true rfl, Nat.le_of_ble_eq_true rfl⟩ zM_0 rfl rfl rfl (Nat.le_of_ble_eq_true rfl) (kX12_refuses (-5) σ) (fun y8 => ?_)
    exact q_ireti (y := (y8.1, y8.2)) dX12_cell_47 rfl rfl
  exact q_sub [0] rfl (aX12_cell_b20 σ)
theorem kX12_cell  (p1 : Int32) (p2 : Int32)  (σ : qMem) : qMc wM mX12_cell (ρi) [.ref 0, .int p1, .int p2] σ (fX12_cell p1 p2 σ) := qMc_of (moX12_cell) (Nat.le_of_ble_eq_true rfl) (aX12_cell p1 p2  σ)

theorem dX12_chance_0 : decode cX12_chance 0 = .ok (.lconst 0, 1) := by decide +kernel
theorem dX12_chance_1 : decode cX12_chance 1 = .ok (.lstore_n 1, 1) := by decide +kernel
theorem dX12_chance_2 : decode cX12_chance 2 = .ok (.iconst 0, 1) := by decide +kernel
theorem dX12_chance_3 : decode cX12_chance 3 = .ok (.istore_n 3, 1) := by decide +kernel
theorem dX12_chance_4 : decode cX12_chance 4 = .ok (.iload_n 3, 1) := by decide +kernel
theorem dX12_chance_5 : decode cX12_chance 5 = .ok (.aload_n 0, 1) := by decide +kernel
theorem dX12_chance_6 : decode cX12_chance 6 = .ok (.getfield 20, 3) := by decide +kernel
theorem dX12_chance_9 : decode cX12_chance 9 = .ok (.sipush 305, 3) := by decide +kernel
theorem dX12_chance_12 : decode cX12_chance 12 = .ok (.iaload, 1) := by decide +kernel
theorem dX12_chance_13 : decode cX12_chance 13 = .ok (.if_icmp .ge 90, 3) := by decide +kernel
theorem dX12_chance_16 : decode cX12_chance 16 = .ok (.lconst 1, 1) := by decide +kernel
theorem dX12_chance_17 : decode cX12_chance 17 = .ok (.lstore 4, 2) := by decide +kernel
theorem dX12_chance_19 : decode cX12_chance 19 = .ok (.iconst 0, 1) := by decide +kernel
theorem dX12_chance_20 : decode cX12_chance 20 = .ok (.istore 6, 2) := by decide +kernel
theorem dX12_chance_22 : decode cX12_chance 22 = .ok (.iload 6, 2) := by decide +kernel
theorem dX12_chance_24 : decode cX12_chance 24 = .ok (.bipush 6, 2) := by decide +kernel
theorem dX12_chance_26 : decode cX12_chance 26 = .ok (.if_icmp .ge 48, 3) := by decide +kernel
theorem dX12_chance_29 : decode cX12_chance 29 = .ok (.lload 4, 2) := by decide +kernel
theorem dX12_chance_31 : decode cX12_chance 31 = .ok (.iload 6, 2) := by decide +kernel
theorem dX12_chance_33 : decode cX12_chance 33 = .ok (.aload_n 0, 1) := by decide +kernel
theorem dX12_chance_34 : decode cX12_chance 34 = .ok (.getfield 104, 3) := by decide +kernel
theorem dX12_chance_37 : decode cX12_chance 37 = .ok (.iload_n 3, 1) := by decide +kernel
theorem dX12_chance_38 : decode cX12_chance 38 = .ok (.iaload, 1) := by decide +kernel
theorem dX12_chance_39 : decode cX12_chance 39 = .ok (.if_icmp .ge 23, 3) := by decide +kernel
theorem dX12_chance_42 : decode cX12_chance 42 = .ok (.bipush 100, 2) := by decide +kernel
theorem dX12_chance_44 : decode cX12_chance 44 = .ok (.aload_n 0, 1) := by decide +kernel
theorem dX12_chance_45 : decode cX12_chance 45 = .ok (.getfield 20, 3) := by decide +kernel
theorem dX12_chance_48 : decode cX12_chance 48 = .ok (.sipush 226, 3) := by decide +kernel
theorem dX12_chance_51 : decode cX12_chance 51 = .ok (.iconst 2, 1) := by decide +kernel
theorem dX12_chance_52 : decode cX12_chance 52 = .ok (.iload_n 3, 1) := by decide +kernel
theorem dX12_chance_53 : decode cX12_chance 53 = .ok (.imul, 1) := by decide +kernel
theorem dX12_chance_54 : decode cX12_chance 54 = .ok (.iadd, 1) := by decide +kernel
theorem dX12_chance_55 : decode cX12_chance 55 = .ok (.iconst 1, 1) := by decide +kernel
theorem dX12_chance_56 : decode cX12_chance 56 = .ok (.iadd, 1) := by decide +kernel
theorem dX12_chance_57 : decode cX12_chance 57 = .ok (.iaload, 1) := by decide +kernel
theorem dX12_chance_58 : decode cX12_chance 58 = .ok (.isub, 1) := by decide +kernel
theorem dX12_chance_59 : decode cX12_chance 59 = .ok (.goto 5, 3) := by decide +kernel
theorem dX12_chance_62 : decode cX12_chance 62 = .ok (.bipush 100, 2) := by decide +kernel
theorem dX12_chance_64 : decode cX12_chance 64 = .ok (.i2l, 1) := by decide +kernel
theorem dX12_chance_65 : decode cX12_chance 65 = .ok (.lmul, 1) := by decide +kernel
theorem dX12_chance_66 : decode cX12_chance 66 = .ok (.lstore 4, 2) := by decide +kernel
theorem dX12_chance_68 : decode cX12_chance 68 = .ok (.iinc 6 1, 3) := by decide +kernel
theorem dX12_chance_71 : decode cX12_chance 71 = .ok (.goto (-49), 3) := by decide +kernel
theorem dX12_chance_74 : decode cX12_chance 74 = .ok (.lload_n 1, 1) := by decide +kernel
theorem dX12_chance_75 : decode cX12_chance 75 = .ok (.aload_n 0, 1) := by decide +kernel
theorem dX12_chance_76 : decode cX12_chance 76 = .ok (.getfield 20, 3) := by decide +kernel
theorem dX12_chance_79 : decode cX12_chance 79 = .ok (.sipush 226, 3) := by decide +kernel
theorem dX12_chance_82 : decode cX12_chance 82 = .ok (.iconst 2, 1) := by decide +kernel
theorem dX12_chance_83 : decode cX12_chance 83 = .ok (.iload_n 3, 1) := by decide +kernel
theorem dX12_chance_84 : decode cX12_chance 84 = .ok (.imul, 1) := by decide +kernel
theorem dX12_chance_85 : decode cX12_chance 85 = .ok (.iadd, 1) := by decide +kernel
theorem dX12_chance_86 : decode cX12_chance 86 = .ok (.iaload, 1) := by decide +kernel
theorem dX12_chance_87 : decode cX12_chance 87 = .ok (.i2l, 1) := by decide +kernel
theorem dX12_chance_88 : decode cX12_chance 88 = .ok (.ldc2_w 432, 3) := by decide +kernel
theorem dX12_chance_91 : decode cX12_chance 91 = .ok (.lload 4, 2) := by decide +kernel
theorem dX12_chance_93 : decode cX12_chance 93 = .ok (.lsub, 1) := by decide +kernel
theorem dX12_chance_94 : decode cX12_chance 94 = .ok (.lmul, 1) := by decide +kernel
theorem dX12_chance_95 : decode cX12_chance 95 = .ok (.ladd, 1) := by decide +kernel
theorem dX12_chance_96 : decode cX12_chance 96 = .ok (.lstore_n 1, 1) := by decide +kernel
theorem dX12_chance_97 : decode cX12_chance 97 = .ok (.iinc 3 1, 3) := by decide +kernel
theorem dX12_chance_100 : decode cX12_chance 100 = .ok (.goto (-96), 3) := by decide +kernel
theorem dX12_chance_103 : decode cX12_chance 103 = .ok (.lload_n 1, 1) := by decide +kernel
theorem dX12_chance_104 : decode cX12_chance 104 = .ok (.lreturn, 1) := by decide +kernel
def fX12_chance_b64 (N : Nat) (c4 : Int64 → Int32 → Option Int64) (c22 : Int64 → Int32 → Int64 → Int32 → Option Int64) (v1 : Int64) (v3 : Int32) (v6 : Int32) (u0 : Int64) (u1 : Int32) (σ : qMem) : Option Int64 :=
  (c22 v1 v3 (u0 * u1.toInt64) (v6 + 1))
set_option maxRecDepth 20000 in
set_option maxHeartbeats 4000000 in
theorem aX12_chance_b64 (N : Nat) (σ : qMem) (c4 : Int64 → Int32 → Option Int64) (c22 : Int64 → Int32 → Int64 → Int32 → Option Int64) (hc4 : ∀ (v1 : Int64) (v3 : Int32) , qAt wM mX12_chance (ρq σ) 4 [(0, .ref 0), (1, .long v1), (3, .int v3)] [] σ (c4 v1 v3)) (hc22 : ∀ (v1 : Int64) (v3 : Int32) (v4 : Int64) (v6 : Int32) , qAt wM mX12_chance (ρq σ) 22 [(0, .ref 0), (1, .long v1), (3, .int v3), (4, .long v4), (6, .int v6)] [] σ (c22 v1 v3 v4 v6)) (v1 : Int64) (v3 : Int32) (v6 : Int32) (u0 : Int64) (u1 : Int32) : qAt wM mX12_chance (ρq σ) 64 [(0, .ref 0), (1, .long v1), (3, .int v3), (6, .int v6)] [.int u1, .long u0] σ (fX12_chance_b64 N c4 c22 v1 v3 v6 u0 u1 σ) := by
  unfold fX12_chance_b64
  refine q_i2l dX12_chance_64 ?_
  refine q_lmul dX12_chance_65 ?_
  refine q_lstore (i := 4) (L' := [(4, .long (u0 * u1.toInt64)), (0, .ref 0), (1, .long v1), (3, .int v3), (6, .int v6)]) dX12_chance_66 (Nat.le_of_ble_eq_true rfl) rfl ?_
  refine q_iinc (i := 6) (x := v6) (v := (v6 + 1)) (L' := [(6, .int (v6 + 1)), (4, .long (u0 * u1.toInt64)), (0, .ref 0), (1, .long v1), (3, .int v3)]) dX12_chance_68 4 rfl (q_cst v6 (by decide)) (Nat.le_of_ble_eq_true rfl) rfl ?_
  refine q_goto (tgt := 22) dX12_chance_71 (by decide) ?_
  exact q_sub [2, 3, 4, 1, 0] rfl (hc22 v1 v3 (u0 * u1.toInt64) (v6 + 1))

def fX12_chance_s22 (N : Nat) (c4 : Int64 → Int32 → Option Int64) (c22 : Int64 → Int32 → Int64 → Int32 → Option Int64) (v1 : Int64) (v3 : Int32) (v4 : Int64) (v6 : Int32) (σ : qMem) : Option Int64 :=
  (if 6 ≤ v6 then (if ck (226 + (2 * v3)) 1112 = true then (nmL (v1 + ((gi σ 2 (226 + (2 * v3)).toNatClampNeg).toInt64 * (1000000000000 - v4))) fun x1 => (c4 x1 (v3 + 1))) else none) else (if ck v3 6 = true then (if (gi σ 25 v3.toNatClampNeg) ≤ v6 then (fX12_chance_b64 N c4 c22 v1 v3 v6 v4 100 σ) else (if ck ((226 + (2 * v3)) + 1) 1112 = true then (fX12_chance_b64 N c4 c22 v1 v3 v6 v4 (100 - (gi σ 2 ((226 + (2 * v3)) + 1).toNatClampNeg)) σ) else none)) else none))
set_option maxRecDepth 20000 in
set_option maxHeartbeats 4000000 in
theorem aX12_chance_s22 (N : Nat) (σ : qMem) (c4 : Int64 → Int32 → Option Int64) (hc4 : ∀ (v1 : Int64) (v3 : Int32) , qAt wM mX12_chance (ρq σ) 4 [(0, .ref 0), (1, .long v1), (3, .int v3)] [] σ (c4 v1 v3)) (c22 : Int64 → Int32 → Int64 → Int32 → Option Int64) (hc22 : ∀ (v1 : Int64) (v3 : Int32) (v4 : Int64) (v6 : Int32) , qAt wM mX12_chance (ρq σ) 22 [(0, .ref 0), (1, .long v1), (3, .int v3), (4, .long v4), (6, .int v6)] [] σ (c22 v1 v3 v4 v6)) (v1 : Int64) (v3 : Int32) (v4 : Int64) (v6 : Int32) : qAt wM mX12_chance (ρq σ) 22 [(0, .ref 0), (1, .long v1), (3, .int v3), (4, .long v4), (6, .int v6)] [] σ (fX12_chance_s22 N c4 c22 v1 v3 v4 v6 σ) := by
  unfold fX12_chance_s22
  refine q_iload (i := 6) (x := v6) dX12_chance_22 4 rfl ?_
  refine q_bipush (v := 6) dX12_chance_24 (by decide) ?_
  refine q_icmp_ge (tgt := 74) dX12_chance_26 (by decide) ?_ ?_
  · refine q_lload_n (i := 1) (x := v1) dX12_chance_74 rfl 1 rfl ?_
    refine q_aload_n (i := 0) (x := 0) dX12_chance_75 rfl 0 rfl ?_
    refine q_getr (t := 2) dX12_chance_76 foX12_20 zM_0 rfl ?_
    refine q_sipush (v := 226) dX12_chance_79 (by decide) ?_
    refine q_iconst (v := 2) dX12_chance_82 (by decide) ?_
    refine q_iload_n (i := 3) (x := v3) dX12_chance_83 rfl 2 rfl ?_
    refine q_imul dX12_chance_84 ?_
    refine q_iadd dX12_chance_85 ?_
    refine q_iald dX12_chance_86 zM_2 ?_
    refine q_i2l dX12_chance_87 ?_
    refine q_ldc2_w (v := 1000000000000) dX12_chance_88 (g_9 45 (by decide +kernel) rfl) ?_
    refine q_lload (i := 4) (x := v4) dX12_chance_91 3 rfl ?_
    refine q_lsub dX12_chance_93 ?_
    refine q_lmul dX12_chance_94 ?_
    refine q_ladd dX12_chance_95 ?_
    refine q_nmL (fun x1 => ?_)
    refine q_lstore_n (i := 1) (L' := [(1, .long x1), (0, .ref 0), (3, .int v3), (4, .long v4), (6, .int v6)]) dX12_chance_96 rfl (Nat.le_of_ble_eq_true rfl) rfl ?_
    refine q_iinc (i := 3) (x := v3) (v := (v3 + 1)) (L' := [(3, .int (v3 + 1)), (1, .long x1), (0, .ref 0), (4, .long v4), (6, .int v6)]) dX12_chance_97 2 rfl (q_cst v3 (by decide)) (Nat.le_of_ble_eq_true rfl) rfl ?_
    refine q_goto (tgt := 4) dX12_chance_100 (by decide) ?_
    exact q_sub [2, 1, 0] rfl (hc4 x1 (v3 + 1))
  refine q_lload (i := 4) (x := v4) dX12_chance_29 3 rfl ?_
  refine q_iload (i := 6) (x := v6) dX12_chance_31 4 rfl ?_
  refine q_aload_n (i := 0) (x := 0) dX12_chance_33 rfl 0 rfl ?_
  refine q_getr (t := 25) dX12_chance_34 foX12_104 zM_0 rfl ?_
  refine q_iload_n (i := 3) (x := v3) dX12_chance_37 rfl 2 rfl ?_
  refine q_iald dX12_chance_38 zM_25 ?_
  refine q_icmp_ge (tgt := 62) dX12_chance_39 (by decide) ?_ ?_
  · refine q_bipush (v := 100) dX12_chance_62 (by decide) ?_
    exact q_sub [0, 1, 2, 4] rfl (aX12_chance_b64 N σ c4 c22 hc4 hc22 v1 v3 v6 v4 100)
  refine q_bipush (v := 100) dX12_chance_42 (by decide) ?_
  refine q_aload_n (i := 0) (x := 0) dX12_chance_44 rfl 0 rfl ?_
  refine q_getr (t := 2) dX12_chance_45 foX12_20 zM_0 rfl ?_
  refine q_sipush (v := 226) dX12_chance_48 (by decide) ?_
  refine q_iconst (v := 2) dX12_chance_51 (by decide) ?_
  refine q_iload_n (i := 3) (x := v3) dX12_chance_52 rfl 2 rfl ?_
  refine q_imul dX12_chance_53 ?_
  refine q_iadd dX12_chance_54 ?_
  refine q_iconst (v := 1) dX12_chance_55 (by decide) ?_
  refine q_iadd dX12_chance_56 ?_
  refine q_iald dX12_chance_57 zM_2 ?_
  refine q_isub dX12_chance_58 ?_
  refine q_goto (tgt := 64) dX12_chance_59 (by decide) ?_
  exact q_sub [0, 1, 2, 4] rfl (aX12_chance_b64 N σ c4 c22 hc4 hc22 v1 v3 v6 v4 (100 - (gi σ 2 ((226 + (2 * v3)) + 1).toNatClampNeg)))
def fX12_chance_l22 (N : Nat) (c4 : Int64 → Int32 → Option Int64) (σ : qMem) : Nat → Int64 → Int32 → Int64 → Int32 → Option Int64
  | 0 => fun _ _ _ _ => none
  | n + 1 => fun v1 v3 v4 v6 => fX12_chance_s22 N c4 (fX12_chance_l22 N c4 σ n) v1 v3 v4 v6 σ
theorem aX12_chance_l22 (N : Nat) (σ : qMem) (c4 : Int64 → Int32 → Option Int64) (hc4 : ∀ (v1 : Int64) (v3 : Int32) , qAt wM mX12_chance (ρq σ) 4 [(0, .ref 0), (1, .long v1), (3, .int v3)] [] σ (c4 v1 v3)) : ∀ (n : Nat) (v1 : Int64) (v3 : Int32) (v4 : Int64) (v6 : Int32), qAt wM mX12_chance (ρq σ) 22 [(0, .ref 0), (1, .long v1), (3, .int v3), (4, .long v4), (6, .int v6)] [] σ (fX12_chance_l22 N c4 σ n v1 v3 v4 v6) := by
  intro n
  induction n with
  | zero => intro v1 v3 v4 v6; exact q_none
  | succ n ih => intro v1 v3 v4 v6; exact aX12_chance_s22 N σ c4 hc4 (fX12_chance_l22 N c4 σ n) ih v1 v3 v4 v6

def fX12_chance_s4 (N : Nat) (c4 : Int64 → Int32 → Option Int64) (v1 : Int64) (v3 : Int32) (σ : qMem) : Option Int64 :=
  (if ck 305 1112 = true then (if (gi σ 2 (305 : Int32).toNatClampNeg) ≤ v3 then (some v1) else (fX12_chance_l22 N c4 σ N v1 v3 1 0)) else none)
set_option maxRecDepth 20000 in
set_option maxHeartbeats 4000000 in
theorem aX12_chance_s4 (N : Nat) (σ : qMem) (c4 : Int64 → Int32 → Option Int64) (hc4 : ∀ (v1 : Int64) (v3 : Int32) , qAt wM mX12_chance (ρq σ) 4 [(0, .ref 0), (1, .long v1), (3, .int v3)] [] σ (c4 v1 v3)) (v1 : Int64) (v3 : Int32) : qAt wM mX12_chance (ρq σ) 4 [(0, .ref 0), (1, .long v1), (3, .int v3)] [] σ (fX12_chance_s4 N c4 v1 v3 σ) := by
  unfold fX12_chance_s4
  refine q_iload_n (i := 3) (x := v3) dX12_chance_4 rfl 2 rfl ?_
  refine q_aload_n (i := 0) (x := 0) dX12_chance_5 rfl 0 rfl ?_
  refine q_getr (t := 2) dX12_chance_6 foX12_20 zM_0 rfl ?_
  refine q_sipush (v := 305) dX12_chance_9 (by decide) ?_
  refine q_iald dX12_chance_12 zM_2 ?_
  refine q_icmp_ge (tgt := 103) dX12_chance_13 (by decide) ?_ ?_
  · refine q_lload_n (i := 1) (x := v1) dX12_chance_103 rfl 1 rfl ?_
    exact q_lret (y := v1) dX12_chance_104 rfl rfl
  refine q_lconst (v := 1) dX12_chance_16 (by decide) ?_
  refine q_lstore (i := 4) (L' := [(4, .long 1), (0, .ref 0), (1, .long v1), (3, .int v3)]) dX12_chance_17 (Nat.le_of_ble_eq_true rfl) rfl ?_
  refine q_iconst (v := 0) dX12_chance_19 (by decide) ?_
  refine q_istore (i := 6) (L' := [(6, .int 0), (4, .long 1), (0, .ref 0), (1, .long v1), (3, .int v3)]) dX12_chance_20 (Nat.le_of_ble_eq_true rfl) rfl ?_
  exact q_sub [2, 3, 4, 1, 0] rfl (aX12_chance_l22 N σ c4 hc4 N v1 v3 1 0)
def fX12_chance_l4 (N : Nat) (σ : qMem) : Nat → Int64 → Int32 → Option Int64
  | 0 => fun _ _ => none
  | n + 1 => fun v1 v3 => fX12_chance_s4 N (fX12_chance_l4 N σ n) v1 v3 σ
theorem aX12_chance_l4 (N : Nat) (σ : qMem) : ∀ (n : Nat) (v1 : Int64) (v3 : Int32), qAt wM mX12_chance (ρq σ) 4 [(0, .ref 0), (1, .long v1), (3, .int v3)] [] σ (fX12_chance_l4 N σ n v1 v3) := by
  intro n
  induction n with
  | zero => intro v1 v3; exact q_none
  | succ n ih => intro v1 v3; exact aX12_chance_s4 N σ (fX12_chance_l4 N σ n) ih v1 v3

def fX12_chance (N : Nat)  (σ : qMem) : Option Int64 :=
  (fX12_chance_l4 N σ N 0 0)
set_option maxRecDepth 20000 in
set_option maxHeartbeats 4000000 in
theorem aX12_chance  (N : Nat)   (σ : qMem) : qAt wM mX12_chance (ρq σ) 0 [(0, .ref 0)] [] σ (fX12_chance N σ) := by
  unfold fX12_chance
  refine q_lconst (v := 0) dX12_chance_0 (by decide) ?_
  refine q_lstore_n (i := 1) (L' := [(1, .long 0), (0, .ref 0)]) dX12_chance_1 rfl (Nat.le_of_ble_eq_true rfl) rfl ?_
  refine q_iconst (v := 0) dX12_chance_2 (by decide) ?_
  refine q_istore_n (i := 3) (L' := [(3, .int 0), (1, .long 0), (0, .ref 0)]) dX12_chance_3 rfl (Nat.le_of_ble_eq_true rfl) rfl ?_
  exact q_sub [2, 1, 0] rfl (aX12_chance_l4 N σ N 0 0)
theorem kX12_chance  (N : Nat)   (σ : qMem) : qMc wM mX12_chance (ρq σ) [.ref 0] σ (fX12_chance N σ) := qMc_of (moX12_chance) (Nat.le_of_ble_eq_true rfl) (aX12_chance N  σ)

theorem dX12_searches_0 : decode cX12_searches 0 = .ok (.aload_n 0, 1) := by decide +kernel
theorem dX12_searches_1 : decode cX12_searches 1 = .ok (.getfield 20, 3) := by decide +kernel
theorem dX12_searches_4 : decode cX12_searches 4 = .ok (.sipush 305, 3) := by decide +kernel
theorem dX12_searches_7 : decode cX12_searches 7 = .ok (.iaload, 1) := by decide +kernel
theorem dX12_searches_8 : decode cX12_searches 8 = .ok (.istore_n 2, 1) := by decide +kernel
theorem dX12_searches_9 : decode cX12_searches 9 = .ok (.aload_n 0, 1) := by decide +kernel
theorem dX12_searches_10 : decode cX12_searches 10 = .ok (.ldc2_w 434, 3) := by decide +kernel
theorem dX12_searches_13 : decode cX12_searches 13 = .ok (.putfield 436, 3) := by decide +kernel
theorem dX12_searches_16 : decode cX12_searches 16 = .ok (.iconst 0, 1) := by decide +kernel
theorem dX12_searches_17 : decode cX12_searches 17 = .ok (.istore_n 3, 1) := by decide +kernel
theorem dX12_searches_18 : decode cX12_searches 18 = .ok (.iload_n 3, 1) := by decide +kernel
theorem dX12_searches_19 : decode cX12_searches 19 = .ok (.bipush 6, 2) := by decide +kernel
theorem dX12_searches_21 : decode cX12_searches 21 = .ok (.if_icmp .ge 16, 3) := by decide +kernel
theorem dX12_searches_24 : decode cX12_searches 24 = .ok (.aload_n 0, 1) := by decide +kernel
theorem dX12_searches_25 : decode cX12_searches 25 = .ok (.getfield 107, 3) := by decide +kernel
theorem dX12_searches_28 : decode cX12_searches 28 = .ok (.iload_n 3, 1) := by decide +kernel
theorem dX12_searches_29 : decode cX12_searches 29 = .ok (.iconst 0, 1) := by decide +kernel
theorem dX12_searches_30 : decode cX12_searches 30 = .ok (.iastore, 1) := by decide +kernel
theorem dX12_searches_31 : decode cX12_searches 31 = .ok (.iinc 3 1, 3) := by decide +kernel
theorem dX12_searches_34 : decode cX12_searches 34 = .ok (.goto (-16), 3) := by decide +kernel
theorem dX12_searches_37 : decode cX12_searches 37 = .ok (.ldc_w 440, 3) := by decide +kernel
theorem dX12_searches_40 : decode cX12_searches 40 = .ok (.istore_n 3, 1) := by decide +kernel
theorem dX12_searches_41 : decode cX12_searches 41 = .ok (.iload_n 3, 1) := by decide +kernel
theorem dX12_searches_42 : decode cX12_searches 42 = .ok (.ifCond .lt 168, 3) := by decide +kernel
theorem dX12_searches_45 : decode cX12_searches 45 = .ok (.iload_n 3, 1) := by decide +kernel
theorem dX12_searches_46 : decode cX12_searches 46 = .ok (.istore 4, 2) := by decide +kernel
theorem dX12_searches_48 : decode cX12_searches 48 = .ok (.iconst 0, 1) := by decide +kernel
theorem dX12_searches_49 : decode cX12_searches 49 = .ok (.istore 5, 2) := by decide +kernel
theorem dX12_searches_51 : decode cX12_searches 51 = .ok (.iconst 1, 1) := by decide +kernel
theorem dX12_searches_52 : decode cX12_searches 52 = .ok (.istore 6, 2) := by decide +kernel
theorem dX12_searches_54 : decode cX12_searches 54 = .ok (.iconst 5, 1) := by decide +kernel
theorem dX12_searches_55 : decode cX12_searches 55 = .ok (.istore 7, 2) := by decide +kernel
theorem dX12_searches_57 : decode cX12_searches 57 = .ok (.iload 7, 2) := by decide +kernel
theorem dX12_searches_59 : decode cX12_searches 59 = .ok (.ifCond .lt 68, 3) := by decide +kernel
theorem dX12_searches_62 : decode cX12_searches 62 = .ok (.aload_n 0, 1) := by decide +kernel
theorem dX12_searches_63 : decode cX12_searches 63 = .ok (.getfield 104, 3) := by decide +kernel
theorem dX12_searches_66 : decode cX12_searches 66 = .ok (.iload 7, 2) := by decide +kernel
theorem dX12_searches_68 : decode cX12_searches 68 = .ok (.iload 4, 2) := by decide +kernel
theorem dX12_searches_70 : decode cX12_searches 70 = .ok (.bipush 7, 2) := by decide +kernel
theorem dX12_searches_72 : decode cX12_searches 72 = .ok (.irem, 1) := by decide +kernel
theorem dX12_searches_73 : decode cX12_searches 73 = .ok (.iastore, 1) := by decide +kernel
theorem dX12_searches_74 : decode cX12_searches 74 = .ok (.iload 4, 2) := by decide +kernel
theorem dX12_searches_76 : decode cX12_searches 76 = .ok (.bipush 7, 2) := by decide +kernel
theorem dX12_searches_78 : decode cX12_searches 78 = .ok (.idiv, 1) := by decide +kernel
theorem dX12_searches_79 : decode cX12_searches 79 = .ok (.istore 4, 2) := by decide +kernel
theorem dX12_searches_81 : decode cX12_searches 81 = .ok (.iload 5, 2) := by decide +kernel
theorem dX12_searches_83 : decode cX12_searches 83 = .ok (.aload_n 0, 1) := by decide +kernel
theorem dX12_searches_84 : decode cX12_searches 84 = .ok (.getfield 104, 3) := by decide +kernel
theorem dX12_searches_87 : decode cX12_searches 87 = .ok (.iload 7, 2) := by decide +kernel
theorem dX12_searches_89 : decode cX12_searches 89 = .ok (.iaload, 1) := by decide +kernel
theorem dX12_searches_90 : decode cX12_searches 90 = .ok (.iadd, 1) := by decide +kernel
theorem dX12_searches_91 : decode cX12_searches 91 = .ok (.istore 5, 2) := by decide +kernel
theorem dX12_searches_93 : decode cX12_searches 93 = .ok (.iload 6, 2) := by decide +kernel
theorem dX12_searches_95 : decode cX12_searches 95 = .ok (.ifCond .eq 23, 3) := by decide +kernel
theorem dX12_searches_98 : decode cX12_searches 98 = .ok (.iload 7, 2) := by decide +kernel
theorem dX12_searches_100 : decode cX12_searches 100 = .ok (.iload_n 2, 1) := by decide +kernel
theorem dX12_searches_101 : decode cX12_searches 101 = .ok (.if_icmp .lt 13, 3) := by decide +kernel
theorem dX12_searches_104 : decode cX12_searches 104 = .ok (.aload_n 0, 1) := by decide +kernel
theorem dX12_searches_105 : decode cX12_searches 105 = .ok (.getfield 104, 3) := by decide +kernel
theorem dX12_searches_108 : decode cX12_searches 108 = .ok (.iload 7, 2) := by decide +kernel
theorem dX12_searches_110 : decode cX12_searches 110 = .ok (.iaload, 1) := by decide +kernel
theorem dX12_searches_111 : decode cX12_searches 111 = .ok (.ifCond .ne 7, 3) := by decide +kernel
theorem dX12_searches_114 : decode cX12_searches 114 = .ok (.iconst 1, 1) := by decide +kernel
theorem dX12_searches_115 : decode cX12_searches 115 = .ok (.goto 4, 3) := by decide +kernel
theorem dX12_searches_118 : decode cX12_searches 118 = .ok (.iconst 0, 1) := by decide +kernel
theorem dX12_searches_119 : decode cX12_searches 119 = .ok (.istore 6, 2) := by decide +kernel
theorem dX12_searches_121 : decode cX12_searches 121 = .ok (.iinc 7 (-1), 3) := by decide +kernel
theorem dX12_searches_124 : decode cX12_searches 124 = .ok (.goto (-67), 3) := by decide +kernel
theorem dX12_searches_127 : decode cX12_searches 127 = .ok (.iload 6, 2) := by decide +kernel
theorem dX12_searches_129 : decode cX12_searches 129 = .ok (.ifCond .eq 75, 3) := by decide +kernel
theorem dX12_searches_132 : decode cX12_searches 132 = .ok (.iload 5, 2) := by decide +kernel
theorem dX12_searches_134 : decode cX12_searches 134 = .ok (.iload_n 2, 1) := by decide +kernel
theorem dX12_searches_135 : decode cX12_searches 135 = .ok (.ifCond .ne 7, 3) := by decide +kernel
theorem dX12_searches_138 : decode cX12_searches 138 = .ok (.iconst 0, 1) := by decide +kernel
theorem dX12_searches_139 : decode cX12_searches 139 = .ok (.goto 4, 3) := by decide +kernel
theorem dX12_searches_142 : decode cX12_searches 142 = .ok (.iload_n 1, 1) := by decide +kernel
theorem dX12_searches_143 : decode cX12_searches 143 = .ok (.if_icmp .eq 6, 3) := by decide +kernel
theorem dX12_searches_146 : decode cX12_searches 146 = .ok (.goto 58, 3) := by decide +kernel
theorem dX12_searches_149 : decode cX12_searches 149 = .ok (.aload_n 0, 1) := by decide +kernel
theorem dX12_searches_150 : decode cX12_searches 150 = .ok (.invokevirtual 441, 3) := by decide +kernel
theorem dX12_searches_153 : decode cX12_searches 153 = .ok (.lstore 7, 2) := by decide +kernel
theorem dX12_searches_155 : decode cX12_searches 155 = .ok (.lload 7, 2) := by decide +kernel
theorem dX12_searches_157 : decode cX12_searches 157 = .ok (.aload_n 0, 1) := by decide +kernel
theorem dX12_searches_158 : decode cX12_searches 158 = .ok (.getfield 436, 3) := by decide +kernel
theorem dX12_searches_161 : decode cX12_searches 161 = .ok (.lcmp, 1) := by decide +kernel
theorem dX12_searches_162 : decode cX12_searches 162 = .ok (.ifCond .gt 6, 3) := by decide +kernel
theorem dX12_searches_165 : decode cX12_searches 165 = .ok (.goto 39, 3) := by decide +kernel
theorem dX12_searches_168 : decode cX12_searches 168 = .ok (.aload_n 0, 1) := by decide +kernel
theorem dX12_searches_169 : decode cX12_searches 169 = .ok (.lload 7, 2) := by decide +kernel
theorem dX12_searches_171 : decode cX12_searches 171 = .ok (.putfield 436, 3) := by decide +kernel
theorem dX12_searches_174 : decode cX12_searches 174 = .ok (.iconst 0, 1) := by decide +kernel
theorem dX12_searches_175 : decode cX12_searches 175 = .ok (.istore 9, 2) := by decide +kernel
theorem dX12_searches_177 : decode cX12_searches 177 = .ok (.iload 9, 2) := by decide +kernel
theorem dX12_searches_179 : decode cX12_searches 179 = .ok (.bipush 6, 2) := by decide +kernel
theorem dX12_searches_181 : decode cX12_searches 181 = .ok (.if_icmp .ge 23, 3) := by decide +kernel
theorem dX12_searches_184 : decode cX12_searches 184 = .ok (.aload_n 0, 1) := by decide +kernel
theorem dX12_searches_185 : decode cX12_searches 185 = .ok (.getfield 107, 3) := by decide +kernel
theorem dX12_searches_188 : decode cX12_searches 188 = .ok (.iload 9, 2) := by decide +kernel
theorem dX12_searches_190 : decode cX12_searches 190 = .ok (.aload_n 0, 1) := by decide +kernel
theorem dX12_searches_191 : decode cX12_searches 191 = .ok (.getfield 104, 3) := by decide +kernel
theorem dX12_searches_194 : decode cX12_searches 194 = .ok (.iload 9, 2) := by decide +kernel
theorem dX12_searches_196 : decode cX12_searches 196 = .ok (.iaload, 1) := by decide +kernel
theorem dX12_searches_197 : decode cX12_searches 197 = .ok (.iastore, 1) := by decide +kernel
theorem dX12_searches_198 : decode cX12_searches 198 = .ok (.iinc 9 1, 3) := by decide +kernel
theorem dX12_searches_201 : decode cX12_searches 201 = .ok (.goto (-24), 3) := by decide +kernel
theorem dX12_searches_204 : decode cX12_searches 204 = .ok (.iinc 3 (-1), 3) := by decide +kernel
theorem dX12_searches_207 : decode cX12_searches 207 = .ok (.goto (-166), 3) := by decide +kernel
theorem dX12_searches_210 : decode cX12_searches 210 = .ok (.return_, 1) := by decide +kernel
def fX12_searches_b204 (N : Nat) (c41 : Int32 → Int32 → Int32 → qMem → Option qMem) (v1 : Int32) (v2 : Int32) (v3 : Int32) (σ : qMem) : Option qMem :=
  (c41 v1 v2 (v3 + (-1)) σ)
set_option maxRecDepth 20000 in
set_option maxHeartbeats 4000000 in
theorem aX12_searches_b204 (N : Nat) (c41 : Int32 → Int32 → Int32 → qMem → Option qMem) (hc41 : ∀ (v1 : Int32) (v2 : Int32) (v3 : Int32) (σ : qMem), qAt wM mX12_searches (ρv) 41 [(0, .ref 0), (1, .int v1), (2, .int v2), (3, .int v3)] [] σ (c41 v1 v2 v3 σ)) (v1 : Int32) (v2 : Int32) (v3 : Int32) (σ : qMem) : qAt wM mX12_searches (ρv) 204 [(0, .ref 0), (1, .int v1), (2, .int v2), (3, .int v3)] [] σ (fX12_searches_b204 N c41 v1 v2 v3 σ) := by
  unfold fX12_searches_b204
  refine q_iinc (i := 3) (x := v3) (v := (v3 + (-1))) (L' := [(3, .int (v3 + (-1))), (0, .ref 0), (1, .int v1), (2, .int v2)]) dX12_searches_204 3 rfl (q_cst v3 (by decide)) (Nat.le_of_ble_eq_true rfl) rfl ?_
  refine q_goto (tgt := 41) dX12_searches_207 (by decide) ?_
  exact q_sub [1, 2, 3, 0] rfl (hc41 v1 v2 (v3 + (-1)) σ)

def fX12_searches_s177 (N : Nat) (c41 : Int32 → Int32 → Int32 → qMem → Option qMem) (c177 : Int32 → Int32 → Int32 → Int32 → qMem → Option qMem) (v1 : Int32) (v2 : Int32) (v3 : Int32) (v9 : Int32) (σ : qMem) : Option qMem :=
  (if 6 ≤ v9 then (fX12_searches_b204 N c41 v1 v2 v3 σ) else (if ck v9 6 = true then (if ck v9 6 = true then (nmM (si σ 26 v9.toNatClampNeg (gi σ 25 v9.toNatClampNeg)) fun s8 => (c177 v1 v2 v3 (v9 + 1) s8)) else none) else none))
set_option maxRecDepth 20000 in
set_option maxHeartbeats 4000000 in
theorem aX12_searches_s177 (N : Nat) (c41 : Int32 → Int32 → Int32 → qMem → Option qMem) (hc41 : ∀ (v1 : Int32) (v2 : Int32) (v3 : Int32) (σ : qMem), qAt wM mX12_searches (ρv) 41 [(0, .ref 0), (1, .int v1), (2, .int v2), (3, .int v3)] [] σ (c41 v1 v2 v3 σ)) (c177 : Int32 → Int32 → Int32 → Int32 → qMem → Option qMem) (hc177 : ∀ (v1 : Int32) (v2 : Int32) (v3 : Int32) (v9 : Int32) (σ : qMem), qAt wM mX12_searches (ρv) 177 [(0, .ref 0), (1, .int v1), (2, .int v2), (3, .int v3), (9, .int v9)] [] σ (c177 v1 v2 v3 v9 σ)) (v1 : Int32) (v2 : Int32) (v3 : Int32) (v9 : Int32) (σ : qMem) : qAt wM mX12_searches (ρv) 177 [(0, .ref 0), (1, .int v1), (2, .int v2), (3, .int v3), (9, .int v9)] [] σ (fX12_searches_s177 N c41 c177 v1 v2 v3 v9 σ) := by
  unfold fX12_searches_s177
  refine q_iload (i := 9) (x := v9) dX12_searches_177 4 rfl ?_
  refine q_bipush (v := 6) dX12_searches_179 (by decide) ?_
  refine q_icmp_ge (tgt := 204) dX12_searches_181 (by decide) ?_ ?_
  · exact q_sub [0, 1, 2, 3] rfl (aX12_searches_b204 N c41 hc41 v1 v2 v3 σ)
  refine q_aload_n (i := 0) (x := 0) dX12_searches_184 rfl 0 rfl ?_
  refine q_getr (t := 26) dX12_searches_185 foX12_107 zM_0 rfl ?_
  refine q_iload (i := 9) (x := v9) dX12_searches_188 4 rfl ?_
  refine q_aload_n (i := 0) (x := 0) dX12_searches_190 rfl 0 rfl ?_
  refine q_getr (t := 25) dX12_searches_191 foX12_104 zM_0 rfl ?_
  refine q_iload (i := 9) (x := v9) dX12_searches_194 4 rfl ?_
  refine q_iald dX12_searches_196 zM_25 ?_
  refine q_iast dX12_searches_197 zM_26 ?_
  refine q_nmM (fun s8 => ?_)
  refine q_iinc (i := 9) (x := v9) (v := (v9 + 1)) (L' := [(9, .int (v9 + 1)), (0, .ref 0), (1, .int v1), (2, .int v2), (3, .int v3)]) dX12_searches_198 4 rfl (q_cst v9 (by decide)) (Nat.le_of_ble_eq_true rfl) rfl ?_
  refine q_goto (tgt := 177) dX12_searches_201 (by decide) ?_
  exact q_sub [1, 2, 3, 4, 0] rfl (hc177 v1 v2 v3 (v9 + 1) s8)
def fX12_searches_l177 (N : Nat) (c41 : Int32 → Int32 → Int32 → qMem → Option qMem) : Nat → Int32 → Int32 → Int32 → Int32 → qMem → Option qMem
  | 0 => fun _ _ _ _ _ => none
  | n + 1 => fun v1 v2 v3 v9 σ => fX12_searches_s177 N c41 (fX12_searches_l177 N c41 n) v1 v2 v3 v9 σ
theorem aX12_searches_l177 (N : Nat) (c41 : Int32 → Int32 → Int32 → qMem → Option qMem) (hc41 : ∀ (v1 : Int32) (v2 : Int32) (v3 : Int32) (σ : qMem), qAt wM mX12_searches (ρv) 41 [(0, .ref 0), (1, .int v1), (2, .int v2), (3, .int v3)] [] σ (c41 v1 v2 v3 σ)) : ∀ (n : Nat) (v1 : Int32) (v2 : Int32) (v3 : Int32) (v9 : Int32) (σ : qMem), qAt wM mX12_searches (ρv) 177 [(0, .ref 0), (1, .int v1), (2, .int v2), (3, .int v3), (9, .int v9)] [] σ (fX12_searches_l177 N c41 n v1 v2 v3 v9 σ) := by
  intro n
  induction n with
  | zero => intro v1 v2 v3 v9 σ; exact q_none
  | succ n ih => intro v1 v2 v3 v9 σ; exact aX12_searches_s177 N c41 hc41 (fX12_searches_l177 N c41 n) ih v1 v2 v3 v9 σ

def fX12_searches_b143 (N : Nat) (c41 : Int32 → Int32 → Int32 → qMem → Option qMem) (v1 : Int32) (v2 : Int32) (v3 : Int32) (u0 : Int32) (u1 : Int32) (σ : qMem) : Option qMem :=
  (if u0 = u1 then ((fX12_chance N σ).bind fun y6 => (if 0 < (lg_cmp y6 (gl σ 0 44)) then (nmM (sl σ 0 44 y6) fun s7 => (fX12_searches_l177 N c41 N v1 v2 v3 0 s7)) else (fX12_searches_b204 N c41 v1 v2 v3 σ))) else (fX12_searches_b204 N c41 v1 v2 v3 σ))
set_option maxRecDepth 20000 in
set_option maxHeartbeats 4000000 in
theorem aX12_searches_b143 (N : Nat) (c41 : Int32 → Int32 → Int32 → qMem → Option qMem) (hc41 : ∀ (v1 : Int32) (v2 : Int32) (v3 : Int32) (σ : qMem), qAt wM mX12_searches (ρv) 41 [(0, .ref 0), (1, .int v1), (2, .int v2), (3, .int v3)] [] σ (c41 v1 v2 v3 σ)) (v1 : Int32) (v2 : Int32) (v3 : Int32) (u0 : Int32) (u1 : Int32) (σ : qMem) : qAt wM mX12_searches (ρv) 143 [(0, .ref 0), (1, .int v1), (2, .int v2), (3, .int v3)] [.int u1, .int u0] σ (fX12_searches_b143 N c41 v1 v2 v3 u0 u1 σ) := by
  unfold fX12_searches_b143
  refine q_icmp_eq (tgt := 149) dX12_searches_143 (by decide) ?_ ?_
  · refine q_aload_n (i := 0) (x := 0) dX12_searches_149 rfl 0 rfl ?_
    refine q_cVq mX12_chance [] (st := []) dX12_searches_150 (svX12_441) ⟨Nat.le_of_ble_eq_true rfl, Nat.le_of_ble_eq_true rfl⟩ zM_0 rfl rfl rfl (Nat.le_of_ble_eq_true rfl) (kX12_chance N σ) (fun y6 => ?_)
    refine q_lstore (i := 7) (L' := [(7, .long y6), (0, .ref 0), (1, .int v1), (2, .int v2), (3, .int v3)]) dX12_searches_153 (Nat.le_of_ble_eq_true rfl) rfl ?_
    refine q_lload (i := 7) (x := y6) dX12_searches_155 0 rfl ?_
    refine q_aload_n (i := 0) (x := 0) dX12_searches_157 rfl 1 rfl ?_
    refine q_getl dX12_searches_158 foX12_436 zM_0 rfl ?_
    refine q_lcmp dX12_searches_161 ?_
    refine q_if_gt (tgt := 168) dX12_searches_162 (by decide) ?_ ?_
    · refine q_aload_n (i := 0) (x := 0) dX12_searches_168 rfl 1 rfl ?_
      refine q_lload (i := 7) (x := y6) dX12_searches_169 0 rfl ?_
      refine q_putl dX12_searches_171 foX12_436 fwX12_44 zM_0 rfl ?_
      refine q_nmM (fun s7 => ?_)
      refine q_iconst (v := 0) dX12_searches_174 (by decide) ?_
      refine q_istore (i := 9) (L' := [(9, .int 0), (7, .long y6), (0, .ref 0), (1, .int v1), (2, .int v2), (3, .int v3)]) dX12_searches_175 (Nat.le_of_ble_eq_true rfl) rfl ?_
      exact q_sub [2, 3, 4, 5, 0] rfl (aX12_searches_l177 N c41 hc41 N v1 v2 v3 0 s7)
    refine q_goto (tgt := 204) dX12_searches_165 (by decide) ?_
    exact q_sub [1, 2, 3, 4] rfl (aX12_searches_b204 N c41 hc41 v1 v2 v3 σ)
  refine q_goto (tgt := 204) dX12_searches_146 (by decide) ?_
  exact q_sub [0, 1, 2, 3] rfl (aX12_searches_b204 N c41 hc41 v1 v2 v3 σ)

def fX12_searches_b119 (N : Nat) (c41 : Int32 → Int32 → Int32 → qMem → Option qMem) (c57 : Int32 → Int32 → Int32 → Int32 → Int32 → Int32 → Int32 → qMem → Option qMem) (v1 : Int32) (v2 : Int32) (v3 : Int32) (v4 : Int32) (v5 : Int32) (v7 : Int32) (u0 : Int32) (σ : qMem) : Option qMem :=
  (c57 v1 v2 v3 v4 v5 u0 (v7 + (-1)) σ)
set_option maxRecDepth 20000 in
set_option maxHeartbeats 4000000 in
theorem aX12_searches_b119 (N : Nat) (c41 : Int32 → Int32 → Int32 → qMem → Option qMem) (c57 : Int32 → Int32 → Int32 → Int32 → Int32 → Int32 → Int32 → qMem → Option qMem) (hc41 : ∀ (v1 : Int32) (v2 : Int32) (v3 : Int32) (σ : qMem), qAt wM mX12_searches (ρv) 41 [(0, .ref 0), (1, .int v1), (2, .int v2), (3, .int v3)] [] σ (c41 v1 v2 v3 σ)) (hc57 : ∀ (v1 : Int32) (v2 : Int32) (v3 : Int32) (v4 : Int32) (v5 : Int32) (v6 : Int32) (v7 : Int32) (σ : qMem), qAt wM mX12_searches (ρv) 57 [(0, .ref 0), (1, .int v1), (2, .int v2), (3, .int v3), (4, .int v4), (5, .int v5), (6, .int v6), (7, .int v7)] [] σ (c57 v1 v2 v3 v4 v5 v6 v7 σ)) (v1 : Int32) (v2 : Int32) (v3 : Int32) (v4 : Int32) (v5 : Int32) (v7 : Int32) (u0 : Int32) (σ : qMem) : qAt wM mX12_searches (ρv) 119 [(0, .ref 0), (1, .int v1), (2, .int v2), (3, .int v3), (4, .int v4), (5, .int v5), (7, .int v7)] [.int u0] σ (fX12_searches_b119 N c41 c57 v1 v2 v3 v4 v5 v7 u0 σ) := by
  unfold fX12_searches_b119
  refine q_istore (i := 6) (L' := [(6, .int u0), (0, .ref 0), (1, .int v1), (2, .int v2), (3, .int v3), (4, .int v4), (5, .int v5), (7, .int v7)]) dX12_searches_119 (Nat.le_of_ble_eq_true rfl) rfl ?_
  refine q_iinc (i := 7) (x := v7) (v := (v7 + (-1))) (L' := [(7, .int (v7 + (-1))), (6, .int u0), (0, .ref 0), (1, .int v1), (2, .int v2), (3, .int v3), (4, .int v4), (5, .int v5)]) dX12_searches_121 7 rfl (q_cst v7 (by decide)) (Nat.le_of_ble_eq_true rfl) rfl ?_
  refine q_goto (tgt := 57) dX12_searches_124 (by decide) ?_
  exact q_sub [2, 3, 4, 5, 6, 7, 1, 0] rfl (hc57 v1 v2 v3 v4 v5 u0 (v7 + (-1)) σ)

def fX12_searches_b118 (N : Nat) (c41 : Int32 → Int32 → Int32 → qMem → Option qMem) (c57 : Int32 → Int32 → Int32 → Int32 → Int32 → Int32 → Int32 → qMem → Option qMem) (v1 : Int32) (v2 : Int32) (v3 : Int32) (v4 : Int32) (v5 : Int32) (v7 : Int32) (σ : qMem) : Option qMem :=
  (fX12_searches_b119 N c41 c57 v1 v2 v3 v4 v5 v7 0 σ)
set_option maxRecDepth 20000 in
set_option maxHeartbeats 4000000 in
theorem aX12_searches_b118 (N : Nat) (c41 : Int32 → Int32 → Int32 → qMem → Option qMem) (c57 : Int32 → Int32 → Int32 → Int32 → Int32 → Int32 → Int32 → qMem → Option qMem) (hc41 : ∀ (v1 : Int32) (v2 : Int32) (v3 : Int32) (σ : qMem), qAt wM mX12_searches (ρv) 41 [(0, .ref 0), (1, .int v1), (2, .int v2), (3, .int v3)] [] σ (c41 v1 v2 v3 σ)) (hc57 : ∀ (v1 : Int32) (v2 : Int32) (v3 : Int32) (v4 : Int32) (v5 : Int32) (v6 : Int32) (v7 : Int32) (σ : qMem), qAt wM mX12_searches (ρv) 57 [(0, .ref 0), (1, .int v1), (2, .int v2), (3, .int v3), (4, .int v4), (5, .int v5), (6, .int v6), (7, .int v7)] [] σ (c57 v1 v2 v3 v4 v5 v6 v7 σ)) (v1 : Int32) (v2 : Int32) (v3 : Int32) (v4 : Int32) (v5 : Int32) (v7 : Int32) (σ : qMem) : qAt wM mX12_searches (ρv) 118 [(0, .ref 0), (1, .int v1), (2, .int v2), (3, .int v3), (4, .int v4), (5, .int v5), (7, .int v7)] [] σ (fX12_searches_b118 N c41 c57 v1 v2 v3 v4 v5 v7 σ) := by
  unfold fX12_searches_b118
  refine q_iconst (v := 0) dX12_searches_118 (by decide) ?_
  exact q_sub [0, 1, 2, 3, 4, 5, 6] rfl (aX12_searches_b119 N c41 c57 hc41 hc57 v1 v2 v3 v4 v5 v7 0 σ)

def fX12_searches_b114 (N : Nat) (c41 : Int32 → Int32 → Int32 → qMem → Option qMem) (c57 : Int32 → Int32 → Int32 → Int32 → Int32 → Int32 → Int32 → qMem → Option qMem) (v1 : Int32) (v2 : Int32) (v3 : Int32) (v4 : Int32) (v5 : Int32) (v7 : Int32) (σ : qMem) : Option qMem :=
  (fX12_searches_b119 N c41 c57 v1 v2 v3 v4 v5 v7 1 σ)
set_option maxRecDepth 20000 in
set_option maxHeartbeats 4000000 in
theorem aX12_searches_b114 (N : Nat) (c41 : Int32 → Int32 → Int32 → qMem → Option qMem) (c57 : Int32 → Int32 → Int32 → Int32 → Int32 → Int32 → Int32 → qMem → Option qMem) (hc41 : ∀ (v1 : Int32) (v2 : Int32) (v3 : Int32) (σ : qMem), qAt wM mX12_searches (ρv) 41 [(0, .ref 0), (1, .int v1), (2, .int v2), (3, .int v3)] [] σ (c41 v1 v2 v3 σ)) (hc57 : ∀ (v1 : Int32) (v2 : Int32) (v3 : Int32) (v4 : Int32) (v5 : Int32) (v6 : Int32) (v7 : Int32) (σ : qMem), qAt wM mX12_searches (ρv) 57 [(0, .ref 0), (1, .int v1), (2, .int v2), (3, .int v3), (4, .int v4), (5, .int v5), (6, .int v6), (7, .int v7)] [] σ (c57 v1 v2 v3 v4 v5 v6 v7 σ)) (v1 : Int32) (v2 : Int32) (v3 : Int32) (v4 : Int32) (v5 : Int32) (v7 : Int32) (σ : qMem) : qAt wM mX12_searches (ρv) 114 [(0, .ref 0), (1, .int v1), (2, .int v2), (3, .int v3), (4, .int v4), (5, .int v5), (7, .int v7)] [] σ (fX12_searches_b114 N c41 c57 v1 v2 v3 v4 v5 v7 σ) := by
  unfold fX12_searches_b114
  refine q_iconst (v := 1) dX12_searches_114 (by decide) ?_
  refine q_goto (tgt := 119) dX12_searches_115 (by decide) ?_
  exact q_sub [0, 1, 2, 3, 4, 5, 6] rfl (aX12_searches_b119 N c41 c57 hc41 hc57 v1 v2 v3 v4 v5 v7 1 σ)

def fX12_searches_s57 (N : Nat) (c41 : Int32 → Int32 → Int32 → qMem → Option qMem) (c57 : Int32 → Int32 → Int32 → Int32 → Int32 → Int32 → Int32 → qMem → Option qMem) (v1 : Int32) (v2 : Int32) (v3 : Int32) (v4 : Int32) (v5 : Int32) (v6 : Int32) (v7 : Int32) (σ : qMem) : Option qMem :=
  (if v7 < 0 then (if v6 = 0 then (fX12_searches_b204 N c41 v1 v2 v3 σ) else (if v2 = 0 then (fX12_searches_b143 N c41 v1 v2 v3 v5 0 σ) else (fX12_searches_b143 N c41 v1 v2 v3 v5 v1 σ))) else (if ck v7 6 = true then (nmM (si σ 25 v7.toNatClampNeg (irm v4 7)) fun s4 => (if ck v7 6 = true then (nmI (v5 + (gi s4 25 v7.toNatClampNeg)) fun x5 => (if v6 = 0 then (fX12_searches_b118 N c41 c57 v1 v2 v3 (v4 / 7) x5 v7 s4) else (if v7 < v2 then (fX12_searches_b114 N c41 c57 v1 v2 v3 (v4 / 7) x5 v7 s4) else (if ck v7 6 = true then (if (gi s4 25 v7.toNatClampNeg) = 0 then (fX12_searches_b114 N c41 c57 v1 v2 v3 (v4 / 7) x5 v7 s4) else (fX12_searches_b118 N c41 c57 v1 v2 v3 (v4 / 7) x5 v7 s4)) else none)))) else none)) else none))
set_option maxRecDepth 20000 in
set_option maxHeartbeats 4000000 in
theorem aX12_searches_s57 (N : Nat) (c41 : Int32 → Int32 → Int32 → qMem → Option qMem) (hc41 : ∀ (v1 : Int32) (v2 : Int32) (v3 : Int32) (σ : qMem), qAt wM mX12_searches (ρv) 41 [(0, .ref 0), (1, .int v1), (2, .int v2), (3, .int v3)] [] σ (c41 v1 v2 v3 σ)) (c57 : Int32 → Int32 → Int32 → Int32 → Int32 → Int32 → Int32 → qMem → Option qMem) (hc57 : ∀ (v1 : Int32) (v2 : Int32) (v3 : Int32) (v4 : Int32) (v5 : Int32) (v6 : Int32) (v7 : Int32) (σ : qMem), qAt wM mX12_searches (ρv) 57 [(0, .ref 0), (1, .int v1), (2, .int v2), (3, .int v3), (4, .int v4), (5, .int v5), (6, .int v6), (7, .int v7)] [] σ (c57 v1 v2 v3 v4 v5 v6 v7 σ)) (v1 : Int32) (v2 : Int32) (v3 : Int32) (v4 : Int32) (v5 : Int32) (v6 : Int32) (v7 : Int32) (σ : qMem) : qAt wM mX12_searches (ρv) 57 [(0, .ref 0), (1, .int v1), (2, .int v2), (3, .int v3), (4, .int v4), (5, .int v5), (6, .int v6), (7, .int v7)] [] σ (fX12_searches_s57 N c41 c57 v1 v2 v3 v4 v5 v6 v7 σ) := by
  unfold fX12_searches_s57
  refine q_iload (i := 7) (x := v7) dX12_searches_57 7 rfl ?_
  refine q_if_lt (tgt := 127) dX12_searches_59 (by decide) ?_ ?_
  · refine q_iload (i := 6) (x := v6) dX12_searches_127 6 rfl ?_
    refine q_if_eq (tgt := 204) dX12_searches_129 (by decide) ?_ ?_
    · exact q_sub [0, 1, 2, 3] rfl (aX12_searches_b204 N c41 hc41 v1 v2 v3 σ)
    refine q_iload (i := 5) (x := v5) dX12_searches_132 5 rfl ?_
    refine q_iload_n (i := 2) (x := v2) dX12_searches_134 rfl 2 rfl ?_
    refine q_if_ne (tgt := 142) dX12_searches_135 (by decide) ?_ ?_
    · refine q_iload_n (i := 1) (x := v1) dX12_searches_142 rfl 1 rfl ?_
      exact q_sub [0, 1, 2, 3] rfl (aX12_searches_b143 N c41 hc41 v1 v2 v3 v5 v1 σ)
    refine q_iconst (v := 0) dX12_searches_138 (by decide) ?_
    refine q_goto (tgt := 143) dX12_searches_139 (by decide) ?_
    exact q_sub [0, 1, 2, 3] rfl (aX12_searches_b143 N c41 hc41 v1 v2 v3 v5 0 σ)
  refine q_aload_n (i := 0) (x := 0) dX12_searches_62 rfl 0 rfl ?_
  refine q_getr (t := 25) dX12_searches_63 foX12_104 zM_0 rfl ?_
  refine q_iload (i := 7) (x := v7) dX12_searches_66 7 rfl ?_
  refine q_iload (i := 4) (x := v4) dX12_searches_68 4 rfl ?_
  refine q_bipush (v := 7) dX12_searches_70 (by decide) ?_
  refine q_irem dX12_searches_72 (by decide) ?_
  refine q_iast dX12_searches_73 zM_25 ?_
  refine q_nmM (fun s4 => ?_)
  refine q_iload (i := 4) (x := v4) dX12_searches_74 4 rfl ?_
  refine q_bipush (v := 7) dX12_searches_76 (by decide) ?_
  refine q_idiv dX12_searches_78 (by decide) ?_
  refine q_istore (i := 4) (L' := [(4, .int (v4 / 7)), (0, .ref 0), (1, .int v1), (2, .int v2), (3, .int v3), (5, .int v5), (6, .int v6), (7, .int v7)]) dX12_searches_79 (Nat.le_of_ble_eq_true rfl) rfl ?_
  refine q_iload (i := 5) (x := v5) dX12_searches_81 5 rfl ?_
  refine q_aload_n (i := 0) (x := 0) dX12_searches_83 rfl 1 rfl ?_
  refine q_getr (t := 25) dX12_searches_84 foX12_104 zM_0 rfl ?_
  refine q_iload (i := 7) (x := v7) dX12_searches_87 7 rfl ?_
  refine q_iald dX12_searches_89 zM_25 ?_
  refine q_iadd dX12_searches_90 ?_
  refine q_nmI (fun x5 => ?_)
  refine q_istore (i := 5) (L' := [(5, .int x5), (4, .int (v4 / 7)), (0, .ref 0), (1, .int v1), (2, .int v2), (3, .int v3), (6, .int v6), (7, .int v7)]) dX12_searches_91 (Nat.le_of_ble_eq_true rfl) rfl ?_
  refine q_iload (i := 6) (x := v6) dX12_searches_93 6 rfl ?_
  refine q_if_eq (tgt := 118) dX12_searches_95 (by decide) ?_ ?_
  · exact q_sub [2, 3, 4, 5, 1, 0, 7] rfl (aX12_searches_b118 N c41 c57 hc41 hc57 v1 v2 v3 (v4 / 7) x5 v7 s4)
  refine q_iload (i := 7) (x := v7) dX12_searches_98 7 rfl ?_
  refine q_iload_n (i := 2) (x := v2) dX12_searches_100 rfl 4 rfl ?_
  refine q_icmp_lt (tgt := 114) dX12_searches_101 (by decide) ?_ ?_
  · exact q_sub [2, 3, 4, 5, 1, 0, 7] rfl (aX12_searches_b114 N c41 c57 hc41 hc57 v1 v2 v3 (v4 / 7) x5 v7 s4)
  refine q_aload_n (i := 0) (x := 0) dX12_searches_104 rfl 2 rfl ?_
  refine q_getr (t := 25) dX12_searches_105 foX12_104 zM_0 rfl ?_
  refine q_iload (i := 7) (x := v7) dX12_searches_108 7 rfl ?_
  refine q_iald dX12_searches_110 zM_25 ?_
  refine q_if_ne (tgt := 118) dX12_searches_111 (by decide) ?_ ?_
  · exact q_sub [2, 3, 4, 5, 1, 0, 7] rfl (aX12_searches_b118 N c41 c57 hc41 hc57 v1 v2 v3 (v4 / 7) x5 v7 s4)
  exact q_sub [2, 3, 4, 5, 1, 0, 7] rfl (aX12_searches_b114 N c41 c57 hc41 hc57 v1 v2 v3 (v4 / 7) x5 v7 s4)
def fX12_searches_l57 (N : Nat) (c41 : Int32 → Int32 → Int32 → qMem → Option qMem) : Nat → Int32 → Int32 → Int32 → Int32 → Int32 → Int32 → Int32 → qMem → Option qMem
  | 0 => fun _ _ _ _ _ _ _ _ => none
  | n + 1 => fun v1 v2 v3 v4 v5 v6 v7 σ => fX12_searches_s57 N c41 (fX12_searches_l57 N c41 n) v1 v2 v3 v4 v5 v6 v7 σ
theorem aX12_searches_l57 (N : Nat) (c41 : Int32 → Int32 → Int32 → qMem → Option qMem) (hc41 : ∀ (v1 : Int32) (v2 : Int32) (v3 : Int32) (σ : qMem), qAt wM mX12_searches (ρv) 41 [(0, .ref 0), (1, .int v1), (2, .int v2), (3, .int v3)] [] σ (c41 v1 v2 v3 σ)) : ∀ (n : Nat) (v1 : Int32) (v2 : Int32) (v3 : Int32) (v4 : Int32) (v5 : Int32) (v6 : Int32) (v7 : Int32) (σ : qMem), qAt wM mX12_searches (ρv) 57 [(0, .ref 0), (1, .int v1), (2, .int v2), (3, .int v3), (4, .int v4), (5, .int v5), (6, .int v6), (7, .int v7)] [] σ (fX12_searches_l57 N c41 n v1 v2 v3 v4 v5 v6 v7 σ) := by
  intro n
  induction n with
  | zero => intro v1 v2 v3 v4 v5 v6 v7 σ; exact q_none
  | succ n ih => intro v1 v2 v3 v4 v5 v6 v7 σ; exact aX12_searches_s57 N c41 hc41 (fX12_searches_l57 N c41 n) ih v1 v2 v3 v4 v5 v6 v7 σ

def fX12_searches_s41 (N : Nat) (c41 : Int32 → Int32 → Int32 → qMem → Option qMem) (v1 : Int32) (v2 : Int32) (v3 : Int32) (σ : qMem) : Option qMem :=
  (if v3 < 0 then (some σ) else (fX12_searches_l57 N c41 N v1 v2 v3 v3 0 1 5 σ))
set_option maxRecDepth 20000 in
set_option maxHeartbeats 4000000 in
theorem aX12_searches_s41 (N : Nat) (c41 : Int32 → Int32 → Int32 → qMem → Option qMem) (hc41 : ∀ (v1 : Int32) (v2 : Int32) (v3 : Int32) (σ : qMem), qAt wM mX12_searches (ρv) 41 [(0, .ref 0), (1, .int v1), (2, .int v2), (3, .int v3)] [] σ (c41 v1 v2 v3 σ)) (v1 : Int32) (v2 : Int32) (v3 : Int32) (σ : qMem) : qAt wM mX12_searches (ρv) 41 [(0, .ref 0), (1, .int v1), (2, .int v2), (3, .int v3)] [] σ (fX12_searches_s41 N c41 v1 v2 v3 σ) := by
  unfold fX12_searches_s41
  refine q_iload_n (i := 3) (x := v3) dX12_searches_41 rfl 3 rfl ?_
  refine q_if_lt (tgt := 210) dX12_searches_42 (by decide) ?_ ?_
  · exact q_vret (y := σ) dX12_searches_210 rfl rfl
  refine q_iload_n (i := 3) (x := v3) dX12_searches_45 rfl 3 rfl ?_
  refine q_istore (i := 4) (L' := [(4, .int v3), (0, .ref 0), (1, .int v1), (2, .int v2), (3, .int v3)]) dX12_searches_46 (Nat.le_of_ble_eq_true rfl) rfl ?_
  refine q_iconst (v := 0) dX12_searches_48 (by decide) ?_
  refine q_istore (i := 5) (L' := [(5, .int 0), (4, .int v3), (0, .ref 0), (1, .int v1), (2, .int v2), (3, .int v3)]) dX12_searches_49 (Nat.le_of_ble_eq_true rfl) rfl ?_
  refine q_iconst (v := 1) dX12_searches_51 (by decide) ?_
  refine q_istore (i := 6) (L' := [(6, .int 1), (5, .int 0), (4, .int v3), (0, .ref 0), (1, .int v1), (2, .int v2), (3, .int v3)]) dX12_searches_52 (Nat.le_of_ble_eq_true rfl) rfl ?_
  refine q_iconst (v := 5) dX12_searches_54 (by decide) ?_
  refine q_istore (i := 7) (L' := [(7, .int 5), (6, .int 1), (5, .int 0), (4, .int v3), (0, .ref 0), (1, .int v1), (2, .int v2), (3, .int v3)]) dX12_searches_55 (Nat.le_of_ble_eq_true rfl) rfl ?_
  exact q_sub [4, 5, 6, 7, 3, 2, 1, 0] rfl (aX12_searches_l57 N c41 hc41 N v1 v2 v3 v3 0 1 5 σ)
def fX12_searches_l41 (N : Nat) : Nat → Int32 → Int32 → Int32 → qMem → Option qMem
  | 0 => fun _ _ _ _ => none
  | n + 1 => fun v1 v2 v3 σ => fX12_searches_s41 N (fX12_searches_l41 N n) v1 v2 v3 σ
theorem aX12_searches_l41 (N : Nat) : ∀ (n : Nat) (v1 : Int32) (v2 : Int32) (v3 : Int32) (σ : qMem), qAt wM mX12_searches (ρv) 41 [(0, .ref 0), (1, .int v1), (2, .int v2), (3, .int v3)] [] σ (fX12_searches_l41 N n v1 v2 v3 σ) := by
  intro n
  induction n with
  | zero => intro v1 v2 v3 σ; exact q_none
  | succ n ih => intro v1 v2 v3 σ; exact aX12_searches_s41 N (fX12_searches_l41 N n) ih v1 v2 v3 σ

def fX12_searches_s18 (N : Nat) (c18 : Int32 → Int32 → Int32 → qMem → Option qMem) (v1 : Int32) (v2 : Int32) (v3 : Int32) (σ : qMem) : Option qMem :=
  (if 6 ≤ v3 then (fX12_searches_l41 N N v1 v2 117648 σ) else (if ck v3 6 = true then (nmM (si σ 26 v3.toNatClampNeg 0) fun s3 => (c18 v1 v2 (v3 + 1) s3)) else none))
set_option maxRecDepth 20000 in
set_option maxHeartbeats 4000000 in
theorem aX12_searches_s18 (N : Nat) (c18 : Int32 → Int32 → Int32 → qMem → Option qMem) (hc18 : ∀ (v1 : Int32) (v2 : Int32) (v3 : Int32) (σ : qMem), qAt wM mX12_searches (ρv) 18 [(0, .ref 0), (1, .int v1), (2, .int v2), (3, .int v3)] [] σ (c18 v1 v2 v3 σ)) (v1 : Int32) (v2 : Int32) (v3 : Int32) (σ : qMem) : qAt wM mX12_searches (ρv) 18 [(0, .ref 0), (1, .int v1), (2, .int v2), (3, .int v3)] [] σ (fX12_searches_s18 N c18 v1 v2 v3 σ) := by
  unfold fX12_searches_s18
  refine q_iload_n (i := 3) (x := v3) dX12_searches_18 rfl 3 rfl ?_
  refine q_bipush (v := 6) dX12_searches_19 (by decide) ?_
  refine q_icmp_ge (tgt := 37) dX12_searches_21 (by decide) ?_ ?_
  · refine q_ldc_w (v := 117648) dX12_searches_37 (g_9 40 (by decide +kernel) rfl) ?_
    refine q_istore_n (i := 3) (L' := [(3, .int 117648), (0, .ref 0), (1, .int v1), (2, .int v2)]) dX12_searches_40 rfl (Nat.le_of_ble_eq_true rfl) rfl ?_
    exact q_sub [1, 2, 3, 0] rfl (aX12_searches_l41 N N v1 v2 117648 σ)
  refine q_aload_n (i := 0) (x := 0) dX12_searches_24 rfl 0 rfl ?_
  refine q_getr (t := 26) dX12_searches_25 foX12_107 zM_0 rfl ?_
  refine q_iload_n (i := 3) (x := v3) dX12_searches_28 rfl 3 rfl ?_
  refine q_iconst (v := 0) dX12_searches_29 (by decide) ?_
  refine q_iast dX12_searches_30 zM_26 ?_
  refine q_nmM (fun s3 => ?_)
  refine q_iinc (i := 3) (x := v3) (v := (v3 + 1)) (L' := [(3, .int (v3 + 1)), (0, .ref 0), (1, .int v1), (2, .int v2)]) dX12_searches_31 3 rfl (q_cst v3 (by decide)) (Nat.le_of_ble_eq_true rfl) rfl ?_
  refine q_goto (tgt := 18) dX12_searches_34 (by decide) ?_
  exact q_sub [1, 2, 3, 0] rfl (hc18 v1 v2 (v3 + 1) s3)
def fX12_searches_l18 (N : Nat) : Nat → Int32 → Int32 → Int32 → qMem → Option qMem
  | 0 => fun _ _ _ _ => none
  | n + 1 => fun v1 v2 v3 σ => fX12_searches_s18 N (fX12_searches_l18 N n) v1 v2 v3 σ
theorem aX12_searches_l18 (N : Nat) : ∀ (n : Nat) (v1 : Int32) (v2 : Int32) (v3 : Int32) (σ : qMem), qAt wM mX12_searches (ρv) 18 [(0, .ref 0), (1, .int v1), (2, .int v2), (3, .int v3)] [] σ (fX12_searches_l18 N n v1 v2 v3 σ) := by
  intro n
  induction n with
  | zero => intro v1 v2 v3 σ; exact q_none
  | succ n ih => intro v1 v2 v3 σ; exact aX12_searches_s18 N (fX12_searches_l18 N n) ih v1 v2 v3 σ

def fX12_searches (N : Nat) (p1 : Int32) (σ : qMem) : Option qMem :=
  (if ck 305 1112 = true then (nmI (gi σ 2 (305 : Int32).toNatClampNeg) fun x1 => (nmM (sl σ 0 44 (-1)) fun s2 => (fX12_searches_l18 N N p1 x1 0 s2))) else none)
set_option maxRecDepth 20000 in
set_option maxHeartbeats 4000000 in
theorem aX12_searches  (N : Nat) (p1 : Int32)  (σ : qMem) : qAt wM mX12_searches (ρv) 0 [(0, .ref 0), (1, .int p1)] [] σ (fX12_searches N p1 σ) := by
  unfold fX12_searches
  refine q_aload_n (i := 0) (x := 0) dX12_searches_0 rfl 0 rfl ?_
  refine q_getr (t := 2) dX12_searches_1 foX12_20 zM_0 rfl ?_
  refine q_sipush (v := 305) dX12_searches_4 (by decide) ?_
  refine q_iald dX12_searches_7 zM_2 ?_
  refine q_nmI (fun x1 => ?_)
  refine q_istore_n (i := 2) (L' := [(2, .int x1), (0, .ref 0), (1, .int p1)]) dX12_searches_8 rfl (Nat.le_of_ble_eq_true rfl) rfl ?_
  refine q_aload_n (i := 0) (x := 0) dX12_searches_9 rfl 1 rfl ?_
  refine q_ldc2_w (v := (-1)) dX12_searches_10 (g_9 35 (by decide +kernel) rfl) ?_
  refine q_putl dX12_searches_13 foX12_436 fwX12_44 zM_0 rfl ?_
  refine q_nmM (fun s2 => ?_)
  refine q_iconst (v := 0) dX12_searches_16 (by decide) ?_
  refine q_istore_n (i := 3) (L' := [(3, .int 0), (2, .int x1), (0, .ref 0), (1, .int p1)]) dX12_searches_17 rfl (Nat.le_of_ble_eq_true rfl) rfl ?_
  exact q_sub [2, 3, 1, 0] rfl (aX12_searches_l18 N N p1 x1 0 s2)
theorem kX12_searches  (N : Nat) (p1 : Int32)  (σ : qMem) : qMc wM mX12_searches (ρv) [.ref 0, .int p1] σ (fX12_searches N p1 σ) := qMc_of (moX12_searches) (Nat.le_of_ble_eq_true rfl) (aX12_searches N p1  σ)

theorem dX12_search_0 : decode cX12_search 0 = .ok (.iload_n 1, 1) := by decide +kernel
theorem dX12_search_1 : decode cX12_search 1 = .ok (.iconst 0, 1) := by decide +kernel
theorem dX12_search_2 : decode cX12_search 2 = .ok (.bipush 6, 2) := by decide +kernel
theorem dX12_search_4 : decode cX12_search 4 = .ok (.invokestatic 110, 3) := by decide +kernel
theorem dX12_search_7 : decode cX12_search 7 = .ok (.ifCond .eq 12, 3) := by decide +kernel
theorem dX12_search_10 : decode cX12_search 10 = .ok (.iload_n 2, 1) := by decide +kernel
theorem dX12_search_11 : decode cX12_search 11 = .ok (.iconst 0, 1) := by decide +kernel
theorem dX12_search_12 : decode cX12_search 12 = .ok (.iconst 1, 1) := by decide +kernel
theorem dX12_search_13 : decode cX12_search 13 = .ok (.invokestatic 110, 3) := by decide +kernel
theorem dX12_search_16 : decode cX12_search 16 = .ok (.ifCond .ne 7, 3) := by decide +kernel
theorem dX12_search_19 : decode cX12_search 19 = .ok (.ldc2_w 434, 3) := by decide +kernel
theorem dX12_search_22 : decode cX12_search 22 = .ok (.lreturn, 1) := by decide +kernel
theorem dX12_search_23 : decode cX12_search 23 = .ok (.aload_n 0, 1) := by decide +kernel
theorem dX12_search_24 : decode cX12_search 24 = .ok (.iload_n 1, 1) := by decide +kernel
theorem dX12_search_25 : decode cX12_search 25 = .ok (.invokevirtual 445, 3) := by decide +kernel
theorem dX12_search_28 : decode cX12_search 28 = .ok (.lconst 0, 1) := by decide +kernel
theorem dX12_search_29 : decode cX12_search 29 = .ok (.lstore_n 3, 1) := by decide +kernel
theorem dX12_search_30 : decode cX12_search 30 = .ok (.iconst 0, 1) := by decide +kernel
theorem dX12_search_31 : decode cX12_search 31 = .ok (.istore 5, 2) := by decide +kernel
theorem dX12_search_33 : decode cX12_search 33 = .ok (.iload 5, 2) := by decide +kernel
theorem dX12_search_35 : decode cX12_search 35 = .ok (.aload_n 0, 1) := by decide +kernel
theorem dX12_search_36 : decode cX12_search 36 = .ok (.getfield 20, 3) := by decide +kernel
theorem dX12_search_39 : decode cX12_search 39 = .ok (.sipush 305, 3) := by decide +kernel
theorem dX12_search_42 : decode cX12_search 42 = .ok (.iaload, 1) := by decide +kernel
theorem dX12_search_43 : decode cX12_search 43 = .ok (.if_icmp .ge 30, 3) := by decide +kernel
theorem dX12_search_46 : decode cX12_search 46 = .ok (.lload_n 3, 1) := by decide +kernel
theorem dX12_search_47 : decode cX12_search 47 = .ok (.aload_n 0, 1) := by decide +kernel
theorem dX12_search_48 : decode cX12_search 48 = .ok (.getfield 20, 3) := by decide +kernel
theorem dX12_search_51 : decode cX12_search 51 = .ok (.sipush 226, 3) := by decide +kernel
theorem dX12_search_54 : decode cX12_search 54 = .ok (.iconst 2, 1) := by decide +kernel
theorem dX12_search_55 : decode cX12_search 55 = .ok (.iload 5, 2) := by decide +kernel
theorem dX12_search_57 : decode cX12_search 57 = .ok (.imul, 1) := by decide +kernel
theorem dX12_search_58 : decode cX12_search 58 = .ok (.iadd, 1) := by decide +kernel
theorem dX12_search_59 : decode cX12_search 59 = .ok (.iaload, 1) := by decide +kernel
theorem dX12_search_60 : decode cX12_search 60 = .ok (.i2l, 1) := by decide +kernel
theorem dX12_search_61 : decode cX12_search 61 = .ok (.ldc2_w 432, 3) := by decide +kernel
theorem dX12_search_64 : decode cX12_search 64 = .ok (.lmul, 1) := by decide +kernel
theorem dX12_search_65 : decode cX12_search 65 = .ok (.ladd, 1) := by decide +kernel
theorem dX12_search_66 : decode cX12_search 66 = .ok (.lstore_n 3, 1) := by decide +kernel
theorem dX12_search_67 : decode cX12_search 67 = .ok (.iinc 5 1, 3) := by decide +kernel
theorem dX12_search_70 : decode cX12_search 70 = .ok (.goto (-37), 3) := by decide +kernel
theorem dX12_search_73 : decode cX12_search 73 = .ok (.lload_n 3, 1) := by decide +kernel
theorem dX12_search_74 : decode cX12_search 74 = .ok (.lconst 0, 1) := by decide +kernel
theorem dX12_search_75 : decode cX12_search 75 = .ok (.lcmp, 1) := by decide +kernel
theorem dX12_search_76 : decode cX12_search 76 = .ok (.ifCond .ne 6, 3) := by decide +kernel
theorem dX12_search_79 : decode cX12_search 79 = .ok (.iload_n 2, 1) := by decide +kernel
theorem dX12_search_80 : decode cX12_search 80 = .ok (.i2l, 1) := by decide +kernel
theorem dX12_search_81 : decode cX12_search 81 = .ok (.lreturn, 1) := by decide +kernel
theorem dX12_search_82 : decode cX12_search 82 = .ok (.lload_n 3, 1) := by decide +kernel
theorem dX12_search_83 : decode cX12_search 83 = .ok (.lstore 5, 2) := by decide +kernel
theorem dX12_search_85 : decode cX12_search 85 = .ok (.aload_n 0, 1) := by decide +kernel
theorem dX12_search_86 : decode cX12_search 86 = .ok (.getfield 436, 3) := by decide +kernel
theorem dX12_search_89 : decode cX12_search 89 = .ok (.lstore 7, 2) := by decide +kernel
theorem dX12_search_91 : decode cX12_search 91 = .ok (.lload 7, 2) := by decide +kernel
theorem dX12_search_93 : decode cX12_search 93 = .ok (.lconst 0, 1) := by decide +kernel
theorem dX12_search_94 : decode cX12_search 94 = .ok (.lcmp, 1) := by decide +kernel
theorem dX12_search_95 : decode cX12_search 95 = .ok (.ifCond .eq 21, 3) := by decide +kernel
theorem dX12_search_98 : decode cX12_search 98 = .ok (.lload 5, 2) := by decide +kernel
theorem dX12_search_100 : decode cX12_search 100 = .ok (.lload 7, 2) := by decide +kernel
theorem dX12_search_102 : decode cX12_search 102 = .ok (.lrem, 1) := by decide +kernel
theorem dX12_search_103 : decode cX12_search 103 = .ok (.lstore 9, 2) := by decide +kernel
theorem dX12_search_105 : decode cX12_search 105 = .ok (.lload 7, 2) := by decide +kernel
theorem dX12_search_107 : decode cX12_search 107 = .ok (.lstore 5, 2) := by decide +kernel
theorem dX12_search_109 : decode cX12_search 109 = .ok (.lload 9, 2) := by decide +kernel
theorem dX12_search_111 : decode cX12_search 111 = .ok (.lstore 7, 2) := by decide +kernel
theorem dX12_search_113 : decode cX12_search 113 = .ok (.goto (-22), 3) := by decide +kernel
theorem dX12_search_116 : decode cX12_search 116 = .ok (.iload_n 2, 1) := by decide +kernel
theorem dX12_search_117 : decode cX12_search 117 = .ok (.ifCond .ne 13, 3) := by decide +kernel
theorem dX12_search_120 : decode cX12_search 120 = .ok (.aload_n 0, 1) := by decide +kernel
theorem dX12_search_121 : decode cX12_search 121 = .ok (.getfield 436, 3) := by decide +kernel
theorem dX12_search_124 : decode cX12_search 124 = .ok (.lload 5, 2) := by decide +kernel
theorem dX12_search_126 : decode cX12_search 126 = .ok (.ldiv, 1) := by decide +kernel
theorem dX12_search_127 : decode cX12_search 127 = .ok (.goto 7, 3) := by decide +kernel
theorem dX12_search_130 : decode cX12_search 130 = .ok (.lload_n 3, 1) := by decide +kernel
theorem dX12_search_131 : decode cX12_search 131 = .ok (.lload 5, 2) := by decide +kernel
theorem dX12_search_133 : decode cX12_search 133 = .ok (.ldiv, 1) := by decide +kernel
theorem dX12_search_134 : decode cX12_search 134 = .ok (.lreturn, 1) := by decide +kernel
def fX12_search_s91 (N : Nat) (c91 : Int32 → Int64 → Int64 → Int64 → qMem → Option (Int64 × qMem)) (v2 : Int32) (v3 : Int64) (v5 : Int64) (v7 : Int64) (σ : qMem) : Option (Int64 × qMem) :=
  (if (lg_cmp v7 0) = 0 then (if v2 = 0 then (if v5 = 0 then none else (some (((gl σ 0 44) / v5), σ))) else (if v5 = 0 then none else (some ((v3 / v5), σ)))) else (if v7 = 0 then none else (c91 v2 v3 v7 (lrm v5 v7) σ)))
set_option maxRecDepth 20000 in
set_option maxHeartbeats 4000000 in
theorem aX12_search_s91 (N : Nat) (c91 : Int32 → Int64 → Int64 → Int64 → qMem → Option (Int64 × qMem)) (hc91 : ∀ (v2 : Int32) (v3 : Int64) (v5 : Int64) (v7 : Int64) (σ : qMem), qAt wM mX12_search (ρl) 91 [(0, .ref 0), (2, .int v2), (3, .long v3), (5, .long v5), (7, .long v7)] [] σ (c91 v2 v3 v5 v7 σ)) (v2 : Int32) (v3 : Int64) (v5 : Int64) (v7 : Int64) (σ : qMem) : qAt wM mX12_search (ρl) 91 [(0, .ref 0), (2, .int v2), (3, .long v3), (5, .long v5), (7, .long v7)] [] σ (fX12_search_s91 N c91 v2 v3 v5 v7 σ) := by
  unfold fX12_search_s91
  refine q_lload (i := 7) (x := v7) dX12_search_91 4 rfl ?_
  refine q_lconst (v := 0) dX12_search_93 (by decide) ?_
  refine q_lcmp dX12_search_94 ?_
  refine q_if_eq (tgt := 116) dX12_search_95 (by decide) ?_ ?_
  · refine q_iload_n (i := 2) (x := v2) dX12_search_116 rfl 1 rfl ?_
    refine q_if_ne (tgt := 130) dX12_search_117 (by decide) ?_ ?_
    · refine q_lload_n (i := 3) (x := v3) dX12_search_130 rfl 2 rfl ?_
      refine q_lload (i := 5) (x := v5) dX12_search_131 3 rfl ?_
      refine q_ldivC dX12_search_133 ?_
      exact q_lret (y := ((v3 / v5), σ)) dX12_search_134 rfl rfl
    refine q_aload_n (i := 0) (x := 0) dX12_search_120 rfl 0 rfl ?_
    refine q_getl dX12_search_121 foX12_436 zM_0 rfl ?_
    refine q_lload (i := 5) (x := v5) dX12_search_124 3 rfl ?_
    refine q_ldivC dX12_search_126 ?_
    refine q_goto (tgt := 134) dX12_search_127 (by decide) ?_
    exact q_lret (y := (((gl σ 0 44) / v5), σ)) dX12_search_134 rfl rfl
  refine q_lload (i := 5) (x := v5) dX12_search_98 3 rfl ?_
  refine q_lload (i := 7) (x := v7) dX12_search_100 4 rfl ?_
  refine q_lremC dX12_search_102 ?_
  refine q_lstore (i := 9) (L' := [(9, .long (lrm v5 v7)), (0, .ref 0), (2, .int v2), (3, .long v3), (5, .long v5), (7, .long v7)]) dX12_search_103 (Nat.le_of_ble_eq_true rfl) rfl ?_
  refine q_lload (i := 7) (x := v7) dX12_search_105 5 rfl ?_
  refine q_lstore (i := 5) (L' := [(5, .long v7), (9, .long (lrm v5 v7)), (0, .ref 0), (2, .int v2), (3, .long v3), (7, .long v7)]) dX12_search_107 (Nat.le_of_ble_eq_true rfl) rfl ?_
  refine q_lload (i := 9) (x := (lrm v5 v7)) dX12_search_109 1 rfl ?_
  refine q_lstore (i := 7) (L' := [(7, .long (lrm v5 v7)), (5, .long v7), (9, .long (lrm v5 v7)), (0, .ref 0), (2, .int v2), (3, .long v3)]) dX12_search_111 (Nat.le_of_ble_eq_true rfl) rfl ?_
  refine q_goto (tgt := 91) dX12_search_113 (by decide) ?_
  exact q_sub [3, 4, 5, 1, 0] rfl (hc91 v2 v3 v7 (lrm v5 v7) σ)
def fX12_search_l91 (N : Nat) : Nat → Int32 → Int64 → Int64 → Int64 → qMem → Option (Int64 × qMem)
  | 0 => fun _ _ _ _ _ => none
  | n + 1 => fun v2 v3 v5 v7 σ => fX12_search_s91 N (fX12_search_l91 N n) v2 v3 v5 v7 σ
theorem aX12_search_l91 (N : Nat) : ∀ (n : Nat) (v2 : Int32) (v3 : Int64) (v5 : Int64) (v7 : Int64) (σ : qMem), qAt wM mX12_search (ρl) 91 [(0, .ref 0), (2, .int v2), (3, .long v3), (5, .long v5), (7, .long v7)] [] σ (fX12_search_l91 N n v2 v3 v5 v7 σ) := by
  intro n
  induction n with
  | zero => intro v2 v3 v5 v7 σ; exact q_none
  | succ n ih => intro v2 v3 v5 v7 σ; exact aX12_search_s91 N (fX12_search_l91 N n) ih v2 v3 v5 v7 σ

def fX12_search_s33 (N : Nat) (c33 : Int32 → Int64 → Int32 → qMem → Option (Int64 × qMem)) (v2 : Int32) (v3 : Int64) (v5 : Int32) (σ : qMem) : Option (Int64 × qMem) :=
  (if ck 305 1112 = true then (if (gi σ 2 (305 : Int32).toNatClampNeg) ≤ v5 then (if (lg_cmp v3 0) = 0 then (some (v2.toInt64, σ)) else (fX12_search_l91 N N v2 v3 v3 (gl σ 0 44) σ)) else (if ck (226 + (2 * v5)) 1112 = true then (nmL (v3 + ((gi σ 2 (226 + (2 * v5)).toNatClampNeg).toInt64 * 1000000000000)) fun x4 => (c33 v2 x4 (v5 + 1) σ)) else none)) else none)
set_option maxRecDepth 20000 in
set_option maxHeartbeats 4000000 in
theorem aX12_search_s33 (N : Nat) (c33 : Int32 → Int64 → Int32 → qMem → Option (Int64 × qMem)) (hc33 : ∀ (v2 : Int32) (v3 : Int64) (v5 : Int32) (σ : qMem), qAt wM mX12_search (ρl) 33 [(0, .ref 0), (2, .int v2), (3, .long v3), (5, .int v5)] [] σ (c33 v2 v3 v5 σ)) (v2 : Int32) (v3 : Int64) (v5 : Int32) (σ : qMem) : qAt wM mX12_search (ρl) 33 [(0, .ref 0), (2, .int v2), (3, .long v3), (5, .int v5)] [] σ (fX12_search_s33 N c33 v2 v3 v5 σ) := by
  unfold fX12_search_s33
  refine q_iload (i := 5) (x := v5) dX12_search_33 3 rfl ?_
  refine q_aload_n (i := 0) (x := 0) dX12_search_35 rfl 0 rfl ?_
  refine q_getr (t := 2) dX12_search_36 foX12_20 zM_0 rfl ?_
  refine q_sipush (v := 305) dX12_search_39 (by decide) ?_
  refine q_iald dX12_search_42 zM_2 ?_
  refine q_icmp_ge (tgt := 73) dX12_search_43 (by decide) ?_ ?_
  · refine q_lload_n (i := 3) (x := v3) dX12_search_73 rfl 2 rfl ?_
    refine q_lconst (v := 0) dX12_search_74 (by decide) ?_
    refine q_lcmp dX12_search_75 ?_
    refine q_if_ne (tgt := 82) dX12_search_76 (by decide) ?_ ?_
    · refine q_lload_n (i := 3) (x := v3) dX12_search_82 rfl 2 rfl ?_
      refine q_lstore (i := 5) (L' := [(5, .long v3), (0, .ref 0), (2, .int v2), (3, .long v3)]) dX12_search_83 (Nat.le_of_ble_eq_true rfl) rfl ?_
      refine q_aload_n (i := 0) (x := 0) dX12_search_85 rfl 1 rfl ?_
      refine q_getl dX12_search_86 foX12_436 zM_0 rfl ?_
      refine q_lstore (i := 7) (L' := [(7, .long (gl σ 0 44)), (5, .long v3), (0, .ref 0), (2, .int v2), (3, .long v3)]) dX12_search_89 (Nat.le_of_ble_eq_true rfl) rfl ?_
      exact q_sub [2, 3, 4, 1, 0] rfl (aX12_search_l91 N N v2 v3 v3 (gl σ 0 44) σ)
    refine q_iload_n (i := 2) (x := v2) dX12_search_79 rfl 1 rfl ?_
    refine q_i2l dX12_search_80 ?_
    exact q_lret (y := (v2.toInt64, σ)) dX12_search_81 rfl rfl
  refine q_lload_n (i := 3) (x := v3) dX12_search_46 rfl 2 rfl ?_
  refine q_aload_n (i := 0) (x := 0) dX12_search_47 rfl 0 rfl ?_
  refine q_getr (t := 2) dX12_search_48 foX12_20 zM_0 rfl ?_
  refine q_sipush (v := 226) dX12_search_51 (by decide) ?_
  refine q_iconst (v := 2) dX12_search_54 (by decide) ?_
  refine q_iload (i := 5) (x := v5) dX12_search_55 3 rfl ?_
  refine q_imul dX12_search_57 ?_
  refine q_iadd dX12_search_58 ?_
  refine q_iald dX12_search_59 zM_2 ?_
  refine q_i2l dX12_search_60 ?_
  refine q_ldc2_w (v := 1000000000000) dX12_search_61 (g_9 45 (by decide +kernel) rfl) ?_
  refine q_lmul dX12_search_64 ?_
  refine q_ladd dX12_search_65 ?_
  refine q_nmL (fun x4 => ?_)
  refine q_lstore_n (i := 3) (L' := [(3, .long x4), (0, .ref 0), (2, .int v2), (5, .int v5)]) dX12_search_66 rfl (Nat.le_of_ble_eq_true rfl) rfl ?_
  refine q_iinc (i := 5) (x := v5) (v := (v5 + 1)) (L' := [(5, .int (v5 + 1)), (3, .long x4), (0, .ref 0), (2, .int v2)]) dX12_search_67 3 rfl (q_cst v5 (by decide)) (Nat.le_of_ble_eq_true rfl) rfl ?_
  refine q_goto (tgt := 33) dX12_search_70 (by decide) ?_
  exact q_sub [2, 3, 1, 0] rfl (hc33 v2 x4 (v5 + 1) σ)
def fX12_search_l33 (N : Nat) : Nat → Int32 → Int64 → Int32 → qMem → Option (Int64 × qMem)
  | 0 => fun _ _ _ _ => none
  | n + 1 => fun v2 v3 v5 σ => fX12_search_s33 N (fX12_search_l33 N n) v2 v3 v5 σ
theorem aX12_search_l33 (N : Nat) : ∀ (n : Nat) (v2 : Int32) (v3 : Int64) (v5 : Int32) (σ : qMem), qAt wM mX12_search (ρl) 33 [(0, .ref 0), (2, .int v2), (3, .long v3), (5, .int v5)] [] σ (fX12_search_l33 N n v2 v3 v5 σ) := by
  intro n
  induction n with
  | zero => intro v2 v3 v5 σ; exact q_none
  | succ n ih => intro v2 v3 v5 σ; exact aX12_search_s33 N (fX12_search_l33 N n) ih v2 v3 v5 σ

def fX12_search (N : Nat) (p1 : Int32) (p2 : Int32) (σ : qMem) : Option (Int64 × qMem) :=
  ((fX12_in p1 0 6).bind fun y1 => (if y1 = 0 then (some ((-1), σ)) else ((fX12_in p2 0 1).bind fun y2 => (if y2 = 0 then (some ((-1), σ)) else ((fX12_searches N p1 σ).bind fun y3 => (fX12_search_l33 N N p2 0 0 y3))))))
set_option maxRecDepth 20000 in
set_option maxHeartbeats 4000000 in
theorem aX12_search  (N : Nat) (p1 : Int32) (p2 : Int32)  (σ : qMem) : qAt wM mX12_search (ρl) 0 [(0, .ref 0), (1, .int p1), (2, .int p2)] [] σ (fX12_search N p1 p2 σ) := by
  unfold fX12_search
  refine q_iload_n (i := 1) (x := p1) dX12_search_0 rfl 1 rfl ?_
  refine q_iconst (v := 0) dX12_search_1 (by decide) ?_
  refine q_bipush (v := 6) dX12_search_2 (by decide) ?_
  refine q_cSp mX12_in [.int p1, .int 0, .int 6] (st := []) dX12_search_4 (ssX12_110) ⟨Nat.le_of_ble_eq_true rfl, Nat.le_of_ble_eq_true rfl⟩ rfl rfl (Nat.le_of_ble_eq_true rfl) (kX12_in p1 0 6 σ) (fun y1 => ?_)
  refine q_if_eq (tgt := 19) dX12_search_7 (by decide) ?_ ?_
  · refine q_ldc2_w (v := (-1)) dX12_search_19 (g_9 35 (by decide +kernel) rfl) ?_
    exact q_lret (y := ((-1), σ)) dX12_search_22 rfl rfl
  refine q_iload_n (i := 2) (x := p2) dX12_search_10 rfl 2 rfl ?_
  refine q_iconst (v := 0) dX12_search_11 (by decide) ?_
  refine q_iconst (v := 1) dX12_search_12 (by decide) ?_
  refine q_cSp mX12_in [.int p2, .int 0, .int 1] (st := []) dX12_search_13 (ssX12_110) ⟨Nat.le_of_ble_eq_true rfl, Nat.le_of_ble_eq_true rfl⟩ rfl rfl (Nat.le_of_ble_eq_true rfl) (kX12_in p2 0 1 σ) (fun y2 => ?_)
  refine q_if_ne (tgt := 23) dX12_search_16 (by decide) ?_ ?_
  · refine q_aload_n (i := 0) (x := 0) dX12_search_23 rfl 0 rfl ?_
    refine q_iload_n (i := 1) (x := p1) dX12_search_24 rfl 1 rfl ?_
    refine q_cVv mX12_searches [.int p1] (st := []) dX12_search_25 (svX12_445) ⟨Nat.le_of_ble_eq_true rfl, Nat.le_of_ble_eq_true rfl⟩ zM_0 rfl rfl rfl (Nat.le_of_ble_eq_true rfl) (kX12_searches N p1 σ) (fun y3 => ?_)
    refine q_lconst (v := 0) dX12_search_28 (by decide) ?_
    refine q_lstore_n (i := 3) (L' := [(3, .long 0), (0, .ref 0), (1, .int p1), (2, .int p2)]) dX12_search_29 rfl (Nat.le_of_ble_eq_true rfl) rfl ?_
    refine q_iconst (v := 0) dX12_search_30 (by decide) ?_
    refine q_istore (i := 5) (L' := [(5, .int 0), (3, .long 0), (0, .ref 0), (1, .int p1), (2, .int p2)]) dX12_search_31 (Nat.le_of_ble_eq_true rfl) rfl ?_
    exact q_sub [2, 4, 1, 0] rfl (aX12_search_l33 N N p2 0 0 y3)
  refine q_ldc2_w (v := (-1)) dX12_search_19 (g_9 35 (by decide +kernel) rfl) ?_
  exact q_lret (y := ((-1), σ)) dX12_search_22 rfl rfl
theorem kX12_search  (N : Nat) (p1 : Int32) (p2 : Int32)  (σ : qMem) : qMc wM mX12_search (ρl) [.ref 0, .int p1, .int p2] σ (fX12_search N p1 p2 σ) := qMc_of (moX12_search) (Nat.le_of_ble_eq_true rfl) (aX12_search N p1 p2  σ)

theorem dX12_looks_0 : decode cX12_looks 0 = .ok (.iload_n 1, 1) := by decide +kernel
theorem dX12_looks_1 : decode cX12_looks 1 = .ok (.iconst 0, 1) := by decide +kernel
theorem dX12_looks_2 : decode cX12_looks 2 = .ok (.bipush 6, 2) := by decide +kernel
theorem dX12_looks_4 : decode cX12_looks 4 = .ok (.invokestatic 110, 3) := by decide +kernel
theorem dX12_looks_7 : decode cX12_looks 7 = .ok (.ifCond .eq 21, 3) := by decide +kernel
theorem dX12_looks_10 : decode cX12_looks 10 = .ok (.iload_n 2, 1) := by decide +kernel
theorem dX12_looks_11 : decode cX12_looks 11 = .ok (.iconst 0, 1) := by decide +kernel
theorem dX12_looks_12 : decode cX12_looks 12 = .ok (.aload_n 0, 1) := by decide +kernel
theorem dX12_looks_13 : decode cX12_looks 13 = .ok (.getfield 20, 3) := by decide +kernel
theorem dX12_looks_16 : decode cX12_looks 16 = .ok (.sipush 305, 3) := by decide +kernel
theorem dX12_looks_19 : decode cX12_looks 19 = .ok (.iaload, 1) := by decide +kernel
theorem dX12_looks_20 : decode cX12_looks 20 = .ok (.iconst 1, 1) := by decide +kernel
theorem dX12_looks_21 : decode cX12_looks 21 = .ok (.isub, 1) := by decide +kernel
theorem dX12_looks_22 : decode cX12_looks 22 = .ok (.invokestatic 110, 3) := by decide +kernel
theorem dX12_looks_25 : decode cX12_looks 25 = .ok (.ifCond .ne 5, 3) := by decide +kernel
theorem dX12_looks_28 : decode cX12_looks 28 = .ok (.iconst (-1), 1) := by decide +kernel
theorem dX12_looks_29 : decode cX12_looks 29 = .ok (.ireturn, 1) := by decide +kernel
theorem dX12_looks_30 : decode cX12_looks 30 = .ok (.aload_n 0, 1) := by decide +kernel
theorem dX12_looks_31 : decode cX12_looks 31 = .ok (.iload_n 1, 1) := by decide +kernel
theorem dX12_looks_32 : decode cX12_looks 32 = .ok (.invokevirtual 445, 3) := by decide +kernel
theorem dX12_looks_35 : decode cX12_looks 35 = .ok (.aload_n 0, 1) := by decide +kernel
theorem dX12_looks_36 : decode cX12_looks 36 = .ok (.getfield 107, 3) := by decide +kernel
theorem dX12_looks_39 : decode cX12_looks 39 = .ok (.iload_n 2, 1) := by decide +kernel
theorem dX12_looks_40 : decode cX12_looks 40 = .ok (.iaload, 1) := by decide +kernel
theorem dX12_looks_41 : decode cX12_looks 41 = .ok (.ireturn, 1) := by decide +kernel

def fX12_looks (N : Nat) (p1 : Int32) (p2 : Int32) (σ : qMem) : Option (Int32 × qMem) :=
  ((fX12_in p1 0 6).bind fun y1 => (if y1 = 0 then (some ((-1), σ)) else (if ck 305 1112 = true then ((fX12_in p2 0 ((gi σ 2 (305 : Int32).toNatClampNeg) - 1)).bind fun y2 => (if y2 = 0 then (some ((-1), σ)) else ((fX12_searches N p1 σ).bind fun y3 => (if ck p2 6 = true then (some ((gi y3 26 p2.toNatClampNeg), y3)) else none)))) else none)))
set_option maxRecDepth 20000 in
set_option maxHeartbeats 4000000 in
theorem aX12_looks  (N : Nat) (p1 : Int32) (p2 : Int32)  (σ : qMem) : qAt wM mX12_looks (ρi) 0 [(0, .ref 0), (1, .int p1), (2, .int p2)] [] σ (fX12_looks N p1 p2 σ) := by
  unfold fX12_looks
  refine q_iload_n (i := 1) (x := p1) dX12_looks_0 rfl 1 rfl ?_
  refine q_iconst (v := 0) dX12_looks_1 (by decide) ?_
  refine q_bipush (v := 6) dX12_looks_2 (by decide) ?_
  refine q_cSp mX12_in [.int p1, .int 0, .int 6] (st := []) dX12_looks_4 (ssX12_110) ⟨Nat.le_of_ble_eq_true rfl, Nat.le_of_ble_eq_true rfl⟩ rfl rfl (Nat.le_of_ble_eq_true rfl) (kX12_in p1 0 6 σ) (fun y1 => ?_)
  refine q_if_eq (tgt := 28) dX12_looks_7 (by decide) ?_ ?_
  · refine q_iconst (v := (-1)) dX12_looks_28 (by decide) ?_
    exact q_ireti (y := ((-1), σ)) dX12_looks_29 rfl rfl
  refine q_iload_n (i := 2) (x := p2) dX12_looks_10 rfl 2 rfl ?_
  refine q_iconst (v := 0) dX12_looks_11 (by decide) ?_
  refine q_aload_n (i := 0) (x := 0) dX12_looks_12 rfl 0 rfl ?_
  refine q_getr (t := 2) dX12_looks_13 foX12_20 zM_0 rfl ?_
  refine q_sipush (v := 305) dX12_looks_16 (by decide) ?_
  refine q_iald dX12_looks_19 zM_2 ?_
  refine q_iconst (v := 1) dX12_looks_20 (by decide) ?_
  refine q_isub dX12_looks_21 ?_
  refine q_cSp mX12_in [.int p2, .int 0, .int ((gi σ 2 (305 : Int32).toNatClampNeg) - 1)] (st := []) dX12_looks_22 (ssX12_110) ⟨Nat.le_of_ble_eq_true rfl, Nat.le_of_ble_eq_true rfl⟩ rfl rfl (Nat.le_of_ble_eq_true rfl) (kX12_in p2 0 ((gi σ 2 (305 : Int32).toNatClampNeg) - 1) σ) (fun y2 => ?_)
  refine q_if_ne (tgt := 30) dX12_looks_25 (by decide) ?_ ?_
  · refine q_aload_n (i := 0) (x := 0) dX12_looks_30 rfl 0 rfl ?_
    refine q_iload_n (i := 1) (x := p1) dX12_looks_31 rfl 1 rfl ?_
    refine q_cVv mX12_searches [.int p1] (st := []) dX12_looks_32 (svX12_445) ⟨Nat.le_of_ble_eq_true rfl, Nat.le_of_ble_eq_true rfl⟩ zM_0 rfl rfl rfl (Nat.le_of_ble_eq_true rfl) (kX12_searches N p1 σ) (fun y3 => ?_)
    refine q_aload_n (i := 0) (x := 0) dX12_looks_35 rfl 0 rfl ?_
    refine q_getr (t := 26) dX12_looks_36 foX12_107 zM_0 rfl ?_
    refine q_iload_n (i := 2) (x := p2) dX12_looks_39 rfl 2 rfl ?_
    refine q_iald dX12_looks_40 zM_26 ?_
    exact q_ireti (y := ((gi y3 26 p2.toNatClampNeg), y3)) dX12_looks_41 rfl rfl
  refine q_iconst (v := (-1)) dX12_looks_28 (by decide) ?_
  exact q_ireti (y := ((-1), σ)) dX12_looks_29 rfl rfl
theorem kX12_looks  (N : Nat) (p1 : Int32) (p2 : Int32)  (σ : qMem) : qMc wM mX12_looks (ρi) [.ref 0, .int p1, .int p2] σ (fX12_looks N p1 p2 σ) := qMc_of (moX12_looks) (Nat.le_of_ble_eq_true rfl) (aX12_looks N p1 p2  σ)

theorem dX12_count_0 : decode cX12_count 0 = .ok (.iload_n 1, 1) := by decide +kernel
theorem dX12_count_1 : decode cX12_count 1 = .ok (.tableswitch 212 0 16 #[83, 92, 101, 110, 119, 128, 137, 146, 155, 160, 160, 160, 170, 177, 185, 194, 203], 83) := by decide +kernel
theorem dX12_count_84 : decode cX12_count 84 = .ok (.aload_n 0, 1) := by decide +kernel
theorem dX12_count_85 : decode cX12_count 85 = .ok (.getfield 20, 3) := by decide +kernel
theorem dX12_count_88 : decode cX12_count 88 = .ok (.sipush 300, 3) := by decide +kernel
theorem dX12_count_91 : decode cX12_count 91 = .ok (.iaload, 1) := by decide +kernel
theorem dX12_count_92 : decode cX12_count 92 = .ok (.ireturn, 1) := by decide +kernel
theorem dX12_count_93 : decode cX12_count 93 = .ok (.aload_n 0, 1) := by decide +kernel
theorem dX12_count_94 : decode cX12_count 94 = .ok (.getfield 20, 3) := by decide +kernel
theorem dX12_count_97 : decode cX12_count 97 = .ok (.sipush 301, 3) := by decide +kernel
theorem dX12_count_100 : decode cX12_count 100 = .ok (.iaload, 1) := by decide +kernel
theorem dX12_count_101 : decode cX12_count 101 = .ok (.ireturn, 1) := by decide +kernel
theorem dX12_count_102 : decode cX12_count 102 = .ok (.aload_n 0, 1) := by decide +kernel
theorem dX12_count_103 : decode cX12_count 103 = .ok (.getfield 20, 3) := by decide +kernel
theorem dX12_count_106 : decode cX12_count 106 = .ok (.sipush 302, 3) := by decide +kernel
theorem dX12_count_109 : decode cX12_count 109 = .ok (.iaload, 1) := by decide +kernel
theorem dX12_count_110 : decode cX12_count 110 = .ok (.ireturn, 1) := by decide +kernel
theorem dX12_count_111 : decode cX12_count 111 = .ok (.aload_n 0, 1) := by decide +kernel
theorem dX12_count_112 : decode cX12_count 112 = .ok (.getfield 20, 3) := by decide +kernel
theorem dX12_count_115 : decode cX12_count 115 = .ok (.sipush 303, 3) := by decide +kernel
theorem dX12_count_118 : decode cX12_count 118 = .ok (.iaload, 1) := by decide +kernel
theorem dX12_count_119 : decode cX12_count 119 = .ok (.ireturn, 1) := by decide +kernel
theorem dX12_count_120 : decode cX12_count 120 = .ok (.aload_n 0, 1) := by decide +kernel
theorem dX12_count_121 : decode cX12_count 121 = .ok (.getfield 20, 3) := by decide +kernel
theorem dX12_count_124 : decode cX12_count 124 = .ok (.sipush 304, 3) := by decide +kernel
theorem dX12_count_127 : decode cX12_count 127 = .ok (.iaload, 1) := by decide +kernel
theorem dX12_count_128 : decode cX12_count 128 = .ok (.ireturn, 1) := by decide +kernel
theorem dX12_count_129 : decode cX12_count 129 = .ok (.aload_n 0, 1) := by decide +kernel
theorem dX12_count_130 : decode cX12_count 130 = .ok (.getfield 20, 3) := by decide +kernel
theorem dX12_count_133 : decode cX12_count 133 = .ok (.sipush 307, 3) := by decide +kernel
theorem dX12_count_136 : decode cX12_count 136 = .ok (.iaload, 1) := by decide +kernel
theorem dX12_count_137 : decode cX12_count 137 = .ok (.ireturn, 1) := by decide +kernel
theorem dX12_count_138 : decode cX12_count 138 = .ok (.aload_n 0, 1) := by decide +kernel
theorem dX12_count_139 : decode cX12_count 139 = .ok (.getfield 20, 3) := by decide +kernel
theorem dX12_count_142 : decode cX12_count 142 = .ok (.sipush 305, 3) := by decide +kernel
theorem dX12_count_145 : decode cX12_count 145 = .ok (.iaload, 1) := by decide +kernel
theorem dX12_count_146 : decode cX12_count 146 = .ok (.ireturn, 1) := by decide +kernel
theorem dX12_count_147 : decode cX12_count 147 = .ok (.aload_n 0, 1) := by decide +kernel
theorem dX12_count_148 : decode cX12_count 148 = .ok (.invokevirtual 223, 3) := by decide +kernel
theorem dX12_count_151 : decode cX12_count 151 = .ok (.aload_n 0, 1) := by decide +kernel
theorem dX12_count_152 : decode cX12_count 152 = .ok (.getfield 208, 3) := by decide +kernel
theorem dX12_count_155 : decode cX12_count 155 = .ok (.ireturn, 1) := by decide +kernel
theorem dX12_count_156 : decode cX12_count 156 = .ok (.aload_n 0, 1) := by decide +kernel
theorem dX12_count_157 : decode cX12_count 157 = .ok (.getfield 202, 3) := by decide +kernel
theorem dX12_count_160 : decode cX12_count 160 = .ok (.ireturn, 1) := by decide +kernel
theorem dX12_count_161 : decode cX12_count 161 = .ok (.aload_n 0, 1) := by decide +kernel
theorem dX12_count_162 : decode cX12_count 162 = .ok (.getfield 7, 3) := by decide +kernel
theorem dX12_count_165 : decode cX12_count 165 = .ok (.iload_n 1, 1) := by decide +kernel
theorem dX12_count_166 : decode cX12_count 166 = .ok (.bipush 8, 2) := by decide +kernel
theorem dX12_count_168 : decode cX12_count 168 = .ok (.isub, 1) := by decide +kernel
theorem dX12_count_169 : decode cX12_count 169 = .ok (.iaload, 1) := by decide +kernel
theorem dX12_count_170 : decode cX12_count 170 = .ok (.ireturn, 1) := by decide +kernel
theorem dX12_count_171 : decode cX12_count 171 = .ok (.aload_n 0, 1) := by decide +kernel
theorem dX12_count_172 : decode cX12_count 172 = .ok (.getfield 7, 3) := by decide +kernel
theorem dX12_count_175 : decode cX12_count 175 = .ok (.iconst 5, 1) := by decide +kernel
theorem dX12_count_176 : decode cX12_count 176 = .ok (.iaload, 1) := by decide +kernel
theorem dX12_count_177 : decode cX12_count 177 = .ok (.ireturn, 1) := by decide +kernel
theorem dX12_count_178 : decode cX12_count 178 = .ok (.aload_n 0, 1) := by decide +kernel
theorem dX12_count_179 : decode cX12_count 179 = .ok (.getfield 7, 3) := by decide +kernel
theorem dX12_count_182 : decode cX12_count 182 = .ok (.bipush 6, 2) := by decide +kernel
theorem dX12_count_184 : decode cX12_count 184 = .ok (.iaload, 1) := by decide +kernel
theorem dX12_count_185 : decode cX12_count 185 = .ok (.ireturn, 1) := by decide +kernel
theorem dX12_count_186 : decode cX12_count 186 = .ok (.aload_n 0, 1) := by decide +kernel
theorem dX12_count_187 : decode cX12_count 187 = .ok (.getfield 20, 3) := by decide +kernel
theorem dX12_count_190 : decode cX12_count 190 = .ok (.sipush 308, 3) := by decide +kernel
theorem dX12_count_193 : decode cX12_count 193 = .ok (.iaload, 1) := by decide +kernel
theorem dX12_count_194 : decode cX12_count 194 = .ok (.ireturn, 1) := by decide +kernel
theorem dX12_count_195 : decode cX12_count 195 = .ok (.aload_n 0, 1) := by decide +kernel
theorem dX12_count_196 : decode cX12_count 196 = .ok (.getfield 20, 3) := by decide +kernel
theorem dX12_count_199 : decode cX12_count 199 = .ok (.sipush 309, 3) := by decide +kernel
theorem dX12_count_202 : decode cX12_count 202 = .ok (.iaload, 1) := by decide +kernel
theorem dX12_count_203 : decode cX12_count 203 = .ok (.ireturn, 1) := by decide +kernel
theorem dX12_count_204 : decode cX12_count 204 = .ok (.aload_n 0, 1) := by decide +kernel
theorem dX12_count_205 : decode cX12_count 205 = .ok (.getfield 20, 3) := by decide +kernel
theorem dX12_count_208 : decode cX12_count 208 = .ok (.sipush 310, 3) := by decide +kernel
theorem dX12_count_211 : decode cX12_count 211 = .ok (.iaload, 1) := by decide +kernel
theorem dX12_count_212 : decode cX12_count 212 = .ok (.ireturn, 1) := by decide +kernel
theorem dX12_count_213 : decode cX12_count 213 = .ok (.iconst (-1), 1) := by decide +kernel
theorem dX12_count_214 : decode cX12_count 214 = .ok (.ireturn, 1) := by decide +kernel
def fX12_count_b161 (N : Nat) (v1 : Int32) (σ : qMem) : Option (Int32 × qMem) :=
  (if ck (v1 - 8) 7 = true then (some ((gi σ 1 (v1 - 8).toNatClampNeg), σ)) else none)
set_option maxRecDepth 20000 in
set_option maxHeartbeats 4000000 in
theorem aX12_count_b161 (N : Nat) (v1 : Int32) (σ : qMem) : qAt wM mX12_count (ρi) 161 [(0, .ref 0), (1, .int v1)] [] σ (fX12_count_b161 N v1 σ) := by
  unfold fX12_count_b161
  refine q_aload_n (i := 0) (x := 0) dX12_count_161 rfl 0 rfl ?_
  refine q_getr (t := 1) dX12_count_162 foX12_7 zM_0 rfl ?_
  refine q_iload_n (i := 1) (x := v1) dX12_count_165 rfl 1 rfl ?_
  refine q_bipush (v := 8) dX12_count_166 (by decide) ?_
  refine q_isub dX12_count_168 ?_
  refine q_iald dX12_count_169 zM_1 ?_
  exact q_ireti (y := ((gi σ 1 (v1 - 8).toNatClampNeg), σ)) dX12_count_170 rfl rfl

def fX12_count (N : Nat) (p1 : Int32) (σ : qMem) : Option (Int32 × qMem) :=
  (if p1 = 0 then (if ck 300 1112 = true then (some ((gi σ 2 (300 : Int32).toNatClampNeg), σ)) else none) else (if p1 = 1 then (if ck 301 1112 = true then (some ((gi σ 2 (301 : Int32).toNatClampNeg), σ)) else none) else (if p1 = 2 then (if ck 302 1112 = true then (some ((gi σ 2 (302 : Int32).toNatClampNeg), σ)) else none) else (if p1 = 3 then (if ck 303 1112 = true then (some ((gi σ 2 (303 : Int32).toNatClampNeg), σ)) else none) else (if p1 = 4 then (if ck 304 1112 = true then (some ((gi σ 2 (304 : Int32).toNatClampNeg), σ)) else none) else (if p1 = 5 then (if ck 307 1112 = true then (some ((gi σ 2 (307 : Int32).toNatClampNeg), σ)) else none) else (if p1 = 6 then (if ck 305 1112 = true then (some ((gi σ 2 (305 : Int32).toNatClampNeg), σ)) else none) else (if p1 = 7 then ((fX12_laysNews N σ).bind fun y9 => (some ((gi y9 0 10), y9))) else (if p1 = 8 then (some ((gi σ 0 28), σ)) else (if p1 = 9 then (fX12_count_b161 N p1 σ) else (if p1 = 10 then (fX12_count_b161 N p1 σ) else (if p1 = 11 then (fX12_count_b161 N p1 σ) else (if p1 = 12 then (if ck 5 7 = true then (some ((gi σ 1 (5 : Int32).toNatClampNeg), σ)) else none) else (if p1 = 13 then (if ck 6 7 = true then (some ((gi σ 1 (6 : Int32).toNatClampNeg), σ)) else none) else (if p1 = 14 then (if ck 308 1112 = true then (some ((gi σ 2 (308 : Int32).toNatClampNeg), σ)) else none) else (if p1 = 15 then (if ck 309 1112 = true then (some ((gi σ 2 (309 : Int32).toNatClampNeg), σ)) else none) else (if p1 = 16 then (if ck 310 1112 = true then (some ((gi σ 2 (310 : Int32).toNatClampNeg), σ)) else none) else (some ((-1), σ)))))))))))))))))))
set_option maxRecDepth 20000 in
set_option maxHeartbeats 4000000 in
theorem aX12_count  (N : Nat) (p1 : Int32)  (σ : qMem) : qAt wM mX12_count (ρi) 0 [(0, .ref 0), (1, .int p1)] [] σ (fX12_count N p1 σ) := by
  unfold fX12_count
  refine q_iload_n (i := 1) (x := p1) dX12_count_0 rfl 1 rfl ?_
  refine q_tsw (tgt := 84) 0 dX12_count_1 (by decide) (by decide) rfl (by decide) ?_ (fun hs1 => ?_)
  · refine q_aload_n (i := 0) (x := 0) dX12_count_84 rfl 0 rfl ?_
    refine q_getr (t := 2) dX12_count_85 foX12_20 zM_0 rfl ?_
    refine q_sipush (v := 300) dX12_count_88 (by decide) ?_
    refine q_iald dX12_count_91 zM_2 ?_
    exact q_ireti (y := ((gi σ 2 (300 : Int32).toNatClampNeg), σ)) dX12_count_92 rfl rfl
  refine q_tsw (tgt := 93) 1 dX12_count_1 (by decide) (by decide) rfl (by decide) ?_ (fun hs2 => ?_)
  · refine q_aload_n (i := 0) (x := 0) dX12_count_93 rfl 0 rfl ?_
    refine q_getr (t := 2) dX12_count_94 foX12_20 zM_0 rfl ?_
    refine q_sipush (v := 301) dX12_count_97 (by decide) ?_
    refine q_iald dX12_count_100 zM_2 ?_
    exact q_ireti (y := ((gi σ 2 (301 : Int32).toNatClampNeg), σ)) dX12_count_101 rfl rfl
  refine q_tsw (tgt := 102) 2 dX12_count_1 (by decide) (by decide) rfl (by decide) ?_ (fun hs3 => ?_)
  · refine q_aload_n (i := 0) (x := 0) dX12_count_102 rfl 0 rfl ?_
    refine q_getr (t := 2) dX12_count_103 foX12_20 zM_0 rfl ?_
    refine q_sipush (v := 302) dX12_count_106 (by decide) ?_
    refine q_iald dX12_count_109 zM_2 ?_
    exact q_ireti (y := ((gi σ 2 (302 : Int32).toNatClampNeg), σ)) dX12_count_110 rfl rfl
  refine q_tsw (tgt := 111) 3 dX12_count_1 (by decide) (by decide) rfl (by decide) ?_ (fun hs4 => ?_)
  · refine q_aload_n (i := 0) (x := 0) dX12_count_111 rfl 0 rfl ?_
    refine q_getr (t := 2) dX12_count_112 foX12_20 zM_0 rfl ?_
    refine q_sipush (v := 303) dX12_count_115 (by decide) ?_
    refine q_iald dX12_count_118 zM_2 ?_
    exact q_ireti (y := ((gi σ 2 (303 : Int32).toNatClampNeg), σ)) dX12_count_119 rfl rfl
  refine q_tsw (tgt := 120) 4 dX12_count_1 (by decide) (by decide) rfl (by decide) ?_ (fun hs5 => ?_)
  · refine q_aload_n (i := 0) (x := 0) dX12_count_120 rfl 0 rfl ?_
    refine q_getr (t := 2) dX12_count_121 foX12_20 zM_0 rfl ?_
    refine q_sipush (v := 304) dX12_count_124 (by decide) ?_
    refine q_iald dX12_count_127 zM_2 ?_
    exact q_ireti (y := ((gi σ 2 (304 : Int32).toNatClampNeg), σ)) dX12_count_128 rfl rfl
  refine q_tsw (tgt := 129) 5 dX12_count_1 (by decide) (by decide) rfl (by decide) ?_ (fun hs6 => ?_)
  · refine q_aload_n (i := 0) (x := 0) dX12_count_129 rfl 0 rfl ?_
    refine q_getr (t := 2) dX12_count_130 foX12_20 zM_0 rfl ?_
    refine q_sipush (v := 307) dX12_count_133 (by decide) ?_
    refine q_iald dX12_count_136 zM_2 ?_
    exact q_ireti (y := ((gi σ 2 (307 : Int32).toNatClampNeg), σ)) dX12_count_137 rfl rfl
  refine q_tsw (tgt := 138) 6 dX12_count_1 (by decide) (by decide) rfl (by decide) ?_ (fun hs7 => ?_)
  · refine q_aload_n (i := 0) (x := 0) dX12_count_138 rfl 0 rfl ?_
    refine q_getr (t := 2) dX12_count_139 foX12_20 zM_0 rfl ?_
    refine q_sipush (v := 305) dX12_count_142 (by decide) ?_
    refine q_iald dX12_count_145 zM_2 ?_
    exact q_ireti (y := ((gi σ 2 (305 : Int32).toNatClampNeg), σ)) dX12_count_146 rfl rfl
  refine q_tsw (tgt := 147) 7 dX12_count_1 (by decide) (by decide) rfl (by decide) ?_ (fun hs8 => ?_)
  · refine q_aload_n (i := 0) (x := 0) dX12_count_147 rfl 0 rfl ?_
    refine q_cVv mX12_laysNews [] (st := []) dX12_count_148 (svX12_223) ⟨Nat.le_of_ble_eq_true rfl, Nat.le_of_ble_eq_true rfl⟩ zM_0 rfl rfl rfl (Nat.le_of_ble_eq_true rfl) (kX12_laysNews N σ) (fun y9 => ?_)
    refine q_aload_n (i := 0) (x := 0) dX12_count_151 rfl 0 rfl ?_
    refine q_geti dX12_count_152 foX12_208 zM_0 rfl ?_
    exact q_ireti (y := ((gi y9 0 10), y9)) dX12_count_155 rfl rfl
  refine q_tsw (tgt := 156) 8 dX12_count_1 (by decide) (by decide) rfl (by decide) ?_ (fun hs10 => ?_)
  · refine q_aload_n (i := 0) (x := 0) dX12_count_156 rfl 0 rfl ?_
    refine q_geti dX12_count_157 foX12_202 zM_0 rfl ?_
    exact q_ireti (y := ((gi σ 0 28), σ)) dX12_count_160 rfl rfl
  refine q_tsw (tgt := 161) 9 dX12_count_1 (by decide) (by decide) rfl (by decide) ?_ (fun hs11 => ?_)
  · exact q_sub [0, 1] rfl (aX12_count_b161 N p1 σ)
  refine q_tsw (tgt := 161) 10 dX12_count_1 (by decide) (by decide) rfl (by decide) ?_ (fun hs12 => ?_)
  · exact q_sub [0, 1] rfl (aX12_count_b161 N p1 σ)
  refine q_tsw (tgt := 161) 11 dX12_count_1 (by decide) (by decide) rfl (by decide) ?_ (fun hs13 => ?_)
  · exact q_sub [0, 1] rfl (aX12_count_b161 N p1 σ)
  refine q_tsw (tgt := 171) 12 dX12_count_1 (by decide) (by decide) rfl (by decide) ?_ (fun hs14 => ?_)
  · refine q_aload_n (i := 0) (x := 0) dX12_count_171 rfl 0 rfl ?_
    refine q_getr (t := 1) dX12_count_172 foX12_7 zM_0 rfl ?_
    refine q_iconst (v := 5) dX12_count_175 (by decide) ?_
    refine q_iald dX12_count_176 zM_1 ?_
    exact q_ireti (y := ((gi σ 1 (5 : Int32).toNatClampNeg), σ)) dX12_count_177 rfl rfl
  refine q_tsw (tgt := 178) 13 dX12_count_1 (by decide) (by decide) rfl (by decide) ?_ (fun hs15 => ?_)
  · refine q_aload_n (i := 0) (x := 0) dX12_count_178 rfl 0 rfl ?_
    refine q_getr (t := 1) dX12_count_179 foX12_7 zM_0 rfl ?_
    refine q_bipush (v := 6) dX12_count_182 (by decide) ?_
    refine q_iald dX12_count_184 zM_1 ?_
    exact q_ireti (y := ((gi σ 1 (6 : Int32).toNatClampNeg), σ)) dX12_count_185 rfl rfl
  refine q_tsw (tgt := 186) 14 dX12_count_1 (by decide) (by decide) rfl (by decide) ?_ (fun hs16 => ?_)
  · refine q_aload_n (i := 0) (x := 0) dX12_count_186 rfl 0 rfl ?_
    refine q_getr (t := 2) dX12_count_187 foX12_20 zM_0 rfl ?_
    refine q_sipush (v := 308) dX12_count_190 (by decide) ?_
    refine q_iald dX12_count_193 zM_2 ?_
    exact q_ireti (y := ((gi σ 2 (308 : Int32).toNatClampNeg), σ)) dX12_count_194 rfl rfl
  refine q_tsw (tgt := 195) 15 dX12_count_1 (by decide) (by decide) rfl (by decide) ?_ (fun hs17 => ?_)
  · refine q_aload_n (i := 0) (x := 0) dX12_count_195 rfl 0 rfl ?_
    refine q_getr (t := 2) dX12_count_196 foX12_20 zM_0 rfl ?_
    refine q_sipush (v := 309) dX12_count_199 (by decide) ?_
    refine q_iald dX12_count_202 zM_2 ?_
    exact q_ireti (y := ((gi σ 2 (309 : Int32).toNatClampNeg), σ)) dX12_count_203 rfl rfl
  refine q_tsw (tgt := 204) 16 dX12_count_1 (by decide) (by decide) rfl (by decide) ?_ (fun hs18 => ?_)
  · refine q_aload_n (i := 0) (x := 0) dX12_count_204 rfl 0 rfl ?_
    refine q_getr (t := 2) dX12_count_205 foX12_20 zM_0 rfl ?_
    refine q_sipush (v := 310) dX12_count_208 (by decide) ?_
    refine q_iald dX12_count_211 zM_2 ?_
    exact q_ireti (y := ((gi σ 2 (310 : Int32).toNatClampNeg), σ)) dX12_count_212 rfl rfl
  refine q_tswD (tgt := 213) dX12_count_1 (swout_17 hs1 hs2 hs3 hs4 hs5 hs6 hs7 hs8 hs10 hs11 hs12 hs13 hs14 hs15 hs16 hs17 hs18) (by decide) ?_
  refine q_iconst (v := (-1)) dX12_count_213 (by decide) ?_
  exact q_ireti (y := ((-1), σ)) dX12_count_214 rfl rfl
theorem kX12_count  (N : Nat) (p1 : Int32)  (σ : qMem) : qMc wM mX12_count (ρi) [.ref 0, .int p1] σ (fX12_count N p1 σ) := qMc_of (moX12_count) (Nat.le_of_ble_eq_true rfl) (aX12_count N p1  σ)

theorem dX12_status_0 : decode cX12_status 0 = .ok (.aload_n 0, 1) := by decide +kernel
theorem dX12_status_1 : decode cX12_status 1 = .ok (.getfield 3, 3) := by decide +kernel
theorem dX12_status_4 : decode cX12_status 4 = .ok (.ireturn, 1) := by decide +kernel

def fX12_status  (σ : qMem) : Option Int32 :=
  (some (gi σ 0 0))
set_option maxRecDepth 20000 in
set_option maxHeartbeats 4000000 in
theorem aX12_status    (σ : qMem) : qAt wM mX12_status (ρp σ) 0 [(0, .ref 0)] [] σ (fX12_status σ) := by
  unfold fX12_status
  refine q_aload_n (i := 0) (x := 0) dX12_status_0 rfl 0 rfl ?_
  refine q_geti dX12_status_1 foX12_3 zM_0 rfl ?_
  exact q_ireti (y := (gi σ 0 0)) dX12_status_4 rfl rfl
theorem kX12_status    (σ : qMem) : qMc wM mX12_status (ρp σ) [.ref 0] σ (fX12_status σ) := qMc_of (moX12_status) (Nat.le_of_ble_eq_true rfl) (aX12_status  σ)

