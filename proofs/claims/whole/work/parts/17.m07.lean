theorem dX12_testOf_0 : decode cX12_testOf 0 = .ok (.aload_n 0, 1) := by decide +kernel
theorem dX12_testOf_1 : decode cX12_testOf 1 = .ok (.iload_n 1, 1) := by decide +kernel
theorem dX12_testOf_2 : decode cX12_testOf 2 = .ok (.invokevirtual 415, 3) := by decide +kernel
theorem dX12_testOf_5 : decode cX12_testOf 5 = .ok (.istore_n 2, 1) := by decide +kernel
theorem dX12_testOf_6 : decode cX12_testOf 6 = .ok (.aload_n 0, 1) := by decide +kernel
theorem dX12_testOf_7 : decode cX12_testOf 7 = .ok (.iconst 5, 1) := by decide +kernel
theorem dX12_testOf_8 : decode cX12_testOf 8 = .ok (.invokevirtual 409, 3) := by decide +kernel
theorem dX12_testOf_11 : decode cX12_testOf 11 = .ok (.ifCond .eq 38, 3) := by decide +kernel
theorem dX12_testOf_14 : decode cX12_testOf 14 = .ok (.aload_n 0, 1) := by decide +kernel
theorem dX12_testOf_15 : decode cX12_testOf 15 = .ok (.iload_n 1, 1) := by decide +kernel
theorem dX12_testOf_16 : decode cX12_testOf 16 = .ok (.ifCond .eq 11, 3) := by decide +kernel
theorem dX12_testOf_19 : decode cX12_testOf 19 = .ok (.iload_n 2, 1) := by decide +kernel
theorem dX12_testOf_20 : decode cX12_testOf 20 = .ok (.ifCond .ne 7, 3) := by decide +kernel
theorem dX12_testOf_23 : decode cX12_testOf 23 = .ok (.iconst 1, 1) := by decide +kernel
theorem dX12_testOf_24 : decode cX12_testOf 24 = .ok (.goto 4, 3) := by decide +kernel
theorem dX12_testOf_27 : decode cX12_testOf 27 = .ok (.iconst 0, 1) := by decide +kernel
theorem dX12_testOf_28 : decode cX12_testOf 28 = .ok (.invokevirtual 415, 3) := by decide +kernel
theorem dX12_testOf_31 : decode cX12_testOf 31 = .ok (.istore_n 3, 1) := by decide +kernel
theorem dX12_testOf_32 : decode cX12_testOf 32 = .ok (.iload_n 2, 1) := by decide +kernel
theorem dX12_testOf_33 : decode cX12_testOf 33 = .ok (.ifCond .ne 7, 3) := by decide +kernel
theorem dX12_testOf_36 : decode cX12_testOf 36 = .ok (.iload_n 3, 1) := by decide +kernel
theorem dX12_testOf_37 : decode cX12_testOf 37 = .ok (.ifCond .eq 7, 3) := by decide +kernel
theorem dX12_testOf_40 : decode cX12_testOf 40 = .ok (.iconst 1, 1) := by decide +kernel
theorem dX12_testOf_41 : decode cX12_testOf 41 = .ok (.goto 4, 3) := by decide +kernel
theorem dX12_testOf_44 : decode cX12_testOf 44 = .ok (.iconst 0, 1) := by decide +kernel
theorem dX12_testOf_45 : decode cX12_testOf 45 = .ok (.istore_n 2, 1) := by decide +kernel
theorem dX12_testOf_46 : decode cX12_testOf 46 = .ok (.goto (-40), 3) := by decide +kernel
theorem dX12_testOf_49 : decode cX12_testOf 49 = .ok (.iload_n 2, 1) := by decide +kernel
theorem dX12_testOf_50 : decode cX12_testOf 50 = .ok (.ireturn, 1) := by decide +kernel
def fX12_testOf_b45 (N : Nat) (rX12_testOf : Int32 → qMem → Option (Int32 × qMem)) (c6 : Int32 → Int32 → qMem → Option (Int32 × qMem)) (v1 : Int32) (u0 : Int32) (σ : qMem) : Option (Int32 × qMem) :=
  (c6 v1 u0 σ)
set_option maxRecDepth 20000 in
set_option maxHeartbeats 4000000 in
theorem aX12_testOf_b45 (d : Nat) (N : Nat) (rX12_testOf : Int32 → qMem → Option (Int32 × qMem)) (hX12_testOf : ∀ (p1 : Int32)  (σ : qMem), qMc wM (mX12_testOf d) (ρi) [.ref 0, .int p1] σ (rX12_testOf p1 σ)) (c6 : Int32 → Int32 → qMem → Option (Int32 × qMem)) (hc6 : ∀ (v1 : Int32) (v2 : Int32) (σ : qMem), qAt wM (mX12_testOf (d + 1)) (ρi) 6 [(0, .ref 0), (1, .int v1), (2, .int v2)] [] σ (c6 v1 v2 σ)) (v1 : Int32) (u0 : Int32) (σ : qMem) : qAt wM (mX12_testOf (d + 1)) (ρi) 45 [(0, .ref 0), (1, .int v1)] [.int u0] σ (fX12_testOf_b45 N rX12_testOf c6 v1 u0 σ) := by
  unfold fX12_testOf_b45
  refine q_istore_n (i := 2) (L' := [(2, .int u0), (0, .ref 0), (1, .int v1)]) dX12_testOf_45 rfl (Nat.le_of_ble_eq_true rfl) rfl ?_
  refine q_goto (tgt := 6) dX12_testOf_46 (by decide) ?_
  exact q_sub [1, 2, 0] rfl (hc6 v1 u0 σ)

def fX12_testOf_b40 (N : Nat) (rX12_testOf : Int32 → qMem → Option (Int32 × qMem)) (c6 : Int32 → Int32 → qMem → Option (Int32 × qMem)) (v1 : Int32) (σ : qMem) : Option (Int32 × qMem) :=
  (fX12_testOf_b45 N rX12_testOf c6 v1 1 σ)
set_option maxRecDepth 20000 in
set_option maxHeartbeats 4000000 in
theorem aX12_testOf_b40 (d : Nat) (N : Nat) (rX12_testOf : Int32 → qMem → Option (Int32 × qMem)) (hX12_testOf : ∀ (p1 : Int32)  (σ : qMem), qMc wM (mX12_testOf d) (ρi) [.ref 0, .int p1] σ (rX12_testOf p1 σ)) (c6 : Int32 → Int32 → qMem → Option (Int32 × qMem)) (hc6 : ∀ (v1 : Int32) (v2 : Int32) (σ : qMem), qAt wM (mX12_testOf (d + 1)) (ρi) 6 [(0, .ref 0), (1, .int v1), (2, .int v2)] [] σ (c6 v1 v2 σ)) (v1 : Int32) (σ : qMem) : qAt wM (mX12_testOf (d + 1)) (ρi) 40 [(0, .ref 0), (1, .int v1)] [] σ (fX12_testOf_b40 N rX12_testOf c6 v1 σ) := by
  unfold fX12_testOf_b40
  refine q_iconst (v := 1) dX12_testOf_40 (by decide) ?_
  refine q_goto (tgt := 45) dX12_testOf_41 (by decide) ?_
  exact q_sub [0, 1] rfl (aX12_testOf_b45 d N rX12_testOf hX12_testOf c6 hc6 v1 1 σ)

def fX12_testOf_b28 (N : Nat) (rX12_testOf : Int32 → qMem → Option (Int32 × qMem)) (c6 : Int32 → Int32 → qMem → Option (Int32 × qMem)) (v1 : Int32) (v2 : Int32) (u1 : Int32) (σ : qMem) : Option (Int32 × qMem) :=
  ((fX12_bothOf N rX12_testOf u1 σ).bind fun y3 => (if v2 = 0 then (if y3.1 = 0 then (fX12_testOf_b45 N rX12_testOf c6 v1 0 y3.2) else (fX12_testOf_b40 N rX12_testOf c6 v1 y3.2)) else (fX12_testOf_b40 N rX12_testOf c6 v1 y3.2)))
set_option maxRecDepth 20000 in
set_option maxHeartbeats 4000000 in
theorem aX12_testOf_b28 (d : Nat) (N : Nat) (rX12_testOf : Int32 → qMem → Option (Int32 × qMem)) (hX12_testOf : ∀ (p1 : Int32)  (σ : qMem), qMc wM (mX12_testOf d) (ρi) [.ref 0, .int p1] σ (rX12_testOf p1 σ)) (c6 : Int32 → Int32 → qMem → Option (Int32 × qMem)) (hc6 : ∀ (v1 : Int32) (v2 : Int32) (σ : qMem), qAt wM (mX12_testOf (d + 1)) (ρi) 6 [(0, .ref 0), (1, .int v1), (2, .int v2)] [] σ (c6 v1 v2 σ)) (v1 : Int32) (v2 : Int32) (u1 : Int32) (σ : qMem) : qAt wM (mX12_testOf (d + 1)) (ρi) 28 [(0, .ref 0), (1, .int v1), (2, .int v2)] [.int u1, .ref 0] σ (fX12_testOf_b28 N rX12_testOf c6 v1 v2 u1 σ) := by
  unfold fX12_testOf_b28
  refine q_cVi (mX12_bothOf d) [.int u1] (st := []) dX12_testOf_28 (svX12_415 _) (by unfold rR mX12_bothOf mX12_testOf; constructor <;> dsimp only <;> omega) zM_0 rfl rfl rfl (Nat.le_of_ble_eq_true rfl) (kX12_bothOf d N rX12_testOf u1 hX12_testOf σ) (fun y3 => ?_)
  refine q_istore_n (i := 3) (L' := [(3, .int y3.1), (0, .ref 0), (1, .int v1), (2, .int v2)]) dX12_testOf_31 rfl (Nat.le_of_ble_eq_true rfl) rfl ?_
  refine q_iload_n (i := 2) (x := v2) dX12_testOf_32 rfl 3 rfl ?_
  refine q_if_ne (tgt := 40) dX12_testOf_33 (by decide) ?_ ?_
  · exact q_sub [1, 2] rfl (aX12_testOf_b40 d N rX12_testOf hX12_testOf c6 hc6 v1 y3.2)
  refine q_iload_n (i := 3) (x := y3.1) dX12_testOf_36 rfl 0 rfl ?_
  refine q_if_eq (tgt := 44) dX12_testOf_37 (by decide) ?_ ?_
  · refine q_iconst (v := 0) dX12_testOf_44 (by decide) ?_
    exact q_sub [1, 2] rfl (aX12_testOf_b45 d N rX12_testOf hX12_testOf c6 hc6 v1 0 y3.2)
  exact q_sub [1, 2] rfl (aX12_testOf_b40 d N rX12_testOf hX12_testOf c6 hc6 v1 y3.2)

def fX12_testOf_b27 (N : Nat) (rX12_testOf : Int32 → qMem → Option (Int32 × qMem)) (c6 : Int32 → Int32 → qMem → Option (Int32 × qMem)) (v1 : Int32) (v2 : Int32) (σ : qMem) : Option (Int32 × qMem) :=
  (fX12_testOf_b28 N rX12_testOf c6 v1 v2 0 σ)
set_option maxRecDepth 20000 in
set_option maxHeartbeats 4000000 in
theorem aX12_testOf_b27 (d : Nat) (N : Nat) (rX12_testOf : Int32 → qMem → Option (Int32 × qMem)) (hX12_testOf : ∀ (p1 : Int32)  (σ : qMem), qMc wM (mX12_testOf d) (ρi) [.ref 0, .int p1] σ (rX12_testOf p1 σ)) (c6 : Int32 → Int32 → qMem → Option (Int32 × qMem)) (hc6 : ∀ (v1 : Int32) (v2 : Int32) (σ : qMem), qAt wM (mX12_testOf (d + 1)) (ρi) 6 [(0, .ref 0), (1, .int v1), (2, .int v2)] [] σ (c6 v1 v2 σ)) (v1 : Int32) (v2 : Int32) (σ : qMem) : qAt wM (mX12_testOf (d + 1)) (ρi) 27 [(0, .ref 0), (1, .int v1), (2, .int v2)] [.ref 0] σ (fX12_testOf_b27 N rX12_testOf c6 v1 v2 σ) := by
  unfold fX12_testOf_b27
  refine q_iconst (v := 0) dX12_testOf_27 (by decide) ?_
  exact q_sub [0, 1, 2] rfl (aX12_testOf_b28 d N rX12_testOf hX12_testOf c6 hc6 v1 v2 0 σ)

def fX12_testOf_s6 (N : Nat) (rX12_testOf : Int32 → qMem → Option (Int32 × qMem)) (c6 : Int32 → Int32 → qMem → Option (Int32 × qMem)) (v1 : Int32) (v2 : Int32) (σ : qMem) : Option (Int32 × qMem) :=
  ((fX12_passes 5 σ).bind fun y2 => (if y2.1 = 0 then (if v2 = 0 ∨ v2 = 1 then some (v2, y2.2) else none) else (if v1 = 0 then (fX12_testOf_b27 N rX12_testOf c6 v1 v2 y2.2) else (if v2 = 0 then (fX12_testOf_b28 N rX12_testOf c6 v1 v2 1 y2.2) else (fX12_testOf_b27 N rX12_testOf c6 v1 v2 y2.2)))))
set_option maxRecDepth 20000 in
set_option maxHeartbeats 4000000 in
theorem aX12_testOf_s6 (d : Nat) (N : Nat) (rX12_testOf : Int32 → qMem → Option (Int32 × qMem)) (hX12_testOf : ∀ (p1 : Int32)  (σ : qMem), qMc wM (mX12_testOf d) (ρi) [.ref 0, .int p1] σ (rX12_testOf p1 σ)) (c6 : Int32 → Int32 → qMem → Option (Int32 × qMem)) (hc6 : ∀ (v1 : Int32) (v2 : Int32) (σ : qMem), qAt wM (mX12_testOf (d + 1)) (ρi) 6 [(0, .ref 0), (1, .int v1), (2, .int v2)] [] σ (c6 v1 v2 σ)) (v1 : Int32) (v2 : Int32) (σ : qMem) : qAt wM (mX12_testOf (d + 1)) (ρi) 6 [(0, .ref 0), (1, .int v1), (2, .int v2)] [] σ (fX12_testOf_s6 N rX12_testOf c6 v1 v2 σ) := by
  unfold fX12_testOf_s6
  refine q_aload_n (i := 0) (x := 0) dX12_testOf_6 rfl 0 rfl ?_
  refine q_iconst (v := 5) dX12_testOf_7 (by decide) ?_
  refine q_cVi mX12_passes [.int 5] (st := []) dX12_testOf_8 (svX12_409) (by unfold rR mX12_passes mX12_testOf; constructor <;> dsimp only <;> omega) zM_0 rfl rfl rfl (Nat.le_of_ble_eq_true rfl) (kX12_passes 5 σ) (fun y2 => ?_)
  refine q_if_eq (tgt := 49) dX12_testOf_11 (by decide) ?_ ?_
  · refine q_iload_n (i := 2) (x := v2) dX12_testOf_49 rfl 2 rfl ?_
    exact q_if (fun hz => q_iretz (y := (v2, y2.2)) dX12_testOf_50 rfl (nb_ok hz) rfl)
  refine q_aload_n (i := 0) (x := 0) dX12_testOf_14 rfl 0 rfl ?_
  refine q_iload_n (i := 1) (x := v1) dX12_testOf_15 rfl 1 rfl ?_
  refine q_if_eq (tgt := 27) dX12_testOf_16 (by decide) ?_ ?_
  · exact q_sub [0, 1, 2] rfl (aX12_testOf_b27 d N rX12_testOf hX12_testOf c6 hc6 v1 v2 y2.2)
  refine q_iload_n (i := 2) (x := v2) dX12_testOf_19 rfl 2 rfl ?_
  refine q_if_ne (tgt := 27) dX12_testOf_20 (by decide) ?_ ?_
  · exact q_sub [0, 1, 2] rfl (aX12_testOf_b27 d N rX12_testOf hX12_testOf c6 hc6 v1 v2 y2.2)
  refine q_iconst (v := 1) dX12_testOf_23 (by decide) ?_
  refine q_goto (tgt := 28) dX12_testOf_24 (by decide) ?_
  exact q_sub [0, 1, 2] rfl (aX12_testOf_b28 d N rX12_testOf hX12_testOf c6 hc6 v1 v2 1 y2.2)
def fX12_testOf_l6 (N : Nat) (rX12_testOf : Int32 → qMem → Option (Int32 × qMem)) : Nat → Int32 → Int32 → qMem → Option (Int32 × qMem)
  | 0 => fun _ _ _ => none
  | n + 1 => fun v1 v2 σ => fX12_testOf_s6 N rX12_testOf (fX12_testOf_l6 N rX12_testOf n) v1 v2 σ
theorem aX12_testOf_l6 (d : Nat) (N : Nat) (rX12_testOf : Int32 → qMem → Option (Int32 × qMem)) (hX12_testOf : ∀ (p1 : Int32)  (σ : qMem), qMc wM (mX12_testOf d) (ρi) [.ref 0, .int p1] σ (rX12_testOf p1 σ)) : ∀ (n : Nat) (v1 : Int32) (v2 : Int32) (σ : qMem), qAt wM (mX12_testOf (d + 1)) (ρi) 6 [(0, .ref 0), (1, .int v1), (2, .int v2)] [] σ (fX12_testOf_l6 N rX12_testOf n v1 v2 σ) := by
  intro n
  induction n with
  | zero => intro v1 v2 σ; exact q_none
  | succ n ih => intro v1 v2 σ; exact aX12_testOf_s6 d N rX12_testOf hX12_testOf (fX12_testOf_l6 N rX12_testOf n) ih v1 v2 σ

def fX12_testOf_e (N : Nat) (rX12_testOf : Int32 → qMem → Option (Int32 × qMem)) (p1 : Int32) (σ : qMem) : Option (Int32 × qMem) :=
  ((fX12_bothOf N rX12_testOf p1 σ).bind fun y1 => (fX12_testOf_l6 N rX12_testOf N p1 y1.1 y1.2))
set_option maxRecDepth 20000 in
set_option maxHeartbeats 4000000 in
theorem aX12_testOf_e (d : Nat) (N : Nat) (rX12_testOf : Int32 → qMem → Option (Int32 × qMem)) (p1 : Int32) (hX12_testOf : ∀ (p1 : Int32)  (σ : qMem), qMc wM (mX12_testOf d) (ρi) [.ref 0, .int p1] σ (rX12_testOf p1 σ)) (σ : qMem) : qAt wM (mX12_testOf (d + 1)) (ρi) 0 [(0, .ref 0), (1, .int p1)] [] σ (fX12_testOf_e N rX12_testOf p1 σ) := by
  unfold fX12_testOf_e
  refine q_aload_n (i := 0) (x := 0) dX12_testOf_0 rfl 0 rfl ?_
  refine q_iload_n (i := 1) (x := p1) dX12_testOf_1 rfl 1 rfl ?_
  refine q_cVi (mX12_bothOf d) [.int p1] (st := []) dX12_testOf_2 (svX12_415 _) (by unfold rR mX12_bothOf mX12_testOf; constructor <;> dsimp only <;> omega) zM_0 rfl rfl rfl (Nat.le_of_ble_eq_true rfl) (kX12_bothOf d N rX12_testOf p1 hX12_testOf σ) (fun y1 => ?_)
  refine q_istore_n (i := 2) (L' := [(2, .int y1.1), (0, .ref 0), (1, .int p1)]) dX12_testOf_5 rfl (Nat.le_of_ble_eq_true rfl) rfl ?_
  exact q_sub [1, 2, 0] rfl (aX12_testOf_l6 d N rX12_testOf hX12_testOf N p1 y1.1 y1.2)
def fX12_testOf (N : Nat) : Nat → Int32 → qMem → Option (Int32 × qMem)
  | 0 => fun _ _ => none
  | d + 1 => fun p1 σ => fX12_testOf_e N (fX12_testOf N d) p1 σ
theorem kX12_testOf (N : Nat) : ∀ (d : Nat) (p1 : Int32)  (σ : qMem), qMc wM (mX12_testOf d) (ρi) [.ref 0, .int p1] σ (fX12_testOf N d p1 σ) := by
  intro d
  induction d with
  | zero => intro p1  σ; exact fun _ h => by cases h
  | succ d ih => intro p1  σ; exact qMc_of (moX12_testOf _) (Nat.le_of_ble_eq_true rfl) (aX12_testOf_e d N (fX12_testOf N d) p1 ih  σ)

theorem dX12_tellsOf_0 : decode cX12_tellsOf 0 = .ok (.aload_n 0, 1) := by decide +kernel
theorem dX12_tellsOf_1 : decode cX12_tellsOf 1 = .ok (.getfield 98, 3) := by decide +kernel
theorem dX12_tellsOf_4 : decode cX12_tellsOf 4 = .ok (.iconst 2, 1) := by decide +kernel
theorem dX12_tellsOf_5 : decode cX12_tellsOf 5 = .ok (.iload_n 1, 1) := by decide +kernel
theorem dX12_tellsOf_6 : decode cX12_tellsOf 6 = .ok (.iastore, 1) := by decide +kernel
theorem dX12_tellsOf_7 : decode cX12_tellsOf 7 = .ok (.aload_n 0, 1) := by decide +kernel
theorem dX12_tellsOf_8 : decode cX12_tellsOf 8 = .ok (.iconst 0, 1) := by decide +kernel
theorem dX12_tellsOf_9 : decode cX12_tellsOf 9 = .ok (.putfield 384, 3) := by decide +kernel
theorem dX12_tellsOf_12 : decode cX12_tellsOf 12 = .ok (.aload_n 0, 1) := by decide +kernel
theorem dX12_tellsOf_13 : decode cX12_tellsOf 13 = .ok (.aload_n 0, 1) := by decide +kernel
theorem dX12_tellsOf_14 : decode cX12_tellsOf 14 = .ok (.getfield 20, 3) := by decide +kernel
theorem dX12_tellsOf_17 : decode cX12_tellsOf 17 = .ok (.sipush 306, 3) := by decide +kernel
theorem dX12_tellsOf_20 : decode cX12_tellsOf 20 = .ok (.iaload, 1) := by decide +kernel
theorem dX12_tellsOf_21 : decode cX12_tellsOf 21 = .ok (.putfield 381, 3) := by decide +kernel
theorem dX12_tellsOf_24 : decode cX12_tellsOf 24 = .ok (.lconst 0, 1) := by decide +kernel
theorem dX12_tellsOf_25 : decode cX12_tellsOf 25 = .ok (.lstore_n 3, 1) := by decide +kernel
theorem dX12_tellsOf_26 : decode cX12_tellsOf 26 = .ok (.aload_n 0, 1) := by decide +kernel
theorem dX12_tellsOf_27 : decode cX12_tellsOf 27 = .ok (.getfield 384, 3) := by decide +kernel
theorem dX12_tellsOf_30 : decode cX12_tellsOf 30 = .ok (.aload_n 0, 1) := by decide +kernel
theorem dX12_tellsOf_31 : decode cX12_tellsOf 31 = .ok (.getfield 381, 3) := by decide +kernel
theorem dX12_tellsOf_34 : decode cX12_tellsOf 34 = .ok (.if_icmp .ge 122, 3) := by decide +kernel
theorem dX12_tellsOf_37 : decode cX12_tellsOf 37 = .ok (.aload_n 0, 1) := by decide +kernel
theorem dX12_tellsOf_38 : decode cX12_tellsOf 38 = .ok (.iconst 0, 1) := by decide +kernel
theorem dX12_tellsOf_39 : decode cX12_tellsOf 39 = .ok (.putfield 394, 3) := by decide +kernel
theorem dX12_tellsOf_42 : decode cX12_tellsOf 42 = .ok (.aload_n 0, 1) := by decide +kernel
theorem dX12_tellsOf_43 : decode cX12_tellsOf 43 = .ok (.aload_n 0, 1) := by decide +kernel
theorem dX12_tellsOf_44 : decode cX12_tellsOf 44 = .ok (.getfield 384, 3) := by decide +kernel
theorem dX12_tellsOf_47 : decode cX12_tellsOf 47 = .ok (.invokevirtual 387, 3) := by decide +kernel
theorem dX12_tellsOf_50 : decode cX12_tellsOf 50 = .ok (.istore 5, 2) := by decide +kernel
theorem dX12_tellsOf_52 : decode cX12_tellsOf 52 = .ok (.aload_n 0, 1) := by decide +kernel
theorem dX12_tellsOf_53 : decode cX12_tellsOf 53 = .ok (.dup, 1) := by decide +kernel
theorem dX12_tellsOf_54 : decode cX12_tellsOf 54 = .ok (.getfield 384, 3) := by decide +kernel
theorem dX12_tellsOf_57 : decode cX12_tellsOf 57 = .ok (.iconst 1, 1) := by decide +kernel
theorem dX12_tellsOf_58 : decode cX12_tellsOf 58 = .ok (.iadd, 1) := by decide +kernel
theorem dX12_tellsOf_59 : decode cX12_tellsOf 59 = .ok (.putfield 384, 3) := by decide +kernel
theorem dX12_tellsOf_62 : decode cX12_tellsOf 62 = .ok (.aload_n 0, 1) := by decide +kernel
theorem dX12_tellsOf_63 : decode cX12_tellsOf 63 = .ok (.iconst 1, 1) := by decide +kernel
theorem dX12_tellsOf_64 : decode cX12_tellsOf 64 = .ok (.invokevirtual 412, 3) := by decide +kernel
theorem dX12_tellsOf_67 : decode cX12_tellsOf 67 = .ok (.lstore 6, 2) := by decide +kernel
theorem dX12_tellsOf_69 : decode cX12_tellsOf 69 = .ok (.aload_n 0, 1) := by decide +kernel
theorem dX12_tellsOf_70 : decode cX12_tellsOf 70 = .ok (.getfield 394, 3) := by decide +kernel
theorem dX12_tellsOf_73 : decode cX12_tellsOf 73 = .ok (.istore 8, 2) := by decide +kernel
theorem dX12_tellsOf_75 : decode cX12_tellsOf 75 = .ok (.aload_n 0, 1) := by decide +kernel
theorem dX12_tellsOf_76 : decode cX12_tellsOf 76 = .ok (.iconst 0, 1) := by decide +kernel
theorem dX12_tellsOf_77 : decode cX12_tellsOf 77 = .ok (.putfield 394, 3) := by decide +kernel
theorem dX12_tellsOf_80 : decode cX12_tellsOf 80 = .ok (.aload_n 0, 1) := by decide +kernel
theorem dX12_tellsOf_81 : decode cX12_tellsOf 81 = .ok (.iconst 4, 1) := by decide +kernel
theorem dX12_tellsOf_82 : decode cX12_tellsOf 82 = .ok (.invokevirtual 409, 3) := by decide +kernel
theorem dX12_tellsOf_85 : decode cX12_tellsOf 85 = .ok (.ifCond .eq 11, 3) := by decide +kernel
theorem dX12_tellsOf_88 : decode cX12_tellsOf 88 = .ok (.aload_n 0, 1) := by decide +kernel
theorem dX12_tellsOf_89 : decode cX12_tellsOf 89 = .ok (.iconst 1, 1) := by decide +kernel
theorem dX12_tellsOf_90 : decode cX12_tellsOf 90 = .ok (.invokevirtual 425, 3) := by decide +kernel
theorem dX12_tellsOf_93 : decode cX12_tellsOf 93 = .ok (.ifCond .eq 7, 3) := by decide +kernel
theorem dX12_tellsOf_96 : decode cX12_tellsOf 96 = .ok (.iconst 1, 1) := by decide +kernel
theorem dX12_tellsOf_97 : decode cX12_tellsOf 97 = .ok (.goto 4, 3) := by decide +kernel
theorem dX12_tellsOf_100 : decode cX12_tellsOf 100 = .ok (.iconst 0, 1) := by decide +kernel
theorem dX12_tellsOf_101 : decode cX12_tellsOf 101 = .ok (.istore 9, 2) := by decide +kernel
theorem dX12_tellsOf_103 : decode cX12_tellsOf 103 = .ok (.iload 9, 2) := by decide +kernel
theorem dX12_tellsOf_105 : decode cX12_tellsOf 105 = .ok (.ifCond .eq 27, 3) := by decide +kernel
theorem dX12_tellsOf_108 : decode cX12_tellsOf 108 = .ok (.aload_n 0, 1) := by decide +kernel
theorem dX12_tellsOf_109 : decode cX12_tellsOf 109 = .ok (.getfield 394, 3) := by decide +kernel
theorem dX12_tellsOf_112 : decode cX12_tellsOf 112 = .ok (.ifCond .ne 20, 3) := by decide +kernel
theorem dX12_tellsOf_115 : decode cX12_tellsOf 115 = .ok (.iload 8, 2) := by decide +kernel
theorem dX12_tellsOf_117 : decode cX12_tellsOf 117 = .ok (.ifCond .ne 15, 3) := by decide +kernel
theorem dX12_tellsOf_120 : decode cX12_tellsOf 120 = .ok (.iload 5, 2) := by decide +kernel
theorem dX12_tellsOf_122 : decode cX12_tellsOf 122 = .ok (.iconst 1, 1) := by decide +kernel
theorem dX12_tellsOf_123 : decode cX12_tellsOf 123 = .ok (.iload_n 2, 1) := by decide +kernel
theorem dX12_tellsOf_124 : decode cX12_tellsOf 124 = .ok (.iadd, 1) := by decide +kernel
theorem dX12_tellsOf_125 : decode cX12_tellsOf 125 = .ok (.if_icmp .ne 7, 3) := by decide +kernel
theorem dX12_tellsOf_128 : decode cX12_tellsOf 128 = .ok (.iconst 1, 1) := by decide +kernel
theorem dX12_tellsOf_129 : decode cX12_tellsOf 129 = .ok (.goto 4, 3) := by decide +kernel
theorem dX12_tellsOf_132 : decode cX12_tellsOf 132 = .ok (.iconst 0, 1) := by decide +kernel
theorem dX12_tellsOf_133 : decode cX12_tellsOf 133 = .ok (.istore 9, 2) := by decide +kernel
theorem dX12_tellsOf_135 : decode cX12_tellsOf 135 = .ok (.aload_n 0, 1) := by decide +kernel
theorem dX12_tellsOf_136 : decode cX12_tellsOf 136 = .ok (.dup, 1) := by decide +kernel
theorem dX12_tellsOf_137 : decode cX12_tellsOf 137 = .ok (.getfield 384, 3) := by decide +kernel
theorem dX12_tellsOf_140 : decode cX12_tellsOf 140 = .ok (.iconst 1, 1) := by decide +kernel
theorem dX12_tellsOf_141 : decode cX12_tellsOf 141 = .ok (.iadd, 1) := by decide +kernel
theorem dX12_tellsOf_142 : decode cX12_tellsOf 142 = .ok (.putfield 384, 3) := by decide +kernel
theorem dX12_tellsOf_145 : decode cX12_tellsOf 145 = .ok (.iload 9, 2) := by decide +kernel
theorem dX12_tellsOf_147 : decode cX12_tellsOf 147 = .ok (.ifCond .eq 6, 3) := by decide +kernel
theorem dX12_tellsOf_150 : decode cX12_tellsOf 150 = .ok (.lload 6, 2) := by decide +kernel
theorem dX12_tellsOf_152 : decode cX12_tellsOf 152 = .ok (.lstore_n 3, 1) := by decide +kernel
theorem dX12_tellsOf_153 : decode cX12_tellsOf 153 = .ok (.goto (-127), 3) := by decide +kernel
theorem dX12_tellsOf_156 : decode cX12_tellsOf 156 = .ok (.lload_n 3, 1) := by decide +kernel
theorem dX12_tellsOf_157 : decode cX12_tellsOf 157 = .ok (.l2i, 1) := by decide +kernel
theorem dX12_tellsOf_158 : decode cX12_tellsOf 158 = .ok (.ireturn, 1) := by decide +kernel
def fX12_tellsOf_b153 (N : Nat) (c26 : Int32 → Int64 → qMem → Option (Int32 × qMem)) (v2 : Int32) (v3 : Int64) (σ : qMem) : Option (Int32 × qMem) :=
  (c26 v2 v3 σ)
set_option maxRecDepth 20000 in
set_option maxHeartbeats 4000000 in
theorem aX12_tellsOf_b153 (N : Nat) (c26 : Int32 → Int64 → qMem → Option (Int32 × qMem)) (hc26 : ∀ (v2 : Int32) (v3 : Int64) (σ : qMem), qAt wM mX12_tellsOf (ρi) 26 [(0, .ref 0), (2, .int v2), (3, .long v3)] [] σ (c26 v2 v3 σ)) (v2 : Int32) (v3 : Int64) (σ : qMem) : qAt wM mX12_tellsOf (ρi) 153 [(0, .ref 0), (2, .int v2), (3, .long v3)] [] σ (fX12_tellsOf_b153 N c26 v2 v3 σ) := by
  unfold fX12_tellsOf_b153
  refine q_goto (tgt := 26) dX12_tellsOf_153 (by decide) ?_
  exact q_sub [0, 1, 2] rfl (hc26 v2 v3 σ)

def fX12_tellsOf_b133 (N : Nat) (c26 : Int32 → Int64 → qMem → Option (Int32 × qMem)) (v2 : Int32) (v3 : Int64) (v6 : Int64) (u0 : Int32) (σ : qMem) : Option (Int32 × qMem) :=
  (nmM (si σ 0 37 ((gi σ 0 37) + 1)) fun s11 => (if u0 = 0 then (fX12_tellsOf_b153 N c26 v2 v3 s11) else (fX12_tellsOf_b153 N c26 v2 v6 s11)))
set_option maxRecDepth 20000 in
set_option maxHeartbeats 4000000 in
theorem aX12_tellsOf_b133 (N : Nat) (c26 : Int32 → Int64 → qMem → Option (Int32 × qMem)) (hc26 : ∀ (v2 : Int32) (v3 : Int64) (σ : qMem), qAt wM mX12_tellsOf (ρi) 26 [(0, .ref 0), (2, .int v2), (3, .long v3)] [] σ (c26 v2 v3 σ)) (v2 : Int32) (v3 : Int64) (v6 : Int64) (u0 : Int32) (σ : qMem) : qAt wM mX12_tellsOf (ρi) 133 [(0, .ref 0), (2, .int v2), (3, .long v3), (6, .long v6)] [.int u0] σ (fX12_tellsOf_b133 N c26 v2 v3 v6 u0 σ) := by
  unfold fX12_tellsOf_b133
  refine q_istore (i := 9) (L' := [(9, .int u0), (0, .ref 0), (2, .int v2), (3, .long v3), (6, .long v6)]) dX12_tellsOf_133 (Nat.le_of_ble_eq_true rfl) rfl ?_
  refine q_aload_n (i := 0) (x := 0) dX12_tellsOf_135 rfl 1 rfl ?_
  refine q_dup dX12_tellsOf_136 rfl ?_
  refine q_geti dX12_tellsOf_137 foX12_384 zM_0 rfl ?_
  refine q_iconst (v := 1) dX12_tellsOf_140 (by decide) ?_
  refine q_iadd dX12_tellsOf_141 ?_
  refine q_puti dX12_tellsOf_142 foX12_384 fwX12_37 zM_0 rfl ?_
  refine q_nmM (fun s11 => ?_)
  refine q_iload (i := 9) (x := u0) dX12_tellsOf_145 0 rfl ?_
  refine q_if_eq (tgt := 153) dX12_tellsOf_147 (by decide) ?_ ?_
  · exact q_sub [1, 2, 3] rfl (aX12_tellsOf_b153 N c26 hc26 v2 v3 s11)
  refine q_lload (i := 6) (x := v6) dX12_tellsOf_150 4 rfl ?_
  refine q_lstore_n (i := 3) (L' := [(3, .long v6), (9, .int u0), (0, .ref 0), (2, .int v2), (6, .long v6)]) dX12_tellsOf_152 rfl (Nat.le_of_ble_eq_true rfl) rfl ?_
  exact q_sub [2, 3, 0] rfl (aX12_tellsOf_b153 N c26 hc26 v2 v6 s11)

def fX12_tellsOf_b132 (N : Nat) (c26 : Int32 → Int64 → qMem → Option (Int32 × qMem)) (v2 : Int32) (v3 : Int64) (v6 : Int64) (σ : qMem) : Option (Int32 × qMem) :=
  (fX12_tellsOf_b133 N c26 v2 v3 v6 0 σ)
set_option maxRecDepth 20000 in
set_option maxHeartbeats 4000000 in
theorem aX12_tellsOf_b132 (N : Nat) (c26 : Int32 → Int64 → qMem → Option (Int32 × qMem)) (hc26 : ∀ (v2 : Int32) (v3 : Int64) (σ : qMem), qAt wM mX12_tellsOf (ρi) 26 [(0, .ref 0), (2, .int v2), (3, .long v3)] [] σ (c26 v2 v3 σ)) (v2 : Int32) (v3 : Int64) (v6 : Int64) (σ : qMem) : qAt wM mX12_tellsOf (ρi) 132 [(0, .ref 0), (2, .int v2), (3, .long v3), (6, .long v6)] [] σ (fX12_tellsOf_b132 N c26 v2 v3 v6 σ) := by
  unfold fX12_tellsOf_b132
  refine q_iconst (v := 0) dX12_tellsOf_132 (by decide) ?_
  exact q_sub [0, 1, 2, 3] rfl (aX12_tellsOf_b133 N c26 hc26 v2 v3 v6 0 σ)

def fX12_tellsOf_b101 (N : Nat) (c26 : Int32 → Int64 → qMem → Option (Int32 × qMem)) (v2 : Int32) (v3 : Int64) (v5 : Int32) (v6 : Int64) (v8 : Int32) (u0 : Int32) (σ : qMem) : Option (Int32 × qMem) :=
  (if u0 = 0 then (fX12_tellsOf_b132 N c26 v2 v3 v6 σ) else (if (gi σ 0 39) = 0 then (if v8 = 0 then (if v5 = (1 + v2) then (fX12_tellsOf_b133 N c26 v2 v3 v6 1 σ) else (fX12_tellsOf_b132 N c26 v2 v3 v6 σ)) else (fX12_tellsOf_b132 N c26 v2 v3 v6 σ)) else (fX12_tellsOf_b132 N c26 v2 v3 v6 σ)))
set_option maxRecDepth 20000 in
set_option maxHeartbeats 4000000 in
theorem aX12_tellsOf_b101 (N : Nat) (c26 : Int32 → Int64 → qMem → Option (Int32 × qMem)) (hc26 : ∀ (v2 : Int32) (v3 : Int64) (σ : qMem), qAt wM mX12_tellsOf (ρi) 26 [(0, .ref 0), (2, .int v2), (3, .long v3)] [] σ (c26 v2 v3 σ)) (v2 : Int32) (v3 : Int64) (v5 : Int32) (v6 : Int64) (v8 : Int32) (u0 : Int32) (σ : qMem) : qAt wM mX12_tellsOf (ρi) 101 [(0, .ref 0), (2, .int v2), (3, .long v3), (5, .int v5), (6, .long v6), (8, .int v8)] [.int u0] σ (fX12_tellsOf_b101 N c26 v2 v3 v5 v6 v8 u0 σ) := by
  unfold fX12_tellsOf_b101
  refine q_istore (i := 9) (L' := [(9, .int u0), (0, .ref 0), (2, .int v2), (3, .long v3), (5, .int v5), (6, .long v6), (8, .int v8)]) dX12_tellsOf_101 (Nat.le_of_ble_eq_true rfl) rfl ?_
  refine q_iload (i := 9) (x := u0) dX12_tellsOf_103 0 rfl ?_
  refine q_if_eq (tgt := 132) dX12_tellsOf_105 (by decide) ?_ ?_
  · exact q_sub [1, 2, 3, 5] rfl (aX12_tellsOf_b132 N c26 hc26 v2 v3 v6 σ)
  refine q_aload_n (i := 0) (x := 0) dX12_tellsOf_108 rfl 1 rfl ?_
  refine q_geti dX12_tellsOf_109 foX12_394 zM_0 rfl ?_
  refine q_if_ne (tgt := 132) dX12_tellsOf_112 (by decide) ?_ ?_
  · exact q_sub [1, 2, 3, 5] rfl (aX12_tellsOf_b132 N c26 hc26 v2 v3 v6 σ)
  refine q_iload (i := 8) (x := v8) dX12_tellsOf_115 6 rfl ?_
  refine q_if_ne (tgt := 132) dX12_tellsOf_117 (by decide) ?_ ?_
  · exact q_sub [1, 2, 3, 5] rfl (aX12_tellsOf_b132 N c26 hc26 v2 v3 v6 σ)
  refine q_iload (i := 5) (x := v5) dX12_tellsOf_120 4 rfl ?_
  refine q_iconst (v := 1) dX12_tellsOf_122 (by decide) ?_
  refine q_iload_n (i := 2) (x := v2) dX12_tellsOf_123 rfl 2 rfl ?_
  refine q_iadd dX12_tellsOf_124 ?_
  refine q_icmp_ne (tgt := 132) dX12_tellsOf_125 (by decide) ?_ ?_
  · exact q_sub [1, 2, 3, 5] rfl (aX12_tellsOf_b132 N c26 hc26 v2 v3 v6 σ)
  refine q_iconst (v := 1) dX12_tellsOf_128 (by decide) ?_
  refine q_goto (tgt := 133) dX12_tellsOf_129 (by decide) ?_
  exact q_sub [1, 2, 3, 5] rfl (aX12_tellsOf_b133 N c26 hc26 v2 v3 v6 1 σ)

def fX12_tellsOf_b96 (N : Nat) (c26 : Int32 → Int64 → qMem → Option (Int32 × qMem)) (v2 : Int32) (v3 : Int64) (v5 : Int32) (v6 : Int64) (v8 : Int32) (σ : qMem) : Option (Int32 × qMem) :=
  (fX12_tellsOf_b101 N c26 v2 v3 v5 v6 v8 1 σ)
set_option maxRecDepth 20000 in
set_option maxHeartbeats 4000000 in
theorem aX12_tellsOf_b96 (N : Nat) (c26 : Int32 → Int64 → qMem → Option (Int32 × qMem)) (hc26 : ∀ (v2 : Int32) (v3 : Int64) (σ : qMem), qAt wM mX12_tellsOf (ρi) 26 [(0, .ref 0), (2, .int v2), (3, .long v3)] [] σ (c26 v2 v3 σ)) (v2 : Int32) (v3 : Int64) (v5 : Int32) (v6 : Int64) (v8 : Int32) (σ : qMem) : qAt wM mX12_tellsOf (ρi) 96 [(0, .ref 0), (2, .int v2), (3, .long v3), (5, .int v5), (6, .long v6), (8, .int v8)] [] σ (fX12_tellsOf_b96 N c26 v2 v3 v5 v6 v8 σ) := by
  unfold fX12_tellsOf_b96
  refine q_iconst (v := 1) dX12_tellsOf_96 (by decide) ?_
  refine q_goto (tgt := 101) dX12_tellsOf_97 (by decide) ?_
  exact q_sub [0, 1, 2, 3, 4, 5] rfl (aX12_tellsOf_b101 N c26 hc26 v2 v3 v5 v6 v8 1 σ)

def fX12_tellsOf_s26 (N : Nat) (c26 : Int32 → Int64 → qMem → Option (Int32 × qMem)) (v2 : Int32) (v3 : Int64) (σ : qMem) : Option (Int32 × qMem) :=
  (if (gi σ 0 38) ≤ (gi σ 0 37) then (some (v3.toInt32, σ)) else (nmM (si σ 0 39 0) fun s4 => ((fX12_codeAt (gi s4 0 37) s4).bind fun y5 => (nmM (si s4 0 37 ((gi s4 0 37) + 1)) fun s6 => ((fX12_sumOf N 10 1 s6).bind fun y7 => (nmM (si y7.2 0 39 0) fun s8 => ((fX12_passes 4 s8).bind fun y9 => (if y9.1 = 0 then (fX12_tellsOf_b96 N c26 v2 v3 y5 y7.1 (gi y7.2 0 39) y9.2) else ((fX12_testOf N 10 1 y9.2).bind fun y10 => (if y10.1 = 0 then (fX12_tellsOf_b101 N c26 v2 v3 y5 y7.1 (gi y7.2 0 39) 0 y10.2) else (fX12_tellsOf_b96 N c26 v2 v3 y5 y7.1 (gi y7.2 0 39) y10.2)))))))))))
set_option maxRecDepth 20000 in
set_option maxHeartbeats 4000000 in
theorem aX12_tellsOf_s26 (N : Nat) (c26 : Int32 → Int64 → qMem → Option (Int32 × qMem)) (hc26 : ∀ (v2 : Int32) (v3 : Int64) (σ : qMem), qAt wM mX12_tellsOf (ρi) 26 [(0, .ref 0), (2, .int v2), (3, .long v3)] [] σ (c26 v2 v3 σ)) (v2 : Int32) (v3 : Int64) (σ : qMem) : qAt wM mX12_tellsOf (ρi) 26 [(0, .ref 0), (2, .int v2), (3, .long v3)] [] σ (fX12_tellsOf_s26 N c26 v2 v3 σ) := by
  unfold fX12_tellsOf_s26
  refine q_aload_n (i := 0) (x := 0) dX12_tellsOf_26 rfl 0 rfl ?_
  refine q_geti dX12_tellsOf_27 foX12_384 zM_0 rfl ?_
  refine q_aload_n (i := 0) (x := 0) dX12_tellsOf_30 rfl 0 rfl ?_
  refine q_geti dX12_tellsOf_31 foX12_381 zM_0 rfl ?_
  refine q_icmp_ge (tgt := 156) dX12_tellsOf_34 (by decide) ?_ ?_
  · refine q_lload_n (i := 3) (x := v3) dX12_tellsOf_156 rfl 2 rfl ?_
    refine q_l2i dX12_tellsOf_157 ?_
    exact q_ireti (y := (v3.toInt32, σ)) dX12_tellsOf_158 rfl rfl
  refine q_aload_n (i := 0) (x := 0) dX12_tellsOf_37 rfl 0 rfl ?_
  refine q_iconst (v := 0) dX12_tellsOf_38 (by decide) ?_
  refine q_putz dX12_tellsOf_39 foX12_394 fwX12_39 zM_0 rfl (by decide) ?_
  refine q_nmM (fun s4 => ?_)
  refine q_aload_n (i := 0) (x := 0) dX12_tellsOf_42 rfl 0 rfl ?_
  refine q_aload_n (i := 0) (x := 0) dX12_tellsOf_43 rfl 0 rfl ?_
  refine q_geti dX12_tellsOf_44 foX12_384 zM_0 rfl ?_
  refine q_cVp mX12_codeAt [.int (gi s4 0 37)] (st := []) dX12_tellsOf_47 (svX12_387) ⟨Nat.le_of_ble_eq_true rfl, Nat.le_of_ble_eq_true rfl⟩ zM_0 rfl rfl rfl (Nat.le_of_ble_eq_true rfl) (kX12_codeAt (gi s4 0 37) s4) (fun y5 => ?_)
  refine q_istore (i := 5) (L' := [(5, .int y5), (0, .ref 0), (2, .int v2), (3, .long v3)]) dX12_tellsOf_50 (Nat.le_of_ble_eq_true rfl) rfl ?_
  refine q_aload_n (i := 0) (x := 0) dX12_tellsOf_52 rfl 1 rfl ?_
  refine q_dup dX12_tellsOf_53 rfl ?_
  refine q_geti dX12_tellsOf_54 foX12_384 zM_0 rfl ?_
  refine q_iconst (v := 1) dX12_tellsOf_57 (by decide) ?_
  refine q_iadd dX12_tellsOf_58 ?_
  refine q_puti dX12_tellsOf_59 foX12_384 fwX12_37 zM_0 rfl ?_
  refine q_nmM (fun s6 => ?_)
  refine q_aload_n (i := 0) (x := 0) dX12_tellsOf_62 rfl 1 rfl ?_
  refine q_iconst (v := 1) dX12_tellsOf_63 (by decide) ?_
  refine q_cVl (mX12_sumOf 10) [.int 1] (st := []) dX12_tellsOf_64 (svX12_412 _) ⟨Nat.le_of_ble_eq_true rfl, Nat.le_of_ble_eq_true rfl⟩ zM_0 rfl rfl rfl (Nat.le_of_ble_eq_true rfl) (kX12_sumOf N 10 1 s6) (fun y7 => ?_)
  refine q_lstore (i := 6) (L' := [(6, .long y7.1), (5, .int y5), (0, .ref 0), (2, .int v2), (3, .long v3)]) dX12_tellsOf_67 (Nat.le_of_ble_eq_true rfl) rfl ?_
  refine q_aload_n (i := 0) (x := 0) dX12_tellsOf_69 rfl 2 rfl ?_
  refine q_geti dX12_tellsOf_70 foX12_394 zM_0 rfl ?_
  refine q_istore (i := 8) (L' := [(8, .int (gi y7.2 0 39)), (6, .long y7.1), (5, .int y5), (0, .ref 0), (2, .int v2), (3, .long v3)]) dX12_tellsOf_73 (Nat.le_of_ble_eq_true rfl) rfl ?_
  refine q_aload_n (i := 0) (x := 0) dX12_tellsOf_75 rfl 3 rfl ?_
  refine q_iconst (v := 0) dX12_tellsOf_76 (by decide) ?_
  refine q_putz dX12_tellsOf_77 foX12_394 fwX12_39 zM_0 rfl (by decide) ?_
  refine q_nmM (fun s8 => ?_)
  refine q_aload_n (i := 0) (x := 0) dX12_tellsOf_80 rfl 3 rfl ?_
  refine q_iconst (v := 4) dX12_tellsOf_81 (by decide) ?_
  refine q_cVi mX12_passes [.int 4] (st := []) dX12_tellsOf_82 (svX12_409) ⟨Nat.le_of_ble_eq_true rfl, Nat.le_of_ble_eq_true rfl⟩ zM_0 rfl rfl rfl (Nat.le_of_ble_eq_true rfl) (kX12_passes 4 s8) (fun y9 => ?_)
  refine q_if_eq (tgt := 96) dX12_tellsOf_85 (by decide) ?_ ?_
  · exact q_sub [3, 4, 5, 2, 1, 0] rfl (aX12_tellsOf_b96 N c26 hc26 v2 v3 y5 y7.1 (gi y7.2 0 39) y9.2)
  refine q_aload_n (i := 0) (x := 0) dX12_tellsOf_88 rfl 3 rfl ?_
  refine q_iconst (v := 1) dX12_tellsOf_89 (by decide) ?_
  refine q_cVi (mX12_testOf 10) [.int 1] (st := []) dX12_tellsOf_90 (svX12_425 _) ⟨Nat.le_of_ble_eq_true rfl, Nat.le_of_ble_eq_true rfl⟩ zM_0 rfl rfl rfl (Nat.le_of_ble_eq_true rfl) (kX12_testOf N 10 1 y9.2) (fun y10 => ?_)
  refine q_if_eq (tgt := 100) dX12_tellsOf_93 (by decide) ?_ ?_
  · refine q_iconst (v := 0) dX12_tellsOf_100 (by decide) ?_
    exact q_sub [3, 4, 5, 2, 1, 0] rfl (aX12_tellsOf_b101 N c26 hc26 v2 v3 y5 y7.1 (gi y7.2 0 39) 0 y10.2)
  exact q_sub [3, 4, 5, 2, 1, 0] rfl (aX12_tellsOf_b96 N c26 hc26 v2 v3 y5 y7.1 (gi y7.2 0 39) y10.2)
def fX12_tellsOf_l26 (N : Nat) : Nat → Int32 → Int64 → qMem → Option (Int32 × qMem)
  | 0 => fun _ _ _ => none
  | n + 1 => fun v2 v3 σ => fX12_tellsOf_s26 N (fX12_tellsOf_l26 N n) v2 v3 σ
theorem aX12_tellsOf_l26 (N : Nat) : ∀ (n : Nat) (v2 : Int32) (v3 : Int64) (σ : qMem), qAt wM mX12_tellsOf (ρi) 26 [(0, .ref 0), (2, .int v2), (3, .long v3)] [] σ (fX12_tellsOf_l26 N n v2 v3 σ) := by
  intro n
  induction n with
  | zero => intro v2 v3 σ; exact q_none
  | succ n ih => intro v2 v3 σ; exact aX12_tellsOf_s26 N (fX12_tellsOf_l26 N n) ih v2 v3 σ

def fX12_tellsOf (N : Nat) (p1 : Int32) (p2 : Int32) (σ : qMem) : Option (Int32 × qMem) :=
  (if ck 2 5 = true then (nmM (si σ 23 (2 : Int32).toNatClampNeg p1) fun s1 => (nmM (si s1 0 37 0) fun s2 => (if ck 306 1112 = true then (nmM (si s2 0 38 (gi s2 2 (306 : Int32).toNatClampNeg)) fun s3 => (fX12_tellsOf_l26 N N p2 0 s3)) else none))) else none)
set_option maxRecDepth 20000 in
set_option maxHeartbeats 4000000 in
theorem aX12_tellsOf  (N : Nat) (p1 : Int32) (p2 : Int32)  (σ : qMem) : qAt wM mX12_tellsOf (ρi) 0 [(0, .ref 0), (1, .int p1), (2, .int p2)] [] σ (fX12_tellsOf N p1 p2 σ) := by
  unfold fX12_tellsOf
  refine q_aload_n (i := 0) (x := 0) dX12_tellsOf_0 rfl 0 rfl ?_
  refine q_getr (t := 23) dX12_tellsOf_1 foX12_98 zM_0 rfl ?_
  refine q_iconst (v := 2) dX12_tellsOf_4 (by decide) ?_
  refine q_iload_n (i := 1) (x := p1) dX12_tellsOf_5 rfl 1 rfl ?_
  refine q_iast dX12_tellsOf_6 zM_23 ?_
  refine q_nmM (fun s1 => ?_)
  refine q_aload_n (i := 0) (x := 0) dX12_tellsOf_7 rfl 0 rfl ?_
  refine q_iconst (v := 0) dX12_tellsOf_8 (by decide) ?_
  refine q_puti dX12_tellsOf_9 foX12_384 fwX12_37 zM_0 rfl ?_
  refine q_nmM (fun s2 => ?_)
  refine q_aload_n (i := 0) (x := 0) dX12_tellsOf_12 rfl 0 rfl ?_
  refine q_aload_n (i := 0) (x := 0) dX12_tellsOf_13 rfl 0 rfl ?_
  refine q_getr (t := 2) dX12_tellsOf_14 foX12_20 zM_0 rfl ?_
  refine q_sipush (v := 306) dX12_tellsOf_17 (by decide) ?_
  refine q_iald dX12_tellsOf_20 zM_2 ?_
  refine q_puti dX12_tellsOf_21 foX12_381 fwX12_38 zM_0 rfl ?_
  refine q_nmM (fun s3 => ?_)
  refine q_lconst (v := 0) dX12_tellsOf_24 (by decide) ?_
  refine q_lstore_n (i := 3) (L' := [(3, .long 0), (0, .ref 0), (1, .int p1), (2, .int p2)]) dX12_tellsOf_25 rfl (Nat.le_of_ble_eq_true rfl) rfl ?_
  exact q_sub [1, 3, 0] rfl (aX12_tellsOf_l26 N N p2 0 s3)
theorem kX12_tellsOf  (N : Nat) (p1 : Int32) (p2 : Int32)  (σ : qMem) : qMc wM mX12_tellsOf (ρi) [.ref 0, .int p1, .int p2] σ (fX12_tellsOf N p1 p2 σ) := qMc_of (moX12_tellsOf) (Nat.le_of_ble_eq_true rfl) (aX12_tellsOf N p1 p2  σ)

theorem dX12_hearsBy_0 : decode cX12_hearsBy 0 = .ok (.iconst 0, 1) := by decide +kernel
theorem dX12_hearsBy_1 : decode cX12_hearsBy 1 = .ok (.istore_n 2, 1) := by decide +kernel
theorem dX12_hearsBy_2 : decode cX12_hearsBy 2 = .ok (.iload_n 2, 1) := by decide +kernel
theorem dX12_hearsBy_3 : decode cX12_hearsBy 3 = .ok (.sipush 201, 3) := by decide +kernel
theorem dX12_hearsBy_6 : decode cX12_hearsBy 6 = .ok (.if_icmp .ge 60, 3) := by decide +kernel
theorem dX12_hearsBy_9 : decode cX12_hearsBy 9 = .ok (.aload_n 0, 1) := by decide +kernel
theorem dX12_hearsBy_10 : decode cX12_hearsBy 10 = .ok (.getfield 101, 3) := by decide +kernel
theorem dX12_hearsBy_13 : decode cX12_hearsBy 13 = .ok (.iload_n 2, 1) := by decide +kernel
theorem dX12_hearsBy_14 : decode cX12_hearsBy 14 = .ok (.aload_n 0, 1) := by decide +kernel
theorem dX12_hearsBy_15 : decode cX12_hearsBy 15 = .ok (.iload_n 2, 1) := by decide +kernel
theorem dX12_hearsBy_16 : decode cX12_hearsBy 16 = .ok (.iconst 0, 1) := by decide +kernel
theorem dX12_hearsBy_17 : decode cX12_hearsBy 17 = .ok (.invokevirtual 429, 3) := by decide +kernel
theorem dX12_hearsBy_20 : decode cX12_hearsBy 20 = .ok (.i2l, 1) := by decide +kernel
theorem dX12_hearsBy_21 : decode cX12_hearsBy 21 = .ok (.aload_n 0, 1) := by decide +kernel
theorem dX12_hearsBy_22 : decode cX12_hearsBy 22 = .ok (.iload_n 2, 1) := by decide +kernel
theorem dX12_hearsBy_23 : decode cX12_hearsBy 23 = .ok (.iconst 1, 1) := by decide +kernel
theorem dX12_hearsBy_24 : decode cX12_hearsBy 24 = .ok (.invokevirtual 429, 3) := by decide +kernel
theorem dX12_hearsBy_27 : decode cX12_hearsBy 27 = .ok (.i2l, 1) := by decide +kernel
theorem dX12_hearsBy_28 : decode cX12_hearsBy 28 = .ok (.lsub, 1) := by decide +kernel
theorem dX12_hearsBy_29 : decode cX12_hearsBy 29 = .ok (.aload_n 0, 1) := by decide +kernel
theorem dX12_hearsBy_30 : decode cX12_hearsBy 30 = .ok (.iload_n 2, 1) := by decide +kernel
theorem dX12_hearsBy_31 : decode cX12_hearsBy 31 = .ok (.iconst 2, 1) := by decide +kernel
theorem dX12_hearsBy_32 : decode cX12_hearsBy 32 = .ok (.invokevirtual 429, 3) := by decide +kernel
theorem dX12_hearsBy_35 : decode cX12_hearsBy 35 = .ok (.i2l, 1) := by decide +kernel
theorem dX12_hearsBy_36 : decode cX12_hearsBy 36 = .ok (.lcmp, 1) := by decide +kernel
theorem dX12_hearsBy_37 : decode cX12_hearsBy 37 = .ok (.ifCond .lt 21, 3) := by decide +kernel
theorem dX12_hearsBy_40 : decode cX12_hearsBy 40 = .ok (.aload_n 0, 1) := by decide +kernel
theorem dX12_hearsBy_41 : decode cX12_hearsBy 41 = .ok (.iload_n 1, 1) := by decide +kernel
theorem dX12_hearsBy_42 : decode cX12_hearsBy 42 = .ok (.aload_n 0, 1) := by decide +kernel
theorem dX12_hearsBy_43 : decode cX12_hearsBy 43 = .ok (.iconst 3, 1) := by decide +kernel
theorem dX12_hearsBy_44 : decode cX12_hearsBy 44 = .ok (.invokevirtual 154, 3) := by decide +kernel
theorem dX12_hearsBy_47 : decode cX12_hearsBy 47 = .ok (.iload_n 2, 1) := by decide +kernel
theorem dX12_hearsBy_48 : decode cX12_hearsBy 48 = .ok (.invokevirtual 164, 3) := by decide +kernel
theorem dX12_hearsBy_51 : decode cX12_hearsBy 51 = .ok (.ifCond .eq 7, 3) := by decide +kernel
theorem dX12_hearsBy_54 : decode cX12_hearsBy 54 = .ok (.iconst 1, 1) := by decide +kernel
theorem dX12_hearsBy_55 : decode cX12_hearsBy 55 = .ok (.goto 4, 3) := by decide +kernel
theorem dX12_hearsBy_58 : decode cX12_hearsBy 58 = .ok (.iconst 0, 1) := by decide +kernel
theorem dX12_hearsBy_59 : decode cX12_hearsBy 59 = .ok (.bastore, 1) := by decide +kernel
theorem dX12_hearsBy_60 : decode cX12_hearsBy 60 = .ok (.iinc 2 1, 3) := by decide +kernel
theorem dX12_hearsBy_63 : decode cX12_hearsBy 63 = .ok (.goto (-61), 3) := by decide +kernel
theorem dX12_hearsBy_66 : decode cX12_hearsBy 66 = .ok (.return_, 1) := by decide +kernel
def fX12_hearsBy_b59 (N : Nat) (c2 : Int32 → Int32 → qMem → Option qMem) (v1 : Int32) (v2 : Int32) (u1 : Int32) (u2 : Int32) (σ : qMem) : Option qMem :=
  (if ck u1 201 = true then (nmM (si σ 24 u1.toNatClampNeg (vp_nar .boolean u2)) fun s6 => (c2 v1 (v2 + 1) s6)) else none)
set_option maxRecDepth 20000 in
set_option maxHeartbeats 4000000 in
theorem aX12_hearsBy_b59 (N : Nat) (c2 : Int32 → Int32 → qMem → Option qMem) (hc2 : ∀ (v1 : Int32) (v2 : Int32) (σ : qMem), qAt wM mX12_hearsBy (ρv) 2 [(0, .ref 0), (1, .int v1), (2, .int v2)] [] σ (c2 v1 v2 σ)) (v1 : Int32) (v2 : Int32) (u1 : Int32) (u2 : Int32) (σ : qMem) : qAt wM mX12_hearsBy (ρv) 59 [(0, .ref 0), (1, .int v1), (2, .int v2)] [.int u2, .int u1, .ref 24] σ (fX12_hearsBy_b59 N c2 v1 v2 u1 u2 σ) := by
  unfold fX12_hearsBy_b59
  refine q_zast dX12_hearsBy_59 zM_24 ?_
  refine q_nmM (fun s6 => ?_)
  refine q_iinc (i := 2) (x := v2) (v := (v2 + 1)) (L' := [(2, .int (v2 + 1)), (0, .ref 0), (1, .int v1)]) dX12_hearsBy_60 2 rfl (q_cst v2 (by decide)) (Nat.le_of_ble_eq_true rfl) rfl ?_
  refine q_goto (tgt := 2) dX12_hearsBy_63 (by decide) ?_
  exact q_sub [1, 2, 0] rfl (hc2 v1 (v2 + 1) s6)

def fX12_hearsBy_b58 (N : Nat) (c2 : Int32 → Int32 → qMem → Option qMem) (v1 : Int32) (v2 : Int32) (u1 : Int32) (σ : qMem) : Option qMem :=
  (fX12_hearsBy_b59 N c2 v1 v2 u1 0 σ)
set_option maxRecDepth 20000 in
set_option maxHeartbeats 4000000 in
theorem aX12_hearsBy_b58 (N : Nat) (c2 : Int32 → Int32 → qMem → Option qMem) (hc2 : ∀ (v1 : Int32) (v2 : Int32) (σ : qMem), qAt wM mX12_hearsBy (ρv) 2 [(0, .ref 0), (1, .int v1), (2, .int v2)] [] σ (c2 v1 v2 σ)) (v1 : Int32) (v2 : Int32) (u1 : Int32) (σ : qMem) : qAt wM mX12_hearsBy (ρv) 58 [(0, .ref 0), (1, .int v1), (2, .int v2)] [.int u1, .ref 24] σ (fX12_hearsBy_b58 N c2 v1 v2 u1 σ) := by
  unfold fX12_hearsBy_b58
  refine q_iconst (v := 0) dX12_hearsBy_58 (by decide) ?_
  exact q_sub [0, 1, 2] rfl (aX12_hearsBy_b59 N c2 hc2 v1 v2 u1 0 σ)

def fX12_hearsBy_s2 (N : Nat) (c2 : Int32 → Int32 → qMem → Option qMem) (v1 : Int32) (v2 : Int32) (σ : qMem) : Option qMem :=
  (if 201 ≤ v2 then (some σ) else ((fX12_tellsOf N v2 0 σ).bind fun y1 => ((fX12_tellsOf N v2 1 y1.2).bind fun y2 => ((fX12_tellsOf N v2 2 y2.2).bind fun y3 => (if (lg_cmp (y1.1.toInt64 - y2.1.toInt64) y3.1.toInt64) < 0 then (fX12_hearsBy_b58 N c2 v1 v2 v2 y3.2) else ((fX12_term 3 y3.2).bind fun y4 => ((fX12_carries N v1 y4 v2 y3.2).bind fun y5 => (if y5.1 = 0 then (fX12_hearsBy_b58 N c2 v1 v2 v2 y5.2) else (fX12_hearsBy_b59 N c2 v1 v2 v2 1 y5.2)))))))))
set_option maxRecDepth 20000 in
set_option maxHeartbeats 4000000 in
theorem aX12_hearsBy_s2 (N : Nat) (c2 : Int32 → Int32 → qMem → Option qMem) (hc2 : ∀ (v1 : Int32) (v2 : Int32) (σ : qMem), qAt wM mX12_hearsBy (ρv) 2 [(0, .ref 0), (1, .int v1), (2, .int v2)] [] σ (c2 v1 v2 σ)) (v1 : Int32) (v2 : Int32) (σ : qMem) : qAt wM mX12_hearsBy (ρv) 2 [(0, .ref 0), (1, .int v1), (2, .int v2)] [] σ (fX12_hearsBy_s2 N c2 v1 v2 σ) := by
  unfold fX12_hearsBy_s2
  refine q_iload_n (i := 2) (x := v2) dX12_hearsBy_2 rfl 2 rfl ?_
  refine q_sipush (v := 201) dX12_hearsBy_3 (by decide) ?_
  refine q_icmp_ge (tgt := 66) dX12_hearsBy_6 (by decide) ?_ ?_
  · exact q_vret (y := σ) dX12_hearsBy_66 rfl rfl
  refine q_aload_n (i := 0) (x := 0) dX12_hearsBy_9 rfl 0 rfl ?_
  refine q_getr (t := 24) dX12_hearsBy_10 foX12_101 zM_0 rfl ?_
  refine q_iload_n (i := 2) (x := v2) dX12_hearsBy_13 rfl 2 rfl ?_
  refine q_aload_n (i := 0) (x := 0) dX12_hearsBy_14 rfl 0 rfl ?_
  refine q_iload_n (i := 2) (x := v2) dX12_hearsBy_15 rfl 2 rfl ?_
  refine q_iconst (v := 0) dX12_hearsBy_16 (by decide) ?_
  refine q_cVi mX12_tellsOf [.int v2, .int 0] (st := [.int v2, .ref 24]) dX12_hearsBy_17 (svX12_429) ⟨Nat.le_of_ble_eq_true rfl, Nat.le_of_ble_eq_true rfl⟩ zM_0 rfl rfl rfl (Nat.le_of_ble_eq_true rfl) (kX12_tellsOf N v2 0 σ) (fun y1 => ?_)
  refine q_i2l dX12_hearsBy_20 ?_
  refine q_aload_n (i := 0) (x := 0) dX12_hearsBy_21 rfl 0 rfl ?_
  refine q_iload_n (i := 2) (x := v2) dX12_hearsBy_22 rfl 2 rfl ?_
  refine q_iconst (v := 1) dX12_hearsBy_23 (by decide) ?_
  refine q_cVi mX12_tellsOf [.int v2, .int 1] (st := [.long y1.1.toInt64, .int v2, .ref 24]) dX12_hearsBy_24 (svX12_429) ⟨Nat.le_of_ble_eq_true rfl, Nat.le_of_ble_eq_true rfl⟩ zM_0 rfl rfl rfl (Nat.le_of_ble_eq_true rfl) (kX12_tellsOf N v2 1 y1.2) (fun y2 => ?_)
  refine q_i2l dX12_hearsBy_27 ?_
  refine q_lsub dX12_hearsBy_28 ?_
  refine q_aload_n (i := 0) (x := 0) dX12_hearsBy_29 rfl 0 rfl ?_
  refine q_iload_n (i := 2) (x := v2) dX12_hearsBy_30 rfl 2 rfl ?_
  refine q_iconst (v := 2) dX12_hearsBy_31 (by decide) ?_
  refine q_cVi mX12_tellsOf [.int v2, .int 2] (st := [.long (y1.1.toInt64 - y2.1.toInt64), .int v2, .ref 24]) dX12_hearsBy_32 (svX12_429) ⟨Nat.le_of_ble_eq_true rfl, Nat.le_of_ble_eq_true rfl⟩ zM_0 rfl rfl rfl (Nat.le_of_ble_eq_true rfl) (kX12_tellsOf N v2 2 y2.2) (fun y3 => ?_)
  refine q_i2l dX12_hearsBy_35 ?_
  refine q_lcmp dX12_hearsBy_36 ?_
  refine q_if_lt (tgt := 58) dX12_hearsBy_37 (by decide) ?_ ?_
  · exact q_sub [0, 1, 2] rfl (aX12_hearsBy_b58 N c2 hc2 v1 v2 v2 y3.2)
  refine q_aload_n (i := 0) (x := 0) dX12_hearsBy_40 rfl 0 rfl ?_
  refine q_iload_n (i := 1) (x := v1) dX12_hearsBy_41 rfl 1 rfl ?_
  refine q_aload_n (i := 0) (x := 0) dX12_hearsBy_42 rfl 0 rfl ?_
  refine q_iconst (v := 3) dX12_hearsBy_43 (by decide) ?_
  refine q_cVp mX12_term [.int 3] (st := [.int v1, .ref 0, .int v2, .ref 24]) dX12_hearsBy_44 (svX12_154) ⟨Nat.le_of_ble_eq_true rfl, Nat.le_of_ble_eq_true rfl⟩ zM_0 rfl rfl rfl (Nat.le_of_ble_eq_true rfl) (kX12_term 3 y3.2) (fun y4 => ?_)
  refine q_iload_n (i := 2) (x := v2) dX12_hearsBy_47 rfl 2 rfl ?_
  refine q_cVi mX12_carries [.int v1, .int y4, .int v2] (st := [.int v2, .ref 24]) dX12_hearsBy_48 (svX12_164) ⟨Nat.le_of_ble_eq_true rfl, Nat.le_of_ble_eq_true rfl⟩ zM_0 rfl rfl rfl (Nat.le_of_ble_eq_true rfl) (kX12_carries N v1 y4 v2 y3.2) (fun y5 => ?_)
  refine q_if_eq (tgt := 58) dX12_hearsBy_51 (by decide) ?_ ?_
  · exact q_sub [0, 1, 2] rfl (aX12_hearsBy_b58 N c2 hc2 v1 v2 v2 y5.2)
  refine q_iconst (v := 1) dX12_hearsBy_54 (by decide) ?_
  refine q_goto (tgt := 59) dX12_hearsBy_55 (by decide) ?_
  exact q_sub [0, 1, 2] rfl (aX12_hearsBy_b59 N c2 hc2 v1 v2 v2 1 y5.2)
def fX12_hearsBy_l2 (N : Nat) : Nat → Int32 → Int32 → qMem → Option qMem
  | 0 => fun _ _ _ => none
  | n + 1 => fun v1 v2 σ => fX12_hearsBy_s2 N (fX12_hearsBy_l2 N n) v1 v2 σ
theorem aX12_hearsBy_l2 (N : Nat) : ∀ (n : Nat) (v1 : Int32) (v2 : Int32) (σ : qMem), qAt wM mX12_hearsBy (ρv) 2 [(0, .ref 0), (1, .int v1), (2, .int v2)] [] σ (fX12_hearsBy_l2 N n v1 v2 σ) := by
  intro n
  induction n with
  | zero => intro v1 v2 σ; exact q_none
  | succ n ih => intro v1 v2 σ; exact aX12_hearsBy_s2 N (fX12_hearsBy_l2 N n) ih v1 v2 σ

def fX12_hearsBy (N : Nat) (p1 : Int32) (σ : qMem) : Option qMem :=
  (fX12_hearsBy_l2 N N p1 0 σ)
set_option maxRecDepth 20000 in
set_option maxHeartbeats 4000000 in
theorem aX12_hearsBy  (N : Nat) (p1 : Int32)  (σ : qMem) : qAt wM mX12_hearsBy (ρv) 0 [(0, .ref 0), (1, .int p1)] [] σ (fX12_hearsBy N p1 σ) := by
  unfold fX12_hearsBy
  refine q_iconst (v := 0) dX12_hearsBy_0 (by decide) ?_
  refine q_istore_n (i := 2) (L' := [(2, .int 0), (0, .ref 0), (1, .int p1)]) dX12_hearsBy_1 rfl (Nat.le_of_ble_eq_true rfl) rfl ?_
  exact q_sub [1, 2, 0] rfl (aX12_hearsBy_l2 N N p1 0 σ)
theorem kX12_hearsBy  (N : Nat) (p1 : Int32)  (σ : qMem) : qMc wM mX12_hearsBy (ρv) [.ref 0, .int p1] σ (fX12_hearsBy N p1 σ) := qMc_of (moX12_hearsBy) (Nat.le_of_ble_eq_true rfl) (aX12_hearsBy N p1  σ)

theorem dX12_heardByOf_0 : decode cX12_heardByOf 0 = .ok (.aload_n 0, 1) := by decide +kernel
theorem dX12_heardByOf_1 : decode cX12_heardByOf 1 = .ok (.invokevirtual 244, 3) := by decide +kernel
theorem dX12_heardByOf_4 : decode cX12_heardByOf 4 = .ok (.aload_n 0, 1) := by decide +kernel
theorem dX12_heardByOf_5 : decode cX12_heardByOf 5 = .ok (.getfield 20, 3) := by decide +kernel
theorem dX12_heardByOf_8 : decode cX12_heardByOf 8 = .ok (.sipush 204, 3) := by decide +kernel
theorem dX12_heardByOf_11 : decode cX12_heardByOf 11 = .ok (.iconst 2, 1) := by decide +kernel
theorem dX12_heardByOf_12 : decode cX12_heardByOf 12 = .ok (.iload_n 3, 1) := by decide +kernel
theorem dX12_heardByOf_13 : decode cX12_heardByOf 13 = .ok (.imul, 1) := by decide +kernel
theorem dX12_heardByOf_14 : decode cX12_heardByOf 14 = .ok (.iadd, 1) := by decide +kernel
theorem dX12_heardByOf_15 : decode cX12_heardByOf 15 = .ok (.iaload, 1) := by decide +kernel
theorem dX12_heardByOf_16 : decode cX12_heardByOf 16 = .ok (.istore 4, 2) := by decide +kernel
theorem dX12_heardByOf_18 : decode cX12_heardByOf 18 = .ok (.aload_n 0, 1) := by decide +kernel
theorem dX12_heardByOf_19 : decode cX12_heardByOf 19 = .ok (.getfield 20, 3) := by decide +kernel
theorem dX12_heardByOf_22 : decode cX12_heardByOf 22 = .ok (.sipush 204, 3) := by decide +kernel
theorem dX12_heardByOf_25 : decode cX12_heardByOf 25 = .ok (.iconst 2, 1) := by decide +kernel
theorem dX12_heardByOf_26 : decode cX12_heardByOf 26 = .ok (.iload_n 3, 1) := by decide +kernel
theorem dX12_heardByOf_27 : decode cX12_heardByOf 27 = .ok (.imul, 1) := by decide +kernel
theorem dX12_heardByOf_28 : decode cX12_heardByOf 28 = .ok (.iadd, 1) := by decide +kernel
theorem dX12_heardByOf_29 : decode cX12_heardByOf 29 = .ok (.iconst 1, 1) := by decide +kernel
theorem dX12_heardByOf_30 : decode cX12_heardByOf 30 = .ok (.iadd, 1) := by decide +kernel
theorem dX12_heardByOf_31 : decode cX12_heardByOf 31 = .ok (.iaload, 1) := by decide +kernel
theorem dX12_heardByOf_32 : decode cX12_heardByOf 32 = .ok (.istore 5, 2) := by decide +kernel
theorem dX12_heardByOf_34 : decode cX12_heardByOf 34 = .ok (.aload_n 0, 1) := by decide +kernel
theorem dX12_heardByOf_35 : decode cX12_heardByOf 35 = .ok (.iconst 0, 1) := by decide +kernel
theorem dX12_heardByOf_36 : decode cX12_heardByOf 36 = .ok (.iload_n 1, 1) := by decide +kernel
theorem dX12_heardByOf_37 : decode cX12_heardByOf 37 = .ok (.iconst 0, 1) := by decide +kernel
theorem dX12_heardByOf_38 : decode cX12_heardByOf 38 = .ok (.invokevirtual 151, 3) := by decide +kernel
theorem dX12_heardByOf_41 : decode cX12_heardByOf 41 = .ok (.iload_n 2, 1) := by decide +kernel
theorem dX12_heardByOf_42 : decode cX12_heardByOf 42 = .ok (.iload 4, 2) := by decide +kernel
theorem dX12_heardByOf_44 : decode cX12_heardByOf 44 = .ok (.imul, 1) := by decide +kernel
theorem dX12_heardByOf_45 : decode cX12_heardByOf 45 = .ok (.iadd, 1) := by decide +kernel
theorem dX12_heardByOf_46 : decode cX12_heardByOf 46 = .ok (.istore 6, 2) := by decide +kernel
theorem dX12_heardByOf_48 : decode cX12_heardByOf 48 = .ok (.aload_n 0, 1) := by decide +kernel
theorem dX12_heardByOf_49 : decode cX12_heardByOf 49 = .ok (.iconst 0, 1) := by decide +kernel
theorem dX12_heardByOf_50 : decode cX12_heardByOf 50 = .ok (.iload_n 1, 1) := by decide +kernel
theorem dX12_heardByOf_51 : decode cX12_heardByOf 51 = .ok (.iconst 1, 1) := by decide +kernel
theorem dX12_heardByOf_52 : decode cX12_heardByOf 52 = .ok (.invokevirtual 151, 3) := by decide +kernel
theorem dX12_heardByOf_55 : decode cX12_heardByOf 55 = .ok (.iload_n 2, 1) := by decide +kernel
theorem dX12_heardByOf_56 : decode cX12_heardByOf 56 = .ok (.iload 5, 2) := by decide +kernel
theorem dX12_heardByOf_58 : decode cX12_heardByOf 58 = .ok (.imul, 1) := by decide +kernel
theorem dX12_heardByOf_59 : decode cX12_heardByOf 59 = .ok (.iadd, 1) := by decide +kernel
theorem dX12_heardByOf_60 : decode cX12_heardByOf 60 = .ok (.istore 7, 2) := by decide +kernel
theorem dX12_heardByOf_62 : decode cX12_heardByOf 62 = .ok (.iload_n 1, 1) := by decide +kernel
theorem dX12_heardByOf_63 : decode cX12_heardByOf 63 = .ok (.iload_n 2, 1) := by decide +kernel
theorem dX12_heardByOf_64 : decode cX12_heardByOf 64 = .ok (.iadd, 1) := by decide +kernel
theorem dX12_heardByOf_65 : decode cX12_heardByOf 65 = .ok (.istore 8, 2) := by decide +kernel
theorem dX12_heardByOf_67 : decode cX12_heardByOf 67 = .ok (.aload_n 0, 1) := by decide +kernel
theorem dX12_heardByOf_68 : decode cX12_heardByOf 68 = .ok (.iconst 0, 1) := by decide +kernel
theorem dX12_heardByOf_69 : decode cX12_heardByOf 69 = .ok (.iload 8, 2) := by decide +kernel
theorem dX12_heardByOf_71 : decode cX12_heardByOf 71 = .ok (.iload 4, 2) := by decide +kernel
theorem dX12_heardByOf_73 : decode cX12_heardByOf 73 = .ok (.invokestatic 142, 3) := by decide +kernel
theorem dX12_heardByOf_76 : decode cX12_heardByOf 76 = .ok (.iload 5, 2) := by decide +kernel
theorem dX12_heardByOf_78 : decode cX12_heardByOf 78 = .ok (.invokestatic 142, 3) := by decide +kernel
theorem dX12_heardByOf_81 : decode cX12_heardByOf 81 = .ok (.invokestatic 145, 3) := by decide +kernel
theorem dX12_heardByOf_84 : decode cX12_heardByOf 84 = .ok (.invokevirtual 267, 3) := by decide +kernel
theorem dX12_heardByOf_87 : decode cX12_heardByOf 87 = .ok (.aload_n 0, 1) := by decide +kernel
theorem dX12_heardByOf_88 : decode cX12_heardByOf 88 = .ok (.aload_n 0, 1) := by decide +kernel
theorem dX12_heardByOf_89 : decode cX12_heardByOf 89 = .ok (.iconst 0, 1) := by decide +kernel
theorem dX12_heardByOf_90 : decode cX12_heardByOf 90 = .ok (.iconst 2, 1) := by decide +kernel
theorem dX12_heardByOf_91 : decode cX12_heardByOf 91 = .ok (.invokevirtual 121, 3) := by decide +kernel
theorem dX12_heardByOf_94 : decode cX12_heardByOf 94 = .ok (.invokevirtual 270, 3) := by decide +kernel
theorem dX12_heardByOf_97 : decode cX12_heardByOf 97 = .ok (.iconst 0, 1) := by decide +kernel
theorem dX12_heardByOf_98 : decode cX12_heardByOf 98 = .ok (.istore 9, 2) := by decide +kernel
theorem dX12_heardByOf_100 : decode cX12_heardByOf 100 = .ok (.iconst 0, 1) := by decide +kernel
theorem dX12_heardByOf_101 : decode cX12_heardByOf 101 = .ok (.istore 10, 2) := by decide +kernel
theorem dX12_heardByOf_103 : decode cX12_heardByOf 103 = .ok (.iload 10, 2) := by decide +kernel
theorem dX12_heardByOf_105 : decode cX12_heardByOf 105 = .ok (.ldc 39, 2) := by decide +kernel
theorem dX12_heardByOf_107 : decode cX12_heardByOf 107 = .ok (.if_icmp .ge 91, 3) := by decide +kernel
theorem dX12_heardByOf_110 : decode cX12_heardByOf 110 = .ok (.aload_n 0, 1) := by decide +kernel
theorem dX12_heardByOf_111 : decode cX12_heardByOf 111 = .ok (.getfield 40, 3) := by decide +kernel
theorem dX12_heardByOf_114 : decode cX12_heardByOf 114 = .ok (.iload 10, 2) := by decide +kernel
theorem dX12_heardByOf_116 : decode cX12_heardByOf 116 = .ok (.baload, 1) := by decide +kernel
theorem dX12_heardByOf_117 : decode cX12_heardByOf 117 = .ok (.ifCond .ne 6, 3) := by decide +kernel
theorem dX12_heardByOf_120 : decode cX12_heardByOf 120 = .ok (.goto 72, 3) := by decide +kernel
theorem dX12_heardByOf_123 : decode cX12_heardByOf 123 = .ok (.iload 10, 2) := by decide +kernel
theorem dX12_heardByOf_125 : decode cX12_heardByOf 125 = .ok (.invokestatic 229, 3) := by decide +kernel
theorem dX12_heardByOf_128 : decode cX12_heardByOf 128 = .ok (.iload 8, 2) := by decide +kernel
theorem dX12_heardByOf_130 : decode cX12_heardByOf 130 = .ok (.iload 10, 2) := by decide +kernel
theorem dX12_heardByOf_132 : decode cX12_heardByOf 132 = .ok (.invokestatic 235, 3) := by decide +kernel
theorem dX12_heardByOf_135 : decode cX12_heardByOf 135 = .ok (.imul, 1) := by decide +kernel
theorem dX12_heardByOf_136 : decode cX12_heardByOf 136 = .ok (.iadd, 1) := by decide +kernel
theorem dX12_heardByOf_137 : decode cX12_heardByOf 137 = .ok (.iload 6, 2) := by decide +kernel
theorem dX12_heardByOf_139 : decode cX12_heardByOf 139 = .ok (.isub, 1) := by decide +kernel
theorem dX12_heardByOf_140 : decode cX12_heardByOf 140 = .ok (.istore 11, 2) := by decide +kernel
theorem dX12_heardByOf_142 : decode cX12_heardByOf 142 = .ok (.iload 10, 2) := by decide +kernel
theorem dX12_heardByOf_144 : decode cX12_heardByOf 144 = .ok (.invokestatic 232, 3) := by decide +kernel
theorem dX12_heardByOf_147 : decode cX12_heardByOf 147 = .ok (.iload 8, 2) := by decide +kernel
theorem dX12_heardByOf_149 : decode cX12_heardByOf 149 = .ok (.iload 10, 2) := by decide +kernel
theorem dX12_heardByOf_151 : decode cX12_heardByOf 151 = .ok (.invokestatic 238, 3) := by decide +kernel
theorem dX12_heardByOf_154 : decode cX12_heardByOf 154 = .ok (.imul, 1) := by decide +kernel
theorem dX12_heardByOf_155 : decode cX12_heardByOf 155 = .ok (.iadd, 1) := by decide +kernel
theorem dX12_heardByOf_156 : decode cX12_heardByOf 156 = .ok (.iload 7, 2) := by decide +kernel
theorem dX12_heardByOf_158 : decode cX12_heardByOf 158 = .ok (.isub, 1) := by decide +kernel
theorem dX12_heardByOf_159 : decode cX12_heardByOf 159 = .ok (.istore 12, 2) := by decide +kernel
theorem dX12_heardByOf_161 : decode cX12_heardByOf 161 = .ok (.iload 9, 2) := by decide +kernel
theorem dX12_heardByOf_163 : decode cX12_heardByOf 163 = .ok (.aload_n 0, 1) := by decide +kernel
theorem dX12_heardByOf_164 : decode cX12_heardByOf 164 = .ok (.getfield 101, 3) := by decide +kernel
theorem dX12_heardByOf_167 : decode cX12_heardByOf 167 = .ok (.iload 11, 2) := by decide +kernel
theorem dX12_heardByOf_169 : decode cX12_heardByOf 169 = .ok (.invokestatic 142, 3) := by decide +kernel
theorem dX12_heardByOf_172 : decode cX12_heardByOf 172 = .ok (.iload 12, 2) := by decide +kernel
theorem dX12_heardByOf_174 : decode cX12_heardByOf 174 = .ok (.invokestatic 142, 3) := by decide +kernel
theorem dX12_heardByOf_177 : decode cX12_heardByOf 177 = .ok (.invokestatic 145, 3) := by decide +kernel
theorem dX12_heardByOf_180 : decode cX12_heardByOf 180 = .ok (.baload, 1) := by decide +kernel
theorem dX12_heardByOf_181 : decode cX12_heardByOf 181 = .ok (.ifCond .eq 7, 3) := by decide +kernel
theorem dX12_heardByOf_184 : decode cX12_heardByOf 184 = .ok (.iconst 1, 1) := by decide +kernel
theorem dX12_heardByOf_185 : decode cX12_heardByOf 185 = .ok (.goto 4, 3) := by decide +kernel
theorem dX12_heardByOf_188 : decode cX12_heardByOf 188 = .ok (.iconst 0, 1) := by decide +kernel
theorem dX12_heardByOf_189 : decode cX12_heardByOf 189 = .ok (.iadd, 1) := by decide +kernel
theorem dX12_heardByOf_190 : decode cX12_heardByOf 190 = .ok (.istore 9, 2) := by decide +kernel
theorem dX12_heardByOf_192 : decode cX12_heardByOf 192 = .ok (.iinc 10 1, 3) := by decide +kernel
theorem dX12_heardByOf_195 : decode cX12_heardByOf 195 = .ok (.goto (-92), 3) := by decide +kernel
theorem dX12_heardByOf_198 : decode cX12_heardByOf 198 = .ok (.iload 9, 2) := by decide +kernel
theorem dX12_heardByOf_200 : decode cX12_heardByOf 200 = .ok (.ireturn, 1) := by decide +kernel
def fX12_heardByOf_b192 (N : Nat) (c103 : Int32 → Int32 → Int32 → Int32 → Int32 → qMem → Option (Int32 × qMem)) (v6 : Int32) (v7 : Int32) (v8 : Int32) (v9 : Int32) (v10 : Int32) (σ : qMem) : Option (Int32 × qMem) :=
  (c103 v6 v7 v8 v9 (v10 + 1) σ)
set_option maxRecDepth 20000 in
set_option maxHeartbeats 4000000 in
theorem aX12_heardByOf_b192 (N : Nat) (c103 : Int32 → Int32 → Int32 → Int32 → Int32 → qMem → Option (Int32 × qMem)) (hc103 : ∀ (v6 : Int32) (v7 : Int32) (v8 : Int32) (v9 : Int32) (v10 : Int32) (σ : qMem), qAt wM mX12_heardByOf (ρi) 103 [(0, .ref 0), (6, .int v6), (7, .int v7), (8, .int v8), (9, .int v9), (10, .int v10)] [] σ (c103 v6 v7 v8 v9 v10 σ)) (v6 : Int32) (v7 : Int32) (v8 : Int32) (v9 : Int32) (v10 : Int32) (σ : qMem) : qAt wM mX12_heardByOf (ρi) 192 [(0, .ref 0), (6, .int v6), (7, .int v7), (8, .int v8), (9, .int v9), (10, .int v10)] [] σ (fX12_heardByOf_b192 N c103 v6 v7 v8 v9 v10 σ) := by
  unfold fX12_heardByOf_b192
  refine q_iinc (i := 10) (x := v10) (v := (v10 + 1)) (L' := [(10, .int (v10 + 1)), (0, .ref 0), (6, .int v6), (7, .int v7), (8, .int v8), (9, .int v9)]) dX12_heardByOf_192 5 rfl (q_cst v10 (by decide)) (Nat.le_of_ble_eq_true rfl) rfl ?_
  refine q_goto (tgt := 103) dX12_heardByOf_195 (by decide) ?_
  exact q_sub [1, 2, 3, 4, 5, 0] rfl (hc103 v6 v7 v8 v9 (v10 + 1) σ)

def fX12_heardByOf_b189 (N : Nat) (c103 : Int32 → Int32 → Int32 → Int32 → Int32 → qMem → Option (Int32 × qMem)) (v6 : Int32) (v7 : Int32) (v8 : Int32) (v10 : Int32) (u0 : Int32) (u1 : Int32) (σ : qMem) : Option (Int32 × qMem) :=
  (fX12_heardByOf_b192 N c103 v6 v7 v8 (u0 + u1) v10 σ)
set_option maxRecDepth 20000 in
set_option maxHeartbeats 4000000 in
theorem aX12_heardByOf_b189 (N : Nat) (c103 : Int32 → Int32 → Int32 → Int32 → Int32 → qMem → Option (Int32 × qMem)) (hc103 : ∀ (v6 : Int32) (v7 : Int32) (v8 : Int32) (v9 : Int32) (v10 : Int32) (σ : qMem), qAt wM mX12_heardByOf (ρi) 103 [(0, .ref 0), (6, .int v6), (7, .int v7), (8, .int v8), (9, .int v9), (10, .int v10)] [] σ (c103 v6 v7 v8 v9 v10 σ)) (v6 : Int32) (v7 : Int32) (v8 : Int32) (v10 : Int32) (u0 : Int32) (u1 : Int32) (σ : qMem) : qAt wM mX12_heardByOf (ρi) 189 [(0, .ref 0), (6, .int v6), (7, .int v7), (8, .int v8), (10, .int v10)] [.int u1, .int u0] σ (fX12_heardByOf_b189 N c103 v6 v7 v8 v10 u0 u1 σ) := by
  unfold fX12_heardByOf_b189
  refine q_iadd dX12_heardByOf_189 ?_
  refine q_istore (i := 9) (L' := [(9, .int (u0 + u1)), (0, .ref 0), (6, .int v6), (7, .int v7), (8, .int v8), (10, .int v10)]) dX12_heardByOf_190 (Nat.le_of_ble_eq_true rfl) rfl ?_
  exact q_sub [1, 2, 3, 4, 0, 5] rfl (aX12_heardByOf_b192 N c103 hc103 v6 v7 v8 (u0 + u1) v10 σ)

def fX12_heardByOf_s103 (N : Nat) (c103 : Int32 → Int32 → Int32 → Int32 → Int32 → qMem → Option (Int32 × qMem)) (v6 : Int32) (v7 : Int32) (v8 : Int32) (v9 : Int32) (v10 : Int32) (σ : qMem) : Option (Int32 × qMem) :=
  (if 50176 ≤ v10 then (some (v9, σ)) else (if ck v10 50176 = true then (if (gi σ 7 v10.toNatClampNeg) = 0 then (fX12_heardByOf_b192 N c103 v6 v7 v8 v9 v10 σ) else ((fX12_eastOf v10).bind fun y12 => ((fX12_eastBy v10).bind fun y13 => (nmI ((y12 + (v8 * y13)) - v6) fun x14 => ((fX12_northOf v10).bind fun y15 => ((fX12_northBy v10).bind fun y16 => (nmI ((y15 + (v8 * y16)) - v7) fun x17 => ((fX12_size x14).bind fun y18 => ((fX12_size x17).bind fun y19 => ((fX12_more y18 y19).bind fun y20 => (if ck y20 201 = true then (if (gi σ 24 y20.toNatClampNeg) = 0 then (fX12_heardByOf_b189 N c103 v6 v7 v8 v10 v9 0 σ) else (fX12_heardByOf_b189 N c103 v6 v7 v8 v10 v9 1 σ)) else none))))))))))) else none))
set_option maxRecDepth 20000 in
set_option maxHeartbeats 4000000 in
theorem aX12_heardByOf_s103 (N : Nat) (c103 : Int32 → Int32 → Int32 → Int32 → Int32 → qMem → Option (Int32 × qMem)) (hc103 : ∀ (v6 : Int32) (v7 : Int32) (v8 : Int32) (v9 : Int32) (v10 : Int32) (σ : qMem), qAt wM mX12_heardByOf (ρi) 103 [(0, .ref 0), (6, .int v6), (7, .int v7), (8, .int v8), (9, .int v9), (10, .int v10)] [] σ (c103 v6 v7 v8 v9 v10 σ)) (v6 : Int32) (v7 : Int32) (v8 : Int32) (v9 : Int32) (v10 : Int32) (σ : qMem) : qAt wM mX12_heardByOf (ρi) 103 [(0, .ref 0), (6, .int v6), (7, .int v7), (8, .int v8), (9, .int v9), (10, .int v10)] [] σ (fX12_heardByOf_s103 N c103 v6 v7 v8 v9 v10 σ) := by
  unfold fX12_heardByOf_s103
  refine q_iload (i := 10) (x := v10) dX12_heardByOf_103 5 rfl ?_
  refine q_ldc (v := 50176) dX12_heardByOf_105 (g_6 93 (by decide +kernel) rfl) ?_
  refine q_icmp_ge (tgt := 198) dX12_heardByOf_107 (by decide) ?_ ?_
  · refine q_iload (i := 9) (x := v9) dX12_heardByOf_198 4 rfl ?_
    exact q_ireti (y := (v9, σ)) dX12_heardByOf_200 rfl rfl
  refine q_aload_n (i := 0) (x := 0) dX12_heardByOf_110 rfl 0 rfl ?_
  refine q_getr (t := 7) dX12_heardByOf_111 foX12_40 zM_0 rfl ?_
  refine q_iload (i := 10) (x := v10) dX12_heardByOf_114 5 rfl ?_
  refine q_zald dX12_heardByOf_116 zM_7 ?_
  refine q_if_ne (tgt := 123) dX12_heardByOf_117 (by decide) ?_ ?_
  · refine q_iload (i := 10) (x := v10) dX12_heardByOf_123 5 rfl ?_
    refine q_cSp mX12_eastOf [.int v10] (st := []) dX12_heardByOf_125 (ssX12_229) ⟨Nat.le_of_ble_eq_true rfl, Nat.le_of_ble_eq_true rfl⟩ rfl rfl (Nat.le_of_ble_eq_true rfl) (kX12_eastOf v10 σ) (fun y12 => ?_)
    refine q_iload (i := 8) (x := v8) dX12_heardByOf_128 3 rfl ?_
    refine q_iload (i := 10) (x := v10) dX12_heardByOf_130 5 rfl ?_
    refine q_cSp mX12_eastBy [.int v10] (st := [.int v8, .int y12]) dX12_heardByOf_132 (ssX12_235) ⟨Nat.le_of_ble_eq_true rfl, Nat.le_of_ble_eq_true rfl⟩ rfl rfl (Nat.le_of_ble_eq_true rfl) (kX12_eastBy v10 σ) (fun y13 => ?_)
    refine q_imul dX12_heardByOf_135 ?_
    refine q_iadd dX12_heardByOf_136 ?_
    refine q_iload (i := 6) (x := v6) dX12_heardByOf_137 1 rfl ?_
    refine q_isub dX12_heardByOf_139 ?_
    refine q_nmI (fun x14 => ?_)
    refine q_istore (i := 11) (L' := [(11, .int x14), (0, .ref 0), (6, .int v6), (7, .int v7), (8, .int v8), (9, .int v9), (10, .int v10)]) dX12_heardByOf_140 (Nat.le_of_ble_eq_true rfl) rfl ?_
    refine q_iload (i := 10) (x := v10) dX12_heardByOf_142 6 rfl ?_
    refine q_cSp mX12_northOf [.int v10] (st := []) dX12_heardByOf_144 (ssX12_232) ⟨Nat.le_of_ble_eq_true rfl, Nat.le_of_ble_eq_true rfl⟩ rfl rfl (Nat.le_of_ble_eq_true rfl) (kX12_northOf v10 σ) (fun y15 => ?_)
    refine q_iload (i := 8) (x := v8) dX12_heardByOf_147 4 rfl ?_
    refine q_iload (i := 10) (x := v10) dX12_heardByOf_149 6 rfl ?_
    refine q_cSp mX12_northBy [.int v10] (st := [.int v8, .int y15]) dX12_heardByOf_151 (ssX12_238) ⟨Nat.le_of_ble_eq_true rfl, Nat.le_of_ble_eq_true rfl⟩ rfl rfl (Nat.le_of_ble_eq_true rfl) (kX12_northBy v10 σ) (fun y16 => ?_)
    refine q_imul dX12_heardByOf_154 ?_
    refine q_iadd dX12_heardByOf_155 ?_
    refine q_iload (i := 7) (x := v7) dX12_heardByOf_156 3 rfl ?_
    refine q_isub dX12_heardByOf_158 ?_
    refine q_nmI (fun x17 => ?_)
    refine q_istore (i := 12) (L' := [(12, .int x17), (11, .int x14), (0, .ref 0), (6, .int v6), (7, .int v7), (8, .int v8), (9, .int v9), (10, .int v10)]) dX12_heardByOf_159 (Nat.le_of_ble_eq_true rfl) rfl ?_
    refine q_iload (i := 9) (x := v9) dX12_heardByOf_161 6 rfl ?_
    refine q_aload_n (i := 0) (x := 0) dX12_heardByOf_163 rfl 2 rfl ?_
    refine q_getr (t := 24) dX12_heardByOf_164 foX12_101 zM_0 rfl ?_
    refine q_iload (i := 11) (x := x14) dX12_heardByOf_167 1 rfl ?_
    refine q_cSp mX12_size [.int x14] (st := [.ref 24, .int v9]) dX12_heardByOf_169 (ssX12_142) ⟨Nat.le_of_ble_eq_true rfl, Nat.le_of_ble_eq_true rfl⟩ rfl rfl (Nat.le_of_ble_eq_true rfl) (kX12_size x14 σ) (fun y18 => ?_)
    refine q_iload (i := 12) (x := x17) dX12_heardByOf_172 0 rfl ?_
    refine q_cSp mX12_size [.int x17] (st := [.int y18, .ref 24, .int v9]) dX12_heardByOf_174 (ssX12_142) ⟨Nat.le_of_ble_eq_true rfl, Nat.le_of_ble_eq_true rfl⟩ rfl rfl (Nat.le_of_ble_eq_true rfl) (kX12_size x17 σ) (fun y19 => ?_)
    refine q_cSp mX12_more [.int y18, .int y19] (st := [.ref 24, .int v9]) dX12_heardByOf_177 (ssX12_145) ⟨Nat.le_of_ble_eq_true rfl, Nat.le_of_ble_eq_true rfl⟩ rfl rfl (Nat.le_of_ble_eq_true rfl) (kX12_more y18 y19 σ) (fun y20 => ?_)
    refine q_zald dX12_heardByOf_180 zM_24 ?_
    refine q_if_eq (tgt := 188) dX12_heardByOf_181 (by decide) ?_ ?_
    · refine q_iconst (v := 0) dX12_heardByOf_188 (by decide) ?_
      exact q_sub [2, 3, 4, 5, 7] rfl (aX12_heardByOf_b189 N c103 hc103 v6 v7 v8 v10 v9 0 σ)
    refine q_iconst (v := 1) dX12_heardByOf_184 (by decide) ?_
    refine q_goto (tgt := 189) dX12_heardByOf_185 (by decide) ?_
    exact q_sub [2, 3, 4, 5, 7] rfl (aX12_heardByOf_b189 N c103 hc103 v6 v7 v8 v10 v9 1 σ)
  refine q_goto (tgt := 192) dX12_heardByOf_120 (by decide) ?_
  exact q_sub [0, 1, 2, 3, 4, 5] rfl (aX12_heardByOf_b192 N c103 hc103 v6 v7 v8 v9 v10 σ)
def fX12_heardByOf_l103 (N : Nat) : Nat → Int32 → Int32 → Int32 → Int32 → Int32 → qMem → Option (Int32 × qMem)
  | 0 => fun _ _ _ _ _ _ => none
  | n + 1 => fun v6 v7 v8 v9 v10 σ => fX12_heardByOf_s103 N (fX12_heardByOf_l103 N n) v6 v7 v8 v9 v10 σ
theorem aX12_heardByOf_l103 (N : Nat) : ∀ (n : Nat) (v6 : Int32) (v7 : Int32) (v8 : Int32) (v9 : Int32) (v10 : Int32) (σ : qMem), qAt wM mX12_heardByOf (ρi) 103 [(0, .ref 0), (6, .int v6), (7, .int v7), (8, .int v8), (9, .int v9), (10, .int v10)] [] σ (fX12_heardByOf_l103 N n v6 v7 v8 v9 v10 σ) := by
  intro n
  induction n with
  | zero => intro v6 v7 v8 v9 v10 σ; exact q_none
  | succ n ih => intro v6 v7 v8 v9 v10 σ; exact aX12_heardByOf_s103 N (fX12_heardByOf_l103 N n) ih v6 v7 v8 v9 v10 σ

def fX12_heardByOf (N : Nat) (p1 : Int32) (p2 : Int32) (p3 : Int32) (σ : qMem) : Option (Int32 × qMem) :=
  ((fX12_fits N σ).bind fun y1 => (if ck (204 + (2 * p3)) 1112 = true then (nmI (gi y1 2 (204 + (2 * p3)).toNatClampNeg) fun x2 => (if ck ((204 + (2 * p3)) + 1) 1112 = true then (nmI (gi y1 2 ((204 + (2 * p3)) + 1).toNatClampNeg) fun x3 => ((fX12_at N 0 p1 0 y1).bind fun y4 => ((fX12_at N 0 p1 1 y1).bind fun y5 => ((fX12_size x2).bind fun y6 => ((fX12_size x3).bind fun y7 => ((fX12_more y6 y7).bind fun y8 => ((fX12_asksBoat 0 (p1 + p2) y8 y1).bind fun y9 => ((fX12_boatOf 0 2 y9).bind fun y10 => ((fX12_hearsBy N y10 y9).bind fun y11 => (fX12_heardByOf_l103 N N (y4 + (p2 * x2)) (y5 + (p2 * x3)) (p1 + p2) 0 0 y11)))))))))) else none)) else none))
set_option maxRecDepth 20000 in
set_option maxHeartbeats 4000000 in
theorem aX12_heardByOf  (N : Nat) (p1 : Int32) (p2 : Int32) (p3 : Int32)  (σ : qMem) : qAt wM mX12_heardByOf (ρi) 0 [(0, .ref 0), (1, .int p1), (2, .int p2), (3, .int p3)] [] σ (fX12_heardByOf N p1 p2 p3 σ) := by
  unfold fX12_heardByOf
  refine q_aload_n (i := 0) (x := 0) dX12_heardByOf_0 rfl 0 rfl ?_
  refine q_cVv mX12_fits [] (st := []) dX12_heardByOf_1 (svX12_244) ⟨Nat.le_of_ble_eq_true rfl, Nat.le_of_ble_eq_true rfl⟩ zM_0 rfl rfl rfl (Nat.le_of_ble_eq_true rfl) (kX12_fits N σ) (fun y1 => ?_)
  refine q_aload_n (i := 0) (x := 0) dX12_heardByOf_4 rfl 0 rfl ?_
  refine q_getr (t := 2) dX12_heardByOf_5 foX12_20 zM_0 rfl ?_
  refine q_sipush (v := 204) dX12_heardByOf_8 (by decide) ?_
  refine q_iconst (v := 2) dX12_heardByOf_11 (by decide) ?_
  refine q_iload_n (i := 3) (x := p3) dX12_heardByOf_12 rfl 3 rfl ?_
  refine q_imul dX12_heardByOf_13 ?_
  refine q_iadd dX12_heardByOf_14 ?_
  refine q_iald dX12_heardByOf_15 zM_2 ?_
  refine q_nmI (fun x2 => ?_)
  refine q_istore (i := 4) (L' := [(4, .int x2), (0, .ref 0), (1, .int p1), (2, .int p2), (3, .int p3)]) dX12_heardByOf_16 (Nat.le_of_ble_eq_true rfl) rfl ?_
  refine q_aload_n (i := 0) (x := 0) dX12_heardByOf_18 rfl 1 rfl ?_
  refine q_getr (t := 2) dX12_heardByOf_19 foX12_20 zM_0 rfl ?_
  refine q_sipush (v := 204) dX12_heardByOf_22 (by decide) ?_
  refine q_iconst (v := 2) dX12_heardByOf_25 (by decide) ?_
  refine q_iload_n (i := 3) (x := p3) dX12_heardByOf_26 rfl 4 rfl ?_
  refine q_imul dX12_heardByOf_27 ?_
  refine q_iadd dX12_heardByOf_28 ?_
  refine q_iconst (v := 1) dX12_heardByOf_29 (by decide) ?_
  refine q_iadd dX12_heardByOf_30 ?_
  refine q_iald dX12_heardByOf_31 zM_2 ?_
  refine q_nmI (fun x3 => ?_)
  refine q_istore (i := 5) (L' := [(5, .int x3), (4, .int x2), (0, .ref 0), (1, .int p1), (2, .int p2), (3, .int p3)]) dX12_heardByOf_32 (Nat.le_of_ble_eq_true rfl) rfl ?_
  refine q_aload_n (i := 0) (x := 0) dX12_heardByOf_34 rfl 2 rfl ?_
  refine q_iconst (v := 0) dX12_heardByOf_35 (by decide) ?_
  refine q_iload_n (i := 1) (x := p1) dX12_heardByOf_36 rfl 3 rfl ?_
  refine q_iconst (v := 0) dX12_heardByOf_37 (by decide) ?_
  refine q_cVp mX12_at [.int 0, .int p1, .int 0] (st := []) dX12_heardByOf_38 (svX12_151) ⟨Nat.le_of_ble_eq_true rfl, Nat.le_of_ble_eq_true rfl⟩ zM_0 rfl rfl rfl (Nat.le_of_ble_eq_true rfl) (kX12_at N 0 p1 0 y1) (fun y4 => ?_)
  refine q_iload_n (i := 2) (x := p2) dX12_heardByOf_41 rfl 4 rfl ?_
  refine q_iload (i := 4) (x := x2) dX12_heardByOf_42 1 rfl ?_
  refine q_imul dX12_heardByOf_44 ?_
  refine q_iadd dX12_heardByOf_45 ?_
  refine q_istore (i := 6) (L' := [(6, .int (y4 + (p2 * x2))), (5, .int x3), (4, .int x2), (0, .ref 0), (1, .int p1), (2, .int p2), (3, .int p3)]) dX12_heardByOf_46 (Nat.le_of_ble_eq_true rfl) rfl ?_
  refine q_aload_n (i := 0) (x := 0) dX12_heardByOf_48 rfl 3 rfl ?_
  refine q_iconst (v := 0) dX12_heardByOf_49 (by decide) ?_
  refine q_iload_n (i := 1) (x := p1) dX12_heardByOf_50 rfl 4 rfl ?_
  refine q_iconst (v := 1) dX12_heardByOf_51 (by decide) ?_
  refine q_cVp mX12_at [.int 0, .int p1, .int 1] (st := []) dX12_heardByOf_52 (svX12_151) ⟨Nat.le_of_ble_eq_true rfl, Nat.le_of_ble_eq_true rfl⟩ zM_0 rfl rfl rfl (Nat.le_of_ble_eq_true rfl) (kX12_at N 0 p1 1 y1) (fun y5 => ?_)
  refine q_iload_n (i := 2) (x := p2) dX12_heardByOf_55 rfl 5 rfl ?_
  refine q_iload (i := 5) (x := x3) dX12_heardByOf_56 1 rfl ?_
  refine q_imul dX12_heardByOf_58 ?_
  refine q_iadd dX12_heardByOf_59 ?_
  refine q_istore (i := 7) (L' := [(7, .int (y5 + (p2 * x3))), (6, .int (y4 + (p2 * x2))), (5, .int x3), (4, .int x2), (0, .ref 0), (1, .int p1), (2, .int p2), (3, .int p3)]) dX12_heardByOf_60 (Nat.le_of_ble_eq_true rfl) rfl ?_
  refine q_iload_n (i := 1) (x := p1) dX12_heardByOf_62 rfl 5 rfl ?_
  refine q_iload_n (i := 2) (x := p2) dX12_heardByOf_63 rfl 6 rfl ?_
  refine q_iadd dX12_heardByOf_64 ?_
  refine q_istore (i := 8) (L' := [(8, .int (p1 + p2)), (7, .int (y5 + (p2 * x3))), (6, .int (y4 + (p2 * x2))), (5, .int x3), (4, .int x2), (0, .ref 0), (1, .int p1), (2, .int p2), (3, .int p3)]) dX12_heardByOf_65 (Nat.le_of_ble_eq_true rfl) rfl ?_
  refine q_aload_n (i := 0) (x := 0) dX12_heardByOf_67 rfl 5 rfl ?_
  refine q_iconst (v := 0) dX12_heardByOf_68 (by decide) ?_
  refine q_iload (i := 8) (x := (p1 + p2)) dX12_heardByOf_69 0 rfl ?_
  refine q_iload (i := 4) (x := x2) dX12_heardByOf_71 4 rfl ?_
  refine q_cSp mX12_size [.int x2] (st := [.int (p1 + p2), .int 0, .ref 0]) dX12_heardByOf_73 (ssX12_142) ⟨Nat.le_of_ble_eq_true rfl, Nat.le_of_ble_eq_true rfl⟩ rfl rfl (Nat.le_of_ble_eq_true rfl) (kX12_size x2 y1) (fun y6 => ?_)
  refine q_iload (i := 5) (x := x3) dX12_heardByOf_76 3 rfl ?_
  refine q_cSp mX12_size [.int x3] (st := [.int y6, .int (p1 + p2), .int 0, .ref 0]) dX12_heardByOf_78 (ssX12_142) ⟨Nat.le_of_ble_eq_true rfl, Nat.le_of_ble_eq_true rfl⟩ rfl rfl (Nat.le_of_ble_eq_true rfl) (kX12_size x3 y1) (fun y7 => ?_)
  refine q_cSp mX12_more [.int y6, .int y7] (st := [.int (p1 + p2), .int 0, .ref 0]) dX12_heardByOf_81 (ssX12_145) ⟨Nat.le_of_ble_eq_true rfl, Nat.le_of_ble_eq_true rfl⟩ rfl rfl (Nat.le_of_ble_eq_true rfl) (kX12_more y6 y7 y1) (fun y8 => ?_)
  refine q_cVv mX12_asksBoat [.int 0, .int (p1 + p2), .int y8] (st := []) dX12_heardByOf_84 (svX12_267) ⟨Nat.le_of_ble_eq_true rfl, Nat.le_of_ble_eq_true rfl⟩ zM_0 rfl rfl rfl (Nat.le_of_ble_eq_true rfl) (kX12_asksBoat 0 (p1 + p2) y8 y1) (fun y9 => ?_)
  refine q_aload_n (i := 0) (x := 0) dX12_heardByOf_87 rfl 5 rfl ?_
  refine q_aload_n (i := 0) (x := 0) dX12_heardByOf_88 rfl 5 rfl ?_
  refine q_iconst (v := 0) dX12_heardByOf_89 (by decide) ?_
  refine q_iconst (v := 2) dX12_heardByOf_90 (by decide) ?_
  refine q_cVp mX12_boatOf [.int 0, .int 2] (st := [.ref 0]) dX12_heardByOf_91 (svX12_121) ⟨Nat.le_of_ble_eq_true rfl, Nat.le_of_ble_eq_true rfl⟩ zM_0 rfl rfl rfl (Nat.le_of_ble_eq_true rfl) (kX12_boatOf 0 2 y9) (fun y10 => ?_)
  refine q_cVv mX12_hearsBy [.int y10] (st := []) dX12_heardByOf_94 (svX12_270) ⟨Nat.le_of_ble_eq_true rfl, Nat.le_of_ble_eq_true rfl⟩ zM_0 rfl rfl rfl (Nat.le_of_ble_eq_true rfl) (kX12_hearsBy N y10 y9) (fun y11 => ?_)
  refine q_iconst (v := 0) dX12_heardByOf_97 (by decide) ?_
  refine q_istore (i := 9) (L' := [(9, .int 0), (8, .int (p1 + p2)), (7, .int (y5 + (p2 * x3))), (6, .int (y4 + (p2 * x2))), (5, .int x3), (4, .int x2), (0, .ref 0), (1, .int p1), (2, .int p2), (3, .int p3)]) dX12_heardByOf_98 (Nat.le_of_ble_eq_true rfl) rfl ?_
  refine q_iconst (v := 0) dX12_heardByOf_100 (by decide) ?_
  refine q_istore (i := 10) (L' := [(10, .int 0), (9, .int 0), (8, .int (p1 + p2)), (7, .int (y5 + (p2 * x3))), (6, .int (y4 + (p2 * x2))), (5, .int x3), (4, .int x2), (0, .ref 0), (1, .int p1), (2, .int p2), (3, .int p3)]) dX12_heardByOf_101 (Nat.le_of_ble_eq_true rfl) rfl ?_
  exact q_sub [7, 4, 3, 2, 1, 0] rfl (aX12_heardByOf_l103 N N (y4 + (p2 * x2)) (y5 + (p2 * x3)) (p1 + p2) 0 0 y11)
theorem kX12_heardByOf  (N : Nat) (p1 : Int32) (p2 : Int32) (p3 : Int32)  (σ : qMem) : qMc wM mX12_heardByOf (ρi) [.ref 0, .int p1, .int p2, .int p3] σ (fX12_heardByOf N p1 p2 p3 σ) := qMc_of (moX12_heardByOf) (Nat.le_of_ble_eq_true rfl) (aX12_heardByOf N p1 p2 p3  σ)

theorem dX12_heardBy_0 : decode cX12_heardBy 0 = .ok (.iload_n 1, 1) := by decide +kernel
theorem dX12_heardBy_1 : decode cX12_heardBy 1 = .ok (.iload_n 2, 1) := by decide +kernel
theorem dX12_heardBy_2 : decode cX12_heardBy 2 = .ok (.invokestatic 260, 3) := by decide +kernel
theorem dX12_heardBy_5 : decode cX12_heardBy 5 = .ok (.ifCond .eq 31, 3) := by decide +kernel
theorem dX12_heardBy_8 : decode cX12_heardBy 8 = .ok (.iload_n 3, 1) := by decide +kernel
theorem dX12_heardBy_9 : decode cX12_heardBy 9 = .ok (.iconst 0, 1) := by decide +kernel
theorem dX12_heardBy_10 : decode cX12_heardBy 10 = .ok (.aload_n 0, 1) := by decide +kernel
theorem dX12_heardBy_11 : decode cX12_heardBy 11 = .ok (.getfield 20, 3) := by decide +kernel
theorem dX12_heardBy_14 : decode cX12_heardBy 14 = .ok (.sipush 303, 3) := by decide +kernel
theorem dX12_heardBy_17 : decode cX12_heardBy 17 = .ok (.iaload, 1) := by decide +kernel
theorem dX12_heardBy_18 : decode cX12_heardBy 18 = .ok (.iconst 1, 1) := by decide +kernel
theorem dX12_heardBy_19 : decode cX12_heardBy 19 = .ok (.isub, 1) := by decide +kernel
theorem dX12_heardBy_20 : decode cX12_heardBy 20 = .ok (.invokestatic 110, 3) := by decide +kernel
theorem dX12_heardBy_23 : decode cX12_heardBy 23 = .ok (.ifCond .eq 13, 3) := by decide +kernel
theorem dX12_heardBy_26 : decode cX12_heardBy 26 = .ok (.aload_n 0, 1) := by decide +kernel
theorem dX12_heardBy_27 : decode cX12_heardBy 27 = .ok (.iload_n 1, 1) := by decide +kernel
theorem dX12_heardBy_28 : decode cX12_heardBy 28 = .ok (.iload_n 2, 1) := by decide +kernel
theorem dX12_heardBy_29 : decode cX12_heardBy 29 = .ok (.iload_n 3, 1) := by decide +kernel
theorem dX12_heardBy_30 : decode cX12_heardBy 30 = .ok (.invokevirtual 274, 3) := by decide +kernel
theorem dX12_heardBy_33 : decode cX12_heardBy 33 = .ok (.goto 4, 3) := by decide +kernel
theorem dX12_heardBy_36 : decode cX12_heardBy 36 = .ok (.iconst (-1), 1) := by decide +kernel
theorem dX12_heardBy_37 : decode cX12_heardBy 37 = .ok (.ireturn, 1) := by decide +kernel
def fX12_heardBy_b36 (N : Nat) (σ : qMem) : Option (Int32 × qMem) :=
  (some ((-1), σ))
set_option maxRecDepth 20000 in
set_option maxHeartbeats 4000000 in
theorem aX12_heardBy_b36 (N : Nat) (σ : qMem) : qAt wM mX12_heardBy (ρi) 36 [] [] σ (fX12_heardBy_b36 N σ) := by
  unfold fX12_heardBy_b36
  refine q_iconst (v := (-1)) dX12_heardBy_36 (by decide) ?_
  exact q_ireti (y := ((-1), σ)) dX12_heardBy_37 rfl rfl

def fX12_heardBy (N : Nat) (p1 : Int32) (p2 : Int32) (p3 : Int32) (σ : qMem) : Option (Int32 × qMem) :=
  ((fX12_isAhead p1 p2).bind fun y1 => (if y1 = 0 then (fX12_heardBy_b36 N σ) else (if ck 303 1112 = true then ((fX12_in p3 0 ((gi σ 2 (303 : Int32).toNatClampNeg) - 1)).bind fun y2 => (if y2 = 0 then (fX12_heardBy_b36 N σ) else ((fX12_heardByOf N p1 p2 p3 σ).bind fun y3 => (some (y3.1, y3.2))))) else none)))
set_option maxRecDepth 20000 in
set_option maxHeartbeats 4000000 in
theorem aX12_heardBy  (N : Nat) (p1 : Int32) (p2 : Int32) (p3 : Int32)  (σ : qMem) : qAt wM mX12_heardBy (ρi) 0 [(0, .ref 0), (1, .int p1), (2, .int p2), (3, .int p3)] [] σ (fX12_heardBy N p1 p2 p3 σ) := by
  unfold fX12_heardBy
  refine q_iload_n (i := 1) (x := p1) dX12_heardBy_0 rfl 1 rfl ?_
  refine q_iload_n (i := 2) (x := p2) dX12_heardBy_1 rfl 2 rfl ?_
  refine q_cSp mX12_isAhead [.int p1, .int p2] (st := []) dX12_heardBy_2 (ssX12_260) ⟨Nat.le_of_ble_eq_true rfl, Nat.le_of_ble_eq_true rfl⟩ rfl rfl (Nat.le_of_ble_eq_true rfl) (kX12_isAhead p1 p2 σ) (fun y1 => ?_)
  refine q_if_eq (tgt := 36) dX12_heardBy_5 (by decide) ?_ ?_
  · exact q_sub [] rfl (aX12_heardBy_b36 N σ)
  refine q_iload_n (i := 3) (x := p3) dX12_heardBy_8 rfl 3 rfl ?_
  refine q_iconst (v := 0) dX12_heardBy_9 (by decide) ?_
  refine q_aload_n (i := 0) (x := 0) dX12_heardBy_10 rfl 0 rfl ?_
  refine q_getr (t := 2) dX12_heardBy_11 foX12_20 zM_0 rfl ?_
  refine q_sipush (v := 303) dX12_heardBy_14 (by decide) ?_
  refine q_iald dX12_heardBy_17 zM_2 ?_
  refine q_iconst (v := 1) dX12_heardBy_18 (by decide) ?_
  refine q_isub dX12_heardBy_19 ?_
  refine q_cSp mX12_in [.int p3, .int 0, .int ((gi σ 2 (303 : Int32).toNatClampNeg) - 1)] (st := []) dX12_heardBy_20 (ssX12_110) ⟨Nat.le_of_ble_eq_true rfl, Nat.le_of_ble_eq_true rfl⟩ rfl rfl (Nat.le_of_ble_eq_true rfl) (kX12_in p3 0 ((gi σ 2 (303 : Int32).toNatClampNeg) - 1) σ) (fun y2 => ?_)
  refine q_if_eq (tgt := 36) dX12_heardBy_23 (by decide) ?_ ?_
  · exact q_sub [] rfl (aX12_heardBy_b36 N σ)
  refine q_aload_n (i := 0) (x := 0) dX12_heardBy_26 rfl 0 rfl ?_
  refine q_iload_n (i := 1) (x := p1) dX12_heardBy_27 rfl 1 rfl ?_
  refine q_iload_n (i := 2) (x := p2) dX12_heardBy_28 rfl 2 rfl ?_
  refine q_iload_n (i := 3) (x := p3) dX12_heardBy_29 rfl 3 rfl ?_
  refine q_cVi mX12_heardByOf [.int p1, .int p2, .int p3] (st := []) dX12_heardBy_30 (svX12_274) ⟨Nat.le_of_ble_eq_true rfl, Nat.le_of_ble_eq_true rfl⟩ zM_0 rfl rfl rfl (Nat.le_of_ble_eq_true rfl) (kX12_heardByOf N p1 p2 p3 σ) (fun y3 => ?_)
  refine q_goto (tgt := 37) dX12_heardBy_33 (by decide) ?_
  exact q_ireti (y := (y3.1, y3.2)) dX12_heardBy_37 rfl rfl
theorem kX12_heardBy  (N : Nat) (p1 : Int32) (p2 : Int32) (p3 : Int32)  (σ : qMem) : qMc wM mX12_heardBy (ρi) [.ref 0, .int p1, .int p2, .int p3] σ (fX12_heardBy N p1 p2 p3 σ) := qMc_of (moX12_heardBy) (Nat.le_of_ble_eq_true rfl) (aX12_heardBy N p1 p2 p3  σ)

theorem dX12_silent_0 : decode cX12_silent 0 = .ok (.iload_n 1, 1) := by decide +kernel
theorem dX12_silent_1 : decode cX12_silent 1 = .ok (.iload_n 2, 1) := by decide +kernel
theorem dX12_silent_2 : decode cX12_silent 2 = .ok (.invokestatic 260, 3) := by decide +kernel
theorem dX12_silent_5 : decode cX12_silent 5 = .ok (.ifCond .eq 14, 3) := by decide +kernel
theorem dX12_silent_8 : decode cX12_silent 8 = .ok (.iload_n 3, 1) := by decide +kernel
theorem dX12_silent_9 : decode cX12_silent 9 = .ok (.iconst 0, 1) := by decide +kernel
theorem dX12_silent_10 : decode cX12_silent 10 = .ok (.ldc_w 277, 3) := by decide +kernel
theorem dX12_silent_13 : decode cX12_silent 13 = .ok (.invokestatic 110, 3) := by decide +kernel
theorem dX12_silent_16 : decode cX12_silent 16 = .ok (.ifCond .ne 5, 3) := by decide +kernel
theorem dX12_silent_19 : decode cX12_silent 19 = .ok (.iconst (-1), 1) := by decide +kernel
theorem dX12_silent_20 : decode cX12_silent 20 = .ok (.ireturn, 1) := by decide +kernel
theorem dX12_silent_21 : decode cX12_silent 21 = .ok (.iconst (-1), 1) := by decide +kernel
theorem dX12_silent_22 : decode cX12_silent 22 = .ok (.istore 4, 2) := by decide +kernel
theorem dX12_silent_24 : decode cX12_silent 24 = .ok (.iconst 0, 1) := by decide +kernel
theorem dX12_silent_25 : decode cX12_silent 25 = .ok (.istore 5, 2) := by decide +kernel
theorem dX12_silent_27 : decode cX12_silent 27 = .ok (.iconst 0, 1) := by decide +kernel
theorem dX12_silent_28 : decode cX12_silent 28 = .ok (.istore 6, 2) := by decide +kernel
theorem dX12_silent_30 : decode cX12_silent 30 = .ok (.iload 6, 2) := by decide +kernel
theorem dX12_silent_32 : decode cX12_silent 32 = .ok (.aload_n 0, 1) := by decide +kernel
theorem dX12_silent_33 : decode cX12_silent 33 = .ok (.getfield 20, 3) := by decide +kernel
theorem dX12_silent_36 : decode cX12_silent 36 = .ok (.sipush 303, 3) := by decide +kernel
theorem dX12_silent_39 : decode cX12_silent 39 = .ok (.iaload, 1) := by decide +kernel
theorem dX12_silent_40 : decode cX12_silent 40 = .ok (.if_icmp .ge 58, 3) := by decide +kernel
theorem dX12_silent_43 : decode cX12_silent 43 = .ok (.aload_n 0, 1) := by decide +kernel
theorem dX12_silent_44 : decode cX12_silent 44 = .ok (.iload_n 1, 1) := by decide +kernel
theorem dX12_silent_45 : decode cX12_silent 45 = .ok (.iload_n 2, 1) := by decide +kernel
theorem dX12_silent_46 : decode cX12_silent 46 = .ok (.iload 6, 2) := by decide +kernel
theorem dX12_silent_48 : decode cX12_silent 48 = .ok (.invokevirtual 274, 3) := by decide +kernel
theorem dX12_silent_51 : decode cX12_silent 51 = .ok (.iload_n 3, 1) := by decide +kernel
theorem dX12_silent_52 : decode cX12_silent 52 = .ok (.if_icmp .le 6, 3) := by decide +kernel
theorem dX12_silent_55 : decode cX12_silent 55 = .ok (.goto 37, 3) := by decide +kernel
theorem dX12_silent_58 : decode cX12_silent 58 = .ok (.aload_n 0, 1) := by decide +kernel
theorem dX12_silent_59 : decode cX12_silent 59 = .ok (.iload_n 1, 1) := by decide +kernel
theorem dX12_silent_60 : decode cX12_silent 60 = .ok (.iload_n 2, 1) := by decide +kernel
theorem dX12_silent_61 : decode cX12_silent 61 = .ok (.iload 6, 2) := by decide +kernel
theorem dX12_silent_63 : decode cX12_silent 63 = .ok (.invokevirtual 264, 3) := by decide +kernel
theorem dX12_silent_66 : decode cX12_silent 66 = .ok (.istore 7, 2) := by decide +kernel
theorem dX12_silent_68 : decode cX12_silent 68 = .ok (.iload 4, 2) := by decide +kernel
theorem dX12_silent_70 : decode cX12_silent 70 = .ok (.iconst (-1), 1) := by decide +kernel
theorem dX12_silent_71 : decode cX12_silent 71 = .ok (.if_icmp .eq 13, 3) := by decide +kernel
theorem dX12_silent_74 : decode cX12_silent 74 = .ok (.iload 7, 2) := by decide +kernel
theorem dX12_silent_76 : decode cX12_silent 76 = .ok (.iload 5, 2) := by decide +kernel
theorem dX12_silent_78 : decode cX12_silent 78 = .ok (.if_icmp .lt 6, 3) := by decide +kernel
theorem dX12_silent_81 : decode cX12_silent 81 = .ok (.goto 11, 3) := by decide +kernel
theorem dX12_silent_84 : decode cX12_silent 84 = .ok (.iload 6, 2) := by decide +kernel
theorem dX12_silent_86 : decode cX12_silent 86 = .ok (.istore 4, 2) := by decide +kernel
theorem dX12_silent_88 : decode cX12_silent 88 = .ok (.iload 7, 2) := by decide +kernel
theorem dX12_silent_90 : decode cX12_silent 90 = .ok (.istore 5, 2) := by decide +kernel
theorem dX12_silent_92 : decode cX12_silent 92 = .ok (.iinc 6 1, 3) := by decide +kernel
theorem dX12_silent_95 : decode cX12_silent 95 = .ok (.goto (-65), 3) := by decide +kernel
theorem dX12_silent_98 : decode cX12_silent 98 = .ok (.iload 4, 2) := by decide +kernel
theorem dX12_silent_100 : decode cX12_silent 100 = .ok (.ireturn, 1) := by decide +kernel
def fX12_silent_b92 (N : Nat) (c30 : Int32 → Int32 → Int32 → Int32 → Int32 → Int32 → qMem → Option (Int32 × qMem)) (v1 : Int32) (v2 : Int32) (v3 : Int32) (v4 : Int32) (v5 : Int32) (v6 : Int32) (σ : qMem) : Option (Int32 × qMem) :=
  (c30 v1 v2 v3 v4 v5 (v6 + 1) σ)
set_option maxRecDepth 20000 in
set_option maxHeartbeats 4000000 in
theorem aX12_silent_b92 (N : Nat) (c30 : Int32 → Int32 → Int32 → Int32 → Int32 → Int32 → qMem → Option (Int32 × qMem)) (hc30 : ∀ (v1 : Int32) (v2 : Int32) (v3 : Int32) (v4 : Int32) (v5 : Int32) (v6 : Int32) (σ : qMem), qAt wM mX12_silent (ρi) 30 [(0, .ref 0), (1, .int v1), (2, .int v2), (3, .int v3), (4, .int v4), (5, .int v5), (6, .int v6)] [] σ (c30 v1 v2 v3 v4 v5 v6 σ)) (v1 : Int32) (v2 : Int32) (v3 : Int32) (v4 : Int32) (v5 : Int32) (v6 : Int32) (σ : qMem) : qAt wM mX12_silent (ρi) 92 [(0, .ref 0), (1, .int v1), (2, .int v2), (3, .int v3), (4, .int v4), (5, .int v5), (6, .int v6)] [] σ (fX12_silent_b92 N c30 v1 v2 v3 v4 v5 v6 σ) := by
  unfold fX12_silent_b92
  refine q_iinc (i := 6) (x := v6) (v := (v6 + 1)) (L' := [(6, .int (v6 + 1)), (0, .ref 0), (1, .int v1), (2, .int v2), (3, .int v3), (4, .int v4), (5, .int v5)]) dX12_silent_92 6 rfl (q_cst v6 (by decide)) (Nat.le_of_ble_eq_true rfl) rfl ?_
  refine q_goto (tgt := 30) dX12_silent_95 (by decide) ?_
  exact q_sub [1, 2, 3, 4, 5, 6, 0] rfl (hc30 v1 v2 v3 v4 v5 (v6 + 1) σ)

def fX12_silent_b84 (N : Nat) (c30 : Int32 → Int32 → Int32 → Int32 → Int32 → Int32 → qMem → Option (Int32 × qMem)) (v1 : Int32) (v2 : Int32) (v3 : Int32) (v6 : Int32) (v7 : Int32) (σ : qMem) : Option (Int32 × qMem) :=
  (fX12_silent_b92 N c30 v1 v2 v3 v6 v7 v6 σ)
set_option maxRecDepth 20000 in
set_option maxHeartbeats 4000000 in
theorem aX12_silent_b84 (N : Nat) (c30 : Int32 → Int32 → Int32 → Int32 → Int32 → Int32 → qMem → Option (Int32 × qMem)) (hc30 : ∀ (v1 : Int32) (v2 : Int32) (v3 : Int32) (v4 : Int32) (v5 : Int32) (v6 : Int32) (σ : qMem), qAt wM mX12_silent (ρi) 30 [(0, .ref 0), (1, .int v1), (2, .int v2), (3, .int v3), (4, .int v4), (5, .int v5), (6, .int v6)] [] σ (c30 v1 v2 v3 v4 v5 v6 σ)) (v1 : Int32) (v2 : Int32) (v3 : Int32) (v6 : Int32) (v7 : Int32) (σ : qMem) : qAt wM mX12_silent (ρi) 84 [(0, .ref 0), (1, .int v1), (2, .int v2), (3, .int v3), (6, .int v6), (7, .int v7)] [] σ (fX12_silent_b84 N c30 v1 v2 v3 v6 v7 σ) := by
  unfold fX12_silent_b84
  refine q_iload (i := 6) (x := v6) dX12_silent_84 4 rfl ?_
  refine q_istore (i := 4) (L' := [(4, .int v6), (0, .ref 0), (1, .int v1), (2, .int v2), (3, .int v3), (6, .int v6), (7, .int v7)]) dX12_silent_86 (Nat.le_of_ble_eq_true rfl) rfl ?_
  refine q_iload (i := 7) (x := v7) dX12_silent_88 6 rfl ?_
  refine q_istore (i := 5) (L' := [(5, .int v7), (4, .int v6), (0, .ref 0), (1, .int v1), (2, .int v2), (3, .int v3), (6, .int v6), (7, .int v7)]) dX12_silent_90 (Nat.le_of_ble_eq_true rfl) rfl ?_
  exact q_sub [2, 3, 4, 5, 1, 0, 6] rfl (aX12_silent_b92 N c30 hc30 v1 v2 v3 v6 v7 v6 σ)

def fX12_silent_s30 (N : Nat) (c30 : Int32 → Int32 → Int32 → Int32 → Int32 → Int32 → qMem → Option (Int32 × qMem)) (v1 : Int32) (v2 : Int32) (v3 : Int32) (v4 : Int32) (v5 : Int32) (v6 : Int32) (σ : qMem) : Option (Int32 × qMem) :=
  (if ck 303 1112 = true then (if (gi σ 2 (303 : Int32).toNatClampNeg) ≤ v6 then (some (v4, σ)) else ((fX12_heardByOf N v1 v2 v6 σ).bind fun y3 => (if y3.1 ≤ v3 then ((fX12_partsOf N v1 v2 v6 y3.2).bind fun y4 => (if v4 = (-1) then (fX12_silent_b84 N c30 v1 v2 v3 v6 y4.1 y4.2) else (if y4.1 < v5 then (fX12_silent_b84 N c30 v1 v2 v3 v6 y4.1 y4.2) else (fX12_silent_b92 N c30 v1 v2 v3 v4 v5 v6 y4.2)))) else (fX12_silent_b92 N c30 v1 v2 v3 v4 v5 v6 y3.2)))) else none)
set_option maxRecDepth 20000 in
set_option maxHeartbeats 4000000 in
theorem aX12_silent_s30 (N : Nat) (c30 : Int32 → Int32 → Int32 → Int32 → Int32 → Int32 → qMem → Option (Int32 × qMem)) (hc30 : ∀ (v1 : Int32) (v2 : Int32) (v3 : Int32) (v4 : Int32) (v5 : Int32) (v6 : Int32) (σ : qMem), qAt wM mX12_silent (ρi) 30 [(0, .ref 0), (1, .int v1), (2, .int v2), (3, .int v3), (4, .int v4), (5, .int v5), (6, .int v6)] [] σ (c30 v1 v2 v3 v4 v5 v6 σ)) (v1 : Int32) (v2 : Int32) (v3 : Int32) (v4 : Int32) (v5 : Int32) (v6 : Int32) (σ : qMem) : qAt wM mX12_silent (ρi) 30 [(0, .ref 0), (1, .int v1), (2, .int v2), (3, .int v3), (4, .int v4), (5, .int v5), (6, .int v6)] [] σ (fX12_silent_s30 N c30 v1 v2 v3 v4 v5 v6 σ) := by
  unfold fX12_silent_s30
  refine q_iload (i := 6) (x := v6) dX12_silent_30 6 rfl ?_
  refine q_aload_n (i := 0) (x := 0) dX12_silent_32 rfl 0 rfl ?_
  refine q_getr (t := 2) dX12_silent_33 foX12_20 zM_0 rfl ?_
  refine q_sipush (v := 303) dX12_silent_36 (by decide) ?_
  refine q_iald dX12_silent_39 zM_2 ?_
  refine q_icmp_ge (tgt := 98) dX12_silent_40 (by decide) ?_ ?_
  · refine q_iload (i := 4) (x := v4) dX12_silent_98 4 rfl ?_
    exact q_ireti (y := (v4, σ)) dX12_silent_100 rfl rfl
  refine q_aload_n (i := 0) (x := 0) dX12_silent_43 rfl 0 rfl ?_
  refine q_iload_n (i := 1) (x := v1) dX12_silent_44 rfl 1 rfl ?_
  refine q_iload_n (i := 2) (x := v2) dX12_silent_45 rfl 2 rfl ?_
  refine q_iload (i := 6) (x := v6) dX12_silent_46 6 rfl ?_
  refine q_cVi mX12_heardByOf [.int v1, .int v2, .int v6] (st := []) dX12_silent_48 (svX12_274) ⟨Nat.le_of_ble_eq_true rfl, Nat.le_of_ble_eq_true rfl⟩ zM_0 rfl rfl rfl (Nat.le_of_ble_eq_true rfl) (kX12_heardByOf N v1 v2 v6 σ) (fun y3 => ?_)
  refine q_iload_n (i := 3) (x := v3) dX12_silent_51 rfl 3 rfl ?_
  refine q_icmp_le (tgt := 58) dX12_silent_52 (by decide) ?_ ?_
  · refine q_aload_n (i := 0) (x := 0) dX12_silent_58 rfl 0 rfl ?_
    refine q_iload_n (i := 1) (x := v1) dX12_silent_59 rfl 1 rfl ?_
    refine q_iload_n (i := 2) (x := v2) dX12_silent_60 rfl 2 rfl ?_
    refine q_iload (i := 6) (x := v6) dX12_silent_61 6 rfl ?_
    refine q_cVi mX12_partsOf [.int v1, .int v2, .int v6] (st := []) dX12_silent_63 (svX12_264) ⟨Nat.le_of_ble_eq_true rfl, Nat.le_of_ble_eq_true rfl⟩ zM_0 rfl rfl rfl (Nat.le_of_ble_eq_true rfl) (kX12_partsOf N v1 v2 v6 y3.2) (fun y4 => ?_)
    refine q_istore (i := 7) (L' := [(7, .int y4.1), (0, .ref 0), (1, .int v1), (2, .int v2), (3, .int v3), (4, .int v4), (5, .int v5), (6, .int v6)]) dX12_silent_66 (Nat.le_of_ble_eq_true rfl) rfl ?_
    refine q_iload (i := 4) (x := v4) dX12_silent_68 5 rfl ?_
    refine q_iconst (v := (-1)) dX12_silent_70 (by decide) ?_
    refine q_icmp_eq (tgt := 84) dX12_silent_71 (by decide) ?_ ?_
    · exact q_sub [1, 2, 3, 4, 7, 0] rfl (aX12_silent_b84 N c30 hc30 v1 v2 v3 v6 y4.1 y4.2)
    refine q_iload (i := 7) (x := y4.1) dX12_silent_74 0 rfl ?_
    refine q_iload (i := 5) (x := v5) dX12_silent_76 6 rfl ?_
    refine q_icmp_lt (tgt := 84) dX12_silent_78 (by decide) ?_ ?_
    · exact q_sub [1, 2, 3, 4, 7, 0] rfl (aX12_silent_b84 N c30 hc30 v1 v2 v3 v6 y4.1 y4.2)
    refine q_goto (tgt := 92) dX12_silent_81 (by decide) ?_
    exact q_sub [1, 2, 3, 4, 5, 6, 7] rfl (aX12_silent_b92 N c30 hc30 v1 v2 v3 v4 v5 v6 y4.2)
  refine q_goto (tgt := 92) dX12_silent_55 (by decide) ?_
  exact q_sub [0, 1, 2, 3, 4, 5, 6] rfl (aX12_silent_b92 N c30 hc30 v1 v2 v3 v4 v5 v6 y3.2)
def fX12_silent_l30 (N : Nat) : Nat → Int32 → Int32 → Int32 → Int32 → Int32 → Int32 → qMem → Option (Int32 × qMem)
  | 0 => fun _ _ _ _ _ _ _ => none
  | n + 1 => fun v1 v2 v3 v4 v5 v6 σ => fX12_silent_s30 N (fX12_silent_l30 N n) v1 v2 v3 v4 v5 v6 σ
theorem aX12_silent_l30 (N : Nat) : ∀ (n : Nat) (v1 : Int32) (v2 : Int32) (v3 : Int32) (v4 : Int32) (v5 : Int32) (v6 : Int32) (σ : qMem), qAt wM mX12_silent (ρi) 30 [(0, .ref 0), (1, .int v1), (2, .int v2), (3, .int v3), (4, .int v4), (5, .int v5), (6, .int v6)] [] σ (fX12_silent_l30 N n v1 v2 v3 v4 v5 v6 σ) := by
  intro n
  induction n with
  | zero => intro v1 v2 v3 v4 v5 v6 σ; exact q_none
  | succ n ih => intro v1 v2 v3 v4 v5 v6 σ; exact aX12_silent_s30 N (fX12_silent_l30 N n) ih v1 v2 v3 v4 v5 v6 σ

def fX12_silent (N : Nat) (p1 : Int32) (p2 : Int32) (p3 : Int32) (σ : qMem) : Option (Int32 × qMem) :=
  ((fX12_isAhead p1 p2).bind fun y1 => (if y1 = 0 then (some ((-1), σ)) else ((fX12_in p3 0 60000).bind fun y2 => (if y2 = 0 then (some ((-1), σ)) else (fX12_silent_l30 N N p1 p2 p3 (-1) 0 0 σ)))))
set_option maxRecDepth 20000 in
set_option maxHeartbeats 4000000 in
theorem aX12_silent  (N : Nat) (p1 : Int32) (p2 : Int32) (p3 : Int32)  (σ : qMem) : qAt wM mX12_silent (ρi) 0 [(0, .ref 0), (1, .int p1), (2, .int p2), (3, .int p3)] [] σ (fX12_silent N p1 p2 p3 σ) := by
  unfold fX12_silent
  refine q_iload_n (i := 1) (x := p1) dX12_silent_0 rfl 1 rfl ?_
  refine q_iload_n (i := 2) (x := p2) dX12_silent_1 rfl 2 rfl ?_
  refine q_cSp mX12_isAhead [.int p1, .int p2] (st := []) dX12_silent_2 (ssX12_260) ⟨Nat.le_of_ble_eq_true rfl, Nat.le_of_ble_eq_true rfl⟩ rfl rfl (Nat.le_of_ble_eq_true rfl) (kX12_isAhead p1 p2 σ) (fun y1 => ?_)
  refine q_if_eq (tgt := 19) dX12_silent_5 (by decide) ?_ ?_
  · refine q_iconst (v := (-1)) dX12_silent_19 (by decide) ?_
    exact q_ireti (y := ((-1), σ)) dX12_silent_20 rfl rfl
  refine q_iload_n (i := 3) (x := p3) dX12_silent_8 rfl 3 rfl ?_
  refine q_iconst (v := 0) dX12_silent_9 (by decide) ?_
  refine q_ldc_w (v := 60000) dX12_silent_10 (g_8 94 (by decide +kernel) rfl) ?_
  refine q_cSp mX12_in [.int p3, .int 0, .int 60000] (st := []) dX12_silent_13 (ssX12_110) ⟨Nat.le_of_ble_eq_true rfl, Nat.le_of_ble_eq_true rfl⟩ rfl rfl (Nat.le_of_ble_eq_true rfl) (kX12_in p3 0 60000 σ) (fun y2 => ?_)
  refine q_if_ne (tgt := 21) dX12_silent_16 (by decide) ?_ ?_
  · refine q_iconst (v := (-1)) dX12_silent_21 (by decide) ?_
    refine q_istore (i := 4) (L' := [(4, .int (-1)), (0, .ref 0), (1, .int p1), (2, .int p2), (3, .int p3)]) dX12_silent_22 (Nat.le_of_ble_eq_true rfl) rfl ?_
    refine q_iconst (v := 0) dX12_silent_24 (by decide) ?_
    refine q_istore (i := 5) (L' := [(5, .int 0), (4, .int (-1)), (0, .ref 0), (1, .int p1), (2, .int p2), (3, .int p3)]) dX12_silent_25 (Nat.le_of_ble_eq_true rfl) rfl ?_
    refine q_iconst (v := 0) dX12_silent_27 (by decide) ?_
    refine q_istore (i := 6) (L' := [(6, .int 0), (5, .int 0), (4, .int (-1)), (0, .ref 0), (1, .int p1), (2, .int p2), (3, .int p3)]) dX12_silent_28 (Nat.le_of_ble_eq_true rfl) rfl ?_
    exact q_sub [3, 4, 5, 6, 2, 1, 0] rfl (aX12_silent_l30 N N p1 p2 p3 (-1) 0 0 σ)
  refine q_iconst (v := (-1)) dX12_silent_19 (by decide) ?_
  exact q_ireti (y := ((-1), σ)) dX12_silent_20 rfl rfl
theorem kX12_silent  (N : Nat) (p1 : Int32) (p2 : Int32) (p3 : Int32)  (σ : qMem) : qMc wM mX12_silent (ρi) [.ref 0, .int p1, .int p2, .int p3] σ (fX12_silent N p1 p2 p3 σ) := qMc_of (moX12_silent) (Nat.le_of_ble_eq_true rfl) (aX12_silent N p1 p2 p3  σ)

theorem dX12_mays_0 : decode cX12_mays 0 = .ok (.iconst 0, 1) := by decide +kernel
theorem dX12_mays_1 : decode cX12_mays 1 = .ok (.istore 4, 2) := by decide +kernel
theorem dX12_mays_3 : decode cX12_mays 3 = .ok (.iload 4, 2) := by decide +kernel
theorem dX12_mays_5 : decode cX12_mays 5 = .ok (.bipush 24, 2) := by decide +kernel
theorem dX12_mays_7 : decode cX12_mays 7 = .ok (.if_icmp .ge 162, 3) := by decide +kernel
theorem dX12_mays_10 : decode cX12_mays 10 = .ok (.aload_n 0, 1) := by decide +kernel
theorem dX12_mays_11 : decode cX12_mays 11 = .ok (.getfield 56, 3) := by decide +kernel
theorem dX12_mays_14 : decode cX12_mays 14 = .ok (.iload 4, 2) := by decide +kernel
theorem dX12_mays_16 : decode cX12_mays 16 = .ok (.iconst 0, 1) := by decide +kernel
theorem dX12_mays_17 : decode cX12_mays 17 = .ok (.iastore, 1) := by decide +kernel
theorem dX12_mays_18 : decode cX12_mays 18 = .ok (.iconst 0, 1) := by decide +kernel
theorem dX12_mays_19 : decode cX12_mays 19 = .ok (.istore 5, 2) := by decide +kernel
theorem dX12_mays_21 : decode cX12_mays 21 = .ok (.iload 5, 2) := by decide +kernel
theorem dX12_mays_23 : decode cX12_mays 23 = .ok (.aload_n 0, 1) := by decide +kernel
theorem dX12_mays_24 : decode cX12_mays 24 = .ok (.getfield 20, 3) := by decide +kernel
theorem dX12_mays_27 : decode cX12_mays 27 = .ok (.sipush 300, 3) := by decide +kernel
theorem dX12_mays_30 : decode cX12_mays 30 = .ok (.iaload, 1) := by decide +kernel
theorem dX12_mays_31 : decode cX12_mays 31 = .ok (.if_icmp .ge 132, 3) := by decide +kernel
theorem dX12_mays_34 : decode cX12_mays 34 = .ok (.iload 4, 2) := by decide +kernel
theorem dX12_mays_36 : decode cX12_mays 36 = .ok (.aload_n 0, 1) := by decide +kernel
theorem dX12_mays_37 : decode cX12_mays 37 = .ok (.getfield 20, 3) := by decide +kernel
theorem dX12_mays_40 : decode cX12_mays 40 = .ok (.sipush 300, 3) := by decide +kernel
theorem dX12_mays_43 : decode cX12_mays 43 = .ok (.iaload, 1) := by decide +kernel
theorem dX12_mays_44 : decode cX12_mays 44 = .ok (.if_icmp .ge 113, 3) := by decide +kernel
theorem dX12_mays_47 : decode cX12_mays 47 = .ok (.aload_n 0, 1) := by decide +kernel
theorem dX12_mays_48 : decode cX12_mays 48 = .ok (.iload 4, 2) := by decide +kernel
theorem dX12_mays_50 : decode cX12_mays 50 = .ok (.iconst 0, 1) := by decide +kernel
theorem dX12_mays_51 : decode cX12_mays 51 = .ok (.invokevirtual 173, 3) := by decide +kernel
theorem dX12_mays_54 : decode cX12_mays 54 = .ok (.iload_n 1, 1) := by decide +kernel
theorem dX12_mays_55 : decode cX12_mays 55 = .ok (.if_icmp .ne 102, 3) := by decide +kernel
theorem dX12_mays_58 : decode cX12_mays 58 = .ok (.aload_n 0, 1) := by decide +kernel
theorem dX12_mays_59 : decode cX12_mays 59 = .ok (.iload 5, 2) := by decide +kernel
theorem dX12_mays_61 : decode cX12_mays 61 = .ok (.iconst 0, 1) := by decide +kernel
theorem dX12_mays_62 : decode cX12_mays 62 = .ok (.invokevirtual 173, 3) := by decide +kernel
theorem dX12_mays_65 : decode cX12_mays 65 = .ok (.iload_n 1, 1) := by decide +kernel
theorem dX12_mays_66 : decode cX12_mays 66 = .ok (.if_icmp .ne 91, 3) := by decide +kernel
theorem dX12_mays_69 : decode cX12_mays 69 = .ok (.iload 4, 2) := by decide +kernel
theorem dX12_mays_71 : decode cX12_mays 71 = .ok (.iload_n 2, 1) := by decide +kernel
theorem dX12_mays_72 : decode cX12_mays 72 = .ok (.if_icmp .ne 12, 3) := by decide +kernel
theorem dX12_mays_75 : decode cX12_mays 75 = .ok (.iload 5, 2) := by decide +kernel
theorem dX12_mays_77 : decode cX12_mays 77 = .ok (.iload_n 3, 1) := by decide +kernel
theorem dX12_mays_78 : decode cX12_mays 78 = .ok (.if_icmp .ne 6, 3) := by decide +kernel
theorem dX12_mays_81 : decode cX12_mays 81 = .ok (.goto 76, 3) := by decide +kernel
theorem dX12_mays_84 : decode cX12_mays 84 = .ok (.aload_n 0, 1) := by decide +kernel
theorem dX12_mays_85 : decode cX12_mays 85 = .ok (.iload 5, 2) := by decide +kernel
theorem dX12_mays_87 : decode cX12_mays 87 = .ok (.iconst 1, 1) := by decide +kernel
theorem dX12_mays_88 : decode cX12_mays 88 = .ok (.invokevirtual 173, 3) := by decide +kernel
theorem dX12_mays_91 : decode cX12_mays 91 = .ok (.aload_n 0, 1) := by decide +kernel
theorem dX12_mays_92 : decode cX12_mays 92 = .ok (.iload 4, 2) := by decide +kernel
theorem dX12_mays_94 : decode cX12_mays 94 = .ok (.iconst 1, 1) := by decide +kernel
theorem dX12_mays_95 : decode cX12_mays 95 = .ok (.invokevirtual 173, 3) := by decide +kernel
theorem dX12_mays_98 : decode cX12_mays 98 = .ok (.isub, 1) := by decide +kernel
theorem dX12_mays_99 : decode cX12_mays 99 = .ok (.istore 6, 2) := by decide +kernel
theorem dX12_mays_101 : decode cX12_mays 101 = .ok (.iload 6, 2) := by decide +kernel
theorem dX12_mays_103 : decode cX12_mays 103 = .ok (.iconst 1, 1) := by decide +kernel
theorem dX12_mays_104 : decode cX12_mays 104 = .ok (.aload_n 0, 1) := by decide +kernel
theorem dX12_mays_105 : decode cX12_mays 105 = .ok (.iconst 4, 1) := by decide +kernel
theorem dX12_mays_106 : decode cX12_mays 106 = .ok (.invokevirtual 154, 3) := by decide +kernel
theorem dX12_mays_109 : decode cX12_mays 109 = .ok (.invokestatic 110, 3) := by decide +kernel
theorem dX12_mays_112 : decode cX12_mays 112 = .ok (.ifCond .eq 45, 3) := by decide +kernel
theorem dX12_mays_115 : decode cX12_mays 115 = .ok (.aload_n 0, 1) := by decide +kernel
theorem dX12_mays_116 : decode cX12_mays 116 = .ok (.iload 4, 2) := by decide +kernel
theorem dX12_mays_118 : decode cX12_mays 118 = .ok (.iconst 2, 1) := by decide +kernel
theorem dX12_mays_119 : decode cX12_mays 119 = .ok (.invokevirtual 173, 3) := by decide +kernel
theorem dX12_mays_122 : decode cX12_mays 122 = .ok (.aload_n 0, 1) := by decide +kernel
theorem dX12_mays_123 : decode cX12_mays 123 = .ok (.iload 5, 2) := by decide +kernel
theorem dX12_mays_125 : decode cX12_mays 125 = .ok (.iconst 2, 1) := by decide +kernel
theorem dX12_mays_126 : decode cX12_mays 126 = .ok (.invokevirtual 173, 3) := by decide +kernel
theorem dX12_mays_129 : decode cX12_mays 129 = .ok (.invokestatic 176, 3) := by decide +kernel
theorem dX12_mays_132 : decode cX12_mays 132 = .ok (.aload_n 0, 1) := by decide +kernel
theorem dX12_mays_133 : decode cX12_mays 133 = .ok (.iconst 5, 1) := by decide +kernel
theorem dX12_mays_134 : decode cX12_mays 134 = .ok (.invokevirtual 154, 3) := by decide +kernel
theorem dX12_mays_137 : decode cX12_mays 137 = .ok (.iload 6, 2) := by decide +kernel
theorem dX12_mays_139 : decode cX12_mays 139 = .ok (.imul, 1) := by decide +kernel
theorem dX12_mays_140 : decode cX12_mays 140 = .ok (.if_icmp .gt 17, 3) := by decide +kernel
theorem dX12_mays_143 : decode cX12_mays 143 = .ok (.aload_n 0, 1) := by decide +kernel
theorem dX12_mays_144 : decode cX12_mays 144 = .ok (.getfield 56, 3) := by decide +kernel
theorem dX12_mays_147 : decode cX12_mays 147 = .ok (.iload 4, 2) := by decide +kernel
theorem dX12_mays_149 : decode cX12_mays 149 = .ok (.dup2, 1) := by decide +kernel
theorem dX12_mays_150 : decode cX12_mays 150 = .ok (.iaload, 1) := by decide +kernel
theorem dX12_mays_151 : decode cX12_mays 151 = .ok (.iconst 1, 1) := by decide +kernel
theorem dX12_mays_152 : decode cX12_mays 152 = .ok (.iload 5, 2) := by decide +kernel
theorem dX12_mays_154 : decode cX12_mays 154 = .ok (.ishl, 1) := by decide +kernel
theorem dX12_mays_155 : decode cX12_mays 155 = .ok (.ior, 1) := by decide +kernel
theorem dX12_mays_156 : decode cX12_mays 156 = .ok (.iastore, 1) := by decide +kernel
theorem dX12_mays_157 : decode cX12_mays 157 = .ok (.iinc 5 1, 3) := by decide +kernel
theorem dX12_mays_160 : decode cX12_mays 160 = .ok (.goto (-139), 3) := by decide +kernel
theorem dX12_mays_163 : decode cX12_mays 163 = .ok (.iinc 4 1, 3) := by decide +kernel
theorem dX12_mays_166 : decode cX12_mays 166 = .ok (.goto (-163), 3) := by decide +kernel
theorem dX12_mays_169 : decode cX12_mays 169 = .ok (.return_, 1) := by decide +kernel
def fX12_mays_b157 (N : Nat) (c3 : Int32 → Int32 → Int32 → Int32 → qMem → Option qMem) (c21 : Int32 → Int32 → Int32 → Int32 → Int32 → qMem → Option qMem) (v1 : Int32) (v2 : Int32) (v3 : Int32) (v4 : Int32) (v5 : Int32) (σ : qMem) : Option qMem :=
  (c21 v1 v2 v3 v4 (v5 + 1) σ)
set_option maxRecDepth 20000 in
set_option maxHeartbeats 4000000 in
theorem aX12_mays_b157 (N : Nat) (c3 : Int32 → Int32 → Int32 → Int32 → qMem → Option qMem) (c21 : Int32 → Int32 → Int32 → Int32 → Int32 → qMem → Option qMem) (hc3 : ∀ (v1 : Int32) (v2 : Int32) (v3 : Int32) (v4 : Int32) (σ : qMem), qAt wM mX12_mays (ρv) 3 [(0, .ref 0), (1, .int v1), (2, .int v2), (3, .int v3), (4, .int v4)] [] σ (c3 v1 v2 v3 v4 σ)) (hc21 : ∀ (v1 : Int32) (v2 : Int32) (v3 : Int32) (v4 : Int32) (v5 : Int32) (σ : qMem), qAt wM mX12_mays (ρv) 21 [(0, .ref 0), (1, .int v1), (2, .int v2), (3, .int v3), (4, .int v4), (5, .int v5)] [] σ (c21 v1 v2 v3 v4 v5 σ)) (v1 : Int32) (v2 : Int32) (v3 : Int32) (v4 : Int32) (v5 : Int32) (σ : qMem) : qAt wM mX12_mays (ρv) 157 [(0, .ref 0), (1, .int v1), (2, .int v2), (3, .int v3), (4, .int v4), (5, .int v5)] [] σ (fX12_mays_b157 N c3 c21 v1 v2 v3 v4 v5 σ) := by
  unfold fX12_mays_b157
  refine q_iinc (i := 5) (x := v5) (v := (v5 + 1)) (L' := [(5, .int (v5 + 1)), (0, .ref 0), (1, .int v1), (2, .int v2), (3, .int v3), (4, .int v4)]) dX12_mays_157 5 rfl (q_cst v5 (by decide)) (Nat.le_of_ble_eq_true rfl) rfl ?_
  refine q_goto (tgt := 21) dX12_mays_160 (by decide) ?_
  exact q_sub [1, 2, 3, 4, 5, 0] rfl (hc21 v1 v2 v3 v4 (v5 + 1) σ)

def fX12_mays_b84 (N : Nat) (c3 : Int32 → Int32 → Int32 → Int32 → qMem → Option qMem) (c21 : Int32 → Int32 → Int32 → Int32 → Int32 → qMem → Option qMem) (v1 : Int32) (v2 : Int32) (v3 : Int32) (v4 : Int32) (v5 : Int32) (σ : qMem) : Option qMem :=
  ((fX12_heardOf v5 1 σ).bind fun y4 => ((fX12_heardOf v4 1 σ).bind fun y5 => ((fX12_term 4 σ).bind fun y6 => ((fX12_in (y4 - y5) 1 y6).bind fun y7 => (if y7 = 0 then (fX12_mays_b157 N c3 c21 v1 v2 v3 v4 v5 σ) else ((fX12_heardOf v4 2 σ).bind fun y8 => ((fX12_heardOf v5 2 σ).bind fun y9 => ((fX12_turned y8 y9).bind fun y10 => ((fX12_term 5 σ).bind fun y11 => (if (y11 * (y4 - y5)) < y10 then (fX12_mays_b157 N c3 c21 v1 v2 v3 v4 v5 σ) else (if ck v4 24 = true then (if ck v4 24 = true then (nmM (si σ 10 v4.toNatClampNeg ((gi σ 10 v4.toNatClampNeg) ||| ((1 : Int32) <<< (v5 &&& 31)))) fun s12 => (fX12_mays_b157 N c3 c21 v1 v2 v3 v4 v5 s12)) else none) else none)))))))))))
set_option maxRecDepth 20000 in
set_option maxHeartbeats 4000000 in
theorem aX12_mays_b84 (N : Nat) (c3 : Int32 → Int32 → Int32 → Int32 → qMem → Option qMem) (c21 : Int32 → Int32 → Int32 → Int32 → Int32 → qMem → Option qMem) (hc3 : ∀ (v1 : Int32) (v2 : Int32) (v3 : Int32) (v4 : Int32) (σ : qMem), qAt wM mX12_mays (ρv) 3 [(0, .ref 0), (1, .int v1), (2, .int v2), (3, .int v3), (4, .int v4)] [] σ (c3 v1 v2 v3 v4 σ)) (hc21 : ∀ (v1 : Int32) (v2 : Int32) (v3 : Int32) (v4 : Int32) (v5 : Int32) (σ : qMem), qAt wM mX12_mays (ρv) 21 [(0, .ref 0), (1, .int v1), (2, .int v2), (3, .int v3), (4, .int v4), (5, .int v5)] [] σ (c21 v1 v2 v3 v4 v5 σ)) (v1 : Int32) (v2 : Int32) (v3 : Int32) (v4 : Int32) (v5 : Int32) (σ : qMem) : qAt wM mX12_mays (ρv) 84 [(0, .ref 0), (1, .int v1), (2, .int v2), (3, .int v3), (4, .int v4), (5, .int v5)] [] σ (fX12_mays_b84 N c3 c21 v1 v2 v3 v4 v5 σ) := by
  unfold fX12_mays_b84
  refine q_aload_n (i := 0) (x := 0) dX12_mays_84 rfl 0 rfl ?_
  refine q_iload (i := 5) (x := v5) dX12_mays_85 5 rfl ?_
  refine q_iconst (v := 1) dX12_mays_87 (by decide) ?_
  refine q_cVp mX12_heardOf [.int v5, .int 1] (st := []) dX12_mays_88 (svX12_173) ⟨Nat.le_of_ble_eq_true rfl, Nat.le_of_ble_eq_true rfl⟩ zM_0 rfl rfl rfl (Nat.le_of_ble_eq_true rfl) (kX12_heardOf v5 1 σ) (fun y4 => ?_)
  refine q_aload_n (i := 0) (x := 0) dX12_mays_91 rfl 0 rfl ?_
  refine q_iload (i := 4) (x := v4) dX12_mays_92 4 rfl ?_
  refine q_iconst (v := 1) dX12_mays_94 (by decide) ?_
  refine q_cVp mX12_heardOf [.int v4, .int 1] (st := [.int y4]) dX12_mays_95 (svX12_173) ⟨Nat.le_of_ble_eq_true rfl, Nat.le_of_ble_eq_true rfl⟩ zM_0 rfl rfl rfl (Nat.le_of_ble_eq_true rfl) (kX12_heardOf v4 1 σ) (fun y5 => ?_)
  refine q_isub dX12_mays_98 ?_
  refine q_istore (i := 6) (L' := [(6, .int (y4 - y5)), (0, .ref 0), (1, .int v1), (2, .int v2), (3, .int v3), (4, .int v4), (5, .int v5)]) dX12_mays_99 (Nat.le_of_ble_eq_true rfl) rfl ?_
  refine q_iload (i := 6) (x := (y4 - y5)) dX12_mays_101 0 rfl ?_
  refine q_iconst (v := 1) dX12_mays_103 (by decide) ?_
  refine q_aload_n (i := 0) (x := 0) dX12_mays_104 rfl 1 rfl ?_
  refine q_iconst (v := 4) dX12_mays_105 (by decide) ?_
  refine q_cVp mX12_term [.int 4] (st := [.int 1, .int (y4 - y5)]) dX12_mays_106 (svX12_154) ⟨Nat.le_of_ble_eq_true rfl, Nat.le_of_ble_eq_true rfl⟩ zM_0 rfl rfl rfl (Nat.le_of_ble_eq_true rfl) (kX12_term 4 σ) (fun y6 => ?_)
  refine q_cSp mX12_in [.int (y4 - y5), .int 1, .int y6] (st := []) dX12_mays_109 (ssX12_110) ⟨Nat.le_of_ble_eq_true rfl, Nat.le_of_ble_eq_true rfl⟩ rfl rfl (Nat.le_of_ble_eq_true rfl) (kX12_in (y4 - y5) 1 y6 σ) (fun y7 => ?_)
  refine q_if_eq (tgt := 157) dX12_mays_112 (by decide) ?_ ?_
  · exact q_sub [1, 2, 3, 4, 5, 6] rfl (aX12_mays_b157 N c3 c21 hc3 hc21 v1 v2 v3 v4 v5 σ)
  refine q_aload_n (i := 0) (x := 0) dX12_mays_115 rfl 1 rfl ?_
  refine q_iload (i := 4) (x := v4) dX12_mays_116 5 rfl ?_
  refine q_iconst (v := 2) dX12_mays_118 (by decide) ?_
  refine q_cVp mX12_heardOf [.int v4, .int 2] (st := []) dX12_mays_119 (svX12_173) ⟨Nat.le_of_ble_eq_true rfl, Nat.le_of_ble_eq_true rfl⟩ zM_0 rfl rfl rfl (Nat.le_of_ble_eq_true rfl) (kX12_heardOf v4 2 σ) (fun y8 => ?_)
  refine q_aload_n (i := 0) (x := 0) dX12_mays_122 rfl 1 rfl ?_
  refine q_iload (i := 5) (x := v5) dX12_mays_123 6 rfl ?_
  refine q_iconst (v := 2) dX12_mays_125 (by decide) ?_
  refine q_cVp mX12_heardOf [.int v5, .int 2] (st := [.int y8]) dX12_mays_126 (svX12_173) ⟨Nat.le_of_ble_eq_true rfl, Nat.le_of_ble_eq_true rfl⟩ zM_0 rfl rfl rfl (Nat.le_of_ble_eq_true rfl) (kX12_heardOf v5 2 σ) (fun y9 => ?_)
  refine q_cSp mX12_turned [.int y8, .int y9] (st := []) dX12_mays_129 (ssX12_176) ⟨Nat.le_of_ble_eq_true rfl, Nat.le_of_ble_eq_true rfl⟩ rfl rfl (Nat.le_of_ble_eq_true rfl) (kX12_turned y8 y9 σ) (fun y10 => ?_)
  refine q_aload_n (i := 0) (x := 0) dX12_mays_132 rfl 1 rfl ?_
  refine q_iconst (v := 5) dX12_mays_133 (by decide) ?_
  refine q_cVp mX12_term [.int 5] (st := [.int y10]) dX12_mays_134 (svX12_154) ⟨Nat.le_of_ble_eq_true rfl, Nat.le_of_ble_eq_true rfl⟩ zM_0 rfl rfl rfl (Nat.le_of_ble_eq_true rfl) (kX12_term 5 σ) (fun y11 => ?_)
  refine q_iload (i := 6) (x := (y4 - y5)) dX12_mays_137 0 rfl ?_
  refine q_imul dX12_mays_139 ?_
  refine q_icmp_gt (tgt := 157) dX12_mays_140 (by decide) ?_ ?_
  · exact q_sub [1, 2, 3, 4, 5, 6] rfl (aX12_mays_b157 N c3 c21 hc3 hc21 v1 v2 v3 v4 v5 σ)
  refine q_aload_n (i := 0) (x := 0) dX12_mays_143 rfl 1 rfl ?_
  refine q_getr (t := 10) dX12_mays_144 foX12_56 zM_0 rfl ?_
  refine q_iload (i := 4) (x := v4) dX12_mays_147 5 rfl ?_
  refine q_dup2 dX12_mays_149 rfl rfl ?_
  refine q_iald dX12_mays_150 zM_10 ?_
  refine q_iconst (v := 1) dX12_mays_151 (by decide) ?_
  refine q_iload (i := 5) (x := v5) dX12_mays_152 6 rfl ?_
  refine q_ishl dX12_mays_154 ?_
  refine q_ior dX12_mays_155 ?_
  refine q_iast dX12_mays_156 zM_10 ?_
  refine q_nmM (fun s12 => ?_)
  exact q_sub [1, 2, 3, 4, 5, 6] rfl (aX12_mays_b157 N c3 c21 hc3 hc21 v1 v2 v3 v4 v5 s12)

def fX12_mays_s21 (N : Nat) (c3 : Int32 → Int32 → Int32 → Int32 → qMem → Option qMem) (c21 : Int32 → Int32 → Int32 → Int32 → Int32 → qMem → Option qMem) (v1 : Int32) (v2 : Int32) (v3 : Int32) (v4 : Int32) (v5 : Int32) (σ : qMem) : Option qMem :=
  (if ck 300 1112 = true then (if (gi σ 2 (300 : Int32).toNatClampNeg) ≤ v5 then (c3 v1 v2 v3 (v4 + 1) σ) else (if ck 300 1112 = true then (if (gi σ 2 (300 : Int32).toNatClampNeg) ≤ v4 then (fX12_mays_b157 N c3 c21 v1 v2 v3 v4 v5 σ) else ((fX12_heardOf v4 0 σ).bind fun y2 => (if y2 = v1 then ((fX12_heardOf v5 0 σ).bind fun y3 => (if y3 = v1 then (if v4 = v2 then (if v5 = v3 then (fX12_mays_b157 N c3 c21 v1 v2 v3 v4 v5 σ) else (fX12_mays_b84 N c3 c21 v1 v2 v3 v4 v5 σ)) else (fX12_mays_b84 N c3 c21 v1 v2 v3 v4 v5 σ)) else (fX12_mays_b157 N c3 c21 v1 v2 v3 v4 v5 σ))) else (fX12_mays_b157 N c3 c21 v1 v2 v3 v4 v5 σ)))) else none)) else none)
set_option maxRecDepth 20000 in
set_option maxHeartbeats 4000000 in
theorem aX12_mays_s21 (N : Nat) (c3 : Int32 → Int32 → Int32 → Int32 → qMem → Option qMem) (hc3 : ∀ (v1 : Int32) (v2 : Int32) (v3 : Int32) (v4 : Int32) (σ : qMem), qAt wM mX12_mays (ρv) 3 [(0, .ref 0), (1, .int v1), (2, .int v2), (3, .int v3), (4, .int v4)] [] σ (c3 v1 v2 v3 v4 σ)) (c21 : Int32 → Int32 → Int32 → Int32 → Int32 → qMem → Option qMem) (hc21 : ∀ (v1 : Int32) (v2 : Int32) (v3 : Int32) (v4 : Int32) (v5 : Int32) (σ : qMem), qAt wM mX12_mays (ρv) 21 [(0, .ref 0), (1, .int v1), (2, .int v2), (3, .int v3), (4, .int v4), (5, .int v5)] [] σ (c21 v1 v2 v3 v4 v5 σ)) (v1 : Int32) (v2 : Int32) (v3 : Int32) (v4 : Int32) (v5 : Int32) (σ : qMem) : qAt wM mX12_mays (ρv) 21 [(0, .ref 0), (1, .int v1), (2, .int v2), (3, .int v3), (4, .int v4), (5, .int v5)] [] σ (fX12_mays_s21 N c3 c21 v1 v2 v3 v4 v5 σ) := by
  unfold fX12_mays_s21
  refine q_iload (i := 5) (x := v5) dX12_mays_21 5 rfl ?_
  refine q_aload_n (i := 0) (x := 0) dX12_mays_23 rfl 0 rfl ?_
  refine q_getr (t := 2) dX12_mays_24 foX12_20 zM_0 rfl ?_
  refine q_sipush (v := 300) dX12_mays_27 (by decide) ?_
  refine q_iald dX12_mays_30 zM_2 ?_
  refine q_icmp_ge (tgt := 163) dX12_mays_31 (by decide) ?_ ?_
  · refine q_iinc (i := 4) (x := v4) (v := (v4 + 1)) (L' := [(4, .int (v4 + 1)), (0, .ref 0), (1, .int v1), (2, .int v2), (3, .int v3), (5, .int v5)]) dX12_mays_163 4 rfl (q_cst v4 (by decide)) (Nat.le_of_ble_eq_true rfl) rfl ?_
    refine q_goto (tgt := 3) dX12_mays_166 (by decide) ?_
    exact q_sub [1, 2, 3, 4, 0] rfl (hc3 v1 v2 v3 (v4 + 1) σ)
  refine q_iload (i := 4) (x := v4) dX12_mays_34 4 rfl ?_
  refine q_aload_n (i := 0) (x := 0) dX12_mays_36 rfl 0 rfl ?_
  refine q_getr (t := 2) dX12_mays_37 foX12_20 zM_0 rfl ?_
  refine q_sipush (v := 300) dX12_mays_40 (by decide) ?_
  refine q_iald dX12_mays_43 zM_2 ?_
  refine q_icmp_ge (tgt := 157) dX12_mays_44 (by decide) ?_ ?_
  · exact q_sub [0, 1, 2, 3, 4, 5] rfl (aX12_mays_b157 N c3 c21 hc3 hc21 v1 v2 v3 v4 v5 σ)
  refine q_aload_n (i := 0) (x := 0) dX12_mays_47 rfl 0 rfl ?_
  refine q_iload (i := 4) (x := v4) dX12_mays_48 4 rfl ?_
  refine q_iconst (v := 0) dX12_mays_50 (by decide) ?_
  refine q_cVp mX12_heardOf [.int v4, .int 0] (st := []) dX12_mays_51 (svX12_173) ⟨Nat.le_of_ble_eq_true rfl, Nat.le_of_ble_eq_true rfl⟩ zM_0 rfl rfl rfl (Nat.le_of_ble_eq_true rfl) (kX12_heardOf v4 0 σ) (fun y2 => ?_)
  refine q_iload_n (i := 1) (x := v1) dX12_mays_54 rfl 1 rfl ?_
  refine q_icmp_ne (tgt := 157) dX12_mays_55 (by decide) ?_ ?_
  · exact q_sub [0, 1, 2, 3, 4, 5] rfl (aX12_mays_b157 N c3 c21 hc3 hc21 v1 v2 v3 v4 v5 σ)
  refine q_aload_n (i := 0) (x := 0) dX12_mays_58 rfl 0 rfl ?_
  refine q_iload (i := 5) (x := v5) dX12_mays_59 5 rfl ?_
  refine q_iconst (v := 0) dX12_mays_61 (by decide) ?_
  refine q_cVp mX12_heardOf [.int v5, .int 0] (st := []) dX12_mays_62 (svX12_173) ⟨Nat.le_of_ble_eq_true rfl, Nat.le_of_ble_eq_true rfl⟩ zM_0 rfl rfl rfl (Nat.le_of_ble_eq_true rfl) (kX12_heardOf v5 0 σ) (fun y3 => ?_)
  refine q_iload_n (i := 1) (x := v1) dX12_mays_65 rfl 1 rfl ?_
  refine q_icmp_ne (tgt := 157) dX12_mays_66 (by decide) ?_ ?_
  · exact q_sub [0, 1, 2, 3, 4, 5] rfl (aX12_mays_b157 N c3 c21 hc3 hc21 v1 v2 v3 v4 v5 σ)
  refine q_iload (i := 4) (x := v4) dX12_mays_69 4 rfl ?_
  refine q_iload_n (i := 2) (x := v2) dX12_mays_71 rfl 2 rfl ?_
  refine q_icmp_ne (tgt := 84) dX12_mays_72 (by decide) ?_ ?_
  · exact q_sub [0, 1, 2, 3, 4, 5] rfl (aX12_mays_b84 N c3 c21 hc3 hc21 v1 v2 v3 v4 v5 σ)
  refine q_iload (i := 5) (x := v5) dX12_mays_75 5 rfl ?_
  refine q_iload_n (i := 3) (x := v3) dX12_mays_77 rfl 3 rfl ?_
  refine q_icmp_ne (tgt := 84) dX12_mays_78 (by decide) ?_ ?_
  · exact q_sub [0, 1, 2, 3, 4, 5] rfl (aX12_mays_b84 N c3 c21 hc3 hc21 v1 v2 v3 v4 v5 σ)
  refine q_goto (tgt := 157) dX12_mays_81 (by decide) ?_
  exact q_sub [0, 1, 2, 3, 4, 5] rfl (aX12_mays_b157 N c3 c21 hc3 hc21 v1 v2 v3 v4 v5 σ)
def fX12_mays_l21 (N : Nat) (c3 : Int32 → Int32 → Int32 → Int32 → qMem → Option qMem) : Nat → Int32 → Int32 → Int32 → Int32 → Int32 → qMem → Option qMem
  | 0 => fun _ _ _ _ _ _ => none
  | n + 1 => fun v1 v2 v3 v4 v5 σ => fX12_mays_s21 N c3 (fX12_mays_l21 N c3 n) v1 v2 v3 v4 v5 σ
theorem aX12_mays_l21 (N : Nat) (c3 : Int32 → Int32 → Int32 → Int32 → qMem → Option qMem) (hc3 : ∀ (v1 : Int32) (v2 : Int32) (v3 : Int32) (v4 : Int32) (σ : qMem), qAt wM mX12_mays (ρv) 3 [(0, .ref 0), (1, .int v1), (2, .int v2), (3, .int v3), (4, .int v4)] [] σ (c3 v1 v2 v3 v4 σ)) : ∀ (n : Nat) (v1 : Int32) (v2 : Int32) (v3 : Int32) (v4 : Int32) (v5 : Int32) (σ : qMem), qAt wM mX12_mays (ρv) 21 [(0, .ref 0), (1, .int v1), (2, .int v2), (3, .int v3), (4, .int v4), (5, .int v5)] [] σ (fX12_mays_l21 N c3 n v1 v2 v3 v4 v5 σ) := by
  intro n
  induction n with
  | zero => intro v1 v2 v3 v4 v5 σ; exact q_none
  | succ n ih => intro v1 v2 v3 v4 v5 σ; exact aX12_mays_s21 N c3 hc3 (fX12_mays_l21 N c3 n) ih v1 v2 v3 v4 v5 σ

def fX12_mays_s3 (N : Nat) (c3 : Int32 → Int32 → Int32 → Int32 → qMem → Option qMem) (v1 : Int32) (v2 : Int32) (v3 : Int32) (v4 : Int32) (σ : qMem) : Option qMem :=
  (if 24 ≤ v4 then (some σ) else (if ck v4 24 = true then (nmM (si σ 10 v4.toNatClampNeg 0) fun s1 => (fX12_mays_l21 N c3 N v1 v2 v3 v4 0 s1)) else none))
set_option maxRecDepth 20000 in
set_option maxHeartbeats 4000000 in
theorem aX12_mays_s3 (N : Nat) (c3 : Int32 → Int32 → Int32 → Int32 → qMem → Option qMem) (hc3 : ∀ (v1 : Int32) (v2 : Int32) (v3 : Int32) (v4 : Int32) (σ : qMem), qAt wM mX12_mays (ρv) 3 [(0, .ref 0), (1, .int v1), (2, .int v2), (3, .int v3), (4, .int v4)] [] σ (c3 v1 v2 v3 v4 σ)) (v1 : Int32) (v2 : Int32) (v3 : Int32) (v4 : Int32) (σ : qMem) : qAt wM mX12_mays (ρv) 3 [(0, .ref 0), (1, .int v1), (2, .int v2), (3, .int v3), (4, .int v4)] [] σ (fX12_mays_s3 N c3 v1 v2 v3 v4 σ) := by
  unfold fX12_mays_s3
  refine q_iload (i := 4) (x := v4) dX12_mays_3 4 rfl ?_
  refine q_bipush (v := 24) dX12_mays_5 (by decide) ?_
  refine q_icmp_ge (tgt := 169) dX12_mays_7 (by decide) ?_ ?_
  · exact q_vret (y := σ) dX12_mays_169 rfl rfl
  refine q_aload_n (i := 0) (x := 0) dX12_mays_10 rfl 0 rfl ?_
  refine q_getr (t := 10) dX12_mays_11 foX12_56 zM_0 rfl ?_
  refine q_iload (i := 4) (x := v4) dX12_mays_14 4 rfl ?_
  refine q_iconst (v := 0) dX12_mays_16 (by decide) ?_
  refine q_iast dX12_mays_17 zM_10 ?_
  refine q_nmM (fun s1 => ?_)
  refine q_iconst (v := 0) dX12_mays_18 (by decide) ?_
  refine q_istore (i := 5) (L' := [(5, .int 0), (0, .ref 0), (1, .int v1), (2, .int v2), (3, .int v3), (4, .int v4)]) dX12_mays_19 (Nat.le_of_ble_eq_true rfl) rfl ?_
  exact q_sub [1, 2, 3, 4, 5, 0] rfl (aX12_mays_l21 N c3 hc3 N v1 v2 v3 v4 0 s1)
def fX12_mays_l3 (N : Nat) : Nat → Int32 → Int32 → Int32 → Int32 → qMem → Option qMem
  | 0 => fun _ _ _ _ _ => none
  | n + 1 => fun v1 v2 v3 v4 σ => fX12_mays_s3 N (fX12_mays_l3 N n) v1 v2 v3 v4 σ
theorem aX12_mays_l3 (N : Nat) : ∀ (n : Nat) (v1 : Int32) (v2 : Int32) (v3 : Int32) (v4 : Int32) (σ : qMem), qAt wM mX12_mays (ρv) 3 [(0, .ref 0), (1, .int v1), (2, .int v2), (3, .int v3), (4, .int v4)] [] σ (fX12_mays_l3 N n v1 v2 v3 v4 σ) := by
  intro n
  induction n with
  | zero => intro v1 v2 v3 v4 σ; exact q_none
  | succ n ih => intro v1 v2 v3 v4 σ; exact aX12_mays_s3 N (fX12_mays_l3 N n) ih v1 v2 v3 v4 σ

def fX12_mays (N : Nat) (p1 : Int32) (p2 : Int32) (p3 : Int32) (σ : qMem) : Option qMem :=
  (fX12_mays_l3 N N p1 p2 p3 0 σ)
set_option maxRecDepth 20000 in
set_option maxHeartbeats 4000000 in
theorem aX12_mays  (N : Nat) (p1 : Int32) (p2 : Int32) (p3 : Int32)  (σ : qMem) : qAt wM mX12_mays (ρv) 0 [(0, .ref 0), (1, .int p1), (2, .int p2), (3, .int p3)] [] σ (fX12_mays N p1 p2 p3 σ) := by
  unfold fX12_mays
  refine q_iconst (v := 0) dX12_mays_0 (by decide) ?_
  refine q_istore (i := 4) (L' := [(4, .int 0), (0, .ref 0), (1, .int p1), (2, .int p2), (3, .int p3)]) dX12_mays_1 (Nat.le_of_ble_eq_true rfl) rfl ?_
  exact q_sub [1, 2, 3, 4, 0] rfl (aX12_mays_l3 N N p1 p2 p3 0 σ)
theorem kX12_mays  (N : Nat) (p1 : Int32) (p2 : Int32) (p3 : Int32)  (σ : qMem) : qMc wM mX12_mays (ρv) [.ref 0, .int p1, .int p2, .int p3] σ (fX12_mays N p1 p2 p3 σ) := qMc_of (moX12_mays) (Nat.le_of_ble_eq_true rfl) (aX12_mays N p1 p2 p3  σ)

theorem dX12_gives_0 : decode cX12_gives 0 = .ok (.iconst 0, 1) := by decide +kernel
theorem dX12_gives_1 : decode cX12_gives 1 = .ok (.istore_n 2, 1) := by decide +kernel
theorem dX12_gives_2 : decode cX12_gives 2 = .ok (.iload_n 2, 1) := by decide +kernel
theorem dX12_gives_3 : decode cX12_gives 3 = .ok (.aload_n 0, 1) := by decide +kernel
theorem dX12_gives_4 : decode cX12_gives 4 = .ok (.getfield 20, 3) := by decide +kernel
theorem dX12_gives_7 : decode cX12_gives 7 = .ok (.sipush 300, 3) := by decide +kernel
theorem dX12_gives_10 : decode cX12_gives 10 = .ok (.iaload, 1) := by decide +kernel
theorem dX12_gives_11 : decode cX12_gives 11 = .ok (.if_icmp .ge 91, 3) := by decide +kernel
theorem dX12_gives_14 : decode cX12_gives 14 = .ok (.aload_n 0, 1) := by decide +kernel
theorem dX12_gives_15 : decode cX12_gives 15 = .ok (.getfield 56, 3) := by decide +kernel
theorem dX12_gives_18 : decode cX12_gives 18 = .ok (.iload_n 1, 1) := by decide +kernel
theorem dX12_gives_19 : decode cX12_gives 19 = .ok (.iaload, 1) := by decide +kernel
theorem dX12_gives_20 : decode cX12_gives 20 = .ok (.iload_n 2, 1) := by decide +kernel
theorem dX12_gives_21 : decode cX12_gives 21 = .ok (.ishr, 1) := by decide +kernel
theorem dX12_gives_22 : decode cX12_gives 22 = .ok (.iconst 1, 1) := by decide +kernel
theorem dX12_gives_23 : decode cX12_gives 23 = .ok (.iand, 1) := by decide +kernel
theorem dX12_gives_24 : decode cX12_gives 24 = .ok (.ifCond .eq 72, 3) := by decide +kernel
theorem dX12_gives_27 : decode cX12_gives 27 = .ok (.aload_n 0, 1) := by decide +kernel
theorem dX12_gives_28 : decode cX12_gives 28 = .ok (.getfield 278, 3) := by decide +kernel
theorem dX12_gives_31 : decode cX12_gives 31 = .ok (.iload_n 2, 1) := by decide +kernel
theorem dX12_gives_32 : decode cX12_gives 32 = .ok (.ishr, 1) := by decide +kernel
theorem dX12_gives_33 : decode cX12_gives 33 = .ok (.iconst 1, 1) := by decide +kernel
theorem dX12_gives_34 : decode cX12_gives 34 = .ok (.iand, 1) := by decide +kernel
theorem dX12_gives_35 : decode cX12_gives 35 = .ok (.iconst 1, 1) := by decide +kernel
theorem dX12_gives_36 : decode cX12_gives 36 = .ok (.if_icmp .ne 6, 3) := by decide +kernel
theorem dX12_gives_39 : decode cX12_gives 39 = .ok (.goto 57, 3) := by decide +kernel
theorem dX12_gives_42 : decode cX12_gives 42 = .ok (.aload_n 0, 1) := by decide +kernel
theorem dX12_gives_43 : decode cX12_gives 43 = .ok (.dup, 1) := by decide +kernel
theorem dX12_gives_44 : decode cX12_gives 44 = .ok (.getfield 278, 3) := by decide +kernel
theorem dX12_gives_47 : decode cX12_gives 47 = .ok (.iconst 1, 1) := by decide +kernel
theorem dX12_gives_48 : decode cX12_gives 48 = .ok (.iload_n 2, 1) := by decide +kernel
theorem dX12_gives_49 : decode cX12_gives 49 = .ok (.ishl, 1) := by decide +kernel
theorem dX12_gives_50 : decode cX12_gives 50 = .ok (.ior, 1) := by decide +kernel
theorem dX12_gives_51 : decode cX12_gives 51 = .ok (.putfield 278, 3) := by decide +kernel
theorem dX12_gives_54 : decode cX12_gives 54 = .ok (.aload_n 0, 1) := by decide +kernel
theorem dX12_gives_55 : decode cX12_gives 55 = .ok (.getfield 62, 3) := by decide +kernel
theorem dX12_gives_58 : decode cX12_gives 58 = .ok (.iload_n 2, 1) := by decide +kernel
theorem dX12_gives_59 : decode cX12_gives 59 = .ok (.iaload, 1) := by decide +kernel
theorem dX12_gives_60 : decode cX12_gives 60 = .ok (.iconst (-1), 1) := by decide +kernel
theorem dX12_gives_61 : decode cX12_gives 61 = .ok (.if_icmp .eq 19, 3) := by decide +kernel
theorem dX12_gives_64 : decode cX12_gives 64 = .ok (.aload_n 0, 1) := by decide +kernel
theorem dX12_gives_65 : decode cX12_gives 65 = .ok (.aload_n 0, 1) := by decide +kernel
theorem dX12_gives_66 : decode cX12_gives 66 = .ok (.getfield 62, 3) := by decide +kernel
theorem dX12_gives_69 : decode cX12_gives 69 = .ok (.iload_n 2, 1) := by decide +kernel
theorem dX12_gives_70 : decode cX12_gives 70 = .ok (.iaload, 1) := by decide +kernel
theorem dX12_gives_71 : decode cX12_gives 71 = .ok (.invokevirtual 281, 3) := by decide +kernel
theorem dX12_gives_74 : decode cX12_gives 74 = .ok (.ifCond .ne 6, 3) := by decide +kernel
theorem dX12_gives_77 : decode cX12_gives 77 = .ok (.goto 19, 3) := by decide +kernel
theorem dX12_gives_80 : decode cX12_gives 80 = .ok (.aload_n 0, 1) := by decide +kernel
theorem dX12_gives_81 : decode cX12_gives 81 = .ok (.getfield 62, 3) := by decide +kernel
theorem dX12_gives_84 : decode cX12_gives 84 = .ok (.iload_n 2, 1) := by decide +kernel
theorem dX12_gives_85 : decode cX12_gives 85 = .ok (.iload_n 1, 1) := by decide +kernel
theorem dX12_gives_86 : decode cX12_gives 86 = .ok (.iastore, 1) := by decide +kernel
theorem dX12_gives_87 : decode cX12_gives 87 = .ok (.aload_n 0, 1) := by decide +kernel
theorem dX12_gives_88 : decode cX12_gives 88 = .ok (.getfield 59, 3) := by decide +kernel
theorem dX12_gives_91 : decode cX12_gives 91 = .ok (.iload_n 1, 1) := by decide +kernel
theorem dX12_gives_92 : decode cX12_gives 92 = .ok (.iload_n 2, 1) := by decide +kernel
theorem dX12_gives_93 : decode cX12_gives 93 = .ok (.iastore, 1) := by decide +kernel
theorem dX12_gives_94 : decode cX12_gives 94 = .ok (.iconst 1, 1) := by decide +kernel
theorem dX12_gives_95 : decode cX12_gives 95 = .ok (.ireturn, 1) := by decide +kernel
theorem dX12_gives_96 : decode cX12_gives 96 = .ok (.iinc 2 1, 3) := by decide +kernel
theorem dX12_gives_99 : decode cX12_gives 99 = .ok (.goto (-97), 3) := by decide +kernel
theorem dX12_gives_102 : decode cX12_gives 102 = .ok (.iconst 0, 1) := by decide +kernel
theorem dX12_gives_103 : decode cX12_gives 103 = .ok (.ireturn, 1) := by decide +kernel
def fX12_gives_b96 (N : Nat) (rX12_gives : Int32 → qMem → Option (Int32 × qMem)) (c2 : Int32 → Int32 → qMem → Option (Int32 × qMem)) (v1 : Int32) (v2 : Int32) (σ : qMem) : Option (Int32 × qMem) :=
  (c2 v1 (v2 + 1) σ)
set_option maxRecDepth 20000 in
set_option maxHeartbeats 4000000 in
theorem aX12_gives_b96 (d : Nat) (N : Nat) (rX12_gives : Int32 → qMem → Option (Int32 × qMem)) (hX12_gives : ∀ (p1 : Int32)  (σ : qMem), qMc wM (mX12_gives d) (ρi) [.ref 0, .int p1] σ (rX12_gives p1 σ)) (c2 : Int32 → Int32 → qMem → Option (Int32 × qMem)) (hc2 : ∀ (v1 : Int32) (v2 : Int32) (σ : qMem), qAt wM (mX12_gives (d + 1)) (ρi) 2 [(0, .ref 0), (1, .int v1), (2, .int v2)] [] σ (c2 v1 v2 σ)) (v1 : Int32) (v2 : Int32) (σ : qMem) : qAt wM (mX12_gives (d + 1)) (ρi) 96 [(0, .ref 0), (1, .int v1), (2, .int v2)] [] σ (fX12_gives_b96 N rX12_gives c2 v1 v2 σ) := by
  unfold fX12_gives_b96
  refine q_iinc (i := 2) (x := v2) (v := (v2 + 1)) (L' := [(2, .int (v2 + 1)), (0, .ref 0), (1, .int v1)]) dX12_gives_96 2 rfl (q_cst v2 (by decide)) (Nat.le_of_ble_eq_true rfl) rfl ?_
  refine q_goto (tgt := 2) dX12_gives_99 (by decide) ?_
  exact q_sub [1, 2, 0] rfl (hc2 v1 (v2 + 1) σ)

def fX12_gives_b80 (N : Nat) (rX12_gives : Int32 → qMem → Option (Int32 × qMem)) (v1 : Int32) (v2 : Int32) (σ : qMem) : Option (Int32 × qMem) :=
  (if ck v2 24 = true then (nmM (si σ 12 v2.toNatClampNeg v1) fun s3 => (if ck v1 24 = true then (nmM (si s3 11 v1.toNatClampNeg v2) fun s4 => (some (1, s4))) else none)) else none)
set_option maxRecDepth 20000 in
set_option maxHeartbeats 4000000 in
theorem aX12_gives_b80 (d : Nat) (N : Nat) (rX12_gives : Int32 → qMem → Option (Int32 × qMem)) (hX12_gives : ∀ (p1 : Int32)  (σ : qMem), qMc wM (mX12_gives d) (ρi) [.ref 0, .int p1] σ (rX12_gives p1 σ)) (v1 : Int32) (v2 : Int32) (σ : qMem) : qAt wM (mX12_gives (d + 1)) (ρi) 80 [(0, .ref 0), (1, .int v1), (2, .int v2)] [] σ (fX12_gives_b80 N rX12_gives v1 v2 σ) := by
  unfold fX12_gives_b80
  refine q_aload_n (i := 0) (x := 0) dX12_gives_80 rfl 0 rfl ?_
  refine q_getr (t := 12) dX12_gives_81 foX12_62 zM_0 rfl ?_
  refine q_iload_n (i := 2) (x := v2) dX12_gives_84 rfl 2 rfl ?_
  refine q_iload_n (i := 1) (x := v1) dX12_gives_85 rfl 1 rfl ?_
  refine q_iast dX12_gives_86 zM_12 ?_
  refine q_nmM (fun s3 => ?_)
  refine q_aload_n (i := 0) (x := 0) dX12_gives_87 rfl 0 rfl ?_
  refine q_getr (t := 11) dX12_gives_88 foX12_59 zM_0 rfl ?_
  refine q_iload_n (i := 1) (x := v1) dX12_gives_91 rfl 1 rfl ?_
  refine q_iload_n (i := 2) (x := v2) dX12_gives_92 rfl 2 rfl ?_
  refine q_iast dX12_gives_93 zM_11 ?_
  refine q_nmM (fun s4 => ?_)
  refine q_iconst (v := 1) dX12_gives_94 (by decide) ?_
  exact q_iretz (y := (1, s4)) dX12_gives_95 rfl rfl rfl

def fX12_gives_s2 (N : Nat) (rX12_gives : Int32 → qMem → Option (Int32 × qMem)) (c2 : Int32 → Int32 → qMem → Option (Int32 × qMem)) (v1 : Int32) (v2 : Int32) (σ : qMem) : Option (Int32 × qMem) :=
  (if ck 300 1112 = true then (if (gi σ 2 (300 : Int32).toNatClampNeg) ≤ v2 then (some (0, σ)) else (if ck v1 24 = true then (if (((gi σ 10 v1.toNatClampNeg) >>> (v2 &&& 31)) &&& 1) = 0 then (fX12_gives_b96 N rX12_gives c2 v1 v2 σ) else (if (((gi σ 0 20) >>> (v2 &&& 31)) &&& 1) = 1 then (fX12_gives_b96 N rX12_gives c2 v1 v2 σ) else (nmM (si σ 0 20 ((gi σ 0 20) ||| ((1 : Int32) <<< (v2 &&& 31)))) fun s1 => (if ck v2 24 = true then (if (gi s1 12 v2.toNatClampNeg) = (-1) then (fX12_gives_b80 N rX12_gives v1 v2 s1) else (if ck v2 24 = true then ((rX12_gives (gi s1 12 v2.toNatClampNeg) s1).bind fun y2 => (if y2.1 = 0 then (fX12_gives_b96 N rX12_gives c2 v1 v2 y2.2) else (fX12_gives_b80 N rX12_gives v1 v2 y2.2))) else none)) else none)))) else none)) else none)
set_option maxRecDepth 20000 in
set_option maxHeartbeats 4000000 in
theorem aX12_gives_s2 (d : Nat) (N : Nat) (rX12_gives : Int32 → qMem → Option (Int32 × qMem)) (hX12_gives : ∀ (p1 : Int32)  (σ : qMem), qMc wM (mX12_gives d) (ρi) [.ref 0, .int p1] σ (rX12_gives p1 σ)) (c2 : Int32 → Int32 → qMem → Option (Int32 × qMem)) (hc2 : ∀ (v1 : Int32) (v2 : Int32) (σ : qMem), qAt wM (mX12_gives (d + 1)) (ρi) 2 [(0, .ref 0), (1, .int v1), (2, .int v2)] [] σ (c2 v1 v2 σ)) (v1 : Int32) (v2 : Int32) (σ : qMem) : qAt wM (mX12_gives (d + 1)) (ρi) 2 [(0, .ref 0), (1, .int v1), (2, .int v2)] [] σ (fX12_gives_s2 N rX12_gives c2 v1 v2 σ) := by
  unfold fX12_gives_s2
  refine q_iload_n (i := 2) (x := v2) dX12_gives_2 rfl 2 rfl ?_
  refine q_aload_n (i := 0) (x := 0) dX12_gives_3 rfl 0 rfl ?_
  refine q_getr (t := 2) dX12_gives_4 foX12_20 zM_0 rfl ?_
  refine q_sipush (v := 300) dX12_gives_7 (by decide) ?_
  refine q_iald dX12_gives_10 zM_2 ?_
  refine q_icmp_ge (tgt := 102) dX12_gives_11 (by decide) ?_ ?_
  · refine q_iconst (v := 0) dX12_gives_102 (by decide) ?_
    exact q_iretz (y := (0, σ)) dX12_gives_103 rfl rfl rfl
  refine q_aload_n (i := 0) (x := 0) dX12_gives_14 rfl 0 rfl ?_
  refine q_getr (t := 10) dX12_gives_15 foX12_56 zM_0 rfl ?_
  refine q_iload_n (i := 1) (x := v1) dX12_gives_18 rfl 1 rfl ?_
  refine q_iald dX12_gives_19 zM_10 ?_
  refine q_iload_n (i := 2) (x := v2) dX12_gives_20 rfl 2 rfl ?_
  refine q_ishr dX12_gives_21 ?_
  refine q_iconst (v := 1) dX12_gives_22 (by decide) ?_
  refine q_iand dX12_gives_23 ?_
  refine q_if_eq (tgt := 96) dX12_gives_24 (by decide) ?_ ?_
  · exact q_sub [0, 1, 2] rfl (aX12_gives_b96 d N rX12_gives hX12_gives c2 hc2 v1 v2 σ)
  refine q_aload_n (i := 0) (x := 0) dX12_gives_27 rfl 0 rfl ?_
  refine q_geti dX12_gives_28 foX12_278 zM_0 rfl ?_
  refine q_iload_n (i := 2) (x := v2) dX12_gives_31 rfl 2 rfl ?_
  refine q_ishr dX12_gives_32 ?_
  refine q_iconst (v := 1) dX12_gives_33 (by decide) ?_
  refine q_iand dX12_gives_34 ?_
  refine q_iconst (v := 1) dX12_gives_35 (by decide) ?_
  refine q_icmp_ne (tgt := 42) dX12_gives_36 (by decide) ?_ ?_
  · refine q_aload_n (i := 0) (x := 0) dX12_gives_42 rfl 0 rfl ?_
    refine q_dup dX12_gives_43 rfl ?_
    refine q_geti dX12_gives_44 foX12_278 zM_0 rfl ?_
    refine q_iconst (v := 1) dX12_gives_47 (by decide) ?_
    refine q_iload_n (i := 2) (x := v2) dX12_gives_48 rfl 2 rfl ?_
    refine q_ishl dX12_gives_49 ?_
    refine q_ior dX12_gives_50 ?_
    refine q_puti dX12_gives_51 foX12_278 fwX12_20 zM_0 rfl ?_
    refine q_nmM (fun s1 => ?_)
    refine q_aload_n (i := 0) (x := 0) dX12_gives_54 rfl 0 rfl ?_
    refine q_getr (t := 12) dX12_gives_55 foX12_62 zM_0 rfl ?_
    refine q_iload_n (i := 2) (x := v2) dX12_gives_58 rfl 2 rfl ?_
    refine q_iald dX12_gives_59 zM_12 ?_
    refine q_iconst (v := (-1)) dX12_gives_60 (by decide) ?_
    refine q_icmp_eq (tgt := 80) dX12_gives_61 (by decide) ?_ ?_
    · exact q_sub [0, 1, 2] rfl (aX12_gives_b80 d N rX12_gives hX12_gives v1 v2 s1)
    refine q_aload_n (i := 0) (x := 0) dX12_gives_64 rfl 0 rfl ?_
    refine q_aload_n (i := 0) (x := 0) dX12_gives_65 rfl 0 rfl ?_
    refine q_getr (t := 12) dX12_gives_66 foX12_62 zM_0 rfl ?_
    refine q_iload_n (i := 2) (x := v2) dX12_gives_69 rfl 2 rfl ?_
    refine q_iald dX12_gives_70 zM_12 ?_
    refine q_cVi (mX12_gives d) [.int (gi s1 12 v2.toNatClampNeg)] (st := []) dX12_gives_71 (svX12_281 _) (by unfold rR mX12_gives; constructor <;> dsimp only <;> omega) zM_0 rfl rfl rfl (Nat.le_of_ble_eq_true rfl) (hX12_gives (gi s1 12 v2.toNatClampNeg) s1) (fun y2 => ?_)
    refine q_if_ne (tgt := 80) dX12_gives_74 (by decide) ?_ ?_
    · exact q_sub [0, 1, 2] rfl (aX12_gives_b80 d N rX12_gives hX12_gives v1 v2 y2.2)
    refine q_goto (tgt := 96) dX12_gives_77 (by decide) ?_
    exact q_sub [0, 1, 2] rfl (aX12_gives_b96 d N rX12_gives hX12_gives c2 hc2 v1 v2 y2.2)
  refine q_goto (tgt := 96) dX12_gives_39 (by decide) ?_
  exact q_sub [0, 1, 2] rfl (aX12_gives_b96 d N rX12_gives hX12_gives c2 hc2 v1 v2 σ)
def fX12_gives_l2 (N : Nat) (rX12_gives : Int32 → qMem → Option (Int32 × qMem)) : Nat → Int32 → Int32 → qMem → Option (Int32 × qMem)
  | 0 => fun _ _ _ => none
  | n + 1 => fun v1 v2 σ => fX12_gives_s2 N rX12_gives (fX12_gives_l2 N rX12_gives n) v1 v2 σ
theorem aX12_gives_l2 (d : Nat) (N : Nat) (rX12_gives : Int32 → qMem → Option (Int32 × qMem)) (hX12_gives : ∀ (p1 : Int32)  (σ : qMem), qMc wM (mX12_gives d) (ρi) [.ref 0, .int p1] σ (rX12_gives p1 σ)) : ∀ (n : Nat) (v1 : Int32) (v2 : Int32) (σ : qMem), qAt wM (mX12_gives (d + 1)) (ρi) 2 [(0, .ref 0), (1, .int v1), (2, .int v2)] [] σ (fX12_gives_l2 N rX12_gives n v1 v2 σ) := by
  intro n
  induction n with
  | zero => intro v1 v2 σ; exact q_none
  | succ n ih => intro v1 v2 σ; exact aX12_gives_s2 d N rX12_gives hX12_gives (fX12_gives_l2 N rX12_gives n) ih v1 v2 σ

def fX12_gives_e (N : Nat) (rX12_gives : Int32 → qMem → Option (Int32 × qMem)) (p1 : Int32) (σ : qMem) : Option (Int32 × qMem) :=
  (fX12_gives_l2 N rX12_gives N p1 0 σ)
set_option maxRecDepth 20000 in
set_option maxHeartbeats 4000000 in
theorem aX12_gives_e (d : Nat) (N : Nat) (rX12_gives : Int32 → qMem → Option (Int32 × qMem)) (p1 : Int32) (hX12_gives : ∀ (p1 : Int32)  (σ : qMem), qMc wM (mX12_gives d) (ρi) [.ref 0, .int p1] σ (rX12_gives p1 σ)) (σ : qMem) : qAt wM (mX12_gives (d + 1)) (ρi) 0 [(0, .ref 0), (1, .int p1)] [] σ (fX12_gives_e N rX12_gives p1 σ) := by
  unfold fX12_gives_e
  refine q_iconst (v := 0) dX12_gives_0 (by decide) ?_
  refine q_istore_n (i := 2) (L' := [(2, .int 0), (0, .ref 0), (1, .int p1)]) dX12_gives_1 rfl (Nat.le_of_ble_eq_true rfl) rfl ?_
  exact q_sub [1, 2, 0] rfl (aX12_gives_l2 d N rX12_gives hX12_gives N p1 0 σ)
def fX12_gives (N : Nat) : Nat → Int32 → qMem → Option (Int32 × qMem)
  | 0 => fun _ _ => none
  | d + 1 => fun p1 σ => fX12_gives_e N (fX12_gives N d) p1 σ
theorem kX12_gives (N : Nat) : ∀ (d : Nat) (p1 : Int32)  (σ : qMem), qMc wM (mX12_gives d) (ρi) [.ref 0, .int p1] σ (fX12_gives N d p1 σ) := by
  intro d
  induction d with
  | zero => intro p1  σ; exact fun _ h => by cases h
  | succ d ih => intro p1  σ; exact qMc_of (moX12_gives _) (Nat.le_of_ble_eq_true rfl) (aX12_gives_e d N (fX12_gives N d) p1 ih  σ)

theorem dX12_joins_0 : decode cX12_joins 0 = .ok (.iconst 0, 1) := by decide +kernel
theorem dX12_joins_1 : decode cX12_joins 1 = .ok (.istore_n 1, 1) := by decide +kernel
theorem dX12_joins_2 : decode cX12_joins 2 = .ok (.iload_n 1, 1) := by decide +kernel
theorem dX12_joins_3 : decode cX12_joins 3 = .ok (.bipush 24, 2) := by decide +kernel
theorem dX12_joins_5 : decode cX12_joins 5 = .ok (.if_icmp .ge 23, 3) := by decide +kernel
theorem dX12_joins_8 : decode cX12_joins 8 = .ok (.aload_n 0, 1) := by decide +kernel
theorem dX12_joins_9 : decode cX12_joins 9 = .ok (.getfield 59, 3) := by decide +kernel
theorem dX12_joins_12 : decode cX12_joins 12 = .ok (.iload_n 1, 1) := by decide +kernel
theorem dX12_joins_13 : decode cX12_joins 13 = .ok (.iconst (-1), 1) := by decide +kernel
theorem dX12_joins_14 : decode cX12_joins 14 = .ok (.iastore, 1) := by decide +kernel
theorem dX12_joins_15 : decode cX12_joins 15 = .ok (.aload_n 0, 1) := by decide +kernel
theorem dX12_joins_16 : decode cX12_joins 16 = .ok (.getfield 62, 3) := by decide +kernel
theorem dX12_joins_19 : decode cX12_joins 19 = .ok (.iload_n 1, 1) := by decide +kernel
theorem dX12_joins_20 : decode cX12_joins 20 = .ok (.iconst (-1), 1) := by decide +kernel
theorem dX12_joins_21 : decode cX12_joins 21 = .ok (.iastore, 1) := by decide +kernel
theorem dX12_joins_22 : decode cX12_joins 22 = .ok (.iinc 1 1, 3) := by decide +kernel
theorem dX12_joins_25 : decode cX12_joins 25 = .ok (.goto (-23), 3) := by decide +kernel
theorem dX12_joins_28 : decode cX12_joins 28 = .ok (.iconst 0, 1) := by decide +kernel
theorem dX12_joins_29 : decode cX12_joins 29 = .ok (.istore_n 1, 1) := by decide +kernel
theorem dX12_joins_30 : decode cX12_joins 30 = .ok (.iconst 0, 1) := by decide +kernel
theorem dX12_joins_31 : decode cX12_joins 31 = .ok (.istore_n 2, 1) := by decide +kernel
theorem dX12_joins_32 : decode cX12_joins 32 = .ok (.iload_n 2, 1) := by decide +kernel
theorem dX12_joins_33 : decode cX12_joins 33 = .ok (.aload_n 0, 1) := by decide +kernel
theorem dX12_joins_34 : decode cX12_joins 34 = .ok (.getfield 20, 3) := by decide +kernel
theorem dX12_joins_37 : decode cX12_joins 37 = .ok (.sipush 300, 3) := by decide +kernel
theorem dX12_joins_40 : decode cX12_joins 40 = .ok (.iaload, 1) := by decide +kernel
theorem dX12_joins_41 : decode cX12_joins 41 = .ok (.if_icmp .ge 30, 3) := by decide +kernel
theorem dX12_joins_44 : decode cX12_joins 44 = .ok (.aload_n 0, 1) := by decide +kernel
theorem dX12_joins_45 : decode cX12_joins 45 = .ok (.iconst 0, 1) := by decide +kernel
theorem dX12_joins_46 : decode cX12_joins 46 = .ok (.putfield 278, 3) := by decide +kernel
theorem dX12_joins_49 : decode cX12_joins 49 = .ok (.iload_n 1, 1) := by decide +kernel
theorem dX12_joins_50 : decode cX12_joins 50 = .ok (.aload_n 0, 1) := by decide +kernel
theorem dX12_joins_51 : decode cX12_joins 51 = .ok (.iload_n 2, 1) := by decide +kernel
theorem dX12_joins_52 : decode cX12_joins 52 = .ok (.invokevirtual 281, 3) := by decide +kernel
theorem dX12_joins_55 : decode cX12_joins 55 = .ok (.ifCond .eq 7, 3) := by decide +kernel
theorem dX12_joins_58 : decode cX12_joins 58 = .ok (.iconst 1, 1) := by decide +kernel
theorem dX12_joins_59 : decode cX12_joins 59 = .ok (.goto 4, 3) := by decide +kernel
theorem dX12_joins_62 : decode cX12_joins 62 = .ok (.iconst 0, 1) := by decide +kernel
theorem dX12_joins_63 : decode cX12_joins 63 = .ok (.iadd, 1) := by decide +kernel
theorem dX12_joins_64 : decode cX12_joins 64 = .ok (.istore_n 1, 1) := by decide +kernel
theorem dX12_joins_65 : decode cX12_joins 65 = .ok (.iinc 2 1, 3) := by decide +kernel
theorem dX12_joins_68 : decode cX12_joins 68 = .ok (.goto (-36), 3) := by decide +kernel
theorem dX12_joins_71 : decode cX12_joins 71 = .ok (.iload_n 1, 1) := by decide +kernel
theorem dX12_joins_72 : decode cX12_joins 72 = .ok (.ireturn, 1) := by decide +kernel
def fX12_joins_b63 (N : Nat) (c32 : Int32 → Int32 → qMem → Option (Int32 × qMem)) (v2 : Int32) (u0 : Int32) (u1 : Int32) (σ : qMem) : Option (Int32 × qMem) :=
  (c32 (u0 + u1) (v2 + 1) σ)
set_option maxRecDepth 20000 in
set_option maxHeartbeats 4000000 in
theorem aX12_joins_b63 (N : Nat) (c32 : Int32 → Int32 → qMem → Option (Int32 × qMem)) (hc32 : ∀ (v1 : Int32) (v2 : Int32) (σ : qMem), qAt wM mX12_joins (ρi) 32 [(0, .ref 0), (1, .int v1), (2, .int v2)] [] σ (c32 v1 v2 σ)) (v2 : Int32) (u0 : Int32) (u1 : Int32) (σ : qMem) : qAt wM mX12_joins (ρi) 63 [(0, .ref 0), (2, .int v2)] [.int u1, .int u0] σ (fX12_joins_b63 N c32 v2 u0 u1 σ) := by
  unfold fX12_joins_b63
  refine q_iadd dX12_joins_63 ?_
  refine q_istore_n (i := 1) (L' := [(1, .int (u0 + u1)), (0, .ref 0), (2, .int v2)]) dX12_joins_64 rfl (Nat.le_of_ble_eq_true rfl) rfl ?_
  refine q_iinc (i := 2) (x := v2) (v := (v2 + 1)) (L' := [(2, .int (v2 + 1)), (1, .int (u0 + u1)), (0, .ref 0)]) dX12_joins_65 2 rfl (q_cst v2 (by decide)) (Nat.le_of_ble_eq_true rfl) rfl ?_
  refine q_goto (tgt := 32) dX12_joins_68 (by decide) ?_
  exact q_sub [2, 1, 0] rfl (hc32 (u0 + u1) (v2 + 1) σ)

def fX12_joins_s32 (N : Nat) (c32 : Int32 → Int32 → qMem → Option (Int32 × qMem)) (v1 : Int32) (v2 : Int32) (σ : qMem) : Option (Int32 × qMem) :=
  (if ck 300 1112 = true then (if (gi σ 2 (300 : Int32).toNatClampNeg) ≤ v2 then (some (v1, σ)) else (nmM (si σ 0 20 0) fun s3 => ((fX12_gives N 26 v2 s3).bind fun y4 => (if y4.1 = 0 then (fX12_joins_b63 N c32 v2 v1 0 y4.2) else (fX12_joins_b63 N c32 v2 v1 1 y4.2))))) else none)
set_option maxRecDepth 20000 in
set_option maxHeartbeats 4000000 in
theorem aX12_joins_s32 (N : Nat) (c32 : Int32 → Int32 → qMem → Option (Int32 × qMem)) (hc32 : ∀ (v1 : Int32) (v2 : Int32) (σ : qMem), qAt wM mX12_joins (ρi) 32 [(0, .ref 0), (1, .int v1), (2, .int v2)] [] σ (c32 v1 v2 σ)) (v1 : Int32) (v2 : Int32) (σ : qMem) : qAt wM mX12_joins (ρi) 32 [(0, .ref 0), (1, .int v1), (2, .int v2)] [] σ (fX12_joins_s32 N c32 v1 v2 σ) := by
  unfold fX12_joins_s32
  refine q_iload_n (i := 2) (x := v2) dX12_joins_32 rfl 2 rfl ?_
  refine q_aload_n (i := 0) (x := 0) dX12_joins_33 rfl 0 rfl ?_
  refine q_getr (t := 2) dX12_joins_34 foX12_20 zM_0 rfl ?_
  refine q_sipush (v := 300) dX12_joins_37 (by decide) ?_
  refine q_iald dX12_joins_40 zM_2 ?_
  refine q_icmp_ge (tgt := 71) dX12_joins_41 (by decide) ?_ ?_
  · refine q_iload_n (i := 1) (x := v1) dX12_joins_71 rfl 1 rfl ?_
    exact q_ireti (y := (v1, σ)) dX12_joins_72 rfl rfl
  refine q_aload_n (i := 0) (x := 0) dX12_joins_44 rfl 0 rfl ?_
  refine q_iconst (v := 0) dX12_joins_45 (by decide) ?_
  refine q_puti dX12_joins_46 foX12_278 fwX12_20 zM_0 rfl ?_
  refine q_nmM (fun s3 => ?_)
  refine q_iload_n (i := 1) (x := v1) dX12_joins_49 rfl 1 rfl ?_
  refine q_aload_n (i := 0) (x := 0) dX12_joins_50 rfl 0 rfl ?_
  refine q_iload_n (i := 2) (x := v2) dX12_joins_51 rfl 2 rfl ?_
  refine q_cVi (mX12_gives 26) [.int v2] (st := [.int v1]) dX12_joins_52 (svX12_281 _) ⟨Nat.le_of_ble_eq_true rfl, Nat.le_of_ble_eq_true rfl⟩ zM_0 rfl rfl rfl (Nat.le_of_ble_eq_true rfl) (kX12_gives N 26 v2 s3) (fun y4 => ?_)
  refine q_if_eq (tgt := 62) dX12_joins_55 (by decide) ?_ ?_
  · refine q_iconst (v := 0) dX12_joins_62 (by decide) ?_
    exact q_sub [0, 2] rfl (aX12_joins_b63 N c32 hc32 v2 v1 0 y4.2)
  refine q_iconst (v := 1) dX12_joins_58 (by decide) ?_
  refine q_goto (tgt := 63) dX12_joins_59 (by decide) ?_
  exact q_sub [0, 2] rfl (aX12_joins_b63 N c32 hc32 v2 v1 1 y4.2)
def fX12_joins_l32 (N : Nat) : Nat → Int32 → Int32 → qMem → Option (Int32 × qMem)
  | 0 => fun _ _ _ => none
  | n + 1 => fun v1 v2 σ => fX12_joins_s32 N (fX12_joins_l32 N n) v1 v2 σ
theorem aX12_joins_l32 (N : Nat) : ∀ (n : Nat) (v1 : Int32) (v2 : Int32) (σ : qMem), qAt wM mX12_joins (ρi) 32 [(0, .ref 0), (1, .int v1), (2, .int v2)] [] σ (fX12_joins_l32 N n v1 v2 σ) := by
  intro n
  induction n with
  | zero => intro v1 v2 σ; exact q_none
  | succ n ih => intro v1 v2 σ; exact aX12_joins_s32 N (fX12_joins_l32 N n) ih v1 v2 σ

def fX12_joins_s2 (N : Nat) (c2 : Int32 → qMem → Option (Int32 × qMem)) (v1 : Int32) (σ : qMem) : Option (Int32 × qMem) :=
  (if 24 ≤ v1 then (fX12_joins_l32 N N 0 0 σ) else (if ck v1 24 = true then (nmM (si σ 11 v1.toNatClampNeg (-1)) fun s1 => (if ck v1 24 = true then (nmM (si s1 12 v1.toNatClampNeg (-1)) fun s2 => (c2 (v1 + 1) s2)) else none)) else none))
set_option maxRecDepth 20000 in
set_option maxHeartbeats 4000000 in
theorem aX12_joins_s2 (N : Nat) (c2 : Int32 → qMem → Option (Int32 × qMem)) (hc2 : ∀ (v1 : Int32) (σ : qMem), qAt wM mX12_joins (ρi) 2 [(0, .ref 0), (1, .int v1)] [] σ (c2 v1 σ)) (v1 : Int32) (σ : qMem) : qAt wM mX12_joins (ρi) 2 [(0, .ref 0), (1, .int v1)] [] σ (fX12_joins_s2 N c2 v1 σ) := by
  unfold fX12_joins_s2
  refine q_iload_n (i := 1) (x := v1) dX12_joins_2 rfl 1 rfl ?_
  refine q_bipush (v := 24) dX12_joins_3 (by decide) ?_
  refine q_icmp_ge (tgt := 28) dX12_joins_5 (by decide) ?_ ?_
  · refine q_iconst (v := 0) dX12_joins_28 (by decide) ?_
    refine q_istore_n (i := 1) (L' := [(1, .int 0), (0, .ref 0)]) dX12_joins_29 rfl (Nat.le_of_ble_eq_true rfl) rfl ?_
    refine q_iconst (v := 0) dX12_joins_30 (by decide) ?_
    refine q_istore_n (i := 2) (L' := [(2, .int 0), (1, .int 0), (0, .ref 0)]) dX12_joins_31 rfl (Nat.le_of_ble_eq_true rfl) rfl ?_
    exact q_sub [2, 1, 0] rfl (aX12_joins_l32 N N 0 0 σ)
  refine q_aload_n (i := 0) (x := 0) dX12_joins_8 rfl 0 rfl ?_
  refine q_getr (t := 11) dX12_joins_9 foX12_59 zM_0 rfl ?_
  refine q_iload_n (i := 1) (x := v1) dX12_joins_12 rfl 1 rfl ?_
  refine q_iconst (v := (-1)) dX12_joins_13 (by decide) ?_
  refine q_iast dX12_joins_14 zM_11 ?_
  refine q_nmM (fun s1 => ?_)
  refine q_aload_n (i := 0) (x := 0) dX12_joins_15 rfl 0 rfl ?_
  refine q_getr (t := 12) dX12_joins_16 foX12_62 zM_0 rfl ?_
  refine q_iload_n (i := 1) (x := v1) dX12_joins_19 rfl 1 rfl ?_
  refine q_iconst (v := (-1)) dX12_joins_20 (by decide) ?_
  refine q_iast dX12_joins_21 zM_12 ?_
  refine q_nmM (fun s2 => ?_)
  refine q_iinc (i := 1) (x := v1) (v := (v1 + 1)) (L' := [(1, .int (v1 + 1)), (0, .ref 0)]) dX12_joins_22 1 rfl (q_cst v1 (by decide)) (Nat.le_of_ble_eq_true rfl) rfl ?_
  refine q_goto (tgt := 2) dX12_joins_25 (by decide) ?_
  exact q_sub [1, 0] rfl (hc2 (v1 + 1) s2)
def fX12_joins_l2 (N : Nat) : Nat → Int32 → qMem → Option (Int32 × qMem)
  | 0 => fun _ _ => none
  | n + 1 => fun v1 σ => fX12_joins_s2 N (fX12_joins_l2 N n) v1 σ
theorem aX12_joins_l2 (N : Nat) : ∀ (n : Nat) (v1 : Int32) (σ : qMem), qAt wM mX12_joins (ρi) 2 [(0, .ref 0), (1, .int v1)] [] σ (fX12_joins_l2 N n v1 σ) := by
  intro n
  induction n with
  | zero => intro v1 σ; exact q_none
  | succ n ih => intro v1 σ; exact aX12_joins_s2 N (fX12_joins_l2 N n) ih v1 σ

def fX12_joins (N : Nat)  (σ : qMem) : Option (Int32 × qMem) :=
  (fX12_joins_l2 N N 0 σ)
set_option maxRecDepth 20000 in
set_option maxHeartbeats 4000000 in
theorem aX12_joins  (N : Nat)   (σ : qMem) : qAt wM mX12_joins (ρi) 0 [(0, .ref 0)] [] σ (fX12_joins N σ) := by
  unfold fX12_joins
  refine q_iconst (v := 0) dX12_joins_0 (by decide) ?_
  refine q_istore_n (i := 1) (L' := [(1, .int 0), (0, .ref 0)]) dX12_joins_1 rfl (Nat.le_of_ble_eq_true rfl) rfl ?_
  exact q_sub [1, 0] rfl (aX12_joins_l2 N N 0 σ)
theorem kX12_joins  (N : Nat)   (σ : qMem) : qMc wM mX12_joins (ρi) [.ref 0] σ (fX12_joins N σ) := qMc_of (moX12_joins) (Nat.le_of_ble_eq_true rfl) (aX12_joins N  σ)

theorem dX12_traces_0 : decode cX12_traces 0 = .ok (.iload_n 1, 1) := by decide +kernel
theorem dX12_traces_1 : decode cX12_traces 1 = .ok (.invokestatic 129, 3) := by decide +kernel
theorem dX12_traces_4 : decode cX12_traces 4 = .ok (.ifCond .ne 5, 3) := by decide +kernel
theorem dX12_traces_7 : decode cX12_traces 7 = .ok (.iconst (-1), 1) := by decide +kernel
theorem dX12_traces_8 : decode cX12_traces 8 = .ok (.ireturn, 1) := by decide +kernel
theorem dX12_traces_9 : decode cX12_traces 9 = .ok (.aload_n 0, 1) := by decide +kernel
theorem dX12_traces_10 : decode cX12_traces 10 = .ok (.iload_n 1, 1) := by decide +kernel
theorem dX12_traces_11 : decode cX12_traces 11 = .ok (.iconst (-1), 1) := by decide +kernel
theorem dX12_traces_12 : decode cX12_traces 12 = .ok (.iconst (-1), 1) := by decide +kernel
theorem dX12_traces_13 : decode cX12_traces 13 = .ok (.invokevirtual 284, 3) := by decide +kernel
theorem dX12_traces_16 : decode cX12_traces 16 = .ok (.iconst 0, 1) := by decide +kernel
theorem dX12_traces_17 : decode cX12_traces 17 = .ok (.istore_n 2, 1) := by decide +kernel
theorem dX12_traces_18 : decode cX12_traces 18 = .ok (.iconst 0, 1) := by decide +kernel
theorem dX12_traces_19 : decode cX12_traces 19 = .ok (.istore_n 3, 1) := by decide +kernel
theorem dX12_traces_20 : decode cX12_traces 20 = .ok (.iload_n 3, 1) := by decide +kernel
theorem dX12_traces_21 : decode cX12_traces 21 = .ok (.aload_n 0, 1) := by decide +kernel
theorem dX12_traces_22 : decode cX12_traces 22 = .ok (.getfield 20, 3) := by decide +kernel
theorem dX12_traces_25 : decode cX12_traces 25 = .ok (.sipush 300, 3) := by decide +kernel
theorem dX12_traces_28 : decode cX12_traces 28 = .ok (.iaload, 1) := by decide +kernel
theorem dX12_traces_29 : decode cX12_traces 29 = .ok (.if_icmp .ge 27, 3) := by decide +kernel
theorem dX12_traces_32 : decode cX12_traces 32 = .ok (.iload_n 2, 1) := by decide +kernel
theorem dX12_traces_33 : decode cX12_traces 33 = .ok (.aload_n 0, 1) := by decide +kernel
theorem dX12_traces_34 : decode cX12_traces 34 = .ok (.iload_n 3, 1) := by decide +kernel
theorem dX12_traces_35 : decode cX12_traces 35 = .ok (.iconst 0, 1) := by decide +kernel
theorem dX12_traces_36 : decode cX12_traces 36 = .ok (.invokevirtual 173, 3) := by decide +kernel
theorem dX12_traces_39 : decode cX12_traces 39 = .ok (.iload_n 1, 1) := by decide +kernel
theorem dX12_traces_40 : decode cX12_traces 40 = .ok (.if_icmp .ne 7, 3) := by decide +kernel
theorem dX12_traces_43 : decode cX12_traces 43 = .ok (.iconst 1, 1) := by decide +kernel
theorem dX12_traces_44 : decode cX12_traces 44 = .ok (.goto 4, 3) := by decide +kernel
theorem dX12_traces_47 : decode cX12_traces 47 = .ok (.iconst 0, 1) := by decide +kernel
theorem dX12_traces_48 : decode cX12_traces 48 = .ok (.iadd, 1) := by decide +kernel
theorem dX12_traces_49 : decode cX12_traces 49 = .ok (.istore_n 2, 1) := by decide +kernel
theorem dX12_traces_50 : decode cX12_traces 50 = .ok (.iinc 3 1, 3) := by decide +kernel
theorem dX12_traces_53 : decode cX12_traces 53 = .ok (.goto (-33), 3) := by decide +kernel
theorem dX12_traces_56 : decode cX12_traces 56 = .ok (.iload_n 2, 1) := by decide +kernel
theorem dX12_traces_57 : decode cX12_traces 57 = .ok (.aload_n 0, 1) := by decide +kernel
theorem dX12_traces_58 : decode cX12_traces 58 = .ok (.invokevirtual 287, 3) := by decide +kernel
theorem dX12_traces_61 : decode cX12_traces 61 = .ok (.isub, 1) := by decide +kernel
theorem dX12_traces_62 : decode cX12_traces 62 = .ok (.ireturn, 1) := by decide +kernel
def fX12_traces_b48 (N : Nat) (c20 : Int32 → Int32 → Int32 → qMem → Option (Int32 × qMem)) (v1 : Int32) (v3 : Int32) (u0 : Int32) (u1 : Int32) (σ : qMem) : Option (Int32 × qMem) :=
  (c20 v1 (u0 + u1) (v3 + 1) σ)
set_option maxRecDepth 20000 in
set_option maxHeartbeats 4000000 in
theorem aX12_traces_b48 (N : Nat) (c20 : Int32 → Int32 → Int32 → qMem → Option (Int32 × qMem)) (hc20 : ∀ (v1 : Int32) (v2 : Int32) (v3 : Int32) (σ : qMem), qAt wM mX12_traces (ρi) 20 [(0, .ref 0), (1, .int v1), (2, .int v2), (3, .int v3)] [] σ (c20 v1 v2 v3 σ)) (v1 : Int32) (v3 : Int32) (u0 : Int32) (u1 : Int32) (σ : qMem) : qAt wM mX12_traces (ρi) 48 [(0, .ref 0), (1, .int v1), (3, .int v3)] [.int u1, .int u0] σ (fX12_traces_b48 N c20 v1 v3 u0 u1 σ) := by
  unfold fX12_traces_b48
  refine q_iadd dX12_traces_48 ?_
  refine q_istore_n (i := 2) (L' := [(2, .int (u0 + u1)), (0, .ref 0), (1, .int v1), (3, .int v3)]) dX12_traces_49 rfl (Nat.le_of_ble_eq_true rfl) rfl ?_
  refine q_iinc (i := 3) (x := v3) (v := (v3 + 1)) (L' := [(3, .int (v3 + 1)), (2, .int (u0 + u1)), (0, .ref 0), (1, .int v1)]) dX12_traces_50 3 rfl (q_cst v3 (by decide)) (Nat.le_of_ble_eq_true rfl) rfl ?_
  refine q_goto (tgt := 20) dX12_traces_53 (by decide) ?_
  exact q_sub [2, 3, 1, 0] rfl (hc20 v1 (u0 + u1) (v3 + 1) σ)

def fX12_traces_s20 (N : Nat) (c20 : Int32 → Int32 → Int32 → qMem → Option (Int32 × qMem)) (v1 : Int32) (v2 : Int32) (v3 : Int32) (σ : qMem) : Option (Int32 × qMem) :=
  (if ck 300 1112 = true then (if (gi σ 2 (300 : Int32).toNatClampNeg) ≤ v3 then ((fX12_joins N σ).bind fun y3 => (some ((v2 - y3.1), y3.2))) else ((fX12_heardOf v3 0 σ).bind fun y4 => (if y4 = v1 then (fX12_traces_b48 N c20 v1 v3 v2 1 σ) else (fX12_traces_b48 N c20 v1 v3 v2 0 σ)))) else none)
set_option maxRecDepth 20000 in
set_option maxHeartbeats 4000000 in
theorem aX12_traces_s20 (N : Nat) (c20 : Int32 → Int32 → Int32 → qMem → Option (Int32 × qMem)) (hc20 : ∀ (v1 : Int32) (v2 : Int32) (v3 : Int32) (σ : qMem), qAt wM mX12_traces (ρi) 20 [(0, .ref 0), (1, .int v1), (2, .int v2), (3, .int v3)] [] σ (c20 v1 v2 v3 σ)) (v1 : Int32) (v2 : Int32) (v3 : Int32) (σ : qMem) : qAt wM mX12_traces (ρi) 20 [(0, .ref 0), (1, .int v1), (2, .int v2), (3, .int v3)] [] σ (fX12_traces_s20 N c20 v1 v2 v3 σ) := by
  unfold fX12_traces_s20
  refine q_iload_n (i := 3) (x := v3) dX12_traces_20 rfl 3 rfl ?_
  refine q_aload_n (i := 0) (x := 0) dX12_traces_21 rfl 0 rfl ?_
  refine q_getr (t := 2) dX12_traces_22 foX12_20 zM_0 rfl ?_
  refine q_sipush (v := 300) dX12_traces_25 (by decide) ?_
  refine q_iald dX12_traces_28 zM_2 ?_
  refine q_icmp_ge (tgt := 56) dX12_traces_29 (by decide) ?_ ?_
  · refine q_iload_n (i := 2) (x := v2) dX12_traces_56 rfl 2 rfl ?_
    refine q_aload_n (i := 0) (x := 0) dX12_traces_57 rfl 0 rfl ?_
    refine q_cVi mX12_joins [] (st := [.int v2]) dX12_traces_58 (svX12_287) ⟨Nat.le_of_ble_eq_true rfl, Nat.le_of_ble_eq_true rfl⟩ zM_0 rfl rfl rfl (Nat.le_of_ble_eq_true rfl) (kX12_joins N σ) (fun y3 => ?_)
    refine q_isub dX12_traces_61 ?_
    exact q_ireti (y := ((v2 - y3.1), y3.2)) dX12_traces_62 rfl rfl
  refine q_iload_n (i := 2) (x := v2) dX12_traces_32 rfl 2 rfl ?_
  refine q_aload_n (i := 0) (x := 0) dX12_traces_33 rfl 0 rfl ?_
  refine q_iload_n (i := 3) (x := v3) dX12_traces_34 rfl 3 rfl ?_
  refine q_iconst (v := 0) dX12_traces_35 (by decide) ?_
  refine q_cVp mX12_heardOf [.int v3, .int 0] (st := [.int v2]) dX12_traces_36 (svX12_173) ⟨Nat.le_of_ble_eq_true rfl, Nat.le_of_ble_eq_true rfl⟩ zM_0 rfl rfl rfl (Nat.le_of_ble_eq_true rfl) (kX12_heardOf v3 0 σ) (fun y4 => ?_)
  refine q_iload_n (i := 1) (x := v1) dX12_traces_39 rfl 1 rfl ?_
  refine q_icmp_ne (tgt := 47) dX12_traces_40 (by decide) ?_ ?_
  · refine q_iconst (v := 0) dX12_traces_47 (by decide) ?_
    exact q_sub [0, 1, 3] rfl (aX12_traces_b48 N c20 hc20 v1 v3 v2 0 σ)
  refine q_iconst (v := 1) dX12_traces_43 (by decide) ?_
  refine q_goto (tgt := 48) dX12_traces_44 (by decide) ?_
  exact q_sub [0, 1, 3] rfl (aX12_traces_b48 N c20 hc20 v1 v3 v2 1 σ)
def fX12_traces_l20 (N : Nat) : Nat → Int32 → Int32 → Int32 → qMem → Option (Int32 × qMem)
  | 0 => fun _ _ _ _ => none
  | n + 1 => fun v1 v2 v3 σ => fX12_traces_s20 N (fX12_traces_l20 N n) v1 v2 v3 σ
theorem aX12_traces_l20 (N : Nat) : ∀ (n : Nat) (v1 : Int32) (v2 : Int32) (v3 : Int32) (σ : qMem), qAt wM mX12_traces (ρi) 20 [(0, .ref 0), (1, .int v1), (2, .int v2), (3, .int v3)] [] σ (fX12_traces_l20 N n v1 v2 v3 σ) := by
  intro n
  induction n with
  | zero => intro v1 v2 v3 σ; exact q_none
  | succ n ih => intro v1 v2 v3 σ; exact aX12_traces_s20 N (fX12_traces_l20 N n) ih v1 v2 v3 σ

def fX12_traces (N : Nat) (p1 : Int32) (σ : qMem) : Option (Int32 × qMem) :=
  ((fX12_isBoat p1).bind fun y1 => (if y1 = 0 then (some ((-1), σ)) else ((fX12_mays N p1 (-1) (-1) σ).bind fun y2 => (fX12_traces_l20 N N p1 0 0 y2))))
set_option maxRecDepth 20000 in
set_option maxHeartbeats 4000000 in
theorem aX12_traces  (N : Nat) (p1 : Int32)  (σ : qMem) : qAt wM mX12_traces (ρi) 0 [(0, .ref 0), (1, .int p1)] [] σ (fX12_traces N p1 σ) := by
  unfold fX12_traces
  refine q_iload_n (i := 1) (x := p1) dX12_traces_0 rfl 1 rfl ?_
  refine q_cSp mX12_isBoat [.int p1] (st := []) dX12_traces_1 (ssX12_129) ⟨Nat.le_of_ble_eq_true rfl, Nat.le_of_ble_eq_true rfl⟩ rfl rfl (Nat.le_of_ble_eq_true rfl) (kX12_isBoat p1 σ) (fun y1 => ?_)
  refine q_if_ne (tgt := 9) dX12_traces_4 (by decide) ?_ ?_
  · refine q_aload_n (i := 0) (x := 0) dX12_traces_9 rfl 0 rfl ?_
    refine q_iload_n (i := 1) (x := p1) dX12_traces_10 rfl 1 rfl ?_
    refine q_iconst (v := (-1)) dX12_traces_11 (by decide) ?_
    refine q_iconst (v := (-1)) dX12_traces_12 (by decide) ?_
    refine q_cVv mX12_mays [.int p1, .int (-1), .int (-1)] (st := []) dX12_traces_13 (svX12_284) ⟨Nat.le_of_ble_eq_true rfl, Nat.le_of_ble_eq_true rfl⟩ zM_0 rfl rfl rfl (Nat.le_of_ble_eq_true rfl) (kX12_mays N p1 (-1) (-1) σ) (fun y2 => ?_)
    refine q_iconst (v := 0) dX12_traces_16 (by decide) ?_
    refine q_istore_n (i := 2) (L' := [(2, .int 0), (0, .ref 0), (1, .int p1)]) dX12_traces_17 rfl (Nat.le_of_ble_eq_true rfl) rfl ?_
    refine q_iconst (v := 0) dX12_traces_18 (by decide) ?_
    refine q_istore_n (i := 3) (L' := [(3, .int 0), (2, .int 0), (0, .ref 0), (1, .int p1)]) dX12_traces_19 rfl (Nat.le_of_ble_eq_true rfl) rfl ?_
    exact q_sub [2, 3, 1, 0] rfl (aX12_traces_l20 N N p1 0 0 y2)
  refine q_iconst (v := (-1)) dX12_traces_7 (by decide) ?_
  exact q_ireti (y := ((-1), σ)) dX12_traces_8 rfl rfl
theorem kX12_traces  (N : Nat) (p1 : Int32)  (σ : qMem) : qMc wM mX12_traces (ρi) [.ref 0, .int p1] σ (fX12_traces N p1 σ) := qMc_of (moX12_traces) (Nat.le_of_ble_eq_true rfl) (aX12_traces N p1  σ)

theorem dX12_fixes_0 : decode cX12_fixes 0 = .ok (.iconst 0, 1) := by decide +kernel
theorem dX12_fixes_1 : decode cX12_fixes 1 = .ok (.istore_n 3, 1) := by decide +kernel
theorem dX12_fixes_2 : decode cX12_fixes 2 = .ok (.iload_n 3, 1) := by decide +kernel
theorem dX12_fixes_3 : decode cX12_fixes 3 = .ok (.bipush 24, 2) := by decide +kernel
theorem dX12_fixes_5 : decode cX12_fixes 5 = .ok (.if_icmp .ge 23, 3) := by decide +kernel
theorem dX12_fixes_8 : decode cX12_fixes 8 = .ok (.aload_n 0, 1) := by decide +kernel
theorem dX12_fixes_9 : decode cX12_fixes 9 = .ok (.getfield 56, 3) := by decide +kernel
theorem dX12_fixes_12 : decode cX12_fixes 12 = .ok (.iload_n 3, 1) := by decide +kernel
theorem dX12_fixes_13 : decode cX12_fixes 13 = .ok (.dup2, 1) := by decide +kernel
theorem dX12_fixes_14 : decode cX12_fixes 14 = .ok (.iaload, 1) := by decide +kernel
theorem dX12_fixes_15 : decode cX12_fixes 15 = .ok (.iconst 1, 1) := by decide +kernel
theorem dX12_fixes_16 : decode cX12_fixes 16 = .ok (.iload_n 2, 1) := by decide +kernel
theorem dX12_fixes_17 : decode cX12_fixes 17 = .ok (.ishl, 1) := by decide +kernel
theorem dX12_fixes_18 : decode cX12_fixes 18 = .ok (.iconst (-1), 1) := by decide +kernel
theorem dX12_fixes_19 : decode cX12_fixes 19 = .ok (.ixor, 1) := by decide +kernel
theorem dX12_fixes_20 : decode cX12_fixes 20 = .ok (.iand, 1) := by decide +kernel
theorem dX12_fixes_21 : decode cX12_fixes 21 = .ok (.iastore, 1) := by decide +kernel
theorem dX12_fixes_22 : decode cX12_fixes 22 = .ok (.iinc 3 1, 3) := by decide +kernel
theorem dX12_fixes_25 : decode cX12_fixes 25 = .ok (.goto (-23), 3) := by decide +kernel
theorem dX12_fixes_28 : decode cX12_fixes 28 = .ok (.aload_n 0, 1) := by decide +kernel
theorem dX12_fixes_29 : decode cX12_fixes 29 = .ok (.getfield 56, 3) := by decide +kernel
theorem dX12_fixes_32 : decode cX12_fixes 32 = .ok (.iload_n 1, 1) := by decide +kernel
theorem dX12_fixes_33 : decode cX12_fixes 33 = .ok (.iconst 1, 1) := by decide +kernel
theorem dX12_fixes_34 : decode cX12_fixes 34 = .ok (.iload_n 2, 1) := by decide +kernel
theorem dX12_fixes_35 : decode cX12_fixes 35 = .ok (.ishl, 1) := by decide +kernel
theorem dX12_fixes_36 : decode cX12_fixes 36 = .ok (.iastore, 1) := by decide +kernel
theorem dX12_fixes_37 : decode cX12_fixes 37 = .ok (.return_, 1) := by decide +kernel
def fX12_fixes_s2 (N : Nat) (c2 : Int32 → Int32 → Int32 → qMem → Option qMem) (v1 : Int32) (v2 : Int32) (v3 : Int32) (σ : qMem) : Option qMem :=
  (if 24 ≤ v3 then (if ck v1 24 = true then (nmM (si σ 10 v1.toNatClampNeg ((1 : Int32) <<< (v2 &&& 31))) fun s1 => (some s1)) else none) else (if ck v3 24 = true then (if ck v3 24 = true then (nmM (si σ 10 v3.toNatClampNeg ((gi σ 10 v3.toNatClampNeg) &&& (((1 : Int32) <<< (v2 &&& 31)) ^^^ (-1)))) fun s2 => (c2 v1 v2 (v3 + 1) s2)) else none) else none))
set_option maxRecDepth 20000 in
set_option maxHeartbeats 4000000 in
theorem aX12_fixes_s2 (N : Nat) (c2 : Int32 → Int32 → Int32 → qMem → Option qMem) (hc2 : ∀ (v1 : Int32) (v2 : Int32) (v3 : Int32) (σ : qMem), qAt wM mX12_fixes (ρv) 2 [(0, .ref 0), (1, .int v1), (2, .int v2), (3, .int v3)] [] σ (c2 v1 v2 v3 σ)) (v1 : Int32) (v2 : Int32) (v3 : Int32) (σ : qMem) : qAt wM mX12_fixes (ρv) 2 [(0, .ref 0), (1, .int v1), (2, .int v2), (3, .int v3)] [] σ (fX12_fixes_s2 N c2 v1 v2 v3 σ) := by
  unfold fX12_fixes_s2
  refine q_iload_n (i := 3) (x := v3) dX12_fixes_2 rfl 3 rfl ?_
  refine q_bipush (v := 24) dX12_fixes_3 (by decide) ?_
  refine q_icmp_ge (tgt := 28) dX12_fixes_5 (by decide) ?_ ?_
  · refine q_aload_n (i := 0) (x := 0) dX12_fixes_28 rfl 0 rfl ?_
    refine q_getr (t := 10) dX12_fixes_29 foX12_56 zM_0 rfl ?_
    refine q_iload_n (i := 1) (x := v1) dX12_fixes_32 rfl 1 rfl ?_
    refine q_iconst (v := 1) dX12_fixes_33 (by decide) ?_
    refine q_iload_n (i := 2) (x := v2) dX12_fixes_34 rfl 2 rfl ?_
    refine q_ishl dX12_fixes_35 ?_
    refine q_iast dX12_fixes_36 zM_10 ?_
    refine q_nmM (fun s1 => ?_)
    exact q_vret (y := s1) dX12_fixes_37 rfl rfl
  refine q_aload_n (i := 0) (x := 0) dX12_fixes_8 rfl 0 rfl ?_
  refine q_getr (t := 10) dX12_fixes_9 foX12_56 zM_0 rfl ?_
  refine q_iload_n (i := 3) (x := v3) dX12_fixes_12 rfl 3 rfl ?_
  refine q_dup2 dX12_fixes_13 rfl rfl ?_
  refine q_iald dX12_fixes_14 zM_10 ?_
  refine q_iconst (v := 1) dX12_fixes_15 (by decide) ?_
  refine q_iload_n (i := 2) (x := v2) dX12_fixes_16 rfl 2 rfl ?_
  refine q_ishl dX12_fixes_17 ?_
  refine q_iconst (v := (-1)) dX12_fixes_18 (by decide) ?_
  refine q_ixor dX12_fixes_19 ?_
  refine q_iand dX12_fixes_20 ?_
  refine q_iast dX12_fixes_21 zM_10 ?_
  refine q_nmM (fun s2 => ?_)
  refine q_iinc (i := 3) (x := v3) (v := (v3 + 1)) (L' := [(3, .int (v3 + 1)), (0, .ref 0), (1, .int v1), (2, .int v2)]) dX12_fixes_22 3 rfl (q_cst v3 (by decide)) (Nat.le_of_ble_eq_true rfl) rfl ?_
  refine q_goto (tgt := 2) dX12_fixes_25 (by decide) ?_
  exact q_sub [1, 2, 3, 0] rfl (hc2 v1 v2 (v3 + 1) s2)
def fX12_fixes_l2 (N : Nat) : Nat → Int32 → Int32 → Int32 → qMem → Option qMem
  | 0 => fun _ _ _ _ => none
  | n + 1 => fun v1 v2 v3 σ => fX12_fixes_s2 N (fX12_fixes_l2 N n) v1 v2 v3 σ
theorem aX12_fixes_l2 (N : Nat) : ∀ (n : Nat) (v1 : Int32) (v2 : Int32) (v3 : Int32) (σ : qMem), qAt wM mX12_fixes (ρv) 2 [(0, .ref 0), (1, .int v1), (2, .int v2), (3, .int v3)] [] σ (fX12_fixes_l2 N n v1 v2 v3 σ) := by
  intro n
  induction n with
  | zero => intro v1 v2 v3 σ; exact q_none
  | succ n ih => intro v1 v2 v3 σ; exact aX12_fixes_s2 N (fX12_fixes_l2 N n) ih v1 v2 v3 σ

def fX12_fixes (N : Nat) (p1 : Int32) (p2 : Int32) (σ : qMem) : Option qMem :=
  (fX12_fixes_l2 N N p1 p2 0 σ)
set_option maxRecDepth 20000 in
set_option maxHeartbeats 4000000 in
theorem aX12_fixes  (N : Nat) (p1 : Int32) (p2 : Int32)  (σ : qMem) : qAt wM mX12_fixes (ρv) 0 [(0, .ref 0), (1, .int p1), (2, .int p2)] [] σ (fX12_fixes N p1 p2 σ) := by
  unfold fX12_fixes
  refine q_iconst (v := 0) dX12_fixes_0 (by decide) ?_
  refine q_istore_n (i := 3) (L' := [(3, .int 0), (0, .ref 0), (1, .int p1), (2, .int p2)]) dX12_fixes_1 rfl (Nat.le_of_ble_eq_true rfl) rfl ?_
  exact q_sub [1, 2, 3, 0] rfl (aX12_fixes_l2 N N p1 p2 0 σ)
theorem kX12_fixes  (N : Nat) (p1 : Int32) (p2 : Int32)  (σ : qMem) : qMc wM mX12_fixes (ρv) [.ref 0, .int p1, .int p2] σ (fX12_fixes N p1 p2 σ) := qMc_of (moX12_fixes) (Nat.le_of_ble_eq_true rfl) (aX12_fixes N p1 p2  σ)

theorem dX12_next_0 : decode cX12_next 0 = .ok (.iload_n 1, 1) := by decide +kernel
theorem dX12_next_1 : decode cX12_next 1 = .ok (.iconst 0, 1) := by decide +kernel
theorem dX12_next_2 : decode cX12_next 2 = .ok (.aload_n 0, 1) := by decide +kernel
theorem dX12_next_3 : decode cX12_next 3 = .ok (.getfield 20, 3) := by decide +kernel
theorem dX12_next_6 : decode cX12_next 6 = .ok (.sipush 300, 3) := by decide +kernel
theorem dX12_next_9 : decode cX12_next 9 = .ok (.iaload, 1) := by decide +kernel
theorem dX12_next_10 : decode cX12_next 10 = .ok (.iconst 1, 1) := by decide +kernel
theorem dX12_next_11 : decode cX12_next 11 = .ok (.isub, 1) := by decide +kernel
theorem dX12_next_12 : decode cX12_next 12 = .ok (.invokestatic 110, 3) := by decide +kernel
theorem dX12_next_15 : decode cX12_next 15 = .ok (.ifCond .ne 5, 3) := by decide +kernel
theorem dX12_next_18 : decode cX12_next 18 = .ok (.iconst (-1), 1) := by decide +kernel
theorem dX12_next_19 : decode cX12_next 19 = .ok (.ireturn, 1) := by decide +kernel
theorem dX12_next_20 : decode cX12_next 20 = .ok (.aload_n 0, 1) := by decide +kernel
theorem dX12_next_21 : decode cX12_next 21 = .ok (.aload_n 0, 1) := by decide +kernel
theorem dX12_next_22 : decode cX12_next 22 = .ok (.iload_n 1, 1) := by decide +kernel
theorem dX12_next_23 : decode cX12_next 23 = .ok (.iconst 0, 1) := by decide +kernel
theorem dX12_next_24 : decode cX12_next 24 = .ok (.invokevirtual 173, 3) := by decide +kernel
theorem dX12_next_27 : decode cX12_next 27 = .ok (.iconst (-1), 1) := by decide +kernel
theorem dX12_next_28 : decode cX12_next 28 = .ok (.iconst (-1), 1) := by decide +kernel
theorem dX12_next_29 : decode cX12_next 29 = .ok (.invokevirtual 284, 3) := by decide +kernel
theorem dX12_next_32 : decode cX12_next 32 = .ok (.aload_n 0, 1) := by decide +kernel
theorem dX12_next_33 : decode cX12_next 33 = .ok (.invokevirtual 287, 3) := by decide +kernel
theorem dX12_next_36 : decode cX12_next 36 = .ok (.istore_n 2, 1) := by decide +kernel
theorem dX12_next_37 : decode cX12_next 37 = .ok (.iconst 0, 1) := by decide +kernel
theorem dX12_next_38 : decode cX12_next 38 = .ok (.istore_n 3, 1) := by decide +kernel
theorem dX12_next_39 : decode cX12_next 39 = .ok (.iload_n 3, 1) := by decide +kernel
theorem dX12_next_40 : decode cX12_next 40 = .ok (.iload_n 1, 1) := by decide +kernel
theorem dX12_next_41 : decode cX12_next 41 = .ok (.if_icmp .gt 190, 3) := by decide +kernel
theorem dX12_next_44 : decode cX12_next 44 = .ok (.iconst (-1), 1) := by decide +kernel
theorem dX12_next_45 : decode cX12_next 45 = .ok (.istore 4, 2) := by decide +kernel
theorem dX12_next_47 : decode cX12_next 47 = .ok (.iconst 0, 1) := by decide +kernel
theorem dX12_next_48 : decode cX12_next 48 = .ok (.istore 5, 2) := by decide +kernel
theorem dX12_next_50 : decode cX12_next 50 = .ok (.iload 5, 2) := by decide +kernel
theorem dX12_next_52 : decode cX12_next 52 = .ok (.bipush 24, 2) := by decide +kernel
theorem dX12_next_54 : decode cX12_next 54 = .ok (.if_icmp .ge 23, 3) := by decide +kernel
theorem dX12_next_57 : decode cX12_next 57 = .ok (.aload_n 0, 1) := by decide +kernel
theorem dX12_next_58 : decode cX12_next 58 = .ok (.getfield 65, 3) := by decide +kernel
theorem dX12_next_61 : decode cX12_next 61 = .ok (.iload 5, 2) := by decide +kernel
theorem dX12_next_63 : decode cX12_next 63 = .ok (.aload_n 0, 1) := by decide +kernel
theorem dX12_next_64 : decode cX12_next 64 = .ok (.getfield 56, 3) := by decide +kernel
theorem dX12_next_67 : decode cX12_next 67 = .ok (.iload 5, 2) := by decide +kernel
theorem dX12_next_69 : decode cX12_next 69 = .ok (.iaload, 1) := by decide +kernel
theorem dX12_next_70 : decode cX12_next 70 = .ok (.iastore, 1) := by decide +kernel
theorem dX12_next_71 : decode cX12_next 71 = .ok (.iinc 5 1, 3) := by decide +kernel
theorem dX12_next_74 : decode cX12_next 74 = .ok (.goto (-24), 3) := by decide +kernel
theorem dX12_next_77 : decode cX12_next 77 = .ok (.iconst 0, 1) := by decide +kernel
theorem dX12_next_78 : decode cX12_next 78 = .ok (.istore 5, 2) := by decide +kernel
theorem dX12_next_80 : decode cX12_next 80 = .ok (.iload 5, 2) := by decide +kernel
theorem dX12_next_82 : decode cX12_next 82 = .ok (.aload_n 0, 1) := by decide +kernel
theorem dX12_next_83 : decode cX12_next 83 = .ok (.getfield 20, 3) := by decide +kernel
theorem dX12_next_86 : decode cX12_next 86 = .ok (.sipush 300, 3) := by decide +kernel
theorem dX12_next_89 : decode cX12_next 89 = .ok (.iaload, 1) := by decide +kernel
theorem dX12_next_90 : decode cX12_next 90 = .ok (.if_icmp .ge 81, 3) := by decide +kernel
theorem dX12_next_93 : decode cX12_next 93 = .ok (.iload 4, 2) := by decide +kernel
theorem dX12_next_95 : decode cX12_next 95 = .ok (.iconst (-1), 1) := by decide +kernel
theorem dX12_next_96 : decode cX12_next 96 = .ok (.if_icmp .ne 75, 3) := by decide +kernel
theorem dX12_next_99 : decode cX12_next 99 = .ok (.aload_n 0, 1) := by decide +kernel
theorem dX12_next_100 : decode cX12_next 100 = .ok (.getfield 65, 3) := by decide +kernel
theorem dX12_next_103 : decode cX12_next 103 = .ok (.iload_n 3, 1) := by decide +kernel
theorem dX12_next_104 : decode cX12_next 104 = .ok (.iaload, 1) := by decide +kernel
theorem dX12_next_105 : decode cX12_next 105 = .ok (.iload 5, 2) := by decide +kernel
theorem dX12_next_107 : decode cX12_next 107 = .ok (.ishr, 1) := by decide +kernel
theorem dX12_next_108 : decode cX12_next 108 = .ok (.iconst 1, 1) := by decide +kernel
theorem dX12_next_109 : decode cX12_next 109 = .ok (.iand, 1) := by decide +kernel
theorem dX12_next_110 : decode cX12_next 110 = .ok (.ifCond .ne 6, 3) := by decide +kernel
theorem dX12_next_113 : decode cX12_next 113 = .ok (.goto 52, 3) := by decide +kernel
theorem dX12_next_116 : decode cX12_next 116 = .ok (.iconst 0, 1) := by decide +kernel
theorem dX12_next_117 : decode cX12_next 117 = .ok (.istore 6, 2) := by decide +kernel
theorem dX12_next_119 : decode cX12_next 119 = .ok (.iload 6, 2) := by decide +kernel
theorem dX12_next_121 : decode cX12_next 121 = .ok (.bipush 24, 2) := by decide +kernel
theorem dX12_next_123 : decode cX12_next 123 = .ok (.if_icmp .ge 23, 3) := by decide +kernel
theorem dX12_next_126 : decode cX12_next 126 = .ok (.aload_n 0, 1) := by decide +kernel
theorem dX12_next_127 : decode cX12_next 127 = .ok (.getfield 56, 3) := by decide +kernel
theorem dX12_next_130 : decode cX12_next 130 = .ok (.iload 6, 2) := by decide +kernel
theorem dX12_next_132 : decode cX12_next 132 = .ok (.aload_n 0, 1) := by decide +kernel
theorem dX12_next_133 : decode cX12_next 133 = .ok (.getfield 65, 3) := by decide +kernel
theorem dX12_next_136 : decode cX12_next 136 = .ok (.iload 6, 2) := by decide +kernel
theorem dX12_next_138 : decode cX12_next 138 = .ok (.iaload, 1) := by decide +kernel
theorem dX12_next_139 : decode cX12_next 139 = .ok (.iastore, 1) := by decide +kernel
theorem dX12_next_140 : decode cX12_next 140 = .ok (.iinc 6 1, 3) := by decide +kernel
theorem dX12_next_143 : decode cX12_next 143 = .ok (.goto (-24), 3) := by decide +kernel
theorem dX12_next_146 : decode cX12_next 146 = .ok (.aload_n 0, 1) := by decide +kernel
theorem dX12_next_147 : decode cX12_next 147 = .ok (.iload_n 3, 1) := by decide +kernel
theorem dX12_next_148 : decode cX12_next 148 = .ok (.iload 5, 2) := by decide +kernel
theorem dX12_next_150 : decode cX12_next 150 = .ok (.invokevirtual 291, 3) := by decide +kernel
theorem dX12_next_153 : decode cX12_next 153 = .ok (.aload_n 0, 1) := by decide +kernel
theorem dX12_next_154 : decode cX12_next 154 = .ok (.invokevirtual 287, 3) := by decide +kernel
theorem dX12_next_157 : decode cX12_next 157 = .ok (.iload_n 2, 1) := by decide +kernel
theorem dX12_next_158 : decode cX12_next 158 = .ok (.if_icmp .ne 7, 3) := by decide +kernel
theorem dX12_next_161 : decode cX12_next 161 = .ok (.iload 5, 2) := by decide +kernel
theorem dX12_next_163 : decode cX12_next 163 = .ok (.istore 4, 2) := by decide +kernel
theorem dX12_next_165 : decode cX12_next 165 = .ok (.iinc 5 1, 3) := by decide +kernel
theorem dX12_next_168 : decode cX12_next 168 = .ok (.goto (-88), 3) := by decide +kernel
theorem dX12_next_171 : decode cX12_next 171 = .ok (.iload 4, 2) := by decide +kernel
theorem dX12_next_173 : decode cX12_next 173 = .ok (.iconst (-1), 1) := by decide +kernel
theorem dX12_next_174 : decode cX12_next 174 = .ok (.if_icmp .ne 43, 3) := by decide +kernel
theorem dX12_next_177 : decode cX12_next 177 = .ok (.iconst 0, 1) := by decide +kernel
theorem dX12_next_178 : decode cX12_next 178 = .ok (.istore 5, 2) := by decide +kernel
theorem dX12_next_180 : decode cX12_next 180 = .ok (.iload 5, 2) := by decide +kernel
theorem dX12_next_182 : decode cX12_next 182 = .ok (.bipush 24, 2) := by decide +kernel
theorem dX12_next_184 : decode cX12_next 184 = .ok (.if_icmp .ge 33, 3) := by decide +kernel
theorem dX12_next_187 : decode cX12_next 187 = .ok (.aload_n 0, 1) := by decide +kernel
theorem dX12_next_188 : decode cX12_next 188 = .ok (.getfield 56, 3) := by decide +kernel
theorem dX12_next_191 : decode cX12_next 191 = .ok (.iload 5, 2) := by decide +kernel
theorem dX12_next_193 : decode cX12_next 193 = .ok (.iload 5, 2) := by decide +kernel
theorem dX12_next_195 : decode cX12_next 195 = .ok (.iload_n 3, 1) := by decide +kernel
theorem dX12_next_196 : decode cX12_next 196 = .ok (.if_icmp .ne 7, 3) := by decide +kernel
theorem dX12_next_199 : decode cX12_next 199 = .ok (.iconst 0, 1) := by decide +kernel
theorem dX12_next_200 : decode cX12_next 200 = .ok (.goto 10, 3) := by decide +kernel
theorem dX12_next_203 : decode cX12_next 203 = .ok (.aload_n 0, 1) := by decide +kernel
theorem dX12_next_204 : decode cX12_next 204 = .ok (.getfield 65, 3) := by decide +kernel
theorem dX12_next_207 : decode cX12_next 207 = .ok (.iload 5, 2) := by decide +kernel
theorem dX12_next_209 : decode cX12_next 209 = .ok (.iaload, 1) := by decide +kernel
theorem dX12_next_210 : decode cX12_next 210 = .ok (.iastore, 1) := by decide +kernel
theorem dX12_next_211 : decode cX12_next 211 = .ok (.iinc 5 1, 3) := by decide +kernel
theorem dX12_next_214 : decode cX12_next 214 = .ok (.goto (-34), 3) := by decide +kernel
theorem dX12_next_217 : decode cX12_next 217 = .ok (.iload_n 3, 1) := by decide +kernel
theorem dX12_next_218 : decode cX12_next 218 = .ok (.iload_n 1, 1) := by decide +kernel
theorem dX12_next_219 : decode cX12_next 219 = .ok (.if_icmp .ne 6, 3) := by decide +kernel
theorem dX12_next_222 : decode cX12_next 222 = .ok (.iload 4, 2) := by decide +kernel
theorem dX12_next_224 : decode cX12_next 224 = .ok (.ireturn, 1) := by decide +kernel
theorem dX12_next_225 : decode cX12_next 225 = .ok (.iinc 3 1, 3) := by decide +kernel
theorem dX12_next_228 : decode cX12_next 228 = .ok (.goto (-189), 3) := by decide +kernel
theorem dX12_next_231 : decode cX12_next 231 = .ok (.iconst (-1), 1) := by decide +kernel
theorem dX12_next_232 : decode cX12_next 232 = .ok (.ireturn, 1) := by decide +kernel
def fX12_next_b217 (N : Nat) (c39 : Int32 → Int32 → Int32 → qMem → Option (Int32 × qMem)) (v1 : Int32) (v2 : Int32) (v3 : Int32) (v4 : Int32) (σ : qMem) : Option (Int32 × qMem) :=
  (if v3 = v1 then (some (v4, σ)) else (c39 v1 v2 (v3 + 1) σ))
set_option maxRecDepth 20000 in
set_option maxHeartbeats 4000000 in
theorem aX12_next_b217 (N : Nat) (c39 : Int32 → Int32 → Int32 → qMem → Option (Int32 × qMem)) (hc39 : ∀ (v1 : Int32) (v2 : Int32) (v3 : Int32) (σ : qMem), qAt wM mX12_next (ρi) 39 [(0, .ref 0), (1, .int v1), (2, .int v2), (3, .int v3)] [] σ (c39 v1 v2 v3 σ)) (v1 : Int32) (v2 : Int32) (v3 : Int32) (v4 : Int32) (σ : qMem) : qAt wM mX12_next (ρi) 217 [(0, .ref 0), (1, .int v1), (2, .int v2), (3, .int v3), (4, .int v4)] [] σ (fX12_next_b217 N c39 v1 v2 v3 v4 σ) := by
  unfold fX12_next_b217
  refine q_iload_n (i := 3) (x := v3) dX12_next_217 rfl 3 rfl ?_
  refine q_iload_n (i := 1) (x := v1) dX12_next_218 rfl 1 rfl ?_
  refine q_icmp_ne (tgt := 225) dX12_next_219 (by decide) ?_ ?_
  · refine q_iinc (i := 3) (x := v3) (v := (v3 + 1)) (L' := [(3, .int (v3 + 1)), (0, .ref 0), (1, .int v1), (2, .int v2), (4, .int v4)]) dX12_next_225 3 rfl (q_cst v3 (by decide)) (Nat.le_of_ble_eq_true rfl) rfl ?_
    refine q_goto (tgt := 39) dX12_next_228 (by decide) ?_
    exact q_sub [1, 2, 3, 0] rfl (hc39 v1 v2 (v3 + 1) σ)
  refine q_iload (i := 4) (x := v4) dX12_next_222 4 rfl ?_
  exact q_ireti (y := (v4, σ)) dX12_next_224 rfl rfl

def fX12_next_b210 (N : Nat) (c39 : Int32 → Int32 → Int32 → qMem → Option (Int32 × qMem)) (c180 : Int32 → Int32 → Int32 → Int32 → Int32 → qMem → Option (Int32 × qMem)) (v1 : Int32) (v2 : Int32) (v3 : Int32) (v4 : Int32) (v5 : Int32) (u1 : Int32) (u2 : Int32) (σ : qMem) : Option (Int32 × qMem) :=
  (if ck u1 24 = true then (nmM (si σ 10 u1.toNatClampNeg u2) fun s9 => (c180 v1 v2 v3 v4 (v5 + 1) s9)) else none)
set_option maxRecDepth 20000 in
set_option maxHeartbeats 4000000 in
theorem aX12_next_b210 (N : Nat) (c39 : Int32 → Int32 → Int32 → qMem → Option (Int32 × qMem)) (c180 : Int32 → Int32 → Int32 → Int32 → Int32 → qMem → Option (Int32 × qMem)) (hc39 : ∀ (v1 : Int32) (v2 : Int32) (v3 : Int32) (σ : qMem), qAt wM mX12_next (ρi) 39 [(0, .ref 0), (1, .int v1), (2, .int v2), (3, .int v3)] [] σ (c39 v1 v2 v3 σ)) (hc180 : ∀ (v1 : Int32) (v2 : Int32) (v3 : Int32) (v4 : Int32) (v5 : Int32) (σ : qMem), qAt wM mX12_next (ρi) 180 [(0, .ref 0), (1, .int v1), (2, .int v2), (3, .int v3), (4, .int v4), (5, .int v5)] [] σ (c180 v1 v2 v3 v4 v5 σ)) (v1 : Int32) (v2 : Int32) (v3 : Int32) (v4 : Int32) (v5 : Int32) (u1 : Int32) (u2 : Int32) (σ : qMem) : qAt wM mX12_next (ρi) 210 [(0, .ref 0), (1, .int v1), (2, .int v2), (3, .int v3), (4, .int v4), (5, .int v5)] [.int u2, .int u1, .ref 10] σ (fX12_next_b210 N c39 c180 v1 v2 v3 v4 v5 u1 u2 σ) := by
  unfold fX12_next_b210
  refine q_iast dX12_next_210 zM_10 ?_
  refine q_nmM (fun s9 => ?_)
  refine q_iinc (i := 5) (x := v5) (v := (v5 + 1)) (L' := [(5, .int (v5 + 1)), (0, .ref 0), (1, .int v1), (2, .int v2), (3, .int v3), (4, .int v4)]) dX12_next_211 5 rfl (q_cst v5 (by decide)) (Nat.le_of_ble_eq_true rfl) rfl ?_
  refine q_goto (tgt := 180) dX12_next_214 (by decide) ?_
  exact q_sub [1, 2, 3, 4, 5, 0] rfl (hc180 v1 v2 v3 v4 (v5 + 1) s9)

def fX12_next_s180 (N : Nat) (c39 : Int32 → Int32 → Int32 → qMem → Option (Int32 × qMem)) (c180 : Int32 → Int32 → Int32 → Int32 → Int32 → qMem → Option (Int32 × qMem)) (v1 : Int32) (v2 : Int32) (v3 : Int32) (v4 : Int32) (v5 : Int32) (σ : qMem) : Option (Int32 × qMem) :=
  (if 24 ≤ v5 then (fX12_next_b217 N c39 v1 v2 v3 v4 σ) else (if v5 = v3 then (fX12_next_b210 N c39 c180 v1 v2 v3 v4 v5 v5 0 σ) else (if ck v5 24 = true then (fX12_next_b210 N c39 c180 v1 v2 v3 v4 v5 v5 (gi σ 13 v5.toNatClampNeg) σ) else none)))
set_option maxRecDepth 20000 in
set_option maxHeartbeats 4000000 in
theorem aX12_next_s180 (N : Nat) (c39 : Int32 → Int32 → Int32 → qMem → Option (Int32 × qMem)) (hc39 : ∀ (v1 : Int32) (v2 : Int32) (v3 : Int32) (σ : qMem), qAt wM mX12_next (ρi) 39 [(0, .ref 0), (1, .int v1), (2, .int v2), (3, .int v3)] [] σ (c39 v1 v2 v3 σ)) (c180 : Int32 → Int32 → Int32 → Int32 → Int32 → qMem → Option (Int32 × qMem)) (hc180 : ∀ (v1 : Int32) (v2 : Int32) (v3 : Int32) (v4 : Int32) (v5 : Int32) (σ : qMem), qAt wM mX12_next (ρi) 180 [(0, .ref 0), (1, .int v1), (2, .int v2), (3, .int v3), (4, .int v4), (5, .int v5)] [] σ (c180 v1 v2 v3 v4 v5 σ)) (v1 : Int32) (v2 : Int32) (v3 : Int32) (v4 : Int32) (v5 : Int32) (σ : qMem) : qAt wM mX12_next (ρi) 180 [(0, .ref 0), (1, .int v1), (2, .int v2), (3, .int v3), (4, .int v4), (5, .int v5)] [] σ (fX12_next_s180 N c39 c180 v1 v2 v3 v4 v5 σ) := by
  unfold fX12_next_s180
  refine q_iload (i := 5) (x := v5) dX12_next_180 5 rfl ?_
  refine q_bipush (v := 24) dX12_next_182 (by decide) ?_
  refine q_icmp_ge (tgt := 217) dX12_next_184 (by decide) ?_ ?_
  · exact q_sub [0, 1, 2, 3, 4] rfl (aX12_next_b217 N c39 hc39 v1 v2 v3 v4 σ)
  refine q_aload_n (i := 0) (x := 0) dX12_next_187 rfl 0 rfl ?_
  refine q_getr (t := 10) dX12_next_188 foX12_56 zM_0 rfl ?_
  refine q_iload (i := 5) (x := v5) dX12_next_191 5 rfl ?_
  refine q_iload (i := 5) (x := v5) dX12_next_193 5 rfl ?_
  refine q_iload_n (i := 3) (x := v3) dX12_next_195 rfl 3 rfl ?_
  refine q_icmp_ne (tgt := 203) dX12_next_196 (by decide) ?_ ?_
  · refine q_aload_n (i := 0) (x := 0) dX12_next_203 rfl 0 rfl ?_
    refine q_getr (t := 13) dX12_next_204 foX12_65 zM_0 rfl ?_
    refine q_iload (i := 5) (x := v5) dX12_next_207 5 rfl ?_
    refine q_iald dX12_next_209 zM_13 ?_
    exact q_sub [0, 1, 2, 3, 4, 5] rfl (aX12_next_b210 N c39 c180 hc39 hc180 v1 v2 v3 v4 v5 v5 (gi σ 13 v5.toNatClampNeg) σ)
  refine q_iconst (v := 0) dX12_next_199 (by decide) ?_
  refine q_goto (tgt := 210) dX12_next_200 (by decide) ?_
  exact q_sub [0, 1, 2, 3, 4, 5] rfl (aX12_next_b210 N c39 c180 hc39 hc180 v1 v2 v3 v4 v5 v5 0 σ)
def fX12_next_l180 (N : Nat) (c39 : Int32 → Int32 → Int32 → qMem → Option (Int32 × qMem)) : Nat → Int32 → Int32 → Int32 → Int32 → Int32 → qMem → Option (Int32 × qMem)
  | 0 => fun _ _ _ _ _ _ => none
  | n + 1 => fun v1 v2 v3 v4 v5 σ => fX12_next_s180 N c39 (fX12_next_l180 N c39 n) v1 v2 v3 v4 v5 σ
theorem aX12_next_l180 (N : Nat) (c39 : Int32 → Int32 → Int32 → qMem → Option (Int32 × qMem)) (hc39 : ∀ (v1 : Int32) (v2 : Int32) (v3 : Int32) (σ : qMem), qAt wM mX12_next (ρi) 39 [(0, .ref 0), (1, .int v1), (2, .int v2), (3, .int v3)] [] σ (c39 v1 v2 v3 σ)) : ∀ (n : Nat) (v1 : Int32) (v2 : Int32) (v3 : Int32) (v4 : Int32) (v5 : Int32) (σ : qMem), qAt wM mX12_next (ρi) 180 [(0, .ref 0), (1, .int v1), (2, .int v2), (3, .int v3), (4, .int v4), (5, .int v5)] [] σ (fX12_next_l180 N c39 n v1 v2 v3 v4 v5 σ) := by
  intro n
  induction n with
  | zero => intro v1 v2 v3 v4 v5 σ; exact q_none
  | succ n ih => intro v1 v2 v3 v4 v5 σ; exact aX12_next_s180 N c39 hc39 (fX12_next_l180 N c39 n) ih v1 v2 v3 v4 v5 σ

def fX12_next_b171 (N : Nat) (c39 : Int32 → Int32 → Int32 → qMem → Option (Int32 × qMem)) (v1 : Int32) (v2 : Int32) (v3 : Int32) (v4 : Int32) (σ : qMem) : Option (Int32 × qMem) :=
  (if v4 = (-1) then (fX12_next_l180 N c39 N v1 v2 v3 v4 0 σ) else (fX12_next_b217 N c39 v1 v2 v3 v4 σ))
set_option maxRecDepth 20000 in
set_option maxHeartbeats 4000000 in
theorem aX12_next_b171 (N : Nat) (c39 : Int32 → Int32 → Int32 → qMem → Option (Int32 × qMem)) (hc39 : ∀ (v1 : Int32) (v2 : Int32) (v3 : Int32) (σ : qMem), qAt wM mX12_next (ρi) 39 [(0, .ref 0), (1, .int v1), (2, .int v2), (3, .int v3)] [] σ (c39 v1 v2 v3 σ)) (v1 : Int32) (v2 : Int32) (v3 : Int32) (v4 : Int32) (σ : qMem) : qAt wM mX12_next (ρi) 171 [(0, .ref 0), (1, .int v1), (2, .int v2), (3, .int v3), (4, .int v4)] [] σ (fX12_next_b171 N c39 v1 v2 v3 v4 σ) := by
  unfold fX12_next_b171
  refine q_iload (i := 4) (x := v4) dX12_next_171 4 rfl ?_
  refine q_iconst (v := (-1)) dX12_next_173 (by decide) ?_
  refine q_icmp_ne (tgt := 217) dX12_next_174 (by decide) ?_ ?_
  · exact q_sub [0, 1, 2, 3, 4] rfl (aX12_next_b217 N c39 hc39 v1 v2 v3 v4 σ)
  refine q_iconst (v := 0) dX12_next_177 (by decide) ?_
  refine q_istore (i := 5) (L' := [(5, .int 0), (0, .ref 0), (1, .int v1), (2, .int v2), (3, .int v3), (4, .int v4)]) dX12_next_178 (Nat.le_of_ble_eq_true rfl) rfl ?_
  exact q_sub [1, 2, 3, 4, 5, 0] rfl (aX12_next_l180 N c39 hc39 N v1 v2 v3 v4 0 σ)

def fX12_next_b165 (N : Nat) (c39 : Int32 → Int32 → Int32 → qMem → Option (Int32 × qMem)) (c80 : Int32 → Int32 → Int32 → Int32 → Int32 → qMem → Option (Int32 × qMem)) (v1 : Int32) (v2 : Int32) (v3 : Int32) (v4 : Int32) (v5 : Int32) (σ : qMem) : Option (Int32 × qMem) :=
  (c80 v1 v2 v3 v4 (v5 + 1) σ)
set_option maxRecDepth 20000 in
set_option maxHeartbeats 4000000 in
theorem aX12_next_b165 (N : Nat) (c39 : Int32 → Int32 → Int32 → qMem → Option (Int32 × qMem)) (c80 : Int32 → Int32 → Int32 → Int32 → Int32 → qMem → Option (Int32 × qMem)) (hc39 : ∀ (v1 : Int32) (v2 : Int32) (v3 : Int32) (σ : qMem), qAt wM mX12_next (ρi) 39 [(0, .ref 0), (1, .int v1), (2, .int v2), (3, .int v3)] [] σ (c39 v1 v2 v3 σ)) (hc80 : ∀ (v1 : Int32) (v2 : Int32) (v3 : Int32) (v4 : Int32) (v5 : Int32) (σ : qMem), qAt wM mX12_next (ρi) 80 [(0, .ref 0), (1, .int v1), (2, .int v2), (3, .int v3), (4, .int v4), (5, .int v5)] [] σ (c80 v1 v2 v3 v4 v5 σ)) (v1 : Int32) (v2 : Int32) (v3 : Int32) (v4 : Int32) (v5 : Int32) (σ : qMem) : qAt wM mX12_next (ρi) 165 [(0, .ref 0), (1, .int v1), (2, .int v2), (3, .int v3), (4, .int v4), (5, .int v5)] [] σ (fX12_next_b165 N c39 c80 v1 v2 v3 v4 v5 σ) := by
  unfold fX12_next_b165
  refine q_iinc (i := 5) (x := v5) (v := (v5 + 1)) (L' := [(5, .int (v5 + 1)), (0, .ref 0), (1, .int v1), (2, .int v2), (3, .int v3), (4, .int v4)]) dX12_next_165 5 rfl (q_cst v5 (by decide)) (Nat.le_of_ble_eq_true rfl) rfl ?_
  refine q_goto (tgt := 80) dX12_next_168 (by decide) ?_
  exact q_sub [1, 2, 3, 4, 5, 0] rfl (hc80 v1 v2 v3 v4 (v5 + 1) σ)

def fX12_next_s119 (N : Nat) (c39 : Int32 → Int32 → Int32 → qMem → Option (Int32 × qMem)) (c80 : Int32 → Int32 → Int32 → Int32 → Int32 → qMem → Option (Int32 × qMem)) (c119 : Int32 → Int32 → Int32 → Int32 → Int32 → Int32 → qMem → Option (Int32 × qMem)) (v1 : Int32) (v2 : Int32) (v3 : Int32) (v4 : Int32) (v5 : Int32) (v6 : Int32) (σ : qMem) : Option (Int32 × qMem) :=
  (if 24 ≤ v6 then ((fX12_fixes N v3 v5 σ).bind fun y6 => ((fX12_joins N y6).bind fun y7 => (if y7.1 = v2 then (fX12_next_b165 N c39 c80 v1 v2 v3 v5 v5 y7.2) else (fX12_next_b165 N c39 c80 v1 v2 v3 v4 v5 y7.2)))) else (if ck v6 24 = true then (if ck v6 24 = true then (nmM (si σ 10 v6.toNatClampNeg (gi σ 13 v6.toNatClampNeg)) fun s8 => (c119 v1 v2 v3 v4 v5 (v6 + 1) s8)) else none) else none))
set_option maxRecDepth 20000 in
set_option maxHeartbeats 4000000 in
theorem aX12_next_s119 (N : Nat) (c39 : Int32 → Int32 → Int32 → qMem → Option (Int32 × qMem)) (c80 : Int32 → Int32 → Int32 → Int32 → Int32 → qMem → Option (Int32 × qMem)) (hc39 : ∀ (v1 : Int32) (v2 : Int32) (v3 : Int32) (σ : qMem), qAt wM mX12_next (ρi) 39 [(0, .ref 0), (1, .int v1), (2, .int v2), (3, .int v3)] [] σ (c39 v1 v2 v3 σ)) (hc80 : ∀ (v1 : Int32) (v2 : Int32) (v3 : Int32) (v4 : Int32) (v5 : Int32) (σ : qMem), qAt wM mX12_next (ρi) 80 [(0, .ref 0), (1, .int v1), (2, .int v2), (3, .int v3), (4, .int v4), (5, .int v5)] [] σ (c80 v1 v2 v3 v4 v5 σ)) (c119 : Int32 → Int32 → Int32 → Int32 → Int32 → Int32 → qMem → Option (Int32 × qMem)) (hc119 : ∀ (v1 : Int32) (v2 : Int32) (v3 : Int32) (v4 : Int32) (v5 : Int32) (v6 : Int32) (σ : qMem), qAt wM mX12_next (ρi) 119 [(0, .ref 0), (1, .int v1), (2, .int v2), (3, .int v3), (4, .int v4), (5, .int v5), (6, .int v6)] [] σ (c119 v1 v2 v3 v4 v5 v6 σ)) (v1 : Int32) (v2 : Int32) (v3 : Int32) (v4 : Int32) (v5 : Int32) (v6 : Int32) (σ : qMem) : qAt wM mX12_next (ρi) 119 [(0, .ref 0), (1, .int v1), (2, .int v2), (3, .int v3), (4, .int v4), (5, .int v5), (6, .int v6)] [] σ (fX12_next_s119 N c39 c80 c119 v1 v2 v3 v4 v5 v6 σ) := by
  unfold fX12_next_s119
  refine q_iload (i := 6) (x := v6) dX12_next_119 6 rfl ?_
  refine q_bipush (v := 24) dX12_next_121 (by decide) ?_
  refine q_icmp_ge (tgt := 146) dX12_next_123 (by decide) ?_ ?_
  · refine q_aload_n (i := 0) (x := 0) dX12_next_146 rfl 0 rfl ?_
    refine q_iload_n (i := 3) (x := v3) dX12_next_147 rfl 3 rfl ?_
    refine q_iload (i := 5) (x := v5) dX12_next_148 5 rfl ?_
    refine q_cVv mX12_fixes [.int v3, .int v5] (st := []) dX12_next_150 (svX12_291) ⟨Nat.le_of_ble_eq_true rfl, Nat.le_of_ble_eq_true rfl⟩ zM_0 rfl rfl rfl (Nat.le_of_ble_eq_true rfl) (kX12_fixes N v3 v5 σ) (fun y6 => ?_)
    refine q_aload_n (i := 0) (x := 0) dX12_next_153 rfl 0 rfl ?_
    refine q_cVi mX12_joins [] (st := []) dX12_next_154 (svX12_287) ⟨Nat.le_of_ble_eq_true rfl, Nat.le_of_ble_eq_true rfl⟩ zM_0 rfl rfl rfl (Nat.le_of_ble_eq_true rfl) (kX12_joins N y6) (fun y7 => ?_)
    refine q_iload_n (i := 2) (x := v2) dX12_next_157 rfl 2 rfl ?_
    refine q_icmp_ne (tgt := 165) dX12_next_158 (by decide) ?_ ?_
    · exact q_sub [0, 1, 2, 3, 4, 5] rfl (aX12_next_b165 N c39 c80 hc39 hc80 v1 v2 v3 v4 v5 y7.2)
    refine q_iload (i := 5) (x := v5) dX12_next_161 5 rfl ?_
    refine q_istore (i := 4) (L' := [(4, .int v5), (0, .ref 0), (1, .int v1), (2, .int v2), (3, .int v3), (5, .int v5), (6, .int v6)]) dX12_next_163 (Nat.le_of_ble_eq_true rfl) rfl ?_
    exact q_sub [1, 2, 3, 4, 0, 5] rfl (aX12_next_b165 N c39 c80 hc39 hc80 v1 v2 v3 v5 v5 y7.2)
  refine q_aload_n (i := 0) (x := 0) dX12_next_126 rfl 0 rfl ?_
  refine q_getr (t := 10) dX12_next_127 foX12_56 zM_0 rfl ?_
  refine q_iload (i := 6) (x := v6) dX12_next_130 6 rfl ?_
  refine q_aload_n (i := 0) (x := 0) dX12_next_132 rfl 0 rfl ?_
  refine q_getr (t := 13) dX12_next_133 foX12_65 zM_0 rfl ?_
  refine q_iload (i := 6) (x := v6) dX12_next_136 6 rfl ?_
  refine q_iald dX12_next_138 zM_13 ?_
  refine q_iast dX12_next_139 zM_10 ?_
  refine q_nmM (fun s8 => ?_)
  refine q_iinc (i := 6) (x := v6) (v := (v6 + 1)) (L' := [(6, .int (v6 + 1)), (0, .ref 0), (1, .int v1), (2, .int v2), (3, .int v3), (4, .int v4), (5, .int v5)]) dX12_next_140 6 rfl (q_cst v6 (by decide)) (Nat.le_of_ble_eq_true rfl) rfl ?_
  refine q_goto (tgt := 119) dX12_next_143 (by decide) ?_
  exact q_sub [1, 2, 3, 4, 5, 6, 0] rfl (hc119 v1 v2 v3 v4 v5 (v6 + 1) s8)
def fX12_next_l119 (N : Nat) (c39 : Int32 → Int32 → Int32 → qMem → Option (Int32 × qMem)) (c80 : Int32 → Int32 → Int32 → Int32 → Int32 → qMem → Option (Int32 × qMem)) : Nat → Int32 → Int32 → Int32 → Int32 → Int32 → Int32 → qMem → Option (Int32 × qMem)
  | 0 => fun _ _ _ _ _ _ _ => none
  | n + 1 => fun v1 v2 v3 v4 v5 v6 σ => fX12_next_s119 N c39 c80 (fX12_next_l119 N c39 c80 n) v1 v2 v3 v4 v5 v6 σ
theorem aX12_next_l119 (N : Nat) (c39 : Int32 → Int32 → Int32 → qMem → Option (Int32 × qMem)) (c80 : Int32 → Int32 → Int32 → Int32 → Int32 → qMem → Option (Int32 × qMem)) (hc39 : ∀ (v1 : Int32) (v2 : Int32) (v3 : Int32) (σ : qMem), qAt wM mX12_next (ρi) 39 [(0, .ref 0), (1, .int v1), (2, .int v2), (3, .int v3)] [] σ (c39 v1 v2 v3 σ)) (hc80 : ∀ (v1 : Int32) (v2 : Int32) (v3 : Int32) (v4 : Int32) (v5 : Int32) (σ : qMem), qAt wM mX12_next (ρi) 80 [(0, .ref 0), (1, .int v1), (2, .int v2), (3, .int v3), (4, .int v4), (5, .int v5)] [] σ (c80 v1 v2 v3 v4 v5 σ)) : ∀ (n : Nat) (v1 : Int32) (v2 : Int32) (v3 : Int32) (v4 : Int32) (v5 : Int32) (v6 : Int32) (σ : qMem), qAt wM mX12_next (ρi) 119 [(0, .ref 0), (1, .int v1), (2, .int v2), (3, .int v3), (4, .int v4), (5, .int v5), (6, .int v6)] [] σ (fX12_next_l119 N c39 c80 n v1 v2 v3 v4 v5 v6 σ) := by
  intro n
  induction n with
  | zero => intro v1 v2 v3 v4 v5 v6 σ; exact q_none
  | succ n ih => intro v1 v2 v3 v4 v5 v6 σ; exact aX12_next_s119 N c39 c80 hc39 hc80 (fX12_next_l119 N c39 c80 n) ih v1 v2 v3 v4 v5 v6 σ

def fX12_next_s80 (N : Nat) (c39 : Int32 → Int32 → Int32 → qMem → Option (Int32 × qMem)) (c80 : Int32 → Int32 → Int32 → Int32 → Int32 → qMem → Option (Int32 × qMem)) (v1 : Int32) (v2 : Int32) (v3 : Int32) (v4 : Int32) (v5 : Int32) (σ : qMem) : Option (Int32 × qMem) :=
  (if ck 300 1112 = true then (if (gi σ 2 (300 : Int32).toNatClampNeg) ≤ v5 then (fX12_next_b171 N c39 v1 v2 v3 v4 σ) else (if v4 = (-1) then (if ck v3 24 = true then (if (((gi σ 13 v3.toNatClampNeg) >>> (v5 &&& 31)) &&& 1) = 0 then (fX12_next_b165 N c39 c80 v1 v2 v3 v4 v5 σ) else (fX12_next_l119 N c39 c80 N v1 v2 v3 v4 v5 0 σ)) else none) else (fX12_next_b171 N c39 v1 v2 v3 v4 σ))) else none)
set_option maxRecDepth 20000 in
set_option maxHeartbeats 4000000 in
theorem aX12_next_s80 (N : Nat) (c39 : Int32 → Int32 → Int32 → qMem → Option (Int32 × qMem)) (hc39 : ∀ (v1 : Int32) (v2 : Int32) (v3 : Int32) (σ : qMem), qAt wM mX12_next (ρi) 39 [(0, .ref 0), (1, .int v1), (2, .int v2), (3, .int v3)] [] σ (c39 v1 v2 v3 σ)) (c80 : Int32 → Int32 → Int32 → Int32 → Int32 → qMem → Option (Int32 × qMem)) (hc80 : ∀ (v1 : Int32) (v2 : Int32) (v3 : Int32) (v4 : Int32) (v5 : Int32) (σ : qMem), qAt wM mX12_next (ρi) 80 [(0, .ref 0), (1, .int v1), (2, .int v2), (3, .int v3), (4, .int v4), (5, .int v5)] [] σ (c80 v1 v2 v3 v4 v5 σ)) (v1 : Int32) (v2 : Int32) (v3 : Int32) (v4 : Int32) (v5 : Int32) (σ : qMem) : qAt wM mX12_next (ρi) 80 [(0, .ref 0), (1, .int v1), (2, .int v2), (3, .int v3), (4, .int v4), (5, .int v5)] [] σ (fX12_next_s80 N c39 c80 v1 v2 v3 v4 v5 σ) := by
  unfold fX12_next_s80
  refine q_iload (i := 5) (x := v5) dX12_next_80 5 rfl ?_
  refine q_aload_n (i := 0) (x := 0) dX12_next_82 rfl 0 rfl ?_
  refine q_getr (t := 2) dX12_next_83 foX12_20 zM_0 rfl ?_
  refine q_sipush (v := 300) dX12_next_86 (by decide) ?_
  refine q_iald dX12_next_89 zM_2 ?_
  refine q_icmp_ge (tgt := 171) dX12_next_90 (by decide) ?_ ?_
  · exact q_sub [0, 1, 2, 3, 4] rfl (aX12_next_b171 N c39 hc39 v1 v2 v3 v4 σ)
  refine q_iload (i := 4) (x := v4) dX12_next_93 4 rfl ?_
  refine q_iconst (v := (-1)) dX12_next_95 (by decide) ?_
  refine q_icmp_ne (tgt := 171) dX12_next_96 (by decide) ?_ ?_
  · exact q_sub [0, 1, 2, 3, 4] rfl (aX12_next_b171 N c39 hc39 v1 v2 v3 v4 σ)
  refine q_aload_n (i := 0) (x := 0) dX12_next_99 rfl 0 rfl ?_
  refine q_getr (t := 13) dX12_next_100 foX12_65 zM_0 rfl ?_
  refine q_iload_n (i := 3) (x := v3) dX12_next_103 rfl 3 rfl ?_
  refine q_iald dX12_next_104 zM_13 ?_
  refine q_iload (i := 5) (x := v5) dX12_next_105 5 rfl ?_
  refine q_ishr dX12_next_107 ?_
  refine q_iconst (v := 1) dX12_next_108 (by decide) ?_
  refine q_iand dX12_next_109 ?_
  refine q_if_ne (tgt := 116) dX12_next_110 (by decide) ?_ ?_
  · refine q_iconst (v := 0) dX12_next_116 (by decide) ?_
    refine q_istore (i := 6) (L' := [(6, .int 0), (0, .ref 0), (1, .int v1), (2, .int v2), (3, .int v3), (4, .int v4), (5, .int v5)]) dX12_next_117 (Nat.le_of_ble_eq_true rfl) rfl ?_
    exact q_sub [1, 2, 3, 4, 5, 6, 0] rfl (aX12_next_l119 N c39 c80 hc39 hc80 N v1 v2 v3 v4 v5 0 σ)
  refine q_goto (tgt := 165) dX12_next_113 (by decide) ?_
  exact q_sub [0, 1, 2, 3, 4, 5] rfl (aX12_next_b165 N c39 c80 hc39 hc80 v1 v2 v3 v4 v5 σ)
def fX12_next_l80 (N : Nat) (c39 : Int32 → Int32 → Int32 → qMem → Option (Int32 × qMem)) : Nat → Int32 → Int32 → Int32 → Int32 → Int32 → qMem → Option (Int32 × qMem)
  | 0 => fun _ _ _ _ _ _ => none
  | n + 1 => fun v1 v2 v3 v4 v5 σ => fX12_next_s80 N c39 (fX12_next_l80 N c39 n) v1 v2 v3 v4 v5 σ
theorem aX12_next_l80 (N : Nat) (c39 : Int32 → Int32 → Int32 → qMem → Option (Int32 × qMem)) (hc39 : ∀ (v1 : Int32) (v2 : Int32) (v3 : Int32) (σ : qMem), qAt wM mX12_next (ρi) 39 [(0, .ref 0), (1, .int v1), (2, .int v2), (3, .int v3)] [] σ (c39 v1 v2 v3 σ)) : ∀ (n : Nat) (v1 : Int32) (v2 : Int32) (v3 : Int32) (v4 : Int32) (v5 : Int32) (σ : qMem), qAt wM mX12_next (ρi) 80 [(0, .ref 0), (1, .int v1), (2, .int v2), (3, .int v3), (4, .int v4), (5, .int v5)] [] σ (fX12_next_l80 N c39 n v1 v2 v3 v4 v5 σ) := by
  intro n
  induction n with
  | zero => intro v1 v2 v3 v4 v5 σ; exact q_none
  | succ n ih => intro v1 v2 v3 v4 v5 σ; exact aX12_next_s80 N c39 hc39 (fX12_next_l80 N c39 n) ih v1 v2 v3 v4 v5 σ

def fX12_next_s50 (N : Nat) (c39 : Int32 → Int32 → Int32 → qMem → Option (Int32 × qMem)) (c50 : Int32 → Int32 → Int32 → Int32 → Int32 → qMem → Option (Int32 × qMem)) (v1 : Int32) (v2 : Int32) (v3 : Int32) (v4 : Int32) (v5 : Int32) (σ : qMem) : Option (Int32 × qMem) :=
  (if 24 ≤ v5 then (fX12_next_l80 N c39 N v1 v2 v3 v4 0 σ) else (if ck v5 24 = true then (if ck v5 24 = true then (nmM (si σ 13 v5.toNatClampNeg (gi σ 10 v5.toNatClampNeg)) fun s5 => (c50 v1 v2 v3 v4 (v5 + 1) s5)) else none) else none))
set_option maxRecDepth 20000 in
set_option maxHeartbeats 4000000 in
theorem aX12_next_s50 (N : Nat) (c39 : Int32 → Int32 → Int32 → qMem → Option (Int32 × qMem)) (hc39 : ∀ (v1 : Int32) (v2 : Int32) (v3 : Int32) (σ : qMem), qAt wM mX12_next (ρi) 39 [(0, .ref 0), (1, .int v1), (2, .int v2), (3, .int v3)] [] σ (c39 v1 v2 v3 σ)) (c50 : Int32 → Int32 → Int32 → Int32 → Int32 → qMem → Option (Int32 × qMem)) (hc50 : ∀ (v1 : Int32) (v2 : Int32) (v3 : Int32) (v4 : Int32) (v5 : Int32) (σ : qMem), qAt wM mX12_next (ρi) 50 [(0, .ref 0), (1, .int v1), (2, .int v2), (3, .int v3), (4, .int v4), (5, .int v5)] [] σ (c50 v1 v2 v3 v4 v5 σ)) (v1 : Int32) (v2 : Int32) (v3 : Int32) (v4 : Int32) (v5 : Int32) (σ : qMem) : qAt wM mX12_next (ρi) 50 [(0, .ref 0), (1, .int v1), (2, .int v2), (3, .int v3), (4, .int v4), (5, .int v5)] [] σ (fX12_next_s50 N c39 c50 v1 v2 v3 v4 v5 σ) := by
  unfold fX12_next_s50
  refine q_iload (i := 5) (x := v5) dX12_next_50 5 rfl ?_
  refine q_bipush (v := 24) dX12_next_52 (by decide) ?_
  refine q_icmp_ge (tgt := 77) dX12_next_54 (by decide) ?_ ?_
  · refine q_iconst (v := 0) dX12_next_77 (by decide) ?_
    refine q_istore (i := 5) (L' := [(5, .int 0), (0, .ref 0), (1, .int v1), (2, .int v2), (3, .int v3), (4, .int v4)]) dX12_next_78 (Nat.le_of_ble_eq_true rfl) rfl ?_
    exact q_sub [1, 2, 3, 4, 5, 0] rfl (aX12_next_l80 N c39 hc39 N v1 v2 v3 v4 0 σ)
  refine q_aload_n (i := 0) (x := 0) dX12_next_57 rfl 0 rfl ?_
  refine q_getr (t := 13) dX12_next_58 foX12_65 zM_0 rfl ?_
  refine q_iload (i := 5) (x := v5) dX12_next_61 5 rfl ?_
  refine q_aload_n (i := 0) (x := 0) dX12_next_63 rfl 0 rfl ?_
  refine q_getr (t := 10) dX12_next_64 foX12_56 zM_0 rfl ?_
  refine q_iload (i := 5) (x := v5) dX12_next_67 5 rfl ?_
  refine q_iald dX12_next_69 zM_10 ?_
  refine q_iast dX12_next_70 zM_13 ?_
  refine q_nmM (fun s5 => ?_)
  refine q_iinc (i := 5) (x := v5) (v := (v5 + 1)) (L' := [(5, .int (v5 + 1)), (0, .ref 0), (1, .int v1), (2, .int v2), (3, .int v3), (4, .int v4)]) dX12_next_71 5 rfl (q_cst v5 (by decide)) (Nat.le_of_ble_eq_true rfl) rfl ?_
  refine q_goto (tgt := 50) dX12_next_74 (by decide) ?_
  exact q_sub [1, 2, 3, 4, 5, 0] rfl (hc50 v1 v2 v3 v4 (v5 + 1) s5)
def fX12_next_l50 (N : Nat) (c39 : Int32 → Int32 → Int32 → qMem → Option (Int32 × qMem)) : Nat → Int32 → Int32 → Int32 → Int32 → Int32 → qMem → Option (Int32 × qMem)
  | 0 => fun _ _ _ _ _ _ => none
  | n + 1 => fun v1 v2 v3 v4 v5 σ => fX12_next_s50 N c39 (fX12_next_l50 N c39 n) v1 v2 v3 v4 v5 σ
theorem aX12_next_l50 (N : Nat) (c39 : Int32 → Int32 → Int32 → qMem → Option (Int32 × qMem)) (hc39 : ∀ (v1 : Int32) (v2 : Int32) (v3 : Int32) (σ : qMem), qAt wM mX12_next (ρi) 39 [(0, .ref 0), (1, .int v1), (2, .int v2), (3, .int v3)] [] σ (c39 v1 v2 v3 σ)) : ∀ (n : Nat) (v1 : Int32) (v2 : Int32) (v3 : Int32) (v4 : Int32) (v5 : Int32) (σ : qMem), qAt wM mX12_next (ρi) 50 [(0, .ref 0), (1, .int v1), (2, .int v2), (3, .int v3), (4, .int v4), (5, .int v5)] [] σ (fX12_next_l50 N c39 n v1 v2 v3 v4 v5 σ) := by
  intro n
  induction n with
  | zero => intro v1 v2 v3 v4 v5 σ; exact q_none
  | succ n ih => intro v1 v2 v3 v4 v5 σ; exact aX12_next_s50 N c39 hc39 (fX12_next_l50 N c39 n) ih v1 v2 v3 v4 v5 σ

def fX12_next_s39 (N : Nat) (c39 : Int32 → Int32 → Int32 → qMem → Option (Int32 × qMem)) (v1 : Int32) (v2 : Int32) (v3 : Int32) (σ : qMem) : Option (Int32 × qMem) :=
  (if v1 < v3 then (some ((-1), σ)) else (fX12_next_l50 N c39 N v1 v2 v3 (-1) 0 σ))
set_option maxRecDepth 20000 in
set_option maxHeartbeats 4000000 in
theorem aX12_next_s39 (N : Nat) (c39 : Int32 → Int32 → Int32 → qMem → Option (Int32 × qMem)) (hc39 : ∀ (v1 : Int32) (v2 : Int32) (v3 : Int32) (σ : qMem), qAt wM mX12_next (ρi) 39 [(0, .ref 0), (1, .int v1), (2, .int v2), (3, .int v3)] [] σ (c39 v1 v2 v3 σ)) (v1 : Int32) (v2 : Int32) (v3 : Int32) (σ : qMem) : qAt wM mX12_next (ρi) 39 [(0, .ref 0), (1, .int v1), (2, .int v2), (3, .int v3)] [] σ (fX12_next_s39 N c39 v1 v2 v3 σ) := by
  unfold fX12_next_s39
  refine q_iload_n (i := 3) (x := v3) dX12_next_39 rfl 3 rfl ?_
  refine q_iload_n (i := 1) (x := v1) dX12_next_40 rfl 1 rfl ?_
  refine q_icmp_gt (tgt := 231) dX12_next_41 (by decide) ?_ ?_
  · refine q_iconst (v := (-1)) dX12_next_231 (by decide) ?_
    exact q_ireti (y := ((-1), σ)) dX12_next_232 rfl rfl
  refine q_iconst (v := (-1)) dX12_next_44 (by decide) ?_
  refine q_istore (i := 4) (L' := [(4, .int (-1)), (0, .ref 0), (1, .int v1), (2, .int v2), (3, .int v3)]) dX12_next_45 (Nat.le_of_ble_eq_true rfl) rfl ?_
  refine q_iconst (v := 0) dX12_next_47 (by decide) ?_
  refine q_istore (i := 5) (L' := [(5, .int 0), (4, .int (-1)), (0, .ref 0), (1, .int v1), (2, .int v2), (3, .int v3)]) dX12_next_48 (Nat.le_of_ble_eq_true rfl) rfl ?_
  exact q_sub [2, 3, 4, 5, 1, 0] rfl (aX12_next_l50 N c39 hc39 N v1 v2 v3 (-1) 0 σ)
def fX12_next_l39 (N : Nat) : Nat → Int32 → Int32 → Int32 → qMem → Option (Int32 × qMem)
  | 0 => fun _ _ _ _ => none
  | n + 1 => fun v1 v2 v3 σ => fX12_next_s39 N (fX12_next_l39 N n) v1 v2 v3 σ
theorem aX12_next_l39 (N : Nat) : ∀ (n : Nat) (v1 : Int32) (v2 : Int32) (v3 : Int32) (σ : qMem), qAt wM mX12_next (ρi) 39 [(0, .ref 0), (1, .int v1), (2, .int v2), (3, .int v3)] [] σ (fX12_next_l39 N n v1 v2 v3 σ) := by
  intro n
  induction n with
  | zero => intro v1 v2 v3 σ; exact q_none
  | succ n ih => intro v1 v2 v3 σ; exact aX12_next_s39 N (fX12_next_l39 N n) ih v1 v2 v3 σ

def fX12_next (N : Nat) (p1 : Int32) (σ : qMem) : Option (Int32 × qMem) :=
  (if ck 300 1112 = true then ((fX12_in p1 0 ((gi σ 2 (300 : Int32).toNatClampNeg) - 1)).bind fun y1 => (if y1 = 0 then (some ((-1), σ)) else ((fX12_heardOf p1 0 σ).bind fun y2 => ((fX12_mays N y2 (-1) (-1) σ).bind fun y3 => ((fX12_joins N y3).bind fun y4 => (fX12_next_l39 N N p1 y4.1 0 y4.2)))))) else none)
set_option maxRecDepth 20000 in
set_option maxHeartbeats 4000000 in
theorem aX12_next  (N : Nat) (p1 : Int32)  (σ : qMem) : qAt wM mX12_next (ρi) 0 [(0, .ref 0), (1, .int p1)] [] σ (fX12_next N p1 σ) := by
  unfold fX12_next
  refine q_iload_n (i := 1) (x := p1) dX12_next_0 rfl 1 rfl ?_
  refine q_iconst (v := 0) dX12_next_1 (by decide) ?_
  refine q_aload_n (i := 0) (x := 0) dX12_next_2 rfl 0 rfl ?_
  refine q_getr (t := 2) dX12_next_3 foX12_20 zM_0 rfl ?_
  refine q_sipush (v := 300) dX12_next_6 (by decide) ?_
  refine q_iald dX12_next_9 zM_2 ?_
  refine q_iconst (v := 1) dX12_next_10 (by decide) ?_
  refine q_isub dX12_next_11 ?_
  refine q_cSp mX12_in [.int p1, .int 0, .int ((gi σ 2 (300 : Int32).toNatClampNeg) - 1)] (st := []) dX12_next_12 (ssX12_110) ⟨Nat.le_of_ble_eq_true rfl, Nat.le_of_ble_eq_true rfl⟩ rfl rfl (Nat.le_of_ble_eq_true rfl) (kX12_in p1 0 ((gi σ 2 (300 : Int32).toNatClampNeg) - 1) σ) (fun y1 => ?_)
  refine q_if_ne (tgt := 20) dX12_next_15 (by decide) ?_ ?_
  · refine q_aload_n (i := 0) (x := 0) dX12_next_20 rfl 0 rfl ?_
    refine q_aload_n (i := 0) (x := 0) dX12_next_21 rfl 0 rfl ?_
    refine q_iload_n (i := 1) (x := p1) dX12_next_22 rfl 1 rfl ?_
    refine q_iconst (v := 0) dX12_next_23 (by decide) ?_
    refine q_cVp mX12_heardOf [.int p1, .int 0] (st := [.ref 0]) dX12_next_24 (svX12_173) ⟨Nat.le_of_ble_eq_true rfl, Nat.le_of_ble_eq_true rfl⟩ zM_0 rfl rfl rfl (Nat.le_of_ble_eq_true rfl) (kX12_heardOf p1 0 σ) (fun y2 => ?_)
    refine q_iconst (v := (-1)) dX12_next_27 (by decide) ?_
    refine q_iconst (v := (-1)) dX12_next_28 (by decide) ?_
    refine q_cVv mX12_mays [.int y2, .int (-1), .int (-1)] (st := []) dX12_next_29 (svX12_284) ⟨Nat.le_of_ble_eq_true rfl, Nat.le_of_ble_eq_true rfl⟩ zM_0 rfl rfl rfl (Nat.le_of_ble_eq_true rfl) (kX12_mays N y2 (-1) (-1) σ) (fun y3 => ?_)
    refine q_aload_n (i := 0) (x := 0) dX12_next_32 rfl 0 rfl ?_
    refine q_cVi mX12_joins [] (st := []) dX12_next_33 (svX12_287) ⟨Nat.le_of_ble_eq_true rfl, Nat.le_of_ble_eq_true rfl⟩ zM_0 rfl rfl rfl (Nat.le_of_ble_eq_true rfl) (kX12_joins N y3) (fun y4 => ?_)
    refine q_istore_n (i := 2) (L' := [(2, .int y4.1), (0, .ref 0), (1, .int p1)]) dX12_next_36 rfl (Nat.le_of_ble_eq_true rfl) rfl ?_
    refine q_iconst (v := 0) dX12_next_37 (by decide) ?_
    refine q_istore_n (i := 3) (L' := [(3, .int 0), (2, .int y4.1), (0, .ref 0), (1, .int p1)]) dX12_next_38 rfl (Nat.le_of_ble_eq_true rfl) rfl ?_
    exact q_sub [2, 3, 1, 0] rfl (aX12_next_l39 N N p1 y4.1 0 y4.2)
  refine q_iconst (v := (-1)) dX12_next_18 (by decide) ?_
  exact q_ireti (y := ((-1), σ)) dX12_next_19 rfl rfl
theorem kX12_next  (N : Nat) (p1 : Int32)  (σ : qMem) : qMc wM mX12_next (ρi) [.ref 0, .int p1] σ (fX12_next N p1 σ) := qMc_of (moX12_next) (Nat.le_of_ble_eq_true rfl) (aX12_next N p1  σ)

theorem dX12_sure_0 : decode cX12_sure 0 = .ok (.iload_n 1, 1) := by decide +kernel
theorem dX12_sure_1 : decode cX12_sure 1 = .ok (.iconst 0, 1) := by decide +kernel
theorem dX12_sure_2 : decode cX12_sure 2 = .ok (.aload_n 0, 1) := by decide +kernel
theorem dX12_sure_3 : decode cX12_sure 3 = .ok (.getfield 20, 3) := by decide +kernel
theorem dX12_sure_6 : decode cX12_sure 6 = .ok (.sipush 300, 3) := by decide +kernel
theorem dX12_sure_9 : decode cX12_sure 9 = .ok (.iaload, 1) := by decide +kernel
theorem dX12_sure_10 : decode cX12_sure 10 = .ok (.iconst 1, 1) := by decide +kernel
theorem dX12_sure_11 : decode cX12_sure 11 = .ok (.isub, 1) := by decide +kernel
theorem dX12_sure_12 : decode cX12_sure 12 = .ok (.invokestatic 110, 3) := by decide +kernel
theorem dX12_sure_15 : decode cX12_sure 15 = .ok (.ifCond .eq 26, 3) := by decide +kernel
theorem dX12_sure_18 : decode cX12_sure 18 = .ok (.iload_n 2, 1) := by decide +kernel
theorem dX12_sure_19 : decode cX12_sure 19 = .ok (.iconst 0, 1) := by decide +kernel
theorem dX12_sure_20 : decode cX12_sure 20 = .ok (.aload_n 0, 1) := by decide +kernel
theorem dX12_sure_21 : decode cX12_sure 21 = .ok (.getfield 20, 3) := by decide +kernel
theorem dX12_sure_24 : decode cX12_sure 24 = .ok (.sipush 300, 3) := by decide +kernel
theorem dX12_sure_27 : decode cX12_sure 27 = .ok (.iaload, 1) := by decide +kernel
theorem dX12_sure_28 : decode cX12_sure 28 = .ok (.iconst 1, 1) := by decide +kernel
theorem dX12_sure_29 : decode cX12_sure 29 = .ok (.isub, 1) := by decide +kernel
theorem dX12_sure_30 : decode cX12_sure 30 = .ok (.invokestatic 110, 3) := by decide +kernel
theorem dX12_sure_33 : decode cX12_sure 33 = .ok (.ifCond .eq 8, 3) := by decide +kernel
theorem dX12_sure_36 : decode cX12_sure 36 = .ok (.iload_n 1, 1) := by decide +kernel
theorem dX12_sure_37 : decode cX12_sure 37 = .ok (.iload_n 2, 1) := by decide +kernel
theorem dX12_sure_38 : decode cX12_sure 38 = .ok (.if_icmp .ne 5, 3) := by decide +kernel
theorem dX12_sure_41 : decode cX12_sure 41 = .ok (.iconst (-1), 1) := by decide +kernel
theorem dX12_sure_42 : decode cX12_sure 42 = .ok (.ireturn, 1) := by decide +kernel
theorem dX12_sure_43 : decode cX12_sure 43 = .ok (.aload_n 0, 1) := by decide +kernel
theorem dX12_sure_44 : decode cX12_sure 44 = .ok (.aload_n 0, 1) := by decide +kernel
theorem dX12_sure_45 : decode cX12_sure 45 = .ok (.iload_n 1, 1) := by decide +kernel
theorem dX12_sure_46 : decode cX12_sure 46 = .ok (.iconst 0, 1) := by decide +kernel
theorem dX12_sure_47 : decode cX12_sure 47 = .ok (.invokevirtual 173, 3) := by decide +kernel
theorem dX12_sure_50 : decode cX12_sure 50 = .ok (.iconst (-1), 1) := by decide +kernel
theorem dX12_sure_51 : decode cX12_sure 51 = .ok (.iconst (-1), 1) := by decide +kernel
theorem dX12_sure_52 : decode cX12_sure 52 = .ok (.invokevirtual 284, 3) := by decide +kernel
theorem dX12_sure_55 : decode cX12_sure 55 = .ok (.aload_n 0, 1) := by decide +kernel
theorem dX12_sure_56 : decode cX12_sure 56 = .ok (.invokevirtual 287, 3) := by decide +kernel
theorem dX12_sure_59 : decode cX12_sure 59 = .ok (.istore_n 3, 1) := by decide +kernel
theorem dX12_sure_60 : decode cX12_sure 60 = .ok (.aload_n 0, 1) := by decide +kernel
theorem dX12_sure_61 : decode cX12_sure 61 = .ok (.getfield 56, 3) := by decide +kernel
theorem dX12_sure_64 : decode cX12_sure 64 = .ok (.iload_n 1, 1) := by decide +kernel
theorem dX12_sure_65 : decode cX12_sure 65 = .ok (.iaload, 1) := by decide +kernel
theorem dX12_sure_66 : decode cX12_sure 66 = .ok (.iload_n 2, 1) := by decide +kernel
theorem dX12_sure_67 : decode cX12_sure 67 = .ok (.ishr, 1) := by decide +kernel
theorem dX12_sure_68 : decode cX12_sure 68 = .ok (.iconst 1, 1) := by decide +kernel
theorem dX12_sure_69 : decode cX12_sure 69 = .ok (.iand, 1) := by decide +kernel
theorem dX12_sure_70 : decode cX12_sure 70 = .ok (.ifCond .ne 5, 3) := by decide +kernel
theorem dX12_sure_73 : decode cX12_sure 73 = .ok (.iconst 0, 1) := by decide +kernel
theorem dX12_sure_74 : decode cX12_sure 74 = .ok (.ireturn, 1) := by decide +kernel
theorem dX12_sure_75 : decode cX12_sure 75 = .ok (.aload_n 0, 1) := by decide +kernel
theorem dX12_sure_76 : decode cX12_sure 76 = .ok (.iload_n 1, 1) := by decide +kernel
theorem dX12_sure_77 : decode cX12_sure 77 = .ok (.iload_n 2, 1) := by decide +kernel
theorem dX12_sure_78 : decode cX12_sure 78 = .ok (.invokevirtual 291, 3) := by decide +kernel
theorem dX12_sure_81 : decode cX12_sure 81 = .ok (.aload_n 0, 1) := by decide +kernel
theorem dX12_sure_82 : decode cX12_sure 82 = .ok (.invokevirtual 287, 3) := by decide +kernel
theorem dX12_sure_85 : decode cX12_sure 85 = .ok (.iload_n 3, 1) := by decide +kernel
theorem dX12_sure_86 : decode cX12_sure 86 = .ok (.if_icmp .ge 5, 3) := by decide +kernel
theorem dX12_sure_89 : decode cX12_sure 89 = .ok (.iconst 0, 1) := by decide +kernel
theorem dX12_sure_90 : decode cX12_sure 90 = .ok (.ireturn, 1) := by decide +kernel
theorem dX12_sure_91 : decode cX12_sure 91 = .ok (.aload_n 0, 1) := by decide +kernel
theorem dX12_sure_92 : decode cX12_sure 92 = .ok (.aload_n 0, 1) := by decide +kernel
theorem dX12_sure_93 : decode cX12_sure 93 = .ok (.iload_n 1, 1) := by decide +kernel
theorem dX12_sure_94 : decode cX12_sure 94 = .ok (.iconst 0, 1) := by decide +kernel
theorem dX12_sure_95 : decode cX12_sure 95 = .ok (.invokevirtual 173, 3) := by decide +kernel
theorem dX12_sure_98 : decode cX12_sure 98 = .ok (.iload_n 1, 1) := by decide +kernel
theorem dX12_sure_99 : decode cX12_sure 99 = .ok (.iload_n 2, 1) := by decide +kernel
theorem dX12_sure_100 : decode cX12_sure 100 = .ok (.invokevirtual 284, 3) := by decide +kernel
theorem dX12_sure_103 : decode cX12_sure 103 = .ok (.aload_n 0, 1) := by decide +kernel
theorem dX12_sure_104 : decode cX12_sure 104 = .ok (.invokevirtual 287, 3) := by decide +kernel
theorem dX12_sure_107 : decode cX12_sure 107 = .ok (.iload_n 3, 1) := by decide +kernel
theorem dX12_sure_108 : decode cX12_sure 108 = .ok (.if_icmp .ge 7, 3) := by decide +kernel
theorem dX12_sure_111 : decode cX12_sure 111 = .ok (.iconst 2, 1) := by decide +kernel
theorem dX12_sure_112 : decode cX12_sure 112 = .ok (.goto 4, 3) := by decide +kernel
theorem dX12_sure_115 : decode cX12_sure 115 = .ok (.iconst 1, 1) := by decide +kernel
theorem dX12_sure_116 : decode cX12_sure 116 = .ok (.ireturn, 1) := by decide +kernel

def fX12_sure (N : Nat) (p1 : Int32) (p2 : Int32) (σ : qMem) : Option (Int32 × qMem) :=
  (if ck 300 1112 = true then ((fX12_in p1 0 ((gi σ 2 (300 : Int32).toNatClampNeg) - 1)).bind fun y1 => (if y1 = 0 then (some ((-1), σ)) else (if ck 300 1112 = true then ((fX12_in p2 0 ((gi σ 2 (300 : Int32).toNatClampNeg) - 1)).bind fun y2 => (if y2 = 0 then (some ((-1), σ)) else (if p1 = p2 then (some ((-1), σ)) else ((fX12_heardOf p1 0 σ).bind fun y3 => ((fX12_mays N y3 (-1) (-1) σ).bind fun y4 => ((fX12_joins N y4).bind fun y5 => (if ck p1 24 = true then (if (((gi y5.2 10 p1.toNatClampNeg) >>> (p2 &&& 31)) &&& 1) = 0 then (some (0, y5.2)) else ((fX12_fixes N p1 p2 y5.2).bind fun y6 => ((fX12_joins N y6).bind fun y7 => (if y5.1 ≤ y7.1 then ((fX12_heardOf p1 0 y7.2).bind fun y8 => ((fX12_mays N y8 p1 p2 y7.2).bind fun y9 => ((fX12_joins N y9).bind fun y10 => (if y5.1 ≤ y10.1 then (some (1, y10.2)) else (some (2, y10.2)))))) else (some (0, y7.2)))))) else none))))))) else none))) else none)
set_option maxRecDepth 20000 in
set_option maxHeartbeats 4000000 in
theorem aX12_sure  (N : Nat) (p1 : Int32) (p2 : Int32)  (σ : qMem) : qAt wM mX12_sure (ρi) 0 [(0, .ref 0), (1, .int p1), (2, .int p2)] [] σ (fX12_sure N p1 p2 σ) := by
  unfold fX12_sure
  refine q_iload_n (i := 1) (x := p1) dX12_sure_0 rfl 1 rfl ?_
  refine q_iconst (v := 0) dX12_sure_1 (by decide) ?_
  refine q_aload_n (i := 0) (x := 0) dX12_sure_2 rfl 0 rfl ?_
  refine q_getr (t := 2) dX12_sure_3 foX12_20 zM_0 rfl ?_
  refine q_sipush (v := 300) dX12_sure_6 (by decide) ?_
  refine q_iald dX12_sure_9 zM_2 ?_
  refine q_iconst (v := 1) dX12_sure_10 (by decide) ?_
  refine q_isub dX12_sure_11 ?_
  refine q_cSp mX12_in [.int p1, .int 0, .int ((gi σ 2 (300 : Int32).toNatClampNeg) - 1)] (st := []) dX12_sure_12 (ssX12_110) ⟨Nat.le_of_ble_eq_true rfl, Nat.le_of_ble_eq_true rfl⟩ rfl rfl (Nat.le_of_ble_eq_true rfl) (kX12_in p1 0 ((gi σ 2 (300 : Int32).toNatClampNeg) - 1) σ) (fun y1 => ?_)
  refine q_if_eq (tgt := 41) dX12_sure_15 (by decide) ?_ ?_
  · refine q_iconst (v := (-1)) dX12_sure_41 (by decide) ?_
    exact q_ireti (y := ((-1), σ)) dX12_sure_42 rfl rfl
  refine q_iload_n (i := 2) (x := p2) dX12_sure_18 rfl 2 rfl ?_
  refine q_iconst (v := 0) dX12_sure_19 (by decide) ?_
  refine q_aload_n (i := 0) (x := 0) dX12_sure_20 rfl 0 rfl ?_
  refine q_getr (t := 2) dX12_sure_21 foX12_20 zM_0 rfl ?_
  refine q_sipush (v := 300) dX12_sure_24 (by decide) ?_
  refine q_iald dX12_sure_27 zM_2 ?_
  refine q_iconst (v := 1) dX12_sure_28 (by decide) ?_
  refine q_isub dX12_sure_29 ?_
  refine q_cSp mX12_in [.int p2, .int 0, .int ((gi σ 2 (300 : Int32).toNatClampNeg) - 1)] (st := []) dX12_sure_30 (ssX12_110) ⟨Nat.le_of_ble_eq_true rfl, Nat.le_of_ble_eq_true rfl⟩ rfl rfl (Nat.le_of_ble_eq_true rfl) (kX12_in p2 0 ((gi σ 2 (300 : Int32).toNatClampNeg) - 1) σ) (fun y2 => ?_)
  refine q_if_eq (tgt := 41) dX12_sure_33 (by decide) ?_ ?_
  · refine q_iconst (v := (-1)) dX12_sure_41 (by decide) ?_
    exact q_ireti (y := ((-1), σ)) dX12_sure_42 rfl rfl
  refine q_iload_n (i := 1) (x := p1) dX12_sure_36 rfl 1 rfl ?_
  refine q_iload_n (i := 2) (x := p2) dX12_sure_37 rfl 2 rfl ?_
  refine q_icmp_ne (tgt := 43) dX12_sure_38 (by decide) ?_ ?_
  · refine q_aload_n (i := 0) (x := 0) dX12_sure_43 rfl 0 rfl ?_
    refine q_aload_n (i := 0) (x := 0) dX12_sure_44 rfl 0 rfl ?_
    refine q_iload_n (i := 1) (x := p1) dX12_sure_45 rfl 1 rfl ?_
    refine q_iconst (v := 0) dX12_sure_46 (by decide) ?_
    refine q_cVp mX12_heardOf [.int p1, .int 0] (st := [.ref 0]) dX12_sure_47 (svX12_173) ⟨Nat.le_of_ble_eq_true rfl, Nat.le_of_ble_eq_true rfl⟩ zM_0 rfl rfl rfl (Nat.le_of_ble_eq_true rfl) (kX12_heardOf p1 0 σ) (fun y3 => ?_)
    refine q_iconst (v := (-1)) dX12_sure_50 (by decide) ?_
    refine q_iconst (v := (-1)) dX12_sure_51 (by decide) ?_
    refine q_cVv mX12_mays [.int y3, .int (-1), .int (-1)] (st := []) dX12_sure_52 (svX12_284) ⟨Nat.le_of_ble_eq_true rfl, Nat.le_of_ble_eq_true rfl⟩ zM_0 rfl rfl rfl (Nat.le_of_ble_eq_true rfl) (kX12_mays N y3 (-1) (-1) σ) (fun y4 => ?_)
    refine q_aload_n (i := 0) (x := 0) dX12_sure_55 rfl 0 rfl ?_
    refine q_cVi mX12_joins [] (st := []) dX12_sure_56 (svX12_287) ⟨Nat.le_of_ble_eq_true rfl, Nat.le_of_ble_eq_true rfl⟩ zM_0 rfl rfl rfl (Nat.le_of_ble_eq_true rfl) (kX12_joins N y4) (fun y5 => ?_)
    refine q_istore_n (i := 3) (L' := [(3, .int y5.1), (0, .ref 0), (1, .int p1), (2, .int p2)]) dX12_sure_59 rfl (Nat.le_of_ble_eq_true rfl) rfl ?_
    refine q_aload_n (i := 0) (x := 0) dX12_sure_60 rfl 1 rfl ?_
    refine q_getr (t := 10) dX12_sure_61 foX12_56 zM_0 rfl ?_
    refine q_iload_n (i := 1) (x := p1) dX12_sure_64 rfl 2 rfl ?_
    refine q_iald dX12_sure_65 zM_10 ?_
    refine q_iload_n (i := 2) (x := p2) dX12_sure_66 rfl 3 rfl ?_
    refine q_ishr dX12_sure_67 ?_
    refine q_iconst (v := 1) dX12_sure_68 (by decide) ?_
    refine q_iand dX12_sure_69 ?_
    refine q_if_ne (tgt := 75) dX12_sure_70 (by decide) ?_ ?_
    · refine q_aload_n (i := 0) (x := 0) dX12_sure_75 rfl 1 rfl ?_
      refine q_iload_n (i := 1) (x := p1) dX12_sure_76 rfl 2 rfl ?_
      refine q_iload_n (i := 2) (x := p2) dX12_sure_77 rfl 3 rfl ?_
      refine q_cVv mX12_fixes [.int p1, .int p2] (st := []) dX12_sure_78 (svX12_291) ⟨Nat.le_of_ble_eq_true rfl, Nat.le_of_ble_eq_true rfl⟩ zM_0 rfl rfl rfl (Nat.le_of_ble_eq_true rfl) (kX12_fixes N p1 p2 y5.2) (fun y6 => ?_)
      refine q_aload_n (i := 0) (x := 0) dX12_sure_81 rfl 1 rfl ?_
      refine q_cVi mX12_joins [] (st := []) dX12_sure_82 (svX12_287) ⟨Nat.le_of_ble_eq_true rfl, Nat.le_of_ble_eq_true rfl⟩ zM_0 rfl rfl rfl (Nat.le_of_ble_eq_true rfl) (kX12_joins N y6) (fun y7 => ?_)
      refine q_iload_n (i := 3) (x := y5.1) dX12_sure_85 rfl 0 rfl ?_
      refine q_icmp_ge (tgt := 91) dX12_sure_86 (by decide) ?_ ?_
      · refine q_aload_n (i := 0) (x := 0) dX12_sure_91 rfl 1 rfl ?_
        refine q_aload_n (i := 0) (x := 0) dX12_sure_92 rfl 1 rfl ?_
        refine q_iload_n (i := 1) (x := p1) dX12_sure_93 rfl 2 rfl ?_
        refine q_iconst (v := 0) dX12_sure_94 (by decide) ?_
        refine q_cVp mX12_heardOf [.int p1, .int 0] (st := [.ref 0]) dX12_sure_95 (svX12_173) ⟨Nat.le_of_ble_eq_true rfl, Nat.le_of_ble_eq_true rfl⟩ zM_0 rfl rfl rfl (Nat.le_of_ble_eq_true rfl) (kX12_heardOf p1 0 y7.2) (fun y8 => ?_)
        refine q_iload_n (i := 1) (x := p1) dX12_sure_98 rfl 2 rfl ?_
        refine q_iload_n (i := 2) (x := p2) dX12_sure_99 rfl 3 rfl ?_
        refine q_cVv mX12_mays [.int y8, .int p1, .int p2] (st := []) dX12_sure_100 (svX12_284) ⟨Nat.le_of_ble_eq_true rfl, Nat.le_of_ble_eq_true rfl⟩ zM_0 rfl rfl rfl (Nat.le_of_ble_eq_true rfl) (kX12_mays N y8 p1 p2 y7.2) (fun y9 => ?_)
        refine q_aload_n (i := 0) (x := 0) dX12_sure_103 rfl 1 rfl ?_
        refine q_cVi mX12_joins [] (st := []) dX12_sure_104 (svX12_287) ⟨Nat.le_of_ble_eq_true rfl, Nat.le_of_ble_eq_true rfl⟩ zM_0 rfl rfl rfl (Nat.le_of_ble_eq_true rfl) (kX12_joins N y9) (fun y10 => ?_)
        refine q_iload_n (i := 3) (x := y5.1) dX12_sure_107 rfl 0 rfl ?_
        refine q_icmp_ge (tgt := 115) dX12_sure_108 (by decide) ?_ ?_
        · refine q_iconst (v := 1) dX12_sure_115 (by decide) ?_
          exact q_ireti (y := (1, y10.2)) dX12_sure_116 rfl rfl
        refine q_iconst (v := 2) dX12_sure_111 (by decide) ?_
        refine q_goto (tgt := 116) dX12_sure_112 (by decide) ?_
        exact q_ireti (y := (2, y10.2)) dX12_sure_116 rfl rfl
      refine q_iconst (v := 0) dX12_sure_89 (by decide) ?_
      exact q_ireti (y := (0, y7.2)) dX12_sure_90 rfl rfl
    refine q_iconst (v := 0) dX12_sure_73 (by decide) ?_
    exact q_ireti (y := (0, y5.2)) dX12_sure_74 rfl rfl
  refine q_iconst (v := (-1)) dX12_sure_41 (by decide) ?_
  exact q_ireti (y := ((-1), σ)) dX12_sure_42 rfl rfl
theorem kX12_sure  (N : Nat) (p1 : Int32) (p2 : Int32)  (σ : qMem) : qMc wM mX12_sure (ρi) [.ref 0, .int p1, .int p2] σ (fX12_sure N p1 p2 σ) := qMc_of (moX12_sure) (Nat.le_of_ble_eq_true rfl) (aX12_sure N p1 p2  σ)

theorem dX12_watch_0 : decode cX12_watch 0 = .ok (.iload_n 1, 1) := by decide +kernel
theorem dX12_watch_1 : decode cX12_watch 1 = .ok (.iconst 0, 1) := by decide +kernel
theorem dX12_watch_2 : decode cX12_watch 2 = .ok (.iconst 5, 1) := by decide +kernel
theorem dX12_watch_3 : decode cX12_watch 3 = .ok (.invokestatic 110, 3) := by decide +kernel
theorem dX12_watch_6 : decode cX12_watch 6 = .ok (.ifCond .eq 12, 3) := by decide +kernel
theorem dX12_watch_9 : decode cX12_watch 9 = .ok (.iload_n 2, 1) := by decide +kernel
theorem dX12_watch_10 : decode cX12_watch 10 = .ok (.iconst 0, 1) := by decide +kernel
theorem dX12_watch_11 : decode cX12_watch 11 = .ok (.iconst 3, 1) := by decide +kernel
theorem dX12_watch_12 : decode cX12_watch 12 = .ok (.invokestatic 110, 3) := by decide +kernel
theorem dX12_watch_15 : decode cX12_watch 15 = .ok (.ifCond .ne 5, 3) := by decide +kernel
theorem dX12_watch_18 : decode cX12_watch 18 = .ok (.iconst (-1), 1) := by decide +kernel
theorem dX12_watch_19 : decode cX12_watch 19 = .ok (.ireturn, 1) := by decide +kernel
theorem dX12_watch_20 : decode cX12_watch 20 = .ok (.iconst 0, 1) := by decide +kernel
theorem dX12_watch_21 : decode cX12_watch 21 = .ok (.istore_n 3, 1) := by decide +kernel
theorem dX12_watch_22 : decode cX12_watch 22 = .ok (.iconst 0, 1) := by decide +kernel
theorem dX12_watch_23 : decode cX12_watch 23 = .ok (.istore 4, 2) := by decide +kernel
theorem dX12_watch_25 : decode cX12_watch 25 = .ok (.iload 4, 2) := by decide +kernel
theorem dX12_watch_27 : decode cX12_watch 27 = .ok (.aload_n 0, 1) := by decide +kernel
theorem dX12_watch_28 : decode cX12_watch 28 = .ok (.getfield 20, 3) := by decide +kernel
theorem dX12_watch_31 : decode cX12_watch 31 = .ok (.sipush 300, 3) := by decide +kernel
theorem dX12_watch_34 : decode cX12_watch 34 = .ok (.iaload, 1) := by decide +kernel
theorem dX12_watch_35 : decode cX12_watch 35 = .ok (.if_icmp .ge 48, 3) := by decide +kernel
theorem dX12_watch_38 : decode cX12_watch 38 = .ok (.iload_n 2, 1) := by decide +kernel
theorem dX12_watch_39 : decode cX12_watch 39 = .ok (.iconst 2, 1) := by decide +kernel
theorem dX12_watch_40 : decode cX12_watch 40 = .ok (.if_icmp .ge 43, 3) := by decide +kernel
theorem dX12_watch_43 : decode cX12_watch 43 = .ok (.iload_n 3, 1) := by decide +kernel
theorem dX12_watch_44 : decode cX12_watch 44 = .ok (.aload_n 0, 1) := by decide +kernel
theorem dX12_watch_45 : decode cX12_watch 45 = .ok (.iload 4, 2) := by decide +kernel
theorem dX12_watch_47 : decode cX12_watch 47 = .ok (.iconst 1, 1) := by decide +kernel
theorem dX12_watch_48 : decode cX12_watch 48 = .ok (.invokevirtual 173, 3) := by decide +kernel
theorem dX12_watch_51 : decode cX12_watch 51 = .ok (.iconst 4, 1) := by decide +kernel
theorem dX12_watch_52 : decode cX12_watch 52 = .ok (.idiv, 1) := by decide +kernel
theorem dX12_watch_53 : decode cX12_watch 53 = .ok (.iload_n 1, 1) := by decide +kernel
theorem dX12_watch_54 : decode cX12_watch 54 = .ok (.if_icmp .ne 20, 3) := by decide +kernel
theorem dX12_watch_57 : decode cX12_watch 57 = .ok (.iload_n 2, 1) := by decide +kernel
theorem dX12_watch_58 : decode cX12_watch 58 = .ok (.ifCond .eq 12, 3) := by decide +kernel
theorem dX12_watch_61 : decode cX12_watch 61 = .ok (.aload_n 0, 1) := by decide +kernel
theorem dX12_watch_62 : decode cX12_watch 62 = .ok (.iload 4, 2) := by decide +kernel
theorem dX12_watch_64 : decode cX12_watch 64 = .ok (.invokevirtual 196, 3) := by decide +kernel
theorem dX12_watch_67 : decode cX12_watch 67 = .ok (.ifCond .ne 7, 3) := by decide +kernel
theorem dX12_watch_70 : decode cX12_watch 70 = .ok (.iconst 1, 1) := by decide +kernel
theorem dX12_watch_71 : decode cX12_watch 71 = .ok (.goto 4, 3) := by decide +kernel
theorem dX12_watch_74 : decode cX12_watch 74 = .ok (.iconst 0, 1) := by decide +kernel
theorem dX12_watch_75 : decode cX12_watch 75 = .ok (.iadd, 1) := by decide +kernel
theorem dX12_watch_76 : decode cX12_watch 76 = .ok (.istore_n 3, 1) := by decide +kernel
theorem dX12_watch_77 : decode cX12_watch 77 = .ok (.iinc 4 1, 3) := by decide +kernel
theorem dX12_watch_80 : decode cX12_watch 80 = .ok (.goto (-55), 3) := by decide +kernel
theorem dX12_watch_83 : decode cX12_watch 83 = .ok (.iconst 0, 1) := by decide +kernel
theorem dX12_watch_84 : decode cX12_watch 84 = .ok (.istore 4, 2) := by decide +kernel
theorem dX12_watch_86 : decode cX12_watch 86 = .ok (.iload 4, 2) := by decide +kernel
theorem dX12_watch_88 : decode cX12_watch 88 = .ok (.aload_n 0, 1) := by decide +kernel
theorem dX12_watch_89 : decode cX12_watch 89 = .ok (.getfield 20, 3) := by decide +kernel
theorem dX12_watch_92 : decode cX12_watch 92 = .ok (.sipush 301, 3) := by decide +kernel
theorem dX12_watch_95 : decode cX12_watch 95 = .ok (.iaload, 1) := by decide +kernel
theorem dX12_watch_96 : decode cX12_watch 96 = .ok (.if_icmp .ge 49, 3) := by decide +kernel
theorem dX12_watch_99 : decode cX12_watch 99 = .ok (.iload_n 2, 1) := by decide +kernel
theorem dX12_watch_100 : decode cX12_watch 100 = .ok (.iconst 1, 1) := by decide +kernel
theorem dX12_watch_101 : decode cX12_watch 101 = .ok (.if_icmp .le 44, 3) := by decide +kernel
theorem dX12_watch_104 : decode cX12_watch 104 = .ok (.iload_n 3, 1) := by decide +kernel
theorem dX12_watch_105 : decode cX12_watch 105 = .ok (.aload_n 0, 1) := by decide +kernel
theorem dX12_watch_106 : decode cX12_watch 106 = .ok (.iload 4, 2) := by decide +kernel
theorem dX12_watch_108 : decode cX12_watch 108 = .ok (.iconst 1, 1) := by decide +kernel
theorem dX12_watch_109 : decode cX12_watch 109 = .ok (.invokevirtual 179, 3) := by decide +kernel
theorem dX12_watch_112 : decode cX12_watch 112 = .ok (.iconst 4, 1) := by decide +kernel
theorem dX12_watch_113 : decode cX12_watch 113 = .ok (.idiv, 1) := by decide +kernel
theorem dX12_watch_114 : decode cX12_watch 114 = .ok (.iload_n 1, 1) := by decide +kernel
theorem dX12_watch_115 : decode cX12_watch 115 = .ok (.if_icmp .ne 21, 3) := by decide +kernel
theorem dX12_watch_118 : decode cX12_watch 118 = .ok (.iload_n 2, 1) := by decide +kernel
theorem dX12_watch_119 : decode cX12_watch 119 = .ok (.iconst 2, 1) := by decide +kernel
theorem dX12_watch_120 : decode cX12_watch 120 = .ok (.if_icmp .eq 12, 3) := by decide +kernel
theorem dX12_watch_123 : decode cX12_watch 123 = .ok (.aload_n 0, 1) := by decide +kernel
theorem dX12_watch_124 : decode cX12_watch 124 = .ok (.iload 4, 2) := by decide +kernel
theorem dX12_watch_126 : decode cX12_watch 126 = .ok (.invokevirtual 199, 3) := by decide +kernel
theorem dX12_watch_129 : decode cX12_watch 129 = .ok (.ifCond .ne 7, 3) := by decide +kernel
theorem dX12_watch_132 : decode cX12_watch 132 = .ok (.iconst 1, 1) := by decide +kernel
theorem dX12_watch_133 : decode cX12_watch 133 = .ok (.goto 4, 3) := by decide +kernel
theorem dX12_watch_136 : decode cX12_watch 136 = .ok (.iconst 0, 1) := by decide +kernel
theorem dX12_watch_137 : decode cX12_watch 137 = .ok (.iadd, 1) := by decide +kernel
theorem dX12_watch_138 : decode cX12_watch 138 = .ok (.istore_n 3, 1) := by decide +kernel
theorem dX12_watch_139 : decode cX12_watch 139 = .ok (.iinc 4 1, 3) := by decide +kernel
theorem dX12_watch_142 : decode cX12_watch 142 = .ok (.goto (-56), 3) := by decide +kernel
theorem dX12_watch_145 : decode cX12_watch 145 = .ok (.iload_n 3, 1) := by decide +kernel
theorem dX12_watch_146 : decode cX12_watch 146 = .ok (.ireturn, 1) := by decide +kernel
def fX12_watch_b137 (N : Nat) (c86 : Int32 → Int32 → Int32 → Int32 → Option Int32) (v1 : Int32) (v2 : Int32) (v4 : Int32) (u0 : Int32) (u1 : Int32) (σ : qMem) : Option Int32 :=
  (c86 v1 v2 (u0 + u1) (v4 + 1))
set_option maxRecDepth 20000 in
set_option maxHeartbeats 4000000 in
theorem aX12_watch_b137 (N : Nat) (σ : qMem) (c86 : Int32 → Int32 → Int32 → Int32 → Option Int32) (hc86 : ∀ (v1 : Int32) (v2 : Int32) (v3 : Int32) (v4 : Int32) , qAt wM mX12_watch (ρp σ) 86 [(0, .ref 0), (1, .int v1), (2, .int v2), (3, .int v3), (4, .int v4)] [] σ (c86 v1 v2 v3 v4)) (v1 : Int32) (v2 : Int32) (v4 : Int32) (u0 : Int32) (u1 : Int32) : qAt wM mX12_watch (ρp σ) 137 [(0, .ref 0), (1, .int v1), (2, .int v2), (4, .int v4)] [.int u1, .int u0] σ (fX12_watch_b137 N c86 v1 v2 v4 u0 u1 σ) := by
  unfold fX12_watch_b137
  refine q_iadd dX12_watch_137 ?_
  refine q_istore_n (i := 3) (L' := [(3, .int (u0 + u1)), (0, .ref 0), (1, .int v1), (2, .int v2), (4, .int v4)]) dX12_watch_138 rfl (Nat.le_of_ble_eq_true rfl) rfl ?_
  refine q_iinc (i := 4) (x := v4) (v := (v4 + 1)) (L' := [(4, .int (v4 + 1)), (3, .int (u0 + u1)), (0, .ref 0), (1, .int v1), (2, .int v2)]) dX12_watch_139 4 rfl (q_cst v4 (by decide)) (Nat.le_of_ble_eq_true rfl) rfl ?_
  refine q_goto (tgt := 86) dX12_watch_142 (by decide) ?_
  exact q_sub [2, 3, 4, 1, 0] rfl (hc86 v1 v2 (u0 + u1) (v4 + 1))

def fX12_watch_b136 (N : Nat) (c86 : Int32 → Int32 → Int32 → Int32 → Option Int32) (v1 : Int32) (v2 : Int32) (v4 : Int32) (u0 : Int32) (σ : qMem) : Option Int32 :=
  (fX12_watch_b137 N c86 v1 v2 v4 u0 0 σ)
set_option maxRecDepth 20000 in
set_option maxHeartbeats 4000000 in
theorem aX12_watch_b136 (N : Nat) (σ : qMem) (c86 : Int32 → Int32 → Int32 → Int32 → Option Int32) (hc86 : ∀ (v1 : Int32) (v2 : Int32) (v3 : Int32) (v4 : Int32) , qAt wM mX12_watch (ρp σ) 86 [(0, .ref 0), (1, .int v1), (2, .int v2), (3, .int v3), (4, .int v4)] [] σ (c86 v1 v2 v3 v4)) (v1 : Int32) (v2 : Int32) (v4 : Int32) (u0 : Int32) : qAt wM mX12_watch (ρp σ) 136 [(0, .ref 0), (1, .int v1), (2, .int v2), (4, .int v4)] [.int u0] σ (fX12_watch_b136 N c86 v1 v2 v4 u0 σ) := by
  unfold fX12_watch_b136
  refine q_iconst (v := 0) dX12_watch_136 (by decide) ?_
  exact q_sub [0, 1, 2, 3] rfl (aX12_watch_b137 N σ c86 hc86 v1 v2 v4 u0 0)

def fX12_watch_b132 (N : Nat) (c86 : Int32 → Int32 → Int32 → Int32 → Option Int32) (v1 : Int32) (v2 : Int32) (v4 : Int32) (u0 : Int32) (σ : qMem) : Option Int32 :=
  (fX12_watch_b137 N c86 v1 v2 v4 u0 1 σ)
set_option maxRecDepth 20000 in
set_option maxHeartbeats 4000000 in
theorem aX12_watch_b132 (N : Nat) (σ : qMem) (c86 : Int32 → Int32 → Int32 → Int32 → Option Int32) (hc86 : ∀ (v1 : Int32) (v2 : Int32) (v3 : Int32) (v4 : Int32) , qAt wM mX12_watch (ρp σ) 86 [(0, .ref 0), (1, .int v1), (2, .int v2), (3, .int v3), (4, .int v4)] [] σ (c86 v1 v2 v3 v4)) (v1 : Int32) (v2 : Int32) (v4 : Int32) (u0 : Int32) : qAt wM mX12_watch (ρp σ) 132 [(0, .ref 0), (1, .int v1), (2, .int v2), (4, .int v4)] [.int u0] σ (fX12_watch_b132 N c86 v1 v2 v4 u0 σ) := by
  unfold fX12_watch_b132
  refine q_iconst (v := 1) dX12_watch_132 (by decide) ?_
  refine q_goto (tgt := 137) dX12_watch_133 (by decide) ?_
  exact q_sub [0, 1, 2, 3] rfl (aX12_watch_b137 N σ c86 hc86 v1 v2 v4 u0 1)

def fX12_watch_s86 (N : Nat) (c86 : Int32 → Int32 → Int32 → Int32 → Option Int32) (v1 : Int32) (v2 : Int32) (v3 : Int32) (v4 : Int32) (σ : qMem) : Option Int32 :=
  (if ck 301 1112 = true then (if (gi σ 2 (301 : Int32).toNatClampNeg) ≤ v4 then (some v3) else (if v2 ≤ 1 then (some v3) else ((fX12_echoOf v4 1 σ).bind fun y5 => (if (y5 / 4) = v1 then (if v2 = 2 then (fX12_watch_b132 N c86 v1 v2 v4 v3 σ) else ((fX12_isKnownEcho N v4 σ).bind fun y6 => (if y6 = 0 then (fX12_watch_b132 N c86 v1 v2 v4 v3 σ) else (fX12_watch_b136 N c86 v1 v2 v4 v3 σ)))) else (fX12_watch_b136 N c86 v1 v2 v4 v3 σ))))) else none)
set_option maxRecDepth 20000 in
set_option maxHeartbeats 4000000 in
theorem aX12_watch_s86 (N : Nat) (σ : qMem) (c86 : Int32 → Int32 → Int32 → Int32 → Option Int32) (hc86 : ∀ (v1 : Int32) (v2 : Int32) (v3 : Int32) (v4 : Int32) , qAt wM mX12_watch (ρp σ) 86 [(0, .ref 0), (1, .int v1), (2, .int v2), (3, .int v3), (4, .int v4)] [] σ (c86 v1 v2 v3 v4)) (v1 : Int32) (v2 : Int32) (v3 : Int32) (v4 : Int32) : qAt wM mX12_watch (ρp σ) 86 [(0, .ref 0), (1, .int v1), (2, .int v2), (3, .int v3), (4, .int v4)] [] σ (fX12_watch_s86 N c86 v1 v2 v3 v4 σ) := by
  unfold fX12_watch_s86
  refine q_iload (i := 4) (x := v4) dX12_watch_86 4 rfl ?_
  refine q_aload_n (i := 0) (x := 0) dX12_watch_88 rfl 0 rfl ?_
  refine q_getr (t := 2) dX12_watch_89 foX12_20 zM_0 rfl ?_
  refine q_sipush (v := 301) dX12_watch_92 (by decide) ?_
  refine q_iald dX12_watch_95 zM_2 ?_
  refine q_icmp_ge (tgt := 145) dX12_watch_96 (by decide) ?_ ?_
  · refine q_iload_n (i := 3) (x := v3) dX12_watch_145 rfl 3 rfl ?_
    exact q_ireti (y := v3) dX12_watch_146 rfl rfl
  refine q_iload_n (i := 2) (x := v2) dX12_watch_99 rfl 2 rfl ?_
  refine q_iconst (v := 1) dX12_watch_100 (by decide) ?_
  refine q_icmp_le (tgt := 145) dX12_watch_101 (by decide) ?_ ?_
  · refine q_iload_n (i := 3) (x := v3) dX12_watch_145 rfl 3 rfl ?_
    exact q_ireti (y := v3) dX12_watch_146 rfl rfl
  refine q_iload_n (i := 3) (x := v3) dX12_watch_104 rfl 3 rfl ?_
  refine q_aload_n (i := 0) (x := 0) dX12_watch_105 rfl 0 rfl ?_
  refine q_iload (i := 4) (x := v4) dX12_watch_106 4 rfl ?_
  refine q_iconst (v := 1) dX12_watch_108 (by decide) ?_
  refine q_cVp mX12_echoOf [.int v4, .int 1] (st := [.int v3]) dX12_watch_109 (svX12_179) ⟨Nat.le_of_ble_eq_true rfl, Nat.le_of_ble_eq_true rfl⟩ zM_0 rfl rfl rfl (Nat.le_of_ble_eq_true rfl) (kX12_echoOf v4 1 σ) (fun y5 => ?_)
  refine q_iconst (v := 4) dX12_watch_112 (by decide) ?_
  refine q_idiv dX12_watch_113 (by decide) ?_
  refine q_iload_n (i := 1) (x := v1) dX12_watch_114 rfl 1 rfl ?_
  refine q_icmp_ne (tgt := 136) dX12_watch_115 (by decide) ?_ ?_
  · exact q_sub [0, 1, 2, 4] rfl (aX12_watch_b136 N σ c86 hc86 v1 v2 v4 v3)
  refine q_iload_n (i := 2) (x := v2) dX12_watch_118 rfl 2 rfl ?_
  refine q_iconst (v := 2) dX12_watch_119 (by decide) ?_
  refine q_icmp_eq (tgt := 132) dX12_watch_120 (by decide) ?_ ?_
  · exact q_sub [0, 1, 2, 4] rfl (aX12_watch_b132 N σ c86 hc86 v1 v2 v4 v3)
  refine q_aload_n (i := 0) (x := 0) dX12_watch_123 rfl 0 rfl ?_
  refine q_iload (i := 4) (x := v4) dX12_watch_124 4 rfl ?_
  refine q_cVp mX12_isKnownEcho [.int v4] (st := [.int v3]) dX12_watch_126 (svX12_199) ⟨Nat.le_of_ble_eq_true rfl, Nat.le_of_ble_eq_true rfl⟩ zM_0 rfl rfl rfl (Nat.le_of_ble_eq_true rfl) (kX12_isKnownEcho N v4 σ) (fun y6 => ?_)
  refine q_if_ne (tgt := 136) dX12_watch_129 (by decide) ?_ ?_
  · exact q_sub [0, 1, 2, 4] rfl (aX12_watch_b136 N σ c86 hc86 v1 v2 v4 v3)
  exact q_sub [0, 1, 2, 4] rfl (aX12_watch_b132 N σ c86 hc86 v1 v2 v4 v3)
def fX12_watch_l86 (N : Nat) (σ : qMem) : Nat → Int32 → Int32 → Int32 → Int32 → Option Int32
  | 0 => fun _ _ _ _ => none
  | n + 1 => fun v1 v2 v3 v4 => fX12_watch_s86 N (fX12_watch_l86 N σ n) v1 v2 v3 v4 σ
theorem aX12_watch_l86 (N : Nat) (σ : qMem) : ∀ (n : Nat) (v1 : Int32) (v2 : Int32) (v3 : Int32) (v4 : Int32), qAt wM mX12_watch (ρp σ) 86 [(0, .ref 0), (1, .int v1), (2, .int v2), (3, .int v3), (4, .int v4)] [] σ (fX12_watch_l86 N σ n v1 v2 v3 v4) := by
  intro n
  induction n with
  | zero => intro v1 v2 v3 v4; exact q_none
  | succ n ih => intro v1 v2 v3 v4; exact aX12_watch_s86 N σ (fX12_watch_l86 N σ n) ih v1 v2 v3 v4

def fX12_watch_b83 (N : Nat) (v1 : Int32) (v2 : Int32) (v3 : Int32) (σ : qMem) : Option Int32 :=
  (fX12_watch_l86 N σ N v1 v2 v3 0)
set_option maxRecDepth 20000 in
set_option maxHeartbeats 4000000 in
theorem aX12_watch_b83 (N : Nat) (σ : qMem) (v1 : Int32) (v2 : Int32) (v3 : Int32) : qAt wM mX12_watch (ρp σ) 83 [(0, .ref 0), (1, .int v1), (2, .int v2), (3, .int v3)] [] σ (fX12_watch_b83 N v1 v2 v3 σ) := by
  unfold fX12_watch_b83
  refine q_iconst (v := 0) dX12_watch_83 (by decide) ?_
  refine q_istore (i := 4) (L' := [(4, .int 0), (0, .ref 0), (1, .int v1), (2, .int v2), (3, .int v3)]) dX12_watch_84 (Nat.le_of_ble_eq_true rfl) rfl ?_
  exact q_sub [1, 2, 3, 4, 0] rfl (aX12_watch_l86 N σ N v1 v2 v3 0)

def fX12_watch_b75 (N : Nat) (c25 : Int32 → Int32 → Int32 → Int32 → Option Int32) (v1 : Int32) (v2 : Int32) (v4 : Int32) (u0 : Int32) (u1 : Int32) (σ : qMem) : Option Int32 :=
  (c25 v1 v2 (u0 + u1) (v4 + 1))
set_option maxRecDepth 20000 in
set_option maxHeartbeats 4000000 in
theorem aX12_watch_b75 (N : Nat) (σ : qMem) (c25 : Int32 → Int32 → Int32 → Int32 → Option Int32) (hc25 : ∀ (v1 : Int32) (v2 : Int32) (v3 : Int32) (v4 : Int32) , qAt wM mX12_watch (ρp σ) 25 [(0, .ref 0), (1, .int v1), (2, .int v2), (3, .int v3), (4, .int v4)] [] σ (c25 v1 v2 v3 v4)) (v1 : Int32) (v2 : Int32) (v4 : Int32) (u0 : Int32) (u1 : Int32) : qAt wM mX12_watch (ρp σ) 75 [(0, .ref 0), (1, .int v1), (2, .int v2), (4, .int v4)] [.int u1, .int u0] σ (fX12_watch_b75 N c25 v1 v2 v4 u0 u1 σ) := by
  unfold fX12_watch_b75
  refine q_iadd dX12_watch_75 ?_
  refine q_istore_n (i := 3) (L' := [(3, .int (u0 + u1)), (0, .ref 0), (1, .int v1), (2, .int v2), (4, .int v4)]) dX12_watch_76 rfl (Nat.le_of_ble_eq_true rfl) rfl ?_
  refine q_iinc (i := 4) (x := v4) (v := (v4 + 1)) (L' := [(4, .int (v4 + 1)), (3, .int (u0 + u1)), (0, .ref 0), (1, .int v1), (2, .int v2)]) dX12_watch_77 4 rfl (q_cst v4 (by decide)) (Nat.le_of_ble_eq_true rfl) rfl ?_
  refine q_goto (tgt := 25) dX12_watch_80 (by decide) ?_
  exact q_sub [2, 3, 4, 1, 0] rfl (hc25 v1 v2 (u0 + u1) (v4 + 1))

def fX12_watch_b74 (N : Nat) (c25 : Int32 → Int32 → Int32 → Int32 → Option Int32) (v1 : Int32) (v2 : Int32) (v4 : Int32) (u0 : Int32) (σ : qMem) : Option Int32 :=
  (fX12_watch_b75 N c25 v1 v2 v4 u0 0 σ)
set_option maxRecDepth 20000 in
set_option maxHeartbeats 4000000 in
theorem aX12_watch_b74 (N : Nat) (σ : qMem) (c25 : Int32 → Int32 → Int32 → Int32 → Option Int32) (hc25 : ∀ (v1 : Int32) (v2 : Int32) (v3 : Int32) (v4 : Int32) , qAt wM mX12_watch (ρp σ) 25 [(0, .ref 0), (1, .int v1), (2, .int v2), (3, .int v3), (4, .int v4)] [] σ (c25 v1 v2 v3 v4)) (v1 : Int32) (v2 : Int32) (v4 : Int32) (u0 : Int32) : qAt wM mX12_watch (ρp σ) 74 [(0, .ref 0), (1, .int v1), (2, .int v2), (4, .int v4)] [.int u0] σ (fX12_watch_b74 N c25 v1 v2 v4 u0 σ) := by
  unfold fX12_watch_b74
  refine q_iconst (v := 0) dX12_watch_74 (by decide) ?_
  exact q_sub [0, 1, 2, 3] rfl (aX12_watch_b75 N σ c25 hc25 v1 v2 v4 u0 0)

def fX12_watch_b70 (N : Nat) (c25 : Int32 → Int32 → Int32 → Int32 → Option Int32) (v1 : Int32) (v2 : Int32) (v4 : Int32) (u0 : Int32) (σ : qMem) : Option Int32 :=
  (fX12_watch_b75 N c25 v1 v2 v4 u0 1 σ)
set_option maxRecDepth 20000 in
set_option maxHeartbeats 4000000 in
theorem aX12_watch_b70 (N : Nat) (σ : qMem) (c25 : Int32 → Int32 → Int32 → Int32 → Option Int32) (hc25 : ∀ (v1 : Int32) (v2 : Int32) (v3 : Int32) (v4 : Int32) , qAt wM mX12_watch (ρp σ) 25 [(0, .ref 0), (1, .int v1), (2, .int v2), (3, .int v3), (4, .int v4)] [] σ (c25 v1 v2 v3 v4)) (v1 : Int32) (v2 : Int32) (v4 : Int32) (u0 : Int32) : qAt wM mX12_watch (ρp σ) 70 [(0, .ref 0), (1, .int v1), (2, .int v2), (4, .int v4)] [.int u0] σ (fX12_watch_b70 N c25 v1 v2 v4 u0 σ) := by
  unfold fX12_watch_b70
  refine q_iconst (v := 1) dX12_watch_70 (by decide) ?_
  refine q_goto (tgt := 75) dX12_watch_71 (by decide) ?_
  exact q_sub [0, 1, 2, 3] rfl (aX12_watch_b75 N σ c25 hc25 v1 v2 v4 u0 1)

def fX12_watch_s25 (N : Nat) (c25 : Int32 → Int32 → Int32 → Int32 → Option Int32) (v1 : Int32) (v2 : Int32) (v3 : Int32) (v4 : Int32) (σ : qMem) : Option Int32 :=
  (if ck 300 1112 = true then (if (gi σ 2 (300 : Int32).toNatClampNeg) ≤ v4 then (fX12_watch_b83 N v1 v2 v3 σ) else (if 2 ≤ v2 then (fX12_watch_b83 N v1 v2 v3 σ) else ((fX12_heardOf v4 1 σ).bind fun y3 => (if (y3 / 4) = v1 then (if v2 = 0 then (fX12_watch_b70 N c25 v1 v2 v4 v3 σ) else ((fX12_isKnownHeard N v4 σ).bind fun y4 => (if y4 = 0 then (fX12_watch_b70 N c25 v1 v2 v4 v3 σ) else (fX12_watch_b74 N c25 v1 v2 v4 v3 σ)))) else (fX12_watch_b74 N c25 v1 v2 v4 v3 σ))))) else none)
set_option maxRecDepth 20000 in
set_option maxHeartbeats 4000000 in
theorem aX12_watch_s25 (N : Nat) (σ : qMem) (c25 : Int32 → Int32 → Int32 → Int32 → Option Int32) (hc25 : ∀ (v1 : Int32) (v2 : Int32) (v3 : Int32) (v4 : Int32) , qAt wM mX12_watch (ρp σ) 25 [(0, .ref 0), (1, .int v1), (2, .int v2), (3, .int v3), (4, .int v4)] [] σ (c25 v1 v2 v3 v4)) (v1 : Int32) (v2 : Int32) (v3 : Int32) (v4 : Int32) : qAt wM mX12_watch (ρp σ) 25 [(0, .ref 0), (1, .int v1), (2, .int v2), (3, .int v3), (4, .int v4)] [] σ (fX12_watch_s25 N c25 v1 v2 v3 v4 σ) := by
  unfold fX12_watch_s25
  refine q_iload (i := 4) (x := v4) dX12_watch_25 4 rfl ?_
  refine q_aload_n (i := 0) (x := 0) dX12_watch_27 rfl 0 rfl ?_
  refine q_getr (t := 2) dX12_watch_28 foX12_20 zM_0 rfl ?_
  refine q_sipush (v := 300) dX12_watch_31 (by decide) ?_
  refine q_iald dX12_watch_34 zM_2 ?_
  refine q_icmp_ge (tgt := 83) dX12_watch_35 (by decide) ?_ ?_
  · exact q_sub [0, 1, 2, 3] rfl (aX12_watch_b83 N σ v1 v2 v3)
  refine q_iload_n (i := 2) (x := v2) dX12_watch_38 rfl 2 rfl ?_
  refine q_iconst (v := 2) dX12_watch_39 (by decide) ?_
  refine q_icmp_ge (tgt := 83) dX12_watch_40 (by decide) ?_ ?_
  · exact q_sub [0, 1, 2, 3] rfl (aX12_watch_b83 N σ v1 v2 v3)
  refine q_iload_n (i := 3) (x := v3) dX12_watch_43 rfl 3 rfl ?_
  refine q_aload_n (i := 0) (x := 0) dX12_watch_44 rfl 0 rfl ?_
  refine q_iload (i := 4) (x := v4) dX12_watch_45 4 rfl ?_
  refine q_iconst (v := 1) dX12_watch_47 (by decide) ?_
  refine q_cVp mX12_heardOf [.int v4, .int 1] (st := [.int v3]) dX12_watch_48 (svX12_173) ⟨Nat.le_of_ble_eq_true rfl, Nat.le_of_ble_eq_true rfl⟩ zM_0 rfl rfl rfl (Nat.le_of_ble_eq_true rfl) (kX12_heardOf v4 1 σ) (fun y3 => ?_)
  refine q_iconst (v := 4) dX12_watch_51 (by decide) ?_
  refine q_idiv dX12_watch_52 (by decide) ?_
  refine q_iload_n (i := 1) (x := v1) dX12_watch_53 rfl 1 rfl ?_
  refine q_icmp_ne (tgt := 74) dX12_watch_54 (by decide) ?_ ?_
  · exact q_sub [0, 1, 2, 4] rfl (aX12_watch_b74 N σ c25 hc25 v1 v2 v4 v3)
  refine q_iload_n (i := 2) (x := v2) dX12_watch_57 rfl 2 rfl ?_
  refine q_if_eq (tgt := 70) dX12_watch_58 (by decide) ?_ ?_
  · exact q_sub [0, 1, 2, 4] rfl (aX12_watch_b70 N σ c25 hc25 v1 v2 v4 v3)
  refine q_aload_n (i := 0) (x := 0) dX12_watch_61 rfl 0 rfl ?_
  refine q_iload (i := 4) (x := v4) dX12_watch_62 4 rfl ?_
  refine q_cVp mX12_isKnownHeard [.int v4] (st := [.int v3]) dX12_watch_64 (svX12_196) ⟨Nat.le_of_ble_eq_true rfl, Nat.le_of_ble_eq_true rfl⟩ zM_0 rfl rfl rfl (Nat.le_of_ble_eq_true rfl) (kX12_isKnownHeard N v4 σ) (fun y4 => ?_)
  refine q_if_ne (tgt := 74) dX12_watch_67 (by decide) ?_ ?_
  · exact q_sub [0, 1, 2, 4] rfl (aX12_watch_b74 N σ c25 hc25 v1 v2 v4 v3)
  exact q_sub [0, 1, 2, 4] rfl (aX12_watch_b70 N σ c25 hc25 v1 v2 v4 v3)
def fX12_watch_l25 (N : Nat) (σ : qMem) : Nat → Int32 → Int32 → Int32 → Int32 → Option Int32
  | 0 => fun _ _ _ _ => none
  | n + 1 => fun v1 v2 v3 v4 => fX12_watch_s25 N (fX12_watch_l25 N σ n) v1 v2 v3 v4 σ
theorem aX12_watch_l25 (N : Nat) (σ : qMem) : ∀ (n : Nat) (v1 : Int32) (v2 : Int32) (v3 : Int32) (v4 : Int32), qAt wM mX12_watch (ρp σ) 25 [(0, .ref 0), (1, .int v1), (2, .int v2), (3, .int v3), (4, .int v4)] [] σ (fX12_watch_l25 N σ n v1 v2 v3 v4) := by
  intro n
  induction n with
  | zero => intro v1 v2 v3 v4; exact q_none
  | succ n ih => intro v1 v2 v3 v4; exact aX12_watch_s25 N σ (fX12_watch_l25 N σ n) ih v1 v2 v3 v4

def fX12_watch (N : Nat) (p1 : Int32) (p2 : Int32) (σ : qMem) : Option Int32 :=
  ((fX12_in p1 0 5).bind fun y1 => (if y1 = 0 then (some (-1)) else ((fX12_in p2 0 3).bind fun y2 => (if y2 = 0 then (some (-1)) else (fX12_watch_l25 N σ N p1 p2 0 0)))))
set_option maxRecDepth 20000 in
set_option maxHeartbeats 4000000 in
theorem aX12_watch  (N : Nat) (p1 : Int32) (p2 : Int32)  (σ : qMem) : qAt wM mX12_watch (ρp σ) 0 [(0, .ref 0), (1, .int p1), (2, .int p2)] [] σ (fX12_watch N p1 p2 σ) := by
  unfold fX12_watch
  refine q_iload_n (i := 1) (x := p1) dX12_watch_0 rfl 1 rfl ?_
  refine q_iconst (v := 0) dX12_watch_1 (by decide) ?_
  refine q_iconst (v := 5) dX12_watch_2 (by decide) ?_
  refine q_cSp mX12_in [.int p1, .int 0, .int 5] (st := []) dX12_watch_3 (ssX12_110) ⟨Nat.le_of_ble_eq_true rfl, Nat.le_of_ble_eq_true rfl⟩ rfl rfl (Nat.le_of_ble_eq_true rfl) (kX12_in p1 0 5 σ) (fun y1 => ?_)
  refine q_if_eq (tgt := 18) dX12_watch_6 (by decide) ?_ ?_
  · refine q_iconst (v := (-1)) dX12_watch_18 (by decide) ?_
    exact q_ireti (y := (-1)) dX12_watch_19 rfl rfl
  refine q_iload_n (i := 2) (x := p2) dX12_watch_9 rfl 2 rfl ?_
  refine q_iconst (v := 0) dX12_watch_10 (by decide) ?_
  refine q_iconst (v := 3) dX12_watch_11 (by decide) ?_
  refine q_cSp mX12_in [.int p2, .int 0, .int 3] (st := []) dX12_watch_12 (ssX12_110) ⟨Nat.le_of_ble_eq_true rfl, Nat.le_of_ble_eq_true rfl⟩ rfl rfl (Nat.le_of_ble_eq_true rfl) (kX12_in p2 0 3 σ) (fun y2 => ?_)
  refine q_if_ne (tgt := 20) dX12_watch_15 (by decide) ?_ ?_
  · refine q_iconst (v := 0) dX12_watch_20 (by decide) ?_
    refine q_istore_n (i := 3) (L' := [(3, .int 0), (0, .ref 0), (1, .int p1), (2, .int p2)]) dX12_watch_21 rfl (Nat.le_of_ble_eq_true rfl) rfl ?_
    refine q_iconst (v := 0) dX12_watch_22 (by decide) ?_
    refine q_istore (i := 4) (L' := [(4, .int 0), (3, .int 0), (0, .ref 0), (1, .int p1), (2, .int p2)]) dX12_watch_23 (Nat.le_of_ble_eq_true rfl) rfl ?_
    exact q_sub [2, 3, 4, 1, 0] rfl (aX12_watch_l25 N σ N p1 p2 0 0)
  refine q_iconst (v := (-1)) dX12_watch_18 (by decide) ?_
  exact q_ireti (y := (-1)) dX12_watch_19 rfl rfl
theorem kX12_watch  (N : Nat) (p1 : Int32) (p2 : Int32)  (σ : qMem) : qMc wM mX12_watch (ρp σ) [.ref 0, .int p1, .int p2] σ (fX12_watch N p1 p2 σ) := qMc_of (moX12_watch) (Nat.le_of_ble_eq_true rfl) (aX12_watch N p1 p2  σ)

theorem dX12_newOf_0 : decode cX12_newOf 0 = .ok (.iconst 0, 1) := by decide +kernel
theorem dX12_newOf_1 : decode cX12_newOf 1 = .ok (.istore 4, 2) := by decide +kernel
theorem dX12_newOf_3 : decode cX12_newOf 3 = .ok (.iconst 0, 1) := by decide +kernel
theorem dX12_newOf_4 : decode cX12_newOf 4 = .ok (.istore 5, 2) := by decide +kernel
theorem dX12_newOf_6 : decode cX12_newOf 6 = .ok (.iload 5, 2) := by decide +kernel
theorem dX12_newOf_8 : decode cX12_newOf 8 = .ok (.aload_n 0, 1) := by decide +kernel
theorem dX12_newOf_9 : decode cX12_newOf 9 = .ok (.getfield 208, 3) := by decide +kernel
theorem dX12_newOf_12 : decode cX12_newOf 12 = .ok (.if_icmp .ge 67, 3) := by decide +kernel
theorem dX12_newOf_15 : decode cX12_newOf 15 = .ok (.aload_n 0, 1) := by decide +kernel
theorem dX12_newOf_16 : decode cX12_newOf 16 = .ok (.getfield 36, 3) := by decide +kernel
theorem dX12_newOf_19 : decode cX12_newOf 19 = .ok (.iconst 4, 1) := by decide +kernel
theorem dX12_newOf_20 : decode cX12_newOf 20 = .ok (.iload 5, 2) := by decide +kernel
theorem dX12_newOf_22 : decode cX12_newOf 22 = .ok (.imul, 1) := by decide +kernel
theorem dX12_newOf_23 : decode cX12_newOf 23 = .ok (.iaload, 1) := by decide +kernel
theorem dX12_newOf_24 : decode cX12_newOf 24 = .ok (.iload_n 1, 1) := by decide +kernel
theorem dX12_newOf_25 : decode cX12_newOf 25 = .ok (.if_icmp .ne 48, 3) := by decide +kernel
theorem dX12_newOf_28 : decode cX12_newOf 28 = .ok (.aload_n 0, 1) := by decide +kernel
theorem dX12_newOf_29 : decode cX12_newOf 29 = .ok (.getfield 36, 3) := by decide +kernel
theorem dX12_newOf_32 : decode cX12_newOf 32 = .ok (.iconst 4, 1) := by decide +kernel
theorem dX12_newOf_33 : decode cX12_newOf 33 = .ok (.iload 5, 2) := by decide +kernel
theorem dX12_newOf_35 : decode cX12_newOf 35 = .ok (.imul, 1) := by decide +kernel
theorem dX12_newOf_36 : decode cX12_newOf 36 = .ok (.iconst 1, 1) := by decide +kernel
theorem dX12_newOf_37 : decode cX12_newOf 37 = .ok (.iadd, 1) := by decide +kernel
theorem dX12_newOf_38 : decode cX12_newOf 38 = .ok (.iaload, 1) := by decide +kernel
theorem dX12_newOf_39 : decode cX12_newOf 39 = .ok (.iload_n 2, 1) := by decide +kernel
theorem dX12_newOf_40 : decode cX12_newOf 40 = .ok (.if_icmp .ne 33, 3) := by decide +kernel
theorem dX12_newOf_43 : decode cX12_newOf 43 = .ok (.aload_n 0, 1) := by decide +kernel
theorem dX12_newOf_44 : decode cX12_newOf 44 = .ok (.getfield 36, 3) := by decide +kernel
theorem dX12_newOf_47 : decode cX12_newOf 47 = .ok (.iconst 4, 1) := by decide +kernel
theorem dX12_newOf_48 : decode cX12_newOf 48 = .ok (.iload 5, 2) := by decide +kernel
theorem dX12_newOf_50 : decode cX12_newOf 50 = .ok (.imul, 1) := by decide +kernel
theorem dX12_newOf_51 : decode cX12_newOf 51 = .ok (.iconst 2, 1) := by decide +kernel
theorem dX12_newOf_52 : decode cX12_newOf 52 = .ok (.iadd, 1) := by decide +kernel
theorem dX12_newOf_53 : decode cX12_newOf 53 = .ok (.iaload, 1) := by decide +kernel
theorem dX12_newOf_54 : decode cX12_newOf 54 = .ok (.iconst 1, 1) := by decide +kernel
theorem dX12_newOf_55 : decode cX12_newOf 55 = .ok (.if_icmp .ne 6, 3) := by decide +kernel
theorem dX12_newOf_58 : decode cX12_newOf 58 = .ok (.goto 15, 3) := by decide +kernel
theorem dX12_newOf_61 : decode cX12_newOf 61 = .ok (.iload 4, 2) := by decide +kernel
theorem dX12_newOf_63 : decode cX12_newOf 63 = .ok (.iload_n 3, 1) := by decide +kernel
theorem dX12_newOf_64 : decode cX12_newOf 64 = .ok (.if_icmp .ne 6, 3) := by decide +kernel
theorem dX12_newOf_67 : decode cX12_newOf 67 = .ok (.iload 5, 2) := by decide +kernel
theorem dX12_newOf_69 : decode cX12_newOf 69 = .ok (.ireturn, 1) := by decide +kernel
theorem dX12_newOf_70 : decode cX12_newOf 70 = .ok (.iinc 4 1, 3) := by decide +kernel
theorem dX12_newOf_73 : decode cX12_newOf 73 = .ok (.iinc 5 1, 3) := by decide +kernel
theorem dX12_newOf_76 : decode cX12_newOf 76 = .ok (.goto (-70), 3) := by decide +kernel
theorem dX12_newOf_79 : decode cX12_newOf 79 = .ok (.iconst (-1), 1) := by decide +kernel
theorem dX12_newOf_80 : decode cX12_newOf 80 = .ok (.ireturn, 1) := by decide +kernel
def fX12_newOf_b73 (N : Nat) (c6 : Int32 → Int32 → Int32 → Int32 → Int32 → Option Int32) (v1 : Int32) (v2 : Int32) (v3 : Int32) (v4 : Int32) (v5 : Int32) (σ : qMem) : Option Int32 :=
  (c6 v1 v2 v3 v4 (v5 + 1))
set_option maxRecDepth 20000 in
set_option maxHeartbeats 4000000 in
theorem aX12_newOf_b73 (N : Nat) (σ : qMem) (c6 : Int32 → Int32 → Int32 → Int32 → Int32 → Option Int32) (hc6 : ∀ (v1 : Int32) (v2 : Int32) (v3 : Int32) (v4 : Int32) (v5 : Int32) , qAt wM mX12_newOf (ρp σ) 6 [(0, .ref 0), (1, .int v1), (2, .int v2), (3, .int v3), (4, .int v4), (5, .int v5)] [] σ (c6 v1 v2 v3 v4 v5)) (v1 : Int32) (v2 : Int32) (v3 : Int32) (v4 : Int32) (v5 : Int32) : qAt wM mX12_newOf (ρp σ) 73 [(0, .ref 0), (1, .int v1), (2, .int v2), (3, .int v3), (4, .int v4), (5, .int v5)] [] σ (fX12_newOf_b73 N c6 v1 v2 v3 v4 v5 σ) := by
  unfold fX12_newOf_b73
  refine q_iinc (i := 5) (x := v5) (v := (v5 + 1)) (L' := [(5, .int (v5 + 1)), (0, .ref 0), (1, .int v1), (2, .int v2), (3, .int v3), (4, .int v4)]) dX12_newOf_73 5 rfl (q_cst v5 (by decide)) (Nat.le_of_ble_eq_true rfl) rfl ?_
  refine q_goto (tgt := 6) dX12_newOf_76 (by decide) ?_
  exact q_sub [1, 2, 3, 4, 5, 0] rfl (hc6 v1 v2 v3 v4 (v5 + 1))

def fX12_newOf_s6 (N : Nat) (c6 : Int32 → Int32 → Int32 → Int32 → Int32 → Option Int32) (v1 : Int32) (v2 : Int32) (v3 : Int32) (v4 : Int32) (v5 : Int32) (σ : qMem) : Option Int32 :=
  (if (gi σ 0 10) ≤ v5 then (some (-1)) else (if ck (4 * v5) 144 = true then (if (gi σ 6 (4 * v5).toNatClampNeg) = v1 then (if ck ((4 * v5) + 1) 144 = true then (if (gi σ 6 ((4 * v5) + 1).toNatClampNeg) = v2 then (if ck ((4 * v5) + 2) 144 = true then (if (gi σ 6 ((4 * v5) + 2).toNatClampNeg) = 1 then (fX12_newOf_b73 N c6 v1 v2 v3 v4 v5 σ) else (if v4 = v3 then (some v5) else (fX12_newOf_b73 N c6 v1 v2 v3 (v4 + 1) v5 σ))) else none) else (fX12_newOf_b73 N c6 v1 v2 v3 v4 v5 σ)) else none) else (fX12_newOf_b73 N c6 v1 v2 v3 v4 v5 σ)) else none))
set_option maxRecDepth 20000 in
set_option maxHeartbeats 4000000 in
theorem aX12_newOf_s6 (N : Nat) (σ : qMem) (c6 : Int32 → Int32 → Int32 → Int32 → Int32 → Option Int32) (hc6 : ∀ (v1 : Int32) (v2 : Int32) (v3 : Int32) (v4 : Int32) (v5 : Int32) , qAt wM mX12_newOf (ρp σ) 6 [(0, .ref 0), (1, .int v1), (2, .int v2), (3, .int v3), (4, .int v4), (5, .int v5)] [] σ (c6 v1 v2 v3 v4 v5)) (v1 : Int32) (v2 : Int32) (v3 : Int32) (v4 : Int32) (v5 : Int32) : qAt wM mX12_newOf (ρp σ) 6 [(0, .ref 0), (1, .int v1), (2, .int v2), (3, .int v3), (4, .int v4), (5, .int v5)] [] σ (fX12_newOf_s6 N c6 v1 v2 v3 v4 v5 σ) := by
  unfold fX12_newOf_s6
  refine q_iload (i := 5) (x := v5) dX12_newOf_6 5 rfl ?_
  refine q_aload_n (i := 0) (x := 0) dX12_newOf_8 rfl 0 rfl ?_
  refine q_geti dX12_newOf_9 foX12_208 zM_0 rfl ?_
  refine q_icmp_ge (tgt := 79) dX12_newOf_12 (by decide) ?_ ?_
  · refine q_iconst (v := (-1)) dX12_newOf_79 (by decide) ?_
    exact q_ireti (y := (-1)) dX12_newOf_80 rfl rfl
  refine q_aload_n (i := 0) (x := 0) dX12_newOf_15 rfl 0 rfl ?_
  refine q_getr (t := 6) dX12_newOf_16 foX12_36 zM_0 rfl ?_
  refine q_iconst (v := 4) dX12_newOf_19 (by decide) ?_
  refine q_iload (i := 5) (x := v5) dX12_newOf_20 5 rfl ?_
  refine q_imul dX12_newOf_22 ?_
  refine q_iald dX12_newOf_23 zM_6 ?_
  refine q_iload_n (i := 1) (x := v1) dX12_newOf_24 rfl 1 rfl ?_
  refine q_icmp_ne (tgt := 73) dX12_newOf_25 (by decide) ?_ ?_
  · exact q_sub [0, 1, 2, 3, 4, 5] rfl (aX12_newOf_b73 N σ c6 hc6 v1 v2 v3 v4 v5)
  refine q_aload_n (i := 0) (x := 0) dX12_newOf_28 rfl 0 rfl ?_
  refine q_getr (t := 6) dX12_newOf_29 foX12_36 zM_0 rfl ?_
  refine q_iconst (v := 4) dX12_newOf_32 (by decide) ?_
  refine q_iload (i := 5) (x := v5) dX12_newOf_33 5 rfl ?_
  refine q_imul dX12_newOf_35 ?_
  refine q_iconst (v := 1) dX12_newOf_36 (by decide) ?_
  refine q_iadd dX12_newOf_37 ?_
  refine q_iald dX12_newOf_38 zM_6 ?_
  refine q_iload_n (i := 2) (x := v2) dX12_newOf_39 rfl 2 rfl ?_
  refine q_icmp_ne (tgt := 73) dX12_newOf_40 (by decide) ?_ ?_
  · exact q_sub [0, 1, 2, 3, 4, 5] rfl (aX12_newOf_b73 N σ c6 hc6 v1 v2 v3 v4 v5)
  refine q_aload_n (i := 0) (x := 0) dX12_newOf_43 rfl 0 rfl ?_
  refine q_getr (t := 6) dX12_newOf_44 foX12_36 zM_0 rfl ?_
  refine q_iconst (v := 4) dX12_newOf_47 (by decide) ?_
  refine q_iload (i := 5) (x := v5) dX12_newOf_48 5 rfl ?_
  refine q_imul dX12_newOf_50 ?_
  refine q_iconst (v := 2) dX12_newOf_51 (by decide) ?_
  refine q_iadd dX12_newOf_52 ?_
  refine q_iald dX12_newOf_53 zM_6 ?_
  refine q_iconst (v := 1) dX12_newOf_54 (by decide) ?_
  refine q_icmp_ne (tgt := 61) dX12_newOf_55 (by decide) ?_ ?_
  · refine q_iload (i := 4) (x := v4) dX12_newOf_61 4 rfl ?_
    refine q_iload_n (i := 3) (x := v3) dX12_newOf_63 rfl 3 rfl ?_
    refine q_icmp_ne (tgt := 70) dX12_newOf_64 (by decide) ?_ ?_
    · refine q_iinc (i := 4) (x := v4) (v := (v4 + 1)) (L' := [(4, .int (v4 + 1)), (0, .ref 0), (1, .int v1), (2, .int v2), (3, .int v3), (5, .int v5)]) dX12_newOf_70 4 rfl (q_cst v4 (by decide)) (Nat.le_of_ble_eq_true rfl) rfl ?_
      exact q_sub [1, 2, 3, 4, 0, 5] rfl (aX12_newOf_b73 N σ c6 hc6 v1 v2 v3 (v4 + 1) v5)
    refine q_iload (i := 5) (x := v5) dX12_newOf_67 5 rfl ?_
    exact q_ireti (y := v5) dX12_newOf_69 rfl rfl
  refine q_goto (tgt := 73) dX12_newOf_58 (by decide) ?_
  exact q_sub [0, 1, 2, 3, 4, 5] rfl (aX12_newOf_b73 N σ c6 hc6 v1 v2 v3 v4 v5)
def fX12_newOf_l6 (N : Nat) (σ : qMem) : Nat → Int32 → Int32 → Int32 → Int32 → Int32 → Option Int32
  | 0 => fun _ _ _ _ _ => none
  | n + 1 => fun v1 v2 v3 v4 v5 => fX12_newOf_s6 N (fX12_newOf_l6 N σ n) v1 v2 v3 v4 v5 σ
theorem aX12_newOf_l6 (N : Nat) (σ : qMem) : ∀ (n : Nat) (v1 : Int32) (v2 : Int32) (v3 : Int32) (v4 : Int32) (v5 : Int32), qAt wM mX12_newOf (ρp σ) 6 [(0, .ref 0), (1, .int v1), (2, .int v2), (3, .int v3), (4, .int v4), (5, .int v5)] [] σ (fX12_newOf_l6 N σ n v1 v2 v3 v4 v5) := by
  intro n
  induction n with
  | zero => intro v1 v2 v3 v4 v5; exact q_none
  | succ n ih => intro v1 v2 v3 v4 v5; exact aX12_newOf_s6 N σ (fX12_newOf_l6 N σ n) ih v1 v2 v3 v4 v5

def fX12_newOf (N : Nat) (p1 : Int32) (p2 : Int32) (p3 : Int32) (σ : qMem) : Option Int32 :=
  (fX12_newOf_l6 N σ N p1 p2 p3 0 0)
set_option maxRecDepth 20000 in
set_option maxHeartbeats 4000000 in
theorem aX12_newOf  (N : Nat) (p1 : Int32) (p2 : Int32) (p3 : Int32)  (σ : qMem) : qAt wM mX12_newOf (ρp σ) 0 [(0, .ref 0), (1, .int p1), (2, .int p2), (3, .int p3)] [] σ (fX12_newOf N p1 p2 p3 σ) := by
  unfold fX12_newOf
  refine q_iconst (v := 0) dX12_newOf_0 (by decide) ?_
  refine q_istore (i := 4) (L' := [(4, .int 0), (0, .ref 0), (1, .int p1), (2, .int p2), (3, .int p3)]) dX12_newOf_1 (Nat.le_of_ble_eq_true rfl) rfl ?_
  refine q_iconst (v := 0) dX12_newOf_3 (by decide) ?_
  refine q_istore (i := 5) (L' := [(5, .int 0), (4, .int 0), (0, .ref 0), (1, .int p1), (2, .int p2), (3, .int p3)]) dX12_newOf_4 (Nat.le_of_ble_eq_true rfl) rfl ?_
  exact q_sub [2, 3, 4, 5, 1, 0] rfl (aX12_newOf_l6 N σ N p1 p2 p3 0 0)
theorem kX12_newOf  (N : Nat) (p1 : Int32) (p2 : Int32) (p3 : Int32)  (σ : qMem) : qMc wM mX12_newOf (ρp σ) [.ref 0, .int p1, .int p2, .int p3] σ (fX12_newOf N p1 p2 p3 σ) := qMc_of (moX12_newOf) (Nat.le_of_ble_eq_true rfl) (aX12_newOf N p1 p2 p3  σ)

theorem dX12_newsOf_0 : decode cX12_newsOf 0 = .ok (.iconst 0, 1) := by decide +kernel
theorem dX12_newsOf_1 : decode cX12_newsOf 1 = .ok (.istore_n 3, 1) := by decide +kernel
theorem dX12_newsOf_2 : decode cX12_newsOf 2 = .ok (.aload_n 0, 1) := by decide +kernel
theorem dX12_newsOf_3 : decode cX12_newsOf 3 = .ok (.iload_n 1, 1) := by decide +kernel
theorem dX12_newsOf_4 : decode cX12_newsOf 4 = .ok (.iload_n 2, 1) := by decide +kernel
theorem dX12_newsOf_5 : decode cX12_newsOf 5 = .ok (.iload_n 3, 1) := by decide +kernel
theorem dX12_newsOf_6 : decode cX12_newsOf 6 = .ok (.invokevirtual 294, 3) := by decide +kernel
theorem dX12_newsOf_9 : decode cX12_newsOf 9 = .ok (.iconst (-1), 1) := by decide +kernel
theorem dX12_newsOf_10 : decode cX12_newsOf 10 = .ok (.if_icmp .eq 9, 3) := by decide +kernel
theorem dX12_newsOf_13 : decode cX12_newsOf 13 = .ok (.iinc 3 1, 3) := by decide +kernel
theorem dX12_newsOf_16 : decode cX12_newsOf 16 = .ok (.goto (-14), 3) := by decide +kernel
theorem dX12_newsOf_19 : decode cX12_newsOf 19 = .ok (.iload_n 3, 1) := by decide +kernel
theorem dX12_newsOf_20 : decode cX12_newsOf 20 = .ok (.ireturn, 1) := by decide +kernel
def fX12_newsOf_s2 (N : Nat) (c2 : Int32 → Int32 → Int32 → Option Int32) (v1 : Int32) (v2 : Int32) (v3 : Int32) (σ : qMem) : Option Int32 :=
  ((fX12_newOf N v1 v2 v3 σ).bind fun y1 => (if y1 = (-1) then (some v3) else (c2 v1 v2 (v3 + 1))))
set_option maxRecDepth 20000 in
set_option maxHeartbeats 4000000 in
theorem aX12_newsOf_s2 (N : Nat) (σ : qMem) (c2 : Int32 → Int32 → Int32 → Option Int32) (hc2 : ∀ (v1 : Int32) (v2 : Int32) (v3 : Int32) , qAt wM mX12_newsOf (ρp σ) 2 [(0, .ref 0), (1, .int v1), (2, .int v2), (3, .int v3)] [] σ (c2 v1 v2 v3)) (v1 : Int32) (v2 : Int32) (v3 : Int32) : qAt wM mX12_newsOf (ρp σ) 2 [(0, .ref 0), (1, .int v1), (2, .int v2), (3, .int v3)] [] σ (fX12_newsOf_s2 N c2 v1 v2 v3 σ) := by
  unfold fX12_newsOf_s2
  refine q_aload_n (i := 0) (x := 0) dX12_newsOf_2 rfl 0 rfl ?_
  refine q_iload_n (i := 1) (x := v1) dX12_newsOf_3 rfl 1 rfl ?_
  refine q_iload_n (i := 2) (x := v2) dX12_newsOf_4 rfl 2 rfl ?_
  refine q_iload_n (i := 3) (x := v3) dX12_newsOf_5 rfl 3 rfl ?_
  refine q_cVp mX12_newOf [.int v1, .int v2, .int v3] (st := []) dX12_newsOf_6 (svX12_294) ⟨Nat.le_of_ble_eq_true rfl, Nat.le_of_ble_eq_true rfl⟩ zM_0 rfl rfl rfl (Nat.le_of_ble_eq_true rfl) (kX12_newOf N v1 v2 v3 σ) (fun y1 => ?_)
  refine q_iconst (v := (-1)) dX12_newsOf_9 (by decide) ?_
  refine q_icmp_eq (tgt := 19) dX12_newsOf_10 (by decide) ?_ ?_
  · refine q_iload_n (i := 3) (x := v3) dX12_newsOf_19 rfl 3 rfl ?_
    exact q_ireti (y := v3) dX12_newsOf_20 rfl rfl
  refine q_iinc (i := 3) (x := v3) (v := (v3 + 1)) (L' := [(3, .int (v3 + 1)), (0, .ref 0), (1, .int v1), (2, .int v2)]) dX12_newsOf_13 3 rfl (q_cst v3 (by decide)) (Nat.le_of_ble_eq_true rfl) rfl ?_
  refine q_goto (tgt := 2) dX12_newsOf_16 (by decide) ?_
  exact q_sub [1, 2, 3, 0] rfl (hc2 v1 v2 (v3 + 1))
def fX12_newsOf_l2 (N : Nat) (σ : qMem) : Nat → Int32 → Int32 → Int32 → Option Int32
  | 0 => fun _ _ _ => none
  | n + 1 => fun v1 v2 v3 => fX12_newsOf_s2 N (fX12_newsOf_l2 N σ n) v1 v2 v3 σ
theorem aX12_newsOf_l2 (N : Nat) (σ : qMem) : ∀ (n : Nat) (v1 : Int32) (v2 : Int32) (v3 : Int32), qAt wM mX12_newsOf (ρp σ) 2 [(0, .ref 0), (1, .int v1), (2, .int v2), (3, .int v3)] [] σ (fX12_newsOf_l2 N σ n v1 v2 v3) := by
  intro n
  induction n with
  | zero => intro v1 v2 v3; exact q_none
  | succ n ih => intro v1 v2 v3; exact aX12_newsOf_s2 N σ (fX12_newsOf_l2 N σ n) ih v1 v2 v3

def fX12_newsOf (N : Nat) (p1 : Int32) (p2 : Int32) (σ : qMem) : Option Int32 :=
  (fX12_newsOf_l2 N σ N p1 p2 0)
set_option maxRecDepth 20000 in
set_option maxHeartbeats 4000000 in
theorem aX12_newsOf  (N : Nat) (p1 : Int32) (p2 : Int32)  (σ : qMem) : qAt wM mX12_newsOf (ρp σ) 0 [(0, .ref 0), (1, .int p1), (2, .int p2)] [] σ (fX12_newsOf N p1 p2 σ) := by
  unfold fX12_newsOf
  refine q_iconst (v := 0) dX12_newsOf_0 (by decide) ?_
  refine q_istore_n (i := 3) (L' := [(3, .int 0), (0, .ref 0), (1, .int p1), (2, .int p2)]) dX12_newsOf_1 rfl (Nat.le_of_ble_eq_true rfl) rfl ?_
  exact q_sub [1, 2, 3, 0] rfl (aX12_newsOf_l2 N σ N p1 p2 0)
theorem kX12_newsOf  (N : Nat) (p1 : Int32) (p2 : Int32)  (σ : qMem) : qMc wM mX12_newsOf (ρp σ) [.ref 0, .int p1, .int p2] σ (fX12_newsOf N p1 p2 σ) := qMc_of (moX12_newsOf) (Nat.le_of_ble_eq_true rfl) (aX12_newsOf N p1 p2  σ)

theorem dX12_crosses_0 : decode cX12_crosses 0 = .ok (.iconst 0, 1) := by decide +kernel
theorem dX12_crosses_1 : decode cX12_crosses 1 = .ok (.istore 4, 2) := by decide +kernel
theorem dX12_crosses_3 : decode cX12_crosses 3 = .ok (.iconst 0, 1) := by decide +kernel
theorem dX12_crosses_4 : decode cX12_crosses 4 = .ok (.istore 5, 2) := by decide +kernel
theorem dX12_crosses_6 : decode cX12_crosses 6 = .ok (.iload 5, 2) := by decide +kernel
theorem dX12_crosses_8 : decode cX12_crosses 8 = .ok (.bipush 32, 2) := by decide +kernel
theorem dX12_crosses_10 : decode cX12_crosses 10 = .ok (.if_icmp .ge 61, 3) := by decide +kernel
theorem dX12_crosses_13 : decode cX12_crosses 13 = .ok (.iconst 0, 1) := by decide +kernel
theorem dX12_crosses_14 : decode cX12_crosses 14 = .ok (.istore 6, 2) := by decide +kernel
theorem dX12_crosses_16 : decode cX12_crosses 16 = .ok (.iload 6, 2) := by decide +kernel
theorem dX12_crosses_18 : decode cX12_crosses 18 = .ok (.bipush 32, 2) := by decide +kernel
theorem dX12_crosses_20 : decode cX12_crosses 20 = .ok (.if_icmp .ge 45, 3) := by decide +kernel
theorem dX12_crosses_23 : decode cX12_crosses 23 = .ok (.iload 4, 2) := by decide +kernel
theorem dX12_crosses_25 : decode cX12_crosses 25 = .ok (.aload_n 0, 1) := by decide +kernel
theorem dX12_crosses_26 : decode cX12_crosses 26 = .ok (.iload_n 2, 1) := by decide +kernel
theorem dX12_crosses_27 : decode cX12_crosses 27 = .ok (.iload_n 1, 1) := by decide +kernel
theorem dX12_crosses_28 : decode cX12_crosses 28 = .ok (.iload 5, 2) := by decide +kernel
theorem dX12_crosses_30 : decode cX12_crosses 30 = .ok (.iload 6, 2) := by decide +kernel
theorem dX12_crosses_32 : decode cX12_crosses 32 = .ok (.invokevirtual 215, 3) := by decide +kernel
theorem dX12_crosses_35 : decode cX12_crosses 35 = .ok (.ifCond .eq 20, 3) := by decide +kernel
theorem dX12_crosses_38 : decode cX12_crosses 38 = .ok (.aload_n 0, 1) := by decide +kernel
theorem dX12_crosses_39 : decode cX12_crosses 39 = .ok (.iload_n 3, 1) := by decide +kernel
theorem dX12_crosses_40 : decode cX12_crosses 40 = .ok (.iload_n 1, 1) := by decide +kernel
theorem dX12_crosses_41 : decode cX12_crosses 41 = .ok (.iload 5, 2) := by decide +kernel
theorem dX12_crosses_43 : decode cX12_crosses 43 = .ok (.iload 6, 2) := by decide +kernel
theorem dX12_crosses_45 : decode cX12_crosses 45 = .ok (.invokevirtual 215, 3) := by decide +kernel
theorem dX12_crosses_48 : decode cX12_crosses 48 = .ok (.ifCond .eq 7, 3) := by decide +kernel
theorem dX12_crosses_51 : decode cX12_crosses 51 = .ok (.iconst 1, 1) := by decide +kernel
theorem dX12_crosses_52 : decode cX12_crosses 52 = .ok (.goto 4, 3) := by decide +kernel
theorem dX12_crosses_55 : decode cX12_crosses 55 = .ok (.iconst 0, 1) := by decide +kernel
theorem dX12_crosses_56 : decode cX12_crosses 56 = .ok (.iadd, 1) := by decide +kernel
theorem dX12_crosses_57 : decode cX12_crosses 57 = .ok (.istore 4, 2) := by decide +kernel
theorem dX12_crosses_59 : decode cX12_crosses 59 = .ok (.iinc 6 1, 3) := by decide +kernel
theorem dX12_crosses_62 : decode cX12_crosses 62 = .ok (.goto (-46), 3) := by decide +kernel
theorem dX12_crosses_65 : decode cX12_crosses 65 = .ok (.iinc 5 1, 3) := by decide +kernel
theorem dX12_crosses_68 : decode cX12_crosses 68 = .ok (.goto (-62), 3) := by decide +kernel
theorem dX12_crosses_71 : decode cX12_crosses 71 = .ok (.iload 4, 2) := by decide +kernel
theorem dX12_crosses_73 : decode cX12_crosses 73 = .ok (.ireturn, 1) := by decide +kernel
def fX12_crosses_b56 (N : Nat) (c6 : Int32 → Int32 → Int32 → Int32 → Int32 → qMem → Option (Int32 × qMem)) (c16 : Int32 → Int32 → Int32 → Int32 → Int32 → Int32 → qMem → Option (Int32 × qMem)) (v1 : Int32) (v2 : Int32) (v3 : Int32) (v5 : Int32) (v6 : Int32) (u0 : Int32) (u1 : Int32) (σ : qMem) : Option (Int32 × qMem) :=
  (c16 v1 v2 v3 (u0 + u1) v5 (v6 + 1) σ)
set_option maxRecDepth 20000 in
set_option maxHeartbeats 4000000 in
theorem aX12_crosses_b56 (N : Nat) (c6 : Int32 → Int32 → Int32 → Int32 → Int32 → qMem → Option (Int32 × qMem)) (c16 : Int32 → Int32 → Int32 → Int32 → Int32 → Int32 → qMem → Option (Int32 × qMem)) (hc6 : ∀ (v1 : Int32) (v2 : Int32) (v3 : Int32) (v4 : Int32) (v5 : Int32) (σ : qMem), qAt wM mX12_crosses (ρi) 6 [(0, .ref 0), (1, .int v1), (2, .int v2), (3, .int v3), (4, .int v4), (5, .int v5)] [] σ (c6 v1 v2 v3 v4 v5 σ)) (hc16 : ∀ (v1 : Int32) (v2 : Int32) (v3 : Int32) (v4 : Int32) (v5 : Int32) (v6 : Int32) (σ : qMem), qAt wM mX12_crosses (ρi) 16 [(0, .ref 0), (1, .int v1), (2, .int v2), (3, .int v3), (4, .int v4), (5, .int v5), (6, .int v6)] [] σ (c16 v1 v2 v3 v4 v5 v6 σ)) (v1 : Int32) (v2 : Int32) (v3 : Int32) (v5 : Int32) (v6 : Int32) (u0 : Int32) (u1 : Int32) (σ : qMem) : qAt wM mX12_crosses (ρi) 56 [(0, .ref 0), (1, .int v1), (2, .int v2), (3, .int v3), (5, .int v5), (6, .int v6)] [.int u1, .int u0] σ (fX12_crosses_b56 N c6 c16 v1 v2 v3 v5 v6 u0 u1 σ) := by
  unfold fX12_crosses_b56
  refine q_iadd dX12_crosses_56 ?_
  refine q_istore (i := 4) (L' := [(4, .int (u0 + u1)), (0, .ref 0), (1, .int v1), (2, .int v2), (3, .int v3), (5, .int v5), (6, .int v6)]) dX12_crosses_57 (Nat.le_of_ble_eq_true rfl) rfl ?_
  refine q_iinc (i := 6) (x := v6) (v := (v6 + 1)) (L' := [(6, .int (v6 + 1)), (4, .int (u0 + u1)), (0, .ref 0), (1, .int v1), (2, .int v2), (3, .int v3), (5, .int v5)]) dX12_crosses_59 6 rfl (q_cst v6 (by decide)) (Nat.le_of_ble_eq_true rfl) rfl ?_
  refine q_goto (tgt := 16) dX12_crosses_62 (by decide) ?_
  exact q_sub [2, 3, 4, 5, 1, 6, 0] rfl (hc16 v1 v2 v3 (u0 + u1) v5 (v6 + 1) σ)

def fX12_crosses_b55 (N : Nat) (c6 : Int32 → Int32 → Int32 → Int32 → Int32 → qMem → Option (Int32 × qMem)) (c16 : Int32 → Int32 → Int32 → Int32 → Int32 → Int32 → qMem → Option (Int32 × qMem)) (v1 : Int32) (v2 : Int32) (v3 : Int32) (v5 : Int32) (v6 : Int32) (u0 : Int32) (σ : qMem) : Option (Int32 × qMem) :=
  (fX12_crosses_b56 N c6 c16 v1 v2 v3 v5 v6 u0 0 σ)
set_option maxRecDepth 20000 in
set_option maxHeartbeats 4000000 in
theorem aX12_crosses_b55 (N : Nat) (c6 : Int32 → Int32 → Int32 → Int32 → Int32 → qMem → Option (Int32 × qMem)) (c16 : Int32 → Int32 → Int32 → Int32 → Int32 → Int32 → qMem → Option (Int32 × qMem)) (hc6 : ∀ (v1 : Int32) (v2 : Int32) (v3 : Int32) (v4 : Int32) (v5 : Int32) (σ : qMem), qAt wM mX12_crosses (ρi) 6 [(0, .ref 0), (1, .int v1), (2, .int v2), (3, .int v3), (4, .int v4), (5, .int v5)] [] σ (c6 v1 v2 v3 v4 v5 σ)) (hc16 : ∀ (v1 : Int32) (v2 : Int32) (v3 : Int32) (v4 : Int32) (v5 : Int32) (v6 : Int32) (σ : qMem), qAt wM mX12_crosses (ρi) 16 [(0, .ref 0), (1, .int v1), (2, .int v2), (3, .int v3), (4, .int v4), (5, .int v5), (6, .int v6)] [] σ (c16 v1 v2 v3 v4 v5 v6 σ)) (v1 : Int32) (v2 : Int32) (v3 : Int32) (v5 : Int32) (v6 : Int32) (u0 : Int32) (σ : qMem) : qAt wM mX12_crosses (ρi) 55 [(0, .ref 0), (1, .int v1), (2, .int v2), (3, .int v3), (5, .int v5), (6, .int v6)] [.int u0] σ (fX12_crosses_b55 N c6 c16 v1 v2 v3 v5 v6 u0 σ) := by
  unfold fX12_crosses_b55
  refine q_iconst (v := 0) dX12_crosses_55 (by decide) ?_
  exact q_sub [0, 1, 2, 3, 4, 5] rfl (aX12_crosses_b56 N c6 c16 hc6 hc16 v1 v2 v3 v5 v6 u0 0 σ)

def fX12_crosses_s16 (N : Nat) (c6 : Int32 → Int32 → Int32 → Int32 → Int32 → qMem → Option (Int32 × qMem)) (c16 : Int32 → Int32 → Int32 → Int32 → Int32 → Int32 → qMem → Option (Int32 × qMem)) (v1 : Int32) (v2 : Int32) (v3 : Int32) (v4 : Int32) (v5 : Int32) (v6 : Int32) (σ : qMem) : Option (Int32 × qMem) :=
  (if 32 ≤ v6 then (c6 v1 v2 v3 v4 (v5 + 1) σ) else ((fX12_isFit N v2 v1 v5 v6 σ).bind fun y1 => (if y1.1 = 0 then (fX12_crosses_b55 N c6 c16 v1 v2 v3 v5 v6 v4 y1.2) else ((fX12_isFit N v3 v1 v5 v6 y1.2).bind fun y2 => (if y2.1 = 0 then (fX12_crosses_b55 N c6 c16 v1 v2 v3 v5 v6 v4 y2.2) else (fX12_crosses_b56 N c6 c16 v1 v2 v3 v5 v6 v4 1 y2.2))))))
set_option maxRecDepth 20000 in
set_option maxHeartbeats 4000000 in
theorem aX12_crosses_s16 (N : Nat) (c6 : Int32 → Int32 → Int32 → Int32 → Int32 → qMem → Option (Int32 × qMem)) (hc6 : ∀ (v1 : Int32) (v2 : Int32) (v3 : Int32) (v4 : Int32) (v5 : Int32) (σ : qMem), qAt wM mX12_crosses (ρi) 6 [(0, .ref 0), (1, .int v1), (2, .int v2), (3, .int v3), (4, .int v4), (5, .int v5)] [] σ (c6 v1 v2 v3 v4 v5 σ)) (c16 : Int32 → Int32 → Int32 → Int32 → Int32 → Int32 → qMem → Option (Int32 × qMem)) (hc16 : ∀ (v1 : Int32) (v2 : Int32) (v3 : Int32) (v4 : Int32) (v5 : Int32) (v6 : Int32) (σ : qMem), qAt wM mX12_crosses (ρi) 16 [(0, .ref 0), (1, .int v1), (2, .int v2), (3, .int v3), (4, .int v4), (5, .int v5), (6, .int v6)] [] σ (c16 v1 v2 v3 v4 v5 v6 σ)) (v1 : Int32) (v2 : Int32) (v3 : Int32) (v4 : Int32) (v5 : Int32) (v6 : Int32) (σ : qMem) : qAt wM mX12_crosses (ρi) 16 [(0, .ref 0), (1, .int v1), (2, .int v2), (3, .int v3), (4, .int v4), (5, .int v5), (6, .int v6)] [] σ (fX12_crosses_s16 N c6 c16 v1 v2 v3 v4 v5 v6 σ) := by
  unfold fX12_crosses_s16
  refine q_iload (i := 6) (x := v6) dX12_crosses_16 6 rfl ?_
  refine q_bipush (v := 32) dX12_crosses_18 (by decide) ?_
  refine q_icmp_ge (tgt := 65) dX12_crosses_20 (by decide) ?_ ?_
  · refine q_iinc (i := 5) (x := v5) (v := (v5 + 1)) (L' := [(5, .int (v5 + 1)), (0, .ref 0), (1, .int v1), (2, .int v2), (3, .int v3), (4, .int v4), (6, .int v6)]) dX12_crosses_65 5 rfl (q_cst v5 (by decide)) (Nat.le_of_ble_eq_true rfl) rfl ?_
    refine q_goto (tgt := 6) dX12_crosses_68 (by decide) ?_
    exact q_sub [1, 2, 3, 4, 5, 0] rfl (hc6 v1 v2 v3 v4 (v5 + 1) σ)
  refine q_iload (i := 4) (x := v4) dX12_crosses_23 4 rfl ?_
  refine q_aload_n (i := 0) (x := 0) dX12_crosses_25 rfl 0 rfl ?_
  refine q_iload_n (i := 2) (x := v2) dX12_crosses_26 rfl 2 rfl ?_
  refine q_iload_n (i := 1) (x := v1) dX12_crosses_27 rfl 1 rfl ?_
  refine q_iload (i := 5) (x := v5) dX12_crosses_28 5 rfl ?_
  refine q_iload (i := 6) (x := v6) dX12_crosses_30 6 rfl ?_
  refine q_cVi mX12_isFit [.int v2, .int v1, .int v5, .int v6] (st := [.int v4]) dX12_crosses_32 (svX12_215) ⟨Nat.le_of_ble_eq_true rfl, Nat.le_of_ble_eq_true rfl⟩ zM_0 rfl rfl rfl (Nat.le_of_ble_eq_true rfl) (kX12_isFit N v2 v1 v5 v6 σ) (fun y1 => ?_)
  refine q_if_eq (tgt := 55) dX12_crosses_35 (by decide) ?_ ?_
  · exact q_sub [0, 1, 2, 3, 5, 6] rfl (aX12_crosses_b55 N c6 c16 hc6 hc16 v1 v2 v3 v5 v6 v4 y1.2)
  refine q_aload_n (i := 0) (x := 0) dX12_crosses_38 rfl 0 rfl ?_
  refine q_iload_n (i := 3) (x := v3) dX12_crosses_39 rfl 3 rfl ?_
  refine q_iload_n (i := 1) (x := v1) dX12_crosses_40 rfl 1 rfl ?_
  refine q_iload (i := 5) (x := v5) dX12_crosses_41 5 rfl ?_
  refine q_iload (i := 6) (x := v6) dX12_crosses_43 6 rfl ?_
  refine q_cVi mX12_isFit [.int v3, .int v1, .int v5, .int v6] (st := [.int v4]) dX12_crosses_45 (svX12_215) ⟨Nat.le_of_ble_eq_true rfl, Nat.le_of_ble_eq_true rfl⟩ zM_0 rfl rfl rfl (Nat.le_of_ble_eq_true rfl) (kX12_isFit N v3 v1 v5 v6 y1.2) (fun y2 => ?_)
  refine q_if_eq (tgt := 55) dX12_crosses_48 (by decide) ?_ ?_
  · exact q_sub [0, 1, 2, 3, 5, 6] rfl (aX12_crosses_b55 N c6 c16 hc6 hc16 v1 v2 v3 v5 v6 v4 y2.2)
  refine q_iconst (v := 1) dX12_crosses_51 (by decide) ?_
  refine q_goto (tgt := 56) dX12_crosses_52 (by decide) ?_
  exact q_sub [0, 1, 2, 3, 5, 6] rfl (aX12_crosses_b56 N c6 c16 hc6 hc16 v1 v2 v3 v5 v6 v4 1 y2.2)
def fX12_crosses_l16 (N : Nat) (c6 : Int32 → Int32 → Int32 → Int32 → Int32 → qMem → Option (Int32 × qMem)) : Nat → Int32 → Int32 → Int32 → Int32 → Int32 → Int32 → qMem → Option (Int32 × qMem)
  | 0 => fun _ _ _ _ _ _ _ => none
  | n + 1 => fun v1 v2 v3 v4 v5 v6 σ => fX12_crosses_s16 N c6 (fX12_crosses_l16 N c6 n) v1 v2 v3 v4 v5 v6 σ
theorem aX12_crosses_l16 (N : Nat) (c6 : Int32 → Int32 → Int32 → Int32 → Int32 → qMem → Option (Int32 × qMem)) (hc6 : ∀ (v1 : Int32) (v2 : Int32) (v3 : Int32) (v4 : Int32) (v5 : Int32) (σ : qMem), qAt wM mX12_crosses (ρi) 6 [(0, .ref 0), (1, .int v1), (2, .int v2), (3, .int v3), (4, .int v4), (5, .int v5)] [] σ (c6 v1 v2 v3 v4 v5 σ)) : ∀ (n : Nat) (v1 : Int32) (v2 : Int32) (v3 : Int32) (v4 : Int32) (v5 : Int32) (v6 : Int32) (σ : qMem), qAt wM mX12_crosses (ρi) 16 [(0, .ref 0), (1, .int v1), (2, .int v2), (3, .int v3), (4, .int v4), (5, .int v5), (6, .int v6)] [] σ (fX12_crosses_l16 N c6 n v1 v2 v3 v4 v5 v6 σ) := by
  intro n
  induction n with
  | zero => intro v1 v2 v3 v4 v5 v6 σ; exact q_none
  | succ n ih => intro v1 v2 v3 v4 v5 v6 σ; exact aX12_crosses_s16 N c6 hc6 (fX12_crosses_l16 N c6 n) ih v1 v2 v3 v4 v5 v6 σ

def fX12_crosses_s6 (N : Nat) (c6 : Int32 → Int32 → Int32 → Int32 → Int32 → qMem → Option (Int32 × qMem)) (v1 : Int32) (v2 : Int32) (v3 : Int32) (v4 : Int32) (v5 : Int32) (σ : qMem) : Option (Int32 × qMem) :=
  (if 32 ≤ v5 then (some (v4, σ)) else (fX12_crosses_l16 N c6 N v1 v2 v3 v4 v5 0 σ))
set_option maxRecDepth 20000 in
set_option maxHeartbeats 4000000 in
theorem aX12_crosses_s6 (N : Nat) (c6 : Int32 → Int32 → Int32 → Int32 → Int32 → qMem → Option (Int32 × qMem)) (hc6 : ∀ (v1 : Int32) (v2 : Int32) (v3 : Int32) (v4 : Int32) (v5 : Int32) (σ : qMem), qAt wM mX12_crosses (ρi) 6 [(0, .ref 0), (1, .int v1), (2, .int v2), (3, .int v3), (4, .int v4), (5, .int v5)] [] σ (c6 v1 v2 v3 v4 v5 σ)) (v1 : Int32) (v2 : Int32) (v3 : Int32) (v4 : Int32) (v5 : Int32) (σ : qMem) : qAt wM mX12_crosses (ρi) 6 [(0, .ref 0), (1, .int v1), (2, .int v2), (3, .int v3), (4, .int v4), (5, .int v5)] [] σ (fX12_crosses_s6 N c6 v1 v2 v3 v4 v5 σ) := by
  unfold fX12_crosses_s6
  refine q_iload (i := 5) (x := v5) dX12_crosses_6 5 rfl ?_
  refine q_bipush (v := 32) dX12_crosses_8 (by decide) ?_
  refine q_icmp_ge (tgt := 71) dX12_crosses_10 (by decide) ?_ ?_
  · refine q_iload (i := 4) (x := v4) dX12_crosses_71 4 rfl ?_
    exact q_ireti (y := (v4, σ)) dX12_crosses_73 rfl rfl
  refine q_iconst (v := 0) dX12_crosses_13 (by decide) ?_
  refine q_istore (i := 6) (L' := [(6, .int 0), (0, .ref 0), (1, .int v1), (2, .int v2), (3, .int v3), (4, .int v4), (5, .int v5)]) dX12_crosses_14 (Nat.le_of_ble_eq_true rfl) rfl ?_
  exact q_sub [1, 2, 3, 4, 5, 6, 0] rfl (aX12_crosses_l16 N c6 hc6 N v1 v2 v3 v4 v5 0 σ)
def fX12_crosses_l6 (N : Nat) : Nat → Int32 → Int32 → Int32 → Int32 → Int32 → qMem → Option (Int32 × qMem)
  | 0 => fun _ _ _ _ _ _ => none
  | n + 1 => fun v1 v2 v3 v4 v5 σ => fX12_crosses_s6 N (fX12_crosses_l6 N n) v1 v2 v3 v4 v5 σ
theorem aX12_crosses_l6 (N : Nat) : ∀ (n : Nat) (v1 : Int32) (v2 : Int32) (v3 : Int32) (v4 : Int32) (v5 : Int32) (σ : qMem), qAt wM mX12_crosses (ρi) 6 [(0, .ref 0), (1, .int v1), (2, .int v2), (3, .int v3), (4, .int v4), (5, .int v5)] [] σ (fX12_crosses_l6 N n v1 v2 v3 v4 v5 σ) := by
  intro n
  induction n with
  | zero => intro v1 v2 v3 v4 v5 σ; exact q_none
  | succ n ih => intro v1 v2 v3 v4 v5 σ; exact aX12_crosses_s6 N (fX12_crosses_l6 N n) ih v1 v2 v3 v4 v5 σ

def fX12_crosses (N : Nat) (p1 : Int32) (p2 : Int32) (p3 : Int32) (σ : qMem) : Option (Int32 × qMem) :=
  (fX12_crosses_l6 N N p1 p2 p3 0 0 σ)
set_option maxRecDepth 20000 in
set_option maxHeartbeats 4000000 in
theorem aX12_crosses  (N : Nat) (p1 : Int32) (p2 : Int32) (p3 : Int32)  (σ : qMem) : qAt wM mX12_crosses (ρi) 0 [(0, .ref 0), (1, .int p1), (2, .int p2), (3, .int p3)] [] σ (fX12_crosses N p1 p2 p3 σ) := by
  unfold fX12_crosses
  refine q_iconst (v := 0) dX12_crosses_0 (by decide) ?_
  refine q_istore (i := 4) (L' := [(4, .int 0), (0, .ref 0), (1, .int p1), (2, .int p2), (3, .int p3)]) dX12_crosses_1 (Nat.le_of_ble_eq_true rfl) rfl ?_
  refine q_iconst (v := 0) dX12_crosses_3 (by decide) ?_
  refine q_istore (i := 5) (L' := [(5, .int 0), (4, .int 0), (0, .ref 0), (1, .int p1), (2, .int p2), (3, .int p3)]) dX12_crosses_4 (Nat.le_of_ble_eq_true rfl) rfl ?_
  exact q_sub [2, 3, 4, 5, 1, 0] rfl (aX12_crosses_l6 N N p1 p2 p3 0 0 σ)
theorem kX12_crosses  (N : Nat) (p1 : Int32) (p2 : Int32) (p3 : Int32)  (σ : qMem) : qMc wM mX12_crosses (ρi) [.ref 0, .int p1, .int p2, .int p3] σ (fX12_crosses N p1 p2 p3 σ) := qMc_of (moX12_crosses) (Nat.le_of_ble_eq_true rfl) (aX12_crosses N p1 p2 p3  σ)

theorem dX12_cross_0 : decode cX12_cross 0 = .ok (.iload_n 1, 1) := by decide +kernel
theorem dX12_cross_1 : decode cX12_cross 1 = .ok (.invokestatic 132, 3) := by decide +kernel
theorem dX12_cross_4 : decode cX12_cross 4 = .ok (.ifCond .ne 5, 3) := by decide +kernel
theorem dX12_cross_7 : decode cX12_cross 7 = .ok (.iconst (-1), 1) := by decide +kernel
theorem dX12_cross_8 : decode cX12_cross 8 = .ok (.ireturn, 1) := by decide +kernel
theorem dX12_cross_9 : decode cX12_cross 9 = .ok (.aload_n 0, 1) := by decide +kernel
theorem dX12_cross_10 : decode cX12_cross 10 = .ok (.invokevirtual 223, 3) := by decide +kernel
theorem dX12_cross_13 : decode cX12_cross 13 = .ok (.aload_n 0, 1) := by decide +kernel
theorem dX12_cross_14 : decode cX12_cross 14 = .ok (.iconst 0, 1) := by decide +kernel
theorem dX12_cross_15 : decode cX12_cross 15 = .ok (.iload_n 1, 1) := by decide +kernel
theorem dX12_cross_16 : decode cX12_cross 16 = .ok (.iload_n 2, 1) := by decide +kernel
theorem dX12_cross_17 : decode cX12_cross 17 = .ok (.invokevirtual 294, 3) := by decide +kernel
theorem dX12_cross_20 : decode cX12_cross 20 = .ok (.istore 4, 2) := by decide +kernel
theorem dX12_cross_22 : decode cX12_cross 22 = .ok (.aload_n 0, 1) := by decide +kernel
theorem dX12_cross_23 : decode cX12_cross 23 = .ok (.iconst 1, 1) := by decide +kernel
theorem dX12_cross_24 : decode cX12_cross 24 = .ok (.iload_n 1, 1) := by decide +kernel
theorem dX12_cross_25 : decode cX12_cross 25 = .ok (.iload_n 3, 1) := by decide +kernel
theorem dX12_cross_26 : decode cX12_cross 26 = .ok (.invokevirtual 294, 3) := by decide +kernel
theorem dX12_cross_29 : decode cX12_cross 29 = .ok (.istore 5, 2) := by decide +kernel
theorem dX12_cross_31 : decode cX12_cross 31 = .ok (.iload 4, 2) := by decide +kernel
theorem dX12_cross_33 : decode cX12_cross 33 = .ok (.iconst (-1), 1) := by decide +kernel
theorem dX12_cross_34 : decode cX12_cross 34 = .ok (.if_icmp .eq 9, 3) := by decide +kernel
theorem dX12_cross_37 : decode cX12_cross 37 = .ok (.iload 5, 2) := by decide +kernel
theorem dX12_cross_39 : decode cX12_cross 39 = .ok (.iconst (-1), 1) := by decide +kernel
theorem dX12_cross_40 : decode cX12_cross 40 = .ok (.if_icmp .ne 7, 3) := by decide +kernel
theorem dX12_cross_43 : decode cX12_cross 43 = .ok (.iconst (-1), 1) := by decide +kernel
theorem dX12_cross_44 : decode cX12_cross 44 = .ok (.goto 12, 3) := by decide +kernel
theorem dX12_cross_47 : decode cX12_cross 47 = .ok (.aload_n 0, 1) := by decide +kernel
theorem dX12_cross_48 : decode cX12_cross 48 = .ok (.iload_n 1, 1) := by decide +kernel
theorem dX12_cross_49 : decode cX12_cross 49 = .ok (.iload 4, 2) := by decide +kernel
theorem dX12_cross_51 : decode cX12_cross 51 = .ok (.iload 5, 2) := by decide +kernel
theorem dX12_cross_53 : decode cX12_cross 53 = .ok (.invokevirtual 297, 3) := by decide +kernel
theorem dX12_cross_56 : decode cX12_cross 56 = .ok (.ireturn, 1) := by decide +kernel
def fX12_cross_b43 (N : Nat) (σ : qMem) : Option (Int32 × qMem) :=
  (some ((-1), σ))
set_option maxRecDepth 20000 in
set_option maxHeartbeats 4000000 in
theorem aX12_cross_b43 (N : Nat) (σ : qMem) : qAt wM mX12_cross (ρi) 43 [] [] σ (fX12_cross_b43 N σ) := by
  unfold fX12_cross_b43
  refine q_iconst (v := (-1)) dX12_cross_43 (by decide) ?_
  refine q_goto (tgt := 56) dX12_cross_44 (by decide) ?_
  exact q_ireti (y := ((-1), σ)) dX12_cross_56 rfl rfl

def fX12_cross (N : Nat) (p1 : Int32) (p2 : Int32) (p3 : Int32) (σ : qMem) : Option (Int32 × qMem) :=
  ((fX12_isBell p1).bind fun y1 => (if y1 = 0 then (some ((-1), σ)) else ((fX12_laysNews N σ).bind fun y2 => ((fX12_newOf N 0 p1 p2 y2).bind fun y3 => ((fX12_newOf N 1 p1 p3 y2).bind fun y4 => (if y3 = (-1) then (fX12_cross_b43 N y2) else (if y4 = (-1) then (fX12_cross_b43 N y2) else ((fX12_crosses N p1 y3 y4 y2).bind fun y5 => (some (y5.1, y5.2))))))))))
set_option maxRecDepth 20000 in
set_option maxHeartbeats 4000000 in
theorem aX12_cross  (N : Nat) (p1 : Int32) (p2 : Int32) (p3 : Int32)  (σ : qMem) : qAt wM mX12_cross (ρi) 0 [(0, .ref 0), (1, .int p1), (2, .int p2), (3, .int p3)] [] σ (fX12_cross N p1 p2 p3 σ) := by
  unfold fX12_cross
  refine q_iload_n (i := 1) (x := p1) dX12_cross_0 rfl 1 rfl ?_
  refine q_cSp mX12_isBell [.int p1] (st := []) dX12_cross_1 (ssX12_132) ⟨Nat.le_of_ble_eq_true rfl, Nat.le_of_ble_eq_true rfl⟩ rfl rfl (Nat.le_of_ble_eq_true rfl) (kX12_isBell p1 σ) (fun y1 => ?_)
  refine q_if_ne (tgt := 9) dX12_cross_4 (by decide) ?_ ?_
  · refine q_aload_n (i := 0) (x := 0) dX12_cross_9 rfl 0 rfl ?_
    refine q_cVv mX12_laysNews [] (st := []) dX12_cross_10 (svX12_223) ⟨Nat.le_of_ble_eq_true rfl, Nat.le_of_ble_eq_true rfl⟩ zM_0 rfl rfl rfl (Nat.le_of_ble_eq_true rfl) (kX12_laysNews N σ) (fun y2 => ?_)
    refine q_aload_n (i := 0) (x := 0) dX12_cross_13 rfl 0 rfl ?_
    refine q_iconst (v := 0) dX12_cross_14 (by decide) ?_
    refine q_iload_n (i := 1) (x := p1) dX12_cross_15 rfl 1 rfl ?_
    refine q_iload_n (i := 2) (x := p2) dX12_cross_16 rfl 2 rfl ?_
    refine q_cVp mX12_newOf [.int 0, .int p1, .int p2] (st := []) dX12_cross_17 (svX12_294) ⟨Nat.le_of_ble_eq_true rfl, Nat.le_of_ble_eq_true rfl⟩ zM_0 rfl rfl rfl (Nat.le_of_ble_eq_true rfl) (kX12_newOf N 0 p1 p2 y2) (fun y3 => ?_)
    refine q_istore (i := 4) (L' := [(4, .int y3), (0, .ref 0), (1, .int p1), (2, .int p2), (3, .int p3)]) dX12_cross_20 (Nat.le_of_ble_eq_true rfl) rfl ?_
    refine q_aload_n (i := 0) (x := 0) dX12_cross_22 rfl 1 rfl ?_
    refine q_iconst (v := 1) dX12_cross_23 (by decide) ?_
    refine q_iload_n (i := 1) (x := p1) dX12_cross_24 rfl 2 rfl ?_
    refine q_iload_n (i := 3) (x := p3) dX12_cross_25 rfl 4 rfl ?_
    refine q_cVp mX12_newOf [.int 1, .int p1, .int p3] (st := []) dX12_cross_26 (svX12_294) ⟨Nat.le_of_ble_eq_true rfl, Nat.le_of_ble_eq_true rfl⟩ zM_0 rfl rfl rfl (Nat.le_of_ble_eq_true rfl) (kX12_newOf N 1 p1 p3 y2) (fun y4 => ?_)
    refine q_istore (i := 5) (L' := [(5, .int y4), (4, .int y3), (0, .ref 0), (1, .int p1), (2, .int p2), (3, .int p3)]) dX12_cross_29 (Nat.le_of_ble_eq_true rfl) rfl ?_
    refine q_iload (i := 4) (x := y3) dX12_cross_31 1 rfl ?_
    refine q_iconst (v := (-1)) dX12_cross_33 (by decide) ?_
    refine q_icmp_eq (tgt := 43) dX12_cross_34 (by decide) ?_ ?_
    · exact q_sub [] rfl (aX12_cross_b43 N y2)
    refine q_iload (i := 5) (x := y4) dX12_cross_37 0 rfl ?_
    refine q_iconst (v := (-1)) dX12_cross_39 (by decide) ?_
    refine q_icmp_ne (tgt := 47) dX12_cross_40 (by decide) ?_ ?_
    · refine q_aload_n (i := 0) (x := 0) dX12_cross_47 rfl 2 rfl ?_
      refine q_iload_n (i := 1) (x := p1) dX12_cross_48 rfl 3 rfl ?_
      refine q_iload (i := 4) (x := y3) dX12_cross_49 1 rfl ?_
      refine q_iload (i := 5) (x := y4) dX12_cross_51 0 rfl ?_
      refine q_cVi mX12_crosses [.int p1, .int y3, .int y4] (st := []) dX12_cross_53 (svX12_297) ⟨Nat.le_of_ble_eq_true rfl, Nat.le_of_ble_eq_true rfl⟩ zM_0 rfl rfl rfl (Nat.le_of_ble_eq_true rfl) (kX12_crosses N p1 y3 y4 y2) (fun y5 => ?_)
      exact q_ireti (y := (y5.1, y5.2)) dX12_cross_56 rfl rfl
    exact q_sub [] rfl (aX12_cross_b43 N y2)
  refine q_iconst (v := (-1)) dX12_cross_7 (by decide) ?_
  exact q_ireti (y := ((-1), σ)) dX12_cross_8 rfl rfl
theorem kX12_cross  (N : Nat) (p1 : Int32) (p2 : Int32) (p3 : Int32)  (σ : qMem) : qMc wM mX12_cross (ρi) [.ref 0, .int p1, .int p2, .int p3] σ (fX12_cross N p1 p2 p3 σ) := qMc_of (moX12_cross) (Nat.le_of_ble_eq_true rfl) (aX12_cross N p1 p2 p3  σ)

theorem dX12_pairs_0 : decode cX12_pairs 0 = .ok (.aload_n 0, 1) := by decide +kernel
theorem dX12_pairs_1 : decode cX12_pairs 1 = .ok (.invokevirtual 223, 3) := by decide +kernel
theorem dX12_pairs_4 : decode cX12_pairs 4 = .ok (.iconst 0, 1) := by decide +kernel
theorem dX12_pairs_5 : decode cX12_pairs 5 = .ok (.istore_n 2, 1) := by decide +kernel
theorem dX12_pairs_6 : decode cX12_pairs 6 = .ok (.iload_n 2, 1) := by decide +kernel
theorem dX12_pairs_7 : decode cX12_pairs 7 = .ok (.bipush 36, 2) := by decide +kernel
theorem dX12_pairs_9 : decode cX12_pairs 9 = .ok (.if_icmp .ge 16, 3) := by decide +kernel
theorem dX12_pairs_12 : decode cX12_pairs 12 = .ok (.aload_n 0, 1) := by decide +kernel
theorem dX12_pairs_13 : decode cX12_pairs 13 = .ok (.getfield 71, 3) := by decide +kernel
theorem dX12_pairs_16 : decode cX12_pairs 16 = .ok (.iload_n 2, 1) := by decide +kernel
theorem dX12_pairs_17 : decode cX12_pairs 17 = .ok (.iconst 0, 1) := by decide +kernel
theorem dX12_pairs_18 : decode cX12_pairs 18 = .ok (.iastore, 1) := by decide +kernel
theorem dX12_pairs_19 : decode cX12_pairs 19 = .ok (.iinc 2 1, 3) := by decide +kernel
theorem dX12_pairs_22 : decode cX12_pairs 22 = .ok (.goto (-16), 3) := by decide +kernel
theorem dX12_pairs_25 : decode cX12_pairs 25 = .ok (.aload_n 0, 1) := by decide +kernel
theorem dX12_pairs_26 : decode cX12_pairs 26 = .ok (.iconst 0, 1) := by decide +kernel
theorem dX12_pairs_27 : decode cX12_pairs 27 = .ok (.iload_n 1, 1) := by decide +kernel
theorem dX12_pairs_28 : decode cX12_pairs 28 = .ok (.invokevirtual 300, 3) := by decide +kernel
theorem dX12_pairs_31 : decode cX12_pairs 31 = .ok (.istore_n 2, 1) := by decide +kernel
theorem dX12_pairs_32 : decode cX12_pairs 32 = .ok (.iload_n 2, 1) := by decide +kernel
theorem dX12_pairs_33 : decode cX12_pairs 33 = .ok (.ifCond .eq 19, 3) := by decide +kernel
theorem dX12_pairs_36 : decode cX12_pairs 36 = .ok (.iload_n 2, 1) := by decide +kernel
theorem dX12_pairs_37 : decode cX12_pairs 37 = .ok (.aload_n 0, 1) := by decide +kernel
theorem dX12_pairs_38 : decode cX12_pairs 38 = .ok (.iconst 1, 1) := by decide +kernel
theorem dX12_pairs_39 : decode cX12_pairs 39 = .ok (.iload_n 1, 1) := by decide +kernel
theorem dX12_pairs_40 : decode cX12_pairs 40 = .ok (.invokevirtual 300, 3) := by decide +kernel
theorem dX12_pairs_43 : decode cX12_pairs 43 = .ok (.if_icmp .ne 9, 3) := by decide +kernel
theorem dX12_pairs_46 : decode cX12_pairs 46 = .ok (.iload_n 2, 1) := by decide +kernel
theorem dX12_pairs_47 : decode cX12_pairs 47 = .ok (.bipush 6, 2) := by decide +kernel
theorem dX12_pairs_49 : decode cX12_pairs 49 = .ok (.if_icmp .le 5, 3) := by decide +kernel
theorem dX12_pairs_52 : decode cX12_pairs 52 = .ok (.iconst 0, 1) := by decide +kernel
theorem dX12_pairs_53 : decode cX12_pairs 53 = .ok (.ireturn, 1) := by decide +kernel
theorem dX12_pairs_54 : decode cX12_pairs 54 = .ok (.iconst 0, 1) := by decide +kernel
theorem dX12_pairs_55 : decode cX12_pairs 55 = .ok (.istore_n 3, 1) := by decide +kernel
theorem dX12_pairs_56 : decode cX12_pairs 56 = .ok (.iload_n 3, 1) := by decide +kernel
theorem dX12_pairs_57 : decode cX12_pairs 57 = .ok (.iload_n 2, 1) := by decide +kernel
theorem dX12_pairs_58 : decode cX12_pairs 58 = .ok (.if_icmp .ge 67, 3) := by decide +kernel
theorem dX12_pairs_61 : decode cX12_pairs 61 = .ok (.aload_n 0, 1) := by decide +kernel
theorem dX12_pairs_62 : decode cX12_pairs 62 = .ok (.getfield 68, 3) := by decide +kernel
theorem dX12_pairs_65 : decode cX12_pairs 65 = .ok (.iload_n 3, 1) := by decide +kernel
theorem dX12_pairs_66 : decode cX12_pairs 66 = .ok (.iconst 0, 1) := by decide +kernel
theorem dX12_pairs_67 : decode cX12_pairs 67 = .ok (.iastore, 1) := by decide +kernel
theorem dX12_pairs_68 : decode cX12_pairs 68 = .ok (.iconst 0, 1) := by decide +kernel
theorem dX12_pairs_69 : decode cX12_pairs 69 = .ok (.istore 4, 2) := by decide +kernel
theorem dX12_pairs_71 : decode cX12_pairs 71 = .ok (.iload 4, 2) := by decide +kernel
theorem dX12_pairs_73 : decode cX12_pairs 73 = .ok (.iload_n 2, 1) := by decide +kernel
theorem dX12_pairs_74 : decode cX12_pairs 74 = .ok (.if_icmp .ge 45, 3) := by decide +kernel
theorem dX12_pairs_77 : decode cX12_pairs 77 = .ok (.aload_n 0, 1) := by decide +kernel
theorem dX12_pairs_78 : decode cX12_pairs 78 = .ok (.iload_n 1, 1) := by decide +kernel
theorem dX12_pairs_79 : decode cX12_pairs 79 = .ok (.aload_n 0, 1) := by decide +kernel
theorem dX12_pairs_80 : decode cX12_pairs 80 = .ok (.iconst 0, 1) := by decide +kernel
theorem dX12_pairs_81 : decode cX12_pairs 81 = .ok (.iload_n 1, 1) := by decide +kernel
theorem dX12_pairs_82 : decode cX12_pairs 82 = .ok (.iload_n 3, 1) := by decide +kernel
theorem dX12_pairs_83 : decode cX12_pairs 83 = .ok (.invokevirtual 294, 3) := by decide +kernel
theorem dX12_pairs_86 : decode cX12_pairs 86 = .ok (.aload_n 0, 1) := by decide +kernel
theorem dX12_pairs_87 : decode cX12_pairs 87 = .ok (.iconst 1, 1) := by decide +kernel
theorem dX12_pairs_88 : decode cX12_pairs 88 = .ok (.iload_n 1, 1) := by decide +kernel
theorem dX12_pairs_89 : decode cX12_pairs 89 = .ok (.iload 4, 2) := by decide +kernel
theorem dX12_pairs_91 : decode cX12_pairs 91 = .ok (.invokevirtual 294, 3) := by decide +kernel
theorem dX12_pairs_94 : decode cX12_pairs 94 = .ok (.invokevirtual 297, 3) := by decide +kernel
theorem dX12_pairs_97 : decode cX12_pairs 97 = .ok (.ifCond .le 16, 3) := by decide +kernel
theorem dX12_pairs_100 : decode cX12_pairs 100 = .ok (.aload_n 0, 1) := by decide +kernel
theorem dX12_pairs_101 : decode cX12_pairs 101 = .ok (.getfield 68, 3) := by decide +kernel
theorem dX12_pairs_104 : decode cX12_pairs 104 = .ok (.iload_n 3, 1) := by decide +kernel
theorem dX12_pairs_105 : decode cX12_pairs 105 = .ok (.dup2, 1) := by decide +kernel
theorem dX12_pairs_106 : decode cX12_pairs 106 = .ok (.iaload, 1) := by decide +kernel
theorem dX12_pairs_107 : decode cX12_pairs 107 = .ok (.iconst 1, 1) := by decide +kernel
theorem dX12_pairs_108 : decode cX12_pairs 108 = .ok (.iload 4, 2) := by decide +kernel
theorem dX12_pairs_110 : decode cX12_pairs 110 = .ok (.ishl, 1) := by decide +kernel
theorem dX12_pairs_111 : decode cX12_pairs 111 = .ok (.ior, 1) := by decide +kernel
theorem dX12_pairs_112 : decode cX12_pairs 112 = .ok (.iastore, 1) := by decide +kernel
theorem dX12_pairs_113 : decode cX12_pairs 113 = .ok (.iinc 4 1, 3) := by decide +kernel
theorem dX12_pairs_116 : decode cX12_pairs 116 = .ok (.goto (-45), 3) := by decide +kernel
theorem dX12_pairs_119 : decode cX12_pairs 119 = .ok (.iinc 3 1, 3) := by decide +kernel
theorem dX12_pairs_122 : decode cX12_pairs 122 = .ok (.goto (-66), 3) := by decide +kernel
theorem dX12_pairs_125 : decode cX12_pairs 125 = .ok (.iconst 1, 1) := by decide +kernel
theorem dX12_pairs_126 : decode cX12_pairs 126 = .ok (.istore_n 3, 1) := by decide +kernel
theorem dX12_pairs_127 : decode cX12_pairs 127 = .ok (.iconst 0, 1) := by decide +kernel
theorem dX12_pairs_128 : decode cX12_pairs 128 = .ok (.istore 4, 2) := by decide +kernel
theorem dX12_pairs_130 : decode cX12_pairs 130 = .ok (.iload 4, 2) := by decide +kernel
theorem dX12_pairs_132 : decode cX12_pairs 132 = .ok (.iload_n 2, 1) := by decide +kernel
theorem dX12_pairs_133 : decode cX12_pairs 133 = .ok (.if_icmp .ge 13, 3) := by decide +kernel
theorem dX12_pairs_136 : decode cX12_pairs 136 = .ok (.iload_n 3, 1) := by decide +kernel
theorem dX12_pairs_137 : decode cX12_pairs 137 = .ok (.iload_n 2, 1) := by decide +kernel
theorem dX12_pairs_138 : decode cX12_pairs 138 = .ok (.imul, 1) := by decide +kernel
theorem dX12_pairs_139 : decode cX12_pairs 139 = .ok (.istore_n 3, 1) := by decide +kernel
theorem dX12_pairs_140 : decode cX12_pairs 140 = .ok (.iinc 4 1, 3) := by decide +kernel
theorem dX12_pairs_143 : decode cX12_pairs 143 = .ok (.goto (-13), 3) := by decide +kernel
theorem dX12_pairs_146 : decode cX12_pairs 146 = .ok (.iconst 0, 1) := by decide +kernel
theorem dX12_pairs_147 : decode cX12_pairs 147 = .ok (.istore 4, 2) := by decide +kernel
theorem dX12_pairs_149 : decode cX12_pairs 149 = .ok (.iconst 0, 1) := by decide +kernel
theorem dX12_pairs_150 : decode cX12_pairs 150 = .ok (.istore 5, 2) := by decide +kernel
theorem dX12_pairs_152 : decode cX12_pairs 152 = .ok (.iload 5, 2) := by decide +kernel
theorem dX12_pairs_154 : decode cX12_pairs 154 = .ok (.iload_n 3, 1) := by decide +kernel
theorem dX12_pairs_155 : decode cX12_pairs 155 = .ok (.if_icmp .ge 161, 3) := by decide +kernel
theorem dX12_pairs_158 : decode cX12_pairs 158 = .ok (.iload 5, 2) := by decide +kernel
theorem dX12_pairs_160 : decode cX12_pairs 160 = .ok (.istore 6, 2) := by decide +kernel
theorem dX12_pairs_162 : decode cX12_pairs 162 = .ok (.iconst 0, 1) := by decide +kernel
theorem dX12_pairs_163 : decode cX12_pairs 163 = .ok (.istore 7, 2) := by decide +kernel
theorem dX12_pairs_165 : decode cX12_pairs 165 = .ok (.iconst 1, 1) := by decide +kernel
theorem dX12_pairs_166 : decode cX12_pairs 166 = .ok (.istore 8, 2) := by decide +kernel
theorem dX12_pairs_168 : decode cX12_pairs 168 = .ok (.iconst 0, 1) := by decide +kernel
theorem dX12_pairs_169 : decode cX12_pairs 169 = .ok (.istore 9, 2) := by decide +kernel
theorem dX12_pairs_171 : decode cX12_pairs 171 = .ok (.iload 9, 2) := by decide +kernel
theorem dX12_pairs_173 : decode cX12_pairs 173 = .ok (.iload_n 2, 1) := by decide +kernel
theorem dX12_pairs_174 : decode cX12_pairs 174 = .ok (.if_icmp .ge 88, 3) := by decide +kernel
theorem dX12_pairs_177 : decode cX12_pairs 177 = .ok (.aload_n 0, 1) := by decide +kernel
theorem dX12_pairs_178 : decode cX12_pairs 178 = .ok (.getfield 74, 3) := by decide +kernel
theorem dX12_pairs_181 : decode cX12_pairs 181 = .ok (.iload 9, 2) := by decide +kernel
theorem dX12_pairs_183 : decode cX12_pairs 183 = .ok (.iload 6, 2) := by decide +kernel
theorem dX12_pairs_185 : decode cX12_pairs 185 = .ok (.iload_n 2, 1) := by decide +kernel
theorem dX12_pairs_186 : decode cX12_pairs 186 = .ok (.irem, 1) := by decide +kernel
theorem dX12_pairs_187 : decode cX12_pairs 187 = .ok (.iastore, 1) := by decide +kernel
theorem dX12_pairs_188 : decode cX12_pairs 188 = .ok (.iload 6, 2) := by decide +kernel
theorem dX12_pairs_190 : decode cX12_pairs 190 = .ok (.iload_n 2, 1) := by decide +kernel
theorem dX12_pairs_191 : decode cX12_pairs 191 = .ok (.idiv, 1) := by decide +kernel
theorem dX12_pairs_192 : decode cX12_pairs 192 = .ok (.istore 6, 2) := by decide +kernel
theorem dX12_pairs_194 : decode cX12_pairs 194 = .ok (.iload 8, 2) := by decide +kernel
theorem dX12_pairs_196 : decode cX12_pairs 196 = .ok (.ifCond .eq 43, 3) := by decide +kernel
theorem dX12_pairs_199 : decode cX12_pairs 199 = .ok (.aload_n 0, 1) := by decide +kernel
theorem dX12_pairs_200 : decode cX12_pairs 200 = .ok (.getfield 68, 3) := by decide +kernel
theorem dX12_pairs_203 : decode cX12_pairs 203 = .ok (.iload 9, 2) := by decide +kernel
theorem dX12_pairs_205 : decode cX12_pairs 205 = .ok (.iaload, 1) := by decide +kernel
theorem dX12_pairs_206 : decode cX12_pairs 206 = .ok (.aload_n 0, 1) := by decide +kernel
theorem dX12_pairs_207 : decode cX12_pairs 207 = .ok (.getfield 74, 3) := by decide +kernel
theorem dX12_pairs_210 : decode cX12_pairs 210 = .ok (.iload 9, 2) := by decide +kernel
theorem dX12_pairs_212 : decode cX12_pairs 212 = .ok (.iaload, 1) := by decide +kernel
theorem dX12_pairs_213 : decode cX12_pairs 213 = .ok (.ishr, 1) := by decide +kernel
theorem dX12_pairs_214 : decode cX12_pairs 214 = .ok (.iconst 1, 1) := by decide +kernel
theorem dX12_pairs_215 : decode cX12_pairs 215 = .ok (.iand, 1) := by decide +kernel
theorem dX12_pairs_216 : decode cX12_pairs 216 = .ok (.iconst 1, 1) := by decide +kernel
theorem dX12_pairs_217 : decode cX12_pairs 217 = .ok (.if_icmp .ne 22, 3) := by decide +kernel
theorem dX12_pairs_220 : decode cX12_pairs 220 = .ok (.iload 7, 2) := by decide +kernel
theorem dX12_pairs_222 : decode cX12_pairs 222 = .ok (.aload_n 0, 1) := by decide +kernel
theorem dX12_pairs_223 : decode cX12_pairs 223 = .ok (.getfield 74, 3) := by decide +kernel
theorem dX12_pairs_226 : decode cX12_pairs 226 = .ok (.iload 9, 2) := by decide +kernel
theorem dX12_pairs_228 : decode cX12_pairs 228 = .ok (.iaload, 1) := by decide +kernel
theorem dX12_pairs_229 : decode cX12_pairs 229 = .ok (.ishr, 1) := by decide +kernel
theorem dX12_pairs_230 : decode cX12_pairs 230 = .ok (.iconst 1, 1) := by decide +kernel
theorem dX12_pairs_231 : decode cX12_pairs 231 = .ok (.iand, 1) := by decide +kernel
theorem dX12_pairs_232 : decode cX12_pairs 232 = .ok (.ifCond .ne 7, 3) := by decide +kernel
theorem dX12_pairs_235 : decode cX12_pairs 235 = .ok (.iconst 1, 1) := by decide +kernel
theorem dX12_pairs_236 : decode cX12_pairs 236 = .ok (.goto 4, 3) := by decide +kernel
theorem dX12_pairs_239 : decode cX12_pairs 239 = .ok (.iconst 0, 1) := by decide +kernel
theorem dX12_pairs_240 : decode cX12_pairs 240 = .ok (.istore 8, 2) := by decide +kernel
theorem dX12_pairs_242 : decode cX12_pairs 242 = .ok (.iload 7, 2) := by decide +kernel
theorem dX12_pairs_244 : decode cX12_pairs 244 = .ok (.iconst 1, 1) := by decide +kernel
theorem dX12_pairs_245 : decode cX12_pairs 245 = .ok (.aload_n 0, 1) := by decide +kernel
theorem dX12_pairs_246 : decode cX12_pairs 246 = .ok (.getfield 74, 3) := by decide +kernel
theorem dX12_pairs_249 : decode cX12_pairs 249 = .ok (.iload 9, 2) := by decide +kernel
theorem dX12_pairs_251 : decode cX12_pairs 251 = .ok (.iaload, 1) := by decide +kernel
theorem dX12_pairs_252 : decode cX12_pairs 252 = .ok (.ishl, 1) := by decide +kernel
theorem dX12_pairs_253 : decode cX12_pairs 253 = .ok (.ior, 1) := by decide +kernel
theorem dX12_pairs_254 : decode cX12_pairs 254 = .ok (.istore 7, 2) := by decide +kernel
theorem dX12_pairs_256 : decode cX12_pairs 256 = .ok (.iinc 9 1, 3) := by decide +kernel
theorem dX12_pairs_259 : decode cX12_pairs 259 = .ok (.goto (-88), 3) := by decide +kernel
theorem dX12_pairs_262 : decode cX12_pairs 262 = .ok (.iload 8, 2) := by decide +kernel
theorem dX12_pairs_264 : decode cX12_pairs 264 = .ok (.ifCond .ne 6, 3) := by decide +kernel
theorem dX12_pairs_267 : decode cX12_pairs 267 = .ok (.goto 43, 3) := by decide +kernel
theorem dX12_pairs_270 : decode cX12_pairs 270 = .ok (.iinc 4 1, 3) := by decide +kernel
theorem dX12_pairs_273 : decode cX12_pairs 273 = .ok (.iconst 0, 1) := by decide +kernel
theorem dX12_pairs_274 : decode cX12_pairs 274 = .ok (.istore 9, 2) := by decide +kernel
theorem dX12_pairs_276 : decode cX12_pairs 276 = .ok (.iload 9, 2) := by decide +kernel
theorem dX12_pairs_278 : decode cX12_pairs 278 = .ok (.iload_n 2, 1) := by decide +kernel
theorem dX12_pairs_279 : decode cX12_pairs 279 = .ok (.if_icmp .ge 31, 3) := by decide +kernel
theorem dX12_pairs_282 : decode cX12_pairs 282 = .ok (.aload_n 0, 1) := by decide +kernel
theorem dX12_pairs_283 : decode cX12_pairs 283 = .ok (.getfield 71, 3) := by decide +kernel
theorem dX12_pairs_286 : decode cX12_pairs 286 = .ok (.bipush 6, 2) := by decide +kernel
theorem dX12_pairs_288 : decode cX12_pairs 288 = .ok (.iload 9, 2) := by decide +kernel
theorem dX12_pairs_290 : decode cX12_pairs 290 = .ok (.imul, 1) := by decide +kernel
theorem dX12_pairs_291 : decode cX12_pairs 291 = .ok (.aload_n 0, 1) := by decide +kernel
theorem dX12_pairs_292 : decode cX12_pairs 292 = .ok (.getfield 74, 3) := by decide +kernel
theorem dX12_pairs_295 : decode cX12_pairs 295 = .ok (.iload 9, 2) := by decide +kernel
theorem dX12_pairs_297 : decode cX12_pairs 297 = .ok (.iaload, 1) := by decide +kernel
theorem dX12_pairs_298 : decode cX12_pairs 298 = .ok (.iadd, 1) := by decide +kernel
theorem dX12_pairs_299 : decode cX12_pairs 299 = .ok (.dup2, 1) := by decide +kernel
theorem dX12_pairs_300 : decode cX12_pairs 300 = .ok (.iaload, 1) := by decide +kernel
theorem dX12_pairs_301 : decode cX12_pairs 301 = .ok (.iconst 1, 1) := by decide +kernel
theorem dX12_pairs_302 : decode cX12_pairs 302 = .ok (.iadd, 1) := by decide +kernel
theorem dX12_pairs_303 : decode cX12_pairs 303 = .ok (.iastore, 1) := by decide +kernel
theorem dX12_pairs_304 : decode cX12_pairs 304 = .ok (.iinc 9 1, 3) := by decide +kernel
theorem dX12_pairs_307 : decode cX12_pairs 307 = .ok (.goto (-31), 3) := by decide +kernel
theorem dX12_pairs_310 : decode cX12_pairs 310 = .ok (.iinc 5 1, 3) := by decide +kernel
theorem dX12_pairs_313 : decode cX12_pairs 313 = .ok (.goto (-161), 3) := by decide +kernel
theorem dX12_pairs_316 : decode cX12_pairs 316 = .ok (.iload 4, 2) := by decide +kernel
theorem dX12_pairs_318 : decode cX12_pairs 318 = .ok (.ireturn, 1) := by decide +kernel
def fX12_pairs_b310 (N : Nat) (c152 : Int32 → Int32 → Int32 → Int32 → qMem → Option (Int32 × qMem)) (v2 : Int32) (v3 : Int32) (v4 : Int32) (v5 : Int32) (σ : qMem) : Option (Int32 × qMem) :=
  (c152 v2 v3 v4 (v5 + 1) σ)
set_option maxRecDepth 20000 in
set_option maxHeartbeats 4000000 in
theorem aX12_pairs_b310 (N : Nat) (c152 : Int32 → Int32 → Int32 → Int32 → qMem → Option (Int32 × qMem)) (hc152 : ∀ (v2 : Int32) (v3 : Int32) (v4 : Int32) (v5 : Int32) (σ : qMem), qAt wM mX12_pairs (ρi) 152 [(0, .ref 0), (2, .int v2), (3, .int v3), (4, .int v4), (5, .int v5)] [] σ (c152 v2 v3 v4 v5 σ)) (v2 : Int32) (v3 : Int32) (v4 : Int32) (v5 : Int32) (σ : qMem) : qAt wM mX12_pairs (ρi) 310 [(0, .ref 0), (2, .int v2), (3, .int v3), (4, .int v4), (5, .int v5)] [] σ (fX12_pairs_b310 N c152 v2 v3 v4 v5 σ) := by
  unfold fX12_pairs_b310
  refine q_iinc (i := 5) (x := v5) (v := (v5 + 1)) (L' := [(5, .int (v5 + 1)), (0, .ref 0), (2, .int v2), (3, .int v3), (4, .int v4)]) dX12_pairs_310 4 rfl (q_cst v5 (by decide)) (Nat.le_of_ble_eq_true rfl) rfl ?_
  refine q_goto (tgt := 152) dX12_pairs_313 (by decide) ?_
  exact q_sub [1, 2, 3, 4, 0] rfl (hc152 v2 v3 v4 (v5 + 1) σ)

def fX12_pairs_s276 (N : Nat) (c152 : Int32 → Int32 → Int32 → Int32 → qMem → Option (Int32 × qMem)) (c276 : Int32 → Int32 → Int32 → Int32 → Int32 → qMem → Option (Int32 × qMem)) (v2 : Int32) (v3 : Int32) (v4 : Int32) (v5 : Int32) (v9 : Int32) (σ : qMem) : Option (Int32 × qMem) :=
  (if v2 ≤ v9 then (fX12_pairs_b310 N c152 v2 v3 v4 v5 σ) else (if ck v9 6 = true then (if ck ((6 * v9) + (gi σ 16 v9.toNatClampNeg)) 36 = true then (if ck ((6 * v9) + (gi σ 16 v9.toNatClampNeg)) 36 = true then (nmM (si σ 15 ((6 * v9) + (gi σ 16 v9.toNatClampNeg)).toNatClampNeg ((gi σ 15 ((6 * v9) + (gi σ 16 v9.toNatClampNeg)).toNatClampNeg) + 1)) fun s12 => (c276 v2 v3 v4 v5 (v9 + 1) s12)) else none) else none) else none))
set_option maxRecDepth 20000 in
set_option maxHeartbeats 4000000 in
theorem aX12_pairs_s276 (N : Nat) (c152 : Int32 → Int32 → Int32 → Int32 → qMem → Option (Int32 × qMem)) (hc152 : ∀ (v2 : Int32) (v3 : Int32) (v4 : Int32) (v5 : Int32) (σ : qMem), qAt wM mX12_pairs (ρi) 152 [(0, .ref 0), (2, .int v2), (3, .int v3), (4, .int v4), (5, .int v5)] [] σ (c152 v2 v3 v4 v5 σ)) (c276 : Int32 → Int32 → Int32 → Int32 → Int32 → qMem → Option (Int32 × qMem)) (hc276 : ∀ (v2 : Int32) (v3 : Int32) (v4 : Int32) (v5 : Int32) (v9 : Int32) (σ : qMem), qAt wM mX12_pairs (ρi) 276 [(0, .ref 0), (2, .int v2), (3, .int v3), (4, .int v4), (5, .int v5), (9, .int v9)] [] σ (c276 v2 v3 v4 v5 v9 σ)) (v2 : Int32) (v3 : Int32) (v4 : Int32) (v5 : Int32) (v9 : Int32) (σ : qMem) : qAt wM mX12_pairs (ρi) 276 [(0, .ref 0), (2, .int v2), (3, .int v3), (4, .int v4), (5, .int v5), (9, .int v9)] [] σ (fX12_pairs_s276 N c152 c276 v2 v3 v4 v5 v9 σ) := by
  unfold fX12_pairs_s276
  refine q_iload (i := 9) (x := v9) dX12_pairs_276 5 rfl ?_
  refine q_iload_n (i := 2) (x := v2) dX12_pairs_278 rfl 1 rfl ?_
  refine q_icmp_ge (tgt := 310) dX12_pairs_279 (by decide) ?_ ?_
  · exact q_sub [0, 1, 2, 3, 4] rfl (aX12_pairs_b310 N c152 hc152 v2 v3 v4 v5 σ)
  refine q_aload_n (i := 0) (x := 0) dX12_pairs_282 rfl 0 rfl ?_
  refine q_getr (t := 15) dX12_pairs_283 foX12_71 zM_0 rfl ?_
  refine q_bipush (v := 6) dX12_pairs_286 (by decide) ?_
  refine q_iload (i := 9) (x := v9) dX12_pairs_288 5 rfl ?_
  refine q_imul dX12_pairs_290 ?_
  refine q_aload_n (i := 0) (x := 0) dX12_pairs_291 rfl 0 rfl ?_
  refine q_getr (t := 16) dX12_pairs_292 foX12_74 zM_0 rfl ?_
  refine q_iload (i := 9) (x := v9) dX12_pairs_295 5 rfl ?_
  refine q_iald dX12_pairs_297 zM_16 ?_
  refine q_iadd dX12_pairs_298 ?_
  refine q_dup2 dX12_pairs_299 rfl rfl ?_
  refine q_iald dX12_pairs_300 zM_15 ?_
  refine q_iconst (v := 1) dX12_pairs_301 (by decide) ?_
  refine q_iadd dX12_pairs_302 ?_
  refine q_iast dX12_pairs_303 zM_15 ?_
  refine q_nmM (fun s12 => ?_)
  refine q_iinc (i := 9) (x := v9) (v := (v9 + 1)) (L' := [(9, .int (v9 + 1)), (0, .ref 0), (2, .int v2), (3, .int v3), (4, .int v4), (5, .int v5)]) dX12_pairs_304 5 rfl (q_cst v9 (by decide)) (Nat.le_of_ble_eq_true rfl) rfl ?_
  refine q_goto (tgt := 276) dX12_pairs_307 (by decide) ?_
  exact q_sub [1, 2, 3, 4, 5, 0] rfl (hc276 v2 v3 v4 v5 (v9 + 1) s12)
def fX12_pairs_l276 (N : Nat) (c152 : Int32 → Int32 → Int32 → Int32 → qMem → Option (Int32 × qMem)) : Nat → Int32 → Int32 → Int32 → Int32 → Int32 → qMem → Option (Int32 × qMem)
  | 0 => fun _ _ _ _ _ _ => none
  | n + 1 => fun v2 v3 v4 v5 v9 σ => fX12_pairs_s276 N c152 (fX12_pairs_l276 N c152 n) v2 v3 v4 v5 v9 σ
theorem aX12_pairs_l276 (N : Nat) (c152 : Int32 → Int32 → Int32 → Int32 → qMem → Option (Int32 × qMem)) (hc152 : ∀ (v2 : Int32) (v3 : Int32) (v4 : Int32) (v5 : Int32) (σ : qMem), qAt wM mX12_pairs (ρi) 152 [(0, .ref 0), (2, .int v2), (3, .int v3), (4, .int v4), (5, .int v5)] [] σ (c152 v2 v3 v4 v5 σ)) : ∀ (n : Nat) (v2 : Int32) (v3 : Int32) (v4 : Int32) (v5 : Int32) (v9 : Int32) (σ : qMem), qAt wM mX12_pairs (ρi) 276 [(0, .ref 0), (2, .int v2), (3, .int v3), (4, .int v4), (5, .int v5), (9, .int v9)] [] σ (fX12_pairs_l276 N c152 n v2 v3 v4 v5 v9 σ) := by
  intro n
  induction n with
  | zero => intro v2 v3 v4 v5 v9 σ; exact q_none
  | succ n ih => intro v2 v3 v4 v5 v9 σ; exact aX12_pairs_s276 N c152 hc152 (fX12_pairs_l276 N c152 n) ih v2 v3 v4 v5 v9 σ

def fX12_pairs_b240 (N : Nat) (c152 : Int32 → Int32 → Int32 → Int32 → qMem → Option (Int32 × qMem)) (c171 : Int32 → Int32 → Int32 → Int32 → Int32 → Int32 → Int32 → Int32 → qMem → Option (Int32 × qMem)) (v2 : Int32) (v3 : Int32) (v4 : Int32) (v5 : Int32) (v6 : Int32) (v7 : Int32) (v9 : Int32) (u0 : Int32) (σ : qMem) : Option (Int32 × qMem) :=
  (if ck v9 6 = true then (nmI (v7 ||| ((1 : Int32) <<< ((gi σ 16 v9.toNatClampNeg) &&& 31))) fun x11 => (c171 v2 v3 v4 v5 v6 x11 u0 (v9 + 1) σ)) else none)
set_option maxRecDepth 20000 in
set_option maxHeartbeats 4000000 in
theorem aX12_pairs_b240 (N : Nat) (c152 : Int32 → Int32 → Int32 → Int32 → qMem → Option (Int32 × qMem)) (c171 : Int32 → Int32 → Int32 → Int32 → Int32 → Int32 → Int32 → Int32 → qMem → Option (Int32 × qMem)) (hc152 : ∀ (v2 : Int32) (v3 : Int32) (v4 : Int32) (v5 : Int32) (σ : qMem), qAt wM mX12_pairs (ρi) 152 [(0, .ref 0), (2, .int v2), (3, .int v3), (4, .int v4), (5, .int v5)] [] σ (c152 v2 v3 v4 v5 σ)) (hc171 : ∀ (v2 : Int32) (v3 : Int32) (v4 : Int32) (v5 : Int32) (v6 : Int32) (v7 : Int32) (v8 : Int32) (v9 : Int32) (σ : qMem), qAt wM mX12_pairs (ρi) 171 [(0, .ref 0), (2, .int v2), (3, .int v3), (4, .int v4), (5, .int v5), (6, .int v6), (7, .int v7), (8, .int v8), (9, .int v9)] [] σ (c171 v2 v3 v4 v5 v6 v7 v8 v9 σ)) (v2 : Int32) (v3 : Int32) (v4 : Int32) (v5 : Int32) (v6 : Int32) (v7 : Int32) (v9 : Int32) (u0 : Int32) (σ : qMem) : qAt wM mX12_pairs (ρi) 240 [(0, .ref 0), (2, .int v2), (3, .int v3), (4, .int v4), (5, .int v5), (6, .int v6), (7, .int v7), (9, .int v9)] [.int u0] σ (fX12_pairs_b240 N c152 c171 v2 v3 v4 v5 v6 v7 v9 u0 σ) := by
  unfold fX12_pairs_b240
  refine q_istore (i := 8) (L' := [(8, .int u0), (0, .ref 0), (2, .int v2), (3, .int v3), (4, .int v4), (5, .int v5), (6, .int v6), (7, .int v7), (9, .int v9)]) dX12_pairs_240 (Nat.le_of_ble_eq_true rfl) rfl ?_
  refine q_iload (i := 7) (x := v7) dX12_pairs_242 7 rfl ?_
  refine q_iconst (v := 1) dX12_pairs_244 (by decide) ?_
  refine q_aload_n (i := 0) (x := 0) dX12_pairs_245 rfl 1 rfl ?_
  refine q_getr (t := 16) dX12_pairs_246 foX12_74 zM_0 rfl ?_
  refine q_iload (i := 9) (x := v9) dX12_pairs_249 8 rfl ?_
  refine q_iald dX12_pairs_251 zM_16 ?_
  refine q_ishl dX12_pairs_252 ?_
  refine q_ior dX12_pairs_253 ?_
  refine q_nmI (fun x11 => ?_)
  refine q_istore (i := 7) (L' := [(7, .int x11), (8, .int u0), (0, .ref 0), (2, .int v2), (3, .int v3), (4, .int v4), (5, .int v5), (6, .int v6), (9, .int v9)]) dX12_pairs_254 (Nat.le_of_ble_eq_true rfl) rfl ?_
  refine q_iinc (i := 9) (x := v9) (v := (v9 + 1)) (L' := [(9, .int (v9 + 1)), (7, .int x11), (8, .int u0), (0, .ref 0), (2, .int v2), (3, .int v3), (4, .int v4), (5, .int v5), (6, .int v6)]) dX12_pairs_256 8 rfl (q_cst v9 (by decide)) (Nat.le_of_ble_eq_true rfl) rfl ?_
  refine q_goto (tgt := 171) dX12_pairs_259 (by decide) ?_
  exact q_sub [3, 4, 5, 6, 7, 8, 1, 2, 0] rfl (hc171 v2 v3 v4 v5 v6 x11 u0 (v9 + 1) σ)

def fX12_pairs_b239 (N : Nat) (c152 : Int32 → Int32 → Int32 → Int32 → qMem → Option (Int32 × qMem)) (c171 : Int32 → Int32 → Int32 → Int32 → Int32 → Int32 → Int32 → Int32 → qMem → Option (Int32 × qMem)) (v2 : Int32) (v3 : Int32) (v4 : Int32) (v5 : Int32) (v6 : Int32) (v7 : Int32) (v9 : Int32) (σ : qMem) : Option (Int32 × qMem) :=
  (fX12_pairs_b240 N c152 c171 v2 v3 v4 v5 v6 v7 v9 0 σ)
set_option maxRecDepth 20000 in
set_option maxHeartbeats 4000000 in
theorem aX12_pairs_b239 (N : Nat) (c152 : Int32 → Int32 → Int32 → Int32 → qMem → Option (Int32 × qMem)) (c171 : Int32 → Int32 → Int32 → Int32 → Int32 → Int32 → Int32 → Int32 → qMem → Option (Int32 × qMem)) (hc152 : ∀ (v2 : Int32) (v3 : Int32) (v4 : Int32) (v5 : Int32) (σ : qMem), qAt wM mX12_pairs (ρi) 152 [(0, .ref 0), (2, .int v2), (3, .int v3), (4, .int v4), (5, .int v5)] [] σ (c152 v2 v3 v4 v5 σ)) (hc171 : ∀ (v2 : Int32) (v3 : Int32) (v4 : Int32) (v5 : Int32) (v6 : Int32) (v7 : Int32) (v8 : Int32) (v9 : Int32) (σ : qMem), qAt wM mX12_pairs (ρi) 171 [(0, .ref 0), (2, .int v2), (3, .int v3), (4, .int v4), (5, .int v5), (6, .int v6), (7, .int v7), (8, .int v8), (9, .int v9)] [] σ (c171 v2 v3 v4 v5 v6 v7 v8 v9 σ)) (v2 : Int32) (v3 : Int32) (v4 : Int32) (v5 : Int32) (v6 : Int32) (v7 : Int32) (v9 : Int32) (σ : qMem) : qAt wM mX12_pairs (ρi) 239 [(0, .ref 0), (2, .int v2), (3, .int v3), (4, .int v4), (5, .int v5), (6, .int v6), (7, .int v7), (9, .int v9)] [] σ (fX12_pairs_b239 N c152 c171 v2 v3 v4 v5 v6 v7 v9 σ) := by
  unfold fX12_pairs_b239
  refine q_iconst (v := 0) dX12_pairs_239 (by decide) ?_
  exact q_sub [0, 1, 2, 3, 4, 5, 6, 7] rfl (aX12_pairs_b240 N c152 c171 hc152 hc171 v2 v3 v4 v5 v6 v7 v9 0 σ)

def fX12_pairs_s171 (N : Nat) (c152 : Int32 → Int32 → Int32 → Int32 → qMem → Option (Int32 × qMem)) (c171 : Int32 → Int32 → Int32 → Int32 → Int32 → Int32 → Int32 → Int32 → qMem → Option (Int32 × qMem)) (v2 : Int32) (v3 : Int32) (v4 : Int32) (v5 : Int32) (v6 : Int32) (v7 : Int32) (v8 : Int32) (v9 : Int32) (σ : qMem) : Option (Int32 × qMem) :=
  (if v2 ≤ v9 then (if v8 = 0 then (fX12_pairs_b310 N c152 v2 v3 v4 v5 σ) else (fX12_pairs_l276 N c152 N v2 v3 (v4 + 1) v5 0 σ)) else (if v2 = 0 then none else (if ck v9 6 = true then (nmM (si σ 16 v9.toNatClampNeg (irm v6 v2)) fun s10 => (if v2 = 0 then none else (if v8 = 0 then (fX12_pairs_b239 N c152 c171 v2 v3 v4 v5 (v6 / v2) v7 v9 s10) else (if ck v9 6 = true then (if ck v9 6 = true then (if (((gi s10 14 v9.toNatClampNeg) >>> ((gi s10 16 v9.toNatClampNeg) &&& 31)) &&& 1) = 1 then (if ck v9 6 = true then (if ((v7 >>> ((gi s10 16 v9.toNatClampNeg) &&& 31)) &&& 1) = 0 then (fX12_pairs_b240 N c152 c171 v2 v3 v4 v5 (v6 / v2) v7 v9 1 s10) else (fX12_pairs_b239 N c152 c171 v2 v3 v4 v5 (v6 / v2) v7 v9 s10)) else none) else (fX12_pairs_b239 N c152 c171 v2 v3 v4 v5 (v6 / v2) v7 v9 s10)) else none) else none)))) else none)))
set_option maxRecDepth 20000 in
set_option maxHeartbeats 4000000 in
theorem aX12_pairs_s171 (N : Nat) (c152 : Int32 → Int32 → Int32 → Int32 → qMem → Option (Int32 × qMem)) (hc152 : ∀ (v2 : Int32) (v3 : Int32) (v4 : Int32) (v5 : Int32) (σ : qMem), qAt wM mX12_pairs (ρi) 152 [(0, .ref 0), (2, .int v2), (3, .int v3), (4, .int v4), (5, .int v5)] [] σ (c152 v2 v3 v4 v5 σ)) (c171 : Int32 → Int32 → Int32 → Int32 → Int32 → Int32 → Int32 → Int32 → qMem → Option (Int32 × qMem)) (hc171 : ∀ (v2 : Int32) (v3 : Int32) (v4 : Int32) (v5 : Int32) (v6 : Int32) (v7 : Int32) (v8 : Int32) (v9 : Int32) (σ : qMem), qAt wM mX12_pairs (ρi) 171 [(0, .ref 0), (2, .int v2), (3, .int v3), (4, .int v4), (5, .int v5), (6, .int v6), (7, .int v7), (8, .int v8), (9, .int v9)] [] σ (c171 v2 v3 v4 v5 v6 v7 v8 v9 σ)) (v2 : Int32) (v3 : Int32) (v4 : Int32) (v5 : Int32) (v6 : Int32) (v7 : Int32) (v8 : Int32) (v9 : Int32) (σ : qMem) : qAt wM mX12_pairs (ρi) 171 [(0, .ref 0), (2, .int v2), (3, .int v3), (4, .int v4), (5, .int v5), (6, .int v6), (7, .int v7), (8, .int v8), (9, .int v9)] [] σ (fX12_pairs_s171 N c152 c171 v2 v3 v4 v5 v6 v7 v8 v9 σ) := by
  unfold fX12_pairs_s171
  refine q_iload (i := 9) (x := v9) dX12_pairs_171 8 rfl ?_
  refine q_iload_n (i := 2) (x := v2) dX12_pairs_173 rfl 1 rfl ?_
  refine q_icmp_ge (tgt := 262) dX12_pairs_174 (by decide) ?_ ?_
  · refine q_iload (i := 8) (x := v8) dX12_pairs_262 7 rfl ?_
    refine q_if_ne (tgt := 270) dX12_pairs_264 (by decide) ?_ ?_
    · refine q_iinc (i := 4) (x := v4) (v := (v4 + 1)) (L' := [(4, .int (v4 + 1)), (0, .ref 0), (2, .int v2), (3, .int v3), (5, .int v5), (6, .int v6), (7, .int v7), (8, .int v8), (9, .int v9)]) dX12_pairs_270 3 rfl (q_cst v4 (by decide)) (Nat.le_of_ble_eq_true rfl) rfl ?_
      refine q_iconst (v := 0) dX12_pairs_273 (by decide) ?_
      refine q_istore (i := 9) (L' := [(9, .int 0), (4, .int (v4 + 1)), (0, .ref 0), (2, .int v2), (3, .int v3), (5, .int v5), (6, .int v6), (7, .int v7), (8, .int v8)]) dX12_pairs_274 (Nat.le_of_ble_eq_true rfl) rfl ?_
      exact q_sub [2, 3, 4, 1, 5, 0] rfl (aX12_pairs_l276 N c152 hc152 N v2 v3 (v4 + 1) v5 0 σ)
    refine q_goto (tgt := 310) dX12_pairs_267 (by decide) ?_
    exact q_sub [0, 1, 2, 3, 4] rfl (aX12_pairs_b310 N c152 hc152 v2 v3 v4 v5 σ)
  refine q_aload_n (i := 0) (x := 0) dX12_pairs_177 rfl 0 rfl ?_
  refine q_getr (t := 16) dX12_pairs_178 foX12_74 zM_0 rfl ?_
  refine q_iload (i := 9) (x := v9) dX12_pairs_181 8 rfl ?_
  refine q_iload (i := 6) (x := v6) dX12_pairs_183 5 rfl ?_
  refine q_iload_n (i := 2) (x := v2) dX12_pairs_185 rfl 1 rfl ?_
  refine q_iremC dX12_pairs_186 ?_
  refine q_iast dX12_pairs_187 zM_16 ?_
  refine q_nmM (fun s10 => ?_)
  refine q_iload (i := 6) (x := v6) dX12_pairs_188 5 rfl ?_
  refine q_iload_n (i := 2) (x := v2) dX12_pairs_190 rfl 1 rfl ?_
  refine q_idivC dX12_pairs_191 ?_
  refine q_istore (i := 6) (L' := [(6, .int (v6 / v2)), (0, .ref 0), (2, .int v2), (3, .int v3), (4, .int v4), (5, .int v5), (7, .int v7), (8, .int v8), (9, .int v9)]) dX12_pairs_192 (Nat.le_of_ble_eq_true rfl) rfl ?_
  refine q_iload (i := 8) (x := v8) dX12_pairs_194 7 rfl ?_
  refine q_if_eq (tgt := 239) dX12_pairs_196 (by decide) ?_ ?_
  · exact q_sub [1, 2, 3, 4, 5, 0, 6, 8] rfl (aX12_pairs_b239 N c152 c171 hc152 hc171 v2 v3 v4 v5 (v6 / v2) v7 v9 s10)
  refine q_aload_n (i := 0) (x := 0) dX12_pairs_199 rfl 1 rfl ?_
  refine q_getr (t := 14) dX12_pairs_200 foX12_68 zM_0 rfl ?_
  refine q_iload (i := 9) (x := v9) dX12_pairs_203 8 rfl ?_
  refine q_iald dX12_pairs_205 zM_14 ?_
  refine q_aload_n (i := 0) (x := 0) dX12_pairs_206 rfl 1 rfl ?_
  refine q_getr (t := 16) dX12_pairs_207 foX12_74 zM_0 rfl ?_
  refine q_iload (i := 9) (x := v9) dX12_pairs_210 8 rfl ?_
  refine q_iald dX12_pairs_212 zM_16 ?_
  refine q_ishr dX12_pairs_213 ?_
  refine q_iconst (v := 1) dX12_pairs_214 (by decide) ?_
  refine q_iand dX12_pairs_215 ?_
  refine q_iconst (v := 1) dX12_pairs_216 (by decide) ?_
  refine q_icmp_ne (tgt := 239) dX12_pairs_217 (by decide) ?_ ?_
  · exact q_sub [1, 2, 3, 4, 5, 0, 6, 8] rfl (aX12_pairs_b239 N c152 c171 hc152 hc171 v2 v3 v4 v5 (v6 / v2) v7 v9 s10)
  refine q_iload (i := 7) (x := v7) dX12_pairs_220 6 rfl ?_
  refine q_aload_n (i := 0) (x := 0) dX12_pairs_222 rfl 1 rfl ?_
  refine q_getr (t := 16) dX12_pairs_223 foX12_74 zM_0 rfl ?_
  refine q_iload (i := 9) (x := v9) dX12_pairs_226 8 rfl ?_
  refine q_iald dX12_pairs_228 zM_16 ?_
  refine q_ishr dX12_pairs_229 ?_
  refine q_iconst (v := 1) dX12_pairs_230 (by decide) ?_
  refine q_iand dX12_pairs_231 ?_
  refine q_if_ne (tgt := 239) dX12_pairs_232 (by decide) ?_ ?_
  · exact q_sub [1, 2, 3, 4, 5, 0, 6, 8] rfl (aX12_pairs_b239 N c152 c171 hc152 hc171 v2 v3 v4 v5 (v6 / v2) v7 v9 s10)
  refine q_iconst (v := 1) dX12_pairs_235 (by decide) ?_
  refine q_goto (tgt := 240) dX12_pairs_236 (by decide) ?_
  exact q_sub [1, 2, 3, 4, 5, 0, 6, 8] rfl (aX12_pairs_b240 N c152 c171 hc152 hc171 v2 v3 v4 v5 (v6 / v2) v7 v9 1 s10)
def fX12_pairs_l171 (N : Nat) (c152 : Int32 → Int32 → Int32 → Int32 → qMem → Option (Int32 × qMem)) : Nat → Int32 → Int32 → Int32 → Int32 → Int32 → Int32 → Int32 → Int32 → qMem → Option (Int32 × qMem)
  | 0 => fun _ _ _ _ _ _ _ _ _ => none
  | n + 1 => fun v2 v3 v4 v5 v6 v7 v8 v9 σ => fX12_pairs_s171 N c152 (fX12_pairs_l171 N c152 n) v2 v3 v4 v5 v6 v7 v8 v9 σ
theorem aX12_pairs_l171 (N : Nat) (c152 : Int32 → Int32 → Int32 → Int32 → qMem → Option (Int32 × qMem)) (hc152 : ∀ (v2 : Int32) (v3 : Int32) (v4 : Int32) (v5 : Int32) (σ : qMem), qAt wM mX12_pairs (ρi) 152 [(0, .ref 0), (2, .int v2), (3, .int v3), (4, .int v4), (5, .int v5)] [] σ (c152 v2 v3 v4 v5 σ)) : ∀ (n : Nat) (v2 : Int32) (v3 : Int32) (v4 : Int32) (v5 : Int32) (v6 : Int32) (v7 : Int32) (v8 : Int32) (v9 : Int32) (σ : qMem), qAt wM mX12_pairs (ρi) 171 [(0, .ref 0), (2, .int v2), (3, .int v3), (4, .int v4), (5, .int v5), (6, .int v6), (7, .int v7), (8, .int v8), (9, .int v9)] [] σ (fX12_pairs_l171 N c152 n v2 v3 v4 v5 v6 v7 v8 v9 σ) := by
  intro n
  induction n with
  | zero => intro v2 v3 v4 v5 v6 v7 v8 v9 σ; exact q_none
  | succ n ih => intro v2 v3 v4 v5 v6 v7 v8 v9 σ; exact aX12_pairs_s171 N c152 hc152 (fX12_pairs_l171 N c152 n) ih v2 v3 v4 v5 v6 v7 v8 v9 σ

def fX12_pairs_s152 (N : Nat) (c152 : Int32 → Int32 → Int32 → Int32 → qMem → Option (Int32 × qMem)) (v2 : Int32) (v3 : Int32) (v4 : Int32) (v5 : Int32) (σ : qMem) : Option (Int32 × qMem) :=
  (if v3 ≤ v5 then (some (v4, σ)) else (fX12_pairs_l171 N c152 N v2 v3 v4 v5 v5 0 1 0 σ))
set_option maxRecDepth 20000 in
set_option maxHeartbeats 4000000 in
theorem aX12_pairs_s152 (N : Nat) (c152 : Int32 → Int32 → Int32 → Int32 → qMem → Option (Int32 × qMem)) (hc152 : ∀ (v2 : Int32) (v3 : Int32) (v4 : Int32) (v5 : Int32) (σ : qMem), qAt wM mX12_pairs (ρi) 152 [(0, .ref 0), (2, .int v2), (3, .int v3), (4, .int v4), (5, .int v5)] [] σ (c152 v2 v3 v4 v5 σ)) (v2 : Int32) (v3 : Int32) (v4 : Int32) (v5 : Int32) (σ : qMem) : qAt wM mX12_pairs (ρi) 152 [(0, .ref 0), (2, .int v2), (3, .int v3), (4, .int v4), (5, .int v5)] [] σ (fX12_pairs_s152 N c152 v2 v3 v4 v5 σ) := by
  unfold fX12_pairs_s152
  refine q_iload (i := 5) (x := v5) dX12_pairs_152 4 rfl ?_
  refine q_iload_n (i := 3) (x := v3) dX12_pairs_154 rfl 2 rfl ?_
  refine q_icmp_ge (tgt := 316) dX12_pairs_155 (by decide) ?_ ?_
  · refine q_iload (i := 4) (x := v4) dX12_pairs_316 3 rfl ?_
    exact q_ireti (y := (v4, σ)) dX12_pairs_318 rfl rfl
  refine q_iload (i := 5) (x := v5) dX12_pairs_158 4 rfl ?_
  refine q_istore (i := 6) (L' := [(6, .int v5), (0, .ref 0), (2, .int v2), (3, .int v3), (4, .int v4), (5, .int v5)]) dX12_pairs_160 (Nat.le_of_ble_eq_true rfl) rfl ?_
  refine q_iconst (v := 0) dX12_pairs_162 (by decide) ?_
  refine q_istore (i := 7) (L' := [(7, .int 0), (6, .int v5), (0, .ref 0), (2, .int v2), (3, .int v3), (4, .int v4), (5, .int v5)]) dX12_pairs_163 (Nat.le_of_ble_eq_true rfl) rfl ?_
  refine q_iconst (v := 1) dX12_pairs_165 (by decide) ?_
  refine q_istore (i := 8) (L' := [(8, .int 1), (7, .int 0), (6, .int v5), (0, .ref 0), (2, .int v2), (3, .int v3), (4, .int v4), (5, .int v5)]) dX12_pairs_166 (Nat.le_of_ble_eq_true rfl) rfl ?_
  refine q_iconst (v := 0) dX12_pairs_168 (by decide) ?_
  refine q_istore (i := 9) (L' := [(9, .int 0), (8, .int 1), (7, .int 0), (6, .int v5), (0, .ref 0), (2, .int v2), (3, .int v3), (4, .int v4), (5, .int v5)]) dX12_pairs_169 (Nat.le_of_ble_eq_true rfl) rfl ?_
  exact q_sub [4, 5, 6, 7, 8, 3, 2, 1, 0] rfl (aX12_pairs_l171 N c152 hc152 N v2 v3 v4 v5 v5 0 1 0 σ)
def fX12_pairs_l152 (N : Nat) : Nat → Int32 → Int32 → Int32 → Int32 → qMem → Option (Int32 × qMem)
  | 0 => fun _ _ _ _ _ => none
  | n + 1 => fun v2 v3 v4 v5 σ => fX12_pairs_s152 N (fX12_pairs_l152 N n) v2 v3 v4 v5 σ
theorem aX12_pairs_l152 (N : Nat) : ∀ (n : Nat) (v2 : Int32) (v3 : Int32) (v4 : Int32) (v5 : Int32) (σ : qMem), qAt wM mX12_pairs (ρi) 152 [(0, .ref 0), (2, .int v2), (3, .int v3), (4, .int v4), (5, .int v5)] [] σ (fX12_pairs_l152 N n v2 v3 v4 v5 σ) := by
  intro n
  induction n with
  | zero => intro v2 v3 v4 v5 σ; exact q_none
  | succ n ih => intro v2 v3 v4 v5 σ; exact aX12_pairs_s152 N (fX12_pairs_l152 N n) ih v2 v3 v4 v5 σ

def fX12_pairs_s130 (N : Nat) (c130 : Int32 → Int32 → Int32 → qMem → Option (Int32 × qMem)) (v2 : Int32) (v3 : Int32) (v4 : Int32) (σ : qMem) : Option (Int32 × qMem) :=
  (if v2 ≤ v4 then (fX12_pairs_l152 N N v2 v3 0 0 σ) else (c130 v2 (v3 * v2) (v4 + 1) σ))
set_option maxRecDepth 20000 in
set_option maxHeartbeats 4000000 in
theorem aX12_pairs_s130 (N : Nat) (c130 : Int32 → Int32 → Int32 → qMem → Option (Int32 × qMem)) (hc130 : ∀ (v2 : Int32) (v3 : Int32) (v4 : Int32) (σ : qMem), qAt wM mX12_pairs (ρi) 130 [(0, .ref 0), (2, .int v2), (3, .int v3), (4, .int v4)] [] σ (c130 v2 v3 v4 σ)) (v2 : Int32) (v3 : Int32) (v4 : Int32) (σ : qMem) : qAt wM mX12_pairs (ρi) 130 [(0, .ref 0), (2, .int v2), (3, .int v3), (4, .int v4)] [] σ (fX12_pairs_s130 N c130 v2 v3 v4 σ) := by
  unfold fX12_pairs_s130
  refine q_iload (i := 4) (x := v4) dX12_pairs_130 3 rfl ?_
  refine q_iload_n (i := 2) (x := v2) dX12_pairs_132 rfl 1 rfl ?_
  refine q_icmp_ge (tgt := 146) dX12_pairs_133 (by decide) ?_ ?_
  · refine q_iconst (v := 0) dX12_pairs_146 (by decide) ?_
    refine q_istore (i := 4) (L' := [(4, .int 0), (0, .ref 0), (2, .int v2), (3, .int v3)]) dX12_pairs_147 (Nat.le_of_ble_eq_true rfl) rfl ?_
    refine q_iconst (v := 0) dX12_pairs_149 (by decide) ?_
    refine q_istore (i := 5) (L' := [(5, .int 0), (4, .int 0), (0, .ref 0), (2, .int v2), (3, .int v3)]) dX12_pairs_150 (Nat.le_of_ble_eq_true rfl) rfl ?_
    exact q_sub [2, 3, 4, 1, 0] rfl (aX12_pairs_l152 N N v2 v3 0 0 σ)
  refine q_iload_n (i := 3) (x := v3) dX12_pairs_136 rfl 2 rfl ?_
  refine q_iload_n (i := 2) (x := v2) dX12_pairs_137 rfl 1 rfl ?_
  refine q_imul dX12_pairs_138 ?_
  refine q_istore_n (i := 3) (L' := [(3, .int (v3 * v2)), (0, .ref 0), (2, .int v2), (4, .int v4)]) dX12_pairs_139 rfl (Nat.le_of_ble_eq_true rfl) rfl ?_
  refine q_iinc (i := 4) (x := v4) (v := (v4 + 1)) (L' := [(4, .int (v4 + 1)), (3, .int (v3 * v2)), (0, .ref 0), (2, .int v2)]) dX12_pairs_140 3 rfl (q_cst v4 (by decide)) (Nat.le_of_ble_eq_true rfl) rfl ?_
  refine q_goto (tgt := 130) dX12_pairs_143 (by decide) ?_
  exact q_sub [2, 3, 1, 0] rfl (hc130 v2 (v3 * v2) (v4 + 1) σ)
def fX12_pairs_l130 (N : Nat) : Nat → Int32 → Int32 → Int32 → qMem → Option (Int32 × qMem)
  | 0 => fun _ _ _ _ => none
  | n + 1 => fun v2 v3 v4 σ => fX12_pairs_s130 N (fX12_pairs_l130 N n) v2 v3 v4 σ
theorem aX12_pairs_l130 (N : Nat) : ∀ (n : Nat) (v2 : Int32) (v3 : Int32) (v4 : Int32) (σ : qMem), qAt wM mX12_pairs (ρi) 130 [(0, .ref 0), (2, .int v2), (3, .int v3), (4, .int v4)] [] σ (fX12_pairs_l130 N n v2 v3 v4 σ) := by
  intro n
  induction n with
  | zero => intro v2 v3 v4 σ; exact q_none
  | succ n ih => intro v2 v3 v4 σ; exact aX12_pairs_s130 N (fX12_pairs_l130 N n) ih v2 v3 v4 σ

def fX12_pairs_b113 (N : Nat) (c56 : Int32 → Int32 → Int32 → qMem → Option (Int32 × qMem)) (c71 : Int32 → Int32 → Int32 → Int32 → qMem → Option (Int32 × qMem)) (v1 : Int32) (v2 : Int32) (v3 : Int32) (v4 : Int32) (σ : qMem) : Option (Int32 × qMem) :=
  (c71 v1 v2 v3 (v4 + 1) σ)
set_option maxRecDepth 20000 in
set_option maxHeartbeats 4000000 in
theorem aX12_pairs_b113 (N : Nat) (c56 : Int32 → Int32 → Int32 → qMem → Option (Int32 × qMem)) (c71 : Int32 → Int32 → Int32 → Int32 → qMem → Option (Int32 × qMem)) (hc56 : ∀ (v1 : Int32) (v2 : Int32) (v3 : Int32) (σ : qMem), qAt wM mX12_pairs (ρi) 56 [(0, .ref 0), (1, .int v1), (2, .int v2), (3, .int v3)] [] σ (c56 v1 v2 v3 σ)) (hc71 : ∀ (v1 : Int32) (v2 : Int32) (v3 : Int32) (v4 : Int32) (σ : qMem), qAt wM mX12_pairs (ρi) 71 [(0, .ref 0), (1, .int v1), (2, .int v2), (3, .int v3), (4, .int v4)] [] σ (c71 v1 v2 v3 v4 σ)) (v1 : Int32) (v2 : Int32) (v3 : Int32) (v4 : Int32) (σ : qMem) : qAt wM mX12_pairs (ρi) 113 [(0, .ref 0), (1, .int v1), (2, .int v2), (3, .int v3), (4, .int v4)] [] σ (fX12_pairs_b113 N c56 c71 v1 v2 v3 v4 σ) := by
  unfold fX12_pairs_b113
  refine q_iinc (i := 4) (x := v4) (v := (v4 + 1)) (L' := [(4, .int (v4 + 1)), (0, .ref 0), (1, .int v1), (2, .int v2), (3, .int v3)]) dX12_pairs_113 4 rfl (q_cst v4 (by decide)) (Nat.le_of_ble_eq_true rfl) rfl ?_
  refine q_goto (tgt := 71) dX12_pairs_116 (by decide) ?_
  exact q_sub [1, 2, 3, 4, 0] rfl (hc71 v1 v2 v3 (v4 + 1) σ)

def fX12_pairs_s71 (N : Nat) (c56 : Int32 → Int32 → Int32 → qMem → Option (Int32 × qMem)) (c71 : Int32 → Int32 → Int32 → Int32 → qMem → Option (Int32 × qMem)) (v1 : Int32) (v2 : Int32) (v3 : Int32) (v4 : Int32) (σ : qMem) : Option (Int32 × qMem) :=
  (if v2 ≤ v4 then (c56 v1 v2 (v3 + 1) σ) else ((fX12_newOf N 0 v1 v3 σ).bind fun y6 => ((fX12_newOf N 1 v1 v4 σ).bind fun y7 => ((fX12_crosses N v1 y6 y7 σ).bind fun y8 => (if y8.1 ≤ 0 then (fX12_pairs_b113 N c56 c71 v1 v2 v3 v4 y8.2) else (if ck v3 6 = true then (if ck v3 6 = true then (nmM (si y8.2 14 v3.toNatClampNeg ((gi y8.2 14 v3.toNatClampNeg) ||| ((1 : Int32) <<< (v4 &&& 31)))) fun s9 => (fX12_pairs_b113 N c56 c71 v1 v2 v3 v4 s9)) else none) else none))))))
set_option maxRecDepth 20000 in
set_option maxHeartbeats 4000000 in
theorem aX12_pairs_s71 (N : Nat) (c56 : Int32 → Int32 → Int32 → qMem → Option (Int32 × qMem)) (hc56 : ∀ (v1 : Int32) (v2 : Int32) (v3 : Int32) (σ : qMem), qAt wM mX12_pairs (ρi) 56 [(0, .ref 0), (1, .int v1), (2, .int v2), (3, .int v3)] [] σ (c56 v1 v2 v3 σ)) (c71 : Int32 → Int32 → Int32 → Int32 → qMem → Option (Int32 × qMem)) (hc71 : ∀ (v1 : Int32) (v2 : Int32) (v3 : Int32) (v4 : Int32) (σ : qMem), qAt wM mX12_pairs (ρi) 71 [(0, .ref 0), (1, .int v1), (2, .int v2), (3, .int v3), (4, .int v4)] [] σ (c71 v1 v2 v3 v4 σ)) (v1 : Int32) (v2 : Int32) (v3 : Int32) (v4 : Int32) (σ : qMem) : qAt wM mX12_pairs (ρi) 71 [(0, .ref 0), (1, .int v1), (2, .int v2), (3, .int v3), (4, .int v4)] [] σ (fX12_pairs_s71 N c56 c71 v1 v2 v3 v4 σ) := by
  unfold fX12_pairs_s71
  refine q_iload (i := 4) (x := v4) dX12_pairs_71 4 rfl ?_
  refine q_iload_n (i := 2) (x := v2) dX12_pairs_73 rfl 2 rfl ?_
  refine q_icmp_ge (tgt := 119) dX12_pairs_74 (by decide) ?_ ?_
  · refine q_iinc (i := 3) (x := v3) (v := (v3 + 1)) (L' := [(3, .int (v3 + 1)), (0, .ref 0), (1, .int v1), (2, .int v2), (4, .int v4)]) dX12_pairs_119 3 rfl (q_cst v3 (by decide)) (Nat.le_of_ble_eq_true rfl) rfl ?_
    refine q_goto (tgt := 56) dX12_pairs_122 (by decide) ?_
    exact q_sub [1, 2, 3, 0] rfl (hc56 v1 v2 (v3 + 1) σ)
  refine q_aload_n (i := 0) (x := 0) dX12_pairs_77 rfl 0 rfl ?_
  refine q_iload_n (i := 1) (x := v1) dX12_pairs_78 rfl 1 rfl ?_
  refine q_aload_n (i := 0) (x := 0) dX12_pairs_79 rfl 0 rfl ?_
  refine q_iconst (v := 0) dX12_pairs_80 (by decide) ?_
  refine q_iload_n (i := 1) (x := v1) dX12_pairs_81 rfl 1 rfl ?_
  refine q_iload_n (i := 3) (x := v3) dX12_pairs_82 rfl 3 rfl ?_
  refine q_cVp mX12_newOf [.int 0, .int v1, .int v3] (st := [.int v1, .ref 0]) dX12_pairs_83 (svX12_294) ⟨Nat.le_of_ble_eq_true rfl, Nat.le_of_ble_eq_true rfl⟩ zM_0 rfl rfl rfl (Nat.le_of_ble_eq_true rfl) (kX12_newOf N 0 v1 v3 σ) (fun y6 => ?_)
  refine q_aload_n (i := 0) (x := 0) dX12_pairs_86 rfl 0 rfl ?_
  refine q_iconst (v := 1) dX12_pairs_87 (by decide) ?_
  refine q_iload_n (i := 1) (x := v1) dX12_pairs_88 rfl 1 rfl ?_
  refine q_iload (i := 4) (x := v4) dX12_pairs_89 4 rfl ?_
  refine q_cVp mX12_newOf [.int 1, .int v1, .int v4] (st := [.int y6, .int v1, .ref 0]) dX12_pairs_91 (svX12_294) ⟨Nat.le_of_ble_eq_true rfl, Nat.le_of_ble_eq_true rfl⟩ zM_0 rfl rfl rfl (Nat.le_of_ble_eq_true rfl) (kX12_newOf N 1 v1 v4 σ) (fun y7 => ?_)
  refine q_cVi mX12_crosses [.int v1, .int y6, .int y7] (st := []) dX12_pairs_94 (svX12_297) ⟨Nat.le_of_ble_eq_true rfl, Nat.le_of_ble_eq_true rfl⟩ zM_0 rfl rfl rfl (Nat.le_of_ble_eq_true rfl) (kX12_crosses N v1 y6 y7 σ) (fun y8 => ?_)
  refine q_if_le (tgt := 113) dX12_pairs_97 (by decide) ?_ ?_
  · exact q_sub [0, 1, 2, 3, 4] rfl (aX12_pairs_b113 N c56 c71 hc56 hc71 v1 v2 v3 v4 y8.2)
  refine q_aload_n (i := 0) (x := 0) dX12_pairs_100 rfl 0 rfl ?_
  refine q_getr (t := 14) dX12_pairs_101 foX12_68 zM_0 rfl ?_
  refine q_iload_n (i := 3) (x := v3) dX12_pairs_104 rfl 3 rfl ?_
  refine q_dup2 dX12_pairs_105 rfl rfl ?_
  refine q_iald dX12_pairs_106 zM_14 ?_
  refine q_iconst (v := 1) dX12_pairs_107 (by decide) ?_
  refine q_iload (i := 4) (x := v4) dX12_pairs_108 4 rfl ?_
  refine q_ishl dX12_pairs_110 ?_
  refine q_ior dX12_pairs_111 ?_
  refine q_iast dX12_pairs_112 zM_14 ?_
  refine q_nmM (fun s9 => ?_)
  exact q_sub [0, 1, 2, 3, 4] rfl (aX12_pairs_b113 N c56 c71 hc56 hc71 v1 v2 v3 v4 s9)
def fX12_pairs_l71 (N : Nat) (c56 : Int32 → Int32 → Int32 → qMem → Option (Int32 × qMem)) : Nat → Int32 → Int32 → Int32 → Int32 → qMem → Option (Int32 × qMem)
  | 0 => fun _ _ _ _ _ => none
  | n + 1 => fun v1 v2 v3 v4 σ => fX12_pairs_s71 N c56 (fX12_pairs_l71 N c56 n) v1 v2 v3 v4 σ
theorem aX12_pairs_l71 (N : Nat) (c56 : Int32 → Int32 → Int32 → qMem → Option (Int32 × qMem)) (hc56 : ∀ (v1 : Int32) (v2 : Int32) (v3 : Int32) (σ : qMem), qAt wM mX12_pairs (ρi) 56 [(0, .ref 0), (1, .int v1), (2, .int v2), (3, .int v3)] [] σ (c56 v1 v2 v3 σ)) : ∀ (n : Nat) (v1 : Int32) (v2 : Int32) (v3 : Int32) (v4 : Int32) (σ : qMem), qAt wM mX12_pairs (ρi) 71 [(0, .ref 0), (1, .int v1), (2, .int v2), (3, .int v3), (4, .int v4)] [] σ (fX12_pairs_l71 N c56 n v1 v2 v3 v4 σ) := by
  intro n
  induction n with
  | zero => intro v1 v2 v3 v4 σ; exact q_none
  | succ n ih => intro v1 v2 v3 v4 σ; exact aX12_pairs_s71 N c56 hc56 (fX12_pairs_l71 N c56 n) ih v1 v2 v3 v4 σ

def fX12_pairs_s56 (N : Nat) (c56 : Int32 → Int32 → Int32 → qMem → Option (Int32 × qMem)) (v1 : Int32) (v2 : Int32) (v3 : Int32) (σ : qMem) : Option (Int32 × qMem) :=
  (if v2 ≤ v3 then (fX12_pairs_l130 N N v2 1 0 σ) else (if ck v3 6 = true then (nmM (si σ 14 v3.toNatClampNeg 0) fun s5 => (fX12_pairs_l71 N c56 N v1 v2 v3 0 s5)) else none))
set_option maxRecDepth 20000 in
set_option maxHeartbeats 4000000 in
theorem aX12_pairs_s56 (N : Nat) (c56 : Int32 → Int32 → Int32 → qMem → Option (Int32 × qMem)) (hc56 : ∀ (v1 : Int32) (v2 : Int32) (v3 : Int32) (σ : qMem), qAt wM mX12_pairs (ρi) 56 [(0, .ref 0), (1, .int v1), (2, .int v2), (3, .int v3)] [] σ (c56 v1 v2 v3 σ)) (v1 : Int32) (v2 : Int32) (v3 : Int32) (σ : qMem) : qAt wM mX12_pairs (ρi) 56 [(0, .ref 0), (1, .int v1), (2, .int v2), (3, .int v3)] [] σ (fX12_pairs_s56 N c56 v1 v2 v3 σ) := by
  unfold fX12_pairs_s56
  refine q_iload_n (i := 3) (x := v3) dX12_pairs_56 rfl 3 rfl ?_
  refine q_iload_n (i := 2) (x := v2) dX12_pairs_57 rfl 2 rfl ?_
  refine q_icmp_ge (tgt := 125) dX12_pairs_58 (by decide) ?_ ?_
  · refine q_iconst (v := 1) dX12_pairs_125 (by decide) ?_
    refine q_istore_n (i := 3) (L' := [(3, .int 1), (0, .ref 0), (1, .int v1), (2, .int v2)]) dX12_pairs_126 rfl (Nat.le_of_ble_eq_true rfl) rfl ?_
    refine q_iconst (v := 0) dX12_pairs_127 (by decide) ?_
    refine q_istore (i := 4) (L' := [(4, .int 0), (3, .int 1), (0, .ref 0), (1, .int v1), (2, .int v2)]) dX12_pairs_128 (Nat.le_of_ble_eq_true rfl) rfl ?_
    exact q_sub [2, 4, 1, 0] rfl (aX12_pairs_l130 N N v2 1 0 σ)
  refine q_aload_n (i := 0) (x := 0) dX12_pairs_61 rfl 0 rfl ?_
  refine q_getr (t := 14) dX12_pairs_62 foX12_68 zM_0 rfl ?_
  refine q_iload_n (i := 3) (x := v3) dX12_pairs_65 rfl 3 rfl ?_
  refine q_iconst (v := 0) dX12_pairs_66 (by decide) ?_
  refine q_iast dX12_pairs_67 zM_14 ?_
  refine q_nmM (fun s5 => ?_)
  refine q_iconst (v := 0) dX12_pairs_68 (by decide) ?_
  refine q_istore (i := 4) (L' := [(4, .int 0), (0, .ref 0), (1, .int v1), (2, .int v2), (3, .int v3)]) dX12_pairs_69 (Nat.le_of_ble_eq_true rfl) rfl ?_
  exact q_sub [1, 2, 3, 4, 0] rfl (aX12_pairs_l71 N c56 hc56 N v1 v2 v3 0 s5)
def fX12_pairs_l56 (N : Nat) : Nat → Int32 → Int32 → Int32 → qMem → Option (Int32 × qMem)
  | 0 => fun _ _ _ _ => none
  | n + 1 => fun v1 v2 v3 σ => fX12_pairs_s56 N (fX12_pairs_l56 N n) v1 v2 v3 σ
theorem aX12_pairs_l56 (N : Nat) : ∀ (n : Nat) (v1 : Int32) (v2 : Int32) (v3 : Int32) (σ : qMem), qAt wM mX12_pairs (ρi) 56 [(0, .ref 0), (1, .int v1), (2, .int v2), (3, .int v3)] [] σ (fX12_pairs_l56 N n v1 v2 v3 σ) := by
  intro n
  induction n with
  | zero => intro v1 v2 v3 σ; exact q_none
  | succ n ih => intro v1 v2 v3 σ; exact aX12_pairs_s56 N (fX12_pairs_l56 N n) ih v1 v2 v3 σ

def fX12_pairs_s6 (N : Nat) (c6 : Int32 → Int32 → qMem → Option (Int32 × qMem)) (v1 : Int32) (v2 : Int32) (σ : qMem) : Option (Int32 × qMem) :=
  (if 36 ≤ v2 then ((fX12_newsOf N 0 v1 σ).bind fun y2 => (if y2 = 0 then (some (0, σ)) else ((fX12_newsOf N 1 v1 σ).bind fun y3 => (if y2 = y3 then (if y2 ≤ 6 then (fX12_pairs_l56 N N v1 y2 0 σ) else (some (0, σ))) else (some (0, σ)))))) else (if ck v2 36 = true then (nmM (si σ 15 v2.toNatClampNeg 0) fun s4 => (c6 v1 (v2 + 1) s4)) else none))
set_option maxRecDepth 20000 in
set_option maxHeartbeats 4000000 in
theorem aX12_pairs_s6 (N : Nat) (c6 : Int32 → Int32 → qMem → Option (Int32 × qMem)) (hc6 : ∀ (v1 : Int32) (v2 : Int32) (σ : qMem), qAt wM mX12_pairs (ρi) 6 [(0, .ref 0), (1, .int v1), (2, .int v2)] [] σ (c6 v1 v2 σ)) (v1 : Int32) (v2 : Int32) (σ : qMem) : qAt wM mX12_pairs (ρi) 6 [(0, .ref 0), (1, .int v1), (2, .int v2)] [] σ (fX12_pairs_s6 N c6 v1 v2 σ) := by
  unfold fX12_pairs_s6
  refine q_iload_n (i := 2) (x := v2) dX12_pairs_6 rfl 2 rfl ?_
  refine q_bipush (v := 36) dX12_pairs_7 (by decide) ?_
  refine q_icmp_ge (tgt := 25) dX12_pairs_9 (by decide) ?_ ?_
  · refine q_aload_n (i := 0) (x := 0) dX12_pairs_25 rfl 0 rfl ?_
    refine q_iconst (v := 0) dX12_pairs_26 (by decide) ?_
    refine q_iload_n (i := 1) (x := v1) dX12_pairs_27 rfl 1 rfl ?_
    refine q_cVp mX12_newsOf [.int 0, .int v1] (st := []) dX12_pairs_28 (svX12_300) ⟨Nat.le_of_ble_eq_true rfl, Nat.le_of_ble_eq_true rfl⟩ zM_0 rfl rfl rfl (Nat.le_of_ble_eq_true rfl) (kX12_newsOf N 0 v1 σ) (fun y2 => ?_)
    refine q_istore_n (i := 2) (L' := [(2, .int y2), (0, .ref 0), (1, .int v1)]) dX12_pairs_31 rfl (Nat.le_of_ble_eq_true rfl) rfl ?_
    refine q_iload_n (i := 2) (x := y2) dX12_pairs_32 rfl 0 rfl ?_
    refine q_if_eq (tgt := 52) dX12_pairs_33 (by decide) ?_ ?_
    · refine q_iconst (v := 0) dX12_pairs_52 (by decide) ?_
      exact q_ireti (y := (0, σ)) dX12_pairs_53 rfl rfl
    refine q_iload_n (i := 2) (x := y2) dX12_pairs_36 rfl 0 rfl ?_
    refine q_aload_n (i := 0) (x := 0) dX12_pairs_37 rfl 1 rfl ?_
    refine q_iconst (v := 1) dX12_pairs_38 (by decide) ?_
    refine q_iload_n (i := 1) (x := v1) dX12_pairs_39 rfl 2 rfl ?_
    refine q_cVp mX12_newsOf [.int 1, .int v1] (st := [.int y2]) dX12_pairs_40 (svX12_300) ⟨Nat.le_of_ble_eq_true rfl, Nat.le_of_ble_eq_true rfl⟩ zM_0 rfl rfl rfl (Nat.le_of_ble_eq_true rfl) (kX12_newsOf N 1 v1 σ) (fun y3 => ?_)
    refine q_icmp_ne (tgt := 52) dX12_pairs_43 (by decide) ?_ ?_
    · refine q_iconst (v := 0) dX12_pairs_52 (by decide) ?_
      exact q_ireti (y := (0, σ)) dX12_pairs_53 rfl rfl
    refine q_iload_n (i := 2) (x := y2) dX12_pairs_46 rfl 0 rfl ?_
    refine q_bipush (v := 6) dX12_pairs_47 (by decide) ?_
    refine q_icmp_le (tgt := 54) dX12_pairs_49 (by decide) ?_ ?_
    · refine q_iconst (v := 0) dX12_pairs_54 (by decide) ?_
      refine q_istore_n (i := 3) (L' := [(3, .int 0), (2, .int y2), (0, .ref 0), (1, .int v1)]) dX12_pairs_55 rfl (Nat.le_of_ble_eq_true rfl) rfl ?_
      exact q_sub [2, 3, 1, 0] rfl (aX12_pairs_l56 N N v1 y2 0 σ)
    refine q_iconst (v := 0) dX12_pairs_52 (by decide) ?_
    exact q_ireti (y := (0, σ)) dX12_pairs_53 rfl rfl
  refine q_aload_n (i := 0) (x := 0) dX12_pairs_12 rfl 0 rfl ?_
  refine q_getr (t := 15) dX12_pairs_13 foX12_71 zM_0 rfl ?_
  refine q_iload_n (i := 2) (x := v2) dX12_pairs_16 rfl 2 rfl ?_
  refine q_iconst (v := 0) dX12_pairs_17 (by decide) ?_
  refine q_iast dX12_pairs_18 zM_15 ?_
  refine q_nmM (fun s4 => ?_)
  refine q_iinc (i := 2) (x := v2) (v := (v2 + 1)) (L' := [(2, .int (v2 + 1)), (0, .ref 0), (1, .int v1)]) dX12_pairs_19 2 rfl (q_cst v2 (by decide)) (Nat.le_of_ble_eq_true rfl) rfl ?_
  refine q_goto (tgt := 6) dX12_pairs_22 (by decide) ?_
  exact q_sub [1, 2, 0] rfl (hc6 v1 (v2 + 1) s4)
def fX12_pairs_l6 (N : Nat) : Nat → Int32 → Int32 → qMem → Option (Int32 × qMem)
  | 0 => fun _ _ _ => none
  | n + 1 => fun v1 v2 σ => fX12_pairs_s6 N (fX12_pairs_l6 N n) v1 v2 σ
theorem aX12_pairs_l6 (N : Nat) : ∀ (n : Nat) (v1 : Int32) (v2 : Int32) (σ : qMem), qAt wM mX12_pairs (ρi) 6 [(0, .ref 0), (1, .int v1), (2, .int v2)] [] σ (fX12_pairs_l6 N n v1 v2 σ) := by
  intro n
  induction n with
  | zero => intro v1 v2 σ; exact q_none
  | succ n ih => intro v1 v2 σ; exact aX12_pairs_s6 N (fX12_pairs_l6 N n) ih v1 v2 σ

def fX12_pairs (N : Nat) (p1 : Int32) (σ : qMem) : Option (Int32 × qMem) :=
  ((fX12_laysNews N σ).bind fun y1 => (fX12_pairs_l6 N N p1 0 y1))
set_option maxRecDepth 20000 in
set_option maxHeartbeats 4000000 in
theorem aX12_pairs  (N : Nat) (p1 : Int32)  (σ : qMem) : qAt wM mX12_pairs (ρi) 0 [(0, .ref 0), (1, .int p1)] [] σ (fX12_pairs N p1 σ) := by
  unfold fX12_pairs
  refine q_aload_n (i := 0) (x := 0) dX12_pairs_0 rfl 0 rfl ?_
  refine q_cVv mX12_laysNews [] (st := []) dX12_pairs_1 (svX12_223) ⟨Nat.le_of_ble_eq_true rfl, Nat.le_of_ble_eq_true rfl⟩ zM_0 rfl rfl rfl (Nat.le_of_ble_eq_true rfl) (kX12_laysNews N σ) (fun y1 => ?_)
  refine q_iconst (v := 0) dX12_pairs_4 (by decide) ?_
  refine q_istore_n (i := 2) (L' := [(2, .int 0), (0, .ref 0), (1, .int p1)]) dX12_pairs_5 rfl (Nat.le_of_ble_eq_true rfl) rfl ?_
  exact q_sub [1, 2, 0] rfl (aX12_pairs_l6 N N p1 0 y1)
theorem kX12_pairs  (N : Nat) (p1 : Int32)  (σ : qMem) : qMc wM mX12_pairs (ρi) [.ref 0, .int p1] σ (fX12_pairs N p1 σ) := qMc_of (moX12_pairs) (Nat.le_of_ble_eq_true rfl) (aX12_pairs N p1  σ)

theorem dX12_pairings_0 : decode cX12_pairings 0 = .ok (.iload_n 1, 1) := by decide +kernel
theorem dX12_pairings_1 : decode cX12_pairings 1 = .ok (.invokestatic 132, 3) := by decide +kernel
theorem dX12_pairings_4 : decode cX12_pairings 4 = .ok (.ifCond .eq 11, 3) := by decide +kernel
theorem dX12_pairings_7 : decode cX12_pairings 7 = .ok (.aload_n 0, 1) := by decide +kernel
theorem dX12_pairings_8 : decode cX12_pairings 8 = .ok (.iload_n 1, 1) := by decide +kernel
theorem dX12_pairings_9 : decode cX12_pairings 9 = .ok (.invokevirtual 303, 3) := by decide +kernel
theorem dX12_pairings_12 : decode cX12_pairings 12 = .ok (.goto 4, 3) := by decide +kernel
theorem dX12_pairings_15 : decode cX12_pairings 15 = .ok (.iconst (-1), 1) := by decide +kernel
theorem dX12_pairings_16 : decode cX12_pairings 16 = .ok (.ireturn, 1) := by decide +kernel

def fX12_pairings (N : Nat) (p1 : Int32) (σ : qMem) : Option (Int32 × qMem) :=
  ((fX12_isBell p1).bind fun y1 => (if y1 = 0 then (some ((-1), σ)) else ((fX12_pairs N p1 σ).bind fun y2 => (some (y2.1, y2.2)))))
set_option maxRecDepth 20000 in
set_option maxHeartbeats 4000000 in
theorem aX12_pairings  (N : Nat) (p1 : Int32)  (σ : qMem) : qAt wM mX12_pairings (ρi) 0 [(0, .ref 0), (1, .int p1)] [] σ (fX12_pairings N p1 σ) := by
  unfold fX12_pairings
  refine q_iload_n (i := 1) (x := p1) dX12_pairings_0 rfl 1 rfl ?_
  refine q_cSp mX12_isBell [.int p1] (st := []) dX12_pairings_1 (ssX12_132) ⟨Nat.le_of_ble_eq_true rfl, Nat.le_of_ble_eq_true rfl⟩ rfl rfl (Nat.le_of_ble_eq_true rfl) (kX12_isBell p1 σ) (fun y1 => ?_)
  refine q_if_eq (tgt := 15) dX12_pairings_4 (by decide) ?_ ?_
  · refine q_iconst (v := (-1)) dX12_pairings_15 (by decide) ?_
    exact q_ireti (y := ((-1), σ)) dX12_pairings_16 rfl rfl
  refine q_aload_n (i := 0) (x := 0) dX12_pairings_7 rfl 0 rfl ?_
  refine q_iload_n (i := 1) (x := p1) dX12_pairings_8 rfl 1 rfl ?_
  refine q_cVi mX12_pairs [.int p1] (st := []) dX12_pairings_9 (svX12_303) ⟨Nat.le_of_ble_eq_true rfl, Nat.le_of_ble_eq_true rfl⟩ zM_0 rfl rfl rfl (Nat.le_of_ble_eq_true rfl) (kX12_pairs N p1 σ) (fun y2 => ?_)
  refine q_goto (tgt := 16) dX12_pairings_12 (by decide) ?_
  exact q_ireti (y := (y2.1, y2.2)) dX12_pairings_16 rfl rfl
theorem kX12_pairings  (N : Nat) (p1 : Int32)  (σ : qMem) : qMc wM mX12_pairings (ρi) [.ref 0, .int p1] σ (fX12_pairings N p1 σ) := qMc_of (moX12_pairings) (Nat.le_of_ble_eq_true rfl) (aX12_pairings N p1  σ)

theorem dX12_ghost_0 : decode cX12_ghost 0 = .ok (.iload_n 1, 1) := by decide +kernel
theorem dX12_ghost_1 : decode cX12_ghost 1 = .ok (.invokestatic 132, 3) := by decide +kernel
theorem dX12_ghost_4 : decode cX12_ghost 4 = .ok (.ifCond .ne 5, 3) := by decide +kernel
theorem dX12_ghost_7 : decode cX12_ghost 7 = .ok (.iconst (-1), 1) := by decide +kernel
theorem dX12_ghost_8 : decode cX12_ghost 8 = .ok (.ireturn, 1) := by decide +kernel
theorem dX12_ghost_9 : decode cX12_ghost 9 = .ok (.aload_n 0, 1) := by decide +kernel
theorem dX12_ghost_10 : decode cX12_ghost 10 = .ok (.invokevirtual 223, 3) := by decide +kernel
theorem dX12_ghost_13 : decode cX12_ghost 13 = .ok (.aload_n 0, 1) := by decide +kernel
theorem dX12_ghost_14 : decode cX12_ghost 14 = .ok (.iconst 0, 1) := by decide +kernel
theorem dX12_ghost_15 : decode cX12_ghost 15 = .ok (.iload_n 1, 1) := by decide +kernel
theorem dX12_ghost_16 : decode cX12_ghost 16 = .ok (.iload_n 2, 1) := by decide +kernel
theorem dX12_ghost_17 : decode cX12_ghost 17 = .ok (.invokevirtual 294, 3) := by decide +kernel
theorem dX12_ghost_20 : decode cX12_ghost 20 = .ok (.iconst (-1), 1) := by decide +kernel
theorem dX12_ghost_21 : decode cX12_ghost 21 = .ok (.if_icmp .eq 14, 3) := by decide +kernel
theorem dX12_ghost_24 : decode cX12_ghost 24 = .ok (.aload_n 0, 1) := by decide +kernel
theorem dX12_ghost_25 : decode cX12_ghost 25 = .ok (.iconst 1, 1) := by decide +kernel
theorem dX12_ghost_26 : decode cX12_ghost 26 = .ok (.iload_n 1, 1) := by decide +kernel
theorem dX12_ghost_27 : decode cX12_ghost 27 = .ok (.iload_n 3, 1) := by decide +kernel
theorem dX12_ghost_28 : decode cX12_ghost 28 = .ok (.invokevirtual 294, 3) := by decide +kernel
theorem dX12_ghost_31 : decode cX12_ghost 31 = .ok (.iconst (-1), 1) := by decide +kernel
theorem dX12_ghost_32 : decode cX12_ghost 32 = .ok (.if_icmp .ne 5, 3) := by decide +kernel
theorem dX12_ghost_35 : decode cX12_ghost 35 = .ok (.iconst (-1), 1) := by decide +kernel
theorem dX12_ghost_36 : decode cX12_ghost 36 = .ok (.ireturn, 1) := by decide +kernel
theorem dX12_ghost_37 : decode cX12_ghost 37 = .ok (.aload_n 0, 1) := by decide +kernel
theorem dX12_ghost_38 : decode cX12_ghost 38 = .ok (.iload_n 1, 1) := by decide +kernel
theorem dX12_ghost_39 : decode cX12_ghost 39 = .ok (.invokevirtual 303, 3) := by decide +kernel
theorem dX12_ghost_42 : decode cX12_ghost 42 = .ok (.istore 4, 2) := by decide +kernel
theorem dX12_ghost_44 : decode cX12_ghost 44 = .ok (.iload 4, 2) := by decide +kernel
theorem dX12_ghost_46 : decode cX12_ghost 46 = .ok (.ifCond .le 33, 3) := by decide +kernel
theorem dX12_ghost_49 : decode cX12_ghost 49 = .ok (.iload_n 2, 1) := by decide +kernel
theorem dX12_ghost_50 : decode cX12_ghost 50 = .ok (.bipush 6, 2) := by decide +kernel
theorem dX12_ghost_52 : decode cX12_ghost 52 = .ok (.if_icmp .ge 27, 3) := by decide +kernel
theorem dX12_ghost_55 : decode cX12_ghost 55 = .ok (.iload_n 3, 1) := by decide +kernel
theorem dX12_ghost_56 : decode cX12_ghost 56 = .ok (.bipush 6, 2) := by decide +kernel
theorem dX12_ghost_58 : decode cX12_ghost 58 = .ok (.if_icmp .ge 21, 3) := by decide +kernel
theorem dX12_ghost_61 : decode cX12_ghost 61 = .ok (.aload_n 0, 1) := by decide +kernel
theorem dX12_ghost_62 : decode cX12_ghost 62 = .ok (.getfield 71, 3) := by decide +kernel
theorem dX12_ghost_65 : decode cX12_ghost 65 = .ok (.bipush 6, 2) := by decide +kernel
theorem dX12_ghost_67 : decode cX12_ghost 67 = .ok (.iload_n 2, 1) := by decide +kernel
theorem dX12_ghost_68 : decode cX12_ghost 68 = .ok (.imul, 1) := by decide +kernel
theorem dX12_ghost_69 : decode cX12_ghost 69 = .ok (.iload_n 3, 1) := by decide +kernel
theorem dX12_ghost_70 : decode cX12_ghost 70 = .ok (.iadd, 1) := by decide +kernel
theorem dX12_ghost_71 : decode cX12_ghost 71 = .ok (.iaload, 1) := by decide +kernel
theorem dX12_ghost_72 : decode cX12_ghost 72 = .ok (.ifCond .le 7, 3) := by decide +kernel
theorem dX12_ghost_75 : decode cX12_ghost 75 = .ok (.iconst 0, 1) := by decide +kernel
theorem dX12_ghost_76 : decode cX12_ghost 76 = .ok (.goto 4, 3) := by decide +kernel
theorem dX12_ghost_79 : decode cX12_ghost 79 = .ok (.iconst 1, 1) := by decide +kernel
theorem dX12_ghost_80 : decode cX12_ghost 80 = .ok (.ireturn, 1) := by decide +kernel
def fX12_ghost_b79 (N : Nat) (σ : qMem) : Option (Int32 × qMem) :=
  (some (1, σ))
set_option maxRecDepth 20000 in
set_option maxHeartbeats 4000000 in
theorem aX12_ghost_b79 (N : Nat) (σ : qMem) : qAt wM mX12_ghost (ρi) 79 [] [] σ (fX12_ghost_b79 N σ) := by
  unfold fX12_ghost_b79
  refine q_iconst (v := 1) dX12_ghost_79 (by decide) ?_
  exact q_ireti (y := (1, σ)) dX12_ghost_80 rfl rfl

def fX12_ghost (N : Nat) (p1 : Int32) (p2 : Int32) (p3 : Int32) (σ : qMem) : Option (Int32 × qMem) :=
  ((fX12_isBell p1).bind fun y1 => (if y1 = 0 then (some ((-1), σ)) else ((fX12_laysNews N σ).bind fun y2 => ((fX12_newOf N 0 p1 p2 y2).bind fun y3 => (if y3 = (-1) then (some ((-1), y2)) else ((fX12_newOf N 1 p1 p3 y2).bind fun y4 => (if y4 = (-1) then (some ((-1), y2)) else ((fX12_pairs N p1 y2).bind fun y5 => (if y5.1 ≤ 0 then (fX12_ghost_b79 N y5.2) else (if 6 ≤ p2 then (fX12_ghost_b79 N y5.2) else (if 6 ≤ p3 then (fX12_ghost_b79 N y5.2) else (if ck ((6 * p2) + p3) 36 = true then (if (gi y5.2 15 ((6 * p2) + p3).toNatClampNeg) ≤ 0 then (fX12_ghost_b79 N y5.2) else (some (0, y5.2))) else none))))))))))))
set_option maxRecDepth 20000 in
set_option maxHeartbeats 4000000 in
theorem aX12_ghost  (N : Nat) (p1 : Int32) (p2 : Int32) (p3 : Int32)  (σ : qMem) : qAt wM mX12_ghost (ρi) 0 [(0, .ref 0), (1, .int p1), (2, .int p2), (3, .int p3)] [] σ (fX12_ghost N p1 p2 p3 σ) := by
  unfold fX12_ghost
  refine q_iload_n (i := 1) (x := p1) dX12_ghost_0 rfl 1 rfl ?_
  refine q_cSp mX12_isBell [.int p1] (st := []) dX12_ghost_1 (ssX12_132) ⟨Nat.le_of_ble_eq_true rfl, Nat.le_of_ble_eq_true rfl⟩ rfl rfl (Nat.le_of_ble_eq_true rfl) (kX12_isBell p1 σ) (fun y1 => ?_)
  refine q_if_ne (tgt := 9) dX12_ghost_4 (by decide) ?_ ?_
  · refine q_aload_n (i := 0) (x := 0) dX12_ghost_9 rfl 0 rfl ?_
    refine q_cVv mX12_laysNews [] (st := []) dX12_ghost_10 (svX12_223) ⟨Nat.le_of_ble_eq_true rfl, Nat.le_of_ble_eq_true rfl⟩ zM_0 rfl rfl rfl (Nat.le_of_ble_eq_true rfl) (kX12_laysNews N σ) (fun y2 => ?_)
    refine q_aload_n (i := 0) (x := 0) dX12_ghost_13 rfl 0 rfl ?_
    refine q_iconst (v := 0) dX12_ghost_14 (by decide) ?_
    refine q_iload_n (i := 1) (x := p1) dX12_ghost_15 rfl 1 rfl ?_
    refine q_iload_n (i := 2) (x := p2) dX12_ghost_16 rfl 2 rfl ?_
    refine q_cVp mX12_newOf [.int 0, .int p1, .int p2] (st := []) dX12_ghost_17 (svX12_294) ⟨Nat.le_of_ble_eq_true rfl, Nat.le_of_ble_eq_true rfl⟩ zM_0 rfl rfl rfl (Nat.le_of_ble_eq_true rfl) (kX12_newOf N 0 p1 p2 y2) (fun y3 => ?_)
    refine q_iconst (v := (-1)) dX12_ghost_20 (by decide) ?_
    refine q_icmp_eq (tgt := 35) dX12_ghost_21 (by decide) ?_ ?_
    · refine q_iconst (v := (-1)) dX12_ghost_35 (by decide) ?_
      exact q_ireti (y := ((-1), y2)) dX12_ghost_36 rfl rfl
    refine q_aload_n (i := 0) (x := 0) dX12_ghost_24 rfl 0 rfl ?_
    refine q_iconst (v := 1) dX12_ghost_25 (by decide) ?_
    refine q_iload_n (i := 1) (x := p1) dX12_ghost_26 rfl 1 rfl ?_
    refine q_iload_n (i := 3) (x := p3) dX12_ghost_27 rfl 3 rfl ?_
    refine q_cVp mX12_newOf [.int 1, .int p1, .int p3] (st := []) dX12_ghost_28 (svX12_294) ⟨Nat.le_of_ble_eq_true rfl, Nat.le_of_ble_eq_true rfl⟩ zM_0 rfl rfl rfl (Nat.le_of_ble_eq_true rfl) (kX12_newOf N 1 p1 p3 y2) (fun y4 => ?_)
    refine q_iconst (v := (-1)) dX12_ghost_31 (by decide) ?_
    refine q_icmp_ne (tgt := 37) dX12_ghost_32 (by decide) ?_ ?_
    · refine q_aload_n (i := 0) (x := 0) dX12_ghost_37 rfl 0 rfl ?_
      refine q_iload_n (i := 1) (x := p1) dX12_ghost_38 rfl 1 rfl ?_
      refine q_cVi mX12_pairs [.int p1] (st := []) dX12_ghost_39 (svX12_303) ⟨Nat.le_of_ble_eq_true rfl, Nat.le_of_ble_eq_true rfl⟩ zM_0 rfl rfl rfl (Nat.le_of_ble_eq_true rfl) (kX12_pairs N p1 y2) (fun y5 => ?_)
      refine q_istore (i := 4) (L' := [(4, .int y5.1), (0, .ref 0), (1, .int p1), (2, .int p2), (3, .int p3)]) dX12_ghost_42 (Nat.le_of_ble_eq_true rfl) rfl ?_
      refine q_iload (i := 4) (x := y5.1) dX12_ghost_44 0 rfl ?_
      refine q_if_le (tgt := 79) dX12_ghost_46 (by decide) ?_ ?_
      · exact q_sub [] rfl (aX12_ghost_b79 N y5.2)
      refine q_iload_n (i := 2) (x := p2) dX12_ghost_49 rfl 3 rfl ?_
      refine q_bipush (v := 6) dX12_ghost_50 (by decide) ?_
      refine q_icmp_ge (tgt := 79) dX12_ghost_52 (by decide) ?_ ?_
      · exact q_sub [] rfl (aX12_ghost_b79 N y5.2)
      refine q_iload_n (i := 3) (x := p3) dX12_ghost_55 rfl 4 rfl ?_
      refine q_bipush (v := 6) dX12_ghost_56 (by decide) ?_
      refine q_icmp_ge (tgt := 79) dX12_ghost_58 (by decide) ?_ ?_
      · exact q_sub [] rfl (aX12_ghost_b79 N y5.2)
      refine q_aload_n (i := 0) (x := 0) dX12_ghost_61 rfl 1 rfl ?_
      refine q_getr (t := 15) dX12_ghost_62 foX12_71 zM_0 rfl ?_
      refine q_bipush (v := 6) dX12_ghost_65 (by decide) ?_
      refine q_iload_n (i := 2) (x := p2) dX12_ghost_67 rfl 3 rfl ?_
      refine q_imul dX12_ghost_68 ?_
      refine q_iload_n (i := 3) (x := p3) dX12_ghost_69 rfl 4 rfl ?_
      refine q_iadd dX12_ghost_70 ?_
      refine q_iald dX12_ghost_71 zM_15 ?_
      refine q_if_le (tgt := 79) dX12_ghost_72 (by decide) ?_ ?_
      · exact q_sub [] rfl (aX12_ghost_b79 N y5.2)
      refine q_iconst (v := 0) dX12_ghost_75 (by decide) ?_
      refine q_goto (tgt := 80) dX12_ghost_76 (by decide) ?_
      exact q_ireti (y := (0, y5.2)) dX12_ghost_80 rfl rfl
    refine q_iconst (v := (-1)) dX12_ghost_35 (by decide) ?_
    exact q_ireti (y := ((-1), y2)) dX12_ghost_36 rfl rfl
  refine q_iconst (v := (-1)) dX12_ghost_7 (by decide) ?_
  exact q_ireti (y := ((-1), σ)) dX12_ghost_8 rfl rfl
theorem kX12_ghost  (N : Nat) (p1 : Int32) (p2 : Int32) (p3 : Int32)  (σ : qMem) : qMc wM mX12_ghost (ρi) [.ref 0, .int p1, .int p2, .int p3] σ (fX12_ghost N p1 p2 p3 σ) := qMc_of (moX12_ghost) (Nat.le_of_ble_eq_true rfl) (aX12_ghost N p1 p2 p3  σ)

theorem dX12_beat_0 : decode cX12_beat 0 = .ok (.iload_n 1, 1) := by decide +kernel
theorem dX12_beat_1 : decode cX12_beat 1 = .ok (.iconst 1, 1) := by decide +kernel
theorem dX12_beat_2 : decode cX12_beat 2 = .ok (.sipush 3000, 3) := by decide +kernel
theorem dX12_beat_5 : decode cX12_beat 5 = .ok (.invokestatic 110, 3) := by decide +kernel
theorem dX12_beat_8 : decode cX12_beat 8 = .ok (.ifCond .ne 9, 3) := by decide +kernel
theorem dX12_beat_11 : decode cX12_beat 11 = .ok (.aload_n 0, 1) := by decide +kernel
theorem dX12_beat_12 : decode cX12_beat 12 = .ok (.iconst (-1), 1) := by decide +kernel
theorem dX12_beat_13 : decode cX12_beat 13 = .ok (.invokevirtual 114, 3) := by decide +kernel
theorem dX12_beat_16 : decode cX12_beat 16 = .ok (.ireturn, 1) := by decide +kernel
theorem dX12_beat_17 : decode cX12_beat 17 = .ok (.aload_n 0, 1) := by decide +kernel
theorem dX12_beat_18 : decode cX12_beat 18 = .ok (.getfield 20, 3) := by decide +kernel
theorem dX12_beat_21 : decode cX12_beat 21 = .ok (.sipush 304, 3) := by decide +kernel
theorem dX12_beat_24 : decode cX12_beat 24 = .ok (.iaload, 1) := by decide +kernel
theorem dX12_beat_25 : decode cX12_beat 25 = .ok (.istore_n 2, 1) := by decide +kernel
theorem dX12_beat_26 : decode cX12_beat 26 = .ok (.iload_n 2, 1) := by decide +kernel
theorem dX12_beat_27 : decode cX12_beat 27 = .ok (.bipush 6, 2) := by decide +kernel
theorem dX12_beat_29 : decode cX12_beat 29 = .ok (.if_icmp .ne 10, 3) := by decide +kernel
theorem dX12_beat_32 : decode cX12_beat 32 = .ok (.aload_n 0, 1) := by decide +kernel
theorem dX12_beat_33 : decode cX12_beat 33 = .ok (.bipush (-5), 2) := by decide +kernel
theorem dX12_beat_35 : decode cX12_beat 35 = .ok (.invokevirtual 114, 3) := by decide +kernel
theorem dX12_beat_38 : decode cX12_beat 38 = .ok (.ireturn, 1) := by decide +kernel
theorem dX12_beat_39 : decode cX12_beat 39 = .ok (.aload_n 0, 1) := by decide +kernel
theorem dX12_beat_40 : decode cX12_beat 40 = .ok (.getfield 20, 3) := by decide +kernel
theorem dX12_beat_43 : decode cX12_beat 43 = .ok (.sipush 220, 3) := by decide +kernel
theorem dX12_beat_46 : decode cX12_beat 46 = .ok (.iload_n 2, 1) := by decide +kernel
theorem dX12_beat_47 : decode cX12_beat 47 = .ok (.iadd, 1) := by decide +kernel
theorem dX12_beat_48 : decode cX12_beat 48 = .ok (.iload_n 1, 1) := by decide +kernel
theorem dX12_beat_49 : decode cX12_beat 49 = .ok (.iastore, 1) := by decide +kernel
theorem dX12_beat_50 : decode cX12_beat 50 = .ok (.aload_n 0, 1) := by decide +kernel
theorem dX12_beat_51 : decode cX12_beat 51 = .ok (.getfield 20, 3) := by decide +kernel
theorem dX12_beat_54 : decode cX12_beat 54 = .ok (.sipush 304, 3) := by decide +kernel
theorem dX12_beat_57 : decode cX12_beat 57 = .ok (.dup2, 1) := by decide +kernel
theorem dX12_beat_58 : decode cX12_beat 58 = .ok (.iaload, 1) := by decide +kernel
theorem dX12_beat_59 : decode cX12_beat 59 = .ok (.iconst 1, 1) := by decide +kernel
theorem dX12_beat_60 : decode cX12_beat 60 = .ok (.iadd, 1) := by decide +kernel
theorem dX12_beat_61 : decode cX12_beat 61 = .ok (.iastore, 1) := by decide +kernel
theorem dX12_beat_62 : decode cX12_beat 62 = .ok (.aload_n 0, 1) := by decide +kernel
theorem dX12_beat_63 : decode cX12_beat 63 = .ok (.iload_n 2, 1) := by decide +kernel
theorem dX12_beat_64 : decode cX12_beat 64 = .ok (.iconst 1, 1) := by decide +kernel
theorem dX12_beat_65 : decode cX12_beat 65 = .ok (.iadd, 1) := by decide +kernel
theorem dX12_beat_66 : decode cX12_beat 66 = .ok (.invokevirtual 118, 3) := by decide +kernel
theorem dX12_beat_69 : decode cX12_beat 69 = .ok (.ireturn, 1) := by decide +kernel

def fX12_beat (p1 : Int32) (σ : qMem) : Option (Int32 × qMem) :=
  ((fX12_in p1 1 3000).bind fun y1 => (if y1 = 0 then ((fX12_refuses (-1) σ).bind fun y7 => (some (y7.1, y7.2))) else (if ck 304 1112 = true then (nmI (gi σ 2 (304 : Int32).toNatClampNeg) fun x2 => (if x2 = 6 then ((fX12_refuses (-5) σ).bind fun y6 => (some (y6.1, y6.2))) else (if ck (220 + x2) 1112 = true then (nmM (si σ 2 (220 + x2).toNatClampNeg p1) fun s3 => (if ck 304 1112 = true then (if ck 304 1112 = true then (nmM (si s3 2 (304 : Int32).toNatClampNeg ((gi s3 2 (304 : Int32).toNatClampNeg) + 1)) fun s4 => ((fX12_good (x2 + 1) s4).bind fun y5 => (some (y5.1, y5.2)))) else none) else none)) else none))) else none)))
set_option maxRecDepth 20000 in
set_option maxHeartbeats 4000000 in
theorem aX12_beat  (p1 : Int32)  (σ : qMem) : qAt wM mX12_beat (ρi) 0 [(0, .ref 0), (1, .int p1)] [] σ (fX12_beat p1 σ) := by
  unfold fX12_beat
  refine q_iload_n (i := 1) (x := p1) dX12_beat_0 rfl 1 rfl ?_
  refine q_iconst (v := 1) dX12_beat_1 (by decide) ?_
  refine q_sipush (v := 3000) dX12_beat_2 (by decide) ?_
  refine q_cSp mX12_in [.int p1, .int 1, .int 3000] (st := []) dX12_beat_5 (ssX12_110) ⟨Nat.le_of_ble_eq_true rfl, Nat.le_of_ble_eq_true rfl⟩ rfl rfl (Nat.le_of_ble_eq_true rfl) (kX12_in p1 1 3000 σ) (fun y1 => ?_)
  refine q_if_ne (tgt := 17) dX12_beat_8 (by decide) ?_ ?_
  · refine q_aload_n (i := 0) (x := 0) dX12_beat_17 rfl 0 rfl ?_
    refine q_getr (t := 2) dX12_beat_18 foX12_20 zM_0 rfl ?_
    refine q_sipush (v := 304) dX12_beat_21 (by decide) ?_
    refine q_iald dX12_beat_24 zM_2 ?_
    refine q_nmI (fun x2 => ?_)
    refine q_istore_n (i := 2) (L' := [(2, .int x2), (0, .ref 0), (1, .int p1)]) dX12_beat_25 rfl (Nat.le_of_ble_eq_true rfl) rfl ?_
    refine q_iload_n (i := 2) (x := x2) dX12_beat_26 rfl 0 rfl ?_
    refine q_bipush (v := 6) dX12_beat_27 (by decide) ?_
    refine q_icmp_ne (tgt := 39) dX12_beat_29 (by decide) ?_ ?_
    · refine q_aload_n (i := 0) (x := 0) dX12_beat_39 rfl 1 rfl ?_
      refine q_getr (t := 2) dX12_beat_40 foX12_20 zM_0 rfl ?_
      refine q_sipush (v := 220) dX12_beat_43 (by decide) ?_
      refine q_iload_n (i := 2) (x := x2) dX12_beat_46 rfl 0 rfl ?_
      refine q_iadd dX12_beat_47 ?_
      refine q_iload_n (i := 1) (x := p1) dX12_beat_48 rfl 2 rfl ?_
      refine q_iast dX12_beat_49 zM_2 ?_
      refine q_nmM (fun s3 => ?_)
      refine q_aload_n (i := 0) (x := 0) dX12_beat_50 rfl 1 rfl ?_
      refine q_getr (t := 2) dX12_beat_51 foX12_20 zM_0 rfl ?_
      refine q_sipush (v := 304) dX12_beat_54 (by decide) ?_
      refine q_dup2 dX12_beat_57 rfl rfl ?_
      refine q_iald dX12_beat_58 zM_2 ?_
      refine q_iconst (v := 1) dX12_beat_59 (by decide) ?_
      refine q_iadd dX12_beat_60 ?_
      refine q_iast dX12_beat_61 zM_2 ?_
      refine q_nmM (fun s4 => ?_)
      refine q_aload_n (i := 0) (x := 0) dX12_beat_62 rfl 1 rfl ?_
      refine q_iload_n (i := 2) (x := x2) dX12_beat_63 rfl 0 rfl ?_
      refine q_iconst (v := 1) dX12_beat_64 (by decide) ?_
      refine q_iadd dX12_beat_65 ?_
      refine q_cVi mX12_good [.int (x2 + 1)] (st := []) dX12_beat_66 (svX12_118) ⟨Nat.le_of_ble_eq_true rfl, Nat.le_of_ble_eq_true rfl⟩ zM_0 rfl rfl rfl (Nat.le_of_ble_eq_true rfl) (kX12_good (x2 + 1) s4) (fun y5 => ?_)
      exact q_ireti (y := (y5.1, y5.2)) dX12_beat_69 rfl rfl
    refine q_aload_n (i := 0) (x := 0) dX12_beat_32 rfl 1 rfl ?_
    refine q_bipush (v := (-5)) dX12_beat_33 (by decide) ?_
    refine q_cVi mX12_refuses [.int (-5)] (st := []) dX12_beat_35 (svX12_114) ⟨Nat.le_of_ble_eq_true rfl, Nat.le_of_ble_eq_true rfl⟩ zM_0 rfl rfl rfl (Nat.le_of_ble_eq_true rfl) (kX12_refuses (-5) σ) (fun y6 => ?_)
    exact q_ireti (y := (y6.1, y6.2)) dX12_beat_38 rfl rfl
  refine q_aload_n (i := 0) (x := 0) dX12_beat_11 rfl 0 rfl ?_
  refine q_iconst (v := (-1)) dX12_beat_12 (by decide) ?_
  refine q_cVi mX12_refuses [.int (-1)] (st := []) dX12_beat_13 (svX12_114) ⟨Nat.le_of_ble_eq_true rfl, Nat.le_of_ble_eq_true rfl⟩ zM_0 rfl rfl rfl (Nat.le_of_ble_eq_true rfl) (kX12_refuses (-1) σ) (fun y7 => ?_)
  exact q_ireti (y := (y7.1, y7.2)) dX12_beat_16 rfl rfl
theorem kX12_beat  (p1 : Int32)  (σ : qMem) : qMc wM mX12_beat (ρi) [.ref 0, .int p1] σ (fX12_beat p1 σ) := qMc_of (moX12_beat) (Nat.le_of_ble_eq_true rfl) (aX12_beat p1  σ)

theorem dX12_isScrew_0 : decode cX12_isScrew 0 = .ok (.aload_n 0, 1) := by decide +kernel
theorem dX12_isScrew_1 : decode cX12_isScrew 1 = .ok (.getfield 20, 3) := by decide +kernel
theorem dX12_isScrew_4 : decode cX12_isScrew 4 = .ok (.sipush 304, 3) := by decide +kernel
theorem dX12_isScrew_7 : decode cX12_isScrew 7 = .ok (.iaload, 1) := by decide +kernel
theorem dX12_isScrew_8 : decode cX12_isScrew 8 = .ok (.ifCond .eq 22, 3) := by decide +kernel
theorem dX12_isScrew_11 : decode cX12_isScrew 11 = .ok (.aload_n 0, 1) := by decide +kernel
theorem dX12_isScrew_12 : decode cX12_isScrew 12 = .ok (.getfield 20, 3) := by decide +kernel
theorem dX12_isScrew_15 : decode cX12_isScrew 15 = .ok (.sipush 220, 3) := by decide +kernel
theorem dX12_isScrew_18 : decode cX12_isScrew 18 = .ok (.iaload, 1) := by decide +kernel
theorem dX12_isScrew_19 : decode cX12_isScrew 19 = .ok (.iload_n 1, 1) := by decide +kernel
theorem dX12_isScrew_20 : decode cX12_isScrew 20 = .ok (.iload_n 2, 1) := by decide +kernel
theorem dX12_isScrew_21 : decode cX12_isScrew 21 = .ok (.imul, 1) := by decide +kernel
theorem dX12_isScrew_22 : decode cX12_isScrew 22 = .ok (.isub, 1) := by decide +kernel
theorem dX12_isScrew_23 : decode cX12_isScrew 23 = .ok (.invokestatic 142, 3) := by decide +kernel
theorem dX12_isScrew_26 : decode cX12_isScrew 26 = .ok (.iconst 1, 1) := by decide +kernel
theorem dX12_isScrew_27 : decode cX12_isScrew 27 = .ok (.if_icmp .le 5, 3) := by decide +kernel
theorem dX12_isScrew_30 : decode cX12_isScrew 30 = .ok (.iconst 0, 1) := by decide +kernel
theorem dX12_isScrew_31 : decode cX12_isScrew 31 = .ok (.ireturn, 1) := by decide +kernel
theorem dX12_isScrew_32 : decode cX12_isScrew 32 = .ok (.iconst 1, 1) := by decide +kernel
theorem dX12_isScrew_33 : decode cX12_isScrew 33 = .ok (.istore_n 3, 1) := by decide +kernel
theorem dX12_isScrew_34 : decode cX12_isScrew 34 = .ok (.iload_n 3, 1) := by decide +kernel
theorem dX12_isScrew_35 : decode cX12_isScrew 35 = .ok (.aload_n 0, 1) := by decide +kernel
theorem dX12_isScrew_36 : decode cX12_isScrew 36 = .ok (.getfield 20, 3) := by decide +kernel
theorem dX12_isScrew_39 : decode cX12_isScrew 39 = .ok (.sipush 304, 3) := by decide +kernel
theorem dX12_isScrew_42 : decode cX12_isScrew 42 = .ok (.iaload, 1) := by decide +kernel
theorem dX12_isScrew_43 : decode cX12_isScrew 43 = .ok (.if_icmp .ge 69, 3) := by decide +kernel
theorem dX12_isScrew_46 : decode cX12_isScrew 46 = .ok (.iconst 0, 1) := by decide +kernel
theorem dX12_isScrew_47 : decode cX12_isScrew 47 = .ok (.istore 4, 2) := by decide +kernel
theorem dX12_isScrew_49 : decode cX12_isScrew 49 = .ok (.iconst 1, 1) := by decide +kernel
theorem dX12_isScrew_50 : decode cX12_isScrew 50 = .ok (.istore 5, 2) := by decide +kernel
theorem dX12_isScrew_52 : decode cX12_isScrew 52 = .ok (.iload 5, 2) := by decide +kernel
theorem dX12_isScrew_54 : decode cX12_isScrew 54 = .ok (.bipush 21, 2) := by decide +kernel
theorem dX12_isScrew_56 : decode cX12_isScrew 56 = .ok (.if_icmp .gt 43, 3) := by decide +kernel
theorem dX12_isScrew_59 : decode cX12_isScrew 59 = .ok (.iload 4, 2) := by decide +kernel
theorem dX12_isScrew_61 : decode cX12_isScrew 61 = .ok (.ifCond .ne 25, 3) := by decide +kernel
theorem dX12_isScrew_64 : decode cX12_isScrew 64 = .ok (.aload_n 0, 1) := by decide +kernel
theorem dX12_isScrew_65 : decode cX12_isScrew 65 = .ok (.getfield 20, 3) := by decide +kernel
theorem dX12_isScrew_68 : decode cX12_isScrew 68 = .ok (.sipush 220, 3) := by decide +kernel
theorem dX12_isScrew_71 : decode cX12_isScrew 71 = .ok (.iload_n 3, 1) := by decide +kernel
theorem dX12_isScrew_72 : decode cX12_isScrew 72 = .ok (.iadd, 1) := by decide +kernel
theorem dX12_isScrew_73 : decode cX12_isScrew 73 = .ok (.iaload, 1) := by decide +kernel
theorem dX12_isScrew_74 : decode cX12_isScrew 74 = .ok (.iload_n 1, 1) := by decide +kernel
theorem dX12_isScrew_75 : decode cX12_isScrew 75 = .ok (.iload 5, 2) := by decide +kernel
theorem dX12_isScrew_77 : decode cX12_isScrew 77 = .ok (.imul, 1) := by decide +kernel
theorem dX12_isScrew_78 : decode cX12_isScrew 78 = .ok (.isub, 1) := by decide +kernel
theorem dX12_isScrew_79 : decode cX12_isScrew 79 = .ok (.invokestatic 142, 3) := by decide +kernel
theorem dX12_isScrew_82 : decode cX12_isScrew 82 = .ok (.iconst 1, 1) := by decide +kernel
theorem dX12_isScrew_83 : decode cX12_isScrew 83 = .ok (.if_icmp .gt 7, 3) := by decide +kernel
theorem dX12_isScrew_86 : decode cX12_isScrew 86 = .ok (.iconst 1, 1) := by decide +kernel
theorem dX12_isScrew_87 : decode cX12_isScrew 87 = .ok (.goto 4, 3) := by decide +kernel
theorem dX12_isScrew_90 : decode cX12_isScrew 90 = .ok (.iconst 0, 1) := by decide +kernel
theorem dX12_isScrew_91 : decode cX12_isScrew 91 = .ok (.istore 4, 2) := by decide +kernel
theorem dX12_isScrew_93 : decode cX12_isScrew 93 = .ok (.iinc 5 1, 3) := by decide +kernel
theorem dX12_isScrew_96 : decode cX12_isScrew 96 = .ok (.goto (-44), 3) := by decide +kernel
theorem dX12_isScrew_99 : decode cX12_isScrew 99 = .ok (.iload 4, 2) := by decide +kernel
theorem dX12_isScrew_101 : decode cX12_isScrew 101 = .ok (.ifCond .ne 5, 3) := by decide +kernel
theorem dX12_isScrew_104 : decode cX12_isScrew 104 = .ok (.iconst 0, 1) := by decide +kernel
theorem dX12_isScrew_105 : decode cX12_isScrew 105 = .ok (.ireturn, 1) := by decide +kernel
theorem dX12_isScrew_106 : decode cX12_isScrew 106 = .ok (.iinc 3 1, 3) := by decide +kernel
theorem dX12_isScrew_109 : decode cX12_isScrew 109 = .ok (.goto (-75), 3) := by decide +kernel
theorem dX12_isScrew_112 : decode cX12_isScrew 112 = .ok (.iconst 1, 1) := by decide +kernel
theorem dX12_isScrew_113 : decode cX12_isScrew 113 = .ok (.ireturn, 1) := by decide +kernel
def fX12_isScrew_b91 (N : Nat) (c34 : Int32 → Int32 → Option Int32) (c52 : Int32 → Int32 → Int32 → Int32 → Option Int32) (v1 : Int32) (v3 : Int32) (v5 : Int32) (u0 : Int32) (σ : qMem) : Option Int32 :=
  (c52 v1 v3 u0 (v5 + 1))
set_option maxRecDepth 20000 in
set_option maxHeartbeats 4000000 in
theorem aX12_isScrew_b91 (N : Nat) (σ : qMem) (c34 : Int32 → Int32 → Option Int32) (c52 : Int32 → Int32 → Int32 → Int32 → Option Int32) (hc34 : ∀ (v1 : Int32) (v3 : Int32) , qAt wM mX12_isScrew (ρp σ) 34 [(0, .ref 0), (1, .int v1), (3, .int v3)] [] σ (c34 v1 v3)) (hc52 : ∀ (v1 : Int32) (v3 : Int32) (v4 : Int32) (v5 : Int32) , qAt wM mX12_isScrew (ρp σ) 52 [(0, .ref 0), (1, .int v1), (3, .int v3), (4, .int v4), (5, .int v5)] [] σ (c52 v1 v3 v4 v5)) (v1 : Int32) (v3 : Int32) (v5 : Int32) (u0 : Int32) : qAt wM mX12_isScrew (ρp σ) 91 [(0, .ref 0), (1, .int v1), (3, .int v3), (5, .int v5)] [.int u0] σ (fX12_isScrew_b91 N c34 c52 v1 v3 v5 u0 σ) := by
  unfold fX12_isScrew_b91
  refine q_istore (i := 4) (L' := [(4, .int u0), (0, .ref 0), (1, .int v1), (3, .int v3), (5, .int v5)]) dX12_isScrew_91 (Nat.le_of_ble_eq_true rfl) rfl ?_
  refine q_iinc (i := 5) (x := v5) (v := (v5 + 1)) (L' := [(5, .int (v5 + 1)), (4, .int u0), (0, .ref 0), (1, .int v1), (3, .int v3)]) dX12_isScrew_93 4 rfl (q_cst v5 (by decide)) (Nat.le_of_ble_eq_true rfl) rfl ?_
  refine q_goto (tgt := 52) dX12_isScrew_96 (by decide) ?_
  exact q_sub [2, 3, 4, 1, 0] rfl (hc52 v1 v3 u0 (v5 + 1))

def fX12_isScrew_b86 (N : Nat) (c34 : Int32 → Int32 → Option Int32) (c52 : Int32 → Int32 → Int32 → Int32 → Option Int32) (v1 : Int32) (v3 : Int32) (v5 : Int32) (σ : qMem) : Option Int32 :=
  (fX12_isScrew_b91 N c34 c52 v1 v3 v5 1 σ)
set_option maxRecDepth 20000 in
set_option maxHeartbeats 4000000 in
theorem aX12_isScrew_b86 (N : Nat) (σ : qMem) (c34 : Int32 → Int32 → Option Int32) (c52 : Int32 → Int32 → Int32 → Int32 → Option Int32) (hc34 : ∀ (v1 : Int32) (v3 : Int32) , qAt wM mX12_isScrew (ρp σ) 34 [(0, .ref 0), (1, .int v1), (3, .int v3)] [] σ (c34 v1 v3)) (hc52 : ∀ (v1 : Int32) (v3 : Int32) (v4 : Int32) (v5 : Int32) , qAt wM mX12_isScrew (ρp σ) 52 [(0, .ref 0), (1, .int v1), (3, .int v3), (4, .int v4), (5, .int v5)] [] σ (c52 v1 v3 v4 v5)) (v1 : Int32) (v3 : Int32) (v5 : Int32) : qAt wM mX12_isScrew (ρp σ) 86 [(0, .ref 0), (1, .int v1), (3, .int v3), (5, .int v5)] [] σ (fX12_isScrew_b86 N c34 c52 v1 v3 v5 σ) := by
  unfold fX12_isScrew_b86
  refine q_iconst (v := 1) dX12_isScrew_86 (by decide) ?_
  refine q_goto (tgt := 91) dX12_isScrew_87 (by decide) ?_
  exact q_sub [0, 1, 2, 3] rfl (aX12_isScrew_b91 N σ c34 c52 hc34 hc52 v1 v3 v5 1)

def fX12_isScrew_s52 (N : Nat) (c34 : Int32 → Int32 → Option Int32) (c52 : Int32 → Int32 → Int32 → Int32 → Option Int32) (v1 : Int32) (v3 : Int32) (v4 : Int32) (v5 : Int32) (σ : qMem) : Option Int32 :=
  (if 21 < v5 then (if v4 = 0 then (some 0) else (c34 v1 (v3 + 1))) else (if v4 = 0 then (if ck (220 + v3) 1112 = true then ((fX12_size ((gi σ 2 (220 + v3).toNatClampNeg) - (v1 * v5))).bind fun y2 => (if 1 < y2 then (fX12_isScrew_b91 N c34 c52 v1 v3 v5 0 σ) else (fX12_isScrew_b86 N c34 c52 v1 v3 v5 σ))) else none) else (fX12_isScrew_b86 N c34 c52 v1 v3 v5 σ)))
set_option maxRecDepth 20000 in
set_option maxHeartbeats 4000000 in
theorem aX12_isScrew_s52 (N : Nat) (σ : qMem) (c34 : Int32 → Int32 → Option Int32) (hc34 : ∀ (v1 : Int32) (v3 : Int32) , qAt wM mX12_isScrew (ρp σ) 34 [(0, .ref 0), (1, .int v1), (3, .int v3)] [] σ (c34 v1 v3)) (c52 : Int32 → Int32 → Int32 → Int32 → Option Int32) (hc52 : ∀ (v1 : Int32) (v3 : Int32) (v4 : Int32) (v5 : Int32) , qAt wM mX12_isScrew (ρp σ) 52 [(0, .ref 0), (1, .int v1), (3, .int v3), (4, .int v4), (5, .int v5)] [] σ (c52 v1 v3 v4 v5)) (v1 : Int32) (v3 : Int32) (v4 : Int32) (v5 : Int32) : qAt wM mX12_isScrew (ρp σ) 52 [(0, .ref 0), (1, .int v1), (3, .int v3), (4, .int v4), (5, .int v5)] [] σ (fX12_isScrew_s52 N c34 c52 v1 v3 v4 v5 σ) := by
  unfold fX12_isScrew_s52
  refine q_iload (i := 5) (x := v5) dX12_isScrew_52 4 rfl ?_
  refine q_bipush (v := 21) dX12_isScrew_54 (by decide) ?_
  refine q_icmp_gt (tgt := 99) dX12_isScrew_56 (by decide) ?_ ?_
  · refine q_iload (i := 4) (x := v4) dX12_isScrew_99 3 rfl ?_
    refine q_if_ne (tgt := 106) dX12_isScrew_101 (by decide) ?_ ?_
    · refine q_iinc (i := 3) (x := v3) (v := (v3 + 1)) (L' := [(3, .int (v3 + 1)), (0, .ref 0), (1, .int v1), (4, .int v4), (5, .int v5)]) dX12_isScrew_106 2 rfl (q_cst v3 (by decide)) (Nat.le_of_ble_eq_true rfl) rfl ?_
      refine q_goto (tgt := 34) dX12_isScrew_109 (by decide) ?_
      exact q_sub [1, 2, 0] rfl (hc34 v1 (v3 + 1))
    refine q_iconst (v := 0) dX12_isScrew_104 (by decide) ?_
    exact q_iretz (y := 0) dX12_isScrew_105 rfl rfl rfl
  refine q_iload (i := 4) (x := v4) dX12_isScrew_59 3 rfl ?_
  refine q_if_ne (tgt := 86) dX12_isScrew_61 (by decide) ?_ ?_
  · exact q_sub [0, 1, 2, 4] rfl (aX12_isScrew_b86 N σ c34 c52 hc34 hc52 v1 v3 v5)
  refine q_aload_n (i := 0) (x := 0) dX12_isScrew_64 rfl 0 rfl ?_
  refine q_getr (t := 2) dX12_isScrew_65 foX12_20 zM_0 rfl ?_
  refine q_sipush (v := 220) dX12_isScrew_68 (by decide) ?_
  refine q_iload_n (i := 3) (x := v3) dX12_isScrew_71 rfl 2 rfl ?_
  refine q_iadd dX12_isScrew_72 ?_
  refine q_iald dX12_isScrew_73 zM_2 ?_
  refine q_iload_n (i := 1) (x := v1) dX12_isScrew_74 rfl 1 rfl ?_
  refine q_iload (i := 5) (x := v5) dX12_isScrew_75 4 rfl ?_
  refine q_imul dX12_isScrew_77 ?_
  refine q_isub dX12_isScrew_78 ?_
  refine q_cSp mX12_size [.int ((gi σ 2 (220 + v3).toNatClampNeg) - (v1 * v5))] (st := []) dX12_isScrew_79 (ssX12_142) ⟨Nat.le_of_ble_eq_true rfl, Nat.le_of_ble_eq_true rfl⟩ rfl rfl (Nat.le_of_ble_eq_true rfl) (kX12_size ((gi σ 2 (220 + v3).toNatClampNeg) - (v1 * v5)) σ) (fun y2 => ?_)
  refine q_iconst (v := 1) dX12_isScrew_82 (by decide) ?_
  refine q_icmp_gt (tgt := 90) dX12_isScrew_83 (by decide) ?_ ?_
  · refine q_iconst (v := 0) dX12_isScrew_90 (by decide) ?_
    exact q_sub [0, 1, 2, 4] rfl (aX12_isScrew_b91 N σ c34 c52 hc34 hc52 v1 v3 v5 0)
  exact q_sub [0, 1, 2, 4] rfl (aX12_isScrew_b86 N σ c34 c52 hc34 hc52 v1 v3 v5)
def fX12_isScrew_l52 (N : Nat) (c34 : Int32 → Int32 → Option Int32) (σ : qMem) : Nat → Int32 → Int32 → Int32 → Int32 → Option Int32
  | 0 => fun _ _ _ _ => none
  | n + 1 => fun v1 v3 v4 v5 => fX12_isScrew_s52 N c34 (fX12_isScrew_l52 N c34 σ n) v1 v3 v4 v5 σ
theorem aX12_isScrew_l52 (N : Nat) (σ : qMem) (c34 : Int32 → Int32 → Option Int32) (hc34 : ∀ (v1 : Int32) (v3 : Int32) , qAt wM mX12_isScrew (ρp σ) 34 [(0, .ref 0), (1, .int v1), (3, .int v3)] [] σ (c34 v1 v3)) : ∀ (n : Nat) (v1 : Int32) (v3 : Int32) (v4 : Int32) (v5 : Int32), qAt wM mX12_isScrew (ρp σ) 52 [(0, .ref 0), (1, .int v1), (3, .int v3), (4, .int v4), (5, .int v5)] [] σ (fX12_isScrew_l52 N c34 σ n v1 v3 v4 v5) := by
  intro n
  induction n with
  | zero => intro v1 v3 v4 v5; exact q_none
  | succ n ih => intro v1 v3 v4 v5; exact aX12_isScrew_s52 N σ c34 hc34 (fX12_isScrew_l52 N c34 σ n) ih v1 v3 v4 v5

def fX12_isScrew_s34 (N : Nat) (c34 : Int32 → Int32 → Option Int32) (v1 : Int32) (v3 : Int32) (σ : qMem) : Option Int32 :=
  (if ck 304 1112 = true then (if (gi σ 2 (304 : Int32).toNatClampNeg) ≤ v3 then (some 1) else (fX12_isScrew_l52 N c34 σ N v1 v3 0 1)) else none)
set_option maxRecDepth 20000 in
set_option maxHeartbeats 4000000 in
theorem aX12_isScrew_s34 (N : Nat) (σ : qMem) (c34 : Int32 → Int32 → Option Int32) (hc34 : ∀ (v1 : Int32) (v3 : Int32) , qAt wM mX12_isScrew (ρp σ) 34 [(0, .ref 0), (1, .int v1), (3, .int v3)] [] σ (c34 v1 v3)) (v1 : Int32) (v3 : Int32) : qAt wM mX12_isScrew (ρp σ) 34 [(0, .ref 0), (1, .int v1), (3, .int v3)] [] σ (fX12_isScrew_s34 N c34 v1 v3 σ) := by
  unfold fX12_isScrew_s34
  refine q_iload_n (i := 3) (x := v3) dX12_isScrew_34 rfl 2 rfl ?_
  refine q_aload_n (i := 0) (x := 0) dX12_isScrew_35 rfl 0 rfl ?_
  refine q_getr (t := 2) dX12_isScrew_36 foX12_20 zM_0 rfl ?_
  refine q_sipush (v := 304) dX12_isScrew_39 (by decide) ?_
  refine q_iald dX12_isScrew_42 zM_2 ?_
  refine q_icmp_ge (tgt := 112) dX12_isScrew_43 (by decide) ?_ ?_
  · refine q_iconst (v := 1) dX12_isScrew_112 (by decide) ?_
    exact q_iretz (y := 1) dX12_isScrew_113 rfl rfl rfl
  refine q_iconst (v := 0) dX12_isScrew_46 (by decide) ?_
  refine q_istore (i := 4) (L' := [(4, .int 0), (0, .ref 0), (1, .int v1), (3, .int v3)]) dX12_isScrew_47 (Nat.le_of_ble_eq_true rfl) rfl ?_
  refine q_iconst (v := 1) dX12_isScrew_49 (by decide) ?_
  refine q_istore (i := 5) (L' := [(5, .int 1), (4, .int 0), (0, .ref 0), (1, .int v1), (3, .int v3)]) dX12_isScrew_50 (Nat.le_of_ble_eq_true rfl) rfl ?_
  exact q_sub [2, 3, 4, 1, 0] rfl (aX12_isScrew_l52 N σ c34 hc34 N v1 v3 0 1)
def fX12_isScrew_l34 (N : Nat) (σ : qMem) : Nat → Int32 → Int32 → Option Int32
  | 0 => fun _ _ => none
  | n + 1 => fun v1 v3 => fX12_isScrew_s34 N (fX12_isScrew_l34 N σ n) v1 v3 σ
theorem aX12_isScrew_l34 (N : Nat) (σ : qMem) : ∀ (n : Nat) (v1 : Int32) (v3 : Int32), qAt wM mX12_isScrew (ρp σ) 34 [(0, .ref 0), (1, .int v1), (3, .int v3)] [] σ (fX12_isScrew_l34 N σ n v1 v3) := by
  intro n
  induction n with
  | zero => intro v1 v3; exact q_none
  | succ n ih => intro v1 v3; exact aX12_isScrew_s34 N σ (fX12_isScrew_l34 N σ n) ih v1 v3

def fX12_isScrew (N : Nat) (p1 : Int32) (p2 : Int32) (σ : qMem) : Option Int32 :=
  (if ck 304 1112 = true then (if (gi σ 2 (304 : Int32).toNatClampNeg) = 0 then (some 0) else (if ck 220 1112 = true then ((fX12_size ((gi σ 2 (220 : Int32).toNatClampNeg) - (p1 * p2))).bind fun y1 => (if y1 ≤ 1 then (fX12_isScrew_l34 N σ N p1 1) else (some 0))) else none)) else none)
set_option maxRecDepth 20000 in
set_option maxHeartbeats 4000000 in
theorem aX12_isScrew  (N : Nat) (p1 : Int32) (p2 : Int32)  (σ : qMem) : qAt wM mX12_isScrew (ρp σ) 0 [(0, .ref 0), (1, .int p1), (2, .int p2)] [] σ (fX12_isScrew N p1 p2 σ) := by
  unfold fX12_isScrew
  refine q_aload_n (i := 0) (x := 0) dX12_isScrew_0 rfl 0 rfl ?_
  refine q_getr (t := 2) dX12_isScrew_1 foX12_20 zM_0 rfl ?_
  refine q_sipush (v := 304) dX12_isScrew_4 (by decide) ?_
  refine q_iald dX12_isScrew_7 zM_2 ?_
  refine q_if_eq (tgt := 30) dX12_isScrew_8 (by decide) ?_ ?_
  · refine q_iconst (v := 0) dX12_isScrew_30 (by decide) ?_
    exact q_iretz (y := 0) dX12_isScrew_31 rfl rfl rfl
  refine q_aload_n (i := 0) (x := 0) dX12_isScrew_11 rfl 0 rfl ?_
  refine q_getr (t := 2) dX12_isScrew_12 foX12_20 zM_0 rfl ?_
  refine q_sipush (v := 220) dX12_isScrew_15 (by decide) ?_
  refine q_iald dX12_isScrew_18 zM_2 ?_
  refine q_iload_n (i := 1) (x := p1) dX12_isScrew_19 rfl 1 rfl ?_
  refine q_iload_n (i := 2) (x := p2) dX12_isScrew_20 rfl 2 rfl ?_
  refine q_imul dX12_isScrew_21 ?_
  refine q_isub dX12_isScrew_22 ?_
  refine q_cSp mX12_size [.int ((gi σ 2 (220 : Int32).toNatClampNeg) - (p1 * p2))] (st := []) dX12_isScrew_23 (ssX12_142) ⟨Nat.le_of_ble_eq_true rfl, Nat.le_of_ble_eq_true rfl⟩ rfl rfl (Nat.le_of_ble_eq_true rfl) (kX12_size ((gi σ 2 (220 : Int32).toNatClampNeg) - (p1 * p2)) σ) (fun y1 => ?_)
  refine q_iconst (v := 1) dX12_isScrew_26 (by decide) ?_
  refine q_icmp_le (tgt := 32) dX12_isScrew_27 (by decide) ?_ ?_
  · refine q_iconst (v := 1) dX12_isScrew_32 (by decide) ?_
    refine q_istore_n (i := 3) (L' := [(3, .int 1), (0, .ref 0), (1, .int p1), (2, .int p2)]) dX12_isScrew_33 rfl (Nat.le_of_ble_eq_true rfl) rfl ?_
    exact q_sub [1, 2, 0] rfl (aX12_isScrew_l34 N σ N p1 1)
  refine q_iconst (v := 0) dX12_isScrew_30 (by decide) ?_
  exact q_iretz (y := 0) dX12_isScrew_31 rfl rfl rfl
theorem kX12_isScrew  (N : Nat) (p1 : Int32) (p2 : Int32)  (σ : qMem) : qMc wM mX12_isScrew (ρp σ) [.ref 0, .int p1, .int p2] σ (fX12_isScrew N p1 p2 σ) := qMc_of (moX12_isScrew) (Nat.le_of_ble_eq_true rfl) (aX12_isScrew N p1 p2  σ)

theorem dX12_screwAt_0 : decode cX12_screwAt 0 = .ok (.iconst 0, 1) := by decide +kernel
theorem dX12_screwAt_1 : decode cX12_screwAt 1 = .ok (.istore_n 2, 1) := by decide +kernel
theorem dX12_screwAt_2 : decode cX12_screwAt 2 = .ok (.iconst 1, 1) := by decide +kernel
theorem dX12_screwAt_3 : decode cX12_screwAt 3 = .ok (.istore_n 3, 1) := by decide +kernel
theorem dX12_screwAt_4 : decode cX12_screwAt 4 = .ok (.iload_n 3, 1) := by decide +kernel
theorem dX12_screwAt_5 : decode cX12_screwAt 5 = .ok (.sipush 300, 3) := by decide +kernel
theorem dX12_screwAt_8 : decode cX12_screwAt 8 = .ok (.if_icmp .gt 54, 3) := by decide +kernel
theorem dX12_screwAt_11 : decode cX12_screwAt 11 = .ok (.iconst 3, 1) := by decide +kernel
theorem dX12_screwAt_12 : decode cX12_screwAt 12 = .ok (.istore 4, 2) := by decide +kernel
theorem dX12_screwAt_14 : decode cX12_screwAt 14 = .ok (.iload 4, 2) := by decide +kernel
theorem dX12_screwAt_16 : decode cX12_screwAt 16 = .ok (.bipush 7, 2) := by decide +kernel
theorem dX12_screwAt_18 : decode cX12_screwAt 18 = .ok (.if_icmp .gt 38, 3) := by decide +kernel
theorem dX12_screwAt_21 : decode cX12_screwAt 21 = .ok (.aload_n 0, 1) := by decide +kernel
theorem dX12_screwAt_22 : decode cX12_screwAt 22 = .ok (.iload_n 3, 1) := by decide +kernel
theorem dX12_screwAt_23 : decode cX12_screwAt 23 = .ok (.iload 4, 2) := by decide +kernel
theorem dX12_screwAt_25 : decode cX12_screwAt 25 = .ok (.invokevirtual 306, 3) := by decide +kernel
theorem dX12_screwAt_28 : decode cX12_screwAt 28 = .ok (.ifCond .ne 6, 3) := by decide +kernel
theorem dX12_screwAt_31 : decode cX12_screwAt 31 = .ok (.goto 19, 3) := by decide +kernel
theorem dX12_screwAt_34 : decode cX12_screwAt 34 = .ok (.iload_n 2, 1) := by decide +kernel
theorem dX12_screwAt_35 : decode cX12_screwAt 35 = .ok (.iload_n 1, 1) := by decide +kernel
theorem dX12_screwAt_36 : decode cX12_screwAt 36 = .ok (.if_icmp .ne 11, 3) := by decide +kernel
theorem dX12_screwAt_39 : decode cX12_screwAt 39 = .ok (.bipush 10, 2) := by decide +kernel
theorem dX12_screwAt_41 : decode cX12_screwAt 41 = .ok (.iload_n 3, 1) := by decide +kernel
theorem dX12_screwAt_42 : decode cX12_screwAt 42 = .ok (.imul, 1) := by decide +kernel
theorem dX12_screwAt_43 : decode cX12_screwAt 43 = .ok (.iload 4, 2) := by decide +kernel
theorem dX12_screwAt_45 : decode cX12_screwAt 45 = .ok (.iadd, 1) := by decide +kernel
theorem dX12_screwAt_46 : decode cX12_screwAt 46 = .ok (.ireturn, 1) := by decide +kernel
theorem dX12_screwAt_47 : decode cX12_screwAt 47 = .ok (.iinc 2 1, 3) := by decide +kernel
theorem dX12_screwAt_50 : decode cX12_screwAt 50 = .ok (.iinc 4 1, 3) := by decide +kernel
theorem dX12_screwAt_53 : decode cX12_screwAt 53 = .ok (.goto (-39), 3) := by decide +kernel
theorem dX12_screwAt_56 : decode cX12_screwAt 56 = .ok (.iinc 3 1, 3) := by decide +kernel
theorem dX12_screwAt_59 : decode cX12_screwAt 59 = .ok (.goto (-55), 3) := by decide +kernel
theorem dX12_screwAt_62 : decode cX12_screwAt 62 = .ok (.iconst (-1), 1) := by decide +kernel
theorem dX12_screwAt_63 : decode cX12_screwAt 63 = .ok (.iload_n 2, 1) := by decide +kernel
theorem dX12_screwAt_64 : decode cX12_screwAt 64 = .ok (.isub, 1) := by decide +kernel
theorem dX12_screwAt_65 : decode cX12_screwAt 65 = .ok (.ireturn, 1) := by decide +kernel
def fX12_screwAt_b50 (N : Nat) (c4 : Int32 → Int32 → Int32 → Option Int32) (c14 : Int32 → Int32 → Int32 → Int32 → Option Int32) (v1 : Int32) (v2 : Int32) (v3 : Int32) (v4 : Int32) (σ : qMem) : Option Int32 :=
  (c14 v1 v2 v3 (v4 + 1))
set_option maxRecDepth 20000 in
set_option maxHeartbeats 4000000 in
theorem aX12_screwAt_b50 (N : Nat) (σ : qMem) (c4 : Int32 → Int32 → Int32 → Option Int32) (c14 : Int32 → Int32 → Int32 → Int32 → Option Int32) (hc4 : ∀ (v1 : Int32) (v2 : Int32) (v3 : Int32) , qAt wM mX12_screwAt (ρp σ) 4 [(0, .ref 0), (1, .int v1), (2, .int v2), (3, .int v3)] [] σ (c4 v1 v2 v3)) (hc14 : ∀ (v1 : Int32) (v2 : Int32) (v3 : Int32) (v4 : Int32) , qAt wM mX12_screwAt (ρp σ) 14 [(0, .ref 0), (1, .int v1), (2, .int v2), (3, .int v3), (4, .int v4)] [] σ (c14 v1 v2 v3 v4)) (v1 : Int32) (v2 : Int32) (v3 : Int32) (v4 : Int32) : qAt wM mX12_screwAt (ρp σ) 50 [(0, .ref 0), (1, .int v1), (2, .int v2), (3, .int v3), (4, .int v4)] [] σ (fX12_screwAt_b50 N c4 c14 v1 v2 v3 v4 σ) := by
  unfold fX12_screwAt_b50
  refine q_iinc (i := 4) (x := v4) (v := (v4 + 1)) (L' := [(4, .int (v4 + 1)), (0, .ref 0), (1, .int v1), (2, .int v2), (3, .int v3)]) dX12_screwAt_50 4 rfl (q_cst v4 (by decide)) (Nat.le_of_ble_eq_true rfl) rfl ?_
  refine q_goto (tgt := 14) dX12_screwAt_53 (by decide) ?_
  exact q_sub [1, 2, 3, 4, 0] rfl (hc14 v1 v2 v3 (v4 + 1))

def fX12_screwAt_s14 (N : Nat) (c4 : Int32 → Int32 → Int32 → Option Int32) (c14 : Int32 → Int32 → Int32 → Int32 → Option Int32) (v1 : Int32) (v2 : Int32) (v3 : Int32) (v4 : Int32) (σ : qMem) : Option Int32 :=
  (if 7 < v4 then (c4 v1 v2 (v3 + 1)) else ((fX12_isScrew N v3 v4 σ).bind fun y1 => (if y1 = 0 then (fX12_screwAt_b50 N c4 c14 v1 v2 v3 v4 σ) else (if v2 = v1 then (some ((10 * v3) + v4)) else (fX12_screwAt_b50 N c4 c14 v1 (v2 + 1) v3 v4 σ)))))
set_option maxRecDepth 20000 in
set_option maxHeartbeats 4000000 in
theorem aX12_screwAt_s14 (N : Nat) (σ : qMem) (c4 : Int32 → Int32 → Int32 → Option Int32) (hc4 : ∀ (v1 : Int32) (v2 : Int32) (v3 : Int32) , qAt wM mX12_screwAt (ρp σ) 4 [(0, .ref 0), (1, .int v1), (2, .int v2), (3, .int v3)] [] σ (c4 v1 v2 v3)) (c14 : Int32 → Int32 → Int32 → Int32 → Option Int32) (hc14 : ∀ (v1 : Int32) (v2 : Int32) (v3 : Int32) (v4 : Int32) , qAt wM mX12_screwAt (ρp σ) 14 [(0, .ref 0), (1, .int v1), (2, .int v2), (3, .int v3), (4, .int v4)] [] σ (c14 v1 v2 v3 v4)) (v1 : Int32) (v2 : Int32) (v3 : Int32) (v4 : Int32) : qAt wM mX12_screwAt (ρp σ) 14 [(0, .ref 0), (1, .int v1), (2, .int v2), (3, .int v3), (4, .int v4)] [] σ (fX12_screwAt_s14 N c4 c14 v1 v2 v3 v4 σ) := by
  unfold fX12_screwAt_s14
  refine q_iload (i := 4) (x := v4) dX12_screwAt_14 4 rfl ?_
  refine q_bipush (v := 7) dX12_screwAt_16 (by decide) ?_
  refine q_icmp_gt (tgt := 56) dX12_screwAt_18 (by decide) ?_ ?_
  · refine q_iinc (i := 3) (x := v3) (v := (v3 + 1)) (L' := [(3, .int (v3 + 1)), (0, .ref 0), (1, .int v1), (2, .int v2), (4, .int v4)]) dX12_screwAt_56 3 rfl (q_cst v3 (by decide)) (Nat.le_of_ble_eq_true rfl) rfl ?_
    refine q_goto (tgt := 4) dX12_screwAt_59 (by decide) ?_
    exact q_sub [1, 2, 3, 0] rfl (hc4 v1 v2 (v3 + 1))
  refine q_aload_n (i := 0) (x := 0) dX12_screwAt_21 rfl 0 rfl ?_
  refine q_iload_n (i := 3) (x := v3) dX12_screwAt_22 rfl 3 rfl ?_
  refine q_iload (i := 4) (x := v4) dX12_screwAt_23 4 rfl ?_
  refine q_cVp mX12_isScrew [.int v3, .int v4] (st := []) dX12_screwAt_25 (svX12_306) ⟨Nat.le_of_ble_eq_true rfl, Nat.le_of_ble_eq_true rfl⟩ zM_0 rfl rfl rfl (Nat.le_of_ble_eq_true rfl) (kX12_isScrew N v3 v4 σ) (fun y1 => ?_)
  refine q_if_ne (tgt := 34) dX12_screwAt_28 (by decide) ?_ ?_
  · refine q_iload_n (i := 2) (x := v2) dX12_screwAt_34 rfl 2 rfl ?_
    refine q_iload_n (i := 1) (x := v1) dX12_screwAt_35 rfl 1 rfl ?_
    refine q_icmp_ne (tgt := 47) dX12_screwAt_36 (by decide) ?_ ?_
    · refine q_iinc (i := 2) (x := v2) (v := (v2 + 1)) (L' := [(2, .int (v2 + 1)), (0, .ref 0), (1, .int v1), (3, .int v3), (4, .int v4)]) dX12_screwAt_47 2 rfl (q_cst v2 (by decide)) (Nat.le_of_ble_eq_true rfl) rfl ?_
      exact q_sub [1, 2, 0, 3, 4] rfl (aX12_screwAt_b50 N σ c4 c14 hc4 hc14 v1 (v2 + 1) v3 v4)
    refine q_bipush (v := 10) dX12_screwAt_39 (by decide) ?_
    refine q_iload_n (i := 3) (x := v3) dX12_screwAt_41 rfl 3 rfl ?_
    refine q_imul dX12_screwAt_42 ?_
    refine q_iload (i := 4) (x := v4) dX12_screwAt_43 4 rfl ?_
    refine q_iadd dX12_screwAt_45 ?_
    exact q_ireti (y := ((10 * v3) + v4)) dX12_screwAt_46 rfl rfl
  refine q_goto (tgt := 50) dX12_screwAt_31 (by decide) ?_
  exact q_sub [0, 1, 2, 3, 4] rfl (aX12_screwAt_b50 N σ c4 c14 hc4 hc14 v1 v2 v3 v4)
def fX12_screwAt_l14 (N : Nat) (c4 : Int32 → Int32 → Int32 → Option Int32) (σ : qMem) : Nat → Int32 → Int32 → Int32 → Int32 → Option Int32
  | 0 => fun _ _ _ _ => none
  | n + 1 => fun v1 v2 v3 v4 => fX12_screwAt_s14 N c4 (fX12_screwAt_l14 N c4 σ n) v1 v2 v3 v4 σ
theorem aX12_screwAt_l14 (N : Nat) (σ : qMem) (c4 : Int32 → Int32 → Int32 → Option Int32) (hc4 : ∀ (v1 : Int32) (v2 : Int32) (v3 : Int32) , qAt wM mX12_screwAt (ρp σ) 4 [(0, .ref 0), (1, .int v1), (2, .int v2), (3, .int v3)] [] σ (c4 v1 v2 v3)) : ∀ (n : Nat) (v1 : Int32) (v2 : Int32) (v3 : Int32) (v4 : Int32), qAt wM mX12_screwAt (ρp σ) 14 [(0, .ref 0), (1, .int v1), (2, .int v2), (3, .int v3), (4, .int v4)] [] σ (fX12_screwAt_l14 N c4 σ n v1 v2 v3 v4) := by
  intro n
  induction n with
  | zero => intro v1 v2 v3 v4; exact q_none
  | succ n ih => intro v1 v2 v3 v4; exact aX12_screwAt_s14 N σ c4 hc4 (fX12_screwAt_l14 N c4 σ n) ih v1 v2 v3 v4

def fX12_screwAt_s4 (N : Nat) (c4 : Int32 → Int32 → Int32 → Option Int32) (v1 : Int32) (v2 : Int32) (v3 : Int32) (σ : qMem) : Option Int32 :=
  (if 300 < v3 then (some ((-1) - v2)) else (fX12_screwAt_l14 N c4 σ N v1 v2 v3 3))
set_option maxRecDepth 20000 in
set_option maxHeartbeats 4000000 in
theorem aX12_screwAt_s4 (N : Nat) (σ : qMem) (c4 : Int32 → Int32 → Int32 → Option Int32) (hc4 : ∀ (v1 : Int32) (v2 : Int32) (v3 : Int32) , qAt wM mX12_screwAt (ρp σ) 4 [(0, .ref 0), (1, .int v1), (2, .int v2), (3, .int v3)] [] σ (c4 v1 v2 v3)) (v1 : Int32) (v2 : Int32) (v3 : Int32) : qAt wM mX12_screwAt (ρp σ) 4 [(0, .ref 0), (1, .int v1), (2, .int v2), (3, .int v3)] [] σ (fX12_screwAt_s4 N c4 v1 v2 v3 σ) := by
  unfold fX12_screwAt_s4
  refine q_iload_n (i := 3) (x := v3) dX12_screwAt_4 rfl 3 rfl ?_
  refine q_sipush (v := 300) dX12_screwAt_5 (by decide) ?_
  refine q_icmp_gt (tgt := 62) dX12_screwAt_8 (by decide) ?_ ?_
  · refine q_iconst (v := (-1)) dX12_screwAt_62 (by decide) ?_
    refine q_iload_n (i := 2) (x := v2) dX12_screwAt_63 rfl 2 rfl ?_
    refine q_isub dX12_screwAt_64 ?_
    exact q_ireti (y := ((-1) - v2)) dX12_screwAt_65 rfl rfl
  refine q_iconst (v := 3) dX12_screwAt_11 (by decide) ?_
  refine q_istore (i := 4) (L' := [(4, .int 3), (0, .ref 0), (1, .int v1), (2, .int v2), (3, .int v3)]) dX12_screwAt_12 (Nat.le_of_ble_eq_true rfl) rfl ?_
  exact q_sub [1, 2, 3, 4, 0] rfl (aX12_screwAt_l14 N σ c4 hc4 N v1 v2 v3 3)
def fX12_screwAt_l4 (N : Nat) (σ : qMem) : Nat → Int32 → Int32 → Int32 → Option Int32
  | 0 => fun _ _ _ => none
  | n + 1 => fun v1 v2 v3 => fX12_screwAt_s4 N (fX12_screwAt_l4 N σ n) v1 v2 v3 σ
theorem aX12_screwAt_l4 (N : Nat) (σ : qMem) : ∀ (n : Nat) (v1 : Int32) (v2 : Int32) (v3 : Int32), qAt wM mX12_screwAt (ρp σ) 4 [(0, .ref 0), (1, .int v1), (2, .int v2), (3, .int v3)] [] σ (fX12_screwAt_l4 N σ n v1 v2 v3) := by
  intro n
  induction n with
  | zero => intro v1 v2 v3; exact q_none
  | succ n ih => intro v1 v2 v3; exact aX12_screwAt_s4 N σ (fX12_screwAt_l4 N σ n) ih v1 v2 v3

def fX12_screwAt (N : Nat) (p1 : Int32) (σ : qMem) : Option Int32 :=
  (fX12_screwAt_l4 N σ N p1 0 1)
set_option maxRecDepth 20000 in
set_option maxHeartbeats 4000000 in
theorem aX12_screwAt  (N : Nat) (p1 : Int32)  (σ : qMem) : qAt wM mX12_screwAt (ρp σ) 0 [(0, .ref 0), (1, .int p1)] [] σ (fX12_screwAt N p1 σ) := by
  unfold fX12_screwAt
  refine q_iconst (v := 0) dX12_screwAt_0 (by decide) ?_
  refine q_istore_n (i := 2) (L' := [(2, .int 0), (0, .ref 0), (1, .int p1)]) dX12_screwAt_1 rfl (Nat.le_of_ble_eq_true rfl) rfl ?_
  refine q_iconst (v := 1) dX12_screwAt_2 (by decide) ?_
  refine q_istore_n (i := 3) (L' := [(3, .int 1), (2, .int 0), (0, .ref 0), (1, .int p1)]) dX12_screwAt_3 rfl (Nat.le_of_ble_eq_true rfl) rfl ?_
  exact q_sub [2, 3, 1, 0] rfl (aX12_screwAt_l4 N σ N p1 0 1)
theorem kX12_screwAt  (N : Nat) (p1 : Int32)  (σ : qMem) : qMc wM mX12_screwAt (ρp σ) [.ref 0, .int p1] σ (fX12_screwAt N p1 σ) := qMc_of (moX12_screwAt) (Nat.le_of_ble_eq_true rfl) (aX12_screwAt N p1  σ)

theorem dX12_screws_0 : decode cX12_screws 0 = .ok (.iconst (-1), 1) := by decide +kernel
theorem dX12_screws_1 : decode cX12_screws 1 = .ok (.aload_n 0, 1) := by decide +kernel
theorem dX12_screws_2 : decode cX12_screws 2 = .ok (.iconst (-1), 1) := by decide +kernel
theorem dX12_screws_3 : decode cX12_screws 3 = .ok (.invokevirtual 309, 3) := by decide +kernel
theorem dX12_screws_6 : decode cX12_screws 6 = .ok (.isub, 1) := by decide +kernel
theorem dX12_screws_7 : decode cX12_screws 7 = .ok (.ireturn, 1) := by decide +kernel

def fX12_screws (N : Nat)  (σ : qMem) : Option Int32 :=
  ((fX12_screwAt N (-1) σ).bind fun y1 => (some ((-1) - y1)))
set_option maxRecDepth 20000 in
set_option maxHeartbeats 4000000 in
theorem aX12_screws  (N : Nat)   (σ : qMem) : qAt wM mX12_screws (ρp σ) 0 [(0, .ref 0)] [] σ (fX12_screws N σ) := by
  unfold fX12_screws
  refine q_iconst (v := (-1)) dX12_screws_0 (by decide) ?_
  refine q_aload_n (i := 0) (x := 0) dX12_screws_1 rfl 0 rfl ?_
  refine q_iconst (v := (-1)) dX12_screws_2 (by decide) ?_
  refine q_cVp mX12_screwAt [.int (-1)] (st := [.int (-1)]) dX12_screws_3 (svX12_309) ⟨Nat.le_of_ble_eq_true rfl, Nat.le_of_ble_eq_true rfl⟩ zM_0 rfl rfl rfl (Nat.le_of_ble_eq_true rfl) (kX12_screwAt N (-1) σ) (fun y1 => ?_)
  refine q_isub dX12_screws_6 ?_
  exact q_ireti (y := ((-1) - y1)) dX12_screws_7 rfl rfl
theorem kX12_screws  (N : Nat)   (σ : qMem) : qMc wM mX12_screws (ρp σ) [.ref 0] σ (fX12_screws N σ) := qMc_of (moX12_screws) (Nat.le_of_ble_eq_true rfl) (aX12_screws N  σ)

theorem dX12_screw_0 : decode cX12_screw 0 = .ok (.iload_n 1, 1) := by decide +kernel
theorem dX12_screw_1 : decode cX12_screw 1 = .ok (.ifCond .lt 12, 3) := by decide +kernel
theorem dX12_screw_4 : decode cX12_screw 4 = .ok (.iload_n 2, 1) := by decide +kernel
theorem dX12_screw_5 : decode cX12_screw 5 = .ok (.iconst 0, 1) := by decide +kernel
theorem dX12_screw_6 : decode cX12_screw 6 = .ok (.iconst 1, 1) := by decide +kernel
theorem dX12_screw_7 : decode cX12_screw 7 = .ok (.invokestatic 110, 3) := by decide +kernel
theorem dX12_screw_10 : decode cX12_screw 10 = .ok (.ifCond .ne 5, 3) := by decide +kernel
theorem dX12_screw_13 : decode cX12_screw 13 = .ok (.iconst (-1), 1) := by decide +kernel
theorem dX12_screw_14 : decode cX12_screw 14 = .ok (.ireturn, 1) := by decide +kernel
theorem dX12_screw_15 : decode cX12_screw 15 = .ok (.aload_n 0, 1) := by decide +kernel
theorem dX12_screw_16 : decode cX12_screw 16 = .ok (.iload_n 1, 1) := by decide +kernel
theorem dX12_screw_17 : decode cX12_screw 17 = .ok (.invokevirtual 309, 3) := by decide +kernel
theorem dX12_screw_20 : decode cX12_screw 20 = .ok (.istore_n 3, 1) := by decide +kernel
theorem dX12_screw_21 : decode cX12_screw 21 = .ok (.iload_n 3, 1) := by decide +kernel
theorem dX12_screw_22 : decode cX12_screw 22 = .ok (.ifCond .ge 7, 3) := by decide +kernel
theorem dX12_screw_25 : decode cX12_screw 25 = .ok (.iconst (-1), 1) := by decide +kernel
theorem dX12_screw_26 : decode cX12_screw 26 = .ok (.goto 18, 3) := by decide +kernel
theorem dX12_screw_29 : decode cX12_screw 29 = .ok (.iload_n 2, 1) := by decide +kernel
theorem dX12_screw_30 : decode cX12_screw 30 = .ok (.ifCond .ne 10, 3) := by decide +kernel
theorem dX12_screw_33 : decode cX12_screw 33 = .ok (.iload_n 3, 1) := by decide +kernel
theorem dX12_screw_34 : decode cX12_screw 34 = .ok (.bipush 10, 2) := by decide +kernel
theorem dX12_screw_36 : decode cX12_screw 36 = .ok (.idiv, 1) := by decide +kernel
theorem dX12_screw_37 : decode cX12_screw 37 = .ok (.goto 7, 3) := by decide +kernel
theorem dX12_screw_40 : decode cX12_screw 40 = .ok (.iload_n 3, 1) := by decide +kernel
theorem dX12_screw_41 : decode cX12_screw 41 = .ok (.bipush 10, 2) := by decide +kernel
theorem dX12_screw_43 : decode cX12_screw 43 = .ok (.irem, 1) := by decide +kernel
theorem dX12_screw_44 : decode cX12_screw 44 = .ok (.ireturn, 1) := by decide +kernel

def fX12_screw (N : Nat) (p1 : Int32) (p2 : Int32) (σ : qMem) : Option Int32 :=
  (if p1 < 0 then (some (-1)) else ((fX12_in p2 0 1).bind fun y1 => (if y1 = 0 then (some (-1)) else ((fX12_screwAt N p1 σ).bind fun y2 => (if 0 ≤ y2 then (if p2 = 0 then (some (y2 / 10)) else (some (irm y2 10))) else (some (-1)))))))
set_option maxRecDepth 20000 in
set_option maxHeartbeats 4000000 in
theorem aX12_screw  (N : Nat) (p1 : Int32) (p2 : Int32)  (σ : qMem) : qAt wM mX12_screw (ρp σ) 0 [(0, .ref 0), (1, .int p1), (2, .int p2)] [] σ (fX12_screw N p1 p2 σ) := by
  unfold fX12_screw
  refine q_iload_n (i := 1) (x := p1) dX12_screw_0 rfl 1 rfl ?_
  refine q_if_lt (tgt := 13) dX12_screw_1 (by decide) ?_ ?_
  · refine q_iconst (v := (-1)) dX12_screw_13 (by decide) ?_
    exact q_ireti (y := (-1)) dX12_screw_14 rfl rfl
  refine q_iload_n (i := 2) (x := p2) dX12_screw_4 rfl 2 rfl ?_
  refine q_iconst (v := 0) dX12_screw_5 (by decide) ?_
  refine q_iconst (v := 1) dX12_screw_6 (by decide) ?_
  refine q_cSp mX12_in [.int p2, .int 0, .int 1] (st := []) dX12_screw_7 (ssX12_110) ⟨Nat.le_of_ble_eq_true rfl, Nat.le_of_ble_eq_true rfl⟩ rfl rfl (Nat.le_of_ble_eq_true rfl) (kX12_in p2 0 1 σ) (fun y1 => ?_)
  refine q_if_ne (tgt := 15) dX12_screw_10 (by decide) ?_ ?_
  · refine q_aload_n (i := 0) (x := 0) dX12_screw_15 rfl 0 rfl ?_
    refine q_iload_n (i := 1) (x := p1) dX12_screw_16 rfl 1 rfl ?_
    refine q_cVp mX12_screwAt [.int p1] (st := []) dX12_screw_17 (svX12_309) ⟨Nat.le_of_ble_eq_true rfl, Nat.le_of_ble_eq_true rfl⟩ zM_0 rfl rfl rfl (Nat.le_of_ble_eq_true rfl) (kX12_screwAt N p1 σ) (fun y2 => ?_)
    refine q_istore_n (i := 3) (L' := [(3, .int y2), (0, .ref 0), (1, .int p1), (2, .int p2)]) dX12_screw_20 rfl (Nat.le_of_ble_eq_true rfl) rfl ?_
    refine q_iload_n (i := 3) (x := y2) dX12_screw_21 rfl 0 rfl ?_
    refine q_if_ge (tgt := 29) dX12_screw_22 (by decide) ?_ ?_
    · refine q_iload_n (i := 2) (x := p2) dX12_screw_29 rfl 3 rfl ?_
      refine q_if_ne (tgt := 40) dX12_screw_30 (by decide) ?_ ?_
      · refine q_iload_n (i := 3) (x := y2) dX12_screw_40 rfl 0 rfl ?_
        refine q_bipush (v := 10) dX12_screw_41 (by decide) ?_
        refine q_irem dX12_screw_43 (by decide) ?_
        exact q_ireti (y := (irm y2 10)) dX12_screw_44 rfl rfl
      refine q_iload_n (i := 3) (x := y2) dX12_screw_33 rfl 0 rfl ?_
      refine q_bipush (v := 10) dX12_screw_34 (by decide) ?_
      refine q_idiv dX12_screw_36 (by decide) ?_
      refine q_goto (tgt := 44) dX12_screw_37 (by decide) ?_
      exact q_ireti (y := (y2 / 10)) dX12_screw_44 rfl rfl
    refine q_iconst (v := (-1)) dX12_screw_25 (by decide) ?_
    refine q_goto (tgt := 44) dX12_screw_26 (by decide) ?_
    exact q_ireti (y := (-1)) dX12_screw_44 rfl rfl
  refine q_iconst (v := (-1)) dX12_screw_13 (by decide) ?_
  exact q_ireti (y := (-1)) dX12_screw_14 rfl rfl
theorem kX12_screw  (N : Nat) (p1 : Int32) (p2 : Int32)  (σ : qMem) : qMc wM mX12_screw (ρp σ) [.ref 0, .int p1, .int p2] σ (fX12_screw N p1 p2 σ) := qMc_of (moX12_screw) (Nat.le_of_ble_eq_true rfl) (aX12_screw N p1 p2  σ)

theorem dX12_feed_0 : decode cX12_feed 0 = .ok (.aload_n 0, 1) := by decide +kernel
theorem dX12_feed_1 : decode cX12_feed 1 = .ok (.getfield 202, 3) := by decide +kernel
theorem dX12_feed_4 : decode cX12_feed 4 = .ok (.bipush 20, 2) := by decide +kernel
theorem dX12_feed_6 : decode cX12_feed 6 = .ok (.iadd, 1) := by decide +kernel
theorem dX12_feed_7 : decode cX12_feed 7 = .ok (.sipush 400, 3) := by decide +kernel
theorem dX12_feed_10 : decode cX12_feed 10 = .ok (.if_icmp .le 5, 3) := by decide +kernel
theorem dX12_feed_13 : decode cX12_feed 13 = .ok (.iconst (-1), 1) := by decide +kernel
theorem dX12_feed_14 : decode cX12_feed 14 = .ok (.ireturn, 1) := by decide +kernel
theorem dX12_feed_15 : decode cX12_feed 15 = .ok (.aload_n 0, 1) := by decide +kernel
theorem dX12_feed_16 : decode cX12_feed 16 = .ok (.getfield 83, 3) := by decide +kernel
theorem dX12_feed_19 : decode cX12_feed 19 = .ok (.iconst 0, 1) := by decide +kernel
theorem dX12_feed_20 : decode cX12_feed 20 = .ok (.iload_n 1, 1) := by decide +kernel
theorem dX12_feed_21 : decode cX12_feed 21 = .ok (.iastore, 1) := by decide +kernel
theorem dX12_feed_22 : decode cX12_feed 22 = .ok (.aload_n 0, 1) := by decide +kernel
theorem dX12_feed_23 : decode cX12_feed 23 = .ok (.getfield 83, 3) := by decide +kernel
theorem dX12_feed_26 : decode cX12_feed 26 = .ok (.iconst 1, 1) := by decide +kernel
theorem dX12_feed_27 : decode cX12_feed 27 = .ok (.iload_n 2, 1) := by decide +kernel
theorem dX12_feed_28 : decode cX12_feed 28 = .ok (.iastore, 1) := by decide +kernel
theorem dX12_feed_29 : decode cX12_feed 29 = .ok (.aload_n 0, 1) := by decide +kernel
theorem dX12_feed_30 : decode cX12_feed 30 = .ok (.getfield 83, 3) := by decide +kernel
theorem dX12_feed_33 : decode cX12_feed 33 = .ok (.iconst 2, 1) := by decide +kernel
theorem dX12_feed_34 : decode cX12_feed 34 = .ok (.iload_n 3, 1) := by decide +kernel
theorem dX12_feed_35 : decode cX12_feed 35 = .ok (.iastore, 1) := by decide +kernel
theorem dX12_feed_36 : decode cX12_feed 36 = .ok (.aload_n 0, 1) := by decide +kernel
theorem dX12_feed_37 : decode cX12_feed 37 = .ok (.getfield 83, 3) := by decide +kernel
theorem dX12_feed_40 : decode cX12_feed 40 = .ok (.iconst 3, 1) := by decide +kernel
theorem dX12_feed_41 : decode cX12_feed 41 = .ok (.iload 4, 2) := by decide +kernel
theorem dX12_feed_43 : decode cX12_feed 43 = .ok (.iastore, 1) := by decide +kernel
theorem dX12_feed_44 : decode cX12_feed 44 = .ok (.aload_n 0, 1) := by decide +kernel
theorem dX12_feed_45 : decode cX12_feed 45 = .ok (.getfield 83, 3) := by decide +kernel
theorem dX12_feed_48 : decode cX12_feed 48 = .ok (.iconst 4, 1) := by decide +kernel
theorem dX12_feed_49 : decode cX12_feed 49 = .ok (.iload 5, 2) := by decide +kernel
theorem dX12_feed_51 : decode cX12_feed 51 = .ok (.iastore, 1) := by decide +kernel
theorem dX12_feed_52 : decode cX12_feed 52 = .ok (.iconst 0, 1) := by decide +kernel
theorem dX12_feed_53 : decode cX12_feed 53 = .ok (.istore 6, 2) := by decide +kernel
theorem dX12_feed_55 : decode cX12_feed 55 = .ok (.iload 6, 2) := by decide +kernel
theorem dX12_feed_57 : decode cX12_feed 57 = .ok (.bipush 20, 2) := by decide +kernel
theorem dX12_feed_59 : decode cX12_feed 59 = .ok (.if_icmp .ge 42, 3) := by decide +kernel
theorem dX12_feed_62 : decode cX12_feed 62 = .ok (.aload_n 0, 1) := by decide +kernel
theorem dX12_feed_63 : decode cX12_feed 63 = .ok (.getfield 80, 3) := by decide +kernel
theorem dX12_feed_66 : decode cX12_feed 66 = .ok (.aload_n 0, 1) := by decide +kernel
theorem dX12_feed_67 : decode cX12_feed 67 = .ok (.getfield 202, 3) := by decide +kernel
theorem dX12_feed_70 : decode cX12_feed 70 = .ok (.iload 6, 2) := by decide +kernel
theorem dX12_feed_72 : decode cX12_feed 72 = .ok (.iadd, 1) := by decide +kernel
theorem dX12_feed_73 : decode cX12_feed 73 = .ok (.aload_n 0, 1) := by decide +kernel
theorem dX12_feed_74 : decode cX12_feed 74 = .ok (.getfield 83, 3) := by decide +kernel
theorem dX12_feed_77 : decode cX12_feed 77 = .ok (.iload 6, 2) := by decide +kernel
theorem dX12_feed_79 : decode cX12_feed 79 = .ok (.iconst 4, 1) := by decide +kernel
theorem dX12_feed_80 : decode cX12_feed 80 = .ok (.idiv, 1) := by decide +kernel
theorem dX12_feed_81 : decode cX12_feed 81 = .ok (.iaload, 1) := by decide +kernel
theorem dX12_feed_82 : decode cX12_feed 82 = .ok (.bipush 24, 2) := by decide +kernel
theorem dX12_feed_84 : decode cX12_feed 84 = .ok (.bipush 8, 2) := by decide +kernel
theorem dX12_feed_86 : decode cX12_feed 86 = .ok (.iload 6, 2) := by decide +kernel
theorem dX12_feed_88 : decode cX12_feed 88 = .ok (.iconst 4, 1) := by decide +kernel
theorem dX12_feed_89 : decode cX12_feed 89 = .ok (.irem, 1) := by decide +kernel
theorem dX12_feed_90 : decode cX12_feed 90 = .ok (.imul, 1) := by decide +kernel
theorem dX12_feed_91 : decode cX12_feed 91 = .ok (.isub, 1) := by decide +kernel
theorem dX12_feed_92 : decode cX12_feed 92 = .ok (.ishr, 1) := by decide +kernel
theorem dX12_feed_93 : decode cX12_feed 93 = .ok (.i2b, 1) := by decide +kernel
theorem dX12_feed_94 : decode cX12_feed 94 = .ok (.bastore, 1) := by decide +kernel
theorem dX12_feed_95 : decode cX12_feed 95 = .ok (.iinc 6 1, 3) := by decide +kernel
theorem dX12_feed_98 : decode cX12_feed 98 = .ok (.goto (-43), 3) := by decide +kernel
theorem dX12_feed_101 : decode cX12_feed 101 = .ok (.aload_n 0, 1) := by decide +kernel
theorem dX12_feed_102 : decode cX12_feed 102 = .ok (.dup, 1) := by decide +kernel
theorem dX12_feed_103 : decode cX12_feed 103 = .ok (.getfield 202, 3) := by decide +kernel
theorem dX12_feed_106 : decode cX12_feed 106 = .ok (.bipush 20, 2) := by decide +kernel
theorem dX12_feed_108 : decode cX12_feed 108 = .ok (.iadd, 1) := by decide +kernel
theorem dX12_feed_109 : decode cX12_feed 109 = .ok (.putfield 202, 3) := by decide +kernel
theorem dX12_feed_112 : decode cX12_feed 112 = .ok (.aload_n 0, 1) := by decide +kernel
theorem dX12_feed_113 : decode cX12_feed 113 = .ok (.getfield 202, 3) := by decide +kernel
theorem dX12_feed_116 : decode cX12_feed 116 = .ok (.ireturn, 1) := by decide +kernel
def fX12_feed_s55 (N : Nat) (c55 : Int32 → qMem → Option (Int32 × qMem)) (v6 : Int32) (σ : qMem) : Option (Int32 × qMem) :=
  (if 20 ≤ v6 then (nmM (si σ 0 28 ((gi σ 0 28) + 20)) fun s6 => (some ((gi s6 0 28), s6))) else (if ck (v6 / 4) 5 = true then (if ck ((gi σ 0 28) + v6) 400 = true then (nmM (si σ 18 ((gi σ 0 28) + v6).toNatClampNeg (vp_nar .byte ((gi σ 19 (v6 / 4).toNatClampNeg) >>> ((24 - (8 * (irm v6 4))) &&& 31)).toInt8.toInt32)) fun s7 => (c55 (v6 + 1) s7)) else none) else none))
set_option maxRecDepth 20000 in
set_option maxHeartbeats 4000000 in
theorem aX12_feed_s55 (N : Nat) (c55 : Int32 → qMem → Option (Int32 × qMem)) (hc55 : ∀ (v6 : Int32) (σ : qMem), qAt wM mX12_feed (ρi) 55 [(0, .ref 0), (6, .int v6)] [] σ (c55 v6 σ)) (v6 : Int32) (σ : qMem) : qAt wM mX12_feed (ρi) 55 [(0, .ref 0), (6, .int v6)] [] σ (fX12_feed_s55 N c55 v6 σ) := by
  unfold fX12_feed_s55
  refine q_iload (i := 6) (x := v6) dX12_feed_55 1 rfl ?_
  refine q_bipush (v := 20) dX12_feed_57 (by decide) ?_
  refine q_icmp_ge (tgt := 101) dX12_feed_59 (by decide) ?_ ?_
  · refine q_aload_n (i := 0) (x := 0) dX12_feed_101 rfl 0 rfl ?_
    refine q_dup dX12_feed_102 rfl ?_
    refine q_geti dX12_feed_103 foX12_202 zM_0 rfl ?_
    refine q_bipush (v := 20) dX12_feed_106 (by decide) ?_
    refine q_iadd dX12_feed_108 ?_
    refine q_puti dX12_feed_109 foX12_202 fwX12_28 zM_0 rfl ?_
    refine q_nmM (fun s6 => ?_)
    refine q_aload_n (i := 0) (x := 0) dX12_feed_112 rfl 0 rfl ?_
    refine q_geti dX12_feed_113 foX12_202 zM_0 rfl ?_
    exact q_ireti (y := ((gi s6 0 28), s6)) dX12_feed_116 rfl rfl
  refine q_aload_n (i := 0) (x := 0) dX12_feed_62 rfl 0 rfl ?_
  refine q_getr (t := 18) dX12_feed_63 foX12_80 zM_0 rfl ?_
  refine q_aload_n (i := 0) (x := 0) dX12_feed_66 rfl 0 rfl ?_
  refine q_geti dX12_feed_67 foX12_202 zM_0 rfl ?_
  refine q_iload (i := 6) (x := v6) dX12_feed_70 1 rfl ?_
  refine q_iadd dX12_feed_72 ?_
  refine q_aload_n (i := 0) (x := 0) dX12_feed_73 rfl 0 rfl ?_
  refine q_getr (t := 19) dX12_feed_74 foX12_83 zM_0 rfl ?_
  refine q_iload (i := 6) (x := v6) dX12_feed_77 1 rfl ?_
  refine q_iconst (v := 4) dX12_feed_79 (by decide) ?_
  refine q_idiv dX12_feed_80 (by decide) ?_
  refine q_iald dX12_feed_81 zM_19 ?_
  refine q_bipush (v := 24) dX12_feed_82 (by decide) ?_
  refine q_bipush (v := 8) dX12_feed_84 (by decide) ?_
  refine q_iload (i := 6) (x := v6) dX12_feed_86 1 rfl ?_
  refine q_iconst (v := 4) dX12_feed_88 (by decide) ?_
  refine q_irem dX12_feed_89 (by decide) ?_
  refine q_imul dX12_feed_90 ?_
  refine q_isub dX12_feed_91 ?_
  refine q_ishr dX12_feed_92 ?_
  refine q_i2b dX12_feed_93 ?_
  refine q_bast dX12_feed_94 zM_18 ?_
  refine q_nmM (fun s7 => ?_)
  refine q_iinc (i := 6) (x := v6) (v := (v6 + 1)) (L' := [(6, .int (v6 + 1)), (0, .ref 0)]) dX12_feed_95 1 rfl (q_cst v6 (by decide)) (Nat.le_of_ble_eq_true rfl) rfl ?_
  refine q_goto (tgt := 55) dX12_feed_98 (by decide) ?_
  exact q_sub [1, 0] rfl (hc55 (v6 + 1) s7)
def fX12_feed_l55 (N : Nat) : Nat → Int32 → qMem → Option (Int32 × qMem)
  | 0 => fun _ _ => none
  | n + 1 => fun v6 σ => fX12_feed_s55 N (fX12_feed_l55 N n) v6 σ
theorem aX12_feed_l55 (N : Nat) : ∀ (n : Nat) (v6 : Int32) (σ : qMem), qAt wM mX12_feed (ρi) 55 [(0, .ref 0), (6, .int v6)] [] σ (fX12_feed_l55 N n v6 σ) := by
  intro n
  induction n with
  | zero => intro v6 σ; exact q_none
  | succ n ih => intro v6 σ; exact aX12_feed_s55 N (fX12_feed_l55 N n) ih v6 σ

def fX12_feed (N : Nat) (p1 : Int32) (p2 : Int32) (p3 : Int32) (p4 : Int32) (p5 : Int32) (σ : qMem) : Option (Int32 × qMem) :=
  (if ((gi σ 0 28) + 20) ≤ 400 then (if ck 0 5 = true then (nmM (si σ 19 (0 : Int32).toNatClampNeg p1) fun s1 => (if ck 1 5 = true then (nmM (si s1 19 (1 : Int32).toNatClampNeg p2) fun s2 => (if ck 2 5 = true then (nmM (si s2 19 (2 : Int32).toNatClampNeg p3) fun s3 => (if ck 3 5 = true then (nmM (si s3 19 (3 : Int32).toNatClampNeg p4) fun s4 => (if ck 4 5 = true then (nmM (si s4 19 (4 : Int32).toNatClampNeg p5) fun s5 => (fX12_feed_l55 N N 0 s5)) else none)) else none)) else none)) else none)) else none) else (some ((-1), σ)))
set_option maxRecDepth 20000 in
set_option maxHeartbeats 4000000 in
theorem aX12_feed  (N : Nat) (p1 : Int32) (p2 : Int32) (p3 : Int32) (p4 : Int32) (p5 : Int32)  (σ : qMem) : qAt wM mX12_feed (ρi) 0 [(0, .ref 0), (1, .int p1), (2, .int p2), (3, .int p3), (4, .int p4), (5, .int p5)] [] σ (fX12_feed N p1 p2 p3 p4 p5 σ) := by
  unfold fX12_feed
  refine q_aload_n (i := 0) (x := 0) dX12_feed_0 rfl 0 rfl ?_
  refine q_geti dX12_feed_1 foX12_202 zM_0 rfl ?_
  refine q_bipush (v := 20) dX12_feed_4 (by decide) ?_
  refine q_iadd dX12_feed_6 ?_
  refine q_sipush (v := 400) dX12_feed_7 (by decide) ?_
  refine q_icmp_le (tgt := 15) dX12_feed_10 (by decide) ?_ ?_
  · refine q_aload_n (i := 0) (x := 0) dX12_feed_15 rfl 0 rfl ?_
    refine q_getr (t := 19) dX12_feed_16 foX12_83 zM_0 rfl ?_
    refine q_iconst (v := 0) dX12_feed_19 (by decide) ?_
    refine q_iload_n (i := 1) (x := p1) dX12_feed_20 rfl 1 rfl ?_
    refine q_iast dX12_feed_21 zM_19 ?_
    refine q_nmM (fun s1 => ?_)
    refine q_aload_n (i := 0) (x := 0) dX12_feed_22 rfl 0 rfl ?_
    refine q_getr (t := 19) dX12_feed_23 foX12_83 zM_0 rfl ?_
    refine q_iconst (v := 1) dX12_feed_26 (by decide) ?_
    refine q_iload_n (i := 2) (x := p2) dX12_feed_27 rfl 2 rfl ?_
    refine q_iast dX12_feed_28 zM_19 ?_
    refine q_nmM (fun s2 => ?_)
    refine q_aload_n (i := 0) (x := 0) dX12_feed_29 rfl 0 rfl ?_
    refine q_getr (t := 19) dX12_feed_30 foX12_83 zM_0 rfl ?_
    refine q_iconst (v := 2) dX12_feed_33 (by decide) ?_
    refine q_iload_n (i := 3) (x := p3) dX12_feed_34 rfl 3 rfl ?_
    refine q_iast dX12_feed_35 zM_19 ?_
    refine q_nmM (fun s3 => ?_)
    refine q_aload_n (i := 0) (x := 0) dX12_feed_36 rfl 0 rfl ?_
    refine q_getr (t := 19) dX12_feed_37 foX12_83 zM_0 rfl ?_
    refine q_iconst (v := 3) dX12_feed_40 (by decide) ?_
    refine q_iload (i := 4) (x := p4) dX12_feed_41 4 rfl ?_
    refine q_iast dX12_feed_43 zM_19 ?_
    refine q_nmM (fun s4 => ?_)
    refine q_aload_n (i := 0) (x := 0) dX12_feed_44 rfl 0 rfl ?_
    refine q_getr (t := 19) dX12_feed_45 foX12_83 zM_0 rfl ?_
    refine q_iconst (v := 4) dX12_feed_48 (by decide) ?_
    refine q_iload (i := 5) (x := p5) dX12_feed_49 5 rfl ?_
    refine q_iast dX12_feed_51 zM_19 ?_
    refine q_nmM (fun s5 => ?_)
    refine q_iconst (v := 0) dX12_feed_52 (by decide) ?_
    refine q_istore (i := 6) (L' := [(6, .int 0), (0, .ref 0), (1, .int p1), (2, .int p2), (3, .int p3), (4, .int p4), (5, .int p5)]) dX12_feed_53 (Nat.le_of_ble_eq_true rfl) rfl ?_
    exact q_sub [1, 0] rfl (aX12_feed_l55 N N 0 s5)
  refine q_iconst (v := (-1)) dX12_feed_13 (by decide) ?_
  exact q_ireti (y := ((-1), σ)) dX12_feed_14 rfl rfl
theorem kX12_feed  (N : Nat) (p1 : Int32) (p2 : Int32) (p3 : Int32) (p4 : Int32) (p5 : Int32)  (σ : qMem) : qMc wM mX12_feed (ρi) [.ref 0, .int p1, .int p2, .int p3, .int p4, .int p5] σ (fX12_feed N p1 p2 p3 p4 p5 σ) := qMc_of (moX12_feed) (Nat.le_of_ble_eq_true rfl) (aX12_feed N p1 p2 p3 p4 p5  σ)

