theorem dX3_plot_0 : decode cX3_plot 0 = .ok (.aload_n 0, 1) := by decide +kernel
theorem dX3_plot_1 : decode cX3_plot 1 = .ok (.invokevirtual 196, 3) := by decide +kernel
theorem dX3_plot_4 : decode cX3_plot 4 = .ok (.aload_n 0, 1) := by decide +kernel
theorem dX3_plot_5 : decode cX3_plot 5 = .ok (.getfield 77, 3) := by decide +kernel
theorem dX3_plot_8 : decode cX3_plot 8 = .ok (.ifCond .eq 4, 3) := by decide +kernel
theorem dX3_plot_11 : decode cX3_plot 11 = .ok (.return_, 1) := by decide +kernel
theorem dX3_plot_12 : decode cX3_plot 12 = .ok (.aload_n 0, 1) := by decide +kernel
theorem dX3_plot_13 : decode cX3_plot 13 = .ok (.invokevirtual 199, 3) := by decide +kernel
theorem dX3_plot_16 : decode cX3_plot 16 = .ok (.aload_n 0, 1) := by decide +kernel
theorem dX3_plot_17 : decode cX3_plot 17 = .ok (.getfield 35, 3) := by decide +kernel
theorem dX3_plot_20 : decode cX3_plot 20 = .ok (.iconst 0, 1) := by decide +kernel
theorem dX3_plot_21 : decode cX3_plot 21 = .ok (.invokestatic 182, 3) := by decide +kernel
theorem dX3_plot_24 : decode cX3_plot 24 = .ok (.aload_n 0, 1) := by decide +kernel
theorem dX3_plot_25 : decode cX3_plot 25 = .ok (.iconst 0, 1) := by decide +kernel
theorem dX3_plot_26 : decode cX3_plot 26 = .ok (.putfield 67, 3) := by decide +kernel
theorem dX3_plot_29 : decode cX3_plot 29 = .ok (.iconst 0, 1) := by decide +kernel
theorem dX3_plot_30 : decode cX3_plot 30 = .ok (.istore_n 1, 1) := by decide +kernel
theorem dX3_plot_31 : decode cX3_plot 31 = .ok (.iload_n 1, 1) := by decide +kernel
theorem dX3_plot_32 : decode cX3_plot 32 = .ok (.sipush 224, 3) := by decide +kernel
theorem dX3_plot_35 : decode cX3_plot 35 = .ok (.if_icmp .ge 34, 3) := by decide +kernel
theorem dX3_plot_38 : decode cX3_plot 38 = .ok (.aload_n 0, 1) := by decide +kernel
theorem dX3_plot_39 : decode cX3_plot 39 = .ok (.iload_n 1, 1) := by decide +kernel
theorem dX3_plot_40 : decode cX3_plot 40 = .ok (.invokevirtual 202, 3) := by decide +kernel
theorem dX3_plot_43 : decode cX3_plot 43 = .ok (.aload_n 0, 1) := by decide +kernel
theorem dX3_plot_44 : decode cX3_plot 44 = .ok (.dup, 1) := by decide +kernel
theorem dX3_plot_45 : decode cX3_plot 45 = .ok (.getfield 67, 3) := by decide +kernel
theorem dX3_plot_48 : decode cX3_plot 48 = .ok (.aload_n 0, 1) := by decide +kernel
theorem dX3_plot_49 : decode cX3_plot 49 = .ok (.iload_n 1, 1) := by decide +kernel
theorem dX3_plot_50 : decode cX3_plot 50 = .ok (.bipush 7, 2) := by decide +kernel
theorem dX3_plot_52 : decode cX3_plot 52 = .ok (.imul, 1) := by decide +kernel
theorem dX3_plot_53 : decode cX3_plot 53 = .ok (.bipush 7, 2) := by decide +kernel
theorem dX3_plot_55 : decode cX3_plot 55 = .ok (.iconst (-1), 1) := by decide +kernel
theorem dX3_plot_56 : decode cX3_plot 56 = .ok (.invokevirtual 206, 3) := by decide +kernel
theorem dX3_plot_59 : decode cX3_plot 59 = .ok (.iadd, 1) := by decide +kernel
theorem dX3_plot_60 : decode cX3_plot 60 = .ok (.putfield 67, 3) := by decide +kernel
theorem dX3_plot_63 : decode cX3_plot 63 = .ok (.iinc 1 1, 3) := by decide +kernel
theorem dX3_plot_66 : decode cX3_plot 66 = .ok (.goto (-35), 3) := by decide +kernel
theorem dX3_plot_69 : decode cX3_plot 69 = .ok (.aload_n 0, 1) := by decide +kernel
theorem dX3_plot_70 : decode cX3_plot 70 = .ok (.iconst 1, 1) := by decide +kernel
theorem dX3_plot_71 : decode cX3_plot 71 = .ok (.putfield 77, 3) := by decide +kernel
theorem dX3_plot_74 : decode cX3_plot 74 = .ok (.return_, 1) := by decide +kernel
def fX3_plot_s31 (N : Nat) (c31 : Int32 → qMem → Option qMem) (v1 : Int32) (σ : qMem) : Option qMem :=
  (if 224 ≤ v1 then (nmM (si σ 44 17 1) fun s5 => (some s5)) else ((fX3_plotSheaf N v1 σ).bind fun y6 => ((fX3_countFrom N (v1 * 7) 7 (-1) y6).bind fun y7 => (nmM (si y6 44 14 ((gi y6 44 14) + y7)) fun s8 => (c31 (v1 + 1) s8)))))
set_option maxRecDepth 20000 in
set_option maxHeartbeats 4000000 in
theorem aX3_plot_s31 (N : Nat) (c31 : Int32 → qMem → Option qMem) (hc31 : ∀ (v1 : Int32) (σ : qMem), qAt wC mX3_plot (ρv) 31 [(0, .ref 44), (1, .int v1)] [] σ (c31 v1 σ)) (v1 : Int32) (σ : qMem) : qAt wC mX3_plot (ρv) 31 [(0, .ref 44), (1, .int v1)] [] σ (fX3_plot_s31 N c31 v1 σ) := by
  unfold fX3_plot_s31
  refine q_iload_n (i := 1) (x := v1) dX3_plot_31 rfl 1 rfl ?_
  refine q_sipush (v := 224) dX3_plot_32 (by decide) ?_
  refine q_icmp_ge (tgt := 69) dX3_plot_35 (by decide) ?_ ?_
  · refine q_aload_n (i := 0) (x := 44) dX3_plot_69 rfl 0 rfl ?_
    refine q_iconst (v := 1) dX3_plot_70 (by decide) ?_
    refine q_putz dX3_plot_71 foX3_77 fwX3_17 zC_44 rfl (by decide) ?_
    refine q_nmM (fun s5 => ?_)
    exact q_vret (y := s5) dX3_plot_74 rfl rfl
  refine q_aload_n (i := 0) (x := 44) dX3_plot_38 rfl 0 rfl ?_
  refine q_iload_n (i := 1) (x := v1) dX3_plot_39 rfl 1 rfl ?_
  refine q_cVv mX3_plotSheaf [.int v1] (st := []) dX3_plot_40 (svX3_202) ⟨Nat.le_of_ble_eq_true rfl, Nat.le_of_ble_eq_true rfl⟩ zC_44 rfl rfl rfl (Nat.le_of_ble_eq_true rfl) (kX3_plotSheaf N v1 σ) (fun y6 => ?_)
  refine q_aload_n (i := 0) (x := 44) dX3_plot_43 rfl 0 rfl ?_
  refine q_dup dX3_plot_44 rfl ?_
  refine q_geti dX3_plot_45 foX3_67 zC_44 rfl ?_
  refine q_aload_n (i := 0) (x := 44) dX3_plot_48 rfl 0 rfl ?_
  refine q_iload_n (i := 1) (x := v1) dX3_plot_49 rfl 1 rfl ?_
  refine q_bipush (v := 7) dX3_plot_50 (by decide) ?_
  refine q_imul dX3_plot_52 ?_
  refine q_bipush (v := 7) dX3_plot_53 (by decide) ?_
  refine q_iconst (v := (-1)) dX3_plot_55 (by decide) ?_
  refine q_cVp mX3_countFrom [.int (v1 * 7), .int 7, .int (-1)] (st := [.int (gi y6 44 14), .ref 44]) dX3_plot_56 (svX3_206) ⟨Nat.le_of_ble_eq_true rfl, Nat.le_of_ble_eq_true rfl⟩ zC_44 rfl rfl rfl (Nat.le_of_ble_eq_true rfl) (kX3_countFrom N (v1 * 7) 7 (-1) y6) (fun y7 => ?_)
  refine q_iadd dX3_plot_59 ?_
  refine q_puti dX3_plot_60 foX3_67 fwX3_14 zC_44 rfl ?_
  refine q_nmM (fun s8 => ?_)
  refine q_iinc (i := 1) (x := v1) (v := (v1 + 1)) (L' := [(1, .int (v1 + 1)), (0, .ref 44)]) dX3_plot_63 1 rfl (q_cst v1 (by decide)) (Nat.le_of_ble_eq_true rfl) rfl ?_
  refine q_goto (tgt := 31) dX3_plot_66 (by decide) ?_
  exact q_sub [1, 0] rfl (hc31 (v1 + 1) s8)
def fX3_plot_l31 (N : Nat) : Nat → Int32 → qMem → Option qMem
  | 0 => fun _ _ => none
  | n + 1 => fun v1 σ => fX3_plot_s31 N (fX3_plot_l31 N n) v1 σ
theorem aX3_plot_l31 (N : Nat) : ∀ (n : Nat) (v1 : Int32) (σ : qMem), qAt wC mX3_plot (ρv) 31 [(0, .ref 44), (1, .int v1)] [] σ (fX3_plot_l31 N n v1 σ) := by
  intro n
  induction n with
  | zero => intro v1 σ; exact q_none
  | succ n ih => intro v1 σ; exact aX3_plot_s31 N (fX3_plot_l31 N n) ih v1 σ

def fX3_plot (N : Nat)  (σ : qMem) : Option qMem :=
  ((fX3_sortOut N σ).bind fun y1 => (if (gi y1 44 17) = 0 then ((fX3_tune N y1).bind fun y2 => ((fJ7_fill_53178 N 61 1568 0 y2).bind fun y3 => (nmM (si y3 44 14 0) fun s4 => (fX3_plot_l31 N N 0 s4)))) else (some y1)))
set_option maxRecDepth 20000 in
set_option maxHeartbeats 4000000 in
theorem aX3_plot  (N : Nat)   (σ : qMem) : qAt wC mX3_plot (ρv) 0 [(0, .ref 44)] [] σ (fX3_plot N σ) := by
  unfold fX3_plot
  refine q_aload_n (i := 0) (x := 44) dX3_plot_0 rfl 0 rfl ?_
  refine q_cVv mX3_sortOut [] (st := []) dX3_plot_1 (svX3_196) ⟨Nat.le_of_ble_eq_true rfl, Nat.le_of_ble_eq_true rfl⟩ zC_44 rfl rfl rfl (Nat.le_of_ble_eq_true rfl) (kX3_sortOut N σ) (fun y1 => ?_)
  refine q_aload_n (i := 0) (x := 44) dX3_plot_4 rfl 0 rfl ?_
  refine q_geti dX3_plot_5 foX3_77 zC_44 rfl ?_
  refine q_if_eq (tgt := 12) dX3_plot_8 (by decide) ?_ ?_
  · refine q_aload_n (i := 0) (x := 44) dX3_plot_12 rfl 0 rfl ?_
    refine q_cVv mX3_tune [] (st := []) dX3_plot_13 (svX3_199) ⟨Nat.le_of_ble_eq_true rfl, Nat.le_of_ble_eq_true rfl⟩ zC_44 rfl rfl rfl (Nat.le_of_ble_eq_true rfl) (kX3_tune N y1) (fun y2 => ?_)
    refine q_aload_n (i := 0) (x := 44) dX3_plot_16 rfl 0 rfl ?_
    refine q_getr (t := 61) dX3_plot_17 foX3_35 zC_44 rfl ?_
    refine q_iconst (v := 0) dX3_plot_20 (by decide) ?_
    refine q_cSv mJ7_fill_53178 [.ref 61, .int 0] (st := []) dX3_plot_21 (ssX3_182) ⟨Nat.le_of_ble_eq_true rfl, Nat.le_of_ble_eq_true rfl⟩ rfl rfl (Nat.le_of_ble_eq_true rfl) (kJ7_fill_53178 N 61 1568 0 zC_61 y2) (fun y3 => ?_)
    refine q_aload_n (i := 0) (x := 44) dX3_plot_24 rfl 0 rfl ?_
    refine q_iconst (v := 0) dX3_plot_25 (by decide) ?_
    refine q_puti dX3_plot_26 foX3_67 fwX3_14 zC_44 rfl ?_
    refine q_nmM (fun s4 => ?_)
    refine q_iconst (v := 0) dX3_plot_29 (by decide) ?_
    refine q_istore_n (i := 1) (L' := [(1, .int 0), (0, .ref 44)]) dX3_plot_30 rfl (Nat.le_of_ble_eq_true rfl) rfl ?_
    exact q_sub [1, 0] rfl (aX3_plot_l31 N N 0 s4)
  exact q_vret (y := y1) dX3_plot_11 rfl rfl
theorem kX3_plot  (N : Nat)   (σ : qMem) : qMc wC mX3_plot (ρv) [.ref 44] σ (fX3_plot N σ) := qMc_of (moX3_plot) (Nat.le_of_ble_eq_true rfl) (aX3_plot N  σ)

theorem dX3_codeOf_0 : decode cX3_codeOf 0 = .ok (.bipush 49, 2) := by decide +kernel
theorem dX3_codeOf_2 : decode cX3_codeOf 2 = .ok (.istore_n 2, 1) := by decide +kernel
theorem dX3_codeOf_3 : decode cX3_codeOf 3 = .ok (.iload_n 0, 1) := by decide +kernel
theorem dX3_codeOf_4 : decode cX3_codeOf 4 = .ok (.iload_n 2, 1) := by decide +kernel
theorem dX3_codeOf_5 : decode cX3_codeOf 5 = .ok (.idiv, 1) := by decide +kernel
theorem dX3_codeOf_6 : decode cX3_codeOf 6 = .ok (.bipush 32, 2) := by decide +kernel
theorem dX3_codeOf_8 : decode cX3_codeOf 8 = .ok (.imul, 1) := by decide +kernel
theorem dX3_codeOf_9 : decode cX3_codeOf 9 = .ok (.iload_n 2, 1) := by decide +kernel
theorem dX3_codeOf_10 : decode cX3_codeOf 10 = .ok (.imul, 1) := by decide +kernel
theorem dX3_codeOf_11 : decode cX3_codeOf 11 = .ok (.iload_n 1, 1) := by decide +kernel
theorem dX3_codeOf_12 : decode cX3_codeOf 12 = .ok (.iload_n 2, 1) := by decide +kernel
theorem dX3_codeOf_13 : decode cX3_codeOf 13 = .ok (.imul, 1) := by decide +kernel
theorem dX3_codeOf_14 : decode cX3_codeOf 14 = .ok (.iadd, 1) := by decide +kernel
theorem dX3_codeOf_15 : decode cX3_codeOf 15 = .ok (.iload_n 0, 1) := by decide +kernel
theorem dX3_codeOf_16 : decode cX3_codeOf 16 = .ok (.iload_n 2, 1) := by decide +kernel
theorem dX3_codeOf_17 : decode cX3_codeOf 17 = .ok (.irem, 1) := by decide +kernel
theorem dX3_codeOf_18 : decode cX3_codeOf 18 = .ok (.iadd, 1) := by decide +kernel
theorem dX3_codeOf_19 : decode cX3_codeOf 19 = .ok (.ireturn, 1) := by decide +kernel

def fX3_codeOf (p0 : Int32) (p1 : Int32) : Option Int32 :=
  (some (((((p0 / 49) * 32) * 49) + (p1 * 49)) + (irm p0 49)))
set_option maxRecDepth 20000 in
set_option maxHeartbeats 4000000 in
theorem aX3_codeOf  (p0 : Int32) (p1 : Int32)  (σ : qMem) : qAt wC mX3_codeOf (ρp σ) 0 [(0, .int p0), (1, .int p1)] [] σ (fX3_codeOf p0 p1) := by
  unfold fX3_codeOf
  refine q_bipush (v := 49) dX3_codeOf_0 (by decide) ?_
  refine q_istore_n (i := 2) (L' := [(2, .int 49), (0, .int p0), (1, .int p1)]) dX3_codeOf_2 rfl (Nat.le_of_ble_eq_true rfl) rfl ?_
  refine q_iload_n (i := 0) (x := p0) dX3_codeOf_3 rfl 1 rfl ?_
  refine q_iload_n (i := 2) (x := 49) dX3_codeOf_4 rfl 0 rfl ?_
  refine q_idiv dX3_codeOf_5 (by decide) ?_
  refine q_bipush (v := 32) dX3_codeOf_6 (by decide) ?_
  refine q_imul dX3_codeOf_8 ?_
  refine q_iload_n (i := 2) (x := 49) dX3_codeOf_9 rfl 0 rfl ?_
  refine q_imul dX3_codeOf_10 ?_
  refine q_iload_n (i := 1) (x := p1) dX3_codeOf_11 rfl 2 rfl ?_
  refine q_iload_n (i := 2) (x := 49) dX3_codeOf_12 rfl 0 rfl ?_
  refine q_imul dX3_codeOf_13 ?_
  refine q_iadd dX3_codeOf_14 ?_
  refine q_iload_n (i := 0) (x := p0) dX3_codeOf_15 rfl 1 rfl ?_
  refine q_iload_n (i := 2) (x := 49) dX3_codeOf_16 rfl 0 rfl ?_
  refine q_irem dX3_codeOf_17 (by decide) ?_
  refine q_iadd dX3_codeOf_18 ?_
  exact q_ireti (y := (((((p0 / 49) * 32) * 49) + (p1 * 49)) + (irm p0 49))) dX3_codeOf_19 rfl rfl
theorem kX3_codeOf  (p0 : Int32) (p1 : Int32)  (σ : qMem) : qMc wC mX3_codeOf (ρp σ) [.int p0, .int p1] σ (fX3_codeOf p0 p1) := qMc_of (moX3_codeOf) (Nat.le_of_ble_eq_true rfl) (aX3_codeOf p0 p1  σ)

theorem dX3_pick_0 : decode cX3_pick 0 = .ok (.bipush 49, 2) := by decide +kernel
theorem dX3_pick_2 : decode cX3_pick 2 = .ok (.istore_n 3, 1) := by decide +kernel
theorem dX3_pick_3 : decode cX3_pick 3 = .ok (.iload_n 1, 1) := by decide +kernel
theorem dX3_pick_4 : decode cX3_pick 4 = .ok (.istore 4, 2) := by decide +kernel
theorem dX3_pick_6 : decode cX3_pick 6 = .ok (.iconst 0, 1) := by decide +kernel
theorem dX3_pick_7 : decode cX3_pick 7 = .ok (.istore 5, 2) := by decide +kernel
theorem dX3_pick_9 : decode cX3_pick 9 = .ok (.aload_n 0, 1) := by decide +kernel
theorem dX3_pick_10 : decode cX3_pick 10 = .ok (.iload 5, 2) := by decide +kernel
theorem dX3_pick_12 : decode cX3_pick 12 = .ok (.iload_n 3, 1) := by decide +kernel
theorem dX3_pick_13 : decode cX3_pick 13 = .ok (.iconst (-1), 1) := by decide +kernel
theorem dX3_pick_14 : decode cX3_pick 14 = .ok (.invokevirtual 206, 3) := by decide +kernel
theorem dX3_pick_17 : decode cX3_pick 17 = .ok (.istore 6, 2) := by decide +kernel
theorem dX3_pick_19 : decode cX3_pick 19 = .ok (.iload 5, 2) := by decide +kernel
theorem dX3_pick_21 : decode cX3_pick 21 = .ok (.iload_n 3, 1) := by decide +kernel
theorem dX3_pick_22 : decode cX3_pick 22 = .ok (.iadd, 1) := by decide +kernel
theorem dX3_pick_23 : decode cX3_pick 23 = .ok (.sipush 1568, 3) := by decide +kernel
theorem dX3_pick_26 : decode cX3_pick 26 = .ok (.if_icmp .ge 36, 3) := by decide +kernel
theorem dX3_pick_29 : decode cX3_pick 29 = .ok (.iload 4, 2) := by decide +kernel
theorem dX3_pick_31 : decode cX3_pick 31 = .ok (.iload 6, 2) := by decide +kernel
theorem dX3_pick_33 : decode cX3_pick 33 = .ok (.if_icmp .lt 29, 3) := by decide +kernel
theorem dX3_pick_36 : decode cX3_pick 36 = .ok (.iload 4, 2) := by decide +kernel
theorem dX3_pick_38 : decode cX3_pick 38 = .ok (.iload 6, 2) := by decide +kernel
theorem dX3_pick_40 : decode cX3_pick 40 = .ok (.isub, 1) := by decide +kernel
theorem dX3_pick_41 : decode cX3_pick 41 = .ok (.istore 4, 2) := by decide +kernel
theorem dX3_pick_43 : decode cX3_pick 43 = .ok (.iload 5, 2) := by decide +kernel
theorem dX3_pick_45 : decode cX3_pick 45 = .ok (.iload_n 3, 1) := by decide +kernel
theorem dX3_pick_46 : decode cX3_pick 46 = .ok (.iadd, 1) := by decide +kernel
theorem dX3_pick_47 : decode cX3_pick 47 = .ok (.istore 5, 2) := by decide +kernel
theorem dX3_pick_49 : decode cX3_pick 49 = .ok (.aload_n 0, 1) := by decide +kernel
theorem dX3_pick_50 : decode cX3_pick 50 = .ok (.iload 5, 2) := by decide +kernel
theorem dX3_pick_52 : decode cX3_pick 52 = .ok (.iload_n 3, 1) := by decide +kernel
theorem dX3_pick_53 : decode cX3_pick 53 = .ok (.iconst (-1), 1) := by decide +kernel
theorem dX3_pick_54 : decode cX3_pick 54 = .ok (.invokevirtual 206, 3) := by decide +kernel
theorem dX3_pick_57 : decode cX3_pick 57 = .ok (.istore 6, 2) := by decide +kernel
theorem dX3_pick_59 : decode cX3_pick 59 = .ok (.goto (-40), 3) := by decide +kernel
theorem dX3_pick_62 : decode cX3_pick 62 = .ok (.iconst 0, 1) := by decide +kernel
theorem dX3_pick_63 : decode cX3_pick 63 = .ok (.istore 7, 2) := by decide +kernel
theorem dX3_pick_65 : decode cX3_pick 65 = .ok (.aload_n 0, 1) := by decide +kernel
theorem dX3_pick_66 : decode cX3_pick 66 = .ok (.iload 5, 2) := by decide +kernel
theorem dX3_pick_68 : decode cX3_pick 68 = .ok (.iload_n 3, 1) := by decide +kernel
theorem dX3_pick_69 : decode cX3_pick 69 = .ok (.iconst 1, 1) := by decide +kernel
theorem dX3_pick_70 : decode cX3_pick 70 = .ok (.invokevirtual 206, 3) := by decide +kernel
theorem dX3_pick_73 : decode cX3_pick 73 = .ok (.istore 6, 2) := by decide +kernel
theorem dX3_pick_75 : decode cX3_pick 75 = .ok (.iload 7, 2) := by decide +kernel
theorem dX3_pick_77 : decode cX3_pick 77 = .ok (.bipush 31, 2) := by decide +kernel
theorem dX3_pick_79 : decode cX3_pick 79 = .ok (.if_icmp .ge 36, 3) := by decide +kernel
theorem dX3_pick_82 : decode cX3_pick 82 = .ok (.iload 4, 2) := by decide +kernel
theorem dX3_pick_84 : decode cX3_pick 84 = .ok (.iload 6, 2) := by decide +kernel
theorem dX3_pick_86 : decode cX3_pick 86 = .ok (.if_icmp .lt 29, 3) := by decide +kernel
theorem dX3_pick_89 : decode cX3_pick 89 = .ok (.iload 4, 2) := by decide +kernel
theorem dX3_pick_91 : decode cX3_pick 91 = .ok (.iload 6, 2) := by decide +kernel
theorem dX3_pick_93 : decode cX3_pick 93 = .ok (.isub, 1) := by decide +kernel
theorem dX3_pick_94 : decode cX3_pick 94 = .ok (.istore 4, 2) := by decide +kernel
theorem dX3_pick_96 : decode cX3_pick 96 = .ok (.iinc 7 1, 3) := by decide +kernel
theorem dX3_pick_99 : decode cX3_pick 99 = .ok (.aload_n 0, 1) := by decide +kernel
theorem dX3_pick_100 : decode cX3_pick 100 = .ok (.iload 5, 2) := by decide +kernel
theorem dX3_pick_102 : decode cX3_pick 102 = .ok (.iload_n 3, 1) := by decide +kernel
theorem dX3_pick_103 : decode cX3_pick 103 = .ok (.iconst 1, 1) := by decide +kernel
theorem dX3_pick_104 : decode cX3_pick 104 = .ok (.iload 7, 2) := by decide +kernel
theorem dX3_pick_106 : decode cX3_pick 106 = .ok (.ishl, 1) := by decide +kernel
theorem dX3_pick_107 : decode cX3_pick 107 = .ok (.invokevirtual 206, 3) := by decide +kernel
theorem dX3_pick_110 : decode cX3_pick 110 = .ok (.istore 6, 2) := by decide +kernel
theorem dX3_pick_112 : decode cX3_pick 112 = .ok (.goto (-37), 3) := by decide +kernel
theorem dX3_pick_115 : decode cX3_pick 115 = .ok (.iload 5, 2) := by decide +kernel
theorem dX3_pick_117 : decode cX3_pick 117 = .ok (.istore 8, 2) := by decide +kernel
theorem dX3_pick_119 : decode cX3_pick 119 = .ok (.iload 8, 2) := by decide +kernel
theorem dX3_pick_121 : decode cX3_pick 121 = .ok (.iload 5, 2) := by decide +kernel
theorem dX3_pick_123 : decode cX3_pick 123 = .ok (.iload_n 3, 1) := by decide +kernel
theorem dX3_pick_124 : decode cX3_pick 124 = .ok (.iadd, 1) := by decide +kernel
theorem dX3_pick_125 : decode cX3_pick 125 = .ok (.iconst 1, 1) := by decide +kernel
theorem dX3_pick_126 : decode cX3_pick 126 = .ok (.isub, 1) := by decide +kernel
theorem dX3_pick_127 : decode cX3_pick 127 = .ok (.if_icmp .ge 43, 3) := by decide +kernel
theorem dX3_pick_130 : decode cX3_pick 130 = .ok (.iload 4, 2) := by decide +kernel
theorem dX3_pick_132 : decode cX3_pick 132 = .ok (.aload_n 0, 1) := by decide +kernel
theorem dX3_pick_133 : decode cX3_pick 133 = .ok (.getfield 35, 3) := by decide +kernel
theorem dX3_pick_136 : decode cX3_pick 136 = .ok (.iload 8, 2) := by decide +kernel
theorem dX3_pick_138 : decode cX3_pick 138 = .ok (.iaload, 1) := by decide +kernel
theorem dX3_pick_139 : decode cX3_pick 139 = .ok (.iload 7, 2) := by decide +kernel
theorem dX3_pick_141 : decode cX3_pick 141 = .ok (.iushr, 1) := by decide +kernel
theorem dX3_pick_142 : decode cX3_pick 142 = .ok (.iconst 1, 1) := by decide +kernel
theorem dX3_pick_143 : decode cX3_pick 143 = .ok (.iand, 1) := by decide +kernel
theorem dX3_pick_144 : decode cX3_pick 144 = .ok (.if_icmp .lt 26, 3) := by decide +kernel
theorem dX3_pick_147 : decode cX3_pick 147 = .ok (.iload 4, 2) := by decide +kernel
theorem dX3_pick_149 : decode cX3_pick 149 = .ok (.aload_n 0, 1) := by decide +kernel
theorem dX3_pick_150 : decode cX3_pick 150 = .ok (.getfield 35, 3) := by decide +kernel
theorem dX3_pick_153 : decode cX3_pick 153 = .ok (.iload 8, 2) := by decide +kernel
theorem dX3_pick_155 : decode cX3_pick 155 = .ok (.iaload, 1) := by decide +kernel
theorem dX3_pick_156 : decode cX3_pick 156 = .ok (.iload 7, 2) := by decide +kernel
theorem dX3_pick_158 : decode cX3_pick 158 = .ok (.iushr, 1) := by decide +kernel
theorem dX3_pick_159 : decode cX3_pick 159 = .ok (.iconst 1, 1) := by decide +kernel
theorem dX3_pick_160 : decode cX3_pick 160 = .ok (.iand, 1) := by decide +kernel
theorem dX3_pick_161 : decode cX3_pick 161 = .ok (.isub, 1) := by decide +kernel
theorem dX3_pick_162 : decode cX3_pick 162 = .ok (.istore 4, 2) := by decide +kernel
theorem dX3_pick_164 : decode cX3_pick 164 = .ok (.iinc 8 1, 3) := by decide +kernel
theorem dX3_pick_167 : decode cX3_pick 167 = .ok (.goto (-48), 3) := by decide +kernel
theorem dX3_pick_170 : decode cX3_pick 170 = .ok (.iload_n 2, 1) := by decide +kernel
theorem dX3_pick_171 : decode cX3_pick 171 = .ok (.tableswitch 44 0 2 #[25, 30, 33], 25) := by decide +kernel
theorem dX3_pick_196 : decode cX3_pick 196 = .ok (.iload 8, 2) := by decide +kernel
theorem dX3_pick_198 : decode cX3_pick 198 = .ok (.iload_n 3, 1) := by decide +kernel
theorem dX3_pick_199 : decode cX3_pick 199 = .ok (.idiv, 1) := by decide +kernel
theorem dX3_pick_200 : decode cX3_pick 200 = .ok (.ireturn, 1) := by decide +kernel
theorem dX3_pick_201 : decode cX3_pick 201 = .ok (.iload 7, 2) := by decide +kernel
theorem dX3_pick_203 : decode cX3_pick 203 = .ok (.ireturn, 1) := by decide +kernel
theorem dX3_pick_204 : decode cX3_pick 204 = .ok (.iload 8, 2) := by decide +kernel
theorem dX3_pick_206 : decode cX3_pick 206 = .ok (.bipush 7, 2) := by decide +kernel
theorem dX3_pick_208 : decode cX3_pick 208 = .ok (.idiv, 1) := by decide +kernel
theorem dX3_pick_209 : decode cX3_pick 209 = .ok (.bipush 7, 2) := by decide +kernel
theorem dX3_pick_211 : decode cX3_pick 211 = .ok (.irem, 1) := by decide +kernel
theorem dX3_pick_212 : decode cX3_pick 212 = .ok (.iconst 3, 1) := by decide +kernel
theorem dX3_pick_213 : decode cX3_pick 213 = .ok (.isub, 1) := by decide +kernel
theorem dX3_pick_214 : decode cX3_pick 214 = .ok (.ireturn, 1) := by decide +kernel
theorem dX3_pick_215 : decode cX3_pick 215 = .ok (.iload 8, 2) := by decide +kernel
theorem dX3_pick_217 : decode cX3_pick 217 = .ok (.bipush 7, 2) := by decide +kernel
theorem dX3_pick_219 : decode cX3_pick 219 = .ok (.irem, 1) := by decide +kernel
theorem dX3_pick_220 : decode cX3_pick 220 = .ok (.iconst 3, 1) := by decide +kernel
theorem dX3_pick_221 : decode cX3_pick 221 = .ok (.isub, 1) := by decide +kernel
theorem dX3_pick_222 : decode cX3_pick 222 = .ok (.ireturn, 1) := by decide +kernel
def fX3_pick_b170 (N : Nat) (v2 : Int32) (v3 : Int32) (v7 : Int32) (v8 : Int32) (σ : qMem) : Option Int32 :=
  (if v2 = 0 then (if v3 = 0 then none else (some (v8 / v3))) else (if v2 = 1 then (some v7) else (if v2 = 2 then (some ((irm (v8 / 7) 7) - 3)) else (some ((irm v8 7) - 3)))))
set_option maxRecDepth 20000 in
set_option maxHeartbeats 4000000 in
theorem aX3_pick_b170 (N : Nat) (σ : qMem) (v2 : Int32) (v3 : Int32) (v7 : Int32) (v8 : Int32) : qAt wC mX3_pick (ρp σ) 170 [(2, .int v2), (3, .int v3), (7, .int v7), (8, .int v8)] [] σ (fX3_pick_b170 N v2 v3 v7 v8 σ) := by
  unfold fX3_pick_b170
  refine q_iload_n (i := 2) (x := v2) dX3_pick_170 rfl 0 rfl ?_
  refine q_tsw (tgt := 196) 0 dX3_pick_171 (by decide) (by decide) rfl (by decide) ?_ (fun hs6 => ?_)
  · refine q_iload (i := 8) (x := v8) dX3_pick_196 3 rfl ?_
    refine q_iload_n (i := 3) (x := v3) dX3_pick_198 rfl 1 rfl ?_
    refine q_idivC dX3_pick_199 ?_
    exact q_ireti (y := (v8 / v3)) dX3_pick_200 rfl rfl
  refine q_tsw (tgt := 201) 1 dX3_pick_171 (by decide) (by decide) rfl (by decide) ?_ (fun hs7 => ?_)
  · refine q_iload (i := 7) (x := v7) dX3_pick_201 2 rfl ?_
    exact q_ireti (y := v7) dX3_pick_203 rfl rfl
  refine q_tsw (tgt := 204) 2 dX3_pick_171 (by decide) (by decide) rfl (by decide) ?_ (fun hs8 => ?_)
  · refine q_iload (i := 8) (x := v8) dX3_pick_204 3 rfl ?_
    refine q_bipush (v := 7) dX3_pick_206 (by decide) ?_
    refine q_idiv dX3_pick_208 (by decide) ?_
    refine q_bipush (v := 7) dX3_pick_209 (by decide) ?_
    refine q_irem dX3_pick_211 (by decide) ?_
    refine q_iconst (v := 3) dX3_pick_212 (by decide) ?_
    refine q_isub dX3_pick_213 ?_
    exact q_ireti (y := ((irm (v8 / 7) 7) - 3)) dX3_pick_214 rfl rfl
  refine q_tswD (tgt := 215) dX3_pick_171 (swout_3 hs6 hs7 hs8) (by decide) ?_
  refine q_iload (i := 8) (x := v8) dX3_pick_215 3 rfl ?_
  refine q_bipush (v := 7) dX3_pick_217 (by decide) ?_
  refine q_irem dX3_pick_219 (by decide) ?_
  refine q_iconst (v := 3) dX3_pick_220 (by decide) ?_
  refine q_isub dX3_pick_221 ?_
  exact q_ireti (y := ((irm v8 7) - 3)) dX3_pick_222 rfl rfl

def fX3_pick_s119 (N : Nat) (c119 : Int32 → Int32 → Int32 → Int32 → Int32 → Int32 → Option Int32) (v2 : Int32) (v3 : Int32) (v4 : Int32) (v5 : Int32) (v7 : Int32) (v8 : Int32) (σ : qMem) : Option Int32 :=
  (if ((v5 + v3) - 1) ≤ v8 then (fX3_pick_b170 N v2 v3 v7 v8 σ) else (if ck v8 1568 = true then (if v4 < ((ushr (gi σ 61 v8.toNatClampNeg) v7) &&& 1) then (fX3_pick_b170 N v2 v3 v7 v8 σ) else (if ck v8 1568 = true then (nmI (v4 - ((ushr (gi σ 61 v8.toNatClampNeg) v7) &&& 1)) fun x5 => (c119 v2 v3 x5 v5 v7 (v8 + 1))) else none)) else none))
set_option maxRecDepth 20000 in
set_option maxHeartbeats 4000000 in
theorem aX3_pick_s119 (N : Nat) (σ : qMem) (c119 : Int32 → Int32 → Int32 → Int32 → Int32 → Int32 → Option Int32) (hc119 : ∀ (v2 : Int32) (v3 : Int32) (v4 : Int32) (v5 : Int32) (v7 : Int32) (v8 : Int32) , qAt wC mX3_pick (ρp σ) 119 [(0, .ref 44), (2, .int v2), (3, .int v3), (4, .int v4), (5, .int v5), (7, .int v7), (8, .int v8)] [] σ (c119 v2 v3 v4 v5 v7 v8)) (v2 : Int32) (v3 : Int32) (v4 : Int32) (v5 : Int32) (v7 : Int32) (v8 : Int32) : qAt wC mX3_pick (ρp σ) 119 [(0, .ref 44), (2, .int v2), (3, .int v3), (4, .int v4), (5, .int v5), (7, .int v7), (8, .int v8)] [] σ (fX3_pick_s119 N c119 v2 v3 v4 v5 v7 v8 σ) := by
  unfold fX3_pick_s119
  refine q_iload (i := 8) (x := v8) dX3_pick_119 6 rfl ?_
  refine q_iload (i := 5) (x := v5) dX3_pick_121 4 rfl ?_
  refine q_iload_n (i := 3) (x := v3) dX3_pick_123 rfl 2 rfl ?_
  refine q_iadd dX3_pick_124 ?_
  refine q_iconst (v := 1) dX3_pick_125 (by decide) ?_
  refine q_isub dX3_pick_126 ?_
  refine q_icmp_ge (tgt := 170) dX3_pick_127 (by decide) ?_ ?_
  · exact q_sub [1, 2, 5, 6] rfl (aX3_pick_b170 N σ v2 v3 v7 v8)
  refine q_iload (i := 4) (x := v4) dX3_pick_130 3 rfl ?_
  refine q_aload_n (i := 0) (x := 44) dX3_pick_132 rfl 0 rfl ?_
  refine q_getr (t := 61) dX3_pick_133 foX3_35 zC_44 rfl ?_
  refine q_iload (i := 8) (x := v8) dX3_pick_136 6 rfl ?_
  refine q_iald dX3_pick_138 zC_61 ?_
  refine q_iload (i := 7) (x := v7) dX3_pick_139 5 rfl ?_
  refine q_iushr dX3_pick_141 ?_
  refine q_iconst (v := 1) dX3_pick_142 (by decide) ?_
  refine q_iand dX3_pick_143 ?_
  refine q_icmp_lt (tgt := 170) dX3_pick_144 (by decide) ?_ ?_
  · exact q_sub [1, 2, 5, 6] rfl (aX3_pick_b170 N σ v2 v3 v7 v8)
  refine q_iload (i := 4) (x := v4) dX3_pick_147 3 rfl ?_
  refine q_aload_n (i := 0) (x := 44) dX3_pick_149 rfl 0 rfl ?_
  refine q_getr (t := 61) dX3_pick_150 foX3_35 zC_44 rfl ?_
  refine q_iload (i := 8) (x := v8) dX3_pick_153 6 rfl ?_
  refine q_iald dX3_pick_155 zC_61 ?_
  refine q_iload (i := 7) (x := v7) dX3_pick_156 5 rfl ?_
  refine q_iushr dX3_pick_158 ?_
  refine q_iconst (v := 1) dX3_pick_159 (by decide) ?_
  refine q_iand dX3_pick_160 ?_
  refine q_isub dX3_pick_161 ?_
  refine q_nmI (fun x5 => ?_)
  refine q_istore (i := 4) (L' := [(4, .int x5), (0, .ref 44), (2, .int v2), (3, .int v3), (5, .int v5), (7, .int v7), (8, .int v8)]) dX3_pick_162 (Nat.le_of_ble_eq_true rfl) rfl ?_
  refine q_iinc (i := 8) (x := v8) (v := (v8 + 1)) (L' := [(8, .int (v8 + 1)), (4, .int x5), (0, .ref 44), (2, .int v2), (3, .int v3), (5, .int v5), (7, .int v7)]) dX3_pick_164 6 rfl (q_cst v8 (by decide)) (Nat.le_of_ble_eq_true rfl) rfl ?_
  refine q_goto (tgt := 119) dX3_pick_167 (by decide) ?_
  exact q_sub [2, 3, 4, 1, 5, 6, 0] rfl (hc119 v2 v3 x5 v5 v7 (v8 + 1))
def fX3_pick_l119 (N : Nat) (σ : qMem) : Nat → Int32 → Int32 → Int32 → Int32 → Int32 → Int32 → Option Int32
  | 0 => fun _ _ _ _ _ _ => none
  | n + 1 => fun v2 v3 v4 v5 v7 v8 => fX3_pick_s119 N (fX3_pick_l119 N σ n) v2 v3 v4 v5 v7 v8 σ
theorem aX3_pick_l119 (N : Nat) (σ : qMem) : ∀ (n : Nat) (v2 : Int32) (v3 : Int32) (v4 : Int32) (v5 : Int32) (v7 : Int32) (v8 : Int32), qAt wC mX3_pick (ρp σ) 119 [(0, .ref 44), (2, .int v2), (3, .int v3), (4, .int v4), (5, .int v5), (7, .int v7), (8, .int v8)] [] σ (fX3_pick_l119 N σ n v2 v3 v4 v5 v7 v8) := by
  intro n
  induction n with
  | zero => intro v2 v3 v4 v5 v7 v8; exact q_none
  | succ n ih => intro v2 v3 v4 v5 v7 v8; exact aX3_pick_s119 N σ (fX3_pick_l119 N σ n) ih v2 v3 v4 v5 v7 v8

def fX3_pick_b115 (N : Nat) (v2 : Int32) (v3 : Int32) (v4 : Int32) (v5 : Int32) (v7 : Int32) (σ : qMem) : Option Int32 :=
  (fX3_pick_l119 N σ N v2 v3 v4 v5 v7 v5)
set_option maxRecDepth 20000 in
set_option maxHeartbeats 4000000 in
theorem aX3_pick_b115 (N : Nat) (σ : qMem) (v2 : Int32) (v3 : Int32) (v4 : Int32) (v5 : Int32) (v7 : Int32) : qAt wC mX3_pick (ρp σ) 115 [(0, .ref 44), (2, .int v2), (3, .int v3), (4, .int v4), (5, .int v5), (7, .int v7)] [] σ (fX3_pick_b115 N v2 v3 v4 v5 v7 σ) := by
  unfold fX3_pick_b115
  refine q_iload (i := 5) (x := v5) dX3_pick_115 4 rfl ?_
  refine q_istore (i := 8) (L' := [(8, .int v5), (0, .ref 44), (2, .int v2), (3, .int v3), (4, .int v4), (5, .int v5), (7, .int v7)]) dX3_pick_117 (Nat.le_of_ble_eq_true rfl) rfl ?_
  exact q_sub [1, 2, 3, 4, 5, 6, 0] rfl (aX3_pick_l119 N σ N v2 v3 v4 v5 v7 v5)

def fX3_pick_s75 (N : Nat) (c75 : Int32 → Int32 → Int32 → Int32 → Int32 → Int32 → Option Int32) (v2 : Int32) (v3 : Int32) (v4 : Int32) (v5 : Int32) (v6 : Int32) (v7 : Int32) (σ : qMem) : Option Int32 :=
  (if 31 ≤ v7 then (fX3_pick_b115 N v2 v3 v4 v5 v7 σ) else (if v4 < v6 then (fX3_pick_b115 N v2 v3 v4 v5 v7 σ) else ((fX3_countFrom N v5 v3 ((1 : Int32) <<< ((v7 + 1) &&& 31)) σ).bind fun y4 => (c75 v2 v3 (v4 - v6) v5 y4 (v7 + 1)))))
set_option maxRecDepth 20000 in
set_option maxHeartbeats 4000000 in
theorem aX3_pick_s75 (N : Nat) (σ : qMem) (c75 : Int32 → Int32 → Int32 → Int32 → Int32 → Int32 → Option Int32) (hc75 : ∀ (v2 : Int32) (v3 : Int32) (v4 : Int32) (v5 : Int32) (v6 : Int32) (v7 : Int32) , qAt wC mX3_pick (ρp σ) 75 [(0, .ref 44), (2, .int v2), (3, .int v3), (4, .int v4), (5, .int v5), (6, .int v6), (7, .int v7)] [] σ (c75 v2 v3 v4 v5 v6 v7)) (v2 : Int32) (v3 : Int32) (v4 : Int32) (v5 : Int32) (v6 : Int32) (v7 : Int32) : qAt wC mX3_pick (ρp σ) 75 [(0, .ref 44), (2, .int v2), (3, .int v3), (4, .int v4), (5, .int v5), (6, .int v6), (7, .int v7)] [] σ (fX3_pick_s75 N c75 v2 v3 v4 v5 v6 v7 σ) := by
  unfold fX3_pick_s75
  refine q_iload (i := 7) (x := v7) dX3_pick_75 6 rfl ?_
  refine q_bipush (v := 31) dX3_pick_77 (by decide) ?_
  refine q_icmp_ge (tgt := 115) dX3_pick_79 (by decide) ?_ ?_
  · exact q_sub [0, 1, 2, 3, 4, 6] rfl (aX3_pick_b115 N σ v2 v3 v4 v5 v7)
  refine q_iload (i := 4) (x := v4) dX3_pick_82 3 rfl ?_
  refine q_iload (i := 6) (x := v6) dX3_pick_84 5 rfl ?_
  refine q_icmp_lt (tgt := 115) dX3_pick_86 (by decide) ?_ ?_
  · exact q_sub [0, 1, 2, 3, 4, 6] rfl (aX3_pick_b115 N σ v2 v3 v4 v5 v7)
  refine q_iload (i := 4) (x := v4) dX3_pick_89 3 rfl ?_
  refine q_iload (i := 6) (x := v6) dX3_pick_91 5 rfl ?_
  refine q_isub dX3_pick_93 ?_
  refine q_istore (i := 4) (L' := [(4, .int (v4 - v6)), (0, .ref 44), (2, .int v2), (3, .int v3), (5, .int v5), (6, .int v6), (7, .int v7)]) dX3_pick_94 (Nat.le_of_ble_eq_true rfl) rfl ?_
  refine q_iinc (i := 7) (x := v7) (v := (v7 + 1)) (L' := [(7, .int (v7 + 1)), (4, .int (v4 - v6)), (0, .ref 44), (2, .int v2), (3, .int v3), (5, .int v5), (6, .int v6)]) dX3_pick_96 6 rfl (q_cst v7 (by decide)) (Nat.le_of_ble_eq_true rfl) rfl ?_
  refine q_aload_n (i := 0) (x := 44) dX3_pick_99 rfl 2 rfl ?_
  refine q_iload (i := 5) (x := v5) dX3_pick_100 5 rfl ?_
  refine q_iload_n (i := 3) (x := v3) dX3_pick_102 rfl 4 rfl ?_
  refine q_iconst (v := 1) dX3_pick_103 (by decide) ?_
  refine q_iload (i := 7) (x := (v7 + 1)) dX3_pick_104 0 rfl ?_
  refine q_ishl dX3_pick_106 ?_
  refine q_cVp mX3_countFrom [.int v5, .int v3, .int ((1 : Int32) <<< ((v7 + 1) &&& 31))] (st := []) dX3_pick_107 (svX3_206) ⟨Nat.le_of_ble_eq_true rfl, Nat.le_of_ble_eq_true rfl⟩ zC_44 rfl rfl rfl (Nat.le_of_ble_eq_true rfl) (kX3_countFrom N v5 v3 ((1 : Int32) <<< ((v7 + 1) &&& 31)) σ) (fun y4 => ?_)
  refine q_istore (i := 6) (L' := [(6, .int y4), (7, .int (v7 + 1)), (4, .int (v4 - v6)), (0, .ref 44), (2, .int v2), (3, .int v3), (5, .int v5)]) dX3_pick_110 (Nat.le_of_ble_eq_true rfl) rfl ?_
  refine q_goto (tgt := 75) dX3_pick_112 (by decide) ?_
  exact q_sub [3, 4, 5, 2, 6, 0, 1] rfl (hc75 v2 v3 (v4 - v6) v5 y4 (v7 + 1))
def fX3_pick_l75 (N : Nat) (σ : qMem) : Nat → Int32 → Int32 → Int32 → Int32 → Int32 → Int32 → Option Int32
  | 0 => fun _ _ _ _ _ _ => none
  | n + 1 => fun v2 v3 v4 v5 v6 v7 => fX3_pick_s75 N (fX3_pick_l75 N σ n) v2 v3 v4 v5 v6 v7 σ
theorem aX3_pick_l75 (N : Nat) (σ : qMem) : ∀ (n : Nat) (v2 : Int32) (v3 : Int32) (v4 : Int32) (v5 : Int32) (v6 : Int32) (v7 : Int32), qAt wC mX3_pick (ρp σ) 75 [(0, .ref 44), (2, .int v2), (3, .int v3), (4, .int v4), (5, .int v5), (6, .int v6), (7, .int v7)] [] σ (fX3_pick_l75 N σ n v2 v3 v4 v5 v6 v7) := by
  intro n
  induction n with
  | zero => intro v2 v3 v4 v5 v6 v7; exact q_none
  | succ n ih => intro v2 v3 v4 v5 v6 v7; exact aX3_pick_s75 N σ (fX3_pick_l75 N σ n) ih v2 v3 v4 v5 v6 v7

def fX3_pick_b62 (N : Nat) (v2 : Int32) (v3 : Int32) (v4 : Int32) (v5 : Int32) (σ : qMem) : Option Int32 :=
  ((fX3_countFrom N v5 v3 1 σ).bind fun y3 => (fX3_pick_l75 N σ N v2 v3 v4 v5 y3 0))
set_option maxRecDepth 20000 in
set_option maxHeartbeats 4000000 in
theorem aX3_pick_b62 (N : Nat) (σ : qMem) (v2 : Int32) (v3 : Int32) (v4 : Int32) (v5 : Int32) : qAt wC mX3_pick (ρp σ) 62 [(0, .ref 44), (2, .int v2), (3, .int v3), (4, .int v4), (5, .int v5)] [] σ (fX3_pick_b62 N v2 v3 v4 v5 σ) := by
  unfold fX3_pick_b62
  refine q_iconst (v := 0) dX3_pick_62 (by decide) ?_
  refine q_istore (i := 7) (L' := [(7, .int 0), (0, .ref 44), (2, .int v2), (3, .int v3), (4, .int v4), (5, .int v5)]) dX3_pick_63 (Nat.le_of_ble_eq_true rfl) rfl ?_
  refine q_aload_n (i := 0) (x := 44) dX3_pick_65 rfl 1 rfl ?_
  refine q_iload (i := 5) (x := v5) dX3_pick_66 5 rfl ?_
  refine q_iload_n (i := 3) (x := v3) dX3_pick_68 rfl 3 rfl ?_
  refine q_iconst (v := 1) dX3_pick_69 (by decide) ?_
  refine q_cVp mX3_countFrom [.int v5, .int v3, .int 1] (st := []) dX3_pick_70 (svX3_206) ⟨Nat.le_of_ble_eq_true rfl, Nat.le_of_ble_eq_true rfl⟩ zC_44 rfl rfl rfl (Nat.le_of_ble_eq_true rfl) (kX3_countFrom N v5 v3 1 σ) (fun y3 => ?_)
  refine q_istore (i := 6) (L' := [(6, .int y3), (7, .int 0), (0, .ref 44), (2, .int v2), (3, .int v3), (4, .int v4), (5, .int v5)]) dX3_pick_73 (Nat.le_of_ble_eq_true rfl) rfl ?_
  exact q_sub [2, 3, 4, 5, 6, 0, 1] rfl (aX3_pick_l75 N σ N v2 v3 v4 v5 y3 0)

def fX3_pick_s19 (N : Nat) (c19 : Int32 → Int32 → Int32 → Int32 → Int32 → Option Int32) (v2 : Int32) (v3 : Int32) (v4 : Int32) (v5 : Int32) (v6 : Int32) (σ : qMem) : Option Int32 :=
  (if 1568 ≤ (v5 + v3) then (fX3_pick_b62 N v2 v3 v4 v5 σ) else (if v4 < v6 then (fX3_pick_b62 N v2 v3 v4 v5 σ) else ((fX3_countFrom N (v5 + v3) v3 (-1) σ).bind fun y2 => (c19 v2 v3 (v4 - v6) (v5 + v3) y2))))
set_option maxRecDepth 20000 in
set_option maxHeartbeats 4000000 in
theorem aX3_pick_s19 (N : Nat) (σ : qMem) (c19 : Int32 → Int32 → Int32 → Int32 → Int32 → Option Int32) (hc19 : ∀ (v2 : Int32) (v3 : Int32) (v4 : Int32) (v5 : Int32) (v6 : Int32) , qAt wC mX3_pick (ρp σ) 19 [(0, .ref 44), (2, .int v2), (3, .int v3), (4, .int v4), (5, .int v5), (6, .int v6)] [] σ (c19 v2 v3 v4 v5 v6)) (v2 : Int32) (v3 : Int32) (v4 : Int32) (v5 : Int32) (v6 : Int32) : qAt wC mX3_pick (ρp σ) 19 [(0, .ref 44), (2, .int v2), (3, .int v3), (4, .int v4), (5, .int v5), (6, .int v6)] [] σ (fX3_pick_s19 N c19 v2 v3 v4 v5 v6 σ) := by
  unfold fX3_pick_s19
  refine q_iload (i := 5) (x := v5) dX3_pick_19 4 rfl ?_
  refine q_iload_n (i := 3) (x := v3) dX3_pick_21 rfl 2 rfl ?_
  refine q_iadd dX3_pick_22 ?_
  refine q_sipush (v := 1568) dX3_pick_23 (by decide) ?_
  refine q_icmp_ge (tgt := 62) dX3_pick_26 (by decide) ?_ ?_
  · exact q_sub [0, 1, 2, 3, 4] rfl (aX3_pick_b62 N σ v2 v3 v4 v5)
  refine q_iload (i := 4) (x := v4) dX3_pick_29 3 rfl ?_
  refine q_iload (i := 6) (x := v6) dX3_pick_31 5 rfl ?_
  refine q_icmp_lt (tgt := 62) dX3_pick_33 (by decide) ?_ ?_
  · exact q_sub [0, 1, 2, 3, 4] rfl (aX3_pick_b62 N σ v2 v3 v4 v5)
  refine q_iload (i := 4) (x := v4) dX3_pick_36 3 rfl ?_
  refine q_iload (i := 6) (x := v6) dX3_pick_38 5 rfl ?_
  refine q_isub dX3_pick_40 ?_
  refine q_istore (i := 4) (L' := [(4, .int (v4 - v6)), (0, .ref 44), (2, .int v2), (3, .int v3), (5, .int v5), (6, .int v6)]) dX3_pick_41 (Nat.le_of_ble_eq_true rfl) rfl ?_
  refine q_iload (i := 5) (x := v5) dX3_pick_43 4 rfl ?_
  refine q_iload_n (i := 3) (x := v3) dX3_pick_45 rfl 3 rfl ?_
  refine q_iadd dX3_pick_46 ?_
  refine q_istore (i := 5) (L' := [(5, .int (v5 + v3)), (4, .int (v4 - v6)), (0, .ref 44), (2, .int v2), (3, .int v3), (6, .int v6)]) dX3_pick_47 (Nat.le_of_ble_eq_true rfl) rfl ?_
  refine q_aload_n (i := 0) (x := 44) dX3_pick_49 rfl 2 rfl ?_
  refine q_iload (i := 5) (x := (v5 + v3)) dX3_pick_50 0 rfl ?_
  refine q_iload_n (i := 3) (x := v3) dX3_pick_52 rfl 4 rfl ?_
  refine q_iconst (v := (-1)) dX3_pick_53 (by decide) ?_
  refine q_cVp mX3_countFrom [.int (v5 + v3), .int v3, .int (-1)] (st := []) dX3_pick_54 (svX3_206) ⟨Nat.le_of_ble_eq_true rfl, Nat.le_of_ble_eq_true rfl⟩ zC_44 rfl rfl rfl (Nat.le_of_ble_eq_true rfl) (kX3_countFrom N (v5 + v3) v3 (-1) σ) (fun y2 => ?_)
  refine q_istore (i := 6) (L' := [(6, .int y2), (5, .int (v5 + v3)), (4, .int (v4 - v6)), (0, .ref 44), (2, .int v2), (3, .int v3)]) dX3_pick_57 (Nat.le_of_ble_eq_true rfl) rfl ?_
  refine q_goto (tgt := 19) dX3_pick_59 (by decide) ?_
  exact q_sub [3, 4, 5, 2, 1, 0] rfl (hc19 v2 v3 (v4 - v6) (v5 + v3) y2)
def fX3_pick_l19 (N : Nat) (σ : qMem) : Nat → Int32 → Int32 → Int32 → Int32 → Int32 → Option Int32
  | 0 => fun _ _ _ _ _ => none
  | n + 1 => fun v2 v3 v4 v5 v6 => fX3_pick_s19 N (fX3_pick_l19 N σ n) v2 v3 v4 v5 v6 σ
theorem aX3_pick_l19 (N : Nat) (σ : qMem) : ∀ (n : Nat) (v2 : Int32) (v3 : Int32) (v4 : Int32) (v5 : Int32) (v6 : Int32), qAt wC mX3_pick (ρp σ) 19 [(0, .ref 44), (2, .int v2), (3, .int v3), (4, .int v4), (5, .int v5), (6, .int v6)] [] σ (fX3_pick_l19 N σ n v2 v3 v4 v5 v6) := by
  intro n
  induction n with
  | zero => intro v2 v3 v4 v5 v6; exact q_none
  | succ n ih => intro v2 v3 v4 v5 v6; exact aX3_pick_s19 N σ (fX3_pick_l19 N σ n) ih v2 v3 v4 v5 v6

def fX3_pick (N : Nat) (p1 : Int32) (p2 : Int32) (σ : qMem) : Option Int32 :=
  ((fX3_countFrom N 0 49 (-1) σ).bind fun y1 => (fX3_pick_l19 N σ N p2 49 p1 0 y1))
set_option maxRecDepth 20000 in
set_option maxHeartbeats 4000000 in
theorem aX3_pick  (N : Nat) (p1 : Int32) (p2 : Int32)  (σ : qMem) : qAt wC mX3_pick (ρp σ) 0 [(0, .ref 44), (1, .int p1), (2, .int p2)] [] σ (fX3_pick N p1 p2 σ) := by
  unfold fX3_pick
  refine q_bipush (v := 49) dX3_pick_0 (by decide) ?_
  refine q_istore_n (i := 3) (L' := [(3, .int 49), (0, .ref 44), (1, .int p1), (2, .int p2)]) dX3_pick_2 rfl (Nat.le_of_ble_eq_true rfl) rfl ?_
  refine q_iload_n (i := 1) (x := p1) dX3_pick_3 rfl 2 rfl ?_
  refine q_istore (i := 4) (L' := [(4, .int p1), (3, .int 49), (0, .ref 44), (1, .int p1), (2, .int p2)]) dX3_pick_4 (Nat.le_of_ble_eq_true rfl) rfl ?_
  refine q_iconst (v := 0) dX3_pick_6 (by decide) ?_
  refine q_istore (i := 5) (L' := [(5, .int 0), (4, .int p1), (3, .int 49), (0, .ref 44), (1, .int p1), (2, .int p2)]) dX3_pick_7 (Nat.le_of_ble_eq_true rfl) rfl ?_
  refine q_aload_n (i := 0) (x := 44) dX3_pick_9 rfl 3 rfl ?_
  refine q_iload (i := 5) (x := 0) dX3_pick_10 0 rfl ?_
  refine q_iload_n (i := 3) (x := 49) dX3_pick_12 rfl 2 rfl ?_
  refine q_iconst (v := (-1)) dX3_pick_13 (by decide) ?_
  refine q_cVp mX3_countFrom [.int 0, .int 49, .int (-1)] (st := []) dX3_pick_14 (svX3_206) ⟨Nat.le_of_ble_eq_true rfl, Nat.le_of_ble_eq_true rfl⟩ zC_44 rfl rfl rfl (Nat.le_of_ble_eq_true rfl) (kX3_countFrom N 0 49 (-1) σ) (fun y1 => ?_)
  refine q_istore (i := 6) (L' := [(6, .int y1), (5, .int 0), (4, .int p1), (3, .int 49), (0, .ref 44), (1, .int p1), (2, .int p2)]) dX3_pick_17 (Nat.le_of_ble_eq_true rfl) rfl ?_
  exact q_sub [4, 6, 3, 2, 1, 0] rfl (aX3_pick_l19 N σ N p2 49 p1 0 y1)
theorem kX3_pick  (N : Nat) (p1 : Int32) (p2 : Int32)  (σ : qMem) : qMc wC mX3_pick (ρp σ) [.ref 44, .int p1, .int p2] σ (fX3_pick N p1 p2 σ) := qMc_of (moX3_pick) (Nat.le_of_ble_eq_true rfl) (aX3_pick N p1 p2  σ)

theorem dX3_highestBit_0 : decode cX3_highestBit 0 = .ok (.iload_n 0, 1) := by decide +kernel
theorem dX3_highestBit_1 : decode cX3_highestBit 1 = .ok (.istore_n 1, 1) := by decide +kernel
theorem dX3_highestBit_2 : decode cX3_highestBit 2 = .ok (.iconst 1, 1) := by decide +kernel
theorem dX3_highestBit_3 : decode cX3_highestBit 3 = .ok (.istore_n 2, 1) := by decide +kernel
theorem dX3_highestBit_4 : decode cX3_highestBit 4 = .ok (.iload_n 2, 1) := by decide +kernel
theorem dX3_highestBit_5 : decode cX3_highestBit 5 = .ok (.bipush 32, 2) := by decide +kernel
theorem dX3_highestBit_7 : decode cX3_highestBit 7 = .ok (.if_icmp .ge 16, 3) := by decide +kernel
theorem dX3_highestBit_10 : decode cX3_highestBit 10 = .ok (.iload_n 1, 1) := by decide +kernel
theorem dX3_highestBit_11 : decode cX3_highestBit 11 = .ok (.iload_n 1, 1) := by decide +kernel
theorem dX3_highestBit_12 : decode cX3_highestBit 12 = .ok (.iload_n 2, 1) := by decide +kernel
theorem dX3_highestBit_13 : decode cX3_highestBit 13 = .ok (.iushr, 1) := by decide +kernel
theorem dX3_highestBit_14 : decode cX3_highestBit 14 = .ok (.ior, 1) := by decide +kernel
theorem dX3_highestBit_15 : decode cX3_highestBit 15 = .ok (.istore_n 1, 1) := by decide +kernel
theorem dX3_highestBit_16 : decode cX3_highestBit 16 = .ok (.iload_n 2, 1) := by decide +kernel
theorem dX3_highestBit_17 : decode cX3_highestBit 17 = .ok (.iconst 2, 1) := by decide +kernel
theorem dX3_highestBit_18 : decode cX3_highestBit 18 = .ok (.imul, 1) := by decide +kernel
theorem dX3_highestBit_19 : decode cX3_highestBit 19 = .ok (.istore_n 2, 1) := by decide +kernel
theorem dX3_highestBit_20 : decode cX3_highestBit 20 = .ok (.goto (-16), 3) := by decide +kernel
theorem dX3_highestBit_23 : decode cX3_highestBit 23 = .ok (.iload_n 1, 1) := by decide +kernel
theorem dX3_highestBit_24 : decode cX3_highestBit 24 = .ok (.invokestatic 224, 3) := by decide +kernel
theorem dX3_highestBit_27 : decode cX3_highestBit 27 = .ok (.iconst 1, 1) := by decide +kernel
theorem dX3_highestBit_28 : decode cX3_highestBit 28 = .ok (.isub, 1) := by decide +kernel
theorem dX3_highestBit_29 : decode cX3_highestBit 29 = .ok (.ireturn, 1) := by decide +kernel
def fX3_highestBit_s4 (N : Nat) (c4 : Int32 → Int32 → Option Int32) (v1 : Int32) (v2 : Int32) : Option Int32 :=
  (if 32 ≤ v2 then ((fJ6_bitCount_0f7a4 v1).bind fun y1 => (some (y1 - 1))) else (c4 (v1 ||| (ushr v1 v2)) (v2 * 2)))
set_option maxRecDepth 20000 in
set_option maxHeartbeats 4000000 in
theorem aX3_highestBit_s4 (N : Nat) (σ : qMem) (c4 : Int32 → Int32 → Option Int32) (hc4 : ∀ (v1 : Int32) (v2 : Int32) , qAt wC mX3_highestBit (ρp σ) 4 [(1, .int v1), (2, .int v2)] [] σ (c4 v1 v2)) (v1 : Int32) (v2 : Int32) : qAt wC mX3_highestBit (ρp σ) 4 [(1, .int v1), (2, .int v2)] [] σ (fX3_highestBit_s4 N c4 v1 v2) := by
  unfold fX3_highestBit_s4
  refine q_iload_n (i := 2) (x := v2) dX3_highestBit_4 rfl 1 rfl ?_
  refine q_bipush (v := 32) dX3_highestBit_5 (by decide) ?_
  refine q_icmp_ge (tgt := 23) dX3_highestBit_7 (by decide) ?_ ?_
  · refine q_iload_n (i := 1) (x := v1) dX3_highestBit_23 rfl 0 rfl ?_
    refine q_cSp mJ6_bitCount_0f7a4 [.int v1] (st := []) dX3_highestBit_24 (ssX3_224) ⟨Nat.le_of_ble_eq_true rfl, Nat.le_of_ble_eq_true rfl⟩ rfl rfl (Nat.le_of_ble_eq_true rfl) (kJ6_bitCount_0f7a4 v1 σ) (fun y1 => ?_)
    refine q_iconst (v := 1) dX3_highestBit_27 (by decide) ?_
    refine q_isub dX3_highestBit_28 ?_
    exact q_ireti (y := (y1 - 1)) dX3_highestBit_29 rfl rfl
  refine q_iload_n (i := 1) (x := v1) dX3_highestBit_10 rfl 0 rfl ?_
  refine q_iload_n (i := 1) (x := v1) dX3_highestBit_11 rfl 0 rfl ?_
  refine q_iload_n (i := 2) (x := v2) dX3_highestBit_12 rfl 1 rfl ?_
  refine q_iushr dX3_highestBit_13 ?_
  refine q_ior dX3_highestBit_14 ?_
  refine q_istore_n (i := 1) (L' := [(1, .int (v1 ||| (ushr v1 v2))), (2, .int v2)]) dX3_highestBit_15 rfl (Nat.le_of_ble_eq_true rfl) rfl ?_
  refine q_iload_n (i := 2) (x := v2) dX3_highestBit_16 rfl 1 rfl ?_
  refine q_iconst (v := 2) dX3_highestBit_17 (by decide) ?_
  refine q_imul dX3_highestBit_18 ?_
  refine q_istore_n (i := 2) (L' := [(2, .int (v2 * 2)), (1, .int (v1 ||| (ushr v1 v2)))]) dX3_highestBit_19 rfl (Nat.le_of_ble_eq_true rfl) rfl ?_
  refine q_goto (tgt := 4) dX3_highestBit_20 (by decide) ?_
  exact q_sub [1, 0] rfl (hc4 (v1 ||| (ushr v1 v2)) (v2 * 2))
def fX3_highestBit_l4 (N : Nat) : Nat → Int32 → Int32 → Option Int32
  | 0 => fun _ _ => none
  | n + 1 => fun v1 v2 => fX3_highestBit_s4 N (fX3_highestBit_l4 N n) v1 v2
theorem aX3_highestBit_l4 (N : Nat) (σ : qMem) : ∀ (n : Nat) (v1 : Int32) (v2 : Int32), qAt wC mX3_highestBit (ρp σ) 4 [(1, .int v1), (2, .int v2)] [] σ (fX3_highestBit_l4 N n v1 v2) := by
  intro n
  induction n with
  | zero => intro v1 v2; exact q_none
  | succ n ih => intro v1 v2; exact aX3_highestBit_s4 N σ (fX3_highestBit_l4 N n) ih v1 v2

def fX3_highestBit (N : Nat) (p0 : Int32) : Option Int32 :=
  (fX3_highestBit_l4 N N p0 1)
set_option maxRecDepth 20000 in
set_option maxHeartbeats 4000000 in
theorem aX3_highestBit  (N : Nat) (p0 : Int32)  (σ : qMem) : qAt wC mX3_highestBit (ρp σ) 0 [(0, .int p0)] [] σ (fX3_highestBit N p0) := by
  unfold fX3_highestBit
  refine q_iload_n (i := 0) (x := p0) dX3_highestBit_0 rfl 0 rfl ?_
  refine q_istore_n (i := 1) (L' := [(1, .int p0), (0, .int p0)]) dX3_highestBit_1 rfl (Nat.le_of_ble_eq_true rfl) rfl ?_
  refine q_iconst (v := 1) dX3_highestBit_2 (by decide) ?_
  refine q_istore_n (i := 2) (L' := [(2, .int 1), (1, .int p0), (0, .int p0)]) dX3_highestBit_3 rfl (Nat.le_of_ble_eq_true rfl) rfl ?_
  exact q_sub [1, 0] rfl (aX3_highestBit_l4 N σ N p0 1)
theorem kX3_highestBit  (N : Nat) (p0 : Int32)  (σ : qMem) : qMc wC mX3_highestBit (ρp σ) [.int p0] σ (fX3_highestBit N p0) := qMc_of (moX3_highestBit) (Nat.le_of_ble_eq_true rfl) (aX3_highestBit N p0  σ)

theorem dX3_lowestBit_0 : decode cX3_lowestBit 0 = .ok (.iload_n 0, 1) := by decide +kernel
theorem dX3_lowestBit_1 : decode cX3_lowestBit 1 = .ok (.iload_n 0, 1) := by decide +kernel
theorem dX3_lowestBit_2 : decode cX3_lowestBit 2 = .ok (.ineg, 1) := by decide +kernel
theorem dX3_lowestBit_3 : decode cX3_lowestBit 3 = .ok (.iand, 1) := by decide +kernel
theorem dX3_lowestBit_4 : decode cX3_lowestBit 4 = .ok (.iconst 1, 1) := by decide +kernel
theorem dX3_lowestBit_5 : decode cX3_lowestBit 5 = .ok (.isub, 1) := by decide +kernel
theorem dX3_lowestBit_6 : decode cX3_lowestBit 6 = .ok (.invokestatic 224, 3) := by decide +kernel
theorem dX3_lowestBit_9 : decode cX3_lowestBit 9 = .ok (.ireturn, 1) := by decide +kernel

def fX3_lowestBit (p0 : Int32) : Option Int32 :=
  ((fJ6_bitCount_0f7a4 ((p0 &&& (-p0)) - 1)).bind fun y1 => (some y1))
set_option maxRecDepth 20000 in
set_option maxHeartbeats 4000000 in
theorem aX3_lowestBit  (p0 : Int32)  (σ : qMem) : qAt wC mX3_lowestBit (ρp σ) 0 [(0, .int p0)] [] σ (fX3_lowestBit p0) := by
  unfold fX3_lowestBit
  refine q_iload_n (i := 0) (x := p0) dX3_lowestBit_0 rfl 0 rfl ?_
  refine q_iload_n (i := 0) (x := p0) dX3_lowestBit_1 rfl 0 rfl ?_
  refine q_ineg dX3_lowestBit_2 ?_
  refine q_iand dX3_lowestBit_3 ?_
  refine q_iconst (v := 1) dX3_lowestBit_4 (by decide) ?_
  refine q_isub dX3_lowestBit_5 ?_
  refine q_cSp mJ6_bitCount_0f7a4 [.int ((p0 &&& (-p0)) - 1)] (st := []) dX3_lowestBit_6 (ssX3_224) ⟨Nat.le_of_ble_eq_true rfl, Nat.le_of_ble_eq_true rfl⟩ rfl rfl (Nat.le_of_ble_eq_true rfl) (kJ6_bitCount_0f7a4 ((p0 &&& (-p0)) - 1) σ) (fun y1 => ?_)
  exact q_ireti (y := y1) dX3_lowestBit_9 rfl rfl
theorem kX3_lowestBit  (p0 : Int32)  (σ : qMem) : qMc wC mX3_lowestBit (ρp σ) [.int p0] σ (fX3_lowestBit p0) := qMc_of (moX3_lowestBit) (Nat.le_of_ble_eq_true rfl) (aX3_lowestBit p0  σ)

theorem dX3_edge_0 : decode cX3_edge 0 = .ok (.iload_n 2, 1) := by decide +kernel
theorem dX3_edge_1 : decode cX3_edge 1 = .ok (.iconst 2, 1) := by decide +kernel
theorem dX3_edge_2 : decode cX3_edge 2 = .ok (.irem, 1) := by decide +kernel
theorem dX3_edge_3 : decode cX3_edge 3 = .ok (.iconst 1, 1) := by decide +kernel
theorem dX3_edge_4 : decode cX3_edge 4 = .ok (.if_icmp .ne 7, 3) := by decide +kernel
theorem dX3_edge_7 : decode cX3_edge 7 = .ok (.iconst 1, 1) := by decide +kernel
theorem dX3_edge_8 : decode cX3_edge 8 = .ok (.goto 4, 3) := by decide +kernel
theorem dX3_edge_11 : decode cX3_edge 11 = .ok (.iconst 0, 1) := by decide +kernel
theorem dX3_edge_12 : decode cX3_edge 12 = .ok (.istore_n 3, 1) := by decide +kernel
theorem dX3_edge_13 : decode cX3_edge 13 = .ok (.iload_n 3, 1) := by decide +kernel
theorem dX3_edge_14 : decode cX3_edge 14 = .ok (.ifCond .eq 9, 3) := by decide +kernel
theorem dX3_edge_17 : decode cX3_edge 17 = .ok (.sipush (-768), 3) := by decide +kernel
theorem dX3_edge_20 : decode cX3_edge 20 = .ok (.goto 6, 3) := by decide +kernel
theorem dX3_edge_23 : decode cX3_edge 23 = .ok (.sipush 768, 3) := by decide +kernel
theorem dX3_edge_26 : decode cX3_edge 26 = .ok (.istore 4, 2) := by decide +kernel
theorem dX3_edge_28 : decode cX3_edge 28 = .ok (.iconst 0, 1) := by decide +kernel
theorem dX3_edge_29 : decode cX3_edge 29 = .ok (.istore 5, 2) := by decide +kernel
theorem dX3_edge_31 : decode cX3_edge 31 = .ok (.iload 5, 2) := by decide +kernel
theorem dX3_edge_33 : decode cX3_edge 33 = .ok (.sipush 1568, 3) := by decide +kernel
theorem dX3_edge_36 : decode cX3_edge 36 = .ok (.if_icmp .ge 91, 3) := by decide +kernel
theorem dX3_edge_39 : decode cX3_edge 39 = .ok (.aload_n 0, 1) := by decide +kernel
theorem dX3_edge_40 : decode cX3_edge 40 = .ok (.getfield 35, 3) := by decide +kernel
theorem dX3_edge_43 : decode cX3_edge 43 = .ok (.iload 5, 2) := by decide +kernel
theorem dX3_edge_45 : decode cX3_edge 45 = .ok (.iaload, 1) := by decide +kernel
theorem dX3_edge_46 : decode cX3_edge 46 = .ok (.ifCond .eq 75, 3) := by decide +kernel
theorem dX3_edge_49 : decode cX3_edge 49 = .ok (.iload 5, 2) := by decide +kernel
theorem dX3_edge_51 : decode cX3_edge 51 = .ok (.iload_n 1, 1) := by decide +kernel
theorem dX3_edge_52 : decode cX3_edge 52 = .ok (.invokestatic 188, 3) := by decide +kernel
theorem dX3_edge_55 : decode cX3_edge 55 = .ok (.istore 6, 2) := by decide +kernel
theorem dX3_edge_57 : decode cX3_edge 57 = .ok (.iload_n 2, 1) := by decide +kernel
theorem dX3_edge_58 : decode cX3_edge 58 = .ok (.iconst 2, 1) := by decide +kernel
theorem dX3_edge_59 : decode cX3_edge 59 = .ok (.if_icmp .lt 39, 3) := by decide +kernel
theorem dX3_edge_62 : decode cX3_edge 62 = .ok (.iload 5, 2) := by decide +kernel
theorem dX3_edge_64 : decode cX3_edge 64 = .ok (.iload_n 1, 1) := by decide +kernel
theorem dX3_edge_65 : decode cX3_edge 65 = .ok (.invokestatic 191, 3) := by decide +kernel
theorem dX3_edge_68 : decode cX3_edge 68 = .ok (.iload_n 3, 1) := by decide +kernel
theorem dX3_edge_69 : decode cX3_edge 69 = .ok (.ifCond .eq 16, 3) := by decide +kernel
theorem dX3_edge_72 : decode cX3_edge 72 = .ok (.aload_n 0, 1) := by decide +kernel
theorem dX3_edge_73 : decode cX3_edge 73 = .ok (.getfield 35, 3) := by decide +kernel
theorem dX3_edge_76 : decode cX3_edge 76 = .ok (.iload 5, 2) := by decide +kernel
theorem dX3_edge_78 : decode cX3_edge 78 = .ok (.iaload, 1) := by decide +kernel
theorem dX3_edge_79 : decode cX3_edge 79 = .ok (.invokestatic 229, 3) := by decide +kernel
theorem dX3_edge_82 : decode cX3_edge 82 = .ok (.goto 13, 3) := by decide +kernel
theorem dX3_edge_85 : decode cX3_edge 85 = .ok (.aload_n 0, 1) := by decide +kernel
theorem dX3_edge_86 : decode cX3_edge 86 = .ok (.getfield 35, 3) := by decide +kernel
theorem dX3_edge_89 : decode cX3_edge 89 = .ok (.iload 5, 2) := by decide +kernel
theorem dX3_edge_91 : decode cX3_edge 91 = .ok (.iaload, 1) := by decide +kernel
theorem dX3_edge_92 : decode cX3_edge 92 = .ok (.invokestatic 232, 3) := by decide +kernel
theorem dX3_edge_95 : decode cX3_edge 95 = .ok (.iadd, 1) := by decide +kernel
theorem dX3_edge_96 : decode cX3_edge 96 = .ok (.istore 6, 2) := by decide +kernel
theorem dX3_edge_98 : decode cX3_edge 98 = .ok (.iload_n 3, 1) := by decide +kernel
theorem dX3_edge_99 : decode cX3_edge 99 = .ok (.ifCond .eq 13, 3) := by decide +kernel
theorem dX3_edge_102 : decode cX3_edge 102 = .ok (.iload 4, 2) := by decide +kernel
theorem dX3_edge_104 : decode cX3_edge 104 = .ok (.iload 6, 2) := by decide +kernel
theorem dX3_edge_106 : decode cX3_edge 106 = .ok (.invokestatic 235, 3) := by decide +kernel
theorem dX3_edge_109 : decode cX3_edge 109 = .ok (.goto 10, 3) := by decide +kernel
theorem dX3_edge_112 : decode cX3_edge 112 = .ok (.iload 4, 2) := by decide +kernel
theorem dX3_edge_114 : decode cX3_edge 114 = .ok (.iload 6, 2) := by decide +kernel
theorem dX3_edge_116 : decode cX3_edge 116 = .ok (.invokestatic 240, 3) := by decide +kernel
theorem dX3_edge_119 : decode cX3_edge 119 = .ok (.istore 4, 2) := by decide +kernel
theorem dX3_edge_121 : decode cX3_edge 121 = .ok (.iinc 5 1, 3) := by decide +kernel
theorem dX3_edge_124 : decode cX3_edge 124 = .ok (.goto (-93), 3) := by decide +kernel
theorem dX3_edge_127 : decode cX3_edge 127 = .ok (.iload 4, 2) := by decide +kernel
theorem dX3_edge_129 : decode cX3_edge 129 = .ok (.ireturn, 1) := by decide +kernel
def fX3_edge_b121 (N : Nat) (c31 : Int32 → Int32 → Int32 → Int32 → Int32 → Option Int32) (v1 : Int32) (v2 : Int32) (v3 : Int32) (v4 : Int32) (v5 : Int32) (σ : qMem) : Option Int32 :=
  (c31 v1 v2 v3 v4 (v5 + 1))
set_option maxRecDepth 20000 in
set_option maxHeartbeats 4000000 in
theorem aX3_edge_b121 (N : Nat) (σ : qMem) (c31 : Int32 → Int32 → Int32 → Int32 → Int32 → Option Int32) (hc31 : ∀ (v1 : Int32) (v2 : Int32) (v3 : Int32) (v4 : Int32) (v5 : Int32) , qAt wC mX3_edge (ρp σ) 31 [(0, .ref 44), (1, .int v1), (2, .int v2), (3, .int v3), (4, .int v4), (5, .int v5)] [] σ (c31 v1 v2 v3 v4 v5)) (v1 : Int32) (v2 : Int32) (v3 : Int32) (v4 : Int32) (v5 : Int32) : qAt wC mX3_edge (ρp σ) 121 [(0, .ref 44), (1, .int v1), (2, .int v2), (3, .int v3), (4, .int v4), (5, .int v5)] [] σ (fX3_edge_b121 N c31 v1 v2 v3 v4 v5 σ) := by
  unfold fX3_edge_b121
  refine q_iinc (i := 5) (x := v5) (v := (v5 + 1)) (L' := [(5, .int (v5 + 1)), (0, .ref 44), (1, .int v1), (2, .int v2), (3, .int v3), (4, .int v4)]) dX3_edge_121 5 rfl (q_cst v5 (by decide)) (Nat.le_of_ble_eq_true rfl) rfl ?_
  refine q_goto (tgt := 31) dX3_edge_124 (by decide) ?_
  exact q_sub [1, 2, 3, 4, 5, 0] rfl (hc31 v1 v2 v3 v4 (v5 + 1))

def fX3_edge_b119 (N : Nat) (c31 : Int32 → Int32 → Int32 → Int32 → Int32 → Option Int32) (v1 : Int32) (v2 : Int32) (v3 : Int32) (v5 : Int32) (u0 : Int32) (σ : qMem) : Option Int32 :=
  (fX3_edge_b121 N c31 v1 v2 v3 u0 v5 σ)
set_option maxRecDepth 20000 in
set_option maxHeartbeats 4000000 in
theorem aX3_edge_b119 (N : Nat) (σ : qMem) (c31 : Int32 → Int32 → Int32 → Int32 → Int32 → Option Int32) (hc31 : ∀ (v1 : Int32) (v2 : Int32) (v3 : Int32) (v4 : Int32) (v5 : Int32) , qAt wC mX3_edge (ρp σ) 31 [(0, .ref 44), (1, .int v1), (2, .int v2), (3, .int v3), (4, .int v4), (5, .int v5)] [] σ (c31 v1 v2 v3 v4 v5)) (v1 : Int32) (v2 : Int32) (v3 : Int32) (v5 : Int32) (u0 : Int32) : qAt wC mX3_edge (ρp σ) 119 [(0, .ref 44), (1, .int v1), (2, .int v2), (3, .int v3), (5, .int v5)] [.int u0] σ (fX3_edge_b119 N c31 v1 v2 v3 v5 u0 σ) := by
  unfold fX3_edge_b119
  refine q_istore (i := 4) (L' := [(4, .int u0), (0, .ref 44), (1, .int v1), (2, .int v2), (3, .int v3), (5, .int v5)]) dX3_edge_119 (Nat.le_of_ble_eq_true rfl) rfl ?_
  exact q_sub [1, 2, 3, 4, 0, 5] rfl (aX3_edge_b121 N σ c31 hc31 v1 v2 v3 u0 v5)

def fX3_edge_b98 (N : Nat) (c31 : Int32 → Int32 → Int32 → Int32 → Int32 → Option Int32) (v1 : Int32) (v2 : Int32) (v3 : Int32) (v4 : Int32) (v5 : Int32) (v6 : Int32) (σ : qMem) : Option Int32 :=
  (if v3 = 0 then ((fJ9_min_7cf53 v4 v6).bind fun y5 => (fX3_edge_b119 N c31 v1 v2 v3 v5 y5 σ)) else ((fJ9_max_7cf53 v4 v6).bind fun y6 => (fX3_edge_b119 N c31 v1 v2 v3 v5 y6 σ)))
set_option maxRecDepth 20000 in
set_option maxHeartbeats 4000000 in
theorem aX3_edge_b98 (N : Nat) (σ : qMem) (c31 : Int32 → Int32 → Int32 → Int32 → Int32 → Option Int32) (hc31 : ∀ (v1 : Int32) (v2 : Int32) (v3 : Int32) (v4 : Int32) (v5 : Int32) , qAt wC mX3_edge (ρp σ) 31 [(0, .ref 44), (1, .int v1), (2, .int v2), (3, .int v3), (4, .int v4), (5, .int v5)] [] σ (c31 v1 v2 v3 v4 v5)) (v1 : Int32) (v2 : Int32) (v3 : Int32) (v4 : Int32) (v5 : Int32) (v6 : Int32) : qAt wC mX3_edge (ρp σ) 98 [(0, .ref 44), (1, .int v1), (2, .int v2), (3, .int v3), (4, .int v4), (5, .int v5), (6, .int v6)] [] σ (fX3_edge_b98 N c31 v1 v2 v3 v4 v5 v6 σ) := by
  unfold fX3_edge_b98
  refine q_iload_n (i := 3) (x := v3) dX3_edge_98 rfl 3 rfl ?_
  refine q_if_eq (tgt := 112) dX3_edge_99 (by decide) ?_ ?_
  · refine q_iload (i := 4) (x := v4) dX3_edge_112 4 rfl ?_
    refine q_iload (i := 6) (x := v6) dX3_edge_114 6 rfl ?_
    refine q_cSp mJ9_min_7cf53 [.int v4, .int v6] (st := []) dX3_edge_116 (ssX3_240) ⟨Nat.le_of_ble_eq_true rfl, Nat.le_of_ble_eq_true rfl⟩ rfl rfl (Nat.le_of_ble_eq_true rfl) (kJ9_min_7cf53 v4 v6 σ) (fun y5 => ?_)
    exact q_sub [0, 1, 2, 3, 5] rfl (aX3_edge_b119 N σ c31 hc31 v1 v2 v3 v5 y5)
  refine q_iload (i := 4) (x := v4) dX3_edge_102 4 rfl ?_
  refine q_iload (i := 6) (x := v6) dX3_edge_104 6 rfl ?_
  refine q_cSp mJ9_max_7cf53 [.int v4, .int v6] (st := []) dX3_edge_106 (ssX3_235) ⟨Nat.le_of_ble_eq_true rfl, Nat.le_of_ble_eq_true rfl⟩ rfl rfl (Nat.le_of_ble_eq_true rfl) (kJ9_max_7cf53 v4 v6 σ) (fun y6 => ?_)
  refine q_goto (tgt := 119) dX3_edge_109 (by decide) ?_
  exact q_sub [0, 1, 2, 3, 5] rfl (aX3_edge_b119 N σ c31 hc31 v1 v2 v3 v5 y6)

def fX3_edge_b95 (N : Nat) (c31 : Int32 → Int32 → Int32 → Int32 → Int32 → Option Int32) (v1 : Int32) (v2 : Int32) (v3 : Int32) (v4 : Int32) (v5 : Int32) (u0 : Int32) (u1 : Int32) (σ : qMem) : Option Int32 :=
  (fX3_edge_b98 N c31 v1 v2 v3 v4 v5 (u0 + u1) σ)
set_option maxRecDepth 20000 in
set_option maxHeartbeats 4000000 in
theorem aX3_edge_b95 (N : Nat) (σ : qMem) (c31 : Int32 → Int32 → Int32 → Int32 → Int32 → Option Int32) (hc31 : ∀ (v1 : Int32) (v2 : Int32) (v3 : Int32) (v4 : Int32) (v5 : Int32) , qAt wC mX3_edge (ρp σ) 31 [(0, .ref 44), (1, .int v1), (2, .int v2), (3, .int v3), (4, .int v4), (5, .int v5)] [] σ (c31 v1 v2 v3 v4 v5)) (v1 : Int32) (v2 : Int32) (v3 : Int32) (v4 : Int32) (v5 : Int32) (u0 : Int32) (u1 : Int32) : qAt wC mX3_edge (ρp σ) 95 [(0, .ref 44), (1, .int v1), (2, .int v2), (3, .int v3), (4, .int v4), (5, .int v5)] [.int u1, .int u0] σ (fX3_edge_b95 N c31 v1 v2 v3 v4 v5 u0 u1 σ) := by
  unfold fX3_edge_b95
  refine q_iadd dX3_edge_95 ?_
  refine q_istore (i := 6) (L' := [(6, .int (u0 + u1)), (0, .ref 44), (1, .int v1), (2, .int v2), (3, .int v3), (4, .int v4), (5, .int v5)]) dX3_edge_96 (Nat.le_of_ble_eq_true rfl) rfl ?_
  exact q_sub [1, 2, 3, 4, 5, 6, 0] rfl (aX3_edge_b98 N σ c31 hc31 v1 v2 v3 v4 v5 (u0 + u1))

def fX3_edge_s31 (N : Nat) (c31 : Int32 → Int32 → Int32 → Int32 → Int32 → Option Int32) (v1 : Int32) (v2 : Int32) (v3 : Int32) (v4 : Int32) (v5 : Int32) (σ : qMem) : Option Int32 :=
  (if 1568 ≤ v5 then (some v4) else (if ck v5 1568 = true then (if (gi σ 61 v5.toNatClampNeg) = 0 then (fX3_edge_b121 N c31 v1 v2 v3 v4 v5 σ) else ((fX3_eastOf v5 v1).bind fun y1 => (if v2 < 2 then (fX3_edge_b98 N c31 v1 v2 v3 v4 v5 y1 σ) else ((fX3_lowOf v5 v1).bind fun y2 => (if v3 = 0 then (if ck v5 1568 = true then ((fX3_lowestBit (gi σ 61 v5.toNatClampNeg)).bind fun y3 => (fX3_edge_b95 N c31 v1 v2 v3 v4 v5 y2 y3 σ)) else none) else (if ck v5 1568 = true then ((fX3_highestBit N (gi σ 61 v5.toNatClampNeg)).bind fun y4 => (fX3_edge_b95 N c31 v1 v2 v3 v4 v5 y2 y4 σ)) else none)))))) else none))
set_option maxRecDepth 20000 in
set_option maxHeartbeats 4000000 in
theorem aX3_edge_s31 (N : Nat) (σ : qMem) (c31 : Int32 → Int32 → Int32 → Int32 → Int32 → Option Int32) (hc31 : ∀ (v1 : Int32) (v2 : Int32) (v3 : Int32) (v4 : Int32) (v5 : Int32) , qAt wC mX3_edge (ρp σ) 31 [(0, .ref 44), (1, .int v1), (2, .int v2), (3, .int v3), (4, .int v4), (5, .int v5)] [] σ (c31 v1 v2 v3 v4 v5)) (v1 : Int32) (v2 : Int32) (v3 : Int32) (v4 : Int32) (v5 : Int32) : qAt wC mX3_edge (ρp σ) 31 [(0, .ref 44), (1, .int v1), (2, .int v2), (3, .int v3), (4, .int v4), (5, .int v5)] [] σ (fX3_edge_s31 N c31 v1 v2 v3 v4 v5 σ) := by
  unfold fX3_edge_s31
  refine q_iload (i := 5) (x := v5) dX3_edge_31 5 rfl ?_
  refine q_sipush (v := 1568) dX3_edge_33 (by decide) ?_
  refine q_icmp_ge (tgt := 127) dX3_edge_36 (by decide) ?_ ?_
  · refine q_iload (i := 4) (x := v4) dX3_edge_127 4 rfl ?_
    exact q_ireti (y := v4) dX3_edge_129 rfl rfl
  refine q_aload_n (i := 0) (x := 44) dX3_edge_39 rfl 0 rfl ?_
  refine q_getr (t := 61) dX3_edge_40 foX3_35 zC_44 rfl ?_
  refine q_iload (i := 5) (x := v5) dX3_edge_43 5 rfl ?_
  refine q_iald dX3_edge_45 zC_61 ?_
  refine q_if_eq (tgt := 121) dX3_edge_46 (by decide) ?_ ?_
  · exact q_sub [0, 1, 2, 3, 4, 5] rfl (aX3_edge_b121 N σ c31 hc31 v1 v2 v3 v4 v5)
  refine q_iload (i := 5) (x := v5) dX3_edge_49 5 rfl ?_
  refine q_iload_n (i := 1) (x := v1) dX3_edge_51 rfl 1 rfl ?_
  refine q_cSp mX3_eastOf [.int v5, .int v1] (st := []) dX3_edge_52 (ssX3_188) ⟨Nat.le_of_ble_eq_true rfl, Nat.le_of_ble_eq_true rfl⟩ rfl rfl (Nat.le_of_ble_eq_true rfl) (kX3_eastOf v5 v1 σ) (fun y1 => ?_)
  refine q_istore (i := 6) (L' := [(6, .int y1), (0, .ref 44), (1, .int v1), (2, .int v2), (3, .int v3), (4, .int v4), (5, .int v5)]) dX3_edge_55 (Nat.le_of_ble_eq_true rfl) rfl ?_
  refine q_iload_n (i := 2) (x := v2) dX3_edge_57 rfl 3 rfl ?_
  refine q_iconst (v := 2) dX3_edge_58 (by decide) ?_
  refine q_icmp_lt (tgt := 98) dX3_edge_59 (by decide) ?_ ?_
  · exact q_sub [1, 2, 3, 4, 5, 6, 0] rfl (aX3_edge_b98 N σ c31 hc31 v1 v2 v3 v4 v5 y1)
  refine q_iload (i := 5) (x := v5) dX3_edge_62 6 rfl ?_
  refine q_iload_n (i := 1) (x := v1) dX3_edge_64 rfl 2 rfl ?_
  refine q_cSp mX3_lowOf [.int v5, .int v1] (st := []) dX3_edge_65 (ssX3_191) ⟨Nat.le_of_ble_eq_true rfl, Nat.le_of_ble_eq_true rfl⟩ rfl rfl (Nat.le_of_ble_eq_true rfl) (kX3_lowOf v5 v1 σ) (fun y2 => ?_)
  refine q_iload_n (i := 3) (x := v3) dX3_edge_68 rfl 4 rfl ?_
  refine q_if_eq (tgt := 85) dX3_edge_69 (by decide) ?_ ?_
  · refine q_aload_n (i := 0) (x := 44) dX3_edge_85 rfl 1 rfl ?_
    refine q_getr (t := 61) dX3_edge_86 foX3_35 zC_44 rfl ?_
    refine q_iload (i := 5) (x := v5) dX3_edge_89 6 rfl ?_
    refine q_iald dX3_edge_91 zC_61 ?_
    refine q_cSp mX3_lowestBit [.int (gi σ 61 v5.toNatClampNeg)] (st := [.int y2]) dX3_edge_92 (ssX3_232) ⟨Nat.le_of_ble_eq_true rfl, Nat.le_of_ble_eq_true rfl⟩ rfl rfl (Nat.le_of_ble_eq_true rfl) (kX3_lowestBit (gi σ 61 v5.toNatClampNeg) σ) (fun y3 => ?_)
    exact q_sub [1, 2, 3, 4, 5, 6] rfl (aX3_edge_b95 N σ c31 hc31 v1 v2 v3 v4 v5 y2 y3)
  refine q_aload_n (i := 0) (x := 44) dX3_edge_72 rfl 1 rfl ?_
  refine q_getr (t := 61) dX3_edge_73 foX3_35 zC_44 rfl ?_
  refine q_iload (i := 5) (x := v5) dX3_edge_76 6 rfl ?_
  refine q_iald dX3_edge_78 zC_61 ?_
  refine q_cSp mX3_highestBit [.int (gi σ 61 v5.toNatClampNeg)] (st := [.int y2]) dX3_edge_79 (ssX3_229) ⟨Nat.le_of_ble_eq_true rfl, Nat.le_of_ble_eq_true rfl⟩ rfl rfl (Nat.le_of_ble_eq_true rfl) (kX3_highestBit N (gi σ 61 v5.toNatClampNeg) σ) (fun y4 => ?_)
  refine q_goto (tgt := 95) dX3_edge_82 (by decide) ?_
  exact q_sub [1, 2, 3, 4, 5, 6] rfl (aX3_edge_b95 N σ c31 hc31 v1 v2 v3 v4 v5 y2 y4)
def fX3_edge_l31 (N : Nat) (σ : qMem) : Nat → Int32 → Int32 → Int32 → Int32 → Int32 → Option Int32
  | 0 => fun _ _ _ _ _ => none
  | n + 1 => fun v1 v2 v3 v4 v5 => fX3_edge_s31 N (fX3_edge_l31 N σ n) v1 v2 v3 v4 v5 σ
theorem aX3_edge_l31 (N : Nat) (σ : qMem) : ∀ (n : Nat) (v1 : Int32) (v2 : Int32) (v3 : Int32) (v4 : Int32) (v5 : Int32), qAt wC mX3_edge (ρp σ) 31 [(0, .ref 44), (1, .int v1), (2, .int v2), (3, .int v3), (4, .int v4), (5, .int v5)] [] σ (fX3_edge_l31 N σ n v1 v2 v3 v4 v5) := by
  intro n
  induction n with
  | zero => intro v1 v2 v3 v4 v5; exact q_none
  | succ n ih => intro v1 v2 v3 v4 v5; exact aX3_edge_s31 N σ (fX3_edge_l31 N σ n) ih v1 v2 v3 v4 v5

def fX3_edge_b26 (N : Nat) (v1 : Int32) (v2 : Int32) (v3 : Int32) (u0 : Int32) (σ : qMem) : Option Int32 :=
  (fX3_edge_l31 N σ N v1 v2 v3 u0 0)
set_option maxRecDepth 20000 in
set_option maxHeartbeats 4000000 in
theorem aX3_edge_b26 (N : Nat) (σ : qMem) (v1 : Int32) (v2 : Int32) (v3 : Int32) (u0 : Int32) : qAt wC mX3_edge (ρp σ) 26 [(0, .ref 44), (1, .int v1), (2, .int v2), (3, .int v3)] [.int u0] σ (fX3_edge_b26 N v1 v2 v3 u0 σ) := by
  unfold fX3_edge_b26
  refine q_istore (i := 4) (L' := [(4, .int u0), (0, .ref 44), (1, .int v1), (2, .int v2), (3, .int v3)]) dX3_edge_26 (Nat.le_of_ble_eq_true rfl) rfl ?_
  refine q_iconst (v := 0) dX3_edge_28 (by decide) ?_
  refine q_istore (i := 5) (L' := [(5, .int 0), (4, .int u0), (0, .ref 44), (1, .int v1), (2, .int v2), (3, .int v3)]) dX3_edge_29 (Nat.le_of_ble_eq_true rfl) rfl ?_
  exact q_sub [2, 3, 4, 5, 1, 0] rfl (aX3_edge_l31 N σ N v1 v2 v3 u0 0)

def fX3_edge_b12 (N : Nat) (v1 : Int32) (v2 : Int32) (u0 : Int32) (σ : qMem) : Option Int32 :=
  (if u0 = 0 then (fX3_edge_b26 N v1 v2 u0 768 σ) else (fX3_edge_b26 N v1 v2 u0 (-768) σ))
set_option maxRecDepth 20000 in
set_option maxHeartbeats 4000000 in
theorem aX3_edge_b12 (N : Nat) (σ : qMem) (v1 : Int32) (v2 : Int32) (u0 : Int32) : qAt wC mX3_edge (ρp σ) 12 [(0, .ref 44), (1, .int v1), (2, .int v2)] [.int u0] σ (fX3_edge_b12 N v1 v2 u0 σ) := by
  unfold fX3_edge_b12
  refine q_istore_n (i := 3) (L' := [(3, .int u0), (0, .ref 44), (1, .int v1), (2, .int v2)]) dX3_edge_12 rfl (Nat.le_of_ble_eq_true rfl) rfl ?_
  refine q_iload_n (i := 3) (x := u0) dX3_edge_13 rfl 0 rfl ?_
  refine q_if_eq (tgt := 23) dX3_edge_14 (by decide) ?_ ?_
  · refine q_sipush (v := 768) dX3_edge_23 (by decide) ?_
    exact q_sub [1, 2, 3, 0] rfl (aX3_edge_b26 N σ v1 v2 u0 768)
  refine q_sipush (v := (-768)) dX3_edge_17 (by decide) ?_
  refine q_goto (tgt := 26) dX3_edge_20 (by decide) ?_
  exact q_sub [1, 2, 3, 0] rfl (aX3_edge_b26 N σ v1 v2 u0 (-768))

def fX3_edge (N : Nat) (p1 : Int32) (p2 : Int32) (σ : qMem) : Option Int32 :=
  (if (irm p2 2) = 1 then (fX3_edge_b12 N p1 p2 1 σ) else (fX3_edge_b12 N p1 p2 0 σ))
set_option maxRecDepth 20000 in
set_option maxHeartbeats 4000000 in
theorem aX3_edge  (N : Nat) (p1 : Int32) (p2 : Int32)  (σ : qMem) : qAt wC mX3_edge (ρp σ) 0 [(0, .ref 44), (1, .int p1), (2, .int p2)] [] σ (fX3_edge N p1 p2 σ) := by
  unfold fX3_edge
  refine q_iload_n (i := 2) (x := p2) dX3_edge_0 rfl 2 rfl ?_
  refine q_iconst (v := 2) dX3_edge_1 (by decide) ?_
  refine q_irem dX3_edge_2 (by decide) ?_
  refine q_iconst (v := 1) dX3_edge_3 (by decide) ?_
  refine q_icmp_ne (tgt := 11) dX3_edge_4 (by decide) ?_ ?_
  · refine q_iconst (v := 0) dX3_edge_11 (by decide) ?_
    exact q_sub [0, 1, 2] rfl (aX3_edge_b12 N σ p1 p2 0)
  refine q_iconst (v := 1) dX3_edge_7 (by decide) ?_
  refine q_goto (tgt := 12) dX3_edge_8 (by decide) ?_
  exact q_sub [0, 1, 2] rfl (aX3_edge_b12 N σ p1 p2 1)
theorem kX3_edge  (N : Nat) (p1 : Int32) (p2 : Int32)  (σ : qMem) : qMc wC mX3_edge (ρp σ) [.ref 44, .int p1, .int p2] σ (fX3_edge N p1 p2 σ) := qMc_of (moX3_edge) (Nat.le_of_ble_eq_true rfl) (aX3_edge N p1 p2  σ)

theorem dX3_inSquare_0 : decode cX3_inSquare 0 = .ok (.iconst 0, 1) := by decide +kernel
theorem dX3_inSquare_1 : decode cX3_inSquare 1 = .ok (.istore 5, 2) := by decide +kernel
theorem dX3_inSquare_3 : decode cX3_inSquare 3 = .ok (.iconst 0, 1) := by decide +kernel
theorem dX3_inSquare_4 : decode cX3_inSquare 4 = .ok (.istore 6, 2) := by decide +kernel
theorem dX3_inSquare_6 : decode cX3_inSquare 6 = .ok (.iload 6, 2) := by decide +kernel
theorem dX3_inSquare_8 : decode cX3_inSquare 8 = .ok (.sipush 1568, 3) := by decide +kernel
theorem dX3_inSquare_11 : decode cX3_inSquare 11 = .ok (.if_icmp .ge 66, 3) := by decide +kernel
theorem dX3_inSquare_14 : decode cX3_inSquare 14 = .ok (.iload 6, 2) := by decide +kernel
theorem dX3_inSquare_16 : decode cX3_inSquare 16 = .ok (.iload_n 1, 1) := by decide +kernel
theorem dX3_inSquare_17 : decode cX3_inSquare 17 = .ok (.invokestatic 188, 3) := by decide +kernel
theorem dX3_inSquare_20 : decode cX3_inSquare 20 = .ok (.iload_n 2, 1) := by decide +kernel
theorem dX3_inSquare_21 : decode cX3_inSquare 21 = .ok (.isub, 1) := by decide +kernel
theorem dX3_inSquare_22 : decode cX3_inSquare 22 = .ok (.invokestatic 243, 3) := by decide +kernel
theorem dX3_inSquare_25 : decode cX3_inSquare 25 = .ok (.iload 4, 2) := by decide +kernel
theorem dX3_inSquare_27 : decode cX3_inSquare 27 = .ok (.if_icmp .gt 44, 3) := by decide +kernel
theorem dX3_inSquare_30 : decode cX3_inSquare 30 = .ok (.iload 6, 2) := by decide +kernel
theorem dX3_inSquare_32 : decode cX3_inSquare 32 = .ok (.iload_n 1, 1) := by decide +kernel
theorem dX3_inSquare_33 : decode cX3_inSquare 33 = .ok (.invokestatic 191, 3) := by decide +kernel
theorem dX3_inSquare_36 : decode cX3_inSquare 36 = .ok (.istore 7, 2) := by decide +kernel
theorem dX3_inSquare_38 : decode cX3_inSquare 38 = .ok (.iload 5, 2) := by decide +kernel
theorem dX3_inSquare_40 : decode cX3_inSquare 40 = .ok (.aload_n 0, 1) := by decide +kernel
theorem dX3_inSquare_41 : decode cX3_inSquare 41 = .ok (.getfield 35, 3) := by decide +kernel
theorem dX3_inSquare_44 : decode cX3_inSquare 44 = .ok (.iload 6, 2) := by decide +kernel
theorem dX3_inSquare_46 : decode cX3_inSquare 46 = .ok (.iaload, 1) := by decide +kernel
theorem dX3_inSquare_47 : decode cX3_inSquare 47 = .ok (.iload_n 3, 1) := by decide +kernel
theorem dX3_inSquare_48 : decode cX3_inSquare 48 = .ok (.iload 4, 2) := by decide +kernel
theorem dX3_inSquare_50 : decode cX3_inSquare 50 = .ok (.isub, 1) := by decide +kernel
theorem dX3_inSquare_51 : decode cX3_inSquare 51 = .ok (.iload 7, 2) := by decide +kernel
theorem dX3_inSquare_53 : decode cX3_inSquare 53 = .ok (.isub, 1) := by decide +kernel
theorem dX3_inSquare_54 : decode cX3_inSquare 54 = .ok (.iload_n 3, 1) := by decide +kernel
theorem dX3_inSquare_55 : decode cX3_inSquare 55 = .ok (.iload 4, 2) := by decide +kernel
theorem dX3_inSquare_57 : decode cX3_inSquare 57 = .ok (.iadd, 1) := by decide +kernel
theorem dX3_inSquare_58 : decode cX3_inSquare 58 = .ok (.iload 7, 2) := by decide +kernel
theorem dX3_inSquare_60 : decode cX3_inSquare 60 = .ok (.isub, 1) := by decide +kernel
theorem dX3_inSquare_61 : decode cX3_inSquare 61 = .ok (.invokestatic 179, 3) := by decide +kernel
theorem dX3_inSquare_64 : decode cX3_inSquare 64 = .ok (.iand, 1) := by decide +kernel
theorem dX3_inSquare_65 : decode cX3_inSquare 65 = .ok (.invokestatic 224, 3) := by decide +kernel
theorem dX3_inSquare_68 : decode cX3_inSquare 68 = .ok (.iadd, 1) := by decide +kernel
theorem dX3_inSquare_69 : decode cX3_inSquare 69 = .ok (.istore 5, 2) := by decide +kernel
theorem dX3_inSquare_71 : decode cX3_inSquare 71 = .ok (.iinc 6 1, 3) := by decide +kernel
theorem dX3_inSquare_74 : decode cX3_inSquare 74 = .ok (.goto (-68), 3) := by decide +kernel
theorem dX3_inSquare_77 : decode cX3_inSquare 77 = .ok (.iload 5, 2) := by decide +kernel
theorem dX3_inSquare_79 : decode cX3_inSquare 79 = .ok (.ireturn, 1) := by decide +kernel
def fX3_inSquare_b71 (N : Nat) (c6 : Int32 → Int32 → Int32 → Int32 → Int32 → Int32 → Option Int32) (v1 : Int32) (v2 : Int32) (v3 : Int32) (v4 : Int32) (v5 : Int32) (v6 : Int32) (σ : qMem) : Option Int32 :=
  (c6 v1 v2 v3 v4 v5 (v6 + 1))
set_option maxRecDepth 20000 in
set_option maxHeartbeats 4000000 in
theorem aX3_inSquare_b71 (N : Nat) (σ : qMem) (c6 : Int32 → Int32 → Int32 → Int32 → Int32 → Int32 → Option Int32) (hc6 : ∀ (v1 : Int32) (v2 : Int32) (v3 : Int32) (v4 : Int32) (v5 : Int32) (v6 : Int32) , qAt wC mX3_inSquare (ρp σ) 6 [(0, .ref 44), (1, .int v1), (2, .int v2), (3, .int v3), (4, .int v4), (5, .int v5), (6, .int v6)] [] σ (c6 v1 v2 v3 v4 v5 v6)) (v1 : Int32) (v2 : Int32) (v3 : Int32) (v4 : Int32) (v5 : Int32) (v6 : Int32) : qAt wC mX3_inSquare (ρp σ) 71 [(0, .ref 44), (1, .int v1), (2, .int v2), (3, .int v3), (4, .int v4), (5, .int v5), (6, .int v6)] [] σ (fX3_inSquare_b71 N c6 v1 v2 v3 v4 v5 v6 σ) := by
  unfold fX3_inSquare_b71
  refine q_iinc (i := 6) (x := v6) (v := (v6 + 1)) (L' := [(6, .int (v6 + 1)), (0, .ref 44), (1, .int v1), (2, .int v2), (3, .int v3), (4, .int v4), (5, .int v5)]) dX3_inSquare_71 6 rfl (q_cst v6 (by decide)) (Nat.le_of_ble_eq_true rfl) rfl ?_
  refine q_goto (tgt := 6) dX3_inSquare_74 (by decide) ?_
  exact q_sub [1, 2, 3, 4, 5, 6, 0] rfl (hc6 v1 v2 v3 v4 v5 (v6 + 1))

def fX3_inSquare_s6 (N : Nat) (c6 : Int32 → Int32 → Int32 → Int32 → Int32 → Int32 → Option Int32) (v1 : Int32) (v2 : Int32) (v3 : Int32) (v4 : Int32) (v5 : Int32) (v6 : Int32) (σ : qMem) : Option Int32 :=
  (if 1568 ≤ v6 then (some v5) else ((fX3_eastOf v6 v1).bind fun y1 => ((fJ9_abs_0f7a4 (y1 - v2)).bind fun y2 => (if v4 < y2 then (fX3_inSquare_b71 N c6 v1 v2 v3 v4 v5 v6 σ) else ((fX3_lowOf v6 v1).bind fun y3 => (if ck v6 1568 = true then ((fX0_bits ((v3 - v4) - y3) ((v3 + v4) - y3)).bind fun y4 => ((fJ6_bitCount_0f7a4 ((gi σ 61 v6.toNatClampNeg) &&& y4)).bind fun y5 => (fX3_inSquare_b71 N c6 v1 v2 v3 v4 (v5 + y5) v6 σ))) else none))))))
set_option maxRecDepth 20000 in
set_option maxHeartbeats 4000000 in
theorem aX3_inSquare_s6 (N : Nat) (σ : qMem) (c6 : Int32 → Int32 → Int32 → Int32 → Int32 → Int32 → Option Int32) (hc6 : ∀ (v1 : Int32) (v2 : Int32) (v3 : Int32) (v4 : Int32) (v5 : Int32) (v6 : Int32) , qAt wC mX3_inSquare (ρp σ) 6 [(0, .ref 44), (1, .int v1), (2, .int v2), (3, .int v3), (4, .int v4), (5, .int v5), (6, .int v6)] [] σ (c6 v1 v2 v3 v4 v5 v6)) (v1 : Int32) (v2 : Int32) (v3 : Int32) (v4 : Int32) (v5 : Int32) (v6 : Int32) : qAt wC mX3_inSquare (ρp σ) 6 [(0, .ref 44), (1, .int v1), (2, .int v2), (3, .int v3), (4, .int v4), (5, .int v5), (6, .int v6)] [] σ (fX3_inSquare_s6 N c6 v1 v2 v3 v4 v5 v6 σ) := by
  unfold fX3_inSquare_s6
  refine q_iload (i := 6) (x := v6) dX3_inSquare_6 6 rfl ?_
  refine q_sipush (v := 1568) dX3_inSquare_8 (by decide) ?_
  refine q_icmp_ge (tgt := 77) dX3_inSquare_11 (by decide) ?_ ?_
  · refine q_iload (i := 5) (x := v5) dX3_inSquare_77 5 rfl ?_
    exact q_ireti (y := v5) dX3_inSquare_79 rfl rfl
  refine q_iload (i := 6) (x := v6) dX3_inSquare_14 6 rfl ?_
  refine q_iload_n (i := 1) (x := v1) dX3_inSquare_16 rfl 1 rfl ?_
  refine q_cSp mX3_eastOf [.int v6, .int v1] (st := []) dX3_inSquare_17 (ssX3_188) ⟨Nat.le_of_ble_eq_true rfl, Nat.le_of_ble_eq_true rfl⟩ rfl rfl (Nat.le_of_ble_eq_true rfl) (kX3_eastOf v6 v1 σ) (fun y1 => ?_)
  refine q_iload_n (i := 2) (x := v2) dX3_inSquare_20 rfl 2 rfl ?_
  refine q_isub dX3_inSquare_21 ?_
  refine q_cSp mJ9_abs_0f7a4 [.int (y1 - v2)] (st := []) dX3_inSquare_22 (ssX3_243) ⟨Nat.le_of_ble_eq_true rfl, Nat.le_of_ble_eq_true rfl⟩ rfl rfl (Nat.le_of_ble_eq_true rfl) (kJ9_abs_0f7a4 (y1 - v2) σ) (fun y2 => ?_)
  refine q_iload (i := 4) (x := v4) dX3_inSquare_25 4 rfl ?_
  refine q_icmp_gt (tgt := 71) dX3_inSquare_27 (by decide) ?_ ?_
  · exact q_sub [0, 1, 2, 3, 4, 5, 6] rfl (aX3_inSquare_b71 N σ c6 hc6 v1 v2 v3 v4 v5 v6)
  refine q_iload (i := 6) (x := v6) dX3_inSquare_30 6 rfl ?_
  refine q_iload_n (i := 1) (x := v1) dX3_inSquare_32 rfl 1 rfl ?_
  refine q_cSp mX3_lowOf [.int v6, .int v1] (st := []) dX3_inSquare_33 (ssX3_191) ⟨Nat.le_of_ble_eq_true rfl, Nat.le_of_ble_eq_true rfl⟩ rfl rfl (Nat.le_of_ble_eq_true rfl) (kX3_lowOf v6 v1 σ) (fun y3 => ?_)
  refine q_istore (i := 7) (L' := [(7, .int y3), (0, .ref 44), (1, .int v1), (2, .int v2), (3, .int v3), (4, .int v4), (5, .int v5), (6, .int v6)]) dX3_inSquare_36 (Nat.le_of_ble_eq_true rfl) rfl ?_
  refine q_iload (i := 5) (x := v5) dX3_inSquare_38 6 rfl ?_
  refine q_aload_n (i := 0) (x := 44) dX3_inSquare_40 rfl 1 rfl ?_
  refine q_getr (t := 61) dX3_inSquare_41 foX3_35 zC_44 rfl ?_
  refine q_iload (i := 6) (x := v6) dX3_inSquare_44 7 rfl ?_
  refine q_iald dX3_inSquare_46 zC_61 ?_
  refine q_iload_n (i := 3) (x := v3) dX3_inSquare_47 rfl 4 rfl ?_
  refine q_iload (i := 4) (x := v4) dX3_inSquare_48 5 rfl ?_
  refine q_isub dX3_inSquare_50 ?_
  refine q_iload (i := 7) (x := y3) dX3_inSquare_51 0 rfl ?_
  refine q_isub dX3_inSquare_53 ?_
  refine q_iload_n (i := 3) (x := v3) dX3_inSquare_54 rfl 4 rfl ?_
  refine q_iload (i := 4) (x := v4) dX3_inSquare_55 5 rfl ?_
  refine q_iadd dX3_inSquare_57 ?_
  refine q_iload (i := 7) (x := y3) dX3_inSquare_58 0 rfl ?_
  refine q_isub dX3_inSquare_60 ?_
  refine q_cSp mX0_bits [.int ((v3 - v4) - y3), .int ((v3 + v4) - y3)] (st := [.int (gi σ 61 v6.toNatClampNeg), .int v5]) dX3_inSquare_61 (ssX3_179) ⟨Nat.le_of_ble_eq_true rfl, Nat.le_of_ble_eq_true rfl⟩ rfl rfl (Nat.le_of_ble_eq_true rfl) (kX0_bits ((v3 - v4) - y3) ((v3 + v4) - y3) σ) (fun y4 => ?_)
  refine q_iand dX3_inSquare_64 ?_
  refine q_cSp mJ6_bitCount_0f7a4 [.int ((gi σ 61 v6.toNatClampNeg) &&& y4)] (st := [.int v5]) dX3_inSquare_65 (ssX3_224) ⟨Nat.le_of_ble_eq_true rfl, Nat.le_of_ble_eq_true rfl⟩ rfl rfl (Nat.le_of_ble_eq_true rfl) (kJ6_bitCount_0f7a4 ((gi σ 61 v6.toNatClampNeg) &&& y4) σ) (fun y5 => ?_)
  refine q_iadd dX3_inSquare_68 ?_
  refine q_istore (i := 5) (L' := [(5, .int (v5 + y5)), (7, .int y3), (0, .ref 44), (1, .int v1), (2, .int v2), (3, .int v3), (4, .int v4), (6, .int v6)]) dX3_inSquare_69 (Nat.le_of_ble_eq_true rfl) rfl ?_
  exact q_sub [2, 3, 4, 5, 6, 0, 7] rfl (aX3_inSquare_b71 N σ c6 hc6 v1 v2 v3 v4 (v5 + y5) v6)
def fX3_inSquare_l6 (N : Nat) (σ : qMem) : Nat → Int32 → Int32 → Int32 → Int32 → Int32 → Int32 → Option Int32
  | 0 => fun _ _ _ _ _ _ => none
  | n + 1 => fun v1 v2 v3 v4 v5 v6 => fX3_inSquare_s6 N (fX3_inSquare_l6 N σ n) v1 v2 v3 v4 v5 v6 σ
theorem aX3_inSquare_l6 (N : Nat) (σ : qMem) : ∀ (n : Nat) (v1 : Int32) (v2 : Int32) (v3 : Int32) (v4 : Int32) (v5 : Int32) (v6 : Int32), qAt wC mX3_inSquare (ρp σ) 6 [(0, .ref 44), (1, .int v1), (2, .int v2), (3, .int v3), (4, .int v4), (5, .int v5), (6, .int v6)] [] σ (fX3_inSquare_l6 N σ n v1 v2 v3 v4 v5 v6) := by
  intro n
  induction n with
  | zero => intro v1 v2 v3 v4 v5 v6; exact q_none
  | succ n ih => intro v1 v2 v3 v4 v5 v6; exact aX3_inSquare_s6 N σ (fX3_inSquare_l6 N σ n) ih v1 v2 v3 v4 v5 v6

def fX3_inSquare (N : Nat) (p1 : Int32) (p2 : Int32) (p3 : Int32) (p4 : Int32) (σ : qMem) : Option Int32 :=
  (fX3_inSquare_l6 N σ N p1 p2 p3 p4 0 0)
set_option maxRecDepth 20000 in
set_option maxHeartbeats 4000000 in
theorem aX3_inSquare  (N : Nat) (p1 : Int32) (p2 : Int32) (p3 : Int32) (p4 : Int32)  (σ : qMem) : qAt wC mX3_inSquare (ρp σ) 0 [(0, .ref 44), (1, .int p1), (2, .int p2), (3, .int p3), (4, .int p4)] [] σ (fX3_inSquare N p1 p2 p3 p4 σ) := by
  unfold fX3_inSquare
  refine q_iconst (v := 0) dX3_inSquare_0 (by decide) ?_
  refine q_istore (i := 5) (L' := [(5, .int 0), (0, .ref 44), (1, .int p1), (2, .int p2), (3, .int p3), (4, .int p4)]) dX3_inSquare_1 (Nat.le_of_ble_eq_true rfl) rfl ?_
  refine q_iconst (v := 0) dX3_inSquare_3 (by decide) ?_
  refine q_istore (i := 6) (L' := [(6, .int 0), (5, .int 0), (0, .ref 44), (1, .int p1), (2, .int p2), (3, .int p3), (4, .int p4)]) dX3_inSquare_4 (Nat.le_of_ble_eq_true rfl) rfl ?_
  exact q_sub [2, 3, 4, 5, 6, 1, 0] rfl (aX3_inSquare_l6 N σ N p1 p2 p3 p4 0 0)
theorem kX3_inSquare  (N : Nat) (p1 : Int32) (p2 : Int32) (p3 : Int32) (p4 : Int32)  (σ : qMem) : qMc wC mX3_inSquare (ρp σ) [.ref 44, .int p1, .int p2, .int p3, .int p4] σ (fX3_inSquare N p1 p2 p3 p4 σ) := qMc_of (moX3_inSquare) (Nat.le_of_ble_eq_true rfl) (aX3_inSquare N p1 p2 p3 p4  σ)

theorem dX11_direction_0 : decode cX11_direction 0 = .ok (.iload_n 1, 1) := by decide +kernel
theorem dX11_direction_1 : decode cX11_direction 1 = .ok (.ifCond .le 26, 3) := by decide +kernel
theorem dX11_direction_4 : decode cX11_direction 4 = .ok (.iload_n 0, 1) := by decide +kernel
theorem dX11_direction_5 : decode cX11_direction 5 = .ok (.iload_n 1, 1) := by decide +kernel
theorem dX11_direction_6 : decode cX11_direction 6 = .ok (.ineg, 1) := by decide +kernel
theorem dX11_direction_7 : decode cX11_direction 7 = .ok (.if_icmp .lt 20, 3) := by decide +kernel
theorem dX11_direction_10 : decode cX11_direction 10 = .ok (.iload_n 0, 1) := by decide +kernel
theorem dX11_direction_11 : decode cX11_direction 11 = .ok (.iload_n 1, 1) := by decide +kernel
theorem dX11_direction_12 : decode cX11_direction 12 = .ok (.if_icmp .ge 15, 3) := by decide +kernel
theorem dX11_direction_15 : decode cX11_direction 15 = .ok (.bipush 10, 2) := by decide +kernel
theorem dX11_direction_17 : decode cX11_direction 17 = .ok (.bipush 10, 2) := by decide +kernel
theorem dX11_direction_19 : decode cX11_direction 19 = .ok (.iload_n 0, 1) := by decide +kernel
theorem dX11_direction_20 : decode cX11_direction 20 = .ok (.imul, 1) := by decide +kernel
theorem dX11_direction_21 : decode cX11_direction 21 = .ok (.iload_n 1, 1) := by decide +kernel
theorem dX11_direction_22 : decode cX11_direction 22 = .ok (.invokestatic 385, 3) := by decide +kernel
theorem dX11_direction_25 : decode cX11_direction 25 = .ok (.iadd, 1) := by decide +kernel
theorem dX11_direction_26 : decode cX11_direction 26 = .ok (.ireturn, 1) := by decide +kernel
theorem dX11_direction_27 : decode cX11_direction 27 = .ok (.iload_n 0, 1) := by decide +kernel
theorem dX11_direction_28 : decode cX11_direction 28 = .ok (.ifCond .le 26, 3) := by decide +kernel
theorem dX11_direction_31 : decode cX11_direction 31 = .ok (.iload_n 1, 1) := by decide +kernel
theorem dX11_direction_32 : decode cX11_direction 32 = .ok (.iload_n 0, 1) := by decide +kernel
theorem dX11_direction_33 : decode cX11_direction 33 = .ok (.ineg, 1) := by decide +kernel
theorem dX11_direction_34 : decode cX11_direction 34 = .ok (.if_icmp .le 20, 3) := by decide +kernel
theorem dX11_direction_37 : decode cX11_direction 37 = .ok (.iload_n 1, 1) := by decide +kernel
theorem dX11_direction_38 : decode cX11_direction 38 = .ok (.iload_n 0, 1) := by decide +kernel
theorem dX11_direction_39 : decode cX11_direction 39 = .ok (.if_icmp .gt 15, 3) := by decide +kernel
theorem dX11_direction_42 : decode cX11_direction 42 = .ok (.bipush 30, 2) := by decide +kernel
theorem dX11_direction_44 : decode cX11_direction 44 = .ok (.bipush (-10), 2) := by decide +kernel
theorem dX11_direction_46 : decode cX11_direction 46 = .ok (.iload_n 1, 1) := by decide +kernel
theorem dX11_direction_47 : decode cX11_direction 47 = .ok (.imul, 1) := by decide +kernel
theorem dX11_direction_48 : decode cX11_direction 48 = .ok (.iload_n 0, 1) := by decide +kernel
theorem dX11_direction_49 : decode cX11_direction 49 = .ok (.invokestatic 385, 3) := by decide +kernel
theorem dX11_direction_52 : decode cX11_direction 52 = .ok (.iadd, 1) := by decide +kernel
theorem dX11_direction_53 : decode cX11_direction 53 = .ok (.ireturn, 1) := by decide +kernel
theorem dX11_direction_54 : decode cX11_direction 54 = .ok (.iload_n 1, 1) := by decide +kernel
theorem dX11_direction_55 : decode cX11_direction 55 = .ok (.ifCond .ge 26, 3) := by decide +kernel
theorem dX11_direction_58 : decode cX11_direction 58 = .ok (.iload_n 0, 1) := by decide +kernel
theorem dX11_direction_59 : decode cX11_direction 59 = .ok (.iload_n 1, 1) := by decide +kernel
theorem dX11_direction_60 : decode cX11_direction 60 = .ok (.if_icmp .le 21, 3) := by decide +kernel
theorem dX11_direction_63 : decode cX11_direction 63 = .ok (.iload_n 0, 1) := by decide +kernel
theorem dX11_direction_64 : decode cX11_direction 64 = .ok (.iload_n 1, 1) := by decide +kernel
theorem dX11_direction_65 : decode cX11_direction 65 = .ok (.ineg, 1) := by decide +kernel
theorem dX11_direction_66 : decode cX11_direction 66 = .ok (.if_icmp .gt 15, 3) := by decide +kernel
theorem dX11_direction_69 : decode cX11_direction 69 = .ok (.bipush 50, 2) := by decide +kernel
theorem dX11_direction_71 : decode cX11_direction 71 = .ok (.bipush 10, 2) := by decide +kernel
theorem dX11_direction_73 : decode cX11_direction 73 = .ok (.iload_n 0, 1) := by decide +kernel
theorem dX11_direction_74 : decode cX11_direction 74 = .ok (.imul, 1) := by decide +kernel
theorem dX11_direction_75 : decode cX11_direction 75 = .ok (.iload_n 1, 1) := by decide +kernel
theorem dX11_direction_76 : decode cX11_direction 76 = .ok (.invokestatic 385, 3) := by decide +kernel
theorem dX11_direction_79 : decode cX11_direction 79 = .ok (.iadd, 1) := by decide +kernel
theorem dX11_direction_80 : decode cX11_direction 80 = .ok (.ireturn, 1) := by decide +kernel
theorem dX11_direction_81 : decode cX11_direction 81 = .ok (.iload_n 0, 1) := by decide +kernel
theorem dX11_direction_82 : decode cX11_direction 82 = .ok (.ifCond .ge 15, 3) := by decide +kernel
theorem dX11_direction_85 : decode cX11_direction 85 = .ok (.bipush 70, 2) := by decide +kernel
theorem dX11_direction_87 : decode cX11_direction 87 = .ok (.bipush (-10), 2) := by decide +kernel
theorem dX11_direction_89 : decode cX11_direction 89 = .ok (.iload_n 1, 1) := by decide +kernel
theorem dX11_direction_90 : decode cX11_direction 90 = .ok (.imul, 1) := by decide +kernel
theorem dX11_direction_91 : decode cX11_direction 91 = .ok (.iload_n 0, 1) := by decide +kernel
theorem dX11_direction_92 : decode cX11_direction 92 = .ok (.invokestatic 385, 3) := by decide +kernel
theorem dX11_direction_95 : decode cX11_direction 95 = .ok (.iadd, 1) := by decide +kernel
theorem dX11_direction_96 : decode cX11_direction 96 = .ok (.ireturn, 1) := by decide +kernel
theorem dX11_direction_97 : decode cX11_direction 97 = .ok (.iconst (-1), 1) := by decide +kernel
theorem dX11_direction_98 : decode cX11_direction 98 = .ok (.ireturn, 1) := by decide +kernel
def fX11_direction_b81 (v0 : Int32) (v1 : Int32) : Option Int32 :=
  (if 0 ≤ v0 then (some (-1)) else ((fJ9_floorDiv_7cf53 ((-10) * v1) v0).bind fun y4 => (some (70 + y4))))
set_option maxRecDepth 20000 in
set_option maxHeartbeats 4000000 in
theorem aX11_direction_b81 (σ : qMem) (v0 : Int32) (v1 : Int32) : qAt wC mX11_direction (ρp σ) 81 [(0, .int v0), (1, .int v1)] [] σ (fX11_direction_b81 v0 v1) := by
  unfold fX11_direction_b81
  refine q_iload_n (i := 0) (x := v0) dX11_direction_81 rfl 0 rfl ?_
  refine q_if_ge (tgt := 97) dX11_direction_82 (by decide) ?_ ?_
  · refine q_iconst (v := (-1)) dX11_direction_97 (by decide) ?_
    exact q_ireti (y := (-1)) dX11_direction_98 rfl rfl
  refine q_bipush (v := 70) dX11_direction_85 (by decide) ?_
  refine q_bipush (v := (-10)) dX11_direction_87 (by decide) ?_
  refine q_iload_n (i := 1) (x := v1) dX11_direction_89 rfl 1 rfl ?_
  refine q_imul dX11_direction_90 ?_
  refine q_iload_n (i := 0) (x := v0) dX11_direction_91 rfl 0 rfl ?_
  refine q_cSp mJ9_floorDiv_7cf53 [.int ((-10) * v1), .int v0] (st := [.int 70]) dX11_direction_92 (ssX11_385) ⟨Nat.le_of_ble_eq_true rfl, Nat.le_of_ble_eq_true rfl⟩ rfl rfl (Nat.le_of_ble_eq_true rfl) (kJ9_floorDiv_7cf53 ((-10) * v1) v0 σ) (fun y4 => ?_)
  refine q_iadd dX11_direction_95 ?_
  exact q_ireti (y := (70 + y4)) dX11_direction_96 rfl rfl

def fX11_direction_b54 (v0 : Int32) (v1 : Int32) : Option Int32 :=
  (if 0 ≤ v1 then (fX11_direction_b81 v0 v1) else (if v0 ≤ v1 then (fX11_direction_b81 v0 v1) else (if (-v1) < v0 then (fX11_direction_b81 v0 v1) else ((fJ9_floorDiv_7cf53 (10 * v0) v1).bind fun y3 => (some (50 + y3))))))
set_option maxRecDepth 20000 in
set_option maxHeartbeats 4000000 in
theorem aX11_direction_b54 (σ : qMem) (v0 : Int32) (v1 : Int32) : qAt wC mX11_direction (ρp σ) 54 [(0, .int v0), (1, .int v1)] [] σ (fX11_direction_b54 v0 v1) := by
  unfold fX11_direction_b54
  refine q_iload_n (i := 1) (x := v1) dX11_direction_54 rfl 1 rfl ?_
  refine q_if_ge (tgt := 81) dX11_direction_55 (by decide) ?_ ?_
  · exact q_sub [0, 1] rfl (aX11_direction_b81 σ v0 v1)
  refine q_iload_n (i := 0) (x := v0) dX11_direction_58 rfl 0 rfl ?_
  refine q_iload_n (i := 1) (x := v1) dX11_direction_59 rfl 1 rfl ?_
  refine q_icmp_le (tgt := 81) dX11_direction_60 (by decide) ?_ ?_
  · exact q_sub [0, 1] rfl (aX11_direction_b81 σ v0 v1)
  refine q_iload_n (i := 0) (x := v0) dX11_direction_63 rfl 0 rfl ?_
  refine q_iload_n (i := 1) (x := v1) dX11_direction_64 rfl 1 rfl ?_
  refine q_ineg dX11_direction_65 ?_
  refine q_icmp_gt (tgt := 81) dX11_direction_66 (by decide) ?_ ?_
  · exact q_sub [0, 1] rfl (aX11_direction_b81 σ v0 v1)
  refine q_bipush (v := 50) dX11_direction_69 (by decide) ?_
  refine q_bipush (v := 10) dX11_direction_71 (by decide) ?_
  refine q_iload_n (i := 0) (x := v0) dX11_direction_73 rfl 0 rfl ?_
  refine q_imul dX11_direction_74 ?_
  refine q_iload_n (i := 1) (x := v1) dX11_direction_75 rfl 1 rfl ?_
  refine q_cSp mJ9_floorDiv_7cf53 [.int (10 * v0), .int v1] (st := [.int 50]) dX11_direction_76 (ssX11_385) ⟨Nat.le_of_ble_eq_true rfl, Nat.le_of_ble_eq_true rfl⟩ rfl rfl (Nat.le_of_ble_eq_true rfl) (kJ9_floorDiv_7cf53 (10 * v0) v1 σ) (fun y3 => ?_)
  refine q_iadd dX11_direction_79 ?_
  exact q_ireti (y := (50 + y3)) dX11_direction_80 rfl rfl

def fX11_direction_b27 (v0 : Int32) (v1 : Int32) : Option Int32 :=
  (if v0 ≤ 0 then (fX11_direction_b54 v0 v1) else (if v1 ≤ (-v0) then (fX11_direction_b54 v0 v1) else (if v0 < v1 then (fX11_direction_b54 v0 v1) else ((fJ9_floorDiv_7cf53 ((-10) * v1) v0).bind fun y2 => (some (30 + y2))))))
set_option maxRecDepth 20000 in
set_option maxHeartbeats 4000000 in
theorem aX11_direction_b27 (σ : qMem) (v0 : Int32) (v1 : Int32) : qAt wC mX11_direction (ρp σ) 27 [(0, .int v0), (1, .int v1)] [] σ (fX11_direction_b27 v0 v1) := by
  unfold fX11_direction_b27
  refine q_iload_n (i := 0) (x := v0) dX11_direction_27 rfl 0 rfl ?_
  refine q_if_le (tgt := 54) dX11_direction_28 (by decide) ?_ ?_
  · exact q_sub [0, 1] rfl (aX11_direction_b54 σ v0 v1)
  refine q_iload_n (i := 1) (x := v1) dX11_direction_31 rfl 1 rfl ?_
  refine q_iload_n (i := 0) (x := v0) dX11_direction_32 rfl 0 rfl ?_
  refine q_ineg dX11_direction_33 ?_
  refine q_icmp_le (tgt := 54) dX11_direction_34 (by decide) ?_ ?_
  · exact q_sub [0, 1] rfl (aX11_direction_b54 σ v0 v1)
  refine q_iload_n (i := 1) (x := v1) dX11_direction_37 rfl 1 rfl ?_
  refine q_iload_n (i := 0) (x := v0) dX11_direction_38 rfl 0 rfl ?_
  refine q_icmp_gt (tgt := 54) dX11_direction_39 (by decide) ?_ ?_
  · exact q_sub [0, 1] rfl (aX11_direction_b54 σ v0 v1)
  refine q_bipush (v := 30) dX11_direction_42 (by decide) ?_
  refine q_bipush (v := (-10)) dX11_direction_44 (by decide) ?_
  refine q_iload_n (i := 1) (x := v1) dX11_direction_46 rfl 1 rfl ?_
  refine q_imul dX11_direction_47 ?_
  refine q_iload_n (i := 0) (x := v0) dX11_direction_48 rfl 0 rfl ?_
  refine q_cSp mJ9_floorDiv_7cf53 [.int ((-10) * v1), .int v0] (st := [.int 30]) dX11_direction_49 (ssX11_385) ⟨Nat.le_of_ble_eq_true rfl, Nat.le_of_ble_eq_true rfl⟩ rfl rfl (Nat.le_of_ble_eq_true rfl) (kJ9_floorDiv_7cf53 ((-10) * v1) v0 σ) (fun y2 => ?_)
  refine q_iadd dX11_direction_52 ?_
  exact q_ireti (y := (30 + y2)) dX11_direction_53 rfl rfl

def fX11_direction (p0 : Int32) (p1 : Int32) : Option Int32 :=
  (if p1 ≤ 0 then (fX11_direction_b27 p0 p1) else (if p0 < (-p1) then (fX11_direction_b27 p0 p1) else (if p1 ≤ p0 then (fX11_direction_b27 p0 p1) else ((fJ9_floorDiv_7cf53 (10 * p0) p1).bind fun y1 => (some (10 + y1))))))
set_option maxRecDepth 20000 in
set_option maxHeartbeats 4000000 in
theorem aX11_direction  (p0 : Int32) (p1 : Int32)  (σ : qMem) : qAt wC mX11_direction (ρp σ) 0 [(0, .int p0), (1, .int p1)] [] σ (fX11_direction p0 p1) := by
  unfold fX11_direction
  refine q_iload_n (i := 1) (x := p1) dX11_direction_0 rfl 1 rfl ?_
  refine q_if_le (tgt := 27) dX11_direction_1 (by decide) ?_ ?_
  · exact q_sub [0, 1] rfl (aX11_direction_b27 σ p0 p1)
  refine q_iload_n (i := 0) (x := p0) dX11_direction_4 rfl 0 rfl ?_
  refine q_iload_n (i := 1) (x := p1) dX11_direction_5 rfl 1 rfl ?_
  refine q_ineg dX11_direction_6 ?_
  refine q_icmp_lt (tgt := 27) dX11_direction_7 (by decide) ?_ ?_
  · exact q_sub [0, 1] rfl (aX11_direction_b27 σ p0 p1)
  refine q_iload_n (i := 0) (x := p0) dX11_direction_10 rfl 0 rfl ?_
  refine q_iload_n (i := 1) (x := p1) dX11_direction_11 rfl 1 rfl ?_
  refine q_icmp_ge (tgt := 27) dX11_direction_12 (by decide) ?_ ?_
  · exact q_sub [0, 1] rfl (aX11_direction_b27 σ p0 p1)
  refine q_bipush (v := 10) dX11_direction_15 (by decide) ?_
  refine q_bipush (v := 10) dX11_direction_17 (by decide) ?_
  refine q_iload_n (i := 0) (x := p0) dX11_direction_19 rfl 0 rfl ?_
  refine q_imul dX11_direction_20 ?_
  refine q_iload_n (i := 1) (x := p1) dX11_direction_21 rfl 1 rfl ?_
  refine q_cSp mJ9_floorDiv_7cf53 [.int (10 * p0), .int p1] (st := [.int 10]) dX11_direction_22 (ssX11_385) ⟨Nat.le_of_ble_eq_true rfl, Nat.le_of_ble_eq_true rfl⟩ rfl rfl (Nat.le_of_ble_eq_true rfl) (kJ9_floorDiv_7cf53 (10 * p0) p1 σ) (fun y1 => ?_)
  refine q_iadd dX11_direction_25 ?_
  exact q_ireti (y := (10 + y1)) dX11_direction_26 rfl rfl
theorem kX11_direction  (p0 : Int32) (p1 : Int32)  (σ : qMem) : qMc wC mX11_direction (ρp σ) [.int p0, .int p1] σ (fX11_direction p0 p1) := qMc_of (moX11_direction) (Nat.le_of_ble_eq_true rfl) (aX11_direction p0 p1  σ)

theorem dX3_groupLane_0 : decode cX3_groupLane 0 = .ok (.iconst 0, 1) := by decide +kernel
theorem dX3_groupLane_1 : decode cX3_groupLane 1 = .ok (.istore 4, 2) := by decide +kernel
theorem dX3_groupLane_3 : decode cX3_groupLane 3 = .ok (.iload 4, 2) := by decide +kernel
theorem dX3_groupLane_5 : decode cX3_groupLane 5 = .ok (.bipush 32, 2) := by decide +kernel
theorem dX3_groupLane_7 : decode cX3_groupLane 7 = .ok (.if_icmp .ge 50, 3) := by decide +kernel
theorem dX3_groupLane_10 : decode cX3_groupLane 10 = .ok (.iload_n 1, 1) := by decide +kernel
theorem dX3_groupLane_11 : decode cX3_groupLane 11 = .ok (.iload 4, 2) := by decide +kernel
theorem dX3_groupLane_13 : decode cX3_groupLane 13 = .ok (.iushr, 1) := by decide +kernel
theorem dX3_groupLane_14 : decode cX3_groupLane 14 = .ok (.iconst 1, 1) := by decide +kernel
theorem dX3_groupLane_15 : decode cX3_groupLane 15 = .ok (.iand, 1) := by decide +kernel
theorem dX3_groupLane_16 : decode cX3_groupLane 16 = .ok (.ifCond .eq 35, 3) := by decide +kernel
theorem dX3_groupLane_19 : decode cX3_groupLane 19 = .ok (.iload_n 2, 1) := by decide +kernel
theorem dX3_groupLane_20 : decode cX3_groupLane 20 = .ok (.iload_n 3, 1) := by decide +kernel
theorem dX3_groupLane_21 : decode cX3_groupLane 21 = .ok (.iload 4, 2) := by decide +kernel
theorem dX3_groupLane_23 : decode cX3_groupLane 23 = .ok (.iadd, 1) := by decide +kernel
theorem dX3_groupLane_24 : decode cX3_groupLane 24 = .ok (.invokestatic 249, 3) := by decide +kernel
theorem dX3_groupLane_27 : decode cX3_groupLane 27 = .ok (.istore 5, 2) := by decide +kernel
theorem dX3_groupLane_29 : decode cX3_groupLane 29 = .ok (.aload_n 0, 1) := by decide +kernel
theorem dX3_groupLane_30 : decode cX3_groupLane 30 = .ok (.getfield 54, 3) := by decide +kernel
theorem dX3_groupLane_33 : decode cX3_groupLane 33 = .ok (.iload 5, 2) := by decide +kernel
theorem dX3_groupLane_35 : decode cX3_groupLane 35 = .ok (.iconst (-1), 1) := by decide +kernel
theorem dX3_groupLane_36 : decode cX3_groupLane 36 = .ok (.if_icmp .ne 8, 3) := by decide +kernel
theorem dX3_groupLane_39 : decode cX3_groupLane 39 = .ok (.bipush 80, 2) := by decide +kernel
theorem dX3_groupLane_41 : decode cX3_groupLane 41 = .ok (.goto 5, 3) := by decide +kernel
theorem dX3_groupLane_44 : decode cX3_groupLane 44 = .ok (.iload 5, 2) := by decide +kernel
theorem dX3_groupLane_46 : decode cX3_groupLane 46 = .ok (.dup2, 1) := by decide +kernel
theorem dX3_groupLane_47 : decode cX3_groupLane 47 = .ok (.iaload, 1) := by decide +kernel
theorem dX3_groupLane_48 : decode cX3_groupLane 48 = .ok (.iconst 1, 1) := by decide +kernel
theorem dX3_groupLane_49 : decode cX3_groupLane 49 = .ok (.iadd, 1) := by decide +kernel
theorem dX3_groupLane_50 : decode cX3_groupLane 50 = .ok (.iastore, 1) := by decide +kernel
theorem dX3_groupLane_51 : decode cX3_groupLane 51 = .ok (.iinc 4 1, 3) := by decide +kernel
theorem dX3_groupLane_54 : decode cX3_groupLane 54 = .ok (.goto (-51), 3) := by decide +kernel
theorem dX3_groupLane_57 : decode cX3_groupLane 57 = .ok (.return_, 1) := by decide +kernel
def fX3_groupLane_b51 (N : Nat) (c3 : Int32 → Int32 → Int32 → Int32 → qMem → Option qMem) (v1 : Int32) (v2 : Int32) (v3 : Int32) (v4 : Int32) (σ : qMem) : Option qMem :=
  (c3 v1 v2 v3 (v4 + 1) σ)
set_option maxRecDepth 20000 in
set_option maxHeartbeats 4000000 in
theorem aX3_groupLane_b51 (N : Nat) (c3 : Int32 → Int32 → Int32 → Int32 → qMem → Option qMem) (hc3 : ∀ (v1 : Int32) (v2 : Int32) (v3 : Int32) (v4 : Int32) (σ : qMem), qAt wC mX3_groupLane (ρv) 3 [(0, .ref 44), (1, .int v1), (2, .int v2), (3, .int v3), (4, .int v4)] [] σ (c3 v1 v2 v3 v4 σ)) (v1 : Int32) (v2 : Int32) (v3 : Int32) (v4 : Int32) (σ : qMem) : qAt wC mX3_groupLane (ρv) 51 [(0, .ref 44), (1, .int v1), (2, .int v2), (3, .int v3), (4, .int v4)] [] σ (fX3_groupLane_b51 N c3 v1 v2 v3 v4 σ) := by
  unfold fX3_groupLane_b51
  refine q_iinc (i := 4) (x := v4) (v := (v4 + 1)) (L' := [(4, .int (v4 + 1)), (0, .ref 44), (1, .int v1), (2, .int v2), (3, .int v3)]) dX3_groupLane_51 4 rfl (q_cst v4 (by decide)) (Nat.le_of_ble_eq_true rfl) rfl ?_
  refine q_goto (tgt := 3) dX3_groupLane_54 (by decide) ?_
  exact q_sub [1, 2, 3, 4, 0] rfl (hc3 v1 v2 v3 (v4 + 1) σ)

def fX3_groupLane_b46 (N : Nat) (c3 : Int32 → Int32 → Int32 → Int32 → qMem → Option qMem) (v1 : Int32) (v2 : Int32) (v3 : Int32) (v4 : Int32) (u1 : Int32) (σ : qMem) : Option qMem :=
  (if ck u1 81 = true then (if ck u1 81 = true then (nmM (si σ 66 u1.toNatClampNeg ((gi σ 66 u1.toNatClampNeg) + 1)) fun s2 => (fX3_groupLane_b51 N c3 v1 v2 v3 v4 s2)) else none) else none)
set_option maxRecDepth 20000 in
set_option maxHeartbeats 4000000 in
theorem aX3_groupLane_b46 (N : Nat) (c3 : Int32 → Int32 → Int32 → Int32 → qMem → Option qMem) (hc3 : ∀ (v1 : Int32) (v2 : Int32) (v3 : Int32) (v4 : Int32) (σ : qMem), qAt wC mX3_groupLane (ρv) 3 [(0, .ref 44), (1, .int v1), (2, .int v2), (3, .int v3), (4, .int v4)] [] σ (c3 v1 v2 v3 v4 σ)) (v1 : Int32) (v2 : Int32) (v3 : Int32) (v4 : Int32) (u1 : Int32) (σ : qMem) : qAt wC mX3_groupLane (ρv) 46 [(0, .ref 44), (1, .int v1), (2, .int v2), (3, .int v3), (4, .int v4)] [.int u1, .ref 66] σ (fX3_groupLane_b46 N c3 v1 v2 v3 v4 u1 σ) := by
  unfold fX3_groupLane_b46
  refine q_dup2 dX3_groupLane_46 rfl rfl ?_
  refine q_iald dX3_groupLane_47 zC_66 ?_
  refine q_iconst (v := 1) dX3_groupLane_48 (by decide) ?_
  refine q_iadd dX3_groupLane_49 ?_
  refine q_iast dX3_groupLane_50 zC_66 ?_
  refine q_nmM (fun s2 => ?_)
  exact q_sub [0, 1, 2, 3, 4] rfl (aX3_groupLane_b51 N c3 hc3 v1 v2 v3 v4 s2)

def fX3_groupLane_s3 (N : Nat) (c3 : Int32 → Int32 → Int32 → Int32 → qMem → Option qMem) (v1 : Int32) (v2 : Int32) (v3 : Int32) (v4 : Int32) (σ : qMem) : Option qMem :=
  (if 32 ≤ v4 then (some σ) else (if ((ushr v1 v4) &&& 1) = 0 then (fX3_groupLane_b51 N c3 v1 v2 v3 v4 σ) else ((fX11_direction v2 (v3 + v4)).bind fun y1 => (if y1 = (-1) then (fX3_groupLane_b46 N c3 v1 v2 v3 v4 80 σ) else (fX3_groupLane_b46 N c3 v1 v2 v3 v4 y1 σ)))))
set_option maxRecDepth 20000 in
set_option maxHeartbeats 4000000 in
theorem aX3_groupLane_s3 (N : Nat) (c3 : Int32 → Int32 → Int32 → Int32 → qMem → Option qMem) (hc3 : ∀ (v1 : Int32) (v2 : Int32) (v3 : Int32) (v4 : Int32) (σ : qMem), qAt wC mX3_groupLane (ρv) 3 [(0, .ref 44), (1, .int v1), (2, .int v2), (3, .int v3), (4, .int v4)] [] σ (c3 v1 v2 v3 v4 σ)) (v1 : Int32) (v2 : Int32) (v3 : Int32) (v4 : Int32) (σ : qMem) : qAt wC mX3_groupLane (ρv) 3 [(0, .ref 44), (1, .int v1), (2, .int v2), (3, .int v3), (4, .int v4)] [] σ (fX3_groupLane_s3 N c3 v1 v2 v3 v4 σ) := by
  unfold fX3_groupLane_s3
  refine q_iload (i := 4) (x := v4) dX3_groupLane_3 4 rfl ?_
  refine q_bipush (v := 32) dX3_groupLane_5 (by decide) ?_
  refine q_icmp_ge (tgt := 57) dX3_groupLane_7 (by decide) ?_ ?_
  · exact q_vret (y := σ) dX3_groupLane_57 rfl rfl
  refine q_iload_n (i := 1) (x := v1) dX3_groupLane_10 rfl 1 rfl ?_
  refine q_iload (i := 4) (x := v4) dX3_groupLane_11 4 rfl ?_
  refine q_iushr dX3_groupLane_13 ?_
  refine q_iconst (v := 1) dX3_groupLane_14 (by decide) ?_
  refine q_iand dX3_groupLane_15 ?_
  refine q_if_eq (tgt := 51) dX3_groupLane_16 (by decide) ?_ ?_
  · exact q_sub [0, 1, 2, 3, 4] rfl (aX3_groupLane_b51 N c3 hc3 v1 v2 v3 v4 σ)
  refine q_iload_n (i := 2) (x := v2) dX3_groupLane_19 rfl 2 rfl ?_
  refine q_iload_n (i := 3) (x := v3) dX3_groupLane_20 rfl 3 rfl ?_
  refine q_iload (i := 4) (x := v4) dX3_groupLane_21 4 rfl ?_
  refine q_iadd dX3_groupLane_23 ?_
  refine q_cSp mX11_direction [.int v2, .int (v3 + v4)] (st := []) dX3_groupLane_24 (ssX3_249) ⟨Nat.le_of_ble_eq_true rfl, Nat.le_of_ble_eq_true rfl⟩ rfl rfl (Nat.le_of_ble_eq_true rfl) (kX11_direction v2 (v3 + v4) σ) (fun y1 => ?_)
  refine q_istore (i := 5) (L' := [(5, .int y1), (0, .ref 44), (1, .int v1), (2, .int v2), (3, .int v3), (4, .int v4)]) dX3_groupLane_27 (Nat.le_of_ble_eq_true rfl) rfl ?_
  refine q_aload_n (i := 0) (x := 44) dX3_groupLane_29 rfl 1 rfl ?_
  refine q_getr (t := 66) dX3_groupLane_30 foX3_54 zC_44 rfl ?_
  refine q_iload (i := 5) (x := y1) dX3_groupLane_33 0 rfl ?_
  refine q_iconst (v := (-1)) dX3_groupLane_35 (by decide) ?_
  refine q_icmp_ne (tgt := 44) dX3_groupLane_36 (by decide) ?_ ?_
  · refine q_iload (i := 5) (x := y1) dX3_groupLane_44 0 rfl ?_
    exact q_sub [1, 2, 3, 4, 5] rfl (aX3_groupLane_b46 N c3 hc3 v1 v2 v3 v4 y1 σ)
  refine q_bipush (v := 80) dX3_groupLane_39 (by decide) ?_
  refine q_goto (tgt := 46) dX3_groupLane_41 (by decide) ?_
  exact q_sub [1, 2, 3, 4, 5] rfl (aX3_groupLane_b46 N c3 hc3 v1 v2 v3 v4 80 σ)
def fX3_groupLane_l3 (N : Nat) : Nat → Int32 → Int32 → Int32 → Int32 → qMem → Option qMem
  | 0 => fun _ _ _ _ _ => none
  | n + 1 => fun v1 v2 v3 v4 σ => fX3_groupLane_s3 N (fX3_groupLane_l3 N n) v1 v2 v3 v4 σ
theorem aX3_groupLane_l3 (N : Nat) : ∀ (n : Nat) (v1 : Int32) (v2 : Int32) (v3 : Int32) (v4 : Int32) (σ : qMem), qAt wC mX3_groupLane (ρv) 3 [(0, .ref 44), (1, .int v1), (2, .int v2), (3, .int v3), (4, .int v4)] [] σ (fX3_groupLane_l3 N n v1 v2 v3 v4 σ) := by
  intro n
  induction n with
  | zero => intro v1 v2 v3 v4 σ; exact q_none
  | succ n ih => intro v1 v2 v3 v4 σ; exact aX3_groupLane_s3 N (fX3_groupLane_l3 N n) ih v1 v2 v3 v4 σ

def fX3_groupLane (N : Nat) (p1 : Int32) (p2 : Int32) (p3 : Int32) (σ : qMem) : Option qMem :=
  (fX3_groupLane_l3 N N p1 p2 p3 0 σ)
set_option maxRecDepth 20000 in
set_option maxHeartbeats 4000000 in
theorem aX3_groupLane  (N : Nat) (p1 : Int32) (p2 : Int32) (p3 : Int32)  (σ : qMem) : qAt wC mX3_groupLane (ρv) 0 [(0, .ref 44), (1, .int p1), (2, .int p2), (3, .int p3)] [] σ (fX3_groupLane N p1 p2 p3 σ) := by
  unfold fX3_groupLane
  refine q_iconst (v := 0) dX3_groupLane_0 (by decide) ?_
  refine q_istore (i := 4) (L' := [(4, .int 0), (0, .ref 44), (1, .int p1), (2, .int p2), (3, .int p3)]) dX3_groupLane_1 (Nat.le_of_ble_eq_true rfl) rfl ?_
  exact q_sub [1, 2, 3, 4, 0] rfl (aX3_groupLane_l3 N N p1 p2 p3 0 σ)
theorem kX3_groupLane  (N : Nat) (p1 : Int32) (p2 : Int32) (p3 : Int32)  (σ : qMem) : qMc wC mX3_groupLane (ρv) [.ref 44, .int p1, .int p2, .int p3] σ (fX3_groupLane N p1 p2 p3 σ) := qMc_of (moX3_groupLane) (Nat.le_of_ble_eq_true rfl) (aX3_groupLane N p1 p2 p3  σ)

theorem dX3_largestGroup_0 : decode cX3_largestGroup 0 = .ok (.aload_n 0, 1) := by decide +kernel
theorem dX3_largestGroup_1 : decode cX3_largestGroup 1 = .ok (.getfield 54, 3) := by decide +kernel
theorem dX3_largestGroup_4 : decode cX3_largestGroup 4 = .ok (.iconst 0, 1) := by decide +kernel
theorem dX3_largestGroup_5 : decode cX3_largestGroup 5 = .ok (.invokestatic 182, 3) := by decide +kernel
theorem dX3_largestGroup_8 : decode cX3_largestGroup 8 = .ok (.iconst 0, 1) := by decide +kernel
theorem dX3_largestGroup_9 : decode cX3_largestGroup 9 = .ok (.istore 4, 2) := by decide +kernel
theorem dX3_largestGroup_11 : decode cX3_largestGroup 11 = .ok (.iload 4, 2) := by decide +kernel
theorem dX3_largestGroup_13 : decode cX3_largestGroup 13 = .ok (.sipush 1568, 3) := by decide +kernel
theorem dX3_largestGroup_16 : decode cX3_largestGroup 16 = .ok (.if_icmp .ge 46, 3) := by decide +kernel
theorem dX3_largestGroup_19 : decode cX3_largestGroup 19 = .ok (.aload_n 0, 1) := by decide +kernel
theorem dX3_largestGroup_20 : decode cX3_largestGroup 20 = .ok (.getfield 35, 3) := by decide +kernel
theorem dX3_largestGroup_23 : decode cX3_largestGroup 23 = .ok (.iload 4, 2) := by decide +kernel
theorem dX3_largestGroup_25 : decode cX3_largestGroup 25 = .ok (.iaload, 1) := by decide +kernel
theorem dX3_largestGroup_26 : decode cX3_largestGroup 26 = .ok (.ifCond .eq 30, 3) := by decide +kernel
theorem dX3_largestGroup_29 : decode cX3_largestGroup 29 = .ok (.aload_n 0, 1) := by decide +kernel
theorem dX3_largestGroup_30 : decode cX3_largestGroup 30 = .ok (.aload_n 0, 1) := by decide +kernel
theorem dX3_largestGroup_31 : decode cX3_largestGroup 31 = .ok (.getfield 35, 3) := by decide +kernel
theorem dX3_largestGroup_34 : decode cX3_largestGroup 34 = .ok (.iload 4, 2) := by decide +kernel
theorem dX3_largestGroup_36 : decode cX3_largestGroup 36 = .ok (.iaload, 1) := by decide +kernel
theorem dX3_largestGroup_37 : decode cX3_largestGroup 37 = .ok (.iload 4, 2) := by decide +kernel
theorem dX3_largestGroup_39 : decode cX3_largestGroup 39 = .ok (.iload_n 1, 1) := by decide +kernel
theorem dX3_largestGroup_40 : decode cX3_largestGroup 40 = .ok (.invokestatic 188, 3) := by decide +kernel
theorem dX3_largestGroup_43 : decode cX3_largestGroup 43 = .ok (.iload_n 2, 1) := by decide +kernel
theorem dX3_largestGroup_44 : decode cX3_largestGroup 44 = .ok (.isub, 1) := by decide +kernel
theorem dX3_largestGroup_45 : decode cX3_largestGroup 45 = .ok (.iload 4, 2) := by decide +kernel
theorem dX3_largestGroup_47 : decode cX3_largestGroup 47 = .ok (.iload_n 1, 1) := by decide +kernel
theorem dX3_largestGroup_48 : decode cX3_largestGroup 48 = .ok (.invokestatic 191, 3) := by decide +kernel
theorem dX3_largestGroup_51 : decode cX3_largestGroup 51 = .ok (.iload_n 3, 1) := by decide +kernel
theorem dX3_largestGroup_52 : decode cX3_largestGroup 52 = .ok (.isub, 1) := by decide +kernel
theorem dX3_largestGroup_53 : decode cX3_largestGroup 53 = .ok (.invokevirtual 246, 3) := by decide +kernel
theorem dX3_largestGroup_56 : decode cX3_largestGroup 56 = .ok (.iinc 4 1, 3) := by decide +kernel
theorem dX3_largestGroup_59 : decode cX3_largestGroup 59 = .ok (.goto (-48), 3) := by decide +kernel
theorem dX3_largestGroup_62 : decode cX3_largestGroup 62 = .ok (.iconst 0, 1) := by decide +kernel
theorem dX3_largestGroup_63 : decode cX3_largestGroup 63 = .ok (.istore 4, 2) := by decide +kernel
theorem dX3_largestGroup_65 : decode cX3_largestGroup 65 = .ok (.iconst 0, 1) := by decide +kernel
theorem dX3_largestGroup_66 : decode cX3_largestGroup 66 = .ok (.istore 5, 2) := by decide +kernel
theorem dX3_largestGroup_68 : decode cX3_largestGroup 68 = .ok (.iload 5, 2) := by decide +kernel
theorem dX3_largestGroup_70 : decode cX3_largestGroup 70 = .ok (.aload_n 0, 1) := by decide +kernel
theorem dX3_largestGroup_71 : decode cX3_largestGroup 71 = .ok (.getfield 54, 3) := by decide +kernel
theorem dX3_largestGroup_74 : decode cX3_largestGroup 74 = .ok (.arraylength, 1) := by decide +kernel
theorem dX3_largestGroup_75 : decode cX3_largestGroup 75 = .ok (.if_icmp .ge 23, 3) := by decide +kernel
theorem dX3_largestGroup_78 : decode cX3_largestGroup 78 = .ok (.iload 4, 2) := by decide +kernel
theorem dX3_largestGroup_80 : decode cX3_largestGroup 80 = .ok (.aload_n 0, 1) := by decide +kernel
theorem dX3_largestGroup_81 : decode cX3_largestGroup 81 = .ok (.getfield 54, 3) := by decide +kernel
theorem dX3_largestGroup_84 : decode cX3_largestGroup 84 = .ok (.iload 5, 2) := by decide +kernel
theorem dX3_largestGroup_86 : decode cX3_largestGroup 86 = .ok (.iaload, 1) := by decide +kernel
theorem dX3_largestGroup_87 : decode cX3_largestGroup 87 = .ok (.invokestatic 235, 3) := by decide +kernel
theorem dX3_largestGroup_90 : decode cX3_largestGroup 90 = .ok (.istore 4, 2) := by decide +kernel
theorem dX3_largestGroup_92 : decode cX3_largestGroup 92 = .ok (.iinc 5 1, 3) := by decide +kernel
theorem dX3_largestGroup_95 : decode cX3_largestGroup 95 = .ok (.goto (-27), 3) := by decide +kernel
theorem dX3_largestGroup_98 : decode cX3_largestGroup 98 = .ok (.iload 4, 2) := by decide +kernel
theorem dX3_largestGroup_100 : decode cX3_largestGroup 100 = .ok (.ireturn, 1) := by decide +kernel
def fX3_largestGroup_s68 (N : Nat) (c68 : Int32 → Int32 → qMem → Option (Int32 × qMem)) (v4 : Int32) (v5 : Int32) (σ : qMem) : Option (Int32 × qMem) :=
  (if 81 ≤ v5 then (some (v4, σ)) else (if ck v5 81 = true then ((fJ9_max_7cf53 v4 (gi σ 66 v5.toNatClampNeg)).bind fun y5 => (c68 y5 (v5 + 1) σ)) else none))
set_option maxRecDepth 20000 in
set_option maxHeartbeats 4000000 in
theorem aX3_largestGroup_s68 (N : Nat) (c68 : Int32 → Int32 → qMem → Option (Int32 × qMem)) (hc68 : ∀ (v4 : Int32) (v5 : Int32) (σ : qMem), qAt wC mX3_largestGroup (ρi) 68 [(0, .ref 44), (4, .int v4), (5, .int v5)] [] σ (c68 v4 v5 σ)) (v4 : Int32) (v5 : Int32) (σ : qMem) : qAt wC mX3_largestGroup (ρi) 68 [(0, .ref 44), (4, .int v4), (5, .int v5)] [] σ (fX3_largestGroup_s68 N c68 v4 v5 σ) := by
  unfold fX3_largestGroup_s68
  refine q_iload (i := 5) (x := v5) dX3_largestGroup_68 2 rfl ?_
  refine q_aload_n (i := 0) (x := 44) dX3_largestGroup_70 rfl 0 rfl ?_
  refine q_getr (t := 66) dX3_largestGroup_71 foX3_54 zC_44 rfl ?_
  refine q_alen (t0 := 0) (v := 81) dX3_largestGroup_74 zC_66 (fun _ => rfl) (by decide) ?_
  refine q_icmp_ge (tgt := 98) dX3_largestGroup_75 (by decide) ?_ ?_
  · refine q_iload (i := 4) (x := v4) dX3_largestGroup_98 1 rfl ?_
    exact q_ireti (y := (v4, σ)) dX3_largestGroup_100 rfl rfl
  refine q_iload (i := 4) (x := v4) dX3_largestGroup_78 1 rfl ?_
  refine q_aload_n (i := 0) (x := 44) dX3_largestGroup_80 rfl 0 rfl ?_
  refine q_getr (t := 66) dX3_largestGroup_81 foX3_54 zC_44 rfl ?_
  refine q_iload (i := 5) (x := v5) dX3_largestGroup_84 2 rfl ?_
  refine q_iald dX3_largestGroup_86 zC_66 ?_
  refine q_cSp mJ9_max_7cf53 [.int v4, .int (gi σ 66 v5.toNatClampNeg)] (st := []) dX3_largestGroup_87 (ssX3_235) ⟨Nat.le_of_ble_eq_true rfl, Nat.le_of_ble_eq_true rfl⟩ rfl rfl (Nat.le_of_ble_eq_true rfl) (kJ9_max_7cf53 v4 (gi σ 66 v5.toNatClampNeg) σ) (fun y5 => ?_)
  refine q_istore (i := 4) (L' := [(4, .int y5), (0, .ref 44), (5, .int v5)]) dX3_largestGroup_90 (Nat.le_of_ble_eq_true rfl) rfl ?_
  refine q_iinc (i := 5) (x := v5) (v := (v5 + 1)) (L' := [(5, .int (v5 + 1)), (4, .int y5), (0, .ref 44)]) dX3_largestGroup_92 2 rfl (q_cst v5 (by decide)) (Nat.le_of_ble_eq_true rfl) rfl ?_
  refine q_goto (tgt := 68) dX3_largestGroup_95 (by decide) ?_
  exact q_sub [2, 1, 0] rfl (hc68 y5 (v5 + 1) σ)
def fX3_largestGroup_l68 (N : Nat) : Nat → Int32 → Int32 → qMem → Option (Int32 × qMem)
  | 0 => fun _ _ _ => none
  | n + 1 => fun v4 v5 σ => fX3_largestGroup_s68 N (fX3_largestGroup_l68 N n) v4 v5 σ
theorem aX3_largestGroup_l68 (N : Nat) : ∀ (n : Nat) (v4 : Int32) (v5 : Int32) (σ : qMem), qAt wC mX3_largestGroup (ρi) 68 [(0, .ref 44), (4, .int v4), (5, .int v5)] [] σ (fX3_largestGroup_l68 N n v4 v5 σ) := by
  intro n
  induction n with
  | zero => intro v4 v5 σ; exact q_none
  | succ n ih => intro v4 v5 σ; exact aX3_largestGroup_s68 N (fX3_largestGroup_l68 N n) ih v4 v5 σ

def fX3_largestGroup_b56 (N : Nat) (c11 : Int32 → Int32 → Int32 → Int32 → qMem → Option (Int32 × qMem)) (v1 : Int32) (v2 : Int32) (v3 : Int32) (v4 : Int32) (σ : qMem) : Option (Int32 × qMem) :=
  (c11 v1 v2 v3 (v4 + 1) σ)
set_option maxRecDepth 20000 in
set_option maxHeartbeats 4000000 in
theorem aX3_largestGroup_b56 (N : Nat) (c11 : Int32 → Int32 → Int32 → Int32 → qMem → Option (Int32 × qMem)) (hc11 : ∀ (v1 : Int32) (v2 : Int32) (v3 : Int32) (v4 : Int32) (σ : qMem), qAt wC mX3_largestGroup (ρi) 11 [(0, .ref 44), (1, .int v1), (2, .int v2), (3, .int v3), (4, .int v4)] [] σ (c11 v1 v2 v3 v4 σ)) (v1 : Int32) (v2 : Int32) (v3 : Int32) (v4 : Int32) (σ : qMem) : qAt wC mX3_largestGroup (ρi) 56 [(0, .ref 44), (1, .int v1), (2, .int v2), (3, .int v3), (4, .int v4)] [] σ (fX3_largestGroup_b56 N c11 v1 v2 v3 v4 σ) := by
  unfold fX3_largestGroup_b56
  refine q_iinc (i := 4) (x := v4) (v := (v4 + 1)) (L' := [(4, .int (v4 + 1)), (0, .ref 44), (1, .int v1), (2, .int v2), (3, .int v3)]) dX3_largestGroup_56 4 rfl (q_cst v4 (by decide)) (Nat.le_of_ble_eq_true rfl) rfl ?_
  refine q_goto (tgt := 11) dX3_largestGroup_59 (by decide) ?_
  exact q_sub [1, 2, 3, 4, 0] rfl (hc11 v1 v2 v3 (v4 + 1) σ)

def fX3_largestGroup_s11 (N : Nat) (c11 : Int32 → Int32 → Int32 → Int32 → qMem → Option (Int32 × qMem)) (v1 : Int32) (v2 : Int32) (v3 : Int32) (v4 : Int32) (σ : qMem) : Option (Int32 × qMem) :=
  (if 1568 ≤ v4 then (fX3_largestGroup_l68 N N 0 0 σ) else (if ck v4 1568 = true then (if (gi σ 61 v4.toNatClampNeg) = 0 then (fX3_largestGroup_b56 N c11 v1 v2 v3 v4 σ) else (if ck v4 1568 = true then ((fX3_eastOf v4 v1).bind fun y2 => ((fX3_lowOf v4 v1).bind fun y3 => ((fX3_groupLane N (gi σ 61 v4.toNatClampNeg) (y2 - v2) (y3 - v3) σ).bind fun y4 => (fX3_largestGroup_b56 N c11 v1 v2 v3 v4 y4)))) else none)) else none))
set_option maxRecDepth 20000 in
set_option maxHeartbeats 4000000 in
theorem aX3_largestGroup_s11 (N : Nat) (c11 : Int32 → Int32 → Int32 → Int32 → qMem → Option (Int32 × qMem)) (hc11 : ∀ (v1 : Int32) (v2 : Int32) (v3 : Int32) (v4 : Int32) (σ : qMem), qAt wC mX3_largestGroup (ρi) 11 [(0, .ref 44), (1, .int v1), (2, .int v2), (3, .int v3), (4, .int v4)] [] σ (c11 v1 v2 v3 v4 σ)) (v1 : Int32) (v2 : Int32) (v3 : Int32) (v4 : Int32) (σ : qMem) : qAt wC mX3_largestGroup (ρi) 11 [(0, .ref 44), (1, .int v1), (2, .int v2), (3, .int v3), (4, .int v4)] [] σ (fX3_largestGroup_s11 N c11 v1 v2 v3 v4 σ) := by
  unfold fX3_largestGroup_s11
  refine q_iload (i := 4) (x := v4) dX3_largestGroup_11 4 rfl ?_
  refine q_sipush (v := 1568) dX3_largestGroup_13 (by decide) ?_
  refine q_icmp_ge (tgt := 62) dX3_largestGroup_16 (by decide) ?_ ?_
  · refine q_iconst (v := 0) dX3_largestGroup_62 (by decide) ?_
    refine q_istore (i := 4) (L' := [(4, .int 0), (0, .ref 44), (1, .int v1), (2, .int v2), (3, .int v3)]) dX3_largestGroup_63 (Nat.le_of_ble_eq_true rfl) rfl ?_
    refine q_iconst (v := 0) dX3_largestGroup_65 (by decide) ?_
    refine q_istore (i := 5) (L' := [(5, .int 0), (4, .int 0), (0, .ref 44), (1, .int v1), (2, .int v2), (3, .int v3)]) dX3_largestGroup_66 (Nat.le_of_ble_eq_true rfl) rfl ?_
    exact q_sub [2, 1, 0] rfl (aX3_largestGroup_l68 N N 0 0 σ)
  refine q_aload_n (i := 0) (x := 44) dX3_largestGroup_19 rfl 0 rfl ?_
  refine q_getr (t := 61) dX3_largestGroup_20 foX3_35 zC_44 rfl ?_
  refine q_iload (i := 4) (x := v4) dX3_largestGroup_23 4 rfl ?_
  refine q_iald dX3_largestGroup_25 zC_61 ?_
  refine q_if_eq (tgt := 56) dX3_largestGroup_26 (by decide) ?_ ?_
  · exact q_sub [0, 1, 2, 3, 4] rfl (aX3_largestGroup_b56 N c11 hc11 v1 v2 v3 v4 σ)
  refine q_aload_n (i := 0) (x := 44) dX3_largestGroup_29 rfl 0 rfl ?_
  refine q_aload_n (i := 0) (x := 44) dX3_largestGroup_30 rfl 0 rfl ?_
  refine q_getr (t := 61) dX3_largestGroup_31 foX3_35 zC_44 rfl ?_
  refine q_iload (i := 4) (x := v4) dX3_largestGroup_34 4 rfl ?_
  refine q_iald dX3_largestGroup_36 zC_61 ?_
  refine q_iload (i := 4) (x := v4) dX3_largestGroup_37 4 rfl ?_
  refine q_iload_n (i := 1) (x := v1) dX3_largestGroup_39 rfl 1 rfl ?_
  refine q_cSp mX3_eastOf [.int v4, .int v1] (st := [.int (gi σ 61 v4.toNatClampNeg), .ref 44]) dX3_largestGroup_40 (ssX3_188) ⟨Nat.le_of_ble_eq_true rfl, Nat.le_of_ble_eq_true rfl⟩ rfl rfl (Nat.le_of_ble_eq_true rfl) (kX3_eastOf v4 v1 σ) (fun y2 => ?_)
  refine q_iload_n (i := 2) (x := v2) dX3_largestGroup_43 rfl 2 rfl ?_
  refine q_isub dX3_largestGroup_44 ?_
  refine q_iload (i := 4) (x := v4) dX3_largestGroup_45 4 rfl ?_
  refine q_iload_n (i := 1) (x := v1) dX3_largestGroup_47 rfl 1 rfl ?_
  refine q_cSp mX3_lowOf [.int v4, .int v1] (st := [.int (y2 - v2), .int (gi σ 61 v4.toNatClampNeg), .ref 44]) dX3_largestGroup_48 (ssX3_191) ⟨Nat.le_of_ble_eq_true rfl, Nat.le_of_ble_eq_true rfl⟩ rfl rfl (Nat.le_of_ble_eq_true rfl) (kX3_lowOf v4 v1 σ) (fun y3 => ?_)
  refine q_iload_n (i := 3) (x := v3) dX3_largestGroup_51 rfl 3 rfl ?_
  refine q_isub dX3_largestGroup_52 ?_
  refine q_cVv mX3_groupLane [.int (gi σ 61 v4.toNatClampNeg), .int (y2 - v2), .int (y3 - v3)] (st := []) dX3_largestGroup_53 (svX3_246) ⟨Nat.le_of_ble_eq_true rfl, Nat.le_of_ble_eq_true rfl⟩ zC_44 rfl rfl rfl (Nat.le_of_ble_eq_true rfl) (kX3_groupLane N (gi σ 61 v4.toNatClampNeg) (y2 - v2) (y3 - v3) σ) (fun y4 => ?_)
  exact q_sub [0, 1, 2, 3, 4] rfl (aX3_largestGroup_b56 N c11 hc11 v1 v2 v3 v4 y4)
def fX3_largestGroup_l11 (N : Nat) : Nat → Int32 → Int32 → Int32 → Int32 → qMem → Option (Int32 × qMem)
  | 0 => fun _ _ _ _ _ => none
  | n + 1 => fun v1 v2 v3 v4 σ => fX3_largestGroup_s11 N (fX3_largestGroup_l11 N n) v1 v2 v3 v4 σ
theorem aX3_largestGroup_l11 (N : Nat) : ∀ (n : Nat) (v1 : Int32) (v2 : Int32) (v3 : Int32) (v4 : Int32) (σ : qMem), qAt wC mX3_largestGroup (ρi) 11 [(0, .ref 44), (1, .int v1), (2, .int v2), (3, .int v3), (4, .int v4)] [] σ (fX3_largestGroup_l11 N n v1 v2 v3 v4 σ) := by
  intro n
  induction n with
  | zero => intro v1 v2 v3 v4 σ; exact q_none
  | succ n ih => intro v1 v2 v3 v4 σ; exact aX3_largestGroup_s11 N (fX3_largestGroup_l11 N n) ih v1 v2 v3 v4 σ

def fX3_largestGroup (N : Nat) (p1 : Int32) (p2 : Int32) (p3 : Int32) (σ : qMem) : Option (Int32 × qMem) :=
  ((fJ7_fill_53178 N 66 81 0 σ).bind fun y1 => (fX3_largestGroup_l11 N N p1 p2 p3 0 y1))
set_option maxRecDepth 20000 in
set_option maxHeartbeats 4000000 in
theorem aX3_largestGroup  (N : Nat) (p1 : Int32) (p2 : Int32) (p3 : Int32)  (σ : qMem) : qAt wC mX3_largestGroup (ρi) 0 [(0, .ref 44), (1, .int p1), (2, .int p2), (3, .int p3)] [] σ (fX3_largestGroup N p1 p2 p3 σ) := by
  unfold fX3_largestGroup
  refine q_aload_n (i := 0) (x := 44) dX3_largestGroup_0 rfl 0 rfl ?_
  refine q_getr (t := 66) dX3_largestGroup_1 foX3_54 zC_44 rfl ?_
  refine q_iconst (v := 0) dX3_largestGroup_4 (by decide) ?_
  refine q_cSv mJ7_fill_53178 [.ref 66, .int 0] (st := []) dX3_largestGroup_5 (ssX3_182) ⟨Nat.le_of_ble_eq_true rfl, Nat.le_of_ble_eq_true rfl⟩ rfl rfl (Nat.le_of_ble_eq_true rfl) (kJ7_fill_53178 N 66 81 0 zC_66 σ) (fun y1 => ?_)
  refine q_iconst (v := 0) dX3_largestGroup_8 (by decide) ?_
  refine q_istore (i := 4) (L' := [(4, .int 0), (0, .ref 44), (1, .int p1), (2, .int p2), (3, .int p3)]) dX3_largestGroup_9 (Nat.le_of_ble_eq_true rfl) rfl ?_
  exact q_sub [1, 2, 3, 4, 0] rfl (aX3_largestGroup_l11 N N p1 p2 p3 0 y1)
theorem kX3_largestGroup  (N : Nat) (p1 : Int32) (p2 : Int32) (p3 : Int32)  (σ : qMem) : qMc wC mX3_largestGroup (ρi) [.ref 44, .int p1, .int p2, .int p3] σ (fX3_largestGroup N p1 p2 p3 σ) := qMc_of (moX3_largestGroup) (Nat.le_of_ble_eq_true rfl) (aX3_largestGroup N p1 p2 p3  σ)

theorem dX5_joinTwo_0 : decode cX5_joinTwo 0 = .ok (.aload_n 0, 1) := by decide +kernel
theorem dX5_joinTwo_1 : decode cX5_joinTwo 1 = .ok (.getfield 38, 3) := by decide +kernel
theorem dX5_joinTwo_4 : decode cX5_joinTwo 4 = .ok (.iconst 2, 1) := by decide +kernel
theorem dX5_joinTwo_5 : decode cX5_joinTwo 5 = .ok (.if_icmp .ge 5, 3) := by decide +kernel
theorem dX5_joinTwo_8 : decode cX5_joinTwo 8 = .ok (.iconst 0, 1) := by decide +kernel
theorem dX5_joinTwo_9 : decode cX5_joinTwo 9 = .ok (.ireturn, 1) := by decide +kernel
theorem dX5_joinTwo_10 : decode cX5_joinTwo 10 = .ok (.aload_n 0, 1) := by decide +kernel
theorem dX5_joinTwo_11 : decode cX5_joinTwo 11 = .ok (.getfield 30, 3) := by decide +kernel
theorem dX5_joinTwo_14 : decode cX5_joinTwo 14 = .ok (.aload_n 0, 1) := by decide +kernel
theorem dX5_joinTwo_15 : decode cX5_joinTwo 15 = .ok (.getfield 38, 3) := by decide +kernel
theorem dX5_joinTwo_18 : decode cX5_joinTwo 18 = .ok (.iconst 2, 1) := by decide +kernel
theorem dX5_joinTwo_19 : decode cX5_joinTwo 19 = .ok (.isub, 1) := by decide +kernel
theorem dX5_joinTwo_20 : decode cX5_joinTwo 20 = .ok (.laload, 1) := by decide +kernel
theorem dX5_joinTwo_21 : decode cX5_joinTwo 21 = .ok (.lstore_n 2, 1) := by decide +kernel
theorem dX5_joinTwo_22 : decode cX5_joinTwo 22 = .ok (.aload_n 0, 1) := by decide +kernel
theorem dX5_joinTwo_23 : decode cX5_joinTwo 23 = .ok (.getfield 30, 3) := by decide +kernel
theorem dX5_joinTwo_26 : decode cX5_joinTwo 26 = .ok (.aload_n 0, 1) := by decide +kernel
theorem dX5_joinTwo_27 : decode cX5_joinTwo 27 = .ok (.getfield 38, 3) := by decide +kernel
theorem dX5_joinTwo_30 : decode cX5_joinTwo 30 = .ok (.iconst 1, 1) := by decide +kernel
theorem dX5_joinTwo_31 : decode cX5_joinTwo 31 = .ok (.isub, 1) := by decide +kernel
theorem dX5_joinTwo_32 : decode cX5_joinTwo 32 = .ok (.laload, 1) := by decide +kernel
theorem dX5_joinTwo_33 : decode cX5_joinTwo 33 = .ok (.lstore 4, 2) := by decide +kernel
theorem dX5_joinTwo_35 : decode cX5_joinTwo 35 = .ok (.iload_n 1, 1) := by decide +kernel
theorem dX5_joinTwo_36 : decode cX5_joinTwo 36 = .ok (.tableswitch 123 2 7 #[40, 49, 58, 67, 89, 106], 40) := by decide +kernel
theorem dX5_joinTwo_76 : decode cX5_joinTwo 76 = .ok (.lload_n 2, 1) := by decide +kernel
theorem dX5_joinTwo_77 : decode cX5_joinTwo 77 = .ok (.lload 4, 2) := by decide +kernel
theorem dX5_joinTwo_79 : decode cX5_joinTwo 79 = .ok (.ladd, 1) := by decide +kernel
theorem dX5_joinTwo_80 : decode cX5_joinTwo 80 = .ok (.lstore 6, 2) := by decide +kernel
theorem dX5_joinTwo_82 : decode cX5_joinTwo 82 = .ok (.goto 91, 3) := by decide +kernel
theorem dX5_joinTwo_85 : decode cX5_joinTwo 85 = .ok (.lload_n 2, 1) := by decide +kernel
theorem dX5_joinTwo_86 : decode cX5_joinTwo 86 = .ok (.lload 4, 2) := by decide +kernel
theorem dX5_joinTwo_88 : decode cX5_joinTwo 88 = .ok (.lsub, 1) := by decide +kernel
theorem dX5_joinTwo_89 : decode cX5_joinTwo 89 = .ok (.lstore 6, 2) := by decide +kernel
theorem dX5_joinTwo_91 : decode cX5_joinTwo 91 = .ok (.goto 82, 3) := by decide +kernel
theorem dX5_joinTwo_94 : decode cX5_joinTwo 94 = .ok (.lload_n 2, 1) := by decide +kernel
theorem dX5_joinTwo_95 : decode cX5_joinTwo 95 = .ok (.lload 4, 2) := by decide +kernel
theorem dX5_joinTwo_97 : decode cX5_joinTwo 97 = .ok (.lmul, 1) := by decide +kernel
theorem dX5_joinTwo_98 : decode cX5_joinTwo 98 = .ok (.lstore 6, 2) := by decide +kernel
theorem dX5_joinTwo_100 : decode cX5_joinTwo 100 = .ok (.goto 73, 3) := by decide +kernel
theorem dX5_joinTwo_103 : decode cX5_joinTwo 103 = .ok (.lload 4, 2) := by decide +kernel
theorem dX5_joinTwo_105 : decode cX5_joinTwo 105 = .ok (.lconst 0, 1) := by decide +kernel
theorem dX5_joinTwo_106 : decode cX5_joinTwo 106 = .ok (.lcmp, 1) := by decide +kernel
theorem dX5_joinTwo_107 : decode cX5_joinTwo 107 = .ok (.ifCond .ne 9, 3) := by decide +kernel
theorem dX5_joinTwo_110 : decode cX5_joinTwo 110 = .ok (.ldc2_w 82, 3) := by decide +kernel
theorem dX5_joinTwo_113 : decode cX5_joinTwo 113 = .ok (.goto 7, 3) := by decide +kernel
theorem dX5_joinTwo_116 : decode cX5_joinTwo 116 = .ok (.lload_n 2, 1) := by decide +kernel
theorem dX5_joinTwo_117 : decode cX5_joinTwo 117 = .ok (.lload 4, 2) := by decide +kernel
theorem dX5_joinTwo_119 : decode cX5_joinTwo 119 = .ok (.ldiv, 1) := by decide +kernel
theorem dX5_joinTwo_120 : decode cX5_joinTwo 120 = .ok (.lstore 6, 2) := by decide +kernel
theorem dX5_joinTwo_122 : decode cX5_joinTwo 122 = .ok (.goto 51, 3) := by decide +kernel
theorem dX5_joinTwo_125 : decode cX5_joinTwo 125 = .ok (.lload_n 2, 1) := by decide +kernel
theorem dX5_joinTwo_126 : decode cX5_joinTwo 126 = .ok (.lload 4, 2) := by decide +kernel
theorem dX5_joinTwo_128 : decode cX5_joinTwo 128 = .ok (.lcmp, 1) := by decide +kernel
theorem dX5_joinTwo_129 : decode cX5_joinTwo 129 = .ok (.ifCond .ge 7, 3) := by decide +kernel
theorem dX5_joinTwo_132 : decode cX5_joinTwo 132 = .ok (.lconst 1, 1) := by decide +kernel
theorem dX5_joinTwo_133 : decode cX5_joinTwo 133 = .ok (.goto 4, 3) := by decide +kernel
theorem dX5_joinTwo_136 : decode cX5_joinTwo 136 = .ok (.lconst 0, 1) := by decide +kernel
theorem dX5_joinTwo_137 : decode cX5_joinTwo 137 = .ok (.lstore 6, 2) := by decide +kernel
theorem dX5_joinTwo_139 : decode cX5_joinTwo 139 = .ok (.goto 34, 3) := by decide +kernel
theorem dX5_joinTwo_142 : decode cX5_joinTwo 142 = .ok (.lload_n 2, 1) := by decide +kernel
theorem dX5_joinTwo_143 : decode cX5_joinTwo 143 = .ok (.lload 4, 2) := by decide +kernel
theorem dX5_joinTwo_145 : decode cX5_joinTwo 145 = .ok (.lcmp, 1) := by decide +kernel
theorem dX5_joinTwo_146 : decode cX5_joinTwo 146 = .ok (.ifCond .le 7, 3) := by decide +kernel
theorem dX5_joinTwo_149 : decode cX5_joinTwo 149 = .ok (.lconst 1, 1) := by decide +kernel
theorem dX5_joinTwo_150 : decode cX5_joinTwo 150 = .ok (.goto 4, 3) := by decide +kernel
theorem dX5_joinTwo_153 : decode cX5_joinTwo 153 = .ok (.lconst 0, 1) := by decide +kernel
theorem dX5_joinTwo_154 : decode cX5_joinTwo 154 = .ok (.lstore 6, 2) := by decide +kernel
theorem dX5_joinTwo_156 : decode cX5_joinTwo 156 = .ok (.goto 17, 3) := by decide +kernel
theorem dX5_joinTwo_159 : decode cX5_joinTwo 159 = .ok (.lload_n 2, 1) := by decide +kernel
theorem dX5_joinTwo_160 : decode cX5_joinTwo 160 = .ok (.lload 4, 2) := by decide +kernel
theorem dX5_joinTwo_162 : decode cX5_joinTwo 162 = .ok (.lcmp, 1) := by decide +kernel
theorem dX5_joinTwo_163 : decode cX5_joinTwo 163 = .ok (.ifCond .ne 7, 3) := by decide +kernel
theorem dX5_joinTwo_166 : decode cX5_joinTwo 166 = .ok (.lconst 1, 1) := by decide +kernel
theorem dX5_joinTwo_167 : decode cX5_joinTwo 167 = .ok (.goto 4, 3) := by decide +kernel
theorem dX5_joinTwo_170 : decode cX5_joinTwo 170 = .ok (.lconst 0, 1) := by decide +kernel
theorem dX5_joinTwo_171 : decode cX5_joinTwo 171 = .ok (.lstore 6, 2) := by decide +kernel
theorem dX5_joinTwo_173 : decode cX5_joinTwo 173 = .ok (.aload_n 0, 1) := by decide +kernel
theorem dX5_joinTwo_174 : decode cX5_joinTwo 174 = .ok (.dup, 1) := by decide +kernel
theorem dX5_joinTwo_175 : decode cX5_joinTwo 175 = .ok (.getfield 38, 3) := by decide +kernel
theorem dX5_joinTwo_178 : decode cX5_joinTwo 178 = .ok (.iconst 1, 1) := by decide +kernel
theorem dX5_joinTwo_179 : decode cX5_joinTwo 179 = .ok (.isub, 1) := by decide +kernel
theorem dX5_joinTwo_180 : decode cX5_joinTwo 180 = .ok (.putfield 38, 3) := by decide +kernel
theorem dX5_joinTwo_183 : decode cX5_joinTwo 183 = .ok (.aload_n 0, 1) := by decide +kernel
theorem dX5_joinTwo_184 : decode cX5_joinTwo 184 = .ok (.getfield 30, 3) := by decide +kernel
theorem dX5_joinTwo_187 : decode cX5_joinTwo 187 = .ok (.aload_n 0, 1) := by decide +kernel
theorem dX5_joinTwo_188 : decode cX5_joinTwo 188 = .ok (.getfield 38, 3) := by decide +kernel
theorem dX5_joinTwo_191 : decode cX5_joinTwo 191 = .ok (.iconst 1, 1) := by decide +kernel
theorem dX5_joinTwo_192 : decode cX5_joinTwo 192 = .ok (.isub, 1) := by decide +kernel
theorem dX5_joinTwo_193 : decode cX5_joinTwo 193 = .ok (.lload 6, 2) := by decide +kernel
theorem dX5_joinTwo_195 : decode cX5_joinTwo 195 = .ok (.lastore, 1) := by decide +kernel
theorem dX5_joinTwo_196 : decode cX5_joinTwo 196 = .ok (.lload 6, 2) := by decide +kernel
theorem dX5_joinTwo_198 : decode cX5_joinTwo 198 = .ok (.ldc2_w 84, 3) := by decide +kernel
theorem dX5_joinTwo_201 : decode cX5_joinTwo 201 = .ok (.lcmp, 1) := by decide +kernel
theorem dX5_joinTwo_202 : decode cX5_joinTwo 202 = .ok (.ifCond .lt 16, 3) := by decide +kernel
theorem dX5_joinTwo_205 : decode cX5_joinTwo 205 = .ok (.lload 6, 2) := by decide +kernel
theorem dX5_joinTwo_207 : decode cX5_joinTwo 207 = .ok (.ldc2_w 86, 3) := by decide +kernel
theorem dX5_joinTwo_210 : decode cX5_joinTwo 210 = .ok (.lcmp, 1) := by decide +kernel
theorem dX5_joinTwo_211 : decode cX5_joinTwo 211 = .ok (.ifCond .gt 7, 3) := by decide +kernel
theorem dX5_joinTwo_214 : decode cX5_joinTwo 214 = .ok (.iconst 1, 1) := by decide +kernel
theorem dX5_joinTwo_215 : decode cX5_joinTwo 215 = .ok (.goto 4, 3) := by decide +kernel
theorem dX5_joinTwo_218 : decode cX5_joinTwo 218 = .ok (.iconst 0, 1) := by decide +kernel
theorem dX5_joinTwo_219 : decode cX5_joinTwo 219 = .ok (.ireturn, 1) := by decide +kernel
def fX5_joinTwo_b218 (k : Nat) (σ : qMem) : Option (Int32 × qMem) :=
  (some (0, σ))
set_option maxRecDepth 20000 in
set_option maxHeartbeats 4000000 in
theorem aX5_joinTwo_b218 (k : Nat) (hk : iLaw k) (σ : qMem) : qAt wC mX5_joinTwo (ρi) 218 [] [] σ (fX5_joinTwo_b218 k σ) := by
  unfold fX5_joinTwo_b218
  refine q_iconst (v := 0) dX5_joinTwo_218 (by decide) ?_
  exact q_iretz (y := (0, σ)) dX5_joinTwo_219 rfl rfl rfl

def fX5_joinTwo_b173 (k : Nat) (v6 : Int64) (σ : qMem) : Option (Int32 × qMem) :=
  (nmM (si σ k 6 ((gi σ k 6) - 1)) fun s9 => (if ck ((gi s9 k 6) - 1) 64 = true then (nmM (sl s9 (k + 6) ((gi s9 k 6) - 1).toNatClampNeg v6) fun s10 => (if (lg_cmp v6 (-1000000000)) < 0 then (fX5_joinTwo_b218 k s10) else (if 0 < (lg_cmp v6 1000000000) then (fX5_joinTwo_b218 k s10) else (some (1, s10))))) else none))
set_option maxRecDepth 20000 in
set_option maxHeartbeats 4000000 in
theorem aX5_joinTwo_b173 (k : Nat) (hk : iLaw k) (v6 : Int64) (σ : qMem) : qAt wC mX5_joinTwo (ρi) 173 [(0, .ref k), (6, .long v6)] [] σ (fX5_joinTwo_b173 k v6 σ) := by
  unfold fX5_joinTwo_b173
  refine q_aload_n (i := 0) (x := k) dX5_joinTwo_173 rfl 0 rfl ?_
  refine q_dup dX5_joinTwo_174 rfl ?_
  refine q_geti dX5_joinTwo_175 foX5_38 hk.1 rfl ?_
  refine q_iconst (v := 1) dX5_joinTwo_178 (by decide) ?_
  refine q_isub dX5_joinTwo_179 ?_
  refine q_puti dX5_joinTwo_180 foX5_38 fwX5_6 hk.1 rfl ?_
  refine q_nmM (fun s9 => ?_)
  refine q_aload_n (i := 0) (x := k) dX5_joinTwo_183 rfl 0 rfl ?_
  refine q_getr (t := (k + 6)) dX5_joinTwo_184 foX5_30 hk.1 rfl ?_
  refine q_aload_n (i := 0) (x := k) dX5_joinTwo_187 rfl 0 rfl ?_
  refine q_geti dX5_joinTwo_188 foX5_38 hk.1 rfl ?_
  refine q_iconst (v := 1) dX5_joinTwo_191 (by decide) ?_
  refine q_isub dX5_joinTwo_192 ?_
  refine q_lload (i := 6) (x := v6) dX5_joinTwo_193 1 rfl ?_
  refine q_last dX5_joinTwo_195 hk.2.2.2.2.2 ?_
  refine q_nmM (fun s10 => ?_)
  refine q_lload (i := 6) (x := v6) dX5_joinTwo_196 1 rfl ?_
  refine q_ldc2_w (v := (-1000000000)) dX5_joinTwo_198 (g_5 146 (by decide +kernel) rfl) ?_
  refine q_lcmp dX5_joinTwo_201 ?_
  refine q_if_lt (tgt := 218) dX5_joinTwo_202 (by decide) ?_ ?_
  · exact q_sub [] rfl (aX5_joinTwo_b218 k hk s10)
  refine q_lload (i := 6) (x := v6) dX5_joinTwo_205 1 rfl ?_
  refine q_ldc2_w (v := 1000000000) dX5_joinTwo_207 (g_5 147 (by decide +kernel) rfl) ?_
  refine q_lcmp dX5_joinTwo_210 ?_
  refine q_if_gt (tgt := 218) dX5_joinTwo_211 (by decide) ?_ ?_
  · exact q_sub [] rfl (aX5_joinTwo_b218 k hk s10)
  refine q_iconst (v := 1) dX5_joinTwo_214 (by decide) ?_
  refine q_goto (tgt := 219) dX5_joinTwo_215 (by decide) ?_
  exact q_iretz (y := (1, s10)) dX5_joinTwo_219 rfl rfl rfl

def fX5_joinTwo_b120 (k : Nat) (u0 : Int64) (σ : qMem) : Option (Int32 × qMem) :=
  (fX5_joinTwo_b173 k u0 σ)
set_option maxRecDepth 20000 in
set_option maxHeartbeats 4000000 in
theorem aX5_joinTwo_b120 (k : Nat) (hk : iLaw k) (u0 : Int64) (σ : qMem) : qAt wC mX5_joinTwo (ρi) 120 [(0, .ref k)] [.long u0] σ (fX5_joinTwo_b120 k u0 σ) := by
  unfold fX5_joinTwo_b120
  refine q_lstore (i := 6) (L' := [(6, .long u0), (0, .ref k)]) dX5_joinTwo_120 (Nat.le_of_ble_eq_true rfl) rfl ?_
  refine q_goto (tgt := 173) dX5_joinTwo_122 (by decide) ?_
  exact q_sub [1, 0] rfl (aX5_joinTwo_b173 k hk u0 σ)

def fX5_joinTwo_b137 (k : Nat) (u0 : Int64) (σ : qMem) : Option (Int32 × qMem) :=
  (fX5_joinTwo_b173 k u0 σ)
set_option maxRecDepth 20000 in
set_option maxHeartbeats 4000000 in
theorem aX5_joinTwo_b137 (k : Nat) (hk : iLaw k) (u0 : Int64) (σ : qMem) : qAt wC mX5_joinTwo (ρi) 137 [(0, .ref k)] [.long u0] σ (fX5_joinTwo_b137 k u0 σ) := by
  unfold fX5_joinTwo_b137
  refine q_lstore (i := 6) (L' := [(6, .long u0), (0, .ref k)]) dX5_joinTwo_137 (Nat.le_of_ble_eq_true rfl) rfl ?_
  refine q_goto (tgt := 173) dX5_joinTwo_139 (by decide) ?_
  exact q_sub [1, 0] rfl (aX5_joinTwo_b173 k hk u0 σ)

def fX5_joinTwo_b154 (k : Nat) (u0 : Int64) (σ : qMem) : Option (Int32 × qMem) :=
  (fX5_joinTwo_b173 k u0 σ)
set_option maxRecDepth 20000 in
set_option maxHeartbeats 4000000 in
theorem aX5_joinTwo_b154 (k : Nat) (hk : iLaw k) (u0 : Int64) (σ : qMem) : qAt wC mX5_joinTwo (ρi) 154 [(0, .ref k)] [.long u0] σ (fX5_joinTwo_b154 k u0 σ) := by
  unfold fX5_joinTwo_b154
  refine q_lstore (i := 6) (L' := [(6, .long u0), (0, .ref k)]) dX5_joinTwo_154 (Nat.le_of_ble_eq_true rfl) rfl ?_
  refine q_goto (tgt := 173) dX5_joinTwo_156 (by decide) ?_
  exact q_sub [1, 0] rfl (aX5_joinTwo_b173 k hk u0 σ)

def fX5_joinTwo_b171 (k : Nat) (u0 : Int64) (σ : qMem) : Option (Int32 × qMem) :=
  (fX5_joinTwo_b173 k u0 σ)
set_option maxRecDepth 20000 in
set_option maxHeartbeats 4000000 in
theorem aX5_joinTwo_b171 (k : Nat) (hk : iLaw k) (u0 : Int64) (σ : qMem) : qAt wC mX5_joinTwo (ρi) 171 [(0, .ref k)] [.long u0] σ (fX5_joinTwo_b171 k u0 σ) := by
  unfold fX5_joinTwo_b171
  refine q_lstore (i := 6) (L' := [(6, .long u0), (0, .ref k)]) dX5_joinTwo_171 (Nat.le_of_ble_eq_true rfl) rfl ?_
  exact q_sub [1, 0] rfl (aX5_joinTwo_b173 k hk u0 σ)

def fX5_joinTwo (k : Nat) (p1 : Int32) (σ : qMem) : Option (Int32 × qMem) :=
  (if 2 ≤ (gi σ k 6) then (if ck ((gi σ k 6) - 2) 64 = true then (nmL (gl σ (k + 6) ((gi σ k 6) - 2).toNatClampNeg) fun x1 => (if ck ((gi σ k 6) - 1) 64 = true then (nmL (gl σ (k + 6) ((gi σ k 6) - 1).toNatClampNeg) fun x2 => (if p1 = 2 then (fX5_joinTwo_b173 k (x1 + x2) σ) else (if p1 = 3 then (fX5_joinTwo_b173 k (x1 - x2) σ) else (if p1 = 4 then (fX5_joinTwo_b173 k (x1 * x2) σ) else (if p1 = 5 then (if (lg_cmp x2 0) = 0 then (fX5_joinTwo_b120 k 1000000001 σ) else (if x2 = 0 then none else (fX5_joinTwo_b120 k (x1 / x2) σ))) else (if p1 = 6 then (if 0 ≤ (lg_cmp x1 x2) then (fX5_joinTwo_b137 k 0 σ) else (fX5_joinTwo_b137 k 1 σ)) else (if p1 = 7 then (if (lg_cmp x1 x2) ≤ 0 then (fX5_joinTwo_b154 k 0 σ) else (fX5_joinTwo_b154 k 1 σ)) else (if (lg_cmp x1 x2) = 0 then (fX5_joinTwo_b171 k 1 σ) else (fX5_joinTwo_b171 k 0 σ))))))))) else none)) else none) else (some (0, σ)))
set_option maxRecDepth 20000 in
set_option maxHeartbeats 4000000 in
theorem aX5_joinTwo  (k : Nat) (p1 : Int32) (hk : iLaw k) (σ : qMem) : qAt wC mX5_joinTwo (ρi) 0 [(0, .ref k), (1, .int p1)] [] σ (fX5_joinTwo k p1 σ) := by
  unfold fX5_joinTwo
  refine q_aload_n (i := 0) (x := k) dX5_joinTwo_0 rfl 0 rfl ?_
  refine q_geti dX5_joinTwo_1 foX5_38 hk.1 rfl ?_
  refine q_iconst (v := 2) dX5_joinTwo_4 (by decide) ?_
  refine q_icmp_ge (tgt := 10) dX5_joinTwo_5 (by decide) ?_ ?_
  · refine q_aload_n (i := 0) (x := k) dX5_joinTwo_10 rfl 0 rfl ?_
    refine q_getr (t := (k + 6)) dX5_joinTwo_11 foX5_30 hk.1 rfl ?_
    refine q_aload_n (i := 0) (x := k) dX5_joinTwo_14 rfl 0 rfl ?_
    refine q_geti dX5_joinTwo_15 foX5_38 hk.1 rfl ?_
    refine q_iconst (v := 2) dX5_joinTwo_18 (by decide) ?_
    refine q_isub dX5_joinTwo_19 ?_
    refine q_lald dX5_joinTwo_20 hk.2.2.2.2.2 ?_
    refine q_nmL (fun x1 => ?_)
    refine q_lstore_n (i := 2) (L' := [(2, .long x1), (0, .ref k), (1, .int p1)]) dX5_joinTwo_21 rfl (Nat.le_of_ble_eq_true rfl) rfl ?_
    refine q_aload_n (i := 0) (x := k) dX5_joinTwo_22 rfl 1 rfl ?_
    refine q_getr (t := (k + 6)) dX5_joinTwo_23 foX5_30 hk.1 rfl ?_
    refine q_aload_n (i := 0) (x := k) dX5_joinTwo_26 rfl 1 rfl ?_
    refine q_geti dX5_joinTwo_27 foX5_38 hk.1 rfl ?_
    refine q_iconst (v := 1) dX5_joinTwo_30 (by decide) ?_
    refine q_isub dX5_joinTwo_31 ?_
    refine q_lald dX5_joinTwo_32 hk.2.2.2.2.2 ?_
    refine q_nmL (fun x2 => ?_)
    refine q_lstore (i := 4) (L' := [(4, .long x2), (2, .long x1), (0, .ref k), (1, .int p1)]) dX5_joinTwo_33 (Nat.le_of_ble_eq_true rfl) rfl ?_
    refine q_iload_n (i := 1) (x := p1) dX5_joinTwo_35 rfl 3 rfl ?_
    refine q_tsw (tgt := 76) 2 dX5_joinTwo_36 (by decide) (by decide) rfl (by decide) ?_ (fun hs3 => ?_)
    · refine q_lload_n (i := 2) (x := x1) dX5_joinTwo_76 rfl 1 rfl ?_
      refine q_lload (i := 4) (x := x2) dX5_joinTwo_77 0 rfl ?_
      refine q_ladd dX5_joinTwo_79 ?_
      refine q_lstore (i := 6) (L' := [(6, .long (x1 + x2)), (4, .long x2), (2, .long x1), (0, .ref k), (1, .int p1)]) dX5_joinTwo_80 (Nat.le_of_ble_eq_true rfl) rfl ?_
      refine q_goto (tgt := 173) dX5_joinTwo_82 (by decide) ?_
      exact q_sub [3, 0] rfl (aX5_joinTwo_b173 k hk (x1 + x2) σ)
    refine q_tsw (tgt := 85) 3 dX5_joinTwo_36 (by decide) (by decide) rfl (by decide) ?_ (fun hs4 => ?_)
    · refine q_lload_n (i := 2) (x := x1) dX5_joinTwo_85 rfl 1 rfl ?_
      refine q_lload (i := 4) (x := x2) dX5_joinTwo_86 0 rfl ?_
      refine q_lsub dX5_joinTwo_88 ?_
      refine q_lstore (i := 6) (L' := [(6, .long (x1 - x2)), (4, .long x2), (2, .long x1), (0, .ref k), (1, .int p1)]) dX5_joinTwo_89 (Nat.le_of_ble_eq_true rfl) rfl ?_
      refine q_goto (tgt := 173) dX5_joinTwo_91 (by decide) ?_
      exact q_sub [3, 0] rfl (aX5_joinTwo_b173 k hk (x1 - x2) σ)
    refine q_tsw (tgt := 94) 4 dX5_joinTwo_36 (by decide) (by decide) rfl (by decide) ?_ (fun hs5 => ?_)
    · refine q_lload_n (i := 2) (x := x1) dX5_joinTwo_94 rfl 1 rfl ?_
      refine q_lload (i := 4) (x := x2) dX5_joinTwo_95 0 rfl ?_
      refine q_lmul dX5_joinTwo_97 ?_
      refine q_lstore (i := 6) (L' := [(6, .long (x1 * x2)), (4, .long x2), (2, .long x1), (0, .ref k), (1, .int p1)]) dX5_joinTwo_98 (Nat.le_of_ble_eq_true rfl) rfl ?_
      refine q_goto (tgt := 173) dX5_joinTwo_100 (by decide) ?_
      exact q_sub [3, 0] rfl (aX5_joinTwo_b173 k hk (x1 * x2) σ)
    refine q_tsw (tgt := 103) 5 dX5_joinTwo_36 (by decide) (by decide) rfl (by decide) ?_ (fun hs6 => ?_)
    · refine q_lload (i := 4) (x := x2) dX5_joinTwo_103 0 rfl ?_
      refine q_lconst (v := 0) dX5_joinTwo_105 (by decide) ?_
      refine q_lcmp dX5_joinTwo_106 ?_
      refine q_if_ne (tgt := 116) dX5_joinTwo_107 (by decide) ?_ ?_
      · refine q_lload_n (i := 2) (x := x1) dX5_joinTwo_116 rfl 1 rfl ?_
        refine q_lload (i := 4) (x := x2) dX5_joinTwo_117 0 rfl ?_
        refine q_ldivC dX5_joinTwo_119 ?_
        exact q_sub [2] rfl (aX5_joinTwo_b120 k hk (x1 / x2) σ)
      refine q_ldc2_w (v := 1000000001) dX5_joinTwo_110 (g_5 145 (by decide +kernel) rfl) ?_
      refine q_goto (tgt := 120) dX5_joinTwo_113 (by decide) ?_
      exact q_sub [2] rfl (aX5_joinTwo_b120 k hk 1000000001 σ)
    refine q_tsw (tgt := 125) 6 dX5_joinTwo_36 (by decide) (by decide) rfl (by decide) ?_ (fun hs7 => ?_)
    · refine q_lload_n (i := 2) (x := x1) dX5_joinTwo_125 rfl 1 rfl ?_
      refine q_lload (i := 4) (x := x2) dX5_joinTwo_126 0 rfl ?_
      refine q_lcmp dX5_joinTwo_128 ?_
      refine q_if_ge (tgt := 136) dX5_joinTwo_129 (by decide) ?_ ?_
      · refine q_lconst (v := 0) dX5_joinTwo_136 (by decide) ?_
        exact q_sub [2] rfl (aX5_joinTwo_b137 k hk 0 σ)
      refine q_lconst (v := 1) dX5_joinTwo_132 (by decide) ?_
      refine q_goto (tgt := 137) dX5_joinTwo_133 (by decide) ?_
      exact q_sub [2] rfl (aX5_joinTwo_b137 k hk 1 σ)
    refine q_tsw (tgt := 142) 7 dX5_joinTwo_36 (by decide) (by decide) rfl (by decide) ?_ (fun hs8 => ?_)
    · refine q_lload_n (i := 2) (x := x1) dX5_joinTwo_142 rfl 1 rfl ?_
      refine q_lload (i := 4) (x := x2) dX5_joinTwo_143 0 rfl ?_
      refine q_lcmp dX5_joinTwo_145 ?_
      refine q_if_le (tgt := 153) dX5_joinTwo_146 (by decide) ?_ ?_
      · refine q_lconst (v := 0) dX5_joinTwo_153 (by decide) ?_
        exact q_sub [2] rfl (aX5_joinTwo_b154 k hk 0 σ)
      refine q_lconst (v := 1) dX5_joinTwo_149 (by decide) ?_
      refine q_goto (tgt := 154) dX5_joinTwo_150 (by decide) ?_
      exact q_sub [2] rfl (aX5_joinTwo_b154 k hk 1 σ)
    refine q_tswD (tgt := 159) dX5_joinTwo_36 (swoutL_2_6 hs3 hs4 hs5 hs6 hs7 hs8) (by decide) ?_
    refine q_lload_n (i := 2) (x := x1) dX5_joinTwo_159 rfl 1 rfl ?_
    refine q_lload (i := 4) (x := x2) dX5_joinTwo_160 0 rfl ?_
    refine q_lcmp dX5_joinTwo_162 ?_
    refine q_if_ne (tgt := 170) dX5_joinTwo_163 (by decide) ?_ ?_
    · refine q_lconst (v := 0) dX5_joinTwo_170 (by decide) ?_
      exact q_sub [2] rfl (aX5_joinTwo_b171 k hk 0 σ)
    refine q_lconst (v := 1) dX5_joinTwo_166 (by decide) ?_
    refine q_goto (tgt := 171) dX5_joinTwo_167 (by decide) ?_
    exact q_sub [2] rfl (aX5_joinTwo_b171 k hk 1 σ)
  refine q_iconst (v := 0) dX5_joinTwo_8 (by decide) ?_
  exact q_iretz (y := (0, σ)) dX5_joinTwo_9 rfl rfl rfl
theorem kX5_joinTwo  (k : Nat) (p1 : Int32) (hk : iLaw k) (σ : qMem) : qMc wC mX5_joinTwo (ρi) [.ref k, .int p1] σ (fX5_joinTwo k p1 σ) := qMc_of (moX5_joinTwo) (Nat.le_of_ble_eq_true rfl) (aX5_joinTwo k p1 hk σ)

theorem dX5_lay_0 : decode cX5_lay 0 = .ok (.aload_n 0, 1) := by decide +kernel
theorem dX5_lay_1 : decode cX5_lay 1 = .ok (.getfield 38, 3) := by decide +kernel
theorem dX5_lay_4 : decode cX5_lay 4 = .ok (.aload_n 0, 1) := by decide +kernel
theorem dX5_lay_5 : decode cX5_lay 5 = .ok (.getfield 30, 3) := by decide +kernel
theorem dX5_lay_8 : decode cX5_lay 8 = .ok (.arraylength, 1) := by decide +kernel
theorem dX5_lay_9 : decode cX5_lay 9 = .ok (.if_icmp .ge 23, 3) := by decide +kernel
theorem dX5_lay_12 : decode cX5_lay 12 = .ok (.aload_n 0, 1) := by decide +kernel
theorem dX5_lay_13 : decode cX5_lay 13 = .ok (.getfield 30, 3) := by decide +kernel
theorem dX5_lay_16 : decode cX5_lay 16 = .ok (.aload_n 0, 1) := by decide +kernel
theorem dX5_lay_17 : decode cX5_lay 17 = .ok (.getfield 38, 3) := by decide +kernel
theorem dX5_lay_20 : decode cX5_lay 20 = .ok (.lload_n 1, 1) := by decide +kernel
theorem dX5_lay_21 : decode cX5_lay 21 = .ok (.lastore, 1) := by decide +kernel
theorem dX5_lay_22 : decode cX5_lay 22 = .ok (.aload_n 0, 1) := by decide +kernel
theorem dX5_lay_23 : decode cX5_lay 23 = .ok (.dup, 1) := by decide +kernel
theorem dX5_lay_24 : decode cX5_lay 24 = .ok (.getfield 38, 3) := by decide +kernel
theorem dX5_lay_27 : decode cX5_lay 27 = .ok (.iconst 1, 1) := by decide +kernel
theorem dX5_lay_28 : decode cX5_lay 28 = .ok (.iadd, 1) := by decide +kernel
theorem dX5_lay_29 : decode cX5_lay 29 = .ok (.putfield 38, 3) := by decide +kernel
theorem dX5_lay_32 : decode cX5_lay 32 = .ok (.return_, 1) := by decide +kernel

def fX5_lay (k : Nat) (p1 : Int64) (σ : qMem) : Option qMem :=
  (if 64 ≤ (gi σ k 6) then (some σ) else (if ck (gi σ k 6) 64 = true then (nmM (sl σ (k + 6) (gi σ k 6).toNatClampNeg p1) fun s1 => (nmM (si s1 k 6 ((gi s1 k 6) + 1)) fun s2 => (some s2))) else none))
set_option maxRecDepth 20000 in
set_option maxHeartbeats 4000000 in
theorem aX5_lay  (k : Nat) (p1 : Int64) (hk : iLaw k) (σ : qMem) : qAt wC mX5_lay (ρv) 0 [(0, .ref k), (1, .long p1)] [] σ (fX5_lay k p1 σ) := by
  unfold fX5_lay
  refine q_aload_n (i := 0) (x := k) dX5_lay_0 rfl 0 rfl ?_
  refine q_geti dX5_lay_1 foX5_38 hk.1 rfl ?_
  refine q_aload_n (i := 0) (x := k) dX5_lay_4 rfl 0 rfl ?_
  refine q_getr (t := (k + 6)) dX5_lay_5 foX5_30 hk.1 rfl ?_
  refine q_alen (t0 := 1) (v := 64) dX5_lay_8 hk.2.2.2.2.2 (fun _ => rfl) (by decide) ?_
  refine q_icmp_ge (tgt := 32) dX5_lay_9 (by decide) ?_ ?_
  · exact q_vret (y := σ) dX5_lay_32 rfl rfl
  refine q_aload_n (i := 0) (x := k) dX5_lay_12 rfl 0 rfl ?_
  refine q_getr (t := (k + 6)) dX5_lay_13 foX5_30 hk.1 rfl ?_
  refine q_aload_n (i := 0) (x := k) dX5_lay_16 rfl 0 rfl ?_
  refine q_geti dX5_lay_17 foX5_38 hk.1 rfl ?_
  refine q_lload_n (i := 1) (x := p1) dX5_lay_20 rfl 1 rfl ?_
  refine q_last dX5_lay_21 hk.2.2.2.2.2 ?_
  refine q_nmM (fun s1 => ?_)
  refine q_aload_n (i := 0) (x := k) dX5_lay_22 rfl 0 rfl ?_
  refine q_dup dX5_lay_23 rfl ?_
  refine q_geti dX5_lay_24 foX5_38 hk.1 rfl ?_
  refine q_iconst (v := 1) dX5_lay_27 (by decide) ?_
  refine q_iadd dX5_lay_28 ?_
  refine q_puti dX5_lay_29 foX5_38 fwX5_6 hk.1 rfl ?_
  refine q_nmM (fun s2 => ?_)
  exact q_vret (y := s2) dX5_lay_32 rfl rfl
theorem kX5_lay  (k : Nat) (p1 : Int64) (hk : iLaw k) (σ : qMem) : qMc wC mX5_lay (ρv) [.ref k, .long p1] σ (fX5_lay k p1 σ) := qMc_of (moX5_lay) (Nat.le_of_ble_eq_true rfl) (aX5_lay k p1 hk σ)

theorem dX5_work_0 : decode cX5_work 0 = .ok (.aload_n 0, 1) := by decide +kernel
theorem dX5_work_1 : decode cX5_work 1 = .ok (.iconst 0, 1) := by decide +kernel
theorem dX5_work_2 : decode cX5_work 2 = .ok (.putfield 38, 3) := by decide +kernel
theorem dX5_work_5 : decode cX5_work 5 = .ok (.iconst 0, 1) := by decide +kernel
theorem dX5_work_6 : decode cX5_work 6 = .ok (.iload_n 1, 1) := by decide +kernel
theorem dX5_work_7 : decode cX5_work 7 = .ok (.invokestatic 67, 3) := by decide +kernel
theorem dX5_work_10 : decode cX5_work 10 = .ok (.istore_n 3, 1) := by decide +kernel
theorem dX5_work_11 : decode cX5_work 11 = .ok (.iload_n 3, 1) := by decide +kernel
theorem dX5_work_12 : decode cX5_work 12 = .ok (.iload_n 2, 1) := by decide +kernel
theorem dX5_work_13 : decode cX5_work 13 = .ok (.if_icmp .ge 211, 3) := by decide +kernel
theorem dX5_work_16 : decode cX5_work 16 = .ok (.iload_n 3, 1) := by decide +kernel
theorem dX5_work_17 : decode cX5_work 17 = .ok (.aload_n 0, 1) := by decide +kernel
theorem dX5_work_18 : decode cX5_work 18 = .ok (.getfield 34, 3) := by decide +kernel
theorem dX5_work_21 : decode cX5_work 21 = .ok (.if_icmp .ge 203, 3) := by decide +kernel
theorem dX5_work_24 : decode cX5_work 24 = .ok (.aload_n 0, 1) := by decide +kernel
theorem dX5_work_25 : decode cX5_work 25 = .ok (.getfield 20, 3) := by decide +kernel
theorem dX5_work_28 : decode cX5_work 28 = .ok (.iload_n 3, 1) := by decide +kernel
theorem dX5_work_29 : decode cX5_work 29 = .ok (.iaload, 1) := by decide +kernel
theorem dX5_work_30 : decode cX5_work 30 = .ok (.istore 4, 2) := by decide +kernel
theorem dX5_work_32 : decode cX5_work 32 = .ok (.iload 4, 2) := by decide +kernel
theorem dX5_work_34 : decode cX5_work 34 = .ok (.ifCond .ne 17, 3) := by decide +kernel
theorem dX5_work_37 : decode cX5_work 37 = .ok (.aload_n 0, 1) := by decide +kernel
theorem dX5_work_38 : decode cX5_work 38 = .ok (.aload_n 0, 1) := by decide +kernel
theorem dX5_work_39 : decode cX5_work 39 = .ok (.getfield 24, 3) := by decide +kernel
theorem dX5_work_42 : decode cX5_work 42 = .ok (.iload_n 3, 1) := by decide +kernel
theorem dX5_work_43 : decode cX5_work 43 = .ok (.iaload, 1) := by decide +kernel
theorem dX5_work_44 : decode cX5_work 44 = .ok (.i2l, 1) := by decide +kernel
theorem dX5_work_45 : decode cX5_work 45 = .ok (.invokevirtual 72, 3) := by decide +kernel
theorem dX5_work_48 : decode cX5_work 48 = .ok (.goto 170, 3) := by decide +kernel
theorem dX5_work_51 : decode cX5_work 51 = .ok (.iload 4, 2) := by decide +kernel
theorem dX5_work_53 : decode cX5_work 53 = .ok (.iconst 1, 1) := by decide +kernel
theorem dX5_work_54 : decode cX5_work 54 = .ok (.if_icmp .ne 30, 3) := by decide +kernel
theorem dX5_work_57 : decode cX5_work 57 = .ok (.aload_n 0, 1) := by decide +kernel
theorem dX5_work_58 : decode cX5_work 58 = .ok (.aload_n 0, 1) := by decide +kernel
theorem dX5_work_59 : decode cX5_work 59 = .ok (.getfield 27, 3) := by decide +kernel
theorem dX5_work_62 : decode cX5_work 62 = .ok (.aload_n 0, 1) := by decide +kernel
theorem dX5_work_63 : decode cX5_work 63 = .ok (.getfield 24, 3) := by decide +kernel
theorem dX5_work_66 : decode cX5_work 66 = .ok (.iload_n 3, 1) := by decide +kernel
theorem dX5_work_67 : decode cX5_work 67 = .ok (.iaload, 1) := by decide +kernel
theorem dX5_work_68 : decode cX5_work 68 = .ok (.aload_n 0, 1) := by decide +kernel
theorem dX5_work_69 : decode cX5_work 69 = .ok (.getfield 27, 3) := by decide +kernel
theorem dX5_work_72 : decode cX5_work 72 = .ok (.arraylength, 1) := by decide +kernel
theorem dX5_work_73 : decode cX5_work 73 = .ok (.invokestatic 76, 3) := by decide +kernel
theorem dX5_work_76 : decode cX5_work 76 = .ok (.iaload, 1) := by decide +kernel
theorem dX5_work_77 : decode cX5_work 77 = .ok (.i2l, 1) := by decide +kernel
theorem dX5_work_78 : decode cX5_work 78 = .ok (.invokevirtual 72, 3) := by decide +kernel
theorem dX5_work_81 : decode cX5_work 81 = .ok (.goto 137, 3) := by decide +kernel
theorem dX5_work_84 : decode cX5_work 84 = .ok (.aload_n 0, 1) := by decide +kernel
theorem dX5_work_85 : decode cX5_work 85 = .ok (.getfield 38, 3) := by decide +kernel
theorem dX5_work_88 : decode cX5_work 88 = .ok (.iconst 1, 1) := by decide +kernel
theorem dX5_work_89 : decode cX5_work 89 = .ok (.if_icmp .ge 5, 3) := by decide +kernel
theorem dX5_work_92 : decode cX5_work 92 = .ok (.iconst 0, 1) := by decide +kernel
theorem dX5_work_93 : decode cX5_work 93 = .ok (.ireturn, 1) := by decide +kernel
theorem dX5_work_94 : decode cX5_work 94 = .ok (.iload 4, 2) := by decide +kernel
theorem dX5_work_96 : decode cX5_work 96 = .ok (.bipush 9, 2) := by decide +kernel
theorem dX5_work_98 : decode cX5_work 98 = .ok (.if_icmp .ne 30, 3) := by decide +kernel
theorem dX5_work_101 : decode cX5_work 101 = .ok (.aload_n 0, 1) := by decide +kernel
theorem dX5_work_102 : decode cX5_work 102 = .ok (.getfield 30, 3) := by decide +kernel
theorem dX5_work_105 : decode cX5_work 105 = .ok (.aload_n 0, 1) := by decide +kernel
theorem dX5_work_106 : decode cX5_work 106 = .ok (.getfield 38, 3) := by decide +kernel
theorem dX5_work_109 : decode cX5_work 109 = .ok (.iconst 1, 1) := by decide +kernel
theorem dX5_work_110 : decode cX5_work 110 = .ok (.isub, 1) := by decide +kernel
theorem dX5_work_111 : decode cX5_work 111 = .ok (.lconst 1, 1) := by decide +kernel
theorem dX5_work_112 : decode cX5_work 112 = .ok (.aload_n 0, 1) := by decide +kernel
theorem dX5_work_113 : decode cX5_work 113 = .ok (.getfield 30, 3) := by decide +kernel
theorem dX5_work_116 : decode cX5_work 116 = .ok (.aload_n 0, 1) := by decide +kernel
theorem dX5_work_117 : decode cX5_work 117 = .ok (.getfield 38, 3) := by decide +kernel
theorem dX5_work_120 : decode cX5_work 120 = .ok (.iconst 1, 1) := by decide +kernel
theorem dX5_work_121 : decode cX5_work 121 = .ok (.isub, 1) := by decide +kernel
theorem dX5_work_122 : decode cX5_work 122 = .ok (.laload, 1) := by decide +kernel
theorem dX5_work_123 : decode cX5_work 123 = .ok (.lsub, 1) := by decide +kernel
theorem dX5_work_124 : decode cX5_work 124 = .ok (.lastore, 1) := by decide +kernel
theorem dX5_work_125 : decode cX5_work 125 = .ok (.goto 93, 3) := by decide +kernel
theorem dX5_work_128 : decode cX5_work 128 = .ok (.iload 4, 2) := by decide +kernel
theorem dX5_work_130 : decode cX5_work 130 = .ok (.bipush 10, 2) := by decide +kernel
theorem dX5_work_132 : decode cX5_work 132 = .ok (.if_icmp .eq 10, 3) := by decide +kernel
theorem dX5_work_135 : decode cX5_work 135 = .ok (.iload 4, 2) := by decide +kernel
theorem dX5_work_137 : decode cX5_work 137 = .ok (.bipush 11, 2) := by decide +kernel
theorem dX5_work_139 : decode cX5_work 139 = .ok (.if_icmp .ne 68, 3) := by decide +kernel
theorem dX5_work_142 : decode cX5_work 142 = .ok (.aload_n 0, 1) := by decide +kernel
theorem dX5_work_143 : decode cX5_work 143 = .ok (.getfield 30, 3) := by decide +kernel
theorem dX5_work_146 : decode cX5_work 146 = .ok (.aload_n 0, 1) := by decide +kernel
theorem dX5_work_147 : decode cX5_work 147 = .ok (.getfield 38, 3) := by decide +kernel
theorem dX5_work_150 : decode cX5_work 150 = .ok (.iconst 1, 1) := by decide +kernel
theorem dX5_work_151 : decode cX5_work 151 = .ok (.isub, 1) := by decide +kernel
theorem dX5_work_152 : decode cX5_work 152 = .ok (.laload, 1) := by decide +kernel
theorem dX5_work_153 : decode cX5_work 153 = .ok (.lconst 0, 1) := by decide +kernel
theorem dX5_work_154 : decode cX5_work 154 = .ok (.lcmp, 1) := by decide +kernel
theorem dX5_work_155 : decode cX5_work 155 = .ok (.ifCond .eq 7, 3) := by decide +kernel
theorem dX5_work_158 : decode cX5_work 158 = .ok (.iconst 1, 1) := by decide +kernel
theorem dX5_work_159 : decode cX5_work 159 = .ok (.goto 4, 3) := by decide +kernel
theorem dX5_work_162 : decode cX5_work 162 = .ok (.iconst 0, 1) := by decide +kernel
theorem dX5_work_163 : decode cX5_work 163 = .ok (.iload 4, 2) := by decide +kernel
theorem dX5_work_165 : decode cX5_work 165 = .ok (.bipush 10, 2) := by decide +kernel
theorem dX5_work_167 : decode cX5_work 167 = .ok (.if_icmp .ne 7, 3) := by decide +kernel
theorem dX5_work_170 : decode cX5_work 170 = .ok (.iconst 1, 1) := by decide +kernel
theorem dX5_work_171 : decode cX5_work 171 = .ok (.goto 4, 3) := by decide +kernel
theorem dX5_work_174 : decode cX5_work 174 = .ok (.iconst 0, 1) := by decide +kernel
theorem dX5_work_175 : decode cX5_work 175 = .ok (.if_icmp .ne 19, 3) := by decide +kernel
theorem dX5_work_178 : decode cX5_work 178 = .ok (.iload_n 3, 1) := by decide +kernel
theorem dX5_work_179 : decode cX5_work 179 = .ok (.aload_n 0, 1) := by decide +kernel
theorem dX5_work_180 : decode cX5_work 180 = .ok (.getfield 24, 3) := by decide +kernel
theorem dX5_work_183 : decode cX5_work 183 = .ok (.iload_n 3, 1) := by decide +kernel
theorem dX5_work_184 : decode cX5_work 184 = .ok (.iaload, 1) := by decide +kernel
theorem dX5_work_185 : decode cX5_work 185 = .ok (.iconst 1, 1) := by decide +kernel
theorem dX5_work_186 : decode cX5_work 186 = .ok (.isub, 1) := by decide +kernel
theorem dX5_work_187 : decode cX5_work 187 = .ok (.invokestatic 67, 3) := by decide +kernel
theorem dX5_work_190 : decode cX5_work 190 = .ok (.istore_n 3, 1) := by decide +kernel
theorem dX5_work_191 : decode cX5_work 191 = .ok (.goto 27, 3) := by decide +kernel
theorem dX5_work_194 : decode cX5_work 194 = .ok (.aload_n 0, 1) := by decide +kernel
theorem dX5_work_195 : decode cX5_work 195 = .ok (.dup, 1) := by decide +kernel
theorem dX5_work_196 : decode cX5_work 196 = .ok (.getfield 38, 3) := by decide +kernel
theorem dX5_work_199 : decode cX5_work 199 = .ok (.iconst 1, 1) := by decide +kernel
theorem dX5_work_200 : decode cX5_work 200 = .ok (.isub, 1) := by decide +kernel
theorem dX5_work_201 : decode cX5_work 201 = .ok (.putfield 38, 3) := by decide +kernel
theorem dX5_work_204 : decode cX5_work 204 = .ok (.goto 14, 3) := by decide +kernel
theorem dX5_work_207 : decode cX5_work 207 = .ok (.aload_n 0, 1) := by decide +kernel
theorem dX5_work_208 : decode cX5_work 208 = .ok (.iload 4, 2) := by decide +kernel
theorem dX5_work_210 : decode cX5_work 210 = .ok (.invokevirtual 79, 3) := by decide +kernel
theorem dX5_work_213 : decode cX5_work 213 = .ok (.ifCond .ne 5, 3) := by decide +kernel
theorem dX5_work_216 : decode cX5_work 216 = .ok (.iconst 0, 1) := by decide +kernel
theorem dX5_work_217 : decode cX5_work 217 = .ok (.ireturn, 1) := by decide +kernel
theorem dX5_work_218 : decode cX5_work 218 = .ok (.iinc 3 1, 3) := by decide +kernel
theorem dX5_work_221 : decode cX5_work 221 = .ok (.goto (-210), 3) := by decide +kernel
theorem dX5_work_224 : decode cX5_work 224 = .ok (.aload_n 0, 1) := by decide +kernel
theorem dX5_work_225 : decode cX5_work 225 = .ok (.getfield 38, 3) := by decide +kernel
theorem dX5_work_228 : decode cX5_work 228 = .ok (.iconst 1, 1) := by decide +kernel
theorem dX5_work_229 : decode cX5_work 229 = .ok (.if_icmp .ne 7, 3) := by decide +kernel
theorem dX5_work_232 : decode cX5_work 232 = .ok (.iconst 1, 1) := by decide +kernel
theorem dX5_work_233 : decode cX5_work 233 = .ok (.goto 4, 3) := by decide +kernel
theorem dX5_work_236 : decode cX5_work 236 = .ok (.iconst 0, 1) := by decide +kernel
theorem dX5_work_237 : decode cX5_work 237 = .ok (.ireturn, 1) := by decide +kernel
def fX5_work_b224 (N : Nat) (k : Nat) (σ : qMem) : Option (Int32 × qMem) :=
  (if (gi σ k 6) = 1 then (some (1, σ)) else (some (0, σ)))
set_option maxRecDepth 20000 in
set_option maxHeartbeats 4000000 in
theorem aX5_work_b224 (N : Nat) (k : Nat) (hk : iLaw k) (σ : qMem) : qAt wC mX5_work (ρi) 224 [(0, .ref k)] [] σ (fX5_work_b224 N k σ) := by
  unfold fX5_work_b224
  refine q_aload_n (i := 0) (x := k) dX5_work_224 rfl 0 rfl ?_
  refine q_geti dX5_work_225 foX5_38 hk.1 rfl ?_
  refine q_iconst (v := 1) dX5_work_228 (by decide) ?_
  refine q_icmp_ne (tgt := 236) dX5_work_229 (by decide) ?_ ?_
  · refine q_iconst (v := 0) dX5_work_236 (by decide) ?_
    exact q_iretz (y := (0, σ)) dX5_work_237 rfl rfl rfl
  refine q_iconst (v := 1) dX5_work_232 (by decide) ?_
  refine q_goto (tgt := 237) dX5_work_233 (by decide) ?_
  exact q_iretz (y := (1, σ)) dX5_work_237 rfl rfl rfl

def fX5_work_b218 (N : Nat) (k : Nat) (c11 : Int32 → Int32 → qMem → Option (Int32 × qMem)) (v2 : Int32) (v3 : Int32) (σ : qMem) : Option (Int32 × qMem) :=
  (c11 v2 (v3 + 1) σ)
set_option maxRecDepth 20000 in
set_option maxHeartbeats 4000000 in
theorem aX5_work_b218 (N : Nat) (k : Nat) (hk : iLaw k) (c11 : Int32 → Int32 → qMem → Option (Int32 × qMem)) (hc11 : ∀ (v2 : Int32) (v3 : Int32) (σ : qMem), qAt wC mX5_work (ρi) 11 [(0, .ref k), (2, .int v2), (3, .int v3)] [] σ (c11 v2 v3 σ)) (v2 : Int32) (v3 : Int32) (σ : qMem) : qAt wC mX5_work (ρi) 218 [(0, .ref k), (2, .int v2), (3, .int v3)] [] σ (fX5_work_b218 N k c11 v2 v3 σ) := by
  unfold fX5_work_b218
  refine q_iinc (i := 3) (x := v3) (v := (v3 + 1)) (L' := [(3, .int (v3 + 1)), (0, .ref k), (2, .int v2)]) dX5_work_218 2 rfl (q_cst v3 (by decide)) (Nat.le_of_ble_eq_true rfl) rfl ?_
  refine q_goto (tgt := 11) dX5_work_221 (by decide) ?_
  exact q_sub [1, 2, 0] rfl (hc11 v2 (v3 + 1) σ)

def fX5_work_b175 (N : Nat) (k : Nat) (c11 : Int32 → Int32 → qMem → Option (Int32 × qMem)) (v2 : Int32) (v3 : Int32) (u0 : Int32) (u1 : Int32) (σ : qMem) : Option (Int32 × qMem) :=
  (if u0 = u1 then (if ck v3 400 = true then ((fJ9_max_7cf53 v3 ((gi σ (k + 4) v3.toNatClampNeg) - 1)).bind fun y10 => (fX5_work_b218 N k c11 v2 y10 σ)) else none) else (nmM (si σ k 6 ((gi σ k 6) - 1)) fun s9 => (fX5_work_b218 N k c11 v2 v3 s9)))
set_option maxRecDepth 20000 in
set_option maxHeartbeats 4000000 in
theorem aX5_work_b175 (N : Nat) (k : Nat) (hk : iLaw k) (c11 : Int32 → Int32 → qMem → Option (Int32 × qMem)) (hc11 : ∀ (v2 : Int32) (v3 : Int32) (σ : qMem), qAt wC mX5_work (ρi) 11 [(0, .ref k), (2, .int v2), (3, .int v3)] [] σ (c11 v2 v3 σ)) (v2 : Int32) (v3 : Int32) (u0 : Int32) (u1 : Int32) (σ : qMem) : qAt wC mX5_work (ρi) 175 [(0, .ref k), (2, .int v2), (3, .int v3)] [.int u1, .int u0] σ (fX5_work_b175 N k c11 v2 v3 u0 u1 σ) := by
  unfold fX5_work_b175
  refine q_icmp_ne (tgt := 194) dX5_work_175 (by decide) ?_ ?_
  · refine q_aload_n (i := 0) (x := k) dX5_work_194 rfl 0 rfl ?_
    refine q_dup dX5_work_195 rfl ?_
    refine q_geti dX5_work_196 foX5_38 hk.1 rfl ?_
    refine q_iconst (v := 1) dX5_work_199 (by decide) ?_
    refine q_isub dX5_work_200 ?_
    refine q_puti dX5_work_201 foX5_38 fwX5_6 hk.1 rfl ?_
    refine q_nmM (fun s9 => ?_)
    refine q_goto (tgt := 218) dX5_work_204 (by decide) ?_
    exact q_sub [0, 1, 2] rfl (aX5_work_b218 N k hk c11 hc11 v2 v3 s9)
  refine q_iload_n (i := 3) (x := v3) dX5_work_178 rfl 2 rfl ?_
  refine q_aload_n (i := 0) (x := k) dX5_work_179 rfl 0 rfl ?_
  refine q_getr (t := (k + 4)) dX5_work_180 foX5_24 hk.1 rfl ?_
  refine q_iload_n (i := 3) (x := v3) dX5_work_183 rfl 2 rfl ?_
  refine q_iald dX5_work_184 hk.2.2.2.1 ?_
  refine q_iconst (v := 1) dX5_work_185 (by decide) ?_
  refine q_isub dX5_work_186 ?_
  refine q_cSp mJ9_max_7cf53 [.int v3, .int ((gi σ (k + 4) v3.toNatClampNeg) - 1)] (st := []) dX5_work_187 (ssX5_67) ⟨Nat.le_of_ble_eq_true rfl, Nat.le_of_ble_eq_true rfl⟩ rfl rfl (Nat.le_of_ble_eq_true rfl) (kJ9_max_7cf53 v3 ((gi σ (k + 4) v3.toNatClampNeg) - 1) σ) (fun y10 => ?_)
  refine q_istore_n (i := 3) (L' := [(3, .int y10), (0, .ref k), (2, .int v2)]) dX5_work_190 rfl (Nat.le_of_ble_eq_true rfl) rfl ?_
  refine q_goto (tgt := 218) dX5_work_191 (by decide) ?_
  exact q_sub [1, 2, 0] rfl (aX5_work_b218 N k hk c11 hc11 v2 y10 σ)

def fX5_work_b163 (N : Nat) (k : Nat) (c11 : Int32 → Int32 → qMem → Option (Int32 × qMem)) (v2 : Int32) (v3 : Int32) (v4 : Int32) (u0 : Int32) (σ : qMem) : Option (Int32 × qMem) :=
  (if v4 = 10 then (fX5_work_b175 N k c11 v2 v3 u0 1 σ) else (fX5_work_b175 N k c11 v2 v3 u0 0 σ))
set_option maxRecDepth 20000 in
set_option maxHeartbeats 4000000 in
theorem aX5_work_b163 (N : Nat) (k : Nat) (hk : iLaw k) (c11 : Int32 → Int32 → qMem → Option (Int32 × qMem)) (hc11 : ∀ (v2 : Int32) (v3 : Int32) (σ : qMem), qAt wC mX5_work (ρi) 11 [(0, .ref k), (2, .int v2), (3, .int v3)] [] σ (c11 v2 v3 σ)) (v2 : Int32) (v3 : Int32) (v4 : Int32) (u0 : Int32) (σ : qMem) : qAt wC mX5_work (ρi) 163 [(0, .ref k), (2, .int v2), (3, .int v3), (4, .int v4)] [.int u0] σ (fX5_work_b163 N k c11 v2 v3 v4 u0 σ) := by
  unfold fX5_work_b163
  refine q_iload (i := 4) (x := v4) dX5_work_163 3 rfl ?_
  refine q_bipush (v := 10) dX5_work_165 (by decide) ?_
  refine q_icmp_ne (tgt := 174) dX5_work_167 (by decide) ?_ ?_
  · refine q_iconst (v := 0) dX5_work_174 (by decide) ?_
    exact q_sub [0, 1, 2] rfl (aX5_work_b175 N k hk c11 hc11 v2 v3 u0 0 σ)
  refine q_iconst (v := 1) dX5_work_170 (by decide) ?_
  refine q_goto (tgt := 175) dX5_work_171 (by decide) ?_
  exact q_sub [0, 1, 2] rfl (aX5_work_b175 N k hk c11 hc11 v2 v3 u0 1 σ)

def fX5_work_b142 (N : Nat) (k : Nat) (c11 : Int32 → Int32 → qMem → Option (Int32 × qMem)) (v2 : Int32) (v3 : Int32) (v4 : Int32) (σ : qMem) : Option (Int32 × qMem) :=
  (if ck ((gi σ k 6) - 1) 64 = true then (if (lg_cmp (gl σ (k + 6) ((gi σ k 6) - 1).toNatClampNeg) 0) = 0 then (fX5_work_b163 N k c11 v2 v3 v4 0 σ) else (fX5_work_b163 N k c11 v2 v3 v4 1 σ)) else none)
set_option maxRecDepth 20000 in
set_option maxHeartbeats 4000000 in
theorem aX5_work_b142 (N : Nat) (k : Nat) (hk : iLaw k) (c11 : Int32 → Int32 → qMem → Option (Int32 × qMem)) (hc11 : ∀ (v2 : Int32) (v3 : Int32) (σ : qMem), qAt wC mX5_work (ρi) 11 [(0, .ref k), (2, .int v2), (3, .int v3)] [] σ (c11 v2 v3 σ)) (v2 : Int32) (v3 : Int32) (v4 : Int32) (σ : qMem) : qAt wC mX5_work (ρi) 142 [(0, .ref k), (2, .int v2), (3, .int v3), (4, .int v4)] [] σ (fX5_work_b142 N k c11 v2 v3 v4 σ) := by
  unfold fX5_work_b142
  refine q_aload_n (i := 0) (x := k) dX5_work_142 rfl 0 rfl ?_
  refine q_getr (t := (k + 6)) dX5_work_143 foX5_30 hk.1 rfl ?_
  refine q_aload_n (i := 0) (x := k) dX5_work_146 rfl 0 rfl ?_
  refine q_geti dX5_work_147 foX5_38 hk.1 rfl ?_
  refine q_iconst (v := 1) dX5_work_150 (by decide) ?_
  refine q_isub dX5_work_151 ?_
  refine q_lald dX5_work_152 hk.2.2.2.2.2 ?_
  refine q_lconst (v := 0) dX5_work_153 (by decide) ?_
  refine q_lcmp dX5_work_154 ?_
  refine q_if_eq (tgt := 162) dX5_work_155 (by decide) ?_ ?_
  · refine q_iconst (v := 0) dX5_work_162 (by decide) ?_
    exact q_sub [0, 1, 2, 3] rfl (aX5_work_b163 N k hk c11 hc11 v2 v3 v4 0 σ)
  refine q_iconst (v := 1) dX5_work_158 (by decide) ?_
  refine q_goto (tgt := 163) dX5_work_159 (by decide) ?_
  exact q_sub [0, 1, 2, 3] rfl (aX5_work_b163 N k hk c11 hc11 v2 v3 v4 1 σ)

def fX5_work_s11 (N : Nat) (k : Nat) (c11 : Int32 → Int32 → qMem → Option (Int32 × qMem)) (v2 : Int32) (v3 : Int32) (σ : qMem) : Option (Int32 × qMem) :=
  (if v2 ≤ v3 then (fX5_work_b224 N k σ) else (if (gi σ k 5) ≤ v3 then (fX5_work_b224 N k σ) else (if ck v3 400 = true then (nmI (gi σ (k + 3) v3.toNatClampNeg) fun x3 => (if x3 = 0 then (if ck v3 400 = true then ((fX5_lay k (gi σ (k + 4) v3.toNatClampNeg).toInt64 σ).bind fun y8 => (fX5_work_b218 N k c11 v2 v3 y8)) else none) else (if x3 = 1 then (if ck v3 400 = true then ((fJ9_floorMod_7cf53 (gi σ (k + 4) v3.toNatClampNeg) 5).bind fun y6 => (if ck y6 5 = true then ((fX5_lay k (gi σ (k + 5) y6.toNatClampNeg).toInt64 σ).bind fun y7 => (fX5_work_b218 N k c11 v2 v3 y7)) else none)) else none) else (if 1 ≤ (gi σ k 6) then (if x3 = 9 then (if ck ((gi σ k 6) - 1) 64 = true then (if ck ((gi σ k 6) - 1) 64 = true then (nmM (sl σ (k + 6) ((gi σ k 6) - 1).toNatClampNeg (1 - (gl σ (k + 6) ((gi σ k 6) - 1).toNatClampNeg))) fun s5 => (fX5_work_b218 N k c11 v2 v3 s5)) else none) else none) else (if x3 = 10 then (fX5_work_b142 N k c11 v2 v3 x3 σ) else (if x3 = 11 then (fX5_work_b142 N k c11 v2 v3 x3 σ) else ((fX5_joinTwo k x3 σ).bind fun y4 => (if y4.1 = 0 then (some (0, y4.2)) else (fX5_work_b218 N k c11 v2 v3 y4.2)))))) else (some (0, σ)))))) else none)))
set_option maxRecDepth 20000 in
set_option maxHeartbeats 4000000 in
theorem aX5_work_s11 (N : Nat) (k : Nat) (hk : iLaw k) (c11 : Int32 → Int32 → qMem → Option (Int32 × qMem)) (hc11 : ∀ (v2 : Int32) (v3 : Int32) (σ : qMem), qAt wC mX5_work (ρi) 11 [(0, .ref k), (2, .int v2), (3, .int v3)] [] σ (c11 v2 v3 σ)) (v2 : Int32) (v3 : Int32) (σ : qMem) : qAt wC mX5_work (ρi) 11 [(0, .ref k), (2, .int v2), (3, .int v3)] [] σ (fX5_work_s11 N k c11 v2 v3 σ) := by
  unfold fX5_work_s11
  refine q_iload_n (i := 3) (x := v3) dX5_work_11 rfl 2 rfl ?_
  refine q_iload_n (i := 2) (x := v2) dX5_work_12 rfl 1 rfl ?_
  refine q_icmp_ge (tgt := 224) dX5_work_13 (by decide) ?_ ?_
  · exact q_sub [0] rfl (aX5_work_b224 N k hk σ)
  refine q_iload_n (i := 3) (x := v3) dX5_work_16 rfl 2 rfl ?_
  refine q_aload_n (i := 0) (x := k) dX5_work_17 rfl 0 rfl ?_
  refine q_geti dX5_work_18 foX5_34 hk.1 rfl ?_
  refine q_icmp_ge (tgt := 224) dX5_work_21 (by decide) ?_ ?_
  · exact q_sub [0] rfl (aX5_work_b224 N k hk σ)
  refine q_aload_n (i := 0) (x := k) dX5_work_24 rfl 0 rfl ?_
  refine q_getr (t := (k + 3)) dX5_work_25 foX5_20 hk.1 rfl ?_
  refine q_iload_n (i := 3) (x := v3) dX5_work_28 rfl 2 rfl ?_
  refine q_iald dX5_work_29 hk.2.2.1 ?_
  refine q_nmI (fun x3 => ?_)
  refine q_istore (i := 4) (L' := [(4, .int x3), (0, .ref k), (2, .int v2), (3, .int v3)]) dX5_work_30 (Nat.le_of_ble_eq_true rfl) rfl ?_
  refine q_iload (i := 4) (x := x3) dX5_work_32 0 rfl ?_
  refine q_if_ne (tgt := 51) dX5_work_34 (by decide) ?_ ?_
  · refine q_iload (i := 4) (x := x3) dX5_work_51 0 rfl ?_
    refine q_iconst (v := 1) dX5_work_53 (by decide) ?_
    refine q_icmp_ne (tgt := 84) dX5_work_54 (by decide) ?_ ?_
    · refine q_aload_n (i := 0) (x := k) dX5_work_84 rfl 1 rfl ?_
      refine q_geti dX5_work_85 foX5_38 hk.1 rfl ?_
      refine q_iconst (v := 1) dX5_work_88 (by decide) ?_
      refine q_icmp_ge (tgt := 94) dX5_work_89 (by decide) ?_ ?_
      · refine q_iload (i := 4) (x := x3) dX5_work_94 0 rfl ?_
        refine q_bipush (v := 9) dX5_work_96 (by decide) ?_
        refine q_icmp_ne (tgt := 128) dX5_work_98 (by decide) ?_ ?_
        · refine q_iload (i := 4) (x := x3) dX5_work_128 0 rfl ?_
          refine q_bipush (v := 10) dX5_work_130 (by decide) ?_
          refine q_icmp_eq (tgt := 142) dX5_work_132 (by decide) ?_ ?_
          · exact q_sub [1, 2, 3, 0] rfl (aX5_work_b142 N k hk c11 hc11 v2 v3 x3 σ)
          refine q_iload (i := 4) (x := x3) dX5_work_135 0 rfl ?_
          refine q_bipush (v := 11) dX5_work_137 (by decide) ?_
          refine q_icmp_ne (tgt := 207) dX5_work_139 (by decide) ?_ ?_
          · refine q_aload_n (i := 0) (x := k) dX5_work_207 rfl 1 rfl ?_
            refine q_iload (i := 4) (x := x3) dX5_work_208 0 rfl ?_
            refine q_cVi mX5_joinTwo [.int x3] (st := []) dX5_work_210 (svX5_79) ⟨Nat.le_of_ble_eq_true rfl, Nat.le_of_ble_eq_true rfl⟩ hk.1 rfl rfl rfl (Nat.le_of_ble_eq_true rfl) (kX5_joinTwo k x3 hk σ) (fun y4 => ?_)
            refine q_if_ne (tgt := 218) dX5_work_213 (by decide) ?_ ?_
            · exact q_sub [1, 2, 3] rfl (aX5_work_b218 N k hk c11 hc11 v2 v3 y4.2)
            refine q_iconst (v := 0) dX5_work_216 (by decide) ?_
            exact q_iretz (y := (0, y4.2)) dX5_work_217 rfl rfl rfl
          exact q_sub [1, 2, 3, 0] rfl (aX5_work_b142 N k hk c11 hc11 v2 v3 x3 σ)
        refine q_aload_n (i := 0) (x := k) dX5_work_101 rfl 1 rfl ?_
        refine q_getr (t := (k + 6)) dX5_work_102 foX5_30 hk.1 rfl ?_
        refine q_aload_n (i := 0) (x := k) dX5_work_105 rfl 1 rfl ?_
        refine q_geti dX5_work_106 foX5_38 hk.1 rfl ?_
        refine q_iconst (v := 1) dX5_work_109 (by decide) ?_
        refine q_isub dX5_work_110 ?_
        refine q_lconst (v := 1) dX5_work_111 (by decide) ?_
        refine q_aload_n (i := 0) (x := k) dX5_work_112 rfl 1 rfl ?_
        refine q_getr (t := (k + 6)) dX5_work_113 foX5_30 hk.1 rfl ?_
        refine q_aload_n (i := 0) (x := k) dX5_work_116 rfl 1 rfl ?_
        refine q_geti dX5_work_117 foX5_38 hk.1 rfl ?_
        refine q_iconst (v := 1) dX5_work_120 (by decide) ?_
        refine q_isub dX5_work_121 ?_
        refine q_lald dX5_work_122 hk.2.2.2.2.2 ?_
        refine q_lsub dX5_work_123 ?_
        refine q_last dX5_work_124 hk.2.2.2.2.2 ?_
        refine q_nmM (fun s5 => ?_)
        refine q_goto (tgt := 218) dX5_work_125 (by decide) ?_
        exact q_sub [1, 2, 3] rfl (aX5_work_b218 N k hk c11 hc11 v2 v3 s5)
      refine q_iconst (v := 0) dX5_work_92 (by decide) ?_
      exact q_iretz (y := (0, σ)) dX5_work_93 rfl rfl rfl
    refine q_aload_n (i := 0) (x := k) dX5_work_57 rfl 1 rfl ?_
    refine q_aload_n (i := 0) (x := k) dX5_work_58 rfl 1 rfl ?_
    refine q_getr (t := (k + 5)) dX5_work_59 foX5_27 hk.1 rfl ?_
    refine q_aload_n (i := 0) (x := k) dX5_work_62 rfl 1 rfl ?_
    refine q_getr (t := (k + 4)) dX5_work_63 foX5_24 hk.1 rfl ?_
    refine q_iload_n (i := 3) (x := v3) dX5_work_66 rfl 3 rfl ?_
    refine q_iald dX5_work_67 hk.2.2.2.1 ?_
    refine q_aload_n (i := 0) (x := k) dX5_work_68 rfl 1 rfl ?_
    refine q_getr (t := (k + 5)) dX5_work_69 foX5_27 hk.1 rfl ?_
    refine q_alen (t0 := 0) (v := 5) dX5_work_72 hk.2.2.2.2.1 (fun _ => rfl) (by decide) ?_
    refine q_cSp mJ9_floorMod_7cf53 [.int (gi σ (k + 4) v3.toNatClampNeg), .int 5] (st := [.ref (k + 5), .ref k]) dX5_work_73 (ssX5_76) ⟨Nat.le_of_ble_eq_true rfl, Nat.le_of_ble_eq_true rfl⟩ rfl rfl (Nat.le_of_ble_eq_true rfl) (kJ9_floorMod_7cf53 (gi σ (k + 4) v3.toNatClampNeg) 5 σ) (fun y6 => ?_)
    refine q_iald dX5_work_76 hk.2.2.2.2.1 ?_
    refine q_i2l dX5_work_77 ?_
    refine q_cVv mX5_lay [.long (gi σ (k + 5) y6.toNatClampNeg).toInt64] (st := []) dX5_work_78 (svX5_72) ⟨Nat.le_of_ble_eq_true rfl, Nat.le_of_ble_eq_true rfl⟩ hk.1 rfl rfl rfl (Nat.le_of_ble_eq_true rfl) (kX5_lay k (gi σ (k + 5) y6.toNatClampNeg).toInt64 hk σ) (fun y7 => ?_)
    refine q_goto (tgt := 218) dX5_work_81 (by decide) ?_
    exact q_sub [1, 2, 3] rfl (aX5_work_b218 N k hk c11 hc11 v2 v3 y7)
  refine q_aload_n (i := 0) (x := k) dX5_work_37 rfl 1 rfl ?_
  refine q_aload_n (i := 0) (x := k) dX5_work_38 rfl 1 rfl ?_
  refine q_getr (t := (k + 4)) dX5_work_39 foX5_24 hk.1 rfl ?_
  refine q_iload_n (i := 3) (x := v3) dX5_work_42 rfl 3 rfl ?_
  refine q_iald dX5_work_43 hk.2.2.2.1 ?_
  refine q_i2l dX5_work_44 ?_
  refine q_cVv mX5_lay [.long (gi σ (k + 4) v3.toNatClampNeg).toInt64] (st := []) dX5_work_45 (svX5_72) ⟨Nat.le_of_ble_eq_true rfl, Nat.le_of_ble_eq_true rfl⟩ hk.1 rfl rfl rfl (Nat.le_of_ble_eq_true rfl) (kX5_lay k (gi σ (k + 4) v3.toNatClampNeg).toInt64 hk σ) (fun y8 => ?_)
  refine q_goto (tgt := 218) dX5_work_48 (by decide) ?_
  exact q_sub [1, 2, 3] rfl (aX5_work_b218 N k hk c11 hc11 v2 v3 y8)
def fX5_work_l11 (N : Nat) (k : Nat) : Nat → Int32 → Int32 → qMem → Option (Int32 × qMem)
  | 0 => fun _ _ _ => none
  | n + 1 => fun v2 v3 σ => fX5_work_s11 N k (fX5_work_l11 N k n) v2 v3 σ
theorem aX5_work_l11 (N : Nat) (k : Nat) (hk : iLaw k) : ∀ (n : Nat) (v2 : Int32) (v3 : Int32) (σ : qMem), qAt wC mX5_work (ρi) 11 [(0, .ref k), (2, .int v2), (3, .int v3)] [] σ (fX5_work_l11 N k n v2 v3 σ) := by
  intro n
  induction n with
  | zero => intro v2 v3 σ; exact q_none
  | succ n ih => intro v2 v3 σ; exact aX5_work_s11 N k hk (fX5_work_l11 N k n) ih v2 v3 σ

def fX5_work (N : Nat) (k : Nat) (p1 : Int32) (p2 : Int32) (σ : qMem) : Option (Int32 × qMem) :=
  (nmM (si σ k 6 0) fun s1 => ((fJ9_max_7cf53 0 p1).bind fun y2 => (fX5_work_l11 N k N p2 y2 s1)))
set_option maxRecDepth 20000 in
set_option maxHeartbeats 4000000 in
theorem aX5_work  (N : Nat) (k : Nat) (p1 : Int32) (p2 : Int32) (hk : iLaw k) (σ : qMem) : qAt wC mX5_work (ρi) 0 [(0, .ref k), (1, .int p1), (2, .int p2)] [] σ (fX5_work N k p1 p2 σ) := by
  unfold fX5_work
  refine q_aload_n (i := 0) (x := k) dX5_work_0 rfl 0 rfl ?_
  refine q_iconst (v := 0) dX5_work_1 (by decide) ?_
  refine q_puti dX5_work_2 foX5_38 fwX5_6 hk.1 rfl ?_
  refine q_nmM (fun s1 => ?_)
  refine q_iconst (v := 0) dX5_work_5 (by decide) ?_
  refine q_iload_n (i := 1) (x := p1) dX5_work_6 rfl 1 rfl ?_
  refine q_cSp mJ9_max_7cf53 [.int 0, .int p1] (st := []) dX5_work_7 (ssX5_67) ⟨Nat.le_of_ble_eq_true rfl, Nat.le_of_ble_eq_true rfl⟩ rfl rfl (Nat.le_of_ble_eq_true rfl) (kJ9_max_7cf53 0 p1 s1) (fun y2 => ?_)
  refine q_istore_n (i := 3) (L' := [(3, .int y2), (0, .ref k), (1, .int p1), (2, .int p2)]) dX5_work_10 rfl (Nat.le_of_ble_eq_true rfl) rfl ?_
  exact q_sub [1, 3, 0] rfl (aX5_work_l11 N k hk N p2 y2 s1)
theorem kX5_work  (N : Nat) (k : Nat) (p1 : Int32) (p2 : Int32) (hk : iLaw k) (σ : qMem) : qMc wC mX5_work (ρi) [.ref k, .int p1, .int p2] σ (fX5_work N k p1 p2 σ) := qMc_of (moX5_work) (Nat.le_of_ble_eq_true rfl) (aX5_work N k p1 p2 hk σ)

theorem dX5_holds_0 : decode cX5_holds 0 = .ok (.aload_n 0, 1) := by decide +kernel
theorem dX5_holds_1 : decode cX5_holds 1 = .ok (.getfield 16, 3) := by decide +kernel
theorem dX5_holds_4 : decode cX5_holds 4 = .ok (.iload_n 1, 1) := by decide +kernel
theorem dX5_holds_5 : decode cX5_holds 5 = .ok (.iconst 1, 1) := by decide +kernel
theorem dX5_holds_6 : decode cX5_holds 6 = .ok (.invokevirtual 56, 3) := by decide +kernel
theorem dX5_holds_9 : decode cX5_holds 9 = .ok (.istore_n 2, 1) := by decide +kernel
theorem dX5_holds_10 : decode cX5_holds 10 = .ok (.aload_n 0, 1) := by decide +kernel
theorem dX5_holds_11 : decode cX5_holds 11 = .ok (.getfield 16, 3) := by decide +kernel
theorem dX5_holds_14 : decode cX5_holds 14 = .ok (.iload_n 1, 1) := by decide +kernel
theorem dX5_holds_15 : decode cX5_holds 15 = .ok (.iconst 2, 1) := by decide +kernel
theorem dX5_holds_16 : decode cX5_holds 16 = .ok (.invokevirtual 56, 3) := by decide +kernel
theorem dX5_holds_19 : decode cX5_holds 19 = .ok (.istore_n 3, 1) := by decide +kernel
theorem dX5_holds_20 : decode cX5_holds 20 = .ok (.aload_n 0, 1) := by decide +kernel
theorem dX5_holds_21 : decode cX5_holds 21 = .ok (.getfield 16, 3) := by decide +kernel
theorem dX5_holds_24 : decode cX5_holds 24 = .ok (.iload_n 1, 1) := by decide +kernel
theorem dX5_holds_25 : decode cX5_holds 25 = .ok (.iconst 3, 1) := by decide +kernel
theorem dX5_holds_26 : decode cX5_holds 26 = .ok (.invokevirtual 56, 3) := by decide +kernel
theorem dX5_holds_29 : decode cX5_holds 29 = .ok (.istore 4, 2) := by decide +kernel
theorem dX5_holds_31 : decode cX5_holds 31 = .ok (.iload_n 3, 1) := by decide +kernel
theorem dX5_holds_32 : decode cX5_holds 32 = .ok (.iload 4, 2) := by decide +kernel
theorem dX5_holds_34 : decode cX5_holds 34 = .ok (.if_icmp .ge 26, 3) := by decide +kernel
theorem dX5_holds_37 : decode cX5_holds 37 = .ok (.aload_n 0, 1) := by decide +kernel
theorem dX5_holds_38 : decode cX5_holds 38 = .ok (.iload_n 3, 1) := by decide +kernel
theorem dX5_holds_39 : decode cX5_holds 39 = .ok (.iload 4, 2) := by decide +kernel
theorem dX5_holds_41 : decode cX5_holds 41 = .ok (.invokevirtual 63, 3) := by decide +kernel
theorem dX5_holds_44 : decode cX5_holds 44 = .ok (.ifCond .eq 14, 3) := by decide +kernel
theorem dX5_holds_47 : decode cX5_holds 47 = .ok (.aload_n 0, 1) := by decide +kernel
theorem dX5_holds_48 : decode cX5_holds 48 = .ok (.getfield 30, 3) := by decide +kernel
theorem dX5_holds_51 : decode cX5_holds 51 = .ok (.iconst 0, 1) := by decide +kernel
theorem dX5_holds_52 : decode cX5_holds 52 = .ok (.laload, 1) := by decide +kernel
theorem dX5_holds_53 : decode cX5_holds 53 = .ok (.lconst 0, 1) := by decide +kernel
theorem dX5_holds_54 : decode cX5_holds 54 = .ok (.lcmp, 1) := by decide +kernel
theorem dX5_holds_55 : decode cX5_holds 55 = .ok (.ifCond .ne 5, 3) := by decide +kernel
theorem dX5_holds_58 : decode cX5_holds 58 = .ok (.iconst 0, 1) := by decide +kernel
theorem dX5_holds_59 : decode cX5_holds 59 = .ok (.ireturn, 1) := by decide +kernel
theorem dX5_holds_60 : decode cX5_holds 60 = .ok (.aload_n 0, 1) := by decide +kernel
theorem dX5_holds_61 : decode cX5_holds 61 = .ok (.iload_n 2, 1) := by decide +kernel
theorem dX5_holds_62 : decode cX5_holds 62 = .ok (.iload_n 3, 1) := by decide +kernel
theorem dX5_holds_63 : decode cX5_holds 63 = .ok (.invokevirtual 63, 3) := by decide +kernel
theorem dX5_holds_66 : decode cX5_holds 66 = .ok (.ireturn, 1) := by decide +kernel
def fX5_holds_b60 (N : Nat) (k : Nat) (v2 : Int32) (v3 : Int32) (σ : qMem) : Option (Int32 × qMem) :=
  ((fX5_work N k v2 v3 σ).bind fun y5 => (if y5.1 = 0 ∨ y5.1 = 1 then some (y5.1, y5.2) else none))
set_option maxRecDepth 20000 in
set_option maxHeartbeats 4000000 in
theorem aX5_holds_b60 (N : Nat) (k : Nat) (hk : iLaw k) (v2 : Int32) (v3 : Int32) (σ : qMem) : qAt wC mX5_holds (ρi) 60 [(0, .ref k), (2, .int v2), (3, .int v3)] [] σ (fX5_holds_b60 N k v2 v3 σ) := by
  unfold fX5_holds_b60
  refine q_aload_n (i := 0) (x := k) dX5_holds_60 rfl 0 rfl ?_
  refine q_iload_n (i := 2) (x := v2) dX5_holds_61 rfl 1 rfl ?_
  refine q_iload_n (i := 3) (x := v3) dX5_holds_62 rfl 2 rfl ?_
  refine q_cVi mX5_work [.int v2, .int v3] (st := []) dX5_holds_63 (svX5_63) ⟨Nat.le_of_ble_eq_true rfl, Nat.le_of_ble_eq_true rfl⟩ hk.1 rfl rfl rfl (Nat.le_of_ble_eq_true rfl) (kX5_work N k v2 v3 hk σ) (fun y5 => ?_)
  exact q_if (fun hz => q_iretz (y := (y5.1, y5.2)) dX5_holds_66 rfl (nb_ok hz) rfl)

def fX5_holds (N : Nat) (k : Nat) (p1 : Int32) (σ : qMem) : Option (Int32 × qMem) :=
  ((fX8_at (k + 1) 48 p1 1 σ).bind fun y1 => ((fX8_at (k + 1) 48 p1 2 σ).bind fun y2 => ((fX8_at (k + 1) 48 p1 3 σ).bind fun y3 => (if y3 ≤ y2 then (fX5_holds_b60 N k y1 y2 σ) else ((fX5_work N k y2 y3 σ).bind fun y4 => (if y4.1 = 0 then (some (0, y4.2)) else (if ck 0 64 = true then (if (lg_cmp (gl y4.2 (k + 6) (0 : Int32).toNatClampNeg) 0) = 0 then (some (0, y4.2)) else (fX5_holds_b60 N k y1 y2 y4.2)) else none)))))))
set_option maxRecDepth 20000 in
set_option maxHeartbeats 4000000 in
theorem aX5_holds  (N : Nat) (k : Nat) (p1 : Int32) (hk : iLaw k) (σ : qMem) : qAt wC mX5_holds (ρi) 0 [(0, .ref k), (1, .int p1)] [] σ (fX5_holds N k p1 σ) := by
  unfold fX5_holds
  refine q_aload_n (i := 0) (x := k) dX5_holds_0 rfl 0 rfl ?_
  refine q_getr (t := (k + 1)) dX5_holds_1 foX5_16 hk.1 rfl ?_
  refine q_iload_n (i := 1) (x := p1) dX5_holds_4 rfl 1 rfl ?_
  refine q_iconst (v := 1) dX5_holds_5 (by decide) ?_
  refine q_cVp mX8_at [.int p1, .int 1] (st := []) dX5_holds_6 (svX5_56) ⟨Nat.le_of_ble_eq_true rfl, Nat.le_of_ble_eq_true rfl⟩ hk.2.1.1 rfl rfl rfl (Nat.le_of_ble_eq_true rfl) (kX8_at (k + 1) 48 p1 1 hk.2.1 σ) (fun y1 => ?_)
  refine q_istore_n (i := 2) (L' := [(2, .int y1), (0, .ref k), (1, .int p1)]) dX5_holds_9 rfl (Nat.le_of_ble_eq_true rfl) rfl ?_
  refine q_aload_n (i := 0) (x := k) dX5_holds_10 rfl 1 rfl ?_
  refine q_getr (t := (k + 1)) dX5_holds_11 foX5_16 hk.1 rfl ?_
  refine q_iload_n (i := 1) (x := p1) dX5_holds_14 rfl 2 rfl ?_
  refine q_iconst (v := 2) dX5_holds_15 (by decide) ?_
  refine q_cVp mX8_at [.int p1, .int 2] (st := []) dX5_holds_16 (svX5_56) ⟨Nat.le_of_ble_eq_true rfl, Nat.le_of_ble_eq_true rfl⟩ hk.2.1.1 rfl rfl rfl (Nat.le_of_ble_eq_true rfl) (kX8_at (k + 1) 48 p1 2 hk.2.1 σ) (fun y2 => ?_)
  refine q_istore_n (i := 3) (L' := [(3, .int y2), (2, .int y1), (0, .ref k), (1, .int p1)]) dX5_holds_19 rfl (Nat.le_of_ble_eq_true rfl) rfl ?_
  refine q_aload_n (i := 0) (x := k) dX5_holds_20 rfl 2 rfl ?_
  refine q_getr (t := (k + 1)) dX5_holds_21 foX5_16 hk.1 rfl ?_
  refine q_iload_n (i := 1) (x := p1) dX5_holds_24 rfl 3 rfl ?_
  refine q_iconst (v := 3) dX5_holds_25 (by decide) ?_
  refine q_cVp mX8_at [.int p1, .int 3] (st := []) dX5_holds_26 (svX5_56) ⟨Nat.le_of_ble_eq_true rfl, Nat.le_of_ble_eq_true rfl⟩ hk.2.1.1 rfl rfl rfl (Nat.le_of_ble_eq_true rfl) (kX8_at (k + 1) 48 p1 3 hk.2.1 σ) (fun y3 => ?_)
  refine q_istore (i := 4) (L' := [(4, .int y3), (3, .int y2), (2, .int y1), (0, .ref k), (1, .int p1)]) dX5_holds_29 (Nat.le_of_ble_eq_true rfl) rfl ?_
  refine q_iload_n (i := 3) (x := y2) dX5_holds_31 rfl 1 rfl ?_
  refine q_iload (i := 4) (x := y3) dX5_holds_32 0 rfl ?_
  refine q_icmp_ge (tgt := 60) dX5_holds_34 (by decide) ?_ ?_
  · exact q_sub [3, 2, 1] rfl (aX5_holds_b60 N k hk y1 y2 σ)
  refine q_aload_n (i := 0) (x := k) dX5_holds_37 rfl 3 rfl ?_
  refine q_iload_n (i := 3) (x := y2) dX5_holds_38 rfl 1 rfl ?_
  refine q_iload (i := 4) (x := y3) dX5_holds_39 0 rfl ?_
  refine q_cVi mX5_work [.int y2, .int y3] (st := []) dX5_holds_41 (svX5_63) ⟨Nat.le_of_ble_eq_true rfl, Nat.le_of_ble_eq_true rfl⟩ hk.1 rfl rfl rfl (Nat.le_of_ble_eq_true rfl) (kX5_work N k y2 y3 hk σ) (fun y4 => ?_)
  refine q_if_eq (tgt := 58) dX5_holds_44 (by decide) ?_ ?_
  · refine q_iconst (v := 0) dX5_holds_58 (by decide) ?_
    exact q_iretz (y := (0, y4.2)) dX5_holds_59 rfl rfl rfl
  refine q_aload_n (i := 0) (x := k) dX5_holds_47 rfl 3 rfl ?_
  refine q_getr (t := (k + 6)) dX5_holds_48 foX5_30 hk.1 rfl ?_
  refine q_iconst (v := 0) dX5_holds_51 (by decide) ?_
  refine q_lald dX5_holds_52 hk.2.2.2.2.2 ?_
  refine q_lconst (v := 0) dX5_holds_53 (by decide) ?_
  refine q_lcmp dX5_holds_54 ?_
  refine q_if_ne (tgt := 60) dX5_holds_55 (by decide) ?_ ?_
  · exact q_sub [3, 2, 1] rfl (aX5_holds_b60 N k hk y1 y2 y4.2)
  refine q_iconst (v := 0) dX5_holds_58 (by decide) ?_
  exact q_iretz (y := (0, y4.2)) dX5_holds_59 rfl rfl rfl
theorem kX5_holds  (N : Nat) (k : Nat) (p1 : Int32) (hk : iLaw k) (σ : qMem) : qMc wC mX5_holds (ρi) [.ref k, .int p1] σ (fX5_holds N k p1 σ) := qMc_of (moX5_holds) (Nat.le_of_ble_eq_true rfl) (aX5_holds N k p1 hk σ)

theorem dX5_answer_0 : decode cX5_answer 0 = .ok (.aload_n 0, 1) := by decide +kernel
theorem dX5_answer_1 : decode cX5_answer 1 = .ok (.getfield 27, 3) := by decide +kernel
theorem dX5_answer_4 : decode cX5_answer 4 = .ok (.iconst 2, 1) := by decide +kernel
theorem dX5_answer_5 : decode cX5_answer 5 = .ok (.iload_n 2, 1) := by decide +kernel
theorem dX5_answer_6 : decode cX5_answer 6 = .ok (.iastore, 1) := by decide +kernel
theorem dX5_answer_7 : decode cX5_answer 7 = .ok (.aload_n 0, 1) := by decide +kernel
theorem dX5_answer_8 : decode cX5_answer 8 = .ok (.getfield 16, 3) := by decide +kernel
theorem dX5_answer_11 : decode cX5_answer 11 = .ok (.getfield 41, 3) := by decide +kernel
theorem dX5_answer_14 : decode cX5_answer 14 = .ok (.iconst 1, 1) := by decide +kernel
theorem dX5_answer_15 : decode cX5_answer 15 = .ok (.isub, 1) := by decide +kernel
theorem dX5_answer_16 : decode cX5_answer 16 = .ok (.istore_n 3, 1) := by decide +kernel
theorem dX5_answer_17 : decode cX5_answer 17 = .ok (.iload_n 3, 1) := by decide +kernel
theorem dX5_answer_18 : decode cX5_answer 18 = .ok (.ifCond .lt 38, 3) := by decide +kernel
theorem dX5_answer_21 : decode cX5_answer 21 = .ok (.aload_n 0, 1) := by decide +kernel
theorem dX5_answer_22 : decode cX5_answer 22 = .ok (.getfield 16, 3) := by decide +kernel
theorem dX5_answer_25 : decode cX5_answer 25 = .ok (.iload_n 3, 1) := by decide +kernel
theorem dX5_answer_26 : decode cX5_answer 26 = .ok (.iconst 0, 1) := by decide +kernel
theorem dX5_answer_27 : decode cX5_answer 27 = .ok (.invokevirtual 56, 3) := by decide +kernel
theorem dX5_answer_30 : decode cX5_answer 30 = .ok (.iload_n 1, 1) := by decide +kernel
theorem dX5_answer_31 : decode cX5_answer 31 = .ok (.if_icmp .ne 19, 3) := by decide +kernel
theorem dX5_answer_34 : decode cX5_answer 34 = .ok (.aload_n 0, 1) := by decide +kernel
theorem dX5_answer_35 : decode cX5_answer 35 = .ok (.iload_n 3, 1) := by decide +kernel
theorem dX5_answer_36 : decode cX5_answer 36 = .ok (.invokevirtual 59, 3) := by decide +kernel
theorem dX5_answer_39 : decode cX5_answer 39 = .ok (.ifCond .eq 11, 3) := by decide +kernel
theorem dX5_answer_42 : decode cX5_answer 42 = .ok (.aload_n 0, 1) := by decide +kernel
theorem dX5_answer_43 : decode cX5_answer 43 = .ok (.getfield 30, 3) := by decide +kernel
theorem dX5_answer_46 : decode cX5_answer 46 = .ok (.iconst 0, 1) := by decide +kernel
theorem dX5_answer_47 : decode cX5_answer 47 = .ok (.laload, 1) := by decide +kernel
theorem dX5_answer_48 : decode cX5_answer 48 = .ok (.l2i, 1) := by decide +kernel
theorem dX5_answer_49 : decode cX5_answer 49 = .ok (.ireturn, 1) := by decide +kernel
theorem dX5_answer_50 : decode cX5_answer 50 = .ok (.iinc 3 (-1), 3) := by decide +kernel
theorem dX5_answer_53 : decode cX5_answer 53 = .ok (.goto (-36), 3) := by decide +kernel
theorem dX5_answer_56 : decode cX5_answer 56 = .ok (.iconst 0, 1) := by decide +kernel
theorem dX5_answer_57 : decode cX5_answer 57 = .ok (.ireturn, 1) := by decide +kernel
def fX5_answer_b50 (N : Nat) (k : Nat) (c17 : Int32 → Int32 → qMem → Option (Int32 × qMem)) (v1 : Int32) (v3 : Int32) (σ : qMem) : Option (Int32 × qMem) :=
  (c17 v1 (v3 + (-1)) σ)
set_option maxRecDepth 20000 in
set_option maxHeartbeats 4000000 in
theorem aX5_answer_b50 (N : Nat) (k : Nat) (hk : iLaw k) (c17 : Int32 → Int32 → qMem → Option (Int32 × qMem)) (hc17 : ∀ (v1 : Int32) (v3 : Int32) (σ : qMem), qAt wC mX5_answer (ρi) 17 [(0, .ref k), (1, .int v1), (3, .int v3)] [] σ (c17 v1 v3 σ)) (v1 : Int32) (v3 : Int32) (σ : qMem) : qAt wC mX5_answer (ρi) 50 [(0, .ref k), (1, .int v1), (3, .int v3)] [] σ (fX5_answer_b50 N k c17 v1 v3 σ) := by
  unfold fX5_answer_b50
  refine q_iinc (i := 3) (x := v3) (v := (v3 + (-1))) (L' := [(3, .int (v3 + (-1))), (0, .ref k), (1, .int v1)]) dX5_answer_50 2 rfl (q_cst v3 (by decide)) (Nat.le_of_ble_eq_true rfl) rfl ?_
  refine q_goto (tgt := 17) dX5_answer_53 (by decide) ?_
  exact q_sub [1, 2, 0] rfl (hc17 v1 (v3 + (-1)) σ)

def fX5_answer_s17 (N : Nat) (k : Nat) (c17 : Int32 → Int32 → qMem → Option (Int32 × qMem)) (v1 : Int32) (v3 : Int32) (σ : qMem) : Option (Int32 × qMem) :=
  (if v3 < 0 then (some (0, σ)) else ((fX8_at (k + 1) 48 v3 0 σ).bind fun y2 => (if y2 = v1 then ((fX5_holds N k v3 σ).bind fun y3 => (if y3.1 = 0 then (fX5_answer_b50 N k c17 v1 v3 y3.2) else (if ck 0 64 = true then (some ((gl y3.2 (k + 6) (0 : Int32).toNatClampNeg).toInt32, y3.2)) else none))) else (fX5_answer_b50 N k c17 v1 v3 σ))))
set_option maxRecDepth 20000 in
set_option maxHeartbeats 4000000 in
theorem aX5_answer_s17 (N : Nat) (k : Nat) (hk : iLaw k) (c17 : Int32 → Int32 → qMem → Option (Int32 × qMem)) (hc17 : ∀ (v1 : Int32) (v3 : Int32) (σ : qMem), qAt wC mX5_answer (ρi) 17 [(0, .ref k), (1, .int v1), (3, .int v3)] [] σ (c17 v1 v3 σ)) (v1 : Int32) (v3 : Int32) (σ : qMem) : qAt wC mX5_answer (ρi) 17 [(0, .ref k), (1, .int v1), (3, .int v3)] [] σ (fX5_answer_s17 N k c17 v1 v3 σ) := by
  unfold fX5_answer_s17
  refine q_iload_n (i := 3) (x := v3) dX5_answer_17 rfl 2 rfl ?_
  refine q_if_lt (tgt := 56) dX5_answer_18 (by decide) ?_ ?_
  · refine q_iconst (v := 0) dX5_answer_56 (by decide) ?_
    exact q_ireti (y := (0, σ)) dX5_answer_57 rfl rfl
  refine q_aload_n (i := 0) (x := k) dX5_answer_21 rfl 0 rfl ?_
  refine q_getr (t := (k + 1)) dX5_answer_22 foX5_16 hk.1 rfl ?_
  refine q_iload_n (i := 3) (x := v3) dX5_answer_25 rfl 2 rfl ?_
  refine q_iconst (v := 0) dX5_answer_26 (by decide) ?_
  refine q_cVp mX8_at [.int v3, .int 0] (st := []) dX5_answer_27 (svX5_56) ⟨Nat.le_of_ble_eq_true rfl, Nat.le_of_ble_eq_true rfl⟩ hk.2.1.1 rfl rfl rfl (Nat.le_of_ble_eq_true rfl) (kX8_at (k + 1) 48 v3 0 hk.2.1 σ) (fun y2 => ?_)
  refine q_iload_n (i := 1) (x := v1) dX5_answer_30 rfl 1 rfl ?_
  refine q_icmp_ne (tgt := 50) dX5_answer_31 (by decide) ?_ ?_
  · exact q_sub [0, 1, 2] rfl (aX5_answer_b50 N k hk c17 hc17 v1 v3 σ)
  refine q_aload_n (i := 0) (x := k) dX5_answer_34 rfl 0 rfl ?_
  refine q_iload_n (i := 3) (x := v3) dX5_answer_35 rfl 2 rfl ?_
  refine q_cVi mX5_holds [.int v3] (st := []) dX5_answer_36 (svX5_59) ⟨Nat.le_of_ble_eq_true rfl, Nat.le_of_ble_eq_true rfl⟩ hk.1 rfl rfl rfl (Nat.le_of_ble_eq_true rfl) (kX5_holds N k v3 hk σ) (fun y3 => ?_)
  refine q_if_eq (tgt := 50) dX5_answer_39 (by decide) ?_ ?_
  · exact q_sub [0, 1, 2] rfl (aX5_answer_b50 N k hk c17 hc17 v1 v3 y3.2)
  refine q_aload_n (i := 0) (x := k) dX5_answer_42 rfl 0 rfl ?_
  refine q_getr (t := (k + 6)) dX5_answer_43 foX5_30 hk.1 rfl ?_
  refine q_iconst (v := 0) dX5_answer_46 (by decide) ?_
  refine q_lald dX5_answer_47 hk.2.2.2.2.2 ?_
  refine q_l2i dX5_answer_48 ?_
  exact q_ireti (y := ((gl y3.2 (k + 6) (0 : Int32).toNatClampNeg).toInt32, y3.2)) dX5_answer_49 rfl rfl
def fX5_answer_l17 (N : Nat) (k : Nat) : Nat → Int32 → Int32 → qMem → Option (Int32 × qMem)
  | 0 => fun _ _ _ => none
  | n + 1 => fun v1 v3 σ => fX5_answer_s17 N k (fX5_answer_l17 N k n) v1 v3 σ
theorem aX5_answer_l17 (N : Nat) (k : Nat) (hk : iLaw k) : ∀ (n : Nat) (v1 : Int32) (v3 : Int32) (σ : qMem), qAt wC mX5_answer (ρi) 17 [(0, .ref k), (1, .int v1), (3, .int v3)] [] σ (fX5_answer_l17 N k n v1 v3 σ) := by
  intro n
  induction n with
  | zero => intro v1 v3 σ; exact q_none
  | succ n ih => intro v1 v3 σ; exact aX5_answer_s17 N k hk (fX5_answer_l17 N k n) ih v1 v3 σ

def fX5_answer (N : Nat) (k : Nat) (p1 : Int32) (p2 : Int32) (σ : qMem) : Option (Int32 × qMem) :=
  (if ck 2 5 = true then (nmM (si σ (k + 5) (2 : Int32).toNatClampNeg p2) fun s1 => (fX5_answer_l17 N k N p1 ((gi s1 (k + 1) 3) - 1) s1)) else none)
set_option maxRecDepth 20000 in
set_option maxHeartbeats 4000000 in
theorem aX5_answer  (N : Nat) (k : Nat) (p1 : Int32) (p2 : Int32) (hk : iLaw k) (σ : qMem) : qAt wC mX5_answer (ρi) 0 [(0, .ref k), (1, .int p1), (2, .int p2)] [] σ (fX5_answer N k p1 p2 σ) := by
  unfold fX5_answer
  refine q_aload_n (i := 0) (x := k) dX5_answer_0 rfl 0 rfl ?_
  refine q_getr (t := (k + 5)) dX5_answer_1 foX5_27 hk.1 rfl ?_
  refine q_iconst (v := 2) dX5_answer_4 (by decide) ?_
  refine q_iload_n (i := 2) (x := p2) dX5_answer_5 rfl 2 rfl ?_
  refine q_iast dX5_answer_6 hk.2.2.2.2.1 ?_
  refine q_nmM (fun s1 => ?_)
  refine q_aload_n (i := 0) (x := k) dX5_answer_7 rfl 0 rfl ?_
  refine q_getr (t := (k + 1)) dX5_answer_8 foX5_16 hk.1 rfl ?_
  refine q_geti dX5_answer_11 foX5_41 hk.2.1.1 rfl ?_
  refine q_iconst (v := 1) dX5_answer_14 (by decide) ?_
  refine q_isub dX5_answer_15 ?_
  refine q_istore_n (i := 3) (L' := [(3, .int ((gi s1 (k + 1) 3) - 1)), (0, .ref k), (1, .int p1), (2, .int p2)]) dX5_answer_16 rfl (Nat.le_of_ble_eq_true rfl) rfl ?_
  exact q_sub [1, 2, 0] rfl (aX5_answer_l17 N k hk N p1 ((gi s1 (k + 1) 3) - 1) s1)
theorem kX5_answer  (N : Nat) (k : Nat) (p1 : Int32) (p2 : Int32) (hk : iLaw k) (σ : qMem) : qMc wC mX5_answer (ρi) [.ref k, .int p1, .int p2] σ (fX5_answer N k p1 p2 σ) := qMc_of (moX5_answer) (Nat.le_of_ble_eq_true rfl) (aX5_answer N k p1 p2 hk σ)

theorem dX5_isLoud_0 : decode cX5_isLoud 0 = .ok (.aload_n 0, 1) := by decide +kernel
theorem dX5_isLoud_1 : decode cX5_isLoud 1 = .ok (.iconst 0, 1) := by decide +kernel
theorem dX5_isLoud_2 : decode cX5_isLoud 2 = .ok (.iload_n 1, 1) := by decide +kernel
theorem dX5_isLoud_3 : decode cX5_isLoud 3 = .ok (.invokevirtual 52, 3) := by decide +kernel
theorem dX5_isLoud_6 : decode cX5_isLoud 6 = .ok (.i2l, 1) := by decide +kernel
theorem dX5_isLoud_7 : decode cX5_isLoud 7 = .ok (.aload_n 0, 1) := by decide +kernel
theorem dX5_isLoud_8 : decode cX5_isLoud 8 = .ok (.iconst 1, 1) := by decide +kernel
theorem dX5_isLoud_9 : decode cX5_isLoud 9 = .ok (.iload_n 1, 1) := by decide +kernel
theorem dX5_isLoud_10 : decode cX5_isLoud 10 = .ok (.invokevirtual 52, 3) := by decide +kernel
theorem dX5_isLoud_13 : decode cX5_isLoud 13 = .ok (.i2l, 1) := by decide +kernel
theorem dX5_isLoud_14 : decode cX5_isLoud 14 = .ok (.lsub, 1) := by decide +kernel
theorem dX5_isLoud_15 : decode cX5_isLoud 15 = .ok (.aload_n 0, 1) := by decide +kernel
theorem dX5_isLoud_16 : decode cX5_isLoud 16 = .ok (.iconst 2, 1) := by decide +kernel
theorem dX5_isLoud_17 : decode cX5_isLoud 17 = .ok (.iload_n 1, 1) := by decide +kernel
theorem dX5_isLoud_18 : decode cX5_isLoud 18 = .ok (.invokevirtual 52, 3) := by decide +kernel
theorem dX5_isLoud_21 : decode cX5_isLoud 21 = .ok (.i2l, 1) := by decide +kernel
theorem dX5_isLoud_22 : decode cX5_isLoud 22 = .ok (.lcmp, 1) := by decide +kernel
theorem dX5_isLoud_23 : decode cX5_isLoud 23 = .ok (.ifCond .lt 7, 3) := by decide +kernel
theorem dX5_isLoud_26 : decode cX5_isLoud 26 = .ok (.iconst 1, 1) := by decide +kernel
theorem dX5_isLoud_27 : decode cX5_isLoud 27 = .ok (.goto 4, 3) := by decide +kernel
theorem dX5_isLoud_30 : decode cX5_isLoud 30 = .ok (.iconst 0, 1) := by decide +kernel
theorem dX5_isLoud_31 : decode cX5_isLoud 31 = .ok (.ireturn, 1) := by decide +kernel

def fX5_isLoud (N : Nat) (k : Nat) (p1 : Int32) (σ : qMem) : Option (Int32 × qMem) :=
  ((fX5_answer N k 0 p1 σ).bind fun y1 => ((fX5_answer N k 1 p1 y1.2).bind fun y2 => ((fX5_answer N k 2 p1 y2.2).bind fun y3 => (if (lg_cmp (y1.1.toInt64 - y2.1.toInt64) y3.1.toInt64) < 0 then (some (0, y3.2)) else (some (1, y3.2))))))
set_option maxRecDepth 20000 in
set_option maxHeartbeats 4000000 in
theorem aX5_isLoud  (N : Nat) (k : Nat) (p1 : Int32) (hk : iLaw k) (σ : qMem) : qAt wC mX5_isLoud (ρi) 0 [(0, .ref k), (1, .int p1)] [] σ (fX5_isLoud N k p1 σ) := by
  unfold fX5_isLoud
  refine q_aload_n (i := 0) (x := k) dX5_isLoud_0 rfl 0 rfl ?_
  refine q_iconst (v := 0) dX5_isLoud_1 (by decide) ?_
  refine q_iload_n (i := 1) (x := p1) dX5_isLoud_2 rfl 1 rfl ?_
  refine q_cVi mX5_answer [.int 0, .int p1] (st := []) dX5_isLoud_3 (svX5_52) ⟨Nat.le_of_ble_eq_true rfl, Nat.le_of_ble_eq_true rfl⟩ hk.1 rfl rfl rfl (Nat.le_of_ble_eq_true rfl) (kX5_answer N k 0 p1 hk σ) (fun y1 => ?_)
  refine q_i2l dX5_isLoud_6 ?_
  refine q_aload_n (i := 0) (x := k) dX5_isLoud_7 rfl 0 rfl ?_
  refine q_iconst (v := 1) dX5_isLoud_8 (by decide) ?_
  refine q_iload_n (i := 1) (x := p1) dX5_isLoud_9 rfl 1 rfl ?_
  refine q_cVi mX5_answer [.int 1, .int p1] (st := [.long y1.1.toInt64]) dX5_isLoud_10 (svX5_52) ⟨Nat.le_of_ble_eq_true rfl, Nat.le_of_ble_eq_true rfl⟩ hk.1 rfl rfl rfl (Nat.le_of_ble_eq_true rfl) (kX5_answer N k 1 p1 hk y1.2) (fun y2 => ?_)
  refine q_i2l dX5_isLoud_13 ?_
  refine q_lsub dX5_isLoud_14 ?_
  refine q_aload_n (i := 0) (x := k) dX5_isLoud_15 rfl 0 rfl ?_
  refine q_iconst (v := 2) dX5_isLoud_16 (by decide) ?_
  refine q_iload_n (i := 1) (x := p1) dX5_isLoud_17 rfl 1 rfl ?_
  refine q_cVi mX5_answer [.int 2, .int p1] (st := [.long (y1.1.toInt64 - y2.1.toInt64)]) dX5_isLoud_18 (svX5_52) ⟨Nat.le_of_ble_eq_true rfl, Nat.le_of_ble_eq_true rfl⟩ hk.1 rfl rfl rfl (Nat.le_of_ble_eq_true rfl) (kX5_answer N k 2 p1 hk y2.2) (fun y3 => ?_)
  refine q_i2l dX5_isLoud_21 ?_
  refine q_lcmp dX5_isLoud_22 ?_
  refine q_if_lt (tgt := 30) dX5_isLoud_23 (by decide) ?_ ?_
  · refine q_iconst (v := 0) dX5_isLoud_30 (by decide) ?_
    exact q_iretz (y := (0, y3.2)) dX5_isLoud_31 rfl rfl rfl
  refine q_iconst (v := 1) dX5_isLoud_26 (by decide) ?_
  refine q_goto (tgt := 31) dX5_isLoud_27 (by decide) ?_
  exact q_iretz (y := (1, y3.2)) dX5_isLoud_31 rfl rfl rfl
theorem kX5_isLoud  (N : Nat) (k : Nat) (p1 : Int32) (hk : iLaw k) (σ : qMem) : qMc wC mX5_isLoud (ρi) [.ref k, .int p1] σ (fX5_isLoud N k p1 σ) := qMc_of (moX5_isLoud) (Nat.le_of_ble_eq_true rfl) (aX5_isLoud N k p1 hk σ)

theorem dX5_pose_0 : decode cX5_pose 0 = .ok (.aload_n 0, 1) := by decide +kernel
theorem dX5_pose_1 : decode cX5_pose 1 = .ok (.getfield 27, 3) := by decide +kernel
theorem dX5_pose_4 : decode cX5_pose 4 = .ok (.iconst 0, 1) := by decide +kernel
theorem dX5_pose_5 : decode cX5_pose 5 = .ok (.iload_n 1, 1) := by decide +kernel
theorem dX5_pose_6 : decode cX5_pose 6 = .ok (.iastore, 1) := by decide +kernel
theorem dX5_pose_7 : decode cX5_pose 7 = .ok (.aload_n 0, 1) := by decide +kernel
theorem dX5_pose_8 : decode cX5_pose 8 = .ok (.getfield 27, 3) := by decide +kernel
theorem dX5_pose_11 : decode cX5_pose 11 = .ok (.iconst 1, 1) := by decide +kernel
theorem dX5_pose_12 : decode cX5_pose 12 = .ok (.iload_n 2, 1) := by decide +kernel
theorem dX5_pose_13 : decode cX5_pose 13 = .ok (.iastore, 1) := by decide +kernel
theorem dX5_pose_14 : decode cX5_pose 14 = .ok (.aload_n 0, 1) := by decide +kernel
theorem dX5_pose_15 : decode cX5_pose 15 = .ok (.getfield 27, 3) := by decide +kernel
theorem dX5_pose_18 : decode cX5_pose 18 = .ok (.iconst 3, 1) := by decide +kernel
theorem dX5_pose_19 : decode cX5_pose 19 = .ok (.iload_n 3, 1) := by decide +kernel
theorem dX5_pose_20 : decode cX5_pose 20 = .ok (.iastore, 1) := by decide +kernel
theorem dX5_pose_21 : decode cX5_pose 21 = .ok (.aload_n 0, 1) := by decide +kernel
theorem dX5_pose_22 : decode cX5_pose 22 = .ok (.getfield 27, 3) := by decide +kernel
theorem dX5_pose_25 : decode cX5_pose 25 = .ok (.iconst 4, 1) := by decide +kernel
theorem dX5_pose_26 : decode cX5_pose 26 = .ok (.iload 4, 2) := by decide +kernel
theorem dX5_pose_28 : decode cX5_pose 28 = .ok (.iastore, 1) := by decide +kernel
theorem dX5_pose_29 : decode cX5_pose 29 = .ok (.return_, 1) := by decide +kernel

def fX5_pose (k : Nat) (p1 : Int32) (p2 : Int32) (p3 : Int32) (p4 : Int32) (σ : qMem) : Option qMem :=
  (if ck 0 5 = true then (nmM (si σ (k + 5) (0 : Int32).toNatClampNeg p1) fun s1 => (if ck 1 5 = true then (nmM (si s1 (k + 5) (1 : Int32).toNatClampNeg p2) fun s2 => (if ck 3 5 = true then (nmM (si s2 (k + 5) (3 : Int32).toNatClampNeg p3) fun s3 => (if ck 4 5 = true then (nmM (si s3 (k + 5) (4 : Int32).toNatClampNeg p4) fun s4 => (some s4)) else none)) else none)) else none)) else none)
set_option maxRecDepth 20000 in
set_option maxHeartbeats 4000000 in
theorem aX5_pose  (k : Nat) (p1 : Int32) (p2 : Int32) (p3 : Int32) (p4 : Int32) (hk : iLaw k) (σ : qMem) : qAt wC mX5_pose (ρv) 0 [(0, .ref k), (1, .int p1), (2, .int p2), (3, .int p3), (4, .int p4)] [] σ (fX5_pose k p1 p2 p3 p4 σ) := by
  unfold fX5_pose
  refine q_aload_n (i := 0) (x := k) dX5_pose_0 rfl 0 rfl ?_
  refine q_getr (t := (k + 5)) dX5_pose_1 foX5_27 hk.1 rfl ?_
  refine q_iconst (v := 0) dX5_pose_4 (by decide) ?_
  refine q_iload_n (i := 1) (x := p1) dX5_pose_5 rfl 1 rfl ?_
  refine q_iast dX5_pose_6 hk.2.2.2.2.1 ?_
  refine q_nmM (fun s1 => ?_)
  refine q_aload_n (i := 0) (x := k) dX5_pose_7 rfl 0 rfl ?_
  refine q_getr (t := (k + 5)) dX5_pose_8 foX5_27 hk.1 rfl ?_
  refine q_iconst (v := 1) dX5_pose_11 (by decide) ?_
  refine q_iload_n (i := 2) (x := p2) dX5_pose_12 rfl 2 rfl ?_
  refine q_iast dX5_pose_13 hk.2.2.2.2.1 ?_
  refine q_nmM (fun s2 => ?_)
  refine q_aload_n (i := 0) (x := k) dX5_pose_14 rfl 0 rfl ?_
  refine q_getr (t := (k + 5)) dX5_pose_15 foX5_27 hk.1 rfl ?_
  refine q_iconst (v := 3) dX5_pose_18 (by decide) ?_
  refine q_iload_n (i := 3) (x := p3) dX5_pose_19 rfl 3 rfl ?_
  refine q_iast dX5_pose_20 hk.2.2.2.2.1 ?_
  refine q_nmM (fun s3 => ?_)
  refine q_aload_n (i := 0) (x := k) dX5_pose_21 rfl 0 rfl ?_
  refine q_getr (t := (k + 5)) dX5_pose_22 foX5_27 hk.1 rfl ?_
  refine q_iconst (v := 4) dX5_pose_25 (by decide) ?_
  refine q_iload (i := 4) (x := p4) dX5_pose_26 4 rfl ?_
  refine q_iast dX5_pose_28 hk.2.2.2.2.1 ?_
  refine q_nmM (fun s4 => ?_)
  exact q_vret (y := s4) dX5_pose_29 rfl rfl
theorem kX5_pose  (k : Nat) (p1 : Int32) (p2 : Int32) (p3 : Int32) (p4 : Int32) (hk : iLaw k) (σ : qMem) : qMc wC mX5_pose (ρv) [.ref k, .int p1, .int p2, .int p3, .int p4] σ (fX5_pose k p1 p2 p3 p4 σ) := qMc_of (moX5_pose) (Nat.le_of_ble_eq_true rfl) (aX5_pose k p1 p2 p3 p4 hk σ)

theorem dX3_hearers_0 : decode cX3_hearers 0 = .ok (.aload_n 0, 1) := by decide +kernel
theorem dX3_hearers_1 : decode cX3_hearers 1 = .ok (.getfield 67, 3) := by decide +kernel
theorem dX3_hearers_4 : decode cX3_hearers 4 = .ok (.ifCond .eq 10, 3) := by decide +kernel
theorem dX3_hearers_7 : decode cX3_hearers 7 = .ok (.iload_n 1, 1) := by decide +kernel
theorem dX3_hearers_8 : decode cX3_hearers 8 = .ok (.invokestatic 147, 3) := by decide +kernel
theorem dX3_hearers_11 : decode cX3_hearers 11 = .ok (.ifCond .ne 5, 3) := by decide +kernel
theorem dX3_hearers_14 : decode cX3_hearers 14 = .ok (.iconst 0, 1) := by decide +kernel
theorem dX3_hearers_15 : decode cX3_hearers 15 = .ok (.ireturn, 1) := by decide +kernel
theorem dX3_hearers_16 : decode cX3_hearers 16 = .ok (.aload_n 0, 1) := by decide +kernel
theorem dX3_hearers_17 : decode cX3_hearers 17 = .ok (.getfield 80, 3) := by decide +kernel
theorem dX3_hearers_20 : decode cX3_hearers 20 = .ok (.getfield 113, 3) := by decide +kernel
theorem dX3_hearers_23 : decode cX3_hearers 23 = .ok (.iload_n 1, 1) := by decide +kernel
theorem dX3_hearers_24 : decode cX3_hearers 24 = .ok (.aaload, 1) := by decide +kernel
theorem dX3_hearers_25 : decode cX3_hearers 25 = .ok (.getfield 117, 3) := by decide +kernel
theorem dX3_hearers_28 : decode cX3_hearers 28 = .ok (.istore 6, 2) := by decide +kernel
theorem dX3_hearers_30 : decode cX3_hearers 30 = .ok (.aload_n 0, 1) := by decide +kernel
theorem dX3_hearers_31 : decode cX3_hearers 31 = .ok (.getfield 80, 3) := by decide +kernel
theorem dX3_hearers_34 : decode cX3_hearers 34 = .ok (.getfield 252, 3) := by decide +kernel
theorem dX3_hearers_37 : decode cX3_hearers 37 = .ok (.iload_n 3, 1) := by decide +kernel
theorem dX3_hearers_38 : decode cX3_hearers 38 = .ok (.iload 6, 2) := by decide +kernel
theorem dX3_hearers_40 : decode cX3_hearers 40 = .ok (.iload_n 2, 1) := by decide +kernel
theorem dX3_hearers_41 : decode cX3_hearers 41 = .ok (.iload_n 1, 1) := by decide +kernel
theorem dX3_hearers_42 : decode cX3_hearers 42 = .ok (.invokevirtual 256, 3) := by decide +kernel
theorem dX3_hearers_45 : decode cX3_hearers 45 = .ok (.aload_n 0, 1) := by decide +kernel
theorem dX3_hearers_46 : decode cX3_hearers 46 = .ok (.getfield 80, 3) := by decide +kernel
theorem dX3_hearers_49 : decode cX3_hearers 49 = .ok (.getfield 100, 3) := by decide +kernel
theorem dX3_hearers_52 : decode cX3_hearers 52 = .ok (.iload 6, 2) := by decide +kernel
theorem dX3_hearers_54 : decode cX3_hearers 54 = .ok (.sipush 200, 3) := by decide +kernel
theorem dX3_hearers_57 : decode cX3_hearers 57 = .ok (.aload_n 0, 1) := by decide +kernel
theorem dX3_hearers_58 : decode cX3_hearers 58 = .ok (.getfield 31, 3) := by decide +kernel
theorem dX3_hearers_61 : decode cX3_hearers 61 = .ok (.invokevirtual 107, 3) := by decide +kernel
theorem dX3_hearers_64 : decode cX3_hearers 64 = .ok (.iconst 0, 1) := by decide +kernel
theorem dX3_hearers_65 : decode cX3_hearers 65 = .ok (.istore 7, 2) := by decide +kernel
theorem dX3_hearers_67 : decode cX3_hearers 67 = .ok (.iload 7, 2) := by decide +kernel
theorem dX3_hearers_69 : decode cX3_hearers 69 = .ok (.sipush 200, 3) := by decide +kernel
theorem dX3_hearers_72 : decode cX3_hearers 72 = .ok (.if_icmp .gt 64, 3) := by decide +kernel
theorem dX3_hearers_75 : decode cX3_hearers 75 = .ok (.aload_n 0, 1) := by decide +kernel
theorem dX3_hearers_76 : decode cX3_hearers 76 = .ok (.getfield 31, 3) := by decide +kernel
theorem dX3_hearers_79 : decode cX3_hearers 79 = .ok (.iload 7, 2) := by decide +kernel
theorem dX3_hearers_81 : decode cX3_hearers 81 = .ok (.iaload, 1) := by decide +kernel
theorem dX3_hearers_82 : decode cX3_hearers 82 = .ok (.aload_n 0, 1) := by decide +kernel
theorem dX3_hearers_83 : decode cX3_hearers 83 = .ok (.getfield 80, 3) := by decide +kernel
theorem dX3_hearers_86 : decode cX3_hearers 86 = .ok (.getfield 104, 3) := by decide +kernel
theorem dX3_hearers_89 : decode cX3_hearers 89 = .ok (.iconst 3, 1) := by decide +kernel
theorem dX3_hearers_90 : decode cX3_hearers 90 = .ok (.iaload, 1) := by decide +kernel
theorem dX3_hearers_91 : decode cX3_hearers 91 = .ok (.invokestatic 122, 3) := by decide +kernel
theorem dX3_hearers_94 : decode cX3_hearers 94 = .ok (.istore 8, 2) := by decide +kernel
theorem dX3_hearers_96 : decode cX3_hearers 96 = .ok (.aload_n 0, 1) := by decide +kernel
theorem dX3_hearers_97 : decode cX3_hearers 97 = .ok (.getfield 27, 3) := by decide +kernel
theorem dX3_hearers_100 : decode cX3_hearers 100 = .ok (.iload 7, 2) := by decide +kernel
theorem dX3_hearers_102 : decode cX3_hearers 102 = .ok (.iload 8, 2) := by decide +kernel
theorem dX3_hearers_104 : decode cX3_hearers 104 = .ok (.ifCond .eq 22, 3) := by decide +kernel
theorem dX3_hearers_107 : decode cX3_hearers 107 = .ok (.aload_n 0, 1) := by decide +kernel
theorem dX3_hearers_108 : decode cX3_hearers 108 = .ok (.getfield 80, 3) := by decide +kernel
theorem dX3_hearers_111 : decode cX3_hearers 111 = .ok (.getfield 252, 3) := by decide +kernel
theorem dX3_hearers_114 : decode cX3_hearers 114 = .ok (.iload 7, 2) := by decide +kernel
theorem dX3_hearers_116 : decode cX3_hearers 116 = .ok (.invokevirtual 261, 3) := by decide +kernel
theorem dX3_hearers_119 : decode cX3_hearers 119 = .ok (.ifCond .eq 7, 3) := by decide +kernel
theorem dX3_hearers_122 : decode cX3_hearers 122 = .ok (.iconst 1, 1) := by decide +kernel
theorem dX3_hearers_123 : decode cX3_hearers 123 = .ok (.goto 4, 3) := by decide +kernel
theorem dX3_hearers_126 : decode cX3_hearers 126 = .ok (.iconst 0, 1) := by decide +kernel
theorem dX3_hearers_127 : decode cX3_hearers 127 = .ok (.invokevirtual 126, 3) := by decide +kernel
theorem dX3_hearers_130 : decode cX3_hearers 130 = .ok (.iinc 7 1, 3) := by decide +kernel
theorem dX3_hearers_133 : decode cX3_hearers 133 = .ok (.goto (-66), 3) := by decide +kernel
theorem dX3_hearers_136 : decode cX3_hearers 136 = .ok (.aload_n 0, 1) := by decide +kernel
theorem dX3_hearers_137 : decode cX3_hearers 137 = .ok (.getfield 27, 3) := by decide +kernel
theorem dX3_hearers_140 : decode cX3_hearers 140 = .ok (.invokevirtual 130, 3) := by decide +kernel
theorem dX3_hearers_143 : decode cX3_hearers 143 = .ok (.iconst 0, 1) := by decide +kernel
theorem dX3_hearers_144 : decode cX3_hearers 144 = .ok (.istore 7, 2) := by decide +kernel
theorem dX3_hearers_146 : decode cX3_hearers 146 = .ok (.iconst 0, 1) := by decide +kernel
theorem dX3_hearers_147 : decode cX3_hearers 147 = .ok (.istore 8, 2) := by decide +kernel
theorem dX3_hearers_149 : decode cX3_hearers 149 = .ok (.iload 8, 2) := by decide +kernel
theorem dX3_hearers_151 : decode cX3_hearers 151 = .ok (.sipush 1568, 3) := by decide +kernel
theorem dX3_hearers_154 : decode cX3_hearers 154 = .ok (.if_icmp .ge 64, 3) := by decide +kernel
theorem dX3_hearers_157 : decode cX3_hearers 157 = .ok (.aload_n 0, 1) := by decide +kernel
theorem dX3_hearers_158 : decode cX3_hearers 158 = .ok (.getfield 35, 3) := by decide +kernel
theorem dX3_hearers_161 : decode cX3_hearers 161 = .ok (.iload 8, 2) := by decide +kernel
theorem dX3_hearers_163 : decode cX3_hearers 163 = .ok (.iaload, 1) := by decide +kernel
theorem dX3_hearers_164 : decode cX3_hearers 164 = .ok (.ifCond .eq 48, 3) := by decide +kernel
theorem dX3_hearers_167 : decode cX3_hearers 167 = .ok (.aload_n 0, 1) := by decide +kernel
theorem dX3_hearers_168 : decode cX3_hearers 168 = .ok (.getfield 27, 3) := by decide +kernel
theorem dX3_hearers_171 : decode cX3_hearers 171 = .ok (.iload 8, 2) := by decide +kernel
theorem dX3_hearers_173 : decode cX3_hearers 173 = .ok (.iload_n 2, 1) := by decide +kernel
theorem dX3_hearers_174 : decode cX3_hearers 174 = .ok (.invokestatic 188, 3) := by decide +kernel
theorem dX3_hearers_177 : decode cX3_hearers 177 = .ok (.iload 4, 2) := by decide +kernel
theorem dX3_hearers_179 : decode cX3_hearers 179 = .ok (.isub, 1) := by decide +kernel
theorem dX3_hearers_180 : decode cX3_hearers 180 = .ok (.iload 8, 2) := by decide +kernel
theorem dX3_hearers_182 : decode cX3_hearers 182 = .ok (.iload_n 2, 1) := by decide +kernel
theorem dX3_hearers_183 : decode cX3_hearers 183 = .ok (.invokestatic 191, 3) := by decide +kernel
theorem dX3_hearers_186 : decode cX3_hearers 186 = .ok (.iload 5, 2) := by decide +kernel
theorem dX3_hearers_188 : decode cX3_hearers 188 = .ok (.isub, 1) := by decide +kernel
theorem dX3_hearers_189 : decode cX3_hearers 189 = .ok (.invokevirtual 194, 3) := by decide +kernel
theorem dX3_hearers_192 : decode cX3_hearers 192 = .ok (.istore 9, 2) := by decide +kernel
theorem dX3_hearers_194 : decode cX3_hearers 194 = .ok (.iload 7, 2) := by decide +kernel
theorem dX3_hearers_196 : decode cX3_hearers 196 = .ok (.aload_n 0, 1) := by decide +kernel
theorem dX3_hearers_197 : decode cX3_hearers 197 = .ok (.getfield 35, 3) := by decide +kernel
theorem dX3_hearers_200 : decode cX3_hearers 200 = .ok (.iload 8, 2) := by decide +kernel
theorem dX3_hearers_202 : decode cX3_hearers 202 = .ok (.iaload, 1) := by decide +kernel
theorem dX3_hearers_203 : decode cX3_hearers 203 = .ok (.iload 9, 2) := by decide +kernel
theorem dX3_hearers_205 : decode cX3_hearers 205 = .ok (.iand, 1) := by decide +kernel
theorem dX3_hearers_206 : decode cX3_hearers 206 = .ok (.invokestatic 224, 3) := by decide +kernel
theorem dX3_hearers_209 : decode cX3_hearers 209 = .ok (.iadd, 1) := by decide +kernel
theorem dX3_hearers_210 : decode cX3_hearers 210 = .ok (.istore 7, 2) := by decide +kernel
theorem dX3_hearers_212 : decode cX3_hearers 212 = .ok (.iinc 8 1, 3) := by decide +kernel
theorem dX3_hearers_215 : decode cX3_hearers 215 = .ok (.goto (-66), 3) := by decide +kernel
theorem dX3_hearers_218 : decode cX3_hearers 218 = .ok (.iload 7, 2) := by decide +kernel
theorem dX3_hearers_220 : decode cX3_hearers 220 = .ok (.ireturn, 1) := by decide +kernel
def fX3_hearers_b212 (N : Nat) (c149 : Int32 → Int32 → Int32 → Int32 → Int32 → qMem → Option (Int32 × qMem)) (v2 : Int32) (v4 : Int32) (v5 : Int32) (v7 : Int32) (v8 : Int32) (σ : qMem) : Option (Int32 × qMem) :=
  (c149 v2 v4 v5 v7 (v8 + 1) σ)
set_option maxRecDepth 20000 in
set_option maxHeartbeats 4000000 in
theorem aX3_hearers_b212 (N : Nat) (c149 : Int32 → Int32 → Int32 → Int32 → Int32 → qMem → Option (Int32 × qMem)) (hc149 : ∀ (v2 : Int32) (v4 : Int32) (v5 : Int32) (v7 : Int32) (v8 : Int32) (σ : qMem), qAt wC mX3_hearers (ρi) 149 [(0, .ref 44), (2, .int v2), (4, .int v4), (5, .int v5), (7, .int v7), (8, .int v8)] [] σ (c149 v2 v4 v5 v7 v8 σ)) (v2 : Int32) (v4 : Int32) (v5 : Int32) (v7 : Int32) (v8 : Int32) (σ : qMem) : qAt wC mX3_hearers (ρi) 212 [(0, .ref 44), (2, .int v2), (4, .int v4), (5, .int v5), (7, .int v7), (8, .int v8)] [] σ (fX3_hearers_b212 N c149 v2 v4 v5 v7 v8 σ) := by
  unfold fX3_hearers_b212
  refine q_iinc (i := 8) (x := v8) (v := (v8 + 1)) (L' := [(8, .int (v8 + 1)), (0, .ref 44), (2, .int v2), (4, .int v4), (5, .int v5), (7, .int v7)]) dX3_hearers_212 5 rfl (q_cst v8 (by decide)) (Nat.le_of_ble_eq_true rfl) rfl ?_
  refine q_goto (tgt := 149) dX3_hearers_215 (by decide) ?_
  exact q_sub [1, 2, 3, 4, 5, 0] rfl (hc149 v2 v4 v5 v7 (v8 + 1) σ)

def fX3_hearers_s149 (N : Nat) (c149 : Int32 → Int32 → Int32 → Int32 → Int32 → qMem → Option (Int32 × qMem)) (v2 : Int32) (v4 : Int32) (v5 : Int32) (v7 : Int32) (v8 : Int32) (σ : qMem) : Option (Int32 × qMem) :=
  (if 1568 ≤ v8 then (some (v7, σ)) else (if ck v8 1568 = true then (if (gi σ 61 v8.toNatClampNeg) = 0 then (fX3_hearers_b212 N c149 v2 v4 v5 v7 v8 σ) else ((fX3_eastOf v8 v2).bind fun y10 => ((fX3_lowOf v8 v2).bind fun y11 => ((fX7_column 57 (y10 - v4) (y11 - v5) σ).bind fun y12 => (if ck v8 1568 = true then ((fJ6_bitCount_0f7a4 ((gi σ 61 v8.toNatClampNeg) &&& y12)).bind fun y13 => (fX3_hearers_b212 N c149 v2 v4 v5 (v7 + y13) v8 σ)) else none))))) else none))
set_option maxRecDepth 20000 in
set_option maxHeartbeats 4000000 in
theorem aX3_hearers_s149 (N : Nat) (c149 : Int32 → Int32 → Int32 → Int32 → Int32 → qMem → Option (Int32 × qMem)) (hc149 : ∀ (v2 : Int32) (v4 : Int32) (v5 : Int32) (v7 : Int32) (v8 : Int32) (σ : qMem), qAt wC mX3_hearers (ρi) 149 [(0, .ref 44), (2, .int v2), (4, .int v4), (5, .int v5), (7, .int v7), (8, .int v8)] [] σ (c149 v2 v4 v5 v7 v8 σ)) (v2 : Int32) (v4 : Int32) (v5 : Int32) (v7 : Int32) (v8 : Int32) (σ : qMem) : qAt wC mX3_hearers (ρi) 149 [(0, .ref 44), (2, .int v2), (4, .int v4), (5, .int v5), (7, .int v7), (8, .int v8)] [] σ (fX3_hearers_s149 N c149 v2 v4 v5 v7 v8 σ) := by
  unfold fX3_hearers_s149
  refine q_iload (i := 8) (x := v8) dX3_hearers_149 5 rfl ?_
  refine q_sipush (v := 1568) dX3_hearers_151 (by decide) ?_
  refine q_icmp_ge (tgt := 218) dX3_hearers_154 (by decide) ?_ ?_
  · refine q_iload (i := 7) (x := v7) dX3_hearers_218 4 rfl ?_
    exact q_ireti (y := (v7, σ)) dX3_hearers_220 rfl rfl
  refine q_aload_n (i := 0) (x := 44) dX3_hearers_157 rfl 0 rfl ?_
  refine q_getr (t := 61) dX3_hearers_158 foX3_35 zC_44 rfl ?_
  refine q_iload (i := 8) (x := v8) dX3_hearers_161 5 rfl ?_
  refine q_iald dX3_hearers_163 zC_61 ?_
  refine q_if_eq (tgt := 212) dX3_hearers_164 (by decide) ?_ ?_
  · exact q_sub [0, 1, 2, 3, 4, 5] rfl (aX3_hearers_b212 N c149 hc149 v2 v4 v5 v7 v8 σ)
  refine q_aload_n (i := 0) (x := 44) dX3_hearers_167 rfl 0 rfl ?_
  refine q_getr (t := 57) dX3_hearers_168 foX3_27 zC_44 rfl ?_
  refine q_iload (i := 8) (x := v8) dX3_hearers_171 5 rfl ?_
  refine q_iload_n (i := 2) (x := v2) dX3_hearers_173 rfl 1 rfl ?_
  refine q_cSp mX3_eastOf [.int v8, .int v2] (st := [.ref 57]) dX3_hearers_174 (ssX3_188) ⟨Nat.le_of_ble_eq_true rfl, Nat.le_of_ble_eq_true rfl⟩ rfl rfl (Nat.le_of_ble_eq_true rfl) (kX3_eastOf v8 v2 σ) (fun y10 => ?_)
  refine q_iload (i := 4) (x := v4) dX3_hearers_177 2 rfl ?_
  refine q_isub dX3_hearers_179 ?_
  refine q_iload (i := 8) (x := v8) dX3_hearers_180 5 rfl ?_
  refine q_iload_n (i := 2) (x := v2) dX3_hearers_182 rfl 1 rfl ?_
  refine q_cSp mX3_lowOf [.int v8, .int v2] (st := [.int (y10 - v4), .ref 57]) dX3_hearers_183 (ssX3_191) ⟨Nat.le_of_ble_eq_true rfl, Nat.le_of_ble_eq_true rfl⟩ rfl rfl (Nat.le_of_ble_eq_true rfl) (kX3_lowOf v8 v2 σ) (fun y11 => ?_)
  refine q_iload (i := 5) (x := v5) dX3_hearers_186 3 rfl ?_
  refine q_isub dX3_hearers_188 ?_
  refine q_cVp mX7_column [.int (y10 - v4), .int (y11 - v5)] (st := []) dX3_hearers_189 (svX3_194) ⟨Nat.le_of_ble_eq_true rfl, Nat.le_of_ble_eq_true rfl⟩ zC_57 rfl rfl rfl (Nat.le_of_ble_eq_true rfl) (kX7_column 57 (y10 - v4) (y11 - v5) pC_57 σ) (fun y12 => ?_)
  refine q_istore (i := 9) (L' := [(9, .int y12), (0, .ref 44), (2, .int v2), (4, .int v4), (5, .int v5), (7, .int v7), (8, .int v8)]) dX3_hearers_192 (Nat.le_of_ble_eq_true rfl) rfl ?_
  refine q_iload (i := 7) (x := v7) dX3_hearers_194 5 rfl ?_
  refine q_aload_n (i := 0) (x := 44) dX3_hearers_196 rfl 1 rfl ?_
  refine q_getr (t := 61) dX3_hearers_197 foX3_35 zC_44 rfl ?_
  refine q_iload (i := 8) (x := v8) dX3_hearers_200 6 rfl ?_
  refine q_iald dX3_hearers_202 zC_61 ?_
  refine q_iload (i := 9) (x := y12) dX3_hearers_203 0 rfl ?_
  refine q_iand dX3_hearers_205 ?_
  refine q_cSp mJ6_bitCount_0f7a4 [.int ((gi σ 61 v8.toNatClampNeg) &&& y12)] (st := [.int v7]) dX3_hearers_206 (ssX3_224) ⟨Nat.le_of_ble_eq_true rfl, Nat.le_of_ble_eq_true rfl⟩ rfl rfl (Nat.le_of_ble_eq_true rfl) (kJ6_bitCount_0f7a4 ((gi σ 61 v8.toNatClampNeg) &&& y12) σ) (fun y13 => ?_)
  refine q_iadd dX3_hearers_209 ?_
  refine q_istore (i := 7) (L' := [(7, .int (v7 + y13)), (9, .int y12), (0, .ref 44), (2, .int v2), (4, .int v4), (5, .int v5), (8, .int v8)]) dX3_hearers_210 (Nat.le_of_ble_eq_true rfl) rfl ?_
  exact q_sub [2, 3, 4, 5, 0, 6] rfl (aX3_hearers_b212 N c149 hc149 v2 v4 v5 (v7 + y13) v8 σ)
def fX3_hearers_l149 (N : Nat) : Nat → Int32 → Int32 → Int32 → Int32 → Int32 → qMem → Option (Int32 × qMem)
  | 0 => fun _ _ _ _ _ _ => none
  | n + 1 => fun v2 v4 v5 v7 v8 σ => fX3_hearers_s149 N (fX3_hearers_l149 N n) v2 v4 v5 v7 v8 σ
theorem aX3_hearers_l149 (N : Nat) : ∀ (n : Nat) (v2 : Int32) (v4 : Int32) (v5 : Int32) (v7 : Int32) (v8 : Int32) (σ : qMem), qAt wC mX3_hearers (ρi) 149 [(0, .ref 44), (2, .int v2), (4, .int v4), (5, .int v5), (7, .int v7), (8, .int v8)] [] σ (fX3_hearers_l149 N n v2 v4 v5 v7 v8 σ) := by
  intro n
  induction n with
  | zero => intro v2 v4 v5 v7 v8 σ; exact q_none
  | succ n ih => intro v2 v4 v5 v7 v8 σ; exact aX3_hearers_s149 N (fX3_hearers_l149 N n) ih v2 v4 v5 v7 v8 σ

def fX3_hearers_b127 (N : Nat) (c67 : Int32 → Int32 → Int32 → Int32 → qMem → Option (Int32 × qMem)) (v2 : Int32) (v4 : Int32) (v5 : Int32) (v7 : Int32) (u1 : Int32) (u2 : Int32) (σ : qMem) : Option (Int32 × qMem) :=
  ((fX7_put 57 u1 u2 σ).bind fun y9 => (c67 v2 v4 v5 (v7 + 1) y9))
set_option maxRecDepth 20000 in
set_option maxHeartbeats 4000000 in
theorem aX3_hearers_b127 (N : Nat) (c67 : Int32 → Int32 → Int32 → Int32 → qMem → Option (Int32 × qMem)) (hc67 : ∀ (v2 : Int32) (v4 : Int32) (v5 : Int32) (v7 : Int32) (σ : qMem), qAt wC mX3_hearers (ρi) 67 [(0, .ref 44), (2, .int v2), (4, .int v4), (5, .int v5), (7, .int v7)] [] σ (c67 v2 v4 v5 v7 σ)) (v2 : Int32) (v4 : Int32) (v5 : Int32) (v7 : Int32) (u1 : Int32) (u2 : Int32) (σ : qMem) : qAt wC mX3_hearers (ρi) 127 [(0, .ref 44), (2, .int v2), (4, .int v4), (5, .int v5), (7, .int v7)] [.int u2, .int u1, .ref 57] σ (fX3_hearers_b127 N c67 v2 v4 v5 v7 u1 u2 σ) := by
  unfold fX3_hearers_b127
  refine q_cVv mX7_put [.int u1, .int u2] (st := []) dX3_hearers_127 (svX3_126) ⟨Nat.le_of_ble_eq_true rfl, Nat.le_of_ble_eq_true rfl⟩ zC_57 rfl rfl rfl (Nat.le_of_ble_eq_true rfl) (kX7_put 57 u1 u2 pC_57 σ) (fun y9 => ?_)
  refine q_iinc (i := 7) (x := v7) (v := (v7 + 1)) (L' := [(7, .int (v7 + 1)), (0, .ref 44), (2, .int v2), (4, .int v4), (5, .int v5)]) dX3_hearers_130 4 rfl (q_cst v7 (by decide)) (Nat.le_of_ble_eq_true rfl) rfl ?_
  refine q_goto (tgt := 67) dX3_hearers_133 (by decide) ?_
  exact q_sub [1, 2, 3, 4, 0] rfl (hc67 v2 v4 v5 (v7 + 1) y9)

def fX3_hearers_b126 (N : Nat) (c67 : Int32 → Int32 → Int32 → Int32 → qMem → Option (Int32 × qMem)) (v2 : Int32) (v4 : Int32) (v5 : Int32) (v7 : Int32) (u1 : Int32) (σ : qMem) : Option (Int32 × qMem) :=
  (fX3_hearers_b127 N c67 v2 v4 v5 v7 u1 0 σ)
set_option maxRecDepth 20000 in
set_option maxHeartbeats 4000000 in
theorem aX3_hearers_b126 (N : Nat) (c67 : Int32 → Int32 → Int32 → Int32 → qMem → Option (Int32 × qMem)) (hc67 : ∀ (v2 : Int32) (v4 : Int32) (v5 : Int32) (v7 : Int32) (σ : qMem), qAt wC mX3_hearers (ρi) 67 [(0, .ref 44), (2, .int v2), (4, .int v4), (5, .int v5), (7, .int v7)] [] σ (c67 v2 v4 v5 v7 σ)) (v2 : Int32) (v4 : Int32) (v5 : Int32) (v7 : Int32) (u1 : Int32) (σ : qMem) : qAt wC mX3_hearers (ρi) 126 [(0, .ref 44), (2, .int v2), (4, .int v4), (5, .int v5), (7, .int v7)] [.int u1, .ref 57] σ (fX3_hearers_b126 N c67 v2 v4 v5 v7 u1 σ) := by
  unfold fX3_hearers_b126
  refine q_iconst (v := 0) dX3_hearers_126 (by decide) ?_
  exact q_sub [0, 1, 2, 3, 4] rfl (aX3_hearers_b127 N c67 hc67 v2 v4 v5 v7 u1 0 σ)

def fX3_hearers_s67 (N : Nat) (c67 : Int32 → Int32 → Int32 → Int32 → qMem → Option (Int32 × qMem)) (v2 : Int32) (v4 : Int32) (v5 : Int32) (v7 : Int32) (σ : qMem) : Option (Int32 × qMem) :=
  (if 200 < v7 then ((fX7_settle N 57 σ).bind fun y6 => (fX3_hearers_l149 N N v2 v4 v5 0 0 y6)) else (if ck v7 201 = true then (if ck 3 6 = true then ((fX10_isNear (gi σ 60 v7.toNatClampNeg) (gi σ 18 (3 : Int32).toNatClampNeg)).bind fun y7 => (if y7 = 0 then (fX3_hearers_b126 N c67 v2 v4 v5 v7 v7 σ) else ((fX5_isLoud N 35 v7 σ).bind fun y8 => (if y8.1 = 0 then (fX3_hearers_b126 N c67 v2 v4 v5 v7 v7 y8.2) else (fX3_hearers_b127 N c67 v2 v4 v5 v7 v7 1 y8.2))))) else none) else none))
set_option maxRecDepth 20000 in
set_option maxHeartbeats 4000000 in
theorem aX3_hearers_s67 (N : Nat) (c67 : Int32 → Int32 → Int32 → Int32 → qMem → Option (Int32 × qMem)) (hc67 : ∀ (v2 : Int32) (v4 : Int32) (v5 : Int32) (v7 : Int32) (σ : qMem), qAt wC mX3_hearers (ρi) 67 [(0, .ref 44), (2, .int v2), (4, .int v4), (5, .int v5), (7, .int v7)] [] σ (c67 v2 v4 v5 v7 σ)) (v2 : Int32) (v4 : Int32) (v5 : Int32) (v7 : Int32) (σ : qMem) : qAt wC mX3_hearers (ρi) 67 [(0, .ref 44), (2, .int v2), (4, .int v4), (5, .int v5), (7, .int v7)] [] σ (fX3_hearers_s67 N c67 v2 v4 v5 v7 σ) := by
  unfold fX3_hearers_s67
  refine q_iload (i := 7) (x := v7) dX3_hearers_67 4 rfl ?_
  refine q_sipush (v := 200) dX3_hearers_69 (by decide) ?_
  refine q_icmp_gt (tgt := 136) dX3_hearers_72 (by decide) ?_ ?_
  · refine q_aload_n (i := 0) (x := 44) dX3_hearers_136 rfl 0 rfl ?_
    refine q_getr (t := 57) dX3_hearers_137 foX3_27 zC_44 rfl ?_
    refine q_cVv mX7_settle [] (st := []) dX3_hearers_140 (svX3_130) ⟨Nat.le_of_ble_eq_true rfl, Nat.le_of_ble_eq_true rfl⟩ zC_57 rfl rfl rfl (Nat.le_of_ble_eq_true rfl) (kX7_settle N 57 pC_57 σ) (fun y6 => ?_)
    refine q_iconst (v := 0) dX3_hearers_143 (by decide) ?_
    refine q_istore (i := 7) (L' := [(7, .int 0), (0, .ref 44), (2, .int v2), (4, .int v4), (5, .int v5)]) dX3_hearers_144 (Nat.le_of_ble_eq_true rfl) rfl ?_
    refine q_iconst (v := 0) dX3_hearers_146 (by decide) ?_
    refine q_istore (i := 8) (L' := [(8, .int 0), (7, .int 0), (0, .ref 44), (2, .int v2), (4, .int v4), (5, .int v5)]) dX3_hearers_147 (Nat.le_of_ble_eq_true rfl) rfl ?_
    exact q_sub [2, 3, 4, 5, 1, 0] rfl (aX3_hearers_l149 N N v2 v4 v5 0 0 y6)
  refine q_aload_n (i := 0) (x := 44) dX3_hearers_75 rfl 0 rfl ?_
  refine q_getr (t := 60) dX3_hearers_76 foX3_31 zC_44 rfl ?_
  refine q_iload (i := 7) (x := v7) dX3_hearers_79 4 rfl ?_
  refine q_iald dX3_hearers_81 zC_60 ?_
  refine q_aload_n (i := 0) (x := 44) dX3_hearers_82 rfl 0 rfl ?_
  refine q_getr (t := 1) dX3_hearers_83 foX3_80 zC_44 rfl ?_
  refine q_getr (t := 18) dX3_hearers_86 foX3_104 zC_1 rfl ?_
  refine q_iconst (v := 3) dX3_hearers_89 (by decide) ?_
  refine q_iald dX3_hearers_90 zC_18 ?_
  refine q_cSp mX10_isNear [.int (gi σ 60 v7.toNatClampNeg), .int (gi σ 18 (3 : Int32).toNatClampNeg)] (st := []) dX3_hearers_91 (ssX3_122) ⟨Nat.le_of_ble_eq_true rfl, Nat.le_of_ble_eq_true rfl⟩ rfl rfl (Nat.le_of_ble_eq_true rfl) (kX10_isNear (gi σ 60 v7.toNatClampNeg) (gi σ 18 (3 : Int32).toNatClampNeg) σ) (fun y7 => ?_)
  refine q_istore (i := 8) (L' := [(8, .int y7), (0, .ref 44), (2, .int v2), (4, .int v4), (5, .int v5), (7, .int v7)]) dX3_hearers_94 (Nat.le_of_ble_eq_true rfl) rfl ?_
  refine q_aload_n (i := 0) (x := 44) dX3_hearers_96 rfl 1 rfl ?_
  refine q_getr (t := 57) dX3_hearers_97 foX3_27 zC_44 rfl ?_
  refine q_iload (i := 7) (x := v7) dX3_hearers_100 5 rfl ?_
  refine q_iload (i := 8) (x := y7) dX3_hearers_102 0 rfl ?_
  refine q_if_eq (tgt := 126) dX3_hearers_104 (by decide) ?_ ?_
  · exact q_sub [1, 2, 3, 4, 5] rfl (aX3_hearers_b126 N c67 hc67 v2 v4 v5 v7 v7 σ)
  refine q_aload_n (i := 0) (x := 44) dX3_hearers_107 rfl 1 rfl ?_
  refine q_getr (t := 1) dX3_hearers_108 foX3_80 zC_44 rfl ?_
  refine q_getr (t := 35) dX3_hearers_111 foX3_252 zC_1 rfl ?_
  refine q_iload (i := 7) (x := v7) dX3_hearers_114 5 rfl ?_
  refine q_cVi mX5_isLoud [.int v7] (st := [.int v7, .ref 57]) dX3_hearers_116 (svX3_261) ⟨Nat.le_of_ble_eq_true rfl, Nat.le_of_ble_eq_true rfl⟩ zC_35 rfl rfl rfl (Nat.le_of_ble_eq_true rfl) (kX5_isLoud N 35 v7 pC_35 σ) (fun y8 => ?_)
  refine q_if_eq (tgt := 126) dX3_hearers_119 (by decide) ?_ ?_
  · exact q_sub [1, 2, 3, 4, 5] rfl (aX3_hearers_b126 N c67 hc67 v2 v4 v5 v7 v7 y8.2)
  refine q_iconst (v := 1) dX3_hearers_122 (by decide) ?_
  refine q_goto (tgt := 127) dX3_hearers_123 (by decide) ?_
  exact q_sub [1, 2, 3, 4, 5] rfl (aX3_hearers_b127 N c67 hc67 v2 v4 v5 v7 v7 1 y8.2)
def fX3_hearers_l67 (N : Nat) : Nat → Int32 → Int32 → Int32 → Int32 → qMem → Option (Int32 × qMem)
  | 0 => fun _ _ _ _ _ => none
  | n + 1 => fun v2 v4 v5 v7 σ => fX3_hearers_s67 N (fX3_hearers_l67 N n) v2 v4 v5 v7 σ
theorem aX3_hearers_l67 (N : Nat) : ∀ (n : Nat) (v2 : Int32) (v4 : Int32) (v5 : Int32) (v7 : Int32) (σ : qMem), qAt wC mX3_hearers (ρi) 67 [(0, .ref 44), (2, .int v2), (4, .int v4), (5, .int v5), (7, .int v7)] [] σ (fX3_hearers_l67 N n v2 v4 v5 v7 σ) := by
  intro n
  induction n with
  | zero => intro v2 v4 v5 v7 σ; exact q_none
  | succ n ih => intro v2 v4 v5 v7 σ; exact aX3_hearers_s67 N (fX3_hearers_l67 N n) ih v2 v4 v5 v7 σ

def fX3_hearers (N : Nat) (p1 : Int32) (p2 : Int32) (p3 : Int32) (p4 : Int32) (p5 : Int32) (σ : qMem) : Option (Int32 × qMem) :=
  (if (gi σ 44 14) = 0 then (some (0, σ)) else ((fX11_isBoat p1).bind fun y1 => (if y1 = 0 then (some (0, σ)) else (if ck p1 2 = true then (nmI (gi σ (3 + 6 * p1.toNatClampNeg) 4) fun x3 => ((fX5_pose 35 p3 x3 p2 p1 σ).bind fun y4 => ((fX10_sendRays N 15 x3 200 y4).bind fun y5 => (fX3_hearers_l67 N N p2 p4 p5 0 y5)))) else none))))
set_option maxRecDepth 20000 in
set_option maxHeartbeats 4000000 in
theorem aX3_hearers  (N : Nat) (p1 : Int32) (p2 : Int32) (p3 : Int32) (p4 : Int32) (p5 : Int32)  (σ : qMem) : qAt wC mX3_hearers (ρi) 0 [(0, .ref 44), (1, .int p1), (2, .int p2), (3, .int p3), (4, .int p4), (5, .int p5)] [] σ (fX3_hearers N p1 p2 p3 p4 p5 σ) := by
  unfold fX3_hearers
  refine q_aload_n (i := 0) (x := 44) dX3_hearers_0 rfl 0 rfl ?_
  refine q_geti dX3_hearers_1 foX3_67 zC_44 rfl ?_
  refine q_if_eq (tgt := 14) dX3_hearers_4 (by decide) ?_ ?_
  · refine q_iconst (v := 0) dX3_hearers_14 (by decide) ?_
    exact q_ireti (y := (0, σ)) dX3_hearers_15 rfl rfl
  refine q_iload_n (i := 1) (x := p1) dX3_hearers_7 rfl 1 rfl ?_
  refine q_cSp mX11_isBoat [.int p1] (st := []) dX3_hearers_8 (ssX3_147) ⟨Nat.le_of_ble_eq_true rfl, Nat.le_of_ble_eq_true rfl⟩ rfl rfl (Nat.le_of_ble_eq_true rfl) (kX11_isBoat p1 σ) (fun y1 => ?_)
  refine q_if_ne (tgt := 16) dX3_hearers_11 (by decide) ?_ ?_
  · refine q_aload_n (i := 0) (x := 44) dX3_hearers_16 rfl 0 rfl ?_
    refine q_getr (t := 1) dX3_hearers_17 foX3_80 zC_44 rfl ?_
    refine q_getr (t := 2) dX3_hearers_20 foX3_113 zC_1 rfl ?_
    refine q_iload_n (i := 1) (x := p1) dX3_hearers_23 rfl 1 rfl ?_
    refine q_aald (t0 := 4) (fun j => 3 + 6 * j) dX3_hearers_24 zC_2 (fun _ => rfl) (by decide) (fun hc_2 => ?_)
    refine q_geti dX3_hearers_25 foX3_117 (xBoat hc_2).1 rfl ?_
    refine q_nmI (fun x3 => ?_)
    refine q_istore (i := 6) (L' := [(6, .int x3), (0, .ref 44), (1, .int p1), (2, .int p2), (3, .int p3), (4, .int p4), (5, .int p5)]) dX3_hearers_28 (Nat.le_of_ble_eq_true rfl) rfl ?_
    refine q_aload_n (i := 0) (x := 44) dX3_hearers_30 rfl 1 rfl ?_
    refine q_getr (t := 1) dX3_hearers_31 foX3_80 zC_44 rfl ?_
    refine q_getr (t := 35) dX3_hearers_34 foX3_252 zC_1 rfl ?_
    refine q_iload_n (i := 3) (x := p3) dX3_hearers_37 rfl 4 rfl ?_
    refine q_iload (i := 6) (x := x3) dX3_hearers_38 0 rfl ?_
    refine q_iload_n (i := 2) (x := p2) dX3_hearers_40 rfl 3 rfl ?_
    refine q_iload_n (i := 1) (x := p1) dX3_hearers_41 rfl 2 rfl ?_
    refine q_cVv mX5_pose [.int p3, .int x3, .int p2, .int p1] (st := []) dX3_hearers_42 (svX3_256) ⟨Nat.le_of_ble_eq_true rfl, Nat.le_of_ble_eq_true rfl⟩ zC_35 rfl rfl rfl (Nat.le_of_ble_eq_true rfl) (kX5_pose 35 p3 x3 p2 p1 pC_35 σ) (fun y4 => ?_)
    refine q_aload_n (i := 0) (x := 44) dX3_hearers_45 rfl 1 rfl ?_
    refine q_getr (t := 1) dX3_hearers_46 foX3_80 zC_44 rfl ?_
    refine q_getr (t := 15) dX3_hearers_49 foX3_100 zC_1 rfl ?_
    refine q_iload (i := 6) (x := x3) dX3_hearers_52 0 rfl ?_
    refine q_sipush (v := 200) dX3_hearers_54 (by decide) ?_
    refine q_aload_n (i := 0) (x := 44) dX3_hearers_57 rfl 1 rfl ?_
    refine q_getr (t := 60) dX3_hearers_58 foX3_31 zC_44 rfl ?_
    refine q_cVv mX10_sendRays [.int x3, .int 200, .ref 60] (st := []) dX3_hearers_61 (svX3_107) ⟨Nat.le_of_ble_eq_true rfl, Nat.le_of_ble_eq_true rfl⟩ zC_15 rfl rfl rfl (Nat.le_of_ble_eq_true rfl) (kX10_sendRays N 15 x3 200 pC_15 y4) (fun y5 => ?_)
    refine q_iconst (v := 0) dX3_hearers_64 (by decide) ?_
    refine q_istore (i := 7) (L' := [(7, .int 0), (6, .int x3), (0, .ref 44), (1, .int p1), (2, .int p2), (3, .int p3), (4, .int p4), (5, .int p5)]) dX3_hearers_65 (Nat.le_of_ble_eq_true rfl) rfl ?_
    exact q_sub [2, 4, 6, 7, 0] rfl (aX3_hearers_l67 N N p2 p4 p5 0 y5)
  refine q_iconst (v := 0) dX3_hearers_14 (by decide) ?_
  exact q_ireti (y := (0, σ)) dX3_hearers_15 rfl rfl
theorem kX3_hearers  (N : Nat) (p1 : Int32) (p2 : Int32) (p3 : Int32) (p4 : Int32) (p5 : Int32)  (σ : qMem) : qMc wC mX3_hearers (ρi) [.ref 44, .int p1, .int p2, .int p3, .int p4, .int p5] σ (fX3_hearers N p1 p2 p3 p4 p5 σ) := qMc_of (moX3_hearers) (Nat.le_of_ble_eq_true rfl) (aX3_hearers N p1 p2 p3 p4 p5  σ)

theorem dX3_freshHeard_0 : decode cX3_freshHeard 0 = .ok (.iload_n 3, 1) := by decide +kernel
theorem dX3_freshHeard_1 : decode cX3_freshHeard 1 = .ok (.istore 4, 2) := by decide +kernel
theorem dX3_freshHeard_3 : decode cX3_freshHeard 3 = .ok (.iconst 0, 1) := by decide +kernel
theorem dX3_freshHeard_4 : decode cX3_freshHeard 4 = .ok (.istore 5, 2) := by decide +kernel
theorem dX3_freshHeard_6 : decode cX3_freshHeard 6 = .ok (.iload_n 3, 1) := by decide +kernel
theorem dX3_freshHeard_7 : decode cX3_freshHeard 7 = .ok (.ifCond .lt 65, 3) := by decide +kernel
theorem dX3_freshHeard_10 : decode cX3_freshHeard 10 = .ok (.iload 5, 2) := by decide +kernel
theorem dX3_freshHeard_12 : decode cX3_freshHeard 12 = .ok (.aload_n 0, 1) := by decide +kernel
theorem dX3_freshHeard_13 : decode cX3_freshHeard 13 = .ok (.getfield 14, 3) := by decide +kernel
theorem dX3_freshHeard_16 : decode cX3_freshHeard 16 = .ok (.iload_n 1, 1) := by decide +kernel
theorem dX3_freshHeard_17 : decode cX3_freshHeard 17 = .ok (.aaload, 1) := by decide +kernel
theorem dX3_freshHeard_18 : decode cX3_freshHeard 18 = .ok (.getfield 84, 3) := by decide +kernel
theorem dX3_freshHeard_21 : decode cX3_freshHeard 21 = .ok (.if_icmp .ge 51, 3) := by decide +kernel
theorem dX3_freshHeard_24 : decode cX3_freshHeard 24 = .ok (.aload_n 0, 1) := by decide +kernel
theorem dX3_freshHeard_25 : decode cX3_freshHeard 25 = .ok (.getfield 14, 3) := by decide +kernel
theorem dX3_freshHeard_28 : decode cX3_freshHeard 28 = .ok (.iload_n 1, 1) := by decide +kernel
theorem dX3_freshHeard_29 : decode cX3_freshHeard 29 = .ok (.aaload, 1) := by decide +kernel
theorem dX3_freshHeard_30 : decode cX3_freshHeard 30 = .ok (.iload 5, 2) := by decide +kernel
theorem dX3_freshHeard_32 : decode cX3_freshHeard 32 = .ok (.iconst 0, 1) := by decide +kernel
theorem dX3_freshHeard_33 : decode cX3_freshHeard 33 = .ok (.invokevirtual 133, 3) := by decide +kernel
theorem dX3_freshHeard_36 : decode cX3_freshHeard 36 = .ok (.ifCond .ne 30, 3) := by decide +kernel
theorem dX3_freshHeard_39 : decode cX3_freshHeard 39 = .ok (.aload_n 0, 1) := by decide +kernel
theorem dX3_freshHeard_40 : decode cX3_freshHeard 40 = .ok (.getfield 14, 3) := by decide +kernel
theorem dX3_freshHeard_43 : decode cX3_freshHeard 43 = .ok (.iload_n 1, 1) := by decide +kernel
theorem dX3_freshHeard_44 : decode cX3_freshHeard 44 = .ok (.aaload, 1) := by decide +kernel
theorem dX3_freshHeard_45 : decode cX3_freshHeard 45 = .ok (.iload 5, 2) := by decide +kernel
theorem dX3_freshHeard_47 : decode cX3_freshHeard 47 = .ok (.iconst 1, 1) := by decide +kernel
theorem dX3_freshHeard_48 : decode cX3_freshHeard 48 = .ok (.invokevirtual 133, 3) := by decide +kernel
theorem dX3_freshHeard_51 : decode cX3_freshHeard 51 = .ok (.iload_n 2, 1) := by decide +kernel
theorem dX3_freshHeard_52 : decode cX3_freshHeard 52 = .ok (.if_icmp .ne 14, 3) := by decide +kernel
theorem dX3_freshHeard_55 : decode cX3_freshHeard 55 = .ok (.iload 4, 2) := by decide +kernel
theorem dX3_freshHeard_57 : decode cX3_freshHeard 57 = .ok (.ifCond .ne 6, 3) := by decide +kernel
theorem dX3_freshHeard_60 : decode cX3_freshHeard 60 = .ok (.iload 5, 2) := by decide +kernel
theorem dX3_freshHeard_62 : decode cX3_freshHeard 62 = .ok (.ireturn, 1) := by decide +kernel
theorem dX3_freshHeard_63 : decode cX3_freshHeard 63 = .ok (.iinc 4 (-1), 3) := by decide +kernel
theorem dX3_freshHeard_66 : decode cX3_freshHeard 66 = .ok (.iinc 5 1, 3) := by decide +kernel
theorem dX3_freshHeard_69 : decode cX3_freshHeard 69 = .ok (.goto (-63), 3) := by decide +kernel
theorem dX3_freshHeard_72 : decode cX3_freshHeard 72 = .ok (.iconst (-1), 1) := by decide +kernel
theorem dX3_freshHeard_73 : decode cX3_freshHeard 73 = .ok (.ireturn, 1) := by decide +kernel
def fX3_freshHeard_b66 (N : Nat) (c6 : Int32 → Int32 → Int32 → Int32 → Int32 → Option Int32) (v1 : Int32) (v2 : Int32) (v3 : Int32) (v4 : Int32) (v5 : Int32) (σ : qMem) : Option Int32 :=
  (c6 v1 v2 v3 v4 (v5 + 1))
set_option maxRecDepth 20000 in
set_option maxHeartbeats 4000000 in
theorem aX3_freshHeard_b66 (N : Nat) (σ : qMem) (c6 : Int32 → Int32 → Int32 → Int32 → Int32 → Option Int32) (hc6 : ∀ (v1 : Int32) (v2 : Int32) (v3 : Int32) (v4 : Int32) (v5 : Int32) , qAt wC mX3_freshHeard (ρp σ) 6 [(0, .ref 44), (1, .int v1), (2, .int v2), (3, .int v3), (4, .int v4), (5, .int v5)] [] σ (c6 v1 v2 v3 v4 v5)) (v1 : Int32) (v2 : Int32) (v3 : Int32) (v4 : Int32) (v5 : Int32) : qAt wC mX3_freshHeard (ρp σ) 66 [(0, .ref 44), (1, .int v1), (2, .int v2), (3, .int v3), (4, .int v4), (5, .int v5)] [] σ (fX3_freshHeard_b66 N c6 v1 v2 v3 v4 v5 σ) := by
  unfold fX3_freshHeard_b66
  refine q_iinc (i := 5) (x := v5) (v := (v5 + 1)) (L' := [(5, .int (v5 + 1)), (0, .ref 44), (1, .int v1), (2, .int v2), (3, .int v3), (4, .int v4)]) dX3_freshHeard_66 5 rfl (q_cst v5 (by decide)) (Nat.le_of_ble_eq_true rfl) rfl ?_
  refine q_goto (tgt := 6) dX3_freshHeard_69 (by decide) ?_
  exact q_sub [1, 2, 3, 4, 5, 0] rfl (hc6 v1 v2 v3 v4 (v5 + 1))

def fX3_freshHeard_s6 (N : Nat) (c6 : Int32 → Int32 → Int32 → Int32 → Int32 → Option Int32) (v1 : Int32) (v2 : Int32) (v3 : Int32) (v4 : Int32) (v5 : Int32) (σ : qMem) : Option Int32 :=
  (if v3 < 0 then (some (-1)) else (if ck v1 2 = true then (if (gi σ (46 + 2 * v1.toNatClampNeg) 3) ≤ v5 then (some (-1)) else (if ck v1 2 = true then ((fX8_at (46 + 2 * v1.toNatClampNeg) 108 v5 0 σ).bind fun y3 => (if y3 = 0 then (if ck v1 2 = true then ((fX8_at (46 + 2 * v1.toNatClampNeg) 108 v5 1 σ).bind fun y5 => (if y5 = v2 then (if v4 = 0 then (some v5) else (fX3_freshHeard_b66 N c6 v1 v2 v3 (v4 + (-1)) v5 σ)) else (fX3_freshHeard_b66 N c6 v1 v2 v3 v4 v5 σ))) else none) else (fX3_freshHeard_b66 N c6 v1 v2 v3 v4 v5 σ))) else none)) else none))
set_option maxRecDepth 20000 in
set_option maxHeartbeats 4000000 in
theorem aX3_freshHeard_s6 (N : Nat) (σ : qMem) (c6 : Int32 → Int32 → Int32 → Int32 → Int32 → Option Int32) (hc6 : ∀ (v1 : Int32) (v2 : Int32) (v3 : Int32) (v4 : Int32) (v5 : Int32) , qAt wC mX3_freshHeard (ρp σ) 6 [(0, .ref 44), (1, .int v1), (2, .int v2), (3, .int v3), (4, .int v4), (5, .int v5)] [] σ (c6 v1 v2 v3 v4 v5)) (v1 : Int32) (v2 : Int32) (v3 : Int32) (v4 : Int32) (v5 : Int32) : qAt wC mX3_freshHeard (ρp σ) 6 [(0, .ref 44), (1, .int v1), (2, .int v2), (3, .int v3), (4, .int v4), (5, .int v5)] [] σ (fX3_freshHeard_s6 N c6 v1 v2 v3 v4 v5 σ) := by
  unfold fX3_freshHeard_s6
  refine q_iload_n (i := 3) (x := v3) dX3_freshHeard_6 rfl 3 rfl ?_
  refine q_if_lt (tgt := 72) dX3_freshHeard_7 (by decide) ?_ ?_
  · refine q_iconst (v := (-1)) dX3_freshHeard_72 (by decide) ?_
    exact q_ireti (y := (-1)) dX3_freshHeard_73 rfl rfl
  refine q_iload (i := 5) (x := v5) dX3_freshHeard_10 5 rfl ?_
  refine q_aload_n (i := 0) (x := 44) dX3_freshHeard_12 rfl 0 rfl ?_
  refine q_getr (t := 45) dX3_freshHeard_13 foX3_14 zC_44 rfl ?_
  refine q_iload_n (i := 1) (x := v1) dX3_freshHeard_16 rfl 1 rfl ?_
  refine q_aald (t0 := 7) (fun j => 46 + 2 * j) dX3_freshHeard_17 zC_45 (fun _ => rfl) (by decide) (fun hc_1 => ?_)
  refine q_geti dX3_freshHeard_18 foX3_84 (xRowsF hc_1).1 rfl ?_
  refine q_icmp_ge (tgt := 72) dX3_freshHeard_21 (by decide) ?_ ?_
  · refine q_iconst (v := (-1)) dX3_freshHeard_72 (by decide) ?_
    exact q_ireti (y := (-1)) dX3_freshHeard_73 rfl rfl
  refine q_aload_n (i := 0) (x := 44) dX3_freshHeard_24 rfl 0 rfl ?_
  refine q_getr (t := 45) dX3_freshHeard_25 foX3_14 zC_44 rfl ?_
  refine q_iload_n (i := 1) (x := v1) dX3_freshHeard_28 rfl 1 rfl ?_
  refine q_aald (t0 := 7) (fun j => 46 + 2 * j) dX3_freshHeard_29 zC_45 (fun _ => rfl) (by decide) (fun hc_2 => ?_)
  refine q_iload (i := 5) (x := v5) dX3_freshHeard_30 5 rfl ?_
  refine q_iconst (v := 0) dX3_freshHeard_32 (by decide) ?_
  refine q_cVp mX8_at [.int v5, .int 0] (st := []) dX3_freshHeard_33 (svX3_133) ⟨Nat.le_of_ble_eq_true rfl, Nat.le_of_ble_eq_true rfl⟩ (xRowsF hc_2).1 rfl rfl rfl (Nat.le_of_ble_eq_true rfl) (kX8_at (46 + 2 * v1.toNatClampNeg) 108 v5 0 (xRowsF hc_2) σ) (fun y3 => ?_)
  refine q_if_ne (tgt := 66) dX3_freshHeard_36 (by decide) ?_ ?_
  · exact q_sub [0, 1, 2, 3, 4, 5] rfl (aX3_freshHeard_b66 N σ c6 hc6 v1 v2 v3 v4 v5)
  refine q_aload_n (i := 0) (x := 44) dX3_freshHeard_39 rfl 0 rfl ?_
  refine q_getr (t := 45) dX3_freshHeard_40 foX3_14 zC_44 rfl ?_
  refine q_iload_n (i := 1) (x := v1) dX3_freshHeard_43 rfl 1 rfl ?_
  refine q_aald (t0 := 7) (fun j => 46 + 2 * j) dX3_freshHeard_44 zC_45 (fun _ => rfl) (by decide) (fun hc_4 => ?_)
  refine q_iload (i := 5) (x := v5) dX3_freshHeard_45 5 rfl ?_
  refine q_iconst (v := 1) dX3_freshHeard_47 (by decide) ?_
  refine q_cVp mX8_at [.int v5, .int 1] (st := []) dX3_freshHeard_48 (svX3_133) ⟨Nat.le_of_ble_eq_true rfl, Nat.le_of_ble_eq_true rfl⟩ (xRowsF hc_4).1 rfl rfl rfl (Nat.le_of_ble_eq_true rfl) (kX8_at (46 + 2 * v1.toNatClampNeg) 108 v5 1 (xRowsF hc_4) σ) (fun y5 => ?_)
  refine q_iload_n (i := 2) (x := v2) dX3_freshHeard_51 rfl 2 rfl ?_
  refine q_icmp_ne (tgt := 66) dX3_freshHeard_52 (by decide) ?_ ?_
  · exact q_sub [0, 1, 2, 3, 4, 5] rfl (aX3_freshHeard_b66 N σ c6 hc6 v1 v2 v3 v4 v5)
  refine q_iload (i := 4) (x := v4) dX3_freshHeard_55 4 rfl ?_
  refine q_if_ne (tgt := 63) dX3_freshHeard_57 (by decide) ?_ ?_
  · refine q_iinc (i := 4) (x := v4) (v := (v4 + (-1))) (L' := [(4, .int (v4 + (-1))), (0, .ref 44), (1, .int v1), (2, .int v2), (3, .int v3), (5, .int v5)]) dX3_freshHeard_63 4 rfl (q_cst v4 (by decide)) (Nat.le_of_ble_eq_true rfl) rfl ?_
    exact q_sub [1, 2, 3, 4, 0, 5] rfl (aX3_freshHeard_b66 N σ c6 hc6 v1 v2 v3 (v4 + (-1)) v5)
  refine q_iload (i := 5) (x := v5) dX3_freshHeard_60 5 rfl ?_
  exact q_ireti (y := v5) dX3_freshHeard_62 rfl rfl
def fX3_freshHeard_l6 (N : Nat) (σ : qMem) : Nat → Int32 → Int32 → Int32 → Int32 → Int32 → Option Int32
  | 0 => fun _ _ _ _ _ => none
  | n + 1 => fun v1 v2 v3 v4 v5 => fX3_freshHeard_s6 N (fX3_freshHeard_l6 N σ n) v1 v2 v3 v4 v5 σ
theorem aX3_freshHeard_l6 (N : Nat) (σ : qMem) : ∀ (n : Nat) (v1 : Int32) (v2 : Int32) (v3 : Int32) (v4 : Int32) (v5 : Int32), qAt wC mX3_freshHeard (ρp σ) 6 [(0, .ref 44), (1, .int v1), (2, .int v2), (3, .int v3), (4, .int v4), (5, .int v5)] [] σ (fX3_freshHeard_l6 N σ n v1 v2 v3 v4 v5) := by
  intro n
  induction n with
  | zero => intro v1 v2 v3 v4 v5; exact q_none
  | succ n ih => intro v1 v2 v3 v4 v5; exact aX3_freshHeard_s6 N σ (fX3_freshHeard_l6 N σ n) ih v1 v2 v3 v4 v5

def fX3_freshHeard (N : Nat) (p1 : Int32) (p2 : Int32) (p3 : Int32) (σ : qMem) : Option Int32 :=
  (fX3_freshHeard_l6 N σ N p1 p2 p3 p3 0)
set_option maxRecDepth 20000 in
set_option maxHeartbeats 4000000 in
theorem aX3_freshHeard  (N : Nat) (p1 : Int32) (p2 : Int32) (p3 : Int32)  (σ : qMem) : qAt wC mX3_freshHeard (ρp σ) 0 [(0, .ref 44), (1, .int p1), (2, .int p2), (3, .int p3)] [] σ (fX3_freshHeard N p1 p2 p3 σ) := by
  unfold fX3_freshHeard
  refine q_iload_n (i := 3) (x := p3) dX3_freshHeard_0 rfl 3 rfl ?_
  refine q_istore (i := 4) (L' := [(4, .int p3), (0, .ref 44), (1, .int p1), (2, .int p2), (3, .int p3)]) dX3_freshHeard_1 (Nat.le_of_ble_eq_true rfl) rfl ?_
  refine q_iconst (v := 0) dX3_freshHeard_3 (by decide) ?_
  refine q_istore (i := 5) (L' := [(5, .int 0), (4, .int p3), (0, .ref 44), (1, .int p1), (2, .int p2), (3, .int p3)]) dX3_freshHeard_4 (Nat.le_of_ble_eq_true rfl) rfl ?_
  exact q_sub [2, 3, 4, 5, 1, 0] rfl (aX3_freshHeard_l6 N σ N p1 p2 p3 p3 0)
theorem kX3_freshHeard  (N : Nat) (p1 : Int32) (p2 : Int32) (p3 : Int32)  (σ : qMem) : qMc wC mX3_freshHeard (ρp σ) [.ref 44, .int p1, .int p2, .int p3] σ (fX3_freshHeard N p1 p2 p3 σ) := qMc_of (moX3_freshHeard) (Nat.le_of_ble_eq_true rfl) (aX3_freshHeard N p1 p2 p3  σ)

theorem dX3_crossings_0 : decode cX3_crossings 0 = .ok (.aload_n 0, 1) := by decide +kernel
theorem dX3_crossings_1 : decode cX3_crossings 1 = .ok (.invokevirtual 199, 3) := by decide +kernel
theorem dX3_crossings_4 : decode cX3_crossings 4 = .ok (.iconst 0, 1) := by decide +kernel
theorem dX3_crossings_5 : decode cX3_crossings 5 = .ok (.istore 4, 2) := by decide +kernel
theorem dX3_crossings_7 : decode cX3_crossings 7 = .ok (.iconst 0, 1) := by decide +kernel
theorem dX3_crossings_8 : decode cX3_crossings 8 = .ok (.istore 5, 2) := by decide +kernel
theorem dX3_crossings_10 : decode cX3_crossings 10 = .ok (.iload 5, 2) := by decide +kernel
theorem dX3_crossings_12 : decode cX3_crossings 12 = .ok (.bipush 32, 2) := by decide +kernel
theorem dX3_crossings_14 : decode cX3_crossings 14 = .ok (.if_icmp .ge 66, 3) := by decide +kernel
theorem dX3_crossings_17 : decode cX3_crossings 17 = .ok (.iload 5, 2) := by decide +kernel
theorem dX3_crossings_19 : decode cX3_crossings 19 = .ok (.bipush 7, 2) := by decide +kernel
theorem dX3_crossings_21 : decode cX3_crossings 21 = .ok (.imul, 1) := by decide +kernel
theorem dX3_crossings_22 : decode cX3_crossings 22 = .ok (.iconst 3, 1) := by decide +kernel
theorem dX3_crossings_23 : decode cX3_crossings 23 = .ok (.iadd, 1) := by decide +kernel
theorem dX3_crossings_24 : decode cX3_crossings 24 = .ok (.istore 6, 2) := by decide +kernel
theorem dX3_crossings_26 : decode cX3_crossings 26 = .ok (.aload_n 0, 1) := by decide +kernel
theorem dX3_crossings_27 : decode cX3_crossings 27 = .ok (.iconst 0, 1) := by decide +kernel
theorem dX3_crossings_28 : decode cX3_crossings 28 = .ok (.iload_n 2, 1) := by decide +kernel
theorem dX3_crossings_29 : decode cX3_crossings 29 = .ok (.iload_n 1, 1) := by decide +kernel
theorem dX3_crossings_30 : decode cX3_crossings 30 = .ok (.iload 6, 2) := by decide +kernel
theorem dX3_crossings_32 : decode cX3_crossings 32 = .ok (.invokevirtual 220, 3) := by decide +kernel
theorem dX3_crossings_35 : decode cX3_crossings 35 = .ok (.aload_n 0, 1) := by decide +kernel
theorem dX3_crossings_36 : decode cX3_crossings 36 = .ok (.getfield 45, 3) := by decide +kernel
theorem dX3_crossings_39 : decode cX3_crossings 39 = .ok (.iconst 3, 1) := by decide +kernel
theorem dX3_crossings_40 : decode cX3_crossings 40 = .ok (.iaload, 1) := by decide +kernel
theorem dX3_crossings_41 : decode cX3_crossings 41 = .ok (.istore 7, 2) := by decide +kernel
theorem dX3_crossings_43 : decode cX3_crossings 43 = .ok (.iload 7, 2) := by decide +kernel
theorem dX3_crossings_45 : decode cX3_crossings 45 = .ok (.ifCond .eq 29, 3) := by decide +kernel
theorem dX3_crossings_48 : decode cX3_crossings 48 = .ok (.aload_n 0, 1) := by decide +kernel
theorem dX3_crossings_49 : decode cX3_crossings 49 = .ok (.iconst 1, 1) := by decide +kernel
theorem dX3_crossings_50 : decode cX3_crossings 50 = .ok (.iload_n 3, 1) := by decide +kernel
theorem dX3_crossings_51 : decode cX3_crossings 51 = .ok (.iload_n 1, 1) := by decide +kernel
theorem dX3_crossings_52 : decode cX3_crossings 52 = .ok (.iload 6, 2) := by decide +kernel
theorem dX3_crossings_54 : decode cX3_crossings 54 = .ok (.invokevirtual 220, 3) := by decide +kernel
theorem dX3_crossings_57 : decode cX3_crossings 57 = .ok (.iload 4, 2) := by decide +kernel
theorem dX3_crossings_59 : decode cX3_crossings 59 = .ok (.iload 7, 2) := by decide +kernel
theorem dX3_crossings_61 : decode cX3_crossings 61 = .ok (.aload_n 0, 1) := by decide +kernel
theorem dX3_crossings_62 : decode cX3_crossings 62 = .ok (.getfield 45, 3) := by decide +kernel
theorem dX3_crossings_65 : decode cX3_crossings 65 = .ok (.iconst 3, 1) := by decide +kernel
theorem dX3_crossings_66 : decode cX3_crossings 66 = .ok (.iaload, 1) := by decide +kernel
theorem dX3_crossings_67 : decode cX3_crossings 67 = .ok (.iand, 1) := by decide +kernel
theorem dX3_crossings_68 : decode cX3_crossings 68 = .ok (.invokestatic 224, 3) := by decide +kernel
theorem dX3_crossings_71 : decode cX3_crossings 71 = .ok (.iadd, 1) := by decide +kernel
theorem dX3_crossings_72 : decode cX3_crossings 72 = .ok (.istore 4, 2) := by decide +kernel
theorem dX3_crossings_74 : decode cX3_crossings 74 = .ok (.iinc 5 1, 3) := by decide +kernel
theorem dX3_crossings_77 : decode cX3_crossings 77 = .ok (.goto (-67), 3) := by decide +kernel
theorem dX3_crossings_80 : decode cX3_crossings 80 = .ok (.iload 4, 2) := by decide +kernel
theorem dX3_crossings_82 : decode cX3_crossings 82 = .ok (.ireturn, 1) := by decide +kernel
def fX3_crossings_b74 (N : Nat) (c10 : Int32 → Int32 → Int32 → Int32 → Int32 → qMem → Option (Int32 × qMem)) (v1 : Int32) (v2 : Int32) (v3 : Int32) (v4 : Int32) (v5 : Int32) (σ : qMem) : Option (Int32 × qMem) :=
  (c10 v1 v2 v3 v4 (v5 + 1) σ)
set_option maxRecDepth 20000 in
set_option maxHeartbeats 4000000 in
theorem aX3_crossings_b74 (N : Nat) (c10 : Int32 → Int32 → Int32 → Int32 → Int32 → qMem → Option (Int32 × qMem)) (hc10 : ∀ (v1 : Int32) (v2 : Int32) (v3 : Int32) (v4 : Int32) (v5 : Int32) (σ : qMem), qAt wC mX3_crossings (ρi) 10 [(0, .ref 44), (1, .int v1), (2, .int v2), (3, .int v3), (4, .int v4), (5, .int v5)] [] σ (c10 v1 v2 v3 v4 v5 σ)) (v1 : Int32) (v2 : Int32) (v3 : Int32) (v4 : Int32) (v5 : Int32) (σ : qMem) : qAt wC mX3_crossings (ρi) 74 [(0, .ref 44), (1, .int v1), (2, .int v2), (3, .int v3), (4, .int v4), (5, .int v5)] [] σ (fX3_crossings_b74 N c10 v1 v2 v3 v4 v5 σ) := by
  unfold fX3_crossings_b74
  refine q_iinc (i := 5) (x := v5) (v := (v5 + 1)) (L' := [(5, .int (v5 + 1)), (0, .ref 44), (1, .int v1), (2, .int v2), (3, .int v3), (4, .int v4)]) dX3_crossings_74 5 rfl (q_cst v5 (by decide)) (Nat.le_of_ble_eq_true rfl) rfl ?_
  refine q_goto (tgt := 10) dX3_crossings_77 (by decide) ?_
  exact q_sub [1, 2, 3, 4, 5, 0] rfl (hc10 v1 v2 v3 v4 (v5 + 1) σ)

def fX3_crossings_s10 (N : Nat) (c10 : Int32 → Int32 → Int32 → Int32 → Int32 → qMem → Option (Int32 × qMem)) (v1 : Int32) (v2 : Int32) (v3 : Int32) (v4 : Int32) (v5 : Int32) (σ : qMem) : Option (Int32 × qMem) :=
  (if 32 ≤ v5 then (some (v4, σ)) else ((fX3_look N 0 v2 v1 ((v5 * 7) + 3) σ).bind fun y2 => (if ck 3 7 = true then (nmI (gi y2 63 (3 : Int32).toNatClampNeg) fun x3 => (if x3 = 0 then (fX3_crossings_b74 N c10 v1 v2 v3 v4 v5 y2) else ((fX3_look N 1 v3 v1 ((v5 * 7) + 3) y2).bind fun y4 => (if ck 3 7 = true then ((fJ6_bitCount_0f7a4 (x3 &&& (gi y4 63 (3 : Int32).toNatClampNeg))).bind fun y5 => (fX3_crossings_b74 N c10 v1 v2 v3 (v4 + y5) v5 y4)) else none)))) else none)))
set_option maxRecDepth 20000 in
set_option maxHeartbeats 4000000 in
theorem aX3_crossings_s10 (N : Nat) (c10 : Int32 → Int32 → Int32 → Int32 → Int32 → qMem → Option (Int32 × qMem)) (hc10 : ∀ (v1 : Int32) (v2 : Int32) (v3 : Int32) (v4 : Int32) (v5 : Int32) (σ : qMem), qAt wC mX3_crossings (ρi) 10 [(0, .ref 44), (1, .int v1), (2, .int v2), (3, .int v3), (4, .int v4), (5, .int v5)] [] σ (c10 v1 v2 v3 v4 v5 σ)) (v1 : Int32) (v2 : Int32) (v3 : Int32) (v4 : Int32) (v5 : Int32) (σ : qMem) : qAt wC mX3_crossings (ρi) 10 [(0, .ref 44), (1, .int v1), (2, .int v2), (3, .int v3), (4, .int v4), (5, .int v5)] [] σ (fX3_crossings_s10 N c10 v1 v2 v3 v4 v5 σ) := by
  unfold fX3_crossings_s10
  refine q_iload (i := 5) (x := v5) dX3_crossings_10 5 rfl ?_
  refine q_bipush (v := 32) dX3_crossings_12 (by decide) ?_
  refine q_icmp_ge (tgt := 80) dX3_crossings_14 (by decide) ?_ ?_
  · refine q_iload (i := 4) (x := v4) dX3_crossings_80 4 rfl ?_
    exact q_ireti (y := (v4, σ)) dX3_crossings_82 rfl rfl
  refine q_iload (i := 5) (x := v5) dX3_crossings_17 5 rfl ?_
  refine q_bipush (v := 7) dX3_crossings_19 (by decide) ?_
  refine q_imul dX3_crossings_21 ?_
  refine q_iconst (v := 3) dX3_crossings_22 (by decide) ?_
  refine q_iadd dX3_crossings_23 ?_
  refine q_istore (i := 6) (L' := [(6, .int ((v5 * 7) + 3)), (0, .ref 44), (1, .int v1), (2, .int v2), (3, .int v3), (4, .int v4), (5, .int v5)]) dX3_crossings_24 (Nat.le_of_ble_eq_true rfl) rfl ?_
  refine q_aload_n (i := 0) (x := 44) dX3_crossings_26 rfl 1 rfl ?_
  refine q_iconst (v := 0) dX3_crossings_27 (by decide) ?_
  refine q_iload_n (i := 2) (x := v2) dX3_crossings_28 rfl 3 rfl ?_
  refine q_iload_n (i := 1) (x := v1) dX3_crossings_29 rfl 2 rfl ?_
  refine q_iload (i := 6) (x := ((v5 * 7) + 3)) dX3_crossings_30 0 rfl ?_
  refine q_cVv mX3_look [.int 0, .int v2, .int v1, .int ((v5 * 7) + 3)] (st := []) dX3_crossings_32 (svX3_220) ⟨Nat.le_of_ble_eq_true rfl, Nat.le_of_ble_eq_true rfl⟩ zC_44 rfl rfl rfl (Nat.le_of_ble_eq_true rfl) (kX3_look N 0 v2 v1 ((v5 * 7) + 3) σ) (fun y2 => ?_)
  refine q_aload_n (i := 0) (x := 44) dX3_crossings_35 rfl 1 rfl ?_
  refine q_getr (t := 63) dX3_crossings_36 foX3_45 zC_44 rfl ?_
  refine q_iconst (v := 3) dX3_crossings_39 (by decide) ?_
  refine q_iald dX3_crossings_40 zC_63 ?_
  refine q_nmI (fun x3 => ?_)
  refine q_istore (i := 7) (L' := [(7, .int x3), (6, .int ((v5 * 7) + 3)), (0, .ref 44), (1, .int v1), (2, .int v2), (3, .int v3), (4, .int v4), (5, .int v5)]) dX3_crossings_41 (Nat.le_of_ble_eq_true rfl) rfl ?_
  refine q_iload (i := 7) (x := x3) dX3_crossings_43 0 rfl ?_
  refine q_if_eq (tgt := 74) dX3_crossings_45 (by decide) ?_ ?_
  · exact q_sub [2, 3, 4, 5, 6, 7] rfl (aX3_crossings_b74 N c10 hc10 v1 v2 v3 v4 v5 y2)
  refine q_aload_n (i := 0) (x := 44) dX3_crossings_48 rfl 2 rfl ?_
  refine q_iconst (v := 1) dX3_crossings_49 (by decide) ?_
  refine q_iload_n (i := 3) (x := v3) dX3_crossings_50 rfl 5 rfl ?_
  refine q_iload_n (i := 1) (x := v1) dX3_crossings_51 rfl 3 rfl ?_
  refine q_iload (i := 6) (x := ((v5 * 7) + 3)) dX3_crossings_52 1 rfl ?_
  refine q_cVv mX3_look [.int 1, .int v3, .int v1, .int ((v5 * 7) + 3)] (st := []) dX3_crossings_54 (svX3_220) ⟨Nat.le_of_ble_eq_true rfl, Nat.le_of_ble_eq_true rfl⟩ zC_44 rfl rfl rfl (Nat.le_of_ble_eq_true rfl) (kX3_look N 1 v3 v1 ((v5 * 7) + 3) y2) (fun y4 => ?_)
  refine q_iload (i := 4) (x := v4) dX3_crossings_57 6 rfl ?_
  refine q_iload (i := 7) (x := x3) dX3_crossings_59 0 rfl ?_
  refine q_aload_n (i := 0) (x := 44) dX3_crossings_61 rfl 2 rfl ?_
  refine q_getr (t := 63) dX3_crossings_62 foX3_45 zC_44 rfl ?_
  refine q_iconst (v := 3) dX3_crossings_65 (by decide) ?_
  refine q_iald dX3_crossings_66 zC_63 ?_
  refine q_iand dX3_crossings_67 ?_
  refine q_cSp mJ6_bitCount_0f7a4 [.int (x3 &&& (gi y4 63 (3 : Int32).toNatClampNeg))] (st := [.int v4]) dX3_crossings_68 (ssX3_224) ⟨Nat.le_of_ble_eq_true rfl, Nat.le_of_ble_eq_true rfl⟩ rfl rfl (Nat.le_of_ble_eq_true rfl) (kJ6_bitCount_0f7a4 (x3 &&& (gi y4 63 (3 : Int32).toNatClampNeg)) y4) (fun y5 => ?_)
  refine q_iadd dX3_crossings_71 ?_
  refine q_istore (i := 4) (L' := [(4, .int (v4 + y5)), (7, .int x3), (6, .int ((v5 * 7) + 3)), (0, .ref 44), (1, .int v1), (2, .int v2), (3, .int v3), (5, .int v5)]) dX3_crossings_72 (Nat.le_of_ble_eq_true rfl) rfl ?_
  exact q_sub [3, 4, 5, 6, 0, 7] rfl (aX3_crossings_b74 N c10 hc10 v1 v2 v3 (v4 + y5) v5 y4)
def fX3_crossings_l10 (N : Nat) : Nat → Int32 → Int32 → Int32 → Int32 → Int32 → qMem → Option (Int32 × qMem)
  | 0 => fun _ _ _ _ _ _ => none
  | n + 1 => fun v1 v2 v3 v4 v5 σ => fX3_crossings_s10 N (fX3_crossings_l10 N n) v1 v2 v3 v4 v5 σ
theorem aX3_crossings_l10 (N : Nat) : ∀ (n : Nat) (v1 : Int32) (v2 : Int32) (v3 : Int32) (v4 : Int32) (v5 : Int32) (σ : qMem), qAt wC mX3_crossings (ρi) 10 [(0, .ref 44), (1, .int v1), (2, .int v2), (3, .int v3), (4, .int v4), (5, .int v5)] [] σ (fX3_crossings_l10 N n v1 v2 v3 v4 v5 σ) := by
  intro n
  induction n with
  | zero => intro v1 v2 v3 v4 v5 σ; exact q_none
  | succ n ih => intro v1 v2 v3 v4 v5 σ; exact aX3_crossings_s10 N (fX3_crossings_l10 N n) ih v1 v2 v3 v4 v5 σ

def fX3_crossings (N : Nat) (p1 : Int32) (p2 : Int32) (p3 : Int32) (σ : qMem) : Option (Int32 × qMem) :=
  ((fX3_tune N σ).bind fun y1 => (fX3_crossings_l10 N N p1 p2 p3 0 0 y1))
set_option maxRecDepth 20000 in
set_option maxHeartbeats 4000000 in
theorem aX3_crossings  (N : Nat) (p1 : Int32) (p2 : Int32) (p3 : Int32)  (σ : qMem) : qAt wC mX3_crossings (ρi) 0 [(0, .ref 44), (1, .int p1), (2, .int p2), (3, .int p3)] [] σ (fX3_crossings N p1 p2 p3 σ) := by
  unfold fX3_crossings
  refine q_aload_n (i := 0) (x := 44) dX3_crossings_0 rfl 0 rfl ?_
  refine q_cVv mX3_tune [] (st := []) dX3_crossings_1 (svX3_199) ⟨Nat.le_of_ble_eq_true rfl, Nat.le_of_ble_eq_true rfl⟩ zC_44 rfl rfl rfl (Nat.le_of_ble_eq_true rfl) (kX3_tune N σ) (fun y1 => ?_)
  refine q_iconst (v := 0) dX3_crossings_4 (by decide) ?_
  refine q_istore (i := 4) (L' := [(4, .int 0), (0, .ref 44), (1, .int p1), (2, .int p2), (3, .int p3)]) dX3_crossings_5 (Nat.le_of_ble_eq_true rfl) rfl ?_
  refine q_iconst (v := 0) dX3_crossings_7 (by decide) ?_
  refine q_istore (i := 5) (L' := [(5, .int 0), (4, .int 0), (0, .ref 44), (1, .int p1), (2, .int p2), (3, .int p3)]) dX3_crossings_8 (Nat.le_of_ble_eq_true rfl) rfl ?_
  exact q_sub [2, 3, 4, 5, 1, 0] rfl (aX3_crossings_l10 N N p1 p2 p3 0 0 y1)
theorem kX3_crossings  (N : Nat) (p1 : Int32) (p2 : Int32) (p3 : Int32)  (σ : qMem) : qMc wC mX3_crossings (ρi) [.ref 44, .int p1, .int p2, .int p3] σ (fX3_crossings N p1 p2 p3 σ) := qMc_of (moX3_crossings) (Nat.le_of_ble_eq_true rfl) (aX3_crossings N p1 p2 p3  σ)

theorem dX3_crossAll_0 : decode cX3_crossAll 0 = .ok (.iconst 0, 1) := by decide +kernel
theorem dX3_crossAll_1 : decode cX3_crossAll 1 = .ok (.istore_n 2, 1) := by decide +kernel
theorem dX3_crossAll_2 : decode cX3_crossAll 2 = .ok (.iload_n 2, 1) := by decide +kernel
theorem dX3_crossAll_3 : decode cX3_crossAll 3 = .ok (.bipush 6, 2) := by decide +kernel
theorem dX3_crossAll_5 : decode cX3_crossAll 5 = .ok (.if_icmp .gt 20, 3) := by decide +kernel
theorem dX3_crossAll_8 : decode cX3_crossAll 8 = .ok (.aload_n 0, 1) := by decide +kernel
theorem dX3_crossAll_9 : decode cX3_crossAll 9 = .ok (.iconst 0, 1) := by decide +kernel
theorem dX3_crossAll_10 : decode cX3_crossAll 10 = .ok (.iload_n 1, 1) := by decide +kernel
theorem dX3_crossAll_11 : decode cX3_crossAll 11 = .ok (.iload_n 2, 1) := by decide +kernel
theorem dX3_crossAll_12 : decode cX3_crossAll 12 = .ok (.invokevirtual 264, 3) := by decide +kernel
theorem dX3_crossAll_15 : decode cX3_crossAll 15 = .ok (.iconst (-1), 1) := by decide +kernel
theorem dX3_crossAll_16 : decode cX3_crossAll 16 = .ok (.if_icmp .eq 9, 3) := by decide +kernel
theorem dX3_crossAll_19 : decode cX3_crossAll 19 = .ok (.iinc 2 1, 3) := by decide +kernel
theorem dX3_crossAll_22 : decode cX3_crossAll 22 = .ok (.goto (-20), 3) := by decide +kernel
theorem dX3_crossAll_25 : decode cX3_crossAll 25 = .ok (.aload_n 0, 1) := by decide +kernel
theorem dX3_crossAll_26 : decode cX3_crossAll 26 = .ok (.iconst 1, 1) := by decide +kernel
theorem dX3_crossAll_27 : decode cX3_crossAll 27 = .ok (.iload_n 1, 1) := by decide +kernel
theorem dX3_crossAll_28 : decode cX3_crossAll 28 = .ok (.iload_n 2, 1) := by decide +kernel
theorem dX3_crossAll_29 : decode cX3_crossAll 29 = .ok (.invokevirtual 264, 3) := by decide +kernel
theorem dX3_crossAll_32 : decode cX3_crossAll 32 = .ok (.iconst (-1), 1) := by decide +kernel
theorem dX3_crossAll_33 : decode cX3_crossAll 33 = .ok (.if_icmp .ne 20, 3) := by decide +kernel
theorem dX3_crossAll_36 : decode cX3_crossAll 36 = .ok (.aload_n 0, 1) := by decide +kernel
theorem dX3_crossAll_37 : decode cX3_crossAll 37 = .ok (.iconst 1, 1) := by decide +kernel
theorem dX3_crossAll_38 : decode cX3_crossAll 38 = .ok (.iload_n 1, 1) := by decide +kernel
theorem dX3_crossAll_39 : decode cX3_crossAll 39 = .ok (.iload_n 2, 1) := by decide +kernel
theorem dX3_crossAll_40 : decode cX3_crossAll 40 = .ok (.iconst 1, 1) := by decide +kernel
theorem dX3_crossAll_41 : decode cX3_crossAll 41 = .ok (.isub, 1) := by decide +kernel
theorem dX3_crossAll_42 : decode cX3_crossAll 42 = .ok (.invokevirtual 264, 3) := by decide +kernel
theorem dX3_crossAll_45 : decode cX3_crossAll 45 = .ok (.iconst (-1), 1) := by decide +kernel
theorem dX3_crossAll_46 : decode cX3_crossAll 46 = .ok (.if_icmp .eq 7, 3) := by decide +kernel
theorem dX3_crossAll_49 : decode cX3_crossAll 49 = .ok (.iconst 1, 1) := by decide +kernel
theorem dX3_crossAll_50 : decode cX3_crossAll 50 = .ok (.goto 4, 3) := by decide +kernel
theorem dX3_crossAll_53 : decode cX3_crossAll 53 = .ok (.iconst 0, 1) := by decide +kernel
theorem dX3_crossAll_54 : decode cX3_crossAll 54 = .ok (.istore_n 3, 1) := by decide +kernel
theorem dX3_crossAll_55 : decode cX3_crossAll 55 = .ok (.iload_n 2, 1) := by decide +kernel
theorem dX3_crossAll_56 : decode cX3_crossAll 56 = .ok (.bipush 6, 2) := by decide +kernel
theorem dX3_crossAll_58 : decode cX3_crossAll 58 = .ok (.if_icmp .gt 7, 3) := by decide +kernel
theorem dX3_crossAll_61 : decode cX3_crossAll 61 = .ok (.iload_n 3, 1) := by decide +kernel
theorem dX3_crossAll_62 : decode cX3_crossAll 62 = .ok (.ifCond .ne 5, 3) := by decide +kernel
theorem dX3_crossAll_65 : decode cX3_crossAll 65 = .ok (.iconst 0, 1) := by decide +kernel
theorem dX3_crossAll_66 : decode cX3_crossAll 66 = .ok (.ireturn, 1) := by decide +kernel
theorem dX3_crossAll_67 : decode cX3_crossAll 67 = .ok (.iconst 0, 1) := by decide +kernel
theorem dX3_crossAll_68 : decode cX3_crossAll 68 = .ok (.istore 4, 2) := by decide +kernel
theorem dX3_crossAll_70 : decode cX3_crossAll 70 = .ok (.iload 4, 2) := by decide +kernel
theorem dX3_crossAll_72 : decode cX3_crossAll 72 = .ok (.iload_n 2, 1) := by decide +kernel
theorem dX3_crossAll_73 : decode cX3_crossAll 73 = .ok (.if_icmp .ge 70, 3) := by decide +kernel
theorem dX3_crossAll_76 : decode cX3_crossAll 76 = .ok (.aload_n 0, 1) := by decide +kernel
theorem dX3_crossAll_77 : decode cX3_crossAll 77 = .ok (.getfield 57, 3) := by decide +kernel
theorem dX3_crossAll_80 : decode cX3_crossAll 80 = .ok (.iload 4, 2) := by decide +kernel
theorem dX3_crossAll_82 : decode cX3_crossAll 82 = .ok (.iconst 0, 1) := by decide +kernel
theorem dX3_crossAll_83 : decode cX3_crossAll 83 = .ok (.iastore, 1) := by decide +kernel
theorem dX3_crossAll_84 : decode cX3_crossAll 84 = .ok (.iconst 0, 1) := by decide +kernel
theorem dX3_crossAll_85 : decode cX3_crossAll 85 = .ok (.istore 5, 2) := by decide +kernel
theorem dX3_crossAll_87 : decode cX3_crossAll 87 = .ok (.iload 5, 2) := by decide +kernel
theorem dX3_crossAll_89 : decode cX3_crossAll 89 = .ok (.iload_n 2, 1) := by decide +kernel
theorem dX3_crossAll_90 : decode cX3_crossAll 90 = .ok (.if_icmp .ge 47, 3) := by decide +kernel
theorem dX3_crossAll_93 : decode cX3_crossAll 93 = .ok (.aload_n 0, 1) := by decide +kernel
theorem dX3_crossAll_94 : decode cX3_crossAll 94 = .ok (.iload_n 1, 1) := by decide +kernel
theorem dX3_crossAll_95 : decode cX3_crossAll 95 = .ok (.aload_n 0, 1) := by decide +kernel
theorem dX3_crossAll_96 : decode cX3_crossAll 96 = .ok (.iconst 0, 1) := by decide +kernel
theorem dX3_crossAll_97 : decode cX3_crossAll 97 = .ok (.iload_n 1, 1) := by decide +kernel
theorem dX3_crossAll_98 : decode cX3_crossAll 98 = .ok (.iload 4, 2) := by decide +kernel
theorem dX3_crossAll_100 : decode cX3_crossAll 100 = .ok (.invokevirtual 264, 3) := by decide +kernel
theorem dX3_crossAll_103 : decode cX3_crossAll 103 = .ok (.aload_n 0, 1) := by decide +kernel
theorem dX3_crossAll_104 : decode cX3_crossAll 104 = .ok (.iconst 1, 1) := by decide +kernel
theorem dX3_crossAll_105 : decode cX3_crossAll 105 = .ok (.iload_n 1, 1) := by decide +kernel
theorem dX3_crossAll_106 : decode cX3_crossAll 106 = .ok (.iload 5, 2) := by decide +kernel
theorem dX3_crossAll_108 : decode cX3_crossAll 108 = .ok (.invokevirtual 264, 3) := by decide +kernel
theorem dX3_crossAll_111 : decode cX3_crossAll 111 = .ok (.invokevirtual 267, 3) := by decide +kernel
theorem dX3_crossAll_114 : decode cX3_crossAll 114 = .ok (.ifCond .le 17, 3) := by decide +kernel
theorem dX3_crossAll_117 : decode cX3_crossAll 117 = .ok (.aload_n 0, 1) := by decide +kernel
theorem dX3_crossAll_118 : decode cX3_crossAll 118 = .ok (.getfield 57, 3) := by decide +kernel
theorem dX3_crossAll_121 : decode cX3_crossAll 121 = .ok (.iload 4, 2) := by decide +kernel
theorem dX3_crossAll_123 : decode cX3_crossAll 123 = .ok (.dup2, 1) := by decide +kernel
theorem dX3_crossAll_124 : decode cX3_crossAll 124 = .ok (.iaload, 1) := by decide +kernel
theorem dX3_crossAll_125 : decode cX3_crossAll 125 = .ok (.iconst 1, 1) := by decide +kernel
theorem dX3_crossAll_126 : decode cX3_crossAll 126 = .ok (.iload 5, 2) := by decide +kernel
theorem dX3_crossAll_128 : decode cX3_crossAll 128 = .ok (.ishl, 1) := by decide +kernel
theorem dX3_crossAll_129 : decode cX3_crossAll 129 = .ok (.ior, 1) := by decide +kernel
theorem dX3_crossAll_130 : decode cX3_crossAll 130 = .ok (.iastore, 1) := by decide +kernel
theorem dX3_crossAll_131 : decode cX3_crossAll 131 = .ok (.iinc 5 1, 3) := by decide +kernel
theorem dX3_crossAll_134 : decode cX3_crossAll 134 = .ok (.goto (-47), 3) := by decide +kernel
theorem dX3_crossAll_137 : decode cX3_crossAll 137 = .ok (.iinc 4 1, 3) := by decide +kernel
theorem dX3_crossAll_140 : decode cX3_crossAll 140 = .ok (.goto (-70), 3) := by decide +kernel
theorem dX3_crossAll_143 : decode cX3_crossAll 143 = .ok (.iload_n 2, 1) := by decide +kernel
theorem dX3_crossAll_144 : decode cX3_crossAll 144 = .ok (.ireturn, 1) := by decide +kernel
def fX3_crossAll_b131 (N : Nat) (c70 : Int32 → Int32 → Int32 → qMem → Option (Int32 × qMem)) (c87 : Int32 → Int32 → Int32 → Int32 → qMem → Option (Int32 × qMem)) (v1 : Int32) (v2 : Int32) (v4 : Int32) (v5 : Int32) (σ : qMem) : Option (Int32 × qMem) :=
  (c87 v1 v2 v4 (v5 + 1) σ)
set_option maxRecDepth 20000 in
set_option maxHeartbeats 4000000 in
theorem aX3_crossAll_b131 (N : Nat) (c70 : Int32 → Int32 → Int32 → qMem → Option (Int32 × qMem)) (c87 : Int32 → Int32 → Int32 → Int32 → qMem → Option (Int32 × qMem)) (hc70 : ∀ (v1 : Int32) (v2 : Int32) (v4 : Int32) (σ : qMem), qAt wC mX3_crossAll (ρi) 70 [(0, .ref 44), (1, .int v1), (2, .int v2), (4, .int v4)] [] σ (c70 v1 v2 v4 σ)) (hc87 : ∀ (v1 : Int32) (v2 : Int32) (v4 : Int32) (v5 : Int32) (σ : qMem), qAt wC mX3_crossAll (ρi) 87 [(0, .ref 44), (1, .int v1), (2, .int v2), (4, .int v4), (5, .int v5)] [] σ (c87 v1 v2 v4 v5 σ)) (v1 : Int32) (v2 : Int32) (v4 : Int32) (v5 : Int32) (σ : qMem) : qAt wC mX3_crossAll (ρi) 131 [(0, .ref 44), (1, .int v1), (2, .int v2), (4, .int v4), (5, .int v5)] [] σ (fX3_crossAll_b131 N c70 c87 v1 v2 v4 v5 σ) := by
  unfold fX3_crossAll_b131
  refine q_iinc (i := 5) (x := v5) (v := (v5 + 1)) (L' := [(5, .int (v5 + 1)), (0, .ref 44), (1, .int v1), (2, .int v2), (4, .int v4)]) dX3_crossAll_131 4 rfl (q_cst v5 (by decide)) (Nat.le_of_ble_eq_true rfl) rfl ?_
  refine q_goto (tgt := 87) dX3_crossAll_134 (by decide) ?_
  exact q_sub [1, 2, 3, 4, 0] rfl (hc87 v1 v2 v4 (v5 + 1) σ)

def fX3_crossAll_s87 (N : Nat) (c70 : Int32 → Int32 → Int32 → qMem → Option (Int32 × qMem)) (c87 : Int32 → Int32 → Int32 → Int32 → qMem → Option (Int32 × qMem)) (v1 : Int32) (v2 : Int32) (v4 : Int32) (v5 : Int32) (σ : qMem) : Option (Int32 × qMem) :=
  (if v2 ≤ v5 then (c70 v1 v2 (v4 + 1) σ) else ((fX3_freshHeard N 0 v1 v4 σ).bind fun y5 => ((fX3_freshHeard N 1 v1 v5 σ).bind fun y6 => ((fX3_crossings N v1 y5 y6 σ).bind fun y7 => (if y7.1 ≤ 0 then (fX3_crossAll_b131 N c70 c87 v1 v2 v4 v5 y7.2) else (if ck v4 6 = true then (if ck v4 6 = true then (nmM (si y7.2 67 v4.toNatClampNeg ((gi y7.2 67 v4.toNatClampNeg) ||| ((1 : Int32) <<< (v5 &&& 31)))) fun s8 => (fX3_crossAll_b131 N c70 c87 v1 v2 v4 v5 s8)) else none) else none))))))
set_option maxRecDepth 20000 in
set_option maxHeartbeats 4000000 in
theorem aX3_crossAll_s87 (N : Nat) (c70 : Int32 → Int32 → Int32 → qMem → Option (Int32 × qMem)) (hc70 : ∀ (v1 : Int32) (v2 : Int32) (v4 : Int32) (σ : qMem), qAt wC mX3_crossAll (ρi) 70 [(0, .ref 44), (1, .int v1), (2, .int v2), (4, .int v4)] [] σ (c70 v1 v2 v4 σ)) (c87 : Int32 → Int32 → Int32 → Int32 → qMem → Option (Int32 × qMem)) (hc87 : ∀ (v1 : Int32) (v2 : Int32) (v4 : Int32) (v5 : Int32) (σ : qMem), qAt wC mX3_crossAll (ρi) 87 [(0, .ref 44), (1, .int v1), (2, .int v2), (4, .int v4), (5, .int v5)] [] σ (c87 v1 v2 v4 v5 σ)) (v1 : Int32) (v2 : Int32) (v4 : Int32) (v5 : Int32) (σ : qMem) : qAt wC mX3_crossAll (ρi) 87 [(0, .ref 44), (1, .int v1), (2, .int v2), (4, .int v4), (5, .int v5)] [] σ (fX3_crossAll_s87 N c70 c87 v1 v2 v4 v5 σ) := by
  unfold fX3_crossAll_s87
  refine q_iload (i := 5) (x := v5) dX3_crossAll_87 4 rfl ?_
  refine q_iload_n (i := 2) (x := v2) dX3_crossAll_89 rfl 2 rfl ?_
  refine q_icmp_ge (tgt := 137) dX3_crossAll_90 (by decide) ?_ ?_
  · refine q_iinc (i := 4) (x := v4) (v := (v4 + 1)) (L' := [(4, .int (v4 + 1)), (0, .ref 44), (1, .int v1), (2, .int v2), (5, .int v5)]) dX3_crossAll_137 3 rfl (q_cst v4 (by decide)) (Nat.le_of_ble_eq_true rfl) rfl ?_
    refine q_goto (tgt := 70) dX3_crossAll_140 (by decide) ?_
    exact q_sub [1, 2, 3, 0] rfl (hc70 v1 v2 (v4 + 1) σ)
  refine q_aload_n (i := 0) (x := 44) dX3_crossAll_93 rfl 0 rfl ?_
  refine q_iload_n (i := 1) (x := v1) dX3_crossAll_94 rfl 1 rfl ?_
  refine q_aload_n (i := 0) (x := 44) dX3_crossAll_95 rfl 0 rfl ?_
  refine q_iconst (v := 0) dX3_crossAll_96 (by decide) ?_
  refine q_iload_n (i := 1) (x := v1) dX3_crossAll_97 rfl 1 rfl ?_
  refine q_iload (i := 4) (x := v4) dX3_crossAll_98 3 rfl ?_
  refine q_cVp mX3_freshHeard [.int 0, .int v1, .int v4] (st := [.int v1, .ref 44]) dX3_crossAll_100 (svX3_264) ⟨Nat.le_of_ble_eq_true rfl, Nat.le_of_ble_eq_true rfl⟩ zC_44 rfl rfl rfl (Nat.le_of_ble_eq_true rfl) (kX3_freshHeard N 0 v1 v4 σ) (fun y5 => ?_)
  refine q_aload_n (i := 0) (x := 44) dX3_crossAll_103 rfl 0 rfl ?_
  refine q_iconst (v := 1) dX3_crossAll_104 (by decide) ?_
  refine q_iload_n (i := 1) (x := v1) dX3_crossAll_105 rfl 1 rfl ?_
  refine q_iload (i := 5) (x := v5) dX3_crossAll_106 4 rfl ?_
  refine q_cVp mX3_freshHeard [.int 1, .int v1, .int v5] (st := [.int y5, .int v1, .ref 44]) dX3_crossAll_108 (svX3_264) ⟨Nat.le_of_ble_eq_true rfl, Nat.le_of_ble_eq_true rfl⟩ zC_44 rfl rfl rfl (Nat.le_of_ble_eq_true rfl) (kX3_freshHeard N 1 v1 v5 σ) (fun y6 => ?_)
  refine q_cVi mX3_crossings [.int v1, .int y5, .int y6] (st := []) dX3_crossAll_111 (svX3_267) ⟨Nat.le_of_ble_eq_true rfl, Nat.le_of_ble_eq_true rfl⟩ zC_44 rfl rfl rfl (Nat.le_of_ble_eq_true rfl) (kX3_crossings N v1 y5 y6 σ) (fun y7 => ?_)
  refine q_if_le (tgt := 131) dX3_crossAll_114 (by decide) ?_ ?_
  · exact q_sub [0, 1, 2, 3, 4] rfl (aX3_crossAll_b131 N c70 c87 hc70 hc87 v1 v2 v4 v5 y7.2)
  refine q_aload_n (i := 0) (x := 44) dX3_crossAll_117 rfl 0 rfl ?_
  refine q_getr (t := 67) dX3_crossAll_118 foX3_57 zC_44 rfl ?_
  refine q_iload (i := 4) (x := v4) dX3_crossAll_121 3 rfl ?_
  refine q_dup2 dX3_crossAll_123 rfl rfl ?_
  refine q_iald dX3_crossAll_124 zC_67 ?_
  refine q_iconst (v := 1) dX3_crossAll_125 (by decide) ?_
  refine q_iload (i := 5) (x := v5) dX3_crossAll_126 4 rfl ?_
  refine q_ishl dX3_crossAll_128 ?_
  refine q_ior dX3_crossAll_129 ?_
  refine q_iast dX3_crossAll_130 zC_67 ?_
  refine q_nmM (fun s8 => ?_)
  exact q_sub [0, 1, 2, 3, 4] rfl (aX3_crossAll_b131 N c70 c87 hc70 hc87 v1 v2 v4 v5 s8)
def fX3_crossAll_l87 (N : Nat) (c70 : Int32 → Int32 → Int32 → qMem → Option (Int32 × qMem)) : Nat → Int32 → Int32 → Int32 → Int32 → qMem → Option (Int32 × qMem)
  | 0 => fun _ _ _ _ _ => none
  | n + 1 => fun v1 v2 v4 v5 σ => fX3_crossAll_s87 N c70 (fX3_crossAll_l87 N c70 n) v1 v2 v4 v5 σ
theorem aX3_crossAll_l87 (N : Nat) (c70 : Int32 → Int32 → Int32 → qMem → Option (Int32 × qMem)) (hc70 : ∀ (v1 : Int32) (v2 : Int32) (v4 : Int32) (σ : qMem), qAt wC mX3_crossAll (ρi) 70 [(0, .ref 44), (1, .int v1), (2, .int v2), (4, .int v4)] [] σ (c70 v1 v2 v4 σ)) : ∀ (n : Nat) (v1 : Int32) (v2 : Int32) (v4 : Int32) (v5 : Int32) (σ : qMem), qAt wC mX3_crossAll (ρi) 87 [(0, .ref 44), (1, .int v1), (2, .int v2), (4, .int v4), (5, .int v5)] [] σ (fX3_crossAll_l87 N c70 n v1 v2 v4 v5 σ) := by
  intro n
  induction n with
  | zero => intro v1 v2 v4 v5 σ; exact q_none
  | succ n ih => intro v1 v2 v4 v5 σ; exact aX3_crossAll_s87 N c70 hc70 (fX3_crossAll_l87 N c70 n) ih v1 v2 v4 v5 σ

def fX3_crossAll_s70 (N : Nat) (c70 : Int32 → Int32 → Int32 → qMem → Option (Int32 × qMem)) (v1 : Int32) (v2 : Int32) (v4 : Int32) (σ : qMem) : Option (Int32 × qMem) :=
  (if v2 ≤ v4 then (some (v2, σ)) else (if ck v4 6 = true then (nmM (si σ 67 v4.toNatClampNeg 0) fun s4 => (fX3_crossAll_l87 N c70 N v1 v2 v4 0 s4)) else none))
set_option maxRecDepth 20000 in
set_option maxHeartbeats 4000000 in
theorem aX3_crossAll_s70 (N : Nat) (c70 : Int32 → Int32 → Int32 → qMem → Option (Int32 × qMem)) (hc70 : ∀ (v1 : Int32) (v2 : Int32) (v4 : Int32) (σ : qMem), qAt wC mX3_crossAll (ρi) 70 [(0, .ref 44), (1, .int v1), (2, .int v2), (4, .int v4)] [] σ (c70 v1 v2 v4 σ)) (v1 : Int32) (v2 : Int32) (v4 : Int32) (σ : qMem) : qAt wC mX3_crossAll (ρi) 70 [(0, .ref 44), (1, .int v1), (2, .int v2), (4, .int v4)] [] σ (fX3_crossAll_s70 N c70 v1 v2 v4 σ) := by
  unfold fX3_crossAll_s70
  refine q_iload (i := 4) (x := v4) dX3_crossAll_70 3 rfl ?_
  refine q_iload_n (i := 2) (x := v2) dX3_crossAll_72 rfl 2 rfl ?_
  refine q_icmp_ge (tgt := 143) dX3_crossAll_73 (by decide) ?_ ?_
  · refine q_iload_n (i := 2) (x := v2) dX3_crossAll_143 rfl 2 rfl ?_
    exact q_ireti (y := (v2, σ)) dX3_crossAll_144 rfl rfl
  refine q_aload_n (i := 0) (x := 44) dX3_crossAll_76 rfl 0 rfl ?_
  refine q_getr (t := 67) dX3_crossAll_77 foX3_57 zC_44 rfl ?_
  refine q_iload (i := 4) (x := v4) dX3_crossAll_80 3 rfl ?_
  refine q_iconst (v := 0) dX3_crossAll_82 (by decide) ?_
  refine q_iast dX3_crossAll_83 zC_67 ?_
  refine q_nmM (fun s4 => ?_)
  refine q_iconst (v := 0) dX3_crossAll_84 (by decide) ?_
  refine q_istore (i := 5) (L' := [(5, .int 0), (0, .ref 44), (1, .int v1), (2, .int v2), (4, .int v4)]) dX3_crossAll_85 (Nat.le_of_ble_eq_true rfl) rfl ?_
  exact q_sub [1, 2, 3, 4, 0] rfl (aX3_crossAll_l87 N c70 hc70 N v1 v2 v4 0 s4)
def fX3_crossAll_l70 (N : Nat) : Nat → Int32 → Int32 → Int32 → qMem → Option (Int32 × qMem)
  | 0 => fun _ _ _ _ => none
  | n + 1 => fun v1 v2 v4 σ => fX3_crossAll_s70 N (fX3_crossAll_l70 N n) v1 v2 v4 σ
theorem aX3_crossAll_l70 (N : Nat) : ∀ (n : Nat) (v1 : Int32) (v2 : Int32) (v4 : Int32) (σ : qMem), qAt wC mX3_crossAll (ρi) 70 [(0, .ref 44), (1, .int v1), (2, .int v2), (4, .int v4)] [] σ (fX3_crossAll_l70 N n v1 v2 v4 σ) := by
  intro n
  induction n with
  | zero => intro v1 v2 v4 σ; exact q_none
  | succ n ih => intro v1 v2 v4 σ; exact aX3_crossAll_s70 N (fX3_crossAll_l70 N n) ih v1 v2 v4 σ

def fX3_crossAll_b54 (N : Nat) (v1 : Int32) (v2 : Int32) (u0 : Int32) (σ : qMem) : Option (Int32 × qMem) :=
  (if 6 < v2 then (some (0, σ)) else (if u0 = 0 then (some (0, σ)) else (fX3_crossAll_l70 N N v1 v2 0 σ)))
set_option maxRecDepth 20000 in
set_option maxHeartbeats 4000000 in
theorem aX3_crossAll_b54 (N : Nat) (v1 : Int32) (v2 : Int32) (u0 : Int32) (σ : qMem) : qAt wC mX3_crossAll (ρi) 54 [(0, .ref 44), (1, .int v1), (2, .int v2)] [.int u0] σ (fX3_crossAll_b54 N v1 v2 u0 σ) := by
  unfold fX3_crossAll_b54
  refine q_istore_n (i := 3) (L' := [(3, .int u0), (0, .ref 44), (1, .int v1), (2, .int v2)]) dX3_crossAll_54 rfl (Nat.le_of_ble_eq_true rfl) rfl ?_
  refine q_iload_n (i := 2) (x := v2) dX3_crossAll_55 rfl 3 rfl ?_
  refine q_bipush (v := 6) dX3_crossAll_56 (by decide) ?_
  refine q_icmp_gt (tgt := 65) dX3_crossAll_58 (by decide) ?_ ?_
  · refine q_iconst (v := 0) dX3_crossAll_65 (by decide) ?_
    exact q_ireti (y := (0, σ)) dX3_crossAll_66 rfl rfl
  refine q_iload_n (i := 3) (x := u0) dX3_crossAll_61 rfl 0 rfl ?_
  refine q_if_ne (tgt := 67) dX3_crossAll_62 (by decide) ?_ ?_
  · refine q_iconst (v := 0) dX3_crossAll_67 (by decide) ?_
    refine q_istore (i := 4) (L' := [(4, .int 0), (3, .int u0), (0, .ref 44), (1, .int v1), (2, .int v2)]) dX3_crossAll_68 (Nat.le_of_ble_eq_true rfl) rfl ?_
    exact q_sub [2, 3, 4, 0] rfl (aX3_crossAll_l70 N N v1 v2 0 σ)
  refine q_iconst (v := 0) dX3_crossAll_65 (by decide) ?_
  exact q_ireti (y := (0, σ)) dX3_crossAll_66 rfl rfl

def fX3_crossAll_b53 (N : Nat) (v1 : Int32) (v2 : Int32) (σ : qMem) : Option (Int32 × qMem) :=
  (fX3_crossAll_b54 N v1 v2 0 σ)
set_option maxRecDepth 20000 in
set_option maxHeartbeats 4000000 in
theorem aX3_crossAll_b53 (N : Nat) (v1 : Int32) (v2 : Int32) (σ : qMem) : qAt wC mX3_crossAll (ρi) 53 [(0, .ref 44), (1, .int v1), (2, .int v2)] [] σ (fX3_crossAll_b53 N v1 v2 σ) := by
  unfold fX3_crossAll_b53
  refine q_iconst (v := 0) dX3_crossAll_53 (by decide) ?_
  exact q_sub [0, 1, 2] rfl (aX3_crossAll_b54 N v1 v2 0 σ)

def fX3_crossAll_b25 (N : Nat) (v1 : Int32) (v2 : Int32) (σ : qMem) : Option (Int32 × qMem) :=
  ((fX3_freshHeard N 1 v1 v2 σ).bind fun y2 => (if y2 = (-1) then ((fX3_freshHeard N 1 v1 (v2 - 1) σ).bind fun y3 => (if y3 = (-1) then (fX3_crossAll_b53 N v1 v2 σ) else (fX3_crossAll_b54 N v1 v2 1 σ))) else (fX3_crossAll_b53 N v1 v2 σ)))
set_option maxRecDepth 20000 in
set_option maxHeartbeats 4000000 in
theorem aX3_crossAll_b25 (N : Nat) (v1 : Int32) (v2 : Int32) (σ : qMem) : qAt wC mX3_crossAll (ρi) 25 [(0, .ref 44), (1, .int v1), (2, .int v2)] [] σ (fX3_crossAll_b25 N v1 v2 σ) := by
  unfold fX3_crossAll_b25
  refine q_aload_n (i := 0) (x := 44) dX3_crossAll_25 rfl 0 rfl ?_
  refine q_iconst (v := 1) dX3_crossAll_26 (by decide) ?_
  refine q_iload_n (i := 1) (x := v1) dX3_crossAll_27 rfl 1 rfl ?_
  refine q_iload_n (i := 2) (x := v2) dX3_crossAll_28 rfl 2 rfl ?_
  refine q_cVp mX3_freshHeard [.int 1, .int v1, .int v2] (st := []) dX3_crossAll_29 (svX3_264) ⟨Nat.le_of_ble_eq_true rfl, Nat.le_of_ble_eq_true rfl⟩ zC_44 rfl rfl rfl (Nat.le_of_ble_eq_true rfl) (kX3_freshHeard N 1 v1 v2 σ) (fun y2 => ?_)
  refine q_iconst (v := (-1)) dX3_crossAll_32 (by decide) ?_
  refine q_icmp_ne (tgt := 53) dX3_crossAll_33 (by decide) ?_ ?_
  · exact q_sub [0, 1, 2] rfl (aX3_crossAll_b53 N v1 v2 σ)
  refine q_aload_n (i := 0) (x := 44) dX3_crossAll_36 rfl 0 rfl ?_
  refine q_iconst (v := 1) dX3_crossAll_37 (by decide) ?_
  refine q_iload_n (i := 1) (x := v1) dX3_crossAll_38 rfl 1 rfl ?_
  refine q_iload_n (i := 2) (x := v2) dX3_crossAll_39 rfl 2 rfl ?_
  refine q_iconst (v := 1) dX3_crossAll_40 (by decide) ?_
  refine q_isub dX3_crossAll_41 ?_
  refine q_cVp mX3_freshHeard [.int 1, .int v1, .int (v2 - 1)] (st := []) dX3_crossAll_42 (svX3_264) ⟨Nat.le_of_ble_eq_true rfl, Nat.le_of_ble_eq_true rfl⟩ zC_44 rfl rfl rfl (Nat.le_of_ble_eq_true rfl) (kX3_freshHeard N 1 v1 (v2 - 1) σ) (fun y3 => ?_)
  refine q_iconst (v := (-1)) dX3_crossAll_45 (by decide) ?_
  refine q_icmp_eq (tgt := 53) dX3_crossAll_46 (by decide) ?_ ?_
  · exact q_sub [0, 1, 2] rfl (aX3_crossAll_b53 N v1 v2 σ)
  refine q_iconst (v := 1) dX3_crossAll_49 (by decide) ?_
  refine q_goto (tgt := 54) dX3_crossAll_50 (by decide) ?_
  exact q_sub [0, 1, 2] rfl (aX3_crossAll_b54 N v1 v2 1 σ)

def fX3_crossAll_s2 (N : Nat) (c2 : Int32 → Int32 → qMem → Option (Int32 × qMem)) (v1 : Int32) (v2 : Int32) (σ : qMem) : Option (Int32 × qMem) :=
  (if 6 < v2 then (fX3_crossAll_b25 N v1 v2 σ) else ((fX3_freshHeard N 0 v1 v2 σ).bind fun y1 => (if y1 = (-1) then (fX3_crossAll_b25 N v1 v2 σ) else (c2 v1 (v2 + 1) σ))))
set_option maxRecDepth 20000 in
set_option maxHeartbeats 4000000 in
theorem aX3_crossAll_s2 (N : Nat) (c2 : Int32 → Int32 → qMem → Option (Int32 × qMem)) (hc2 : ∀ (v1 : Int32) (v2 : Int32) (σ : qMem), qAt wC mX3_crossAll (ρi) 2 [(0, .ref 44), (1, .int v1), (2, .int v2)] [] σ (c2 v1 v2 σ)) (v1 : Int32) (v2 : Int32) (σ : qMem) : qAt wC mX3_crossAll (ρi) 2 [(0, .ref 44), (1, .int v1), (2, .int v2)] [] σ (fX3_crossAll_s2 N c2 v1 v2 σ) := by
  unfold fX3_crossAll_s2
  refine q_iload_n (i := 2) (x := v2) dX3_crossAll_2 rfl 2 rfl ?_
  refine q_bipush (v := 6) dX3_crossAll_3 (by decide) ?_
  refine q_icmp_gt (tgt := 25) dX3_crossAll_5 (by decide) ?_ ?_
  · exact q_sub [0, 1, 2] rfl (aX3_crossAll_b25 N v1 v2 σ)
  refine q_aload_n (i := 0) (x := 44) dX3_crossAll_8 rfl 0 rfl ?_
  refine q_iconst (v := 0) dX3_crossAll_9 (by decide) ?_
  refine q_iload_n (i := 1) (x := v1) dX3_crossAll_10 rfl 1 rfl ?_
  refine q_iload_n (i := 2) (x := v2) dX3_crossAll_11 rfl 2 rfl ?_
  refine q_cVp mX3_freshHeard [.int 0, .int v1, .int v2] (st := []) dX3_crossAll_12 (svX3_264) ⟨Nat.le_of_ble_eq_true rfl, Nat.le_of_ble_eq_true rfl⟩ zC_44 rfl rfl rfl (Nat.le_of_ble_eq_true rfl) (kX3_freshHeard N 0 v1 v2 σ) (fun y1 => ?_)
  refine q_iconst (v := (-1)) dX3_crossAll_15 (by decide) ?_
  refine q_icmp_eq (tgt := 25) dX3_crossAll_16 (by decide) ?_ ?_
  · exact q_sub [0, 1, 2] rfl (aX3_crossAll_b25 N v1 v2 σ)
  refine q_iinc (i := 2) (x := v2) (v := (v2 + 1)) (L' := [(2, .int (v2 + 1)), (0, .ref 44), (1, .int v1)]) dX3_crossAll_19 2 rfl (q_cst v2 (by decide)) (Nat.le_of_ble_eq_true rfl) rfl ?_
  refine q_goto (tgt := 2) dX3_crossAll_22 (by decide) ?_
  exact q_sub [1, 2, 0] rfl (hc2 v1 (v2 + 1) σ)
def fX3_crossAll_l2 (N : Nat) : Nat → Int32 → Int32 → qMem → Option (Int32 × qMem)
  | 0 => fun _ _ _ => none
  | n + 1 => fun v1 v2 σ => fX3_crossAll_s2 N (fX3_crossAll_l2 N n) v1 v2 σ
theorem aX3_crossAll_l2 (N : Nat) : ∀ (n : Nat) (v1 : Int32) (v2 : Int32) (σ : qMem), qAt wC mX3_crossAll (ρi) 2 [(0, .ref 44), (1, .int v1), (2, .int v2)] [] σ (fX3_crossAll_l2 N n v1 v2 σ) := by
  intro n
  induction n with
  | zero => intro v1 v2 σ; exact q_none
  | succ n ih => intro v1 v2 σ; exact aX3_crossAll_s2 N (fX3_crossAll_l2 N n) ih v1 v2 σ

def fX3_crossAll (N : Nat) (p1 : Int32) (σ : qMem) : Option (Int32 × qMem) :=
  (fX3_crossAll_l2 N N p1 0 σ)
set_option maxRecDepth 20000 in
set_option maxHeartbeats 4000000 in
theorem aX3_crossAll  (N : Nat) (p1 : Int32)  (σ : qMem) : qAt wC mX3_crossAll (ρi) 0 [(0, .ref 44), (1, .int p1)] [] σ (fX3_crossAll N p1 σ) := by
  unfold fX3_crossAll
  refine q_iconst (v := 0) dX3_crossAll_0 (by decide) ?_
  refine q_istore_n (i := 2) (L' := [(2, .int 0), (0, .ref 44), (1, .int p1)]) dX3_crossAll_1 rfl (Nat.le_of_ble_eq_true rfl) rfl ?_
  exact q_sub [1, 2, 0] rfl (aX3_crossAll_l2 N N p1 0 σ)
theorem kX3_crossAll  (N : Nat) (p1 : Int32)  (σ : qMem) : qMc wC mX3_crossAll (ρi) [.ref 44, .int p1] σ (fX3_crossAll N p1 σ) := qMc_of (moX3_crossAll) (Nat.le_of_ble_eq_true rfl) (aX3_crossAll N p1  σ)

theorem dX3_keepPair_0 : decode cX3_keepPair 0 = .ok (.iload_n 1, 1) := by decide +kernel
theorem dX3_keepPair_1 : decode cX3_keepPair 1 = .ok (.ifCond .lt 21, 3) := by decide +kernel
theorem dX3_keepPair_4 : decode cX3_keepPair 4 = .ok (.iload_n 1, 1) := by decide +kernel
theorem dX3_keepPair_5 : decode cX3_keepPair 5 = .ok (.bipush 6, 2) := by decide +kernel
theorem dX3_keepPair_7 : decode cX3_keepPair 7 = .ok (.if_icmp .ge 15, 3) := by decide +kernel
theorem dX3_keepPair_10 : decode cX3_keepPair 10 = .ok (.aload_n 0, 1) := by decide +kernel
theorem dX3_keepPair_11 : decode cX3_keepPair 11 = .ok (.getfield 57, 3) := by decide +kernel
theorem dX3_keepPair_14 : decode cX3_keepPair 14 = .ok (.iload_n 1, 1) := by decide +kernel
theorem dX3_keepPair_15 : decode cX3_keepPair 15 = .ok (.dup2, 1) := by decide +kernel
theorem dX3_keepPair_16 : decode cX3_keepPair 16 = .ok (.iaload, 1) := by decide +kernel
theorem dX3_keepPair_17 : decode cX3_keepPair 17 = .ok (.iconst 1, 1) := by decide +kernel
theorem dX3_keepPair_18 : decode cX3_keepPair 18 = .ok (.iload_n 2, 1) := by decide +kernel
theorem dX3_keepPair_19 : decode cX3_keepPair 19 = .ok (.ishl, 1) := by decide +kernel
theorem dX3_keepPair_20 : decode cX3_keepPair 20 = .ok (.iand, 1) := by decide +kernel
theorem dX3_keepPair_21 : decode cX3_keepPair 21 = .ok (.iastore, 1) := by decide +kernel
theorem dX3_keepPair_22 : decode cX3_keepPair 22 = .ok (.return_, 1) := by decide +kernel

def fX3_keepPair (p1 : Int32) (p2 : Int32) (σ : qMem) : Option qMem :=
  (if p1 < 0 then (some σ) else (if 6 ≤ p1 then (some σ) else (if ck p1 6 = true then (if ck p1 6 = true then (nmM (si σ 67 p1.toNatClampNeg ((gi σ 67 p1.toNatClampNeg) &&& ((1 : Int32) <<< (p2 &&& 31)))) fun s1 => (some s1)) else none) else none)))
set_option maxRecDepth 20000 in
set_option maxHeartbeats 4000000 in
theorem aX3_keepPair  (p1 : Int32) (p2 : Int32)  (σ : qMem) : qAt wC mX3_keepPair (ρv) 0 [(0, .ref 44), (1, .int p1), (2, .int p2)] [] σ (fX3_keepPair p1 p2 σ) := by
  unfold fX3_keepPair
  refine q_iload_n (i := 1) (x := p1) dX3_keepPair_0 rfl 1 rfl ?_
  refine q_if_lt (tgt := 22) dX3_keepPair_1 (by decide) ?_ ?_
  · exact q_vret (y := σ) dX3_keepPair_22 rfl rfl
  refine q_iload_n (i := 1) (x := p1) dX3_keepPair_4 rfl 1 rfl ?_
  refine q_bipush (v := 6) dX3_keepPair_5 (by decide) ?_
  refine q_icmp_ge (tgt := 22) dX3_keepPair_7 (by decide) ?_ ?_
  · exact q_vret (y := σ) dX3_keepPair_22 rfl rfl
  refine q_aload_n (i := 0) (x := 44) dX3_keepPair_10 rfl 0 rfl ?_
  refine q_getr (t := 67) dX3_keepPair_11 foX3_57 zC_44 rfl ?_
  refine q_iload_n (i := 1) (x := p1) dX3_keepPair_14 rfl 1 rfl ?_
  refine q_dup2 dX3_keepPair_15 rfl rfl ?_
  refine q_iald dX3_keepPair_16 zC_67 ?_
  refine q_iconst (v := 1) dX3_keepPair_17 (by decide) ?_
  refine q_iload_n (i := 2) (x := p2) dX3_keepPair_18 rfl 2 rfl ?_
  refine q_ishl dX3_keepPair_19 ?_
  refine q_iand dX3_keepPair_20 ?_
  refine q_iast dX3_keepPair_21 zC_67 ?_
  refine q_nmM (fun s1 => ?_)
  exact q_vret (y := s1) dX3_keepPair_22 rfl rfl
theorem kX3_keepPair  (p1 : Int32) (p2 : Int32)  (σ : qMem) : qMc wC mX3_keepPair (ρv) [.ref 44, .int p1, .int p2] σ (fX3_keepPair p1 p2 σ) := qMc_of (moX3_keepPair) (Nat.le_of_ble_eq_true rfl) (aX3_keepPair p1 p2  σ)

theorem dX3_ways_0 : decode cX3_ways 0 = .ok (.iload_n 1, 1) := by decide +kernel
theorem dX3_ways_1 : decode cX3_ways 1 = .ok (.iload_n 3, 1) := by decide +kernel
theorem dX3_ways_2 : decode cX3_ways 2 = .ok (.if_icmp .ge 9, 3) := by decide +kernel
theorem dX3_ways_5 : decode cX3_ways 5 = .ok (.iload_n 1, 1) := by decide +kernel
theorem dX3_ways_6 : decode cX3_ways 6 = .ok (.bipush 6, 2) := by decide +kernel
theorem dX3_ways_8 : decode cX3_ways 8 = .ok (.if_icmp .lt 5, 3) := by decide +kernel
theorem dX3_ways_11 : decode cX3_ways 11 = .ok (.iconst 1, 1) := by decide +kernel
theorem dX3_ways_12 : decode cX3_ways 12 = .ok (.ireturn, 1) := by decide +kernel
theorem dX3_ways_13 : decode cX3_ways 13 = .ok (.iconst 0, 1) := by decide +kernel
theorem dX3_ways_14 : decode cX3_ways 14 = .ok (.istore 4, 2) := by decide +kernel
theorem dX3_ways_16 : decode cX3_ways 16 = .ok (.iconst 0, 1) := by decide +kernel
theorem dX3_ways_17 : decode cX3_ways 17 = .ok (.istore 5, 2) := by decide +kernel
theorem dX3_ways_19 : decode cX3_ways 19 = .ok (.iload 5, 2) := by decide +kernel
theorem dX3_ways_21 : decode cX3_ways 21 = .ok (.iload_n 3, 1) := by decide +kernel
theorem dX3_ways_22 : decode cX3_ways 22 = .ok (.if_icmp .ge 46, 3) := by decide +kernel
theorem dX3_ways_25 : decode cX3_ways 25 = .ok (.aload_n 0, 1) := by decide +kernel
theorem dX3_ways_26 : decode cX3_ways 26 = .ok (.getfield 57, 3) := by decide +kernel
theorem dX3_ways_29 : decode cX3_ways 29 = .ok (.iload_n 1, 1) := by decide +kernel
theorem dX3_ways_30 : decode cX3_ways 30 = .ok (.iaload, 1) := by decide +kernel
theorem dX3_ways_31 : decode cX3_ways 31 = .ok (.iload_n 2, 1) := by decide +kernel
theorem dX3_ways_32 : decode cX3_ways 32 = .ok (.iconst (-1), 1) := by decide +kernel
theorem dX3_ways_33 : decode cX3_ways 33 = .ok (.ixor, 1) := by decide +kernel
theorem dX3_ways_34 : decode cX3_ways 34 = .ok (.iand, 1) := by decide +kernel
theorem dX3_ways_35 : decode cX3_ways 35 = .ok (.iconst 1, 1) := by decide +kernel
theorem dX3_ways_36 : decode cX3_ways 36 = .ok (.iload 5, 2) := by decide +kernel
theorem dX3_ways_38 : decode cX3_ways 38 = .ok (.ishl, 1) := by decide +kernel
theorem dX3_ways_39 : decode cX3_ways 39 = .ok (.iand, 1) := by decide +kernel
theorem dX3_ways_40 : decode cX3_ways 40 = .ok (.ifCond .eq 22, 3) := by decide +kernel
theorem dX3_ways_43 : decode cX3_ways 43 = .ok (.iload 4, 2) := by decide +kernel
theorem dX3_ways_45 : decode cX3_ways 45 = .ok (.aload_n 0, 1) := by decide +kernel
theorem dX3_ways_46 : decode cX3_ways 46 = .ok (.iload_n 1, 1) := by decide +kernel
theorem dX3_ways_47 : decode cX3_ways 47 = .ok (.iconst 1, 1) := by decide +kernel
theorem dX3_ways_48 : decode cX3_ways 48 = .ok (.iadd, 1) := by decide +kernel
theorem dX3_ways_49 : decode cX3_ways 49 = .ok (.iload_n 2, 1) := by decide +kernel
theorem dX3_ways_50 : decode cX3_ways 50 = .ok (.iconst 1, 1) := by decide +kernel
theorem dX3_ways_51 : decode cX3_ways 51 = .ok (.iload 5, 2) := by decide +kernel
theorem dX3_ways_53 : decode cX3_ways 53 = .ok (.ishl, 1) := by decide +kernel
theorem dX3_ways_54 : decode cX3_ways 54 = .ok (.ior, 1) := by decide +kernel
theorem dX3_ways_55 : decode cX3_ways 55 = .ok (.iload_n 3, 1) := by decide +kernel
theorem dX3_ways_56 : decode cX3_ways 56 = .ok (.invokevirtual 270, 3) := by decide +kernel
theorem dX3_ways_59 : decode cX3_ways 59 = .ok (.iadd, 1) := by decide +kernel
theorem dX3_ways_60 : decode cX3_ways 60 = .ok (.istore 4, 2) := by decide +kernel
theorem dX3_ways_62 : decode cX3_ways 62 = .ok (.iinc 5 1, 3) := by decide +kernel
theorem dX3_ways_65 : decode cX3_ways 65 = .ok (.goto (-46), 3) := by decide +kernel
theorem dX3_ways_68 : decode cX3_ways 68 = .ok (.iload 4, 2) := by decide +kernel
theorem dX3_ways_70 : decode cX3_ways 70 = .ok (.ireturn, 1) := by decide +kernel
def fX3_ways_b62 (N : Nat) (rX3_ways : Int32 → Int32 → Int32 → qMem → Option Int32) (c19 : Int32 → Int32 → Int32 → Int32 → Int32 → Option Int32) (v1 : Int32) (v2 : Int32) (v3 : Int32) (v4 : Int32) (v5 : Int32) (σ : qMem) : Option Int32 :=
  (c19 v1 v2 v3 v4 (v5 + 1))
set_option maxRecDepth 20000 in
set_option maxHeartbeats 4000000 in
theorem aX3_ways_b62 (d : Nat) (N : Nat) (rX3_ways : Int32 → Int32 → Int32 → qMem → Option Int32) (hX3_ways : ∀ (p1 : Int32) (p2 : Int32) (p3 : Int32)  (σ : qMem), qMc wC (mX3_ways d) (ρp σ) [.ref 44, .int p1, .int p2, .int p3] σ (rX3_ways p1 p2 p3 σ)) (σ : qMem) (c19 : Int32 → Int32 → Int32 → Int32 → Int32 → Option Int32) (hc19 : ∀ (v1 : Int32) (v2 : Int32) (v3 : Int32) (v4 : Int32) (v5 : Int32) , qAt wC (mX3_ways (d + 1)) (ρp σ) 19 [(0, .ref 44), (1, .int v1), (2, .int v2), (3, .int v3), (4, .int v4), (5, .int v5)] [] σ (c19 v1 v2 v3 v4 v5)) (v1 : Int32) (v2 : Int32) (v3 : Int32) (v4 : Int32) (v5 : Int32) : qAt wC (mX3_ways (d + 1)) (ρp σ) 62 [(0, .ref 44), (1, .int v1), (2, .int v2), (3, .int v3), (4, .int v4), (5, .int v5)] [] σ (fX3_ways_b62 N rX3_ways c19 v1 v2 v3 v4 v5 σ) := by
  unfold fX3_ways_b62
  refine q_iinc (i := 5) (x := v5) (v := (v5 + 1)) (L' := [(5, .int (v5 + 1)), (0, .ref 44), (1, .int v1), (2, .int v2), (3, .int v3), (4, .int v4)]) dX3_ways_62 5 rfl (q_cst v5 (by decide)) (Nat.le_of_ble_eq_true rfl) rfl ?_
  refine q_goto (tgt := 19) dX3_ways_65 (by decide) ?_
  exact q_sub [1, 2, 3, 4, 5, 0] rfl (hc19 v1 v2 v3 v4 (v5 + 1))

def fX3_ways_s19 (N : Nat) (rX3_ways : Int32 → Int32 → Int32 → qMem → Option Int32) (c19 : Int32 → Int32 → Int32 → Int32 → Int32 → Option Int32) (v1 : Int32) (v2 : Int32) (v3 : Int32) (v4 : Int32) (v5 : Int32) (σ : qMem) : Option Int32 :=
  (if v3 ≤ v5 then (some v4) else (if ck v1 6 = true then (if (((gi σ 67 v1.toNatClampNeg) &&& (v2 ^^^ (-1))) &&& ((1 : Int32) <<< (v5 &&& 31))) = 0 then (fX3_ways_b62 N rX3_ways c19 v1 v2 v3 v4 v5 σ) else ((rX3_ways (v1 + 1) (v2 ||| ((1 : Int32) <<< (v5 &&& 31))) v3 σ).bind fun y1 => (fX3_ways_b62 N rX3_ways c19 v1 v2 v3 (v4 + y1) v5 σ))) else none))
set_option maxRecDepth 20000 in
set_option maxHeartbeats 4000000 in
theorem aX3_ways_s19 (d : Nat) (N : Nat) (rX3_ways : Int32 → Int32 → Int32 → qMem → Option Int32) (hX3_ways : ∀ (p1 : Int32) (p2 : Int32) (p3 : Int32)  (σ : qMem), qMc wC (mX3_ways d) (ρp σ) [.ref 44, .int p1, .int p2, .int p3] σ (rX3_ways p1 p2 p3 σ)) (σ : qMem) (c19 : Int32 → Int32 → Int32 → Int32 → Int32 → Option Int32) (hc19 : ∀ (v1 : Int32) (v2 : Int32) (v3 : Int32) (v4 : Int32) (v5 : Int32) , qAt wC (mX3_ways (d + 1)) (ρp σ) 19 [(0, .ref 44), (1, .int v1), (2, .int v2), (3, .int v3), (4, .int v4), (5, .int v5)] [] σ (c19 v1 v2 v3 v4 v5)) (v1 : Int32) (v2 : Int32) (v3 : Int32) (v4 : Int32) (v5 : Int32) : qAt wC (mX3_ways (d + 1)) (ρp σ) 19 [(0, .ref 44), (1, .int v1), (2, .int v2), (3, .int v3), (4, .int v4), (5, .int v5)] [] σ (fX3_ways_s19 N rX3_ways c19 v1 v2 v3 v4 v5 σ) := by
  unfold fX3_ways_s19
  refine q_iload (i := 5) (x := v5) dX3_ways_19 5 rfl ?_
  refine q_iload_n (i := 3) (x := v3) dX3_ways_21 rfl 3 rfl ?_
  refine q_icmp_ge (tgt := 68) dX3_ways_22 (by decide) ?_ ?_
  · refine q_iload (i := 4) (x := v4) dX3_ways_68 4 rfl ?_
    exact q_ireti (y := v4) dX3_ways_70 rfl rfl
  refine q_aload_n (i := 0) (x := 44) dX3_ways_25 rfl 0 rfl ?_
  refine q_getr (t := 67) dX3_ways_26 foX3_57 zC_44 rfl ?_
  refine q_iload_n (i := 1) (x := v1) dX3_ways_29 rfl 1 rfl ?_
  refine q_iald dX3_ways_30 zC_67 ?_
  refine q_iload_n (i := 2) (x := v2) dX3_ways_31 rfl 2 rfl ?_
  refine q_iconst (v := (-1)) dX3_ways_32 (by decide) ?_
  refine q_ixor dX3_ways_33 ?_
  refine q_iand dX3_ways_34 ?_
  refine q_iconst (v := 1) dX3_ways_35 (by decide) ?_
  refine q_iload (i := 5) (x := v5) dX3_ways_36 5 rfl ?_
  refine q_ishl dX3_ways_38 ?_
  refine q_iand dX3_ways_39 ?_
  refine q_if_eq (tgt := 62) dX3_ways_40 (by decide) ?_ ?_
  · exact q_sub [0, 1, 2, 3, 4, 5] rfl (aX3_ways_b62 d N rX3_ways hX3_ways σ c19 hc19 v1 v2 v3 v4 v5)
  refine q_iload (i := 4) (x := v4) dX3_ways_43 4 rfl ?_
  refine q_aload_n (i := 0) (x := 44) dX3_ways_45 rfl 0 rfl ?_
  refine q_iload_n (i := 1) (x := v1) dX3_ways_46 rfl 1 rfl ?_
  refine q_iconst (v := 1) dX3_ways_47 (by decide) ?_
  refine q_iadd dX3_ways_48 ?_
  refine q_iload_n (i := 2) (x := v2) dX3_ways_49 rfl 2 rfl ?_
  refine q_iconst (v := 1) dX3_ways_50 (by decide) ?_
  refine q_iload (i := 5) (x := v5) dX3_ways_51 5 rfl ?_
  refine q_ishl dX3_ways_53 ?_
  refine q_ior dX3_ways_54 ?_
  refine q_iload_n (i := 3) (x := v3) dX3_ways_55 rfl 3 rfl ?_
  refine q_cVp (mX3_ways d) [.int (v1 + 1), .int (v2 ||| ((1 : Int32) <<< (v5 &&& 31))), .int v3] (st := [.int v4]) dX3_ways_56 (svX3_270 _) (by unfold rR mX3_ways; constructor <;> dsimp only <;> omega) zC_44 rfl rfl rfl (Nat.le_of_ble_eq_true rfl) (hX3_ways (v1 + 1) (v2 ||| ((1 : Int32) <<< (v5 &&& 31))) v3 σ) (fun y1 => ?_)
  refine q_iadd dX3_ways_59 ?_
  refine q_istore (i := 4) (L' := [(4, .int (v4 + y1)), (0, .ref 44), (1, .int v1), (2, .int v2), (3, .int v3), (5, .int v5)]) dX3_ways_60 (Nat.le_of_ble_eq_true rfl) rfl ?_
  exact q_sub [1, 2, 3, 4, 0, 5] rfl (aX3_ways_b62 d N rX3_ways hX3_ways σ c19 hc19 v1 v2 v3 (v4 + y1) v5)
def fX3_ways_l19 (N : Nat) (rX3_ways : Int32 → Int32 → Int32 → qMem → Option Int32) (σ : qMem) : Nat → Int32 → Int32 → Int32 → Int32 → Int32 → Option Int32
  | 0 => fun _ _ _ _ _ => none
  | n + 1 => fun v1 v2 v3 v4 v5 => fX3_ways_s19 N rX3_ways (fX3_ways_l19 N rX3_ways σ n) v1 v2 v3 v4 v5 σ
theorem aX3_ways_l19 (d : Nat) (N : Nat) (rX3_ways : Int32 → Int32 → Int32 → qMem → Option Int32) (hX3_ways : ∀ (p1 : Int32) (p2 : Int32) (p3 : Int32)  (σ : qMem), qMc wC (mX3_ways d) (ρp σ) [.ref 44, .int p1, .int p2, .int p3] σ (rX3_ways p1 p2 p3 σ)) (σ : qMem) : ∀ (n : Nat) (v1 : Int32) (v2 : Int32) (v3 : Int32) (v4 : Int32) (v5 : Int32), qAt wC (mX3_ways (d + 1)) (ρp σ) 19 [(0, .ref 44), (1, .int v1), (2, .int v2), (3, .int v3), (4, .int v4), (5, .int v5)] [] σ (fX3_ways_l19 N rX3_ways σ n v1 v2 v3 v4 v5) := by
  intro n
  induction n with
  | zero => intro v1 v2 v3 v4 v5; exact q_none
  | succ n ih => intro v1 v2 v3 v4 v5; exact aX3_ways_s19 d N rX3_ways hX3_ways σ (fX3_ways_l19 N rX3_ways σ n) ih v1 v2 v3 v4 v5

def fX3_ways_e (N : Nat) (rX3_ways : Int32 → Int32 → Int32 → qMem → Option Int32) (p1 : Int32) (p2 : Int32) (p3 : Int32) (σ : qMem) : Option Int32 :=
  (if p3 ≤ p1 then (some 1) else (if p1 < 6 then (fX3_ways_l19 N rX3_ways σ N p1 p2 p3 0 0) else (some 1)))
set_option maxRecDepth 20000 in
set_option maxHeartbeats 4000000 in
theorem aX3_ways_e (d : Nat) (N : Nat) (rX3_ways : Int32 → Int32 → Int32 → qMem → Option Int32) (p1 : Int32) (p2 : Int32) (p3 : Int32) (hX3_ways : ∀ (p1 : Int32) (p2 : Int32) (p3 : Int32)  (σ : qMem), qMc wC (mX3_ways d) (ρp σ) [.ref 44, .int p1, .int p2, .int p3] σ (rX3_ways p1 p2 p3 σ)) (σ : qMem) : qAt wC (mX3_ways (d + 1)) (ρp σ) 0 [(0, .ref 44), (1, .int p1), (2, .int p2), (3, .int p3)] [] σ (fX3_ways_e N rX3_ways p1 p2 p3 σ) := by
  unfold fX3_ways_e
  refine q_iload_n (i := 1) (x := p1) dX3_ways_0 rfl 1 rfl ?_
  refine q_iload_n (i := 3) (x := p3) dX3_ways_1 rfl 3 rfl ?_
  refine q_icmp_ge (tgt := 11) dX3_ways_2 (by decide) ?_ ?_
  · refine q_iconst (v := 1) dX3_ways_11 (by decide) ?_
    exact q_ireti (y := 1) dX3_ways_12 rfl rfl
  refine q_iload_n (i := 1) (x := p1) dX3_ways_5 rfl 1 rfl ?_
  refine q_bipush (v := 6) dX3_ways_6 (by decide) ?_
  refine q_icmp_lt (tgt := 13) dX3_ways_8 (by decide) ?_ ?_
  · refine q_iconst (v := 0) dX3_ways_13 (by decide) ?_
    refine q_istore (i := 4) (L' := [(4, .int 0), (0, .ref 44), (1, .int p1), (2, .int p2), (3, .int p3)]) dX3_ways_14 (Nat.le_of_ble_eq_true rfl) rfl ?_
    refine q_iconst (v := 0) dX3_ways_16 (by decide) ?_
    refine q_istore (i := 5) (L' := [(5, .int 0), (4, .int 0), (0, .ref 44), (1, .int p1), (2, .int p2), (3, .int p3)]) dX3_ways_17 (Nat.le_of_ble_eq_true rfl) rfl ?_
    exact q_sub [2, 3, 4, 5, 1, 0] rfl (aX3_ways_l19 d N rX3_ways hX3_ways σ N p1 p2 p3 0 0)
  refine q_iconst (v := 1) dX3_ways_11 (by decide) ?_
  exact q_ireti (y := 1) dX3_ways_12 rfl rfl
def fX3_ways (N : Nat) : Nat → Int32 → Int32 → Int32 → qMem → Option Int32
  | 0 => fun _ _ _ _ => none
  | d + 1 => fun p1 p2 p3 σ => fX3_ways_e N (fX3_ways N d) p1 p2 p3 σ
theorem kX3_ways (N : Nat) : ∀ (d : Nat) (p1 : Int32) (p2 : Int32) (p3 : Int32)  (σ : qMem), qMc wC (mX3_ways d) (ρp σ) [.ref 44, .int p1, .int p2, .int p3] σ (fX3_ways N d p1 p2 p3 σ) := by
  intro d
  induction d with
  | zero => intro p1 p2 p3  σ; exact fun _ h => by cases h
  | succ d ih => intro p1 p2 p3  σ; exact qMc_of (moX3_ways _) (Nat.le_of_ble_eq_true rfl) (aX3_ways_e d N (fX3_ways N d) p1 p2 p3 ih  σ)

theorem dX4_joinOne_0 : decode cX4_joinOne 0 = .ok (.iload_n 2, 1) := by decide +kernel
theorem dX4_joinOne_1 : decode cX4_joinOne 1 = .ok (.ifCond .lt 15, 3) := by decide +kernel
theorem dX4_joinOne_4 : decode cX4_joinOne 4 = .ok (.iload_n 2, 1) := by decide +kernel
theorem dX4_joinOne_5 : decode cX4_joinOne 5 = .ok (.bipush 24, 2) := by decide +kernel
theorem dX4_joinOne_7 : decode cX4_joinOne 7 = .ok (.if_icmp .ge 9, 3) := by decide +kernel
theorem dX4_joinOne_10 : decode cX4_joinOne 10 = .ok (.iload_n 3, 1) := by decide +kernel
theorem dX4_joinOne_11 : decode cX4_joinOne 11 = .ok (.bipush 24, 2) := by decide +kernel
theorem dX4_joinOne_13 : decode cX4_joinOne 13 = .ok (.if_icmp .le 5, 3) := by decide +kernel
theorem dX4_joinOne_16 : decode cX4_joinOne 16 = .ok (.iconst 0, 1) := by decide +kernel
theorem dX4_joinOne_17 : decode cX4_joinOne 17 = .ok (.ireturn, 1) := by decide +kernel
theorem dX4_joinOne_18 : decode cX4_joinOne 18 = .ok (.iconst 0, 1) := by decide +kernel
theorem dX4_joinOne_19 : decode cX4_joinOne 19 = .ok (.istore 4, 2) := by decide +kernel
theorem dX4_joinOne_21 : decode cX4_joinOne 21 = .ok (.iload 4, 2) := by decide +kernel
theorem dX4_joinOne_23 : decode cX4_joinOne 23 = .ok (.bipush 24, 2) := by decide +kernel
theorem dX4_joinOne_25 : decode cX4_joinOne 25 = .ok (.if_icmp .ge 79, 3) := by decide +kernel
theorem dX4_joinOne_28 : decode cX4_joinOne 28 = .ok (.aload_n 1, 1) := by decide +kernel
theorem dX4_joinOne_29 : decode cX4_joinOne 29 = .ok (.iload_n 2, 1) := by decide +kernel
theorem dX4_joinOne_30 : decode cX4_joinOne 30 = .ok (.iaload, 1) := by decide +kernel
theorem dX4_joinOne_31 : decode cX4_joinOne 31 = .ok (.aload_n 0, 1) := by decide +kernel
theorem dX4_joinOne_32 : decode cX4_joinOne 32 = .ok (.getfield 21, 3) := by decide +kernel
theorem dX4_joinOne_35 : decode cX4_joinOne 35 = .ok (.iconst (-1), 1) := by decide +kernel
theorem dX4_joinOne_36 : decode cX4_joinOne 36 = .ok (.ixor, 1) := by decide +kernel
theorem dX4_joinOne_37 : decode cX4_joinOne 37 = .ok (.iand, 1) := by decide +kernel
theorem dX4_joinOne_38 : decode cX4_joinOne 38 = .ok (.iconst 1, 1) := by decide +kernel
theorem dX4_joinOne_39 : decode cX4_joinOne 39 = .ok (.iload 4, 2) := by decide +kernel
theorem dX4_joinOne_41 : decode cX4_joinOne 41 = .ok (.ishl, 1) := by decide +kernel
theorem dX4_joinOne_42 : decode cX4_joinOne 42 = .ok (.iand, 1) := by decide +kernel
theorem dX4_joinOne_43 : decode cX4_joinOne 43 = .ok (.ifCond .eq 55, 3) := by decide +kernel
theorem dX4_joinOne_46 : decode cX4_joinOne 46 = .ok (.aload_n 0, 1) := by decide +kernel
theorem dX4_joinOne_47 : decode cX4_joinOne 47 = .ok (.dup, 1) := by decide +kernel
theorem dX4_joinOne_48 : decode cX4_joinOne 48 = .ok (.getfield 21, 3) := by decide +kernel
theorem dX4_joinOne_51 : decode cX4_joinOne 51 = .ok (.iconst 1, 1) := by decide +kernel
theorem dX4_joinOne_52 : decode cX4_joinOne 52 = .ok (.iload 4, 2) := by decide +kernel
theorem dX4_joinOne_54 : decode cX4_joinOne 54 = .ok (.ishl, 1) := by decide +kernel
theorem dX4_joinOne_55 : decode cX4_joinOne 55 = .ok (.ior, 1) := by decide +kernel
theorem dX4_joinOne_56 : decode cX4_joinOne 56 = .ok (.putfield 21, 3) := by decide +kernel
theorem dX4_joinOne_59 : decode cX4_joinOne 59 = .ok (.aload_n 0, 1) := by decide +kernel
theorem dX4_joinOne_60 : decode cX4_joinOne 60 = .ok (.getfield 18, 3) := by decide +kernel
theorem dX4_joinOne_63 : decode cX4_joinOne 63 = .ok (.iload 4, 2) := by decide +kernel
theorem dX4_joinOne_65 : decode cX4_joinOne 65 = .ok (.iaload, 1) := by decide +kernel
theorem dX4_joinOne_66 : decode cX4_joinOne 66 = .ok (.iconst (-1), 1) := by decide +kernel
theorem dX4_joinOne_67 : decode cX4_joinOne 67 = .ok (.if_icmp .eq 21, 3) := by decide +kernel
theorem dX4_joinOne_70 : decode cX4_joinOne 70 = .ok (.aload_n 0, 1) := by decide +kernel
theorem dX4_joinOne_71 : decode cX4_joinOne 71 = .ok (.aload_n 1, 1) := by decide +kernel
theorem dX4_joinOne_72 : decode cX4_joinOne 72 = .ok (.aload_n 0, 1) := by decide +kernel
theorem dX4_joinOne_73 : decode cX4_joinOne 73 = .ok (.getfield 18, 3) := by decide +kernel
theorem dX4_joinOne_76 : decode cX4_joinOne 76 = .ok (.iload 4, 2) := by decide +kernel
theorem dX4_joinOne_78 : decode cX4_joinOne 78 = .ok (.iaload, 1) := by decide +kernel
theorem dX4_joinOne_79 : decode cX4_joinOne 79 = .ok (.iload_n 3, 1) := by decide +kernel
theorem dX4_joinOne_80 : decode cX4_joinOne 80 = .ok (.iconst 1, 1) := by decide +kernel
theorem dX4_joinOne_81 : decode cX4_joinOne 81 = .ok (.iadd, 1) := by decide +kernel
theorem dX4_joinOne_82 : decode cX4_joinOne 82 = .ok (.invokevirtual 69, 3) := by decide +kernel
theorem dX4_joinOne_85 : decode cX4_joinOne 85 = .ok (.ifCond .eq 13, 3) := by decide +kernel
theorem dX4_joinOne_88 : decode cX4_joinOne 88 = .ok (.aload_n 0, 1) := by decide +kernel
theorem dX4_joinOne_89 : decode cX4_joinOne 89 = .ok (.getfield 18, 3) := by decide +kernel
theorem dX4_joinOne_92 : decode cX4_joinOne 92 = .ok (.iload 4, 2) := by decide +kernel
theorem dX4_joinOne_94 : decode cX4_joinOne 94 = .ok (.iload_n 2, 1) := by decide +kernel
theorem dX4_joinOne_95 : decode cX4_joinOne 95 = .ok (.iastore, 1) := by decide +kernel
theorem dX4_joinOne_96 : decode cX4_joinOne 96 = .ok (.iconst 1, 1) := by decide +kernel
theorem dX4_joinOne_97 : decode cX4_joinOne 97 = .ok (.ireturn, 1) := by decide +kernel
theorem dX4_joinOne_98 : decode cX4_joinOne 98 = .ok (.iinc 4 1, 3) := by decide +kernel
theorem dX4_joinOne_101 : decode cX4_joinOne 101 = .ok (.goto (-80), 3) := by decide +kernel
theorem dX4_joinOne_104 : decode cX4_joinOne 104 = .ok (.iconst 0, 1) := by decide +kernel
theorem dX4_joinOne_105 : decode cX4_joinOne 105 = .ok (.ireturn, 1) := by decide +kernel
def fX4_joinOne_b98 (N : Nat) (rX4_joinOne : Nat → Int32 → Int32 → qMem → Option (Int32 × qMem)) (k1 : Nat) (c21 : Int32 → Int32 → Int32 → qMem → Option (Int32 × qMem)) (v2 : Int32) (v3 : Int32) (v4 : Int32) (σ : qMem) : Option (Int32 × qMem) :=
  (c21 v2 v3 (v4 + 1) σ)
set_option maxRecDepth 20000 in
set_option maxHeartbeats 4000000 in
theorem aX4_joinOne_b98 (d : Nat) (N : Nat) (rX4_joinOne : Nat → Int32 → Int32 → qMem → Option (Int32 × qMem)) (k1 : Nat) (hX4_joinOne : ∀ (k1 : Nat) (p2 : Int32) (p3 : Int32) (hk1 : wC.1[k1]? = some (.inl (.int, 24, []))) (σ : qMem), qMc wC (mX4_joinOne d) (ρi) [.ref 73, .ref k1, .int p2, .int p3] σ (rX4_joinOne k1 p2 p3 σ)) (hk1 : wC.1[k1]? = some (.inl (.int, 24, []))) (c21 : Int32 → Int32 → Int32 → qMem → Option (Int32 × qMem)) (hc21 : ∀ (v2 : Int32) (v3 : Int32) (v4 : Int32) (σ : qMem), qAt wC (mX4_joinOne (d + 1)) (ρi) 21 [(0, .ref 73), (1, .ref k1), (2, .int v2), (3, .int v3), (4, .int v4)] [] σ (c21 v2 v3 v4 σ)) (v2 : Int32) (v3 : Int32) (v4 : Int32) (σ : qMem) : qAt wC (mX4_joinOne (d + 1)) (ρi) 98 [(0, .ref 73), (1, .ref k1), (2, .int v2), (3, .int v3), (4, .int v4)] [] σ (fX4_joinOne_b98 N rX4_joinOne k1 c21 v2 v3 v4 σ) := by
  unfold fX4_joinOne_b98
  refine q_iinc (i := 4) (x := v4) (v := (v4 + 1)) (L' := [(4, .int (v4 + 1)), (0, .ref 73), (1, .ref k1), (2, .int v2), (3, .int v3)]) dX4_joinOne_98 4 rfl (q_cst v4 (by decide)) (Nat.le_of_ble_eq_true rfl) rfl ?_
  refine q_goto (tgt := 21) dX4_joinOne_101 (by decide) ?_
  exact q_sub [1, 2, 3, 4, 0] rfl (hc21 v2 v3 (v4 + 1) σ)

def fX4_joinOne_b88 (N : Nat) (rX4_joinOne : Nat → Int32 → Int32 → qMem → Option (Int32 × qMem)) (k1 : Nat) (v2 : Int32) (v4 : Int32) (σ : qMem) : Option (Int32 × qMem) :=
  (if ck v4 24 = true then (nmM (si σ 76 v4.toNatClampNeg v2) fun s3 => (some (1, s3))) else none)
set_option maxRecDepth 20000 in
set_option maxHeartbeats 4000000 in
theorem aX4_joinOne_b88 (d : Nat) (N : Nat) (rX4_joinOne : Nat → Int32 → Int32 → qMem → Option (Int32 × qMem)) (k1 : Nat) (hX4_joinOne : ∀ (k1 : Nat) (p2 : Int32) (p3 : Int32) (hk1 : wC.1[k1]? = some (.inl (.int, 24, []))) (σ : qMem), qMc wC (mX4_joinOne d) (ρi) [.ref 73, .ref k1, .int p2, .int p3] σ (rX4_joinOne k1 p2 p3 σ)) (hk1 : wC.1[k1]? = some (.inl (.int, 24, []))) (v2 : Int32) (v4 : Int32) (σ : qMem) : qAt wC (mX4_joinOne (d + 1)) (ρi) 88 [(0, .ref 73), (2, .int v2), (4, .int v4)] [] σ (fX4_joinOne_b88 N rX4_joinOne k1 v2 v4 σ) := by
  unfold fX4_joinOne_b88
  refine q_aload_n (i := 0) (x := 73) dX4_joinOne_88 rfl 0 rfl ?_
  refine q_getr (t := 76) dX4_joinOne_89 foX4_18 zC_73 rfl ?_
  refine q_iload (i := 4) (x := v4) dX4_joinOne_92 2 rfl ?_
  refine q_iload_n (i := 2) (x := v2) dX4_joinOne_94 rfl 1 rfl ?_
  refine q_iast dX4_joinOne_95 zC_76 ?_
  refine q_nmM (fun s3 => ?_)
  refine q_iconst (v := 1) dX4_joinOne_96 (by decide) ?_
  exact q_iretz (y := (1, s3)) dX4_joinOne_97 rfl rfl rfl

def fX4_joinOne_s21 (N : Nat) (rX4_joinOne : Nat → Int32 → Int32 → qMem → Option (Int32 × qMem)) (k1 : Nat) (c21 : Int32 → Int32 → Int32 → qMem → Option (Int32 × qMem)) (v2 : Int32) (v3 : Int32) (v4 : Int32) (σ : qMem) : Option (Int32 × qMem) :=
  (if 24 ≤ v4 then (some (0, σ)) else (if ck v2 24 = true then (if (((gi σ k1 v2.toNatClampNeg) &&& ((gi σ 73 4) ^^^ (-1))) &&& ((1 : Int32) <<< (v4 &&& 31))) = 0 then (fX4_joinOne_b98 N rX4_joinOne k1 c21 v2 v3 v4 σ) else (nmM (si σ 73 4 ((gi σ 73 4) ||| ((1 : Int32) <<< (v4 &&& 31)))) fun s1 => (if ck v4 24 = true then (if (gi s1 76 v4.toNatClampNeg) = (-1) then (fX4_joinOne_b88 N rX4_joinOne k1 v2 v4 s1) else (if ck v4 24 = true then ((rX4_joinOne k1 (gi s1 76 v4.toNatClampNeg) (v3 + 1) s1).bind fun y2 => (if y2.1 = 0 then (fX4_joinOne_b98 N rX4_joinOne k1 c21 v2 v3 v4 y2.2) else (fX4_joinOne_b88 N rX4_joinOne k1 v2 v4 y2.2))) else none)) else none))) else none))
set_option maxRecDepth 20000 in
set_option maxHeartbeats 4000000 in
theorem aX4_joinOne_s21 (d : Nat) (N : Nat) (rX4_joinOne : Nat → Int32 → Int32 → qMem → Option (Int32 × qMem)) (k1 : Nat) (hX4_joinOne : ∀ (k1 : Nat) (p2 : Int32) (p3 : Int32) (hk1 : wC.1[k1]? = some (.inl (.int, 24, []))) (σ : qMem), qMc wC (mX4_joinOne d) (ρi) [.ref 73, .ref k1, .int p2, .int p3] σ (rX4_joinOne k1 p2 p3 σ)) (hk1 : wC.1[k1]? = some (.inl (.int, 24, []))) (c21 : Int32 → Int32 → Int32 → qMem → Option (Int32 × qMem)) (hc21 : ∀ (v2 : Int32) (v3 : Int32) (v4 : Int32) (σ : qMem), qAt wC (mX4_joinOne (d + 1)) (ρi) 21 [(0, .ref 73), (1, .ref k1), (2, .int v2), (3, .int v3), (4, .int v4)] [] σ (c21 v2 v3 v4 σ)) (v2 : Int32) (v3 : Int32) (v4 : Int32) (σ : qMem) : qAt wC (mX4_joinOne (d + 1)) (ρi) 21 [(0, .ref 73), (1, .ref k1), (2, .int v2), (3, .int v3), (4, .int v4)] [] σ (fX4_joinOne_s21 N rX4_joinOne k1 c21 v2 v3 v4 σ) := by
  unfold fX4_joinOne_s21
  refine q_iload (i := 4) (x := v4) dX4_joinOne_21 4 rfl ?_
  refine q_bipush (v := 24) dX4_joinOne_23 (by decide) ?_
  refine q_icmp_ge (tgt := 104) dX4_joinOne_25 (by decide) ?_ ?_
  · refine q_iconst (v := 0) dX4_joinOne_104 (by decide) ?_
    exact q_iretz (y := (0, σ)) dX4_joinOne_105 rfl rfl rfl
  refine q_aload_n (i := 1) (x := k1) dX4_joinOne_28 rfl 1 rfl ?_
  refine q_iload_n (i := 2) (x := v2) dX4_joinOne_29 rfl 2 rfl ?_
  refine q_iald dX4_joinOne_30 hk1 ?_
  refine q_aload_n (i := 0) (x := 73) dX4_joinOne_31 rfl 0 rfl ?_
  refine q_geti dX4_joinOne_32 foX4_21 zC_73 rfl ?_
  refine q_iconst (v := (-1)) dX4_joinOne_35 (by decide) ?_
  refine q_ixor dX4_joinOne_36 ?_
  refine q_iand dX4_joinOne_37 ?_
  refine q_iconst (v := 1) dX4_joinOne_38 (by decide) ?_
  refine q_iload (i := 4) (x := v4) dX4_joinOne_39 4 rfl ?_
  refine q_ishl dX4_joinOne_41 ?_
  refine q_iand dX4_joinOne_42 ?_
  refine q_if_eq (tgt := 98) dX4_joinOne_43 (by decide) ?_ ?_
  · exact q_sub [0, 1, 2, 3, 4] rfl (aX4_joinOne_b98 d N rX4_joinOne k1 hX4_joinOne hk1 c21 hc21 v2 v3 v4 σ)
  refine q_aload_n (i := 0) (x := 73) dX4_joinOne_46 rfl 0 rfl ?_
  refine q_dup dX4_joinOne_47 rfl ?_
  refine q_geti dX4_joinOne_48 foX4_21 zC_73 rfl ?_
  refine q_iconst (v := 1) dX4_joinOne_51 (by decide) ?_
  refine q_iload (i := 4) (x := v4) dX4_joinOne_52 4 rfl ?_
  refine q_ishl dX4_joinOne_54 ?_
  refine q_ior dX4_joinOne_55 ?_
  refine q_puti dX4_joinOne_56 foX4_21 fwX4_4 zC_73 rfl ?_
  refine q_nmM (fun s1 => ?_)
  refine q_aload_n (i := 0) (x := 73) dX4_joinOne_59 rfl 0 rfl ?_
  refine q_getr (t := 76) dX4_joinOne_60 foX4_18 zC_73 rfl ?_
  refine q_iload (i := 4) (x := v4) dX4_joinOne_63 4 rfl ?_
  refine q_iald dX4_joinOne_65 zC_76 ?_
  refine q_iconst (v := (-1)) dX4_joinOne_66 (by decide) ?_
  refine q_icmp_eq (tgt := 88) dX4_joinOne_67 (by decide) ?_ ?_
  · exact q_sub [0, 2, 4] rfl (aX4_joinOne_b88 d N rX4_joinOne k1 hX4_joinOne hk1 v2 v4 s1)
  refine q_aload_n (i := 0) (x := 73) dX4_joinOne_70 rfl 0 rfl ?_
  refine q_aload_n (i := 1) (x := k1) dX4_joinOne_71 rfl 1 rfl ?_
  refine q_aload_n (i := 0) (x := 73) dX4_joinOne_72 rfl 0 rfl ?_
  refine q_getr (t := 76) dX4_joinOne_73 foX4_18 zC_73 rfl ?_
  refine q_iload (i := 4) (x := v4) dX4_joinOne_76 4 rfl ?_
  refine q_iald dX4_joinOne_78 zC_76 ?_
  refine q_iload_n (i := 3) (x := v3) dX4_joinOne_79 rfl 3 rfl ?_
  refine q_iconst (v := 1) dX4_joinOne_80 (by decide) ?_
  refine q_iadd dX4_joinOne_81 ?_
  refine q_cVi (mX4_joinOne d) [.ref k1, .int (gi s1 76 v4.toNatClampNeg), .int (v3 + 1)] (st := []) dX4_joinOne_82 (svX4_69 _) (by unfold rR mX4_joinOne; constructor <;> dsimp only <;> omega) zC_73 rfl rfl rfl (Nat.le_of_ble_eq_true rfl) (hX4_joinOne k1 (gi s1 76 v4.toNatClampNeg) (v3 + 1) hk1 s1) (fun y2 => ?_)
  refine q_if_eq (tgt := 98) dX4_joinOne_85 (by decide) ?_ ?_
  · exact q_sub [0, 1, 2, 3, 4] rfl (aX4_joinOne_b98 d N rX4_joinOne k1 hX4_joinOne hk1 c21 hc21 v2 v3 v4 y2.2)
  exact q_sub [0, 2, 4] rfl (aX4_joinOne_b88 d N rX4_joinOne k1 hX4_joinOne hk1 v2 v4 y2.2)
def fX4_joinOne_l21 (N : Nat) (rX4_joinOne : Nat → Int32 → Int32 → qMem → Option (Int32 × qMem)) (k1 : Nat) : Nat → Int32 → Int32 → Int32 → qMem → Option (Int32 × qMem)
  | 0 => fun _ _ _ _ => none
  | n + 1 => fun v2 v3 v4 σ => fX4_joinOne_s21 N rX4_joinOne k1 (fX4_joinOne_l21 N rX4_joinOne k1 n) v2 v3 v4 σ
theorem aX4_joinOne_l21 (d : Nat) (N : Nat) (rX4_joinOne : Nat → Int32 → Int32 → qMem → Option (Int32 × qMem)) (k1 : Nat) (hX4_joinOne : ∀ (k1 : Nat) (p2 : Int32) (p3 : Int32) (hk1 : wC.1[k1]? = some (.inl (.int, 24, []))) (σ : qMem), qMc wC (mX4_joinOne d) (ρi) [.ref 73, .ref k1, .int p2, .int p3] σ (rX4_joinOne k1 p2 p3 σ)) (hk1 : wC.1[k1]? = some (.inl (.int, 24, []))) : ∀ (n : Nat) (v2 : Int32) (v3 : Int32) (v4 : Int32) (σ : qMem), qAt wC (mX4_joinOne (d + 1)) (ρi) 21 [(0, .ref 73), (1, .ref k1), (2, .int v2), (3, .int v3), (4, .int v4)] [] σ (fX4_joinOne_l21 N rX4_joinOne k1 n v2 v3 v4 σ) := by
  intro n
  induction n with
  | zero => intro v2 v3 v4 σ; exact q_none
  | succ n ih => intro v2 v3 v4 σ; exact aX4_joinOne_s21 d N rX4_joinOne k1 hX4_joinOne hk1 (fX4_joinOne_l21 N rX4_joinOne k1 n) ih v2 v3 v4 σ

def fX4_joinOne_e (N : Nat) (rX4_joinOne : Nat → Int32 → Int32 → qMem → Option (Int32 × qMem)) (k1 : Nat) (p2 : Int32) (p3 : Int32) (σ : qMem) : Option (Int32 × qMem) :=
  (if p2 < 0 then (some (0, σ)) else (if 24 ≤ p2 then (some (0, σ)) else (if p3 ≤ 24 then (fX4_joinOne_l21 N rX4_joinOne k1 N p2 p3 0 σ) else (some (0, σ)))))
set_option maxRecDepth 20000 in
set_option maxHeartbeats 4000000 in
theorem aX4_joinOne_e (d : Nat) (N : Nat) (rX4_joinOne : Nat → Int32 → Int32 → qMem → Option (Int32 × qMem)) (k1 : Nat) (p2 : Int32) (p3 : Int32) (hX4_joinOne : ∀ (k1 : Nat) (p2 : Int32) (p3 : Int32) (hk1 : wC.1[k1]? = some (.inl (.int, 24, []))) (σ : qMem), qMc wC (mX4_joinOne d) (ρi) [.ref 73, .ref k1, .int p2, .int p3] σ (rX4_joinOne k1 p2 p3 σ)) (hk1 : wC.1[k1]? = some (.inl (.int, 24, []))) (σ : qMem) : qAt wC (mX4_joinOne (d + 1)) (ρi) 0 [(0, .ref 73), (1, .ref k1), (2, .int p2), (3, .int p3)] [] σ (fX4_joinOne_e N rX4_joinOne k1 p2 p3 σ) := by
  unfold fX4_joinOne_e
  refine q_iload_n (i := 2) (x := p2) dX4_joinOne_0 rfl 2 rfl ?_
  refine q_if_lt (tgt := 16) dX4_joinOne_1 (by decide) ?_ ?_
  · refine q_iconst (v := 0) dX4_joinOne_16 (by decide) ?_
    exact q_iretz (y := (0, σ)) dX4_joinOne_17 rfl rfl rfl
  refine q_iload_n (i := 2) (x := p2) dX4_joinOne_4 rfl 2 rfl ?_
  refine q_bipush (v := 24) dX4_joinOne_5 (by decide) ?_
  refine q_icmp_ge (tgt := 16) dX4_joinOne_7 (by decide) ?_ ?_
  · refine q_iconst (v := 0) dX4_joinOne_16 (by decide) ?_
    exact q_iretz (y := (0, σ)) dX4_joinOne_17 rfl rfl rfl
  refine q_iload_n (i := 3) (x := p3) dX4_joinOne_10 rfl 3 rfl ?_
  refine q_bipush (v := 24) dX4_joinOne_11 (by decide) ?_
  refine q_icmp_le (tgt := 18) dX4_joinOne_13 (by decide) ?_ ?_
  · refine q_iconst (v := 0) dX4_joinOne_18 (by decide) ?_
    refine q_istore (i := 4) (L' := [(4, .int 0), (0, .ref 73), (1, .ref k1), (2, .int p2), (3, .int p3)]) dX4_joinOne_19 (Nat.le_of_ble_eq_true rfl) rfl ?_
    exact q_sub [1, 2, 3, 4, 0] rfl (aX4_joinOne_l21 d N rX4_joinOne k1 hX4_joinOne hk1 N p2 p3 0 σ)
  refine q_iconst (v := 0) dX4_joinOne_16 (by decide) ?_
  exact q_iretz (y := (0, σ)) dX4_joinOne_17 rfl rfl rfl
def fX4_joinOne (N : Nat) : Nat → Nat → Int32 → Int32 → qMem → Option (Int32 × qMem)
  | 0 => fun _ _ _ _ => none
  | d + 1 => fun k1 p2 p3 σ => fX4_joinOne_e N (fX4_joinOne N d) k1 p2 p3 σ
theorem kX4_joinOne (N : Nat) : ∀ (d : Nat) (k1 : Nat) (p2 : Int32) (p3 : Int32) (hk1 : wC.1[k1]? = some (.inl (.int, 24, []))) (σ : qMem), qMc wC (mX4_joinOne d) (ρi) [.ref 73, .ref k1, .int p2, .int p3] σ (fX4_joinOne N d k1 p2 p3 σ) := by
  intro d
  induction d with
  | zero => intro k1 p2 p3 hk1 σ; exact fun _ h => by cases h
  | succ d ih => intro k1 p2 p3 hk1 σ; exact qMc_of (moX4_joinOne _) (Nat.le_of_ble_eq_true rfl) (aX4_joinOne_e d N (fX4_joinOne N d) k1 p2 p3 ih hk1 σ)

theorem dX4_join_0 : decode cX4_join 0 = .ok (.aload_n 0, 1) := by decide +kernel
theorem dX4_join_1 : decode cX4_join 1 = .ok (.getfield 18, 3) := by decide +kernel
theorem dX4_join_4 : decode cX4_join 4 = .ok (.iconst (-1), 1) := by decide +kernel
theorem dX4_join_5 : decode cX4_join 5 = .ok (.invokestatic 63, 3) := by decide +kernel
theorem dX4_join_8 : decode cX4_join 8 = .ok (.iconst 0, 1) := by decide +kernel
theorem dX4_join_9 : decode cX4_join 9 = .ok (.istore_n 2, 1) := by decide +kernel
theorem dX4_join_10 : decode cX4_join 10 = .ok (.iconst 0, 1) := by decide +kernel
theorem dX4_join_11 : decode cX4_join 11 = .ok (.istore_n 3, 1) := by decide +kernel
theorem dX4_join_12 : decode cX4_join 12 = .ok (.iload_n 3, 1) := by decide +kernel
theorem dX4_join_13 : decode cX4_join 13 = .ok (.bipush 24, 2) := by decide +kernel
theorem dX4_join_15 : decode cX4_join 15 = .ok (.if_icmp .ge 27, 3) := by decide +kernel
theorem dX4_join_18 : decode cX4_join 18 = .ok (.aload_n 0, 1) := by decide +kernel
theorem dX4_join_19 : decode cX4_join 19 = .ok (.iconst 0, 1) := by decide +kernel
theorem dX4_join_20 : decode cX4_join 20 = .ok (.putfield 21, 3) := by decide +kernel
theorem dX4_join_23 : decode cX4_join 23 = .ok (.aload_n 0, 1) := by decide +kernel
theorem dX4_join_24 : decode cX4_join 24 = .ok (.aload_n 1, 1) := by decide +kernel
theorem dX4_join_25 : decode cX4_join 25 = .ok (.iload_n 3, 1) := by decide +kernel
theorem dX4_join_26 : decode cX4_join 26 = .ok (.iconst 0, 1) := by decide +kernel
theorem dX4_join_27 : decode cX4_join 27 = .ok (.invokevirtual 69, 3) := by decide +kernel
theorem dX4_join_30 : decode cX4_join 30 = .ok (.ifCond .eq 6, 3) := by decide +kernel
theorem dX4_join_33 : decode cX4_join 33 = .ok (.iinc 2 1, 3) := by decide +kernel
theorem dX4_join_36 : decode cX4_join 36 = .ok (.iinc 3 1, 3) := by decide +kernel
theorem dX4_join_39 : decode cX4_join 39 = .ok (.goto (-27), 3) := by decide +kernel
theorem dX4_join_42 : decode cX4_join 42 = .ok (.iload_n 2, 1) := by decide +kernel
theorem dX4_join_43 : decode cX4_join 43 = .ok (.ireturn, 1) := by decide +kernel
def fX4_join_b36 (N : Nat) (k1 : Nat) (c12 : Int32 → Int32 → qMem → Option (Int32 × qMem)) (v2 : Int32) (v3 : Int32) (σ : qMem) : Option (Int32 × qMem) :=
  (c12 v2 (v3 + 1) σ)
set_option maxRecDepth 20000 in
set_option maxHeartbeats 4000000 in
theorem aX4_join_b36 (N : Nat) (k1 : Nat) (hk1 : wC.1[k1]? = some (.inl (.int, 24, []))) (c12 : Int32 → Int32 → qMem → Option (Int32 × qMem)) (hc12 : ∀ (v2 : Int32) (v3 : Int32) (σ : qMem), qAt wC mX4_join (ρi) 12 [(0, .ref 73), (1, .ref k1), (2, .int v2), (3, .int v3)] [] σ (c12 v2 v3 σ)) (v2 : Int32) (v3 : Int32) (σ : qMem) : qAt wC mX4_join (ρi) 36 [(0, .ref 73), (1, .ref k1), (2, .int v2), (3, .int v3)] [] σ (fX4_join_b36 N k1 c12 v2 v3 σ) := by
  unfold fX4_join_b36
  refine q_iinc (i := 3) (x := v3) (v := (v3 + 1)) (L' := [(3, .int (v3 + 1)), (0, .ref 73), (1, .ref k1), (2, .int v2)]) dX4_join_36 3 rfl (q_cst v3 (by decide)) (Nat.le_of_ble_eq_true rfl) rfl ?_
  refine q_goto (tgt := 12) dX4_join_39 (by decide) ?_
  exact q_sub [1, 2, 3, 0] rfl (hc12 v2 (v3 + 1) σ)

def fX4_join_s12 (N : Nat) (k1 : Nat) (c12 : Int32 → Int32 → qMem → Option (Int32 × qMem)) (v2 : Int32) (v3 : Int32) (σ : qMem) : Option (Int32 × qMem) :=
  (if 24 ≤ v3 then (some (v2, σ)) else (nmM (si σ 73 4 0) fun s2 => ((fX4_joinOne N 26 k1 v3 0 s2).bind fun y3 => (if y3.1 = 0 then (fX4_join_b36 N k1 c12 v2 v3 y3.2) else (fX4_join_b36 N k1 c12 (v2 + 1) v3 y3.2)))))
set_option maxRecDepth 20000 in
set_option maxHeartbeats 4000000 in
theorem aX4_join_s12 (N : Nat) (k1 : Nat) (hk1 : wC.1[k1]? = some (.inl (.int, 24, []))) (c12 : Int32 → Int32 → qMem → Option (Int32 × qMem)) (hc12 : ∀ (v2 : Int32) (v3 : Int32) (σ : qMem), qAt wC mX4_join (ρi) 12 [(0, .ref 73), (1, .ref k1), (2, .int v2), (3, .int v3)] [] σ (c12 v2 v3 σ)) (v2 : Int32) (v3 : Int32) (σ : qMem) : qAt wC mX4_join (ρi) 12 [(0, .ref 73), (1, .ref k1), (2, .int v2), (3, .int v3)] [] σ (fX4_join_s12 N k1 c12 v2 v3 σ) := by
  unfold fX4_join_s12
  refine q_iload_n (i := 3) (x := v3) dX4_join_12 rfl 3 rfl ?_
  refine q_bipush (v := 24) dX4_join_13 (by decide) ?_
  refine q_icmp_ge (tgt := 42) dX4_join_15 (by decide) ?_ ?_
  · refine q_iload_n (i := 2) (x := v2) dX4_join_42 rfl 2 rfl ?_
    exact q_ireti (y := (v2, σ)) dX4_join_43 rfl rfl
  refine q_aload_n (i := 0) (x := 73) dX4_join_18 rfl 0 rfl ?_
  refine q_iconst (v := 0) dX4_join_19 (by decide) ?_
  refine q_puti dX4_join_20 foX4_21 fwX4_4 zC_73 rfl ?_
  refine q_nmM (fun s2 => ?_)
  refine q_aload_n (i := 0) (x := 73) dX4_join_23 rfl 0 rfl ?_
  refine q_aload_n (i := 1) (x := k1) dX4_join_24 rfl 1 rfl ?_
  refine q_iload_n (i := 3) (x := v3) dX4_join_25 rfl 3 rfl ?_
  refine q_iconst (v := 0) dX4_join_26 (by decide) ?_
  refine q_cVi (mX4_joinOne 26) [.ref k1, .int v3, .int 0] (st := []) dX4_join_27 (svX4_69 _) ⟨Nat.le_of_ble_eq_true rfl, Nat.le_of_ble_eq_true rfl⟩ zC_73 rfl rfl rfl (Nat.le_of_ble_eq_true rfl) (kX4_joinOne N 26 k1 v3 0 hk1 s2) (fun y3 => ?_)
  refine q_if_eq (tgt := 36) dX4_join_30 (by decide) ?_ ?_
  · exact q_sub [0, 1, 2, 3] rfl (aX4_join_b36 N k1 hk1 c12 hc12 v2 v3 y3.2)
  refine q_iinc (i := 2) (x := v2) (v := (v2 + 1)) (L' := [(2, .int (v2 + 1)), (0, .ref 73), (1, .ref k1), (3, .int v3)]) dX4_join_33 2 rfl (q_cst v2 (by decide)) (Nat.le_of_ble_eq_true rfl) rfl ?_
  exact q_sub [1, 2, 0, 3] rfl (aX4_join_b36 N k1 hk1 c12 hc12 (v2 + 1) v3 y3.2)
def fX4_join_l12 (N : Nat) (k1 : Nat) : Nat → Int32 → Int32 → qMem → Option (Int32 × qMem)
  | 0 => fun _ _ _ => none
  | n + 1 => fun v2 v3 σ => fX4_join_s12 N k1 (fX4_join_l12 N k1 n) v2 v3 σ
theorem aX4_join_l12 (N : Nat) (k1 : Nat) (hk1 : wC.1[k1]? = some (.inl (.int, 24, []))) : ∀ (n : Nat) (v2 : Int32) (v3 : Int32) (σ : qMem), qAt wC mX4_join (ρi) 12 [(0, .ref 73), (1, .ref k1), (2, .int v2), (3, .int v3)] [] σ (fX4_join_l12 N k1 n v2 v3 σ) := by
  intro n
  induction n with
  | zero => intro v2 v3 σ; exact q_none
  | succ n ih => intro v2 v3 σ; exact aX4_join_s12 N k1 hk1 (fX4_join_l12 N k1 n) ih v2 v3 σ

def fX4_join (N : Nat) (k1 : Nat) (σ : qMem) : Option (Int32 × qMem) :=
  ((fJ7_fill_53178 N 76 24 (-1) σ).bind fun y1 => (fX4_join_l12 N k1 N 0 0 y1))
set_option maxRecDepth 20000 in
set_option maxHeartbeats 4000000 in
theorem aX4_join  (N : Nat) (k1 : Nat) (hk1 : wC.1[k1]? = some (.inl (.int, 24, []))) (σ : qMem) : qAt wC mX4_join (ρi) 0 [(0, .ref 73), (1, .ref k1)] [] σ (fX4_join N k1 σ) := by
  unfold fX4_join
  refine q_aload_n (i := 0) (x := 73) dX4_join_0 rfl 0 rfl ?_
  refine q_getr (t := 76) dX4_join_1 foX4_18 zC_73 rfl ?_
  refine q_iconst (v := (-1)) dX4_join_4 (by decide) ?_
  refine q_cSv mJ7_fill_53178 [.ref 76, .int (-1)] (st := []) dX4_join_5 (ssX4_63) ⟨Nat.le_of_ble_eq_true rfl, Nat.le_of_ble_eq_true rfl⟩ rfl rfl (Nat.le_of_ble_eq_true rfl) (kJ7_fill_53178 N 76 24 (-1) zC_76 σ) (fun y1 => ?_)
  refine q_iconst (v := 0) dX4_join_8 (by decide) ?_
  refine q_istore_n (i := 2) (L' := [(2, .int 0), (0, .ref 73), (1, .ref k1)]) dX4_join_9 rfl (Nat.le_of_ble_eq_true rfl) rfl ?_
  refine q_iconst (v := 0) dX4_join_10 (by decide) ?_
  refine q_istore_n (i := 3) (L' := [(3, .int 0), (2, .int 0), (0, .ref 73), (1, .ref k1)]) dX4_join_11 rfl (Nat.le_of_ble_eq_true rfl) rfl ?_
  exact q_sub [2, 3, 1, 0] rfl (aX4_join_l12 N k1 hk1 N 0 0 y1)
theorem kX4_join  (N : Nat) (k1 : Nat) (hk1 : wC.1[k1]? = some (.inl (.int, 24, []))) (σ : qMem) : qMc wC mX4_join (ρi) [.ref 73, .ref k1] σ (fX4_join N k1 σ) := qMc_of (moX4_join) (Nat.le_of_ble_eq_true rfl) (aX4_join N k1 hk1 σ)

theorem dX4_nextsOf_0 : decode cX4_nextsOf 0 = .ok (.iconst 0, 1) := by decide +kernel
theorem dX4_nextsOf_1 : decode cX4_nextsOf 1 = .ok (.istore_n 3, 1) := by decide +kernel
theorem dX4_nextsOf_2 : decode cX4_nextsOf 2 = .ok (.iconst 0, 1) := by decide +kernel
theorem dX4_nextsOf_3 : decode cX4_nextsOf 3 = .ok (.istore 4, 2) := by decide +kernel
theorem dX4_nextsOf_5 : decode cX4_nextsOf 5 = .ok (.iload 4, 2) := by decide +kernel
theorem dX4_nextsOf_7 : decode cX4_nextsOf 7 = .ok (.aload_n 0, 1) := by decide +kernel
theorem dX4_nextsOf_8 : decode cX4_nextsOf 8 = .ok (.getfield 31, 3) := by decide +kernel
theorem dX4_nextsOf_11 : decode cX4_nextsOf 11 = .ok (.getfield 35, 3) := by decide +kernel
theorem dX4_nextsOf_14 : decode cX4_nextsOf 14 = .ok (.getfield 41, 3) := by decide +kernel
theorem dX4_nextsOf_17 : decode cX4_nextsOf 17 = .ok (.if_icmp .ge 128, 3) := by decide +kernel
theorem dX4_nextsOf_20 : decode cX4_nextsOf 20 = .ok (.aload_n 0, 1) := by decide +kernel
theorem dX4_nextsOf_21 : decode cX4_nextsOf 21 = .ok (.getfield 31, 3) := by decide +kernel
theorem dX4_nextsOf_24 : decode cX4_nextsOf 24 = .ok (.getfield 35, 3) := by decide +kernel
theorem dX4_nextsOf_27 : decode cX4_nextsOf 27 = .ok (.iload 4, 2) := by decide +kernel
theorem dX4_nextsOf_29 : decode cX4_nextsOf 29 = .ok (.iconst 1, 1) := by decide +kernel
theorem dX4_nextsOf_30 : decode cX4_nextsOf 30 = .ok (.invokevirtual 46, 3) := by decide +kernel
theorem dX4_nextsOf_33 : decode cX4_nextsOf 33 = .ok (.aload_n 0, 1) := by decide +kernel
theorem dX4_nextsOf_34 : decode cX4_nextsOf 34 = .ok (.getfield 31, 3) := by decide +kernel
theorem dX4_nextsOf_37 : decode cX4_nextsOf 37 = .ok (.getfield 35, 3) := by decide +kernel
theorem dX4_nextsOf_40 : decode cX4_nextsOf 40 = .ok (.iload_n 1, 1) := by decide +kernel
theorem dX4_nextsOf_41 : decode cX4_nextsOf 41 = .ok (.iconst 1, 1) := by decide +kernel
theorem dX4_nextsOf_42 : decode cX4_nextsOf 42 = .ok (.invokevirtual 46, 3) := by decide +kernel
theorem dX4_nextsOf_45 : decode cX4_nextsOf 45 = .ok (.isub, 1) := by decide +kernel
theorem dX4_nextsOf_46 : decode cX4_nextsOf 46 = .ok (.istore 5, 2) := by decide +kernel
theorem dX4_nextsOf_48 : decode cX4_nextsOf 48 = .ok (.aload_n 0, 1) := by decide +kernel
theorem dX4_nextsOf_49 : decode cX4_nextsOf 49 = .ok (.getfield 31, 3) := by decide +kernel
theorem dX4_nextsOf_52 : decode cX4_nextsOf 52 = .ok (.getfield 35, 3) := by decide +kernel
theorem dX4_nextsOf_55 : decode cX4_nextsOf 55 = .ok (.iload 4, 2) := by decide +kernel
theorem dX4_nextsOf_57 : decode cX4_nextsOf 57 = .ok (.iconst 0, 1) := by decide +kernel
theorem dX4_nextsOf_58 : decode cX4_nextsOf 58 = .ok (.invokevirtual 46, 3) := by decide +kernel
theorem dX4_nextsOf_61 : decode cX4_nextsOf 61 = .ok (.iload_n 2, 1) := by decide +kernel
theorem dX4_nextsOf_62 : decode cX4_nextsOf 62 = .ok (.if_icmp .ne 77, 3) := by decide +kernel
theorem dX4_nextsOf_65 : decode cX4_nextsOf 65 = .ok (.iload 5, 2) := by decide +kernel
theorem dX4_nextsOf_67 : decode cX4_nextsOf 67 = .ok (.iconst 1, 1) := by decide +kernel
theorem dX4_nextsOf_68 : decode cX4_nextsOf 68 = .ok (.if_icmp .lt 71, 3) := by decide +kernel
theorem dX4_nextsOf_71 : decode cX4_nextsOf 71 = .ok (.iload 5, 2) := by decide +kernel
theorem dX4_nextsOf_73 : decode cX4_nextsOf 73 = .ok (.aload_n 0, 1) := by decide +kernel
theorem dX4_nextsOf_74 : decode cX4_nextsOf 74 = .ok (.getfield 31, 3) := by decide +kernel
theorem dX4_nextsOf_77 : decode cX4_nextsOf 77 = .ok (.getfield 57, 3) := by decide +kernel
theorem dX4_nextsOf_80 : decode cX4_nextsOf 80 = .ok (.iconst 4, 1) := by decide +kernel
theorem dX4_nextsOf_81 : decode cX4_nextsOf 81 = .ok (.iaload, 1) := by decide +kernel
theorem dX4_nextsOf_82 : decode cX4_nextsOf 82 = .ok (.if_icmp .gt 57, 3) := by decide +kernel
theorem dX4_nextsOf_85 : decode cX4_nextsOf 85 = .ok (.aload_n 0, 1) := by decide +kernel
theorem dX4_nextsOf_86 : decode cX4_nextsOf 86 = .ok (.getfield 31, 3) := by decide +kernel
theorem dX4_nextsOf_89 : decode cX4_nextsOf 89 = .ok (.getfield 35, 3) := by decide +kernel
theorem dX4_nextsOf_92 : decode cX4_nextsOf 92 = .ok (.iload_n 1, 1) := by decide +kernel
theorem dX4_nextsOf_93 : decode cX4_nextsOf 93 = .ok (.iconst 2, 1) := by decide +kernel
theorem dX4_nextsOf_94 : decode cX4_nextsOf 94 = .ok (.invokevirtual 46, 3) := by decide +kernel
theorem dX4_nextsOf_97 : decode cX4_nextsOf 97 = .ok (.aload_n 0, 1) := by decide +kernel
theorem dX4_nextsOf_98 : decode cX4_nextsOf 98 = .ok (.getfield 31, 3) := by decide +kernel
theorem dX4_nextsOf_101 : decode cX4_nextsOf 101 = .ok (.getfield 35, 3) := by decide +kernel
theorem dX4_nextsOf_104 : decode cX4_nextsOf 104 = .ok (.iload 4, 2) := by decide +kernel
theorem dX4_nextsOf_106 : decode cX4_nextsOf 106 = .ok (.iconst 2, 1) := by decide +kernel
theorem dX4_nextsOf_107 : decode cX4_nextsOf 107 = .ok (.invokevirtual 46, 3) := by decide +kernel
theorem dX4_nextsOf_110 : decode cX4_nextsOf 110 = .ok (.invokestatic 60, 3) := by decide +kernel
theorem dX4_nextsOf_113 : decode cX4_nextsOf 113 = .ok (.istore 6, 2) := by decide +kernel
theorem dX4_nextsOf_115 : decode cX4_nextsOf 115 = .ok (.iload 6, 2) := by decide +kernel
theorem dX4_nextsOf_117 : decode cX4_nextsOf 117 = .ok (.aload_n 0, 1) := by decide +kernel
theorem dX4_nextsOf_118 : decode cX4_nextsOf 118 = .ok (.getfield 31, 3) := by decide +kernel
theorem dX4_nextsOf_121 : decode cX4_nextsOf 121 = .ok (.getfield 57, 3) := by decide +kernel
theorem dX4_nextsOf_124 : decode cX4_nextsOf 124 = .ok (.iconst 5, 1) := by decide +kernel
theorem dX4_nextsOf_125 : decode cX4_nextsOf 125 = .ok (.iaload, 1) := by decide +kernel
theorem dX4_nextsOf_126 : decode cX4_nextsOf 126 = .ok (.iload 5, 2) := by decide +kernel
theorem dX4_nextsOf_128 : decode cX4_nextsOf 128 = .ok (.imul, 1) := by decide +kernel
theorem dX4_nextsOf_129 : decode cX4_nextsOf 129 = .ok (.if_icmp .gt 10, 3) := by decide +kernel
theorem dX4_nextsOf_132 : decode cX4_nextsOf 132 = .ok (.iload_n 3, 1) := by decide +kernel
theorem dX4_nextsOf_133 : decode cX4_nextsOf 133 = .ok (.iconst 1, 1) := by decide +kernel
theorem dX4_nextsOf_134 : decode cX4_nextsOf 134 = .ok (.iload 4, 2) := by decide +kernel
theorem dX4_nextsOf_136 : decode cX4_nextsOf 136 = .ok (.ishl, 1) := by decide +kernel
theorem dX4_nextsOf_137 : decode cX4_nextsOf 137 = .ok (.ior, 1) := by decide +kernel
theorem dX4_nextsOf_138 : decode cX4_nextsOf 138 = .ok (.istore_n 3, 1) := by decide +kernel
theorem dX4_nextsOf_139 : decode cX4_nextsOf 139 = .ok (.iinc 4 1, 3) := by decide +kernel
theorem dX4_nextsOf_142 : decode cX4_nextsOf 142 = .ok (.goto (-137), 3) := by decide +kernel
theorem dX4_nextsOf_145 : decode cX4_nextsOf 145 = .ok (.iload_n 3, 1) := by decide +kernel
theorem dX4_nextsOf_146 : decode cX4_nextsOf 146 = .ok (.ireturn, 1) := by decide +kernel
def fX4_nextsOf_b139 (N : Nat) (c5 : Int32 → Int32 → Int32 → Int32 → Option Int32) (v1 : Int32) (v2 : Int32) (v3 : Int32) (v4 : Int32) (σ : qMem) : Option Int32 :=
  (c5 v1 v2 v3 (v4 + 1))
set_option maxRecDepth 20000 in
set_option maxHeartbeats 4000000 in
theorem aX4_nextsOf_b139 (N : Nat) (σ : qMem) (c5 : Int32 → Int32 → Int32 → Int32 → Option Int32) (hc5 : ∀ (v1 : Int32) (v2 : Int32) (v3 : Int32) (v4 : Int32) , qAt wC mX4_nextsOf (ρp σ) 5 [(0, .ref 73), (1, .int v1), (2, .int v2), (3, .int v3), (4, .int v4)] [] σ (c5 v1 v2 v3 v4)) (v1 : Int32) (v2 : Int32) (v3 : Int32) (v4 : Int32) : qAt wC mX4_nextsOf (ρp σ) 139 [(0, .ref 73), (1, .int v1), (2, .int v2), (3, .int v3), (4, .int v4)] [] σ (fX4_nextsOf_b139 N c5 v1 v2 v3 v4 σ) := by
  unfold fX4_nextsOf_b139
  refine q_iinc (i := 4) (x := v4) (v := (v4 + 1)) (L' := [(4, .int (v4 + 1)), (0, .ref 73), (1, .int v1), (2, .int v2), (3, .int v3)]) dX4_nextsOf_139 4 rfl (q_cst v4 (by decide)) (Nat.le_of_ble_eq_true rfl) rfl ?_
  refine q_goto (tgt := 5) dX4_nextsOf_142 (by decide) ?_
  exact q_sub [1, 2, 3, 4, 0] rfl (hc5 v1 v2 v3 (v4 + 1))

def fX4_nextsOf_s5 (N : Nat) (c5 : Int32 → Int32 → Int32 → Int32 → Option Int32) (v1 : Int32) (v2 : Int32) (v3 : Int32) (v4 : Int32) (σ : qMem) : Option Int32 :=
  (if (gi σ 19 3) ≤ v4 then (some v3) else ((fX8_at 19 72 v4 1 σ).bind fun y1 => ((fX8_at 19 72 v1 1 σ).bind fun y2 => ((fX8_at 19 72 v4 0 σ).bind fun y3 => (if y3 = v2 then (if (y1 - y2) < 1 then (fX4_nextsOf_b139 N c5 v1 v2 v3 v4 σ) else (if ck 4 6 = true then (if (gi σ 18 (4 : Int32).toNatClampNeg) < (y1 - y2) then (fX4_nextsOf_b139 N c5 v1 v2 v3 v4 σ) else ((fX8_at 19 72 v1 2 σ).bind fun y4 => ((fX8_at 19 72 v4 2 σ).bind fun y5 => ((fX11_between y4 y5).bind fun y6 => (if ck 5 6 = true then (if ((gi σ 18 (5 : Int32).toNatClampNeg) * (y1 - y2)) < y6 then (fX4_nextsOf_b139 N c5 v1 v2 v3 v4 σ) else (nmI (v3 ||| ((1 : Int32) <<< (v4 &&& 31))) fun x7 => (fX4_nextsOf_b139 N c5 v1 v2 x7 v4 σ))) else none))))) else none)) else (fX4_nextsOf_b139 N c5 v1 v2 v3 v4 σ))))))
set_option maxRecDepth 20000 in
set_option maxHeartbeats 4000000 in
theorem aX4_nextsOf_s5 (N : Nat) (σ : qMem) (c5 : Int32 → Int32 → Int32 → Int32 → Option Int32) (hc5 : ∀ (v1 : Int32) (v2 : Int32) (v3 : Int32) (v4 : Int32) , qAt wC mX4_nextsOf (ρp σ) 5 [(0, .ref 73), (1, .int v1), (2, .int v2), (3, .int v3), (4, .int v4)] [] σ (c5 v1 v2 v3 v4)) (v1 : Int32) (v2 : Int32) (v3 : Int32) (v4 : Int32) : qAt wC mX4_nextsOf (ρp σ) 5 [(0, .ref 73), (1, .int v1), (2, .int v2), (3, .int v3), (4, .int v4)] [] σ (fX4_nextsOf_s5 N c5 v1 v2 v3 v4 σ) := by
  unfold fX4_nextsOf_s5
  refine q_iload (i := 4) (x := v4) dX4_nextsOf_5 4 rfl ?_
  refine q_aload_n (i := 0) (x := 73) dX4_nextsOf_7 rfl 0 rfl ?_
  refine q_getr (t := 1) dX4_nextsOf_8 foX4_31 zC_73 rfl ?_
  refine q_getr (t := 19) dX4_nextsOf_11 foX4_35 zC_1 rfl ?_
  refine q_geti dX4_nextsOf_14 foX4_41 zC_19 rfl ?_
  refine q_icmp_ge (tgt := 145) dX4_nextsOf_17 (by decide) ?_ ?_
  · refine q_iload_n (i := 3) (x := v3) dX4_nextsOf_145 rfl 3 rfl ?_
    exact q_ireti (y := v3) dX4_nextsOf_146 rfl rfl
  refine q_aload_n (i := 0) (x := 73) dX4_nextsOf_20 rfl 0 rfl ?_
  refine q_getr (t := 1) dX4_nextsOf_21 foX4_31 zC_73 rfl ?_
  refine q_getr (t := 19) dX4_nextsOf_24 foX4_35 zC_1 rfl ?_
  refine q_iload (i := 4) (x := v4) dX4_nextsOf_27 4 rfl ?_
  refine q_iconst (v := 1) dX4_nextsOf_29 (by decide) ?_
  refine q_cVp mX8_at [.int v4, .int 1] (st := []) dX4_nextsOf_30 (svX4_46) ⟨Nat.le_of_ble_eq_true rfl, Nat.le_of_ble_eq_true rfl⟩ zC_19 rfl rfl rfl (Nat.le_of_ble_eq_true rfl) (kX8_at 19 72 v4 1 pC_19 σ) (fun y1 => ?_)
  refine q_aload_n (i := 0) (x := 73) dX4_nextsOf_33 rfl 0 rfl ?_
  refine q_getr (t := 1) dX4_nextsOf_34 foX4_31 zC_73 rfl ?_
  refine q_getr (t := 19) dX4_nextsOf_37 foX4_35 zC_1 rfl ?_
  refine q_iload_n (i := 1) (x := v1) dX4_nextsOf_40 rfl 1 rfl ?_
  refine q_iconst (v := 1) dX4_nextsOf_41 (by decide) ?_
  refine q_cVp mX8_at [.int v1, .int 1] (st := [.int y1]) dX4_nextsOf_42 (svX4_46) ⟨Nat.le_of_ble_eq_true rfl, Nat.le_of_ble_eq_true rfl⟩ zC_19 rfl rfl rfl (Nat.le_of_ble_eq_true rfl) (kX8_at 19 72 v1 1 pC_19 σ) (fun y2 => ?_)
  refine q_isub dX4_nextsOf_45 ?_
  refine q_istore (i := 5) (L' := [(5, .int (y1 - y2)), (0, .ref 73), (1, .int v1), (2, .int v2), (3, .int v3), (4, .int v4)]) dX4_nextsOf_46 (Nat.le_of_ble_eq_true rfl) rfl ?_
  refine q_aload_n (i := 0) (x := 73) dX4_nextsOf_48 rfl 1 rfl ?_
  refine q_getr (t := 1) dX4_nextsOf_49 foX4_31 zC_73 rfl ?_
  refine q_getr (t := 19) dX4_nextsOf_52 foX4_35 zC_1 rfl ?_
  refine q_iload (i := 4) (x := v4) dX4_nextsOf_55 5 rfl ?_
  refine q_iconst (v := 0) dX4_nextsOf_57 (by decide) ?_
  refine q_cVp mX8_at [.int v4, .int 0] (st := []) dX4_nextsOf_58 (svX4_46) ⟨Nat.le_of_ble_eq_true rfl, Nat.le_of_ble_eq_true rfl⟩ zC_19 rfl rfl rfl (Nat.le_of_ble_eq_true rfl) (kX8_at 19 72 v4 0 pC_19 σ) (fun y3 => ?_)
  refine q_iload_n (i := 2) (x := v2) dX4_nextsOf_61 rfl 3 rfl ?_
  refine q_icmp_ne (tgt := 139) dX4_nextsOf_62 (by decide) ?_ ?_
  · exact q_sub [1, 2, 3, 4, 5] rfl (aX4_nextsOf_b139 N σ c5 hc5 v1 v2 v3 v4)
  refine q_iload (i := 5) (x := (y1 - y2)) dX4_nextsOf_65 0 rfl ?_
  refine q_iconst (v := 1) dX4_nextsOf_67 (by decide) ?_
  refine q_icmp_lt (tgt := 139) dX4_nextsOf_68 (by decide) ?_ ?_
  · exact q_sub [1, 2, 3, 4, 5] rfl (aX4_nextsOf_b139 N σ c5 hc5 v1 v2 v3 v4)
  refine q_iload (i := 5) (x := (y1 - y2)) dX4_nextsOf_71 0 rfl ?_
  refine q_aload_n (i := 0) (x := 73) dX4_nextsOf_73 rfl 1 rfl ?_
  refine q_getr (t := 1) dX4_nextsOf_74 foX4_31 zC_73 rfl ?_
  refine q_getr (t := 18) dX4_nextsOf_77 foX4_57 zC_1 rfl ?_
  refine q_iconst (v := 4) dX4_nextsOf_80 (by decide) ?_
  refine q_iald dX4_nextsOf_81 zC_18 ?_
  refine q_icmp_gt (tgt := 139) dX4_nextsOf_82 (by decide) ?_ ?_
  · exact q_sub [1, 2, 3, 4, 5] rfl (aX4_nextsOf_b139 N σ c5 hc5 v1 v2 v3 v4)
  refine q_aload_n (i := 0) (x := 73) dX4_nextsOf_85 rfl 1 rfl ?_
  refine q_getr (t := 1) dX4_nextsOf_86 foX4_31 zC_73 rfl ?_
  refine q_getr (t := 19) dX4_nextsOf_89 foX4_35 zC_1 rfl ?_
  refine q_iload_n (i := 1) (x := v1) dX4_nextsOf_92 rfl 2 rfl ?_
  refine q_iconst (v := 2) dX4_nextsOf_93 (by decide) ?_
  refine q_cVp mX8_at [.int v1, .int 2] (st := []) dX4_nextsOf_94 (svX4_46) ⟨Nat.le_of_ble_eq_true rfl, Nat.le_of_ble_eq_true rfl⟩ zC_19 rfl rfl rfl (Nat.le_of_ble_eq_true rfl) (kX8_at 19 72 v1 2 pC_19 σ) (fun y4 => ?_)
  refine q_aload_n (i := 0) (x := 73) dX4_nextsOf_97 rfl 1 rfl ?_
  refine q_getr (t := 1) dX4_nextsOf_98 foX4_31 zC_73 rfl ?_
  refine q_getr (t := 19) dX4_nextsOf_101 foX4_35 zC_1 rfl ?_
  refine q_iload (i := 4) (x := v4) dX4_nextsOf_104 5 rfl ?_
  refine q_iconst (v := 2) dX4_nextsOf_106 (by decide) ?_
  refine q_cVp mX8_at [.int v4, .int 2] (st := [.int y4]) dX4_nextsOf_107 (svX4_46) ⟨Nat.le_of_ble_eq_true rfl, Nat.le_of_ble_eq_true rfl⟩ zC_19 rfl rfl rfl (Nat.le_of_ble_eq_true rfl) (kX8_at 19 72 v4 2 pC_19 σ) (fun y5 => ?_)
  refine q_cSp mX11_between [.int y4, .int y5] (st := []) dX4_nextsOf_110 (ssX4_60) ⟨Nat.le_of_ble_eq_true rfl, Nat.le_of_ble_eq_true rfl⟩ rfl rfl (Nat.le_of_ble_eq_true rfl) (kX11_between y4 y5 σ) (fun y6 => ?_)
  refine q_istore (i := 6) (L' := [(6, .int y6), (5, .int (y1 - y2)), (0, .ref 73), (1, .int v1), (2, .int v2), (3, .int v3), (4, .int v4)]) dX4_nextsOf_113 (Nat.le_of_ble_eq_true rfl) rfl ?_
  refine q_iload (i := 6) (x := y6) dX4_nextsOf_115 0 rfl ?_
  refine q_aload_n (i := 0) (x := 73) dX4_nextsOf_117 rfl 2 rfl ?_
  refine q_getr (t := 1) dX4_nextsOf_118 foX4_31 zC_73 rfl ?_
  refine q_getr (t := 18) dX4_nextsOf_121 foX4_57 zC_1 rfl ?_
  refine q_iconst (v := 5) dX4_nextsOf_124 (by decide) ?_
  refine q_iald dX4_nextsOf_125 zC_18 ?_
  refine q_iload (i := 5) (x := (y1 - y2)) dX4_nextsOf_126 1 rfl ?_
  refine q_imul dX4_nextsOf_128 ?_
  refine q_icmp_gt (tgt := 139) dX4_nextsOf_129 (by decide) ?_ ?_
  · exact q_sub [2, 3, 4, 5, 6] rfl (aX4_nextsOf_b139 N σ c5 hc5 v1 v2 v3 v4)
  refine q_iload_n (i := 3) (x := v3) dX4_nextsOf_132 rfl 5 rfl ?_
  refine q_iconst (v := 1) dX4_nextsOf_133 (by decide) ?_
  refine q_iload (i := 4) (x := v4) dX4_nextsOf_134 6 rfl ?_
  refine q_ishl dX4_nextsOf_136 ?_
  refine q_ior dX4_nextsOf_137 ?_
  refine q_nmI (fun x7 => ?_)
  refine q_istore_n (i := 3) (L' := [(3, .int x7), (6, .int y6), (5, .int (y1 - y2)), (0, .ref 73), (1, .int v1), (2, .int v2), (4, .int v4)]) dX4_nextsOf_138 rfl (Nat.le_of_ble_eq_true rfl) rfl ?_
  exact q_sub [3, 4, 5, 0, 6] rfl (aX4_nextsOf_b139 N σ c5 hc5 v1 v2 x7 v4)
def fX4_nextsOf_l5 (N : Nat) (σ : qMem) : Nat → Int32 → Int32 → Int32 → Int32 → Option Int32
  | 0 => fun _ _ _ _ => none
  | n + 1 => fun v1 v2 v3 v4 => fX4_nextsOf_s5 N (fX4_nextsOf_l5 N σ n) v1 v2 v3 v4 σ
theorem aX4_nextsOf_l5 (N : Nat) (σ : qMem) : ∀ (n : Nat) (v1 : Int32) (v2 : Int32) (v3 : Int32) (v4 : Int32), qAt wC mX4_nextsOf (ρp σ) 5 [(0, .ref 73), (1, .int v1), (2, .int v2), (3, .int v3), (4, .int v4)] [] σ (fX4_nextsOf_l5 N σ n v1 v2 v3 v4) := by
  intro n
  induction n with
  | zero => intro v1 v2 v3 v4; exact q_none
  | succ n ih => intro v1 v2 v3 v4; exact aX4_nextsOf_s5 N σ (fX4_nextsOf_l5 N σ n) ih v1 v2 v3 v4

def fX4_nextsOf (N : Nat) (p1 : Int32) (p2 : Int32) (σ : qMem) : Option Int32 :=
  (fX4_nextsOf_l5 N σ N p1 p2 0 0)
set_option maxRecDepth 20000 in
set_option maxHeartbeats 4000000 in
theorem aX4_nextsOf  (N : Nat) (p1 : Int32) (p2 : Int32)  (σ : qMem) : qAt wC mX4_nextsOf (ρp σ) 0 [(0, .ref 73), (1, .int p1), (2, .int p2)] [] σ (fX4_nextsOf N p1 p2 σ) := by
  unfold fX4_nextsOf
  refine q_iconst (v := 0) dX4_nextsOf_0 (by decide) ?_
  refine q_istore_n (i := 3) (L' := [(3, .int 0), (0, .ref 73), (1, .int p1), (2, .int p2)]) dX4_nextsOf_1 rfl (Nat.le_of_ble_eq_true rfl) rfl ?_
  refine q_iconst (v := 0) dX4_nextsOf_2 (by decide) ?_
  refine q_istore (i := 4) (L' := [(4, .int 0), (3, .int 0), (0, .ref 73), (1, .int p1), (2, .int p2)]) dX4_nextsOf_3 (Nat.le_of_ble_eq_true rfl) rfl ?_
  exact q_sub [2, 3, 4, 1, 0] rfl (aX4_nextsOf_l5 N σ N p1 p2 0 0)
theorem kX4_nextsOf  (N : Nat) (p1 : Int32) (p2 : Int32)  (σ : qMem) : qMc wC mX4_nextsOf (ρp σ) [.ref 73, .int p1, .int p2] σ (fX4_nextsOf N p1 p2 σ) := qMc_of (moX4_nextsOf) (Nat.le_of_ble_eq_true rfl) (aX4_nextsOf N p1 p2  σ)

theorem dX4_draw_0 : decode cX4_draw 0 = .ok (.aload_n 0, 1) := by decide +kernel
theorem dX4_draw_1 : decode cX4_draw 1 = .ok (.iconst 0, 1) := by decide +kernel
theorem dX4_draw_2 : decode cX4_draw 2 = .ok (.putfield 25, 3) := by decide +kernel
theorem dX4_draw_5 : decode cX4_draw 5 = .ok (.iconst 0, 1) := by decide +kernel
theorem dX4_draw_6 : decode cX4_draw 6 = .ok (.istore_n 2, 1) := by decide +kernel
theorem dX4_draw_7 : decode cX4_draw 7 = .ok (.iload_n 2, 1) := by decide +kernel
theorem dX4_draw_8 : decode cX4_draw 8 = .ok (.bipush 24, 2) := by decide +kernel
theorem dX4_draw_10 : decode cX4_draw 10 = .ok (.if_icmp .ge 68, 3) := by decide +kernel
theorem dX4_draw_13 : decode cX4_draw 13 = .ok (.aload_n 0, 1) := by decide +kernel
theorem dX4_draw_14 : decode cX4_draw 14 = .ok (.getfield 9, 3) := by decide +kernel
theorem dX4_draw_17 : decode cX4_draw 17 = .ok (.iload_n 2, 1) := by decide +kernel
theorem dX4_draw_18 : decode cX4_draw 18 = .ok (.iconst 0, 1) := by decide +kernel
theorem dX4_draw_19 : decode cX4_draw 19 = .ok (.iastore, 1) := by decide +kernel
theorem dX4_draw_20 : decode cX4_draw 20 = .ok (.iload_n 2, 1) := by decide +kernel
theorem dX4_draw_21 : decode cX4_draw 21 = .ok (.aload_n 0, 1) := by decide +kernel
theorem dX4_draw_22 : decode cX4_draw 22 = .ok (.getfield 31, 3) := by decide +kernel
theorem dX4_draw_25 : decode cX4_draw 25 = .ok (.getfield 35, 3) := by decide +kernel
theorem dX4_draw_28 : decode cX4_draw 28 = .ok (.getfield 41, 3) := by decide +kernel
theorem dX4_draw_31 : decode cX4_draw 31 = .ok (.if_icmp .ge 41, 3) := by decide +kernel
theorem dX4_draw_34 : decode cX4_draw 34 = .ok (.aload_n 0, 1) := by decide +kernel
theorem dX4_draw_35 : decode cX4_draw 35 = .ok (.getfield 31, 3) := by decide +kernel
theorem dX4_draw_38 : decode cX4_draw 38 = .ok (.getfield 35, 3) := by decide +kernel
theorem dX4_draw_41 : decode cX4_draw 41 = .ok (.iload_n 2, 1) := by decide +kernel
theorem dX4_draw_42 : decode cX4_draw 42 = .ok (.iconst 0, 1) := by decide +kernel
theorem dX4_draw_43 : decode cX4_draw 43 = .ok (.invokevirtual 46, 3) := by decide +kernel
theorem dX4_draw_46 : decode cX4_draw 46 = .ok (.iload_n 1, 1) := by decide +kernel
theorem dX4_draw_47 : decode cX4_draw 47 = .ok (.if_icmp .ne 25, 3) := by decide +kernel
theorem dX4_draw_50 : decode cX4_draw 50 = .ok (.aload_n 0, 1) := by decide +kernel
theorem dX4_draw_51 : decode cX4_draw 51 = .ok (.dup, 1) := by decide +kernel
theorem dX4_draw_52 : decode cX4_draw 52 = .ok (.getfield 25, 3) := by decide +kernel
theorem dX4_draw_55 : decode cX4_draw 55 = .ok (.iconst 1, 1) := by decide +kernel
theorem dX4_draw_56 : decode cX4_draw 56 = .ok (.iadd, 1) := by decide +kernel
theorem dX4_draw_57 : decode cX4_draw 57 = .ok (.putfield 25, 3) := by decide +kernel
theorem dX4_draw_60 : decode cX4_draw 60 = .ok (.aload_n 0, 1) := by decide +kernel
theorem dX4_draw_61 : decode cX4_draw 61 = .ok (.getfield 9, 3) := by decide +kernel
theorem dX4_draw_64 : decode cX4_draw 64 = .ok (.iload_n 2, 1) := by decide +kernel
theorem dX4_draw_65 : decode cX4_draw 65 = .ok (.aload_n 0, 1) := by decide +kernel
theorem dX4_draw_66 : decode cX4_draw 66 = .ok (.iload_n 2, 1) := by decide +kernel
theorem dX4_draw_67 : decode cX4_draw 67 = .ok (.iload_n 1, 1) := by decide +kernel
theorem dX4_draw_68 : decode cX4_draw 68 = .ok (.invokevirtual 50, 3) := by decide +kernel
theorem dX4_draw_71 : decode cX4_draw 71 = .ok (.iastore, 1) := by decide +kernel
theorem dX4_draw_72 : decode cX4_draw 72 = .ok (.iinc 2 1, 3) := by decide +kernel
theorem dX4_draw_75 : decode cX4_draw 75 = .ok (.goto (-68), 3) := by decide +kernel
theorem dX4_draw_78 : decode cX4_draw 78 = .ok (.aload_n 0, 1) := by decide +kernel
theorem dX4_draw_79 : decode cX4_draw 79 = .ok (.aload_n 0, 1) := by decide +kernel
theorem dX4_draw_80 : decode cX4_draw 80 = .ok (.aload_n 0, 1) := by decide +kernel
theorem dX4_draw_81 : decode cX4_draw 81 = .ok (.getfield 9, 3) := by decide +kernel
theorem dX4_draw_84 : decode cX4_draw 84 = .ok (.invokevirtual 53, 3) := by decide +kernel
theorem dX4_draw_87 : decode cX4_draw 87 = .ok (.putfield 28, 3) := by decide +kernel
theorem dX4_draw_90 : decode cX4_draw 90 = .ok (.return_, 1) := by decide +kernel
def fX4_draw_b72 (N : Nat) (c7 : Int32 → Int32 → qMem → Option qMem) (v1 : Int32) (v2 : Int32) (σ : qMem) : Option qMem :=
  (c7 v1 (v2 + 1) σ)
set_option maxRecDepth 20000 in
set_option maxHeartbeats 4000000 in
theorem aX4_draw_b72 (N : Nat) (c7 : Int32 → Int32 → qMem → Option qMem) (hc7 : ∀ (v1 : Int32) (v2 : Int32) (σ : qMem), qAt wC mX4_draw (ρv) 7 [(0, .ref 73), (1, .int v1), (2, .int v2)] [] σ (c7 v1 v2 σ)) (v1 : Int32) (v2 : Int32) (σ : qMem) : qAt wC mX4_draw (ρv) 72 [(0, .ref 73), (1, .int v1), (2, .int v2)] [] σ (fX4_draw_b72 N c7 v1 v2 σ) := by
  unfold fX4_draw_b72
  refine q_iinc (i := 2) (x := v2) (v := (v2 + 1)) (L' := [(2, .int (v2 + 1)), (0, .ref 73), (1, .int v1)]) dX4_draw_72 2 rfl (q_cst v2 (by decide)) (Nat.le_of_ble_eq_true rfl) rfl ?_
  refine q_goto (tgt := 7) dX4_draw_75 (by decide) ?_
  exact q_sub [1, 2, 0] rfl (hc7 v1 (v2 + 1) σ)

def fX4_draw_s7 (N : Nat) (c7 : Int32 → Int32 → qMem → Option qMem) (v1 : Int32) (v2 : Int32) (σ : qMem) : Option qMem :=
  (if 24 ≤ v2 then ((fX4_join N 74 σ).bind fun y2 => (nmM (si y2.2 73 6 y2.1) fun s3 => (some s3))) else (if ck v2 24 = true then (nmM (si σ 74 v2.toNatClampNeg 0) fun s4 => (if (gi s4 19 3) ≤ v2 then (fX4_draw_b72 N c7 v1 v2 s4) else ((fX8_at 19 72 v2 0 s4).bind fun y5 => (if y5 = v1 then (nmM (si s4 73 5 ((gi s4 73 5) + 1)) fun s6 => ((fX4_nextsOf N v2 v1 s6).bind fun y7 => (if ck v2 24 = true then (nmM (si s6 74 v2.toNatClampNeg y7) fun s8 => (fX4_draw_b72 N c7 v1 v2 s8)) else none))) else (fX4_draw_b72 N c7 v1 v2 s4))))) else none))
set_option maxRecDepth 20000 in
set_option maxHeartbeats 4000000 in
theorem aX4_draw_s7 (N : Nat) (c7 : Int32 → Int32 → qMem → Option qMem) (hc7 : ∀ (v1 : Int32) (v2 : Int32) (σ : qMem), qAt wC mX4_draw (ρv) 7 [(0, .ref 73), (1, .int v1), (2, .int v2)] [] σ (c7 v1 v2 σ)) (v1 : Int32) (v2 : Int32) (σ : qMem) : qAt wC mX4_draw (ρv) 7 [(0, .ref 73), (1, .int v1), (2, .int v2)] [] σ (fX4_draw_s7 N c7 v1 v2 σ) := by
  unfold fX4_draw_s7
  refine q_iload_n (i := 2) (x := v2) dX4_draw_7 rfl 2 rfl ?_
  refine q_bipush (v := 24) dX4_draw_8 (by decide) ?_
  refine q_icmp_ge (tgt := 78) dX4_draw_10 (by decide) ?_ ?_
  · refine q_aload_n (i := 0) (x := 73) dX4_draw_78 rfl 0 rfl ?_
    refine q_aload_n (i := 0) (x := 73) dX4_draw_79 rfl 0 rfl ?_
    refine q_aload_n (i := 0) (x := 73) dX4_draw_80 rfl 0 rfl ?_
    refine q_getr (t := 74) dX4_draw_81 foX4_9 zC_73 rfl ?_
    refine q_cVi mX4_join [.ref 74] (st := [.ref 73]) dX4_draw_84 (svX4_53) ⟨Nat.le_of_ble_eq_true rfl, Nat.le_of_ble_eq_true rfl⟩ zC_73 rfl rfl rfl (Nat.le_of_ble_eq_true rfl) (kX4_join N 74 zC_74 σ) (fun y2 => ?_)
    refine q_puti dX4_draw_87 foX4_28 fwX4_6 zC_73 rfl ?_
    refine q_nmM (fun s3 => ?_)
    exact q_vret (y := s3) dX4_draw_90 rfl rfl
  refine q_aload_n (i := 0) (x := 73) dX4_draw_13 rfl 0 rfl ?_
  refine q_getr (t := 74) dX4_draw_14 foX4_9 zC_73 rfl ?_
  refine q_iload_n (i := 2) (x := v2) dX4_draw_17 rfl 2 rfl ?_
  refine q_iconst (v := 0) dX4_draw_18 (by decide) ?_
  refine q_iast dX4_draw_19 zC_74 ?_
  refine q_nmM (fun s4 => ?_)
  refine q_iload_n (i := 2) (x := v2) dX4_draw_20 rfl 2 rfl ?_
  refine q_aload_n (i := 0) (x := 73) dX4_draw_21 rfl 0 rfl ?_
  refine q_getr (t := 1) dX4_draw_22 foX4_31 zC_73 rfl ?_
  refine q_getr (t := 19) dX4_draw_25 foX4_35 zC_1 rfl ?_
  refine q_geti dX4_draw_28 foX4_41 zC_19 rfl ?_
  refine q_icmp_ge (tgt := 72) dX4_draw_31 (by decide) ?_ ?_
  · exact q_sub [0, 1, 2] rfl (aX4_draw_b72 N c7 hc7 v1 v2 s4)
  refine q_aload_n (i := 0) (x := 73) dX4_draw_34 rfl 0 rfl ?_
  refine q_getr (t := 1) dX4_draw_35 foX4_31 zC_73 rfl ?_
  refine q_getr (t := 19) dX4_draw_38 foX4_35 zC_1 rfl ?_
  refine q_iload_n (i := 2) (x := v2) dX4_draw_41 rfl 2 rfl ?_
  refine q_iconst (v := 0) dX4_draw_42 (by decide) ?_
  refine q_cVp mX8_at [.int v2, .int 0] (st := []) dX4_draw_43 (svX4_46) ⟨Nat.le_of_ble_eq_true rfl, Nat.le_of_ble_eq_true rfl⟩ zC_19 rfl rfl rfl (Nat.le_of_ble_eq_true rfl) (kX8_at 19 72 v2 0 pC_19 s4) (fun y5 => ?_)
  refine q_iload_n (i := 1) (x := v1) dX4_draw_46 rfl 1 rfl ?_
  refine q_icmp_ne (tgt := 72) dX4_draw_47 (by decide) ?_ ?_
  · exact q_sub [0, 1, 2] rfl (aX4_draw_b72 N c7 hc7 v1 v2 s4)
  refine q_aload_n (i := 0) (x := 73) dX4_draw_50 rfl 0 rfl ?_
  refine q_dup dX4_draw_51 rfl ?_
  refine q_geti dX4_draw_52 foX4_25 zC_73 rfl ?_
  refine q_iconst (v := 1) dX4_draw_55 (by decide) ?_
  refine q_iadd dX4_draw_56 ?_
  refine q_puti dX4_draw_57 foX4_25 fwX4_5 zC_73 rfl ?_
  refine q_nmM (fun s6 => ?_)
  refine q_aload_n (i := 0) (x := 73) dX4_draw_60 rfl 0 rfl ?_
  refine q_getr (t := 74) dX4_draw_61 foX4_9 zC_73 rfl ?_
  refine q_iload_n (i := 2) (x := v2) dX4_draw_64 rfl 2 rfl ?_
  refine q_aload_n (i := 0) (x := 73) dX4_draw_65 rfl 0 rfl ?_
  refine q_iload_n (i := 2) (x := v2) dX4_draw_66 rfl 2 rfl ?_
  refine q_iload_n (i := 1) (x := v1) dX4_draw_67 rfl 1 rfl ?_
  refine q_cVp mX4_nextsOf [.int v2, .int v1] (st := [.int v2, .ref 74]) dX4_draw_68 (svX4_50) ⟨Nat.le_of_ble_eq_true rfl, Nat.le_of_ble_eq_true rfl⟩ zC_73 rfl rfl rfl (Nat.le_of_ble_eq_true rfl) (kX4_nextsOf N v2 v1 s6) (fun y7 => ?_)
  refine q_iast dX4_draw_71 zC_74 ?_
  refine q_nmM (fun s8 => ?_)
  exact q_sub [0, 1, 2] rfl (aX4_draw_b72 N c7 hc7 v1 v2 s8)
def fX4_draw_l7 (N : Nat) : Nat → Int32 → Int32 → qMem → Option qMem
  | 0 => fun _ _ _ => none
  | n + 1 => fun v1 v2 σ => fX4_draw_s7 N (fX4_draw_l7 N n) v1 v2 σ
theorem aX4_draw_l7 (N : Nat) : ∀ (n : Nat) (v1 : Int32) (v2 : Int32) (σ : qMem), qAt wC mX4_draw (ρv) 7 [(0, .ref 73), (1, .int v1), (2, .int v2)] [] σ (fX4_draw_l7 N n v1 v2 σ) := by
  intro n
  induction n with
  | zero => intro v1 v2 σ; exact q_none
  | succ n ih => intro v1 v2 σ; exact aX4_draw_s7 N (fX4_draw_l7 N n) ih v1 v2 σ

def fX4_draw (N : Nat) (p1 : Int32) (σ : qMem) : Option qMem :=
  (nmM (si σ 73 5 0) fun s1 => (fX4_draw_l7 N N p1 0 s1))
set_option maxRecDepth 20000 in
set_option maxHeartbeats 4000000 in
theorem aX4_draw  (N : Nat) (p1 : Int32)  (σ : qMem) : qAt wC mX4_draw (ρv) 0 [(0, .ref 73), (1, .int p1)] [] σ (fX4_draw N p1 σ) := by
  unfold fX4_draw
  refine q_aload_n (i := 0) (x := 73) dX4_draw_0 rfl 0 rfl ?_
  refine q_iconst (v := 0) dX4_draw_1 (by decide) ?_
  refine q_puti dX4_draw_2 foX4_25 fwX4_5 zC_73 rfl ?_
  refine q_nmM (fun s1 => ?_)
  refine q_iconst (v := 0) dX4_draw_5 (by decide) ?_
  refine q_istore_n (i := 2) (L' := [(2, .int 0), (0, .ref 73), (1, .int p1)]) dX4_draw_6 rfl (Nat.le_of_ble_eq_true rfl) rfl ?_
  exact q_sub [1, 2, 0] rfl (aX4_draw_l7 N N p1 0 s1)
theorem kX4_draw  (N : Nat) (p1 : Int32)  (σ : qMem) : qMc wC mX4_draw (ρv) [.ref 73, .int p1] σ (fX4_draw N p1 σ) := qMc_of (moX4_draw) (Nat.le_of_ble_eq_true rfl) (aX4_draw N p1  σ)

theorem dX4_canBe_0 : decode cX4_canBe 0 = .ok (.iconst 0, 1) := by decide +kernel
theorem dX4_canBe_1 : decode cX4_canBe 1 = .ok (.istore_n 3, 1) := by decide +kernel
theorem dX4_canBe_2 : decode cX4_canBe 2 = .ok (.iload_n 3, 1) := by decide +kernel
theorem dX4_canBe_3 : decode cX4_canBe 3 = .ok (.bipush 24, 2) := by decide +kernel
theorem dX4_canBe_5 : decode cX4_canBe 5 = .ok (.if_icmp .ge 27, 3) := by decide +kernel
theorem dX4_canBe_8 : decode cX4_canBe 8 = .ok (.aload_n 0, 1) := by decide +kernel
theorem dX4_canBe_9 : decode cX4_canBe 9 = .ok (.getfield 15, 3) := by decide +kernel
theorem dX4_canBe_12 : decode cX4_canBe 12 = .ok (.iload_n 3, 1) := by decide +kernel
theorem dX4_canBe_13 : decode cX4_canBe 13 = .ok (.aload_n 0, 1) := by decide +kernel
theorem dX4_canBe_14 : decode cX4_canBe 14 = .ok (.getfield 9, 3) := by decide +kernel
theorem dX4_canBe_17 : decode cX4_canBe 17 = .ok (.iload_n 3, 1) := by decide +kernel
theorem dX4_canBe_18 : decode cX4_canBe 18 = .ok (.iaload, 1) := by decide +kernel
theorem dX4_canBe_19 : decode cX4_canBe 19 = .ok (.iconst 1, 1) := by decide +kernel
theorem dX4_canBe_20 : decode cX4_canBe 20 = .ok (.iload_n 2, 1) := by decide +kernel
theorem dX4_canBe_21 : decode cX4_canBe 21 = .ok (.ishl, 1) := by decide +kernel
theorem dX4_canBe_22 : decode cX4_canBe 22 = .ok (.iconst (-1), 1) := by decide +kernel
theorem dX4_canBe_23 : decode cX4_canBe 23 = .ok (.ixor, 1) := by decide +kernel
theorem dX4_canBe_24 : decode cX4_canBe 24 = .ok (.iand, 1) := by decide +kernel
theorem dX4_canBe_25 : decode cX4_canBe 25 = .ok (.iastore, 1) := by decide +kernel
theorem dX4_canBe_26 : decode cX4_canBe 26 = .ok (.iinc 3 1, 3) := by decide +kernel
theorem dX4_canBe_29 : decode cX4_canBe 29 = .ok (.goto (-27), 3) := by decide +kernel
theorem dX4_canBe_32 : decode cX4_canBe 32 = .ok (.aload_n 0, 1) := by decide +kernel
theorem dX4_canBe_33 : decode cX4_canBe 33 = .ok (.getfield 15, 3) := by decide +kernel
theorem dX4_canBe_36 : decode cX4_canBe 36 = .ok (.iload_n 1, 1) := by decide +kernel
theorem dX4_canBe_37 : decode cX4_canBe 37 = .ok (.iconst 1, 1) := by decide +kernel
theorem dX4_canBe_38 : decode cX4_canBe 38 = .ok (.iload_n 2, 1) := by decide +kernel
theorem dX4_canBe_39 : decode cX4_canBe 39 = .ok (.ishl, 1) := by decide +kernel
theorem dX4_canBe_40 : decode cX4_canBe 40 = .ok (.iastore, 1) := by decide +kernel
theorem dX4_canBe_41 : decode cX4_canBe 41 = .ok (.aload_n 0, 1) := by decide +kernel
theorem dX4_canBe_42 : decode cX4_canBe 42 = .ok (.aload_n 0, 1) := by decide +kernel
theorem dX4_canBe_43 : decode cX4_canBe 43 = .ok (.getfield 15, 3) := by decide +kernel
theorem dX4_canBe_46 : decode cX4_canBe 46 = .ok (.invokevirtual 53, 3) := by decide +kernel
theorem dX4_canBe_49 : decode cX4_canBe 49 = .ok (.aload_n 0, 1) := by decide +kernel
theorem dX4_canBe_50 : decode cX4_canBe 50 = .ok (.getfield 28, 3) := by decide +kernel
theorem dX4_canBe_53 : decode cX4_canBe 53 = .ok (.if_icmp .ne 7, 3) := by decide +kernel
theorem dX4_canBe_56 : decode cX4_canBe 56 = .ok (.iconst 1, 1) := by decide +kernel
theorem dX4_canBe_57 : decode cX4_canBe 57 = .ok (.goto 4, 3) := by decide +kernel
theorem dX4_canBe_60 : decode cX4_canBe 60 = .ok (.iconst 0, 1) := by decide +kernel
theorem dX4_canBe_61 : decode cX4_canBe 61 = .ok (.ireturn, 1) := by decide +kernel
def fX4_canBe_s2 (N : Nat) (c2 : Int32 → Int32 → Int32 → qMem → Option (Int32 × qMem)) (v1 : Int32) (v2 : Int32) (v3 : Int32) (σ : qMem) : Option (Int32 × qMem) :=
  (if 24 ≤ v3 then (if ck v1 24 = true then (nmM (si σ 75 v1.toNatClampNeg ((1 : Int32) <<< (v2 &&& 31))) fun s1 => ((fX4_join N 75 s1).bind fun y2 => (if y2.1 = (gi y2.2 73 6) then (some (1, y2.2)) else (some (0, y2.2))))) else none) else (if ck v3 24 = true then (if ck v3 24 = true then (nmM (si σ 75 v3.toNatClampNeg ((gi σ 74 v3.toNatClampNeg) &&& (((1 : Int32) <<< (v2 &&& 31)) ^^^ (-1)))) fun s3 => (c2 v1 v2 (v3 + 1) s3)) else none) else none))
set_option maxRecDepth 20000 in
set_option maxHeartbeats 4000000 in
theorem aX4_canBe_s2 (N : Nat) (c2 : Int32 → Int32 → Int32 → qMem → Option (Int32 × qMem)) (hc2 : ∀ (v1 : Int32) (v2 : Int32) (v3 : Int32) (σ : qMem), qAt wC mX4_canBe (ρi) 2 [(0, .ref 73), (1, .int v1), (2, .int v2), (3, .int v3)] [] σ (c2 v1 v2 v3 σ)) (v1 : Int32) (v2 : Int32) (v3 : Int32) (σ : qMem) : qAt wC mX4_canBe (ρi) 2 [(0, .ref 73), (1, .int v1), (2, .int v2), (3, .int v3)] [] σ (fX4_canBe_s2 N c2 v1 v2 v3 σ) := by
  unfold fX4_canBe_s2
  refine q_iload_n (i := 3) (x := v3) dX4_canBe_2 rfl 3 rfl ?_
  refine q_bipush (v := 24) dX4_canBe_3 (by decide) ?_
  refine q_icmp_ge (tgt := 32) dX4_canBe_5 (by decide) ?_ ?_
  · refine q_aload_n (i := 0) (x := 73) dX4_canBe_32 rfl 0 rfl ?_
    refine q_getr (t := 75) dX4_canBe_33 foX4_15 zC_73 rfl ?_
    refine q_iload_n (i := 1) (x := v1) dX4_canBe_36 rfl 1 rfl ?_
    refine q_iconst (v := 1) dX4_canBe_37 (by decide) ?_
    refine q_iload_n (i := 2) (x := v2) dX4_canBe_38 rfl 2 rfl ?_
    refine q_ishl dX4_canBe_39 ?_
    refine q_iast dX4_canBe_40 zC_75 ?_
    refine q_nmM (fun s1 => ?_)
    refine q_aload_n (i := 0) (x := 73) dX4_canBe_41 rfl 0 rfl ?_
    refine q_aload_n (i := 0) (x := 73) dX4_canBe_42 rfl 0 rfl ?_
    refine q_getr (t := 75) dX4_canBe_43 foX4_15 zC_73 rfl ?_
    refine q_cVi mX4_join [.ref 75] (st := []) dX4_canBe_46 (svX4_53) ⟨Nat.le_of_ble_eq_true rfl, Nat.le_of_ble_eq_true rfl⟩ zC_73 rfl rfl rfl (Nat.le_of_ble_eq_true rfl) (kX4_join N 75 zC_75 s1) (fun y2 => ?_)
    refine q_aload_n (i := 0) (x := 73) dX4_canBe_49 rfl 0 rfl ?_
    refine q_geti dX4_canBe_50 foX4_28 zC_73 rfl ?_
    refine q_icmp_ne (tgt := 60) dX4_canBe_53 (by decide) ?_ ?_
    · refine q_iconst (v := 0) dX4_canBe_60 (by decide) ?_
      exact q_iretz (y := (0, y2.2)) dX4_canBe_61 rfl rfl rfl
    refine q_iconst (v := 1) dX4_canBe_56 (by decide) ?_
    refine q_goto (tgt := 61) dX4_canBe_57 (by decide) ?_
    exact q_iretz (y := (1, y2.2)) dX4_canBe_61 rfl rfl rfl
  refine q_aload_n (i := 0) (x := 73) dX4_canBe_8 rfl 0 rfl ?_
  refine q_getr (t := 75) dX4_canBe_9 foX4_15 zC_73 rfl ?_
  refine q_iload_n (i := 3) (x := v3) dX4_canBe_12 rfl 3 rfl ?_
  refine q_aload_n (i := 0) (x := 73) dX4_canBe_13 rfl 0 rfl ?_
  refine q_getr (t := 74) dX4_canBe_14 foX4_9 zC_73 rfl ?_
  refine q_iload_n (i := 3) (x := v3) dX4_canBe_17 rfl 3 rfl ?_
  refine q_iald dX4_canBe_18 zC_74 ?_
  refine q_iconst (v := 1) dX4_canBe_19 (by decide) ?_
  refine q_iload_n (i := 2) (x := v2) dX4_canBe_20 rfl 2 rfl ?_
  refine q_ishl dX4_canBe_21 ?_
  refine q_iconst (v := (-1)) dX4_canBe_22 (by decide) ?_
  refine q_ixor dX4_canBe_23 ?_
  refine q_iand dX4_canBe_24 ?_
  refine q_iast dX4_canBe_25 zC_75 ?_
  refine q_nmM (fun s3 => ?_)
  refine q_iinc (i := 3) (x := v3) (v := (v3 + 1)) (L' := [(3, .int (v3 + 1)), (0, .ref 73), (1, .int v1), (2, .int v2)]) dX4_canBe_26 3 rfl (q_cst v3 (by decide)) (Nat.le_of_ble_eq_true rfl) rfl ?_
  refine q_goto (tgt := 2) dX4_canBe_29 (by decide) ?_
  exact q_sub [1, 2, 3, 0] rfl (hc2 v1 v2 (v3 + 1) s3)
def fX4_canBe_l2 (N : Nat) : Nat → Int32 → Int32 → Int32 → qMem → Option (Int32 × qMem)
  | 0 => fun _ _ _ _ => none
  | n + 1 => fun v1 v2 v3 σ => fX4_canBe_s2 N (fX4_canBe_l2 N n) v1 v2 v3 σ
theorem aX4_canBe_l2 (N : Nat) : ∀ (n : Nat) (v1 : Int32) (v2 : Int32) (v3 : Int32) (σ : qMem), qAt wC mX4_canBe (ρi) 2 [(0, .ref 73), (1, .int v1), (2, .int v2), (3, .int v3)] [] σ (fX4_canBe_l2 N n v1 v2 v3 σ) := by
  intro n
  induction n with
  | zero => intro v1 v2 v3 σ; exact q_none
  | succ n ih => intro v1 v2 v3 σ; exact aX4_canBe_s2 N (fX4_canBe_l2 N n) ih v1 v2 v3 σ

def fX4_canBe (N : Nat) (p1 : Int32) (p2 : Int32) (σ : qMem) : Option (Int32 × qMem) :=
  (fX4_canBe_l2 N N p1 p2 0 σ)
set_option maxRecDepth 20000 in
set_option maxHeartbeats 4000000 in
theorem aX4_canBe  (N : Nat) (p1 : Int32) (p2 : Int32)  (σ : qMem) : qAt wC mX4_canBe (ρi) 0 [(0, .ref 73), (1, .int p1), (2, .int p2)] [] σ (fX4_canBe N p1 p2 σ) := by
  unfold fX4_canBe
  refine q_iconst (v := 0) dX4_canBe_0 (by decide) ?_
  refine q_istore_n (i := 3) (L' := [(3, .int 0), (0, .ref 73), (1, .int p1), (2, .int p2)]) dX4_canBe_1 rfl (Nat.le_of_ble_eq_true rfl) rfl ?_
  exact q_sub [1, 2, 3, 0] rfl (aX4_canBe_l2 N N p1 p2 0 σ)
theorem kX4_canBe  (N : Nat) (p1 : Int32) (p2 : Int32)  (σ : qMem) : qMc wC mX4_canBe (ρi) [.ref 73, .int p1, .int p2] σ (fX4_canBe N p1 p2 σ) := qMc_of (moX4_canBe) (Nat.le_of_ble_eq_true rfl) (aX4_canBe N p1 p2  σ)

theorem dX4_firstNext_0 : decode cX4_firstNext 0 = .ok (.iconst (-1), 1) := by decide +kernel
theorem dX4_firstNext_1 : decode cX4_firstNext 1 = .ok (.istore_n 2, 1) := by decide +kernel
theorem dX4_firstNext_2 : decode cX4_firstNext 2 = .ok (.iconst 0, 1) := by decide +kernel
theorem dX4_firstNext_3 : decode cX4_firstNext 3 = .ok (.istore_n 3, 1) := by decide +kernel
theorem dX4_firstNext_4 : decode cX4_firstNext 4 = .ok (.iload_n 3, 1) := by decide +kernel
theorem dX4_firstNext_5 : decode cX4_firstNext 5 = .ok (.iload_n 1, 1) := by decide +kernel
theorem dX4_firstNext_6 : decode cX4_firstNext 6 = .ok (.if_icmp .gt 92, 3) := by decide +kernel
theorem dX4_firstNext_9 : decode cX4_firstNext 9 = .ok (.iload_n 3, 1) := by decide +kernel
theorem dX4_firstNext_10 : decode cX4_firstNext 10 = .ok (.bipush 24, 2) := by decide +kernel
theorem dX4_firstNext_12 : decode cX4_firstNext 12 = .ok (.if_icmp .ge 86, 3) := by decide +kernel
theorem dX4_firstNext_15 : decode cX4_firstNext 15 = .ok (.iconst (-1), 1) := by decide +kernel
theorem dX4_firstNext_16 : decode cX4_firstNext 16 = .ok (.istore_n 2, 1) := by decide +kernel
theorem dX4_firstNext_17 : decode cX4_firstNext 17 = .ok (.iconst 0, 1) := by decide +kernel
theorem dX4_firstNext_18 : decode cX4_firstNext 18 = .ok (.istore 4, 2) := by decide +kernel
theorem dX4_firstNext_20 : decode cX4_firstNext 20 = .ok (.iload 4, 2) := by decide +kernel
theorem dX4_firstNext_22 : decode cX4_firstNext 22 = .ok (.bipush 24, 2) := by decide +kernel
theorem dX4_firstNext_24 : decode cX4_firstNext 24 = .ok (.if_icmp .ge 56, 3) := by decide +kernel
theorem dX4_firstNext_27 : decode cX4_firstNext 27 = .ok (.iload_n 2, 1) := by decide +kernel
theorem dX4_firstNext_28 : decode cX4_firstNext 28 = .ok (.iconst (-1), 1) := by decide +kernel
theorem dX4_firstNext_29 : decode cX4_firstNext 29 = .ok (.if_icmp .ne 51, 3) := by decide +kernel
theorem dX4_firstNext_32 : decode cX4_firstNext 32 = .ok (.aload_n 0, 1) := by decide +kernel
theorem dX4_firstNext_33 : decode cX4_firstNext 33 = .ok (.getfield 9, 3) := by decide +kernel
theorem dX4_firstNext_36 : decode cX4_firstNext 36 = .ok (.iload_n 3, 1) := by decide +kernel
theorem dX4_firstNext_37 : decode cX4_firstNext 37 = .ok (.iaload, 1) := by decide +kernel
theorem dX4_firstNext_38 : decode cX4_firstNext 38 = .ok (.iconst 1, 1) := by decide +kernel
theorem dX4_firstNext_39 : decode cX4_firstNext 39 = .ok (.iload 4, 2) := by decide +kernel
theorem dX4_firstNext_41 : decode cX4_firstNext 41 = .ok (.ishl, 1) := by decide +kernel
theorem dX4_firstNext_42 : decode cX4_firstNext 42 = .ok (.iand, 1) := by decide +kernel
theorem dX4_firstNext_43 : decode cX4_firstNext 43 = .ok (.ifCond .eq 31, 3) := by decide +kernel
theorem dX4_firstNext_46 : decode cX4_firstNext 46 = .ok (.aload_n 0, 1) := by decide +kernel
theorem dX4_firstNext_47 : decode cX4_firstNext 47 = .ok (.iload_n 3, 1) := by decide +kernel
theorem dX4_firstNext_48 : decode cX4_firstNext 48 = .ok (.iload 4, 2) := by decide +kernel
theorem dX4_firstNext_50 : decode cX4_firstNext 50 = .ok (.invokevirtual 73, 3) := by decide +kernel
theorem dX4_firstNext_53 : decode cX4_firstNext 53 = .ok (.ifCond .eq 21, 3) := by decide +kernel
theorem dX4_firstNext_56 : decode cX4_firstNext 56 = .ok (.iload 4, 2) := by decide +kernel
theorem dX4_firstNext_58 : decode cX4_firstNext 58 = .ok (.istore_n 2, 1) := by decide +kernel
theorem dX4_firstNext_59 : decode cX4_firstNext 59 = .ok (.aload_n 0, 1) := by decide +kernel
theorem dX4_firstNext_60 : decode cX4_firstNext 60 = .ok (.getfield 15, 3) := by decide +kernel
theorem dX4_firstNext_63 : decode cX4_firstNext 63 = .ok (.iconst 0, 1) := by decide +kernel
theorem dX4_firstNext_64 : decode cX4_firstNext 64 = .ok (.aload_n 0, 1) := by decide +kernel
theorem dX4_firstNext_65 : decode cX4_firstNext 65 = .ok (.getfield 9, 3) := by decide +kernel
theorem dX4_firstNext_68 : decode cX4_firstNext 68 = .ok (.iconst 0, 1) := by decide +kernel
theorem dX4_firstNext_69 : decode cX4_firstNext 69 = .ok (.bipush 24, 2) := by decide +kernel
theorem dX4_firstNext_71 : decode cX4_firstNext 71 = .ok (.invokestatic 77, 3) := by decide +kernel
theorem dX4_firstNext_74 : decode cX4_firstNext 74 = .ok (.iinc 4 1, 3) := by decide +kernel
theorem dX4_firstNext_77 : decode cX4_firstNext 77 = .ok (.goto (-57), 3) := by decide +kernel
theorem dX4_firstNext_80 : decode cX4_firstNext 80 = .ok (.iload_n 2, 1) := by decide +kernel
theorem dX4_firstNext_81 : decode cX4_firstNext 81 = .ok (.iconst (-1), 1) := by decide +kernel
theorem dX4_firstNext_82 : decode cX4_firstNext 82 = .ok (.if_icmp .ne 10, 3) := by decide +kernel
theorem dX4_firstNext_85 : decode cX4_firstNext 85 = .ok (.aload_n 0, 1) := by decide +kernel
theorem dX4_firstNext_86 : decode cX4_firstNext 86 = .ok (.getfield 9, 3) := by decide +kernel
theorem dX4_firstNext_89 : decode cX4_firstNext 89 = .ok (.iload_n 3, 1) := by decide +kernel
theorem dX4_firstNext_90 : decode cX4_firstNext 90 = .ok (.iconst 0, 1) := by decide +kernel
theorem dX4_firstNext_91 : decode cX4_firstNext 91 = .ok (.iastore, 1) := by decide +kernel
theorem dX4_firstNext_92 : decode cX4_firstNext 92 = .ok (.iinc 3 1, 3) := by decide +kernel
theorem dX4_firstNext_95 : decode cX4_firstNext 95 = .ok (.goto (-91), 3) := by decide +kernel
theorem dX4_firstNext_98 : decode cX4_firstNext 98 = .ok (.iload_n 2, 1) := by decide +kernel
theorem dX4_firstNext_99 : decode cX4_firstNext 99 = .ok (.ireturn, 1) := by decide +kernel
def fX4_firstNext_b92 (N : Nat) (c4 : Int32 → Int32 → Int32 → qMem → Option (Int32 × qMem)) (v1 : Int32) (v2 : Int32) (v3 : Int32) (σ : qMem) : Option (Int32 × qMem) :=
  (c4 v1 v2 (v3 + 1) σ)
set_option maxRecDepth 20000 in
set_option maxHeartbeats 4000000 in
theorem aX4_firstNext_b92 (N : Nat) (c4 : Int32 → Int32 → Int32 → qMem → Option (Int32 × qMem)) (hc4 : ∀ (v1 : Int32) (v2 : Int32) (v3 : Int32) (σ : qMem), qAt wC mX4_firstNext (ρi) 4 [(0, .ref 73), (1, .int v1), (2, .int v2), (3, .int v3)] [] σ (c4 v1 v2 v3 σ)) (v1 : Int32) (v2 : Int32) (v3 : Int32) (σ : qMem) : qAt wC mX4_firstNext (ρi) 92 [(0, .ref 73), (1, .int v1), (2, .int v2), (3, .int v3)] [] σ (fX4_firstNext_b92 N c4 v1 v2 v3 σ) := by
  unfold fX4_firstNext_b92
  refine q_iinc (i := 3) (x := v3) (v := (v3 + 1)) (L' := [(3, .int (v3 + 1)), (0, .ref 73), (1, .int v1), (2, .int v2)]) dX4_firstNext_92 3 rfl (q_cst v3 (by decide)) (Nat.le_of_ble_eq_true rfl) rfl ?_
  refine q_goto (tgt := 4) dX4_firstNext_95 (by decide) ?_
  exact q_sub [1, 2, 3, 0] rfl (hc4 v1 v2 (v3 + 1) σ)

def fX4_firstNext_b80 (N : Nat) (c4 : Int32 → Int32 → Int32 → qMem → Option (Int32 × qMem)) (v1 : Int32) (v2 : Int32) (v3 : Int32) (σ : qMem) : Option (Int32 × qMem) :=
  (if v2 = (-1) then (if ck v3 24 = true then (nmM (si σ 74 v3.toNatClampNeg 0) fun s3 => (fX4_firstNext_b92 N c4 v1 v2 v3 s3)) else none) else (fX4_firstNext_b92 N c4 v1 v2 v3 σ))
set_option maxRecDepth 20000 in
set_option maxHeartbeats 4000000 in
theorem aX4_firstNext_b80 (N : Nat) (c4 : Int32 → Int32 → Int32 → qMem → Option (Int32 × qMem)) (hc4 : ∀ (v1 : Int32) (v2 : Int32) (v3 : Int32) (σ : qMem), qAt wC mX4_firstNext (ρi) 4 [(0, .ref 73), (1, .int v1), (2, .int v2), (3, .int v3)] [] σ (c4 v1 v2 v3 σ)) (v1 : Int32) (v2 : Int32) (v3 : Int32) (σ : qMem) : qAt wC mX4_firstNext (ρi) 80 [(0, .ref 73), (1, .int v1), (2, .int v2), (3, .int v3)] [] σ (fX4_firstNext_b80 N c4 v1 v2 v3 σ) := by
  unfold fX4_firstNext_b80
  refine q_iload_n (i := 2) (x := v2) dX4_firstNext_80 rfl 2 rfl ?_
  refine q_iconst (v := (-1)) dX4_firstNext_81 (by decide) ?_
  refine q_icmp_ne (tgt := 92) dX4_firstNext_82 (by decide) ?_ ?_
  · exact q_sub [0, 1, 2, 3] rfl (aX4_firstNext_b92 N c4 hc4 v1 v2 v3 σ)
  refine q_aload_n (i := 0) (x := 73) dX4_firstNext_85 rfl 0 rfl ?_
  refine q_getr (t := 74) dX4_firstNext_86 foX4_9 zC_73 rfl ?_
  refine q_iload_n (i := 3) (x := v3) dX4_firstNext_89 rfl 3 rfl ?_
  refine q_iconst (v := 0) dX4_firstNext_90 (by decide) ?_
  refine q_iast dX4_firstNext_91 zC_74 ?_
  refine q_nmM (fun s3 => ?_)
  exact q_sub [0, 1, 2, 3] rfl (aX4_firstNext_b92 N c4 hc4 v1 v2 v3 s3)

def fX4_firstNext_b74 (N : Nat) (c4 : Int32 → Int32 → Int32 → qMem → Option (Int32 × qMem)) (c20 : Int32 → Int32 → Int32 → Int32 → qMem → Option (Int32 × qMem)) (v1 : Int32) (v2 : Int32) (v3 : Int32) (v4 : Int32) (σ : qMem) : Option (Int32 × qMem) :=
  (c20 v1 v2 v3 (v4 + 1) σ)
set_option maxRecDepth 20000 in
set_option maxHeartbeats 4000000 in
theorem aX4_firstNext_b74 (N : Nat) (c4 : Int32 → Int32 → Int32 → qMem → Option (Int32 × qMem)) (c20 : Int32 → Int32 → Int32 → Int32 → qMem → Option (Int32 × qMem)) (hc4 : ∀ (v1 : Int32) (v2 : Int32) (v3 : Int32) (σ : qMem), qAt wC mX4_firstNext (ρi) 4 [(0, .ref 73), (1, .int v1), (2, .int v2), (3, .int v3)] [] σ (c4 v1 v2 v3 σ)) (hc20 : ∀ (v1 : Int32) (v2 : Int32) (v3 : Int32) (v4 : Int32) (σ : qMem), qAt wC mX4_firstNext (ρi) 20 [(0, .ref 73), (1, .int v1), (2, .int v2), (3, .int v3), (4, .int v4)] [] σ (c20 v1 v2 v3 v4 σ)) (v1 : Int32) (v2 : Int32) (v3 : Int32) (v4 : Int32) (σ : qMem) : qAt wC mX4_firstNext (ρi) 74 [(0, .ref 73), (1, .int v1), (2, .int v2), (3, .int v3), (4, .int v4)] [] σ (fX4_firstNext_b74 N c4 c20 v1 v2 v3 v4 σ) := by
  unfold fX4_firstNext_b74
  refine q_iinc (i := 4) (x := v4) (v := (v4 + 1)) (L' := [(4, .int (v4 + 1)), (0, .ref 73), (1, .int v1), (2, .int v2), (3, .int v3)]) dX4_firstNext_74 4 rfl (q_cst v4 (by decide)) (Nat.le_of_ble_eq_true rfl) rfl ?_
  refine q_goto (tgt := 20) dX4_firstNext_77 (by decide) ?_
  exact q_sub [1, 2, 3, 4, 0] rfl (hc20 v1 v2 v3 (v4 + 1) σ)

def fX4_firstNext_s20 (N : Nat) (c4 : Int32 → Int32 → Int32 → qMem → Option (Int32 × qMem)) (c20 : Int32 → Int32 → Int32 → Int32 → qMem → Option (Int32 × qMem)) (v1 : Int32) (v2 : Int32) (v3 : Int32) (v4 : Int32) (σ : qMem) : Option (Int32 × qMem) :=
  (if 24 ≤ v4 then (fX4_firstNext_b80 N c4 v1 v2 v3 σ) else (if v2 = (-1) then (if ck v3 24 = true then (if ((gi σ 74 v3.toNatClampNeg) &&& ((1 : Int32) <<< (v4 &&& 31))) = 0 then (fX4_firstNext_b74 N c4 c20 v1 v2 v3 v4 σ) else ((fX4_canBe N v3 v4 σ).bind fun y1 => (if y1.1 = 0 then (fX4_firstNext_b74 N c4 c20 v1 v2 v3 v4 y1.2) else (if cpOK 0 0 24 24 24 = true then (nmM (cp y1.2 75 74 0 0 24) fun s2 => (fX4_firstNext_b74 N c4 c20 v1 v4 v3 v4 s2)) else none)))) else none) else (fX4_firstNext_b80 N c4 v1 v2 v3 σ)))
set_option maxRecDepth 20000 in
set_option maxHeartbeats 4000000 in
theorem aX4_firstNext_s20 (N : Nat) (c4 : Int32 → Int32 → Int32 → qMem → Option (Int32 × qMem)) (hc4 : ∀ (v1 : Int32) (v2 : Int32) (v3 : Int32) (σ : qMem), qAt wC mX4_firstNext (ρi) 4 [(0, .ref 73), (1, .int v1), (2, .int v2), (3, .int v3)] [] σ (c4 v1 v2 v3 σ)) (c20 : Int32 → Int32 → Int32 → Int32 → qMem → Option (Int32 × qMem)) (hc20 : ∀ (v1 : Int32) (v2 : Int32) (v3 : Int32) (v4 : Int32) (σ : qMem), qAt wC mX4_firstNext (ρi) 20 [(0, .ref 73), (1, .int v1), (2, .int v2), (3, .int v3), (4, .int v4)] [] σ (c20 v1 v2 v3 v4 σ)) (v1 : Int32) (v2 : Int32) (v3 : Int32) (v4 : Int32) (σ : qMem) : qAt wC mX4_firstNext (ρi) 20 [(0, .ref 73), (1, .int v1), (2, .int v2), (3, .int v3), (4, .int v4)] [] σ (fX4_firstNext_s20 N c4 c20 v1 v2 v3 v4 σ) := by
  unfold fX4_firstNext_s20
  refine q_iload (i := 4) (x := v4) dX4_firstNext_20 4 rfl ?_
  refine q_bipush (v := 24) dX4_firstNext_22 (by decide) ?_
  refine q_icmp_ge (tgt := 80) dX4_firstNext_24 (by decide) ?_ ?_
  · exact q_sub [0, 1, 2, 3] rfl (aX4_firstNext_b80 N c4 hc4 v1 v2 v3 σ)
  refine q_iload_n (i := 2) (x := v2) dX4_firstNext_27 rfl 2 rfl ?_
  refine q_iconst (v := (-1)) dX4_firstNext_28 (by decide) ?_
  refine q_icmp_ne (tgt := 80) dX4_firstNext_29 (by decide) ?_ ?_
  · exact q_sub [0, 1, 2, 3] rfl (aX4_firstNext_b80 N c4 hc4 v1 v2 v3 σ)
  refine q_aload_n (i := 0) (x := 73) dX4_firstNext_32 rfl 0 rfl ?_
  refine q_getr (t := 74) dX4_firstNext_33 foX4_9 zC_73 rfl ?_
  refine q_iload_n (i := 3) (x := v3) dX4_firstNext_36 rfl 3 rfl ?_
  refine q_iald dX4_firstNext_37 zC_74 ?_
  refine q_iconst (v := 1) dX4_firstNext_38 (by decide) ?_
  refine q_iload (i := 4) (x := v4) dX4_firstNext_39 4 rfl ?_
  refine q_ishl dX4_firstNext_41 ?_
  refine q_iand dX4_firstNext_42 ?_
  refine q_if_eq (tgt := 74) dX4_firstNext_43 (by decide) ?_ ?_
  · exact q_sub [0, 1, 2, 3, 4] rfl (aX4_firstNext_b74 N c4 c20 hc4 hc20 v1 v2 v3 v4 σ)
  refine q_aload_n (i := 0) (x := 73) dX4_firstNext_46 rfl 0 rfl ?_
  refine q_iload_n (i := 3) (x := v3) dX4_firstNext_47 rfl 3 rfl ?_
  refine q_iload (i := 4) (x := v4) dX4_firstNext_48 4 rfl ?_
  refine q_cVi mX4_canBe [.int v3, .int v4] (st := []) dX4_firstNext_50 (svX4_73) ⟨Nat.le_of_ble_eq_true rfl, Nat.le_of_ble_eq_true rfl⟩ zC_73 rfl rfl rfl (Nat.le_of_ble_eq_true rfl) (kX4_canBe N v3 v4 σ) (fun y1 => ?_)
  refine q_if_eq (tgt := 74) dX4_firstNext_53 (by decide) ?_ ?_
  · exact q_sub [0, 1, 2, 3, 4] rfl (aX4_firstNext_b74 N c4 c20 hc4 hc20 v1 v2 v3 v4 y1.2)
  refine q_iload (i := 4) (x := v4) dX4_firstNext_56 4 rfl ?_
  refine q_istore_n (i := 2) (L' := [(2, .int v4), (0, .ref 73), (1, .int v1), (3, .int v3), (4, .int v4)]) dX4_firstNext_58 rfl (Nat.le_of_ble_eq_true rfl) rfl ?_
  refine q_aload_n (i := 0) (x := 73) dX4_firstNext_59 rfl 1 rfl ?_
  refine q_getr (t := 75) dX4_firstNext_60 foX4_15 zC_73 rfl ?_
  refine q_iconst (v := 0) dX4_firstNext_63 (by decide) ?_
  refine q_aload_n (i := 0) (x := 73) dX4_firstNext_64 rfl 1 rfl ?_
  refine q_getr (t := 74) dX4_firstNext_65 foX4_9 zC_73 rfl ?_
  refine q_iconst (v := 0) dX4_firstNext_68 (by decide) ?_
  refine q_bipush (v := 24) dX4_firstNext_69 (by decide) ?_
  refine q_copy dX4_firstNext_71 (cplX4_77) cp_nat cp_st cp_in zC_75 zC_74 ⟨Nat.le_of_ble_eq_true rfl, Nat.le_of_ble_eq_true rfl⟩ ?_
  refine q_nmM (fun s2 => ?_)
  exact q_sub [1, 2, 0, 3, 4] rfl (aX4_firstNext_b74 N c4 c20 hc4 hc20 v1 v4 v3 v4 s2)
def fX4_firstNext_l20 (N : Nat) (c4 : Int32 → Int32 → Int32 → qMem → Option (Int32 × qMem)) : Nat → Int32 → Int32 → Int32 → Int32 → qMem → Option (Int32 × qMem)
  | 0 => fun _ _ _ _ _ => none
  | n + 1 => fun v1 v2 v3 v4 σ => fX4_firstNext_s20 N c4 (fX4_firstNext_l20 N c4 n) v1 v2 v3 v4 σ
theorem aX4_firstNext_l20 (N : Nat) (c4 : Int32 → Int32 → Int32 → qMem → Option (Int32 × qMem)) (hc4 : ∀ (v1 : Int32) (v2 : Int32) (v3 : Int32) (σ : qMem), qAt wC mX4_firstNext (ρi) 4 [(0, .ref 73), (1, .int v1), (2, .int v2), (3, .int v3)] [] σ (c4 v1 v2 v3 σ)) : ∀ (n : Nat) (v1 : Int32) (v2 : Int32) (v3 : Int32) (v4 : Int32) (σ : qMem), qAt wC mX4_firstNext (ρi) 20 [(0, .ref 73), (1, .int v1), (2, .int v2), (3, .int v3), (4, .int v4)] [] σ (fX4_firstNext_l20 N c4 n v1 v2 v3 v4 σ) := by
  intro n
  induction n with
  | zero => intro v1 v2 v3 v4 σ; exact q_none
  | succ n ih => intro v1 v2 v3 v4 σ; exact aX4_firstNext_s20 N c4 hc4 (fX4_firstNext_l20 N c4 n) ih v1 v2 v3 v4 σ

def fX4_firstNext_s4 (N : Nat) (c4 : Int32 → Int32 → Int32 → qMem → Option (Int32 × qMem)) (v1 : Int32) (v2 : Int32) (v3 : Int32) (σ : qMem) : Option (Int32 × qMem) :=
  (if v1 < v3 then (some (v2, σ)) else (if 24 ≤ v3 then (some (v2, σ)) else (fX4_firstNext_l20 N c4 N v1 (-1) v3 0 σ)))
set_option maxRecDepth 20000 in
set_option maxHeartbeats 4000000 in
theorem aX4_firstNext_s4 (N : Nat) (c4 : Int32 → Int32 → Int32 → qMem → Option (Int32 × qMem)) (hc4 : ∀ (v1 : Int32) (v2 : Int32) (v3 : Int32) (σ : qMem), qAt wC mX4_firstNext (ρi) 4 [(0, .ref 73), (1, .int v1), (2, .int v2), (3, .int v3)] [] σ (c4 v1 v2 v3 σ)) (v1 : Int32) (v2 : Int32) (v3 : Int32) (σ : qMem) : qAt wC mX4_firstNext (ρi) 4 [(0, .ref 73), (1, .int v1), (2, .int v2), (3, .int v3)] [] σ (fX4_firstNext_s4 N c4 v1 v2 v3 σ) := by
  unfold fX4_firstNext_s4
  refine q_iload_n (i := 3) (x := v3) dX4_firstNext_4 rfl 3 rfl ?_
  refine q_iload_n (i := 1) (x := v1) dX4_firstNext_5 rfl 1 rfl ?_
  refine q_icmp_gt (tgt := 98) dX4_firstNext_6 (by decide) ?_ ?_
  · refine q_iload_n (i := 2) (x := v2) dX4_firstNext_98 rfl 2 rfl ?_
    exact q_ireti (y := (v2, σ)) dX4_firstNext_99 rfl rfl
  refine q_iload_n (i := 3) (x := v3) dX4_firstNext_9 rfl 3 rfl ?_
  refine q_bipush (v := 24) dX4_firstNext_10 (by decide) ?_
  refine q_icmp_ge (tgt := 98) dX4_firstNext_12 (by decide) ?_ ?_
  · refine q_iload_n (i := 2) (x := v2) dX4_firstNext_98 rfl 2 rfl ?_
    exact q_ireti (y := (v2, σ)) dX4_firstNext_99 rfl rfl
  refine q_iconst (v := (-1)) dX4_firstNext_15 (by decide) ?_
  refine q_istore_n (i := 2) (L' := [(2, .int (-1)), (0, .ref 73), (1, .int v1), (3, .int v3)]) dX4_firstNext_16 rfl (Nat.le_of_ble_eq_true rfl) rfl ?_
  refine q_iconst (v := 0) dX4_firstNext_17 (by decide) ?_
  refine q_istore (i := 4) (L' := [(4, .int 0), (2, .int (-1)), (0, .ref 73), (1, .int v1), (3, .int v3)]) dX4_firstNext_18 (Nat.le_of_ble_eq_true rfl) rfl ?_
  exact q_sub [2, 3, 1, 4, 0] rfl (aX4_firstNext_l20 N c4 hc4 N v1 (-1) v3 0 σ)
def fX4_firstNext_l4 (N : Nat) : Nat → Int32 → Int32 → Int32 → qMem → Option (Int32 × qMem)
  | 0 => fun _ _ _ _ => none
  | n + 1 => fun v1 v2 v3 σ => fX4_firstNext_s4 N (fX4_firstNext_l4 N n) v1 v2 v3 σ
theorem aX4_firstNext_l4 (N : Nat) : ∀ (n : Nat) (v1 : Int32) (v2 : Int32) (v3 : Int32) (σ : qMem), qAt wC mX4_firstNext (ρi) 4 [(0, .ref 73), (1, .int v1), (2, .int v2), (3, .int v3)] [] σ (fX4_firstNext_l4 N n v1 v2 v3 σ) := by
  intro n
  induction n with
  | zero => intro v1 v2 v3 σ; exact q_none
  | succ n ih => intro v1 v2 v3 σ; exact aX4_firstNext_s4 N (fX4_firstNext_l4 N n) ih v1 v2 v3 σ

def fX4_firstNext (N : Nat) (p1 : Int32) (σ : qMem) : Option (Int32 × qMem) :=
  (fX4_firstNext_l4 N N p1 (-1) 0 σ)
set_option maxRecDepth 20000 in
set_option maxHeartbeats 4000000 in
theorem aX4_firstNext  (N : Nat) (p1 : Int32)  (σ : qMem) : qAt wC mX4_firstNext (ρi) 0 [(0, .ref 73), (1, .int p1)] [] σ (fX4_firstNext N p1 σ) := by
  unfold fX4_firstNext
  refine q_iconst (v := (-1)) dX4_firstNext_0 (by decide) ?_
  refine q_istore_n (i := 2) (L' := [(2, .int (-1)), (0, .ref 73), (1, .int p1)]) dX4_firstNext_1 rfl (Nat.le_of_ble_eq_true rfl) rfl ?_
  refine q_iconst (v := 0) dX4_firstNext_2 (by decide) ?_
  refine q_istore_n (i := 3) (L' := [(3, .int 0), (2, .int (-1)), (0, .ref 73), (1, .int p1)]) dX4_firstNext_3 rfl (Nat.le_of_ble_eq_true rfl) rfl ?_
  exact q_sub [2, 3, 1, 0] rfl (aX4_firstNext_l4 N N p1 (-1) 0 σ)
theorem kX4_firstNext  (N : Nat) (p1 : Int32)  (σ : qMem) : qMc wC mX4_firstNext (ρi) [.ref 73, .int p1] σ (fX4_firstNext N p1 σ) := qMc_of (moX4_firstNext) (Nat.le_of_ble_eq_true rfl) (aX4_firstNext N p1  σ)

theorem dX4_certainty_0 : decode cX4_certainty 0 = .ok (.iload_n 1, 1) := by decide +kernel
theorem dX4_certainty_1 : decode cX4_certainty 1 = .ok (.ifCond .lt 31, 3) := by decide +kernel
theorem dX4_certainty_4 : decode cX4_certainty 4 = .ok (.iload_n 1, 1) := by decide +kernel
theorem dX4_certainty_5 : decode cX4_certainty 5 = .ok (.bipush 24, 2) := by decide +kernel
theorem dX4_certainty_7 : decode cX4_certainty 7 = .ok (.if_icmp .ge 25, 3) := by decide +kernel
theorem dX4_certainty_10 : decode cX4_certainty 10 = .ok (.aload_n 0, 1) := by decide +kernel
theorem dX4_certainty_11 : decode cX4_certainty 11 = .ok (.getfield 9, 3) := by decide +kernel
theorem dX4_certainty_14 : decode cX4_certainty 14 = .ok (.iload_n 1, 1) := by decide +kernel
theorem dX4_certainty_15 : decode cX4_certainty 15 = .ok (.iaload, 1) := by decide +kernel
theorem dX4_certainty_16 : decode cX4_certainty 16 = .ok (.iconst 1, 1) := by decide +kernel
theorem dX4_certainty_17 : decode cX4_certainty 17 = .ok (.iload_n 2, 1) := by decide +kernel
theorem dX4_certainty_18 : decode cX4_certainty 18 = .ok (.ishl, 1) := by decide +kernel
theorem dX4_certainty_19 : decode cX4_certainty 19 = .ok (.iand, 1) := by decide +kernel
theorem dX4_certainty_20 : decode cX4_certainty 20 = .ok (.ifCond .eq 12, 3) := by decide +kernel
theorem dX4_certainty_23 : decode cX4_certainty 23 = .ok (.aload_n 0, 1) := by decide +kernel
theorem dX4_certainty_24 : decode cX4_certainty 24 = .ok (.iload_n 1, 1) := by decide +kernel
theorem dX4_certainty_25 : decode cX4_certainty 25 = .ok (.iload_n 2, 1) := by decide +kernel
theorem dX4_certainty_26 : decode cX4_certainty 26 = .ok (.invokevirtual 73, 3) := by decide +kernel
theorem dX4_certainty_29 : decode cX4_certainty 29 = .ok (.ifCond .ne 5, 3) := by decide +kernel
theorem dX4_certainty_32 : decode cX4_certainty 32 = .ok (.iconst 0, 1) := by decide +kernel
theorem dX4_certainty_33 : decode cX4_certainty 33 = .ok (.ireturn, 1) := by decide +kernel
theorem dX4_certainty_34 : decode cX4_certainty 34 = .ok (.aload_n 0, 1) := by decide +kernel
theorem dX4_certainty_35 : decode cX4_certainty 35 = .ok (.getfield 9, 3) := by decide +kernel
theorem dX4_certainty_38 : decode cX4_certainty 38 = .ok (.iconst 0, 1) := by decide +kernel
theorem dX4_certainty_39 : decode cX4_certainty 39 = .ok (.aload_n 0, 1) := by decide +kernel
theorem dX4_certainty_40 : decode cX4_certainty 40 = .ok (.getfield 15, 3) := by decide +kernel
theorem dX4_certainty_43 : decode cX4_certainty 43 = .ok (.iconst 0, 1) := by decide +kernel
theorem dX4_certainty_44 : decode cX4_certainty 44 = .ok (.bipush 24, 2) := by decide +kernel
theorem dX4_certainty_46 : decode cX4_certainty 46 = .ok (.invokestatic 77, 3) := by decide +kernel
theorem dX4_certainty_49 : decode cX4_certainty 49 = .ok (.aload_n 0, 1) := by decide +kernel
theorem dX4_certainty_50 : decode cX4_certainty 50 = .ok (.getfield 15, 3) := by decide +kernel
theorem dX4_certainty_53 : decode cX4_certainty 53 = .ok (.iload_n 1, 1) := by decide +kernel
theorem dX4_certainty_54 : decode cX4_certainty 54 = .ok (.dup2, 1) := by decide +kernel
theorem dX4_certainty_55 : decode cX4_certainty 55 = .ok (.iaload, 1) := by decide +kernel
theorem dX4_certainty_56 : decode cX4_certainty 56 = .ok (.iconst 1, 1) := by decide +kernel
theorem dX4_certainty_57 : decode cX4_certainty 57 = .ok (.iload_n 2, 1) := by decide +kernel
theorem dX4_certainty_58 : decode cX4_certainty 58 = .ok (.ishl, 1) := by decide +kernel
theorem dX4_certainty_59 : decode cX4_certainty 59 = .ok (.iconst (-1), 1) := by decide +kernel
theorem dX4_certainty_60 : decode cX4_certainty 60 = .ok (.ixor, 1) := by decide +kernel
theorem dX4_certainty_61 : decode cX4_certainty 61 = .ok (.iand, 1) := by decide +kernel
theorem dX4_certainty_62 : decode cX4_certainty 62 = .ok (.iastore, 1) := by decide +kernel
theorem dX4_certainty_63 : decode cX4_certainty 63 = .ok (.aload_n 0, 1) := by decide +kernel
theorem dX4_certainty_64 : decode cX4_certainty 64 = .ok (.aload_n 0, 1) := by decide +kernel
theorem dX4_certainty_65 : decode cX4_certainty 65 = .ok (.getfield 15, 3) := by decide +kernel
theorem dX4_certainty_68 : decode cX4_certainty 68 = .ok (.invokevirtual 53, 3) := by decide +kernel
theorem dX4_certainty_71 : decode cX4_certainty 71 = .ok (.aload_n 0, 1) := by decide +kernel
theorem dX4_certainty_72 : decode cX4_certainty 72 = .ok (.getfield 28, 3) := by decide +kernel
theorem dX4_certainty_75 : decode cX4_certainty 75 = .ok (.if_icmp .ge 7, 3) := by decide +kernel
theorem dX4_certainty_78 : decode cX4_certainty 78 = .ok (.iconst 2, 1) := by decide +kernel
theorem dX4_certainty_79 : decode cX4_certainty 79 = .ok (.goto 4, 3) := by decide +kernel
theorem dX4_certainty_82 : decode cX4_certainty 82 = .ok (.iconst 1, 1) := by decide +kernel
theorem dX4_certainty_83 : decode cX4_certainty 83 = .ok (.ireturn, 1) := by decide +kernel

def fX4_certainty (N : Nat) (p1 : Int32) (p2 : Int32) (σ : qMem) : Option (Int32 × qMem) :=
  (if p1 < 0 then (some (0, σ)) else (if 24 ≤ p1 then (some (0, σ)) else (if ck p1 24 = true then (if ((gi σ 74 p1.toNatClampNeg) &&& ((1 : Int32) <<< (p2 &&& 31))) = 0 then (some (0, σ)) else ((fX4_canBe N p1 p2 σ).bind fun y1 => (if y1.1 = 0 then (some (0, y1.2)) else (if cpOK 0 0 24 24 24 = true then (nmM (cp y1.2 74 75 0 0 24) fun s2 => (if ck p1 24 = true then (if ck p1 24 = true then (nmM (si s2 75 p1.toNatClampNeg ((gi s2 75 p1.toNatClampNeg) &&& (((1 : Int32) <<< (p2 &&& 31)) ^^^ (-1)))) fun s3 => ((fX4_join N 75 s3).bind fun y4 => (if (gi y4.2 73 6) ≤ y4.1 then (some (1, y4.2)) else (some (2, y4.2))))) else none) else none)) else none)))) else none)))
set_option maxRecDepth 20000 in
set_option maxHeartbeats 4000000 in
theorem aX4_certainty  (N : Nat) (p1 : Int32) (p2 : Int32)  (σ : qMem) : qAt wC mX4_certainty (ρi) 0 [(0, .ref 73), (1, .int p1), (2, .int p2)] [] σ (fX4_certainty N p1 p2 σ) := by
  unfold fX4_certainty
  refine q_iload_n (i := 1) (x := p1) dX4_certainty_0 rfl 1 rfl ?_
  refine q_if_lt (tgt := 32) dX4_certainty_1 (by decide) ?_ ?_
  · refine q_iconst (v := 0) dX4_certainty_32 (by decide) ?_
    exact q_ireti (y := (0, σ)) dX4_certainty_33 rfl rfl
  refine q_iload_n (i := 1) (x := p1) dX4_certainty_4 rfl 1 rfl ?_
  refine q_bipush (v := 24) dX4_certainty_5 (by decide) ?_
  refine q_icmp_ge (tgt := 32) dX4_certainty_7 (by decide) ?_ ?_
  · refine q_iconst (v := 0) dX4_certainty_32 (by decide) ?_
    exact q_ireti (y := (0, σ)) dX4_certainty_33 rfl rfl
  refine q_aload_n (i := 0) (x := 73) dX4_certainty_10 rfl 0 rfl ?_
  refine q_getr (t := 74) dX4_certainty_11 foX4_9 zC_73 rfl ?_
  refine q_iload_n (i := 1) (x := p1) dX4_certainty_14 rfl 1 rfl ?_
  refine q_iald dX4_certainty_15 zC_74 ?_
  refine q_iconst (v := 1) dX4_certainty_16 (by decide) ?_
  refine q_iload_n (i := 2) (x := p2) dX4_certainty_17 rfl 2 rfl ?_
  refine q_ishl dX4_certainty_18 ?_
  refine q_iand dX4_certainty_19 ?_
  refine q_if_eq (tgt := 32) dX4_certainty_20 (by decide) ?_ ?_
  · refine q_iconst (v := 0) dX4_certainty_32 (by decide) ?_
    exact q_ireti (y := (0, σ)) dX4_certainty_33 rfl rfl
  refine q_aload_n (i := 0) (x := 73) dX4_certainty_23 rfl 0 rfl ?_
  refine q_iload_n (i := 1) (x := p1) dX4_certainty_24 rfl 1 rfl ?_
  refine q_iload_n (i := 2) (x := p2) dX4_certainty_25 rfl 2 rfl ?_
  refine q_cVi mX4_canBe [.int p1, .int p2] (st := []) dX4_certainty_26 (svX4_73) ⟨Nat.le_of_ble_eq_true rfl, Nat.le_of_ble_eq_true rfl⟩ zC_73 rfl rfl rfl (Nat.le_of_ble_eq_true rfl) (kX4_canBe N p1 p2 σ) (fun y1 => ?_)
  refine q_if_ne (tgt := 34) dX4_certainty_29 (by decide) ?_ ?_
  · refine q_aload_n (i := 0) (x := 73) dX4_certainty_34 rfl 0 rfl ?_
    refine q_getr (t := 74) dX4_certainty_35 foX4_9 zC_73 rfl ?_
    refine q_iconst (v := 0) dX4_certainty_38 (by decide) ?_
    refine q_aload_n (i := 0) (x := 73) dX4_certainty_39 rfl 0 rfl ?_
    refine q_getr (t := 75) dX4_certainty_40 foX4_15 zC_73 rfl ?_
    refine q_iconst (v := 0) dX4_certainty_43 (by decide) ?_
    refine q_bipush (v := 24) dX4_certainty_44 (by decide) ?_
    refine q_copy dX4_certainty_46 (cplX4_77) cp_nat cp_st cp_in zC_74 zC_75 ⟨Nat.le_of_ble_eq_true rfl, Nat.le_of_ble_eq_true rfl⟩ ?_
    refine q_nmM (fun s2 => ?_)
    refine q_aload_n (i := 0) (x := 73) dX4_certainty_49 rfl 0 rfl ?_
    refine q_getr (t := 75) dX4_certainty_50 foX4_15 zC_73 rfl ?_
    refine q_iload_n (i := 1) (x := p1) dX4_certainty_53 rfl 1 rfl ?_
    refine q_dup2 dX4_certainty_54 rfl rfl ?_
    refine q_iald dX4_certainty_55 zC_75 ?_
    refine q_iconst (v := 1) dX4_certainty_56 (by decide) ?_
    refine q_iload_n (i := 2) (x := p2) dX4_certainty_57 rfl 2 rfl ?_
    refine q_ishl dX4_certainty_58 ?_
    refine q_iconst (v := (-1)) dX4_certainty_59 (by decide) ?_
    refine q_ixor dX4_certainty_60 ?_
    refine q_iand dX4_certainty_61 ?_
    refine q_iast dX4_certainty_62 zC_75 ?_
    refine q_nmM (fun s3 => ?_)
    refine q_aload_n (i := 0) (x := 73) dX4_certainty_63 rfl 0 rfl ?_
    refine q_aload_n (i := 0) (x := 73) dX4_certainty_64 rfl 0 rfl ?_
    refine q_getr (t := 75) dX4_certainty_65 foX4_15 zC_73 rfl ?_
    refine q_cVi mX4_join [.ref 75] (st := []) dX4_certainty_68 (svX4_53) ⟨Nat.le_of_ble_eq_true rfl, Nat.le_of_ble_eq_true rfl⟩ zC_73 rfl rfl rfl (Nat.le_of_ble_eq_true rfl) (kX4_join N 75 zC_75 s3) (fun y4 => ?_)
    refine q_aload_n (i := 0) (x := 73) dX4_certainty_71 rfl 0 rfl ?_
    refine q_geti dX4_certainty_72 foX4_28 zC_73 rfl ?_
    refine q_icmp_ge (tgt := 82) dX4_certainty_75 (by decide) ?_ ?_
    · refine q_iconst (v := 1) dX4_certainty_82 (by decide) ?_
      exact q_ireti (y := (1, y4.2)) dX4_certainty_83 rfl rfl
    refine q_iconst (v := 2) dX4_certainty_78 (by decide) ?_
    refine q_goto (tgt := 83) dX4_certainty_79 (by decide) ?_
    exact q_ireti (y := (2, y4.2)) dX4_certainty_83 rfl rfl
  refine q_iconst (v := 0) dX4_certainty_32 (by decide) ?_
  exact q_ireti (y := (0, y1.2)) dX4_certainty_33 rfl rfl
theorem kX4_certainty  (N : Nat) (p1 : Int32) (p2 : Int32)  (σ : qMem) : qMc wC mX4_certainty (ρi) [.ref 73, .int p1, .int p2] σ (fX4_certainty N p1 p2 σ) := qMc_of (moX4_certainty) (Nat.le_of_ble_eq_true rfl) (aX4_certainty N p1 p2  σ)

