theorem dX11_image_0 : decode cX11_image 0 = .ok (.iload_n 1, 1) := by decide +kernel
theorem dX11_image_1 : decode cX11_image 1 = .ok (.iconst 0, 1) := by decide +kernel
theorem dX11_image_2 : decode cX11_image 2 = .ok (.iconst 1, 1) := by decide +kernel
theorem dX11_image_3 : decode cX11_image 3 = .ok (.invokestatic 83, 3) := by decide +kernel
theorem dX11_image_6 : decode cX11_image 6 = .ok (.ifCond .ne 9, 3) := by decide +kernel
theorem dX11_image_9 : decode cX11_image 9 = .ok (.aload_n 0, 1) := by decide +kernel
theorem dX11_image_10 : decode cX11_image 10 = .ok (.iconst (-1), 1) := by decide +kernel
theorem dX11_image_11 : decode cX11_image 11 = .ok (.invokevirtual 87, 3) := by decide +kernel
theorem dX11_image_14 : decode cX11_image 14 = .ok (.ireturn, 1) := by decide +kernel
theorem dX11_image_15 : decode cX11_image 15 = .ok (.aload_n 0, 1) := by decide +kernel
theorem dX11_image_16 : decode cX11_image 16 = .ok (.getfield 16, 3) := by decide +kernel
theorem dX11_image_19 : decode cX11_image 19 = .ok (.iload_n 1, 1) := by decide +kernel
theorem dX11_image_20 : decode cX11_image 20 = .ok (.aaload, 1) := by decide +kernel
theorem dX11_image_21 : decode cX11_image 21 = .ok (.aload_n 0, 1) := by decide +kernel
theorem dX11_image_22 : decode cX11_image 22 = .ok (.getfield 12, 3) := by decide +kernel
theorem dX11_image_25 : decode cX11_image 25 = .ok (.invokevirtual 375, 3) := by decide +kernel
theorem dX11_image_28 : decode cX11_image 28 = .ok (.aload_n 0, 1) := by decide +kernel
theorem dX11_image_29 : decode cX11_image 29 = .ok (.getfield 20, 3) := by decide +kernel
theorem dX11_image_32 : decode cX11_image 32 = .ok (.iload_n 1, 1) := by decide +kernel
theorem dX11_image_33 : decode cX11_image 33 = .ok (.iconst 1, 1) := by decide +kernel
theorem dX11_image_34 : decode cX11_image 34 = .ok (.bastore, 1) := by decide +kernel
theorem dX11_image_35 : decode cX11_image 35 = .ok (.aload_n 0, 1) := by decide +kernel
theorem dX11_image_36 : decode cX11_image 36 = .ok (.iconst 0, 1) := by decide +kernel
theorem dX11_image_37 : decode cX11_image 37 = .ok (.invokevirtual 240, 3) := by decide +kernel
theorem dX11_image_40 : decode cX11_image 40 = .ok (.ireturn, 1) := by decide +kernel

def fX11_image (p1 : Int32) (σ : qMem) : Option (Int32 × qMem) :=
  ((fX11_isIn p1 0 1).bind fun y1 => (if y1 = 0 then ((fX11_refuse (-1) σ).bind fun y6 => (some (y6.1, y6.2))) else (if ck p1 2 = true then ((fX2_copy (89 + 41 * p1.toNatClampNeg) 1 σ).bind fun y3 => (if ck p1 2 = true then (nmM (si y3 43 p1.toNatClampNeg (vp_nar .boolean 1)) fun s4 => ((fX11_accept 0 s4).bind fun y5 => (some (y5.1, y5.2)))) else none)) else none)))
set_option maxRecDepth 20000 in
set_option maxHeartbeats 4000000 in
theorem aX11_image  (p1 : Int32)  (σ : qMem) : qAt wC mX11_image (ρi) 0 [(0, .ref 0), (1, .int p1)] [] σ (fX11_image p1 σ) := by
  unfold fX11_image
  refine q_iload_n (i := 1) (x := p1) dX11_image_0 rfl 1 rfl ?_
  refine q_iconst (v := 0) dX11_image_1 (by decide) ?_
  refine q_iconst (v := 1) dX11_image_2 (by decide) ?_
  refine q_cSp mX11_isIn [.int p1, .int 0, .int 1] (st := []) dX11_image_3 (ssX11_83) ⟨Nat.le_of_ble_eq_true rfl, Nat.le_of_ble_eq_true rfl⟩ rfl rfl (Nat.le_of_ble_eq_true rfl) (kX11_isIn p1 0 1 σ) (fun y1 => ?_)
  refine q_if_ne (tgt := 15) dX11_image_6 (by decide) ?_ ?_
  · refine q_aload_n (i := 0) (x := 0) dX11_image_15 rfl 0 rfl ?_
    refine q_getr (t := 42) dX11_image_16 foX11_16 zC_0 rfl ?_
    refine q_iload_n (i := 1) (x := p1) dX11_image_19 rfl 1 rfl ?_
    refine q_aald (t0 := 5) (fun j => 89 + 41 * j) dX11_image_20 zC_42 (fun _ => rfl) (by decide) (fun hc_2 => ?_)
    refine q_aload_n (i := 0) (x := 0) dX11_image_21 rfl 0 rfl ?_
    refine q_getr (t := 1) dX11_image_22 foX11_12 zC_0 rfl ?_
    refine q_cVv mX2_copy [.ref 1] (st := []) dX11_image_25 (svX11_375) ⟨Nat.le_of_ble_eq_true rfl, Nat.le_of_ble_eq_true rfl⟩ (xBook hc_2).1 rfl rfl rfl (Nat.le_of_ble_eq_true rfl) (kX2_copy (89 + 41 * p1.toNatClampNeg) 1 (xBook hc_2) pC_1 σ) (fun y3 => ?_)
    refine q_aload_n (i := 0) (x := 0) dX11_image_28 rfl 0 rfl ?_
    refine q_getr (t := 43) dX11_image_29 foX11_20 zC_0 rfl ?_
    refine q_iload_n (i := 1) (x := p1) dX11_image_32 rfl 1 rfl ?_
    refine q_iconst (v := 1) dX11_image_33 (by decide) ?_
    refine q_zast dX11_image_34 zC_43 ?_
    refine q_nmM (fun s4 => ?_)
    refine q_aload_n (i := 0) (x := 0) dX11_image_35 rfl 0 rfl ?_
    refine q_iconst (v := 0) dX11_image_36 (by decide) ?_
    refine q_cVi mX11_accept [.int 0] (st := []) dX11_image_37 (svX11_240) ⟨Nat.le_of_ble_eq_true rfl, Nat.le_of_ble_eq_true rfl⟩ zC_0 rfl rfl rfl (Nat.le_of_ble_eq_true rfl) (kX11_accept 0 s4) (fun y5 => ?_)
    exact q_ireti (y := (y5.1, y5.2)) dX11_image_40 rfl rfl
  refine q_aload_n (i := 0) (x := 0) dX11_image_9 rfl 0 rfl ?_
  refine q_iconst (v := (-1)) dX11_image_10 (by decide) ?_
  refine q_cVi mX11_refuse [.int (-1)] (st := []) dX11_image_11 (svX11_87) ⟨Nat.le_of_ble_eq_true rfl, Nat.le_of_ble_eq_true rfl⟩ zC_0 rfl rfl rfl (Nat.le_of_ble_eq_true rfl) (kX11_refuse (-1) σ) (fun y6 => ?_)
  exact q_ireti (y := (y6.1, y6.2)) dX11_image_14 rfl rfl
theorem kX11_image  (p1 : Int32)  (σ : qMem) : qMc wC mX11_image (ρi) [.ref 0, .int p1] σ (fX11_image p1 σ) := qMc_of (moX11_image) (Nat.le_of_ble_eq_true rfl) (aX11_image p1  σ)

theorem dX11_back_0 : decode cX11_back 0 = .ok (.iload_n 1, 1) := by decide +kernel
theorem dX11_back_1 : decode cX11_back 1 = .ok (.iconst 0, 1) := by decide +kernel
theorem dX11_back_2 : decode cX11_back 2 = .ok (.iconst 1, 1) := by decide +kernel
theorem dX11_back_3 : decode cX11_back 3 = .ok (.invokestatic 83, 3) := by decide +kernel
theorem dX11_back_6 : decode cX11_back 6 = .ok (.ifCond .ne 9, 3) := by decide +kernel
theorem dX11_back_9 : decode cX11_back 9 = .ok (.aload_n 0, 1) := by decide +kernel
theorem dX11_back_10 : decode cX11_back 10 = .ok (.iconst (-1), 1) := by decide +kernel
theorem dX11_back_11 : decode cX11_back 11 = .ok (.invokevirtual 87, 3) := by decide +kernel
theorem dX11_back_14 : decode cX11_back 14 = .ok (.ireturn, 1) := by decide +kernel
theorem dX11_back_15 : decode cX11_back 15 = .ok (.aload_n 0, 1) := by decide +kernel
theorem dX11_back_16 : decode cX11_back 16 = .ok (.getfield 20, 3) := by decide +kernel
theorem dX11_back_19 : decode cX11_back 19 = .ok (.iload_n 1, 1) := by decide +kernel
theorem dX11_back_20 : decode cX11_back 20 = .ok (.baload, 1) := by decide +kernel
theorem dX11_back_21 : decode cX11_back 21 = .ok (.ifCond .ne 10, 3) := by decide +kernel
theorem dX11_back_24 : decode cX11_back 24 = .ok (.aload_n 0, 1) := by decide +kernel
theorem dX11_back_25 : decode cX11_back 25 = .ok (.bipush (-2), 2) := by decide +kernel
theorem dX11_back_27 : decode cX11_back 27 = .ok (.invokevirtual 87, 3) := by decide +kernel
theorem dX11_back_30 : decode cX11_back 30 = .ok (.ireturn, 1) := by decide +kernel
theorem dX11_back_31 : decode cX11_back 31 = .ok (.aload_n 0, 1) := by decide +kernel
theorem dX11_back_32 : decode cX11_back 32 = .ok (.getfield 12, 3) := by decide +kernel
theorem dX11_back_35 : decode cX11_back 35 = .ok (.aload_n 0, 1) := by decide +kernel
theorem dX11_back_36 : decode cX11_back 36 = .ok (.getfield 16, 3) := by decide +kernel
theorem dX11_back_39 : decode cX11_back 39 = .ok (.iload_n 1, 1) := by decide +kernel
theorem dX11_back_40 : decode cX11_back 40 = .ok (.aaload, 1) := by decide +kernel
theorem dX11_back_41 : decode cX11_back 41 = .ok (.invokevirtual 375, 3) := by decide +kernel
theorem dX11_back_44 : decode cX11_back 44 = .ok (.aload_n 0, 1) := by decide +kernel
theorem dX11_back_45 : decode cX11_back 45 = .ok (.iconst 0, 1) := by decide +kernel
theorem dX11_back_46 : decode cX11_back 46 = .ok (.invokevirtual 114, 3) := by decide +kernel
theorem dX11_back_49 : decode cX11_back 49 = .ok (.ireturn, 1) := by decide +kernel

def fX11_back (p1 : Int32) (σ : qMem) : Option (Int32 × qMem) :=
  ((fX11_isIn p1 0 1).bind fun y1 => (if y1 = 0 then ((fX11_refuse (-1) σ).bind fun y6 => (some (y6.1, y6.2))) else (if ck p1 2 = true then (if (gi σ 43 p1.toNatClampNeg) = 0 then ((fX11_refuse (-2) σ).bind fun y5 => (some (y5.1, y5.2))) else (if ck p1 2 = true then ((fX2_copy 1 (89 + 41 * p1.toNatClampNeg) σ).bind fun y3 => ((fX11_changed 0 y3).bind fun y4 => (some (y4.1, y4.2)))) else none)) else none)))
set_option maxRecDepth 20000 in
set_option maxHeartbeats 4000000 in
theorem aX11_back  (p1 : Int32)  (σ : qMem) : qAt wC mX11_back (ρi) 0 [(0, .ref 0), (1, .int p1)] [] σ (fX11_back p1 σ) := by
  unfold fX11_back
  refine q_iload_n (i := 1) (x := p1) dX11_back_0 rfl 1 rfl ?_
  refine q_iconst (v := 0) dX11_back_1 (by decide) ?_
  refine q_iconst (v := 1) dX11_back_2 (by decide) ?_
  refine q_cSp mX11_isIn [.int p1, .int 0, .int 1] (st := []) dX11_back_3 (ssX11_83) ⟨Nat.le_of_ble_eq_true rfl, Nat.le_of_ble_eq_true rfl⟩ rfl rfl (Nat.le_of_ble_eq_true rfl) (kX11_isIn p1 0 1 σ) (fun y1 => ?_)
  refine q_if_ne (tgt := 15) dX11_back_6 (by decide) ?_ ?_
  · refine q_aload_n (i := 0) (x := 0) dX11_back_15 rfl 0 rfl ?_
    refine q_getr (t := 43) dX11_back_16 foX11_20 zC_0 rfl ?_
    refine q_iload_n (i := 1) (x := p1) dX11_back_19 rfl 1 rfl ?_
    refine q_zald dX11_back_20 zC_43 ?_
    refine q_if_ne (tgt := 31) dX11_back_21 (by decide) ?_ ?_
    · refine q_aload_n (i := 0) (x := 0) dX11_back_31 rfl 0 rfl ?_
      refine q_getr (t := 1) dX11_back_32 foX11_12 zC_0 rfl ?_
      refine q_aload_n (i := 0) (x := 0) dX11_back_35 rfl 0 rfl ?_
      refine q_getr (t := 42) dX11_back_36 foX11_16 zC_0 rfl ?_
      refine q_iload_n (i := 1) (x := p1) dX11_back_39 rfl 1 rfl ?_
      refine q_aald (t0 := 5) (fun j => 89 + 41 * j) dX11_back_40 zC_42 (fun _ => rfl) (by decide) (fun hc_2 => ?_)
      refine q_cVv mX2_copy [.ref (89 + 41 * p1.toNatClampNeg)] (st := []) dX11_back_41 (svX11_375) ⟨Nat.le_of_ble_eq_true rfl, Nat.le_of_ble_eq_true rfl⟩ zC_1 rfl rfl rfl (Nat.le_of_ble_eq_true rfl) (kX2_copy 1 (89 + 41 * p1.toNatClampNeg) pC_1 (xBook hc_2) σ) (fun y3 => ?_)
      refine q_aload_n (i := 0) (x := 0) dX11_back_44 rfl 0 rfl ?_
      refine q_iconst (v := 0) dX11_back_45 (by decide) ?_
      refine q_cVi mX11_changed [.int 0] (st := []) dX11_back_46 (svX11_114) ⟨Nat.le_of_ble_eq_true rfl, Nat.le_of_ble_eq_true rfl⟩ zC_0 rfl rfl rfl (Nat.le_of_ble_eq_true rfl) (kX11_changed 0 y3) (fun y4 => ?_)
      exact q_ireti (y := (y4.1, y4.2)) dX11_back_49 rfl rfl
    refine q_aload_n (i := 0) (x := 0) dX11_back_24 rfl 0 rfl ?_
    refine q_bipush (v := (-2)) dX11_back_25 (by decide) ?_
    refine q_cVi mX11_refuse [.int (-2)] (st := []) dX11_back_27 (svX11_87) ⟨Nat.le_of_ble_eq_true rfl, Nat.le_of_ble_eq_true rfl⟩ zC_0 rfl rfl rfl (Nat.le_of_ble_eq_true rfl) (kX11_refuse (-2) σ) (fun y5 => ?_)
    exact q_ireti (y := (y5.1, y5.2)) dX11_back_30 rfl rfl
  refine q_aload_n (i := 0) (x := 0) dX11_back_9 rfl 0 rfl ?_
  refine q_iconst (v := (-1)) dX11_back_10 (by decide) ?_
  refine q_cVi mX11_refuse [.int (-1)] (st := []) dX11_back_11 (svX11_87) ⟨Nat.le_of_ble_eq_true rfl, Nat.le_of_ble_eq_true rfl⟩ zC_0 rfl rfl rfl (Nat.le_of_ble_eq_true rfl) (kX11_refuse (-1) σ) (fun y6 => ?_)
  exact q_ireti (y := (y6.1, y6.2)) dX11_back_14 rfl rfl
theorem kX11_back  (p1 : Int32)  (σ : qMem) : qMc wC mX11_back (ρi) [.ref 0, .int p1] σ (fX11_back p1 σ) := qMc_of (moX11_back) (Nat.le_of_ble_eq_true rfl) (aX11_back p1  σ)

theorem dX11_count_0 : decode cX11_count 0 = .ok (.iload_n 1, 1) := by decide +kernel
theorem dX11_count_1 : decode cX11_count 1 = .ok (.tableswitch 234 0 16 #[83, 94, 105, 116, 127, 138, 152, 163, 196, 234, 234, 234, 234, 234, 201, 212, 223], 83) := by decide +kernel
theorem dX11_count_84 : decode cX11_count 84 = .ok (.aload_n 0, 1) := by decide +kernel
theorem dX11_count_85 : decode cX11_count 85 = .ok (.getfield 12, 3) := by decide +kernel
theorem dX11_count_88 : decode cX11_count 88 = .ok (.getfield 184, 3) := by decide +kernel
theorem dX11_count_91 : decode cX11_count 91 = .ok (.getfield 105, 3) := by decide +kernel
theorem dX11_count_94 : decode cX11_count 94 = .ok (.ireturn, 1) := by decide +kernel
theorem dX11_count_95 : decode cX11_count 95 = .ok (.aload_n 0, 1) := by decide +kernel
theorem dX11_count_96 : decode cX11_count 96 = .ok (.getfield 12, 3) := by decide +kernel
theorem dX11_count_99 : decode cX11_count 99 = .ok (.getfield 191, 3) := by decide +kernel
theorem dX11_count_102 : decode cX11_count 102 = .ok (.getfield 105, 3) := by decide +kernel
theorem dX11_count_105 : decode cX11_count 105 = .ok (.ireturn, 1) := by decide +kernel
theorem dX11_count_106 : decode cX11_count 106 = .ok (.aload_n 0, 1) := by decide +kernel
theorem dX11_count_107 : decode cX11_count 107 = .ok (.getfield 12, 3) := by decide +kernel
theorem dX11_count_110 : decode cX11_count 110 = .ok (.getfield 194, 3) := by decide +kernel
theorem dX11_count_113 : decode cX11_count 113 = .ok (.getfield 105, 3) := by decide +kernel
theorem dX11_count_116 : decode cX11_count 116 = .ok (.ireturn, 1) := by decide +kernel
theorem dX11_count_117 : decode cX11_count 117 = .ok (.aload_n 0, 1) := by decide +kernel
theorem dX11_count_118 : decode cX11_count 118 = .ok (.getfield 12, 3) := by decide +kernel
theorem dX11_count_121 : decode cX11_count 121 = .ok (.getfield 284, 3) := by decide +kernel
theorem dX11_count_124 : decode cX11_count 124 = .ok (.getfield 105, 3) := by decide +kernel
theorem dX11_count_127 : decode cX11_count 127 = .ok (.ireturn, 1) := by decide +kernel
theorem dX11_count_128 : decode cX11_count 128 = .ok (.aload_n 0, 1) := by decide +kernel
theorem dX11_count_129 : decode cX11_count 129 = .ok (.getfield 12, 3) := by decide +kernel
theorem dX11_count_132 : decode cX11_count 132 = .ok (.getfield 341, 3) := by decide +kernel
theorem dX11_count_135 : decode cX11_count 135 = .ok (.getfield 105, 3) := by decide +kernel
theorem dX11_count_138 : decode cX11_count 138 = .ok (.ireturn, 1) := by decide +kernel
theorem dX11_count_139 : decode cX11_count 139 = .ok (.aload_n 0, 1) := by decide +kernel
theorem dX11_count_140 : decode cX11_count 140 = .ok (.getfield 12, 3) := by decide +kernel
theorem dX11_count_143 : decode cX11_count 143 = .ok (.getfield 224, 3) := by decide +kernel
theorem dX11_count_146 : decode cX11_count 146 = .ok (.getfield 237, 3) := by decide +kernel
theorem dX11_count_149 : decode cX11_count 149 = .ok (.getfield 105, 3) := by decide +kernel
theorem dX11_count_152 : decode cX11_count 152 = .ok (.ireturn, 1) := by decide +kernel
theorem dX11_count_153 : decode cX11_count 153 = .ok (.aload_n 0, 1) := by decide +kernel
theorem dX11_count_154 : decode cX11_count 154 = .ok (.getfield 12, 3) := by decide +kernel
theorem dX11_count_157 : decode cX11_count 157 = .ok (.getfield 358, 3) := by decide +kernel
theorem dX11_count_160 : decode cX11_count 160 = .ok (.getfield 105, 3) := by decide +kernel
theorem dX11_count_163 : decode cX11_count 163 = .ok (.ireturn, 1) := by decide +kernel
theorem dX11_count_164 : decode cX11_count 164 = .ok (.aload_n 0, 1) := by decide +kernel
theorem dX11_count_165 : decode cX11_count 165 = .ok (.getfield 29, 3) := by decide +kernel
theorem dX11_count_168 : decode cX11_count 168 = .ok (.invokevirtual 200, 3) := by decide +kernel
theorem dX11_count_171 : decode cX11_count 171 = .ok (.aload_n 0, 1) := by decide +kernel
theorem dX11_count_172 : decode cX11_count 172 = .ok (.getfield 29, 3) := by decide +kernel
theorem dX11_count_175 : decode cX11_count 175 = .ok (.getfield 377, 3) := by decide +kernel
theorem dX11_count_178 : decode cX11_count 178 = .ok (.iconst 0, 1) := by decide +kernel
theorem dX11_count_179 : decode cX11_count 179 = .ok (.aaload, 1) := by decide +kernel
theorem dX11_count_180 : decode cX11_count 180 = .ok (.getfield 105, 3) := by decide +kernel
theorem dX11_count_183 : decode cX11_count 183 = .ok (.aload_n 0, 1) := by decide +kernel
theorem dX11_count_184 : decode cX11_count 184 = .ok (.getfield 29, 3) := by decide +kernel
theorem dX11_count_187 : decode cX11_count 187 = .ok (.getfield 377, 3) := by decide +kernel
theorem dX11_count_190 : decode cX11_count 190 = .ok (.iconst 1, 1) := by decide +kernel
theorem dX11_count_191 : decode cX11_count 191 = .ok (.aaload, 1) := by decide +kernel
theorem dX11_count_192 : decode cX11_count 192 = .ok (.getfield 105, 3) := by decide +kernel
theorem dX11_count_195 : decode cX11_count 195 = .ok (.iadd, 1) := by decide +kernel
theorem dX11_count_196 : decode cX11_count 196 = .ok (.ireturn, 1) := by decide +kernel
theorem dX11_count_197 : decode cX11_count 197 = .ok (.aload_n 0, 1) := by decide +kernel
theorem dX11_count_198 : decode cX11_count 198 = .ok (.getfield 66, 3) := by decide +kernel
theorem dX11_count_201 : decode cX11_count 201 = .ok (.ireturn, 1) := by decide +kernel
theorem dX11_count_202 : decode cX11_count 202 = .ok (.aload_n 0, 1) := by decide +kernel
theorem dX11_count_203 : decode cX11_count 203 = .ok (.getfield 12, 3) := by decide +kernel
theorem dX11_count_206 : decode cX11_count 206 = .ok (.getfield 197, 3) := by decide +kernel
theorem dX11_count_209 : decode cX11_count 209 = .ok (.getfield 105, 3) := by decide +kernel
theorem dX11_count_212 : decode cX11_count 212 = .ok (.ireturn, 1) := by decide +kernel
theorem dX11_count_213 : decode cX11_count 213 = .ok (.aload_n 0, 1) := by decide +kernel
theorem dX11_count_214 : decode cX11_count 214 = .ok (.getfield 12, 3) := by decide +kernel
theorem dX11_count_217 : decode cX11_count 217 = .ok (.getfield 278, 3) := by decide +kernel
theorem dX11_count_220 : decode cX11_count 220 = .ok (.getfield 105, 3) := by decide +kernel
theorem dX11_count_223 : decode cX11_count 223 = .ok (.ireturn, 1) := by decide +kernel
theorem dX11_count_224 : decode cX11_count 224 = .ok (.aload_n 0, 1) := by decide +kernel
theorem dX11_count_225 : decode cX11_count 225 = .ok (.getfield 12, 3) := by decide +kernel
theorem dX11_count_228 : decode cX11_count 228 = .ok (.getfield 159, 3) := by decide +kernel
theorem dX11_count_231 : decode cX11_count 231 = .ok (.getfield 163, 3) := by decide +kernel
theorem dX11_count_234 : decode cX11_count 234 = .ok (.ireturn, 1) := by decide +kernel
theorem dX11_count_235 : decode cX11_count 235 = .ok (.iload_n 1, 1) := by decide +kernel
theorem dX11_count_236 : decode cX11_count 236 = .ok (.bipush 9, 2) := by decide +kernel
theorem dX11_count_238 : decode cX11_count 238 = .ok (.bipush 13, 2) := by decide +kernel
theorem dX11_count_240 : decode cX11_count 240 = .ok (.invokestatic 83, 3) := by decide +kernel
theorem dX11_count_243 : decode cX11_count 243 = .ok (.ifCond .eq 15, 3) := by decide +kernel
theorem dX11_count_246 : decode cX11_count 246 = .ok (.aload_n 0, 1) := by decide +kernel
theorem dX11_count_247 : decode cX11_count 247 = .ok (.getfield 60, 3) := by decide +kernel
theorem dX11_count_250 : decode cX11_count 250 = .ok (.iload_n 1, 1) := by decide +kernel
theorem dX11_count_251 : decode cX11_count 251 = .ok (.bipush 9, 2) := by decide +kernel
theorem dX11_count_253 : decode cX11_count 253 = .ok (.isub, 1) := by decide +kernel
theorem dX11_count_254 : decode cX11_count 254 = .ok (.iaload, 1) := by decide +kernel
theorem dX11_count_255 : decode cX11_count 255 = .ok (.goto 4, 3) := by decide +kernel
theorem dX11_count_258 : decode cX11_count 258 = .ok (.iconst (-1), 1) := by decide +kernel
theorem dX11_count_259 : decode cX11_count 259 = .ok (.ireturn, 1) := by decide +kernel
def fX11_count_b235 (N : Nat) (v1 : Int32) (σ : qMem) : Option (Int32 × qMem) :=
  ((fX11_isIn v1 9 13).bind fun y19 => (if y19 = 0 then (some ((-1), σ)) else (if ck (v1 - 9) 5 = true then (some ((gi σ 87 (v1 - 9).toNatClampNeg), σ)) else none)))
set_option maxRecDepth 20000 in
set_option maxHeartbeats 4000000 in
theorem aX11_count_b235 (N : Nat) (v1 : Int32) (σ : qMem) : qAt wC mX11_count (ρi) 235 [(0, .ref 0), (1, .int v1)] [] σ (fX11_count_b235 N v1 σ) := by
  unfold fX11_count_b235
  refine q_iload_n (i := 1) (x := v1) dX11_count_235 rfl 1 rfl ?_
  refine q_bipush (v := 9) dX11_count_236 (by decide) ?_
  refine q_bipush (v := 13) dX11_count_238 (by decide) ?_
  refine q_cSp mX11_isIn [.int v1, .int 9, .int 13] (st := []) dX11_count_240 (ssX11_83) ⟨Nat.le_of_ble_eq_true rfl, Nat.le_of_ble_eq_true rfl⟩ rfl rfl (Nat.le_of_ble_eq_true rfl) (kX11_isIn v1 9 13 σ) (fun y19 => ?_)
  refine q_if_eq (tgt := 258) dX11_count_243 (by decide) ?_ ?_
  · refine q_iconst (v := (-1)) dX11_count_258 (by decide) ?_
    exact q_ireti (y := ((-1), σ)) dX11_count_259 rfl rfl
  refine q_aload_n (i := 0) (x := 0) dX11_count_246 rfl 0 rfl ?_
  refine q_getr (t := 87) dX11_count_247 foX11_60 zC_0 rfl ?_
  refine q_iload_n (i := 1) (x := v1) dX11_count_250 rfl 1 rfl ?_
  refine q_bipush (v := 9) dX11_count_251 (by decide) ?_
  refine q_isub dX11_count_253 ?_
  refine q_iald dX11_count_254 zC_87 ?_
  refine q_goto (tgt := 259) dX11_count_255 (by decide) ?_
  exact q_ireti (y := ((gi σ 87 (v1 - 9).toNatClampNeg), σ)) dX11_count_259 rfl rfl

def fX11_count (N : Nat) (p1 : Int32) (σ : qMem) : Option (Int32 × qMem) :=
  (if p1 = 0 then (some ((gi σ 19 3), σ)) else (if p1 = 1 then (some ((gi σ 21 3), σ)) else (if p1 = 2 then (some ((gi σ 23 3), σ)) else (if p1 = 3 then (some ((gi σ 29 3), σ)) else (if p1 = 4 then (some ((gi σ 31 3), σ)) else (if p1 = 5 then (some ((gi σ 36 3), σ)) else (if p1 = 6 then (some ((gi σ 33 3), σ)) else (if p1 = 7 then ((fX3_sortOut N σ).bind fun y9 => (some (((gi y9 46 3) + (gi y9 48 3)), y9))) else (if p1 = 8 then (some ((gi σ 0 10), σ)) else (if p1 = 9 then (fX11_count_b235 N p1 σ) else (if p1 = 10 then (fX11_count_b235 N p1 σ) else (if p1 = 11 then (fX11_count_b235 N p1 σ) else (if p1 = 12 then (fX11_count_b235 N p1 σ) else (if p1 = 13 then (fX11_count_b235 N p1 σ) else (if p1 = 14 then (some ((gi σ 25 3), σ)) else (if p1 = 15 then (some ((gi σ 27 3), σ)) else (if p1 = 16 then (some ((gi σ 15 2), σ)) else (fX11_count_b235 N p1 σ))))))))))))))))))
set_option maxRecDepth 20000 in
set_option maxHeartbeats 4000000 in
theorem aX11_count  (N : Nat) (p1 : Int32)  (σ : qMem) : qAt wC mX11_count (ρi) 0 [(0, .ref 0), (1, .int p1)] [] σ (fX11_count N p1 σ) := by
  unfold fX11_count
  refine q_iload_n (i := 1) (x := p1) dX11_count_0 rfl 1 rfl ?_
  refine q_tsw (tgt := 84) 0 dX11_count_1 (by decide) (by decide) rfl (by decide) ?_ (fun hs1 => ?_)
  · refine q_aload_n (i := 0) (x := 0) dX11_count_84 rfl 0 rfl ?_
    refine q_getr (t := 1) dX11_count_85 foX11_12 zC_0 rfl ?_
    refine q_getr (t := 19) dX11_count_88 foX11_184 zC_1 rfl ?_
    refine q_geti dX11_count_91 foX11_105 zC_19 rfl ?_
    exact q_ireti (y := ((gi σ 19 3), σ)) dX11_count_94 rfl rfl
  refine q_tsw (tgt := 95) 1 dX11_count_1 (by decide) (by decide) rfl (by decide) ?_ (fun hs2 => ?_)
  · refine q_aload_n (i := 0) (x := 0) dX11_count_95 rfl 0 rfl ?_
    refine q_getr (t := 1) dX11_count_96 foX11_12 zC_0 rfl ?_
    refine q_getr (t := 21) dX11_count_99 foX11_191 zC_1 rfl ?_
    refine q_geti dX11_count_102 foX11_105 zC_21 rfl ?_
    exact q_ireti (y := ((gi σ 21 3), σ)) dX11_count_105 rfl rfl
  refine q_tsw (tgt := 106) 2 dX11_count_1 (by decide) (by decide) rfl (by decide) ?_ (fun hs3 => ?_)
  · refine q_aload_n (i := 0) (x := 0) dX11_count_106 rfl 0 rfl ?_
    refine q_getr (t := 1) dX11_count_107 foX11_12 zC_0 rfl ?_
    refine q_getr (t := 23) dX11_count_110 foX11_194 zC_1 rfl ?_
    refine q_geti dX11_count_113 foX11_105 zC_23 rfl ?_
    exact q_ireti (y := ((gi σ 23 3), σ)) dX11_count_116 rfl rfl
  refine q_tsw (tgt := 117) 3 dX11_count_1 (by decide) (by decide) rfl (by decide) ?_ (fun hs4 => ?_)
  · refine q_aload_n (i := 0) (x := 0) dX11_count_117 rfl 0 rfl ?_
    refine q_getr (t := 1) dX11_count_118 foX11_12 zC_0 rfl ?_
    refine q_getr (t := 29) dX11_count_121 foX11_284 zC_1 rfl ?_
    refine q_geti dX11_count_124 foX11_105 zC_29 rfl ?_
    exact q_ireti (y := ((gi σ 29 3), σ)) dX11_count_127 rfl rfl
  refine q_tsw (tgt := 128) 4 dX11_count_1 (by decide) (by decide) rfl (by decide) ?_ (fun hs5 => ?_)
  · refine q_aload_n (i := 0) (x := 0) dX11_count_128 rfl 0 rfl ?_
    refine q_getr (t := 1) dX11_count_129 foX11_12 zC_0 rfl ?_
    refine q_getr (t := 31) dX11_count_132 foX11_341 zC_1 rfl ?_
    refine q_geti dX11_count_135 foX11_105 zC_31 rfl ?_
    exact q_ireti (y := ((gi σ 31 3), σ)) dX11_count_138 rfl rfl
  refine q_tsw (tgt := 139) 5 dX11_count_1 (by decide) (by decide) rfl (by decide) ?_ (fun hs6 => ?_)
  · refine q_aload_n (i := 0) (x := 0) dX11_count_139 rfl 0 rfl ?_
    refine q_getr (t := 1) dX11_count_140 foX11_12 zC_0 rfl ?_
    refine q_getr (t := 35) dX11_count_143 foX11_224 zC_1 rfl ?_
    refine q_getr (t := 36) dX11_count_146 foX11_237 zC_35 rfl ?_
    refine q_geti dX11_count_149 foX11_105 zC_36 rfl ?_
    exact q_ireti (y := ((gi σ 36 3), σ)) dX11_count_152 rfl rfl
  refine q_tsw (tgt := 153) 6 dX11_count_1 (by decide) (by decide) rfl (by decide) ?_ (fun hs7 => ?_)
  · refine q_aload_n (i := 0) (x := 0) dX11_count_153 rfl 0 rfl ?_
    refine q_getr (t := 1) dX11_count_154 foX11_12 zC_0 rfl ?_
    refine q_getr (t := 33) dX11_count_157 foX11_358 zC_1 rfl ?_
    refine q_geti dX11_count_160 foX11_105 zC_33 rfl ?_
    exact q_ireti (y := ((gi σ 33 3), σ)) dX11_count_163 rfl rfl
  refine q_tsw (tgt := 164) 7 dX11_count_1 (by decide) (by decide) rfl (by decide) ?_ (fun hs8 => ?_)
  · refine q_aload_n (i := 0) (x := 0) dX11_count_164 rfl 0 rfl ?_
    refine q_getr (t := 44) dX11_count_165 foX11_29 zC_0 rfl ?_
    refine q_cVv mX3_sortOut [] (st := []) dX11_count_168 (svX11_200) ⟨Nat.le_of_ble_eq_true rfl, Nat.le_of_ble_eq_true rfl⟩ zC_44 rfl rfl rfl (Nat.le_of_ble_eq_true rfl) (kX3_sortOut N σ) (fun y9 => ?_)
    refine q_aload_n (i := 0) (x := 0) dX11_count_171 rfl 0 rfl ?_
    refine q_getr (t := 44) dX11_count_172 foX11_29 zC_0 rfl ?_
    refine q_getr (t := 45) dX11_count_175 foX11_377 zC_44 rfl ?_
    refine q_iconst (v := 0) dX11_count_178 (by decide) ?_
    refine q_aaldC (t0 := 7) (j := 0) (t := 46) dX11_count_179 zC_45 (fun _ => rfl) (by decide) (by decide) rfl ?_
    refine q_geti dX11_count_180 foX11_105 zC_46 rfl ?_
    refine q_aload_n (i := 0) (x := 0) dX11_count_183 rfl 0 rfl ?_
    refine q_getr (t := 44) dX11_count_184 foX11_29 zC_0 rfl ?_
    refine q_getr (t := 45) dX11_count_187 foX11_377 zC_44 rfl ?_
    refine q_iconst (v := 1) dX11_count_190 (by decide) ?_
    refine q_aaldC (t0 := 7) (j := 1) (t := 48) dX11_count_191 zC_45 (fun _ => rfl) (by decide) (by decide) rfl ?_
    refine q_geti dX11_count_192 foX11_105 zC_48 rfl ?_
    refine q_iadd dX11_count_195 ?_
    exact q_ireti (y := (((gi y9 46 3) + (gi y9 48 3)), y9)) dX11_count_196 rfl rfl
  refine q_tsw (tgt := 197) 8 dX11_count_1 (by decide) (by decide) rfl (by decide) ?_ (fun hs10 => ?_)
  · refine q_aload_n (i := 0) (x := 0) dX11_count_197 rfl 0 rfl ?_
    refine q_geti dX11_count_198 foX11_66 zC_0 rfl ?_
    exact q_ireti (y := ((gi σ 0 10), σ)) dX11_count_201 rfl rfl
  refine q_tsw (tgt := 235) 9 dX11_count_1 (by decide) (by decide) rfl (by decide) ?_ (fun hs11 => ?_)
  · exact q_sub [0, 1] rfl (aX11_count_b235 N p1 σ)
  refine q_tsw (tgt := 235) 10 dX11_count_1 (by decide) (by decide) rfl (by decide) ?_ (fun hs12 => ?_)
  · exact q_sub [0, 1] rfl (aX11_count_b235 N p1 σ)
  refine q_tsw (tgt := 235) 11 dX11_count_1 (by decide) (by decide) rfl (by decide) ?_ (fun hs13 => ?_)
  · exact q_sub [0, 1] rfl (aX11_count_b235 N p1 σ)
  refine q_tsw (tgt := 235) 12 dX11_count_1 (by decide) (by decide) rfl (by decide) ?_ (fun hs14 => ?_)
  · exact q_sub [0, 1] rfl (aX11_count_b235 N p1 σ)
  refine q_tsw (tgt := 235) 13 dX11_count_1 (by decide) (by decide) rfl (by decide) ?_ (fun hs15 => ?_)
  · exact q_sub [0, 1] rfl (aX11_count_b235 N p1 σ)
  refine q_tsw (tgt := 202) 14 dX11_count_1 (by decide) (by decide) rfl (by decide) ?_ (fun hs16 => ?_)
  · refine q_aload_n (i := 0) (x := 0) dX11_count_202 rfl 0 rfl ?_
    refine q_getr (t := 1) dX11_count_203 foX11_12 zC_0 rfl ?_
    refine q_getr (t := 25) dX11_count_206 foX11_197 zC_1 rfl ?_
    refine q_geti dX11_count_209 foX11_105 zC_25 rfl ?_
    exact q_ireti (y := ((gi σ 25 3), σ)) dX11_count_212 rfl rfl
  refine q_tsw (tgt := 213) 15 dX11_count_1 (by decide) (by decide) rfl (by decide) ?_ (fun hs17 => ?_)
  · refine q_aload_n (i := 0) (x := 0) dX11_count_213 rfl 0 rfl ?_
    refine q_getr (t := 1) dX11_count_214 foX11_12 zC_0 rfl ?_
    refine q_getr (t := 27) dX11_count_217 foX11_278 zC_1 rfl ?_
    refine q_geti dX11_count_220 foX11_105 zC_27 rfl ?_
    exact q_ireti (y := ((gi σ 27 3), σ)) dX11_count_223 rfl rfl
  refine q_tsw (tgt := 224) 16 dX11_count_1 (by decide) (by decide) rfl (by decide) ?_ (fun hs18 => ?_)
  · refine q_aload_n (i := 0) (x := 0) dX11_count_224 rfl 0 rfl ?_
    refine q_getr (t := 1) dX11_count_225 foX11_12 zC_0 rfl ?_
    refine q_getr (t := 15) dX11_count_228 foX11_159 zC_1 rfl ?_
    refine q_geti dX11_count_231 foX11_163 zC_15 rfl ?_
    exact q_ireti (y := ((gi σ 15 2), σ)) dX11_count_234 rfl rfl
  refine q_tswD (tgt := 235) dX11_count_1 (swout_17 hs1 hs2 hs3 hs4 hs5 hs6 hs7 hs8 hs10 hs11 hs12 hs13 hs14 hs15 hs16 hs17 hs18) (by decide) ?_
  exact q_sub [0, 1] rfl (aX11_count_b235 N p1 σ)
theorem kX11_count  (N : Nat) (p1 : Int32)  (σ : qMem) : qMc wC mX11_count (ρi) [.ref 0, .int p1] σ (fX11_count N p1 σ) := qMc_of (moX11_count) (Nat.le_of_ble_eq_true rfl) (aX11_count N p1  σ)

theorem dX11_status_0 : decode cX11_status 0 = .ok (.aload_n 0, 1) := by decide +kernel
theorem dX11_status_1 : decode cX11_status 1 = .ok (.getfield 76, 3) := by decide +kernel
theorem dX11_status_4 : decode cX11_status 4 = .ok (.ireturn, 1) := by decide +kernel

def fX11_status  (σ : qMem) : Option Int32 :=
  (some (gi σ 0 13))
set_option maxRecDepth 20000 in
set_option maxHeartbeats 4000000 in
theorem aX11_status    (σ : qMem) : qAt wC mX11_status (ρp σ) 0 [(0, .ref 0)] [] σ (fX11_status σ) := by
  unfold fX11_status
  refine q_aload_n (i := 0) (x := 0) dX11_status_0 rfl 0 rfl ?_
  refine q_geti dX11_status_1 foX11_76 zC_0 rfl ?_
  exact q_ireti (y := (gi σ 0 13)) dX11_status_4 rfl rfl
theorem kX11_status    (σ : qMem) : qMc wC mX11_status (ρp σ) [.ref 0] σ (fX11_status σ) := qMc_of (moX11_status) (Nat.le_of_ble_eq_true rfl) (aX11_status  σ)

