/-! the tape: row -/
theorem grow_heard {LW : LWt} {σ τ σ1 τ1 : qMem} {a1 a2 a3 n : Int} (hLW : LWc LW) (s1 : bookS σ.1 1) (bk : bookK σ.1 1 (τ.1 2)) (kw : KW (τ.1 2)) (lw : LW σ.1 1 (τ.1 2)) (hn : n = kI (τ.1 2) 300) (hm : n < 24) (r1 : 0 ≤ a1 ∧ a1 ≤ 1) (r2 : 0 ≤ a2 ∧ a2 ≤ 23) (r3 : 0 ≤ a3 ∧ a3 ≤ 79)
    (g1 : ∀ k' j, gi σ1 k' j = if k' = 19 ∧ j = 3 then zI (n + 1) else if k' = 19 + 1 ∧ (n * 3).toNat ≤ j ∧ j < (n * 3).toNat + ((3 : Int)).toNat then v5 (zI a1) (zI a2) (zI a3) 0 0 (j - (n * 3).toNat) else gi σ k' j)
    (g2 : ∀ k j, gi τ1 k j = if k = 2 ∧ j = 300 then zI (n + 1) else if k = 2 ∧ (80 + 3 * n).toNat ≤ j ∧ j < (80 + 3 * n).toNat + 3 then v5 (zI a1) (zI a2) (zI a3) 0 0 (j - (80 + 3 * n).toNat) else gi τ k j) : bookS σ1.1 1 ∧ bookK σ1.1 1 (τ1.1 2) ∧ KW (τ1.1 2) ∧ LW σ1.1 1 (τ1.1 2) := by
  obtain ⟨t1, t2, t3, t4, t5, t6, t7, t8, t9, t10, t11, t12, t13⟩ := bk
  obtain ⟨k1, k2, k3, k4, k5, k6, k7, k8, k9, k10⟩ := kw
  have hn0 : 0 ≤ n := by have := k3.1; omega
  have om : ∀ k j, k ≠ 19 → k ≠ 20 → σ1.1 k j = σ.1 k j := fun k j q1 q2 => by
    show gi σ1 k j = gi σ k j
    rw [g1, if_neg (by omega), if_neg (by omega)]
  have ok : ∀ j, j ≠ 300 → ¬ ((80 + 3 * n).toNat ≤ j ∧ j < (80 + 3 * n).toNat + 3) → τ1.1 2 j = τ.1 2 j := fun j q1 q2 => by
    show gi τ1 2 j = gi τ 2 j
    rw [g2, if_neg (by omega), if_neg (by omega)]
  have on : τ1.1 2 300 = zI (n + 1) := by
    show gi τ1 2 300 = _
    rw [g2, if_pos ⟨rfl, rfl⟩]
  have ov : ∀ j, (80 + 3 * n).toNat ≤ j → j < (80 + 3 * n).toNat + 3 → τ1.1 2 j = v5 (zI a1) (zI a2) (zI a3) 0 0 (j - (80 + 3 * n).toNat) := fun j q1 q2 => by
    show gi τ1 2 j = _
    rw [g2, if_neg (by omega), if_pos ⟨rfl, q1, q2⟩]
  refine ⟨?_, ?_, ?_, ?_⟩
  · have : bookS σ1.1 1 = bookS σ.1 1 := bookS_d (fun k j q1 q3 => by
      show gi σ1 k j = gi σ k j
      rcases (by omega : k = 19 ∨ (k ≠ 19 ∧ k ≠ 20)) with q | q
      · rw [g1, if_neg (by omega), if_neg (by omega)]
      · exact om k j q.1 q.2)
    rw [this]; exact s1
  · refine ⟨?_, ?_, ?_, ?_, ?_, ?_, ?_, ?_, ?_, ?_, ?_, ?_, ?_⟩
    · exact boatT_k (by omega) k1 (fun j hj => ok j (by omega) (by omega)) (fun k j _ _ => om k j (by omega) (by omega)) t1
    · exact boatT_k (by omega) k1 (fun j hj => ok j (by omega) (by omega)) (fun k j _ _ => om k j (by omega) (by omega)) t2
    · exact ⟨(om _ _ (by omega) (by omega)).trans (t3.1.trans (ok _ (by omega) (by omega)).symm), fun j hj => (om _ _ (by omega) (by omega)).trans ((t3.2 j hj).trans (ok _ (by omega) (by omega)).symm)⟩
    · exact fun j hj => (om _ _ (by omega) (by omega)).trans ((t4 j hj).trans (ok _ (by omega) (by omega)).symm)
    · refine rowE_add (a := (n * 3).toNat) (w := 3) (v := v5 (zI a1) (zI a2) (zI a3) 0 0) (n := zI (n + 1)) ((g1 _ _).trans (if_pos ⟨rfl, rfl⟩)) (fun j => ?_) on (fun j q1 q2 => ?_) t5
      · have e := g1 20 j
        rw [if_neg (by omega)] at e
        by_cases q : (n * 3).toNat ≤ j ∧ j < (n * 3).toNat + 3
        · rw [if_pos ⟨rfl, q.1, q.2⟩] at e
          rw [if_pos q]
          exact e
        · rw [if_neg (fun z => q z.2)] at e
          rw [if_neg q]
          exact e
      · by_cases q : 80 + (n * 3).toNat ≤ j ∧ j < 80 + (n * 3).toNat + 3
        · rw [if_pos q, ov j (by omega) (by omega)]
          congr 1
          omega
        · rw [if_neg q]
          exact ok j (by omega) (by omega)
    · exact rowE_k (om _ _ (by omega) (by omega)) (fun j => om _ _ (by omega) (by omega)) (ok _ (by omega) (by omega)) (fun j _ _ => ok _ (by omega) (by omega)) t6
    · exact ⟨(om _ _ (by omega) (by omega)).trans (t7.1.trans (ok _ (by omega) (by omega)).symm), fun w hw => by
      have e : kI (τ1.1 2) 302 = kI (τ.1 2) 302 := kI_e (ok _ (by omega) (by omega))
      have b := k5.1
      rw [e] at hw
      rw [om _ _ (by omega) (by omega), om _ _ (by omega) (by omega), om _ _ (by omega) (by omega), om _ _ (by omega) (by omega), om _ _ (by omega) (by omega), ok (188 + 2 * w) (by omega) (by omega), ok (188 + 2 * w + 1) (by omega) (by omega)]
      exact t7.2 w hw⟩
    · exact rowE_k (om _ _ (by omega) (by omega)) (fun j => om _ _ (by omega) (by omega)) (ok _ (by omega) (by omega)) (fun j _ _ => ok _ (by omega) (by omega)) t8
    · exact rowE_k (om _ _ (by omega) (by omega)) (fun j => om _ _ (by omega) (by omega)) (ok _ (by omega) (by omega)) (fun j _ _ => ok _ (by omega) (by omega)) t9
    · exact rowE_k (om _ _ (by omega) (by omega)) (fun j => om _ _ (by omega) (by omega)) (ok _ (by omega) (by omega)) (fun j _ _ => ok _ (by omega) (by omega)) t10
    · exact rowE_k (om _ _ (by omega) (by omega)) (fun j => om _ _ (by omega) (by omega)) (ok _ (by omega) (by omega)) (fun j _ _ => ok _ (by omega) (by omega)) t11
    · exact rowE_k (om _ _ (by omega) (by omega)) (fun j => om _ _ (by omega) (by omega)) (ok _ (by omega) (by omega)) (fun j _ _ => ok _ (by omega) (by omega)) t12
    · exact (om _ _ (by omega) (by omega)).trans (t13.trans (ok _ (by omega) (by omega)).symm)
  · refine ⟨?_, ?_, ?_, ?_, ?_, ?_, ?_, ?_, ?_, ?_⟩
    · exact KB_k (fun j hj => ok j (by omega) (by omega)) k1
    · exact KT_k (fun j hj => ok j (by omega) (by omega)) k2
    · have e : kI (τ1.1 2) 300 = n + 1 := by
        show (τ1.1 2 300).toInt = _
        rw [on, zI_toInt (by omega) (by omega)]
      have nw : ∀ (i : Nat) (y : Int), i < 3 → y = 80 + 3 * n + i → kI (τ1.1 2) y = (v5 (zI a1) (zI a2) (zI a3) 0 0 i).toInt := fun i y q1 q2 => by
        show (τ1.1 2 y.toNat).toInt = _
        rw [ov _ (by omega) (by omega), show y.toNat - (80 + 3 * n).toNat = i by omega]
      unfold KH
      rw [e]
      refine ⟨by omega, fun x x0 x1 => ?_⟩
      by_cases q : x < n
      · rw [kI_e (κ := τ.1 2) (j := 80 + 3 * x) (ok _ (by omega) (by omega)), kI_e (κ := τ.1 2) (j := 80 + 3 * x + 1) (ok _ (by omega) (by omega)), kI_e (κ := τ.1 2) (j := 80 + 3 * x + 2) (ok _ (by omega) (by omega))]
        exact k3.2 x x0 (by omega)
      · rw [show kI (τ1.1 2) (80 + 3 * x) = a1 from (nw 0 (80 + 3 * x) (by omega) (by omega)).trans (zI_toInt (a := a1) (by omega) (by omega)), show kI (τ1.1 2) (80 + 3 * x + 1) = a2 from (nw 1 (80 + 3 * x + 1) (by omega) (by omega)).trans (zI_toInt (a := a2) (by omega) (by omega)), show kI (τ1.1 2) (80 + 3 * x + 2) = a3 from (nw 2 (80 + 3 * x + 2) (by omega) (by omega)).trans (zI_toInt (a := a3) (by omega) (by omega))]
        omega
    · exact KE_k (fun j hj => ok j (by omega) (by omega)) k4
    · exact KR_k (fun j hj => ok j (by omega) (by omega)) k5
    · exact KS_k (fun j hj => ok j (by omega) (by omega)) k6
    · exact KG_k (fun j hj => ok j (by omega) (by omega)) k7
    · exact KO_k (fun j hj => ok j (by omega) (by omega)) k8
    · exact KP_k (fun j hj => ok j (by omega) (by omega)) k9
    · exact KC_k (fun j hj => ok j (by omega) (by omega)) k10
  · exact hLW _ _ _ _ _ _ (lawE_c (fun k j q1 q2 _ => om k j (by omega) (by omega))) (fun j q1 q2 => ok j (by omega) (by omega)) lw
theorem Inv_torn {LW : LWt} {c : Nat} {σ τ σ' τ' : qMem} (hLW : LWc LW) (h : Inv LW c σ τ) (oσ : ∀ k j, ¬ ((k = 0 ∧ (j = 10 ∨ j = 12)) ∨ k = 86) → gi σ' k j = gi σ k j) (oτ : ∀ k j, ¬ ((k = 0 ∧ (j = 28 ∨ j = 8)) ∨ k = 18 ∨ k = 19) → gi τ' k j = gi τ k j) (ht : tapeR σ' τ') (hT : gi σ' 0 12 = gi τ' 0 8) : Inv LW c σ' τ' := by
  obtain ⟨v, s1, s2, s3, s4, b1, k1, l1, im, tp, ms, rf, cc, rc, wo⟩ := h
  have eκ : τ'.1 2 = τ.1 2 := funext fun j => oτ 2 j (by omega)
  have e3 : ∀ k, imK τ'.1 k = imK τ.1 k := fun k => funext fun j => oτ 3 _ (by omega)
  refine ⟨?_, ?_, ?_, ?_, ?_, ?_, ?_, ?_, fun k hk2 => ?_, ht, ?_, ?_, ?_, ?_, ?_⟩
  · rw [oτ 0 2 (by omega)]; omega
  · rw [bookS_d (m := σ.1) (m' := σ'.1) (fun k j q1 q2 => oσ k j (by omega))]; exact s1
  · rw [bookS_d (m := σ.1) (m' := σ'.1) (fun k j q1 q2 => oσ k j (by omega))]; exact s2
  · rw [bookS_d (m := σ.1) (m' := σ'.1) (fun k j q1 q2 => oσ k j (by omega))]; exact s3
  · exact ⟨(oσ 79 0 (by omega)).trans s4.1, (oσ 79 1 (by omega)).trans s4.2⟩
  · rw [eκ, bookK_c (m := σ.1) (m' := σ'.1) (fun k j q1 q2 q3 q4 => oσ k j (by omega))]; exact b1
  · rw [eκ]; exact k1
  · rw [eκ]; exact hLW _ _ _ _ _ _ (lawE_c (fun k j h1 h2 _ => oσ k j (by omega))) (fun _ _ _ => rfl) l1
  · have := im k hk2
    rw [oσ 43 k (by omega), oτ 4 k (by omega), e3]
    refine ⟨this.1, fun z => ?_⟩
    obtain ⟨p, q, r⟩ := this.2 z
    refine ⟨?_, q, ?_⟩
    · rw [bookK_c (m := σ.1) (m' := σ'.1) (fun i j h1 h2 _ _ => oσ i j (by omega))]; exact p
    · exact hLW _ _ _ _ _ _ (lawE_c (fun i j h1 h2 _ => oσ i j (by omega))) (fun _ _ _ => rfl) r
  · rw [oσ 0 11 (by omega), oσ 0 13 (by omega), oτ 0 29 (by omega), oτ 0 0 (by omega)]
    exact ⟨ms.1, hT, ms.2.2⟩
  · rw [oσ 87 0 (by omega), oσ 87 1 (by omega), oσ 87 2 (by omega), oσ 87 3 (by omega), oσ 87 4 (by omega), oτ 1 1 (by omega), oτ 1 2 (by omega), oτ 1 3 (by omega), oτ 1 5 (by omega), oτ 1 6 (by omega)]
    exact rf
  · rw [eκ]; exact CC_c (m := σ.1) (m' := σ'.1) (fun k j hh => oσ k j (by omega)) cc
  · rw [eκ]; exact RC_c (t := τ.1) (t' := τ'.1) (fun k j hh => oτ k j (by omega)) rc
  · intro j x hx
    rw [oτ 17 j (by omega)]
    exact wo j x hx
theorem byte_tabl : ∀ n : Fin 256, zI ((n.val : Int) - 128) &&& 255 = zI (if n.val < 128 then (n.val : Int) + 128 else (n.val : Int) - 128) := by decide +kernel
theorem byte_and {b : Int32} (h : b = b.toInt8.toInt32) : ∃ z : Int, -128 ≤ z ∧ z ≤ 127 ∧ b = zI z ∧ b &&& 255 = zI (if z < 0 then z + 256 else z) := by
  have e : b.toInt = b.toInt8.toInt := by
    have := congrArg Int32.toInt h
    rwa [Int8.toInt_toInt32] at this
  have l := Int8.le_toInt b.toInt8
  have u := Int8.toInt_le b.toInt8
  rw [← e] at l u
  have l' : -128 ≤ b.toInt := l
  have u' : b.toInt ≤ 127 := u
  refine ⟨b.toInt, l', u', (zI_of b).symm, ?_⟩
  have t := byte_tabl ⟨(b.toInt + 128).toNat, by omega⟩
  simp only at t
  rw [show (((b.toInt + 128).toNat : Nat) : Int) - 128 = b.toInt by omega, zI_of] at t
  rw [t]
  congr 1
  by_cases q : b.toInt < 0
  · rw [if_pos q, if_pos (by omega)]; omega
  · rw [if_neg q, if_neg (by omega)]
theorem r_hearsNew {τ : qMem} {n : Int} (a b c : Int32) (gn : gi τ 2 300 = zI n) (n0 : 0 ≤ n) (n1 : n < 24) : ∃ τ1, fX12_hearsNew a b c τ = some τ1 ∧ ∀ k j, gi τ1 k j = if k = 2 ∧ j = 300 then zI (n + 1) else if k = 2 ∧ (80 + 3 * n).toNat ≤ j ∧ j < (80 + 3 * n).toNat + 3 then v5 a b c 0 0 (j - (80 + 3 * n).toNat) else gi τ k j := by
  have gt := gcnt3 (τ := τ) (r := 2) (a0 := (80 + 3 * n).toNat) (a1 := (80 + 3 * n + 1).toNat) (a2 := (80 + 3 * n + 2).toNat) (cnt := Int.toNat 300) (x := a) (y := b) (z := c) (n := n) 0 0 (by omega) (by omega) (by omega) gn
  refine ⟨_, ?_, gt⟩
  have gn' : gi τ 2 (Int.toNat 300) = zI n := gn
  unfold fX12_hearsNew
  simp (disch := omega) only [zl_0, zl_1, zl_2, zl_3, zl_4, zl_5, zl_6, zl_7, zl_8, zl_9, zl_10, zl_11, zl_12, zl_13, zl_14, zl_15, zl_16, zl_17, zl_18, zl_19, zl_20, zl_21, zl_22, zl_23, zl_24, zl_25, zl_26, zl_27, zl_28, zl_29, zl_30, zl_31, zl_32, zl_33, zl_34, zl_35, zl_36, zl_37, zl_38, zl_39, zl_40, zl_41, zl_42, zl_43, zl_44, zl_45, zl_46, zl_47, zl_48, zl_49, zl_50, zl_51, zl_57, zl_59, zl_60, zl_61, zl_62, zl_63, zl_64, zl_65, zl_66, zl_67, zl_68, zl_69, zl_70, zl_71, zl_72, zl_73, zl_74, zl_75, zl_76, zl_77, zl_78, zl_79, zl_80, zl_81, zl_86, zl_87, zl_88, zl_89, zl_91, zl_93, zl_97, zl_99, zl_100, zl_108, zl_110, zl_122, zl_144, zl_152, zl_188, zl_199, zl_200, zl_201, zl_204, zl_220, zl_224, zl_226, zl_238, zl_255, zl_268, zl_300, zl_301, zl_302, zl_303, zl_304, zl_305, zl_306, zl_307, zl_308, zl_309, zl_310, zl_312, zl_400, zl_401, zl_712, zl_768, zl_1000, zl_1112, zl_1500, zl_1568, zl_2224, zl_3000, zl_20100, zl_50176, zl_60000, zl_100000, zl_117648, zl_1000000, zl_10000000, zl_1000000000, zI_add, zI_sub, zI_mul, nmI, nmM, zI_clamp, gn', zI_ckT, if_true]
def rowZ (LW : LWt) (σ τ σi τi : qMem) : Prop := (∀ k j, ¬ ((k = 0 ∧ j = 12) ∨ k = 19 ∨ k = 20) → gi σi k j = gi σ k j) ∧ (∀ k j, ¬ ((k = 0 ∧ (j = 8 ∨ j = 28)) ∨ k = 2) → gi τi k j = gi τ k j) ∧ gi τi 0 28 = 0 ∧ gi σi 0 12 = gi τi 0 8 ∧ bookS σi.1 1 ∧ bookK σi.1 1 (τi.1 2) ∧ KW (τi.1 2) ∧ LW σi.1 1 (τi.1 2)
theorem row_end {LW : LWt} {c : Nat} {σ τ σi τi : qMem} {v : Int32} (hLW : LWc LW) (hc : c ≤ 600) (h : Inv LW c σ τ) (z : rowZ LW σ τ σi τi) : Both LW c (fX11_changed v (si σi 0 10 0)) (fX12_good v τi) := by
  obtain ⟨z1, z2, z3, z4, z5, z6, z7, z8⟩ := z
  have hI : Inv LW c (si (si σ 0 10 0) 0 12 (gi σi 0 12)) (si (si τ 0 28 0) 0 8 (gi τi 0 8)) := by
    refine Inv_torn hLW h (fun k j hk => by rw [gi_si, if_neg (by omega), gi_si, if_neg (by omega)]) (fun k j hk => by rw [gi_si, if_neg (by omega), gi_si, if_neg (by omega)]) ?_ ?_
    · have g : gi (si (si τ 0 28 0) 0 8 (gi τi 0 8)) 0 28 = 0 := by rw [gi_si, if_neg (by omega), gi_si, if_pos ⟨rfl, rfl⟩]
      have g' : gi (si (si σ 0 10 0) 0 12 (gi σi 0 12)) 0 10 = 0 := by rw [gi_si, if_neg (by omega), gi_si, if_pos ⟨rfl, rfl⟩]
      unfold tapeR
      rw [g, g', show (0 : Int32).toInt = 0 from rfl]
      exact ⟨rfl, by omega, by omega, fun j hj => by omega⟩
    · rw [gi_si, if_pos ⟨rfl, rfl⟩, gi_si, if_pos ⟨rfl, rfl⟩, z4]
  refine both_changed hLW hc hI (fun k j hk => ?_) (fun k j hk => ?_) ?_ ?_ z7 ?_
  · rw [gi_si, gi_si]
    by_cases q : k = 0 ∧ j = 10
    · rw [if_pos q, if_neg (by omega), gi_si, if_pos q]
    · rw [if_neg q]
      by_cases q2 : k = 0 ∧ j = 12
      · rw [if_pos q2, q2.1, q2.2]
      · rw [if_neg q2, gi_si, if_neg q]; exact z1 k j (by omega)
  · rw [gi_si, gi_si]
    by_cases q2 : k = 0 ∧ j = 8
    · rw [if_pos q2, q2.1, q2.2]
    · rw [if_neg q2]
      by_cases q : k = 0 ∧ j = 28
      · rw [if_pos q, q.1, q.2, z3]
      · rw [if_neg q]; exact z2 k j (by omega)
  · rw [bookS_d (m := σi.1) (m' := (si σi 0 10 0).1) (fun k j q1 q2 => by show gi _ k j = gi _ k j; rw [gi_si, if_neg (by omega)])]; exact z5
  · rw [bookK_c (m := σi.1) (m' := (si σi 0 10 0).1) (fun k j q1 q2 q3 q4 => by show gi _ k j = gi _ k j; rw [gi_si, if_neg (by omega)])]; exact z6
  · exact hLW _ _ _ _ _ _ (lawE_c (fun k j h1 h2 _ => by show gi _ k j = gi _ k j; rw [gi_si, if_neg (by omega)])) (fun _ _ _ => rfl) z8
set_option maxHeartbeats 2000000 in
theorem row_loop {LW : LWt} {c N : Nat} {σ τ : qMem} {L : Int} (hLW : LWc LW) (hc : c ≤ 600) (h : Inv LW c σ τ) (hL : (gi τ 0 28).toInt = L) : ∀ (m n n' : Nat) (i : Int) (v : Int32) (σi τi : qMem), m < n → m < n' → 0 ≤ i → i + 3 * m ≤ L → L < i + 3 * m + 3 → rowZ LW σ τ σi τi → Both LW c (fX11_row_l36 N n v (zI i) σi) (fX12_row_l40 N n' (zI L) v (zI i) τi) := by
  obtain ⟨t1, t2, t3, t4⟩ := Inv_tp h
  rw [hL] at t2 t3 t4
  have e10 : ∀ σi, (∀ k j, ¬ ((k = 0 ∧ j = 12) ∨ k = 19 ∨ k = 20) → gi σi k j = gi σ k j) → gi σi 0 10 = zI L := fun σi q => by rw [q 0 10 (by omega), t1, ← hL, zI_of]
  intro m
  induction m with
  | zero =>
    intro n n' i v σi τi hn hn' i0 h1 h2 z
    obtain ⟨n, rfl⟩ : ∃ k, n = k + 1 := ⟨n - 1, by omega⟩
    obtain ⟨n', rfl⟩ : ∃ k, n' = k + 1 := ⟨n' - 1, by omega⟩
    show Both LW c (fX11_row_s36 N _ v (zI i) σi) (fX12_row_s40 N _ (zI L) v (zI i) τi)
    unfold fX11_row_s36 fX12_row_s40
    have c1 : (gi σi 0 10 ≤ zI i + 2) = True := by rw [e10 σi z.1, show (2 : Int32) = zI 2 from rfl, zI_add, zI_le (by omega) (by omega) (by omega) (by omega)]; exact eq_true (by omega)
    have c2 : (zI L < zI i + 3) = True := by rw [show (3 : Int32) = zI 3 from rfl, zI_add, zI_lt (by omega) (by omega) (by omega) (by omega)]; exact eq_true (by omega)
    simp only [c1, c2, if_true, nmM, eta2]
    exact row_end hLW hc h z
  | succ m ih =>
    intro n n' i v σi τi hn hn' i0 h1 h2 z
    obtain ⟨n, rfl⟩ : ∃ k, n = k + 1 := ⟨n - 1, by omega⟩
    obtain ⟨n', rfl⟩ : ∃ k, n' = k + 1 := ⟨n' - 1, by omega⟩
    show Both LW c (fX11_row_s36 N _ v (zI i) σi) (fX12_row_s40 N _ (zI L) v (zI i) τi)
    unfold fX11_row_s36 fX12_row_s40
    have c1 : (gi σi 0 10 ≤ zI (i + 2)) = False := by rw [e10 σi z.1, zI_le (by omega) (by omega) (by omega) (by omega)]; exact eq_false (by omega)
    have c2 : (zI L < zI i + 3) = False := by rw [show (3 : Int32) = zI 3 from rfl, zI_add, zI_lt (by omega) (by omega) (by omega) (by omega)]; exact eq_false (by omega)
    have a1 : zI i + 1 = zI (i + 1) := by rw [show (1 : Int32) = zI 1 from rfl, zI_add]
    have a2 : zI i + 2 = zI (i + 2) := by rw [show (2 : Int32) = zI 2 from rfl, zI_add]
    have k0 : (ck (zI i) 400 = true) = True := zI_ckT (by omega) (by omega) (by omega)
    have k1 : (ck (zI (i + 1)) 400 = true) = True := zI_ckT (by omega) (by omega) (by omega)
    have k2 : (ck (zI (i + 2)) 400 = true) = True := zI_ckT (by omega) (by omega) (by omega)
    have z0 : (zI i).toNatClampNeg = i.toNat := zI_clamp (by omega) (by omega)
    have z1 : (zI (i + 1)).toNatClampNeg = (i + 1).toNat := zI_clamp (by omega) (by omega)
    have z2 : (zI (i + 2)).toNatClampNeg = (i + 2).toNat := zI_clamp (by omega) (by omega)
    simp only [c1, c2, if_false, a1, a2, k0, k1, k2, if_true, z0, z1, z2]
    obtain ⟨y1, y2, y3, y4, y5, y6, y7, y8⟩ := z
    have g : ∀ j : Nat, (j : Int) < L → ∃ x : Int, -128 ≤ x ∧ x ≤ 127 ∧ gi τi 18 j = zI x ∧ gi σi 86 j = zI (if x < 0 then x + 256 else x) := fun j hj => by
      obtain ⟨q1, q2⟩ := t4 j hj
      obtain ⟨x, x1, x2, x3, x4⟩ := byte_and q1
      exact ⟨x, x1, x2, (y2 18 j (by omega)).trans x3, (y1 86 j (by omega)).trans (q2.trans x4)⟩
    obtain ⟨x1, l1, u1, r1, s1⟩ := g i.toNat (by omega)
    obtain ⟨x2, l2, u2, r2, s2⟩ := g (i + 1).toNat (by omega)
    obtain ⟨x3, l3, u3, r3, s3⟩ := g (i + 2).toNat (by omega)
    rw [r1, r2, r3, s1, s2, s3]
    generalize w1 : (if x1 < 0 then x1 + 256 else x1) = w1'
    generalize w2 : (if x2 < 0 then x2 + 256 else x2) = w2'
    generalize w3 : (if x3 < 0 then x3 + 256 else x3) = w3'
    have v1 : (0 ≤ w1' ∧ w1' ≤ 255) ∧ ((0 ≤ w1' ∧ w1' ≤ 1) ↔ (0 ≤ x1 ∧ x1 ≤ 1)) ∧ (0 ≤ x1 → w1' = x1) := by rw [← w1]; split <;> omega
    have v2 : (0 ≤ w2' ∧ w2' ≤ 255) ∧ ((0 ≤ w2' ∧ w2' ≤ 23) ↔ (0 ≤ x2 ∧ x2 ≤ 23)) ∧ (0 ≤ x2 → w2' = x2) := by rw [← w2]; split <;> omega
    have v3 : (0 ≤ w3' ∧ w3' ≤ 255) ∧ (w3' < 80 ↔ (0 ≤ x3 ∧ x3 ≤ 79)) ∧ (0 ≤ x3 → w3' = x3) := by rw [← w3]; split <;> omega
    clear w1 w2 w3 g
    have kh := y7.2.2.1.1
    have w0 : gi σi 19 0 = zI 3 := y5.2.2.1.1
    have w1 : gi σi 19 1 = zI 24 := y5.2.2.1.2
    have gn : gi τi 2 300 = zI (kI (τi.1 2) 300) := (zI_of _).symm
    have w3 : gi σi 19 3 = zI (kI (τi.1 2) 300) := y6.2.2.2.2.1.1.trans gn
    have skip : Both LW c (fX11_row_b91 N (fX11_row_l36 N n) v (zI i) (si σi 0 12 (gi σi 0 12 + 1))) (fX12_row_b107 N (fX12_row_l40 N n') (zI L) v (zI i) τi) := by
      unfold fX12_row_b107 fX12_row_b108
      rw [if_pos rfl]
      unfold fX12_row_b141
      rw [if_pos rfl]
      unfold fX12_row_b152
      rw [if_pos rfl]
      unfold fX11_row_b91 fX12_row_b169
      simp only [nmM]
      rw [show v + 0 = v from Int32.add_zero v, show zI i + 3 = zI (i + 3) by rw [show (3 : Int32) = zI 3 from rfl, zI_add]]
      refine ih n n' (i + 3) v _ _ (by omega) (by omega) (by omega) (by omega) (by omega) ⟨fun k j hk => ?_, fun k j hk => ?_, ?_, ?_, ?_, ?_, ?_, ?_⟩
      · rw [gi_si, if_neg (by omega)]; exact y1 k j hk
      · rw [gi_si, if_neg (by omega)]; exact y2 k j hk
      · rw [gi_si, if_neg (by omega)]; exact y3
      · rw [gi_si, if_pos ⟨rfl, rfl⟩, gi_si, if_pos ⟨rfl, rfl⟩, y4]
      · rw [bookS_d (m := σi.1) (fun k j q1 q2 => by show gi _ k j = gi _ k j; rw [gi_si, if_neg (by omega)])]; exact y5
      · rw [row_si (by decide), bookK_c (m := σi.1) (fun k j q1 q2 q3 q4 => by show gi _ k j = gi _ k j; rw [gi_si, if_neg (by omega)])]; exact y6
      · rw [row_si (by decide)]; exact y7
      · rw [row_si (by decide)]; exact hLW _ _ _ _ _ _ (lawE_c (fun k j h1 h2 _ => by show gi _ k j = gi _ k j; rw [gi_si, if_neg (by omega)])) (fun _ _ _ => rfl) y8
    unfold fX11_cameFromTape
    rw [e_isBoat (by omega) (by omega), r_isBoat (by omega) (by omega), Option.bind_some, Option.bind_some, if_bI, if_bI]
    by_cases q1 : 0 ≤ x1 ∧ x1 ≤ 1
    · rw [decide_eq_true (v1.2.1.mpr q1), decide_eq_true q1, if_pos (c := true = true) rfl, if_pos (c := true = true) rfl, e_isBell (by omega) (by omega), r_isBell (by omega) (by omega), Option.bind_some, Option.bind_some, if_bI, if_bI]
      by_cases q2 : 0 ≤ x2 ∧ x2 ≤ 23
      · have j3 : fX12_in (zI x3) 0 79 = some (bI (decide (0 ≤ x3 ∧ x3 ≤ 79))) := e_in (b := 0) (c := 79) (by omega) (by omega) (by omega) (by omega) (by omega) (by omega)
        have c3 : (zI w3' < 80) = (w3' < 80) := by rw [show (80 : Int32) = zI 80 from rfl, zI_lt (by omega) (by omega) (by omega) (by omega)]
        rw [decide_eq_true (v2.2.1.mpr q2), decide_eq_true q2, if_pos (c := true = true) rfl, if_pos (c := true = true) rfl, j3, Option.bind_some, if_bI]
        simp only [c3]
        by_cases q3 : 0 ≤ x3 ∧ x3 ≤ 79
        · rw [if_pos (v3.2.1.mpr q3), decide_eq_true q3, if_pos (c := true = true) rfl, if_pos (c := ck 300 1112 = true) (by decide)]
          rw [show (300 : Int32).toNatClampNeg = 300 from rfl, gn]
          generalize hk : kI (τi.1 2) 300 = cnt at *
          have c24 : (24 ≤ zI cnt) = (24 ≤ cnt) := by rw [show (24 : Int32) = zI 24 from rfl, zI_le (by omega) (by omega) (by omega) (by omega)]
          simp only [c24]
          by_cases q4 : 24 ≤ cnt
          · rw [if_pos q4]
            have ef : fX8_add 19 72 (zI w1') (zI w2') (zI w3') 0 0 σi = some (-1, σi) := by
              unfold fX8_add
              rw [e_full w1 w3 (by omega) (by omega) (by omega), Option.bind_some, decide_eq_true (by omega), bI_t, if_neg (by decide)]
            rw [ef]
            simp only [Option.bind_some, if_true, nmM]
            exact skip
          · rw [if_neg q4]
            obtain ⟨σ1, e1, g1⟩ := e_add (n := 72) (zI w1') (zI w2') (zI w3') 0 0 w0 w1 w3 (by omega) (by omega) (by omega) (by omega) (by omega) (by omega)
            rw [e1]
            have cn : (zI cnt = -1) = False := by rw [show (-1 : Int32) = zI (-1) from rfl, zI_eq (by omega) (by omega) (by omega) (by omega)]; exact eq_false (by omega)
            simp only [Option.bind_some, cn, if_false]
            rw [if_neg (c := (1 : Int32) = 0) (by decide)]
            unfold fX12_row_b108
            simp only [a1, a2, k0, k1, k2, if_true, z0, z1, z2]
            rw [if_neg (c := (1 : Int32) = 0) (by decide), r1, r2, r3]
            obtain ⟨τ1, e2, g2⟩ := r_hearsNew (zI x1) (zI x2) (zI x3) gn (by omega) (by omega)
            rw [e2, Option.bind_some]
            unfold fX12_row_b141
            rw [if_neg (c := (1 : Int32) = 0) (by decide)]
            unfold fX12_row_b152
            rw [if_neg (c := (1 : Int32) = 0) (by decide)]
            unfold fX11_row_b91 fX12_row_b169
            simp only [nmM]
            rw [show zI i + 3 = zI (i + 3) by rw [show (3 : Int32) = zI 3 from rfl, zI_add]]
            rw [v1.2.2 q1.1, v2.2.2 q2.1, v3.2.2 q3.1] at g1
            obtain ⟨o1, o2, o3, o4⟩ := grow_heard hLW y5 y6 y7 y8 hk.symm (by omega) q1 q2 q3 g1 g2
            refine ih n n' (i + 3) (v + 1) _ _ (by omega) (by omega) (by omega) (by omega) (by omega) ⟨fun k j hk => ?_, fun k j hk => ?_, ?_, ?_, o1, ?_, ?_, ?_⟩
            · rw [g1, if_neg (by omega), if_neg (by omega)]; exact y1 k j hk
            · rw [gi_si, if_neg (by omega), g2, if_neg (by omega), if_neg (by omega)]; exact y2 k j hk
            · rw [gi_si, if_neg (by omega), g2, if_neg (by omega), if_neg (by omega)]; exact y3
            · rw [g1, if_neg (by omega), if_neg (by omega), gi_si, if_pos ⟨rfl, rfl⟩, g2, if_neg (by omega), if_neg (by omega), y4]; exact (Int32.add_zero _).symm
            · rw [row_si (by decide)]; exact o2
            · rw [row_si (by decide)]; exact o3
            · rw [row_si (by decide)]; exact o4
        · rw [if_neg (fun z => q3 (v3.2.1.mp z)), decide_eq_false q3, if_neg (c := false = true) (by decide)]
          simp only [Option.bind_some, if_true, nmM]
          exact skip
      · rw [decide_eq_false (fun z => q2 (v2.2.1.mp z)), decide_eq_false q2, if_neg (c := false = true) (by decide), if_neg (c := false = true) (by decide)]
        simp only [Option.bind_some, if_true, nmM]
        exact skip
    · rw [decide_eq_false (fun z => q1 (v1.2.1.mp z)), decide_eq_false q1, if_neg (c := false = true) (by decide), if_neg (c := false = true) (by decide)]
      simp only [Option.bind_some, if_true, nmM]
      exact skip
theorem b_row {LW : LWt} {c N : Nat} {σ τ : qMem} (hN : 200000 ≤ N) (hLW : LWc LW) (hc : c ≤ 600) (h : Inv LW c σ τ) : Both LW c (fX11_row N σ) (fX12_row N τ) := by
  obtain ⟨t1, t2, t3, t4⟩ := Inv_tp h
  have en : gi τ 0 28 = zI (gi τ 0 28).toInt := (zI_of _).symm
  unfold fX11_row fX12_row
  simp only [nmM]
  rw [t1]
  by_cases q : gi τ 0 28 = 0
  · rw [if_pos q, if_pos q, eta2, eta2]
    have h' : Inv LW c σ (si τ 0 28 0) := by
      refine Inv_torn hLW h (fun k j hk => rfl) (fun k j hk => by rw [gi_si, if_neg (by omega)]) ?_ ?_
      · unfold tapeR
        have g : gi (si τ 0 28 0) 0 28 = 0 := by rw [gi_si, if_pos ⟨rfl, rfl⟩]
        rw [g, t1, q, show (0 : Int32).toInt = 0 from rfl]
        exact ⟨rfl, by omega, by omega, fun j hj => by omega⟩
      · rw [gi_si, if_neg (by omega)]; exact h.2.2.2.2.2.2.2.2.2.2.1.2.1
    exact both_refuse (w := -6) hLW h' (by omega)
  · rw [if_neg q, if_neg q]
    have key : ∀ u : Int32, Both LW c (fX11_row_b31 N 0 u σ) (fX12_row_b35 N (gi τ 0 28) 0 u (si τ 0 28 0)) := by
      intro u
      unfold fX11_row_b31 fX12_row_b35
      simp only [nmM]
      have hst := row_loop (N := N) (L := (gi τ 0 28).toInt) hLW hc h rfl ((gi τ 0 28).toInt / 3).toNat N N 0 0 (si σ 0 12 u) (si (si τ 0 28 0) 0 8 u) (by omega) (by omega) (by omega) (by omega) (by omega) ?_
      · rw [← en] at hst
        exact hst
      · obtain ⟨v, s1, s2, s3, s4, bk, kw, lw, im, tp, ms, rf, cc, rc, wo⟩ := h
        refine ⟨fun k j hk => ?_, fun k j hk => ?_, ?_, ?_, ?_, ?_, ?_, ?_⟩
        · rw [gi_si, if_neg (by omega)]
        · rw [gi_si, if_neg (by omega), gi_si, if_neg (by omega)]
        · rw [gi_si, if_neg (by omega), gi_si, if_pos ⟨rfl, rfl⟩]
        · rw [gi_si, if_pos ⟨rfl, rfl⟩, gi_si, if_pos ⟨rfl, rfl⟩]
        · rw [bookS_d (m := σ.1) (fun k j q1 q2 => by show gi _ k j = gi _ k j; rw [gi_si, if_neg (by omega)])]; exact s1
        · rw [row_si (by decide), row_si (by decide), bookK_c (m := σ.1) (fun k j q1 q2 q3 q4 => by show gi _ k j = gi _ k j; rw [gi_si, if_neg (by omega)])]; exact bk
        · rw [row_si (by decide), row_si (by decide)]; exact kw
        · rw [row_si (by decide), row_si (by decide)]; exact hLW _ _ _ _ _ _ (lawE_c (fun k j h1 h2 _ => by show gi _ k j = gi _ k j; rw [gi_si, if_neg (by omega)])) (fun _ _ _ => rfl) lw
    by_cases r : irm (gi τ 0 28) 3 = 0
    · rw [if_pos r, if_pos r]; exact key 0
    · rw [if_neg r, if_neg r]; exact key 1
