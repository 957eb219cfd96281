/-! one entry changed; boats -/
theorem acc_one {LW : LWt} {c : Nat} {σ τ : qMem} {k0 j0 i0 : Nat} {x ans : Int32} (hLW : LWc LW) (hc : c ≤ 600) (h0 : Inv LW c σ τ) (hk : (k0 = 18 ∧ j0 < 6 ∧ i0 = 44 + j0) ∨ (k0 = 15 ∧ j0 = 2 ∧ i0 = 310) ∨ (k0 = 16 ∧ j0 < 30 ∧ i0 = 50 + j0)) (hT : KT ((si τ 2 i0 x).1 2)) : Both LW c (fX11_changed ans (si σ k0 j0 x)) (fX12_good ans (si τ 2 i0 x)) := by
  have h := h0
  obtain ⟨v, s1, s2, s3, s4, bk, kw, lw, im, tp, ms, rf, cc, rc, wo⟩ := h
  obtain ⟨t1, t2, t3, t4, t5, t6, t7, t8, t9, t10, t11, t12, t13⟩ := bk
  obtain ⟨k1, k2, k3, k4, k5, k6, k7, k8, k9, k10⟩ := kw
  generalize hσ1 : si σ k0 j0 x = σ1
  generalize hτ1 : si τ 2 i0 x = τ1 at *
  have g1 : ∀ k j, σ1.1 k j = if k = k0 ∧ j = j0 then x else σ.1 k j := fun k j => by rw [← hσ1]; exact gi_si
  have g2 : ∀ j, τ1.1 2 j = if j = i0 then x else τ.1 2 j := fun j => by
    rw [← hτ1]
    show gi (si τ 2 i0 x) 2 j = _
    rw [gi_si]
    by_cases q : j = i0 <;> simp [q] <;> rfl
  have om : ∀ k j, k ≠ k0 → σ1.1 k j = σ.1 k j := fun k j q => by rw [g1, if_neg (by omega)]
  have ok : ∀ j, j ≠ i0 → τ1.1 2 j = τ.1 2 j := fun j q => by rw [g2, if_neg q]
  refine both_changed hLW hc h0 (fun k j q => om k j (by omega)) (fun k j q => ?_) ?_ ?_ ?_ ?_
  · rw [← hτ1, gi_si, if_neg (by omega)]
  · have : bookS σ1.1 1 = bookS σ.1 1 := by
      unfold bookS rowS
      simp (disch := omega) only [om]
    rw [this]; exact s1
  · refine ⟨?_, ?_, ?_, ?_, ?_, ?_, ?_, ?_, ?_, ?_, ?_, ?_, ?_⟩
    · exact boatT_k (by omega) k1 (fun j hj => ok j (by omega)) (fun k j _ _ => om k j (by omega)) t1
    · exact boatT_k (by omega) k1 (fun j hj => ok j (by omega)) (fun k j _ _ => om k j (by omega)) t2
    · refine ⟨?_, fun j hj => ?_⟩
      · rw [g1, g2]
        by_cases q : (1 + 14 = k0 ∧ 2 = j0)
        · rw [if_pos q, if_pos (by omega)]
        · rw [if_neg q, if_neg (by omega)]; exact t3.1
      · rw [g1, g2]
        by_cases q : (1 + 15 = k0 ∧ j = j0)
        · rw [if_pos q, if_pos (by omega)]
        · rw [if_neg q, if_neg (by omega)]; exact t3.2 j hj
    · intro j hj
      rw [g1, g2]
      by_cases q : (1 + 17 = k0 ∧ j = j0)
      · rw [if_pos q, if_pos (by omega)]
      · rw [if_neg q, if_neg (by omega)]; exact t4 j hj
    · exact rowE_k (om _ _ (by omega)) (fun j => om _ _ (by omega)) (ok _ (by omega)) (fun j _ _ => ok _ (by omega)) t5
    · exact rowE_k (om _ _ (by omega)) (fun j => om _ _ (by omega)) (ok _ (by omega)) (fun j _ _ => ok _ (by omega)) t6
    · refine ⟨(om _ _ (by omega)).trans (t7.1.trans (ok _ (by omega)).symm), fun w hw => ?_⟩
      have e : kI (τ1.1 2) 302 = kI (τ.1 2) 302 := kI_e (ok _ (by omega))
      have b := k5.1
      rw [e] at hw
      rw [om _ _ (by omega), om _ _ (by omega), om _ _ (by omega), om _ _ (by omega), om _ _ (by omega), ok (188 + 2 * w) (by omega), ok (188 + 2 * w + 1) (by omega)]
      exact t7.2 w hw
    · exact rowE_k (om _ _ (by omega)) (fun j => om _ _ (by omega)) (ok _ (by omega)) (fun j _ _ => ok _ (by omega)) t8
    · exact rowE_k (om _ _ (by omega)) (fun j => om _ _ (by omega)) (ok _ (by omega)) (fun j _ _ => ok _ (by omega)) t9
    · exact rowE_k (om _ _ (by omega)) (fun j => om _ _ (by omega)) (ok _ (by omega)) (fun j _ _ => ok _ (by omega)) t10
    · exact rowE_k (om _ _ (by omega)) (fun j => om _ _ (by omega)) (ok _ (by omega)) (fun j _ _ => ok _ (by omega)) t11
    · exact rowE_k (om _ _ (by omega)) (fun j => om _ _ (by omega)) (ok _ (by omega)) (fun j _ _ => ok _ (by omega)) t12
    · exact (om _ _ (by omega)).trans (t13.trans (ok _ (by omega)).symm)
  · exact ⟨KB_k (fun j hj => ok j (by omega)) k1, hT, KH_k (fun j hj => ok j (by omega)) k3, KE_k (fun j hj => ok j (by omega)) k4, KR_k (fun j hj => ok j (by omega)) k5, KS_k (fun j hj => ok j (by omega)) k6, KG_k (fun j hj => ok j (by omega)) k7, KO_k (fun j hj => ok j (by omega)) k8, KP_k (fun j hj => ok j (by omega)) k9, KC_k (fun j hj => ok j (by omega)) k10⟩
  · exact hLW _ _ _ _ _ _ (lawE_c (fun k j q1 q2 _ => om k j (by omega))) (fun j q1 q2 => ok j (by omega)) lw
theorem kI_si {τ : qMem} {i j x : Int} (hi : 0 ≤ i) (hj : 0 ≤ j) (h1 : -2147483648 ≤ x) (h2 : x < 2147483648) : kI ((si τ 2 i.toNat (zI x)).1 2) j = if j = i then x else kI (τ.1 2) j := by
  have e : (si τ 2 i.toNat (zI x)).1 2 = upd (τ.1 2) i.toNat (zI x) := by simp [si, sr]
  rw [e, kI_upd hj hi h1 h2]
theorem b_day {LW : LWt} {c : Nat} {σ τ : qMem} (hLW : LWc LW) (hc : c ≤ 600) (h : Inv LW c σ τ) (p1 : Int32) : Both LW c (fX11_day p1 σ) (fX12_day p1 τ) := by
  obtain ⟨a1, l1, u1, rfl⟩ := zI_ex p1
  have h0 := h
  obtain ⟨v, s1, s2, s3, s4, bk, kw, lw, im, tp, ms, rf, cc, rc, wo⟩ := h
  have gn : gi τ 2 (Int.toNat 310) = gi σ 15 2 := bk.2.2.1.1.symm
  unfold fX11_day fX12_day
  simp (disch := omega) only [zl_0, zl_1, zl_2, zl_3, zl_4, zl_5, zl_6, zl_7, zl_8, zl_9, zl_10, zl_11, zl_12, zl_13, zl_14, zl_15, zl_16, zl_17, zl_18, zl_19, zl_20, zl_21, zl_22, zl_23, zl_24, zl_25, zl_26, zl_27, zl_28, zl_29, zl_30, zl_31, zl_32, zl_33, zl_34, zl_35, zl_36, zl_37, zl_38, zl_39, zl_40, zl_41, zl_42, zl_43, zl_44, zl_45, zl_46, zl_47, zl_48, zl_49, zl_50, zl_51, zl_57, zl_59, zl_60, zl_61, zl_62, zl_63, zl_64, zl_65, zl_66, zl_67, zl_68, zl_69, zl_70, zl_71, zl_72, zl_73, zl_74, zl_75, zl_76, zl_77, zl_78, zl_79, zl_80, zl_81, zl_86, zl_87, zl_88, zl_89, zl_91, zl_93, zl_97, zl_99, zl_100, zl_108, zl_110, zl_122, zl_144, zl_152, zl_188, zl_199, zl_200, zl_201, zl_204, zl_220, zl_224, zl_226, zl_238, zl_255, zl_268, zl_300, zl_301, zl_302, zl_303, zl_304, zl_305, zl_306, zl_307, zl_308, zl_309, zl_310, zl_312, zl_400, zl_401, zl_712, zl_768, zl_1000, zl_1112, zl_1500, zl_1568, zl_2224, zl_3000, zl_20100, zl_50176, zl_60000, zl_100000, zl_117648, zl_1000000, zl_10000000, zl_1000000000, zI_neg, e_isIn, e_in, Option.bind_some, eta2, nmI, nmM, zI_clamp, gn, zI_ckT, if_true, bI_00, decide_eq_false_iff_not]
  by_cases q1 : 0 ≤ a1 ∧ a1 ≤ 2
  · simp only [q1, and_self, not_true_eq_false, if_false]
    refine acc_one hLW hc h0 (k0 := 15) (j0 := 2) (i0 := 310) (by omega) ?_
    have t := kw.2.1
    have e : ∀ j : Int, 0 ≤ j → kI ((si τ 2 (Int.toNat 310) (zI a1)).1 2) j = if j = 310 then a1 else kI (τ.1 2) j := fun j hj => kI_si (by omega) hj l1 u1
    show KT ((si τ 2 (Int.toNat 310) (zI a1)).1 2)
    unfold KT at t ⊢
    simp (disch := omega) only [e]
    simp
    omega
  · simp only [q1, not_false_eq_true, if_true]
    exact both_refuse hLW h0 (by omega)
theorem b_layer {LW : LWt} {c : Nat} {σ τ : qMem} (hLW : LWc LW) (hc : c ≤ 600) (h : Inv LW c σ τ) (p1 p2 : Int32) : Both LW c (fX11_layer p1 p2 σ) (fX12_layer p1 p2 τ) := by
  obtain ⟨a1, l1, u1, rfl⟩ := zI_ex p1
  obtain ⟨a2, l2, u2, rfl⟩ := zI_ex p2
  have h0 := h
  obtain ⟨v, s1, s2, s3, s4, bk, kw, lw, im, tp, ms, rf, cc, rc, wo⟩ := h
  have t := kw.2.1
  have dr := t.2.2.2.2.2.2
  have gn : gi τ 2 (Int.toNat 310) = zI (kI (τ.1 2) 310) := (zI_of _).symm
  have gm : gi σ 15 2 = zI (kI (τ.1 2) 310) := bk.2.2.1.1.trans (zI_of _).symm
  have gs : ∀ j, j < 30 → gi σ 16 j = gi τ 2 (50 + j) := bk.2.2.1.2
  unfold fX11_layer fX12_layer fX11_layer_b21 fX12_layer_b21
  by_cases q1 : 0 ≤ a1 ∧ a1 ≤ 9
  · by_cases q2 : 0 ≤ a2 ∧ a2 ≤ 200
    · unfold fX10_changeSlow fX12_slowOf
      simp (disch := omega) only [zl_0, zl_1, zl_2, zl_3, zl_4, zl_5, zl_6, zl_7, zl_8, zl_9, zl_10, zl_11, zl_12, zl_13, zl_14, zl_15, zl_16, zl_17, zl_18, zl_19, zl_20, zl_21, zl_22, zl_23, zl_24, zl_25, zl_26, zl_27, zl_28, zl_29, zl_30, zl_31, zl_32, zl_33, zl_34, zl_35, zl_36, zl_37, zl_38, zl_39, zl_40, zl_41, zl_42, zl_43, zl_44, zl_45, zl_46, zl_47, zl_48, zl_49, zl_50, zl_51, zl_57, zl_59, zl_60, zl_61, zl_62, zl_63, zl_64, zl_65, zl_66, zl_67, zl_68, zl_69, zl_70, zl_71, zl_72, zl_73, zl_74, zl_75, zl_76, zl_77, zl_78, zl_79, zl_80, zl_81, zl_86, zl_87, zl_88, zl_89, zl_91, zl_93, zl_97, zl_99, zl_100, zl_108, zl_110, zl_122, zl_144, zl_152, zl_188, zl_199, zl_200, zl_201, zl_204, zl_220, zl_224, zl_226, zl_238, zl_255, zl_268, zl_300, zl_301, zl_302, zl_303, zl_304, zl_305, zl_306, zl_307, zl_308, zl_309, zl_310, zl_312, zl_400, zl_401, zl_712, zl_768, zl_1000, zl_1112, zl_1500, zl_1568, zl_2224, zl_3000, zl_20100, zl_50176, zl_60000, zl_100000, zl_117648, zl_1000000, zl_10000000, zl_1000000000, zI_neg, zI_add, zI_mul, e_isIn, e_in, Option.bind_some, eta2, nmI, nmM, zI_clamp, gn, gm, zI_ckT, if_true, bI_00, decide_eq_false_iff_not, q1, q2, and_self, not_true_eq_false, if_false, zI_lt]
      rw [if_neg (by omega), if_pos (by omega), Option.bind_some]
      have e1 : (kI (τ.1 2) 310 * 10 + a1).toNat + 50 = (50 + 10 * kI (τ.1 2) 310 + a1).toNat := by omega
      have e2 : gi σ (15 + 1) (kI (τ.1 2) 310 * 10 + a1).toNat = gi τ 2 (50 + 10 * kI (τ.1 2) 310 + a1).toNat := by
        have := gs (kI (τ.1 2) 310 * 10 + a1).toNat (by omega)
        rw [← e1, Nat.add_comm _ 50]
        exact this
      simp only [e2]
      refine acc_one hLW hc h0 (by omega) ?_
      have e : ∀ j : Int, 0 ≤ j → kI ((si τ 2 (50 + 10 * kI (τ.1 2) 310 + a1).toNat (zI a2)).1 2) j = if j = 50 + 10 * kI (τ.1 2) 310 + a1 then a2 else kI (τ.1 2) j := fun j hj => kI_si (by omega) hj l2 u2
      unfold KT at t ⊢
      rw [e 44 (by omega), e 45 (by omega), e 46 (by omega), e 47 (by omega), e 48 (by omega), e 49 (by omega), e 310 (by omega), if_neg (by omega), if_neg (by omega), if_neg (by omega), if_neg (by omega), if_neg (by omega), if_neg (by omega), if_neg (by omega)]
      exact t
    · simp (disch := omega) only [zl_0, zl_1, zl_2, zl_3, zl_4, zl_5, zl_6, zl_7, zl_8, zl_9, zl_10, zl_11, zl_12, zl_13, zl_14, zl_15, zl_16, zl_17, zl_18, zl_19, zl_20, zl_21, zl_22, zl_23, zl_24, zl_25, zl_26, zl_27, zl_28, zl_29, zl_30, zl_31, zl_32, zl_33, zl_34, zl_35, zl_36, zl_37, zl_38, zl_39, zl_40, zl_41, zl_42, zl_43, zl_44, zl_45, zl_46, zl_47, zl_48, zl_49, zl_50, zl_51, zl_57, zl_59, zl_60, zl_61, zl_62, zl_63, zl_64, zl_65, zl_66, zl_67, zl_68, zl_69, zl_70, zl_71, zl_72, zl_73, zl_74, zl_75, zl_76, zl_77, zl_78, zl_79, zl_80, zl_81, zl_86, zl_87, zl_88, zl_89, zl_91, zl_93, zl_97, zl_99, zl_100, zl_108, zl_110, zl_122, zl_144, zl_152, zl_188, zl_199, zl_200, zl_201, zl_204, zl_220, zl_224, zl_226, zl_238, zl_255, zl_268, zl_300, zl_301, zl_302, zl_303, zl_304, zl_305, zl_306, zl_307, zl_308, zl_309, zl_310, zl_312, zl_400, zl_401, zl_712, zl_768, zl_1000, zl_1112, zl_1500, zl_1568, zl_2224, zl_3000, zl_20100, zl_50176, zl_60000, zl_100000, zl_117648, zl_1000000, zl_10000000, zl_1000000000, zI_neg, e_isIn, e_in, Option.bind_some, eta2, bI_00, decide_eq_false_iff_not, q1, q2, and_self, not_true_eq_false, not_false_eq_true, if_true, if_false]
      exact both_refuse hLW h0 (by omega)
  · simp (disch := omega) only [zl_0, zl_1, zl_2, zl_3, zl_4, zl_5, zl_6, zl_7, zl_8, zl_9, zl_10, zl_11, zl_12, zl_13, zl_14, zl_15, zl_16, zl_17, zl_18, zl_19, zl_20, zl_21, zl_22, zl_23, zl_24, zl_25, zl_26, zl_27, zl_28, zl_29, zl_30, zl_31, zl_32, zl_33, zl_34, zl_35, zl_36, zl_37, zl_38, zl_39, zl_40, zl_41, zl_42, zl_43, zl_44, zl_45, zl_46, zl_47, zl_48, zl_49, zl_50, zl_51, zl_57, zl_59, zl_60, zl_61, zl_62, zl_63, zl_64, zl_65, zl_66, zl_67, zl_68, zl_69, zl_70, zl_71, zl_72, zl_73, zl_74, zl_75, zl_76, zl_77, zl_78, zl_79, zl_80, zl_81, zl_86, zl_87, zl_88, zl_89, zl_91, zl_93, zl_97, zl_99, zl_100, zl_108, zl_110, zl_122, zl_144, zl_152, zl_188, zl_199, zl_200, zl_201, zl_204, zl_220, zl_224, zl_226, zl_238, zl_255, zl_268, zl_300, zl_301, zl_302, zl_303, zl_304, zl_305, zl_306, zl_307, zl_308, zl_309, zl_310, zl_312, zl_400, zl_401, zl_712, zl_768, zl_1000, zl_1112, zl_1500, zl_1568, zl_2224, zl_3000, zl_20100, zl_50176, zl_60000, zl_100000, zl_117648, zl_1000000, zl_10000000, zl_1000000000, zI_neg, e_isIn, e_in, Option.bind_some, eta2, bI_00, decide_eq_false_iff_not, q1, not_false_eq_true, if_true]
    exact both_refuse hLW h0 (by omega)
def tmLo (a : Int) : Int := if a = 4 then 1 else 0
def tmHi (a : Int) : Int := if a = 0 then 20 else if a = 2 then 3 else if a = 4 then 23 else if a = 5 then 40 else 9
theorem tm_rng (a : Int) : (0 ≤ tmLo a ∧ tmLo a ≤ 1) ∧ (0 ≤ tmHi a ∧ tmHi a ≤ 40) := by
  unfold tmLo tmHi
  constructor
  · split <;> omega
  · repeat' split
    all_goals omega
theorem c_terms {σ : qMem} {a1 a2 : Int} (q1 : 0 ≤ a1 ∧ a1 ≤ 5) (l2 : -2147483648 ≤ a2) (u2 : a2 < 2147483648) : fX11_terms (zI a1) (zI a2) σ = if tmLo a1 ≤ a2 ∧ a2 ≤ tmHi a1 then fX11_changed (gi σ 18 a1.toNat) (si σ 18 a1.toNat (zI a2)) else fX11_refuse (zI (-1)) σ := by
  have tl : (tabL.getD a1.toNat 0) = zI (tmLo a1) ∧ (tabM.getD a1.toNat 0) = zI (tmHi a1) := by
    rcases (by omega : a1 = 0 ∨ a1 = 1 ∨ a1 = 2 ∨ a1 = 3 ∨ a1 = 4 ∨ a1 = 5) with rfl | rfl | rfl | rfl | rfl | rfl <;> exact ⟨by decide, by decide⟩
  have r := tm_rng a1
  unfold fX11_terms fX11_terms_b31
  have e5 : (6 : Int32) - 1 = zI 5 := rfl
  rw [e5]
  simp (disch := omega) only [zl_0, zl_1, zI_neg, e_isIn, Option.bind_some, bI_00, decide_eq_false_iff_not, zI_clamp, zI_ckT, if_true, eta2, nmI, nmM]
  rw [← zl_0, tl.1, tl.2]
  simp (disch := omega) only [e_isIn, Option.bind_some, zl_0, bI_00, decide_eq_false_iff_not]
  rw [if_neg (by omega)]
  by_cases q : tmLo a1 ≤ a2 ∧ a2 ≤ tmHi a1
  · rw [if_neg (by omega), if_pos q]
  · rw [if_pos q, if_neg q]
theorem m_terms {τ : qMem} {a1 a2 : Int} (q1 : 0 ≤ a1 ∧ a1 ≤ 5) (l2 : -2147483648 ≤ a2) (u2 : a2 < 2147483648) : fX12_terms (zI a1) (zI a2) τ = if tmLo a1 ≤ a2 ∧ a2 ≤ tmHi a1 then fX12_good (gi τ 2 (44 + a1).toNat) (si τ 2 (44 + a1).toNat (zI a2)) else fX12_refuses (zI (-1)) τ := by
  have e60 : ∀ lo hi : Int, 0 ≤ lo → lo ≤ 1 → 0 ≤ hi → hi ≤ 40 → fX12_terms_b60 (zI a1) (zI a2) (zI a2) (zI lo) (zI hi) τ = if lo ≤ a2 ∧ a2 ≤ hi then fX12_good (gi τ 2 (44 + a1).toNat) (si τ 2 (44 + a1).toNat (zI a2)) else fX12_refuses (zI (-1)) τ := by
    intro lo hi x1 x2 x3 x4
    unfold fX12_terms_b60 fX12_terms_b66 fX12_term
    simp (disch := omega) only [zl_0, zl_1, zl_44, zI_neg, zI_add, e_in, Option.bind_some, eta2, nmM, zI_clamp, zI_ckT, if_true, bI_00, decide_eq_false_iff_not]
    by_cases q : lo ≤ a2 ∧ a2 ≤ hi
    · rw [if_neg (by omega), if_pos q]
    · rw [if_pos q, if_neg q]
  have e20 : ∀ lo : Int, 0 ≤ lo → lo ≤ 1 → fX12_terms_b20 (zI a1) (zI a2) (zI a2) (zI lo) τ = if lo ≤ a2 ∧ a2 ≤ tmHi a1 then fX12_good (gi τ 2 (44 + a1).toNat) (si τ 2 (44 + a1).toNat (zI a2)) else fX12_refuses (zI (-1)) τ := by
    intro lo x1 x2
    unfold fX12_terms_b20 tmHi
    simp (disch := omega) only [zl_0, zl_2, zl_3, zl_4, zl_5, zl_9, zl_20, zl_23, zl_40, zI_eq, e60]
    rcases (by omega : a1 = 0 ∨ a1 = 1 ∨ a1 = 2 ∨ a1 = 3 ∨ a1 = 4 ∨ a1 = 5) with rfl | rfl | rfl | rfl | rfl | rfl <;> simp
  unfold fX12_terms
  simp (disch := omega) only [zl_0, zl_1, zl_4, zl_5, e_in, Option.bind_some, bI_00, decide_eq_false_iff_not, zI_eq, e20]
  rw [if_neg (by omega)]
  unfold tmLo
  by_cases q : a1 = 4
  · simp only [q, if_true]
  · simp only [q, if_false]
theorem b_terms {LW : LWt} {c : Nat} {σ τ : qMem} (hLW : LWc LW) (hc : c ≤ 600) (h : Inv LW c σ τ) (p1 p2 : Int32) : Both LW c (fX11_terms p1 p2 σ) (fX12_terms p1 p2 τ) := by
  obtain ⟨a1, l1, u1, rfl⟩ := zI_ex p1
  obtain ⟨a2, l2, u2, rfl⟩ := zI_ex p2
  have h0 := h
  obtain ⟨v, s1, s2, s3, s4, bk, kw, lw, im, tp, ms, rf, cc, rc, wo⟩ := h
  have t := kw.2.1
  have gt : ∀ j, j < 6 → gi σ 18 j = gi τ 2 (44 + j) := bk.2.2.2.1
  by_cases q1 : 0 ≤ a1 ∧ a1 ≤ 5
  · rw [c_terms q1 l2 u2, m_terms q1 l2 u2]
    by_cases q : tmLo a1 ≤ a2 ∧ a2 ≤ tmHi a1
    · rw [if_pos q, if_pos q]
      have e2 : gi σ 18 a1.toNat = gi τ 2 (44 + a1).toNat := by
        rw [gt _ (by omega)]
        congr 1
        omega
      rw [e2]
      refine acc_one hLW hc h0 (by omega) ?_
      have e : ∀ j : Int, 0 ≤ j → kI ((si τ 2 (44 + a1).toNat (zI a2)).1 2) j = if j = 44 + a1 then a2 else kI (τ.1 2) j := fun j hj => kI_si (by omega) hj l2 u2
      unfold KT at t ⊢
      rw [e 44 (by omega), e 45 (by omega), e 46 (by omega), e 47 (by omega), e 48 (by omega), e 49 (by omega), e 310 (by omega)]
      unfold tmLo tmHi at q
      rcases (by omega : a1 = 0 ∨ a1 = 1 ∨ a1 = 2 ∨ a1 = 3 ∨ a1 = 4 ∨ a1 = 5) with rfl | rfl | rfl | rfl | rfl | rfl <;> simp at q ⊢ <;> omega
    · rw [if_neg q, if_neg q]
      exact both_refuse hLW h0 (by omega)
  · unfold fX11_terms fX12_terms fX11_terms_b31 fX12_terms_b66
    simp (disch := omega) only [zl_0, zl_1, zl_2, zl_3, zl_4, zl_5, zl_6, zl_7, zl_8, zl_9, zl_10, zl_11, zl_12, zl_13, zl_14, zl_15, zl_16, zl_17, zl_18, zl_19, zl_20, zl_21, zl_22, zl_23, zl_24, zl_25, zl_26, zl_27, zl_28, zl_29, zl_30, zl_31, zl_32, zl_33, zl_34, zl_35, zl_36, zl_37, zl_38, zl_39, zl_40, zl_41, zl_42, zl_43, zl_44, zl_45, zl_46, zl_47, zl_48, zl_49, zl_50, zl_51, zl_57, zl_59, zl_60, zl_61, zl_62, zl_63, zl_64, zl_65, zl_66, zl_67, zl_68, zl_69, zl_70, zl_71, zl_72, zl_73, zl_74, zl_75, zl_76, zl_77, zl_78, zl_79, zl_80, zl_81, zl_86, zl_87, zl_88, zl_89, zl_91, zl_93, zl_97, zl_99, zl_100, zl_108, zl_110, zl_122, zl_144, zl_152, zl_188, zl_199, zl_200, zl_201, zl_204, zl_220, zl_224, zl_226, zl_238, zl_255, zl_268, zl_300, zl_301, zl_302, zl_303, zl_304, zl_305, zl_306, zl_307, zl_308, zl_309, zl_310, zl_312, zl_400, zl_401, zl_712, zl_768, zl_1000, zl_1112, zl_1500, zl_1568, zl_2224, zl_3000, zl_20100, zl_50176, zl_60000, zl_100000, zl_117648, zl_1000000, zl_10000000, zl_1000000000, zI_sub, zI_neg, e_isIn, e_in, Option.bind_some, eta2, bI_00, decide_eq_false_iff_not]
    rw [if_pos (by omega), if_pos q1]
    exact both_refuse hLW h0 (by omega)
