/-! calls that ask -/
def scrC (k j : Nat) : Prop := k = 17 ∨ k = 40 ∨ k = 41 ∨ (k = 35 ∧ j = 6) ∨ (44 ≤ k ∧ k ≤ 78) ∨ (k = 79 ∧ 2 ≤ j) ∨ (80 ≤ k ∧ k ≤ 85) ∨ k = 88
def scrM (k j : Nat) : Prop := (k = 0 ∧ (j = 7 ∨ j = 10 ∨ j = 12 ∨ j = 13 ∨ j = 15 ∨ j = 20 ∨ (33 ≤ j ∧ j ≤ 39))) ∨ (5 ≤ k ∧ k ≤ 16) ∨ 19 ≤ k
def SC (σ σ' : qMem) : Prop := ∀ k j, ¬ scrC k j → gi σ' k j = gi σ k j
def SM (τ τ' : qMem) : Prop := ∀ k j, ¬ scrM k j → gi τ' k j = gi τ k j
theorem SC_refl (σ : qMem) : SC σ σ := fun _ _ _ => rfl
theorem SM_refl (σ : qMem) : SM σ σ := fun _ _ _ => rfl
theorem SC_trans {a b c : qMem} (h : SC a b) (h2 : SC b c) : SC a c := fun k j q => (h2 k j q).trans (h k j q)
theorem SM_trans {a b c : qMem} (h : SM a b) (h2 : SM b c) : SM a c := fun k j q => (h2 k j q).trans (h k j q)
theorem SM_κ {τ τ' : qMem} (h : SM τ τ') : τ'.1 2 = τ.1 2 := funext fun j => h 2 j (by unfold scrM; omega)
/-- what a class's function may rest on -/
def CI (m : Nat → Nat → Int32) (κ : Nat → Int32) : Prop := bookS m 1 ∧ bookK m 1 κ ∧ KW κ ∧ CC m κ
theorem CI_of {σ σ' : qMem} {κ : Nat → Int32} (h : CI σ.1 κ) (hs : SC σ σ') (hc : CC σ'.1 κ) : CI σ'.1 κ := by
  obtain ⟨a, b, c, _⟩ := h
  refine ⟨?_, ?_, c, hc⟩
  · rw [bookS_d (m := σ.1) (m' := σ'.1) (fun k j q1 q2 => hs k j (by unfold scrC; omega))]; exact a
  · rw [bookK_c (m := σ.1) (m' := σ'.1) (fun k j q1 q2 q3 q4 => hs k j (by unfold scrC; omega))]; exact b
theorem Inv_scr {LW : LWt} {c : Nat} {σ τ σ' τ' : qMem} (hLW : LWc LW) (h : Inv LW c σ τ) (hσ : SC σ σ') (hτ : SM τ τ') (hc : CC σ'.1 (τ.1 2)) (hr : RC τ'.1 (τ.1 2)) : Inv LW (c + 1) σ' τ' := by
  obtain ⟨v, s1, s2, s3, s4, b1, k1, l1, im, tp, ms, rf, cc, rc, wo⟩ := h
  have eκ : τ'.1 2 = τ.1 2 := SM_κ hτ
  have e3 : ∀ k, imK τ'.1 k = imK τ.1 k := fun k => funext fun j => hτ 3 _ (by unfold scrM; omega)
  have oσ : ∀ k j, ¬ scrC k j → gi σ' k j = gi σ k j := hσ
  have oτ : ∀ k j, ¬ scrM k j → gi τ' k j = gi τ k j := hτ
  unfold scrC at oσ
  unfold scrM at oτ
  refine ⟨?_, ?_, ?_, ?_, ?_, ?_, ?_, ?_, fun k hk2 => ?_, ?_, ?_, ?_, ?_, ?_, ?_⟩
  · rw [oτ 0 2 (by omega)]; omega
  · rw [bookS_d (m := σ.1) (m' := σ'.1) (fun k j q1 q2 => oσ k j (by omega))]; exact s1
  · rw [bookS_d (m := σ.1) (m' := σ'.1) (fun k j q1 q2 => oσ k j (by omega))]; exact s2
  · rw [bookS_d (m := σ.1) (m' := σ'.1) (fun k j q1 q2 => oσ k j (by omega))]; exact s3
  · exact ⟨(oσ 79 0 (by omega)).trans s4.1, (oσ 79 1 (by omega)).trans s4.2⟩
  · rw [eκ, bookK_c (m := σ.1) (m' := σ'.1) (fun k j q1 q2 q3 q4 => oσ k j (by omega))]; exact b1
  · rw [eκ]; exact k1
  · rw [eκ]; exact hLW _ _ _ _ _ _ (lawE_c (fun k j h1 h2 _ => oσ k j (by omega))) (fun _ _ _ => rfl) l1
  · have := im k hk2
    rw [oσ 43 k (by omega), oτ 4 k (by omega), e3]
    refine ⟨this.1, fun z => ?_⟩
    obtain ⟨p, q, r⟩ := this.2 z
    refine ⟨?_, q, ?_⟩
    · rw [bookK_c (m := σ.1) (m' := σ'.1) (fun i j h1 h2 _ _ => oσ i j (by omega))]; exact p
    · exact hLW _ _ _ _ _ _ (lawE_c (fun i j h1 h2 _ => oσ i j (by omega))) (fun _ _ _ => rfl) r
  · rw [oσ 0 10 (by omega), oτ 0 28 (by omega)]
    refine ⟨tp.1, tp.2.1, tp.2.2.1, fun j hj => ?_⟩
    rw [oσ 86 j (by omega), oτ 18 j (by omega)]
    exact tp.2.2.2 j hj
  · rw [oσ 0 11 (by omega), oσ 0 12 (by omega), oσ 0 13 (by omega), oτ 0 29 (by omega), oτ 0 8 (by omega), oτ 0 0 (by omega)]
    exact ms
  · rw [oσ 87 0 (by omega), oσ 87 1 (by omega), oσ 87 2 (by omega), oσ 87 3 (by omega), oσ 87 4 (by omega), oτ 1 1 (by omega), oτ 1 2 (by omega), oτ 1 3 (by omega), oτ 1 5 (by omega), oτ 1 6 (by omega)]
    exact rf
  · rw [eκ]; exact hc
  · rw [eκ]; exact hr
  · intro j x hx
    rw [oτ 17 j (by omega)]
    exact wo j x hx
theorem Inv_CI {LW : LWt} {c : Nat} {σ τ : qMem} (h : Inv LW c σ τ) : CI σ.1 (τ.1 2) := ⟨h.2.1, h.2.2.2.2.2.1, h.2.2.2.2.2.2.1, h.2.2.2.2.2.2.2.2.2.2.2.2.1⟩
theorem Inv_RC {LW : LWt} {c : Nat} {σ τ : qMem} (h : Inv LW c σ τ) : RC τ.1 (τ.1 2) := h.2.2.2.2.2.2.2.2.2.2.2.2.2.1
theorem Inv_KW {LW : LWt} {c : Nat} {σ τ : qMem} (h : Inv LW c σ τ) : KW (τ.1 2) := h.2.2.2.2.2.2.1
theorem both_q {LW : LWt} {c : Nat} {σ τ : qMem} {v : Int32} {oC oM : Option (Int32 × qMem)} (hLW : LWc LW) (h : Inv LW c σ τ) (hC : Ho oC (fun a => a.1 = v ∧ SC σ a.2 ∧ CC a.2.1 (τ.1 2))) (hM : Ho oM (fun a => a.1 = v ∧ SM τ a.2 ∧ RC a.2.1 (τ.1 2))) : Both LW c oC oM := by
  obtain ⟨⟨a, σ'⟩, e1, rfl, h1, h2⟩ := hC
  obtain ⟨⟨b, τ'⟩, e2, e3, h3, h4⟩ := hM
  simp only at e3
  subst e3
  exact ⟨_, _, _, e1, e2, Inv_scr hLW h h1 h3 h2 h4⟩
theorem both_same {LW : LWt} {c : Nat} {σ τ : qMem} (hLW : LWc LW) (h : Inv LW c σ τ) (v : Int32) : Both LW c (some (v, σ)) (some (v, τ)) := both_q hLW h (Ho_some ⟨rfl, SC_refl _, (Inv_CI h).2.2.2⟩) (Ho_some ⟨rfl, SM_refl _, Inv_RC h⟩)
theorem RC_carr {t t' : Nat → Nat → Int32} {κ : Nat → Int32} (h : RC t κ) (h7 : t' 0 7 = t 0 2) (hc : carrOK t' κ) (hf : ∀ k j, k ≠ 5 → ¬ (k = 0 ∧ j = 7) → t' k j = t k j) (hv : -1 ≤ (t 0 2).toInt) : RC t' κ := by
  obtain ⟨a, b, c, d, e, f⟩ := h
  have e2 := hf 0 2 (by omega) (by omega)
  have e13 := hf 0 13 (by omega) (by omega)
  have e15 := hf 0 15 (by omega) (by omega)
  unfold RC
  rw [e2, h7, e13, e15]
  exact ⟨⟨hv, Int.le_refl _⟩, b, c, fun _ => hc, fun z => fitsOK_c (fun k j hh => hf k j (by omega) (by omega)) (e z), fun z => ⟨missOK_c (fun j => hf 8 j (by omega) (by omega)) (f z).1, newsOK_c (fun k j hh => hf k j (by omega) (by omega)) (f z).2⟩⟩
theorem b_reaches {LW : LWt} {c N : Nat} {σ τ : qMem} (hN : 200000 ≤ N) (hLW : LWc LW) (h : Inv LW c σ τ) (p1 p2 p3 : Int32) : Both LW c (fX11_reaches N p1 p2 p3 σ) (fX12_reaches N p1 p2 p3 τ) := by
  obtain ⟨a1, l1, u1, rfl⟩ := zI_ex p1
  obtain ⟨a2, l2, u2, rfl⟩ := zI_ex p2
  obtain ⟨a3, l3, u3, rfl⟩ := zI_ex p3
  have hkw := Inv_KW h
  have hci := Inv_CI h
  have hrc := Inv_RC h
  unfold fX11_reaches fX12_reaches fX12_reaches_b49
  simp (disch := omega) only [zl_0, zl_1, zl_2, zl_3, zl_4, zl_5, zl_6, zl_7, zl_8, zl_9, zl_10, zl_11, zl_12, zl_13, zl_14, zl_15, zl_16, zl_17, zl_18, zl_19, zl_20, zl_21, zl_22, zl_23, zl_24, zl_25, zl_26, zl_27, zl_28, zl_29, zl_30, zl_31, zl_32, zl_33, zl_34, zl_35, zl_36, zl_37, zl_38, zl_39, zl_40, zl_41, zl_42, zl_43, zl_44, zl_45, zl_46, zl_47, zl_48, zl_49, zl_50, zl_51, zl_57, zl_59, zl_60, zl_61, zl_62, zl_63, zl_64, zl_65, zl_66, zl_67, zl_68, zl_69, zl_70, zl_71, zl_72, zl_73, zl_74, zl_75, zl_76, zl_77, zl_78, zl_79, zl_80, zl_81, zl_86, zl_87, zl_88, zl_89, zl_91, zl_93, zl_97, zl_99, zl_100, zl_108, zl_110, zl_122, zl_144, zl_152, zl_188, zl_199, zl_200, zl_201, zl_204, zl_220, zl_224, zl_226, zl_238, zl_255, zl_268, zl_300, zl_301, zl_302, zl_303, zl_304, zl_305, zl_306, zl_307, zl_308, zl_309, zl_310, zl_312, zl_400, zl_401, zl_712, zl_768, zl_1000, zl_1112, zl_1500, zl_1568, zl_2224, zl_3000, zl_20100, zl_50176, zl_60000, zl_100000, zl_117648, zl_1000000, zl_10000000, zl_1000000000, zI_neg, e_isIn, e_in, Option.bind_some, bI_00, decide_eq_false_iff_not]
  by_cases q1 : 0 ≤ a1 ∧ a1 ≤ 9
  · by_cases q2 : 0 ≤ a2 ∧ a2 ≤ 9
    · by_cases q3 : 0 ≤ a3 ∧ a3 ≤ 200
      · simp only [q1, q2, q3, and_self, not_true_eq_false, if_false]
        obtain ⟨bs, bk, _, cc⟩ := hci
        refine both_q (v := bI (reachB (τ.1 2) a1 a2 a3)) hLW h ?_ ?_
        · refine Ho_bind (e_rays (κ := τ.1 2) hN hkw.2.1 (bk.2.2.1.1.trans (zI_of _).symm) bk.2.2.1.2 q1.1 q1.2 q3.1 q3.2) fun σ1 ⟨r1, r2⟩ => ?_
          simp (disch := omega) only [zI_ckT, zI_clamp, if_true]
          rw [r1 _ (by omega), e_near q1.1 q1.2 q2.1 q2.2, Option.bind_some, show ((a3.toNat : Nat) : Int) = a3 by omega]
          have f1 : SC σ σ1 := fun k j hk => r2 k j (by unfold scrC at hk; omega) (by unfold scrC at hk; omega)
          have f2 : CC σ1.1 (τ.1 2) := CC_c (m := σ.1) (m' := σ1.1) (fun k j hh => r2 k j (by omega) (by omega)) cc
          by_cases q : reachB (τ.1 2) a1 a2 a3 = true
          · rw [q, bI_t]
            exact Ho_f (by decide) (Ho_some ⟨rfl, f1, f2⟩)
          · rw [Bool.not_eq_true] at q
            rw [q, bI_f]
            exact Ho_t rfl (Ho_some ⟨rfl, f1, f2⟩)
        · refine Ho_bind (r_carr hN rfl hkw.2.1 q1.1 q1.2 q2.1 q2.2 q3.1 q3.2 hrc.2.2.2.1) fun a ⟨e1, e2, e3, e4⟩ => ?_
          have f1 : SM τ a.2 := fun k j hk => e4 k j (by unfold scrM at hk; omega) (by unfold scrM at hk; omega)
          have f2 : RC a.2.1 (τ.1 2) := RC_carr (t := τ.1) (t' := a.2.1) hrc e2 e3 e4 (by have := h.1; unfold gi at this; omega)
          rw [e1]
          by_cases q : reachB (τ.1 2) a1 a2 a3 = true
          · rw [q, bI_t]
            exact Ho_f (by decide) (Ho_some ⟨rfl, f1, f2⟩)
          · rw [Bool.not_eq_true] at q
            rw [q, bI_f]
            exact Ho_t rfl (Ho_some ⟨rfl, f1, f2⟩)
      · simp only [q1, q2, q3, and_self, not_true_eq_false, if_false, not_false_eq_true, if_true]
        exact both_same hLW h _
    · simp only [q1, q2, and_self, not_true_eq_false, if_false, not_false_eq_true, if_true]
      exact both_same hLW h _
  · simp only [q1, not_false_eq_true, if_true]
    exact both_same hLW h _
theorem b_bearing (p1 p2 : Int32) : ∃ v, fX11_bearing p1 p2 = some v ∧ fX12_bearing p1 p2 = some v := by
  obtain ⟨a1, l1, u1, rfl⟩ := zI_ex p1
  obtain ⟨a2, l2, u2, rfl⟩ := zI_ex p2
  unfold fX11_bearing fX12_bearing fX12_bearing_b42 fX12_bearing_b34
  simp (disch := omega) only [zl_0, zl_1, zl_2, zl_3, zl_4, zl_5, zl_6, zl_7, zl_8, zl_9, zl_10, zl_11, zl_12, zl_13, zl_14, zl_15, zl_16, zl_17, zl_18, zl_19, zl_20, zl_21, zl_22, zl_23, zl_24, zl_25, zl_26, zl_27, zl_28, zl_29, zl_30, zl_31, zl_32, zl_33, zl_34, zl_35, zl_36, zl_37, zl_38, zl_39, zl_40, zl_41, zl_42, zl_43, zl_44, zl_45, zl_46, zl_47, zl_48, zl_49, zl_50, zl_51, zl_57, zl_59, zl_60, zl_61, zl_62, zl_63, zl_64, zl_65, zl_66, zl_67, zl_68, zl_69, zl_70, zl_71, zl_72, zl_73, zl_74, zl_75, zl_76, zl_77, zl_78, zl_79, zl_80, zl_81, zl_86, zl_87, zl_88, zl_89, zl_91, zl_93, zl_97, zl_99, zl_100, zl_108, zl_110, zl_122, zl_144, zl_152, zl_188, zl_199, zl_200, zl_201, zl_204, zl_220, zl_224, zl_226, zl_238, zl_255, zl_268, zl_300, zl_301, zl_302, zl_303, zl_304, zl_305, zl_306, zl_307, zl_308, zl_309, zl_310, zl_312, zl_400, zl_401, zl_712, zl_768, zl_1000, zl_1112, zl_1500, zl_1568, zl_2224, zl_3000, zl_20100, zl_50176, zl_60000, zl_100000, zl_117648, zl_1000000, zl_10000000, zl_1000000000, zI_neg, e_isIn, e_in, Option.bind_some, bI_00, decide_eq_false_iff_not, eta1, zI_eq]
  by_cases q1 : -1000 ≤ a1 ∧ a1 ≤ 1000
  · by_cases q2 : -1000 ≤ a2 ∧ a2 ≤ 1000
    · refine ⟨zI (dirS a1 a2), ?_, ?_⟩
      · rw [if_neg (by omega), if_neg (by omega), e_dir (by omega) (by omega) (by omega) (by omega)]
      · rw [if_neg (by omega), if_neg (by omega)]
        unfold dirS
        by_cases q3 : a1 = 0
        · rw [if_pos q3]
          by_cases q4 : a2 = 0
          · rw [if_pos q4, if_pos ⟨q3, q4⟩]
          · rw [if_neg q4, if_neg (by omega), r_rose (by omega) (by omega) (by omega) (by omega) (Or.inr q4)]
        · rw [if_neg q3, if_neg (by omega), r_rose (by omega) (by omega) (by omega) (by omega) (Or.inl q3)]
    · refine ⟨zI (-1), ?_, ?_⟩
      · rw [if_neg (by omega), if_pos q2]
      · rw [if_neg (by omega), if_pos q2]
  · refine ⟨zI (-1), ?_, ?_⟩
    · rw [if_pos q1]
    · rw [if_pos q1]
theorem b_torn {LW : LWt} {c : Nat} {σ τ : qMem} (h : Inv LW c σ τ) : ∃ v, fX11_torn σ = some v ∧ fX12_torn τ = some v := ⟨_, rfl, congrArg some h.2.2.2.2.2.2.2.2.2.2.1.2.1.symm⟩
theorem b_fault {LW : LWt} {c : Nat} {σ τ : qMem} (h : Inv LW c σ τ) : ∃ v, fX11_fault σ = some v ∧ fX12_fault τ = some v := ⟨_, rfl, congrArg some h.2.2.2.2.2.2.2.2.2.2.1.1.symm⟩
theorem b_status {LW : LWt} {c : Nat} {σ τ : qMem} (h : Inv LW c σ τ) : ∃ v, fX11_status σ = some v ∧ fX12_status τ = some v := ⟨_, rfl, congrArg some h.2.2.2.2.2.2.2.2.2.2.1.2.2.symm⟩
theorem Inv_more {LW : LWt} {c : Nat} {σ τ : qMem} (h : Inv LW c σ τ) : Inv LW (c + 1) σ τ := by
  obtain ⟨v, rest⟩ := h
  exact ⟨by omega, rest⟩
