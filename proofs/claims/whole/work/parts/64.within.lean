/-! within -/
noncomputable def wiB (κ : Nat → Int32) (bell x y w : Int) (r : Nat) : Bool := fitR κ r && (decide (szS (rX r bell - x) ≤ w) && decide (szS (rY r bell - y) ≤ w))
theorem e_inSquare {N : Nat} {σ : qMem} {κ : Nat → Int32} {bell x y w : Int} (hN : 200000 ≤ N) (hp : plots σ.1 κ) (l0 : 0 ≤ bell) (l1 : bell ≤ 23) (x0 : -99 ≤ x) (x1 : x ≤ 199) (y0 : -99 ≤ y) (y1 : y ≤ 199) (w0 : 0 ≤ w) (w1 : w ≤ 99) :
    fX3_inSquare N (zI bell) (zI x) (zI y) (zI w) σ = some (zI (fb_ct (wiB κ bell x y w) 50176)) := by
  suffices h : Ho (fX3_inSquare N (zI bell) (zI x) (zI y) (zI w) σ) (fun r => r = zI (fb_ct (wiB κ bell x y w) 50176)) by
    obtain ⟨r, e, rfl⟩ := h
    exact e
  unfold fX3_inSquare
  rw [show fX3_inSquare_l6 N σ N (zI bell) (zI x) (zI y) (zI w) 0 0 = fX3_inSquare_l6 N σ N (zI bell) (zI x) (zI y) (zI w) (zI 0) (zI 0) from rfl, ← lanes_ct]
  refine lp_for (S := Int) (R := Int32) (fun n i s => fX3_inSquare_l6 N σ n (zI bell) (zI x) (zI y) (zI w) (zI s) (zI i)) (fun i s => 0 ≤ i ∧ s = fb_sm (fun l => fb_ct (fun j => wiB κ bell x y w (laneR l j)) 32) i.toNat) _ 1568 ?_ ?_ N 0 0 (by omega) (by omega) ⟨by omega, rfl⟩
  · intro n s ⟨_, hs⟩
    show Ho (fX3_inSquare_s6 N _ _ _ _ _ _ _ _) _
    unfold fX3_inSquare_s6
    rw [if_pos (by decide)]
    exact Ho_some (by rw [hs]; rfl)
  · intro n i s hi ⟨i0, hs⟩ hc
    show Ho (fX3_inSquare_s6 N _ _ _ _ _ _ _ _) _
    unfold fX3_inSquare_s6 fX3_inSquare_b71
    have c : (1568 ≤ zI i) = False := by rw [zl_1568, zI_le (by omega) (by omega) (by omega) (by omega)]; exact eq_false (by omega)
    have ub := mulb (u := i / 7 % 7 - 3) (bell := bell) (by omega) (by omega) l0 l1
    have vb := mulb (u := i % 7 - 3) (bell := bell) (by omega) (by omega) l0 l1
    have cc : (ck (zI i) 1568 = true) = True := zI_ckT (by omega) (by omega) (by omega)
    have z : (zI i).toNatClampNeg = i.toNat := zI_clamp (by omega) (by omega)
    have i1 : zI i + 1 = zI (i + 1) := zI_add i 1
    have gl : gi σ 61 i.toNat = _ := hp.1 i.toNat (by omega)
    simp only [c, if_false, e_eastOf i0 hi, e_lowOf i0 hi, Option.bind_some, cc, if_true, z, i1, gl]
    rw [zI_sub, e_abs (by omega) (by omega), Option.bind_some, zI_sub, zI_add, zI_sub, zI_sub, e_bits (by omega) (by omega) (by omega) (by omega), Option.bind_some, wd_and, e_bitCount, Option.bind_some]
    have lq : ∀ j : Nat, j < 32 → wiB κ bell x y w (laneR i.toNat j) = (fitR κ (laneR i.toNat j) && (decide (szS (i / 49 + (i / 7 % 7 - 3) * bell - x) ≤ w) && decide (y - w - (i % 7 - 3) * bell ≤ (j : Int) ∧ (j : Int) ≤ y + w - (i % 7 - 3) * bell))) := by
      intro j hj
      obtain ⟨e1, e2⟩ := rX_lane (lane := i.toNat) (y := j) (bell := bell) (by omega) hj
      unfold wiB
      rw [e1, e2, show ((i.toNat : Nat) : Int) = i by omega]
      congr 2
      exact decide_eq_decide.mpr (by unfold szS; omega)
    have st : ∀ s' : Int, s' = s + fb_ct (fun j => wiB κ bell x y w (laneR i.toNat j)) 32 → Ho (fX3_inSquare_l6 N σ n (zI bell) (zI x) (zI y) (zI w) (zI s') (zI (i + 1))) (fun r => r = zI (fb_sm (fun l => fb_ct (fun j => wiB κ bell x y w (laneR l j)) 32) 1568)) := by
      intro s' hs'
      refine hc s' ⟨by omega, ?_⟩
      rw [hs', hs, show (i + 1).toNat = i.toNat + 1 by omega, fb_sm_succ]
      simp
    have cw : (zI w < zI (max (i / 49 + (i / 7 % 7 - 3) * bell - x) (-(i / 49 + (i / 7 % 7 - 3) * bell - x)))) = (w < szS (i / 49 + (i / 7 % 7 - 3) * bell - x)) := zI_lt (by omega) (by omega) (by omega) (by omega)
    simp only [cw]
    by_cases q : w < szS (i / 49 + (i / 7 % 7 - 3) * bell - x)
    · rw [if_pos q]
      refine st s ?_
      have : fb_ct (fun j => wiB κ bell x y w (laneR i.toNat j)) 32 = 0 := by
        rw [fb_ct_zero]
        intro j hj
        rw [lq j hj, decide_eq_false (show ¬ szS (i / 49 + (i / 7 % 7 - 3) * bell - x) ≤ w by omega)]
        simp
      rw [this]; simp
    · rw [if_neg q, zI_add]
      refine st _ ?_
      congr 2
      apply fb_ct_cong
      intro j hj
      rw [lq j hj, decide_eq_true (show szS (i / 49 + (i / 7 % 7 - 3) * bell - x) ≤ w by omega), Bool.true_and]
theorem r_within {N : Nat} {τ : qMem} {κ : Nat → Int32} {bell x y w : Int} (hN : 200000 ≤ N) (hf : fitsOK τ.1 κ) (l0 : 0 ≤ bell) (l1 : bell ≤ 23) (x0 : -99 ≤ x) (x1 : x ≤ 199) (y0 : -99 ≤ y) (y1 : y ≤ 199) (w0 : 0 ≤ w) (w1 : w ≤ 99) :
    Ho (fX12_within_l54 N N (zI bell) (zI x) (zI y) (zI w) 0 0 τ) (fun a => a = (zI (fb_ct (wiB κ bell x y w) 50176), τ)) := by
  rw [show fX12_within_l54 N N (zI bell) (zI x) (zI y) (zI w) 0 0 τ = fX12_within_l54 N N (zI bell) (zI x) (zI y) (zI w) (zI 0) (zI 0) τ from rfl]
  refine lp_for (S := Int) (R := Int32 × qMem) (fun n i s => fX12_within_l54 N n (zI bell) (zI x) (zI y) (zI w) (zI s) (zI i) τ) (fun i s => 0 ≤ i ∧ s = fb_ct (wiB κ bell x y w) i.toNat) _ 50176 ?_ ?_ N 0 0 (by omega) (by omega) ⟨by omega, rfl⟩
  · intro n s ⟨_, hs⟩
    show Ho (fX12_within_s54 N _ _ _ _ _ _ _ _) _
    unfold fX12_within_s54
    rw [if_pos (by decide)]
    exact Ho_some (by rw [hs]; rfl)
  · intro n i s hi ⟨i0, hs⟩ hc
    show Ho (fX12_within_s54 N _ _ _ _ _ _ _ _) _
    unfold fX12_within_s54 fX12_within_b123 fX12_within_b124
    have c : (50176 ≤ zI i) = False := by rw [zl_50176, zI_le (by omega) (by omega) (by omega) (by omega)]; exact eq_false (by omega)
    obtain ⟨e1, e2, e3, e4⟩ := r_code i0 hi
    obtain ⟨p1, p2⟩ := r_placeX (bell := bell) i0 hi
    have rg := rXY_rng (r := i.toNat) (by omega) l0 l1
    have cc : (ck (zI i) 50176 = true) = True := zI_ckT (by omega) (by omega) (by omega)
    have z : (zI i).toNatClampNeg = i.toNat := zI_clamp (by omega) (by omega)
    have i1 : zI i + 1 = zI (i + 1) := zI_add i 1
    have gl : gi τ 7 i.toNat = bI (fitR κ i.toNat) := hf.1 i.toNat (by omega)
    have s0 : zI s + 0 = zI (s + 0) := zI_add s 0
    have s1 : zI s + 1 = zI (s + 1) := zI_add s 1
    have a1 : fX12_size (zI (rX i.toNat bell) - zI x) = some (zI (szS (rX i.toNat bell - x))) := by rw [zI_sub]; exact r_size (by omega) (by omega)
    have a2 : fX12_size (zI (rY i.toNat bell) - zI y) = some (zI (szS (rY i.toNat bell - y))) := by rw [zI_sub]; exact r_size (by omega) (by omega)
    have b1 : (zI w < zI (szS (rX i.toNat bell - x))) = (w < szS (rX i.toNat bell - x)) := zI_lt (by omega) (by omega) (by unfold szS; omega) (by unfold szS; omega)
    have b2 : (zI w < zI (szS (rY i.toNat bell - y))) = (w < szS (rY i.toNat bell - y)) := zI_lt (by omega) (by omega) (by unfold szS; omega) (by unfold szS; omega)
    simp only [c, if_false, e1, e2, e3, e4, Option.bind_some, cc, if_true, z, i1, gl, p1, p2, if_bI, s0, s1, a1, a2, b1, b2]
    have st : ∀ s' : Int, s' = s + (if wiB κ bell x y w i.toNat then 1 else 0) → Ho (fX12_within_l54 N n (zI bell) (zI x) (zI y) (zI w) (zI s') (zI (i + 1)) τ) (fun a => a = (zI (fb_ct (wiB κ bell x y w) 50176), τ)) := by
      intro s' hs'
      refine hc s' ⟨by omega, ?_⟩
      rw [hs', hs, show (i + 1).toNat = i.toNat + 1 by omega, fb_ct_succ]
      cases wiB κ bell x y w i.toNat <;> simp
    by_cases q : fitR κ i.toNat = true
    · rw [if_pos q]
      by_cases q1 : w < szS (rX i.toNat bell - x)
      · rw [if_pos q1]
        exact st _ (by unfold wiB; rw [decide_eq_false (show ¬ szS (rX i.toNat bell - x) ≤ w by omega)]; simp)
      · rw [if_neg q1]
        by_cases q2 : w < szS (rY i.toNat bell - y)
        · rw [if_pos q2]
          exact st _ (by unfold wiB; rw [decide_eq_false (show ¬ szS (rY i.toNat bell - y) ≤ w by omega)]; simp)
        · rw [if_neg q2]
          exact st _ (by unfold wiB; rw [q, decide_eq_true (show szS (rX i.toNat bell - x) ≤ w by omega), decide_eq_true (show szS (rY i.toNat bell - y) ≤ w by omega)]; simp)
    · rw [if_neg q]
      rw [Bool.not_eq_true] at q
      exact st _ (by unfold wiB; rw [q]; simp)
theorem b_within {LW : LWt} {c N : Nat} {σ τ : qMem} (hN : 200000 ≤ N) (hLW : LWc LW) (h : Inv LW c σ τ) (p1 p2 p3 p4 : Int32) : Both LW c (fX11_within N p1 p2 p3 p4 σ) (fX12_within N p1 p2 p3 p4 τ) := by
  obtain ⟨a1, l1, u1, rfl⟩ := zI_ex p1
  obtain ⟨a2, l2, u2, rfl⟩ := zI_ex p2
  obtain ⟨a3, l3, u3, rfl⟩ := zI_ex p3
  obtain ⟨a4, l4, u4, rfl⟩ := zI_ex p4
  have m1 : (-99 : Int32) = zI (-99) := by rw [zl_99, zI_neg]
  have m2 : (199 : Int32) = zI 199 := zl_199
  have m3 : (0 : Int32) = zI 0 := rfl
  have m4 : (99 : Int32) = zI 99 := zl_99
  have i2 : fX11_isIn (zI a2) (-99) 199 = some (bI (decide (-99 ≤ a2 ∧ a2 ≤ 199))) := by rw [m1, m2]; exact e_isIn l2 u2 (by omega) (by omega) (by omega) (by omega)
  have i3 : fX11_isIn (zI a3) (-99) 199 = some (bI (decide (-99 ≤ a3 ∧ a3 ≤ 199))) := by rw [m1, m2]; exact e_isIn l3 u3 (by omega) (by omega) (by omega) (by omega)
  have i4 : fX11_isIn (zI a4) 0 99 = some (bI (decide (0 ≤ a4 ∧ a4 ≤ 99))) := by rw [m3, m4]; exact e_isIn l4 u4 (by omega) (by omega) (by omega) (by omega)
  have j2 : fX12_in (zI a2) (-99) 199 = some (bI (decide (-99 ≤ a2 ∧ a2 ≤ 199))) := by rw [m1, m2]; exact e_in l2 u2 (by omega) (by omega) (by omega) (by omega)
  have j3 : fX12_in (zI a3) (-99) 199 = some (bI (decide (-99 ≤ a3 ∧ a3 ≤ 199))) := by rw [m1, m2]; exact e_in l3 u3 (by omega) (by omega) (by omega) (by omega)
  have j4 : fX12_in (zI a4) 0 99 = some (bI (decide (0 ≤ a4 ∧ a4 ≤ 99))) := by rw [m3, m4]; exact e_in l4 u4 (by omega) (by omega) (by omega) (by omega)
  unfold fX11_within fX12_within
  simp only [e_isBell l1 u1, r_isBell l1 u1, i2, i3, i4, j2, j3, j4, Option.bind_some, if_bI, decide_eq_true_eq]
  by_cases q1 : 0 ≤ a1 ∧ a1 ≤ 23
  · rw [if_pos q1, if_pos q1]
    by_cases q2 : -99 ≤ a2 ∧ a2 ≤ 199
    · rw [if_pos q2, if_pos q2]
      by_cases q3 : -99 ≤ a3 ∧ a3 ≤ 199
      · rw [if_pos q3, if_pos q3]
        by_cases q4 : 0 ≤ a4 ∧ a4 ≤ 99
        · rw [if_pos q4, if_pos q4]
          refine both_q (v := zI (fb_ct (wiB (τ.1 2) a1 a2 a3 a4) 50176)) hLW h ?_ ?_
          · refine Ho_bind (e_plot hN (Inv_CI h)) fun s ⟨w1, w2, w3, _⟩ => ?_
            rw [e_inSquare hN w3 q1.1 q1.2 q2.1 q2.2 q3.1 q3.2 q4.1 q4.2, Option.bind_some]
            exact Ho_some ⟨rfl, w2, w1.2.2.2⟩
          · refine Ho_bind (r_fits hN rfl (Inv_KW h) (Inv_RC h) (Inv_v h)) fun t ⟨w1, w2, w3⟩ => ?_
            refine Ho_mono (r_within hN w3 q1.1 q1.2 q2.1 q2.2 q3.1 q3.2 q4.1 q4.2) fun a ha => ?_
            rw [ha]
            exact ⟨rfl, w1, w2⟩
        · rw [if_neg q4, if_neg q4]
          exact both_same hLW h _
      · rw [if_neg q3, if_neg q3]
        exact both_same hLW h _
    · rw [if_neg q2, if_neg q2]
      exact both_same hLW h _
  · rw [if_neg q1, if_neg q1]
    exact both_same hLW h _
