/-! turn -/
noncomputable def turnF (κ : Nat → Int32) (b n : Int) : Nat → Int × Nat
  | 0 => (-1, 0)
  | i + 1 => if (turnF κ b n i).1 = -1 ∨ partN κ (b + n) (offX κ b n i 0) (offX κ b n i 1) < (turnF κ b n i).2 then ((i : Int), partN κ (b + n) (offX κ b n i 0) (offX κ b n i 1)) else turnF κ b n i
theorem partN_le (κ : Nat → Int32) (L X Y : Int) : partN κ L X Y ≤ 50176 := mxN_le 81 (fun g _ => fb_ct_le _ _)
theorem turnF_rng (κ : Nat → Int32) (b n : Int) : ∀ i, -1 ≤ (turnF κ b n i).1 ∧ (turnF κ b n i).1 < i ∧ (turnF κ b n i).2 ≤ 50176
  | 0 => by simp [turnF]
  | i + 1 => by
    have ih := turnF_rng κ b n i
    have := partN_le κ (b + n) (offX κ b n i 0) (offX κ b n i 1)
    rw [turnF]
    split
    · exact ⟨by omega, by omega, this⟩
    · omega
theorem b_turn {LW : LWt} {c N : Nat} {σ τ : qMem} (hN : 200000 ≤ N) (hLW : LWc LW) (h : Inv LW c σ τ) (p1 p2 : Int32) : Both LW c (fX11_turn N p1 p2 σ) (fX12_turn N p1 p2 τ) := by
  obtain ⟨b, l1, u1, rfl⟩ := zI_ex p1
  obtain ⟨n, l2, u2, rfl⟩ := zI_ex p2
  have kw := Inv_KW h
  have ci := Inv_CI h
  have kob : 0 ≤ kI (τ.1 2) 303 ∧ kI (τ.1 2) 303 ≤ 8 := kw.2.2.2.2.2.2.2.1.1
  unfold fX11_turn fX12_turn
  simp only [e_isAhead l1 u1 l2 u2, r_isAhead l1 u1 l2 u2, Option.bind_some, if_bI, decide_eq_true_eq]
  by_cases q : (0 ≤ b ∧ b ≤ 23) ∧ (1 ≤ n ∧ n ≤ 9) ∧ b + n ≤ 23
  · rw [if_pos q, if_pos q]
    have rngX : ∀ o w : Int, 0 ≤ o → o < kI (τ.1 2) 303 → w = 0 ∨ w = 1 → -100 ≤ offX (τ.1 2) b n o w ∧ offX (τ.1 2) b n o w ≤ 130 := fun o w o0 o1 hw => offX_rng kw q.1.1 q.1.2 q.2.1.1 q.2.1.2 o0 o1 hw
    refine both_q (v := zI (turnF (τ.1 2) b n (kI (τ.1 2) 303).toNat).1) hLW h ?_ ?_
    · refine Ho_bind (e_plot hN ci) fun s ⟨w1, w2, w3, _⟩ => ?_
      have g14 : gi s 44 14 = zI (fb_ct (fitR (τ.1 2)) 50176) := w3.2
      have le := fit_le (τ.1 2)
      rw [g14]
      unfold fX11_bestOffer
      rw [zI_add]
      suffices hh : Ho (fX11_bestOffer_l14 N N (zI b) (zI n) (zI (fb_ct (fitR (τ.1 2)) 50176)) (zI (b + n)) (-1) 0 0 s) (fun a => a.1 = zI (turnF (τ.1 2) b n (kI (τ.1 2) 303).toNat).1 ∧ SC σ a.2 ∧ CC a.2.1 (τ.1 2)) from Ho_bind hh fun a ha => Ho_some ha
      have hst := lp_for (S := qMem) (R := Int32 × qMem) (fun m i t => fX11_bestOffer_l14 N m (zI b) (zI n) (zI (fb_ct (fitR (τ.1 2)) 50176)) (zI (b + n)) (zI (turnF (τ.1 2) b n i.toNat).1) (zI ((turnF (τ.1 2) b n i.toNat).2 : Nat)) (zI i) t) (fun i t => 0 ≤ i ∧ ∀ k j, k ≠ 66 → gi t k j = gi s k j) (fun a => a.1 = zI (turnF (τ.1 2) b n (kI (τ.1 2) 303).toNat).1 ∧ SC σ a.2 ∧ CC a.2.1 (τ.1 2)) (kI (τ.1 2) 303) ?_ ?_ N 0 s (by omega) (by omega) ⟨by omega, fun _ _ _ => rfl⟩
      · exact hst
      · intro m t ⟨_, h1⟩
        show Ho (fX11_bestOffer_s14 N _ _ _ _ _ _ _ _ _) _
        unfold fX11_bestOffer_s14
        obtain ⟨ci2, sc2⟩ := group_of w1 h1
        have n29 : gi t 29 3 = zI (kI (τ.1 2) 303) := (ci2.2.1.2.2.2.2.2.2.2.2.2.1).1.trans (zI_of _).symm
        have c1 : (gi t 29 3 ≤ zI (kI (τ.1 2) 303)) = True := by rw [n29, zI_le (by omega) (by omega) (by omega) (by omega)]; exact eq_true (by omega)
        simp only [c1, if_true]
        exact Ho_some ⟨rfl, SC_trans w2 sc2, ci2.2.2.2⟩
      · intro m i t hi ⟨i0, h1⟩ hc
        show Ho (fX11_bestOffer_s14 N _ _ _ _ _ _ _ _ _) _
        unfold fX11_bestOffer_s14
        obtain ⟨ci2, sc2⟩ := group_of w1 h1
        have n29 : gi t 29 3 = zI (kI (τ.1 2) 303) := (ci2.2.1.2.2.2.2.2.2.2.2.2.1).1.trans (zI_of _).symm
        have c1 : (gi t 29 3 ≤ zI i) = False := by rw [n29, zI_le (by omega) (by omega) (by omega) (by omega)]; exact eq_false (by omega)
        have g14' : gi t 44 14 = zI (fb_ct (fitR (τ.1 2)) 50176) := (h1 44 14 (by omega)).trans g14
        have c2 : (gi t 44 14 ≤ zI (fb_ct (fitR (τ.1 2)) 50176)) = True := by rw [g14', zI_le (by omega) (by omega) (by omega) (by omega)]; exact eq_true (by omega)
        obtain ⟨x1, x2⟩ := e_offerXY (n := n) ci2 q.1.1 q.1.2 i0 hi
        simp only [c1, if_false, x1, x2, Option.bind_some, c2, if_true]
        unfold fX11_bestOffer_b84
        have hp : plots t.1 (τ.1 2) := ⟨fun l hl => (h1 61 l (by omega)).trans (w3.1 l hl), (h1 44 14 (by omega)).trans w3.2⟩
        have rx := rngX i 0 i0 hi (Or.inl rfl)
        have ry := rngX i 1 i0 hi (Or.inr rfl)
        refine Ho_bind (e_largestGroup hN hp (by omega) (by omega) (by omega) (by omega) (by omega) (by omega)) fun a ⟨y1, y2⟩ => ?_
        obtain ⟨v, t2⟩ := a
        dsimp only at y1 y2 ⊢
        have tr := turnF_rng (τ.1 2) b n i.toNat
        have pl := partN_le (τ.1 2) (b + n) (offX (τ.1 2) b n i 0) (offX (τ.1 2) b n i 1)
        have i1 : zI i + 1 = zI (i + 1) := zI_add i 1
        have nxt := turnF.eq_2 (τ.1 2) b n i.toNat
        rw [show ((i.toNat : Nat) : Int) = i by omega] at nxt
        have d1 : (zI (turnF (τ.1 2) b n i.toNat).1 = -1) = ((turnF (τ.1 2) b n i.toNat).1 = -1) := by rw [show (-1 : Int32) = zI (-1) from rfl, zI_eq (by omega) (by omega) (by omega) (by omega)]
        have d2 : (zI ((turnF (τ.1 2) b n i.toNat).2 : Nat) ≤ zI (partN (τ.1 2) (b + n) (offX (τ.1 2) b n i 0) (offX (τ.1 2) b n i 1) : Nat)) = ((turnF (τ.1 2) b n i.toNat).2 ≤ partN (τ.1 2) (b + n) (offX (τ.1 2) b n i 0) (offX (τ.1 2) b n i 1)) := by rw [zI_le (by omega) (by omega) (by omega) (by omega)]; exact propext ⟨fun h => by omega, fun h => by omega⟩
        have hc' := hc t2 ⟨by omega, fun k j hk => (y2 k j hk).trans (h1 k j hk)⟩
        rw [show (i + 1).toNat = i.toNat + 1 by omega, nxt] at hc'
        rw [y1]
        unfold fX11_bestOffer_b112 fX11_bestOffer_b120
        simp only [d1, d2, i1]
        by_cases z1 : (turnF (τ.1 2) b n i.toNat).1 = -1
        · rw [if_pos (Or.inl z1)] at hc'
          rw [if_pos z1]
          exact hc'
        · rw [if_neg z1]
          by_cases z2 : (turnF (τ.1 2) b n i.toNat).2 ≤ partN (τ.1 2) (b + n) (offX (τ.1 2) b n i 0) (offX (τ.1 2) b n i 1)
          · rw [if_neg (by omega)] at hc'
            rw [if_pos z2]
            exact hc'
          · rw [if_pos (by omega)] at hc'
            rw [if_neg z2]
            exact hc'
    · have hst := lp_for (S := qMem) (R := Int32 × qMem) (fun m i t => fX12_turn_l18 N m (zI b) (zI n) (zI (turnF (τ.1 2) b n i.toNat).1) (zI ((turnF (τ.1 2) b n i.toNat).2 : Nat)) (zI i) t) (fun i t => 0 ≤ i ∧ SM τ t ∧ RC t.1 (τ.1 2)) (fun a => a.1 = zI (turnF (τ.1 2) b n (kI (τ.1 2) 303).toNat).1 ∧ SM τ a.2 ∧ RC a.2.1 (τ.1 2)) (kI (τ.1 2) 303) ?_ ?_ N 0 τ (by omega) (by omega) ⟨by omega, SM_refl _, Inv_RC h⟩
      · exact hst
      · intro m t ⟨_, h1, h2⟩
        show Ho (fX12_turn_s18 N _ _ _ _ _ _ _) _
        unfold fX12_turn_s18
        have ck0 : (ck (303 : Int32) 1112 = true) = True := by decide
        have z303 : (303 : Int32).toNatClampNeg = 303 := rfl
        have n303 : gi t 2 303 = zI (kI (τ.1 2) 303) := (h1 2 303 (by unfold scrM; omega)).trans (zI_of _).symm
        have c1 : (zI (kI (τ.1 2) 303) ≤ zI (kI (τ.1 2) 303)) = True := by rw [zI_le (by omega) (by omega) (by omega) (by omega)]; exact eq_true (by omega)
        simp only [ck0, z303, n303, c1, if_true]
        exact Ho_some ⟨rfl, h1, h2⟩
      · intro m i t hi ⟨i0, h1, h2⟩ hc
        show Ho (fX12_turn_s18 N _ _ _ _ _ _ _) _
        unfold fX12_turn_s18
        have ck0 : (ck (303 : Int32) 1112 = true) = True := by decide
        have z303 : (303 : Int32).toNatClampNeg = 303 := rfl
        have n303 : gi t 2 303 = zI (kI (τ.1 2) 303) := (h1 2 303 (by unfold scrM; omega)).trans (zI_of _).symm
        have c1 : (zI (kI (τ.1 2) 303) ≤ zI i) = False := by rw [zI_le (by omega) (by omega) (by omega) (by omega)]; exact eq_false (by omega)
        simp only [ck0, z303, n303, c1, if_true, if_false]
        refine Ho_bind (r_partsOf hN (SM_κ h1) kw h2 (Inv_v2 h1 (Inv_v h)) q.1.1 q.2.2 q.2.1.1 q.2.1.2 i0 hi) fun a ⟨y1, y2, y3⟩ => ?_
        obtain ⟨v, t2⟩ := a
        dsimp only at y1 y2 y3 ⊢
        have tr := turnF_rng (τ.1 2) b n i.toNat
        have pl := partN_le (τ.1 2) (b + n) (offX (τ.1 2) b n i 0) (offX (τ.1 2) b n i 1)
        have i1 : zI i + 1 = zI (i + 1) := zI_add i 1
        have nxt := turnF.eq_2 (τ.1 2) b n i.toNat
        rw [show ((i.toNat : Nat) : Int) = i by omega] at nxt
        have d1 : (zI (turnF (τ.1 2) b n i.toNat).1 = -1) = ((turnF (τ.1 2) b n i.toNat).1 = -1) := by rw [show (-1 : Int32) = zI (-1) from rfl, zI_eq (by omega) (by omega) (by omega) (by omega)]
        have d2 : (zI (partN (τ.1 2) (b + n) (offX (τ.1 2) b n i 0) (offX (τ.1 2) b n i 1) : Nat) < zI ((turnF (τ.1 2) b n i.toNat).2 : Nat)) = (partN (τ.1 2) (b + n) (offX (τ.1 2) b n i 0) (offX (τ.1 2) b n i 1) < (turnF (τ.1 2) b n i.toNat).2) := by rw [zI_lt (by omega) (by omega) (by omega) (by omega)]; exact propext ⟨fun h => by omega, fun h => by omega⟩
        have hc' := hc t2 ⟨by omega, SM_trans h1 y2, y3⟩
        rw [show (i + 1).toNat = i.toNat + 1 by omega, nxt] at hc'
        rw [y1]
        unfold fX12_turn_b56 fX12_turn_b63
        simp only [d1, d2, i1]
        by_cases z1 : (turnF (τ.1 2) b n i.toNat).1 = -1
        · rw [if_pos (Or.inl z1)] at hc'
          rw [if_pos z1]
          exact hc'
        · rw [if_neg z1]
          by_cases z2 : partN (τ.1 2) (b + n) (offX (τ.1 2) b n i 0) (offX (τ.1 2) b n i 1) < (turnF (τ.1 2) b n i.toNat).2
          · rw [if_pos (Or.inr z2)] at hc'
            rw [if_pos z2]
            exact hc'
          · rw [if_neg (by omega)] at hc'
            rw [if_neg z2]
            exact hc'
  · rw [if_neg q, if_neg q]
    exact both_same hLW h _
