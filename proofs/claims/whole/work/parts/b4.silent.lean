/-! silent -/
noncomputable def hrN (κ : Nat → Int32) (cl : List CL) (b n o : Int) : Nat := fb_ct (hearB κ (b + n) (offX κ b n o 0) (offX κ b n o 1) (earB κ cl 0 (b + n) (spO κ o))) 50176
noncomputable def ptN (κ : Nat → Int32) (b n o : Int) : Nat := partN κ (b + n) (offX κ b n o 0) (offX κ b n o 1)
noncomputable def silF (κ : Nat → Int32) (cl : List CL) (b n lim : Int) : Nat → Int × Nat
  | 0 => (-1, 0)
  | i + 1 => if (hrN κ cl b n i : Int) ≤ lim ∧ ((silF κ cl b n lim i).1 = -1 ∨ ptN κ b n i < (silF κ cl b n lim i).2) then ((i : Int), ptN κ b n i) else silF κ cl b n lim i
theorem silF_rng (κ : Nat → Int32) (cl : List CL) (b n lim : Int) : ∀ i, -1 ≤ (silF κ cl b n lim i).1 ∧ (silF κ cl b n lim i).1 < i ∧ (silF κ cl b n lim i).2 ≤ 50176
  | 0 => by simp [silF]
  | i + 1 => by
    have ih := silF_rng κ cl b n lim i
    have : ptN κ b n i ≤ 50176 := partN_le κ (b + n) (offX κ b n i 0) (offX κ b n i 1)
    rw [silF]
    split
    · exact ⟨by omega, by omega, this⟩
    · omega
theorem hr_le (κ : Nat → Int32) (cl : List CL) (b n o : Int) : hrN κ cl b n o ≤ fb_ct (fitR κ) 50176 := fb_ct_sub (fun k _ hk => by
  unfold hearB at hk
  exact (Bool.and_eq_true _ _ ▸ hk).1)
theorem b_silent {c N : Nat} {σ τ : qMem} (hN : 200000 ≤ N) (h : Inv LWd c σ τ) (p1 p2 p3 : Int32) : Both LWd c (fX11_silent N p1 p2 p3 σ) (fX12_silent N p1 p2 p3 τ) := by
  obtain ⟨b, l1, u1, rfl⟩ := zI_ex p1
  obtain ⟨n, l2, u2, rfl⟩ := zI_ex p2
  obtain ⟨lim, l3, u3, rfl⟩ := zI_ex p3
  have kw := Inv_KW h
  have ci := Inv_CI h
  have kob : 0 ≤ kI (τ.1 2) 303 ∧ kI (τ.1 2) 303 ≤ 8 := kw.2.2.2.2.2.2.2.1.1
  obtain ⟨cl, hL⟩ := law_of (N := N) h
  have z6 : (60000 : Int32) = zI 60000 := rfl
  have i3 : fX11_isIn (zI lim) 0 60000 = some (bI (decide (0 ≤ lim ∧ lim ≤ 60000))) := by rw [z6]; exact e_isIn (b := 0) l3 u3 (by omega) (by omega) (by omega) (by omega)
  have j3 : fX12_in (zI lim) 0 60000 = some (bI (decide (0 ≤ lim ∧ lim ≤ 60000))) := by rw [z6]; exact e_in (b := 0) l3 u3 (by omega) (by omega) (by omega) (by omega)
  unfold fX11_silent fX12_silent
  simp only [e_isAhead l1 u1 l2 u2, r_isAhead l1 u1 l2 u2, i3, j3, Option.bind_some, if_bI, decide_eq_true_eq]
  by_cases q : (0 ≤ b ∧ b ≤ 23) ∧ (1 ≤ n ∧ n ≤ 9) ∧ b + n ≤ 23
  · rw [if_pos q, if_pos q]
    by_cases ql : 0 ≤ lim ∧ lim ≤ 60000
    · rw [if_pos ql, if_pos ql]
      have rngX : ∀ o w : Int, 0 ≤ o → o < kI (τ.1 2) 303 → w = 0 ∨ w = 1 → -100 ≤ offX (τ.1 2) b n o w ∧ offX (τ.1 2) b n o w ≤ 130 := fun o w o0 o1 hw => offX_rng kw q.1.1 q.1.2 q.2.1.1 q.2.1.2 o0 o1 hw
      refine both_q (v := zI (silF (τ.1 2) cl b n lim (kI (τ.1 2) 303).toNat).1) LWd_c h ?_ ?_
      · refine Ho_bind (e_plot hN ci) fun s ⟨w1, w2, w3, _⟩ => ?_
        have le := fit_le (τ.1 2)
        rw [eta2]
        unfold fX11_bestOffer
        rw [zI_add]
        have hst := lp_for (S := qMem) (R := Int32 × qMem) (fun m i t => fX11_bestOffer_l14 N m (zI b) (zI n) (zI lim) (zI (b + n)) (zI (silF (τ.1 2) cl b n lim i.toNat).1) (zI ((silF (τ.1 2) cl b n lim i.toNat).2 : Nat)) (zI i) t) (fun i t => 0 ≤ i ∧ CI t.1 (τ.1 2) ∧ SC σ t ∧ plots t.1 (τ.1 2)) (fun a => a.1 = zI (silF (τ.1 2) cl b n lim (kI (τ.1 2) 303).toNat).1 ∧ SC σ a.2 ∧ CC a.2.1 (τ.1 2)) (kI (τ.1 2) 303) ?_ ?_ N 0 s (by omega) (by omega) ⟨by omega, w1, w2, w3⟩
        · exact hst
        · intro m t ⟨_, ci2, sc2, _⟩
          show Ho (fX11_bestOffer_s14 N _ _ _ _ _ _ _ _ _) _
          unfold fX11_bestOffer_s14
          have n29 : gi t 29 3 = zI (kI (τ.1 2) 303) := (ci2.2.1.2.2.2.2.2.2.2.2.2.1).1.trans (zI_of _).symm
          have c1 : (gi t 29 3 ≤ zI (kI (τ.1 2) 303)) = True := by rw [n29, zI_le (by omega) (by omega) (by omega) (by omega)]; exact eq_true (by omega)
          simp only [c1, if_true]
          exact Ho_some ⟨rfl, sc2, ci2.2.2.2⟩
        · intro m i t hi ⟨i0, ci2, sc2, hp⟩ hc
          show Ho (fX11_bestOffer_s14 N _ _ _ _ _ _ _ _ _) _
          unfold fX11_bestOffer_s14
          have n29 : gi t 29 3 = zI (kI (τ.1 2) 303) := (ci2.2.1.2.2.2.2.2.2.2.2.2.1).1.trans (zI_of _).symm
          have c1 : (gi t 29 3 ≤ zI i) = False := by rw [n29, zI_le (by omega) (by omega) (by omega) (by omega)]; exact eq_false (by omega)
          have g14 : gi t 44 14 = zI (fb_ct (fitR (τ.1 2)) 50176) := hp.2
          have c2 : (gi t 44 14 ≤ zI lim) = ((fb_ct (fitR (τ.1 2)) 50176 : Int) ≤ lim) := by rw [g14, zI_le (by omega) (by omega) (by omega) (by omega)]
          obtain ⟨x1, x2⟩ := e_offerXY (n := n) ci2 q.1.1 q.1.2 i0 hi
          simp only [c1, if_false, x1, x2, Option.bind_some, c2, e_offerSpeed ci2 i0 hi]
          have rx := rngX i 0 i0 hi (Or.inl rfl)
          have ry := rngX i 1 i0 hi (Or.inr rfl)
          have sr := spO_rng kw i0 hi
          have tr := silF_rng (τ.1 2) cl b n lim i.toNat
          have pl : ptN (τ.1 2) b n i ≤ 50176 := partN_le (τ.1 2) (b + n) (offX (τ.1 2) b n i 0) (offX (τ.1 2) b n i 1)
          have hl' := hr_le (τ.1 2) cl b n i
          have i1 : zI i + 1 = zI (i + 1) := zI_add i 1
          have nxt := silF.eq_2 (τ.1 2) cl b n lim i.toNat
          rw [show ((i.toNat : Nat) : Int) = i by omega] at nxt
          have b84 : ∀ u : qMem, CI u.1 (τ.1 2) → SC σ u → plots u.1 (τ.1 2) → (hrN (τ.1 2) cl b n i : Int) ≤ lim → Ho (fX11_bestOffer_b84 N (fX11_bestOffer_l14 N m) (zI b) (zI n) (zI lim) (zI (b + n)) (zI (silF (τ.1 2) cl b n lim i.toNat).1) (zI ((silF (τ.1 2) cl b n lim i.toNat).2 : Nat)) (zI i) (zI (offX (τ.1 2) b n i 0)) (zI (offX (τ.1 2) b n i 1)) u) (fun a => a.1 = zI (silF (τ.1 2) cl b n lim (kI (τ.1 2) 303).toNat).1 ∧ SC σ a.2 ∧ CC a.2.1 (τ.1 2)) := by
            intro u cu su pu hle
            unfold fX11_bestOffer_b84
            refine Ho_bind (e_largestGroup hN pu (by omega) (by omega) (by omega) (by omega) (by omega) (by omega)) fun a ⟨y1, y2⟩ => ?_
            obtain ⟨v, t2⟩ := a
            dsimp only at y1 y2 ⊢
            obtain ⟨ci3, sc3⟩ := group_of cu y2
            have hp3 : plots t2.1 (τ.1 2) := ⟨fun l hl => (y2 61 l (by omega)).trans (pu.1 l hl), (y2 44 14 (by omega)).trans pu.2⟩
            have d1 : (zI (silF (τ.1 2) cl b n lim i.toNat).1 = -1) = ((silF (τ.1 2) cl b n lim i.toNat).1 = -1) := by rw [show (-1 : Int32) = zI (-1) from rfl, zI_eq (by omega) (by omega) (by omega) (by omega)]
            have d2 : (zI ((silF (τ.1 2) cl b n lim i.toNat).2 : Nat) ≤ zI (ptN (τ.1 2) b n i : Nat)) = ((silF (τ.1 2) cl b n lim i.toNat).2 ≤ ptN (τ.1 2) b n i) := by rw [zI_le (by omega) (by omega) (by omega) (by omega)]; exact propext ⟨fun h => by omega, fun h => by omega⟩
            have y1' : v = zI (ptN (τ.1 2) b n i : Nat) := y1
            have hc' := hc t2 ⟨by omega, ci3, SC_trans su sc3, hp3⟩
            rw [show (i + 1).toNat = i.toNat + 1 by omega, nxt] at hc'
            rw [y1']
            unfold fX11_bestOffer_b112 fX11_bestOffer_b120
            simp only [d1, d2, i1]
            by_cases z1 : (silF (τ.1 2) cl b n lim i.toNat).1 = -1
            · rw [if_pos ⟨hle, Or.inl z1⟩] at hc'
              rw [if_pos z1]
              exact hc'
            · rw [if_neg z1]
              by_cases z2 : (silF (τ.1 2) cl b n lim i.toNat).2 ≤ ptN (τ.1 2) b n i
              · rw [if_neg (by omega)] at hc'
                rw [if_pos z2]
                exact hc'
              · rw [if_pos ⟨hle, by omega⟩] at hc'
                rw [if_neg z2]
                exact hc'
          by_cases qf : (fb_ct (fitR (τ.1 2)) 50176 : Int) ≤ lim
          · rw [if_pos qf]
            exact b84 t ci2 sc2 hp (by omega)
          · rw [if_neg qf]
            refine Ho_bind (show Ho (fX3_hearers N 0 (zI (b + n)) (zI (spO (τ.1 2) i)) (zI (offX (τ.1 2) b n i 0)) (zI (offX (τ.1 2) b n i 1)) t) _ from e_hearers (b := 0) hN ci2 hp (lawOf_S hL sc2) (by omega) (by omega) (by omega) q.2.2 sr.1 sr.2 (by omega) (by omega) (by omega) (by omega)) (fun y ⟨y1, y2, y3, y4⟩ => ?_)
            have y1' : y.1 = zI (hrN (τ.1 2) cl b n i : Nat) := y1
            have c3 : (zI lim < zI (hrN (τ.1 2) cl b n i : Nat)) = (lim < (hrN (τ.1 2) cl b n i : Int)) := by rw [zI_lt (by omega) (by omega) (by omega) (by omega)]
            rw [y1']
            simp only [c3]
            have ciy := CI_of ci2 y2 y3
            by_cases qh : lim < (hrN (τ.1 2) cl b n i : Int)
            · rw [if_pos qh]
              have hc' := hc y.2 ⟨by omega, ciy, SC_trans sc2 y2, y4⟩
              rw [show (i + 1).toNat = i.toNat + 1 by omega, nxt, if_neg (by omega)] at hc'
              unfold fX11_bestOffer_b120
              rw [i1]
              exact hc'
            · rw [if_neg qh]
              exact b84 y.2 ciy (SC_trans sc2 y2) y4 (by omega)
      · have hst := lp_for (S := qMem) (R := Int32 × qMem) (fun m i t => fX12_silent_l30 N m (zI b) (zI n) (zI lim) (zI (silF (τ.1 2) cl b n lim i.toNat).1) (zI ((silF (τ.1 2) cl b n lim i.toNat).2 : Nat)) (zI i) t) (fun i t => 0 ≤ i ∧ SM τ t ∧ RC t.1 (τ.1 2)) (fun a => a.1 = zI (silF (τ.1 2) cl b n lim (kI (τ.1 2) 303).toNat).1 ∧ SM τ a.2 ∧ RC a.2.1 (τ.1 2)) (kI (τ.1 2) 303) ?_ ?_ N 0 τ (by omega) (by omega) ⟨by omega, SM_refl _, Inv_RC h⟩
        · exact hst
        · intro m t ⟨_, h1, h2⟩
          show Ho (fX12_silent_s30 N _ _ _ _ _ _ _ _) _
          unfold fX12_silent_s30
          have ck0 : (ck (303 : Int32) 1112 = true) = True := by decide
          have z303 : (303 : Int32).toNatClampNeg = 303 := rfl
          have n303 : gi t 2 303 = zI (kI (τ.1 2) 303) := (h1 2 303 (by unfold scrM; omega)).trans (zI_of _).symm
          have c1 : (zI (kI (τ.1 2) 303) ≤ zI (kI (τ.1 2) 303)) = True := by rw [zI_le (by omega) (by omega) (by omega) (by omega)]; exact eq_true (by omega)
          simp only [ck0, z303, n303, c1, if_true]
          exact Ho_some ⟨rfl, h1, h2⟩
        · intro m i t hi ⟨i0, h1, h2⟩ hc
          show Ho (fX12_silent_s30 N _ _ _ _ _ _ _ _) _
          unfold fX12_silent_s30
          have ck0 : (ck (303 : Int32) 1112 = true) = True := by decide
          have z303 : (303 : Int32).toNatClampNeg = 303 := rfl
          have n303 : gi t 2 303 = zI (kI (τ.1 2) 303) := (h1 2 303 (by unfold scrM; omega)).trans (zI_of _).symm
          have c1 : (zI (kI (τ.1 2) 303) ≤ zI i) = False := by rw [zI_le (by omega) (by omega) (by omega) (by omega)]; exact eq_false (by omega)
          simp only [ck0, z303, n303, c1, if_true, if_false]
          have le := fit_le (τ.1 2)
          have tr := silF_rng (τ.1 2) cl b n lim i.toNat
          have pl : ptN (τ.1 2) b n i ≤ 50176 := partN_le (τ.1 2) (b + n) (offX (τ.1 2) b n i 0) (offX (τ.1 2) b n i 1)
          have hl' := hr_le (τ.1 2) cl b n i
          have i1 : zI i + 1 = zI (i + 1) := zI_add i 1
          have nxt := silF.eq_2 (τ.1 2) cl b n lim i.toNat
          rw [show ((i.toNat : Nat) : Int) = i by omega] at nxt
          refine Ho_bind (r_heardByOf hN (SM_κ h1) kw (kLaw_of hL) h2 (Inv_v2 h1 (Inv_v h)) q.1.1 q.2.2 q.2.1.1 q.2.1.2 i0 hi) fun a ⟨y1, y2, y3⟩ => ?_
          have y1' : a.1 = zI (hrN (τ.1 2) cl b n i : Nat) := y1
          have c3 : (zI (hrN (τ.1 2) cl b n i : Nat) ≤ zI lim) = ((hrN (τ.1 2) cl b n i : Int) ≤ lim) := by rw [zI_le (by omega) (by omega) (by omega) (by omega)]
          rw [y1']
          simp only [c3]
          have sma := SM_trans h1 y2
          by_cases qh : (hrN (τ.1 2) cl b n i : Int) ≤ lim
          · rw [if_pos qh]
            refine Ho_bind (r_partsOf hN (SM_κ sma) kw y3 (Inv_v2 sma (Inv_v h)) q.1.1 q.2.2 q.2.1.1 q.2.1.2 i0 hi) fun d ⟨x1, x2, x3⟩ => ?_
            obtain ⟨v, t2⟩ := d
            dsimp only at x1 x2 x3 ⊢
            have x1' : v = zI (ptN (τ.1 2) b n i : Nat) := x1
            have d1 : (zI (silF (τ.1 2) cl b n lim i.toNat).1 = -1) = ((silF (τ.1 2) cl b n lim i.toNat).1 = -1) := by rw [show (-1 : Int32) = zI (-1) from rfl, zI_eq (by omega) (by omega) (by omega) (by omega)]
            have d2 : (zI (ptN (τ.1 2) b n i : Nat) < zI ((silF (τ.1 2) cl b n lim i.toNat).2 : Nat)) = (ptN (τ.1 2) b n i < (silF (τ.1 2) cl b n lim i.toNat).2) := by rw [zI_lt (by omega) (by omega) (by omega) (by omega)]; exact propext ⟨fun h => by omega, fun h => by omega⟩
            have hc' := hc t2 ⟨by omega, SM_trans sma x2, x3⟩
            rw [show (i + 1).toNat = i.toNat + 1 by omega, nxt] at hc'
            rw [x1']
            unfold fX12_silent_b84 fX12_silent_b92
            simp only [d1, d2, i1]
            by_cases z1 : (silF (τ.1 2) cl b n lim i.toNat).1 = -1
            · rw [if_pos ⟨qh, Or.inl z1⟩] at hc'
              rw [if_pos z1]
              exact hc'
            · rw [if_neg z1]
              by_cases z2 : ptN (τ.1 2) b n i < (silF (τ.1 2) cl b n lim i.toNat).2
              · rw [if_pos ⟨qh, Or.inr z2⟩] at hc'
                rw [if_pos z2]
                exact hc'
              · rw [if_neg (by omega)] at hc'
                rw [if_neg z2]
                exact hc'
          · rw [if_neg qh]
            have hc' := hc a.2 ⟨by omega, sma, y3⟩
            rw [show (i + 1).toNat = i.toNat + 1 by omega, nxt, if_neg (by omega)] at hc'
            unfold fX12_silent_b92
            rw [i1]
            exact hc'
    · rw [if_neg ql, if_neg ql]; exact both_same LWd_c h _
  · rw [if_neg q, if_neg q]; exact both_same LWd_c h _
