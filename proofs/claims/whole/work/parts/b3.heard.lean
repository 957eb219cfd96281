/-! tells, hears, heardBy -/
theorem SM_H {τ t : qMem} (f : frH τ t) : SM τ t := fun k j hk => f k j (by unfold scrM at hk; omega)
def spO (κ : Nat → Int32) (o : Int) : Int := mxS (kI κ (204 + 2 * o)) (kI κ (204 + 2 * o + 1))
theorem spO_rng {κ : Nat → Int32} (hw : KW κ) {o : Int} (o0 : 0 ≤ o) (o1 : o < kI κ 303) : 0 ≤ spO κ o ∧ spO κ o ≤ 3 := by
  have := hw.2.2.2.2.2.2.2.1.2 o o0 o1
  unfold spO mxS szS
  omega
theorem e_offerSpeed {σ : qMem} {κ : Nat → Int32} {o : Int} (h : CI σ.1 κ) (o0 : 0 ≤ o) (o1 : o < kI κ 303) : fX11_offerSpeed (zI o) σ = some (zI (spO κ o)) := by
  obtain ⟨bs, bk, kw, _⟩ := h
  have ko := kw.2.2.2.2.2.2.2.1.1
  have kr := kw.2.2.2.2.2.2.2.1.2 o o0 o1
  have r29 := bk.2.2.2.2.2.2.2.2.2.1
  have s29 : gi σ 29 0 = zI 2 := bs.2.2.2.2.2.2.2.1.1
  have n29 : gi σ 29 3 = zI (kI κ 303) := r29.1.trans (zI_of _).symm
  have at' : ∀ j : Int, j = 0 ∨ j = 1 → fX8_at 29 16 (zI o) (zI j) σ = some (zI (kI κ (204 + 2 * o + j))) := by
    intro j hj
    rw [e_at (w := 2) (s := kI κ 303) s29 n29 o0 o1 (by omega) (by omega) (by omega) (by omega) (by omega)]
    have := r29.2 (o * 2 + j).toNat (by omega)
    refine congrArg some (this.trans ?_)
    unfold kI
    rw [show 204 + (o * 2 + j).toNat = (204 + 2 * o + j).toNat by omega]
    exact (zI_of _).symm
  have a0 : fX8_at 29 16 (zI o) 0 σ = some (zI (kI κ (204 + 2 * o))) := by
    have := at' 0 (Or.inl rfl)
    rw [Int.add_zero] at this
    exact this
  have a1 : fX8_at 29 16 (zI o) 1 σ = _ := at' 1 (Or.inr rfl)
  unfold fX11_offerSpeed
  rw [a0, Option.bind_some, e_abs (by omega) (by omega), Option.bind_some, a1, Option.bind_some, e_abs (by omega) (by omega), Option.bind_some, e_max (by omega) (by omega) (by omega) (by omega), Option.bind_some]
  rfl
theorem b_tells {c N : Nat} {σ τ : qMem} (hN : 200000 ≤ N) (h : Inv LWd c σ τ) (p1 p2 p3 p4 : Int32) : Both LWd c (fX11_tells N p1 p2 p3 p4 σ) (fX12_tells N p1 p2 p3 p4 τ) := by
  obtain ⟨b, l1, u1, rfl⟩ := zI_ex p1
  obtain ⟨L, l2, u2, rfl⟩ := zI_ex p2
  obtain ⟨r, l3, u3, rfl⟩ := zI_ex p3
  obtain ⟨w, l4, u4, rfl⟩ := zI_ex p4
  have kw := Inv_KW h
  have ci := Inv_CI h
  obtain ⟨cl, hL⟩ := law_of (N := N) h
  have i3 : fX11_isIn (zI r) 0 200 = some (bI (decide (0 ≤ r ∧ r ≤ 200))) := by rw [zl_200]; exact e_isIn (b := 0) l3 u3 (by omega) (by omega) (by omega) (by omega)
  have j3 : fX12_in (zI r) 0 200 = some (bI (decide (0 ≤ r ∧ r ≤ 200))) := by rw [zl_200]; exact e_in (b := 0) l3 u3 (by omega) (by omega) (by omega) (by omega)
  have i4 : fX11_isIn (zI w) 0 2 = some (bI (decide (0 ≤ w ∧ w ≤ 2))) := e_isIn (b := 0) (c := 2) l4 u4 (by omega) (by omega) (by omega) (by omega)
  have j4 : fX12_in (zI w) 0 2 = some (bI (decide (0 ≤ w ∧ w ≤ 2))) := e_in (b := 0) (c := 2) l4 u4 (by omega) (by omega) (by omega) (by omega)
  unfold fX11_tells fX12_tells
  simp only [e_isBoat l1 u1, r_isBoat l1 u1, e_isBell l2 u2, r_isBell l2 u2, i3, j3, i4, j4, Option.bind_some, if_bI, decide_eq_true_eq]
  by_cases q1 : 0 ≤ b ∧ b ≤ 1
  · rw [if_pos q1, if_pos q1]
    by_cases q2 : 0 ≤ L ∧ L ≤ 23
    · rw [if_pos q2, if_pos q2]
      by_cases q3 : 0 ≤ r ∧ r ≤ 200
      · rw [if_pos q3, if_pos q3]
        by_cases q4 : 0 ≤ w ∧ w ≤ 2
        · rw [if_pos q4, if_pos q4]
          have sr := spd_rng (bell := L) kw.1 q1.1 q1.2
          have dr := (kw.1 b q1.1 q1.2).2.2.1
          have hve : okV (envS (spd (τ.1 2) b L) (depS (τ.1 2) b) r L b) := envS_ok (by omega) (by omega) (by omega) (by omega) (by omega)
          refine both_q (v := zI (lawS (envS (spd (τ.1 2) b L) (depS (τ.1 2) b) r L b) w cl 0)) LWd_c h ?_ ?_
          · have k0 : (ck (zI b) 2 = true) = True := zI_ckT q1.1 (by omega) (by omega)
            have z0 : (zI b).toNatClampNeg = b.toNat := zI_clamp q1.1 (by omega)
            have kl : (ck (zI L) 24 = true) = True := zI_ckT q2.1 (by omega) (by omega)
            have zl : (zI L).toNatClampNeg = L.toNat := zI_clamp q2.1 (by omega)
            simp only [k0, z0, kl, zl, if_true, eta2]
            have gd : gi σ (3 + 6 * b.toNat) 4 = zI (depS (τ.1 2) b) ∧ gi σ (3 + 6 * b.toNat + 5) L.toNat = zI (spd (τ.1 2) b L) := by
              have e : ((L.toNat : Nat) : Int) = L := by omega
              rcases (by omega : b = 0 ∨ b = 1) with z | z
              · subst z
                have := (ci.2.1.1.2.2 L.toNat (by omega)).2.2
                rw [e] at this
                exact ⟨(ci.2.1.1.1).trans (zI_of _).symm, this⟩
              · subst z
                have := (ci.2.1.2.1.2.2 L.toNat (by omega)).2.2
                rw [e] at this
                exact ⟨(ci.2.1.2.1.1).trans (zI_of _).symm, this⟩
            rw [gd.1, gd.2]
            unfold fX5_pose
            rw [if_pos (by decide)]
            simp only [nmM]
            rw [if_pos (c := ck 1 5 = true) (by decide), if_pos (c := ck 3 5 = true) (by decide), if_pos (c := ck 4 5 = true) (by decide), Option.bind_some]
            generalize hp1 : si (si (si (si σ (35 + 5) (0 : Int32).toNatClampNeg (zI (spd (τ.1 2) b L))) (35 + 5) (1 : Int32).toNatClampNeg (zI (depS (τ.1 2) b))) (35 + 5) (3 : Int32).toNatClampNeg (zI L)) (35 + 5) (4 : Int32).toNatClampNeg (zI b) = σ1
            have g1 : ∀ k j, gi σ1 k j = if k = 40 ∧ j = 4 then zI b else if k = 40 ∧ j = 3 then zI L else if k = 40 ∧ j = 1 then zI (depS (τ.1 2) b) else if k = 40 ∧ j = 0 then zI (spd (τ.1 2) b L) else gi σ k j := by intro k j; rw [← hp1]; simp only [gi_si]; rfl
            have o1 : ∀ k j, k ≠ 40 → gi σ1 k j = gi σ k j := fun k j hk => by rw [g1, if_neg (by omega), if_neg (by omega), if_neg (by omega), if_neg (by omega)]
            have hL1 : lawOf N σ1.1 (τ.1 2) cl := lawOf_c hL (fun k j k1 k2 k3 => o1 k j (by omega))
            have := e_answer (N := N) (K := 35) (e := envS (spd (τ.1 2) b L) (depS (τ.1 2) b) r L b) (what := w) (range := r) hN hL1.1 hL1.2.1 (fun x hx hx2 => by
              rw [g1]
              rcases (by omega : x = 0 ∨ x = 1 ∨ x = 3 ∨ x = 4) with z | z | z | z
              · subst z; rfl
              · subst z; rfl
              · subst z; rfl
              · subst z; rfl) rfl hve q4.1 q4.2
            refine Ho_mono this (fun y ⟨y1, y2⟩ => ⟨y1, fun k j hk => ?_, CC_c (m := σ.1) (m' := y.2.1) (fun k j hk => (y2 k j (by omega)).trans (o1 k j (by omega))) ci.2.2.2⟩)
            unfold scrC at hk
            exact (y2 k j (by omega)).trans (o1 k j (by omega))
          · obtain ⟨⟨n0, n1⟩, tv0, hr, h12, N', hg⟩ := kLaw_of hL
            rw [r_speed hN kw.1 q1.1 q1.2 q2.1 q2.2, Option.bind_some]
            obtain ⟨t, e1, e2, e3⟩ := r_asks (τ := τ) (κ := τ.1 2) (L := L) (sp := spd (τ.1 2) b L) rfl q1.1 q1.2
            rw [e1, Option.bind_some, eta2]
            have kt : t.1 2 = τ.1 2 := funext fun j => e3 2 j (by omega)
            have := r_tellsOf (N := N) (e := envS (spd (τ.1 2) b L) (depS (τ.1 2) b) r L b) (cl := cl) (what := w) (range := r) (τ := t) hN (by rw [kt]; exact n0) (by rw [kt]; exact n1) (by rw [kt]; exact tv0) (by rw [kt]; exact hr) h12 (fun x hx hx2 => e2 x hx hx2 r) rfl hve q4.1 q4.2 (fun c hcc v hv' => clF_sm (hg c hcc) hve hv')
            refine Ho_mono this (fun y ⟨y1, y2⟩ => ⟨y1, fun k j hk => ?_, RC_c (t := τ.1) (t' := y.2.1) (fun k j hk => (y2 k j (by omega)).trans (e3 k j (by omega))) (Inv_RC h)⟩)
            unfold scrM at hk
            exact (y2 k j (by omega)).trans (e3 k j (by omega))
        · rw [if_neg q4, if_neg q4]; exact both_same LWd_c h _
      · rw [if_neg q3, if_neg q3]; exact both_same LWd_c h _
    · rw [if_neg q2, if_neg q2]; exact both_same LWd_c h _
  · rw [if_neg q1, if_neg q1]; exact both_same LWd_c h _
theorem lawOf_S {N : Nat} {σ σ' : qMem} {κ : Nat → Int32} {cl : List CL} (h : lawOf N σ.1 κ cl) (s : SC σ σ') : lawOf N σ'.1 κ cl := lawOf_c h (fun k j k1 k2 k3 => s k j (by unfold scrC; omega))
theorem b_hears {c N : Nat} {σ τ : qMem} (hN : 200000 ≤ N) (h : Inv LWd c σ τ) (p1 p2 : Int32) : Both LWd c (fX11_hears N p1 p2 σ) (fX12_hears N p1 p2 τ) := by
  obtain ⟨b, l1, u1, rfl⟩ := zI_ex p1
  obtain ⟨L, l2, u2, rfl⟩ := zI_ex p2
  have kw := Inv_KW h
  have ci := Inv_CI h
  obtain ⟨cl, hL⟩ := law_of (N := N) h
  unfold fX11_hears fX12_hears
  simp only [e_isBoat l1 u1, r_isBoat l1 u1, e_isBell l2 u2, r_isBell l2 u2, Option.bind_some, if_bI, decide_eq_true_eq]
  by_cases q1 : 0 ≤ b ∧ b ≤ 1
  · rw [if_pos q1, if_pos q1]
    by_cases q2 : 0 ≤ L ∧ L ≤ 23
    · rw [if_pos q2, if_pos q2]
      have sr := spd_rng (bell := L) kw.1 q1.1 q1.2
      have px := pos_rng (b := b) (bell := L) (w := 0) kw.1 q1.1 q1.2 (Or.inl rfl) q2.2
      have py := pos_rng (b := b) (bell := L) (w := 1) kw.1 q1.1 q1.2 (Or.inr rfl) q2.2
      refine both_q (v := zI (fb_ct (hearB (τ.1 2) L (pos (τ.1 2) b L 0) (pos (τ.1 2) b L 1) (earB (τ.1 2) cl b L (spd (τ.1 2) b L))) 50176)) LWd_c h ?_ ?_
      · refine Ho_bind (e_plot hN ci) fun s ⟨w1, w2, w3, _⟩ => ?_
        have k0 : (ck (zI b) 2 = true) = True := zI_ckT q1.1 (by omega) (by omega)
        have z0 : (zI b).toNatClampNeg = b.toNat := zI_clamp q1.1 (by omega)
        have kl : (ck (zI L) 24 = true) = True := zI_ckT q2.1 (by omega) (by omega)
        have zl : (zI L).toNatClampNeg = L.toNat := zI_clamp q2.1 (by omega)
        simp only [k0, z0, kl, zl, if_true, eta2]
        have gd : gi s (3 + 6 * b.toNat + 3) L.toNat = zI (pos (τ.1 2) b L 0) ∧ gi s (3 + 6 * b.toNat + 4) L.toNat = zI (pos (τ.1 2) b L 1) ∧ gi s (3 + 6 * b.toNat + 5) L.toNat = zI (spd (τ.1 2) b L) := by
          have e : ((L.toNat : Nat) : Int) = L := by omega
          rcases (by omega : b = 0 ∨ b = 1) with z | z
          · subst z
            have := (w1.2.1.1.2.2 L.toNat (by omega))
            rw [e] at this
            exact this
          · subst z
            have := (w1.2.1.2.1.2.2 L.toNat (by omega))
            rw [e] at this
            exact this
        rw [gd.1, gd.2.1, gd.2.2]
        refine Ho_mono (e_hearers hN w1 w3 (lawOf_S hL w2) q1.1 q1.2 q2.1 q2.2 sr.1 sr.2 (by omega) (by omega) (by omega) (by omega)) (fun y ⟨y1, y2, y3, _⟩ => ⟨y1, SC_trans w2 y2, y3⟩)
      · refine Ho_bind (r_fits hN rfl kw (Inv_RC h) (Inv_v h)) fun t ⟨f1, f2, f3⟩ => ?_
        have kt : t.1 2 = τ.1 2 := SM_κ f1
        have sp : fX12_speedOf N (zI b) (zI L) t = some (zI (spd (τ.1 2) b L)) := by rw [← kt]; exact r_speed hN (by rw [kt]; exact kw.1) q1.1 q1.2 q2.1 q2.2
        rw [sp, Option.bind_some]
        obtain ⟨t2, e1, e2, e3⟩ := r_asks (τ := t) (κ := τ.1 2) (L := L) (sp := spd (τ.1 2) b L) kt q1.1 q1.2
        rw [e1, Option.bind_some]
        have kt2 : t2.1 2 = τ.1 2 := (funext fun j => e3 2 j (by omega) : t2.1 2 = t.1 2).trans kt
        have bo : fX12_boatOf (zI b) 2 t2 = some (zI (depS (τ.1 2) b)) := by
          have := r_boatOf (τ := t2) (b := b) (f := 2) q1.1 q1.2 (by omega) (by omega)
          rw [kt2] at this
          exact this
        rw [bo, Option.bind_some]
        have rc2 : RC t2.1 (τ.1 2) := RC_c (t := t.1) (t' := t2.1) (fun k j hk => e3 k j (by omega)) f2
        have v2 : 0 ≤ (gi t2 0 2).toInt := by rw [e3 0 2 (by omega)]; exact Inv_v2 f1 (Inv_v h)
        refine Ho_bind (r_hearsBy hN kt2 kw (kLaw_of hL) v2 (crOK_of rc2) e2 q1.1 q1.2 q2.1 q2.2 sr.1 sr.2) fun t3 ⟨g1, g2, g3⟩ => ?_
        have kt3 : t3.1 2 = τ.1 2 := (funext fun j => g2 2 j (by omega) : t3.1 2 = t2.1 2).trans kt2
        have f3' : fitsOK t3.1 (τ.1 2) := fitsOK_c (t := t.1) (fun k j hk => (g2 k j (by omega)).trans (e3 k j (by omega))) f3
        refine Ho_mono (r_hearsL hN kt3 kw f3' g1 q1.1 q1.2 q2.1 q2.2) (fun a ha => ?_)
        rw [ha]
        exact ⟨rfl, SM_trans f1 (SM_trans (fun k j hk => e3 k j (by unfold scrM at hk; omega)) (SM_H g2)), RC_H rc2 g2 g3⟩
    · rw [if_neg q2, if_neg q2]; exact both_same LWd_c h _
  · rw [if_neg q1, if_neg q1]; exact both_same LWd_c h _
/-- how many would hear an offer -/
theorem r_heardByOf {N : Nat} {τ : qMem} {κ : Nat → Int32} {cl : List CL} {b n o : Int} (hN : 200000 ≤ N) (hκ : τ.1 2 = κ) (hw : KW κ) (hl : kLaw κ cl) (hr : RC τ.1 κ) (hv : 0 ≤ (gi τ 0 2).toInt) (b0 : 0 ≤ b) (b1 : b + n ≤ 23) (n0 : 1 ≤ n) (n1 : n ≤ 9) (o0 : 0 ≤ o) (o1 : o < kI κ 303) :
    Ho (fX12_heardByOf N (zI b) (zI n) (zI o) τ) (fun a => a.1 = zI (fb_ct (hearB κ (b + n) (offX κ b n o 0) (offX κ b n o 1) (earB κ cl 0 (b + n) (spO κ o))) 50176) ∧ SM τ a.2 ∧ RC a.2.1 κ) := by
  have ko := hw.2.2.2.2.2.2.2.1.1
  have kr := hw.2.2.2.2.2.2.2.1.2 o o0 o1
  have sr := spO_rng hw o0 o1
  have ox := offX_rng (w := 0) hw b0 (by omega) n0 n1 o0 o1 (Or.inl rfl)
  have oy := offX_rng (w := 1) hw b0 (by omega) n0 n1 o0 o1 (Or.inr rfl)
  unfold fX12_heardByOf
  refine Ho_bind (r_fits hN hκ hw hr hv) fun t ⟨f1, f2, f3⟩ => ?_
  have kt : t.1 2 = κ := (SM_κ f1).trans hκ
  have e1 : (204 : Int32) + 2 * zI o = zI (204 + 2 * o) := by rw [show (2 : Int32) = zI 2 from rfl, show (204 : Int32) = zI 204 from rfl, zI_mul, zI_add]
  have e2 : zI (204 + 2 * o) + 1 = zI (204 + 2 * o + 1) := by rw [show (1 : Int32) = zI 1 from rfl, zI_add]
  have k1 : (ck (zI (204 + 2 * o)) 1112 = true) = True := zI_ckT (by omega) (by omega) (by omega)
  have k2 : (ck (zI (204 + 2 * o + 1)) 1112 = true) = True := zI_ckT (by omega) (by omega) (by omega)
  have z1 : (zI (204 + 2 * o)).toNatClampNeg = (204 + 2 * o).toNat := zI_clamp (by omega) (by omega)
  have z2 : (zI (204 + 2 * o + 1)).toNatClampNeg = (204 + 2 * o + 1).toNat := zI_clamp (by omega) (by omega)
  have x1 : gi t 2 (204 + 2 * o).toNat = zI (kI κ (204 + 2 * o)) := by have := kI_z t 2 (204 + 2 * o); rw [kt] at this; exact this
  have x2 : gi t 2 (204 + 2 * o + 1).toNat = zI (kI κ (204 + 2 * o + 1)) := by have := kI_z t 2 (204 + 2 * o + 1); rw [kt] at this; exact this
  have a0 : fX12_at N 0 (zI b) 0 t = some (zI (pos κ 0 b 0)) := by rw [← kt]; exact r_at (b := 0) (w := 0) hN (by rw [kt]; exact hw.1) (by omega) (by omega) b0 (by omega) (Or.inl rfl)
  have a1 : fX12_at N 0 (zI b) 1 t = some (zI (pos κ 0 b 1)) := by rw [← kt]; exact r_at (b := 0) (w := 1) hN (by rw [kt]; exact hw.1) (by omega) (by omega) b0 (by omega) (Or.inr rfl)
  obtain ⟨m1, m2, m3⟩ := r_mx (x := kI κ (204 + 2 * o)) (y := kI κ (204 + 2 * o + 1)) (by omega) (by omega) (by omega) (by omega)
  simp only [e1, e2, k1, k2, if_true, z1, z2, x1, x2, nmI, a0, a1, Option.bind_some, m1, m2, m3, zI_add, zI_mul]
  obtain ⟨t2, q1, q2, q3⟩ := r_asks (τ := t) (κ := κ) (b := 0) (L := b + n) (sp := spO κ o) kt (by omega) (by omega)
  have q1' : fX12_asksBoat 0 (zI (b + n)) (zI (mxS (kI κ (204 + 2 * o)) (kI κ (204 + 2 * o + 1)))) t = some t2 := q1
  rw [q1', Option.bind_some]
  have kt2 : t2.1 2 = κ := (funext fun j => q3 2 j (by omega) : t2.1 2 = t.1 2).trans kt
  have bo : fX12_boatOf 0 2 t2 = some (zI (depS κ 0)) := by
    have := r_boatOf (τ := t2) (b := 0) (f := 2) (by omega) (by omega) (by omega) (by omega)
    rw [kt2] at this
    exact this
  rw [bo, Option.bind_some]
  have rc2 : RC t2.1 κ := RC_c (t := t.1) (t' := t2.1) (fun k j hk => q3 k j (by omega)) f2
  have v2 : 0 ≤ (gi t2 0 2).toInt := by rw [q3 0 2 (by omega)]; exact Inv_v2 f1 hv
  refine Ho_bind (r_hearsBy hN kt2 hw hl v2 (crOK_of rc2) q2 (by omega) (by omega) (by omega) (by omega) sr.1 sr.2) fun t3 ⟨g1, g2, g3⟩ => ?_
  have f3' : fitsOK t3.1 κ := fitsOK_c (t := t.1) (fun k j hk => (g2 k j (by omega)).trans (q3 k j (by omega))) f3
  have e0 : pos κ 0 b 0 + n * kI κ (204 + 2 * o) = offX κ b n o 0 := by unfold offX; rw [Int.add_zero]
  have e9 : pos κ 0 b 1 + n * kI κ (204 + 2 * o + 1) = offX κ b n o 1 := rfl
  rw [e0, e9]
  refine Ho_mono (r_hearL hN f3' g1 (by omega) (by omega) (by omega) (by omega) (by omega) (by omega)) (fun a ha => ?_)
  rw [ha]
  exact ⟨rfl, SM_trans f1 (SM_trans (fun k j hk => q3 k j (by unfold scrM at hk; omega)) (SM_H g2)), RC_H rc2 g2 g3⟩
theorem b_heardBy {c N : Nat} {σ τ : qMem} (hN : 200000 ≤ N) (h : Inv LWd c σ τ) (p1 p2 p3 : Int32) : Both LWd c (fX11_heardBy N p1 p2 p3 σ) (fX12_heardBy N p1 p2 p3 τ) := by
  obtain ⟨b, l1, u1, rfl⟩ := zI_ex p1
  obtain ⟨n, l2, u2, rfl⟩ := zI_ex p2
  obtain ⟨o, l3, u3, rfl⟩ := zI_ex p3
  have kw := Inv_KW h
  have ci := Inv_CI h
  have ko : 0 ≤ kI (τ.1 2) 303 ∧ kI (τ.1 2) 303 ≤ 8 := kw.2.2.2.2.2.2.2.1.1
  obtain ⟨cl, hL⟩ := law_of (N := N) h
  have n29 : gi σ 29 3 = zI (kI (τ.1 2) 303) := (ci.2.1.2.2.2.2.2.2.2.2.2.1).1.trans (zI_of _).symm
  have n303 : gi τ 2 303 = zI (kI (τ.1 2) 303) := (zI_of _).symm
  have i3 : fX11_isIn (zI o) 0 (gi σ 29 3 - 1) = some (bI (decide (0 ≤ o ∧ o ≤ kI (τ.1 2) 303 - 1))) := by rw [n29, show (1 : Int32) = zI 1 from rfl, zI_sub]; exact e_isIn (b := 0) l3 u3 (by omega) (by omega) (by omega) (by omega)
  have j3 : fX12_in (zI o) 0 (gi τ 2 303 - 1) = some (bI (decide (0 ≤ o ∧ o ≤ kI (τ.1 2) 303 - 1))) := by rw [n303, show (1 : Int32) = zI 1 from rfl, zI_sub]; exact e_in (b := 0) l3 u3 (by omega) (by omega) (by omega) (by omega)
  unfold fX11_heardBy fX12_heardBy fX12_heardBy_b36
  have ck0 : (ck (303 : Int32) 1112 = true) = True := by decide
  have z303 : (303 : Int32).toNatClampNeg = 303 := rfl
  simp only [e_isAhead l1 u1 l2 u2, r_isAhead l1 u1 l2 u2, i3, ck0, z303, j3, Option.bind_some, if_bI, decide_eq_true_eq, if_true]
  by_cases q : (0 ≤ b ∧ b ≤ 23) ∧ (1 ≤ n ∧ n ≤ 9) ∧ b + n ≤ 23
  · rw [if_pos q, if_pos q]
    by_cases qo : 0 ≤ o ∧ o ≤ kI (τ.1 2) 303 - 1
    · rw [if_pos qo, if_pos qo]
      have sr := spO_rng kw qo.1 (by omega)
      have ox := offX_rng (w := 0) kw q.1.1 q.1.2 q.2.1.1 q.2.1.2 qo.1 (by omega) (Or.inl rfl)
      have oy := offX_rng (w := 1) kw q.1.1 q.1.2 q.2.1.1 q.2.1.2 qo.1 (by omega) (Or.inr rfl)
      refine both_q (v := zI (fb_ct (hearB (τ.1 2) (b + n) (offX (τ.1 2) b n o 0) (offX (τ.1 2) b n o 1) (earB (τ.1 2) cl 0 (b + n) (spO (τ.1 2) o))) 50176)) LWd_c h ?_ ?_
      · refine Ho_bind (e_plot hN ci) fun s ⟨w1, w2, w3, _⟩ => ?_
        obtain ⟨x1, x2⟩ := e_offerXY (n := n) w1 q.1.1 q.1.2 qo.1 (by omega)
        rw [x1, Option.bind_some, x2, Option.bind_some, e_offerSpeed w1 qo.1 (by omega), Option.bind_some, zI_add, eta2]
        exact Ho_mono (e_hearers (b := 0) hN w1 w3 (lawOf_S hL w2) (by omega) (by omega) (by omega) q.2.2 sr.1 sr.2 (by omega) (by omega) (by omega) (by omega)) (fun y ⟨y1, y2, y3, _⟩ => ⟨y1, SC_trans w2 y2, y3⟩)
      · rw [eta2]
        exact r_heardByOf hN rfl kw (kLaw_of hL) (Inv_RC h) (Inv_v h) q.1.1 q.2.2 q.2.1.1 q.2.1.2 qo.1 (by omega)
    · rw [if_neg qo, if_neg qo]; exact both_same LWd_c h _
  · rw [if_neg q, if_neg q]; exact both_same LWd_c h _
