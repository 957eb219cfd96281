/-! who hears: the counts, given the rings that hear -/
noncomputable def hearB (κ : Nat → Int32) (L X Y : Int) (P : Int → Bool) (r : Nat) : Bool := fitR κ r && P (mxS (rX r L - X) (rY r L - Y))
theorem e_hearL {N : Nat} {σ : qMem} {κ : Nat → Int32} {L X Y : Int} {P : Int → Bool} (hN : 200000 ≤ N) (hp : plots σ.1 κ) (hr : ringOK σ.1 57 P) (l0 : 0 ≤ L) (l1 : L ≤ 23) (x0 : -100 ≤ X) (x1 : X ≤ 130) (y0 : -100 ≤ Y) (y1 : Y ≤ 130) :
    Ho (fX3_hearers_l149 N N (zI L) (zI X) (zI Y) 0 0 σ) (fun a => a = (zI (fb_ct (hearB κ L X Y P) 50176), σ)) := by
  rw [← lanes_ct]
  have hst := lp_for (S := Int) (R := Int32 × qMem) (fun n i s => fX3_hearers_l149 N n (zI L) (zI X) (zI Y) (zI s) (zI i) σ) (fun i s => 0 ≤ i ∧ s = fb_sm (fun l => fb_ct (fun j => hearB κ L X Y P (laneR l j)) 32) i.toNat) (fun a => a = (zI (fb_sm (fun l => fb_ct (fun j => hearB κ L X Y P (laneR l j)) 32) 1568), σ)) 1568 ?_ ?_ N 0 0 (by omega) (by omega) ⟨by omega, rfl⟩
  · exact hst
  · intro n s ⟨_, hs⟩
    show Ho (fX3_hearers_s149 N _ _ _ _ _ _ _) _
    unfold fX3_hearers_s149
    rw [if_pos (by decide)]
    exact Ho_some (by rw [hs]; rfl)
  · intro n i s hi ⟨i0, hs⟩ hc
    show Ho (fX3_hearers_s149 N _ _ _ _ _ _ _) _
    unfold fX3_hearers_s149 fX3_hearers_b212
    have c : (1568 ≤ zI i) = False := by rw [zl_1568, zI_le (by omega) (by omega) (by omega) (by omega)]; exact eq_false (by omega)
    have ub := mulb (u := i / 7 % 7 - 3) (bell := L) (by omega) (by omega) l0 l1
    have vb := mulb (u := i % 7 - 3) (bell := L) (by omega) (by omega) l0 l1
    have cc : (ck (zI i) 1568 = true) = True := zI_ckT (by omega) (by omega) (by omega)
    have z : (zI i).toNatClampNeg = i.toNat := zI_clamp (by omega) (by omega)
    have i1 : zI i + 1 = zI (i + 1) := zI_add i 1
    have gl : gi σ 61 i.toNat = _ := hp.1 i.toNat (by omega)
    have lq : ∀ j : Nat, j < 32 → hearB κ L X Y P (laneR i.toNat j) = (fitR κ (laneR i.toNat j) && P (mxS (i / 49 + (i / 7 % 7 - 3) * L - X) ((i % 7 - 3) * L - Y + j))) := by
      intro j hj
      obtain ⟨e1, e2⟩ := rX_lane (lane := i.toNat) (y := j) (bell := L) (by omega) hj
      rw [show ((i.toNat : Nat) : Int) = i by omega] at e1 e2
      unfold hearB
      rw [e1, e2, show (i % 7 - 3) * L + (j : Int) - Y = (i % 7 - 3) * L - Y + j by omega]
    have st : ∀ s' : Int, s' = s + fb_ct (fun j => hearB κ L X Y P (laneR i.toNat j)) 32 → Ho (fX3_hearers_l149 N n (zI L) (zI X) (zI Y) (zI s') (zI (i + 1)) σ) (fun a => a = (zI (fb_sm (fun l => fb_ct (fun j => hearB κ L X Y P (laneR l j)) 32) 1568), σ)) := by
      intro s' hs'
      refine hc s' ⟨by omega, ?_⟩
      rw [hs', hs, show (i + 1).toNat = i.toNat + 1 by omega, fb_sm_succ]
      simp
    simp only [c, if_false, e_eastOf i0 hi, e_lowOf i0 hi, Option.bind_some, cc, if_true, z, i1, gl, zI_sub, wd_eq0]
    by_cases q : ∀ j : Nat, j < 32 → fitR κ (laneR i.toNat j) = false
    · rw [if_pos q]
      refine st s ?_
      have : fb_ct (fun j => hearB κ L X Y P (laneR i.toNat j)) 32 = 0 := fb_ct_zero.mpr fun j hj => by unfold hearB; rw [q j hj]; rfl
      rw [this]; simp
    · rw [if_neg q, e_ringcol hr (by omega) (by omega) (by omega) (by omega), Option.bind_some, wd_and, e_bitCount, Option.bind_some, zI_add]
      refine st _ ?_
      congr 2
      exact fb_ct_cong fun j hj => (lq j hj).symm
def ring24 (t : Nat → Nat → Int32) (P : Int → Bool) : Prop := ∀ j : Nat, j < 201 → t 24 j = bI (P j)
theorem mx_rng {x y : Int} (h1 : -200 ≤ x) (h2 : x ≤ 200) (h3 : -200 ≤ y) (h4 : y ≤ 200) : 0 ≤ mxS x y ∧ mxS x y ≤ 200 := by
  unfold mxS szS
  omega
theorem r_mx {x y : Int} (h1 : -200 ≤ x) (h2 : x ≤ 200) (h3 : -200 ≤ y) (h4 : y ≤ 200) : fX12_size (zI x) = some (zI (szS x)) ∧ fX12_size (zI y) = some (zI (szS y)) ∧ fX12_more (zI (szS x)) (zI (szS y)) = some (zI (mxS x y)) :=
  ⟨r_size (by omega) (by omega), r_size (by omega) (by omega), r_more (by unfold szS; omega) (by unfold szS; omega) (by unfold szS; omega) (by unfold szS; omega)⟩
theorem r_hearL {N : Nat} {τ : qMem} {κ : Nat → Int32} {L X Y : Int} {P : Int → Bool} (hN : 200000 ≤ N) (hf : fitsOK τ.1 κ) (hr : ring24 τ.1 P) (l0 : 0 ≤ L) (l1 : L ≤ 23) (x0 : -100 ≤ X) (x1 : X ≤ 130) (y0 : -100 ≤ Y) (y1 : Y ≤ 130) :
    Ho (fX12_heardByOf_l103 N N (zI X) (zI Y) (zI L) 0 0 τ) (fun a => a = (zI (fb_ct (hearB κ L X Y P) 50176), τ)) := by
  have hst := lp_for (S := Unit) (R := Int32 × qMem) (fun n i _ => fX12_heardByOf_l103 N n (zI X) (zI Y) (zI L) (zI ((fb_ct (hearB κ L X Y P) i.toNat : Nat) : Int)) (zI i) τ) (fun i _ => 0 ≤ i) (fun a => a = (zI (fb_ct (hearB κ L X Y P) 50176), τ)) 50176 ?_ ?_ N 0 () (by omega) (by omega) (by omega)
  · exact hst
  · intro n _ _
    show Ho (fX12_heardByOf_s103 N _ _ _ _ _ _ _) _
    unfold fX12_heardByOf_s103
    rw [if_pos (by decide)]
    exact Ho_some rfl
  · intro n i _ hi i0 hc
    show Ho (fX12_heardByOf_s103 N _ _ _ _ _ _ _) _
    unfold fX12_heardByOf_s103 fX12_heardByOf_b189 fX12_heardByOf_b192
    have c : (50176 ≤ zI i) = False := by rw [zl_50176, zI_le (by omega) (by omega) (by omega) (by omega)]; exact eq_false (by omega)
    obtain ⟨d1, d2, d3, d4⟩ := r_code i0 hi
    obtain ⟨p1, p2⟩ := r_placeX (bell := L) i0 hi
    have rg := rXY_rng (r := i.toNat) (bell := L) (by omega) l0 l1
    have cc : (ck (zI i) 50176 = true) = True := zI_ckT (by omega) (by omega) (by omega)
    have z : (zI i).toNatClampNeg = i.toNat := zI_clamp (by omega) (by omega)
    have i1 : zI i + 1 = zI (i + 1) := zI_add i 1
    have gl : gi τ 7 i.toNat = bI (fitR κ i.toNat) := hf.1 i.toNat (by omega)
    obtain ⟨m1, m2, m3⟩ := r_mx (x := rX i.toNat L - X) (y := rY i.toNat L - Y) (by omega) (by omega) (by omega) (by omega)
    have mr := mx_rng (x := rX i.toNat L - X) (y := rY i.toNat L - Y) (by omega) (by omega) (by omega) (by omega)
    have c2 : (ck (zI (mxS (rX i.toNat L - X) (rY i.toNat L - Y))) 201 = true) = True := zI_ckT (by omega) (by omega) (by omega)
    have z2 : (zI (mxS (rX i.toNat L - X) (rY i.toNat L - Y))).toNatClampNeg = (mxS (rX i.toNat L - X) (rY i.toNat L - Y)).toNat := zI_clamp (by omega) (by omega)
    have g24 : gi τ 24 (mxS (rX i.toNat L - X) (rY i.toNat L - Y)).toNat = bI (P (mxS (rX i.toNat L - X) (rY i.toNat L - Y))) := by
      have := hr (mxS (rX i.toNat L - X) (rY i.toNat L - Y)).toNat (by omega)
      rw [show (((mxS (rX i.toNat L - X) (rY i.toNat L - Y)).toNat : Nat) : Int) = mxS (rX i.toNat L - X) (rY i.toNat L - Y) by omega] at this
      exact this
    simp only [c, if_false, cc, if_true, z, i1, gl, if_bI, d1, d2, d3, d4, Option.bind_some, p1, p2, zI_sub, nmI, m1, m2, m3, c2, z2, g24]
    have := hc () (by omega)
    rw [show (i + 1).toNat = i.toNat + 1 by omega, fb_ct_succ] at this
    unfold hearB at this ⊢
    by_cases q : fitR κ i.toNat = true
    · rw [if_pos q]
      rw [q, Bool.true_and] at this
      by_cases w : P (mxS (rX i.toNat L - X) (rY i.toNat L - Y)) = true
      · rw [if_pos w] at this ⊢
        rw [show (1 : Int32) = zI 1 from rfl, zI_add]
        exact this
      · rw [if_neg w] at this ⊢
        rw [show (0 : Int32) = zI 0 from rfl, zI_add]
        exact this
    · rw [if_neg q]
      rw [Bool.not_eq_true] at q
      rw [q, Bool.false_and, if_neg (c := false = true) (by decide)] at this
      exact this
theorem r_hearsL {N : Nat} {τ : qMem} {κ : Nat → Int32} {b L : Int} {P : Int → Bool} (hN : 200000 ≤ N) (hκ : τ.1 2 = κ) (hw : KW κ) (hf : fitsOK τ.1 κ) (hr : ring24 τ.1 P) (b0 : 0 ≤ b) (b1 : b ≤ 1) (l0 : 0 ≤ L) (l1 : L ≤ 23) :
    Ho (fX12_hears_l47 N N (zI b) (zI L) 0 0 τ) (fun a => a = (zI (fb_ct (hearB κ L (pos κ b L 0) (pos κ b L 1) P) 50176), τ)) := by
  have x0 := pos_rng (bell := L) (w := 0) hw.1 b0 b1 (Or.inl rfl) l1
  have y0 := pos_rng (bell := L) (w := 1) hw.1 b0 b1 (Or.inr rfl) l1
  have a0 : fX12_at N (zI b) (zI L) 0 τ = some (zI (pos κ b L 0)) := by rw [← hκ]; exact r_at (w := 0) hN (by rw [hκ]; exact hw.1) b0 b1 l0 l1 (Or.inl rfl)
  have a1 : fX12_at N (zI b) (zI L) 1 τ = some (zI (pos κ b L 1)) := by rw [← hκ]; exact r_at (w := 1) hN (by rw [hκ]; exact hw.1) b0 b1 l0 l1 (Or.inr rfl)
  generalize pos κ b L 0 = X at *
  generalize pos κ b L 1 = Y at *
  have hst := lp_for (S := Unit) (R := Int32 × qMem) (fun n i _ => fX12_hears_l47 N n (zI b) (zI L) (zI ((fb_ct (hearB κ L X Y P) i.toNat : Nat) : Int)) (zI i) τ) (fun i _ => 0 ≤ i) (fun a => a = (zI (fb_ct (hearB κ L X Y P) 50176), τ)) 50176 ?_ ?_ N 0 () (by omega) (by omega) (by omega)
  · exact hst
  · intro n _ _
    show Ho (fX12_hears_s47 N _ _ _ _ _ _) _
    unfold fX12_hears_s47
    rw [if_pos (by decide)]
    exact Ho_some rfl
  · intro n i _ hi i0 hc
    show Ho (fX12_hears_s47 N _ _ _ _ _ _) _
    unfold fX12_hears_s47 fX12_hears_b140 fX12_hears_b142
    have c : (50176 ≤ zI i) = False := by rw [zl_50176, zI_le (by omega) (by omega) (by omega) (by omega)]; exact eq_false (by omega)
    obtain ⟨d1, d2, d3, d4⟩ := r_code i0 hi
    obtain ⟨p1, p2⟩ := r_placeX (bell := L) i0 hi
    have rg := rXY_rng (r := i.toNat) (bell := L) (by omega) l0 l1
    have cc : (ck (zI i) 50176 = true) = True := zI_ckT (by omega) (by omega) (by omega)
    have z : (zI i).toNatClampNeg = i.toNat := zI_clamp (by omega) (by omega)
    have i1 : zI i + 1 = zI (i + 1) := zI_add i 1
    have gl : gi τ 7 i.toNat = bI (fitR κ i.toNat) := hf.1 i.toNat (by omega)
    obtain ⟨m1, m2, m3⟩ := r_mx (x := rX i.toNat L - X) (y := rY i.toNat L - Y) (by omega) (by omega) (by omega) (by omega)
    have mr := mx_rng (x := rX i.toNat L - X) (y := rY i.toNat L - Y) (by omega) (by omega) (by omega) (by omega)
    have c2 : (ck (zI (mxS (rX i.toNat L - X) (rY i.toNat L - Y))) 201 = true) = True := zI_ckT (by omega) (by omega) (by omega)
    have z2 : (zI (mxS (rX i.toNat L - X) (rY i.toNat L - Y))).toNatClampNeg = (mxS (rX i.toNat L - X) (rY i.toNat L - Y)).toNat := zI_clamp (by omega) (by omega)
    have g24 : gi τ 24 (mxS (rX i.toNat L - X) (rY i.toNat L - Y)).toNat = bI (P (mxS (rX i.toNat L - X) (rY i.toNat L - Y))) := by
      have := hr (mxS (rX i.toNat L - X) (rY i.toNat L - Y)).toNat (by omega)
      rw [show (((mxS (rX i.toNat L - X) (rY i.toNat L - Y)).toNat : Nat) : Int) = mxS (rX i.toNat L - X) (rY i.toNat L - Y) by omega] at this
      exact this
    simp only [c, if_false, cc, if_true, z, i1, gl, if_bI, d1, d2, d3, d4, a0, a1, Option.bind_some, p1, p2, zI_sub, nmI, m1, m2, m3, c2, z2, g24]
    have := hc () (by omega)
    rw [show (i + 1).toNat = i.toNat + 1 by omega, fb_ct_succ] at this
    unfold hearB at this ⊢
    by_cases q : fitR κ i.toNat = true
    · rw [if_pos q]
      rw [q, Bool.true_and] at this
      by_cases w : P (mxS (rX i.toNat L - X) (rY i.toNat L - Y)) = true
      · rw [if_pos w] at this ⊢
        rw [show (1 : Int32) = zI 1 from rfl, zI_add]
        exact this
      · rw [if_neg w] at this ⊢
        rw [show (0 : Int32) = zI 0 from rfl, zI_add]
        exact this
    · rw [if_neg q]
      rw [Bool.not_eq_true] at q
      rw [q, Bool.false_and, if_neg (c := false = true) (by decide)] at this
      exact this
