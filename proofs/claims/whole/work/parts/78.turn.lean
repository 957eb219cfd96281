/-! parts and turn -/
theorem grpB_succ (κ : Nat → Int32) (L X Y : Int) (g n : Nat) : fb_ct (grpB κ L X Y g) (n + 1) = fb_ct (grpB κ L X Y g) n + (if fitR κ n = true ∧ grpR L X Y n = g then 1 else 0) := by
  rw [fb_ct_succ]
  congr 1
  unfold grpB
  by_cases q : fitR κ n = true <;> by_cases e : grpR L X Y n = g <;> simp [q, e]
def offX (κ : Nat → Int32) (b n o w : Int) : Int := pos κ 0 b w + n * kI κ (204 + 2 * o + w)
theorem offX_rng {κ : Nat → Int32} (hw : KW κ) {b n o w : Int} (b0 : 0 ≤ b) (b1 : b ≤ 23) (n0 : 1 ≤ n) (n1 : n ≤ 9) (o0 : 0 ≤ o) (o1 : o < kI κ 303) (hh : w = 0 ∨ w = 1) : -100 ≤ offX κ b n o w ∧ offX κ b n o w ≤ 130 := by
  unfold offX
  have p := pos_rng (b := 0) (bell := b) (w := w) hw.1 (by omega) (by omega) hh b1
  have ko := hw.2.2.2.2.2.2.2.1.2 o o0 o1
  have kb : -3 ≤ kI κ (204 + 2 * o + w) ∧ kI κ (204 + 2 * o + w) ≤ 3 := by
    rcases hh with e | e
    · rw [e, Int.add_zero]; exact ko.1
    · rw [e]; exact ko.2
  have m1 : n * kI κ (204 + 2 * o + w) ≤ n * 3 := Int.mul_le_mul_of_nonneg_left kb.2 (by omega)
  have m2 : n * (-3) ≤ n * kI κ (204 + 2 * o + w) := Int.mul_le_mul_of_nonneg_left kb.1 (by omega)
  omega
theorem r_partsOf {N : Nat} {τ : qMem} {κ : Nat → Int32} {b n o : Int} (hN : 200000 ≤ N) (hκ : τ.1 2 = κ) (hw : KW κ) (hr : RC τ.1 κ) (hv : 0 ≤ (gi τ 0 2).toInt) (b0 : 0 ≤ b) (b1 : b + n ≤ 23) (n0 : 1 ≤ n) (n1 : n ≤ 9) (o0 : 0 ≤ o) (o1 : o < kI κ 303) :
    Ho (fX12_partsOf N (zI b) (zI n) (zI o) τ) (fun a => a.1 = zI (partN κ (b + n) (offX κ b n o 0) (offX κ b n o 1)) ∧ SM τ a.2 ∧ RC a.2.1 κ) := by
  unfold fX12_partsOf
  refine Ho_bind (r_fits hN hκ hw hr hv) fun t ⟨w1, w2, w3⟩ => ?_
  have hκt : t.1 2 = κ := (SM_κ w1).trans hκ
  have ko := hw.2.2.2.2.2.2.2.1
  have kob := ko.1
  have rx := offX_rng hw b0 (show b ≤ 23 by omega) n0 n1 o0 o1 (Or.inl rfl)
  have ry := offX_rng hw b0 (show b ≤ 23 by omega) n0 n1 o0 o1 (Or.inr rfl)
  have e0 : 204 + 2 * zI o = zI (204 + 2 * o) := by rw [show (204 : Int32) = zI 204 from rfl, show (2 : Int32) = zI 2 from rfl, zI_mul, zI_add]
  have e1 : zI (204 + 2 * o) + 1 = zI (204 + 2 * o + 1) := zI_add _ 1
  have c0 : (ck (zI (204 + 2 * o)) 1112 = true) = True := zI_ckT (by omega) (by omega) (by omega)
  have c1 : (ck (zI (204 + 2 * o + 1)) 1112 = true) = True := zI_ckT (by omega) (by omega) (by omega)
  have g0 : gi t 2 (zI (204 + 2 * o)).toNatClampNeg = zI (kI κ (204 + 2 * o + 0)) := by
    rw [zI_clamp (by omega) (by omega), Int.add_zero]
    unfold kI
    rw [← hκt]
    exact (zI_of _).symm
  have g1 : gi t 2 (zI (204 + 2 * o + 1)).toNatClampNeg = zI (kI κ (204 + 2 * o + 1)) := by
    rw [zI_clamp (by omega) (by omega)]
    unfold kI
    rw [← hκt]
    exact (zI_of _).symm
  have a0 : fX12_at N 0 (zI b) 0 t = some (zI (pos κ 0 b 0)) := by rw [← hκt]; exact r_at (b := 0) (w := 0) hN (by rw [hκt]; exact hw.1) (by omega) (by omega) b0 (by omega) (Or.inl rfl)
  have a1 : fX12_at N 0 (zI b) 1 t = some (zI (pos κ 0 b 1)) := by rw [← hκt]; exact r_at (b := 0) (w := 1) hN (by rw [hκt]; exact hw.1) (by omega) (by omega) b0 (by omega) (Or.inr rfl)
  simp only [e0, e1, c0, c1, if_true, g0, g1, a0, a1, Option.bind_some, nmI, zI_mul, zI_add]
  show Ho (fX12_partsOf_l62 N N (zI (offX κ b n o 0)) (zI (offX κ b n o 1)) (zI (b + n)) 0 t) _
  generalize offX κ b n o 0 = X at *
  generalize offX κ b n o 1 = Y at *
  generalize hL : b + n = L at *
  rw [show (0 : Int32) = zI 0 from rfl]
  refine lp_for (S := qMem) (R := Int32 × qMem) (fun m i s => fX12_partsOf_l62 N m (zI X) (zI Y) (zI L) (zI i) s) (fun i s => 0 ≤ i ∧ (∀ g : Nat, (g : Int) < i → gi s 9 g = 0) ∧ ∀ k j, k ≠ 9 → gi s k j = gi t k j) _ 81 ?_ ?_ N 0 t (by omega) (by omega) ⟨by omega, fun g hg => by omega, fun _ _ _ => rfl⟩
  · intro m s ⟨_, h1, h2⟩
    show Ho (fX12_partsOf_s62 N _ _ _ _ _ _) _
    unfold fX12_partsOf_s62
    rw [if_pos (by decide), show (0 : Int32) = zI 0 from rfl]
    have hst := lp_for (S := qMem) (R := Int32 × qMem) (fun m i s => fX12_partsOf_l89 N m (zI X) (zI Y) (zI L) (zI ((mxN (fun g => fb_ct (grpB κ L X Y g) i.toNat) 81 : Nat) : Int)) (zI i) s) (fun i s => 0 ≤ i ∧ (∀ g : Nat, g < 81 → gi s 9 g = zI ((fb_ct (grpB κ L X Y g) i.toNat : Nat) : Int)) ∧ ∀ k j, k ≠ 9 → gi s k j = gi t k j) (fun a => a.1 = zI (partN κ L X Y) ∧ SM τ a.2 ∧ RC a.2.1 κ) 50176 ?_ ?_ N 0 s (by omega) (by omega) ⟨by omega, fun g hg => (h1 g (by omega)).trans rfl, h2⟩
    · have z : mxN (fun g => fb_ct (grpB κ L X Y g) (0 : Int).toNat) 81 = 0 := Nat.le_zero.mp (mxN_le 81 (fun i _ => Nat.le_refl _))
      rw [z] at hst
      exact hst
    · intro m s ⟨_, h1, h2⟩
      show Ho (fX12_partsOf_s89 N _ _ _ _ _ _ _) _
      unfold fX12_partsOf_s89
      rw [if_pos (by decide)]
      refine Ho_some ⟨rfl, SM_trans w1 (fun k j hk => h2 k j (by unfold scrM at hk; omega)), RC_c (t := t.1) (t' := s.1) (fun k j hk => h2 k j (by omega)) w2⟩
    · intro m i s hi ⟨i0, h1, h2⟩ hc
      show Ho (fX12_partsOf_s89 N _ _ _ _ _ _ _) _
      unfold fX12_partsOf_s89
      have c : (50176 ≤ zI i) = False := by rw [zl_50176, zI_le (by omega) (by omega) (by omega) (by omega)]; exact eq_false (by omega)
      obtain ⟨d1, d2, d3, d4⟩ := r_code i0 hi
      obtain ⟨p1, p2⟩ := r_placeX (bell := L) i0 hi
      have rg := rXY_rng (r := i.toNat) (bell := L) (by omega) (by omega) (by omega)
      have cc : (ck (zI i) 50176 = true) = True := zI_ckT (by omega) (by omega) (by omega)
      have z : (zI i).toNatClampNeg = i.toNat := zI_clamp (by omega) (by omega)
      have gl : gi s 7 i.toNat = bI (fitR κ i.toNat) := (h2 7 _ (by omega)).trans (w3.1 i.toNat (by omega))
      simp only [c, if_false, cc, if_true, z, gl, if_bI, d1, d2, d3, d4, Option.bind_some, p1, p2, zI_sub]
      have cn : ∀ g, g < 81 → fb_ct (grpB κ L X Y g) i.toNat ≤ 50176 := fun g _ => Nat.le_trans (fb_ct_le _ _) (by omega)
      have mb := mxN_le (f := fun g => fb_ct (grpB κ L X Y g) i.toNat) (b := 50176) 81 cn
      have i1 : zI i + 1 = zI (i + 1) := zI_add i 1
      have ei : (i + 1).toNat = i.toNat + 1 := by omega
      by_cases q : fitR κ i.toNat = true
      · rw [if_pos q]
        have b169 : ∀ G : Nat, grpR L X Y i.toNat = G → Ho (fX12_partsOf_b169 N (fX12_partsOf_l89 N m) (zI X) (zI Y) (zI L) (zI ((mxN (fun g => fb_ct (grpB κ L X Y g) i.toNat) 81 : Nat) : Int)) (zI i) (zI G) s) (fun a => a.1 = zI (partN κ L X Y) ∧ SM τ a.2 ∧ RC a.2.1 κ) := by
          intro G hG
          have G81 : G < 81 := by rw [← hG]; exact grpS_lt _ _
          unfold fX12_partsOf_b169 fX12_partsOf_b196
          have c8 : (ck (zI (G : Int)) 81 = true) = True := zI_ckT (by omega) (by omega) (by omega)
          have z8 : (zI (G : Int)).toNatClampNeg = G := by rw [zI_clamp (by omega) (by omega)]; rfl
          have cG := cn G G81
          simp only [c8, if_true, z8, nmM, h1 G G81]
          rw [gi_si, if_pos ⟨rfl, rfl⟩, show (1 : Int32) = zI 1 from rfl, zI_add, r_more (by omega) (by omega) (by omega) (by omega), Option.bind_some, show zI i + zI 1 = zI (i + 1) from zI_add i 1]
          have sG : fb_ct (grpB κ L X Y G) (i.toNat + 1) = fb_ct (grpB κ L X Y G) i.toNat + 1 := by rw [grpB_succ, if_pos ⟨q, hG⟩]
          have sO : ∀ g, g ≠ G → fb_ct (grpB κ L X Y g) (i.toNat + 1) = fb_ct (grpB κ L X Y g) i.toNat := fun g hg => by rw [grpB_succ, if_neg (fun h => hg (h.2.symm.trans hG))]; rfl
          have em : max ((mxN (fun g => fb_ct (grpB κ L X Y g) i.toNat) 81 : Nat) : Int) ((fb_ct (grpB κ L X Y G) i.toNat : Nat) + 1 : Int) = ((mxN (fun g => fb_ct (grpB κ L X Y g) (i + 1).toNat) 81 : Nat) : Int) := by
            rw [ei, mxN_upd (f := fun g => fb_ct (grpB κ L X Y g) i.toNat) (g := fun g => fb_ct (grpB κ L X Y g) (i.toNat + 1)) (k := G) 81 G81 (fun g _ hg => sO g hg) (by omega)]
            rw [sG]
            omega
          rw [em]
          refine hc _ ⟨by omega, fun g hg => ?_, fun k j hk => by rw [gi_si, if_neg (by omega)]; exact h2 k j hk⟩
          rw [gi_si, ei]
          by_cases e : g = G
          · rw [if_pos ⟨rfl, e⟩, e, sG]; rfl
          · rw [if_neg (by omega), h1 g hg, sO g e]
        have b162 : ¬ (rX i.toNat L - X = 0 ∧ rY i.toNat L - Y = 0) → Ho (fX12_partsOf_b162 N (fX12_partsOf_l89 N m) (zI X) (zI Y) (zI L) (zI ((mxN (fun g => fb_ct (grpB κ L X Y g) i.toNat) 81 : Nat) : Int)) (zI i) (zI (rX i.toNat L - X)) (zI (rY i.toNat L - Y)) s) (fun a => a.1 = zI (partN κ L X Y) ∧ SM τ a.2 ∧ RC a.2.1 κ) := by
          intro nz
          unfold fX12_partsOf_b162
          have rr := rose_rng (rX i.toNat L - X) (rY i.toNat L - Y) (by omega)
          rw [r_rose (by omega) (by omega) (by omega) (by omega) (by omega), Option.bind_some, show zI (roseS (rX i.toNat L - X) (rY i.toNat L - Y)) = zI (((roseS (rX i.toNat L - X) (rY i.toNat L - Y)).toNat : Nat) : Int) by congr 1; omega]
          refine b169 _ ?_
          unfold grpR grpS
          rw [if_neg nz]
        have c2 : (zI (rX i.toNat L - X) = 0) = (rX i.toNat L - X = 0) := by rw [show (0 : Int32) = zI 0 from rfl, zI_eq (by omega) (by omega) (by omega) (by omega)]
        have c3 : (zI (rY i.toNat L - Y) = 0) = (rY i.toNat L - Y = 0) := by rw [show (0 : Int32) = zI 0 from rfl, zI_eq (by omega) (by omega) (by omega) (by omega)]
        simp only [c2, c3]
        by_cases q2 : rX i.toNat L - X = 0
        · rw [if_pos q2]
          by_cases q3 : rY i.toNat L - Y = 0
          · rw [if_pos q3]
            exact b169 80 (by unfold grpR grpS; rw [if_pos ⟨q2, q3⟩])
          · rw [if_neg q3]
            exact b162 (fun h => q3 h.2)
        · rw [if_neg q2]
          exact b162 (fun h => q2 h.1)
      · rw [if_neg q]
        unfold fX12_partsOf_b196
        have sO : ∀ g, fb_ct (grpB κ L X Y g) (i.toNat + 1) = fb_ct (grpB κ L X Y g) i.toNat := fun g => by rw [grpB_succ, if_neg (fun h => q h.1)]; rfl
        have := hc s ⟨by omega, fun g hg => by rw [ei, sO]; exact h1 g hg, h2⟩
        rw [ei] at this
        simp only [sO] at this
        rw [i1]
        exact this
  · intro m i s hi ⟨i0, h1, h2⟩ hc
    show Ho (fX12_partsOf_s62 N _ _ _ _ _ _) _
    unfold fX12_partsOf_s62
    have c : (81 ≤ zI i) = False := by rw [zl_81, zI_le (by omega) (by omega) (by omega) (by omega)]; exact eq_false (by omega)
    have cc : (ck (zI i) 81 = true) = True := zI_ckT (by omega) (by omega) (by omega)
    have z : (zI i).toNatClampNeg = i.toNat := zI_clamp (by omega) (by omega)
    have i1 : zI i + 1 = zI (i + 1) := zI_add i 1
    simp only [c, if_false, cc, if_true, z, i1, nmM]
    refine hc _ ⟨by omega, fun g hg => ?_, fun k j hk => by rw [gi_si, if_neg (by omega)]; exact h2 k j hk⟩
    rw [gi_si]
    by_cases e : g = i.toNat
    · rw [if_pos ⟨rfl, e⟩]
    · rw [if_neg (by omega)]; exact h1 g (by omega)
theorem e_isAhead {a b : Int} (h1 : -2147483648 ≤ a) (h2 : a < 2147483648) (h3 : -2147483648 ≤ b) (h4 : b < 2147483648) : fX11_isAhead (zI a) (zI b) = some (bI (decide ((0 ≤ a ∧ a ≤ 23) ∧ (1 ≤ b ∧ b ≤ 9) ∧ a + b ≤ 23))) := by
  unfold fX11_isAhead fX11_isAhead_b30
  have i1 : fX11_isIn (zI b) 1 9 = some (bI (decide (1 ≤ b ∧ b ≤ 9))) := e_isIn (b := 1) (c := 9) h3 h4 (by omega) (by omega) (by omega) (by omega)
  simp only [e_isBell h1 h2, i1, Option.bind_some, if_bI, decide_eq_true_eq, zI_add]
  by_cases q1 : 0 ≤ a ∧ a ≤ 23
  · rw [if_pos q1]
    by_cases q2 : 1 ≤ b ∧ b ≤ 9
    · rw [if_pos q2, e_isBell (by omega) (by omega), Option.bind_some, if_bI]
      by_cases q3 : a + b ≤ 23
      · rw [decide_eq_true (by omega), if_pos rfl, decide_eq_true ⟨q1, q2, q3⟩]; rfl
      · rw [decide_eq_false (by omega), if_neg (by decide), decide_eq_false (fun h => q3 h.2.2)]; rfl
    · rw [if_neg q2, decide_eq_false (fun h => q2 h.2.1)]; rfl
  · rw [if_neg q1, decide_eq_false (fun h => q1 h.1)]; rfl
theorem r_isAhead {a b : Int} (h1 : -2147483648 ≤ a) (h2 : a < 2147483648) (h3 : -2147483648 ≤ b) (h4 : b < 2147483648) : fX12_isAhead (zI a) (zI b) = some (bI (decide ((0 ≤ a ∧ a ≤ 23) ∧ (1 ≤ b ∧ b ≤ 9) ∧ a + b ≤ 23))) := by
  unfold fX12_isAhead fX12_isAhead_b30
  have i1 : fX12_in (zI b) 1 9 = some (bI (decide (1 ≤ b ∧ b ≤ 9))) := e_in (b := 1) (c := 9) h3 h4 (by omega) (by omega) (by omega) (by omega)
  simp only [r_isBell h1 h2, i1, Option.bind_some, if_bI, decide_eq_true_eq, zI_add]
  by_cases q1 : 0 ≤ a ∧ a ≤ 23
  · rw [if_pos q1]
    by_cases q2 : 1 ≤ b ∧ b ≤ 9
    · rw [if_pos q2, r_isBell (by omega) (by omega), Option.bind_some, if_bI]
      by_cases q3 : a + b ≤ 23
      · rw [decide_eq_true (by omega), if_pos rfl, decide_eq_true ⟨q1, q2, q3⟩]; rfl
      · rw [decide_eq_false (by omega), if_neg (by decide), decide_eq_false (fun h => q3 h.2.2)]; rfl
    · rw [if_neg q2, decide_eq_false (fun h => q2 h.2.1)]; rfl
  · rw [if_neg q1, decide_eq_false (fun h => q1 h.1)]; rfl
theorem e_offerXY {σ : qMem} {κ : Nat → Int32} {b n o : Int} (h : CI σ.1 κ) (b0 : 0 ≤ b) (b1 : b ≤ 23) (o0 : 0 ≤ o) (o1 : o < kI κ 303) : fX11_offerEast (zI b) (zI n) (zI o) σ = some (zI (offX κ b n o 0)) ∧ fX11_offerNorth (zI b) (zI n) (zI o) σ = some (zI (offX κ b n o 1)) := by
  obtain ⟨bs, bk, kw, _⟩ := h
  have ko := kw.2.2.2.2.2.2.2.1.1
  have r29 := bk.2.2.2.2.2.2.2.2.2.1
  have s29 : gi σ 29 0 = zI 2 := bs.2.2.2.2.2.2.2.1.1
  have n29 : gi σ 29 3 = zI (kI κ 303) := r29.1.trans (zI_of _).symm
  have cl : (ck (zI b) 24 = true) = True := zI_ckT b0 (by omega) (by omega)
  have zl : (zI b).toNatClampNeg = b.toNat := zI_clamp b0 (by omega)
  have hp := bk.1.2.2 b.toNat (by omega)
  rw [show ((b.toNat : Nat) : Int) = b by omega] at hp
  have g6 : gi σ 6 b.toNat = zI (pos κ 0 b 0) := hp.1
  have g7 : gi σ 7 b.toNat = zI (pos κ 0 b 1) := hp.2.1
  have at' : ∀ j : Int, j = 0 ∨ j = 1 → fX8_at 29 16 (zI o) (zI j) σ = some (zI (kI κ (204 + 2 * o + j))) := by
    intro j hj
    rw [e_at (w := 2) (s := kI κ 303) s29 n29 o0 o1 (by omega) (by omega) (by omega) (by omega) (by omega)]
    have := r29.2 (o * 2 + j).toNat (by omega)
    refine congrArg some (this.trans ?_)
    unfold kI
    rw [show 204 + (o * 2 + j).toNat = (204 + 2 * o + j).toNat by omega]
    exact (zI_of _).symm
  have a0 : fX8_at 29 16 (zI o) 0 σ = _ := at' 0 (Or.inl rfl)
  have a1 : fX8_at 29 16 (zI o) 1 σ = _ := at' 1 (Or.inr rfl)
  unfold fX11_offerEast fX11_offerNorth offX
  simp only [cl, if_true, zl, a0, a1, Option.bind_some, g6, g7, zI_mul, zI_add]
  exact ⟨trivial, trivial⟩
theorem group_of {σ σ2 : qMem} {κ : Nat → Int32} (h : CI σ.1 κ) (f : ∀ k j, k ≠ 66 → gi σ2 k j = gi σ k j) : CI σ2.1 κ ∧ SC σ σ2 := by
  have sc : SC σ σ2 := fun k j q => f k j (by unfold scrC at q; omega)
  exact ⟨CI_of h sc (CC_c (m := σ.1) (m' := σ2.1) (fun k j q => f k j (by omega)) h.2.2.2), sc⟩
theorem b_parts {LW : LWt} {c N : Nat} {σ τ : qMem} (hN : 200000 ≤ N) (hLW : LWc LW) (h : Inv LW c σ τ) (p1 p2 p3 : Int32) : Both LW c (fX11_parts N p1 p2 p3 σ) (fX12_parts N p1 p2 p3 τ) := by
  obtain ⟨b, l1, u1, rfl⟩ := zI_ex p1
  obtain ⟨n, l2, u2, rfl⟩ := zI_ex p2
  obtain ⟨o, l3, u3, rfl⟩ := zI_ex p3
  have kw := Inv_KW h
  have ci := Inv_CI h
  have kob := kw.2.2.2.2.2.2.2.1.1
  have n29 : gi σ 29 3 = zI (kI (τ.1 2) 303) := (ci.2.1.2.2.2.2.2.2.2.2.2.1).1.trans (zI_of _).symm
  have n303 : gi τ 2 303 = zI (kI (τ.1 2) 303) := (zI_of _).symm
  have hi : fX11_isIn (zI o) 0 (zI (kI (τ.1 2) 303) - 1) = some (bI (decide (0 ≤ o ∧ o ≤ kI (τ.1 2) 303 - 1))) := by
    rw [show (1 : Int32) = zI 1 from rfl, zI_sub, show (0 : Int32) = zI 0 from rfl]
    exact e_isIn l3 u3 (by omega) (by omega) (by omega) (by omega)
  have hj : fX12_in (zI o) 0 (zI (kI (τ.1 2) 303) - 1) = some (bI (decide (0 ≤ o ∧ o ≤ kI (τ.1 2) 303 - 1))) := by
    rw [show (1 : Int32) = zI 1 from rfl, zI_sub, show (0 : Int32) = zI 0 from rfl]
    exact e_in l3 u3 (by omega) (by omega) (by omega) (by omega)
  have ck0 : (ck (303 : Int32) 1112 = true) = True := by decide
  have z303 : (303 : Int32).toNatClampNeg = 303 := rfl
  unfold fX11_parts fX12_parts fX12_parts_b36
  simp only [e_isAhead l1 u1 l2 u2, r_isAhead l1 u1 l2 u2, n29, n303, hi, hj, ck0, if_true, z303, Option.bind_some, if_bI, decide_eq_true_eq]
  by_cases q : (0 ≤ b ∧ b ≤ 23) ∧ (1 ≤ n ∧ n ≤ 9) ∧ b + n ≤ 23
  · rw [if_pos q, if_pos q]
    by_cases q2 : 0 ≤ o ∧ o ≤ kI (τ.1 2) 303 - 1
    · rw [if_pos q2, if_pos q2]
      have rx := offX_rng kw q.1.1 q.1.2 q.2.1.1 q.2.1.2 q2.1 (show o < kI (τ.1 2) 303 by omega) (Or.inl rfl)
      have ry := offX_rng kw q.1.1 q.1.2 q.2.1.1 q.2.1.2 q2.1 (show o < kI (τ.1 2) 303 by omega) (Or.inr rfl)
      refine both_q (v := zI (partN (τ.1 2) (b + n) (offX (τ.1 2) b n o 0) (offX (τ.1 2) b n o 1))) hLW h ?_ ?_
      · refine Ho_bind (e_plot hN ci) fun s ⟨w1, w2, w3, _⟩ => ?_
        obtain ⟨x1, x2⟩ := e_offerXY (n := n) w1 q.1.1 q.1.2 q2.1 (show o < kI (τ.1 2) 303 by omega)
        rw [x1, Option.bind_some, x2, Option.bind_some, zI_add]
        refine Ho_bind (e_largestGroup hN w3 (by omega) (by omega) (by omega) (by omega) (by omega) (by omega)) fun a ⟨y1, y2⟩ => ?_
        obtain ⟨g1, g2⟩ := group_of w1 y2
        exact Ho_some ⟨y1, SC_trans w2 g2, g1.2.2.2⟩
      · refine Ho_bind (r_partsOf hN rfl kw (Inv_RC h) (Inv_v h) q.1.1 q.2.2 q.2.1.1 q.2.1.2 q2.1 (by omega)) fun a ha => ?_
        exact Ho_some ha
    · rw [if_neg q2, if_neg q2]
      exact both_same hLW h _
  · rw [if_neg q, if_neg q]
    exact both_same hLW h _
