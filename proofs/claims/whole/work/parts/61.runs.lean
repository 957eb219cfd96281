/-! sums over lanes are sums over runs; the whole plot -/
theorem sm_mul (f : Nat → Nat) (b : Nat) : ∀ a, fb_sm f (a * b) = fb_sm (fun i => fb_sm (fun j => f (i * b + j)) b) a
  | 0 => by rw [Nat.zero_mul]; rfl
  | a + 1 => by rw [Nat.succ_mul, fb_sm_split, sm_mul f b a, fb_sm_succ]
theorem sm_zero (n : Nat) : fb_sm (fun _ => 0) n = 0 := by rw [fb_sm_const]; simp
theorem sm_swap (f : Nat → Nat → Nat) (b : Nat) : ∀ a, fb_sm (fun i => fb_sm (fun j => f i j) b) a = fb_sm (fun j => fb_sm (fun i => f i j) a) b
  | 0 => by
    have : (fun j => fb_sm (fun i => f i j) 0) = (fun _ => 0) := rfl
    rw [this, sm_zero]; rfl
  | a + 1 => by
    rw [fb_sm_succ, sm_swap f b a, ← fb_sm_add]
    rfl
theorem ct_sm (p : Nat → Bool) : ∀ n, fb_ct p n = fb_sm (fun k => if p k then 1 else 0) n
  | 0 => rfl
  | n + 1 => by rw [fb_ct_succ, fb_sm_succ, ct_sm p n]
/-- a sum over lanes and norths, as a sum over runs -/
theorem lanes_sum (g : Nat → Nat) : fb_sm (fun lane => fb_sm (fun y => g (laneR lane y)) 32) 1568 = fb_sm g 50176 := by
  have e1 : fb_sm (fun lane => fb_sm (fun y => g (laneR lane y)) 32) (32 * 49) = _ := sm_mul _ 49 32
  have e2 : fb_sm g (32 * 1568) = _ := sm_mul g 1568 32
  rw [show (1568 : Nat) = 32 * 49 from rfl, show (50176 : Nat) = 32 * 1568 from rfl, e1, e2]
  apply fb_sm_cong
  intro e he
  have e3 : fb_sm (fun j => g (e * 1568 + j)) (32 * 49) = _ := sm_mul _ 49 32
  rw [show (1568 : Nat) = 32 * 49 from rfl, e3, sm_swap]
  apply fb_sm_cong
  intro y hy
  apply fb_sm_cong
  intro p hp
  exact congrArg g (by unfold laneR; omega)
theorem lanes_ct (F : Nat → Bool) : fb_sm (fun lane => fb_ct (fun y => F (laneR lane y)) 32) 1568 = fb_ct F 50176 := by
  rw [ct_sm, ← lanes_sum]
  apply fb_sm_cong
  intro k _
  rw [ct_sm]
theorem e_countFrom {N : Nat} {σ : qMem} {first n : Int} {F : Nat → Nat → Bool} {g : Nat → Bool} (hN : 200000 ≤ N) (h0 : 0 ≤ first) (h1 : 0 ≤ n) (h2 : first + n ≤ 1568) (hF : ∀ l : Nat, first ≤ l → (l : Int) < first + n → gi σ 61 l = wd (F l)) :
    fX3_countFrom N (zI first) (zI n) (wd g) σ = some (zI (fb_sm (fun k => fb_ct (fun y => F (first.toNat + k) y && g y) 32) n.toNat)) := by
  suffices h : Ho (fX3_countFrom N (zI first) (zI n) (wd g) σ) (fun r => r = zI (fb_sm (fun k => fb_ct (fun y => F (first.toNat + k) y && g y) 32) n.toNat)) by
    obtain ⟨r, e, rfl⟩ := h
    exact e
  unfold fX3_countFrom
  rw [show (0 : Int32) = zI 0 from rfl]
  have hst := lp_for (S := Int) (R := Int32) (fun m i s => fX3_countFrom_l6 N σ m (zI first) (zI n) (wd g) (zI s) (zI i)) (fun i s => first ≤ i ∧ s = fb_sm (fun k => fb_ct (fun y => F (first.toNat + k) y && g y) 32) (i - first).toNat) (fun r => r = zI (fb_sm (fun k => fb_ct (fun y => F (first.toNat + k) y && g y) 32) n.toNat)) (first + n) ?_ ?_ N first 0 (by omega) (by omega) ⟨by omega, by rw [Int.sub_self]; rfl⟩
  · exact hst
  · intro m s ⟨_, hs⟩
    show Ho (fX3_countFrom_s6 N _ _ _ _ _ _ _) _
    unfold fX3_countFrom_s6
    have c : (zI first + zI n ≤ zI (first + n)) = True := by rw [zI_add, zI_le (by omega) (by omega) (by omega) (by omega)]; exact eq_true (by omega)
    simp only [c, if_true]
    exact Ho_some (by rw [hs, show first + n - first = n by omega])
  · intro m i s hi ⟨i0, hs⟩ hc
    show Ho (fX3_countFrom_s6 N _ _ _ _ _ _ _) _
    unfold fX3_countFrom_s6
    have c : (zI first + zI n ≤ zI i) = False := by rw [zI_add, zI_le (by omega) (by omega) (by omega) (by omega)]; exact eq_false (by omega)
    have c2 : (1568 ≤ zI i) = False := by rw [zl_1568, zI_le (by omega) (by omega) (by omega) (by omega)]; exact eq_false (by omega)
    have c3 : (ck (zI i) 1568 = true) = True := zI_ckT (by omega) (by omega) (by omega)
    have z : (zI i).toNatClampNeg = i.toNat := zI_clamp (by omega) (by omega)
    have i1 : zI i + 1 = zI (i + 1) := zI_add i 1
    simp only [c, c2, if_false, c3, if_true, z, i1]
    rw [hF i.toNat (by omega) (by omega), wd_and, e_bitCount, Option.bind_some, zI_add]
    refine hc _ ⟨by omega, ?_⟩
    rw [hs, show (i + 1 - first).toNat = (i - first).toNat + 1 by omega, fb_sm_succ, show first.toNat + (i - first).toNat = i.toNat by omega]
    simp
theorem e_plot {N : Nat} {σ : qMem} {κ : Nat → Int32} (hN : 200000 ≤ N) (h : CI σ.1 κ) : Ho (fX3_plot N σ) (fun τ => CI τ.1 κ ∧ SC σ τ ∧ plots τ.1 κ ∧ sorts τ.1 κ) := by
  unfold fX3_plot
  refine Ho_bind (e_sortOut hN h) fun σ1 ⟨a1, a2, a3, a4, a5⟩ => ?_
  by_cases q : gi σ1 44 17 = 0
  · rw [if_pos q]
    have c1 := a3
    obtain ⟨bs, bk, kw, cc⟩ := c1
    refine Ho_bind (e_tune hN bk kw cc) fun σ2 ⟨t1, t2, t3⟩ => ?_
    refine Ho_bind (e_fill hN (by omega)) fun σ3 f1 => ?_
    have o4 : ∀ k j, ¬ (k = 17 ∨ (51 ≤ k ∧ k ≤ 56) ∨ k = 60 ∨ (k = 44 ∧ (j = 14 ∨ j = 16)) ∨ k = 61) → gi (si σ3 44 14 0) k j = gi σ1 k j := by
      intro k j hk
      rw [gi_si, if_neg (by omega), f1, if_neg (by omega), t3 k j (by omega)]
    have z4 : ∀ j, j < 1568 → gi (si σ3 44 14 0) 61 j = 0 := by
      intro j hj
      rw [gi_si, if_neg (by omega), f1, if_pos ⟨rfl, hj⟩]
    have n4 : gi (si σ3 44 14 0) 44 14 = zI 0 := by rw [gi_si, if_pos ⟨rfl, rfl⟩]; rfl
    have t4 : tunes (si σ3 44 14 0).1 κ := by
      intro b hb
      refine ⟨fun j hj => ?_, fun j hj => ?_⟩
      · show gi (si σ3 44 14 0) (51 + 3 * b + 1) j = _
        rw [gi_si, if_neg (by omega), f1, if_neg (by omega)]
        exact (t1 b hb).1 j hj
      · show gi (si σ3 44 14 0) (51 + 3 * b + 2) j = _
        rw [gi_si, if_neg (by omega), f1, if_neg (by omega)]
        exact (t1 b hb).2 j hj
    have f16 : gi (si σ3 44 14 0) 44 16 ≠ 0 := by
      rw [gi_si, if_neg (by omega), f1, if_neg (by omega)]; exact t2
    show Ho (fX3_plot_l31 N N 0 (si σ3 44 14 0)) _
    generalize hσ4 : si σ3 44 14 0 = σ4 at *
    have seen4 : seen σ4.1 κ := by
      refine ⟨?_, kw, freshAt_c (m := σ1.1) (m' := σ4.1) (fun k j hh => o4 k j (by omega)) a1.2.2, t4, ?_, ?_⟩
      · rw [bookK_c (m := σ1.1) (m' := σ4.1) (fun k j q1 q2 q3 q4 => o4 k j (by omega))]; exact bk
      · exact ⟨(o4 46 0 (by omega)).trans cc.1.1, (o4 46 1 (by omega)).trans cc.1.2⟩
      · exact ⟨(o4 48 0 (by omega)).trans cc.2.1.1, (o4 48 1 (by omega)).trans cc.2.1.2⟩
    rw [show (0 : Int32) = zI 0 from rfl]
    refine lp_for (S := qMem) (R := qMem) (fun n i s => fX3_plot_l31 N n (zI i) s) (fun i s => 0 ≤ i ∧ (∀ l : Nat, l < 1568 → gi s 61 l = if (l : Int) < 7 * i then wd (fun y => fitR κ (laneR l y)) else 0) ∧ gi s 44 14 = zI (fb_sm (fun l => fb_ct (fun y => fitR κ (laneR l y)) 32) (7 * i).toNat) ∧ ∀ k j, k ≠ 61 → ¬ (62 ≤ k ∧ k ≤ 65) → ¬ (k = 44 ∧ j = 14) → gi s k j = gi σ4 k j) _ 224 ?_ ?_ N 0 σ4 (by omega) (by omega) ?_
    · intro n s ⟨_, h1, h2, h3⟩
      show Ho (fX3_plot_s31 N _ _ _) _
      unfold fX3_plot_s31
      rw [if_pos (by decide)]
      have g5 : ∀ k j, gi (si s 44 17 1) k j = if k = 44 ∧ j = 17 then 1 else gi s k j := fun k j => gi_si
      show Ho (some (si s 44 17 1)) _
      generalize hs5 : si s 44 17 1 = s5 at g5
      have o5 : ∀ k j, ¬ (k = 17 ∨ (51 ≤ k ∧ k ≤ 56) ∨ k = 60 ∨ (k = 44 ∧ (j = 14 ∨ j = 16 ∨ j = 17)) ∨ (61 ≤ k ∧ k ≤ 65)) → gi s5 k j = gi σ1 k j := by
        intro k j hk
        rw [g5, if_neg (by omega), h3 k j (by omega) (by omega) (by omega), o4 k j (by omega)]
      have hplots : plots s5.1 κ := by
        refine ⟨fun l hl => ?_, ?_⟩
        · show gi s5 61 l = _
          rw [g5, if_neg (by omega), h1 l hl, if_pos (by omega)]
        · show gi s5 44 14 = _
          rw [g5, if_neg (by omega), h2, ← lanes_ct (fitR κ)]
          rfl
      have hso : sorts s5.1 κ := by
        obtain ⟨x1, x2, x3⟩ := a1
        refine ⟨fun k hk => ?_, fun k hk => ?_, ?_⟩
        · show bt (gi s5 44 12) k = _
          rw [o5 44 12 (by omega)]; exact x1 k hk
        · show bt (gi s5 44 13) k = _
          rw [o5 44 13 (by omega)]; exact x2 k hk
        · exact freshAt_c (m := σ1.1) (m' := s5.1) (fun k j hh => o5 k j (by omega)) x3
      have htu : tunes s5.1 κ := by
        intro b hb
        refine ⟨fun j hj => ?_, fun j hj => ?_⟩
        · show gi s5 (51 + 3 * b + 1) j = _
          rw [g5, if_neg (by omega), h3 _ _ (by omega) (by omega) (by omega)]
          exact (t4 b hb).1 j hj
        · show gi s5 (51 + 3 * b + 2) j = _
          rw [g5, if_neg (by omega), h3 _ _ (by omega) (by omega) (by omega)]
          exact (t4 b hb).2 j hj
      have hcc : CC s5.1 κ := by
        refine ⟨?_, ?_, fun _ => hso, fun _ => htu, fun _ => hplots, fun z => ?_⟩
        · exact ⟨(o5 46 0 (by omega)).trans cc.1.1, (o5 46 1 (by omega)).trans cc.1.2⟩
        · exact ⟨(o5 48 0 (by omega)).trans cc.2.1.1, (o5 48 1 (by omega)).trans cc.2.1.2⟩
        · have z2 : gi s5 68 8 ≠ 0 := z
          rw [o5 68 8 (by omega)] at z2
          obtain ⟨r1, f, fr, r2, r3, r4⟩ := cc.2.2.2.2.2 z2
          refine ⟨fun k hk => ?_, f, fr, ?_, ?_, r4⟩
          · exact (o5 72 k (by omega)).trans (r1 k hk)
          · exact (o5 68 6 (by omega)).trans r2
          · exact (o5 68 7 (by omega)).trans r3
      have hsc : SC σ1 s5 := fun k j hk => o5 k j (by unfold scrC at hk; omega)
      exact Ho_some ⟨CI_of a3 hsc hcc, SC_trans a4 hsc, hplots, hso⟩
    · intro n i s hi ⟨i0, h1, h2, h3⟩ hc
      show Ho (fX3_plot_s31 N _ _ _) _
      unfold fX3_plot_s31
      have c : (224 ≤ zI i) = False := by rw [zl_224, zI_le (by omega) (by omega) (by omega) (by omega)]; exact eq_false (by omega)
      simp only [c, if_false]
      have seenS : seen s.1 κ := seen_c (m := σ4.1) (m' := s.1) (fun k j hh => h3 k j (by omega) (by omega) (by omega)) seen4
      refine Ho_bind (e_plotSheaf hN seenS i0 hi (fun v hv => by rw [h1 _ (by omega), if_neg (by omega)])) fun s2 ⟨p1, p2, p3⟩ => ?_
      have cf := e_countFrom (N := N) (σ := s2) (first := i * 7) (n := 7) (F := fun l y => fitR κ (laneR l y)) (g := fun _ => true) hN (by omega) (by omega) (by omega) (fun l l0 l1 => by
        have := p1 (l - i.toNat * 7) (by omega)
        rw [show i.toNat * 7 + (l - i.toNat * 7) = l by omega] at this
        exact this)
      rw [wd_m1] at cf
      rw [show zI i * 7 = zI (i * 7) from zI_mul i 7, show fX3_countFrom N (zI (i * 7)) 7 (-1) s2 = _ from cf, Option.bind_some, p3 44 14 (by omega) (by omega), h2, zI_add, show zI i + 1 = zI (i + 1) from zI_add i 1]
      refine hc _ ⟨by omega, fun l hl => ?_, ?_, fun k j k1 k2 k3 => ?_⟩
      · rw [gi_si, if_neg (by omega)]
        by_cases ql : i.toNat * 7 ≤ l ∧ l < i.toNat * 7 + 7
        · have := p1 (l - i.toNat * 7) (by omega)
          rw [show i.toNat * 7 + (l - i.toNat * 7) = l by omega] at this
          rw [this, if_pos (by omega)]
        · rw [p2 l ql, h1 l hl]
          by_cases q2 : (l : Int) < 7 * i
          · rw [if_pos q2, if_pos (by omega)]
          · rw [if_neg q2, if_neg (by omega)]
      · rw [gi_si, if_pos ⟨rfl, rfl⟩]
        congr 1
        rw [show (7 * (i + 1)).toNat = (7 * i).toNat + 7 by omega, fb_sm_split]
        have e : fb_sm (fun k => fb_ct (fun y => fitR κ (laneR ((i * 7).toNat + k) y) && true) 32) (Int.toNat 7) = fb_sm (fun k => fb_ct (fun y => fitR κ (laneR ((7 * i).toNat + k) y)) 32) 7 := by
          apply fb_sm_cong
          intro k _
          apply fb_ct_cong
          intro y _
          rw [Bool.and_true, show (i * 7).toNat = (7 * i).toNat by omega]
        rw [e]
        simp
      · rw [gi_si, if_neg k3, p3 k j k1 k2]
        exact h3 k j k1 k2 k3
    · refine ⟨by omega, fun l hl => ?_, ?_, fun _ _ _ _ _ => rfl⟩
      · rw [if_neg (by omega)]; exact z4 l hl
      · rw [n4]; rfl
  · rw [if_neg q]
    exact Ho_some ⟨a3, a4, a3.2.2.2.2.2.2.2.1 q, a1⟩
