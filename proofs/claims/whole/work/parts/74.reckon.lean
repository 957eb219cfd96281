/-! all tallies -/
theorem missR_lane {κ : Nat → Int32} {sheaf : Int} {v y : Nat} (s0 : 0 ≤ sheaf) (s1 : sheaf < 224) (hv : v < 7) (hy : y < 32) : missR κ (laneR (sheaf.toNat * 7 + v) y) = missBest κ (sheaf / 7) y (sheaf % 7 - 3) ((v : Int) - 3) := by
  obtain ⟨e1, e2, e3, e4, _⟩ := lane_dec (lane := sheaf.toNat * 7 + v) (y := y) (by omega) hy
  unfold missR
  rw [e1, e2, e3, e4]
  congr 1 <;> omega
def binsL (s : qMem) (κ : Nat → Int32) (L : Nat) : Prop := ∀ k : Nat, k < 64 → gi s 72 k = zI (fb_sm (fun l => fb_ct (fun y => decide (missR κ (laneR l y) = k)) 32) L)
def fewL (s : qMem) (κ : Nat → Int32) (L : Nat) : Prop := (L = 0 ∧ gi s 68 6 = zI 64) ∨ (0 < L ∧ ∃ l y, l < L ∧ y < 32 ∧ gi s 68 6 = zI (missR κ (laneR l y)) ∧ gi s 68 7 = zI (laneR l y) ∧ ∀ l' y', l' < L → y' < 32 → missR κ (laneR l y) ≤ missR κ (laneR l' y') ∧ (laneR l' y' < laneR l y → missR κ (laneR l y) < missR κ (laneR l' y')))
theorem laneR_lt {l m y z : Nat} (hy : y < 32) (hz : z < 32) : laneR l y = laneR m z → l = m ∧ y = z := by
  unfold laneR
  omega
theorem missR_36 {κ : Nat → Int32} (hw : KW κ) (r : Nat) : missR κ r ≤ 36 := missBest_36 hw _ _ _ _
theorem e_noteLane {N v L : Nat} {σ : qMem} {κ : Nat → Int32} (hN : 200000 ≤ N) (hw : KW κ) (hv : v < 7) (hL : L < 1568) (hpl : ∀ p, p < 6 → gi σ 71 (6 * v + p) = wd (fun y => (missR κ (laneR L y)).testBit p)) (hf : fewL σ κ L) :
    Ho (fX9_noteFewest N (zI L) (zI ((6 * v : Nat) : Int)) σ) (fun t => fewL t κ (L + 1) ∧ ∀ k j, ¬ (k = 68 ∧ (j = 6 ∨ j = 7)) → gi t k j = gi σ k j) := by
  obtain ⟨Y, hY, hY1, hY2⟩ := min_ex (fun y => missR κ (laneR L y))
  have m36 := fun r => missR_36 hw r (κ := κ)
  have lt : ∀ y y', y < 32 → y' < 32 → laneR L y < laneR L y' → y < y' := by intro y y' _ _ h; unfold laneR at h; omega
  rcases hf with ⟨h0, h6⟩ | ⟨h0, l, y, hl, hy, h6, h7, hmin⟩
  · refine Ho_mono (e_noteFewest (f0 := 64) (r0 := 0) (a := fun y => missR κ (laneR L y)) hN hv hL (fun y _ => by have := m36 (laneR L y); omega) hpl hY hY1 hY2 h6 (fun h => by omega) (by omega) (by omega)) fun t ⟨w1, w2, w3⟩ => ?_
    have := m36 (laneR L Y)
    obtain ⟨x1, x2⟩ := w1 (Or.inl (by omega))
    refine ⟨Or.inr ⟨by omega, L, Y, by omega, hY, x1, x2, fun l' y' hl' hy' => ?_⟩, w3⟩
    rw [show l' = L by omega]
    exact ⟨hY1 y' hy', fun h => hY2 y' (lt y' Y hy' hY h)⟩
  · have lr := (lane_dec (lane := l) (y := y) (by omega) hy).2.2.2.2
    refine Ho_mono (e_noteFewest (f0 := missR κ (laneR l y)) (r0 := laneR l y) (a := fun y => missR κ (laneR L y)) hN hv hL (fun y _ => by have := m36 (laneR L y); omega) hpl hY hY1 hY2 h6 (fun _ => h7) (by have := m36 (laneR l y); omega) lr) fun t ⟨w1, w2, w3⟩ => ?_
    by_cases q : missR κ (laneR L Y) < missR κ (laneR l y) ∨ (missR κ (laneR L Y) = missR κ (laneR l y) ∧ laneR L Y < laneR l y)
    · obtain ⟨x1, x2⟩ := w1 q
      refine ⟨Or.inr ⟨by omega, L, Y, by omega, hY, x1, x2, fun l' y' hl' hy' => ?_⟩, w3⟩
      by_cases e : l' = L
      · rw [e]
        exact ⟨hY1 y' hy', fun h => hY2 y' (lt y' Y hy' hY h)⟩
      · obtain ⟨z1, z2⟩ := hmin l' y' (by omega) hy'
        refine ⟨by omega, fun h => ?_⟩
        rcases q with q | q
        · omega
        · have := z2 (by omega)
          omega
    · obtain ⟨x1, x2⟩ := w2 q
      refine ⟨Or.inr ⟨by omega, l, y, by omega, hy, x1.trans h6, x2.trans h7, fun l' y' hl' hy' => ?_⟩, w3⟩
      by_cases e : l' = L
      · rw [e]
        have := hY1 y' hy'
        try dsimp only at this
        refine ⟨by omega, fun h => ?_⟩
        rcases Nat.lt_or_ge y' Y with g | g
        · have := hY2 y' g
          try dsimp only at this
          omega
        · have : laneR L Y ≤ laneR L y' := by unfold laneR; omega
          omega
      · exact hmin l' y' (by omega) hy'
theorem e_reckon {N : Nat} {σ : qMem} {κ : Nat → Int32} (hN : 200000 ≤ N) (h : CI σ.1 κ) : Ho (fX9_reckon N σ) (fun t => CI t.1 κ ∧ SC σ t ∧ reckons t.1 κ) := by
  unfold fX9_reckon
  by_cases q : gi σ 68 8 = 0
  · rw [if_pos q]
    refine Ho_bind (e_sortOut hN h) fun σ1 ⟨a1, a2, a3, a4, a5⟩ => ?_
    have c1 := a3
    obtain ⟨bs, bk, kw, cc⟩ := c1
    refine Ho_bind (e_tune hN bk kw cc) fun σ2 ⟨t1, t2, t3⟩ => ?_
    obtain ⟨se, ci2, sc2⟩ := ready_of a1 a3 a4 t1 t3
    refine Ho_bind (e_fill hN (by omega)) fun σ3 f3 => ?_
    show Ho (fX9_reckon_l41 N N 0 (si σ3 68 6 64)) _
    have g4 : ∀ k j, gi (si σ3 68 6 64) k j = if k = 68 ∧ j = 6 then 64 else gi σ3 k j := fun k j => gi_si
    generalize hσ4 : si σ3 68 6 64 = σ4 at g4
    have o4 : ∀ k j, ¬ (k = 68 ∧ (j = 6 ∨ j = 7)) → k ≠ 72 → gi σ4 k j = gi σ2 k j := by
      intro k j h1 h2
      rw [g4, if_neg (by omega), f3, if_neg (by omega)]
    have m36 := fun r => missR_36 kw r (κ := κ)
    rw [show (0 : Int32) = zI 0 from rfl]
    refine lp_for (S := qMem) (R := qMem) (fun n i s => fX9_reckon_l41 N n (zI i) s) (fun i s => 0 ≤ i ∧ binsL s κ (7 * i.toNat) ∧ fewL s κ (7 * i.toNat) ∧ ∀ k j, ¬ (k = 68 ∧ (j = 6 ∨ j = 7)) → k ≠ 62 → k ≠ 63 → ¬ (69 ≤ k ∧ k ≤ 72) → gi s k j = gi σ2 k j) _ 224 ?_ ?_ N 0 σ4 (by omega) (by omega) ?_
    · intro n s ⟨_, b1, b2, b3⟩
      show Ho (fX9_reckon_s41 N _ _ _) _
      unfold fX9_reckon_s41
      rw [if_pos (by decide)]
      show Ho (some (si s 68 8 1)) _
      have g5 : ∀ k j, gi (si s 68 8 1) k j = if k = 68 ∧ j = 8 then 1 else gi s k j := fun k j => gi_si
      generalize hs5 : si s 68 8 1 = s5 at g5
      have o5 : ∀ k j, ¬ (k = 68 ∧ (j = 6 ∨ j = 7 ∨ j = 8)) → k ≠ 62 → k ≠ 63 → ¬ (69 ≤ k ∧ k ≤ 72) → gi s5 k j = gi σ2 k j := by
        intro k j h1 h2 h3 h4
        rw [g5, if_neg (by omega), b3 k j (by omega) h2 h3 h4]
      have rk : reckons s5.1 κ := by
        rcases b2 with ⟨z, _⟩ | ⟨_, l, y, hl, hy, e6, e7, hmin⟩
        · exact absurd z (by decide)
        · have hl' : l < 1568 := hl
          refine ⟨fun k hk => ?_, missR κ (laneR l y), laneR l y, ?_, ?_, (lane_dec hl' hy).2.2.2.2, rfl, fun r hr => ?_, fun r hr => ?_⟩
          · show gi s5 72 k = _
            rw [g5, if_neg (by omega), b1 k hk]
            exact congrArg (fun n : Nat => zI n) (lanes_ct (fun r => decide (missR κ r = k)))
          · show gi s5 68 6 = _
            rw [g5, if_neg (by omega), e6]
          · show gi s5 68 7 = _
            rw [g5, if_neg (by omega), e7]
          · obtain ⟨l', y', x1, x2, x3⟩ := lane_ex hr
            rw [← x3]
            exact (hmin l' y' x1 x2).1
          · have := (lane_dec hl' hy).2.2.2.2
            obtain ⟨l', y', x1, x2, x3⟩ := lane_ex (show r < 50176 by omega)
            rw [← x3] at hr ⊢
            exact (hmin l' y' x1 x2).2 hr
      have sc5 : SC σ2 s5 := fun k j qq => o5 k j (by unfold scrC at qq; omega) (by unfold scrC at qq; omega) (by unfold scrC at qq; omega) (by unfold scrC at qq; omega)
      obtain ⟨d1, d2, d3, d4, d5, d6⟩ := ci2.2.2.2
      have hcc : CC s5.1 κ := by
        refine ⟨⟨(o5 46 0 (by omega) (by omega) (by omega) (by omega)).trans d1.1, (o5 46 1 (by omega) (by omega) (by omega) (by omega)).trans d1.2⟩, ⟨(o5 48 0 (by omega) (by omega) (by omega) (by omega)).trans d2.1, (o5 48 1 (by omega) (by omega) (by omega) (by omega)).trans d2.2⟩, fun z => ?_, fun z => ?_, fun z => ?_, fun _ => rk⟩
        · have z2 : gi s5 44 15 ≠ 0 := z
          rw [o5 44 15 (by omega) (by omega) (by omega) (by omega)] at z2
          obtain ⟨x1, x2, x3⟩ := d3 z2
          refine ⟨fun k hk => ?_, fun k hk => ?_, ?_⟩
          · show bt (gi s5 44 12) k = _
            rw [o5 44 12 (by omega) (by omega) (by omega) (by omega)]; exact x1 k hk
          · show bt (gi s5 44 13) k = _
            rw [o5 44 13 (by omega) (by omega) (by omega) (by omega)]; exact x2 k hk
          · exact freshAt_c (m := σ2.1) (m' := s5.1) (fun k j hh => o5 k j (by omega) (by omega) (by omega) (by omega)) x3
        · have z2 : gi s5 44 16 ≠ 0 := z
          rw [o5 44 16 (by omega) (by omega) (by omega) (by omega)] at z2
          intro b hb
          refine ⟨fun j hj => ?_, fun j hj => ?_⟩
          · exact (o5 (51 + 3 * b + 1) j (by omega) (by omega) (by omega) (by omega)).trans ((d4 z2 b hb).1 j hj)
          · exact (o5 (51 + 3 * b + 2) j (by omega) (by omega) (by omega) (by omega)).trans ((d4 z2 b hb).2 j hj)
        · have z2 : gi s5 44 17 ≠ 0 := z
          rw [o5 44 17 (by omega) (by omega) (by omega) (by omega)] at z2
          obtain ⟨p1, p2⟩ := d5 z2
          exact ⟨fun l hl => (o5 61 l (by omega) (by omega) (by omega) (by omega)).trans (p1 l hl), (o5 44 14 (by omega) (by omega) (by omega) (by omega)).trans p2⟩
      exact Ho_some ⟨CI_of ci2 sc5 hcc, SC_trans sc2 sc5, rk⟩
    · intro n i s hi ⟨i0, b1, b2, b3⟩ hc
      show Ho (fX9_reckon_s41 N _ _ _) _
      unfold fX9_reckon_s41
      have c : (224 ≤ zI i) = False := by rw [zl_224, zI_le (by omega) (by omega) (by omega) (by omega)]; exact eq_false (by omega)
      simp only [c, if_false]
      have se1 : seen s.1 κ := seen_c (m := σ2.1) (m' := s.1) (fun k j qq => b3 k j (by omega) (by omega) (by omega) (by omega)) se
      refine Ho_bind (e_tally hN se1 i0 hi) fun s6 ⟨p6, f6⟩ => ?_
      have hp6 : ∀ v p : Nat, v < 7 → p < 6 → gi s6 71 (6 * v + p) = wd (fun y => (missR κ (laneR (7 * i.toNat + v) y)).testBit p) := fun v p hv hp => (p6 v p hv hp).trans (wd_congr fun y hy => by
        dsimp only
        rw [show 7 * i.toNat + v = i.toNat * 7 + v by omega, missR_lane i0 hi hv hy])
      rw [show (0 : Int32) = zI 0 from rfl]
      refine lp_for (S := qMem) (R := qMem) (fun m v t => fX9_reckon_l55 N (fX9_reckon_l41 N n) m (zI i) (zI v) t) (fun v t => 0 ≤ v ∧ binsL t κ (7 * i.toNat + v.toNat) ∧ fewL t κ (7 * i.toNat + v.toNat) ∧ ∀ k j, ¬ (k = 68 ∧ (j = 6 ∨ j = 7)) → k ≠ 72 → gi t k j = gi s6 k j) _ 7 ?_ ?_ N 0 s6 (by omega) (by omega) ?_
      · intro m t ⟨_, g1, g2, g3⟩
        show Ho (fX9_reckon_s55 N _ _ _ _ _) _
        unfold fX9_reckon_s55
        rw [if_pos (by decide), show zI i + 1 = zI (i + 1) from zI_add i 1]
        have e : 7 * i.toNat + (7 : Int).toNat = 7 * (i + 1).toNat := by omega
        rw [e] at g1 g2
        refine hc t ⟨by omega, g1, g2, fun k j h1 h2 h3 h4 => ?_⟩
        rw [g3 k j h1 (by omega), f6 k j h2 h3 (by omega), b3 k j h1 h2 h3 h4]
      · intro m v t hv ⟨v0, g1, g2, g3⟩ hc2
        show Ho (fX9_reckon_s55 N _ _ _ _ _) _
        unfold fX9_reckon_s55
        have c7 : (7 ≤ zI v) = False := by rw [zl_7, zI_le (by omega) (by omega) (by omega) (by omega)]; exact eq_false (by omega)
        have v6 : zI v * 6 = zI ((6 * v.toNat : Nat) : Int) := by rw [show (6 : Int32) = zI 6 from rfl, zI_mul]; congr 1; omega
        have v1 : zI v + 1 = zI (v + 1) := zI_add v 1
        have ln : zI i * 7 + zI v = zI ((7 * i.toNat + v.toNat : Nat) : Int) := by rw [show (7 : Int32) = zI 7 from rfl, zI_mul, zI_add]; congr 1; omega
        simp only [c7, if_false, v6, v1, ln]
        have hpl : ∀ p, p < 6 → gi t 71 (6 * v.toNat + p) = wd (fun y => (missR κ (laneR (7 * i.toNat + v.toNat) y)).testBit p) := fun p hp => by rw [g3 71 _ (by omega) (by omega)]; exact hp6 v.toNat p (by omega) hp
        have sp := e_spread (N := N) (v := v.toNat) (a := fun y => missR κ (laneR (7 * i.toNat + v.toNat) y)) (by omega) 6 8 (by omega) (by omega) (fun _ => true) 0 t (by omega) (by omega) hpl
        rw [wd_m1] at sp
        refine Ho_bind sp fun t7 ⟨w1, w2⟩ => ?_
        have hfew : fewL t7 κ (7 * i.toNat + v.toNat) := by
          unfold fewL
          rw [w2 68 6 (by omega), w2 68 7 (by omega)]
          exact g2
        refine Ho_bind (e_noteLane hN kw (v := v.toNat) (by omega) (by omega) (fun p hp => by rw [w2 71 _ (by omega)]; exact hpl p hp) hfew) fun t8 ⟨x1, x2⟩ => ?_
        have ev : 7 * i.toNat + (v + 1).toNat = 7 * i.toNat + v.toNat + 1 := by omega
        refine hc2 t8 ⟨by omega, fun k hk => ?_, by rw [ev]; exact x1, fun k j h1 h2 => ?_⟩
        · rw [x2 72 k (by omega), w1 k hk, g1 k hk, zI_add, ev, fb_sm_succ]
          have ee : fb_ct (fun y => true && decide (0 + missR κ (laneR (7 * i.toNat + v.toNat) y) % 2 ^ 6 = k)) 32 = fb_ct (fun y => decide (missR κ (laneR (7 * i.toNat + v.toNat) y) = k)) 32 := fb_ct_cong fun y _ => by
            have := m36 (laneR (7 * i.toNat + v.toNat) y)
            rw [Bool.true_and, Nat.zero_add, Nat.mod_eq_of_lt (by omega)]
          rw [ee]
          congr 1
        · rw [x2 k j h1, w2 k j h2]; exact g3 k j h1 h2
      · refine ⟨by omega, fun k hk => ?_, ?_, fun _ _ _ _ => rfl⟩
        · rw [f6 72 k (by omega) (by omega) (by omega)]; exact b1 k hk
        · show fewL s6 κ (7 * i.toNat + 0)
          unfold fewL
          rw [f6 68 6 (by omega) (by omega) (by omega), f6 68 7 (by omega) (by omega) (by omega)]
          exact b2
    · refine ⟨by omega, fun k hk => ?_, Or.inl ⟨rfl, ?_⟩, fun k j h1 h2 h3 h4 => o4 k j h1 (by omega)⟩
      · rw [g4, if_neg (by omega), f3, if_pos ⟨rfl, hk⟩]; rfl
      · rw [g4, if_pos ⟨rfl, rfl⟩]; rfl
  · rw [if_neg q]
    exact Ho_some ⟨h, SC_refl _, h.2.2.2.2.2.2.2.2 q⟩
