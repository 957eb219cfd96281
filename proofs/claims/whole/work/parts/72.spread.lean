/-! the bins, and the fewest -/
theorem or_tab : ∀ p, p < 6 → ∀ P, P < 64 → P % 2 ^ (p + 1) = 0 → zI (P : Nat) ||| ((1 : Int32) <<< (zI (p : Nat) &&& 31)) = zI ((P + 2 ^ p : Nat)) ∧ P + 2 ^ p < 64 ∧ P % 2 ^ p = 0 ∧ (P + 2 ^ p) % 2 ^ p = 0 := by decide +kernel
theorem and_tab : ∀ P, P < 64 → zI (P : Nat) &&& ((64 : Int32) - 1) = zI (P : Nat) := by decide +kernel
theorem ct_disj (p q r : Nat → Bool) (n : Nat) (h : ∀ k, k < n → r k = (p k || q k)) (hd : ∀ k, k < n → ¬ (p k = true ∧ q k = true)) : fb_ct r n = fb_ct p n + fb_ct q n := by
  rw [← fb_ct_or hd]
  exact fb_ct_cong h
theorem e_spread {N v : Nat} {a : Nat → Nat} (hv : v < 7) : ∀ (q d : Nat), q ≤ 6 → q < d → ∀ (mask : Nat → Bool) (P : Nat) (σ : qMem), P < 64 → P % 2 ^ q = 0 → (∀ p, p < 6 → gi σ 71 (6 * v + p) = wd (fun y => (a y).testBit p)) →
    Ho (fX9_spread N d (wd mask) (zI ((6 * v : Nat) : Int)) (zI ((q : Int) - 1)) (zI P) σ) (fun t => (∀ k : Nat, k < 64 → gi t 72 k = gi σ 72 k + zI (fb_ct (fun y => mask y && decide (P + a y % 2 ^ q = k)) 32)) ∧ ∀ k j, k ≠ 72 → gi t k j = gi σ k j)
  | 0, d, _, hd, mask, P, σ, hP, _, hpl => by
    obtain ⟨d, rfl⟩ : ∃ e, d = e + 1 := ⟨d - 1, by omega⟩
    show Ho (fX9_spread_e N _ _ _ _ _ _) _
    unfold fX9_spread_e
    by_cases z : wd mask = 0
    · rw [if_pos z]
      refine Ho_some ⟨fun k hk => ?_, fun _ _ _ => rfl⟩
      have : fb_ct (fun y => mask y && decide (P + a y % 2 ^ 0 = k)) 32 = 0 := fb_ct_zero.mpr fun y hy => by rw [(wd_eq0 _).mp z y hy]; rfl
      rw [this]
      show _ = _ + zI 0
      rw [show zI 0 = 0 from rfl, Int32.add_zero]
    · have c : (0 ≤ zI (((0 : Nat) : Int) - 1)) = False := eq_false (by decide)
      have cc : (ck (zI (P : Int)) 64 = true) = True := zI_ckT (by omega) (by omega) (by omega)
      have z8 : (zI (P : Int)).toNatClampNeg = P := by rw [zI_clamp (by omega) (by omega)]; rfl
      rw [if_neg z]
      simp only [c, if_false, and_tab P hP, cc, if_true, z8, nmM, e_bitCount, Option.bind_some]
      refine Ho_some ⟨fun k hk => ?_, fun k j hk => by rw [gi_si, if_neg (by omega)]⟩
      rw [gi_si]
      by_cases e : k = P
      · rw [if_pos ⟨rfl, e⟩, e]
        congr 3
        refine fb_ct_cong fun y _ => ?_
        rw [Nat.pow_zero, Nat.mod_one, decide_eq_true (show P + 0 = P by omega), Bool.and_true]
      · rw [if_neg (by omega)]
        have : fb_ct (fun y => mask y && decide (P + a y % 2 ^ 0 = k)) 32 = 0 := fb_ct_zero.mpr fun y hy => by
          rw [Nat.pow_zero, Nat.mod_one, decide_eq_false (by omega), Bool.and_false]
        rw [this]
        show _ = _ + zI 0
        rw [show zI 0 = 0 from rfl, Int32.add_zero]
  | q + 1, d, hq, hd, mask, P, σ, hP, hm, hpl => by
    obtain ⟨d, rfl⟩ : ∃ e, d = e + 1 := ⟨d - 1, by omega⟩
    show Ho (fX9_spread_e N _ _ _ _ _ _) _
    unfold fX9_spread_e
    by_cases z : wd mask = 0
    · rw [if_pos z]
      refine Ho_some ⟨fun k hk => ?_, fun _ _ _ => rfl⟩
      have : fb_ct (fun y => mask y && decide (P + a y % 2 ^ (q + 1) = k)) 32 = 0 := fb_ct_zero.mpr fun y hy => by rw [(wd_eq0 _).mp z y hy]; rfl
      rw [this]
      show _ = _ + zI 0
      rw [show zI 0 = 0 from rfl, Int32.add_zero]
    · obtain ⟨o1, o2, o3, o4⟩ := or_tab q (by omega) P hP hm
      have qe : zI (((q + 1 : Nat) : Int) - 1) = zI (q : Nat) := by congr 1; omega
      have c : (0 ≤ zI ((q : Nat) : Int)) = True := by rw [show (0 : Int32) = zI 0 from rfl, zI_le (by omega) (by omega) (by omega) (by omega)]; exact eq_true (by omega)
      have ad : zI ((6 * v : Nat) : Int) + zI ((q : Nat) : Int) = zI ((6 * v + q : Nat) : Int) := by rw [zI_add]; congr 1
      have ck8 : (ck (zI ((6 * v + q : Nat) : Int)) 42 = true) = True := zI_ckT (by omega) (by omega) (by omega)
      have z8 : (zI ((6 * v + q : Nat) : Int)).toNatClampNeg = 6 * v + q := by rw [zI_clamp (by omega) (by omega)]; rfl
      have q1 : zI ((q : Nat) : Int) - 1 = zI ((q : Int) - 1) := zI_sub _ 1
      rw [if_neg z, qe]
      simp only [c, if_true, ad, ck8, z8, q1, o1, hpl q (by omega)]
      rw [wd_not, wd_and]
      refine Ho_bind (e_spread hv q d (by omega) (by omega) _ P σ hP o3 hpl) fun t1 ⟨w1, w2⟩ => ?_
      have g71 : ∀ p, p < 6 → gi t1 71 (6 * v + p) = wd (fun y => (a y).testBit p) := fun p hp => by rw [w2 71 _ (by omega)]; exact hpl p hp
      rw [g71 q (by omega), wd_and]
      refine Ho_bind (e_spread hv q d (by omega) (by omega) _ (P + 2 ^ q) t1 o2 o4 g71) fun t2 ⟨w3, w4⟩ => ?_
      refine Ho_some ⟨fun k hk => ?_, fun k j hk => (w4 k j hk).trans (w2 k j hk)⟩
      rw [w3 k hk, w1 k hk, Int32.add_assoc, zI_add]
      congr 2
      rw [ct_disj (fun y => (mask y && !(a y).testBit q) && decide (P + a y % 2 ^ q = k)) (fun y => (mask y && (a y).testBit q) && decide (P + 2 ^ q + a y % 2 ^ q = k)) (fun y => mask y && decide (P + a y % 2 ^ (q + 1) = k)) 32 (fun y _ => ?_) (fun y _ h => ?_)]
      · rfl
      · rw [md_succ]
        cases (a y).testBit q
        · simp
        · simp only [if_true, Bool.not_true, Bool.and_false, Bool.false_and, Bool.false_or, Bool.and_true]
          congr 1
          exact decide_eq_decide.mpr (by omega)
      · cases e : (a y).testBit q <;> rw [e] at h <;> simp at h
theorem nf_tab : ∀ M, M < 64 → ∀ p, p < 6 → (M / 2 ^ (p + 1) * 2 ^ (p + 1)) % 2 ^ (p + 1) = 0 ∧ M / 2 ^ (p + 1) * 2 ^ (p + 1) < 64 ∧ (M / 2 ^ p % 2 = 0 → M / 2 ^ p * 2 ^ p = M / 2 ^ (p + 1) * 2 ^ (p + 1)) ∧ (M / 2 ^ p % 2 = 1 → M / 2 ^ p * 2 ^ p = M / 2 ^ (p + 1) * 2 ^ (p + 1) + 2 ^ p) := by decide +kernel
theorem e_codeOf {lane y : Nat} (h1 : lane < 1568) (h2 : y < 32) : fX3_codeOf (zI lane) (zI y) = some (zI (laneR lane y)) := by
  unfold fX3_codeOf
  rw [show (49 : Int32) = zI 49 from rfl, show (32 : Int32) = zI 32 from rfl, zI_divp (by omega) (by omega) (by omega) (by omega), zI_rem (by omega) (by omega) (by omega) (by omega)]
  simp only [zI_mul, zI_add]
  congr 2
  unfold laneR
  omega
