/-! where a boat is: the reference's sum, the class's steps -/
theorem e_at {σ : qMem} {k n : Nat} {w s i col : Int} (hw : gi σ k 0 = zI w) (hs : gi σ k 3 = zI s) (h1 : 0 ≤ i) (h2 : i < s) (h3 : 0 ≤ col) (h4 : col < w) (h5 : w ≤ 5) (h6 : s ≤ 100) (hn : i * w + col < n) : fX8_at k n (zI i) (zI col) σ = some (gi σ (k + 1) (i * w + col).toNat) := by
  have p0 : 0 ≤ i * w := Int.mul_nonneg h1 (by omega)
  have p1 : i * w ≤ 100 * 5 := Int.mul_le_mul (by omega) h5 (by omega) (by omega)
  unfold fX8_at
  simp (disch := omega) only [hw, hs, zl_0, zI_lt, zI_le, zI_mul, zI_add, zI_ckT, zI_clamp, if_true]
  rw [if_neg (by omega), if_neg (by omega), if_neg (by omega), if_pos h4]
theorem r_boatOf {τ : qMem} {b f : Int} (h0 : 0 ≤ b) (h1 : b ≤ 1) (h2 : 0 ≤ f) (h3 : f ≤ 25) : fX12_boatOf (zI b) (zI f) τ = some (zI (kI (τ.1 2) (22 * b + f))) := by
  unfold fX12_boatOf
  simp (disch := omega) only [zl_0, zl_22, zI_mul, zI_add, zI_ckT, zI_clamp, if_true]
  rw [kI_z, show 0 + 22 * b + f = 22 * b + f by omega]
theorem r_legOf {τ : qMem} {b l f : Int} (h0 : 0 ≤ b) (h1 : b ≤ 1) (h2 : 0 ≤ l) (h3 : l ≤ 6) (h4 : 0 ≤ f) (h5 : f ≤ 2) : fX12_legOf (zI b) (zI l) (zI f) τ = some (zI (kI (τ.1 2) (22 * b + 4 + 3 * l + f))) := by
  unfold fX12_legOf
  simp (disch := omega) only [zl_3, zl_4, zI_mul, zI_add, r_boatOf, Option.bind_some]
  rw [show 22 * b + (4 + 3 * l + f) = 22 * b + 4 + 3 * l + f by omega]
def legC (κ : Nat → Int32) (b w bell l : Int) : Int :=
  if legB κ b l < (if l + 1 < legN κ b ∧ legB κ b (l + 1) < bell then legB κ b (l + 1) else bell) then ((if l + 1 < legN κ b ∧ legB κ b (l + 1) < bell then legB κ b (l + 1) else bell) - legB κ b l) * legV κ b l w else 0
def legI (κ : Nat → Int32) (b w bell l : Int) : Int := if legB κ b l ≤ bell ∧ (l + 1 < legN κ b → bell < legB κ b (l + 1)) then legV κ b l w else 0
theorem legC_step {κ : Nat → Int32} {b w bell l : Int} (hl : l + 1 < legN κ b → legB κ b l < legB κ b (l + 1)) : legC κ b w (bell + 1) l = legC κ b w bell l + legI κ b w bell l := by
  unfold legC legI
  generalize legB κ b l = a at *
  generalize legV κ b l w = u at *
  have hm : (bell + 1 - a) * u = (bell - a) * u + u := by
    rw [show bell + 1 - a = (bell - a) + 1 by omega, Int.add_mul, Int.one_mul]
  by_cases q : l + 1 < legN κ b
  · have hl := hl q
    generalize legB κ b (l + 1) = nx at *
    simp only [q, true_and, true_implies]
    by_cases q1 : nx < bell
    · have q2 : nx < bell + 1 := by omega
      have q3 : ¬ (a ≤ bell ∧ bell < nx) := by omega
      simp only [q1, q2, q3, if_true, if_false]
      omega
    · by_cases q2 : nx < bell + 1
      · have e : nx = bell := by omega
        have q3 : ¬ (a ≤ bell ∧ bell < nx) := by omega
        have h5 : (if nx < bell + 1 then nx else bell + 1) = bell := by rw [if_pos q2]; exact e
        have h6 : (if nx < bell then nx else bell) = bell := if_neg q1
        rw [h5, h6, if_neg q3]
        omega
      · simp only [q1, q2, if_false]
        by_cases q4 : a < bell
        · have q5 : a < bell + 1 := by omega
          have q6 : a ≤ bell ∧ bell < nx := by omega
          simp only [q4, q5, q6, and_self, if_true]
          exact hm
        · by_cases q5 : a = bell
          · have q6 : a < bell + 1 := by omega
            have q7 : a ≤ bell ∧ bell < nx := by omega
            simp only [q4, q6, q7, and_self, if_true, if_false]
            rw [hm, q5, Int.sub_self, Int.zero_mul]
          · have q6 : ¬ a < bell + 1 := by omega
            have q7 : ¬ (a ≤ bell ∧ bell < nx) := by omega
            simp only [q4, q6, q7, if_false]
            omega
  · simp only [q, false_and, false_implies, and_true, if_false]
    by_cases q4 : a < bell
    · have q5 : a < bell + 1 := by omega
      have q6 : a ≤ bell := by omega
      simp only [q4, q5, q6, if_true]
      exact hm
    · by_cases q5 : a = bell
      · have q6 : a < bell + 1 := by omega
        have q7 : a ≤ bell := by omega
        simp only [q4, q6, q7, if_true, if_false]
        rw [hm, q5, Int.sub_self, Int.zero_mul]
      · have q6 : ¬ a < bell + 1 := by omega
        have q7 : ¬ a ≤ bell := by omega
        simp only [q4, q6, q7, if_false]
        omega
theorem fb_si_zero {f : Nat → Int} : ∀ {n : Nat}, (∀ k, k < n → f k = 0) → fb_si f n = 0
  | 0, _ => rfl
  | n + 1, h => by rw [fb_si_succ, fb_si_zero (fun k hk => h k (by omega)), h n (by omega)]; rfl
theorem leg_mono {κ : Nat → Int32} {b : Int} (hs : ∀ l : Int, 0 ≤ l → l + 1 < legN κ b → legB κ b l < legB κ b (l + 1)) (a : Nat) : ∀ d : Nat, (a : Int) + d < legN κ b → legB κ b a ≤ legB κ b ((a : Int) + d)
  | 0, _ => by simp
  | d + 1, h => by
    have h1 := leg_mono hs a d (by omega)
    have h2 := hs ((a : Int) + d) (by omega) (by omega)
    rw [show (a : Int) + (d + 1 : Nat) = (a : Int) + d + 1 by omega]
    omega
theorem legI_sum {κ : Nat → Int32} {b w bell : Int} (hs : ∀ l : Int, 0 ≤ l → l + 1 < legN κ b → legB κ b l < legB κ b (l + 1)) : ∀ k : Nat, (k : Int) ≤ legN κ b → ((k : Int) = legN κ b ∨ bell < legB κ b k) → fb_si (fun l => legI κ b w bell l) k = velR κ b w bell k
  | 0, _, _ => rfl
  | m + 1, h1, h2 => by
    rw [fb_si_succ, velR]
    by_cases q : legB κ b m ≤ bell
    · rw [if_pos q]
      have e1 : legI κ b w bell m = legV κ b m w := by
        unfold legI
        rw [if_pos]
        refine ⟨q, fun h => ?_⟩
        rcases h2 with h3 | h3
        · omega
        · exact h3
      have e2 : fb_si (fun l => legI κ b w bell l) m = 0 := by
        apply fb_si_zero
        intro l hl
        unfold legI
        rw [if_neg]
        intro ⟨_, h4⟩
        have h5 := h4 (by omega)
        have h6 := leg_mono hs (l + 1) (m - (l + 1)) (by omega)
        rw [show ((l + 1 : Nat) : Int) = (l : Int) + 1 by omega, show (l : Int) + 1 + ((m - (l + 1) : Nat) : Int) = m by omega] at h6
        omega
      rw [e1, e2]
      omega
    · rw [if_neg q]
      have e1 : legI κ b w bell m = 0 := by
        unfold legI
        rw [if_neg (fun h => q h.1)]
      rw [e1, legI_sum hs m (by omega) (Or.inr (by omega))]
      omega
theorem pos_sum {κ : Nat → Int32} {b w : Int} (hk : KB κ) (h0 : 0 ≤ b) (h1 : b ≤ 1) (n : Nat) : kI κ (22 * b + w) + fb_si (fun l => legC κ b w n l) (legN κ b).toNat = posN κ b w n := by
  obtain ⟨_, _, _, hn, hl, hs⟩ := hk b h0 h1
  induction n with
  | zero =>
    rw [fb_si_zero]
    · rw [posN]; omega
    · intro l hll
      have := (hl l (by omega) (by omega)).1
      unfold legC
      rw [if_neg]
      by_cases q : (l : Int) + 1 < legN κ b
      · have := (hl (l + 1) (by omega) q).1
        rw [if_neg (by omega)]
        omega
      · rw [if_neg (by omega)]
        omega
  | succ n ih =>
    rw [posN, ← ih]
    have e : fb_si (fun l => legC κ b w ((n + 1 : Nat) : Int) l) (legN κ b).toNat = fb_si (fun l => legC κ b w n l) (legN κ b).toNat + fb_si (fun l => legI κ b w n l) (legN κ b).toNat := by
      rw [← fb_si_add]
      apply fb_si_cong
      intro l hll
      rw [show ((n + 1 : Nat) : Int) = (n : Int) + 1 by omega, legC_step (hs l (by omega))]
    rw [e, legI_sum hs _ (by omega) (Or.inl (by omega))]
    unfold velS
    omega
theorem r_at {N : Nat} {τ : qMem} {b bell w : Int} (hN : 200000 ≤ N) (hk : KB (τ.1 2)) (h0 : 0 ≤ b) (h1 : b ≤ 1) (h2 : 0 ≤ bell) (h3 : bell ≤ 23) (hw : w = 0 ∨ w = 1) : fX12_at N (zI b) (zI bell) (zI w) τ = some (zI (pos (τ.1 2) b bell w)) := by
  obtain ⟨hx, hy, hd, hn, hl, hs⟩ := hk b h0 h1
  have hps := pos_sum (w := w) hk h0 h1 bell.toNat
  rw [show ((bell.toNat : Nat) : Int) = bell by omega] at hps
  have hN0 : kI (τ.1 2) (22 * b + 3) = legN (τ.1 2) b := rfl
  unfold fX12_at
  rw [r_boatOf h0 h1 (by omega) (by omega), Option.bind_some]
  have key := lp_for (S := Int) (R := Int32) (fun n i s => fX12_at_l11 N τ n (zI b) (zI bell) (zI w) (zI s) (zI i)) (fun i s => 0 ≤ i ∧ s = kI (τ.1 2) (22 * b + w) + fb_si (fun l => legC (τ.1 2) b w bell l) i.toNat) (fun r => r = zI (pos (τ.1 2) b bell w)) (legN (τ.1 2) b)
    (by
      intro n s ⟨_, hs2⟩
      show Ho (fX12_at_s11 N _ _ _ _ _ _ _) _
      unfold fX12_at_s11
      rw [show (3 : Int32) = zI 3 from rfl, r_boatOf h0 h1 (by omega) (by omega), Option.bind_some, hN0]
      simp (disch := omega) only [zI_le]
      rw [if_pos (by omega)]
      refine Ho_some ?_
      rw [hs2, hps]
      rfl)
    (by
      intro n i s hi ⟨h4, hs2⟩ hc
      show Ho (fX12_at_s11 N _ _ _ _ _ _ _) _
      have hb0 := (hl i h4 hi).1
      have fin : ∀ x : Int, x = legC (τ.1 2) b w bell i → Ho (fX12_at_l11 N τ n (zI b) (zI bell) (zI w) (zI (s + x)) (zI (i + 1))) (fun r => r = zI (pos (τ.1 2) b bell w)) := by
        intro x hx
        refine hc (s + x) ⟨by omega, ?_⟩
        rw [hs2, show (i + 1).toNat = i.toNat + 1 by omega, fb_si_succ, show ((i.toNat : Nat) : Int) = i by omega, hx]
        omega
      have e63 : ∀ to : Int, 0 ≤ to → to ≤ 23 → (if legB (τ.1 2) b i < to then (to - legB (τ.1 2) b i) * legV (τ.1 2) b i w else 0) = legC (τ.1 2) b w bell i → Ho (fX12_at_b63 N (fX12_at_l11 N τ n) (zI b) (zI bell) (zI w) (zI s) (zI i) (zI to) τ) (fun r => r = zI (pos (τ.1 2) b bell w)) := by
        intro to t0 t1 ht
        unfold fX12_at_b63 fX12_at_b105
        simp (disch := omega) only [zl_0, zl_1, zI_add, r_legOf, Option.bind_some]
        rw [show 22 * b + 4 + 3 * i + 0 = 22 * b + 4 + 3 * i by omega, show 22 * b + 4 + 3 * i + (1 + w) = 22 * b + 5 + 3 * i + w by omega]
        have e1 : kI (τ.1 2) (22 * b + 4 + 3 * i) = legB (τ.1 2) b i := rfl
        have e2 : kI (τ.1 2) (22 * b + 5 + 3 * i + w) = legV (τ.1 2) b i w := rfl
        rw [e1, e2]
        simp (disch := omega) only [zI_le, zI_sub, zI_mul, zI_add]
        by_cases q : legB (τ.1 2) b i < to
        · rw [if_neg (by omega)]
          rw [if_pos q] at ht
          exact fin _ ht
        · rw [if_pos (by omega)]
          rw [if_neg q] at ht
          have := fin 0 ht
          rwa [Int.add_zero] at this
      unfold fX12_at_s11 fX12_at_b62
      rw [show (3 : Int32) = zI 3 from rfl, r_boatOf h0 h1 (by omega) (by omega), Option.bind_some, hN0]
      simp (disch := omega) only [zl_0, zl_1, zI_add, zI_le, Option.bind_some]
      rw [if_neg (by omega)]
      by_cases q : i + 1 < legN (τ.1 2) b
      · have hb1 := (hl (i + 1) (by omega) q).1
        rw [if_neg (by omega), r_legOf h0 h1 (by omega) (by omega) (by omega) (by omega), Option.bind_some, show 22 * b + 4 + 3 * (i + 1) + 0 = 22 * b + 4 + 3 * (i + 1) by omega]
        have e1 : kI (τ.1 2) (22 * b + 4 + 3 * (i + 1)) = legB (τ.1 2) b (i + 1) := rfl
        rw [e1, Option.bind_some]
        simp (disch := omega) only [zI_le]
        by_cases q2 : legB (τ.1 2) b (i + 1) < bell
        · rw [if_neg (by omega)]
          refine e63 _ hb1.1 hb1.2 ?_
          unfold legC
          simp only [q, q2, and_self, if_true]
        · rw [if_pos (by omega)]
          refine e63 _ h2 h3 ?_
          unfold legC
          simp only [q, q2, and_false, if_false]
      · rw [if_pos (by omega)]
        refine e63 _ h2 h3 ?_
        unfold legC
        simp only [q, false_and, if_false])
    N 0 (kI (τ.1 2) (22 * b + w)) (by omega) (by omega) ⟨by omega, by simp [fb_si]⟩
  obtain ⟨r, e, rfl⟩ := key
  exact e
def spR (κ : Nat → Int32) (b bell : Int) : Nat → Int
  | 0 => 0
  | l + 1 => if legB κ b l ≤ bell then max (szS (legV κ b l 0)) (szS (legV κ b l 1)) else spR κ b bell l
theorem spR_eq (κ : Nat → Int32) (b bell : Int) (n : Nat) : spR κ b bell n = max (szS (velR κ b 0 bell n)) (szS (velR κ b 1 bell n)) := by
  induction n with
  | zero => rfl
  | succ n ih =>
    rw [spR, velR, velR, ih]
    by_cases q : legB κ b n ≤ bell
    · simp only [q, if_true]
    · simp only [q, if_false]
theorem r_speed {N : Nat} {τ : qMem} {b bell : Int} (hN : 200000 ≤ N) (hk : KB (τ.1 2)) (h0 : 0 ≤ b) (h1 : b ≤ 1) (h2 : 0 ≤ bell) (h3 : bell ≤ 23) : fX12_speedOf N (zI b) (zI bell) τ = some (zI (spd (τ.1 2) b bell)) := by
  obtain ⟨hx, hy, hd, hn, hl, hs⟩ := hk b h0 h1
  have hN0 : kI (τ.1 2) (22 * b + 3) = legN (τ.1 2) b := rfl
  unfold fX12_speedOf
  have key := lp_for (S := Int) (R := Int32) (fun n i s => fX12_speedOf_l5 N τ n (zI b) (zI bell) (zI s) (zI i)) (fun i s => 0 ≤ i ∧ s = spR (τ.1 2) b bell i.toNat) (fun r => r = zI (spd (τ.1 2) b bell)) (legN (τ.1 2) b)
    (by
      intro n s ⟨_, hs2⟩
      show Ho (fX12_speedOf_s5 N _ _ _ _ _ _) _
      unfold fX12_speedOf_s5
      rw [show (3 : Int32) = zI 3 from rfl, r_boatOf h0 h1 (by omega) (by omega), Option.bind_some, hN0]
      simp (disch := omega) only [zI_le]
      rw [if_pos (by omega)]
      refine Ho_some ?_
      rw [hs2, spR_eq]
      rfl)
    (by
      intro n i s hi ⟨h4, hs2⟩ hc
      show Ho (fX12_speedOf_s5 N _ _ _ _ _ _) _
      have hb0 := hl i h4 hi
      have e1 : kI (τ.1 2) (22 * b + 4 + 3 * i) = legB (τ.1 2) b i := rfl
      have e2 : kI (τ.1 2) (22 * b + 4 + 3 * i + 1) = legV (τ.1 2) b i 0 := by unfold legV; congr 1; omega
      have e3 : kI (τ.1 2) (22 * b + 4 + 3 * i + 2) = legV (τ.1 2) b i 1 := by unfold legV; congr 1; omega
      unfold fX12_speedOf_s5 fX12_speedOf_b54
      rw [show (3 : Int32) = zI 3 from rfl, r_boatOf h0 h1 (by omega) (by omega), Option.bind_some, hN0]
      simp (disch := omega) only [zl_0, zl_1, zl_2, zI_add, zI_le, r_legOf, Option.bind_some]
      rw [if_neg (by omega), show 22 * b + 4 + 3 * i + 0 = 22 * b + 4 + 3 * i by omega, e1, e2, e3]
      simp (disch := omega) only [zI_lt, r_size, r_more, Option.bind_some]
      have st : spR (τ.1 2) b bell (i + 1).toNat = if legB (τ.1 2) b i ≤ bell then max (szS (legV (τ.1 2) b i 0)) (szS (legV (τ.1 2) b i 1)) else spR (τ.1 2) b bell i.toNat := by
        rw [show (i + 1).toNat = i.toNat + 1 by omega, spR, show ((i.toNat : Nat) : Int) = i by omega]
      by_cases q : bell < legB (τ.1 2) b i
      · rw [if_pos q]
        refine hc s ⟨by omega, ?_⟩
        rw [st, if_neg (by omega)]
        exact hs2
      · rw [if_neg q]
        refine hc _ ⟨by omega, ?_⟩
        rw [st, if_pos (by omega)]
        rfl)
    N 0 0 (by omega) (by omega) ⟨by omega, rfl⟩
  obtain ⟨r, e, rfl⟩ := key
  exact e
