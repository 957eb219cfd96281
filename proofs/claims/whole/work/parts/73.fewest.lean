/-! the fewest, and all tallies -/
theorem min_ex (a : Nat → Nat) : ∃ Y, Y < 32 ∧ (∀ y, y < 32 → a Y ≤ a y) ∧ ∀ y, y < Y → a Y < a y := by
  have : ∀ n, ∃ Y, Y < n + 1 ∧ (∀ y, y < n + 1 → a Y ≤ a y) ∧ ∀ y, y < Y → a Y < a y := by
    intro n
    induction n with
    | zero => exact ⟨0, by omega, fun y hy => by rw [show y = 0 by omega]; exact Nat.le_refl _, fun y hy => by omega⟩
    | succ n ih =>
      obtain ⟨Y, h1, h2, h3⟩ := ih
      by_cases q : a (n + 1) < a Y
      · refine ⟨n + 1, by omega, fun y hy => ?_, fun y hy => ?_⟩
        · by_cases e : y = n + 1
          · rw [e]; exact Nat.le_refl _
          · have := h2 y (by omega); omega
        · have := h2 y (by omega); omega
      · refine ⟨Y, by omega, fun y hy => ?_, h3⟩
        by_cases e : y = n + 1
        · rw [e]; omega
        · exact h2 y (by omega)
  exact this 31
theorem nf_step {a M p : Nat} (h : M ≤ a) (hp : (decide (a / 2 ^ (p + 1) = M / 2 ^ (p + 1)) && !a.testBit p) = true) : M / 2 ^ p % 2 = 0 ∧ a / 2 ^ p = M / 2 ^ p := by
  rw [tb_div, dv_succ, dv_succ] at hp
  simp only [Bool.and_eq_true, decide_eq_true_eq, Bool.not_eq_true', decide_eq_false_iff_not] at hp
  have := Nat.div_le_div_right (c := 2 ^ p) h
  omega
theorem e_noteFewest {N v lane Y f0 r0 : Nat} {σ : qMem} {a : Nat → Nat} (hN : 200000 ≤ N) (hv : v < 7) (hl : lane < 1568) (ha : ∀ y, y < 32 → a y < 64) (hpl : ∀ p, p < 6 → gi σ 71 (6 * v + p) = wd (fun y => (a y).testBit p)) (hY : Y < 32) (hY1 : ∀ y, y < 32 → a Y ≤ a y) (hY2 : ∀ y, y < Y → a Y < a y) (h6 : gi σ 68 6 = zI f0) (h7 : f0 < 64 → gi σ 68 7 = zI r0) (hf0 : f0 ≤ 64) (hr0 : r0 < 50176) :
    Ho (fX9_noteFewest N (zI lane) (zI ((6 * v : Nat) : Int)) σ) (fun t => ((a Y < f0 ∨ (a Y = f0 ∧ laneR lane Y < r0)) → gi t 68 6 = zI (a Y) ∧ gi t 68 7 = zI (laneR lane Y)) ∧ (¬ (a Y < f0 ∨ (a Y = f0 ∧ laneR lane Y < r0)) → gi t 68 6 = gi σ 68 6 ∧ gi t 68 7 = gi σ 68 7) ∧ ∀ k j, ¬ (k = 68 ∧ (j = 6 ∨ j = 7)) → gi t k j = gi σ k j) := by
  unfold fX9_noteFewest
  have hM := ha Y hY
  have e1 : (-1 : Int32) = wd (fun y => decide (a y / 2 ^ (6 - (0 : Int).toNat) = a Y / 2 ^ (6 - (0 : Int).toNat))) := by
    rw [← wd_m1]
    refine wd_congr fun y hy => ?_
    have h1 := ha y hy
    exact (decide_eq_true (by show a y / 64 = a Y / 64; omega)).symm
  have e2 : (0 : Int32) = zI ((a Y / 2 ^ (6 - (0 : Int).toNat) * 2 ^ (6 - (0 : Int).toNat) : Nat) : Int) := by
    show zI 0 = zI ((a Y / 64 * 64 : Nat) : Int)
    congr 1; omega
  have e3 : (5 : Int32) = zI (5 - 0) := rfl
  rw [e1, e3]
  have hst := lp_for (S := Unit) (R := qMem) (fun n i _ => fX9_noteFewest_l8 N n (zI lane) (zI ((6 * v : Nat) : Int)) (wd (fun y => decide (a y / 2 ^ (6 - i.toNat) = a Y / 2 ^ (6 - i.toNat)))) (zI ((a Y / 2 ^ (6 - i.toNat) * 2 ^ (6 - i.toNat) : Nat) : Int)) (zI (5 - i)) σ) (fun i _ => 0 ≤ i) (fun t => ((a Y < f0 ∨ (a Y = f0 ∧ laneR lane Y < r0)) → gi t 68 6 = zI (a Y) ∧ gi t 68 7 = zI (laneR lane Y)) ∧ (¬ (a Y < f0 ∨ (a Y = f0 ∧ laneR lane Y < r0)) → gi t 68 6 = gi σ 68 6 ∧ gi t 68 7 = gi σ 68 7) ∧ ∀ k j, ¬ (k = 68 ∧ (j = 6 ∨ j = 7)) → gi t k j = gi σ k j) 6 ?_ ?_ N 0 () (by omega) (by omega) (by omega)
  · rw [← e2] at hst
    exact hst
  · intro n _ _
    show Ho (fX9_noteFewest_s8 N _ _ _ _ _ _ _) _
    unfold fX9_noteFewest_s8
    rw [if_pos (by decide)]
    have m0 : wd (fun y => decide (a y / 2 ^ (6 - (6 : Int).toNat) = a Y / 2 ^ (6 - (6 : Int).toNat))) = wd (fun y => decide (a y = a Y)) := wd_congr fun y _ => by
      rw [show (6 - (6 : Int).toNat) = 0 from rfl]; simp
    have n0 : zI ((a Y / 2 ^ (6 - (6 : Int).toNat) * 2 ^ (6 - (6 : Int).toNat) : Nat) : Int) = zI (a Y) := by
      rw [show (6 - (6 : Int).toNat) = 0 from rfl]; simp
    have lr := (lane_dec hl hY).2.2.2.2
    rw [m0, n0, e_lowest (f := fun y => decide (a y = a Y)) hY (decide_eq_true rfl) (fun i hi => decide_eq_false (by have := hY2 i hi; omega)), Option.bind_some, e_codeOf hl hY, Option.bind_some, h6]
    unfold fX9_noteFewest_b91
    have c1 : (zI (a Y : Int) < zI (f0 : Int)) = (a Y < f0) := by rw [zI_lt (by omega) (by omega) (by omega) (by omega)]; exact propext ⟨fun h => by omega, fun h => by omega⟩
    have c2 : (zI (a Y : Int) = zI (f0 : Int)) = (a Y = f0) := by rw [zI_eq (by omega) (by omega) (by omega) (by omega)]; exact propext ⟨fun h => by omega, fun h => by omega⟩
    have set : (a Y < f0 ∨ (a Y = f0 ∧ laneR lane Y < r0)) → Ho (some (si (si σ 68 6 (zI (a Y : Int))) 68 7 (zI (laneR lane Y : Int)))) (fun t => ((a Y < f0 ∨ (a Y = f0 ∧ laneR lane Y < r0)) → gi t 68 6 = zI (a Y) ∧ gi t 68 7 = zI (laneR lane Y)) ∧ (¬ (a Y < f0 ∨ (a Y = f0 ∧ laneR lane Y < r0)) → gi t 68 6 = zI f0 ∧ gi t 68 7 = gi σ 68 7) ∧ ∀ k j, ¬ (k = 68 ∧ (j = 6 ∨ j = 7)) → gi t k j = gi σ k j) := by
      intro hh
      refine Ho_some ⟨fun _ => ⟨?_, ?_⟩, fun h => absurd hh h, fun k j hk => ?_⟩
      · rw [gi_si, if_neg (by omega), gi_si, if_pos ⟨rfl, rfl⟩]
      · rw [gi_si, if_pos ⟨rfl, rfl⟩]
      · rw [gi_si, if_neg (by omega), gi_si, if_neg (by omega)]
    have keep : ¬ (a Y < f0 ∨ (a Y = f0 ∧ laneR lane Y < r0)) → Ho (some σ) (fun t => ((a Y < f0 ∨ (a Y = f0 ∧ laneR lane Y < r0)) → gi t 68 6 = zI (a Y) ∧ gi t 68 7 = zI (laneR lane Y)) ∧ (¬ (a Y < f0 ∨ (a Y = f0 ∧ laneR lane Y < r0)) → gi t 68 6 = zI f0 ∧ gi t 68 7 = gi σ 68 7) ∧ ∀ k j, ¬ (k = 68 ∧ (j = 6 ∨ j = 7)) → gi t k j = gi σ k j) := fun hh => Ho_some ⟨fun h => absurd h hh, fun _ => ⟨h6, rfl⟩, fun _ _ _ => rfl⟩
    simp only [c1, c2, nmM]
    by_cases q1 : a Y < f0
    · rw [if_pos q1]
      exact set (Or.inl q1)
    · rw [if_neg q1]
      by_cases q2 : a Y = f0
      · rw [if_pos q2]
        have c3 : (gi σ 68 7 ≤ zI (laneR lane Y : Int)) = (r0 ≤ laneR lane Y) := by rw [h7 (by omega), zI_le (by omega) (by omega) (by omega) (by omega)]; exact propext ⟨fun h => by omega, fun h => by omega⟩
        simp only [c3]
        by_cases q3 : r0 ≤ laneR lane Y
        · rw [if_pos q3]
          exact keep (by omega)
        · rw [if_neg q3]
          exact set (Or.inr ⟨q2, by omega⟩)
      · rw [if_neg q2]
        exact keep (by omega)
  · intro n i _ hi i0 hc
    show Ho (fX9_noteFewest_s8 N _ _ _ _ _ _ _) _
    unfold fX9_noteFewest_s8 fX9_noteFewest_b48
    have c : (zI (5 - i) < 0) = False := by rw [show (0 : Int32) = zI 0 from rfl, zI_lt (by omega) (by omega) (by omega) (by omega)]; exact eq_false (by omega)
    have zi : zI (5 - i) = zI ((5 - i.toNat : Nat) : Int) := by congr 1; omega
    have ad : zI ((6 * v : Nat) : Int) + zI (5 - i) = zI ((6 * v + (5 - i.toNat) : Nat) : Int) := by rw [zI_add]; congr 1; omega
    have ck8 : (ck (zI ((6 * v + (5 - i.toNat) : Nat) : Int)) 42 = true) = True := zI_ckT (by omega) (by omega) (by omega)
    have z8 : (zI ((6 * v + (5 - i.toNat) : Nat) : Int)).toNatClampNeg = 6 * v + (5 - i.toNat) := by rw [zI_clamp (by omega) (by omega)]; rfl
    have p1 : zI (5 - i) + (-1) = zI (5 - (i + 1)) := by
      rw [show (-1 : Int32) = zI (-1) from rfl, zI_add]; congr 1; omega
    have h6e : 6 - i.toNat = (5 - i.toNat) + 1 := by omega
    have h5e : 6 - (i + 1).toNat = 5 - i.toNat := by omega
    have hc' := hc () (by omega)
    rw [h5e] at hc'
    simp only [c, if_false, ad, ck8, if_true, z8, nmI, p1, h6e, hpl (5 - i.toNat) (by omega)]
    generalize hp : 5 - i.toNat = p at *
    have p6 : p < 6 := by omega
    rw [zi, wd_not, wd_and]
    obtain ⟨t1, t2, t3, t4⟩ := nf_tab (a Y) hM p p6
    by_cases z : wd (fun j => decide (a j / 2 ^ (p + 1) = a Y / 2 ^ (p + 1)) && !(a j).testBit p) = 0
    · rw [if_pos z]
      have zz := (wd_eq0 _).mp z
      have od : a Y / 2 ^ p % 2 = 1 := by
        have := zz Y hY
        rw [decide_eq_true rfl, Bool.true_and, tb_div] at this
        simpa using this
      have o1 := (or_tab p p6 _ t2 t1).1
      have s1 : wd (fun y => decide (a y / 2 ^ (p + 1) = a Y / 2 ^ (p + 1))) = wd (fun y => decide (a y / 2 ^ p = a Y / 2 ^ p)) := wd_congr fun y hy => by
        apply decide_eq_decide.mpr
        have := zz y hy
        rw [tb_div, dv_succ, dv_succ] at this
        rw [dv_succ, dv_succ]
        simp only [Bool.and_eq_false_iff, decide_eq_false_iff_not, Bool.not_eq_false', decide_eq_true_eq] at this
        omega
      rw [s1, o1, ← t4 od]
      exact hc'
    · rw [if_neg z]
      have ex : ∃ y, y < 32 ∧ (decide (a y / 2 ^ (p + 1) = a Y / 2 ^ (p + 1)) && !(a y).testBit p) = true := Classical.byContradiction fun h => z ((wd_eq0 _).mpr fun y hy => by
        cases e : (decide (a y / 2 ^ (p + 1) = a Y / 2 ^ (p + 1)) && !(a y).testBit p)
        · rfl
        · exact absurd ⟨y, hy, e⟩ h)
      obtain ⟨y, hy, hh⟩ := ex
      have ev := (nf_step (hY1 y hy) hh).1
      have s1 : wd (fun j => decide (a j / 2 ^ (p + 1) = a Y / 2 ^ (p + 1)) && !(a j).testBit p) = wd (fun y => decide (a y / 2 ^ p = a Y / 2 ^ p)) := wd_congr fun y hy => by
        rw [tb_div, dv_succ, dv_succ, Bool.eq_iff_iff]
        simp only [Bool.and_eq_true, decide_eq_true_eq, Bool.not_eq_true', decide_eq_false_iff_not]
        have := Nat.div_le_div_right (c := 2 ^ p) (hY1 y hy)
        omega
      rw [s1, ← t3 ev]
      exact hc'
