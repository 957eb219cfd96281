/-! the tally of a sheaf -/
theorem tf_step (a b : Nat) : (decide (a / 2 < b / 2) || ((decide (a / 2 = b / 2) && !decide (a % 2 = 1)) && decide (b % 2 = 1))) = decide (a < b) ∧ (decide (a / 2 = b / 2) && !(decide (a % 2 = 1) ^^ decide (b % 2 = 1))) = decide (a = b) := by
  constructor
  · rw [Bool.eq_iff_iff]
    simp only [Bool.or_eq_true, Bool.and_eq_true, decide_eq_true_eq, Bool.not_eq_true', decide_eq_false_iff_not]
    omega
  · by_cases h1 : a % 2 = 1 <;> by_cases h2 : b % 2 = 1 <;> simp only [h1, h2, decide_true, decide_false] <;> rw [Bool.eq_iff_iff] <;> simp <;> omega
theorem tb_div (a p : Nat) : a.testBit p = decide (a / 2 ^ p % 2 = 1) := Nat.testBit_eq_decide_div_mod_eq
theorem dv_succ (a p : Nat) : a / 2 ^ (p + 1) = a / 2 ^ p / 2 := by rw [Nat.pow_succ, ← Nat.div_div_eq_div_mul]
theorem e_takeFewer {N v : Nat} {s : qMem} {a b : Nat → Nat} (hN : 200000 ≤ N) (hv : v < 7) (ha : ∀ y, y < 32 → a y < 64) (hb : ∀ y, y < 32 → b y < 64) (h70 : ∀ p, p < 6 → gi s 70 (6 * v + p) = wd (fun y => (a y).testBit p)) (h71 : ∀ p, p < 6 → gi s 71 (6 * v + p) = wd (fun y => (b y).testBit p)) :
    Ho (fX9_takeFewer N (zI ((6 * v : Nat) : Int)) s) (fun t => (∀ p, p < 6 → gi t 71 (6 * v + p) = wd (fun y => (min (a y) (b y)).testBit p)) ∧ ∀ k j, ¬ (k = 71 ∧ 6 * v ≤ j ∧ j < 6 * v + 6) → gi t k j = gi s k j) := by
  unfold fX9_takeFewer
  have st : zI ((6 * v : Nat) : Int) + 6 - 1 = zI ((6 * v : Nat) + 5 - 0) := by
    rw [show (6 : Int32) = zI 6 from rfl, show (1 : Int32) = zI 1 from rfl, zI_add, zI_sub]; congr 1; omega
  rw [st]
  have e0 : (0 : Int32) = wd (fun y => decide (a y / 2 ^ (6 - (0 : Int).toNat) < b y / 2 ^ (6 - (0 : Int).toNat))) := by
    rw [← wd_zero]
    refine wd_congr fun y hy => ?_
    have h1 := ha y hy
    have h2 := hb y hy
    exact (decide_eq_false (by show ¬ a y / 64 < b y / 64; omega)).symm
  have e1 : (-1 : Int32) = wd (fun y => decide (a y / 2 ^ (6 - (0 : Int).toNat) = b y / 2 ^ (6 - (0 : Int).toNat))) := by
    rw [← wd_m1]
    refine wd_congr fun y hy => ?_
    have h1 := ha y hy
    have h2 := hb y hy
    exact (decide_eq_true (by show a y / 64 = b y / 64; omega)).symm
  rw [e0, e1]
  have hst := lp_for (S := Unit) (R := qMem) (fun n i _ => fX9_takeFewer_l12 N n (zI ((6 * v : Nat) : Int)) (wd (fun y => decide (a y / 2 ^ (6 - i.toNat) < b y / 2 ^ (6 - i.toNat)))) (wd (fun y => decide (a y / 2 ^ (6 - i.toNat) = b y / 2 ^ (6 - i.toNat)))) (zI ((6 * v : Nat) + 5 - i)) s) (fun i _ => 0 ≤ i) (fun t => (∀ p, p < 6 → gi t 71 (6 * v + p) = wd (fun y => (min (a y) (b y)).testBit p)) ∧ ∀ k j, ¬ (k = 71 ∧ 6 * v ≤ j ∧ j < 6 * v + 6) → gi t k j = gi s k j) 6 ?_ ?_ N 0 () (by omega) (by omega) (by omega)
  · exact hst
  · intro n _ _
    show Ho (fX9_takeFewer_s12 N _ _ _ _ _ _) _
    unfold fX9_takeFewer_s12
    have c : (zI ((6 * v : Nat) + 5 - 6) < zI ((6 * v : Nat) : Int)) = True := by rw [zI_lt (by omega) (by omega) (by omega) (by omega)]; exact eq_true (by omega)
    simp only [c, if_true]
    have m0 : wd (fun y => decide (a y / 2 ^ (6 - (6 : Int).toNat) < b y / 2 ^ (6 - (6 : Int).toNat))) = wd (fun y => decide (a y < b y)) := wd_congr fun y _ => by
      rw [show (6 - (6 : Int).toNat) = 0 from rfl]; simp
    rw [m0]
    have hst := lp_for (S := qMem) (R := qMem) (fun n p t => fX9_takeFewer_l69 N n (zI ((6 * v : Nat) : Int)) (wd (fun y => decide (a y < b y))) (zI ((6 * v + p.toNat : Nat) : Int)) t) (fun p t => 0 ≤ p ∧ (∀ q : Nat, q < 6 → gi t 71 (6 * v + q) = if (q : Int) < p then wd (fun y => (min (a y) (b y)).testBit q) else wd (fun y => (b y).testBit q)) ∧ ∀ k j, ¬ (k = 71 ∧ 6 * v ≤ j ∧ j < 6 * v + 6) → gi t k j = gi s k j) (fun t => (∀ p, p < 6 → gi t 71 (6 * v + p) = wd (fun y => (min (a y) (b y)).testBit p)) ∧ ∀ k j, ¬ (k = 71 ∧ 6 * v ≤ j ∧ j < 6 * v + 6) → gi t k j = gi s k j) 6 ?_ ?_ N 0 s (by omega) (by omega) ⟨by omega, fun q hq => by rw [if_neg (by omega)]; exact h71 q hq, fun _ _ _ => rfl⟩
    · exact hst
    · intro n t ⟨_, g1, g2⟩
      show Ho (fX9_takeFewer_s69 N _ _ _ _ _) _
      unfold fX9_takeFewer_s69
      have cc : (zI ((6 * v : Nat) : Int) + 6 ≤ zI ((6 * v + (6 : Int).toNat : Nat) : Int)) = True := by
        rw [show (6 : Int32) = zI 6 from rfl, zI_add, zI_le (by omega) (by omega) (by omega) (by omega)]; exact eq_true (by omega)
      simp only [cc, if_true]
      exact Ho_some ⟨fun p hp => by rw [g1 p hp, if_pos (by omega)], g2⟩
    · intro n p t hp ⟨p0, g1, g2⟩ hc
      show Ho (fX9_takeFewer_s69 N _ _ _ _ _) _
      unfold fX9_takeFewer_s69
      have cc : (zI ((6 * v : Nat) : Int) + 6 ≤ zI ((6 * v + p.toNat : Nat) : Int)) = False := by
        rw [show (6 : Int32) = zI 6 from rfl, zI_add, zI_le (by omega) (by omega) (by omega) (by omega)]; exact eq_false (by omega)
      have ck8 : (ck (zI ((6 * v + p.toNat : Nat) : Int)) 42 = true) = True := zI_ckT (by omega) (by omega) (by omega)
      have z8 : (zI ((6 * v + p.toNat : Nat) : Int)).toNatClampNeg = 6 * v + p.toNat := by rw [zI_clamp (by omega) (by omega)]; rfl
      have p1 : zI ((6 * v + p.toNat : Nat) : Int) + 1 = zI ((6 * v + (p + 1).toNat : Nat) : Int) := by
        rw [show (1 : Int32) = zI 1 from rfl, zI_add]; congr 1; omega
      have ga : gi t 70 (6 * v + p.toNat) = _ := (g2 70 _ (by omega)).trans (h70 p.toNat (by omega))
      have gb := g1 p.toNat (by omega)
      rw [if_neg (by omega)] at gb
      simp only [cc, if_false, ck8, if_true, z8, p1, nmM, ga, gb]
      rw [wd_not, wd_and, wd_and, wd_or]
      have e2 : wd (fun j => ((a j).testBit p.toNat && decide (a j < b j)) || ((b j).testBit p.toNat && !decide (a j < b j))) = wd (fun y => (min (a y) (b y)).testBit p.toNat) := wd_congr fun y _ => by
        by_cases q : a y < b y
        · rw [decide_eq_true q, show min (a y) (b y) = a y by omega]; simp
        · rw [decide_eq_false q, show min (a y) (b y) = b y by omega]; simp
      rw [e2]
      refine hc _ ⟨by omega, fun r hr => ?_, fun k j hk => ?_⟩
      · rw [gi_si]
        by_cases w : r = p.toNat
        · rw [if_pos ⟨rfl, by omega⟩, if_pos (by omega), w]
        · rw [if_neg (by omega), g1 r hr]
          by_cases w2 : (r : Int) < p
          · rw [if_pos w2, if_pos (by omega)]
          · rw [if_neg w2, if_neg (by omega)]
      · rw [gi_si, if_neg (by omega)]
        exact g2 k j hk
  · intro n i _ hi i0 hc
    show Ho (fX9_takeFewer_s12 N _ _ _ _ _ _) _
    unfold fX9_takeFewer_s12
    have c : (zI ((6 * v : Nat) + 5 - i) < zI ((6 * v : Nat) : Int)) = False := by rw [zI_lt (by omega) (by omega) (by omega) (by omega)]; exact eq_false (by omega)
    have ck8 : (ck (zI ((6 * v : Nat) + 5 - i)) 42 = true) = True := zI_ckT (by omega) (by omega) (by omega)
    have z8 : (zI ((6 * v : Nat) + 5 - i)).toNatClampNeg = 6 * v + (5 - i.toNat) := by rw [zI_clamp (by omega) (by omega)]; omega
    have p1 : zI ((6 * v : Nat) + 5 - i) + (-1) = zI ((6 * v : Nat) + 5 - (i + 1)) := by
      rw [show (-1 : Int32) = zI (-1) from rfl, zI_add]; congr 1; omega
    simp only [c, if_false, ck8, if_true, z8, p1, nmI, h70 (5 - i.toNat) (by omega), h71 (5 - i.toNat) (by omega)]
    rw [wd_not, wd_and, wd_and, wd_or, wd_xor, wd_not, wd_and]
    have f1 : wd (fun j => decide (a j / 2 ^ (6 - i.toNat) < b j / 2 ^ (6 - i.toNat)) || ((decide (a j / 2 ^ (6 - i.toNat) = b j / 2 ^ (6 - i.toNat)) && !(a j).testBit (5 - i.toNat)) && (b j).testBit (5 - i.toNat))) = wd (fun y => decide (a y / 2 ^ (6 - (i + 1).toNat) < b y / 2 ^ (6 - (i + 1).toNat))) := wd_congr fun y _ => by
      rw [show 6 - i.toNat = (5 - i.toNat) + 1 by omega, show 6 - (i + 1).toNat = 5 - i.toNat by omega, dv_succ, dv_succ, tb_div, tb_div]
      exact (tf_step _ _).1
    have f2 : wd (fun j => decide (a j / 2 ^ (6 - i.toNat) = b j / 2 ^ (6 - i.toNat)) && !((a j).testBit (5 - i.toNat) ^^ (b j).testBit (5 - i.toNat))) = wd (fun y => decide (a y / 2 ^ (6 - (i + 1).toNat) = b y / 2 ^ (6 - (i + 1).toNat))) := wd_congr fun y _ => by
      rw [show 6 - i.toNat = (5 - i.toNat) + 1 by omega, show 6 - (i + 1).toNat = 5 - i.toNat by omega, dv_succ, dv_succ, tb_div, tb_div]
      exact (tf_step _ _).2
    rw [f1, f2]
    exact hc () (by omega)
