/-! pairings: two ways to count -/
def gdc (n : Nat) (C : Nat → Nat → Bool) : Nat → Nat → (Nat → Bool) → Nat → Bool
  | 0, _, _, _ => true
  | r + 1, i, T, c => (C i (c % n) && !T (c % n)) && gdc n C r (i + 1) (upB T (c % n) true) (c / n)
def wyN (n : Nat) (C : Nat → Nat → Bool) : Nat → Nat → (Nat → Bool) → Nat
  | 0, _, _ => 1
  | r + 1, i, T => fb_sm (fun d => if (C i d && !T d) = true then wyN n C r (i + 1) (upB T d true) else 0) n
theorem w_ctsm (p : Nat → Bool) : ∀ n, fb_ct p n = fb_sm (fun k => if p k then 1 else 0) n := by
  intro n
  induction n with
  | zero => rfl
  | succ n ih => rw [fb_ct_succ, fb_sm_succ, ih]
theorem ct_grid {n : Nat} (p : Nat → Bool) : ∀ X, fb_ct p (n * X) = fb_sm (fun d => fb_ct (fun c => p (d + n * c)) X) n := by
  intro X
  induction X with
  | zero =>
    rw [Nat.mul_zero]
    have : fb_sm (fun d => fb_ct (fun c => p (d + n * c)) 0) n = fb_sm (fun _ => 0) n := fb_sm_cong (fun k _ => rfl)
    rw [this, fb_sm_const, Nat.mul_zero]
    rfl
  | succ X ih =>
    rw [Nat.mul_succ, fb_ct_split, ih, w_ctsm (fun k => p (n * X + k)) n, ← fb_sm_add]
    refine fb_sm_cong (fun k _ => ?_)
    rw [fb_ct_succ, Nat.add_comm (n * X) k]
theorem gd_wy {n : Nat} {C : Nat → Nat → Bool} (hn : 0 < n) : ∀ (r i : Nat) (T : Nat → Bool), fb_ct (gdc n C r i T) (n ^ r) = wyN n C r i T := by
  intro r
  induction r with
  | zero => intro i T; rfl
  | succ r ih =>
    intro i T
    rw [Nat.pow_succ, Nat.mul_comm, ct_grid]
    show _ = fb_sm (fun d => if (C i d && !T d) = true then wyN n C r (i + 1) (upB T d true) else 0) n
    refine fb_sm_cong (fun d hd => ?_)
    have e : ∀ c, gdc n C (r + 1) i T (d + n * c) = ((C i d && !T d) && gdc n C r (i + 1) (upB T d true) c) := fun c => by
      show ((C i ((d + n * c) % n) && !T ((d + n * c) % n)) && gdc n C r (i + 1) (upB T ((d + n * c) % n) true) ((d + n * c) / n)) = _
      rw [Nat.add_mul_mod_self_left, Nat.mod_eq_of_lt hd, Nat.add_mul_div_left _ _ hn, Nat.div_eq_of_lt hd, Nat.zero_add]
    rw [fb_ct_cong (q := fun c => (C i d && !T d) && gdc n C r (i + 1) (upB T d true) c) (fun c _ => e c)]
    by_cases q : (C i d && !T d) = true
    · rw [if_pos q, ← ih]
      exact fb_ct_cong (fun c _ => by rw [q, Bool.true_and])
    · rw [if_neg q]
      refine fb_ct_zero.mpr (fun c _ => ?_)
      rw [show (C i d && !T d) = false by cases z : (C i d && !T d) with
        | true => exact absurd z q
        | false => rfl]
      rfl
def dgt (n c j : Nat) : Nat := c / n ^ j % n
theorem dgt_0 (n c : Nat) : dgt n c 0 = c % n := by unfold dgt; rw [Nat.pow_zero, Nat.div_one]
theorem dgt_s (n c j : Nat) : dgt n c (j + 1) = dgt n (c / n) j := by
  unfold dgt
  rw [Nat.pow_succ, Nat.mul_comm, Nat.div_div_eq_div_mul]
theorem gd_keep {n S K : Nat} {C C' : Nat → Nat → Bool} (h : ∀ i k, C' i k = (C i k && (!decide (i = S) || decide (k = K)))) : ∀ (r i : Nat) (T : Nat → Bool) (c : Nat), gdc n C' r i T c = (gdc n C r i T c && (!decide (i ≤ S ∧ S < i + r) || decide (dgt n c (S - i) = K))) := by
  intro r
  induction r with
  | zero =>
    intro i T c
    rw [decide_eq_false (show ¬ (i ≤ S ∧ S < i + 0) by omega)]
    rfl
  | succ r ih =>
    intro i T c
    show ((C' i (c % n) && !T (c % n)) && gdc n C' r (i + 1) (upB T (c % n) true) (c / n)) = (((C i (c % n) && !T (c % n)) && gdc n C r (i + 1) (upB T (c % n) true) (c / n)) && _)
    rw [ih, h]
    by_cases q : i = S
    · subst q
      rw [decide_eq_true rfl, decide_eq_false (show ¬ (i + 1 ≤ i ∧ i < i + 1 + r) by omega), decide_eq_true (show i ≤ i ∧ i < i + (r + 1) by omega), Nat.sub_self, dgt_0]
      cases C i (c % n) <;> cases T (c % n) <;> cases decide (c % n = K) <;> cases gdc n C r (i + 1) (upB T (c % n) true) (c / n) <;> rfl
    · have e : decide (i + 1 ≤ S ∧ S < i + 1 + r) = decide (i ≤ S ∧ S < i + (r + 1)) := by
        by_cases z : i + 1 ≤ S ∧ S < i + 1 + r
        · rw [decide_eq_true z, decide_eq_true (by omega)]
        · rw [decide_eq_false z, decide_eq_false (by omega)]
      rw [decide_eq_false q, e]
      by_cases z : i ≤ S ∧ S < i + (r + 1)
      · have : dgt n (c / n) (S - (i + 1)) = dgt n c (S - i) := by rw [← dgt_s]; congr 1; omega
        rw [this]
        cases C i (c % n) <;> cases T (c % n) <;> cases gdc n C r (i + 1) (upB T (c % n) true) (c / n) <;> cases decide (i ≤ S ∧ S < i + (r + 1)) <;> cases decide (dgt n c (S - i) = K) <;> rfl
      · rw [decide_eq_false z]
        cases C i (c % n) <;> cases T (c % n) <;> cases gdc n C r (i + 1) (upB T (c % n) true) (c / n) <;> rfl
/-- the class's count -/
theorem e_ways {N n : Nat} {σ : qMem} {C : Nat → Nat → Bool} (hN : 200000 ≤ N) (hn : n ≤ 6) (hC : ∀ i k, i < n → k < n → bt (gi σ 67 i) k = C i k) : ∀ (r D i : Nat) (T : Nat → Bool) (u : Int32), i + r = n → r < D → (∀ k, k < n → bt u k = T k) → fX3_ways N D (zI i) u (zI n) σ = some (zI (wyN n C r i T : Nat)) := by
  intro r
  induction r with
  | zero =>
    intro D i T u hi hD hu
    obtain ⟨D, rfl⟩ : ∃ x, D = x + 1 := ⟨D - 1, by omega⟩
    show fX3_ways_e N _ (zI i) u (zI n) σ = _
    unfold fX3_ways_e
    have c1 : (zI (n : Int) ≤ zI (i : Int)) = True := by rw [zI_le (by omega) (by omega) (by omega) (by omega)]; exact eq_true (by omega)
    simp only [c1, if_true]
    rfl
  | succ r ih =>
    intro D i T u hi hD hu
    obtain ⟨D, rfl⟩ : ∃ x, D = x + 1 := ⟨D - 1, by omega⟩
    show fX3_ways_e N _ (zI i) u (zI n) σ = _
    unfold fX3_ways_e
    have c1 : (zI (n : Int) ≤ zI (i : Int)) = False := by rw [zI_le (by omega) (by omega) (by omega) (by omega)]; exact eq_false (by omega)
    have c2 : (zI (i : Int) < 6) = True := by rw [show (6 : Int32) = zI 6 from rfl, zI_lt (by omega) (by omega) (by omega) (by omega)]; exact eq_true (by omega)
    simp only [c1, c2, if_true, if_false]
    have ki : (ck (zI (i : Int)) 6 = true) = True := zI_ckT (by omega) (by omega) (by omega)
    have zi : (zI (i : Int)).toNatClampNeg = i := by rw [zI_clamp (by omega) (by omega)]; omega
    have loop : ∀ (d k f : Nat), k + d = n → d < f → fX3_ways_l19 N (fX3_ways N D) σ f (zI i) u (zI n) (zI (fb_sm (fun d => if (C i d && !T d) = true then wyN n C r (i + 1) (upB T d true) else 0) k : Nat)) (zI k) = some (zI (wyN n C (r + 1) i T : Nat)) := by
      intro d
      induction d with
      | zero =>
        intro k f hk hf
        obtain ⟨f, rfl⟩ : ∃ x, f = x + 1 := ⟨f - 1, by omega⟩
        have : k = n := by omega
        subst this
        show fX3_ways_s19 N _ _ (zI i) u (zI (k : Int)) _ (zI (k : Int)) σ = _
        unfold fX3_ways_s19
        have c1 : (zI (k : Int) ≤ zI (k : Int)) = True := by rw [zI_le (by omega) (by omega) (by omega) (by omega)]; exact eq_true (by omega)
        simp only [c1, if_true]
        rfl
      | succ d ihd =>
        intro k f hk hf
        obtain ⟨f, rfl⟩ : ∃ x, f = x + 1 := ⟨f - 1, by omega⟩
        show fX3_ways_s19 N _ _ (zI i) u (zI (n : Int)) _ (zI (k : Int)) σ = _
        unfold fX3_ways_s19 fX3_ways_b62
        have c1 : (zI (n : Int) ≤ zI (k : Int)) = False := by rw [zI_le (by omega) (by omega) (by omega) (by omega)]; exact eq_false (by omega)
        have tC : (((gi σ 67 i) &&& (u ^^^ (-1))) &&& ((1 : Int32) <<< (zI k &&& 31)) = 0) = ((C i k && !T k) = false) := by
          rw [t_and1 (by omega), bt_nand (by omega), hC i k (by omega) (by omega), hu k (by omega)]
        have e1 : fX3_ways N D (zI i + 1) (u ||| ((1 : Int32) <<< (zI k &&& 31))) (zI n) σ = some (zI (wyN n C r (i + 1) (upB T k true) : Nat)) := by
          rw [show zI (i : Int) + 1 = zI ((i + 1 : Nat) : Int) by rw [show (1 : Int32) = zI 1 from rfl, zI_add]; rfl]
          exact ih D (i + 1) (upB T k true) _ (by omega) (by omega) (fun x hx => by
            rw [bt_or1 (by omega) (by omega), hu x hx]
            unfold upB
            by_cases z : x = k
            · rw [if_pos z, decide_eq_true z, Bool.or_true]
            · rw [if_neg z, decide_eq_false z, Bool.or_false])
        have sm : fb_sm (fun d => if (C i d && !T d) = true then wyN n C r (i + 1) (upB T d true) else 0) (k + 1) = fb_sm (fun d => if (C i d && !T d) = true then wyN n C r (i + 1) (upB T d true) else 0) k + (if (C i k && !T k) = true then wyN n C r (i + 1) (upB T k true) else 0) := rfl
        have nx := ihd (k + 1) f (by omega) (by omega)
        rw [sm] at nx
        simp only [c1, if_false, ki, zi, if_true, tC, e1, Option.bind_some, zI_add]
        rw [show zI (k : Int) + 1 = zI ((k + 1 : Nat) : Int) by rw [show (1 : Int32) = zI 1 from rfl, zI_add]; rfl, ← nx]
        cases q : (C i k && !T k) with
        | false => rw [if_pos rfl, if_neg (by decide)]; rfl
        | true => rw [if_neg (by decide), if_pos rfl]; rfl
    exact loop n 0 N (by omega) (by omega)
