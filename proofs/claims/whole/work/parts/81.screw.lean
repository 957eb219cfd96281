/-! screws and screw -/
def anyN (p : Nat → Bool) : Nat → Bool
  | 0 => false
  | n + 1 => anyN p n || p n
def allN (p : Nat → Bool) : Nat → Bool
  | 0 => true
  | n + 1 => allN p n && p n
theorem anyN_true {p : Nat → Bool} : ∀ n i, i < n → p i = true → anyN p n = true
  | 0, _, h, _ => by omega
  | n + 1, i, h, hp => by
    rw [anyN]
    by_cases q : i = n
    · rw [← q, hp, Bool.or_true]
    · rw [anyN_true n i (by omega) hp, Bool.true_or]
theorem allN_false {p : Nat → Bool} : ∀ n i, i < n → p i = false → allN p n = false
  | 0, _, h, _ => by omega
  | n + 1, i, h, hp => by
    rw [allN]
    by_cases q : i = n
    · rw [← q, hp, Bool.and_false]
    · rw [allN_false n i (by omega) hp, Bool.false_and]
def beatP (f s : Int) (k : Nat) : Bool := decide (szS (f - s * ((k : Int) + 1)) ≤ 1)
def beatB (f s : Int) : Bool := anyN (beatP f s) 21
def screwB (κ : Nat → Int32) (s w : Int) : Bool := (decide (0 < kI κ 304) && decide (szS (kI κ 220 - s * w) ≤ 1)) && allN (fun i => beatB (kI κ (220 + (i : Int) + 1)) s) (kI κ 304 - 1).toNat
theorem mul_b {s k : Int} (h1 : 1 ≤ s) (h2 : s ≤ 300) (h3 : 0 ≤ k) (h4 : k ≤ 30) : 0 ≤ s * k ∧ s * k ≤ 9000 :=
  ⟨Int.mul_nonneg (by omega) h3, Int.le_trans (Int.mul_le_mul h2 h4 h3 (by omega)) (by omega)⟩
theorem e_beatFits {N : Nat} {f s : Int} (hN : 200000 ≤ N) (f0 : 0 ≤ f) (f1 : f ≤ 3000) (s0 : 1 ≤ s) (s1 : s ≤ 300) : fX11_beatFits N (zI f) (zI s) = some (bI (beatB f s)) := by
  suffices h : Ho (fX11_beatFits N (zI f) (zI s)) (fun v => v = bI (beatB f s)) by
    obtain ⟨v, e, rfl⟩ := h
    exact e
  unfold fX11_beatFits
  have hst := lp_for (S := Unit) (R := Int32) (fun n i _ => fX11_beatFits_l2 N n (zI f) (zI s) (zI (i + 1))) (fun i _ => 0 ≤ i ∧ anyN (beatP f s) i.toNat = false) (fun v => v = bI (beatB f s)) 21 ?_ ?_ N 0 () (by omega) (by omega) ⟨by omega, rfl⟩
  · exact hst
  · intro n _ ⟨_, h1⟩
    show Ho (fX11_beatFits_s2 N _ _ _ _) _
    unfold fX11_beatFits_s2
    rw [if_pos (by decide)]
    exact Ho_some (by rw [show beatB f s = false from h1]; rfl)
  · intro n i _ hi ⟨i0, h1⟩ hc
    show Ho (fX11_beatFits_s2 N _ _ _ _) _
    unfold fX11_beatFits_s2
    have mb := mul_b (k := i + 1) s0 s1 (by omega) (by omega)
    have c : (21 < zI (i + 1)) = False := by rw [zl_21, zI_lt (by omega) (by omega) (by omega) (by omega)]; exact eq_false (by omega)
    have i1 : zI (i + 1) + 1 = zI (i + 1 + 1) := zI_add _ 1
    simp only [c, if_false, zI_mul, zI_sub, i1]
    rw [e_abs (by omega) (by omega), Option.bind_some]
    have c2 : (1 < zI (max (f - s * (i + 1)) (-(f - s * (i + 1))))) = (1 < szS (f - s * (i + 1))) := by
      rw [show (1 : Int32) = zI 1 from rfl, zI_lt (by omega) (by omega) (by omega) (by omega)]; rfl
    simp only [c2]
    have bp : beatP f s i.toNat = decide (szS (f - s * (i + 1)) ≤ 1) := by unfold beatP; rw [show ((i.toNat : Nat) : Int) = i by omega]
    by_cases q : 1 < szS (f - s * (i + 1))
    · rw [if_pos q]
      refine hc () ⟨by omega, ?_⟩
      rw [show (i + 1).toNat = i.toNat + 1 by omega, anyN, h1, bp, decide_eq_false (by omega)]; rfl
    · rw [if_neg q]
      refine Ho_some ?_
      rw [show beatB f s = true from anyN_true 21 i.toNat (by omega) (by rw [bp]; exact decide_eq_true (by omega))]; rfl
theorem e_screwFits {N : Nat} {σ : qMem} {κ : Nat → Int32} {s w : Int} (hN : 200000 ≤ N) (h : CI σ.1 κ) (s0 : 1 ≤ s) (s1 : s ≤ 300) (w0 : 3 ≤ w) (w1 : w ≤ 7) : fX11_screwFits N (zI s) (zI w) σ = some (bI (screwB κ s w)) := by
  suffices h : Ho (fX11_screwFits N (zI s) (zI w) σ) (fun v => v = bI (screwB κ s w)) by
    obtain ⟨v, e, rfl⟩ := h
    exact e
  obtain ⟨bs, bk, kw, _⟩ := h
  have kp := kw.2.2.2.2.2.2.2.2.1
  have kp1 : 0 ≤ kI κ 304 ∧ kI κ 304 ≤ 6 := kp.1
  have r31 := bk.2.2.2.2.2.2.2.2.2.2.1
  have s31 : gi σ 31 0 = zI 1 := bs.2.2.2.2.2.2.2.2.1.1
  have n31 : gi σ 31 3 = zI (kI κ 304) := r31.1.trans (zI_of _).symm
  have at' : ∀ i : Int, 0 ≤ i → i < kI κ 304 → fX8_at 31 6 (zI i) 0 σ = some (zI (kI κ (220 + i))) := by
    intro i i0 i1
    have e := e_at (k := 31) (n := 6) (w := 1) (col := 0) s31 n31 i0 i1 (by omega) (by omega) (by omega) (by omega) (by omega)
    refine e.trans ?_
    have := r31.2 (i * 1 + 0).toNat (by omega)
    refine congrArg some (this.trans ?_)
    unfold kI
    rw [show 220 + (i * 1 + 0).toNat = (220 + i).toNat by omega]
    exact (zI_of _).symm
  unfold fX11_screwFits screwB
  have c0 : (gi σ 31 3 = 0) = (kI κ 304 = 0) := by rw [n31, show (0 : Int32) = zI 0 from rfl, zI_eq (by omega) (by omega) (by omega) (by omega)]
  simp only [c0]
  by_cases q : kI κ 304 = 0
  · rw [if_pos q, decide_eq_false (show ¬ 0 < kI κ 304 by omega)]
    exact Ho_some rfl
  · rw [if_neg q, decide_eq_true (show 0 < kI κ 304 by omega), Bool.true_and]
    have kv := kp.2 0 (by omega) (by omega)
    rw [Int.add_zero] at kv
    have mb := mul_b (k := w) s0 s1 (by omega) (by omega)
    have a0 : fX8_at 31 6 0 0 σ = some (zI (kI κ 220)) := at' 0 (by omega) (by omega)
    rw [a0, Option.bind_some, zI_mul, zI_sub, e_abs (by omega) (by omega), Option.bind_some]
    have c2 : (zI (max (kI κ 220 - s * w) (-(kI κ 220 - s * w))) ≤ 1) = (szS (kI κ 220 - s * w) ≤ 1) := by
      rw [show (1 : Int32) = zI 1 from rfl, zI_le (by omega) (by omega) (by omega) (by omega)]; rfl
    simp only [c2]
    by_cases q2 : szS (kI κ 220 - s * w) ≤ 1
    · rw [if_pos q2, decide_eq_true q2, Bool.true_and]
      have hst := lp_for (S := Unit) (R := Int32) (fun n i _ => fX11_screwFits_l40 N σ n (zI s) (zI i)) (fun i _ => 1 ≤ i ∧ allN (fun i => beatB (kI κ (220 + (i : Int) + 1)) s) (i - 1).toNat = true) (fun v => v = bI (allN (fun i => beatB (kI κ (220 + (i : Int) + 1)) s) (kI κ 304 - 1).toNat)) (kI κ 304) ?_ ?_ N 1 () (by omega) (by omega) ⟨by omega, rfl⟩
      · exact hst
      · intro n _ ⟨_, h1⟩
        show Ho (fX11_screwFits_s40 N _ _ _ _) _
        unfold fX11_screwFits_s40
        have c : (gi σ 31 3 ≤ zI (kI κ 304)) = True := by rw [n31, zI_le (by omega) (by omega) (by omega) (by omega)]; exact eq_true (by omega)
        simp only [c, if_true]
        exact Ho_some (by rw [h1]; rfl)
      · intro n i _ hi ⟨i0, h1⟩ hc
        show Ho (fX11_screwFits_s40 N _ _ _ _) _
        unfold fX11_screwFits_s40
        have c : (gi σ 31 3 ≤ zI i) = False := by rw [n31, zI_le (by omega) (by omega) (by omega) (by omega)]; exact eq_false (by omega)
        have kv := kp.2 i (by omega) hi
        have i1 : zI i + 1 = zI (i + 1) := zI_add i 1
        simp only [c, if_false, at' i (by omega) hi, Option.bind_some, e_beatFits hN (show 0 ≤ kI κ (220 + i) by omega) kv.2 s0 s1, if_bI, i1]
        have be : beatB (kI κ (220 + (((i - 1).toNat : Nat) : Int) + 1)) s = beatB (kI κ (220 + i)) s := by rw [show 220 + (((i - 1).toNat : Nat) : Int) + 1 = 220 + i by omega]
        by_cases q3 : beatB (kI κ (220 + i)) s = true
        · rw [if_pos q3]
          refine hc () ⟨by omega, ?_⟩
          rw [show (i + 1 - 1).toNat = (i - 1).toNat + 1 by omega, allN, h1, be, q3]; rfl
        · rw [if_neg q3]
          rw [Bool.not_eq_true] at q3
          refine Ho_some ?_
          rw [allN_false _ (i - 1).toNat (by omega) (be.trans q3)]; rfl
    · rw [if_neg q2, decide_eq_false q2]
      exact Ho_some rfl
def scrP (κ : Nat → Int32) (i : Nat) : Bool := screwB κ (1 + (i : Int) / 5) (3 + (i : Int) % 5)
