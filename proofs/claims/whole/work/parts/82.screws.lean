/-! screws and screw of the reference -/
theorem r_isScrew {N : Nat} {τ : qMem} {κ : Nat → Int32} {s w : Int} (hN : 200000 ≤ N) (hκ : τ.1 2 = κ) (kw : KW κ) (s0 : 1 ≤ s) (s1 : s ≤ 300) (w0 : 3 ≤ w) (w1 : w ≤ 7) : fX12_isScrew N (zI s) (zI w) τ = some (bI (screwB κ s w)) := by
  suffices h : Ho (fX12_isScrew N (zI s) (zI w) τ) (fun v => v = bI (screwB κ s w)) by
    obtain ⟨v, e, rfl⟩ := h
    exact e
  have kp := kw.2.2.2.2.2.2.2.2.1
  have kp1 : 0 ≤ kI κ 304 ∧ kI κ 304 ≤ 6 := kp.1
  have g : ∀ i : Int, gi τ 2 i.toNat = zI (kI κ i) := fun i => by rw [← hκ]; exact (zI_of _).symm
  have g304 : gi τ 2 304 = zI (kI κ 304) := g 304
  have g220 : gi τ 2 220 = zI (kI κ 220) := g 220
  have k1 : (ck (304 : Int32) 1112 = true) = True := by decide
  have k2 : (ck (220 : Int32) 1112 = true) = True := by decide
  have z1 : (304 : Int32).toNatClampNeg = 304 := rfl
  have z2 : (220 : Int32).toNatClampNeg = 220 := rfl
  unfold fX12_isScrew screwB
  have c0 : (zI (kI κ 304) = 0) = (kI κ 304 = 0) := by rw [show (0 : Int32) = zI 0 from rfl, zI_eq (by omega) (by omega) (by omega) (by omega)]
  simp only [k1, k2, z1, z2, if_true, g304, g220, c0]
  by_cases q : kI κ 304 = 0
  · rw [if_pos q, decide_eq_false (show ¬ 0 < kI κ 304 by omega)]
    exact Ho_some rfl
  · rw [if_neg q, decide_eq_true (show 0 < kI κ 304 by omega), Bool.true_and]
    have kv := kp.2 0 (by omega) (by omega)
    rw [Int.add_zero] at kv
    have mb := mul_b (k := w) s0 s1 (by omega) (by omega)
    rw [zI_mul, zI_sub, r_size (by omega) (by omega), Option.bind_some]
    have c2 : (zI (max (kI κ 220 - s * w) (-(kI κ 220 - s * w))) ≤ 1) = (szS (kI κ 220 - s * w) ≤ 1) := by
      rw [show (1 : Int32) = zI 1 from rfl, zI_le (by omega) (by omega) (by omega) (by omega)]; rfl
    simp only [c2]
    by_cases q2 : szS (kI κ 220 - s * w) ≤ 1
    · rw [if_pos q2, decide_eq_true q2, Bool.true_and]
      have hst := lp_for (S := Unit) (R := Int32) (fun n i _ => fX12_isScrew_l34 N τ n (zI s) (zI i)) (fun i _ => 1 ≤ i ∧ allN (fun i => beatB (kI κ (220 + (i : Int) + 1)) s) (i - 1).toNat = true) (fun v => v = bI (allN (fun i => beatB (kI κ (220 + (i : Int) + 1)) s) (kI κ 304 - 1).toNat)) (kI κ 304) ?_ ?_ N 1 () (by omega) (by omega) ⟨by omega, rfl⟩
      · exact hst
      · intro n _ ⟨_, h1⟩
        show Ho (fX12_isScrew_s34 N _ _ _ _) _
        unfold fX12_isScrew_s34
        have c : (zI (kI κ 304) ≤ zI (kI κ 304)) = True := by rw [zI_le (by omega) (by omega) (by omega) (by omega)]; exact eq_true (by omega)
        simp only [k1, z1, g304, c, if_true]
        exact Ho_some (by rw [h1]; rfl)
      · intro n i _ hi ⟨i0, h1⟩ hc
        show Ho (fX12_isScrew_s34 N _ _ _ _) _
        unfold fX12_isScrew_s34
        have c : (zI (kI κ 304) ≤ zI i) = False := by rw [zI_le (by omega) (by omega) (by omega) (by omega)]; exact eq_false (by omega)
        have kv := kp.2 i (by omega) hi
        have i1 : zI i + 1 = zI (i + 1) := zI_add i 1
        simp only [k1, z1, g304, c, if_true, if_false]
        have be : beatB (kI κ (220 + (((i - 1).toNat : Nat) : Int) + 1)) s = beatB (kI κ (220 + i)) s := by rw [show 220 + (((i - 1).toNat : Nat) : Int) + 1 = 220 + i by omega]
        have ad : 220 + zI i = zI (220 + i) := zI_add 220 i
        have ck8 : (ck (zI (220 + i)) 1112 = true) = True := zI_ckT (by omega) (by omega) (by omega)
        have z8 : (zI (220 + i)).toNatClampNeg = (220 + i).toNat := zI_clamp (by omega) (by omega)
        have hst := lp_for (S := Unit) (R := Int32) (fun m k _ => fX12_isScrew_l52 N (fX12_isScrew_l34 N τ n) τ m (zI s) (zI i) (bI (anyN (beatP (kI κ (220 + i)) s) k.toNat)) (zI (k + 1))) (fun k _ => 0 ≤ k) (fun v => v = bI (allN (fun i => beatB (kI κ (220 + (i : Int) + 1)) s) (kI κ 304 - 1).toNat)) 21 ?_ ?_ N 0 () (by omega) (by omega) (by omega)
        · exact hst
        · intro m _ _
          show Ho (fX12_isScrew_s52 N _ _ _ _ _ _ _) _
          unfold fX12_isScrew_s52
          rw [if_pos (by decide), if_bI, i1]
          show Ho (if beatB (kI κ (220 + i)) s = true then _ else _) _
          by_cases q3 : beatB (kI κ (220 + i)) s = true
          · rw [if_pos q3]
            refine hc () ⟨by omega, ?_⟩
            rw [show (i + 1 - 1).toNat = (i - 1).toNat + 1 by omega, allN, h1, be, q3]; rfl
          · rw [if_neg q3]
            rw [Bool.not_eq_true] at q3
            refine Ho_some ?_
            rw [allN_false _ (i - 1).toNat (by omega) (be.trans q3)]; rfl
        · intro m k _ hk k0 hc2
          show Ho (fX12_isScrew_s52 N _ _ _ _ _ _ _) _
          unfold fX12_isScrew_s52 fX12_isScrew_b86 fX12_isScrew_b91
          have mb2 := mul_b (k := k + 1) s0 s1 (by omega) (by omega)
          have c21 : (21 < zI (k + 1)) = False := by rw [zl_21, zI_lt (by omega) (by omega) (by omega) (by omega)]; exact eq_false (by omega)
          have k1' : zI (k + 1) + 1 = zI (k + 1 + 1) := zI_add _ 1
          simp only [c21, if_false, if_bI, ad, ck8, if_true, z8, g, zI_mul, zI_sub, k1']
          rw [r_size (by omega) (by omega), Option.bind_some]
          have c3 : (1 < zI (max (kI κ (220 + i) - s * (k + 1)) (-(kI κ (220 + i) - s * (k + 1))))) = (1 < szS (kI κ (220 + i) - s * (k + 1))) := by
            rw [show (1 : Int32) = zI 1 from rfl, zI_lt (by omega) (by omega) (by omega) (by omega)]; rfl
          simp only [c3]
          have bp : beatP (kI κ (220 + i)) s k.toNat = decide (szS (kI κ (220 + i) - s * (k + 1)) ≤ 1) := by unfold beatP; rw [show ((k.toNat : Nat) : Int) = k by omega]
          have nx := hc2 () (by omega)
          rw [show (k + 1).toNat = k.toNat + 1 by omega, anyN, bp] at nx
          cases a : anyN (beatP (kI κ (220 + i)) s) k.toNat
          · rw [a, Bool.false_or] at nx
            rw [if_neg (by decide)]
            by_cases q4 : 1 < szS (kI κ (220 + i) - s * (k + 1))
            · rw [if_pos q4]
              rw [decide_eq_false (by omega)] at nx
              exact nx
            · rw [if_neg q4]
              rw [decide_eq_true (by omega)] at nx
              exact nx
          · rw [a, Bool.true_or] at nx
            rw [if_pos rfl]
            exact nx
    · rw [if_neg q2, decide_eq_false q2]
      exact Ho_some rfl
