/-! the tape: a number fed, by the class -/
theorem e_feedNumber {N : Nat} {σ : qMem} {v : Int32} {p : Int} (hN : 200000 ≤ N) (hp : gi σ 0 10 = zI p) (p0 : 0 ≤ p) (p1 : p ≤ 396) :
    Ho (fX11_feedNumber N v σ) (fun t => gi t 0 10 = zI (p + 4) ∧ (∀ i : Nat, i < 4 → gi t 86 (p.toNat + i) = ushr v (zI (24 - 8 * (i : Int))) &&& 255) ∧ (∀ j, j < p.toNat → gi t 86 j = gi σ 86 j) ∧ ∀ k j, ¬ ((k = 0 ∧ j = 10) ∨ k = 86) → gi t k j = gi σ k j) := by
  unfold fX11_feedNumber
  have hst := lp_for (S := qMem) (R := qMem) (fun n i s => fX11_feedNumber_l3 N n v (zI (24 - 8 * i)) s) (fun i s => 0 ≤ i ∧ gi s 0 10 = zI (p + i) ∧ (∀ q : Nat, (q : Int) < i → gi s 86 (p.toNat + q) = ushr v (zI (24 - 8 * (q : Int))) &&& 255) ∧ (∀ j, j < p.toNat → gi s 86 j = gi σ 86 j) ∧ ∀ k j, ¬ ((k = 0 ∧ j = 10) ∨ k = 86) → gi s k j = gi σ k j) (fun t => gi t 0 10 = zI (p + 4) ∧ (∀ i : Nat, i < 4 → gi t 86 (p.toNat + i) = ushr v (zI (24 - 8 * (i : Int))) &&& 255) ∧ (∀ j, j < p.toNat → gi t 86 j = gi σ 86 j) ∧ ∀ k j, ¬ ((k = 0 ∧ j = 10) ∨ k = 86) → gi t k j = gi σ k j) 4 ?_ ?_ N 0 σ (by omega) (by omega) ⟨by omega, by rw [Int.add_zero]; exact hp, fun q hq => by omega, fun _ _ => rfl, fun _ _ _ => rfl⟩
  · exact hst
  · intro n s ⟨_, h1, h2, h3, h4⟩
    show Ho (fX11_feedNumber_s3 N _ _ _ _) _
    unfold fX11_feedNumber_s3
    rw [if_pos (by decide)]
    exact Ho_some ⟨h1, fun i hi => h2 i (by omega), h3, h4⟩
  · intro n i s hi ⟨i0, h1, h2, h3, h4⟩ hc
    show Ho (fX11_feedNumber_s3 N _ _ _ _) _
    unfold fX11_feedNumber_s3
    have c : (zI (24 - 8 * i) < 0) = False := by rw [show (0 : Int32) = zI 0 from rfl, zI_lt (by omega) (by omega) (by omega) (by omega)]; exact eq_false (by omega)
    have c2 : (400 ≤ zI (p + i)) = False := by rw [zl_400, zI_le (by omega) (by omega) (by omega) (by omega)]; exact eq_false (by omega)
    have cc : (ck (zI (p + i)) 400 = true) = True := zI_ckT (by omega) (by omega) (by omega)
    have z : (zI (p + i)).toNatClampNeg = (p + i).toNat := zI_clamp (by omega) (by omega)
    have nx : zI (24 - 8 * i) + (-8) = zI (24 - 8 * (i + 1)) := by rw [show (-8 : Int32) = zI (-8) from rfl, zI_add]; congr 1; omega
    simp only [c, if_false, h1, c2, cc, if_true, z, nmM, nx]
    have g10 : gi (si s 86 (p + i).toNat (ushr v (zI (24 - 8 * i)) &&& 255)) 0 10 = zI (p + i) := by rw [gi_si, if_neg (by omega)]; exact h1
    rw [g10, show zI (p + i) + 1 = zI (p + (i + 1)) by rw [show (1 : Int32) = zI 1 from rfl, zI_add]; congr 1; omega]
    refine hc _ ⟨by omega, by rw [gi_si, if_pos ⟨rfl, rfl⟩], fun q hq => ?_, fun j hj => ?_, fun k j hk => ?_⟩
    · rw [gi_si, if_neg (by omega), gi_si]
      by_cases e : (q : Int) = i
      · rw [if_pos ⟨rfl, by omega⟩, e]
      · rw [if_neg (by omega)]; exact h2 q (by omega)
    · rw [gi_si, if_neg (by omega), gi_si, if_neg (by omega)]; exact h3 j hj
    · rw [gi_si, if_neg (by omega), gi_si, if_neg (by omega)]; exact h4 k j hk
