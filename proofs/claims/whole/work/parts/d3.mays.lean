/-! who may be next: the reference's rows; traces -/
section MAY
variable {κ : Nat → Int32} {H : Nat}
theorem r_hdOf {τ : qMem} (hκ : τ.1 2 = κ) {i f : Nat} (hi : i < 24) (hf : f < 3) : fX12_heardOf (zI i) (zI f) τ = some (zI (hdS κ i f)) := by
  unfold fX12_heardOf
  have e1 : (80 : Int32) + 3 * zI i + zI f = zI ((80 + 3 * i + f : Nat) : Int) := by rw [show (3 : Int32) = zI 3 from rfl, show (80 : Int32) = zI 80 from rfl, zI_mul, zI_add, zI_add]; rfl
  have k1 : (ck (zI ((80 + 3 * i + f : Nat) : Int)) 1112 = true) = True := zI_ckT (by omega) (by omega) (by omega)
  have z1 : (zI ((80 + 3 * i + f : Nat) : Int)).toNatClampNeg = 80 + 3 * i + f := by rw [zI_clamp (by omega) (by omega)]; omega
  simp only [e1, k1, z1, if_true]
  have := kI_z τ 2 (80 + 3 * (i : Int) + (f : Int))
  rw [hκ, show (80 + 3 * (i : Int) + (f : Int)).toNat = 80 + 3 * i + f by omega] at this
  exact congrArg some this
def mayF (τ t : qMem) : Prop := ∀ k j, k ≠ 10 → gi t k j = gi τ k j
/-- a row but for one -/
def rwX (κ : Nat → Int32) (H : Nat) (boat p q : Int) (i k : Nat) : Bool := rwB κ H boat i k && !decide ((i : Int) = p ∧ (k : Int) = q)
theorem r_mays {N : Nat} {τ : qMem} {boat p q : Int} (hN : 200000 ≤ N) (hκ : τ.1 2 = κ) (hw : KW κ) (hH : kI κ 300 = H) (hH24 : H ≤ 24) (b0 : 0 ≤ boat) (b1 : boat ≤ 1) (p0 : -1 ≤ p) (p1 : p ≤ 24) (q0 : -1 ≤ q) (q1 : q ≤ 24) : Ho (fX12_mays N (zI boat) (zI p) (zI q) τ) (fun t => (∀ i, i < 24 → gi t 10 i = wd (rwX κ H boat p q i)) ∧ mayF τ t) := by
  have kt := hw.2.1
  have g300 : ∀ t, mayF τ t → gi t 2 300 = zI H := fun t ft => by rw [ft _ _ (by omega), ← hH, ← hκ]; exact (zI_of _).symm
  unfold fX12_mays
  have hst := lp_for (S := qMem) (R := qMem) (fun m i t => fX12_mays_l3 N m (zI boat) (zI p) (zI q) (zI i) t) (fun i t => 0 ≤ i ∧ (∀ j : Nat, (j : Int) < i → gi t 10 j = wd (rwX κ H boat p q j)) ∧ mayF τ t) (fun t => (∀ i, i < 24 → gi t 10 i = wd (rwX κ H boat p q i)) ∧ mayF τ t) 24 ?_ ?_ N 0 τ (by omega) (by omega) ⟨by omega, fun j hj => by omega, fun _ _ _ => rfl⟩
  · exact hst
  · intro m t ⟨_, h1, h2⟩
    show Ho (fX12_mays_s3 N _ _ _ _ _ _) _
    unfold fX12_mays_s3
    rw [if_pos (by decide)]
    exact Ho_some ⟨fun i hi => h1 i (by omega), h2⟩
  · intro m i t hi ⟨i0, h1, h2⟩ hc
    obtain ⟨x, rfl⟩ : ∃ x : Nat, i = x := ⟨i.toNat, by omega⟩
    show Ho (fX12_mays_s3 N _ _ _ _ _ _) _
    unfold fX12_mays_s3
    have c24 : (24 ≤ zI (x : Int)) = False := by rw [show (24 : Int32) = zI 24 from rfl, zI_le (by omega) (by omega) (by omega) (by omega)]; exact eq_false (by omega)
    have kx : (ck (zI (x : Int)) 24 = true) = True := zI_ckT (by omega) (by omega) (by omega)
    have zx : (zI (x : Int)).toNatClampNeg = x := by rw [zI_clamp (by omega) (by omega)]; omega
    simp only [c24, if_false, kx, zx, if_true, nmM]
    have inner := lp_for (S := qMem) (R := qMem) (fun m' y s => fX12_mays_l21 N (fX12_mays_l3 N m) m' (zI boat) (zI p) (zI q) (zI (x : Int)) (zI y) s) (fun y s => 0 ≤ y ∧ (∀ j : Nat, j < x → gi s 10 j = wd (rwX κ H boat p q j)) ∧ gi s 10 x = wd (fun k => decide ((k : Int) < y) && rwX κ H boat p q x k) ∧ mayF τ s) (fun t => (∀ i, i < 24 → gi t 10 i = wd (rwX κ H boat p q i)) ∧ mayF τ t) H ?_ ?_ N 0 (si t 10 x 0) (by omega) (by omega) ⟨by omega, fun j hj => by rw [gi_si, if_neg (by omega)]; exact h1 j (by omega), by rw [gi_si, if_pos ⟨rfl, rfl⟩, ← wd_zero]; exact wd_congr (fun k _ => by rw [decide_eq_false (by omega), Bool.false_and]), fun k j hk => by rw [gi_si, if_neg (by omega)]; exact h2 k j hk⟩
    · exact inner
    · intro m' s ⟨_, s1, s2, s3⟩
      show Ho (fX12_mays_s21 N _ _ _ _ _ _ _ _) _
      unfold fX12_mays_s21
      have c1 : (zI (H : Int) ≤ zI (H : Int)) = True := by rw [zI_le (by omega) (by omega) (by omega) (by omega)]; exact eq_true (by omega)
      rw [if_pos (by decide), show (300 : Int32).toNatClampNeg = 300 from rfl, g300 s s3]
      simp only [c1, if_true]
      rw [show zI (x : Int) + 1 = zI ((x : Int) + 1) by rw [show (1 : Int32) = zI 1 from rfl, zI_add]]
      refine hc s ⟨by omega, fun j hj => ?_, s3⟩
      by_cases e : j = x
      · rw [e, s2]
        refine wd_congr (fun k _ => ?_)
        by_cases z : (k : Int) < H
        · rw [decide_eq_true z, Bool.true_and]
        · have : rwX κ H boat p q x k = false := by unfold rwX rwB; rw [decide_eq_false (show ¬ (x < H ∧ k < H ∧ hdS κ x 0 = boat) by omega)]; rfl
          rw [this, Bool.and_false]
      · exact s1 j (by omega)
    · intro m' y s hy ⟨y0, s1, s2, s3⟩ hc2
      obtain ⟨k, rfl⟩ : ∃ k : Nat, y = k := ⟨y.toNat, by omega⟩
      show Ho (fX12_mays_s21 N _ _ _ _ _ _ _ _) _
      unfold fX12_mays_s21 fX12_mays_b84 fX12_mays_b157
      have ks : s.1 2 = κ := by rw [← hκ]; exact funext fun j => s3 2 j (by omega)
      have rk := hd_rng hw hH (show k < H by omega)
      have c1 : (zI (H : Int) ≤ zI (k : Int)) = False := by rw [zI_le (by omega) (by omega) (by omega) (by omega)]; exact eq_false (by omega)
      have c2 : (zI (H : Int) ≤ zI (x : Int)) = (H ≤ x) := by rw [zI_le (by omega) (by omega) (by omega) (by omega)]; exact propext (by omega)
      have o3 : (ck (300 : Int32) 1112 = true) = True := by decide
      have z3 : (300 : Int32).toNatClampNeg = 300 := rfl
      have hx0 : fX12_heardOf (zI (x : Int)) 0 s = _ := r_hdOf ks (i := x) (f := 0) (by omega) (by omega)
      have hk0 : fX12_heardOf (zI (k : Int)) 0 s = _ := r_hdOf ks (i := k) (f := 0) (by omega) (by omega)
      have hx1 : fX12_heardOf (zI (x : Int)) 1 s = _ := r_hdOf ks (i := x) (f := 1) (by omega) (by omega)
      have hk1 : fX12_heardOf (zI (k : Int)) 1 s = _ := r_hdOf ks (i := k) (f := 1) (by omega) (by omega)
      have hx2 : fX12_heardOf (zI (x : Int)) 2 s = _ := r_hdOf ks (i := x) (f := 2) (by omega) (by omega)
      have hk2 : fX12_heardOf (zI (k : Int)) 2 s = _ := r_hdOf ks (i := k) (f := 2) (by omega) (by omega)
      have t4 : fX12_term 4 s = some (zI (kI κ 48)) := by have := r_term (τ := s) (t := 4) (by omega) (by omega); rw [ks] at this; exact this
      have t5 : fX12_term 5 s = some (zI (kI κ 49)) := by have := r_term (τ := s) (t := 5) (by omega) (by omega); rw [ks] at this; exact this
      have k4 := kt.2.2.2.2.1
      have k5 := kt.2.2.2.2.2.1
      have nx : zI (k : Int) + 1 = zI ((k : Int) + 1) := by rw [show (1 : Int32) = zI 1 from rfl, zI_add]
      -- a step without, a step with
      have no : rwX κ H boat p q x k = false → Ho (fX12_mays_l21 N (fX12_mays_l3 N m) m' (zI boat) (zI p) (zI q) (zI (x : Int)) (zI ((k : Int) + 1)) s) (fun t => (∀ i, i < 24 → gi t 10 i = wd (rwX κ H boat p q i)) ∧ mayF τ t) := fun hno => by
        refine hc2 s ⟨by omega, s1, ?_, s3⟩
        rw [s2]
        refine wd_congr (fun j _ => ?_)
        by_cases e : j = k
        · rw [e, hno, Bool.and_false, Bool.and_false]
        · congr 1
          exact decide_eq_decide.mpr (by omega)
      simp only [o3, z3, g300 s s3, c1, if_true, if_false, c2, nx]
      by_cases qx : H ≤ x
      · rw [if_pos qx]
        exact no (by unfold rwX rwB; rw [decide_eq_false (by omega)]; rfl)
      · rw [if_neg qx]
        have rx := hd_rng hw hH (show x < H by omega)
        have cb1 : (zI (hdS κ x 0) = zI boat) = (hdS κ x 0 = boat) := by rw [zI_eq (by omega) (by omega) (by omega) (by omega)]
        have cb2 : (zI (hdS κ k 0) = zI boat) = (hdS κ k 0 = boat) := by rw [zI_eq (by omega) (by omega) (by omega) (by omega)]
        have cp : (zI (x : Int) = zI p) = ((x : Int) = p) := by rw [zI_eq (by omega) (by omega) (by omega) (by omega)]
        have cq : (zI (k : Int) = zI q) = ((k : Int) = q) := by rw [zI_eq (by omega) (by omega) (by omega) (by omega)]
        have ex : zI (hdS κ k 1) - zI (hdS κ x 1) = zI (hdS κ k 1 - hdS κ x 1) := zI_sub _ _
        have tr := turn_rng rx.2.2.1 rx.2.2.2 rk.2.2.1 rk.2.2.2
        have rwk : rwX κ H boat p q x k = (decide (hdS κ x 0 = boat) && nxB κ boat x k && !decide ((x : Int) = p ∧ (k : Int) = q)) := by
          unfold rwX rwB
          congr 2
          exact decide_eq_decide.mpr ⟨fun z => z.2.2, fun z => ⟨by omega, by omega, z⟩⟩
        simp only [hx0, hk0, hx1, hk1, hx2, hk2, t4, t5, Option.bind_some, cb1, cb2, cp, cq, ex, r_turned (show -100000 ≤ hdS κ x 2 by omega) (show hdS κ x 2 ≤ 100000 by omega) (show -100000 ≤ hdS κ k 2 by omega) (show hdS κ k 2 ≤ 100000 by omega)]
        generalize hl : hdS κ k 1 - hdS κ x 1 = la at *
        have mr : -10000 ≤ kI κ 49 * la ∧ kI κ 49 * la ≤ 10000 := by
          have h1 : (kI κ 49 * la).natAbs ≤ 40 * 23 := by rw [Int.natAbs_mul]; exact Nat.mul_le_mul (by omega) (by omega)
          omega
        have nb : nxB κ boat x k = decide (hdS κ k 0 = boat ∧ (1 ≤ la ∧ la ≤ kI κ 48) ∧ turnS (hdS κ x 2) (hdS κ k 2) ≤ kI κ 49 * la) := by unfold nxB; rw [hl]
        have ein : fX12_in (zI la) 1 (zI (kI κ 48)) = some (bI (decide (1 ≤ la ∧ la ≤ kI κ 48))) := e_in (b := 1) (by omega) (by omega) (by omega) (by omega) (by omega) (by omega)
        have c6 : (zI (kI κ 49) * zI la < zI (turnS (hdS κ x 2) (hdS κ k 2))) = (kI κ 49 * la < turnS (hdS κ x 2) (hdS κ k 2)) := by rw [zI_mul, zI_lt (by omega) (by omega) (by omega) (by omega)]
        simp only [ein, Option.bind_some, if_bI, decide_eq_true_eq, c6, kx, zx, if_true, nmM]
        by_cases z1 : hdS κ x 0 = boat
        · rw [if_pos z1]
          by_cases z2 : hdS κ k 0 = boat
          · rw [if_pos z2]
            have body : ¬ ((x : Int) = p ∧ (k : Int) = q) → Ho (if 1 ≤ la ∧ la ≤ kI κ 48 then (if kI κ 49 * la < turnS (hdS κ x 2) (hdS κ k 2) then fX12_mays_l21 N (fX12_mays_l3 N m) m' (zI boat) (zI p) (zI q) (zI (x : Int)) (zI ((k : Int) + 1)) s else fX12_mays_l21 N (fX12_mays_l3 N m) m' (zI boat) (zI p) (zI q) (zI (x : Int)) (zI ((k : Int) + 1)) (si s 10 x (gi s 10 x ||| ((1 : Int32) <<< (zI (k : Int) &&& 31))))) else fX12_mays_l21 N (fX12_mays_l3 N m) m' (zI boat) (zI p) (zI q) (zI (x : Int)) (zI ((k : Int) + 1)) s) (fun t => (∀ i, i < 24 → gi t 10 i = wd (rwX κ H boat p q i)) ∧ mayF τ t) := fun hne => by
              by_cases z3 : 1 ≤ la ∧ la ≤ kI κ 48
              · rw [if_pos z3]
                by_cases z4 : kI κ 49 * la < turnS (hdS κ x 2) (hdS κ k 2)
                · rw [if_pos z4]
                  exact no (by rw [rwk, nb, decide_eq_false (p := hdS κ k 0 = boat ∧ _) (by omega), Bool.and_false, Bool.false_and])
                · rw [if_neg z4]
                  refine hc2 _ ⟨by omega, fun j hj => by rw [gi_si, if_neg (by omega)]; exact s1 j hj, ?_, fun a b hab => by rw [gi_si, if_neg (by omega)]; exact s3 a b hab⟩
                  rw [gi_si, if_pos ⟨rfl, rfl⟩, s2, wd_set (by omega)]
                  refine wd_congr (fun j _ => ?_)
                  by_cases e : j = k
                  · subst e
                    rw [decide_eq_true rfl, Bool.or_true, rwk, nb, decide_eq_true z1, decide_eq_true (p := hdS κ j 0 = boat ∧ _) ⟨z2, z3, by omega⟩, decide_eq_false hne, decide_eq_true (show (j : Int) < (j : Int) + 1 by omega)]
                    rfl
                  · rw [decide_eq_false e, Bool.or_false]
                    congr 1
                    exact decide_eq_decide.mpr (by omega)
              · rw [if_neg z3]
                exact no (by rw [rwk, nb, decide_eq_false (p := hdS κ k 0 = boat ∧ _) (fun z => z3 z.2.1), Bool.and_false, Bool.false_and])
            by_cases zp : (x : Int) = p
            · rw [if_pos zp]
              by_cases zq : (k : Int) = q
              · rw [if_pos zq]
                exact no (by rw [rwk, decide_eq_true (p := (x : Int) = p ∧ (k : Int) = q) ⟨zp, zq⟩, Bool.not_true, Bool.and_false])
              · rw [if_neg zq]; exact body (fun z => zq z.2)
            · rw [if_neg zp]; exact body (fun z => zp z.1)
          · rw [if_neg z2]
            exact no (by rw [rwk, nb, decide_eq_false (p := hdS κ k 0 = boat ∧ _) (fun z => z2 z.1), Bool.and_false, Bool.false_and])
        · rw [if_neg z1]
          exact no (by rw [rwk, decide_eq_false z1, Bool.false_and, Bool.false_and])
theorem rwX_none {boat : Int} {i k : Nat} : rwX κ H boat (-1) (-1) i k = rwB κ H boat i k := by
  unfold rwX
  rw [decide_eq_false (by omega), Bool.not_false, Bool.and_true]
end MAY
