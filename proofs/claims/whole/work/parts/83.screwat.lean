/-! screws and screw, both sides -/
theorem e_screws {N : Nat} {σ : qMem} {κ : Nat → Int32} (hN : 200000 ≤ N) (h : CI σ.1 κ) : fX11_screws N σ = some (zI (fb_ct (scrP κ) 1500)) := by
  suffices h : Ho (fX11_screws N σ) (fun v => v = zI (fb_ct (scrP κ) 1500)) by
    obtain ⟨v, e, rfl⟩ := h
    exact e
  unfold fX11_screws
  have hst := lp_for (S := Unit) (R := Int32) (fun n i _ => fX11_screws_l4 N σ n (zI ((fb_ct (scrP κ) i.toNat : Nat) : Int)) (zI i)) (fun i _ => 0 ≤ i) (fun v => v = zI (fb_ct (scrP κ) 1500)) 1500 ?_ ?_ N 0 () (by omega) (by omega) (by omega)
  · exact hst
  · intro n _ _
    show Ho (fX11_screws_s4 N _ _ _ _) _
    unfold fX11_screws_s4
    rw [if_pos (by decide)]
    exact Ho_some rfl
  · intro n i _ hi i0 hc
    show Ho (fX11_screws_s4 N _ _ _ _) _
    unfold fX11_screws_s4 fX11_screws_b31
    have c : (1500 ≤ zI i) = False := by rw [zl_1500, zI_le (by omega) (by omega) (by omega) (by omega)]; exact eq_false (by omega)
    have d1 : 1 + zI i / 5 = zI (1 + i / 5) := by rw [show (5 : Int32) = zI 5 from rfl, show (1 : Int32) = zI 1 from rfl, zI_divp (by omega) (by omega) (by omega) (by omega), zI_add]
    have d2 : 3 + irm (zI i) 5 = zI (3 + i % 5) := by rw [show (5 : Int32) = zI 5 from rfl, show (3 : Int32) = zI 3 from rfl, zI_rem (by omega) (by omega) (by omega) (by omega), zI_add]
    have i1 : zI i + 1 = zI (i + 1) := zI_add i 1
    simp only [c, if_false, d1, d2, e_screwFits (w := 3 + i % 5) hN h (show 1 ≤ 1 + i / 5 by omega) (by omega) (by omega) (by omega), Option.bind_some, if_bI, i1]
    have sp : scrP κ i.toNat = screwB κ (1 + i / 5) (3 + i % 5) := by unfold scrP; rw [show ((i.toNat : Nat) : Int) = i by omega]
    have nx := hc () (by omega)
    rw [show (i + 1).toNat = i.toNat + 1 by omega, fb_ct_succ, sp] at nx
    by_cases q : screwB κ (1 + i / 5) (3 + i % 5) = true
    · rw [if_pos q] at nx ⊢
      rw [show (1 : Int32) = zI 1 from rfl, zI_add]
      exact nx
    · rw [if_neg q] at nx ⊢
      exact nx
theorem e_screwL {N : Nat} {σ : qMem} {κ : Nat → Int32} {T m : Int} (hN : 200000 ≤ N) (h : CI σ.1 κ) (t0 : 0 ≤ T) (t1 : T < 2147483648) (m0 : 0 ≤ m) (m1 : m ≤ 1) :
    Ho (fX11_screw_l20 N σ N (zI m) (zI T) 0) (fun v => (∃ R : Nat, R < 1500 ∧ scrP κ R = true ∧ (fb_ct (scrP κ) R : Int) = T ∧ v = zI (if m = 0 then 1 + (R : Int) / 5 else 3 + (R : Int) % 5)) ∨ ((fb_ct (scrP κ) 1500 : Int) ≤ T ∧ v = -1)) := by
  have hst := lp_for (S := Unit) (R := Int32) (fun n i _ => fX11_screw_l20 N σ n (zI m) (zI (T - (fb_ct (scrP κ) i.toNat : Nat))) (zI i)) (fun i _ => 0 ≤ i ∧ (fb_ct (scrP κ) i.toNat : Int) ≤ T) (fun v => (∃ R : Nat, R < 1500 ∧ scrP κ R = true ∧ (fb_ct (scrP κ) R : Int) = T ∧ v = zI (if m = 0 then 1 + (R : Int) / 5 else 3 + (R : Int) % 5)) ∨ ((fb_ct (scrP κ) 1500 : Int) ≤ T ∧ v = -1)) 1500 ?_ ?_ N 0 () (by omega) (by omega) ⟨by omega, t0⟩
  · have e : zI (T - (fb_ct (scrP κ) (0 : Int).toNat : Nat)) = zI T := congrArg zI (Int.sub_zero T)
    simp only [e] at hst
    exact hst
  · intro n _ ⟨_, h1⟩
    show Ho (fX11_screw_s20 N _ _ _ _ _) _
    unfold fX11_screw_s20
    rw [if_pos (by decide)]
    exact Ho_some (Or.inr ⟨h1, rfl⟩)
  · intro n i _ hi ⟨i0, h1⟩ hc
    show Ho (fX11_screw_s20 N _ _ _ _ _) _
    unfold fX11_screw_s20 fX11_screw_b74
    have c : (1500 ≤ zI i) = False := by rw [zl_1500, zI_le (by omega) (by omega) (by omega) (by omega)]; exact eq_false (by omega)
    have d1 : 1 + zI i / 5 = zI (1 + i / 5) := by rw [show (5 : Int32) = zI 5 from rfl, show (1 : Int32) = zI 1 from rfl, zI_divp (by omega) (by omega) (by omega) (by omega), zI_add]
    have d2 : 3 + irm (zI i) 5 = zI (3 + i % 5) := by rw [show (5 : Int32) = zI 5 from rfl, show (3 : Int32) = zI 3 from rfl, zI_rem (by omega) (by omega) (by omega) (by omega), zI_add]
    have i1 : zI i + 1 = zI (i + 1) := zI_add i 1
    have cz : (zI (T - (fb_ct (scrP κ) i.toNat : Nat)) = 0) = (T - (fb_ct (scrP κ) i.toNat : Nat) = 0) := by rw [show (0 : Int32) = zI 0 from rfl, zI_eq (by omega) (by omega) (by omega) (by omega)]
    have cm : (zI m = 0) = (m = 0) := by rw [show (0 : Int32) = zI 0 from rfl, zI_eq (by omega) (by omega) (by omega) (by omega)]
    have s1 : zI (T - (fb_ct (scrP κ) i.toNat : Nat)) + (-1) = zI (T - (fb_ct (scrP κ) i.toNat : Nat) + (-1)) := by rw [show (-1 : Int32) = zI (-1) from rfl, zI_add]
    simp only [c, if_false, d1, d2, e_screwFits (w := 3 + i % 5) hN h (show 1 ≤ 1 + i / 5 by omega) (by omega) (by omega) (by omega), Option.bind_some, if_bI, i1, cz, cm, s1]
    have sp : scrP κ i.toNat = screwB κ (1 + i / 5) (3 + i % 5) := by unfold scrP; rw [show ((i.toNat : Nat) : Int) = i by omega]
    have nx := hc ()
    rw [show (i + 1).toNat = i.toNat + 1 by omega, fb_ct_succ, sp] at nx
    by_cases q : screwB κ (1 + i / 5) (3 + i % 5) = true
    · rw [if_pos q] at nx ⊢
      by_cases q2 : T - (fb_ct (scrP κ) i.toNat : Nat) = 0
      · rw [if_pos q2]
        refine Ho_mono (P := fun v => v = zI (if m = 0 then 1 + i / 5 else 3 + i % 5)) ?_ (fun v hv => Or.inl ⟨i.toNat, by omega, by rw [sp]; exact q, by omega, by rw [hv, show ((i.toNat : Nat) : Int) = i by omega]⟩)
        by_cases q3 : m = 0
        · rw [if_pos q3, if_pos q3]; exact Ho_some rfl
        · rw [if_neg q3, if_neg q3]; exact Ho_some rfl
      · rw [if_neg q2]
        have := nx ⟨by omega, by omega⟩
        rw [show T - ((fb_ct (scrP κ) i.toNat + 1 : Nat) : Int) = T - (fb_ct (scrP κ) i.toNat : Nat) + (-1) by omega] at this
        exact this
    · rw [if_neg q] at nx ⊢
      exact nx ⟨by omega, h1⟩
theorem r_screwAt {N : Nat} {τ : qMem} {κ : Nat → Int32} {T : Int} (hN : 200000 ≤ N) (hκ : τ.1 2 = κ) (kw : KW κ) (t0 : -1 ≤ T) (t1 : T < 2147483648) :
    Ho (fX12_screwAt N (zI T) τ) (fun v => (∃ R : Nat, R < 1500 ∧ scrP κ R = true ∧ (fb_ct (scrP κ) R : Int) = T ∧ v = zI (10 * (1 + (R : Int) / 5) + (3 + (R : Int) % 5))) ∨ ((T < 0 ∨ (fb_ct (scrP κ) 1500 : Int) ≤ T) ∧ v = zI (-1 - (fb_ct (scrP κ) 1500 : Nat)))) := by
  unfold fX12_screwAt
  have cb : ∀ i, fb_ct (scrP κ) i ≤ i := fun i => fb_ct_le _ _
  have hst := lp_for (S := Unit) (R := Int32) (fun n a _ => fX12_screwAt_l4 N τ n (zI T) (zI ((fb_ct (scrP κ) (5 * a.toNat) : Nat) : Int)) (zI (a + 1))) (fun a _ => 0 ≤ a ∧ (T < 0 ∨ (fb_ct (scrP κ) (5 * a.toNat) : Int) ≤ T)) (fun v => (∃ R : Nat, R < 1500 ∧ scrP κ R = true ∧ (fb_ct (scrP κ) R : Int) = T ∧ v = zI (10 * (1 + (R : Int) / 5) + (3 + (R : Int) % 5))) ∨ ((T < 0 ∨ (fb_ct (scrP κ) 1500 : Int) ≤ T) ∧ v = zI (-1 - (fb_ct (scrP κ) 1500 : Nat)))) 300 ?_ ?_ N 0 () (by omega) (by omega) ⟨by omega, by show T < 0 ∨ (0 : Int) ≤ T; omega⟩
  · exact hst
  · intro n _ ⟨_, h1⟩
    show Ho (fX12_screwAt_s4 N _ _ _ _ _) _
    unfold fX12_screwAt_s4
    rw [if_pos (by decide), show (-1 : Int32) = zI (-1) from rfl, zI_sub]
    exact Ho_some (Or.inr ⟨h1, rfl⟩)
  · intro n a _ ha ⟨a0, h1⟩ hc
    show Ho (fX12_screwAt_s4 N _ _ _ _ _) _
    unfold fX12_screwAt_s4
    have c : (300 < zI (a + 1)) = False := by rw [zl_300, zI_lt (by omega) (by omega) (by omega) (by omega)]; exact eq_false (by omega)
    simp only [c, if_false]
    have hst := lp_for (S := Unit) (R := Int32) (fun m b _ => fX12_screwAt_l14 N (fX12_screwAt_l4 N τ n) τ m (zI T) (zI ((fb_ct (scrP κ) (5 * a.toNat + b.toNat) : Nat) : Int)) (zI (a + 1)) (zI (b + 3))) (fun b _ => 0 ≤ b ∧ (T < 0 ∨ (fb_ct (scrP κ) (5 * a.toNat + b.toNat) : Int) ≤ T)) (fun v => (∃ R : Nat, R < 1500 ∧ scrP κ R = true ∧ (fb_ct (scrP κ) R : Int) = T ∧ v = zI (10 * (1 + (R : Int) / 5) + (3 + (R : Int) % 5))) ∨ ((T < 0 ∨ (fb_ct (scrP κ) 1500 : Int) ≤ T) ∧ v = zI (-1 - (fb_ct (scrP κ) 1500 : Nat)))) 5 ?_ ?_ N 0 () (by omega) (by omega) ⟨by omega, h1⟩
    · exact hst
    · intro m _ ⟨_, h2⟩
      show Ho (fX12_screwAt_s14 N _ _ _ _ _ _ _) _
      unfold fX12_screwAt_s14
      rw [if_pos (by decide), show zI (a + 1) + 1 = zI (a + 1 + 1) from zI_add _ 1]
      have e : 5 * a.toNat + (5 : Int).toNat = 5 * (a + 1).toNat := by omega
      rw [e] at h2 ⊢
      exact hc () ⟨by omega, h2⟩
    · intro m b _ hb ⟨b0, h2⟩ hc2
      show Ho (fX12_screwAt_s14 N _ _ _ _ _ _ _) _
      unfold fX12_screwAt_s14 fX12_screwAt_b50
      have c7 : (7 < zI (b + 3)) = False := by rw [zl_7, zI_lt (by omega) (by omega) (by omega) (by omega)]; exact eq_false (by omega)
      have b1 : zI (b + 3) + 1 = zI (b + 1 + 3) := by rw [show (1 : Int32) = zI 1 from rfl, zI_add]; congr 1; omega
      have cbn := cb (5 * a.toNat + b.toNat)
      have ce : (zI ((fb_ct (scrP κ) (5 * a.toNat + b.toNat) : Nat) : Int) = zI T) = ((fb_ct (scrP κ) (5 * a.toNat + b.toNat) : Int) = T) := zI_eq (by omega) (by omega) (by omega) (by omega)
      have s1 : zI ((fb_ct (scrP κ) (5 * a.toNat + b.toNat) : Nat) : Int) + 1 = zI ((fb_ct (scrP κ) (5 * a.toNat + b.toNat) : Nat) + 1 : Int) := zI_add _ 1
      have v1 : 10 * zI (a + 1) + zI (b + 3) = zI (10 * (a + 1) + (b + 3)) := by rw [show (10 : Int32) = zI 10 from rfl, zI_mul, zI_add]
      simp only [c7, if_false, r_isScrew (w := b + 3) hN hκ kw (show 1 ≤ a + 1 by omega) (by omega) (by omega) (by omega), Option.bind_some, if_bI, b1, ce, s1, v1]
      have ei : ((5 * a.toNat + b.toNat : Nat) : Int) = 5 * a + b := by omega
      have sp : scrP κ (5 * a.toNat + b.toNat) = screwB κ (a + 1) (b + 3) := by
        unfold scrP
        rw [ei, show 1 + (5 * a + b) / 5 = a + 1 by omega, show 3 + (5 * a + b) % 5 = b + 3 by omega]
      have nx := hc2 ()
      rw [show 5 * a.toNat + (b + 1).toNat = 5 * a.toNat + b.toNat + 1 by omega, fb_ct_succ, sp] at nx
      by_cases q : screwB κ (a + 1) (b + 3) = true
      · rw [if_pos q] at nx ⊢
        by_cases q2 : (fb_ct (scrP κ) (5 * a.toNat + b.toNat) : Int) = T
        · rw [if_pos q2]
          refine Ho_some (Or.inl ⟨5 * a.toNat + b.toNat, by omega, by rw [sp]; exact q, q2, ?_⟩)
          rw [ei]
          congr 1
          omega
        · rw [if_neg q2]
          exact nx ⟨by omega, by omega⟩
      · rw [if_neg q] at nx ⊢
        exact nx ⟨by omega, h2⟩
theorem b_screws {LW : LWt} {c N : Nat} {σ τ : qMem} (hN : 200000 ≤ N) (h : Inv LW c σ τ) : ∃ v, fX11_screws N σ = some v ∧ fX12_screws N τ = some v := by
  refine ⟨_, e_screws hN (Inv_CI h), ?_⟩
  unfold fX12_screws
  obtain ⟨v, e, hv⟩ := r_screwAt (T := -1) hN rfl (Inv_KW h) (by omega) (by omega)
  have e' : fX12_screwAt N (-1) τ = some v := e
  rw [e', Option.bind_some]
  rcases hv with ⟨R, _, _, r3, _⟩ | ⟨_, hv⟩
  · omega
  · rw [hv, show (-1 : Int32) = zI (-1) from rfl, zI_sub]
    congr 2; omega
theorem b_screw {LW : LWt} {c N : Nat} {σ τ : qMem} (hN : 200000 ≤ N) (h : Inv LW c σ τ) (p1 p2 : Int32) : ∃ v, fX11_screw N p1 p2 σ = some v ∧ fX12_screw N p1 p2 τ = some v := by
  obtain ⟨T, l1, u1, rfl⟩ := zI_ex p1
  obtain ⟨m, l2, u2, rfl⟩ := zI_ex p2
  have i2 : fX11_isIn (zI m) 0 1 = some (bI (decide (0 ≤ m ∧ m ≤ 1))) := e_isIn (b := 0) (c := 1) l2 u2 (by omega) (by omega) (by omega) (by omega)
  have j2 : fX12_in (zI m) 0 1 = some (bI (decide (0 ≤ m ∧ m ≤ 1))) := e_in (b := 0) (c := 1) l2 u2 (by omega) (by omega) (by omega) (by omega)
  have n0 : (zI T < 0) = (T < 0) := by rw [show (0 : Int32) = zI 0 from rfl, zI_lt (by omega) (by omega) (by omega) (by omega)]
  unfold fX11_screw fX12_screw
  simp only [n0, i2, j2, Option.bind_some, if_bI, decide_eq_true_eq]
  by_cases q : T < 0
  · rw [if_pos q, if_pos q]; exact ⟨_, rfl, rfl⟩
  · rw [if_neg q, if_neg q]
    by_cases q2 : 0 ≤ m ∧ m ≤ 1
    · rw [if_pos q2, if_pos q2]
      obtain ⟨v, e, hv⟩ := e_screwL (T := T) (m := m) hN (Inv_CI h) (by omega) u1 q2.1 q2.2
      obtain ⟨w, f, hw⟩ := r_screwAt (T := T) hN rfl (Inv_KW h) (by omega) u1
      refine ⟨v, e, ?_⟩
      rw [f, Option.bind_some]
      have cm : (zI m = 0) = (m = 0) := by rw [show (0 : Int32) = zI 0 from rfl, zI_eq (by omega) (by omega) (by omega) (by omega)]
      have cb := fb_ct_le (scrP (τ.1 2)) 1500
      have past : ∀ R : Nat, R < 1500 → scrP (τ.1 2) R = true → fb_ct (scrP (τ.1 2)) R + 1 ≤ fb_ct (scrP (τ.1 2)) 1500 := by
        intro R hR hs
        have := fb_ct_mono (scrP (τ.1 2)) (show R + 1 ≤ 1500 by omega)
        rw [fb_ct_succ, hs, if_pos rfl] at this
        exact this
      rcases hv with ⟨R, r1, r2, r3, r4⟩ | ⟨r1, r2⟩
      · rcases hw with ⟨S, s1, s2, s3, s4⟩ | ⟨s1, s2⟩
        · have e : R = S := fb_ct_kth_one r2 s2 (by omega)
          subst e
          have c1 : (0 ≤ zI (10 * (1 + (R : Int) / 5) + (3 + (R : Int) % 5))) = True := by rw [show (0 : Int32) = zI 0 from rfl, zI_le (by omega) (by omega) (by omega) (by omega)]; exact eq_true (by omega)
          rw [s4, r4]
          simp only [c1, if_true, cm]
          by_cases q3 : m = 0
          · rw [if_pos q3, if_pos q3, show (10 : Int32) = zI 10 from rfl, zI_divp (by omega) (by omega) (by omega) (by omega)]
            congr 2; omega
          · rw [if_neg q3, if_neg q3, show (10 : Int32) = zI 10 from rfl, zI_rem (by omega) (by omega) (by omega) (by omega)]
            congr 2; omega
        · have := past R r1 r2
          omega
      · rcases hw with ⟨S, s1, s2, s3, s4⟩ | ⟨s1, s2⟩
        · have := past S s1 s2
          omega
        · have c1 : (0 ≤ zI (-1 - ((fb_ct (scrP (τ.1 2)) 1500 : Nat) : Int))) = False := by rw [show (0 : Int32) = zI 0 from rfl, zI_le (by omega) (by omega) (by omega) (by omega)]; exact eq_false (by omega)
          rw [s2, r2]
          simp only [c1, if_false]
    · rw [if_neg q2, if_neg q2]; exact ⟨_, rfl, rfl⟩
