/-! crossings -/
noncomputable def crsB (κ : Nat → Int32) (i0 i1 : Bool × Nat) (bell : Int) (x y : Nat) : Bool := fitB κ i0 bell x y && fitB κ i1 bell x y
theorem okF_0 {κ : Nat → Int32} {it : Bool × Nat} {bell x y : Int} (l0 : 0 ≤ bell) (l1 : bell ≤ 23) : okF κ it bell x 0 0 y = fitB κ it bell x y := by
  unfold okF
  rw [decide_eq_true ⟨l0, l1⟩, Bool.true_and, Int.zero_mul, Int.add_zero, Int.add_zero]
theorem e_crossL {N : Nat} {σ : qMem} {κ : Nat → Int32} {bell : Int} {n0 n1 : Nat} {i0 i1 : Bool × Nat} (hN : 200000 ≤ N) (hs : seen σ.1 κ) (h0 : (freshL κ 0 (newsL κ))[n0]? = some i0) (h1 : (freshL κ 1 (newsL κ))[n1]? = some i1) (l0 : 0 ≤ bell) (l1 : bell ≤ 23) :
    Ho (fX3_crossings_l10 N N (zI bell) (zI n0) (zI n1) 0 0 σ) (fun a => a.1 = zI (fb_sm (fun x => fb_ct (fun y => crsB κ i0 i1 bell x y) 32) 32) ∧ ∀ k j, k ≠ 62 → k ≠ 63 → gi a.2 k j = gi σ k j) := by
  have hst := lp_for (S := qMem) (R := Int32 × qMem) (fun m x s => fX3_crossings_l10 N m (zI bell) (zI n0) (zI n1) (zI ((fb_sm (fun x => fb_ct (fun y => crsB κ i0 i1 bell x y) 32) x.toNat : Nat) : Int)) (zI x) s) (fun x s => 0 ≤ x ∧ ∀ k j, k ≠ 62 → k ≠ 63 → gi s k j = gi σ k j) (fun a => a.1 = zI (fb_sm (fun x => fb_ct (fun y => crsB κ i0 i1 bell x y) 32) 32) ∧ ∀ k j, k ≠ 62 → k ≠ 63 → gi a.2 k j = gi σ k j) 32 ?_ ?_ N 0 σ (by omega) (by omega) ⟨by omega, fun _ _ _ _ => rfl⟩
  · exact hst
  · intro m s ⟨_, g⟩
    show Ho (fX3_crossings_s10 N _ _ _ _ _ _ _) _
    unfold fX3_crossings_s10
    rw [if_pos (by decide)]
    exact Ho_some ⟨rfl, g⟩
  · intro m x s hx ⟨x0, g⟩ hc
    show Ho (fX3_crossings_s10 N _ _ _ _ _ _ _) _
    unfold fX3_crossings_s10 fX3_crossings_b74
    have c : (32 ≤ zI x) = False := by rw [zl_32, zI_le (by omega) (by omega) (by omega) (by omega)]; exact eq_false (by omega)
    have sh : zI x * 7 + 3 = zI (x * 7 + 3) := by rw [show (7 : Int32) = zI 7 from rfl, show (3 : Int32) = zI 3 from rfl, zI_mul, zI_add]
    have x1 : zI x + 1 = zI (x + 1) := zI_add x 1
    have ck3 : (ck (3 : Int32) 7 = true) = True := by decide
    have z3 : (3 : Int32).toNatClampNeg = 3 := rfl
    simp only [c, if_false, sh, x1, ck3, if_true, z3, nmI]
    have se : seen s.1 κ := seen_c (m := σ.1) (m' := s.1) (fun k j q => g k j (by omega) (by omega)) hs
    refine Ho_bind (e_look (b := 0) (i := n0) (bell := bell) (sheaf := x * 7 + 3) hN se (by omega) h0 (by omega) (by omega) (by omega) (by omega)) fun s2 ⟨w1, w2⟩ => ?_
    have ex : ((x.toNat : Nat) : Int) = x := by omega
    have wrd : ∀ (it : Bool × Nat) (t : qMem), (∀ v : Nat, v < 7 → gi t 63 v = wd (fun y => okF κ it bell ((x * 7 + 3) / 7) ((x * 7 + 3) % 7 - 3) ((v : Int) - 3) y)) → gi t 63 3 = wd (fun y => fitB κ it bell x y) := by
      intro it t ht
      rw [ht 3 (by omega), show (x * 7 + 3) / 7 = x by omega, show (x * 7 + 3) % 7 - 3 = 0 by omega]
      exact wd_congr fun y _ => okF_0 l0 l1
    have nx : ∀ t : qMem, (∀ k j, k ≠ 62 → k ≠ 63 → gi t k j = gi σ k j) → Ho (fX3_crossings_l10 N m (zI bell) (zI n0) (zI n1) (zI ((fb_sm (fun x => fb_ct (fun y => crsB κ i0 i1 bell x y) 32) x.toNat : Nat) + (fb_ct (fun y => crsB κ i0 i1 bell x.toNat y) 32 : Nat) : Int)) (zI (x + 1)) t) (fun a => a.1 = zI (fb_sm (fun x => fb_ct (fun y => crsB κ i0 i1 bell x y) 32) 32) ∧ ∀ k j, k ≠ 62 → k ≠ 63 → gi a.2 k j = gi σ k j) := by
      intro t ht
      have := hc t ⟨by omega, ht⟩
      rw [show (x + 1).toNat = x.toNat + 1 by omega, fb_sm_succ] at this
      exact this
    rw [wrd i0 s2 w1]
    have g2 : ∀ k j, k ≠ 62 → k ≠ 63 → gi s2 k j = gi σ k j := fun k j a b => (w2 k j a b).trans (g k j a b)
    by_cases q : wd (fun y => fitB κ i0 bell x y) = 0
    · rw [if_pos q]
      have := nx s2 g2
      have z : fb_ct (fun y => crsB κ i0 i1 bell x.toNat y) 32 = 0 := fb_ct_zero.mpr fun y hy => by
        have := (wd_eq0 _).mp q y hy
        unfold crsB
        rw [ex, this]; rfl
      rw [z, show ((0 : Nat) : Int) = 0 from rfl, Int.add_zero] at this
      exact this
    · rw [if_neg q]
      have se2 : seen s2.1 κ := seen_c (m := σ.1) (m' := s2.1) (fun k j q => g2 k j (by omega) (by omega)) hs
      refine Ho_bind (e_look (b := 1) (i := n1) (bell := bell) (sheaf := x * 7 + 3) hN se2 (by omega) h1 (by omega) (by omega) (by omega) (by omega)) fun s3 ⟨w3, w4⟩ => ?_
      rw [wrd i1 s3 w3, wd_and, e_bitCount, Option.bind_some, zI_add]
      have := nx s3 (fun k j a b => (w4 k j a b).trans (g2 k j a b))
      have e : fb_ct (fun y => crsB κ i0 i1 bell x.toNat y) 32 = fb_ct (fun j => fitB κ i0 bell x j && fitB κ i1 bell x j) 32 := fb_ct_cong fun y _ => by unfold crsB; rw [ex]
      rw [e] at this
      exact this
