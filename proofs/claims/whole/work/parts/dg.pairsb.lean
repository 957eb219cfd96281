/-! pairings, ghost: by both -/
theorem cpv_67b {σ s s' : qMem} {κ : Nat → Int32} (h : cpv σ κ s) (f : ∀ k j, k ≠ 67 → gi s' k j = gi s k j) : cpv σ κ s' := by
  have sc : SC s s' := fun k j q => f k j (by unfold scrC at q; omega)
  exact ⟨by rw [f _ _ (by omega)]; exact h.1, CI_of h.2.1 sc (CC_c (m := s.1) (m' := s'.1) (fun k j q => f k j (by omega)) h.2.1.2.2.2), SC_trans h.2.2 sc⟩
theorem nPr_le (κ : Nat → Int32) (bell : Int) : nPr κ bell ≤ 6 := by
  unfold nPr
  by_cases z : cln κ 0 bell = cln κ 1 bell ∧ cln κ 0 bell ≤ 6
  · rw [if_pos z]; omega
  · rw [if_neg z]; omega
theorem b_pairings {LW : LWt} {c N : Nat} {σ τ : qMem} (hN : 200000 ≤ N) (hLW : LWc LW) (h : Inv LW c σ τ) (p1 : Int32) : Both LW c (fX11_pairings N p1 σ) (fX12_pairings N p1 τ) := by
  obtain ⟨b, l1, u1, rfl⟩ := zI_ex p1
  have kw := Inv_KW h
  unfold fX11_pairings fX12_pairings
  simp only [e_isBell l1 u1, r_isBell l1 u1, Option.bind_some, if_bI, decide_eq_true_eq]
  by_cases q : 0 ≤ b ∧ b ≤ 23
  · rw [if_pos q, if_pos q]
    obtain ⟨σ1, es, a1, a2, a3, a4, a5⟩ := e_sortOut hN (Inv_CI h)
    rw [es, Option.bind_some]
    obtain ⟨s2, e2, p2, r2⟩ := e_crossAll (N := N) (σ := σ) (s := σ1) hN q.1 q.2 ⟨a2, a3, a4⟩
    rw [e2, Option.bind_some]
    obtain ⟨t', f1, f2, f3⟩ := r_pairs (N := N) (τ := τ) (t := τ) (bell := b) hN rfl (Inv_v h) kw q.1 q.2 (SM_refl _) (Inv_RC h)
    rw [f1, Option.bind_some]
    have n6 := nPr_le (τ.1 2) b
    have c0 : (zI (nPr (τ.1 2) b : Int) = 0) = (nPr (τ.1 2) b = 0) := by rw [show (0 : Int32) = zI 0 from rfl, zI_eq (by omega) (by omega) (by omega) (by omega)]; exact propext (by omega)
    simp only [c0]
    by_cases z : nPr (τ.1 2) b = 0
    · rw [if_pos z, if_pos z]
      exact both_q (v := 0) hLW h (Ho_some ⟨rfl, p2.2.2, p2.2.1.2.2.2⟩) (Ho_some ⟨rfl, f2.2.2, f2.2.1⟩)
    · rw [if_neg z, if_neg z]
      have w : fX3_ways N 8 0 0 (zI (nPr (τ.1 2) b : Int)) s2 = _ := e_ways (N := N) (C := prB (τ.1 2) b) hN n6 r2 (nPr (τ.1 2) b) 8 0 (fun _ => false) 0 (by omega) (by omega) (fun k _ => b_0 k)
      rw [w, Option.bind_some, gd_wy (by omega)]
      exact both_q hLW h (Ho_some ⟨rfl, p2.2.2, p2.2.1.2.2.2⟩) (Ho_some ⟨rfl, f2.2.2, f2.2.1⟩)
  · rw [if_neg q, if_neg q]
    exact both_same hLW h _
theorem b_ghost {LW : LWt} {c N : Nat} {σ τ : qMem} (hN : 200000 ≤ N) (hLW : LWc LW) (h : Inv LW c σ τ) (p1 p2 p3 : Int32) : Both LW c (fX11_ghost N p1 p2 p3 σ) (fX12_ghost N p1 p2 p3 τ) := by
  obtain ⟨b, l1, u1, rfl⟩ := zI_ex p1
  obtain ⟨S, l2, u2, rfl⟩ := zI_ex p2
  obtain ⟨K, l3, u3, rfl⟩ := zI_ex p3
  have kw := Inv_KW h
  unfold fX11_ghost fX12_ghost fX12_ghost_b79
  simp only [e_isBell l1 u1, r_isBell l1 u1, Option.bind_some, if_bI, decide_eq_true_eq]
  by_cases q : 0 ≤ b ∧ b ≤ 23
  rotate_left
  · rw [if_neg q, if_neg q]
    exact both_same hLW h _
  rw [if_pos q, if_pos q]
  obtain ⟨σ1, es, a1, a2, a3, a4, a5⟩ := e_sortOut hN (Inv_CI h)
  obtain ⟨t, et, n1, n2⟩ := Ho_get (r_laysNews hN (τ := τ) rfl kw)
  have cp1 : cpv σ (τ.1 2) σ1 := ⟨a2, a3, a4⟩
  have rp1 : rpv τ (τ.1 2) t := ⟨n1, RC_news (Inv_RC h) n1 (fun k j => n2 k j), SM_news n2⟩
  rw [es, et, Option.bind_some, Option.bind_some]
  have d0 := cln_le (κ := τ.1 2) (b := 0) (bell := b) kw
  have d1 := cln_le (κ := τ.1 2) (b := 1) (bell := b) kw
  obtain ⟨v3, e3, x3, _⟩ := e_fh (b := 0) (T := S) hN cp1 (by omega) q.1 q.2 l2 u2
  obtain ⟨v4, e4, x4, _⟩ := e_fh (b := 1) (T := K) hN cp1 (by omega) q.1 q.2 l3 u3
  obtain ⟨w3, f3, y3, _⟩ := r_nf (b := 0) (T := S) hN kw rp1 (by omega) q.1 q.2 l2 u2
  obtain ⟨w4, f4, y4, _⟩ := r_nf (b := 1) (T := K) hN kw rp1 (by omega) q.1 q.2 l3 u3
  have e3' : fX3_freshHeard N 0 (zI b) (zI S) σ1 = some v3 := e3
  have e4' : fX3_freshHeard N 1 (zI b) (zI K) σ1 = some v4 := e4
  have f3' : fX12_newOf N 0 (zI b) (zI S) t = some w3 := f3
  have f4' : fX12_newOf N 1 (zI b) (zI K) t = some w4 := f4
  have bad : Both LW c (some (-1, σ1)) (some (-1, t)) := both_q hLW h (Ho_some ⟨rfl, cp1.2.2, cp1.2.1.2.2.2⟩) (Ho_some ⟨rfl, rp1.2.2, rp1.2.1⟩)
  rw [e3', f3', Option.bind_some, Option.bind_some, e4', f4']
  simp only [Option.bind_some, x3, x4, y3, y4]
  by_cases q3 : 0 ≤ S ∧ S < (cln (τ.1 2) 0 b : Int)
  rotate_left
  · rw [if_pos q3, if_pos q3]; exact bad
  have nq3 : ¬ ¬ (0 ≤ S ∧ S < (cln (τ.1 2) 0 b : Int)) := fun z => z q3
  rw [if_neg nq3, if_neg nq3]
  by_cases q4 : 0 ≤ K ∧ K < (cln (τ.1 2) 1 b : Int)
  rotate_left
  · rw [if_pos q4, if_pos q4]; exact bad
  have nq4 : ¬ ¬ (0 ≤ K ∧ K < (cln (τ.1 2) 1 b : Int)) := fun z => z q4
  rw [if_neg nq4, if_neg nq4]
  obtain ⟨s2, e2, p2, r2⟩ := e_crossAll (N := N) (σ := σ) (s := σ1) hN q.1 q.2 cp1
  obtain ⟨t', g1, g2, g3⟩ := r_pairs (N := N) (τ := τ) (t := t) (bell := b) hN rfl (Inv_v h) kw q.1 q.2 rp1.2.2 rp1.2.1
  rw [e2, Option.bind_some, g1, Option.bind_some]
  have n6 := nPr_le (τ.1 2) b
  have c0 : (zI (nPr (τ.1 2) b : Int) = 0) = (nPr (τ.1 2) b = 0) := by rw [show (0 : Int32) = zI 0 from rfl, zI_eq (by omega) (by omega) (by omega) (by omega)]; exact propext (by omega)
  simp only [c0]
  -- how both end
  have fin : ∀ (v : Int32) (s' : qMem), cpv σ (τ.1 2) s' → Both LW c (some (v, s')) (some (v, t')) := fun v s' hs => both_q hLW h (Ho_some ⟨rfl, hs.2.2, hs.2.1.2.2.2⟩) (Ho_some ⟨rfl, g2.2.2, g2.2.1⟩)
  by_cases z : nPr (τ.1 2) b = 0
  · rw [if_pos z, if_pos z, if_pos (show (zI ((0 : Nat) : Int)) ≤ 0 by decide)]
    exact fin 1 s2 p2
  rw [if_neg z, if_neg z]
  have g3 := g3 z
  have np : nPr (τ.1 2) b = cln (τ.1 2) 0 b ∧ nPr (τ.1 2) b = cln (τ.1 2) 1 b := by
    unfold nPr at z ⊢
    by_cases y : cln (τ.1 2) 0 b = cln (τ.1 2) 1 b ∧ cln (τ.1 2) 0 b ≤ 6
    · rw [if_pos y]; exact ⟨rfl, y.1⟩
    · rw [if_neg y] at z; exact absurd rfl z
  obtain ⟨S, rfl⟩ : ∃ A : Nat, S = A := ⟨S.toNat, by omega⟩
  obtain ⟨K, rfl⟩ : ∃ A : Nat, K = A := ⟨K.toNat, by omega⟩
  have X := pow_le6 (nPr (τ.1 2) b) n6 (nPr (τ.1 2) b) (Nat.le_refl _)
  have hS : S < nPr (τ.1 2) b := by omega
  have hK : K < nPr (τ.1 2) b := by omega
  generalize nPr (τ.1 2) b = n at *
  have tot : fb_ct (gdc n (prB (τ.1 2) b) n 0 (fun _ => false)) (n ^ n) ≤ n ^ n := fb_ct_le _ _
  have cel : fb_ct (fun c => gdc n (prB (τ.1 2) b) n 0 (fun _ => false) c && decide (dgt n c S = K)) (n ^ n) ≤ fb_ct (gdc n (prB (τ.1 2) b) n 0 (fun _ => false)) (n ^ n) := fb_ct_sub (fun k _ y => (Bool.and_eq_true_iff.mp y).1)
  have gS := g3 S K hS hK
  -- only that pair is kept
  have kS : (ck (zI (S : Int)) 6 = true) = True := zI_ckT (by omega) (by omega) (by omega)
  have zS : (zI (S : Int)).toNatClampNeg = S := by rw [zI_clamp (by omega) (by omega)]; omega
  have e6 : fX3_keepPair (zI S) (zI K) s2 = some (si s2 67 S ((gi s2 67 S) &&& ((1 : Int32) <<< (zI K &&& 31)))) := by
    unfold fX3_keepPair
    have k1 : (zI (S : Int) < 0) = False := by rw [show (0 : Int32) = zI 0 from rfl, zI_lt (by omega) (by omega) (by omega) (by omega)]; exact eq_false (by omega)
    have k2 : ((6 : Int32) ≤ zI (S : Int)) = False := by rw [show (6 : Int32) = zI 6 from rfl, zI_le (by omega) (by omega) (by omega) (by omega)]; exact eq_false (by omega)
    simp only [k1, k2, if_false, kS, zS, if_true, nmM]
  have p3 := cpv_67 p2 S ((gi s2 67 S) &&& ((1 : Int32) <<< (zI K &&& 31)))
  rw [e6, Option.bind_some]
  generalize hs3 : si s2 67 S ((gi s2 67 S) &&& ((1 : Int32) <<< (zI K &&& 31))) = s3 at *
  have rows : ∀ i k, i < n → k < n → bt (gi s3 67 i) k = (prB (τ.1 2) b i k && (!decide (i = S) || decide (k = K))) := fun i k hi hk => by
    rw [← hs3, gi_si]
    by_cases y : i = S
    · rw [if_pos ⟨rfl, y⟩, b_and, y, r2 S k hS hk, decide_eq_true rfl, show zI (K : Int) = nI K from rfl, wd_one (by omega), bt_wd _ (by omega)]; rfl
    · rw [if_neg (by omega), r2 i k hi hk, decide_eq_false y, Bool.not_false, Bool.true_or, Bool.and_true]
  have w : fX3_ways N 8 0 0 (zI (n : Int)) s3 = _ := e_ways (N := N) (C := fun i k => prB (τ.1 2) b i k && (!decide (i = S) || decide (k = K))) hN n6 rows n 8 0 (fun _ => false) 0 (by omega) (by omega) (fun k _ => b_0 k)
  have cnt : wyN n (fun i k => prB (τ.1 2) b i k && (!decide (i = S) || decide (k = K))) n 0 (fun _ => false) = fb_ct (fun c => gdc n (prB (τ.1 2) b) n 0 (fun _ => false) c && decide (dgt n c S = K)) (n ^ n) := by
    rw [← gd_wy (by omega)]
    refine fb_ct_cong (fun x _ => ?_)
    rw [gd_keep (S := S) (K := K) (C := prB (τ.1 2) b) (fun _ _ => rfl), decide_eq_true (show 0 ≤ S ∧ S < 0 + n by omega), Nat.sub_zero]; rfl
  rw [w, cnt, Option.bind_some]
  generalize fb_ct (fun c => gdc n (prB (τ.1 2) b) n 0 (fun _ => false) c && decide (dgt n c S = K)) (n ^ n) = ce at *
  generalize fb_ct (gdc n (prB (τ.1 2) b) n 0 (fun _ => false)) (n ^ n) = to at *
  have z1 : (zI (ce : Int) = 0) = (ce = 0) := by rw [show (0 : Int32) = zI 0 from rfl, zI_eq (by omega) (by omega) (by omega) (by omega)]; exact propext (by omega)
  have z2 : (zI (to : Int) ≤ 0) = (to = 0) := by rw [show (0 : Int32) = zI 0 from rfl, zI_le (by omega) (by omega) (by omega) (by omega)]; exact propext (by omega)
  have z3 : (zI (ce : Int) ≤ 0) = (ce = 0) := by rw [show (0 : Int32) = zI 0 from rfl, zI_le (by omega) (by omega) (by omega) (by omega)]; exact propext (by omega)
  have k2 : ((6 : Int32) ≤ zI (S : Int)) = False := by rw [show (6 : Int32) = zI 6 from rfl, zI_le (by omega) (by omega) (by omega) (by omega)]; exact eq_false (by omega)
  have k3 : ((6 : Int32) ≤ zI (K : Int)) = False := by rw [show (6 : Int32) = zI 6 from rfl, zI_le (by omega) (by omega) (by omega) (by omega)]; exact eq_false (by omega)
  have e36 : (6 : Int32) * zI (S : Int) + zI (K : Int) = zI ((6 * S + K : Nat) : Int) := by rw [show (6 : Int32) = zI 6 from rfl, zI_mul, zI_add]; congr 1
  have kx : (ck (zI ((6 * S + K : Nat) : Int)) 36 = true) = True := zI_ckT (by omega) (by omega) (by omega)
  have zx : (zI ((6 * S + K : Nat) : Int)).toNatClampNeg = 6 * S + K := by rw [zI_clamp (by omega) (by omega)]; omega
  simp only [z1, z2, k2, k3, e36, kx, zx, if_false, if_true, gS, z3]
  by_cases y : ce = 0
  · rw [if_pos y, if_pos y, ite_self]
    exact fin 1 s3 p3
  · rw [if_neg y, if_neg y, if_neg (show ¬ to = 0 by omega)]
    exact fin 0 s3 p3
