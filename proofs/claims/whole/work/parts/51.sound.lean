/-! sound: the class's rays and rings -/
theorem e_fill {N k0 n0 : Nat} {v : Int32} {σ : qMem} (hN : 200000 ≤ N) (hn : n0 ≤ 100000) : Ho (fJ7_fill_53178 N k0 n0 v σ) (fun τ => ∀ k j, gi τ k j = if k = k0 ∧ j < n0 then v else gi σ k j) := by
  unfold fJ7_fill_53178
  rw [nI_zI, show (0 : Int32) = zI 0 from rfl]
  refine lp_for (S := qMem) (R := qMem) (fun n i s => fJ7_fill_53178_l5 N k0 n0 n v (zI i) (zI n0) s) (fun i s => 0 ≤ i ∧ ∀ k j, gi s k j = if k = k0 ∧ (j : Int) < i then v else gi σ k j) _ n0 ?_ ?_ N 0 σ (by omega) (by omega) ?_
  · intro n s ⟨_, h⟩
    show Ho (fJ7_fill_53178_s5 N k0 n0 _ _ _ _ _) _
    unfold fJ7_fill_53178_s5
    simp (disch := omega) only [zI_le]
    rw [if_pos (by omega)]
    refine Ho_some fun k j => ?_
    rw [h]
    by_cases q : k = k0 ∧ j < n0
    · rw [if_pos q, if_pos (by omega)]
    · rw [if_neg q, if_neg (by omega)]
  · intro n i s hi ⟨h0, h⟩ hc
    show Ho (fJ7_fill_53178_s5 N k0 n0 _ _ _ _ _) _
    unfold fJ7_fill_53178_s5
    simp (disch := omega) only [zl_1, zI_le, zI_ckT, zI_clamp, if_true, nmM, zI_add]
    rw [if_neg (by omega)]
    refine hc _ ⟨by omega, fun k j => ?_⟩
    rw [gi_si, h]
    by_cases q : k = k0 ∧ j = i.toNat
    · rw [if_pos q, if_pos (by omega)]
    · rw [if_neg q]
      by_cases q2 : k = k0 ∧ (j : Int) < i
      · rw [if_pos q2, if_pos (by omega)]
      · rw [if_neg q2, if_neg (by omega)]
  · refine ⟨by omega, fun k j => ?_⟩
    rw [if_neg (by omega)]
theorem e_compare {a b : Int} (h1 : -2147483648 ≤ a) (h2 : a < 2147483648) (h3 : -2147483648 ≤ b) (h4 : b < 2147483648) : fJ6_compare_7cf53 (zI a) (zI b) = some (zI (if b < a then 1 else if a < b then -1 else 0)) := by
  unfold fJ6_compare_7cf53
  simp (disch := omega) only [zl_0, zl_1, zI_neg, zI_le, zI_eq]
  by_cases q : b < a
  · rw [if_pos (by omega), if_neg (by omega), if_pos q]
  · by_cases q2 : a < b
    · rw [if_neg (by omega), if_neg q, if_pos q2]
    · rw [if_pos (by omega), if_pos (by omega), if_neg q, if_neg q2]
theorem e_bends {N : Nat} {σ : qMem} {κ : Nat → Int32} (hN : 200000 ≤ N) (hT : KT κ) (hd : gi σ 15 2 = zI (kI κ 310)) (hs : ∀ j : Nat, j < 30 → gi σ 16 j = κ (50 + j)) :
    Ho (fX10_findBends N 15 σ) (fun τ => (∀ j : Int, 0 ≤ j → j ≤ 9 → gi τ 17 j.toNat = zI (bendS κ j)) ∧ ∀ k j, k ≠ 17 → gi τ k j = gi σ k j) := by
  have dr := hT.2.2.2.2.2.2
  unfold fX10_findBends
  rw [hd]
  simp (disch := omega) only [zl_0, zl_2, zl_10, e_min, e_max, Option.bind_some, zI_mul]
  rw [show max 0 (min 2 (kI κ 310)) * 10 = 10 * kI κ 310 by omega]
  refine lp_for (S := qMem) (R := qMem) (fun n i s => fX10_findBends_l18 N 15 n (zI (10 * kI κ 310)) (zI i) s) (fun i s => 0 ≤ i ∧ (∀ j : Int, 0 ≤ j → j < i → gi s 17 j.toNat = zI (bendS κ j)) ∧ ∀ k j, k ≠ 17 → gi s k j = gi σ k j) _ 10 ?_ ?_ N 0 σ (by omega) (by omega) ?_
  · intro n s ⟨_, h1, h2⟩
    show Ho (fX10_findBends_s18 N 15 _ _ _ _) _
    unfold fX10_findBends_s18
    simp (disch := omega) only [zl_10, zI_le]
    rw [if_pos (by omega)]
    exact Ho_some ⟨fun j a b => h1 j a (by omega), h2⟩
  · intro n i s hi ⟨h0, h1, h2⟩ hc
    show Ho (fX10_findBends_s18 N 15 _ _ _ _) _
    unfold fX10_findBends_s18
    simp (disch := omega) only [zl_0, zl_1, zl_9, zl_10, zI_le, zI_add, zI_sub, e_min, e_max, Option.bind_some, zI_ckT, zI_clamp, if_true, nmI, nmM]
    rw [if_neg (by omega)]
    have rd : ∀ d : Int, 0 ≤ d → d ≤ 9 → gi s (15 + 1) (10 * kI κ 310 + d).toNat = zI (slowS κ d) := by
      intro d d0 d1
      rw [h2 _ _ (by omega)]
      refine (hs _ (by omega)).trans ((zI_of _).symm.trans ?_)
      unfold slowS kI
      rw [show 50 + (10 * (κ (Int.toNat 310)).toInt + d).toNat = (50 + 10 * (κ (Int.toNat 310)).toInt + d).toNat by have : kI κ 310 = (κ (Int.toNat 310)).toInt := rfl; omega]
    rw [rd _ (by omega) (by omega), rd _ (by omega) (by omega), e_compare (a := slowS κ (min (i + 1) 9)) (b := slowS κ (max (i - 1) 0)) (kI_lo _ _) (kI_hi _ _) (kI_lo _ _) (kI_hi _ _), Option.bind_some]
    refine hc _ ⟨by omega, fun j j0 j1 => ?_, fun k j hk => ?_⟩
    · rw [gi_si]
      by_cases q : j = i
      · rw [if_pos (by omega), q]
        rfl
      · rw [if_neg (by omega)]
        exact h1 j j0 (by omega)
    · rw [gi_si, if_neg (by omega)]
      exact h2 k j hk
  · exact ⟨by omega, fun j a b => by omega, fun _ _ _ => rfl⟩
def rayW (κ : Nat → Int32) (d : Int) (r : Nat) : Nat → Nat → Bool
  | 0, _ => false
  | m + 1, t => rayW κ d r m t || decide ((rayS κ d ((m : Int) - 2) r).1 = (t : Int))
theorem e_rays {N : Nat} {σ : qMem} {κ : Nat → Int32} {d last : Int} (hN : 200000 ≤ N) (hT : KT κ) (hd : gi σ 15 2 = zI (kI κ 310)) (hs : ∀ j : Nat, j < 30 → gi σ 16 j = κ (50 + j)) (d0 : 0 ≤ d) (d1 : d ≤ 9) (l0 : 0 ≤ last) (l1 : last ≤ 200) :
    Ho (fX10_sendRays N 15 (zI d) (zI last) σ) (fun τ => (∀ r : Nat, (r : Int) ≤ last → gi τ 60 r = wd (rayW κ d r 5)) ∧ ∀ k j, k ≠ 17 → k ≠ 60 → gi τ k j = gi σ k j) := by
  unfold fX10_sendRays
  rw [show (201 : Int32) - 1 = zI 200 from rfl, e_min (by omega) (by omega) (by omega) (by omega), Option.bind_some, show min last 200 = last by omega]
  refine Ho_bind (e_fill hN (by omega)) fun σ1 f1 => ?_
  refine Ho_bind (e_bends (κ := κ) hN hT (by rw [f1, if_neg (by omega)]; exact hd) (fun j hj => by rw [f1, if_neg (by omega)]; exact hs j hj)) fun σ2 ⟨b1, b2⟩ => ?_
  rw [show (-2 : Int32) = zI (-2) from rfl]
  refine lp_for (S := qMem) (R := qMem) (fun n i s => fX10_sendRays_l23 N 15 n (zI d) (zI last) (zI (i - 2)) s) (fun i s => 0 ≤ i ∧ (∀ r : Nat, (r : Int) ≤ last → gi s 60 r = wd (rayW κ d r i.toNat)) ∧ ∀ k j, k ≠ 60 → gi s k j = gi σ2 k j) _ 5 ?_ ?_ N 0 σ2 (by omega) (by omega) ?_
  · intro n s ⟨_, h1, h2⟩
    show Ho (fX10_sendRays_s23 N 15 _ _ _ _ _) _
    unfold fX10_sendRays_s23
    simp (disch := omega) only [zl_2, zI_lt]
    rw [if_pos (by omega)]
    refine Ho_some ⟨h1, fun k j k1 k2 => ?_⟩
    rw [h2 k j k2, b2 k j k1, f1, if_neg (by omega)]
  · intro n m s hm ⟨h0, h1, h2⟩ hc
    show Ho (fX10_sendRays_s23 N 15 _ _ _ _ _) _
    unfold fX10_sendRays_s23
    simp (disch := omega) only [zl_2, zI_lt]
    rw [if_neg (by omega), show (0 : Int32) = zI 0 from rfl]
    have hr : ∀ r : Nat, (0 ≤ (rayS κ d (m - 2) r).1 ∧ (rayS κ d (m - 2) r).1 ≤ 9) ∧ (-2 ≤ (rayS κ d (m - 2) r).2 ∧ (rayS κ d (m - 2) r).2 ≤ 2) := fun r => rayS_rng ⟨d0, d1⟩ (by omega) r
    refine lp_for (S := Int × Int × qMem) (R := qMem) (fun n' i s => fX10_sendRays_l39 N 15 (fX10_sendRays_l23 N 15 n) n' (zI d) (zI last) (zI (m - 2)) (zI s.1) (zI s.2.1) (zI i) s.2.2)
      (fun i s => 0 ≤ i ∧ (s.1, s.2.1) = rayS κ d (m - 2) i.toNat ∧ (∀ r : Nat, (r : Int) ≤ last → gi s.2.2 60 r = wd (rayW κ d r (if (r : Int) < i then m.toNat + 1 else m.toNat))) ∧ ∀ k j, k ≠ 60 → gi s.2.2 k j = gi σ2 k j) _ (last + 1) ?_ ?_ N 0 (d, m - 2, s) (by omega) (by omega) ?_
    · intro n' s' ⟨i0, e1, e2, e3⟩
      show Ho (fX10_sendRays_s39 N 15 _ _ _ _ _ _ _ _ _) _
      unfold fX10_sendRays_s39
      simp (disch := omega) only [zl_1, zI_lt, zI_add]
      rw [if_pos (by omega), show m - 2 + 1 = m + 1 - 2 by omega]
      refine hc _ ⟨by omega, fun r hr2 => ?_, e3⟩
      rw [e2 r hr2, if_pos (by omega), show (m + 1).toNat = m.toNat + 1 by omega]
    · intro n' i s' hi ⟨i0, e1, e2, e3⟩ hc2
      obtain ⟨dp, sl, ρ⟩ := s'
      simp only at e1 e2 e3
      have hri := hr i.toNat
      rw [← e1] at hri
      simp only at hri
      show Ho (fX10_sendRays_s39 N 15 _ _ _ _ _ _ _ _ _) _
      unfold fX10_sendRays_s39 fX10_sendRays_b122
      have e17 : ∀ x : Int32, gi (si ρ 60 i.toNat x) (15 + 2) dp.toNat = zI (bendS κ dp) := by
        intro x
        rw [gi_si, if_neg (by omega), e3 _ _ (by omega)]
        exact b1 dp hri.1.1 hri.1.2
      have hb := bendS_rng κ dp
      simp (disch := omega) only [zl_0, zl_1, zl_2, zl_9, zl_18, zI_neg, zI_lt, zI_ckT, zI_clamp, if_true, nmM, e17, zI_add, zI_sub, e_min, e_max, Option.bind_some, zI_le]
      rw [if_neg (by omega)]
      have ew : gi ρ 60 i.toNat ||| zI 1 <<< (zI dp &&& 31) = wd (rayW κ d i.toNat (m.toNat + 1)) := by
        rw [e2 _ (by omega), if_neg (by omega), zI_nat hri.1.1]
        show wd _ ||| (1 : Int32) <<< (nI dp.toNat &&& 31) = _
        rw [wd_one (by omega), wd_or]
        apply wd_congr
        intro t _
        rw [rayW, show ((m.toNat : Nat) : Int) = m by omega, ← e1]
        congr 1
        exact decide_eq_decide.mpr (by simp only; omega)
      have fin : ∀ p : Int × Int, p = rayT (dp, sl) (bendS κ dp) → Ho (fX10_sendRays_l39 N 15 (fX10_sendRays_l23 N 15 n) n' (zI d) (zI last) (zI (m - 2)) (zI p.1) (zI p.2) (zI (i + 1)) (si ρ 60 i.toNat (wd (rayW κ d i.toNat (m.toNat + 1))))) (fun τ => (∀ r : Nat, (r : Int) ≤ last → gi τ 60 r = wd (rayW κ d r 5)) ∧ ∀ k j, k ≠ 17 → k ≠ 60 → gi τ k j = gi σ k j) := by
        intro p hp
        refine hc2 (p.1, p.2, si ρ 60 i.toNat (wd (rayW κ d i.toNat (m.toNat + 1)))) ⟨by omega, ?_, fun r hr2 => ?_, fun k j hk => ?_⟩
        · rw [show (i + 1).toNat = i.toNat + 1 by omega, rayS, ← e1]
          exact hp
        · show gi (si ρ 60 i.toNat (wd (rayW κ d i.toNat (m.toNat + 1)))) 60 r = _
          rw [gi_si]
          by_cases q : r = i.toNat
          · rw [if_pos ⟨rfl, q⟩, if_pos (by omega), q]
          · rw [if_neg (by omega), e2 r hr2]
            by_cases q2 : (r : Int) < i
            · rw [if_pos q2, if_pos (by omega)]
            · rw [if_neg q2, if_neg (by omega)]
        · show gi (si ρ 60 i.toNat (wd (rayW κ d i.toNat (m.toNat + 1)))) k j = _
          rw [gi_si, if_neg (by omega)]
          exact e3 k j hk
      have e31 : zI 1 <<< (zI dp &&& zI 31) = zI 1 <<< (zI dp &&& 31) := rfl
      rw [ew]
      have e18 : max (-2) (min 2 (sl + bendS κ dp)) = max (-2) (min 2 (sl + bendS κ dp)) := rfl
      by_cases q : 0 ≤ dp + max (-2) (min 2 (sl + bendS κ dp))
      · rw [if_pos q]
        by_cases q2 : dp + max (-2) (min 2 (sl + bendS κ dp)) ≤ 9
        · rw [if_pos q2]
          refine fin (_, _) ?_
          unfold rayT
          rw [if_neg (by simp only; omega), if_neg (by simp only; omega)]
        · rw [if_neg q2]
          refine fin (_, _) ?_
          unfold rayT
          rw [if_neg (by simp only; omega), if_pos (by simp only; omega)]
      · rw [if_neg q]
        refine fin (_, _) ?_
        unfold rayT
        rw [if_pos (by simp only; omega)]
    · refine ⟨by omega, rfl, fun r hr2 => ?_, h2⟩
      show gi s 60 r = _
      rw [if_neg (by omega)]
      exact h1 r hr2
  · refine ⟨by omega, fun r hr => ?_, fun _ _ _ => rfl⟩
    rw [b2 _ _ (by omega), f1, if_pos ⟨rfl, by omega⟩]
    exact wd_zero.symm
theorem near_mask : ∀ t, t < 10 → ((7 : Int32) <<< (nI t &&& 31)) >>> ((1 : Int32) &&& 31) = wd (fun j => decide (t ≤ j + 1 ∧ j ≤ t + 1)) := by decide +kernel
theorem e_near {κ : Nat → Int32} {d t : Int} {r : Nat} (d0 : 0 ≤ d) (d1 : d ≤ 9) (t0 : 0 ≤ t) (t1 : t ≤ 9) : fX10_isNear (wd (rayW κ d r 5)) (zI t) = some (bI (reachB κ d t r)) := by
  unfold fX10_isNear
  rw [zI_nat t0, near_mask _ (by omega), wd_and]
  have key : wd (fun j => rayW κ d r 5 j && decide (t.toNat ≤ j + 1 ∧ j ≤ t.toNat + 1)) = 0 ↔ reachB κ d t r = false := by
    rw [wd_eq0]
    have hr : ∀ s : Int, -2 ≤ s → s ≤ 2 → 0 ≤ (rayS κ d s r).1 ∧ (rayS κ d s r).1 ≤ 9 := fun s s0 s1 => (rayS_rng ⟨d0, d1⟩ ⟨s0, s1⟩ r).1
    unfold reachB
    rw [show ((r : Int)).toNat = r by omega]
    simp only [Bool.or_eq_false_iff]
    have one : ∀ s : Int, -2 ≤ s → s ≤ 2 → (nearB (rayS κ d s r).1 t = false ↔ ¬ (t.toNat ≤ (rayS κ d s r).1.toNat + 1 ∧ (rayS κ d s r).1.toNat ≤ t.toNat + 1)) := by
      intro s s0 s1
      have := hr s s0 s1
      unfold nearB
      rw [decide_eq_false_iff_not]
      omega
    have hW : ∀ j : Nat, rayW κ d r 5 j = true ↔ ((rayS κ d (-2) r).1 = j ∨ (rayS κ d (-1) r).1 = j ∨ (rayS κ d 0 r).1 = j ∨ (rayS κ d 1 r).1 = j ∨ (rayS κ d 2 r).1 = j) := by
      intro j
      have e0 : ((0 : Nat) : Int) - 2 = -2 := rfl
      have e1 : ((1 : Nat) : Int) - 2 = -1 := rfl
      have e2 : ((2 : Nat) : Int) - 2 = 0 := rfl
      have e3 : ((3 : Nat) : Int) - 2 = 1 := rfl
      have e4 : ((4 : Nat) : Int) - 2 = 2 := rfl
      simp only [rayW, e0, e1, e2, e3, e4, Bool.or_eq_true, decide_eq_true_eq, Bool.false_eq_true, false_or]
      omega
    rw [one (-2) (by omega) (by omega), one (-1) (by omega) (by omega), one 0 (by omega) (by omega), one 1 (by omega) (by omega), one 2 (by omega) (by omega)]
    constructor
    · intro h
      have go : ∀ s : Int, -2 ≤ s → s ≤ 2 → rayW κ d r 5 (rayS κ d s r).1.toNat = true → ¬ (t.toNat ≤ (rayS κ d s r).1.toNat + 1 ∧ (rayS κ d s r).1.toNat ≤ t.toNat + 1) := by
        intro s s0 s1 hw hn
        have h2 := h (rayS κ d s r).1.toNat (by have := hr s s0 s1; omega)
        rw [hw, decide_eq_true hn] at h2
        cases h2
      have a0 := hr (-2) (by omega) (by omega)
      have a1 := hr (-1) (by omega) (by omega)
      have a2 := hr 0 (by omega) (by omega)
      have a3 := hr 1 (by omega) (by omega)
      have a4 := hr 2 (by omega) (by omega)
      exact ⟨⟨⟨⟨go (-2) (by omega) (by omega) ((hW _).mpr (by omega)), go (-1) (by omega) (by omega) ((hW _).mpr (by omega))⟩, go 0 (by omega) (by omega) ((hW _).mpr (by omega))⟩, go 1 (by omega) (by omega) ((hW _).mpr (by omega))⟩, go 2 (by omega) (by omega) ((hW _).mpr (by omega))⟩
    · intro h j hj
      by_cases q : rayW κ d r 5 j = true
      · have := (hW j).mp q
        rw [q, Bool.true_and, decide_eq_false_iff_not]
        omega
      · rw [Bool.not_eq_true] at q
        rw [q]
        rfl
  by_cases q : reachB κ d t r = true
  · rw [if_neg (fun z => by rw [key.mp z] at q; cases q), q]; rfl
  · rw [Bool.not_eq_true] at q
    rw [if_pos (key.mpr q), q]; rfl
theorem wd_shl1 (f : Nat → Bool) : wd f <<< ((1 : Int32) &&& 31) = wd (fun j => decide (1 ≤ j) && f (j - 1)) := by
  apply wd_ext
  intro j hj
  have := b_shl 1 (by omega) (wd f) hj
  refine this.trans ?_
  by_cases q : 1 ≤ j
  · rw [bt_wd f (by omega)]
  · simp [q]
theorem wd_or1 (f : Nat → Bool) (b : Bool) : wd f ||| bI b = wd (fun j => f j || (decide (j = 0) && b)) := by
  apply wd_ext
  intro j hj
  rw [b_or, bt_wd f hj]
  congr 1
  cases b
  · rw [bI_f, b_0]; simp
  · rw [bI_t, b_1]; simp
theorem e_settle {N k : Nat} {σ : qMem} {P : Int → Bool} (hN : 200000 ≤ N) (hc : ∀ j : Nat, j < 201 → gi σ (k + 1) j = bI (P j)) :
    Ho (fX7_settle N k σ) (fun τ => ringOK τ.1 k P ∧ ∀ k' j, k' ≠ k + 2 → gi τ k' j = gi σ k' j) := by
  unfold fX7_settle
  have e0 : (0 : Int32) = wd (fun i => decide ((201 : Int) + i ≤ 200) && P (szS (201 + i))) := by
    rw [← wd_zero]
    apply wd_congr
    intro j hj
    rw [decide_eq_false (by omega)]
    rfl
  rw [e0, show (200 : Int32) = zI 200 from rfl]
  refine lp_for (S := qMem) (R := qMem) (fun n i s => fX7_settle_l6 N k n (wd (fun j => decide ((201 - i) + (j : Int) ≤ 200) && P (szS ((201 - i) + j)))) (zI (200 - i)) s)
    (fun i s => 0 ≤ i ∧ (∀ j : Nat, j < 401 → 400 - (j : Int) < i → gi s (k + 2) j = wd (fun x => decide ((j : Int) - 200 + x ≤ 200) && P (szS ((j : Int) - 200 + x)))) ∧ ∀ k' j, k' ≠ k + 2 → gi s k' j = gi σ k' j) _ 401 ?_ ?_ N 0 σ (by omega) (by omega) ?_
  · intro n s ⟨_, h1, h2⟩
    show Ho (fX7_settle_s6 N k _ _ _ _) _
    unfold fX7_settle_s6
    simp (disch := omega) only [zl_200, zI_neg, zI_lt]
    rw [if_pos (by omega)]
    refine Ho_some ⟨⟨fun j hj => ?_, fun j hj => h1 j hj (by omega)⟩, h2⟩
    exact (h2 (k + 1) j (by omega)).trans (hc j hj)
  · intro n i s hi ⟨h0, h1, h2⟩ hcc
    show Ho (fX7_settle_s6 N k _ _ _ _) _
    unfold fX7_settle_s6 fX7_settle_b33
    have ea : max (200 - i) (-(200 - i)) = szS (200 - i) := rfl
    have eb : 0 ≤ szS (200 - i) ∧ szS (200 - i) ≤ 200 := by unfold szS; omega
    simp (disch := omega) only [zI_neg, zI_lt, zl_200, e_abs, Option.bind_some, ea, zI_ckT, zI_clamp, if_true]
    rw [if_neg (by omega), h2 _ _ (by omega), hc _ (by omega), show (((szS (200 - i)).toNat : Nat) : Int) = szS (200 - i) by omega, wd_shl1]
    have fin : ∀ b : Bool, b = P (szS (200 - i)) → Ho (if ck (zI (200 - i) + zI 200) 401 = true then nmM (si s (k + 2) (zI (200 - i) + zI 200).toNatClampNeg ((wd fun j => decide (1 ≤ j) && (decide (201 - i + ((j - 1 : Nat) : Int) ≤ 200) && P (szS (201 - i + ((j - 1 : Nat) : Int))))) ||| bI b)) (fun s2 => fX7_settle_l6 N k n ((wd fun j => decide (1 ≤ j) && (decide (201 - i + ((j - 1 : Nat) : Int) ≤ 200) && P (szS (201 - i + ((j - 1 : Nat) : Int))))) ||| bI b) (zI (200 - i) + (-1)) s2) else none) (fun τ => ringOK τ.1 k P ∧ ∀ k' j, k' ≠ k + 2 → gi τ k' j = gi σ k' j) := by
      intro b hb
      have ew : (wd fun j => decide (1 ≤ j) && (decide (201 - i + ((j - 1 : Nat) : Int) ≤ 200) && P (szS (201 - i + ((j - 1 : Nat) : Int))))) ||| bI b = wd (fun j => decide ((201 - (i + 1)) + (j : Int) ≤ 200) && P (szS ((201 - (i + 1)) + j))) := by
        rw [wd_or1]
        apply wd_congr
        intro j hj
        by_cases q : j = 0
        · subst q
          rw [hb]
          have e1 : 201 - (i + 1) + ((0 : Nat) : Int) = 200 - i := by omega
          rw [e1, decide_eq_true (show 200 - i ≤ 200 by omega)]
          simp
        · have e1 : 201 - (i + 1) + (j : Int) = 201 - i + ((j - 1 : Nat) : Int) := by omega
          rw [e1, decide_eq_true (show 1 ≤ j by omega)]
          simp [q]
      rw [ew, show zI (200 - i) + (-1) = zI (200 - (i + 1)) by rw [zl_1, zI_neg, zI_add]; congr 1; omega]
      simp (disch := omega) only [zI_add, zI_ckT, zI_clamp, if_true, nmM]
      refine hcc _ ⟨by omega, fun j hj hj2 => ?_, fun k' j hk => ?_⟩
      · rw [gi_si]
        by_cases q : j = (200 - i + 200).toNat
        · rw [if_pos ⟨rfl, q⟩]
          have e1 : 201 - (i + 1) = (j : Int) - 200 := by omega
          rw [e1]
        · rw [if_neg (by omega)]
          exact h1 j hj (by omega)
      · rw [gi_si, if_neg (by omega)]
        exact h2 k' j hk
    by_cases q : P (szS (200 - i)) = true
    · rw [q, bI_t, if_neg (by decide)]
      exact fin true q.symm
    · rw [Bool.not_eq_true] at q
      rw [q, bI_f, if_pos rfl]
      exact fin false q.symm
  · exact ⟨by omega, fun j _ hj => by omega, fun _ _ _ => rfl⟩
theorem e_putR {k : Nat} {σ : qMem} {r : Int} (b : Bool) (h0 : 0 ≤ r) (h1 : r ≤ 200) : fX7_put k (zI r) (bI b) σ = some (si σ (k + 1) r.toNat (bI b)) := by
  unfold fX7_put
  simp (disch := omega) only [zl_0, zl_200, zI_lt, zI_ckT, zI_clamp, if_true, bI_nar, nmM]
  rw [if_neg (by omega), if_neg (by omega)]
theorem e_tune {N : Nat} {σ : qMem} {κ : Nat → Int32} (hN : 200000 ≤ N) (hb : bookK σ.1 1 κ) (hk : KW κ) (hcc : CC σ.1 κ) :
    Ho (fX3_tune N σ) (fun τ => tunes τ.1 κ ∧ gi τ 44 16 ≠ 0 ∧ ∀ k j, ¬ (k = 17 ∨ (51 ≤ k ∧ k ≤ 56) ∨ k = 60 ∨ (k = 44 ∧ j = 16)) → gi τ k j = gi σ k j) := by
  obtain ⟨t1, t2, t3, t4, _⟩ := hb
  obtain ⟨k1, k2, _⟩ := hk
  unfold fX3_tune
  by_cases q : gi σ 44 16 = 0
  · rw [if_pos q]
    have c3 : (ck (3 : Int32) 6 = true) = True := by decide
    have z3 : (3 : Int32).toNatClampNeg = 3 := rfl
    simp only [c3, if_true, z3]
    have e3 : gi σ 18 3 = zI (kI κ 47) := (t4 3 (by omega)).trans (zI_of _).symm
    have t47 := k2.2.2.2.1
    rw [e3, show (200 : Int32) = zI 200 from rfl]
    refine Ho_bind (e_rays (κ := κ) hN k2 (t3.1.trans (zI_of _).symm) t3.2 t47.1 t47.2 (by omega) (by omega)) fun σ1 ⟨r1, r2⟩ => ?_
    rw [show (0 : Int32) = zI 0 from rfl]
    have hdep : ∀ b : Nat, b < 2 → gi σ (3 + 6 * b) 4 = zI (depS κ b) := by
      intro b hb
      rcases (by omega : b = 0 ∨ b = 1) with rfl | rfl
      · exact t1.1.trans (zI_of _).symm
      · exact t2.1.trans (zI_of _).symm
    have hdr : ∀ b : Nat, b < 2 → 0 ≤ depS κ b ∧ depS κ b ≤ 9 := fun b hb => (k1 b (by omega) (by omega)).2.2.1
    refine lp_for (S := qMem) (R := qMem) (fun n i s => fX3_tune_l36 N n (zI i) s) (fun i s => 0 ≤ i ∧ (∀ b : Nat, (b : Int) < i → ringOK s.1 (51 + 3 * b) (fun r => reachB κ (kI κ 47) (depS κ b) r)) ∧ (∀ k j, ¬ (51 ≤ k ∧ k ≤ 56) → gi s k j = gi σ1 k j)) _ 2 ?_ ?_ N 0 σ1 (by omega) (by omega) ?_
    · intro n s ⟨_, h1, h2⟩
      show Ho (fX3_tune_s36 N _ _ _) _
      unfold fX3_tune_s36
      simp (disch := omega) only [zl_2, zI_le]
      rw [if_pos (by omega)]
      refine Ho_some ⟨fun b hb => ?_, ?_, fun k j hk => ?_⟩
      · have h3 := h1 b (by omega)
        refine ⟨fun j hj => ?_, fun j hj => ?_⟩
        · show gi (si s 44 16 1) (51 + 3 * b + 1) j = _
          rw [gi_si, if_neg (by omega)]
          exact h3.1 j hj
        · show gi (si s 44 16 1) (51 + 3 * b + 2) j = _
          rw [gi_si, if_neg (by omega)]
          exact h3.2 j hj
      · show gi (si s 44 16 1) 44 16 ≠ 0
        rw [gi_si, if_pos ⟨rfl, rfl⟩]
        decide
      · show gi (si s 44 16 1) k j = _
        rw [gi_si, if_neg (by omega), h2 k j (by omega), r2 k j (by omega) (by omega)]
    · intro n i s hi ⟨h0, h1, h2⟩ hc
      show Ho (fX3_tune_s36 N _ _ _) _
      obtain ⟨b, rfl⟩ : ∃ b : Nat, i = b := ⟨i.toNat, by omega⟩
      unfold fX3_tune_s36
      simp (disch := omega) only [zl_2, zI_le]
      rw [if_neg (by omega), show (0 : Int32) = zI 0 from rfl]
      refine lp_for (S := qMem) (R := qMem) (fun n' r s => fX3_tune_l43 N (fX3_tune_l36 N n) n' (zI b) (zI r) s) (fun r s => 0 ≤ r ∧ (∀ x : Nat, (x : Int) < b → ringOK s.1 (51 + 3 * x) (fun r => reachB κ (kI κ 47) (depS κ x) r)) ∧ (∀ j : Nat, (j : Int) < r → gi s (51 + 3 * b + 1) j = bI (reachB κ (kI κ 47) (depS κ b) j)) ∧ (∀ k j, ¬ (51 ≤ k ∧ k ≤ 56) → gi s k j = gi σ1 k j)) _ 201 ?_ ?_ N 0 s (by omega) (by omega) ⟨by omega, h1, fun j hj => by omega, h2⟩
      · intro n' s' ⟨_, g1, g2, g3⟩
        show Ho (fX3_tune_s43 N _ _ _ _ _) _
        unfold fX3_tune_s43
        simp (disch := omega) only [zl_1, zl_200, zI_lt, zI_ckT, zI_clamp, if_true, zI_add, Int.toNat_natCast]
        rw [if_pos (by omega)]
        refine Ho_bind (e_settle (k := 51 + 3 * b) (P := fun r => reachB κ (kI κ 47) (depS κ b) r) hN (fun j hj => g2 j (by omega))) fun s2 ⟨u1, u2⟩ => ?_
        refine hc s2 ⟨by omega, fun x hx => ?_, fun k j hk => ?_⟩
        · by_cases qx : x = b
          · rw [qx]; exact u1
          · have g4 := g1 x (by omega)
            refine ⟨fun j hj => ?_, fun j hj => ?_⟩
            · exact (u2 (51 + 3 * x + 1) j (by omega)).trans (g4.1 j hj)
            · exact (u2 (51 + 3 * x + 2) j (by omega)).trans (g4.2 j hj)
        · rw [u2 k j (by omega)]; exact g3 k j hk
      · intro n' r s' hr ⟨r0, g1, g2, g3⟩ hc2
        show Ho (fX3_tune_s43 N _ _ _ _ _) _
        unfold fX3_tune_s43
        simp (disch := omega) only [zl_1, zl_200, zI_lt, zI_ckT, zI_clamp, if_true, zI_add, Int.toNat_natCast]
        rw [if_neg (by omega), g3 60 _ (by omega), g3 (3 + 6 * b) 4 (by omega), r1 _ (by omega), r2 (3 + 6 * b) 4 (by omega) (by omega), hdep b (by omega), e_near t47.1 t47.2 (hdr b (by omega)).1 (hdr b (by omega)).2, Option.bind_some, e_putR _ r0 (by omega), Option.bind_some]
        refine hc2 _ ⟨by omega, fun x hx => ?_, fun j hj => ?_, fun k j hk => ?_⟩
        · have g4 := g1 x hx
          refine ⟨fun j hj => ?_, fun j hj => ?_⟩
          · show gi (si s' (51 + 3 * b + 1) _ _) (51 + 3 * x + 1) j = _
            rw [gi_si, if_neg (by omega)]
            exact g4.1 j hj
          · show gi (si s' (51 + 3 * b + 1) _ _) (51 + 3 * x + 2) j = _
            rw [gi_si, if_neg (by omega)]
            exact g4.2 j hj
        · rw [gi_si]
          by_cases qj : j = r.toNat
          · rw [if_pos ⟨rfl, qj⟩, qj]
          · rw [if_neg (by omega)]
            exact g2 j (by omega)
        · rw [gi_si, if_neg (by omega)]
          exact g3 k j hk
    · exact ⟨by omega, fun b hb => by omega, fun _ _ _ => rfl⟩
  · rw [if_neg q]
    exact Ho_some ⟨hcc.2.2.2.1 q, q, fun _ _ _ => rfl⟩
theorem e_ringcol {k : Nat} {σ : qMem} {P : Int → Bool} {e low : Int} (h : ringOK σ.1 k P) (e0 : -200 ≤ e) (e1 : e ≤ 200) (l0 : -200 ≤ low) (l1 : low ≤ 169) : fX7_column k (zI e) (zI low) σ = some (wd fun j => P (mxS e (low + j))) := by
  unfold fX7_column
  have ea : max e (-e) = szS e := rfl
  have eb : 0 ≤ szS e ∧ szS e ≤ 200 := by unfold szS; omega
  have u := h.2 (low + 200).toNat (by omega)
  rw [show (((low + 200).toNat : Nat) : Int) - 200 = low by omega] at u
  have cc := h.1 (szS e).toNat (by omega)
  rw [show (((szS e).toNat : Nat) : Int) = szS e by omega] at cc
  have u' : gi σ (k + 2) (low + 200).toNat = _ := u
  have cc' : gi σ (k + 1) (szS e).toNat = _ := cc
  simp (disch := omega) only [zI_neg, zl_200, e_abs, Option.bind_some, ea, zI_lt, zI_le, zI_sub, zI_add, e_bits, zI_ckT, zI_clamp, if_true, u', cc']
  rw [if_neg (by omega), if_neg (by omega), if_pos (by omega), wd_not, wd_and]
  have key : ∀ j : Nat, j < 32 → ((decide (low + (j : Int) ≤ 200) && P (szS (low + j))) && !decide (-szS e - low ≤ (j : Int) ∧ (j : Int) ≤ szS e - low) || (decide (-szS e - low ≤ (j : Int) ∧ (j : Int) ≤ szS e - low) && P (szS e))) = P (mxS e (low + j)) := by
    intro j hj
    rw [decide_eq_true (show low + (j : Int) ≤ 200 by omega), Bool.true_and]
    by_cases q : -szS e - low ≤ (j : Int) ∧ (j : Int) ≤ szS e - low
    · rw [decide_eq_true q]
      have em : mxS e (low + j) = szS e := by unfold mxS szS at *; omega
      rw [em]
      simp
    · rw [decide_eq_false q]
      have em : mxS e (low + j) = szS (low + j) := by unfold mxS szS at *; omega
      rw [em]
      simp
  by_cases q : P (szS e) = true
  · rw [q, bI_t, if_neg (by decide), wd_or]
    congr 1
    apply wd_congr
    intro j hj
    rw [← key j hj, q, Bool.and_true]
  · rw [Bool.not_eq_true] at q
    rw [q, bI_f, if_pos rfl, ← wd_zero, wd_or]
    congr 1
    apply wd_congr
    intro j hj
    rw [← key j hj, q, Bool.and_false]
