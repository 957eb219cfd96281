/-! boats: start, legs, where -/
section SB
variable {κ κ' : Nat → Int32} {b : Int}
def sameB (κ κ' : Nat → Int32) (b : Int) : Prop := ∀ j : Nat, 22 * b ≤ (j : Int) → (j : Int) < 22 * b + 22 → κ' j = κ j
theorem kI_b (h0 : 0 ≤ b) (h : sameB κ κ' b) {j : Int} (c1 : 22 * b ≤ j) (c2 : j < 22 * b + 22) : kI κ' j = kI κ j := kI_e (h _ (by omega) (by omega))
theorem velR_b (h0 : 0 ≤ b) (h : sameB κ κ' b) {w bell : Int} (hw : w = 0 ∨ w = 1) (n : Nat) (hn : n ≤ 6) : velR κ' b w bell n = velR κ b w bell n := by
  induction n with
  | zero => rfl
  | succ n ih =>
    have e1 : legB κ' b n = legB κ b n := kI_b h0 h (by omega) (by omega)
    have e2 : legV κ' b n w = legV κ b n w := kI_b h0 h (by omega) (by omega)
    rw [velR, velR, ih (by omega), e1, e2]
theorem velS_b (h0 : 0 ≤ b) (h : sameB κ κ' b) (hn : legN κ b ≤ 6) {w bell : Int} (hw : w = 0 ∨ w = 1) : velS κ' b w bell = velS κ b w bell := by
  have e : legN κ' b = legN κ b := kI_b h0 h (by omega) (by omega)
  unfold velS
  rw [e, velR_b h0 h hw _ (by omega)]
theorem pos_b (h0 : 0 ≤ b) (h : sameB κ κ' b) (hn : legN κ b ≤ 6) {bell w : Int} (hw : w = 0 ∨ w = 1) : pos κ' b bell w = pos κ b bell w := by
  unfold pos
  generalize bell.toNat = n
  induction n with
  | zero => exact kI_b h0 h (by omega) (by omega)
  | succ n ih => rw [posN, posN, ih, velS_b h0 h hn hw]
theorem spd_b (h0 : 0 ≤ b) (h : sameB κ κ' b) (hn : legN κ b ≤ 6) {bell : Int} : spd κ' b bell = spd κ b bell := by
  unfold spd
  rw [velS_b h0 h hn (Or.inl rfl), velS_b h0 h hn (Or.inr rfl)]
def KB1 (κ : Nat → Int32) (b : Int) : Prop := (0 ≤ kI κ (22 * b) ∧ kI κ (22 * b) ≤ 31) ∧ (0 ≤ kI κ (22 * b + 1) ∧ kI κ (22 * b + 1) ≤ 31) ∧ (0 ≤ depS κ b ∧ depS κ b ≤ 9) ∧ (0 ≤ legN κ b ∧ legN κ b ≤ 6) ∧
  (∀ l : Int, 0 ≤ l → l < legN κ b → (0 ≤ legB κ b l ∧ legB κ b l ≤ 23) ∧ (-3 ≤ legV κ b l 0 ∧ legV κ b l 0 ≤ 3) ∧ (-3 ≤ legV κ b l 1 ∧ legV κ b l 1 ≤ 3)) ∧
  (∀ l : Int, 0 ≤ l → l + 1 < legN κ b → legB κ b l < legB κ b (l + 1))
theorem KB1_b (h0 : 0 ≤ b) (h : sameB κ κ' b) (hk : KB1 κ b) : KB1 κ' b := by
  obtain ⟨a1, a2, a3, a4, a5, a6⟩ := hk
  have e : legN κ' b = legN κ b := kI_b h0 h (by omega) (by omega)
  have eB : ∀ l : Int, 0 ≤ l → l < 6 → legB κ' b l = legB κ b l := fun l _ _ => kI_b h0 h (by omega) (by omega)
  have eV : ∀ l w : Int, 0 ≤ l → l < 6 → w = 0 ∨ w = 1 → legV κ' b l w = legV κ b l w := fun l w _ _ _ => kI_b h0 h (by omega) (by omega)
  have eD : depS κ' b = depS κ b := kI_b h0 h (by omega) (by omega)
  unfold KB1
  rw [kI_b h0 h (j := 22 * b) (by omega) (by omega), kI_b h0 h (j := 22 * b + 1) (by omega) (by omega), eD, e]
  refine ⟨a1, a2, a3, a4, fun l l0 l1 => ?_, fun l l0 l1 => ?_⟩
  · rw [eB l l0 (by omega), eV l 0 l0 (by omega) (Or.inl rfl), eV l 1 l0 (by omega) (Or.inr rfl)]
    exact a5 l l0 l1
  · rw [eB l l0 (by omega), eB (l + 1) (by omega) (by omega)]
    exact a6 l l0 l1
theorem boatT_b {m m' : Nat → Nat → Int32} {o b : Nat} (h : sameB κ κ' b) (hn : legN κ b ≤ 6) (hm : ∀ k j, o ≤ k → k ≤ o + 5 → m' k j = m k j) (hbt : boatT m o κ b) : boatT m' o κ' b := by
  obtain ⟨h1, h2, h3⟩ := hbt
  refine ⟨?_, rowE_k (hm _ _ (by omega) (by omega)) (fun j => hm _ _ (by omega) (by omega)) (h _ (by omega) (by omega)) (fun j _ _ => h _ (by omega) (by omega)) h2, fun j hj => ?_⟩
  · rw [hm _ _ (by omega) (by omega), h _ (by omega) (by omega)]; exact h1
  · rw [hm _ _ (by omega) (by omega), hm _ _ (by omega) (by omega), hm _ _ (by omega) (by omega), pos_b (by omega) h hn (Or.inl rfl), pos_b (by omega) h hn (Or.inr rfl), spd_b (by omega) h hn]
    exact h3 j hj
end SB
/-- a boat is changed -/
theorem acc_boat {LW : LWt} {c : Nat} {σ τ σ1 τ1 : qMem} {ans : Int32} (b : Nat) (hb : b < 2) (hLW : LWc LW) (hc : c ≤ 600) (h0 : Inv LW c σ τ)
    (g1 : ∀ k j, ¬ (3 + 6 * b ≤ k ∧ k ≤ 3 + 6 * b + 5) → gi σ1 k j = gi σ k j) (g2 : ∀ k j, ¬ (k = 2 ∧ 22 * b ≤ j ∧ j < 22 * b + 22) → gi τ1 k j = gi τ k j)
    (hS : rowS σ1.1 (3 + 6 * b + 1) 3 6) (hT : boatT σ1.1 (3 + 6 * b) (τ1.1 2) b) (hK : KB1 (τ1.1 2) b) : Both LW c (fX11_changed ans σ1) (fX12_good ans τ1) := by
  have h := h0
  obtain ⟨v, s1, s2, s3, s4, bk, kw, lw, im, tp, ms, rf, cc, rc, wo⟩ := h
  obtain ⟨t1, t2, t3, t4, t5, t6, t7, t8, t9, t10, t11, t12, t13⟩ := bk
  obtain ⟨k1, k2, k3, k4, k5, k6, k7, k8, k9, k10⟩ := kw
  have om : ∀ k j, ¬ (3 + 6 * b ≤ k ∧ k ≤ 3 + 6 * b + 5) → σ1.1 k j = σ.1 k j := g1
  have ok : ∀ j, ¬ (22 * b ≤ j ∧ j < 22 * b + 22) → τ1.1 2 j = τ.1 2 j := fun j q => g2 2 j (by omega)
  have hB : boatT σ1.1 3 (τ1.1 2) 0 ∧ boatT σ1.1 9 (τ1.1 2) 1 ∧ KB (τ1.1 2) ∧ rowS σ1.1 4 3 6 ∧ rowS σ1.1 10 3 6 := by
    have both : ∀ x : Int, 0 ≤ x → x ≤ 1 → x = 0 ∨ x = 1 := fun x _ _ => by omega
    rcases (by omega : b = 0 ∨ b = 1) with rfl | rfl
    · refine ⟨hT, boatT_b (fun j q1 q2 => ok j (by omega)) (k1 1 (by omega) (by omega)).2.2.2.1.2 (fun k j _ _ => om k j (by omega)) t2, fun x x0 x1 => ?_, hS, ?_⟩
      · rcases both x x0 x1 with rfl | rfl
        · exact hK
        · exact KB1_b (by omega) (fun j q1 q2 => ok j (by omega)) (k1 1 (by omega) (by omega))
      · have := s1.2.1
        exact ⟨(om 10 0 (by omega)).trans this.1, (om 10 1 (by omega)).trans this.2⟩
    · refine ⟨boatT_b (fun j q1 q2 => ok j (by omega)) (k1 0 (by omega) (by omega)).2.2.2.1.2 (fun k j _ _ => om k j (by omega)) t1, hT, fun x x0 x1 => ?_, ?_, hS⟩
      · rcases both x x0 x1 with rfl | rfl
        · exact KB1_b (by omega) (fun j q1 q2 => ok j (by omega)) (k1 0 (by omega) (by omega))
        · exact hK
      · have := s1.1
        exact ⟨(om 4 0 (by omega)).trans this.1, (om 4 1 (by omega)).trans this.2⟩
  refine both_changed hLW hc h0 (fun k j q => g1 k j (by omega)) (fun k j q => g2 k j (by omega)) ?_ ?_ ?_ ?_
  · obtain ⟨_, _, y3, y4, y5, y6, y7, y8, y9, y10, y11⟩ := s1
    refine ⟨hB.2.2.2.1, hB.2.2.2.2, ?_, ?_, ?_, ?_, ?_, ?_, ?_, ?_, ?_⟩
    · exact ⟨(om _ _ (by omega)).trans y3.1, (om _ _ (by omega)).trans y3.2⟩
    · exact ⟨(om _ _ (by omega)).trans y4.1, (om _ _ (by omega)).trans y4.2⟩
    · exact ⟨(om _ _ (by omega)).trans y5.1, (om _ _ (by omega)).trans y5.2⟩
    · exact ⟨(om _ _ (by omega)).trans y6.1, (om _ _ (by omega)).trans y6.2⟩
    · exact ⟨(om _ _ (by omega)).trans y7.1, (om _ _ (by omega)).trans y7.2⟩
    · exact ⟨(om _ _ (by omega)).trans y8.1, (om _ _ (by omega)).trans y8.2⟩
    · exact ⟨(om _ _ (by omega)).trans y9.1, (om _ _ (by omega)).trans y9.2⟩
    · exact ⟨(om _ _ (by omega)).trans y10.1, (om _ _ (by omega)).trans y10.2⟩
    · exact ⟨(om _ _ (by omega)).trans y11.1, (om _ _ (by omega)).trans y11.2⟩
  · refine ⟨hB.1, hB.2.1, ?_, ?_, ?_, ?_, ?_, ?_, ?_, ?_, ?_, ?_, ?_⟩
    · exact ⟨(om _ _ (by omega)).trans (t3.1.trans (ok _ (by omega)).symm), fun j hj => (om _ _ (by omega)).trans ((t3.2 j hj).trans (ok _ (by omega)).symm)⟩
    · exact fun j hj => (om _ _ (by omega)).trans ((t4 j hj).trans (ok _ (by omega)).symm)
    · exact rowE_k (om _ _ (by omega)) (fun j => om _ _ (by omega)) (ok _ (by omega)) (fun j _ _ => ok _ (by omega)) t5
    · exact rowE_k (om _ _ (by omega)) (fun j => om _ _ (by omega)) (ok _ (by omega)) (fun j _ _ => ok _ (by omega)) t6
    · refine ⟨(om _ _ (by omega)).trans (t7.1.trans (ok _ (by omega)).symm), fun w hw => ?_⟩
      have e : kI (τ1.1 2) 302 = kI (τ.1 2) 302 := kI_e (ok _ (by omega))
      rw [e] at hw
      rw [om _ _ (by omega), om _ _ (by omega), om _ _ (by omega), om _ _ (by omega), om _ _ (by omega), ok (188 + 2 * w) (by omega), ok (188 + 2 * w + 1) (by omega)]
      exact t7.2 w hw
    · exact rowE_k (om _ _ (by omega)) (fun j => om _ _ (by omega)) (ok _ (by omega)) (fun j _ _ => ok _ (by omega)) t8
    · exact rowE_k (om _ _ (by omega)) (fun j => om _ _ (by omega)) (ok _ (by omega)) (fun j _ _ => ok _ (by omega)) t9
    · exact rowE_k (om _ _ (by omega)) (fun j => om _ _ (by omega)) (ok _ (by omega)) (fun j _ _ => ok _ (by omega)) t10
    · exact rowE_k (om _ _ (by omega)) (fun j => om _ _ (by omega)) (ok _ (by omega)) (fun j _ _ => ok _ (by omega)) t11
    · exact rowE_k (om _ _ (by omega)) (fun j => om _ _ (by omega)) (ok _ (by omega)) (fun j _ _ => ok _ (by omega)) t12
    · exact (om _ _ (by omega)).trans (t13.trans (ok _ (by omega)).symm)
  · exact ⟨hB.2.2.1, KT_k (fun j hj => ok j (by omega)) k2, KH_k (fun j hj => ok j (by omega)) k3, KE_k (fun j hj => ok j (by omega)) k4, KR_k (fun j hj => ok j (by omega)) k5, KS_k (fun j hj => ok j (by omega)) k6, KG_k (fun j hj => ok j (by omega)) k7, KO_k (fun j hj => ok j (by omega)) k8, KP_k (fun j hj => ok j (by omega)) k9, KC_k (fun j hj => ok j (by omega)) k10⟩
  · exact hLW _ _ _ _ _ _ (lawE_c (fun k j q1 q2 _ => om k j (by omega))) (fun j q1 q2 => ok j (by omega)) lw
theorem velR_at {κ : Nat → Int32} {b w bell : Int} : ∀ (n : Nat) (l0 : Int), 0 ≤ l0 → l0 ≤ n → (∀ l : Int, 0 ≤ l → l < l0 → legB κ b l ≤ bell) → (∀ l : Int, l0 ≤ l → l < n → bell < legB κ b l) → velR κ b w bell n = if l0 = 0 then 0 else legV κ b (l0 - 1) w
  | 0, l0, h0, h1, _, _ => by rw [if_pos (by omega)]; rfl
  | n + 1, l0, h0, h1, h2, h3 => by
    rw [velR]
    by_cases q : l0 = n + 1
    · rw [if_pos (h2 n (by omega) (by omega)), if_neg (by omega), show l0 - 1 = (n : Int) by omega]
    · have := h3 n (by omega) (by omega)
      rw [if_neg (by omega)]
      exact velR_at n l0 h0 (by omega) h2 (fun l a c => h3 l a (by omega))
theorem e_follow {N o : Nat} {b : Int} {κ : Nat → Int32} {σ : qMem} (hN : 200000 ≤ N) (hK : KB1 κ b) (hS : gi σ (o + 1) 0 = zI 3) (hn : gi σ (o + 1) 3 = zI (legN κ b)) (hr : ∀ j : Int, 0 ≤ j → j < 18 → gi σ (o + 2) j.toNat = zI (kI κ (22 * b + 4 + j))) (hx : gi σ (o + 3) 0 = zI (kI κ (22 * b))) (hy : gi σ (o + 4) 0 = zI (kI κ (22 * b + 1))) :
    Ho (fX1_follow N o σ) (fun τ => (∀ k j, ¬ (o + 3 ≤ k ∧ k ≤ o + 5) → gi τ k j = gi σ k j) ∧ ∀ j : Nat, j < 24 → gi τ (o + 3) j = zI (pos κ b j 0) ∧ gi τ (o + 4) j = zI (pos κ b j 1) ∧ gi τ (o + 5) j = zI (spd κ b j)) := by
  obtain ⟨a1, a2, a3, a4, a5, a6⟩ := hK
  unfold fX1_follow
  have c0 : (ck (0 : Int32) 24 = true) = True := by decide
  have z0 : (0 : Int32).toNatClampNeg = 0 := rfl
  simp only [c0, if_true, nmI, z0, hx, hy]
  refine lp_for (S := Int × Int × Int × Int × Int × qMem) (R := qMem) (fun n i s => fX1_follow_l25 N o n (zI s.1) (zI s.2.1) (zI s.2.2.1) (zI s.2.2.2.1) (zI s.2.2.2.2.1) (zI i) s.2.2.2.2.2)
    (fun i s => 0 ≤ i ∧ s.1 = posN κ b 0 i.toNat ∧ s.2.1 = posN κ b 1 i.toNat ∧ s.2.2.1 = velS κ b 0 (i - 1) ∧ s.2.2.2.1 = velS κ b 1 (i - 1) ∧ (0 ≤ s.2.2.2.2.1 ∧ s.2.2.2.2.1 ≤ legN κ b) ∧ (∀ l : Int, 0 ≤ l → l < s.2.2.2.2.1 → legB κ b l < i) ∧ (∀ l : Int, s.2.2.2.2.1 ≤ l → l < legN κ b → i ≤ legB κ b l) ∧
      (∀ k j, ¬ (o + 3 ≤ k ∧ k ≤ o + 5) → gi s.2.2.2.2.2 k j = gi σ k j) ∧ ∀ j : Nat, (j : Int) < i → gi s.2.2.2.2.2 (o + 3) j = zI (pos κ b j 0) ∧ gi s.2.2.2.2.2 (o + 4) j = zI (pos κ b j 1) ∧ gi s.2.2.2.2.2 (o + 5) j = zI (spd κ b j))
    _ 24 ?_ ?_ N 0 (kI κ (22 * b), kI κ (22 * b + 1), 0, 0, 0, σ) (by omega) (by omega) ?_
  · intro n s ⟨i0, e1, e2, e3, e4, e5, e6, e7, e8, e9⟩
    show Ho (fX1_follow_s25 N o _ _ _ _ _ _ _ _) _
    unfold fX1_follow_s25
    rw [show (24 : Int32) = zI 24 from rfl]
    simp (disch := omega) only [zI_le]
    rw [if_pos (by omega)]
    exact Ho_some ⟨e8, fun j hj => e9 j (by omega)⟩
  · intro n i s hi ⟨i0, e1, e2, e3, e4, e5, e6, e7, e8, e9⟩ hc
    obtain ⟨x, y, u, v, lg, ρ⟩ := s
    simp only at e1 e2 e3 e4 e5 e6 e7 e8 e9
    show Ho (fX1_follow_s25 N o _ _ _ _ _ _ _ _) _
    have hb85 : ∀ u' v' lg' : Int, u' = velS κ b 0 i → v' = velS κ b 1 i → (0 ≤ lg' ∧ lg' ≤ legN κ b) → (∀ l : Int, 0 ≤ l → l < lg' → legB κ b l < i + 1) → (∀ l : Int, lg' ≤ l → l < legN κ b → i + 1 ≤ legB κ b l) → Ho (fX1_follow_b85 N o (fX1_follow_l25 N o n) (zI x) (zI y) (zI u') (zI v') (zI lg') (zI i) ρ) (fun τ => (∀ k j, ¬ (o + 3 ≤ k ∧ k ≤ o + 5) → gi τ k j = gi σ k j) ∧ ∀ j : Nat, j < 24 → gi τ (o + 3) j = zI (pos κ b j 0) ∧ gi τ (o + 4) j = zI (pos κ b j 1) ∧ gi τ (o + 5) j = zI (spd κ b j)) := by
      intro u' v' lg' f1 f2 f3 f4 f5
      have hv : ∀ w : Int, w = 0 ∨ w = 1 → -3 ≤ velS κ b w i ∧ velS κ b w i ≤ 3 := by
        intro w hw
        apply velR_rng
        intro l q1 q2
        have := a5 l q1 (by omega)
        rcases hw with rfl | rfl
        · exact this.2.1
        · exact this.2.2
      have hv0 := hv 0 (Or.inl rfl)
      have hv1 := hv 1 (Or.inr rfl)
      unfold fX1_follow_b85
      simp (disch := omega) only [zl_1, zI_ckT, zI_clamp, if_true, nmM, e_abs, e_max, Option.bind_some, zI_add]
      refine hc (x + u', y + v', u', v', lg', si (si (si ρ (o + 3) i.toNat (zI x)) (o + 4) i.toNat (zI y)) (o + 5) i.toNat (zI (max (max u' (-u')) (max v' (-v'))))) ⟨by omega, ?_, ?_, ?_, ?_, f3, f4, f5, ?_, ?_⟩
      · show x + u' = _
        rw [show (i + 1).toNat = i.toNat + 1 by omega, posN, e1, f1, show ((i.toNat : Nat) : Int) = i by omega]
      · show y + v' = _
        rw [show (i + 1).toNat = i.toNat + 1 by omega, posN, e2, f2, show ((i.toNat : Nat) : Int) = i by omega]
      · show u' = _
        rw [f1, show i + 1 - 1 = i by omega]
      · show v' = _
        rw [f2, show i + 1 - 1 = i by omega]
      · intro k j hk
        simp only [gi_si]
        rw [if_neg (by omega), if_neg (by omega), if_neg (by omega)]
        exact e8 k j hk
      · intro j hj
        simp only [gi_si]
        have n1 : ¬ (o + 3 = o + 5) := by omega
        have n2 : ¬ (o + 3 = o + 4) := by omega
        have n3 : ¬ (o + 4 = o + 5) := by omega
        have n4 : ¬ (o + 4 = o + 3) := by omega
        have n5 : ¬ (o + 5 = o + 3) := by omega
        have n6 : ¬ (o + 5 = o + 4) := by omega
        simp only [n1, n2, n3, n4, n5, n6, false_and, if_false, true_and]
        by_cases q : j = i.toNat
        · rw [if_pos q, if_pos q, if_pos q]
          have ej : (j : Int) = i := by omega
          rw [ej]
          refine ⟨?_, ?_, ?_⟩
          · rw [e1]; rfl
          · rw [e2]; rfl
          · rw [f1, f2]; rfl
        · rw [if_neg q, if_neg q, if_neg q]
          exact e9 j (by omega)
    have hvel : ∀ (w lg' : Int), w = 0 ∨ w = 1 → 0 ≤ lg' → lg' ≤ legN κ b → (∀ l : Int, 0 ≤ l → l < lg' → legB κ b l < i + 1) → (∀ l : Int, lg' ≤ l → l < legN κ b → i + 1 ≤ legB κ b l) → velS κ b w i = if lg' = 0 then 0 else legV κ b (lg' - 1) w := by
      intro w lg' hw q1 q2 q3 q4
      unfold velS
      exact velR_at _ lg' q1 (by omega) (fun l r1 r2 => by have := q3 l r1 r2; omega) (fun l r1 r2 => by have := q4 l r1 (by omega); omega)
    have hvel0 : ∀ w : Int, w = 0 ∨ w = 1 → velS κ b w (i - 1) = if lg = 0 then 0 else legV κ b (lg - 1) w := by
      intro w hw
      unfold velS
      exact velR_at _ lg e5.1 (by omega) (fun l r1 r2 => by have := e6 l r1 r2; omega) (fun l r1 r2 => by have := e7 l r1 (by omega); omega)
    unfold fX1_follow_s25
    rw [show (24 : Int32) = zI 24 from rfl, e8 (o + 1) 3 (by omega), hn]
    simp (disch := omega) only [zl_0, zl_1, zl_2, zI_le, zI_add]
    rw [if_neg (by omega)]
    by_cases q : legN κ b ≤ lg
    · rw [if_pos q]
      refine hb85 u v lg ?_ ?_ e5 (fun l r1 r2 => by have := e6 l r1 r2; omega) (fun l r1 r2 => by omega)
      · rw [e3, hvel0 0 (Or.inl rfl), hvel 0 lg (Or.inl rfl) e5.1 e5.2 (fun l r1 r2 => by have := e6 l r1 r2; omega) (fun l r1 r2 => by omega)]
      · rw [e4, hvel0 1 (Or.inr rfl), hvel 1 lg (Or.inr rfl) e5.1 e5.2 (fun l r1 r2 => by have := e6 l r1 r2; omega) (fun l r1 r2 => by omega)]
    · rw [if_neg q]
      have ha : ∀ f : Int, 0 ≤ f → f ≤ 2 → fX8_at (o + 1) 18 (zI lg) (zI f) ρ = some (zI (kI κ (22 * b + 4 + 3 * lg + f))) := by
        intro f f0 f1
        rw [e_at (by rw [e8 _ _ (by omega)]; exact hS) (by rw [e8 _ _ (by omega)]; exact hn) e5.1 (by omega) f0 (by omega) (by omega) (by omega) (by omega), e8 _ _ (by omega)]
        have := hr (lg * 3 + f) (by omega) (by omega)
        rw [show o + 1 + 1 = o + 2 by omega, this, show 22 * b + 4 + (lg * 3 + f) = 22 * b + 4 + 3 * lg + f by omega]
      rw [ha 0 (by omega) (by omega), Option.bind_some, ha 1 (by omega) (by omega), Option.bind_some, ha 2 (by omega) (by omega), Option.bind_some]
      have k1 : kI κ (22 * b + 4 + 3 * lg + 0) = legB κ b lg := by unfold legB; congr 1; omega
      have k2 : kI κ (22 * b + 4 + 3 * lg + 1) = legV κ b lg 0 := by unfold legV; congr 1; omega
      have k3 : kI κ (22 * b + 4 + 3 * lg + 2) = legV κ b lg 1 := by unfold legV; congr 1; omega
      rw [k1, k2, k3]
      have hl := a5 lg e5.1 (by omega)
      have h7 := e7 lg (by omega) (by omega)
      simp (disch := omega) only [zI_eq]
      by_cases q2 : legB κ b lg = i
      · rw [if_pos q2]
        have f4 : ∀ l : Int, 0 ≤ l → l < lg + 1 → legB κ b l < i + 1 := by
          intro l r1 r2
          by_cases q3 : l = lg
          · rw [q3]; omega
          · have := e6 l r1 (by omega); omega
        have f5 : ∀ l : Int, lg + 1 ≤ l → l < legN κ b → i + 1 ≤ legB κ b l := by
          intro l r1 r2
          by_cases q3 : l = lg + 1
          · have := a6 lg e5.1 (by omega)
            rw [q3]; omega
          · have h8 := a6 (l - 1) (by omega) (by omega)
            have h9 := e7 (l - 1) (by omega) (by omega)
            rw [show l - 1 + 1 = l by omega] at h8
            omega
        refine hb85 _ _ (lg + 1) ?_ ?_ (by omega) f4 f5
        · rw [hvel 0 (lg + 1) (Or.inl rfl) (by omega) (by omega) f4 f5, if_neg (by omega), show lg + 1 - 1 = lg by omega]
        · rw [hvel 1 (lg + 1) (Or.inr rfl) (by omega) (by omega) f4 f5, if_neg (by omega), show lg + 1 - 1 = lg by omega]
      · rw [if_neg q2]
        have f5 : ∀ l : Int, lg ≤ l → l < legN κ b → i + 1 ≤ legB κ b l := by
          intro l r1 r2
          by_cases q3 : l = lg
          · rw [q3]; omega
          · have h8 := a6 (l - 1) (by omega) (by omega)
            have h9 := e7 (l - 1) (by omega) (by omega)
            rw [show l - 1 + 1 = l by omega] at h8
            omega
        refine hb85 u v lg ?_ ?_ e5 (fun l r1 r2 => by have := e6 l r1 r2; omega) f5
        · rw [e3, hvel0 0 (Or.inl rfl), hvel 0 lg (Or.inl rfl) e5.1 e5.2 (fun l r1 r2 => by have := e6 l r1 r2; omega) f5]
        · rw [e4, hvel0 1 (Or.inr rfl), hvel 1 lg (Or.inr rfl) e5.1 e5.2 (fun l r1 r2 => by have := e6 l r1 r2; omega) f5]
  · have hz : ∀ w : Int, velS κ b w (0 - 1) = 0 := by
      intro w
      unfold velS
      rw [velR_at _ 0 (by omega) (by omega) (fun l r1 r2 => by omega) (fun l r1 r2 => by have := (a5 l r1 (by omega)).1; omega), if_pos rfl]
    refine ⟨by omega, ?_, rfl, (hz 0).symm, (hz 1).symm, by simp only; omega, fun l r1 r2 => by simp only at r2; omega, fun l r1 r2 => (a5 l r1 r2).1.1, fun _ _ _ => rfl, fun j hj => by omega⟩
    show kI κ (22 * b) = kI κ (22 * b + 0)
    rw [Int.add_zero]
theorem b_where {LW : LWt} {c N : Nat} {σ τ : qMem} (hN : 200000 ≤ N) (h : Inv LW c σ τ) (p1 p2 p3 : Int32) : ∃ v, fX11_where p1 p2 p3 σ = some v ∧ fX12_where N p1 p2 p3 τ = some v := by
  obtain ⟨a1, l1, u1, rfl⟩ := zI_ex p1
  obtain ⟨a2, l2, u2, rfl⟩ := zI_ex p2
  obtain ⟨a3, l3, u3, rfl⟩ := zI_ex p3
  obtain ⟨v, s1, s2, s3, s4, bk, kw, lw, im, tp, ms, rf, cc, rc, wo⟩ := h
  unfold fX11_where fX12_where
  simp (disch := omega) only [zl_0, zl_1, zl_2, zl_3, zl_4, zl_5, zl_6, zl_7, zl_8, zl_9, zl_10, zl_11, zl_12, zl_13, zl_14, zl_15, zl_16, zl_17, zl_18, zl_19, zl_20, zl_21, zl_22, zl_23, zl_24, zl_25, zl_26, zl_27, zl_28, zl_29, zl_30, zl_31, zl_32, zl_33, zl_34, zl_35, zl_36, zl_37, zl_38, zl_39, zl_40, zl_41, zl_42, zl_43, zl_44, zl_45, zl_46, zl_47, zl_48, zl_49, zl_50, zl_51, zl_57, zl_59, zl_60, zl_61, zl_62, zl_63, zl_64, zl_65, zl_66, zl_67, zl_68, zl_69, zl_70, zl_71, zl_72, zl_73, zl_74, zl_75, zl_76, zl_77, zl_78, zl_79, zl_80, zl_81, zl_86, zl_87, zl_88, zl_89, zl_91, zl_93, zl_97, zl_99, zl_100, zl_108, zl_110, zl_122, zl_144, zl_152, zl_188, zl_199, zl_200, zl_201, zl_204, zl_220, zl_224, zl_226, zl_238, zl_255, zl_268, zl_300, zl_301, zl_302, zl_303, zl_304, zl_305, zl_306, zl_307, zl_308, zl_309, zl_310, zl_312, zl_400, zl_401, zl_712, zl_768, zl_1000, zl_1112, zl_1500, zl_1568, zl_2224, zl_3000, zl_20100, zl_50176, zl_60000, zl_100000, zl_117648, zl_1000000, zl_10000000, zl_1000000000, zI_neg, e_isBoat, r_isBoat, e_isBell, r_isBell, e_in, Option.bind_some, bI_00, decide_eq_false_iff_not, zI_eq, eta1]
  by_cases q1 : 0 ≤ a1 ∧ a1 ≤ 1
  · by_cases q2 : 0 ≤ a2 ∧ a2 ≤ 23
    · simp (disch := omega) only [q1, q2, and_self, not_true_eq_false, if_false, zI_ckT, zI_clamp, if_true]
      have hb : boatT σ.1 (3 + 6 * a1.toNat) (τ.1 2) a1.toNat := by
        rcases (by omega : a1 = 0 ∨ a1 = 1) with rfl | rfl
        · exact bk.1
        · exact bk.2.1
      have hj := hb.2.2 a2.toNat (by omega)
      rw [show ((a1.toNat : Nat) : Int) = a1 by omega, show ((a2.toNat : Nat) : Int) = a2 by omega] at hj
      by_cases q3 : 0 ≤ a3 ∧ a3 ≤ 2
      · rcases (by omega : a3 = 0 ∨ a3 = 1 ∨ a3 = 2) with rfl | rfl | rfl
        · exact ⟨_, congrArg some hj.1, r_at hN kw.1 q1.1 q1.2 q2.1 q2.2 (Or.inl rfl)⟩
        · exact ⟨_, congrArg some hj.2.1, r_at hN kw.1 q1.1 q1.2 q2.1 q2.2 (Or.inr rfl)⟩
        · exact ⟨_, congrArg some hj.2.2, r_speed hN kw.1 q1.1 q1.2 q2.1 q2.2⟩
      · have n0 : ¬ a3 = 0 := by omega
        have n1 : ¬ a3 = 1 := by omega
        have n2 : ¬ a3 = 2 := by omega
        refine ⟨zI (-1000), ?_, ?_⟩
        · simp only [n0, n1, n2, if_false]
        · simp only [q3, not_false_eq_true, if_true]
    · simp only [q1, q2, and_self, not_true_eq_false, if_false, not_false_eq_true, if_true]
      exact ⟨_, rfl⟩
  · simp only [q1, not_false_eq_true, if_true]
    exact ⟨_, rfl, rfl⟩
set_option maxHeartbeats 4000000 in
theorem b_boat {LW : LWt} {c N : Nat} {σ τ : qMem} (hN : 200000 ≤ N) (hLW : LWc LW) (hc : c ≤ 600) (h : Inv LW c σ τ) (p1 p2 p3 p4 : Int32) : Both LW c (fX11_boat N p1 p2 p3 p4 σ) (fX12_boat p1 p2 p3 p4 τ) := by
  obtain ⟨a1, l1, u1, rfl⟩ := zI_ex p1
  obtain ⟨a2, l2, u2, rfl⟩ := zI_ex p2
  obtain ⟨a3, l3, u3, rfl⟩ := zI_ex p3
  obtain ⟨a4, l4, u4, rfl⟩ := zI_ex p4
  have h0 := h
  obtain ⟨v, s1, s2, s3, s4, bk, kw, lw, im, tp, ms, rf, cc, rc, wo⟩ := h
  unfold fX11_boat fX11_boat_b19 fX12_boat fX12_boat_b25
  simp (maxSteps := 1000000) (disch := omega) only [zl_0, zl_1, zl_2, zl_3, zl_4, zl_5, zl_6, zl_7, zl_8, zl_9, zl_10, zl_11, zl_12, zl_13, zl_14, zl_15, zl_16, zl_17, zl_18, zl_19, zl_20, zl_21, zl_22, zl_23, zl_24, zl_25, zl_26, zl_27, zl_28, zl_29, zl_30, zl_31, zl_32, zl_33, zl_34, zl_35, zl_36, zl_37, zl_38, zl_39, zl_40, zl_41, zl_42, zl_43, zl_44, zl_45, zl_46, zl_47, zl_48, zl_49, zl_50, zl_51, zl_57, zl_59, zl_60, zl_61, zl_62, zl_63, zl_64, zl_65, zl_66, zl_67, zl_68, zl_69, zl_70, zl_71, zl_72, zl_73, zl_74, zl_75, zl_76, zl_77, zl_78, zl_79, zl_80, zl_81, zl_86, zl_87, zl_88, zl_89, zl_91, zl_93, zl_97, zl_99, zl_100, zl_108, zl_110, zl_122, zl_144, zl_152, zl_188, zl_199, zl_200, zl_201, zl_204, zl_220, zl_224, zl_226, zl_238, zl_255, zl_268, zl_300, zl_301, zl_302, zl_303, zl_304, zl_305, zl_306, zl_307, zl_308, zl_309, zl_310, zl_312, zl_400, zl_401, zl_712, zl_768, zl_1000, zl_1112, zl_1500, zl_1568, zl_2224, zl_3000, zl_20100, zl_50176, zl_60000, zl_100000, zl_117648, zl_1000000, zl_10000000, zl_1000000000, zI_neg, zI_add, zI_mul, e_isBoat, r_isBoat, e_ofSea, e_isIn, r_isSea, e_in, Option.bind_some, bI_00, decide_eq_false_iff_not, eta2, nmI, nmM]
  by_cases q2 : 0 ≤ a2 ∧ a2 ≤ 31
  · by_cases q3 : 0 ≤ a3 ∧ a3 ≤ 31
    · by_cases q4 : 0 ≤ a4 ∧ a4 ≤ 9
      · by_cases q1 : 0 ≤ a1 ∧ a1 ≤ 1
        · obtain ⟨b, rfl⟩ : ∃ b : Nat, a1 = b := ⟨a1.toNat, by omega⟩
          have hb : b < 2 := by omega
          simp (disch := omega) only [q1, q2, q3, q4, and_self, not_true_eq_false, if_false, zI_ckT, zI_clamp, if_true, r_boatOf, Option.bind_some, Int.toNat_natCast]
          have hbt : boatT σ.1 (3 + 6 * b) (τ.1 2) b := by
            rcases (by omega : b = 0 ∨ b = 1) with rfl | rfl
            · exact bk.1
            · exact bk.2.1
          have hsh : rowS σ.1 (3 + 6 * b + 1) 3 6 := by
            rcases (by omega : b = 0 ∨ b = 1) with rfl | rfl
            · exact s1.1
            · exact s1.2.1
          have g2 := gch4 (τ := τ) (r := 2) (a0 := (0 + 22 * (b : Int)).toNat) (a1 := (0 + 22 * (b : Int) + 1).toNat) (a2 := (0 + 22 * (b : Int) + 2).toNat) (a3 := (0 + 22 * (b : Int) + 3).toNat) (x := zI a2) (y := zI a3) (z := zI a4) (p := zI 0) 0 (by omega) (by omega) (by omega)
          generalize hτ1 : si (si (si (si τ 2 (0 + 22 * (b : Int)).toNat (zI a2)) 2 (0 + 22 * (b : Int) + 1).toNat (zI a3)) 2 (0 + 22 * (b : Int) + 2).toNat (zI a4)) 2 (0 + 22 * (b : Int) + 3).toNat (zI 0) = τ1 at g2 ⊢
          have nw : ∀ (i : Nat) (y : Int), i < 4 → y = 22 * (b : Int) + i → kI (τ1.1 2) y = (v5 (zI a2) (zI a3) (zI a4) (zI 0) 0 i).toInt := by
            intro i y r1 r2
            show (gi τ1 2 y.toNat).toInt = _
            rw [g2, if_pos (by omega), show y.toNat - (0 + 22 * (b : Int)).toNat = i by omega]
          have w0 : kI (τ1.1 2) (22 * (b : Int)) = a2 := (nw 0 _ (by omega) (by omega)).trans (zI_toInt (a := a2) l2 u2)
          have w1 : kI (τ1.1 2) (22 * (b : Int) + 1) = a3 := (nw 1 _ (by omega) (by omega)).trans (zI_toInt (a := a3) l3 u3)
          have w2 : kI (τ1.1 2) (22 * (b : Int) + 2) = a4 := (nw 2 _ (by omega) (by omega)).trans (zI_toInt (a := a4) l4 u4)
          have w3 : kI (τ1.1 2) (22 * (b : Int) + 3) = 0 := (nw 3 _ (by omega) (by omega)).trans (zI_toInt (a := 0) (by omega) (by omega))
          have hK : KB1 (τ1.1 2) b := by
            refine ⟨by rw [w0]; exact q2, by rw [w1]; exact q3, by unfold depS; rw [w2]; exact q4, by unfold legN; rw [w3]; omega, fun l r1 r2 => ?_, fun l r1 r2 => ?_⟩
            · unfold legN at r2; rw [w3] at r2; omega
            · unfold legN at r2; rw [w3] at r2; omega
          unfold fX1_start
          have c0 : (ck (0 : Int32) 24 = true) = True := by decide
          have z0 : (0 : Int32).toNatClampNeg = 0 := rfl
          simp only [c0, if_true, nmM, z0]
          generalize hσ1 : si (si (si (si σ (3 + 6 * b + 1) 3 0) (3 + 6 * b + 3) 0 (zI a2)) (3 + 6 * b + 4) 0 (zI a3)) (3 + 6 * b) 4 (zI a4) = σ1
          have g1 : ∀ k j, gi σ1 k j = if k = 3 + 6 * b ∧ j = 4 then zI a4 else if k = 3 + 6 * b + 4 ∧ j = 0 then zI a3 else if k = 3 + 6 * b + 3 ∧ j = 0 then zI a2 else if k = 3 + 6 * b + 1 ∧ j = 3 then 0 else gi σ k j := by
            intro k j
            rw [← hσ1]
            simp only [gi_si]
          have kold : ∀ j : Nat, 22 * b + 4 ≤ j → τ1.1 2 j = τ.1 2 j := by
            intro j r1
            show gi τ1 2 j = gi τ 2 j
            rw [g2, if_neg (by omega)]
          obtain ⟨σ2, e1, f1, f2⟩ := e_follow (o := 3 + 6 * b) (b := b) (κ := τ1.1 2) (σ := σ1) hN hK
            (by rw [g1, if_neg (by omega), if_neg (by omega), if_neg (by omega), if_neg (by omega)]; exact hsh.1)
            (by rw [g1, if_neg (by omega), if_neg (by omega), if_neg (by omega), if_pos ⟨rfl, rfl⟩]; unfold legN; rw [w3]; rfl)
            (by
              intro j r1 r2
              rw [g1, if_neg (by omega), if_neg (by omega), if_neg (by omega), if_neg (by omega)]
              have := hbt.2.1.2 j.toNat (by omega)
              refine this.trans ?_
              rw [← zI_of (τ.1 2 (22 * b + 4 + j.toNat))]
              congr 1
              unfold kI
              rw [show (22 * (b : Int) + 4 + j).toNat = 22 * b + 4 + j.toNat by omega, kold _ (by omega)])
            (by rw [g1, if_neg (by omega), if_neg (by omega), if_pos ⟨rfl, rfl⟩, w0])
            (by rw [g1, if_neg (by omega), if_pos ⟨rfl, rfl⟩, w1])
          rw [e1, Option.bind_some, Option.bind_some]
          have ea : gi σ (3 + 6 * b + 1) 3 = zI (kI (τ.1 2) (22 * (b : Int) + 3)) := by
            refine hbt.2.1.1.trans ((zI_of _).symm.trans ?_)
            congr 1
          rw [ea]
          refine acc_boat b hb hLW hc h0 (fun k j r => ?_) (fun k j r => ?_) ?_ ?_ hK
          · rw [f1 k j (by omega), g1, if_neg (by omega), if_neg (by omega), if_neg (by omega), if_neg (by omega)]
          · rw [g2, if_neg (by omega)]
          · have f10 := f1 (3 + 6 * b + 1) 0 (by omega)
            have f11 := f1 (3 + 6 * b + 1) 1 (by omega)
            rw [g1, if_neg (by omega), if_neg (by omega), if_neg (by omega), if_neg (by omega)] at f10 f11
            exact ⟨f10.trans hsh.1, f11.trans hsh.2⟩
          · refine ⟨?_, ⟨?_, fun j hj => ?_⟩, fun j hj => f2 j hj⟩
            · show gi σ2 (3 + 6 * b) 4 = gi τ1 2 (22 * b + 2)
              rw [f1 _ _ (by omega), g1, if_pos ⟨rfl, rfl⟩, g2, if_pos (by omega), show 22 * b + 2 - (0 + 22 * (b : Int)).toNat = 2 by omega]
              rfl
            · show gi σ2 (3 + 6 * b + 1) 3 = gi τ1 2 (22 * b + 3)
              rw [f1 _ _ (by omega), g1, if_neg (by omega), if_neg (by omega), if_neg (by omega), if_pos ⟨rfl, rfl⟩, g2, if_pos (by omega), show 22 * b + 3 - (0 + 22 * (b : Int)).toNat = 3 by omega]
              rfl
            · show gi σ2 (3 + 6 * b + 1 + 1) j = τ1.1 2 (22 * b + 4 + j)
              rw [f1 _ _ (by omega), g1, if_neg (by omega), if_neg (by omega), if_neg (by omega), if_neg (by omega), kold _ (by omega)]
              exact hbt.2.1.2 j hj
        · simp only [q1, q2, q3, q4, and_self, not_true_eq_false, if_false, not_false_eq_true, if_true]
          exact both_refuse (w := -2) hLW h0 (by omega)
      · simp only [q2, q3, q4, and_self, not_true_eq_false, if_false, not_false_eq_true, if_true]
        exact both_refuse (w := -1) hLW h0 (by omega)
    · simp only [q2, q3, and_self, and_false, not_true_eq_false, if_false, not_false_eq_true, if_true]
      exact both_refuse (w := -1) hLW h0 (by omega)
  · simp only [q2, false_and, not_false_eq_true, if_true]
    exact both_refuse (w := -1) hLW h0 (by omega)
set_option maxHeartbeats 4000000 in
theorem b_leg {LW : LWt} {c N : Nat} {σ τ : qMem} (hN : 200000 ≤ N) (hLW : LWc LW) (hc : c ≤ 600) (h : Inv LW c σ τ) (p1 p2 p3 p4 : Int32) : Both LW c (fX11_leg N p1 p2 p3 p4 σ) (fX12_leg p1 p2 p3 p4 τ) := by
  obtain ⟨a1, l1, u1, rfl⟩ := zI_ex p1
  obtain ⟨a2, l2, u2, rfl⟩ := zI_ex p2
  obtain ⟨a3, l3, u3, rfl⟩ := zI_ex p3
  obtain ⟨a4, l4, u4, rfl⟩ := zI_ex p4
  have h0 := h
  obtain ⟨v, s1, s2, s3, s4, bk, kw, lw, im, tp, ms, rf, cc, rc, wo⟩ := h
  unfold fX11_leg fX11_leg_b16 fX12_leg fX12_leg_b22
  simp (maxSteps := 1000000) (disch := omega) only [zl_0, zl_1, zl_2, zl_3, zl_4, zl_5, zl_6, zl_7, zl_8, zl_9, zl_10, zl_11, zl_12, zl_13, zl_14, zl_15, zl_16, zl_17, zl_18, zl_19, zl_20, zl_21, zl_22, zl_23, zl_24, zl_25, zl_26, zl_27, zl_28, zl_29, zl_30, zl_31, zl_32, zl_33, zl_34, zl_35, zl_36, zl_37, zl_38, zl_39, zl_40, zl_41, zl_42, zl_43, zl_44, zl_45, zl_46, zl_47, zl_48, zl_49, zl_50, zl_51, zl_57, zl_59, zl_60, zl_61, zl_62, zl_63, zl_64, zl_65, zl_66, zl_67, zl_68, zl_69, zl_70, zl_71, zl_72, zl_73, zl_74, zl_75, zl_76, zl_77, zl_78, zl_79, zl_80, zl_81, zl_86, zl_87, zl_88, zl_89, zl_91, zl_93, zl_97, zl_99, zl_100, zl_108, zl_110, zl_122, zl_144, zl_152, zl_188, zl_199, zl_200, zl_201, zl_204, zl_220, zl_224, zl_226, zl_238, zl_255, zl_268, zl_300, zl_301, zl_302, zl_303, zl_304, zl_305, zl_306, zl_307, zl_308, zl_309, zl_310, zl_312, zl_400, zl_401, zl_712, zl_768, zl_1000, zl_1112, zl_1500, zl_1568, zl_2224, zl_3000, zl_20100, zl_50176, zl_60000, zl_100000, zl_117648, zl_1000000, zl_10000000, zl_1000000000, zI_neg, zI_add, zI_mul, e_isBoat, r_isBoat, e_isPace, e_isBell, r_isPace, r_isBell, Option.bind_some, bI_00, decide_eq_false_iff_not, eta2, nmI, nmM]
  by_cases q2 : 0 ≤ a2 ∧ a2 ≤ 23
  · by_cases q3 : -3 ≤ a3 ∧ a3 ≤ 3
    · by_cases q4 : -3 ≤ a4 ∧ a4 ≤ 3
      · by_cases q1 : 0 ≤ a1 ∧ a1 ≤ 1
        · obtain ⟨b, rfl⟩ : ∃ b : Nat, a1 = b := ⟨a1.toNat, by omega⟩
          have hb : b < 2 := by omega
          have hbt : boatT σ.1 (3 + 6 * b) (τ.1 2) b := by
            rcases (by omega : b = 0 ∨ b = 1) with rfl | rfl
            · exact bk.1
            · exact bk.2.1
          have hsh : rowS σ.1 (3 + 6 * b + 1) 3 6 := by
            rcases (by omega : b = 0 ∨ b = 1) with rfl | rfl
            · exact s1.1
            · exact s1.2.1
          obtain ⟨y1, y2, y3, y4, y5, y6⟩ := kw.1 b (by omega) (by omega)
          have ea : gi σ (3 + 6 * b + 1) 3 = zI (legN (τ.1 2) b) := by
            refine hbt.2.1.1.trans ((zI_of _).symm.trans ?_)
            congr 1
          have eS : gi σ (3 + 6 * b + 1) 0 = zI 3 := hsh.1
          have eM : gi σ (3 + 6 * b + 1) 1 = zI 6 := hsh.2
          have hold : ∀ j : Nat, j < 18 → gi σ (3 + 6 * b + 2) j = τ.1 2 (22 * b + 4 + j) := hbt.2.1.2
          have hN0 : kI (τ.1 2) (22 * (b : Int) + 3) = legN (τ.1 2) b := rfl
          generalize hn : legN (τ.1 2) b = n at *
          simp (disch := omega) only [q1, q2, q3, q4, and_self, not_true_eq_false, if_false, zI_ckT, zI_clamp, if_true, r_boatOf, Option.bind_some, Int.toNat_natCast, ea, hN0, zI_le, zI_sub]
          have hfin : (∀ l : Int, 0 ≤ l → l < n → legB (τ.1 2) b l < a2) → Both LW c (fX11_leg_b82 N (zI b) (zI a2) (zI a3) (zI a4) (zI b) σ) (fX12_leg_b76 (zI b) (zI a2) (zI a3) (zI a4) (zI n) τ) := by
            intro hlt
            unfold fX11_leg_b82 fX12_leg_b76
            simp (disch := omega) only [zI_clamp, Int.toNat_natCast, zl_0, zl_1, zl_2, zl_3, zl_4, zl_5, zl_6, zl_7, zl_8, zl_9, zl_10, zl_11, zl_12, zl_13, zl_14, zl_15, zl_16, zl_17, zl_18, zl_19, zl_20, zl_21, zl_22, zl_23, zl_24, zl_25, zl_26, zl_27, zl_28, zl_29, zl_30, zl_31, zl_32, zl_33, zl_34, zl_35, zl_36, zl_37, zl_38, zl_39, zl_40, zl_41, zl_42, zl_43, zl_44, zl_45, zl_46, zl_47, zl_48, zl_49, zl_50, zl_51, zl_57, zl_59, zl_60, zl_61, zl_62, zl_63, zl_64, zl_65, zl_66, zl_67, zl_68, zl_69, zl_70, zl_71, zl_72, zl_73, zl_74, zl_75, zl_76, zl_77, zl_78, zl_79, zl_80, zl_81, zl_86, zl_87, zl_88, zl_89, zl_91, zl_93, zl_97, zl_99, zl_100, zl_108, zl_110, zl_122, zl_144, zl_152, zl_188, zl_199, zl_200, zl_201, zl_204, zl_220, zl_224, zl_226, zl_238, zl_255, zl_268, zl_300, zl_301, zl_302, zl_303, zl_304, zl_305, zl_306, zl_307, zl_308, zl_309, zl_310, zl_312, zl_400, zl_401, zl_712, zl_768, zl_1000, zl_1112, zl_1500, zl_1568, zl_2224, zl_3000, zl_20100, zl_50176, zl_60000, zl_100000, zl_117648, zl_1000000, zl_10000000, zl_1000000000, zI_add, zI_mul, zI_neg, zI_eq, zI_ckT, if_true, nmI, nmM, eta2]
            rw [e_full eM ea y4.1 y4.2 (by omega), Option.bind_some]
            by_cases q6 : n = 6
            · rw [decide_eq_true (by omega), bI_t, if_neg (by decide), if_pos q6]
              exact both_refuse (w := -5) hLW h0 (by omega)
            · rw [decide_eq_false (by omega), bI_f, if_pos (show (0 : Int32) = zI 0 from rfl), if_neg q6]
              obtain ⟨σ1, e1, g1⟩ := e_add (n := 18) (zI a2) (zI a3) (zI a4) (zI 0) (zI 0) eS eM ea (by omega) (by omega) y4.1 (by omega) (by omega) (by omega)
              rw [e1, Option.bind_some]
              have gn : gi τ 2 (0 + 22 * (b : Int) + 3).toNat = zI n := by
                rw [kI_z, show 0 + 22 * (b : Int) + 3 = 22 * (b : Int) + 3 by omega, hN0]
              have g2 := gcnt3 (τ := τ) (r := 2) (a0 := (0 + 22 * (b : Int) + 4 + 3 * n).toNat) (a1 := (0 + 22 * (b : Int) + 4 + 3 * n + 1).toNat) (a2 := (0 + 22 * (b : Int) + 4 + 3 * n + 2).toNat) (cnt := (0 + 22 * (b : Int) + 3).toNat) (x := zI a2) (y := zI a3) (z := zI a4) (n := n) 0 0 (by omega) (by omega) (by omega) gn
              generalize hτ1 : si (si (si (si τ 2 (0 + 22 * (b : Int) + 4 + 3 * n).toNat (zI a2)) 2 (0 + 22 * (b : Int) + 4 + 3 * n + 1).toNat (zI a3)) 2 (0 + 22 * (b : Int) + 4 + 3 * n + 2).toNat (zI a4)) 2 (0 + 22 * (b : Int) + 3).toNat _ = τ1 at g2 ⊢
              have kold : ∀ j : Nat, j ≠ 22 * b + 3 → ¬ (22 * b + 4 + 3 * n.toNat ≤ j ∧ j < 22 * b + 4 + 3 * n.toNat + 3) → τ1.1 2 j = τ.1 2 j := by
                intro j r1 r2
                show gi τ1 2 j = gi τ 2 j
                rw [g2, if_neg (by omega), if_neg (by omega)]
              have kn : kI (τ1.1 2) (22 * (b : Int) + 3) = n + 1 := by
                show (gi τ1 2 (22 * (b : Int) + 3).toNat).toInt = _
                rw [g2, if_pos (by omega), zI_toInt (by omega) (by omega)]
              have nw : ∀ (i : Nat) (y : Int), i < 3 → y = 22 * (b : Int) + 4 + 3 * n + i → kI (τ1.1 2) y = (v5 (zI a2) (zI a3) (zI a4) 0 0 i).toInt := by
                intro i y r1 r2
                show (gi τ1 2 y.toNat).toInt = _
                rw [g2, if_neg (by omega), if_pos (by omega), show y.toNat - (0 + 22 * (b : Int) + 4 + 3 * n).toNat = i by omega]
              have w0 : legB (τ1.1 2) b n = a2 := (nw 0 _ (by omega) (by omega)).trans (zI_toInt (a := a2) l2 u2)
              have w1 : legV (τ1.1 2) b n 0 = a3 := (nw 1 _ (by omega) (by omega)).trans (zI_toInt (a := a3) l3 u3)
              have w2 : legV (τ1.1 2) b n 1 = a4 := (nw 2 _ (by omega) (by omega)).trans (zI_toInt (a := a4) l4 u4)
              have oB : ∀ l : Int, 0 ≤ l → l < n → legB (τ1.1 2) b l = legB (τ.1 2) b l := fun l r1 r2 => kI_e (kold _ (by omega) (by omega))
              have oV : ∀ l w : Int, 0 ≤ l → l < n → w = 0 ∨ w = 1 → legV (τ1.1 2) b l w = legV (τ.1 2) b l w := fun l w r1 r2 r3 => kI_e (kold _ (by omega) (by omega))
              have eN : legN (τ1.1 2) b = n + 1 := kn
              have hK : KB1 (τ1.1 2) b := by
                refine ⟨?_, ?_, ?_, ?_, fun l r1 r2 => ?_, fun l r1 r2 => ?_⟩
                · rw [kI_e (κ := τ.1 2) (kold _ (by omega) (by omega))]; exact y1
                · rw [kI_e (κ := τ.1 2) (kold _ (by omega) (by omega))]; exact y2
                · unfold depS; rw [kI_e (κ := τ.1 2) (kold _ (by omega) (by omega))]; exact y3
                · rw [eN]; omega
                · rw [eN] at r2
                  by_cases q : l < n
                  · rw [oB l r1 q, oV l 0 r1 q (Or.inl rfl), oV l 1 r1 q (Or.inr rfl)]
                    exact y5 l r1 q
                  · rw [show l = n by omega, w0, w1, w2]
                    exact ⟨q2, q3, q4⟩
                · rw [eN] at r2
                  by_cases q : l + 1 < n
                  · rw [oB l r1 (by omega), oB (l + 1) (by omega) q]
                    exact y6 l r1 q
                  · rw [oB l r1 (by omega), show l + 1 = n by omega, w0]
                    exact hlt l r1 (by omega)
              obtain ⟨σ2, e3, f1, f2⟩ := e_follow (o := 3 + 6 * b) (b := b) (κ := τ1.1 2) (σ := σ1) hN hK
                (by rw [g1, if_neg (by omega), if_neg (by omega)]; exact eS)
                (by rw [g1, if_pos ⟨rfl, rfl⟩, eN])
                (by
                  intro j r1 r2
                  rw [g1, if_neg (by omega)]
                  by_cases q : 3 * n ≤ j ∧ j < 3 * n + 3
                  · rw [if_pos (by omega), ← zI_of (v5 _ _ _ _ _ _)]
                    congr 1
                    rw [nw (j - 3 * n).toNat _ (by omega) (by omega)]
                    rw [show j.toNat - (n * 3).toNat = (j - 3 * n).toNat by omega]
                    rcases (by omega : (j - 3 * n).toNat = 0 ∨ (j - 3 * n).toNat = 1 ∨ (j - 3 * n).toNat = 2) with r | r | r <;> rw [r] <;> rfl
                  · rw [if_neg (by omega), hold _ (by omega), ← zI_of (τ.1 2 _)]
                    congr 1
                    unfold kI
                    rw [show (22 * (b : Int) + 4 + j).toNat = 22 * b + 4 + j.toNat by omega, kold _ (by omega) (by omega)])
                (by
                  rw [g1, if_neg (by omega), if_neg (by omega)]
                  refine (hbt.2.2 0 (by omega)).1.trans ?_
                  rw [kI_e (κ := τ.1 2) (kold _ (by omega) (by omega))]
                  show zI (kI (τ.1 2) (22 * (b : Int) + 0)) = _
                  rw [Int.add_zero])
                (by
                  rw [g1, if_neg (by omega), if_neg (by omega)]
                  refine (hbt.2.2 0 (by omega)).2.1.trans ?_
                  rw [kI_e (κ := τ.1 2) (kold _ (by omega) (by omega))]
                  rfl)
              rw [e3, Option.bind_some, f1 _ _ (by omega), g1, if_pos ⟨rfl, rfl⟩]
              refine acc_boat b hb hLW hc h0 (fun k j r => ?_) (fun k j r => ?_) ?_ ?_ hK
              · rw [f1 k j (by omega), g1, if_neg (by omega), if_neg (by omega)]
              · rw [g2, if_neg (by omega), if_neg (by omega)]
              · have f10 := f1 (3 + 6 * b + 1) 0 (by omega)
                have f11 := f1 (3 + 6 * b + 1) 1 (by omega)
                rw [g1, if_neg (by omega), if_neg (by omega)] at f10 f11
                exact ⟨f10.trans hsh.1, f11.trans hsh.2⟩
              · refine ⟨?_, ⟨?_, fun j hj => ?_⟩, fun j hj => f2 j hj⟩
                · show gi σ2 (3 + 6 * b) 4 = τ1.1 2 (22 * b + 2)
                  rw [f1 _ _ (by omega), g1, if_neg (by omega), if_neg (by omega), kold _ (by omega) (by omega)]
                  exact hbt.1
                · show gi σ2 (3 + 6 * b + 1) 3 = gi τ1 2 (22 * b + 3)
                  rw [f1 _ _ (by omega), g1, if_pos ⟨rfl, rfl⟩, g2, if_pos (by omega)]
                · show gi σ2 (3 + 6 * b + 1 + 1) j = τ1.1 2 (22 * b + 4 + j)
                  rw [f1 _ _ (by omega), g1, if_neg (by omega)]
                  by_cases q : 3 * n.toNat ≤ j ∧ j < 3 * n.toNat + 3
                  · rw [if_pos (by omega)]
                    show _ = gi τ1 2 (22 * b + 4 + j)
                    rw [g2, if_neg (by omega), if_pos (by omega), show j - (n * 3).toNat = 22 * b + 4 + j - (0 + 22 * (b : Int) + 4 + 3 * n).toNat by omega]
                    rcases (by omega : 22 * b + 4 + j - (0 + 22 * (b : Int) + 4 + 3 * n).toNat = 0 ∨ 22 * b + 4 + j - (0 + 22 * (b : Int) + 4 + 3 * n).toNat = 1 ∨ 22 * b + 4 + j - (0 + 22 * (b : Int) + 4 + 3 * n).toNat = 2) with r | r | r <;> rw [r] <;> rfl
                  · rw [if_neg (by omega), kold _ (by omega) (by omega)]
                    exact hold j hj
          by_cases q5 : n ≤ 0
          · rw [if_pos q5, if_pos q5]
            exact hfin (fun l r1 r2 => by omega)
          · rw [if_neg q5, if_neg q5]
            have e1 := e_at (σ := σ) (k := 3 + 6 * b + 1) (n := 18) (i := n - 1) (col := 0) eS ea (by omega) (by omega) (by omega) (by omega) (by omega) (by omega) (by omega)
            rw [e1, Option.bind_some, r_legOf (by omega) (by omega) (by omega) (by omega) (by omega) (by omega), Option.bind_some]
            have e2 : gi σ (3 + 6 * b + 1 + 1) ((n - 1) * 3 + 0).toNat = zI (legB (τ.1 2) b (n - 1)) := by
              refine (hold _ (by omega)).trans ((zI_of _).symm.trans ?_)
              congr 1
              unfold legB kI
              rw [show (22 * (b : Int) + 4 + 3 * (n - 1)).toNat = 22 * b + 4 + ((n - 1) * 3 + 0).toNat by omega]
            have e3 : kI (τ.1 2) (22 * (b : Int) + 4 + 3 * (n - 1) + 0) = legB (τ.1 2) b (n - 1) := by
              rw [Int.add_zero]; rfl
            have y5b := (y5 (n - 1) (by omega) (by omega)).1
            rw [e2, e3]
            simp (disch := omega) only [zI_lt]
            by_cases q7 : legB (τ.1 2) b (n - 1) < a2
            · rw [if_pos q7, if_pos q7]
              refine hfin (fun l r1 r2 => ?_)
              have := leg_mono (κ := τ.1 2) (b := b) (fun l x1 x2 => y6 l x1 (by rw [hn] at x2; exact x2)) l.toNat (n - 1 - l).toNat (by rw [hn]; omega)
              rw [show ((l.toNat : Nat) : Int) = l by omega, show l + (((n - 1 - l).toNat : Nat) : Int) = n - 1 by omega] at this
              omega
            · rw [if_neg q7, if_neg q7]
              exact both_refuse (w := -3) hLW h0 (by omega)
        · simp only [q1, q2, q3, q4, and_self, not_true_eq_false, if_false, not_false_eq_true, if_true]
          exact both_refuse (w := -2) hLW h0 (by omega)
      · simp only [q2, q3, q4, and_self, and_false, not_true_eq_false, if_false, not_false_eq_true, if_true]
        exact both_refuse (w := -1) hLW h0 (by omega)
    · simp only [q2, q3, false_and, and_self, and_false, not_true_eq_false, if_false, not_false_eq_true, if_true]
      exact both_refuse (w := -1) hLW h0 (by omega)
  · simp only [q2, false_and, not_false_eq_true, if_true]
    exact both_refuse (w := -1) hLW h0 (by omega)
