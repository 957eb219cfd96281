/-! the least misses of a sheaf -/
theorem missOf_len (κ : Nat → Int32) (b s x y u v : Int) : missOf κ b s x y u v ≤ (freshL κ b (newsL κ)).length := by
  unfold missOf freshL
  rw [show (fun it => decide (itF κ it 0 = b) && !okB κ it s x y u v) = (fun it => (!okB κ it s x y u v) && decide (itF κ it 0 = b)) from funext fun it => Bool.and_comm _ _, ← List.countP_filter]
  exact List.countP_le_length
theorem fresh_36 {κ : Nat → Int32} (hw : KW κ) : (freshL κ 0 (newsL κ)).length + (freshL κ 1 (newsL κ)).length ≤ 36 := by
  rw [fresh_sum (fun it hit => by
    have := (it_rng hw.2.2.1 hw.2.2.2.1 (newsL_mem hit).1).1
    omega)]
  exact newsL_len hw.2.2.1 hw.2.2.2.1
theorem mnS_len {f : Nat → Nat} {l : Nat} (hl : l ≤ 100) (h : ∀ i, f i ≤ l) : ∀ n, mnS f n ≤ 100 ∧ (0 < n → mnS f n ≤ l)
  | 0 => ⟨by simp [mnS], by omega⟩
  | n + 1 => by
    have := mnS_len hl h n
    have := h n
    rw [mnS]
    omega
theorem missBest_36 {κ : Nat → Int32} (hw : KW κ) (x y u v : Int) : missBest κ x y u v ≤ 36 := by
  unfold missBest
  have hap := hw.2.1.2.2.1
  have h1 := missOf_len κ 0 0 x y u v
  have h2 := fresh_36 hw
  have h3 := (mnS_len (f := fun i => missOf κ 1 ((i : Int) - kI κ 46) x y u v) (l := (freshL κ 1 (newsL κ)).length) (by omega) (fun i => missOf_len κ 1 _ x y u v) (2 * kI κ 46 + 1).toNat).2 (by omega)
  omega
theorem e_tally {N : Nat} {σ : qMem} {κ : Nat → Int32} {sheaf : Int} (hN : 200000 ≤ N) (hs : seen σ.1 κ) (s0 : 0 ≤ sheaf) (s1 : sheaf < 224) :
    Ho (fX9_tally N (zI sheaf) σ) (fun τ => planes τ.1 71 (fun v y => missBest κ (sheaf / 7) y (sheaf % 7 - 3) ((v : Int) - 3)) ∧ ∀ k j, k ≠ 62 → k ≠ 63 → ¬ (69 ≤ k ∧ k ≤ 71) → gi τ k j = gi σ k j) := by
  have hs0 := hs
  obtain ⟨bk, kw, fr, tu, r1, r2⟩ := hs
  have hap := kw.2.1.2.2.1
  have h36 := fresh_36 kw
  have hmb := fun x y u v => missBest_36 kw x y u v
  unfold fX9_tally
  refine Ho_bind (e_fill hN (by omega)) fun σ1 g1 => ?_
  have hs1 : seen σ1.1 κ := seen_c (m := σ.1) (m' := σ1.1) (fun k j q => by show gi σ1 k j = gi σ k j; rw [g1, if_neg (by omega)]) hs0
  have ha := e_addMisses (N := N) (k1 := 69) (b := 0) (σ := σ1) (shift := 0) (f := fun _ _ => 0) hN hs1 (Or.inl rfl) (by omega) (by omega) (by omega) s0 s1 (fun v p hv hp => by
    show gi σ1 69 (6 * v + p) = _
    rw [g1, if_pos ⟨rfl, by omega⟩, ← wd_zero]
    exact wd_congr fun y _ => by simp) (fun v y _ _ => by
      have : ((0 : Nat) : Int) = 0 := rfl
      rw [this]; omega)
  refine Ho_bind ha fun σ2 ⟨p69, f1⟩ => ?_
  have hs2 : seen σ2.1 κ := seen_c (m := σ1.1) (m' := σ2.1) (fun k j q => f1 k j (by omega) (by omega) (by omega)) hs1
  have o2 : ∀ k j, ¬ (k = 62 ∨ k = 63 ∨ k = 69) → gi σ2 k j = gi σ k j := by
    intro k j hk
    rw [f1 k j (by omega) (by omega) (by omega), g1, if_neg (by omega)]
  have h69 : ∀ v p : Nat, v < 7 → p < 6 → gi σ2 69 (6 * v + p) = wd (fun y => (missOf κ 0 0 (sheaf / 7) y (sheaf % 7 - 3) ((v : Int) - 3)).testBit p) := fun v p hv hp => (p69 v p hv hp).trans (wd_congr fun y _ => by dsimp only; rw [Nat.zero_add]; rfl)
  have hL1 := (hs2.2.2.1 1 (by omega)).1
  have g48 : gi σ2 48 3 = zI (freshL κ 1 (newsL κ)).length := hL1
  have cc : (cpOK 0 0 42 42 42 = true) = True := cpOK_t (s0 := 0) (d0 := 0) (n := 42) (by omega) (by omega) (by omega) (by omega) (by omega) (by omega) (by omega) (by omega)
  have gc : ∀ (s : qMem) (kd k j : Nat), gi (cp s 69 kd 0 0 42) k j = if k = kd ∧ j < 42 then gi s 69 j else gi s k j := by
    intro s kd k j
    rw [show cp s 69 kd 0 0 42 = cp s 69 kd (zI 0) (zI 0) (zI 42) from rfl, gi_cp (by omega) (by omega) (by omega) (by omega) (by omega) (by omega)]
    simp
  rw [g48]
  by_cases q : (freshL κ 1 (newsL κ)).length = 0
  · rw [if_pos (by rw [q]; rfl)]
    simp only [cc, if_true, nmM]
    refine Ho_some ⟨fun v p hv hp => ?_, fun k j h1 h2 h3 => ?_⟩
    · show gi (cp σ2 69 71 0 0 42) 71 (6 * v + p) = _
      rw [gc, if_pos ⟨rfl, by omega⟩, h69 v p hv hp]
      refine wd_congr fun y _ => ?_
      unfold missBest
      have h3 := (mnS_len (f := fun i => missOf κ 1 ((i : Int) - kI κ 46) (sheaf / 7) y (sheaf % 7 - 3) ((v : Int) - 3)) (l := (freshL κ 1 (newsL κ)).length) (by omega) (fun i => missOf_len κ 1 _ _ _ _ _) (2 * kI κ 46 + 1).toNat).2 (by omega)
      rw [q] at h3
      dsimp only
      rw [Nat.le_zero.mp h3, Nat.add_zero]
    · rw [gc, if_neg (by omega), o2 _ _ (by omega)]
  · rw [if_neg (by rw [zl_0, zI_eq (by omega) (by omega) (by omega) (by omega)]; omega)]
    refine Ho_bind (e_fill hN (by omega)) fun σ3 g3 => ?_
    have c26 : (ck (2 : Int32) 6 = true) = True := by decide
    have z2 : (2 : Int32).toNatClampNeg = 2 := rfl
    have g46 : gi σ3 18 2 = zI (kI κ 46) := by rw [g3, if_neg (by omega)]; exact (hs2.1.2.2.2.1 2 (by omega)).trans (zI_of _).symm
    simp only [c26, if_true, nmI, z2, g46]
    rw [zI_neg, show zI (-kI κ 46) = zI (0 - kI κ 46) by congr 1; omega]
    unfold missBest
    refine lp_for (S := qMem) (R := qMem) (fun n i s => fX9_tally_l74 N n (zI sheaf) (zI (kI κ 46)) (zI (i - kI κ 46)) s) (fun i s => 0 ≤ i ∧ planes s.1 71 (fun v y => min 63 (missOf κ 0 0 (sheaf / 7) y (sheaf % 7 - 3) ((v : Int) - 3) + mnS (fun i => missOf κ 1 ((i : Int) - kI κ 46) (sheaf / 7) y (sheaf % 7 - 3) ((v : Int) - 3)) i.toNat)) ∧ (∀ v p : Nat, v < 7 → p < 6 → gi s 69 (6 * v + p) = wd (fun y => (missOf κ 0 0 (sheaf / 7) y (sheaf % 7 - 3) ((v : Int) - 3)).testBit p)) ∧ ∀ k j, k ≠ 62 → k ≠ 63 → ¬ (69 ≤ k ∧ k ≤ 71) → gi s k j = gi σ k j) _ (2 * kI κ 46 + 1) ?_ ?_ N 0 σ3 (by omega) (by omega) ?_
    · intro n s ⟨_, h1, h2, h4⟩
      show Ho (fX9_tally_s74 N _ _ _ _ _) _
      unfold fX9_tally_s74
      have cl : (zI (kI κ 46) < zI (2 * kI κ 46 + 1 - kI κ 46)) = True := by rw [zI_lt (by omega) (by omega) (by omega) (by omega)]; exact eq_true (by omega)
      simp only [cl, if_true]
      refine Ho_some ⟨fun v p hv hp => ?_, h4⟩
      refine (h1 v p hv hp).trans (wd_congr fun y _ => ?_)
      have := hmb (sheaf / 7) y (sheaf % 7 - 3) ((v : Int) - 3)
      unfold missBest at this
      dsimp only
      rw [Nat.min_eq_right (by omega)]
    · intro n i s hi ⟨i0, h1, h2, h4⟩ hc
      show Ho (fX9_tally_s74 N _ _ _ _ _) _
      unfold fX9_tally_s74
      have cl : (zI (kI κ 46) < zI (i - kI κ 46)) = False := by rw [zI_lt (by omega) (by omega) (by omega) (by omega)]; exact eq_false (by omega)
      simp only [cl, if_false, cc, if_true, nmM]
      have g6 := gc s 70
      generalize hs6 : cp s 69 70 0 0 42 = s6 at g6
      have seen6 : seen s6.1 κ := seen_c (m := σ.1) (m' := s6.1) (fun k j q => by
        show gi s6 k j = gi σ k j
        rw [g6, if_neg (by omega), h4 k j (by omega) (by omega) (by omega)]) hs0
      have ha := e_addMisses (N := N) (k1 := 70) (b := 1) (σ := s6) (shift := i - kI κ 46) (f := fun v y => missOf κ 0 0 (sheaf / 7) y (sheaf % 7 - 3) ((v : Int) - 3)) hN seen6 (Or.inr rfl) (by omega) (by omega) (by omega) s0 s1 (fun v p hv hp => by
        show gi s6 70 (6 * v + p) = _
        rw [g6, if_pos ⟨rfl, by omega⟩, h2 v p hv hp]) (fun v y _ _ => by
          have h1 := missOf_len κ 0 0 (sheaf / 7) y (sheaf % 7 - 3) ((v : Int) - 3)
          have : ((1 : Nat) : Int) = 1 := rfl
          rw [this]; omega)
      refine Ho_bind ha fun s7 ⟨p70, f7⟩ => ?_
      have sm : ∀ v y : Nat, missOf κ 0 0 (sheaf / 7) y (sheaf % 7 - 3) ((v : Int) - 3) + missOf κ 1 (i - kI κ 46) (sheaf / 7) y (sheaf % 7 - 3) ((v : Int) - 3) ≤ 36 := by
        intro v y
        have h1 := missOf_len κ 0 0 (sheaf / 7) y (sheaf % 7 - 3) ((v : Int) - 3)
        have h2 := missOf_len κ 1 (i - kI κ 46) (sheaf / 7) y (sheaf % 7 - 3) ((v : Int) - 3)
        omega
      have mn1 : ∀ v y : Nat, min (missOf κ 0 0 (sheaf / 7) y (sheaf % 7 - 3) ((v : Int) - 3) + missOf κ 1 (i - kI κ 46) (sheaf / 7) y (sheaf % 7 - 3) ((v : Int) - 3)) (min 63 (missOf κ 0 0 (sheaf / 7) y (sheaf % 7 - 3) ((v : Int) - 3) + mnS (fun i => missOf κ 1 ((i : Int) - kI κ 46) (sheaf / 7) y (sheaf % 7 - 3) ((v : Int) - 3)) i.toNat)) = min 63 (missOf κ 0 0 (sheaf / 7) y (sheaf % 7 - 3) ((v : Int) - 3) + mnS (fun i => missOf κ 1 ((i : Int) - kI κ 46) (sheaf / 7) y (sheaf % 7 - 3) ((v : Int) - 3)) (i + 1).toNat) := by
        intro v y
        rw [show (i + 1).toNat = i.toNat + 1 by omega, mnS, show ((i.toNat : Nat) : Int) = i by omega]
        have := sm v y
        omega
      rw [show (0 : Int32) = zI 0 from rfl]
      refine lp_for (S := qMem) (R := qMem) (fun m v s => fX9_tally_l111 N (fX9_tally_l74 N n) m (zI sheaf) (zI (kI κ 46)) (zI (i - kI κ 46)) (zI v) s) (fun v t => 0 ≤ v ∧ (∀ w p : Nat, w < 7 → p < 6 → gi t 71 (6 * w + p) = if (w : Int) < v then wd (fun y => (min 63 (missOf κ 0 0 (sheaf / 7) y (sheaf % 7 - 3) ((w : Int) - 3) + mnS (fun i => missOf κ 1 ((i : Int) - kI κ 46) (sheaf / 7) y (sheaf % 7 - 3) ((w : Int) - 3)) (i + 1).toNat)).testBit p) else wd (fun y => (min 63 (missOf κ 0 0 (sheaf / 7) y (sheaf % 7 - 3) ((w : Int) - 3) + mnS (fun i => missOf κ 1 ((i : Int) - kI κ 46) (sheaf / 7) y (sheaf % 7 - 3) ((w : Int) - 3)) i.toNat)).testBit p)) ∧ ∀ k j, k ≠ 71 → gi t k j = gi s7 k j) _ 7 ?_ ?_ N 0 s7 (by omega) (by omega) ⟨by omega, fun w p hw hp => by rw [if_neg (by omega), f7 71 _ (by omega) (by omega) (by omega), g6, if_neg (by omega)]; exact h1 w p hw hp, fun _ _ _ => rfl⟩
      · intro m t ⟨_, g1, g2⟩
        show Ho (fX9_tally_s111 N _ _ _ _ _ _ _) _
        unfold fX9_tally_s111
        rw [if_pos (by decide), show zI (i - kI κ 46) + 1 = zI (i + 1 - kI κ 46) by rw [show (1 : Int32) = zI 1 from rfl, zI_add]; congr 1; omega]
        refine hc t ⟨by omega, fun v p hv hp => ?_, fun v p hv hp => ?_, fun k j q1 q2 q3 => ?_⟩
        · refine (g1 v p hv hp).trans ?_
          rw [if_pos (by omega)]
        · rw [g2 69 _ (by omega), f7 69 _ (by omega) (by omega) (by omega), g6, if_neg (by omega)]; exact h2 v p hv hp
        · rw [g2 k j (by omega), f7 k j q1 q2 (by omega), g6, if_neg (by omega)]; exact h4 k j q1 q2 q3
      · intro m v t hv ⟨v0, g1, g2⟩ hc2
        show Ho (fX9_tally_s111 N _ _ _ _ _ _ _) _
        unfold fX9_tally_s111
        have c7 : (7 ≤ zI v) = False := by rw [zl_7, zI_le (by omega) (by omega) (by omega) (by omega)]; exact eq_false (by omega)
        have v6 : zI v * 6 = zI ((6 * v.toNat : Nat) : Int) := by rw [show (6 : Int32) = zI 6 from rfl, zI_mul]; congr 1; omega
        have v1 : zI v + 1 = zI (v + 1) := zI_add v 1
        simp only [c7, if_false, v6, v1]
        have tf := e_takeFewer (N := N) (v := v.toNat) (s := t) (a := fun y => missOf κ 0 0 (sheaf / 7) y (sheaf % 7 - 3) (((v.toNat : Nat) : Int) - 3) + missOf κ 1 (i - kI κ 46) (sheaf / 7) y (sheaf % 7 - 3) (((v.toNat : Nat) : Int) - 3)) (b := fun y => min 63 (missOf κ 0 0 (sheaf / 7) y (sheaf % 7 - 3) (((v.toNat : Nat) : Int) - 3) + mnS (fun i => missOf κ 1 ((i : Int) - kI κ 46) (sheaf / 7) y (sheaf % 7 - 3) (((v.toNat : Nat) : Int) - 3)) i.toNat)) hN (by omega) (fun y _ => by have := sm v.toNat y; omega) (fun y _ => by omega) (fun p hp => by rw [g2 70 _ (by omega)]; exact p70 v.toNat p (by omega) hp) (fun p hp => by rw [g1 v.toNat p (by omega) hp, if_neg (by omega)])
        refine Ho_bind tf fun t' ⟨w1, w2⟩ => ?_
        refine hc2 t' ⟨by omega, fun w p hw hp => ?_, fun k j hk => ?_⟩
        · by_cases e : w = v.toNat
          · rw [if_pos (by omega), e, w1 p hp]
            refine wd_congr fun y _ => ?_
            rw [mn1]
          · rw [w2 71 _ (by omega), g1 w p hw hp]
            by_cases e2 : (w : Int) < v
            · rw [if_pos e2, if_pos (by omega)]
            · rw [if_neg e2, if_neg (by omega)]
        · rw [w2 k j (by omega)]; exact g2 k j hk
    · refine ⟨by omega, fun v p hv hp => ?_, fun v p hv hp => ?_, fun k j q1 q2 q3 => ?_⟩
      · show gi σ3 71 (6 * v + p) = _
        rw [g3, if_pos ⟨rfl, by omega⟩, ← wd_m1]
        refine wd_congr fun y _ => ?_
        dsimp only
        rw [show ((0 : Int).toNat) = 0 from rfl, mnS, Nat.min_eq_left (by omega)]
        exact ((by decide : ∀ p, p < 6 → Nat.testBit 63 p = true) p hp).symm
      · rw [g3, if_neg (by omega)]; exact h69 v p hv hp
      · rw [g3, if_neg (by omega)]; exact o2 k j (by omega)
