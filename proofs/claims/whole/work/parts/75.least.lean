/-! least and better -/
theorem byte_tab : ∀ P, P < 64 → vp_nar .byte (zI (P : Nat)).toInt8.toInt32 = zI (P : Nat) := by decide +kernel
theorem r_judges {N : Nat} {τ : qMem} {κ : Nat → Int32} (hN : 200000 ≤ N) (hκ : τ.1 2 = κ) (hw : KW κ) (hr : RC τ.1 κ) (hv : 0 ≤ (gi τ 0 2).toInt) : Ho (fX12_judges N τ) (fun t => SM τ t ∧ RC t.1 κ ∧ missOK t.1 κ ∧ newsOK t.1 κ) := by
  unfold fX12_judges
  by_cases q : gi τ 0 15 = gi τ 0 2
  · rw [if_pos q]
    exact Ho_some ⟨SM_refl _, hr, hr.2.2.2.2.2 q⟩
  · rw [if_neg q]
    have g1 : ∀ k j, gi (si τ 0 15 (gi τ 0 2)) k j = if k = 0 ∧ j = 15 then gi τ 0 2 else gi τ k j := fun k j => gi_si
    show Ho ((fX12_laysNews N (si τ 0 15 (gi τ 0 2))).bind fun y2 => fX12_judges_l26 N N 0 y2) _
    generalize hτ1 : si τ 0 15 (gi τ 0 2) = τ1 at g1
    have hκ1 : τ1.1 2 = κ := by rw [← hκ]; exact funext fun j => (g1 2 j).trans (if_neg (by omega))
    refine Ho_bind (r_laysNews hN hκ1 hw) fun τ2 ⟨n1, n2⟩ => ?_
    have hκ2 : τ2.1 2 = κ := by rw [← hκ1]; exact funext fun j => n2 2 j (by omega) (by omega)
    have o2 : ∀ k j, k ≠ 6 → ¬ (k = 0 ∧ (j = 10 ∨ j = 15)) → gi τ2 k j = gi τ k j := by
      intro k j h1 h2
      rw [n2 k j h1 (by omega), g1, if_neg (by omega)]
    have e02 : gi τ2 0 2 = gi τ 0 2 := o2 0 2 (by omega) (by omega)
    have e15 : gi τ2 0 15 = gi τ 0 2 := by rw [n2 0 15 (by omega) (by omega), g1, if_pos ⟨rfl, rfl⟩]
    obtain ⟨b1, b2, b3, b4, b5, b6⟩ := hr
    have carr2 : gi τ2 0 7 = gi τ2 0 2 → carrOK τ2.1 κ := by
      intro e
      rw [o2 0 7 (by omega) (by omega), e02] at e
      have := b4 e
      intro d e r h1 h2 h3 h4 h5 h6
      exact (o2 5 _ (by omega) (by omega)).trans (this d e r h1 h2 h3 h4 h5 h6)
    rw [show (0 : Int32) = zI 0 from rfl]
    have m36 := fun r => missR_36 hw r (κ := κ)
    refine lp_for (S := qMem) (R := qMem) (fun n i s => fX12_judges_l26 N n (zI i) s) (fun i s => 0 ≤ i ∧ (∀ r : Nat, (r : Int) < i → gi s 8 r = zI (missR κ r)) ∧ (∀ k j, k ≠ 5 → k ≠ 8 → ¬ (k = 0 ∧ j = 7) → gi s k j = gi τ2 k j) ∧ (gi s 0 7 = gi s 0 2 → carrOK s.1 κ) ∧ (gi s 0 7 = gi τ2 0 7 ∨ gi s 0 7 = gi τ2 0 2)) _ 50176 ?_ ?_ N 0 τ2 (by omega) (by omega) ⟨by omega, fun r hr => by omega, fun _ _ _ _ _ => rfl, carr2, Or.inl rfl⟩
    · intro n s ⟨_, h1, h2, h3, h4⟩
      show Ho (fX12_judges_s26 N _ _ _) _
      unfold fX12_judges_s26
      rw [if_pos (by decide)]
      have f02 : gi s 0 2 = gi τ 0 2 := (h2 0 2 (by omega) (by omega) (by omega)).trans e02
      have f15 : gi s 0 15 = gi τ 0 2 := (h2 0 15 (by omega) (by omega) (by omega)).trans e15
      have f13 : gi s 0 13 = gi τ 0 13 := (h2 0 13 (by omega) (by omega) (by omega)).trans (o2 0 13 (by omega) (by omega))
      have hm : missOK s.1 κ := fun r hr => h1 r (by omega)
      have hnn : newsOK s.1 κ := newsOK_c (t := τ2.1) (t' := s.1) (fun k j hh => h2 k j (by omega) (by omega) (by omega)) n1
      refine Ho_some ⟨fun k j hk => ?_, ⟨?_, ?_, ?_, h3, fun e => ?_, fun _ => ⟨hm, hnn⟩⟩, hm, hnn⟩
      · rw [h2 k j (by unfold scrM at hk; omega) (by unfold scrM at hk; omega) (by unfold scrM at hk; omega), o2 k j (by unfold scrM at hk; omega) (by unfold scrM at hk; omega)]
      · show -1 ≤ (gi s 0 7).toInt ∧ (gi s 0 7).toInt ≤ (gi s 0 2).toInt
        rw [f02]
        rcases h4 with z | z
        · rw [z, o2 0 7 (by omega) (by omega)]; exact b1
        · rw [z, e02]; omega
      · show -1 ≤ (gi s 0 13).toInt ∧ (gi s 0 13).toInt ≤ (gi s 0 2).toInt
        rw [f02, f13]; exact b2
      · show -1 ≤ (gi s 0 15).toInt ∧ (gi s 0 15).toInt ≤ (gi s 0 2).toInt
        rw [f02, f15]; omega
      · have e' : gi s 0 13 = gi s 0 2 := e
        rw [f02, f13] at e'
        obtain ⟨z1, z2⟩ := b5 e'
        exact ⟨fun r hr => ((h2 7 r (by omega) (by omega) (by omega)).trans (o2 7 r (by omega) (by omega))).trans (z1 r hr), ((h2 0 12 (by omega) (by omega) (by omega)).trans (o2 0 12 (by omega) (by omega))).trans z2⟩
    · intro n i s hi ⟨i0, h1, h2, h3, h4⟩ hc
      show Ho (fX12_judges_s26 N _ _ _) _
      unfold fX12_judges_s26
      have c : (50176 ≤ zI i) = False := by rw [zl_50176, zI_le (by omega) (by omega) (by omega) (by omega)]; exact eq_false (by omega)
      obtain ⟨e1, e2, e3, e4⟩ := r_code i0 hi
      have cc : (ck (zI i) 50176 = true) = True := zI_ckT (by omega) (by omega) (by omega)
      have z : (zI i).toNatClampNeg = i.toNat := zI_clamp (by omega) (by omega)
      have i1 : zI i + 1 = zI (i + 1) := zI_add i 1
      simp only [c, if_false, e1, e2, e3, e4, Option.bind_some, cc, if_true, z, i1, nmM]
      have hκs : s.1 2 = κ := by rw [← hκ2]; exact funext fun j => h2 2 j (by omega) (by omega) (by omega)
      have hns : newsOK s.1 κ := newsOK_c (t := τ2.1) (t' := s.1) (fun k j hh => h2 k j (by omega) (by omega) (by omega)) n1
      refine Ho_bind (r_missedBest hN hκs hw hns (RS_refl h3) (by omega) (by omega) (by omega) (by omega) (by omega) (by omega) (by omega) (by omega)) fun a ⟨w1, w2⟩ => ?_
      rw [w2, ← missR_int κ i0, byte_tab _ (by have := m36 i.toNat; omega)]
      obtain ⟨w1, w3, w4⟩ := w1
      refine hc _ ⟨by omega, fun r hr => ?_, fun k j q1 q2 q3 => ?_, fun e => ?_, ?_⟩
      · rw [gi_si]
        by_cases e : r = i.toNat
        · rw [if_pos ⟨rfl, e⟩, e]
        · rw [if_neg (by omega), w1 8 r (by omega) (by omega)]; exact h1 r (by omega)
      · rw [gi_si, if_neg (by omega), w1 k j q1 q3]; exact h2 k j q1 q2 q3
      · rw [gi_si, if_neg (by omega), gi_si, if_neg (by omega)] at e
        have := w3 e
        intro d e r x1 x2 x3 x4 x5 x6
        show gi (si a.2 8 i.toNat _) 5 _ = _
        rw [gi_si, if_neg (by omega)]
        exact this d e r x1 x2 x3 x4 x5 x6
      · rw [gi_si, if_neg (by omega)]
        rcases w4 with y | y
        · rw [y]; exact h4
        · rw [y, h2 0 2 (by omega) (by omega) (by omega)]; exact Or.inr rfl
