/-! least, better -/
theorem sm_less (g : Nat → Nat) (n : Nat) : ∀ p, fb_sm (fun k => fb_ct (fun r => decide (g r = k)) n) p = fb_ct (fun r => decide (g r < p)) n
  | 0 => (fb_ct_zero.mpr fun r _ => decide_eq_false (by omega)).symm
  | p + 1 => by
    rw [fb_sm_succ, sm_less g n p]
    exact (ct_disj _ _ _ n (fun r _ => by
      rw [Bool.eq_iff_iff]
      simp only [Bool.or_eq_true, decide_eq_true_eq]
      omega) (fun r _ h => by
        simp only [decide_eq_true_eq] at h
        omega)).symm
noncomputable def lessN (κ : Nat → Int32) (p : Nat) : Nat := fb_ct (fun r => decide (missR κ r < p)) 50176
theorem lessN_le (κ : Nat → Int32) (p : Nat) : lessN κ p ≤ 50176 := fb_ct_le _ _
theorem e_below {N : Nat} {σ : qMem} {κ : Nat → Int32} {p : Nat} (hN : 200000 ≤ N) (hr : reckons σ.1 κ) (hp : p ≤ 60) : fX9_below N (zI p) σ = some (zI (lessN κ p)) := by
  suffices h : Ho (fX9_below N (zI p) σ) (fun v => v = zI (lessN κ p)) by
    obtain ⟨v, e, rfl⟩ := h
    exact e
  unfold fX9_below
  have hst := lp_for (S := Unit) (R := Int32) (fun n i _ => fX9_below_l4 N σ n (zI p) (zI ((lessN κ i.toNat : Nat) : Int)) (zI i)) (fun i _ => 0 ≤ i) (fun v => v = zI (lessN κ p)) p ?_ ?_ N 0 () (by omega) (by omega) (by omega)
  · have z : lessN κ (0 : Int).toNat = 0 := fb_ct_zero.mpr fun r _ => decide_eq_false (by show ¬ _ < 0; omega)
    rw [z] at hst
    exact hst
  · intro n _ _
    show Ho (fX9_below_s4 N _ _ _ _ _) _
    unfold fX9_below_s4
    have c : (zI (p : Int) ≤ zI (p : Int)) = True := by rw [zI_le (by omega) (by omega) (by omega) (by omega)]; exact eq_true (by omega)
    simp only [c, if_true]
    exact Ho_some rfl
  · intro n i _ hi i0 hc
    show Ho (fX9_below_s4 N _ _ _ _ _) _
    unfold fX9_below_s4
    have c : (zI (p : Int) ≤ zI i) = False := by rw [zI_le (by omega) (by omega) (by omega) (by omega)]; exact eq_false (by omega)
    have c2 : (64 ≤ zI i) = False := by rw [zl_64, zI_le (by omega) (by omega) (by omega) (by omega)]; exact eq_false (by omega)
    have cc : (ck (zI i) 64 = true) = True := zI_ckT (by omega) (by omega) (by omega)
    have z : (zI i).toNatClampNeg = i.toNat := zI_clamp (by omega) (by omega)
    have i1 : zI i + 1 = zI (i + 1) := zI_add i 1
    have g : gi σ 72 i.toNat = _ := hr.1 i.toNat (by omega)
    simp only [c, c2, if_false, cc, if_true, z, i1, g, nmI, zI_add]
    have := hc () (by omega)
    have e : lessN κ (i + 1).toNat = lessN κ i.toNat + fb_ct (fun r => decide (missR κ r = i.toNat)) 50176 := by
      unfold lessN
      rw [← sm_less, ← sm_less, show (i + 1).toNat = i.toNat + 1 by omega, fb_sm_succ]
    rw [e] at this
    exact this
theorem r_missingLess {N : Nat} {τ : qMem} {κ : Nat → Int32} {p : Nat} (hN : 200000 ≤ N) (hw : KW κ) (hm : missOK τ.1 κ) (hp : p ≤ 60) : fX12_missingLess N (zI p) τ = some (zI (lessN κ p)) := by
  suffices h : Ho (fX12_missingLess N (zI p) τ) (fun v => v = zI (lessN κ p)) by
    obtain ⟨v, e, rfl⟩ := h
    exact e
  unfold fX12_missingLess
  have hst := lp_for (S := Unit) (R := Int32) (fun n i _ => fX12_missingLess_l4 N τ n (zI p) (zI ((fb_ct (fun r => decide (missR κ r < p)) i.toNat : Nat) : Int)) (zI i)) (fun i _ => 0 ≤ i) (fun v => v = zI (lessN κ p)) 50176 ?_ ?_ N 0 () (by omega) (by omega) (by omega)
  · exact hst
  · intro n _ _
    show Ho (fX12_missingLess_s4 N _ _ _ _ _) _
    unfold fX12_missingLess_s4
    rw [if_pos (by decide)]
    exact Ho_some rfl
  · intro n i _ hi i0 hc
    show Ho (fX12_missingLess_s4 N _ _ _ _ _) _
    unfold fX12_missingLess_s4 fX12_missingLess_b26
    have c : (50176 ≤ zI i) = False := by rw [zl_50176, zI_le (by omega) (by omega) (by omega) (by omega)]; exact eq_false (by omega)
    have cc : (ck (zI i) 50176 = true) = True := zI_ckT (by omega) (by omega) (by omega)
    have z : (zI i).toNatClampNeg = i.toNat := zI_clamp (by omega) (by omega)
    have i1 : zI i + 1 = zI (i + 1) := zI_add i 1
    have g : gi τ 8 i.toNat = zI (missR κ i.toNat) := hm i.toNat (by omega)
    have m36 := missR_36 hw (κ := κ) i.toNat
    have d : (zI (p : Int) ≤ zI ((missR κ i.toNat : Nat) : Int)) = (p ≤ missR κ i.toNat) := by rw [zI_le (by omega) (by omega) (by omega) (by omega)]; exact propext ⟨fun h => by omega, fun h => by omega⟩
    simp only [c, if_false, cc, if_true, z, i1, g, d]
    have := hc () (by omega)
    rw [show (i + 1).toNat = i.toNat + 1 by omega, fb_ct_succ] at this
    by_cases q : p ≤ missR κ i.toNat
    · rw [decide_eq_false (by omega), if_neg (by decide)] at this
      rw [if_pos q, show (0 : Int32) = zI 0 from rfl, zI_add]
      exact this
    · rw [decide_eq_true (by omega), if_pos rfl] at this
      rw [if_neg q, show (1 : Int32) = zI 1 from rfl, zI_add]
      exact this
def leastIs (κ : Nat → Int32) (fr : Nat) : Prop := fr < 50176 ∧ (∀ r, r < 50176 → missR κ fr ≤ missR κ r) ∧ ∀ r, r < fr → missR κ fr < missR κ r
theorem leastIs_u {κ : Nat → Int32} {a b : Nat} (ha : leastIs κ a) (hb : leastIs κ b) : a = b := by
  obtain ⟨a1, a2, a3⟩ := ha
  obtain ⟨b1, b2, b3⟩ := hb
  have h1 := a2 b b1
  have h2 := b2 a a1
  rcases Nat.lt_trichotomy a b with h | h | h
  · have := b3 a h; omega
  · exact h
  · have := a3 b h; omega
noncomputable def leastV (κ : Nat → Int32) (fr : Nat) (m : Int) : Int := if m = 0 then missR κ fr else if m = 1 then lessN κ (missR κ fr + 1) else fr
theorem r_leastL {N : Nat} {τ : qMem} {κ : Nat → Int32} {m : Int} (hN : 200000 ≤ N) (hw : KW κ) (hm : missOK τ.1 κ) (m0 : 0 ≤ m) (m1 : m ≤ 2) : Ho (fX12_least_l19 N N (zI m) 0 1 τ) (fun a => ∃ fr, leastIs κ fr ∧ a = (zI (leastV κ fr m), τ)) := by
  have m36 := fun r => missR_36 hw (κ := κ) r
  have hst := lp_for (S := Nat) (R := Int32 × qMem) (fun n i s => fX12_least_l19 N n (zI m) (zI s) (zI i) τ) (fun i s => 1 ≤ i ∧ (s : Int) < i ∧ (∀ r : Nat, (r : Int) < i → missR κ s ≤ missR κ r) ∧ ∀ r, r < s → missR κ s < missR κ r) (fun a => ∃ fr, leastIs κ fr ∧ a = (zI (leastV κ fr m), τ)) 50176 ?_ ?_ N 1 0 (by omega) (by omega) ⟨by omega, by omega, fun r hr => by rw [show r = 0 by omega]; exact Nat.le_refl _, fun r hr => by omega⟩
  · exact hst
  · intro n s ⟨_, h0, h1, h2⟩
    show Ho (fX12_least_s19 N _ _ _ _ _) _
    unfold fX12_least_s19
    rw [if_pos (by decide)]
    have cc : (ck (zI (s : Int)) 50176 = true) = True := zI_ckT (by omega) (by omega) (by omega)
    have z : (zI (s : Int)).toNatClampNeg = s := by rw [zI_clamp (by omega) (by omega)]; rfl
    have g : gi τ 8 s = zI (missR κ s) := hm s (by omega)
    have c0 : (zI m = 0) = (m = 0) := by rw [show (0 : Int32) = zI 0 from rfl, zI_eq (by omega) (by omega) (by omega) (by omega)]
    have c1 : (zI m = 1) = (m = 1) := by rw [show (1 : Int32) = zI 1 from rfl, zI_eq (by omega) (by omega) (by omega) (by omega)]
    have ml : fX12_missingLess N (zI ((missR κ s : Nat) : Int) + 1) τ = some (zI (lessN κ (missR κ s + 1))) := by
      have e : zI ((missR κ s : Nat) : Int) + 1 = zI ((missR κ s + 1 : Nat) : Int) := by rw [show (1 : Int32) = zI 1 from rfl, zI_add]; congr 1
      rw [e]
      exact r_missingLess hN hw hm (by have := m36 s; omega)
    simp only [cc, if_true, z, g, c0, c1, ml, Option.bind_some]
    have hl : leastIs κ s := ⟨by omega, fun r hr => h1 r (by omega), h2⟩
    refine Ho_mono (P := fun a => a = (zI (leastV κ s m), τ)) ?_ (fun a ha => ⟨s, hl, ha⟩)
    unfold leastV
    by_cases q0 : m = 0
    · rw [if_pos q0, if_pos q0]; exact Ho_some rfl
    · rw [if_neg q0, if_neg q0]
      by_cases q1 : m = 1
      · rw [if_pos q1, if_pos q1]; exact Ho_some rfl
      · rw [if_neg q1, if_neg q1]; exact Ho_some rfl
  · intro n i s hi ⟨i0, h0, h1, h2⟩ hc
    show Ho (fX12_least_s19 N _ _ _ _ _) _
    unfold fX12_least_s19 fX12_least_b42
    have c : (50176 ≤ zI i) = False := by rw [zl_50176, zI_le (by omega) (by omega) (by omega) (by omega)]; exact eq_false (by omega)
    have cc : (ck (zI (s : Int)) 50176 = true) = True := zI_ckT (by omega) (by omega) (by omega)
    have z : (zI (s : Int)).toNatClampNeg = s := by rw [zI_clamp (by omega) (by omega)]; rfl
    have g : gi τ 8 s = zI (missR κ s) := hm s (by omega)
    have cci : (ck (zI i) 50176 = true) = True := zI_ckT (by omega) (by omega) (by omega)
    have zi : (zI i).toNatClampNeg = i.toNat := zI_clamp (by omega) (by omega)
    have gi' : gi τ 8 i.toNat = zI (missR κ i.toNat) := hm i.toNat (by omega)
    have i1 : zI i + 1 = zI (i + 1) := zI_add i 1
    have ma := m36 s
    have mb := m36 i.toNat
    have d : (zI ((missR κ s : Nat) : Int) ≤ zI ((missR κ i.toNat : Nat) : Int)) = (missR κ s ≤ missR κ i.toNat) := by rw [zI_le (by omega) (by omega) (by omega) (by omega)]; exact propext ⟨fun h => by omega, fun h => by omega⟩
    simp only [c, if_false, cc, cci, if_true, z, zi, g, gi', d, i1]
    by_cases q : missR κ s ≤ missR κ i.toNat
    · rw [if_pos q]
      refine hc s ⟨by omega, by omega, fun r hr => ?_, h2⟩
      by_cases e : r = i.toNat
      · rw [e]; exact q
      · exact h1 r (by omega)
    · rw [if_neg q]
      have e : zI i = zI ((i.toNat : Nat) : Int) := by congr 1; omega
      have := hc i.toNat ⟨by omega, by omega, fun r hr => ?_, fun r hr => ?_⟩
      · rw [← e] at this
        exact this
      · by_cases e : r = i.toNat
        · rw [e]; exact Nat.le_refl _
        · have := h1 r (by omega); omega
      · have := h1 r (by omega); omega
theorem b_least {LW : LWt} {c N : Nat} {σ τ : qMem} (hN : 200000 ≤ N) (hLW : LWc LW) (h : Inv LW c σ τ) (p1 : Int32) : Both LW c (fX11_least N p1 σ) (fX12_least N p1 τ) := by
  obtain ⟨m, l1, u1, rfl⟩ := zI_ex p1
  have i2 : fX11_isIn (zI m) 0 2 = some (bI (decide (0 ≤ m ∧ m ≤ 2))) := e_isIn (b := 0) (c := 2) l1 u1 (by omega) (by omega) (by omega) (by omega)
  have j2 : fX12_in (zI m) 0 2 = some (bI (decide (0 ≤ m ∧ m ≤ 2))) := e_in (b := 0) (c := 2) l1 u1 (by omega) (by omega) (by omega) (by omega)
  unfold fX11_least fX12_least
  simp only [i2, j2, Option.bind_some, if_bI, decide_eq_true_eq]
  by_cases q : 0 ≤ m ∧ m ≤ 2
  · rw [if_pos q, if_pos q]
    have kw := Inv_KW h
    have hC : Ho ((fX9_reckon N σ).bind fun y2 => (if zI m = 0 then (some ((gi y2 68 6), y2)) else (if zI m = 1 then ((fX9_below N ((gi y2 68 6) + 1) y2).bind fun y5 => (some (y5, y2))) else (some ((gi y2 68 7), y2))))) (fun a => ∃ fr, leastIs (τ.1 2) fr ∧ a.1 = zI (leastV (τ.1 2) fr m) ∧ SC σ a.2 ∧ CC a.2.1 (τ.1 2)) := by
      refine Ho_bind (e_reckon hN (Inv_CI h)) fun s ⟨w1, w2, w3⟩ => ?_
      have w3' := w3
      obtain ⟨_, f, fr, e6, e7, f1, f2, f3, f4⟩ := w3'
      subst f2
      have e6' : gi s 68 6 = _ := e6
      have e7' : gi s 68 7 = _ := e7
      have m36 := missR_36 kw fr
      have c0 : (zI m = 0) = (m = 0) := by rw [show (0 : Int32) = zI 0 from rfl, zI_eq (by omega) (by omega) (by omega) (by omega)]
      have c1 : (zI m = 1) = (m = 1) := by rw [show (1 : Int32) = zI 1 from rfl, zI_eq (by omega) (by omega) (by omega) (by omega)]
      have ml : fX9_below N (zI ((missR (τ.1 2) fr : Nat) : Int) + 1) s = some (zI (lessN (τ.1 2) (missR (τ.1 2) fr + 1))) := by
        have e : zI ((missR (τ.1 2) fr : Nat) : Int) + 1 = zI ((missR (τ.1 2) fr + 1 : Nat) : Int) := by rw [show (1 : Int32) = zI 1 from rfl, zI_add]; congr 1
        rw [e]
        exact e_below hN w3 (by omega)
      simp only [e6', e7', c0, c1, ml, Option.bind_some]
      refine Ho_mono (P := fun a => a = (zI (leastV (τ.1 2) fr m), s)) ?_ (fun a ha => ⟨fr, ⟨f1, f3, f4⟩, by rw [ha], by rw [ha]; exact w2, by rw [ha]; exact w1.2.2.2⟩)
      unfold leastV
      by_cases q0 : m = 0
      · rw [if_pos q0, if_pos q0]; exact Ho_some rfl
      · rw [if_neg q0, if_neg q0]
        by_cases q1 : m = 1
        · rw [if_pos q1, if_pos q1]; exact Ho_some rfl
        · rw [if_neg q1, if_neg q1]; exact Ho_some rfl
    obtain ⟨a, ea, fr, hfr, ev, esc, ecc⟩ := hC
    refine both_q (v := zI (leastV (τ.1 2) fr m)) hLW h ⟨a, ea, ev, esc, ecc⟩ ?_
    refine Ho_bind (r_judges hN rfl kw (Inv_RC h) (Inv_v h)) fun t ⟨w1, w2, w3, w4⟩ => ?_
    refine Ho_mono (r_leastL hN kw w3 q.1 q.2) fun b ⟨fr', hf', eb⟩ => ?_
    rw [eb, leastIs_u hf' hfr]
    exact ⟨rfl, w1, w2⟩
  · rw [if_neg q, if_neg q]
    exact both_same hLW h _
theorem b_better {LW : LWt} {c N : Nat} {σ τ : qMem} (hN : 200000 ≤ N) (hLW : LWc LW) (h : Inv LW c σ τ) (p1 : Int32) : Both LW c (fX11_better N p1 σ) (fX12_better N p1 τ) := by
  obtain ⟨g, l1, u1, rfl⟩ := zI_ex p1
  have kw := Inv_KW h
  have ci := Inv_CI h
  have kg := kw.2.2.2.2.2.2.1
  obtain ⟨bs, bk, _, _⟩ := ci
  have r27 := bk.2.2.2.2.2.2.2.2.1
  have s27 : gi σ 27 0 = zI 4 := bs.2.2.2.2.2.2.1.1
  have n27 : gi σ 27 3 = zI (kI (τ.1 2) 309) := r27.1.trans (zI_of _).symm
  have n309 : gi τ 2 309 = zI (kI (τ.1 2) 309) := (zI_of _).symm
  have nb : 0 ≤ kI (τ.1 2) 309 ∧ kI (τ.1 2) 309 ≤ 8 := kg.1
  generalize hn : kI (τ.1 2) 309 = n at *
  have hi : fX11_isIn (zI g) 0 (zI n - 1) = some (bI (decide (0 ≤ g ∧ g ≤ n - 1))) := by
    rw [show (1 : Int32) = zI 1 from rfl, zI_sub, show (0 : Int32) = zI 0 from rfl]
    exact e_isIn l1 u1 (by omega) (by omega) (by omega) (by omega)
  have hj : fX12_in (zI g) 0 (zI n - 1) = some (bI (decide (0 ≤ g ∧ g ≤ n - 1))) := by
    rw [show (1 : Int32) = zI 1 from rfl, zI_sub, show (0 : Int32) = zI 0 from rfl]
    exact e_in l1 u1 (by omega) (by omega) (by omega) (by omega)
  have ck0 : (ck (309 : Int32) 1112 = true) = True := by decide
  have z309 : (309 : Int32).toNatClampNeg = 309 := rfl
  unfold fX11_better fX12_better
  simp only [n27, hi, ck0, if_true, z309, n309, hj, Option.bind_some, if_bI, decide_eq_true_eq]
  by_cases q : 0 ≤ g ∧ g ≤ n - 1
  · rw [if_pos q, if_pos q]
    obtain ⟨v1, v2, v3, v4⟩ := kg.2 g q.1 (by omega)
    have kc : ∀ j : Nat, j < 4 → τ.1 2 (268 + 4 * g.toNat + j) = zI (kI (τ.1 2) (268 + 4 * g + j)) := by
      intro j hj
      unfold kI
      rw [show (268 + 4 * g + (j : Int)).toNat = 268 + 4 * g.toNat + j by omega]
      exact (zI_of _).symm
    have k0 := kc 0 (by omega)
    have k1 := kc 1 (by omega)
    have k2 := kc 2 (by omega)
    have k3 := kc 3 (by omega)
    have m36 := missBest_36 kw (kI (τ.1 2) (268 + 4 * g)) (kI (τ.1 2) (268 + 4 * g + 1)) (kI (τ.1 2) (268 + 4 * g + 2)) (kI (τ.1 2) (268 + 4 * g + 3))
    refine both_q (v := zI (lessN (τ.1 2) (missBest (τ.1 2) (kI (τ.1 2) (268 + 4 * g)) (kI (τ.1 2) (268 + 4 * g + 1)) (kI (τ.1 2) (268 + 4 * g + 2)) (kI (τ.1 2) (268 + 4 * g + 3))))) hLW h ?_ ?_
    · refine Ho_bind (e_reckon hN (Inv_CI h)) fun s ⟨w1, w2, w3⟩ => ?_
      have fr : ∀ k j, k = 27 ∨ k = 28 → gi s k j = gi σ k j := fun k j hk => w2 k j (by unfold scrC; omega)
      have at' : ∀ j : Nat, j < 4 → fX8_at 27 32 (zI g) (zI (j : Nat)) s = some (τ.1 2 (268 + 4 * g.toNat + j)) := by
        intro j hj
        rw [e_at (w := 4) (s := n) (by rw [fr 27 0 (Or.inl rfl)]; exact s27) (by rw [fr 27 3 (Or.inl rfl)]; exact n27) q.1 (by omega) (by omega) (by omega) (by omega) (by omega) (by omega)]
        rw [fr 28 _ (Or.inr rfl)]
        have := r27.2 (g * 4 + (j : Int)).toNat (by omega)
        refine congrArg some (this.trans ?_)
        rw [show 268 + (g * 4 + (j : Int)).toNat = 268 + 4 * g.toNat + j by omega]
      have a0 := at' 0 (by omega)
      have a1 := at' 1 (by omega)
      have a2 := at' 2 (by omega)
      have a3 := at' 3 (by omega)
      rw [k0] at a0
      rw [k1] at a1
      rw [k2] at a2
      rw [k3] at a3
      rw [show fX8_at 27 32 (zI g) 0 s = _ from a0, Option.bind_some, show fX8_at 27 32 (zI g) 1 s = _ from a1, Option.bind_some, show fX8_at 27 32 (zI g) 2 s = _ from a2, Option.bind_some, show fX8_at 27 32 (zI g) 3 s = _ from a3, Option.bind_some]
      rw [show (268 + 4 * g + ((0 : Nat) : Int)) = 268 + 4 * g by omega]
      refine Ho_bind (e_missesOf hN w1 v1.1 v1.2 v2.1 v2.2 v3.1 v3.2 v4.1 v4.2) fun a ⟨x1, x2, x3, x4⟩ => ?_
      have rk : reckons a.2.1 (τ.1 2) := by
        obtain ⟨z1, f, fr', z2, z3, z4⟩ := w3
        exact ⟨fun k hk => (x4 72 k (Or.inr rfl)).trans (z1 k hk), f, fr', (x4 68 6 (Or.inl rfl)).trans z2, (x4 68 7 (Or.inl rfl)).trans z3, z4⟩
      rw [x1, e_below hN rk (Nat.le_trans (missBest_36 kw _ _ _ _) (by omega)), Option.bind_some]
      exact Ho_some ⟨rfl, SC_trans w2 x2, x3.2.2.2⟩
    · refine Ho_bind (r_judges hN rfl kw (Inv_RC h) (Inv_v h)) fun t ⟨w1, w2, w3, w4⟩ => ?_
      have e0 : 268 + 4 * zI g = zI (268 + 4 * g) := by rw [show (268 : Int32) = zI 268 from rfl, show (4 : Int32) = zI 4 from rfl, zI_mul, zI_add]
      have ad : ∀ j : Nat, j < 4 → (ck (zI (268 + 4 * g + j)) 1112 = true) = True ∧ gi t 2 (zI (268 + 4 * g + j)).toNatClampNeg = zI (kI (τ.1 2) (268 + 4 * g + j)) := by
        intro j hj
        refine ⟨zI_ckT (by omega) (by omega) (by omega), ?_⟩
        rw [zI_clamp (by omega) (by omega), show (268 + 4 * g + (j : Int)).toNat = 268 + 4 * g.toNat + j by omega]
        have : gi t 2 (268 + 4 * g.toNat + j) = τ.1 2 (268 + 4 * g.toNat + j) := w1 2 _ (by unfold scrM; omega)
        rw [this]
        exact kc j hj
      have d0 := ad 0 (by omega)
      have d1 := ad 1 (by omega)
      have d2 := ad 2 (by omega)
      have d3 := ad 3 (by omega)
      rw [show (268 + 4 * g + ((0 : Nat) : Int)) = 268 + 4 * g by omega] at d0
      have f1 : zI (268 + 4 * g) + 1 = zI (268 + 4 * g + ((1 : Nat) : Int)) := zI_add _ 1
      have f2 : zI (268 + 4 * g) + 2 = zI (268 + 4 * g + ((2 : Nat) : Int)) := zI_add _ 2
      have f3 : zI (268 + 4 * g) + 3 = zI (268 + 4 * g + ((3 : Nat) : Int)) := zI_add _ 3
      simp only [e0, f1, f2, f3, d0.1, d1.1, d2.1, d3.1, if_true, d0.2, d1.2, d2.2, d3.2]
      have hrs : RS t (τ.1 2) t := RS_refl w2.2.2.2.1
      refine Ho_bind (r_missedBest hN (SM_κ w1) kw w4 hrs v1.1 v1.2 v2.1 v2.2 v3.1 v3.2 v4.1 v4.2) fun a ⟨x1, x2⟩ => ?_
      obtain ⟨y1, y2⟩ := RS_RC x1 w2 (Inv_v2 w1 (Inv_v h))
      have hm : missOK a.2.1 (τ.1 2) := fun r hr => (x1.1 8 r (by omega) (by omega)).trans (w3 r hr)
      rw [x2, r_missingLess hN kw hm (Nat.le_trans (missBest_36 kw _ _ _ _) (by omega)), Option.bind_some]
      exact Ho_some ⟨rfl, SM_trans w1 y2, y1⟩
  · rw [if_neg q, if_neg q]
    exact both_same hLW h _
