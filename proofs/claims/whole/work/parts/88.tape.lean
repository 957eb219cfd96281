/-! the tape: end -/
def tapeR (σ τ : qMem) : Prop := gi σ 0 10 = gi τ 0 28 ∧ 0 ≤ (gi τ 0 28).toInt ∧ (gi τ 0 28).toInt ≤ 400 ∧ ∀ j : Nat, (j : Int) < (gi τ 0 28).toInt → gi τ 18 j = (gi τ 18 j).toInt8.toInt32 ∧ gi σ 86 j = gi τ 18 j &&& 255
theorem Inv_tape {LW : LWt} {c : Nat} {σ τ σ' τ' : qMem} (hLW : LWc LW) (h : Inv LW c σ τ) (oσ : ∀ k j, ¬ ((k = 0 ∧ j = 10) ∨ k = 86) → gi σ' k j = gi σ k j) (oτ : ∀ k j, ¬ ((k = 0 ∧ j = 28) ∨ k = 18 ∨ k = 19) → gi τ' k j = gi τ k j) (ht : tapeR σ' τ') : Inv LW (c + 1) σ' τ' := by
  obtain ⟨v, s1, s2, s3, s4, b1, k1, l1, im, tp, ms, rf, cc, rc, wo⟩ := h
  have eκ : τ'.1 2 = τ.1 2 := funext fun j => oτ 2 j (by omega)
  have e3 : ∀ k, imK τ'.1 k = imK τ.1 k := fun k => funext fun j => oτ 3 _ (by omega)
  refine ⟨?_, ?_, ?_, ?_, ?_, ?_, ?_, ?_, fun k hk2 => ?_, ht, ?_, ?_, ?_, ?_, ?_⟩
  · rw [oτ 0 2 (by omega)]; omega
  · rw [bookS_d (m := σ.1) (m' := σ'.1) (fun k j q1 q2 => oσ k j (by omega))]; exact s1
  · rw [bookS_d (m := σ.1) (m' := σ'.1) (fun k j q1 q2 => oσ k j (by omega))]; exact s2
  · rw [bookS_d (m := σ.1) (m' := σ'.1) (fun k j q1 q2 => oσ k j (by omega))]; exact s3
  · exact ⟨(oσ 79 0 (by omega)).trans s4.1, (oσ 79 1 (by omega)).trans s4.2⟩
  · rw [eκ, bookK_c (m := σ.1) (m' := σ'.1) (fun k j q1 q2 q3 q4 => oσ k j (by omega))]; exact b1
  · rw [eκ]; exact k1
  · rw [eκ]; exact hLW _ _ _ _ _ _ (lawE_c (fun k j h1 h2 _ => oσ k j (by omega))) (fun _ _ _ => rfl) l1
  · have := im k hk2
    rw [oσ 43 k (by omega), oτ 4 k (by omega), e3]
    refine ⟨this.1, fun z => ?_⟩
    obtain ⟨p, q, r⟩ := this.2 z
    refine ⟨?_, q, ?_⟩
    · rw [bookK_c (m := σ.1) (m' := σ'.1) (fun i j h1 h2 _ _ => oσ i j (by omega))]; exact p
    · exact hLW _ _ _ _ _ _ (lawE_c (fun i j h1 h2 _ => oσ i j (by omega))) (fun _ _ _ => rfl) r
  · rw [oσ 0 11 (by omega), oσ 0 12 (by omega), oσ 0 13 (by omega), oτ 0 29 (by omega), oτ 0 8 (by omega), oτ 0 0 (by omega)]
    exact ms
  · rw [oσ 87 0 (by omega), oσ 87 1 (by omega), oσ 87 2 (by omega), oσ 87 3 (by omega), oσ 87 4 (by omega), oτ 1 1 (by omega), oτ 1 2 (by omega), oτ 1 3 (by omega), oτ 1 5 (by omega), oτ 1 6 (by omega)]
    exact rf
  · rw [eκ]; exact CC_c (m := σ.1) (m' := σ'.1) (fun k j hh => oσ k j (by omega)) cc
  · rw [eκ]; exact RC_c (t := τ.1) (t' := τ'.1) (fun k j hh => oτ k j (by omega)) rc
  · intro j x hx
    rw [oτ 17 j (by omega)]
    exact wo j x hx
theorem Inv_tp {LW : LWt} {c : Nat} {σ τ : qMem} (h : Inv LW c σ τ) : tapeR σ τ := h.2.2.2.2.2.2.2.2.2.1
theorem b_end {LW : LWt} {c : Nat} {σ τ : qMem} (hLW : LWc LW) (h : Inv LW c σ τ) (p1 : Int32) : Both LW c (fX11_end p1 σ) (fX12_end p1 τ) := by
  obtain ⟨a, l1, u1, rfl⟩ := zI_ex p1
  obtain ⟨t1, t2, t3, t4⟩ := Inv_tp h
  have en : gi τ 0 28 = zI (gi τ 0 28).toInt := (zI_of _).symm
  unfold fX11_end fX12_end
  rw [t1]
  generalize hn : (gi τ 0 28).toInt = n at *
  have i2 : fX11_isIn (zI a) 0 (gi τ 0 28) = some (bI (decide (0 ≤ a ∧ a ≤ n))) := by rw [en]; exact e_isIn (b := 0) l1 u1 (by omega) (by omega) (by omega) (by omega)
  have j2 : fX12_in (zI a) 0 (gi τ 0 28) = some (bI (decide (0 ≤ a ∧ a ≤ n))) := by rw [en]; exact e_in (b := 0) l1 u1 (by omega) (by omega) (by omega) (by omega)
  rw [i2, j2, Option.bind_some, Option.bind_some, if_bI, if_bI]
  by_cases q : 0 ≤ a ∧ a ≤ n
  · rw [decide_eq_true q, if_pos rfl, if_pos rfl]
    refine ⟨zI a, si σ 0 10 (zI a), si τ 0 28 (zI a), rfl, rfl, Inv_tape hLW h (fun k j hk => by rw [gi_si, if_neg (by omega)]) (fun k j hk => by rw [gi_si, if_neg (by omega)]) ?_⟩
    have g : gi (si τ 0 28 (zI a)) 0 28 = zI a := by rw [gi_si, if_pos ⟨rfl, rfl⟩]
    have g' : gi (si σ 0 10 (zI a)) 0 10 = zI a := by rw [gi_si, if_pos ⟨rfl, rfl⟩]
    unfold tapeR
    rw [g, g', zI_toInt (by omega) (by omega)]
    refine ⟨rfl, by omega, by omega, fun j hj => ?_⟩
    rw [gi_si, if_neg (by omega), gi_si, if_neg (by omega)]
    exact t4 j (by omega)
  · rw [decide_eq_false q, if_neg (by decide), if_neg (by decide)]
    exact both_same hLW h _
