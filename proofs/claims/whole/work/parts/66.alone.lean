/-! alone -/
theorem Inv_v2 {τ t : qMem} (h : SM τ t) (hv : 0 ≤ (gi τ 0 2).toInt) : 0 ≤ (gi t 0 2).toInt := by rw [h 0 2 (by unfold scrM; omega)]; exact hv
theorem b_alone {LW : LWt} {c N : Nat} {σ τ : qMem} (hN : 200000 ≤ N) (hLW : LWc LW) (h : Inv LW c σ τ) (p1 p2 : Int32) : Both LW c (fX11_alone N p1 p2 σ) (fX12_alone N p1 p2 τ) := by
  obtain ⟨a1, l1, u1, rfl⟩ := zI_ex p1
  obtain ⟨a2, l2, u2, rfl⟩ := zI_ex p2
  have i2 : fX11_isIn (zI a2) 0 1 = some (bI (decide (0 ≤ a2 ∧ a2 ≤ 1))) := e_isIn (b := 0) (c := 1) l2 u2 (by omega) (by omega) (by omega) (by omega)
  have j2 : fX12_in (zI a2) 0 1 = some (bI (decide (0 ≤ a2 ∧ a2 ≤ 1))) := e_in (b := 0) (c := 1) l2 u2 (by omega) (by omega) (by omega) (by omega)
  unfold fX11_alone fX12_alone
  simp only [e_isBell l1 u1, r_isBell l1 u1, i2, j2, Option.bind_some, if_bI, decide_eq_true_eq]
  by_cases q1 : 0 ≤ a1 ∧ a1 ≤ 23
  · rw [if_pos q1, if_pos q1]
    by_cases q2 : 0 ≤ a2 ∧ a2 ≤ 1
    · rw [if_pos q2, if_pos q2]
      have le := fit_le (τ.1 2)
      refine both_q (v := if fb_ct (fitR (τ.1 2)) 50176 = 0 then -1000 else if zI (spanV (τ.1 2) a1 0) = zI (spanV (τ.1 2) a1 1) then (if zI (spanV (τ.1 2) a1 2) = zI (spanV (τ.1 2) a1 3) then zI (spanV (τ.1 2) a1 (2 * a2)) else -1000) else -1000) hLW h ?_ ?_
      · refine Ho_bind (e_plot hN (Inv_CI h)) fun s ⟨w1, w2, w3, _⟩ => ?_
        have g : gi s 44 14 = zI (fb_ct (fitR (τ.1 2)) 50176) := w3.2
        have c : (zI ((fb_ct (fitR (τ.1 2)) 50176 : Nat) : Int) = 0) = (fb_ct (fitR (τ.1 2)) 50176 = 0) := by
          rw [show (0 : Int32) = zI 0 from rfl, zI_eq (by omega) (by omega) (by omega) (by omega)]
          exact propext ⟨fun h => by omega, fun h => by omega⟩
        simp only [g, c]
        by_cases z : fb_ct (fitR (τ.1 2)) 50176 = 0
        · rw [if_pos z, if_pos z]
          exact Ho_some ⟨rfl, w2, w1.2.2.2⟩
        · rw [if_neg z, if_neg z]
          have z' : 0 < fb_ct (fitR (τ.1 2)) 50176 := by omega
          have f0 : fX3_edge N (zI a1) 0 s = _ := e_edge (m := 0) hN w3 q1.1 q1.2 (by omega) (by omega) z'
          have f1 : fX3_edge N (zI a1) 1 s = _ := e_edge (m := 1) hN w3 q1.1 q1.2 (by omega) (by omega) z'
          have f2 : fX3_edge N (zI a1) 2 s = _ := e_edge (m := 2) hN w3 q1.1 q1.2 (by omega) (by omega) z'
          have f3 : fX3_edge N (zI a1) 3 s = _ := e_edge (m := 3) hN w3 q1.1 q1.2 (by omega) (by omega) z'
          have c2 : (zI a2 = 0) = (a2 = 0) := by rw [show (0 : Int32) = zI 0 from rfl, zI_eq (by omega) (by omega) (by omega) (by omega)]
          simp only [f0, f1, f2, f3, Option.bind_some, c2]
          by_cases e1 : zI (spanV (τ.1 2) a1 0) = zI (spanV (τ.1 2) a1 1)
          · rw [if_pos e1, if_pos e1]
            by_cases e2 : zI (spanV (τ.1 2) a1 2) = zI (spanV (τ.1 2) a1 3)
            · rw [if_pos e2, if_pos e2]
              by_cases e3 : a2 = 0
              · rw [if_pos e3, e3]
                exact Ho_some ⟨rfl, w2, w1.2.2.2⟩
              · rw [if_neg e3, show a2 = 1 by omega]
                exact Ho_some ⟨rfl, w2, w1.2.2.2⟩
            · rw [if_neg e2, if_neg e2]
              exact Ho_some ⟨rfl, w2, w1.2.2.2⟩
          · rw [if_neg e1, if_neg e1]
            exact Ho_some ⟨rfl, w2, w1.2.2.2⟩
      · have kw := Inv_KW h
        rw [show 2 * zI a2 = zI (2 * a2) from zI_mul 2 a2]
        refine Ho_bind (r_span hN rfl kw (Inv_RC h) (Inv_v h) q1.1 q1.2 (by omega) (by omega)) fun y3 ⟨x1, x2, x3, _⟩ => ?_
        have v3 := Inv_v2 x2 (Inv_v h)
        refine Ho_bind (r_span (m := 0) hN (SM_κ x2) kw x3 v3 q1.1 q1.2 (by omega) (by omega)) fun y4 ⟨x4, x5, x6, _⟩ => ?_
        have s4 := SM_trans x2 x5
        refine Ho_bind (r_span (m := 1) hN (SM_κ s4) kw x6 (Inv_v2 s4 (Inv_v h)) q1.1 q1.2 (by omega) (by omega)) fun y5 ⟨x7, x8, x9, x10⟩ => ?_
        have s5 := SM_trans s4 x8
        have b63 : ∀ t : qMem, SM τ t → RC t.1 (τ.1 2) → gi t 0 12 = zI (fb_ct (fitR (τ.1 2)) 50176) → Ho (fX12_alone_b63 N y3.1 t) (fun a => a.1 = -1000 ∧ SM τ a.2 ∧ RC a.2.1 (τ.1 2)) := by
          intro t k1 k2 k3
          unfold fX12_alone_b63 fX12_alone_b64 fX12_alone_b82
          by_cases k : gi t 0 12 ≤ 0
          · rw [if_pos k]; exact Ho_some ⟨rfl, k1, k2⟩
          · rw [if_neg k, if_pos rfl]; exact Ho_some ⟨rfl, k1, k2⟩
        rw [x4, x7]
        by_cases e1 : zI (spanV (τ.1 2) a1 0) = zI (spanV (τ.1 2) a1 1)
        · rw [if_pos e1, if_pos e1]
          refine Ho_bind (r_span (m := 2) hN (SM_κ s5) kw x9 (Inv_v2 s5 (Inv_v h)) q1.1 q1.2 (by omega) (by omega)) fun y6 ⟨x11, x12, x13, _⟩ => ?_
          have s6 := SM_trans s5 x12
          refine Ho_bind (r_span (m := 3) hN (SM_κ s6) kw x13 (Inv_v2 s6 (Inv_v h)) q1.1 q1.2 (by omega) (by omega)) fun y7 ⟨x14, x15, x16, x17⟩ => ?_
          have s7 := SM_trans s6 x15
          rw [x11, x14]
          by_cases e2 : zI (spanV (τ.1 2) a1 2) = zI (spanV (τ.1 2) a1 3)
          · rw [if_pos e2, if_pos e2]
            unfold fX12_alone_b64 fX12_alone_b82
            have c : (gi y7.2 0 12 ≤ 0) = (fb_ct (fitR (τ.1 2)) 50176 = 0) := by
              rw [x17, show (0 : Int32) = zI 0 from rfl, zI_le (by omega) (by omega) (by omega) (by omega)]
              exact propext ⟨fun h => by omega, fun h => by omega⟩
            simp only [c]
            by_cases z : fb_ct (fitR (τ.1 2)) 50176 = 0
            · rw [if_pos z, if_pos z]
              exact Ho_some ⟨rfl, s7, x16⟩
            · rw [if_neg z, if_neg z, if_neg (by decide)]
              exact Ho_some ⟨x1, s7, x16⟩
          · rw [if_neg e2, if_neg e2, ite_self]
            exact b63 _ s7 x16 x17
        · rw [if_neg e1, if_neg e1, ite_self]
          exact b63 _ s5 x9 x10
    · rw [if_neg q2, if_neg q2]
      exact both_same hLW h _
  · rw [if_neg q1, if_neg q1]
    exact both_same hLW h _
